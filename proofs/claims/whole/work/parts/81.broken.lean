/-! CALLS: broken, feed -/
section broken
variable {l m m' : q_Mem} {o : Int → Int} {x z n ft pl : Int} {L X : Int → Int → Int} {F T : Int → Int}
theorem s_isCell (hk : k_ok l o) (hc : k_C l o m) {v : Int} (hv : q_32 v) : f_PG_isCell v m = some (if 0 ≤ v ∧ v < g_cc l (o 2) (o 3) then 1 else 0, m) := by
  have hcc := g_cc_rg hk
  have h10 : m 60 10 = g_cc l (o 2) (o 3) := by rw [g_cc_eq hk.1 hk.2.2.1]; exact hc.2.2.2.1.2.2.2.2.2.2.2.1
  have hv' := hv
  unfold q_32 at hv'
  unfold f_PG_isCell
  rw [h10]
  simp (disch := omega) only [x_bd, x_rt, x_pf, x_lt, x_fi, x_rz0, x_rz1, x_rzi, x_pz0, x_pz1, x_rd, x_wr, x_wrz, x_dv, x_md, q_w_id, x_wi, x_i0, x_i1, x_max, x_min, x_abs, ↓reduceIte, Int.reduceEq, Int.reduceLT, Int.reduceLE, Int.reduceNeg, if_true, if_false]
  grind
theorem s_isCellM (hk : k_ok l o) (hm : k_M l o m) {v : Int} (hv : q_32 v) : ∃ m1, f_Mod_isCell v m = some (if 0 ≤ v ∧ v < g_cc l (o 2) (o 3) then 1 else 0, m1) ∧ k_fm m m1 ∧ k_M l o m1 := by
  have hcc := g_cc_rg hk
  obtain ⟨_, m1, e1, f1, k1, q1, _⟩ := s_layNow hk hm
  have h54 : m1 81 54 = g_cc l (o 2) (o 3) := by rw [g_cc_eq hk.1 hk.2.2.1]; exact q1.2.2.2.1
  refine ⟨m1, ?_, f1, k1⟩
  unfold f_Mod_isCell
  rw [e1, x_bd, h54, m_isIn hv (by omega) (by omega), x_bd, x_rzi]
  by_cases c : 0 ≤ v ∧ v < g_cc l (o 2) (o 3)
  · rw [if_pos c, if_pos (by omega)]
  · rw [if_neg c, if_neg (by omega)]
theorem g_cc_55 (hk : k_ok l o) : g_cc l (o 2) (o 3) ≤ 55 := by
  rw [k_cc hk.1 hk.2.2.1.1 hk.2.2.1.2.1]
  exact (g_cnt_rg _ 55).2
theorem a_broken {v y : Int} (hv : q_32 v) (hy : y = 0 ∨ y = 1) : j_op (f_PG_broken v y) (f_Mod_broken v y) := by
  refine j_op_of fun l x z L F X n T ft pl m hk hc hm => ?_
  have hkx := j_now hk
  have hxr := j_x_rg hk.1
  have hL := j_L_ok hk.1 hk.2.1
  have hx20 : x ≤ 20 := by have := hk.1; omega
  have h55 := g_cc_55 hkx
  have hy' : q_w y = y := by rcases hy with rfl | rfl <;> rfl
  by_cases c : 0 ≤ v ∧ v < g_cc l (L x 2) (L x 3)
  · have v0 : 0 ≤ v := c.1
    have v1 : v < 64 := by omega
    have dec := Classical.propDecidable (f_un (L x 5) v)
    have hcC : f_Layo_isBroken (m 29 (m 28 1)) v m = some (if f_un (L x 5) v then 0 else 1, m) := by
      unfold f_Layo_isBroken
      rw [hc.1.2.1.2.2 5 (by decide) (by decide)]
      by_cases cu : f_un (L x 5) v
      · rw [if_pos cu]
        unfold f_un at cu
        rw [if_pos cu, x_rz0]
      · rw [if_neg cu]
        unfold f_un at cu
        rw [if_neg cu, x_rz1]
    have hcM : ∀ m1, k_M l (L x) m1 → f_Mod_isBroken v m1 = some (if f_un (L x 5) v then 0 else 1, m1) := by
      intro m1 hm1
      have hr := hm1.2.2.2 v v0 v1
      unfold f_Mod_isBroken
      rw [x_rd (n := 69) (by omega) (by omega) (by decide)]
      by_cases cu : f_un (L x 5) v
      · rw [if_pos cu, hr.1 cu, x_w0, if_neg (by decide), x_rz0]
      · rw [if_neg cu, hr.2 cu, x_w1, if_pos rfl, x_rz1]
    have hq : q_w (if f_un (L x 5) v then (0 : Int) else 1) = if f_un (L x 5) v then 0 else 1 := by split <;> rfl
    by_cases cy : (if f_un (L x 5) v then (0 : Int) else 1) = y
    · refine ⟨q_w (-1), l, x, z, L, F, X, n, T, ft, pl, hk, ?_, fun m1 hm1 => ?_⟩
      · unfold f_PG_broken
        rw [s_isCell hkx hc.1 hv, x_bd, if_pos c, x_w1, if_neg (by decide), s_current hc.1, x_bd, x_one hc.1.2.1.2.1, hcC, x_bd, hq, hy', if_pos cy]
        exact o_rt ⟨rfl, fun _ _ => rfl, hc⟩
      · obtain ⟨m2, e2, f2, k2⟩ := s_isCellM hkx hm1.1 hv
        unfold f_Mod_broken
        rw [e2, x_bd, if_pos c, x_w1, if_neg (by decide), hcM m2 k2, x_bd, hq, hy', if_pos cy]
        exact o_rt ⟨rfl, fun c hc => f2.2 c (by omega) (by omega), j_M_fm hm1 f2⟩
    · have k1 := k_ok_B (v := q_lxor (L x 5) (q_lshl 1 v)) (hL (j_x x) (by omega) (Int.le_refl _))
      refine ⟨q_w (q_bc (q_lxor (L x 5) (q_lshl 1 v))), l, j_x x, j_x x, j_up (j_L x L) (j_x x) 5 (q_lxor (L x 5) (q_lshl 1 v)), F, X, n, T, ft, pl, j_ok_act hk hxr (j_up_ok hL k1), ?_, fun m1 hm1 => ?_⟩
      · unfold f_PG_broken
        rw [s_isCell hkx hc.1 hv, x_bd, if_pos c, x_w1, if_neg (by decide), s_current hc.1, x_bd, x_one hc.1.2.1.2.1, hcC, x_bd, hq, hy', if_neg cy]
        refine o_bd (j_open hc.2.1) fun r m6 ⟨f6, h6, er⟩ => ?_
        have e5 := h6.2.2.2.2 (j_x x) 5 (by omega) (Int.le_refl _) (by decide) (by decide)
        rw [j_L_x hx20] at e5
        have b1 := h6.2.2.1 (j_x x) (by omega) (by omega)
        obtain ⟨h7, f7, e7⟩ := j_H_set h6 (f := 5) (v := q_lxor (L x 5) (q_lshl 1 v)) (by decide)
        rw [er, x_one (q_Ly_in b1), x_pf, e5]
        refine o_bd (j_act hc h7 (fun c hc => by rw [f7 c hc, f6 c hc]) k1) fun _ m9 ⟨f9, g9, c9⟩ => ?_
        refine o_rt ⟨?_, f9, c9⟩
        rw [g9 _ (by omega) (by omega), q_up_s]
      · obtain ⟨m2, e2, f2, k2⟩ := s_isCellM hkx hm1.1 hv
        have hm2 := j_M_fm hm1 f2
        unfold f_Mod_broken f_Mod_broken_b39
        rw [e2, x_bd, if_pos c, x_w1, if_neg (by decide), hcM m2 k2, x_bd, hq, hy', if_neg cy]
        refine o_bd (j_keep hk.1 hm2.1.2.2 hm2.2.1) fun _ m5 ⟨f5, g5, h5⟩ => ?_
        have r5 : r_ok (m5 115) (j_L x L (j_x x)) := by rw [f5 115 (by decide) (by decide), j_L_x hx20]; exact hm2.1.2.2
        have main : q_ok (q_wr m5 115 69 (5 + v) y fun m1 => q_bd (f_Mod_brokenMany m1) fun v2 m3 => q_rt v2 m3) (fun r m' => q_w r = q_w (q_bc (q_lxor (L x 5) (q_lshl 1 v))) ∧ (∀ c, c < 81 → m' c = m1 c) ∧ j_M l (j_x x) (j_x x) (j_up (j_L x L) (j_x x) 5 (q_lxor (L x 5) (q_lshl 1 v))) F X n T ft pl m') := by
          rw [x_wr (n := 69) (by omega) (by omega) (by decide)]
          have r7 : r_ok (q_up m5 115 (5 + v) y 115) (j_up (j_L x L) (j_x x) 5 (q_lxor (L x 5) (q_lshl 1 v)) (j_x x)) := by
            rw [j_L_x hx20] at r5
            refine ⟨fun i i0 i4 => ?_, fun d d0 d1 => ?_⟩
            · rw [q_up_i (by omega), j_up_j (by omega), j_L_x hx20]; exact r5.1 i i0 i4
            · rw [j_up_s]
              have hz := z_un_xor (L x 5) v0 v1 d0 d1
              have hr := r5.2 d d0 d1
              by_cases cc : d = v
              · rw [if_pos cc] at hz
                rw [cc] at hz ⊢
                rw [q_up_s]
                by_cases cu : f_un (L x 5) v
                · rw [if_pos cu] at cy
                  exact ⟨fun h => absurd cu (hz.mp h), fun _ => by omega⟩
                · rw [if_neg cu] at cy
                  exact ⟨fun _ => by omega, fun h => absurd (hz.mpr cu) h⟩
              · rw [if_neg cc] at hz
                rw [q_up_i (by omega)]
                exact ⟨fun h => hr.1 (hz.mp h), fun h => hr.2 fun hh => h (hz.mpr hh)⟩
          have hM : j_M l (j_x x) (j_x x) (j_up (j_L x L) (j_x x) 5 (q_lxor (L x 5) (q_lshl 1 v))) F X n T ft pl (q_up m5 115 (5 + v) y) := by
            refine j_M_act hm2 (fun c c0 c1 c2 c3 => by rw [q_up_f c2]; exact f5 c c1 c3) (fun j j1 j2 => by rw [q_up_c (by decide)]; exact g5 j j1 j2) (j_HM_up (j_HM_fr h5 ?_ ?_ ?_)) r7
            · rw [q_up_c (by decide)]
            · rw [q_up_c (by decide)]
            · rw [q_up_f (by decide)]
          rw [m_brokenMany hM.1, x_bd]
          refine o_rt ⟨?_, fun c hc => ?_, hM⟩
          · rw [r_ok_cnt r7, j_up_s]
          · rw [q_up_f (by omega), f5 c (by omega) (by omega), f2.2 c (by omega) (by omega)]
        rcases hy with hy0 | hy1
        · rw [if_pos hy0]
          rw [hy0] at main
          exact main
        · rw [if_neg (by omega)]
          rw [hy1] at main
          exact main
  · refine ⟨q_w (-1), l, x, z, L, F, X, n, T, ft, pl, hk, ?_, fun m1 hm1 => ?_⟩
    · unfold f_PG_broken
      rw [s_isCell hkx hc.1 hv, x_bd, if_neg c, x_w0, if_pos rfl]
      exact o_rt ⟨rfl, fun _ _ => rfl, hc⟩
    · obtain ⟨m2, e2, f2, k2⟩ := s_isCellM hkx hm1.1 hv
      unfold f_Mod_broken
      rw [e2, x_bd, if_neg c, x_w0, if_pos rfl]
      exact o_rt ⟨rfl, fun c hc => f2.2 c (by omega) (by omega), j_M_fm hm1 f2⟩
end broken
