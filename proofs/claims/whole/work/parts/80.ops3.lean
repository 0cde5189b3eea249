/-! CALLS: image, back, broken -/
section ops3
variable {l m m' : q_Mem} {o : Int → Int} {x z n ft pl : Int} {L X : Int → Int → Int} {F T : Int → Int}
theorem c_isBox {k : Int} (hk : q_32 k) (m : q_Mem) : f_PG_isBox k m = some (if 0 ≤ k ∧ k ≤ 1 then 1 else 0, m) := by
  unfold f_PG_isBox
  rw [q_w_id hk.1 hk.2]
  by_cases c : k < 0
  · rw [if_pos c, x_rz0, if_neg (by omega)]
  · by_cases c1 : 2 ≤ k
    · rw [if_neg c, if_pos c1, x_rz0, if_neg (by omega)]
    · rw [if_neg c, if_neg c1, x_rz1, if_pos (by omega)]
/-- the class's state where boxes, their flags alone have changed -/
theorem k_C_box (h : k_C l o m) (e : ∀ c, c < 81 → c ≠ 52 → c ≠ 79 → c ≠ 80 → m' c = m c) (hy : 30 ≤ m 29 (m 28 1) ∧ m 29 (m 28 1) ≤ 50) : k_C l o m' := by
  obtain ⟨⟨g1, g2⟩, ⟨g3, g4, g5⟩, g6, g7, g8, g9⟩ := h
  have ht : m 0 1 = 3 ∨ m 0 1 = 14 := by simpa [q_Lp] using g1
  have e0 := e 0 (by decide) (by decide) (by decide) (by decide)
  have e28 := e 28 (by decide) (by decide) (by decide) (by decide)
  have e29 := e 29 (by decide) (by decide) (by decide) (by decide)
  refine ⟨⟨by rw [e0]; exact g1, ?_⟩, ⟨by rw [e28]; exact g3, by rw [e28, e29]; exact g4, ?_⟩, k_web_fr g6 fun c _ _ => e c (by omega) (by omega) (by omega) (by omega), k_plac_fr g7 fun c _ _ => e c (by omega) (by omega) (by omega) (by omega), by rw [e 54 (by decide) (by decide) (by decide) (by decide), e 74 (by decide) (by decide) (by decide) (by decide)]; exact g8, by rw [e0, e 75 (by decide) (by decide) (by decide) (by decide)]; exact g9⟩
  · rw [e0]
    refine ⟨fun i => ?_, fun j i j1 j2 => ?_⟩
    · rw [e _ (by omega) (by omega) (by omega) (by omega)]; exact g2.1 i
    · rw [e _ (by omega) (by omega) (by omega) (by omega)]; exact g2.2 j i j1 j2
  · intro i i0 i1
    rw [e28, e29, e _ (by omega) (by omega) (by omega) (by omega)]
    exact g5 i i0 i1
theorem a_image {k : Int} (hk32 : q_32 k) : j_op (f_PG_image k) (f_Mod_image k) := by
  refine j_op_of fun l x z L F X n T ft pl m hk hc hm => ?_
  have hx := hk.1
  have hkx := j_now hk
  by_cases c : 0 ≤ k ∧ k ≤ 1
  · refine ⟨q_w (g_lat (l 0 0) (l 0 1) (L x 0) (L x 1)), l, x, z, L, fun j => if j = k then 1 else F j, fun j => if j = k then L x else X j, n, T, ft, pl, ⟨hk.1, hk.2.1, fun j j0 j1 => ?_, hk.2.2.2⟩, ?_, fun m1 hm1 => ?_⟩
    · show (if j = k then (1 : Int) else F j) = 0 ∨ ((if j = k then (1 : Int) else F j) = 1 ∧ k_ok l (if j = k then L x else X j))
      by_cases cj : j = k
      · rw [if_pos cj, if_pos cj]; exact Or.inr ⟨rfl, hkx⟩
      · rw [if_neg cj, if_neg cj]; exact hk.2.2.1 j j0 j1
    · obtain ⟨h1, h2, h3, h4, h5⟩ := hc
      have hH := h2
      obtain ⟨g1, g2, g3, g4, g5⟩ := h2
      have e51 : m 51 k = 79 + k := by
        have : k = 0 ∨ k = 1 := by omega
        rcases this with rfl | rfl
        · exact h3.1.1
        · exact h3.1.2
      have hly : (79 + k) ∈ q_Ly := by
        simp [q_Ly]
        omega
      have cur := s_current h1
      have hcy : 30 ≤ m 29 (m 28 1) ∧ m 29 (m 28 1) ≤ 50 := by rw [g1.1]; exact g3 x (by omega) (by omega)
      unfold f_PG_image
      rw [c_isBox hk32, x_bd, if_pos c, x_w1, if_neg (by decide), x_rd (n := 2) c.1 (by omega) (by decide), e51, x_one hly, cur, x_bd, x_one h1.2.1.2.1]
      refine o_bd (c_copy (by omega)) fun _ m6 ⟨f6, v6⟩ => ?_
      rw [x_wrz (n := 2) c.1 (by omega) (by decide) (Or.inr rfl)]
      have f7 : ∀ c, c ≠ 52 → c ≠ 79 → c ≠ 80 → q_up m6 52 k 1 c = m c := fun c c1 c2 c3 => by rw [q_up_f c1]; exact f6 c (by omega)
      refine o_rt ⟨?_, fun c hc => f7 c (by omega) (by omega) (by omega), k_C_box h1 (fun c _ c1 c2 c3 => f7 c c1 c2 c3) hcy, j_H_fr hH fun c _ _ => f7 c (by omega) (by omega) (by omega), ⟨by rw [f7 51 (by decide) (by decide) (by decide)]; exact h3.1, fun j j0 j1 => ?_⟩, by rw [f7 0 (by decide) (by decide) (by decide)]; exact h4, j_T_fr h5 fun c hc => f7 c (by omega) (by omega) (by omega)⟩
      · rw [f7 60 (by decide) (by decide) (by decide), h1.2.2.2.1.2.2.2.2.2.2.1]
      · show q_up m6 52 k 1 52 j = (if j = k then (1 : Int) else F j) ∧ ((if j = k then (1 : Int) else F j) = 0 ∨ ((if j = k then (1 : Int) else F j) = 1 ∧ ∀ i, 0 ≤ i → i ≤ 5 → q_up m6 52 k 1 (79 + j) i = (if j = k then L x else X j) i))
        by_cases cj : j = k
        · subst cj
          rw [if_pos rfl, if_pos rfl, q_up_s]
          refine ⟨rfl, Or.inr ⟨rfl, fun i i0 i5 => ?_⟩⟩
          rw [q_up_c (by omega), v6 i i0 i5, h1.2.1.2.2 i i0 i5]
        · rw [if_neg cj, if_neg cj, q_up_i cj, q_up_f (by omega), f6 52 (by omega), f6 (79 + j) (by omega)]
          exact h3.2 j j0 j1
    · unfold f_Mod_image
      rw [m_isIn hk32 (by decide) (by decide), x_bd, if_pos c, x_w1, if_neg (by decide)]
      refine o_upF (fun n' i (s : q_Mem) => f_Mod_image_l13 n' k i s) (fun i s => 0 ≤ i ∧ (∀ c, c ≠ 124 → s c = m1 c) ∧ (∀ j, 0 ≤ j → j < i → s 124 (69 * k + j) = m1 115 j) ∧ ∀ j, j < 69 * k ∨ 69 * k + 69 ≤ j → s 124 j = m1 124 j) _ (k := 0) (e := 69) (s := m1) (by omega) (by omega) ⟨by omega, fun _ _ => rfl, fun j j0 j1 => by omega, fun _ _ => rfl⟩ ?_ ?_
      · intro n' i s hi ⟨i0, f1, s1, s2⟩ hn
        show q_ok (f_Mod_image_b13 (f_Mod_image_l13 n') k i s) _
        unfold f_Mod_image_b13
        rw [q_w_id (x := i) (by omega) (by omega), if_neg (by omega), x_rd (n := 69) i0 (by omega) (by decide), f1 115 (by decide), x_wr (n := 138) (by omega) (by omega) (by decide)]
        refine hn _ ⟨by omega, fun c hc => by rw [q_up_f hc]; exact f1 c hc, fun j j0 j1 => ?_, fun j hj => ?_⟩
        · by_cases cj : j = i
          · rw [cj, q_up_s]
          · rw [q_up_i (by omega)]; exact s1 j j0 (by omega)
        · rw [q_up_i (by omega)]; exact s2 j hj
      · intro n' s ⟨_, f1, s1, s2⟩
        show q_ok (f_Mod_image_b13 (f_Mod_image_l13 n') k 69 s) _
        unfold f_Mod_image_b13 f_Mod_latencyNow
        rw [if_pos (by decide), x_wrz (n := 2) c.1 (by omega) (by decide) (Or.inr rfl)]
        have f2 : ∀ c, c ≠ 124 → c ≠ 125 → q_up s 125 k 1 c = m1 c := fun c c1 c2 => by rw [q_up_f c2]; exact f1 c c1
        have hM : j_M l x z L (fun j => if j = k then 1 else F j) (fun j => if j = k then L x else X j) n T ft pl (q_up s 125 k 1) := by
          obtain ⟨h1, h2, h3, h4, h5⟩ := hm1
          refine ⟨k_M_115 h1 (fun c _ _ _ => f2 c (by omega) (by omega)) (by rw [f2 81 (by decide) (by decide)]) (by rw [f2 115 (by decide) (by decide)]; exact h1.2.2), j_HM_fr h2 (by rw [f2 81 (by decide) (by decide)]) (by rw [f2 81 (by decide) (by decide)]) (f2 123 (by decide) (by decide)), fun j j0 j1 => ?_, j_W_fr h4 (f2 102 (by decide) (by decide)), j_TM_fr h5 (by rw [f2 81 (by decide) (by decide)]) (by rw [f2 81 (by decide) (by decide)]) (by rw [f2 81 (by decide) (by decide)]) (f2 101 (by decide) (by decide)) (by rw [f2 81 (by decide) (by decide)])⟩
          show q_up s 125 k 1 125 j = (if j = k then (1 : Int) else F j) ∧ ((if j = k then (1 : Int) else F j) = 1 → r_ok (fun i => q_up s 125 k 1 124 (69 * j + i)) (if j = k then L x else X j))
          rw [q_up_f (show (124 : Int) ≠ 125 by decide)]
          by_cases cj : j = k
          · subst cj
            rw [if_pos rfl, if_pos rfl, q_up_s]
            exact ⟨rfl, fun _ => r_ok_congr h1.2.2 fun i i0 i1 => s1 i i0 i1⟩
          · rw [if_neg cj, if_neg cj, q_up_i cj, f1 125 (by decide)]
            exact ⟨(h3 j j0 j1).1, fun hF => r_ok_congr ((h3 j j0 j1).2 hF) fun i i0 i1 => s2 _ (by omega)⟩
        obtain ⟨_, m8, e8, f8, k8, p8, _⟩ := s_layNow hkx hM.1
        rw [e8, x_bd, x_rt, x_bd]
        refine o_rt ⟨by rw [p8.2.1], fun c hc => ?_, j_M_fm hM f8⟩
        rw [f8.2 c (by omega) (by omega), f2 c (by omega) (by omega)]
  · refine a_same (A := -1) hk hc ?_ fun m1 hm1 => ?_
    · unfold f_PG_image
      rw [c_isBox hk32, x_bd, if_neg c, x_w0, if_pos rfl, x_rt]
    · unfold f_Mod_image
      rw [m_isIn hk32 (by decide) (by decide), x_bd, if_neg c, x_w0, if_pos rfl, x_rt]
theorem a_back {k : Int} (hk32 : q_32 k) : j_op (f_PG_back k) (f_Mod_back k) := by
  refine j_op_of fun l x z L F X n T ft pl m hk hc hm => ?_
  have hx := hk.1
  by_cases c : 0 ≤ k ∧ k ≤ 1
  · have hF := hk.2.2.1 k c.1 c.2
    have hB := hc.2.2.1.2 k c.1 c.2
    by_cases cF : F k = 0
    · refine a_same (A := -1) hk hc ?_ fun m1 hm1 => ?_
      · unfold f_PG_back
        rw [c_isBox hk32, x_bd, if_pos c, x_w1, if_neg (by decide), x_rd (n := 2) c.1 (by omega) (by decide), hB.1, cF, x_w0, if_pos rfl, x_rt]
      · unfold f_Mod_back
        rw [m_isIn hk32 (by decide) (by decide), x_bd, if_pos c, x_w1, if_neg (by decide), x_rd (n := 2) c.1 (by omega) (by decide), (hm1.2.2.1 k c.1 c.2).1, cF, x_w0, if_pos rfl, x_rt]
    · have hF1 : F k = 1 ∧ k_ok l (X k) := by
        rcases hF with h | h
        · exact absurd h cF
        · exact h
      refine ⟨q_w (g_lat (l 0 0) (l 0 1) (X k 0) (X k 1)), l, 0, 0, fun _ => X k, F, X, n, T, ft, pl, ⟨by omega, fun _ _ _ => hF1.2, hk.2.2⟩, ?_, fun m1 hm1 => ?_⟩
      · have hc' := hc
        obtain ⟨h1, h2, h3, h4, h5⟩ := hc'
        obtain ⟨g1, g2, g3, g4, g5⟩ := h2
        have e51 : m 51 k = 79 + k := by
          have : k = 0 ∨ k = 1 := by omega
          rcases this with rfl | rfl
          · exact h3.1.1
          · exact h3.1.2
        have hly : (79 + k) ∈ q_Ly := by
          simp [q_Ly]
          omega
        have b0 := g3 0 (by decide) (by decide)
        unfold f_PG_back f_Hist_restart
        have e29 : q_up (q_up m 28 1 0) 28 2 0 29 = m 29 := by rw [q_up_f (by decide), q_up_f (by decide)]
        have e51' : q_up (q_up m 28 1 0) 28 2 0 51 = m 51 := by rw [q_up_f (by decide), q_up_f (by decide)]
        rw [c_isBox hk32, x_bd, if_pos c, x_w1, if_neg (by decide), x_rd (n := 2) c.1 (by omega) (by decide), hB.1, hF1.1, x_w1, if_neg (by decide), x_pf, x_pf, x_rd (n := 21) (by decide) (by decide) (by decide), e29, x_one (q_Ly_in b0), x_rt, x_bd, x_one (q_Ly_in b0), x_rd (n := 2) c.1 (by omega) (by decide), e51', e51, x_one hly]
        refine o_bd (c_copy (by omega)) fun _ m7 ⟨f7, v7⟩ => ?_
        have v7' : ∀ j, 0 ≤ j → j ≤ 5 → m7 (m 29 0) j = X k j := by
          intro j j0 j5
          rw [v7 j j0 j5, q_up_f (by omega), q_up_f (by omega)]
          rcases hB.2 with h | h
          · exact absurd h cF
          · exact h.2 j j0 j5
        have g29 : m7 29 = m 29 := by rw [f7 29 (by omega), e29]
        have g28 : m7 28 = q_up (q_up m 28 1 0) 28 2 0 28 := f7 28 (by omega)
        have hH : j_H m7 0 0 (fun _ => X k) := by
          refine ⟨⟨by rw [g28, q_up_i (by decide), q_up_s], by rw [g28, q_up_s]⟩, by omega, by rw [g29]; exact g3, by rw [g29]; exact g4, fun i j i0 iz j0 j5 => ?_⟩
          rw [g29, show i = 0 by omega]
          exact v7' j j0 j5
        refine o_bd (j_act hc hH (fun c hc => by rw [f7 c (by omega), q_up_f (by omega), q_up_f (by omega)]) hF1.2) fun _ m9 ⟨f9, _, c9⟩ => ?_
        exact o_rt ⟨by rw [c9.1.2.2.2.1.2.2.2.2.2.2.1], f9, c9⟩
      · unfold f_Mod_back
        rw [m_isIn hk32 (by decide) (by decide), x_bd, if_pos c, x_w1, if_neg (by decide), x_rd (n := 2) c.1 (by omega) (by decide), (hm1.2.2.1 k c.1 c.2).1, hF1.1, x_w1, if_neg (by decide)]
        refine o_upF (fun n' i (s : q_Mem) => f_Mod_back_l22 n' k i s) (fun i s => 0 ≤ i ∧ (∀ c, c ≠ 115 → s c = m1 c) ∧ (∀ j, 0 ≤ j → j < i → s 115 j = m1 124 (69 * k + j))) _ (k := 0) (e := 69) (s := m1) (by omega) (by omega) ⟨by omega, fun _ _ => rfl, fun j j0 j1 => by omega⟩ ?_ ?_
        · intro n' i s hi ⟨i0, f1, s1⟩ hn
          show q_ok (f_Mod_back_b22 (f_Mod_back_l22 n') k i s) _
          unfold f_Mod_back_b22
          rw [q_w_id (x := i) (by omega) (by omega), if_neg (by omega), x_rd (n := 138) (by omega) (by omega) (by decide), f1 124 (by decide), x_wr (n := 69) i0 (by omega) (by decide)]
          refine hn _ ⟨by omega, fun c hc => by rw [q_up_f hc]; exact f1 c hc, fun j j0 j1 => ?_⟩
          by_cases cj : j = i
          · rw [cj, q_up_s]
          · rw [q_up_i (by omega)]; exact s1 j j0 (by omega)
        · intro n' s ⟨_, f1, s1⟩
          show q_ok (f_Mod_back_b22 (f_Mod_back_l22 n') k 69 s) _
          unfold f_Mod_back_b22 f_Mod_latencyNow
          rw [if_pos (by decide), x_pf, x_pf]
          have hR : r_ok (q_up (q_up s 81 69 0) 81 70 0 115) (X k) := by
            rw [q_up_f (by decide), q_up_f (by decide)]
            exact r_ok_congr ((hm1.2.2.1 k c.1 c.2).2 hF1.1) fun j j0 j1 => s1 j j0 j1
          have hM : j_M l 0 0 (fun _ => X k) F X n T ft pl (q_up (q_up s 81 69 0) 81 70 0) := by
            refine j_M_act hm1 (fun c _ c1 c2 _ => by rw [q_up_f c1, q_up_f c1]; exact f1 c c2) (fun j j1 j2 => by rw [q_up_i j2, q_up_i j1, f1 81 (by decide)]) ⟨⟨by rw [q_up_i (by decide), q_up_s], by rw [q_up_s]; rfl⟩, fun i i0 i1 => by omega, fun i i0 i1 => by omega⟩ hR
          obtain ⟨_, m8, e8, f8, k8, p8, _⟩ := s_layNow (o := X k) hF1.2 hM.1
          rw [e8, x_bd, x_rt, x_bd]
          refine o_rt ⟨by rw [p8.2.1], fun c hc => ?_, j_M_fm hM f8⟩
          rw [f8.2 c (by omega) (by omega), q_up_f (by omega), q_up_f (by omega), f1 c (by omega)]
  · refine a_same (A := -1) hk hc ?_ fun m1 hm1 => ?_
    · unfold f_PG_back
      rw [c_isBox hk32, x_bd, if_neg c, x_w0, if_pos rfl, x_rt]
    · unfold f_Mod_back
      rw [m_isIn hk32 (by decide) (by decide), x_bd, if_neg c, x_w0, if_pos rfl, x_rt]
end ops3
