/-! QUESTION: busy -/
section busy
variable {l m : q_Mem} {o : Int → Int}
def f_o5 (o : Int → Int) (B : Int) : Int → Int := fun i => if i = 5 then B else o i
theorem f_o5_i {B i : Int} (h : i ≠ 5) : f_o5 o B i = o i := if_neg h
theorem f_o5_5 {B : Int} : f_o5 o B 5 = B := if_pos rfl
theorem k_ok_5 (hk : k_ok l o) (B : Int) : k_ok l (f_o5 o B) := by
  unfold k_ok at *
  rw [f_o5_i (by decide), f_o5_i (by decide), f_o5_i (by decide), f_o5_i (by decide), f_o5_i (by decide)]
  exact hk
theorem k_run_5 {B : Int} {X : Int → Int} (h : k_run l o B X) : k_run l (f_o5 o B) (f_o5 o B 5) X := by
  unfold k_run at *
  rw [f_o5_i (by decide), f_o5_i (by decide), f_o5_i (by decide), f_o5_i (by decide), f_o5_5]
  exact h
theorem c_wrongWithout (hk : k_ok l o) (hc : k_C l o m) {x : Int} : q_ok (f_PG_wrongWithout x m) (fun r m' => k_fc m m' ∧ k_C l o m' ∧ ∃ R R', k_run l o (o 5) R ∧ k_run l o (q_lor (o 5) (q_lshl 1 x)) R' ∧ r = g_ca l (f_wr l (m 54) (m 74) R') - g_ca l (f_wr l (m 54) (m 74) R)) := by
  unfold f_PG_wrongWithout
  refine o_bd (s_freshenRun hk hc) fun _ m1 ⟨f1, f2, c1, e15, r1⟩ => ?_
  rw [s_current c1, x_bd, x_one c1.2.1.2.1, c1.2.1.2.2 5 (by decide) (by decide)]
  refine o_bd (c_reckonRun rfl c1.1.1 c1.1.2 hk.1 hk.2.1 c1.2.2.2.1 (fun p hp => ?_) (by decide)) fun _ m2 ⟨g2, v2⟩ => ?_
  · have t1 := g_tk_rg hk.1 (o 0) (o 1) hp
    have t2 := g_lat_rg hk.1 hk.2.2.2.1 hk.2.2.2.2.1
    omega
  have hf : k_fc m1 m2 := ⟨fun j _ => by rw [g2 0 (by decide) (by decide) (by decide)], fun c c0 hc => g2 c (by omega) (by omega) (by omega)⟩
  have e75 : m2 75 = m1 75 := g2 75 (by decide) (by decide) (by decide)
  have c2 : k_C l o m2 := k_C_same c1 hf (by rw [g2 0 (by decide) (by decide) (by decide)]) e75
  have e54 : m2 54 = m 54 := (k_fc_tr f1 hf).2 54 (by decide) (by omega)
  have e74 : m2 74 = m 74 := (k_fc_tr f1 hf).2 74 (by decide) (by omega)
  rw [c_countWrong hk.1 c2, x_bd, c_countWrong hk.1 c2, x_bd, e54, e74, e75]
  exact o_rt ⟨k_fc_tr f1 hf, c2, m1 75, m2 76, r1, v2, rfl⟩
theorem k_M_or (hm : k_M l o m) {x : Int} (h0 : 0 ≤ x) (h1 : x < 64) : k_M l (f_o5 o (q_lor (o 5) (q_lshl 1 x))) (q_up m 115 (5 + x) 1) := by
  obtain ⟨a1, a2, a3, a4⟩ := hm
  refine ⟨g_ML_fr a1 fun c _ _ => q_up_f (by omega), g_MF_of a2 fun c _ _ => q_up_f (by omega), fun i i0 i1 => ?_, fun c c0 c1 => ?_⟩
  · rw [q_up_i (by omega), f_o5_i (by omega)]
    exact a3 i i0 i1
  · rw [f_o5_5, z_un_or (o 5) h0 h1 c0 c1]
    by_cases cc : c = x
    · subst cc
      rw [q_up_s]
      exact ⟨fun h => absurd rfl h.2, fun _ => rfl⟩
    · rw [q_up_i (by omega)]
      refine ⟨fun h => (a4 c c0 c1).1 h.1, fun h => (a4 c c0 c1).2 fun h' => h ⟨h', cc⟩⟩
theorem m_moreWrong (hk : k_ok l o) (hm : k_M l o m) {x : Int} (h0 : 0 ≤ x) (h1 : x < 64) : q_ok (f_Mod_moreWrong x m) (fun r m' => k_fm m m' ∧ ∀ D V R R', g_isD l D → (∀ p, g_pt l p → -1 ≤ D p) → f_V l D (fun p => 0 ≤ D p) (-1) (-1) V → k_run l o (o 5) R → k_run l o (q_lor (o 5) (q_lshl 1 x)) R' → r = g_ca l (f_wr l D V R') - g_ca l (f_wr l D V R)) := by
  unfold f_Mod_moreWrong
  refine o_bd (m_wrongMany hk hm) fun r1 m1 ⟨f1, k1, _, w1⟩ => ?_
  rw [x_rd (n := 69) (by omega) (by omega) (by decide), x_wr (n := 69) (by omega) (by omega) (by decide)]
  refine o_bd (m_wrongMany (k_ok_5 hk _) (k_M_or k1 h0 h1)) fun r2 m2 ⟨f2, k2, _, w2⟩ => ?_
  rw [x_wr (n := 69) (by omega) (by omega) (by decide)]
  have e115 : m2 115 = q_up m1 115 (5 + x) 1 115 := f2.2 115 (by decide) (by omega)
  have hf : k_fm m1 (q_up m2 115 (5 + x) (m1 115 (5 + x))) := by
    refine ⟨fun j hj => ?_, fun c c0 hc => ?_⟩
    · rw [q_up_c (by decide), f2.1 j hj, q_up_c (by decide)]
    · by_cases c5 : c = 115
      · subst c5
        funext i
        by_cases ci : i = 5 + x
        · subst ci; rw [q_up_s]
        · rw [q_up_i ci, e115, q_up_i ci]
      · rw [q_up_f c5, f2.2 c c0 hc, q_up_f c5]
  refine o_rt ⟨k_fm_tr f1 hf, fun D V R R' hD hDr hV hR hR' => ?_⟩
  rw [w1 D V R hD hDr hV hR, w2 D V R' hD hDr hV (k_run_5 hR')]
theorem b_busy (hk : k_ok l o) {x y : Int} (hx : q_32 x) (hy : q_32 y) : k_both l o (f_PG_busy x y) (f_Mod_busy x y) := by
  intro mc mm hc hm
  have hg := hk.1
  have hl := hk.2.2.1
  have hx' := hx
  have hy' := hy
  unfold q_32 at hx' hy'
  have hcc := g_cc_eq hg hl
  obtain ⟨_, m1, e1, f1, k1, q1, _⟩ := s_layNow hk hm
  have hcr := g_cnt_rg (fun k => g_oc l (o 2) (o 3) (k + g_ls (l 0 0) (l 0 1) (o 3) (-o 2))) 55
  have hc55 := k_cc hg hl.1 hl.2.1
  have h10 : mc 60 10 = g_cc l (o 2) (o 3) := by rw [hcc]; exact hc.2.2.2.1.2.2.2.2.2.2.2.1
  have h54 : m1 81 54 = g_cc l (o 2) (o 3) := by rw [hcc]; exact q1.2.2.2.1
  have hcC : f_PG_isCell x mc = some (if 0 ≤ x ∧ x < g_cc l (o 2) (o 3) then 1 else 0, mc) := by
    unfold f_PG_isCell
    rw [h10]
    simp (disch := omega) only [x_bd, x_rt, x_pf, x_lt, x_fi, x_rz0, x_rz1, x_rzi, x_pz0, x_pz1, x_rd, x_wr, x_wrz, x_dv, x_md, q_w_id, x_wi, x_i0, x_i1, x_max, x_min, x_abs, ↓reduceIte, Int.reduceEq, Int.reduceLT, Int.reduceLE, Int.reduceNeg, if_true, if_false]
    grind
  have hcM : f_Mod_isCell x mm = some (if 0 ≤ x ∧ x < g_cc l (o 2) (o 3) then 1 else 0, m1) := by
    unfold f_Mod_isCell
    rw [e1, x_bd, h54, m_isIn hx' (by omega) (by omega), x_bd, x_rzi]
    by_cases c : 0 ≤ x ∧ x < g_cc l (o 2) (o 3)
    · rw [if_pos c, if_pos (by omega)]
    · rw [if_neg c, if_neg (by omega)]
  unfold f_PG_busy f_Mod_busy
  rw [hcC, hcM, x_bd, x_bd]
  by_cases cx : ¬ (0 ≤ x ∧ x < g_cc l (o 2) (o 3))
  · rw [if_neg cx, x_w0, if_pos rfl, if_pos rfl]
    exact ⟨-1000, -1000, mc, m1, rfl, rfl, rfl, ⟨k_fc_id _, hc⟩, f1⟩
  replace cx := Classical.not_not.mp cx
  rw [if_pos cx, x_w1]
  simp only [if_neg (show ¬ (1 : Int) = 0 by decide)]
  rw [q_w_id (x := y) (by omega) (by omega)]
  by_cases c0 : y = 0
  · rw [if_pos c0, if_pos c0, c_pointsOf hk hc hx, m_pointsOf hk k1 q1 hx, x_bd, x_bd]
    exact ⟨_, _, mc, m1, rfl, rfl, rfl, ⟨k_fc_id _, hc⟩, f1⟩
  rw [if_neg c0, if_neg c0]
  by_cases c1 : y = 1
  · obtain ⟨r, m2, e2, rfl, h2⟩ := c_firstTickOf hk hc cx.1 cx.2 hx
    obtain ⟨r', m3, e3, rfl, h3⟩ := m_firstTick hk k1 q1 cx.1 cx.2 hx
    rw [if_pos c1, if_pos c1, e2, e3, x_bd, x_bd]
    exact ⟨r, r', m2, m3, rfl, rfl, by rw [f_lo_u h2 h3], ⟨k_fc_id _, hc⟩, f1⟩
  rw [if_neg c1, if_neg c1]
  by_cases c2 : y = 2
  · obtain ⟨r, m2, e2, rfl, h2⟩ := c_lastTickOf hk hc cx.1 cx.2 hx
    obtain ⟨r', m3, e3, rfl, h3⟩ := m_lastTick hk k1 q1 cx.1 cx.2 hx
    rw [if_pos c2, if_pos c2, e2, e3, x_bd, x_bd]
    exact ⟨r, r', m2, m3, rfl, rfl, by rw [f_hi_u h2 h3], ⟨k_fc_id _, hc⟩, f1⟩
  rw [if_neg c2, if_neg c2]
  by_cases c3 : y = 3
  · rw [if_pos c3, if_pos c3, s_current hc, x_bd, x_one hc.2.1.2.1, x_rd (n := 69) (by omega) (by omega) (by decide)]
    unfold f_Layo_isBroken
    rw [hc.2.1.2.2 5 (by decide) (by decide)]
    have hb := k1.2.2.2 x cx.1 (by omega)
    by_cases cu : f_un (o 5) x
    · have cu' := cu
      unfold f_un at cu'
      rw [if_pos cu', x_rz0, x_bd, x_w0, if_pos rfl, hb.1 cu]
      exact ⟨0, 0, mc, m1, rfl, rfl, rfl, ⟨k_fc_id _, hc⟩, f1⟩
    · have cu' := cu
      unfold f_un at cu'
      rw [if_neg cu', x_rz1, x_bd, x_w1, if_neg (by decide), hb.2 cu]
      exact ⟨1, 1, mc, m1, rfl, rfl, rfl, ⟨k_fc_id _, hc⟩, f1⟩
  rw [if_neg c3, if_neg c3]
  by_cases c4 : y = 4
  · obtain ⟨r, m2, e2, g2, k2, R, R', hR, hR', er⟩ := c_wrongWithout hk hc (x := x)
    obtain ⟨r', m3, e3, g3, h3⟩ := m_moreWrong hk k1 cx.1 (show x < 64 by omega)
    rw [if_pos c4, if_pos c4, e2, e3, x_bd, x_bd]
    refine ⟨r, r', m2, m3, rfl, rfl, ?_, ⟨g2, k2⟩, k_fm_tr f1 g3⟩
    rw [er, h3 (mc 54) (mc 74) R R' hc.2.2.1.1 (fun p hp => (hc.2.2.1.2.2.1 p hp).1) hc.2.2.2.2.1 hR hR']
  rw [if_neg c4, if_neg c4]
  exact ⟨-1000, -1000, mc, m1, rfl, rfl, rfl, ⟨k_fc_id _, hc⟩, f1⟩
end busy
