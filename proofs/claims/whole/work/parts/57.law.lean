/-! QUESTION: law -/
theorem z_cmpB (B : Int) : q_w (q_lcmp B 0) = 0 ↔ BitVec.ofInt 64 B = 0#64 := by
  have e : q_lcmp B 0 = q_lcmp (BitVec.ofInt 64 B).toInt 0 := by
    unfold q_lcmp
    rw [z_of]
    rfl
  rw [e]
  exact z_cmp0 _
theorem z_all (B : Int) : q_w (q_lcmp B 0) = 0 ↔ ∀ c, 0 ≤ c → c < 64 → f_un B c := by
  rw [z_cmpB]
  constructor
  · intro h c c0 c1
    rw [z_un B c0 c1, h, BitVec.getLsbD_zero]
  · intro h
    apply BitVec.eq_of_getLsbD_eq
    intro i hi
    have := (z_un B (c := (i : Int)) (by omega) (by omega)).mp (h i (by omega) (by omega))
    rw [Int.toNat_natCast] at this
    rw [this, BitVec.getLsbD_zero]
section law
variable {l m : q_Mem} {o : Int → Int}
theorem m_brokenMany (hm : k_M l o m) : f_Mod_brokenMany m = some (g_cnt (fun c => m 115 (5 + c) == 1) 64, m) := by
  unfold f_Mod_brokenMany
  refine o_sum (fun n a k => f_Mod_brokenMany_l4 n a k m) (fun c => m 115 (5 + c)) 64 (by omega) ?_ ?_
  · intro n a k k0 k1
    show f_Mod_brokenMany_b4 (f_Mod_brokenMany_l4 n) a k m = _
    unfold f_Mod_brokenMany_b4
    rw [q_w_id (by omega) (by omega), if_neg (by omega), x_rd (n := 69) (by omega) (by omega) (by decide)]
  · intro n
    show f_Mod_brokenMany_b4 (f_Mod_brokenMany_l4 n) _ 64 m = _
    unfold f_Mod_brokenMany_b4
    rw [if_pos (by decide), g_cnt_sum]
    refine congrArg (fun x => some (x, m)) (g_sum_congr fun c c0 c1 => ?_)
    have hb := hm.2.2.2 c c0 c1
    by_cases cu : f_un (o 5) c
    · rw [hb.1 cu]; rfl
    · rw [hb.2 cu]; rfl
theorem s_broken0 (hm : k_M l o m) : (g_cnt (fun c => m 115 (5 + c) == 1) 64 = 0) ↔ q_w (q_lcmp (o 5) 0) = 0 := by
  rw [z_all, g_cnt_zero]
  constructor
  · intro h c c0 c1
    refine Classical.byContradiction fun hn => ?_
    have := h c c0 c1
    rw [(hm.2.2.2 c c0 c1).2 hn] at this
    exact absurd this (by decide)
  · intro h c c0 c1
    show (m 115 (5 + c) == 1) = false
    rw [(hm.2.2.2 c c0 c1).1 (h c c0 c1)]
    rfl
theorem b_law (hk : k_ok l o) : k_both l o f_PG_law f_Mod_law := by
  intro mc mm hc hm
  have hg := hk.1
  have hl := hk.2.2.1
  have hRC := g_RC hg
  have ha := hl.1
  have hb := hl.2.1
  have o0 := hc.2.1.2.2 0 (by decide) (by decide)
  have o1 := hc.2.1.2.2 1 (by decide) (by decide)
  have o2 := hc.2.1.2.2 2 (by decide) (by decide)
  have o3 := hc.2.1.2.2 3 (by decide) (by decide)
  have o5 := hc.2.1.2.2 5 (by decide) (by decide)
  obtain ⟨_, m1, e1, f1, k1, q1, _⟩ := s_layNow hk hm
  obtain ⟨n0, n1, n2, n3⟩ := k_M_now k1
  have hcl : 0 ≤ m1 81 55 ∧ m1 81 55 ≤ 100 := by
    rw [q1.2.2.2.2.2, ← g_sh_ca hg (s := o 2) (t := o 3) (by omega) (by omega)]
    have := g_ca_rg l (fun p => g_mv (l 0 0) (l 0 1) p (o 2) (o 3) != -1)
    split <;> omega
  have hcl2 := q1.2.2.2.2.2
  unfold f_PG_law f_Mod_law
  rw [s_current hc, x_bd, x_one hc.2.1.2.1, x_lt, x_one hc.1.1, o0, o1, c_isLawful hc.1.2 hg hk.2.2.2.1 hk.2.2.2.2.1, x_bd, e1, x_bd, x_rd (n := 69) (by decide) (by decide) (by decide), x_rd (n := 69) (by decide) (by decide) (by decide), n0, n1, m_isLawful k1.1 hg hk.2.2.2.1 hk.2.2.2.2.1, x_bd]
  have none : f_PG_law_b62 mc = some (0, mc) := rfl
  by_cases cl : q_w (g_law l (o 0) (o 1)) = 0
  · rw [if_pos cl, if_pos cl, none]
    exact ⟨0, 0, mc, m1, rfl, rfl, rfl, ⟨k_fc_id _, hc⟩, f1⟩
  rw [if_neg cl, if_neg cl, o5, m_brokenMany k1, x_bd]
  have hcr := g_cnt_rg (fun c => m1 115 (5 + c) == 1) 64
  have hs0 := s_broken0 k1
  rw [q_w_id (x := m1 81 55) (by omega) (by omega), q_w_id (x := g_cnt (fun c => m1 115 (5 + c) == 1) 64) (by omega) (by omega), x_lt, x_one hc.1.1, o0, o1, o2, o3, c_clashes hc.1.2 hg hk.2.2.2.1 hk.2.2.2.2.1 (by omega) (by omega), x_bd, ← hcl2, q_w_id (x := m1 81 55) (by omega) (by omega)]
  by_cases cb : q_w (q_lcmp (o 5) 0) = 0
  · rw [if_pos cb]
    by_cases cc : m1 81 55 = 0
    · rw [if_pos cc, if_neg (by omega), if_pos (by rw [hs0.mpr cb]; omega)]
      unfold f_PG_law_b63
      rw [x_w1, if_neg (by decide)]
      obtain ⟨_, m2, e2, g2, _, c2, _, r2⟩ := s_freshenRun hk hc
      obtain ⟨r, m3, e3, f3, k3, _, w3⟩ := m_wrongMany hk k1
      obtain ⟨r', m4, e4, f4, d4, _, er'⟩ := m_unordered hg k3.1
      rw [e2, x_bd, c_countWrong hg c2, x_bd, x_lt, x_one c2.1.1, c_points c2.1.2, x_bd, e3, x_bd, e4, x_bd]
      refine ⟨_, _, m2, m4, rfl, rfl, congrArg q_w ?_, ⟨g2, c2⟩, k_fm_tr f1 (k_fm_tr f3 (k_fm_dep fun c c1 _ _ _ _ _ => f4 c c1))⟩
      rw [w3 (m2 54) (m2 74) (m2 75) c2.2.2.1.1 (fun p hp => (c2.2.2.1.2.2.1 p hp).1) c2.2.2.2.2.1 r2, er', s_ordered hg c2.2.2.1 d4]
      omega
    · rw [if_neg cc, if_pos (by omega), none]
      exact ⟨0, 0, mc, m1, rfl, rfl, rfl, ⟨k_fc_id _, hc⟩, f1⟩
  · have : g_cnt (fun c => m1 115 (5 + c) == 1) 64 ≠ 0 := fun h => cb (hs0.mp h)
    rw [if_neg cb, none]
    by_cases cc : 0 < m1 81 55
    · rw [if_pos cc]
      exact ⟨0, 0, mc, m1, rfl, rfl, rfl, ⟨k_fc_id _, hc⟩, f1⟩
    · rw [if_neg cc, if_neg (by omega)]
      exact ⟨0, 0, mc, m1, rfl, rfl, rfl, ⟨k_fc_id _, hc⟩, f1⟩
end law
