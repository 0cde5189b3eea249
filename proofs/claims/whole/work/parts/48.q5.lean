/-! QUESTION: plan -/
section q5
variable {l m : q_Mem} {o : Int → Int}
theorem m_unordered (hg : g_lw l) (h : g_ML m l) : q_ok (f_Mod_unordered m) (fun r m' => (∀ c, c ≠ 106 → m' c = m c) ∧ g_isD l (m' 106) ∧ (∀ p, g_pt l p → -1 ≤ m' 106 p ∧ m' 106 p < 100) ∧ r = g_ca l (fun p => decide (m' 106 p < 0))) := by
  unfold f_Mod_unordered
  refine o_bd (m_layDepths h hg) fun _ m1 ⟨f1, d1, r1⟩ => ?_
  have h1 : g_ML m1 l := g_ML_fr h fun c _ _ => f1 c (by omega)
  have hc : f_Mod_unordered_l8 q_F 0 0 m1 = some (g_ca l (fun p => decide (m1 106 p < 0)), m1) := by
    refine o_cnt (fun n a k => f_Mod_unordered_l8 n a k m1) (fun k => decide (g_th (l 0 0) (l 0 1) k) && decide (m1 106 k < 0)) 100 (by omega) ?_ ?_
    · intro n a k k0 k1 a0 a1
      show f_Mod_unordered_b8 (f_Mod_unordered_l8 n) a k m1 = _
      unfold f_Mod_unordered_b8 f_Mod_unordered_b36 f_Mod_unordered_b37
      rw [q_w_id (by omega) (by omega), if_neg (by omega), m_isThere h1 hg ⟨k0, by omega⟩, x_bd, x_wi]
      simp only [x_i0]
      by_cases ct : g_th (l 0 0) (l 0 1) k
      · have hr := r1 k ⟨⟨k0, k1⟩, ct⟩
        rw [if_neg (fun h => h ct), x_rd (n := 100) (by omega) (by omega) (by decide), q_w_id (by omega) (by omega), decide_eq_true ct, Bool.true_and]
        by_cases c : m1 106 k < 0
        · rw [if_neg (by omega), if_pos (decide_eq_true c)]
        · rw [if_pos (by omega), if_neg (by simpa using c)]
      · rw [if_pos ct, decide_eq_false ct, Bool.false_and]
        rfl
    · intro n
      show f_Mod_unordered_b8 (f_Mod_unordered_l8 n) _ 100 m1 = _
      unfold f_Mod_unordered_b8
      rw [if_pos (by decide)]
      rfl
  rw [hc]
  exact o_some ⟨f1, d1, r1, rfl⟩
/-- the class's own count of ordered points, and the greatest depth, are the model's -/
theorem s_ordered (hg : g_lw l) (hb : k_web l m) {D : Int → Int} (hD : g_isD l D) : g_ca l (fun p => decide (D p < 0)) = l 0 0 * l 0 1 - m 53 6 := by
  have e := hb.2.2.2.2.1.2.2.2.2
  have hDe := g_D_uniq hg hb.1 hD
  have h1 := g_ca_true hg
  have h2 : g_ca l (fun _ => true) = g_ca l (fun p => decide (0 ≤ m 54 p)) + g_ca l (fun p => decide (D p < 0)) := by
    refine g_ca_or fun p hp => ?_
    rw [← hDe p hp]
    by_cases c : 0 ≤ m 54 p
    · rw [if_pos rfl, if_pos (decide_eq_true c), if_neg (by simp; omega)]; rfl
    · rw [if_pos rfl, if_neg (by simpa using c), if_pos (decide_eq_true (by omega))]; rfl
  have h3 : g_ca l (fun p => decide (0 ≤ m 54 p)) = m 53 6 := e.symm
  omega
theorem s_deepest (hg : g_lw l) (hb : k_web l m) {D : Int → Int} (hD : g_isD l D) {G : Int} (hGr : -1 ≤ G) (h1 : ∀ p, g_pt l p → D p ≤ G) (h2 : G = -1 ∨ ∃ p, g_pt l p ∧ D p = G) : m 53 7 = G := by
  have hDe := g_D_uniq hg hb.1 hD
  obtain ⟨_, _, _, _, _, _, hr, b1, b2⟩ := hb
  have hle : m 53 7 ≤ G := by
    rcases b2 with b2 | ⟨p, hp, e⟩
    · omega
    · rw [← e, hDe p hp]; exact h1 p hp
  have hge : G ≤ m 53 7 := by
    rcases h2 with h2 | ⟨p, hp, e⟩
    · omega
    · rw [← e, ← hDe p hp]; exact b1 p hp
  omega
theorem b_plan (hk : k_ok l o) {x : Int} (hx : q_32 x) : k_both l o (f_PG_plan x) (f_Mod_plan x) := by
  refine k_both_of fun mc mm hc hm => ?_
  have hg := hk.1
  have hl := hk.2.2.1
  unfold q_32 at hx
  obtain ⟨p1, p2, p3, p4, p5, p6, p7, p8, p9⟩ := hc.2.2.2.1
  have o0 := hc.2.1.2.2 0 (by decide) (by decide)
  have o1 := hc.2.1.2.2 1 (by decide) (by decide)
  have o2 := hc.2.1.2.2 2 (by decide) (by decide)
  have o3 := hc.2.1.2.2 3 (by decide) (by decide)
  have ha := hl.1
  have hb := hl.2.1
  refine ⟨q_w (if x = 0 then g_law l (o 0) (o 1) else if x = 1 then g_lat (l 0 0) (l 0 1) (o 0) (o 1) else if x = 2 then l 0 0 * l 0 1 - g_sh (l 0 0) (l 0 1) (o 2) (o 3) else if x = 3 then (if o 0 * o 2 + o 1 * o 3 = 0 then g_sh (l 0 0) (l 0 1) (o 2) (o 3) else 0) else if x = 4 then g_lat (l 0 0) (l 0 1) (o 0) (o 1) * (l 0 0 * l 0 1 - g_sh (l 0 0) (l 0 1) (o 2) (o 3)) - (l 0 0 * l 0 1 - (if o 0 * o 2 + o 1 * o 3 = 0 then g_sh (l 0 0) (l 0 1) (o 2) (o 3) else 0)) else if x = 5 then mc 53 7 + 1 else if x = 6 then l 0 0 * l 0 1 - mc 53 6 else -1), ?_, ?_⟩
  · unfold f_PG_plan
    rw [s_current hc, x_bd, x_one hc.2.1.2.1, x_lt, x_one hc.1.1, o0, o1, o2, o3, c_clashes hc.1.2 hg hk.2.2.2.1 hk.2.2.2.2.1 (by omega) (by omega), x_bd, q_w_id (x := x) (by omega) (by omega)]
    by_cases c0 : x = 0
    · rw [if_pos c0, if_pos c0, x_lt, x_one hc.1.1, o0, o1, c_isLawful hc.1.2 hg hk.2.2.2.1 hk.2.2.2.2.1, x_bd]
      unfold g_law
      split
      · rw [x_w1, if_neg (by decide)]; exact o_rt ⟨rfl, k_fc_id _, hc⟩
      · rw [x_w0, if_pos rfl]; exact o_rt ⟨rfl, k_fc_id _, hc⟩
    rw [if_neg c0, if_neg c0]
    by_cases c1 : x = 1
    · rw [if_pos c1, if_pos c1, p7]; exact o_rt ⟨rfl, k_fc_id _, hc⟩
    rw [if_neg c1, if_neg c1]
    by_cases c2 : x = 2
    · rw [if_pos c2, if_pos c2, p8]; exact o_rt ⟨rfl, k_fc_id _, hc⟩
    rw [if_neg c2, if_neg c2]
    by_cases c3 : x = 3
    · rw [if_pos c3, if_pos c3]; exact o_rt ⟨rfl, k_fc_id _, hc⟩
    rw [if_neg c3, if_neg c3]
    by_cases c4 : x = 4
    · rw [if_pos c4, if_pos c4, x_lt, x_one hc.1.1, c_points hc.1.2, x_bd, p7, p8]; exact o_rt ⟨rfl, k_fc_id _, hc⟩
    rw [if_neg c4, if_neg c4]
    by_cases c5 : x = 5
    · rw [if_pos c5, if_pos c5]; exact o_rt ⟨rfl, k_fc_id _, hc⟩
    rw [if_neg c5, if_neg c5]
    by_cases c6 : x = 6
    · rw [if_pos c6, if_pos c6, x_lt, x_one hc.1.1, c_points hc.1.2, x_bd]; exact o_rt ⟨rfl, k_fc_id _, hc⟩
    rw [if_neg c6, if_neg c6]
    exact o_rt ⟨rfl, k_fc_id _, hc⟩
  · unfold f_Mod_plan
    refine o_bd (s_layNow hk hm) fun _ m1 ⟨f1, k1, q1, _⟩ => ?_
    obtain ⟨t1, t2, t3, t4, t5, t6⟩ := q1
    obtain ⟨n0, n1, n2, n3⟩ := k_M_now k1
    rw [q_w_id (x := x) (by omega) (by omega)]
    by_cases c0 : x = 0
    · rw [if_pos c0, if_pos c0, x_rd (n := 69) (by decide) (by decide) (by decide), x_rd (n := 69) (by decide) (by decide) (by decide), n0, n1, m_isLawful k1.1 hg hk.2.2.2.1 hk.2.2.2.2.1, x_bd]
      unfold g_law
      split
      · rw [x_w1, if_neg (by decide)]; exact o_rt ⟨rfl, f1⟩
      · rw [x_w0, if_pos rfl]; exact o_rt ⟨rfl, f1⟩
    rw [if_neg c0, if_neg c0]
    by_cases c1 : x = 1
    · rw [if_pos c1, if_pos c1, t2]; exact o_rt ⟨rfl, f1⟩
    rw [if_neg c1, if_neg c1]
    by_cases c2 : x = 2
    · rw [if_pos c2, if_pos c2, t4]; exact o_rt ⟨rfl, f1⟩
    rw [if_neg c2, if_neg c2]
    by_cases c3 : x = 3
    · rw [if_pos c3, if_pos c3, t6]; exact o_rt ⟨rfl, f1⟩
    rw [if_neg c3, if_neg c3]
    by_cases c4 : x = 4
    · rw [if_pos c4, if_pos c4, m_points k1.1, x_bd, t2, t4, t6]
      refine o_rt ⟨congrArg q_w ?_, f1⟩
      omega
    rw [if_neg c4, if_neg c4]
    by_cases c5 : x = 5
    · rw [if_pos c5, if_pos c5]
      refine o_bd (m_layDepths k1.1 hg) fun _ m2 ⟨f2, d2, r2⟩ => ?_
      have f2' : k_fm m1 m2 := k_fm_dep fun c c1 _ _ _ _ _ => f2 c c1
      refine o_bd (m_greatestDepth (k_M_fr k1 f2').1 hg r2) fun G m3 ⟨e3, g1, g2, g3⟩ => ?_
      rw [e3, s_deepest hg hc.2.2.1 d2 g1.1 g2 g3]
      exact o_rt ⟨rfl, k_fm_tr f1 f2'⟩
    rw [if_neg c5, if_neg c5]
    by_cases c6 : x = 6
    · rw [if_pos c6, if_pos c6]
      refine o_bd (m_unordered hg k1.1) fun r m2 ⟨f2, d2, r2, e2⟩ => ?_
      rw [e2, s_ordered hg hc.2.2.1 d2]
      exact o_rt ⟨rfl, k_fm_tr f1 (k_fm_dep fun c c1 _ _ _ _ _ => f2 c c1)⟩
    rw [if_neg c6, if_neg c6]
    exact o_rt ⟨rfl, f1⟩
end q5
