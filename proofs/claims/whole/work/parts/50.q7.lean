/-! QUESTIONS: critical, flow -/
section q7
variable {l m : q_Mem} {o : Int → Int}
theorem c_critical (hg : g_lw l) (hb : k_web l m) : f_PG_critical m = some (g_ca l (fun p => decide (0 ≤ m 55 p ∧ m 54 p + m 55 p = m 53 7)), m) := by
  obtain ⟨b1, b2, b3, b4, ⟨o1, o2, o3, o4, o5⟩, b6, b7, b8, b9⟩ := hb
  have hc : f_Web_onLongestRow m = some (g_ca l (fun p => decide (0 ≤ m 55 p ∧ m 54 p + m 55 p = m 53 7)), m) := by
    unfold f_Web_onLongestRow
    refine o_cnt (fun n a k => f_Web_onLongestRow_l4 n a k m) (fun k => decide (0 ≤ m 55 (m 56 k) ∧ m 54 (m 56 k) + m 55 (m 56 k) = m 53 7)) (m 53 6).toNat (by omega) ?_ ?_
    · intro n a k k0 k1 a0 a1
      have hp := o2 k k0 (by omega)
      have hp' := hp.1
      have r3 := b3 _ hp
      have r4 := b4 _ hp
      show f_Web_onLongestRow_b4 (f_Web_onLongestRow_l4 n) a k m = _
      unfold f_Web_onLongestRow_b4 f_Web_onLongestRow_b52
      rw [q_w_id (by omega) (by omega), q_w_id (x := k) (by omega) (by omega), if_neg (by omega), x_rd (n := 100) k0 (by omega) (by decide), x_rd (n := 100) (by omega) (by omega) (by decide), q_w_id (by omega) (by omega), x_rd (n := 100) (by omega) (by omega) (by decide), x_rd (n := 100) (by omega) (by omega) (by decide), q_w_id (by omega) (by omega), q_w_id (x := m 53 7) (by omega) (by omega)]
      by_cases c : m 55 (m 56 k) = -1
      · rw [if_pos c, if_neg (show ¬ decide (0 ≤ m 55 (m 56 k) ∧ m 54 (m 56 k) + m 55 (m 56 k) = m 53 7) = true by simp; omega), Int.add_zero]
      · rw [if_neg c]
        by_cases c2 : m 54 (m 56 k) + m 55 (m 56 k) = m 53 7
        · rw [if_pos c2, if_pos (show decide (0 ≤ m 55 (m 56 k) ∧ m 54 (m 56 k) + m 55 (m 56 k) = m 53 7) = true by simp; omega)]
        · rw [if_neg c2, if_neg (show ¬ decide (0 ≤ m 55 (m 56 k) ∧ m 54 (m 56 k) + m 55 (m 56 k) = m 53 7) = true by simp; omega), Int.add_zero]
    · intro n
      show f_Web_onLongestRow_b4 (f_Web_onLongestRow_l4 n) _ _ m = _
      unfold f_Web_onLongestRow_b4
      rw [show (((m 53 6).toNat : Nat) : Int) = m 53 6 by omega, if_pos (Int.le_refl _)]
      have e := g_ca_enum (l := l) (ord := m 56) (fun p => decide (0 ≤ m 55 p ∧ m 54 p + m 55 p = m 53 7)) (m 53 6).toNat (fun i i0 i1 => o2 i i0 (by omega)) (fun i j i0 ij jn => o3 i j i0 ij (by omega))
      have e2 : g_ca l (fun p => f_am (m 56) (m 53 6).toNat p && decide (0 ≤ m 55 p ∧ m 54 p + m 55 p = m 53 7)) = g_ca l (fun p => decide (0 ≤ m 55 p ∧ m 54 p + m 55 p = m 53 7)) := by
        refine g_ca_congr fun p hp => ?_
        by_cases c : 0 ≤ m 54 p
        · have := (o4 p hp).mp (decide_eq_true c)
          obtain ⟨i, i0, i1, ei⟩ := this
          rw [f_am_iff.mpr ⟨i, i0, by omega, ei⟩, Bool.true_and]
        · have := b2.2 p hp (by omega)
          rw [decide_eq_false (by omega), Bool.and_false]
      rw [e, e2]
      rfl
  unfold f_PG_critical
  rw [hc, x_bd]
  rfl
theorem m_critical (hg : g_lw l) (h : g_ML m l) : q_ok (f_Mod_critical m) (fun r m' => k_fm m m' ∧ ∃ D H G, g_isD l D ∧ g_isH l D H ∧ -1 ≤ G ∧ (∀ p, g_pt l p → D p ≤ G) ∧ (G = -1 ∨ ∃ p, g_pt l p ∧ D p = G) ∧ r = g_ca l (fun p => decide (0 ≤ H p ∧ D p + H p = G))) := by
  unfold f_Mod_critical
  refine o_bd (m_layHeights h hg) fun _ m1 ⟨f1, d1, e1, r1, r2⟩ => ?_
  have hf : k_fm m m1 := k_fm_dep fun c c1 c2 _ _ _ _ => f1 c c1 c2
  have h1 : g_ML m1 l := g_ML_fr h fun c _ _ => f1 c (by omega) (by omega)
  obtain ⟨G, m1', eG, rfl, g1, g2, g3⟩ := m_greatestDepth h1 hg r1
  have hc : f_Mod_critical_l8 q_F 0 0 m1' = some (g_ca l (fun p => decide (0 ≤ m1' 107 p ∧ m1' 106 p + m1' 107 p = G)), m1') := by
    refine o_cnt (fun n a k => f_Mod_critical_l8 n a k m1') (fun k => decide (g_th (l 0 0) (l 0 1) k) && decide (0 ≤ m1' 107 k ∧ m1' 106 k + m1' 107 k = G)) 100 (by omega) ?_ ?_
    · intro n a k k0 k1 a0 a1
      show f_Mod_critical_b8 (f_Mod_critical_l8 n) a k m1' = _
      unfold f_Mod_critical_b8 f_Mod_critical_b56 f_Mod_critical_b57
      rw [q_w_id (by omega) (by omega), if_neg (by omega), m_isThere h1 hg ⟨k0, by omega⟩, x_bd, x_wi]
      simp only [x_i0]
      by_cases ct : g_th (l 0 0) (l 0 1) k
      · have hp : g_pt l k := ⟨⟨k0, k1⟩, ct⟩
        have a1 := r1 k hp
        have a2 := r2 k hp
        rw [if_neg (fun h => h ct), x_rd (n := 100) (by omega) (by omega) (by decide), x_rd (n := 100) (by omega) (by omega) (by decide), x_rd (n := 100) (by omega) (by omega) (by decide), q_w_id (x := m1' 107 k) (by omega) (by omega), eG, x_bd, q_w_id (by omega) (by omega), q_w_id (by omega) (by omega), decide_eq_true ct, Bool.true_and]
        by_cases c : m1' 107 k < 0
        · rw [if_pos c, if_neg (show ¬ decide (0 ≤ m1' 107 k ∧ m1' 106 k + m1' 107 k = G) = true by simp; omega)]
        · rw [if_neg c]
          by_cases c2 : m1' 106 k + m1' 107 k = G
          · rw [if_pos c2, if_pos (show decide (0 ≤ m1' 107 k ∧ m1' 106 k + m1' 107 k = G) = true by simp; omega)]
          · rw [if_neg c2, if_neg (show ¬ decide (0 ≤ m1' 107 k ∧ m1' 106 k + m1' 107 k = G) = true by simp; omega)]
      · rw [if_pos ct, decide_eq_false ct, Bool.false_and]
        rfl
    · intro n
      show f_Mod_critical_b8 (f_Mod_critical_l8 n) _ 100 m1' = _
      unfold f_Mod_critical_b8
      rw [if_pos (by decide)]
      rfl
  rw [hc]
  exact o_some ⟨hf, m1' 106, m1' 107, G, d1, e1, g1.1, g2, g3, rfl⟩
theorem b_critical (hk : k_ok l o) : k_both l o f_PG_critical f_Mod_critical := by
  intro mc mm hc hm
  obtain ⟨r, m2, e2, f2, D, H, G, d1, d2, d3, d4, d5, er⟩ := m_critical hk.1 hm.1
  refine ⟨_, r, mc, m2, c_critical hk.1 hc.2.2.1, e2, ?_, ⟨k_fc_id _, hc⟩, f2⟩
  have hD := g_D_uniq hk.1 hc.2.2.1.1 d1
  have hH := g_H_uniq hk.1 hD hc.2.2.1.2.1 d2
  rw [s_deepest hk.1 hc.2.2.1 d1 d3 d4 d5, er]
  exact congrArg q_w (g_ca_congr fun p hp => by rw [hD p hp, hH p hp])
end q7
