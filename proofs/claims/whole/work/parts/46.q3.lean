/-! QUESTIONS: wrong, wave, point, plan -/
section q3
variable {l m : q_Mem} {o : Int → Int}
theorem m_wrongMany (hk : k_ok l o) (hm : k_M l o m) : q_ok (f_Mod_wrongMany m) (fun r m' => k_fm m m' ∧ k_M l o m' ∧ (0 ≤ r ∧ r ≤ 100) ∧ ∀ D V R, g_isD l D → (∀ p, g_pt l p → -1 ≤ D p) → f_V l D (fun p => 0 ≤ D p) (-1) (-1) V → k_run l o (o 5) R → r = g_ca l (f_wr l D V R)) := by
  unfold f_Mod_wrongMany
  refine o_bd (s_layNow hk hm) fun _ m1 ⟨f1, k1, p1, _⟩ => ?_
  refine o_bd (s_layRun hk k1 p1) fun _ m2 ⟨f2, k2, g2, r2⟩ => ?_
  refine o_bd (m_layValues k2.1 k2.2.1 hk.1 hk.2.1) fun _ m3 ⟨g3, d3, r3, v3, _⟩ => ?_
  have f3 : k_fm m2 m3 := k_fm_dep fun c c1 c2 c3 c4 c5 c6 => g3 c c1 c3 c5 c6
  have k3 := k_M_fr k2 f3
  have e111 : m3 111 = m2 111 := g3 111 (by decide) (by decide) (by decide) (by decide)
  have hc : f_Mod_wrongMany_l16 q_F 0 0 m3 = some (g_ca l (f_wr l (m3 106) (m3 110) (m3 111)), m3) := by
    refine o_cnt (fun n a k => f_Mod_wrongMany_l16 n a k m3) (fun k => decide (g_th (l 0 0) (l 0 1) k) && f_wr l (m3 106) (m3 110) (m3 111) k) 100 (by omega) ?_ ?_
    · intro n a k k0 k1 a0 a1
      show f_Mod_wrongMany_b16 (f_Mod_wrongMany_l16 n) a k m3 = _
      unfold f_Mod_wrongMany_b16 f_Mod_wrongMany_b36
      rw [q_w_id (by omega) (by omega), if_neg (by omega), m_isWrong hk.1 k3.1 r3 ⟨k0, by omega⟩, x_bd, x_wi]
      simp only [x_i0]
      by_cases c : (decide (g_th (l 0 0) (l 0 1) k) && f_wr l (m3 106) (m3 110) (m3 111) k) = true
      · rw [if_neg (fun h => h c), if_pos c]
      · rw [if_pos c, if_neg c]
    · intro n
      show f_Mod_wrongMany_b16 (f_Mod_wrongMany_l16 n) _ 100 m3 = _
      unfold f_Mod_wrongMany_b16
      rw [if_pos (by decide)]
      rfl
  rw [hc]
  refine o_some ⟨k_fm_tr f1 (k_fm_tr f2 f3), k3, g_ca_rg _ _, fun D V R hD hDr hV hR => g_ca_congr fun p hp => ?_⟩
  rw [e111]
  exact (f_wr_same hk.1 hk.2.1 hD d3 (fun p hp => (r3 p hp).1) hV v3 (fun p hp => by have := g_tk_rg hk.1 (o 0) (o 1) hp; omega) hR r2 p hp).symm
theorem b_wrong (hk : k_ok l o) : k_both l o f_PG_wrong f_Mod_wrong := by
  intro mc mm hc hm
  obtain ⟨_, m1, e1, f1, f2, c1, _, r1⟩ := s_freshenRun hk hc
  obtain ⟨r, m2, e2, g1, k2, _, hr⟩ := m_wrongMany hk hm
  refine ⟨g_ca l (f_wr l (m1 54) (m1 74) (m1 75)), r, m1, m2, ?_, ?_, ?_, ⟨f1, c1⟩, g1⟩
  · unfold f_PG_wrong
    rw [e1, x_bd, c_countWrong hk.1 c1, x_bd]
    rfl
  · unfold f_Mod_wrong
    rw [e2, x_bd]
    rfl
  · rw [hr (m1 54) (m1 74) (m1 75) c1.2.2.1.1 (fun p hp => (c1.2.2.1.2.2.1 p hp).1) c1.2.2.2.2.1 r1]
theorem m_waveAt (hg : g_lw l) (h : g_ML m l) {P Q a b x : Int} (hp : k_plan l m P Q a b) (hP : -9 ≤ P ∧ P ≤ 9) (hQ : -9 ≤ Q ∧ Q ≤ 9) (hx : q_32 x) : f_Mod_waveAt x m = some (g_ca l (fun q => g_tk l P Q q == x), m) := by
  have hlat := g_lat_rg hg hP hQ
  unfold q_32 at hx
  unfold f_Mod_waveAt
  refine o_cnt (fun n a k => f_Mod_waveAt_l4 n x a k m) (fun k => decide (g_th (l 0 0) (l 0 1) k) && (g_tk l P Q k == x)) 100 (by omega) ?_ ?_
  · intro n a k k0 k1 a0 a1
    show f_Mod_waveAt_b4 (f_Mod_waveAt_l4 n) x a k m = _
    unfold f_Mod_waveAt_b4 f_Mod_waveAt_b33 f_Mod_waveAt_b34
    rw [q_w_id (by omega) (by omega), if_neg (by omega), m_isThere h hg ⟨k0, by omega⟩, x_bd, x_wi]
    simp only [x_i0]
    by_cases ct : g_th (l 0 0) (l 0 1) k
    · have hpt : g_pt l k := ⟨⟨k0, k1⟩, ct⟩
      have htk := g_tk_rg hg P Q hpt
      rw [if_neg (fun h => h ct), x_rd (n := 100) (by omega) (by omega) (by decide), hp.1 k hpt, q_w_id (by omega) (by omega), q_w_id (x := x) (by omega) (by omega), decide_eq_true ct, Bool.true_and]
      by_cases c : g_tk l P Q k = x
      · rw [if_pos c, if_pos (by rw [c]; exact beq_self_eq_true x)]
      · rw [if_neg c, if_neg (fun h => c (eq_of_beq h))]
    · rw [if_pos ct, decide_eq_false ct, Bool.false_and]
      rfl
  · intro n
    show f_Mod_waveAt_b4 (f_Mod_waveAt_l4 n) x _ 100 m = _
    unfold f_Mod_waveAt_b4
    rw [if_pos (by decide)]
    rfl
theorem b_wave (hk : k_ok l o) {x : Int} (hx : q_32 x) : k_both l o (f_PG_wave x) (f_Mod_wave x) := by
  refine k_both_of fun mc mm hc hm => ?_
  have hlat := g_lat_rg hk.1 hk.2.2.2.1 hk.2.2.2.2.1
  have hx' := hx
  unfold q_32 at hx'
  obtain ⟨p1, p2, p3, p4, p5, p6, p7, p8, p9⟩ := hc.2.2.2.1
  by_cases c : 0 ≤ x
  · refine ⟨q_w (g_ca l (fun q => g_tk l (o 0) (o 1) q == x)), ?_, ?_⟩
    · unfold f_PG_wave
      rw [q_w_id (x := x) (by omega) (by omega), if_pos c, p7, q_w_id (by omega) (by omega)]
      by_cases c2 : g_lat (l 0 0) (l 0 1) (o 0) (o 1) ≤ x
      · rw [if_pos c2]
        have : g_ca l (fun q => g_tk l (o 0) (o 1) q == x) = 0 := by
          refine Classical.byContradiction fun h => ?_
          obtain ⟨p, hp, hpx⟩ := g_ca_ex h
          have := g_tk_rg hk.1 (o 0) (o 1) hp
          have := eq_of_beq hpx
          omega
        rw [this]
        exact o_rt ⟨rfl, k_fc_id _, hc⟩
      · rw [if_neg c2, x_rd (n := 163) c (by omega) (by decide), p5 x c (by omega)]
        exact o_rt ⟨rfl, k_fc_id _, hc⟩
    · unfold f_Mod_wave
      rw [q_w_id (x := x) (by omega) (by omega), if_pos c]
      refine o_bd (s_layNow hk hm) fun _ m1 ⟨f1, k1, q1, _⟩ => ?_
      rw [m_waveAt hk.1 k1.1 q1 hk.2.2.2.1 hk.2.2.2.2.1 hx, x_bd]
      exact o_rt ⟨rfl, f1⟩
  · refine ⟨-1, ?_, ?_⟩
    · unfold f_PG_wave
      rw [q_w_id (x := x) (by omega) (by omega), if_neg c]
      exact o_rt ⟨rfl, k_fc_id _, hc⟩
    · unfold f_Mod_wave
      rw [q_w_id (x := x) (by omega) (by omega), if_neg c]
      exact o_rt ⟨rfl, k_fm_id _⟩
end q3
