/-! QUESTION: busy, its ticks -/
section q10
variable {l m : q_Mem} {o : Int → Int}
theorem m_firstTick (hk : k_ok l o) (hm : k_M l o m) (hpl : k_plan l m (o 0) (o 1) (o 2) (o 3)) {x : Int} (h0 : 0 ≤ x) (h1 : x < g_cc l (o 2) (o 3)) (hx : q_32 x) : q_ok (f_Mod_firstTick x m) (fun r m' => m' = m ∧ f_lo l o x r) := by
  have hg := hk.1
  have hl := hk.2.2.1
  have hlat := g_lat_rg hg hk.2.2.2.1 hk.2.2.2.2.1
  unfold q_32 at hx
  obtain ⟨q, hq, eq⟩ := g_ce_onto h0 h1
  unfold f_Mod_firstTick
  refine o_upF (fun n k (s : Int) => f_Mod_firstTick_l6 n x s k m) (fun k s => 0 ≤ k ∧ (0 ≤ s ∧ s ≤ 1000000) ∧ (s = 1000000 ∨ ∃ p, g_pt l p ∧ g_ce l (o 2) (o 3) p = x ∧ g_tk l (o 0) (o 1) p = s) ∧ ∀ p, g_pt l p → p < k → g_ce l (o 2) (o 3) p = x → s ≤ g_tk l (o 0) (o 1) p) _ (k := 0) (e := 100) (s := 1000000) (by omega) (by omega) ⟨by omega, by omega, Or.inl rfl, fun p hp hlt => by have := hp.1; omega⟩ ?_ ?_
  · intro n k s hkk ⟨k0, hs, ha, hb⟩ hn
    show q_ok (f_Mod_firstTick_b6 (f_Mod_firstTick_l6 n) x s k m) _
    unfold f_Mod_firstTick_b6 f_Mod_firstTick_b43 f_Mod_firstTick_b44
    rw [q_w_id (by omega) (by omega), if_neg (by omega), m_isThere hm.1 hg ⟨k0, by omega⟩, x_bd, x_wi]
    simp only [x_i0]
    have skip : ¬ (g_pt l k ∧ g_ce l (o 2) (o 3) k = x) → q_ok (f_Mod_firstTick_l6 n x s (k + 1) m) (fun r m' => m' = m ∧ f_lo l o x r) := by
      intro hno
      refine hn s ⟨by omega, hs, ha, fun p hp hlt hpx => hb p hp ?_ hpx⟩
      by_cases c : p = k
      · subst c; exact absurd ⟨hp, hpx⟩ hno
      · omega
    by_cases ct : g_th (l 0 0) (l 0 1) k
    · have hp : g_pt l k := ⟨⟨k0, hkk⟩, ct⟩
      have hce := g_ce_55 hg hl.1 hl.2.1 hp
      have htk := g_tk_rg hg (o 0) (o 1) hp
      rw [if_neg (fun h => h ct), x_rd (n := 100) (by omega) (by omega) (by decide), hpl.2.2.1 k hp, q_w_id (by omega) (by omega), q_w_id (x := x) (by omega) (by omega)]
      by_cases c : g_ce l (o 2) (o 3) k = x
      · rw [if_pos c, x_rd (n := 100) (by omega) (by omega) (by decide), hpl.1 k hp, m_less (by omega) (by omega), x_bd]
        refine hn (min s (g_tk l (o 0) (o 1) k)) ⟨by omega, by omega, ?_, fun p hpp hlt hpx => ?_⟩
        · by_cases c2 : s ≤ g_tk l (o 0) (o 1) k
          · rw [show min s (g_tk l (o 0) (o 1) k) = s by omega]; exact ha
          · exact Or.inr ⟨k, hp, c, by omega⟩
        · by_cases c2 : p = k
          · rw [c2]; omega
          · have := hb p hpp (by omega) hpx; omega
      · rw [if_neg c]
        exact skip fun h => c h.2
    · rw [if_pos ct]
      exact skip fun h => ct h.1.2
  · intro n s ⟨k0, hs, ha, hb⟩
    show q_ok (f_Mod_firstTick_b6 (f_Mod_firstTick_l6 n) x s 100 m) _
    unfold f_Mod_firstTick_b6
    rw [if_pos (by decide)]
    have hq2 := hb q hq hq.1.2 eq
    have hqt := g_tk_rg hg (o 0) (o 1) hq
    rcases ha with ha | ha
    · omega
    · exact o_rt ⟨rfl, ha, fun p hp hpx => hb p hp hp.1.2 hpx⟩
theorem m_lastTick (hk : k_ok l o) (hm : k_M l o m) (hpl : k_plan l m (o 0) (o 1) (o 2) (o 3)) {x : Int} (h0 : 0 ≤ x) (h1 : x < g_cc l (o 2) (o 3)) (hx : q_32 x) : q_ok (f_Mod_lastTick x m) (fun r m' => m' = m ∧ f_hi l o x r) := by
  have hg := hk.1
  have hl := hk.2.2.1
  have hlat := g_lat_rg hg hk.2.2.2.1 hk.2.2.2.2.1
  unfold q_32 at hx
  obtain ⟨q, hq, eq⟩ := g_ce_onto h0 h1
  unfold f_Mod_lastTick
  refine o_upF (fun n k (s : Int) => f_Mod_lastTick_l4 n x s k m) (fun k s => 0 ≤ k ∧ (-1 ≤ s ∧ s ≤ 1000000) ∧ (s = -1 ∨ ∃ p, g_pt l p ∧ g_ce l (o 2) (o 3) p = x ∧ g_tk l (o 0) (o 1) p = s) ∧ ∀ p, g_pt l p → p < k → g_ce l (o 2) (o 3) p = x → g_tk l (o 0) (o 1) p ≤ s) _ (k := 0) (e := 100) (s := -1) (by omega) (by omega) ⟨by omega, by omega, Or.inl rfl, fun p hp hlt => by have := hp.1; omega⟩ ?_ ?_
  · intro n k s hkk ⟨k0, hs, ha, hb⟩ hn
    show q_ok (f_Mod_lastTick_b4 (f_Mod_lastTick_l4 n) x s k m) _
    unfold f_Mod_lastTick_b4 f_Mod_lastTick_b41 f_Mod_lastTick_b42
    rw [q_w_id (by omega) (by omega), if_neg (by omega), m_isThere hm.1 hg ⟨k0, by omega⟩, x_bd, x_wi]
    simp only [x_i0]
    have skip : ¬ (g_pt l k ∧ g_ce l (o 2) (o 3) k = x) → q_ok (f_Mod_lastTick_l4 n x s (k + 1) m) (fun r m' => m' = m ∧ f_hi l o x r) := by
      intro hno
      refine hn s ⟨by omega, hs, ha, fun p hp hlt hpx => hb p hp ?_ hpx⟩
      by_cases c : p = k
      · subst c; exact absurd ⟨hp, hpx⟩ hno
      · omega
    by_cases ct : g_th (l 0 0) (l 0 1) k
    · have hp : g_pt l k := ⟨⟨k0, hkk⟩, ct⟩
      have hce := g_ce_55 hg hl.1 hl.2.1 hp
      have htk := g_tk_rg hg (o 0) (o 1) hp
      rw [if_neg (fun h => h ct), x_rd (n := 100) (by omega) (by omega) (by decide), hpl.2.2.1 k hp, q_w_id (by omega) (by omega), q_w_id (x := x) (by omega) (by omega)]
      by_cases c : g_ce l (o 2) (o 3) k = x
      · rw [if_pos c, x_rd (n := 100) (by omega) (by omega) (by decide), hpl.1 k hp, m_more (by omega) (by omega), x_bd]
        refine hn (max s (g_tk l (o 0) (o 1) k)) ⟨by omega, by omega, ?_, fun p hpp hlt hpx => ?_⟩
        · by_cases c2 : g_tk l (o 0) (o 1) k ≤ s
          · rw [show max s (g_tk l (o 0) (o 1) k) = s by omega]; exact ha
          · exact Or.inr ⟨k, hp, c, by omega⟩
        · by_cases c2 : p = k
          · rw [c2]; omega
          · have := hb p hpp (by omega) hpx; omega
      · rw [if_neg c]
        exact skip fun h => c h.2
    · rw [if_pos ct]
      exact skip fun h => ct h.1.2
  · intro n s ⟨k0, hs, ha, hb⟩
    show q_ok (f_Mod_lastTick_b4 (f_Mod_lastTick_l4 n) x s 100 m) _
    unfold f_Mod_lastTick_b4
    rw [if_pos (by decide)]
    have hq2 := hb q hq hq.1.2 eq
    have hqt := g_tk_rg hg (o 0) (o 1) hq
    rcases ha with ha | ha
    · omega
    · exact o_rt ⟨rfl, ha, fun p hp hpx => hb p hp hp.1.2 hpx⟩
theorem c_lastTickOf (hk : k_ok l o) (hc : k_C l o m) {x : Int} (h0 : 0 ≤ x) (h1 : x < g_cc l (o 2) (o 3)) (hx : q_32 x) : q_ok (f_Plac_lastTickOf x m) (fun r m' => m' = m ∧ f_hi l o x r) := by
  have hg := hk.1
  have hl := hk.2.2.1
  have hRC := g_RC hg
  unfold q_32 at hx
  obtain ⟨q, hq, eq⟩ := g_ce_onto h0 h1
  obtain ⟨p1, p2, p3, p4, p5, p6, p7, p8, p9⟩ := hc.2.2.2.1
  unfold f_Plac_lastTickOf
  rw [p6]
  refine o_while (fun n (k : Int) => f_Plac_lastTickOf_l7 n x k m) (fun k => (-1 ≤ k ∧ k < l 0 0 * l 0 1) ∧ ∀ i, k < i → i < l 0 0 * l 0 1 → g_ce l (o 2) (o 3) (m 64 i) ≠ x) (fun k => (k + 1).toNat) _ ?_ q_F (l 0 0 * l 0 1 - 1) (by show _ < 20000; omega) ⟨by omega, fun i i0 i1 => by omega⟩
  intro n k ⟨hkk, he⟩ hn
  show q_ok (f_Plac_lastTickOf_b7 (f_Plac_lastTickOf_l7 n) x k m) _
  unfold f_Plac_lastTickOf_b7
  rw [q_w_id (x := k) (by omega) (by omega)]
  by_cases ck : k < 0
  · obtain ⟨i, i0, i1, ei⟩ := p4.2.1 q hq
    exact absurd (by rw [ei]; exact eq) (he i (by omega) i1)
  · have hp := p4.1 k (by omega) (by omega)
    have hp' := hp.1
    have hce := g_ce_55 hg hl.1 hl.2.1 hp
    rw [if_neg ck, x_rd (n := 100) (by omega) (by omega) (by decide), x_rd (n := 100) (by omega) (by omega) (by decide), p2 _ hp, q_w_id (by omega) (by omega), q_w_id (x := x) (by omega) (by omega)]
    by_cases c : g_ce l (o 2) (o 3) (m 64 k) = x
    · rw [if_pos c, x_rd (n := 100) (by omega) (by omega) (by decide), x_rd (n := 100) (by omega) (by omega) (by decide), p1 _ hp]
      refine o_rt ⟨rfl, ⟨_, hp, c, rfl⟩, fun p hpp hpx => ?_⟩
      obtain ⟨i, i0, i1, ei⟩ := p4.2.1 p hpp
      by_cases ci : k < i
      · exact absurd (by rw [ei]; exact hpx) (he i ci i1)
      · by_cases ck : i = k
        · rw [← ei, ck]; exact Int.le_refl _
        · have := p4.2.2 i k i0 (by omega) (by omega)
          rw [ei] at this
          omega
    · rw [if_neg c]
      refine hn (k + -1) ⟨by omega, fun i i0 i1 => ?_⟩ (by omega)
      by_cases ck : i = k
      · rw [ck]; exact c
      · exact he i (by omega) i1
end q10
