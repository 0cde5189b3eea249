/-! QUESTIONS: point, plan -/
/-- the first point of a kind, or none -/
def f_1st (l : q_Mem) (X : Int → Prop) (r : Int) : Prop := (r = -1 ∧ ∀ p, g_pt l p → ¬ X p) ∨ (g_pt l r ∧ X r ∧ ∀ q, g_pt l q → q < r → ¬ X q)
theorem f_1st_u {l : q_Mem} {X : Int → Prop} {r r' : Int} (h : f_1st l X r) (h' : f_1st l X r') : r = r' := by
  rcases h with ⟨rfl, h⟩ | ⟨h1, h2, h3⟩ <;> rcases h' with ⟨rfl, h'⟩ | ⟨h1', h2', h3'⟩
  · rfl
  · exact absurd h2' (h r' h1')
  · exact absurd h2 (h' r h1)
  · refine Classical.byContradiction fun hne => ?_
    by_cases c : r < r'
    · exact h3' r h1 c h2
    · exact h3 r' h1' (by omega) h2'
theorem k_idx_lt {l : q_Mem} (hg : g_lw l) {p q : Int} (hp : g_pt l p) (hq : g_pt l q) (h : q < p) : k_idx l q < k_idx l p := by
  have h2 := hg.2.1
  have hp1 := hp.1
  have hq1 := hq.1
  have hp2 := hp.2
  have hq2 := hq.2
  unfold g_th at hp2 hq2
  unfold k_idx
  by_cases c : p / 10 = q / 10
  · rw [c]; omega
  · have e : (q / 10 + 1) * l 0 1 ≤ p / 10 * l 0 1 := Int.mul_le_mul_of_nonneg_right (by omega) (by omega)
    rw [Int.add_mul] at e
    omega
section q4
variable {l m : q_Mem} {o : Int → Int}
theorem c_point (hk : k_ok l o) (hc : k_C l o m) (x z : Int) (hx : q_32 x) (hz : q_32 z) : q_ok (f_PG_point x z m) (fun r m' => m' = m ∧ f_1st l (fun p => g_ce l (o 2) (o 3) p = x ∧ g_tk l (o 0) (o 1) p = z) r) := by
  have hg := hk.1
  have hRC := g_RC hg
  have hl := hk.2.2.1
  have hlat := g_lat_rg hg hk.2.2.2.1 hk.2.2.2.2.1
  unfold q_32 at hx hz
  unfold f_PG_point
  refine o_upF (fun n k (_ : Unit) => f_PG_point_l2 n x z k m) (fun k _ => 0 ≤ k ∧ ∀ q, g_pt l q → k_idx l q < k → ¬ (g_ce l (o 2) (o 3) q = x ∧ g_tk l (o 0) (o 1) q = z)) _ (k := 0) (e := l 0 0 * l 0 1) (s := ()) (by omega) (by omega) ⟨by omega, fun q hq h => by have := (k_idx_pt hg hq).1; omega⟩ ?_ ?_
  · intro n k _ hkk ⟨h0, he⟩ hn
    obtain ⟨hp, hidx⟩ := k_at_pt hg h0 hkk
    show q_ok (f_PG_point_b2 (f_PG_point_l2 n) x z k m) _
    unfold f_PG_point_b2 f_PG_point_b54
    rw [x_lt, x_one hc.1.1, c_points hc.1.2, x_bd, q_w_id (by omega) (by omega), q_w_id (x := k) (by omega) (by omega), if_neg (by omega), x_lt, x_one hc.1.1, c_pointAt hc.1.2 hg ⟨h0, by omega⟩, x_bd]
    revert hp hidx
    generalize k / l 0 1 * 10 + k % l 0 1 = p
    intro hp hidx
    have hp' := hp.1
    have hce := g_ce_55 hg hl.1 hl.2.1 hp
    have htk := g_tk_rg hg (o 0) (o 1) hp
    rw [x_rd (n := 100) (by omega) (by omega) (by decide), hc.2.2.2.1.2.1 p hp, q_w_id (by omega) (by omega), q_w_id (by omega) (by omega), x_rd (n := 100) (by omega) (by omega) (by decide), hc.2.2.2.1.1 p hp, q_w_id (by omega) (by omega), q_w_id (by omega) (by omega)]
    have next : ¬ (g_ce l (o 2) (o 3) p = x ∧ g_tk l (o 0) (o 1) p = z) → q_ok (f_PG_point_l2 n x z (k + 1) m) (fun r m' => m' = m ∧ f_1st l (fun p => g_ce l (o 2) (o 3) p = x ∧ g_tk l (o 0) (o 1) p = z) r) := by
      intro hno
      refine hn () ⟨by omega, fun q hq hlt => ?_⟩
      by_cases c : k_idx l q = k
      · have e1 := (k_idx_pt hg hq).2
        have e2 := (k_idx_pt hg hp).2
        rw [c] at e1
        rw [hidx] at e2
        rw [← e1, e2]
        exact hno
      · exact he q hq (by omega)
    by_cases c1 : g_ce l (o 2) (o 3) p = x
    · rw [if_pos c1]
      by_cases c2 : g_tk l (o 0) (o 1) p = z
      · rw [if_pos c2]
        exact o_rt ⟨rfl, Or.inr ⟨hp, ⟨c1, c2⟩, fun q hq hlt => he q hq (by have := k_idx_lt hg hp hq hlt; omega)⟩⟩
      · rw [if_neg c2]
        exact next fun h => c2 h.2
    · rw [if_neg c1]
      exact next fun h => c1 h.1
  · intro n _ ⟨h0, he⟩
    show q_ok (f_PG_point_b2 (f_PG_point_l2 n) x z _ m) _
    unfold f_PG_point_b2
    rw [x_lt, x_one hc.1.1, c_points hc.1.2, x_bd, if_pos (Int.le_refl _)]
    exact o_rt ⟨rfl, Or.inl ⟨rfl, fun p hp => he p hp (k_idx_pt hg hp).1.2⟩⟩
theorem m_point (hk : k_ok l o) (hm : k_M l o m) (x z : Int) (hx : q_32 x) (hz : q_32 z) : q_ok (f_Mod_point x z m) (fun r m' => k_fm m m' ∧ f_1st l (fun p => g_ce l (o 2) (o 3) p = x ∧ g_tk l (o 0) (o 1) p = z) r) := by
  have hg := hk.1
  have hl := hk.2.2.1
  have hlat := g_lat_rg hg hk.2.2.2.1 hk.2.2.2.2.1
  unfold q_32 at hx hz
  unfold f_Mod_point
  refine o_bd (s_layNow hk hm) fun _ m1 ⟨f1, k1, q1, _⟩ => ?_
  refine o_upF (fun n k (_ : Unit) => f_Mod_point_l6 n x z k m1) (fun k _ => 0 ≤ k ∧ ∀ q, g_pt l q → q < k → ¬ (g_ce l (o 2) (o 3) q = x ∧ g_tk l (o 0) (o 1) q = z)) _ (k := 0) (e := 100) (s := ()) (by omega) (by omega) ⟨by omega, fun q hq h => by have := hq.1; omega⟩ ?_ ?_
  · intro n p _ hkk ⟨h0, he⟩ hn
    show q_ok (f_Mod_point_b6 (f_Mod_point_l6 n) x z p m1) _
    unfold f_Mod_point_b6 f_Mod_point_b42
    rw [q_w_id (x := p) (by omega) (by omega), if_neg (by omega), m_isThere k1.1 hg ⟨h0, hkk⟩, x_bd, x_wi]
    simp only [x_i0]
    have next : ¬ (g_pt l p ∧ g_ce l (o 2) (o 3) p = x ∧ g_tk l (o 0) (o 1) p = z) → q_ok (f_Mod_point_l6 n x z (p + 1) m1) (fun r m' => k_fm m m' ∧ f_1st l (fun p => g_ce l (o 2) (o 3) p = x ∧ g_tk l (o 0) (o 1) p = z) r) := by
      intro hno
      refine hn () ⟨by omega, fun q hq hlt => ?_⟩
      by_cases c : q = p
      · subst c
        exact fun h => hno ⟨hq, h⟩
      · exact he q hq (by omega)
    by_cases ct : g_th (l 0 0) (l 0 1) p
    · have hp : g_pt l p := ⟨⟨h0, hkk⟩, ct⟩
      have hce := g_ce_55 hg hl.1 hl.2.1 hp
      have htk := g_tk_rg hg (o 0) (o 1) hp
      rw [if_neg (fun h => h ct), x_rd (n := 100) (by omega) (by omega) (by decide), q1.2.2.1 p hp, q_w_id (by omega) (by omega), q_w_id (by omega) (by omega), x_rd (n := 100) (by omega) (by omega) (by decide), q1.1 p hp, q_w_id (by omega) (by omega), q_w_id (by omega) (by omega)]
      by_cases c1 : g_ce l (o 2) (o 3) p = x
      · rw [if_pos c1]
        by_cases c2 : g_tk l (o 0) (o 1) p = z
        · rw [if_pos c2]
          exact o_rt ⟨f1, Or.inr ⟨hp, ⟨c1, c2⟩, fun q hq hlt => he q hq hlt⟩⟩
        · rw [if_neg c2]
          exact next fun h => c2 h.2.2
      · rw [if_neg c1]
        exact next fun h => c1 h.2.1
    · rw [if_pos ct]
      exact next fun h => ct h.1.2
  · intro n _ ⟨h0, he⟩
    show q_ok (f_Mod_point_b6 (f_Mod_point_l6 n) x z 100 m1) _
    unfold f_Mod_point_b6
    rw [if_pos (by decide)]
    exact o_rt ⟨f1, Or.inl ⟨rfl, fun p hp => he p hp hp.1.2⟩⟩
theorem b_point (hk : k_ok l o) {x z : Int} (hx : q_32 x) (hz : q_32 z) : k_both l o (f_PG_point x z) (f_Mod_point x z) := by
  intro mc mm hc hm
  obtain ⟨r, m1, e1, rfl, h1⟩ := c_point hk hc x z hx hz
  obtain ⟨r', m2, e2, f2, h2⟩ := m_point hk hm x z hx hz
  exact ⟨r, r', m1, m2, e1, e2, by rw [f_1st_u h1 h2], ⟨k_fc_id _, hc⟩, f2⟩
end q4
