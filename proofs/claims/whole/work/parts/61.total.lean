/-! QUESTION: total -/
/-- the first of the greatest, among those that are so -/
def f_gr (l : q_Mem) (A : Int → Prop) (V : Int → Int) (r : Int) : Prop := (r = -1 ∧ ∀ p, g_pt l p → ¬ A p) ∨ (g_pt l r ∧ A r ∧ ∀ q, g_pt l q → A q → q_w (V q) ≤ q_w (V r) ∧ (q < r → q_w (V q) < q_w (V r)))
theorem f_gr_u {l : q_Mem} {A : Int → Prop} {V : Int → Int} {r r' : Int} (h : f_gr l A V r) (h' : f_gr l A V r') : r = r' := by
  rcases h with ⟨rfl, h⟩ | ⟨h1, h2, h3⟩ <;> rcases h' with ⟨rfl, h'⟩ | ⟨h1', h2', h3'⟩
  · rfl
  · exact absurd h2' (h r' h1')
  · exact absurd h2 (h' r h1)
  · have a := h3 r' h1' h2'
    have b := h3' r h1 h2
    refine Classical.byContradiction fun hne => ?_
    by_cases c : r < r'
    · have := b.2 c; omega
    · have := a.2 (by omega); omega
/-- a value is least, as it is read -/
def f_le (l : q_Mem) (A : Int → Prop) (V : Int → Int) (x : Int) : Prop := (∃ p, g_pt l p ∧ A p ∧ q_w x = q_w (V p)) ∧ ∀ q, g_pt l q → A q → q_w x ≤ q_w (V q)
theorem f_le_u {l : q_Mem} {A : Int → Prop} {V : Int → Int} {x x' : Int} (h : f_le l A V x) (h' : f_le l A V x') : q_w x = q_w x' := by
  obtain ⟨⟨p, hp, ha, e⟩, h1⟩ := h
  obtain ⟨⟨p', hp', ha', e'⟩, h1'⟩ := h'
  have := h1 p' hp' ha'
  have := h1' p hp ha
  omega
section total
variable {l m : q_Mem} {o : Int → Int}
theorem c_sumOf (hg : g_lw l) (hb : k_web l m) {v : Int} (hv : 0 ≤ v ∧ v < 3) : f_PG_sumOf v m = some (g_sa l (fun p => if 0 ≤ m 54 p then m 74 (100 * v + p) else 0), m) := by
  obtain ⟨b1, b2, b3, b4, ⟨o1, o2, o3, o4, o5⟩, b6, b7, b8, b9⟩ := hb
  unfold f_PG_sumOf
  refine o_sum (fun n a k => f_PG_sumOf_l4 n v a k m) (fun k => m 74 (100 * v + m 56 k)) (m 53 6).toNat (by omega) ?_ ?_
  · intro n a k k0 k1
    have hp := (o2 k k0 (by omega)).1
    show f_PG_sumOf_b4 (f_PG_sumOf_l4 n) v a k m = _
    unfold f_PG_sumOf_b4
    rw [q_w_id (by omega) (by omega), q_w_id (x := k) (by omega) (by omega), if_neg (by omega), x_rd (n := 100) k0 (by omega) (by decide), show v * 100 = 100 * v by omega, x_rd (n := 300) (by omega) (by omega) (by decide)]
  · intro n
    show f_PG_sumOf_b4 (f_PG_sumOf_l4 n) v _ _ m = _
    unfold f_PG_sumOf_b4
    rw [show (((m 53 6).toNat : Nat) : Int) = m 53 6 by omega, if_pos (Int.le_refl _)]
    have e := g_sa_enum (l := l) (ord := m 56) (F := fun p => m 74 (100 * v + p)) (n := (m 53 6).toNat) (fun i i0 i1 => o2 i i0 (by omega)) (fun i j i0 ij jn => o3 i j i0 ij (by omega))
    have e2 : g_sa l (fun p => if f_am (m 56) (m 53 6).toNat p = true then m 74 (100 * v + p) else 0) = g_sa l (fun p => if 0 ≤ m 54 p then m 74 (100 * v + p) else 0) := by
      refine g_sa_congr fun p hp => ?_
      by_cases c : 0 ≤ m 54 p
      · obtain ⟨i, i0, i1, ei⟩ := (o4 p hp).mp (decide_eq_true c)
        rw [if_pos c, if_pos (f_am_iff.mpr ⟨i, i0, by omega, ei⟩)]
      · rw [if_neg c, if_neg]
        intro h
        obtain ⟨i, i0, i1, ei⟩ := f_am_iff.mp h
        exact c (of_decide_eq_true ((o4 p hp).mpr ⟨i, i0, by omega, ei⟩))
    rw [e, e2]
    rfl
theorem c_leastOf (hg : g_lw l) (hb : k_web l m) {v : Int} (hv : 0 ≤ v ∧ v < 3) (hne : ∃ p, g_pt l p ∧ 0 ≤ m 54 p) : q_ok (f_PG_leastOf v m) (fun r m' => m' = m ∧ f_le l (fun p => 0 ≤ m 54 p) (fun p => m 74 (100 * v + p)) r) := by
  obtain ⟨b1, b2, b3, b4, ⟨o1, o2, o3, o4, o5⟩, b6, b7, b8, b9⟩ := hb
  unfold f_PG_leastOf
  refine o_upF (fun n k (s : Int) => f_PG_leastOf_l6 n v s k m) (fun k s => 0 ≤ k ∧ (∀ i, 0 ≤ i → i < k → q_w s ≤ q_w (m 74 (100 * v + m 56 i))) ∧ (s = 2147483647 ∨ ∃ i, 0 ≤ i ∧ i < k ∧ q_w s = q_w (m 74 (100 * v + m 56 i)))) _ (k := 0) (e := m 53 6) (s := 2147483647) (by omega) (by omega) ⟨by omega, fun i i0 i1 => by omega, Or.inl rfl⟩ ?_ ?_
  · intro n k s hk ⟨k0, h1, h2⟩ hn
    have hp := (o2 k k0 hk).1
    show q_ok (f_PG_leastOf_b6 (f_PG_leastOf_l6 n) v s k m) _
    unfold f_PG_leastOf_b6
    rw [q_w_id (by omega) (by omega), q_w_id (x := k) (by omega) (by omega), if_neg (by omega), x_rd (n := 100) k0 (by omega) (by decide), show v * 100 = 100 * v by omega, x_rd (n := 300) (by omega) (by omega) (by decide)]
    unfold q_min
    by_cases c : q_w (m 74 (100 * v + m 56 k)) < q_w s
    · rw [if_pos c]
      refine hn _ ⟨by omega, fun i i0 i1 => ?_, Or.inr ⟨k, k0, by omega, rfl⟩⟩
      by_cases ck : i = k
      · rw [ck]; exact Int.le_refl _
      · have := h1 i i0 (by omega); omega
    · rw [if_neg c]
      refine hn s ⟨by omega, fun i i0 i1 => ?_, ?_⟩
      · by_cases ck : i = k
        · rw [ck]; omega
        · exact h1 i i0 (by omega)
      · rcases h2 with h2 | ⟨i, i0, i1, e⟩
        · exact Or.inl h2
        · exact Or.inr ⟨i, i0, by omega, e⟩
  · intro n s ⟨k0, h1, h2⟩
    show q_ok (f_PG_leastOf_b6 (f_PG_leastOf_l6 n) v s (m 53 6) m) _
    unfold f_PG_leastOf_b6
    rw [if_pos (Int.le_refl _)]
    have hall : ∀ q, g_pt l q → 0 ≤ m 54 q → q_w s ≤ q_w (m 74 (100 * v + q)) := by
      intro q hq hd
      obtain ⟨i, i0, i1, ei⟩ := (o4 q hq).mp (decide_eq_true hd)
      rw [← ei]
      exact h1 i i0 i1
    refine o_rt ⟨rfl, ?_, hall⟩
    rcases h2 with h2 | ⟨i, i0, i1, e⟩
    · obtain ⟨p, hp, hd⟩ := hne
      refine ⟨p, hp, hd, ?_⟩
      have a := hall p hp hd
      have b := q_w_lt (m 74 (100 * v + p))
      show q_w s = q_w (m 74 (100 * v + p))
      rw [h2, q_w_id (by decide) (by decide)] at a ⊢
      omega
    · exact ⟨m 56 i, o2 i i0 i1, of_decide_eq_true ((o4 _ (o2 i i0 i1)).mpr ⟨i, i0, i1, rfl⟩), e⟩
theorem c_firstGreatest (hg : g_lw l) (hc : k_C l o m) {v : Int} (hv : 0 ≤ v ∧ v < 3) : q_ok (f_PG_firstGreatest v m) (fun r m' => m' = m ∧ f_gr l (fun p => 0 ≤ m 54 p) (fun p => m 74 (100 * v + p)) r) := by
  have hRC := g_RC hg
  unfold f_PG_firstGreatest
  refine o_upF (fun n k (s : Int) => f_PG_firstGreatest_l4 n v s k m) (fun k s => 0 ≤ k ∧ ((s = -1 ∧ ∀ p, g_pt l p → k_idx l p < k → ¬ 0 ≤ m 54 p) ∨ (g_pt l s ∧ k_idx l s < k ∧ 0 ≤ m 54 s ∧ ∀ q, g_pt l q → k_idx l q < k → 0 ≤ m 54 q → q_w (m 74 (100 * v + q)) ≤ q_w (m 74 (100 * v + s)) ∧ (q < s → q_w (m 74 (100 * v + q)) < q_w (m 74 (100 * v + s)))))) _ (k := 0) (e := l 0 0 * l 0 1) (s := -1) (by omega) (by omega) ⟨by omega, Or.inl ⟨rfl, fun p hp h => by have := (k_idx_pt hg hp).1; omega⟩⟩ ?_ ?_
  · intro n k s hk ⟨k0, hs⟩ hn
    obtain ⟨hp, hidx⟩ := k_at_pt hg k0 hk
    show q_ok (f_PG_firstGreatest_b4 (f_PG_firstGreatest_l4 n) v s k m) _
    unfold f_PG_firstGreatest_b4 f_PG_firstGreatest_b68 f_PG_firstGreatest_b71 f_Web_isOrdered
    rw [x_lt, x_one hc.1.1, c_points hc.1.2, x_bd, q_w_id (by omega) (by omega), q_w_id (x := k) (by omega) (by omega), if_neg (by omega), x_lt, x_one hc.1.1, c_pointAt hc.1.2 hg ⟨k0, by omega⟩, x_bd]
    revert hp hidx
    generalize k / l 0 1 * 10 + k % l 0 1 = p
    intro hp hidx
    have hp' := hp.1
    have hwd := hc.2.2.1.2.2.1 _ hp
    have uniq : ∀ q, g_pt l q → k_idx l q = k → q = p := by
      intro q hq e
      have a1 := (k_idx_pt hg hq).2
      have a2 := (k_idx_pt hg hp).2
      rw [e] at a1
      rw [hidx] at a2
      exact a1.symm.trans a2
    have before : ∀ q, g_pt l q → k_idx l q < k → q < p := by
      intro q hq e
      refine Classical.byContradiction fun hn => ?_
      by_cases c : q = p
      · rw [c] at e; omega
      · have := k_idx_lt hg hq hp (by omega); omega
    rw [x_rd (n := 100) (by omega) (by omega) (by decide), q_w_id (x := m 54 p) (by omega) (by omega)]
    by_cases c : m 54 p = -1
    · rw [if_pos c, x_rz0, x_bd, x_w0, if_pos rfl]
      refine hn s ⟨by omega, ?_⟩
      rcases hs with ⟨e, h⟩ | ⟨s1, s2, s3, s4⟩
      · refine Or.inl ⟨e, fun q hq hlt => ?_⟩
        by_cases cq : k_idx l q = k
        · rw [uniq q hq cq]; omega
        · exact h q hq (by omega)
      · refine Or.inr ⟨s1, by omega, s3, fun q hq hlt hd => ?_⟩
        by_cases cq : k_idx l q = k
        · rw [uniq q hq cq] at hd; omega
        · exact s4 q hq (by omega) hd
    · rw [if_neg c, x_rz1, x_bd, x_w1, if_neg (by decide)]
      rcases hs with ⟨e, h⟩ | ⟨s1, s2, s3, s4⟩
      · rw [e, if_pos (by decide)]
        refine hn p ⟨by omega, Or.inr ⟨hp, by omega, by omega, fun q hq hlt hd => ?_⟩⟩
        by_cases cq : k_idx l q = k
        · rw [uniq q hq cq]; omega
        · exact absurd hd (h q hq (by omega))
      · have hs' := s1.1
        rw [q_w_id (x := s) (by omega) (by omega), if_neg (by omega), show v * 100 = 100 * v by omega, x_rd (n := 300) (by omega) (by omega) (by decide), x_rd (n := 300) (by omega) (by omega) (by decide)]
        by_cases c2 : q_w (m 74 (100 * v + p)) ≤ q_w (m 74 (100 * v + s))
        · rw [if_pos c2]
          refine hn s ⟨by omega, Or.inr ⟨s1, by omega, s3, fun q hq hlt hd => ?_⟩⟩
          by_cases cq : k_idx l q = k
          · rw [uniq q hq cq]
            have := before s s1 s2
            exact ⟨c2, fun h => by omega⟩
          · exact s4 q hq (by omega) hd
        · rw [if_neg c2]
          refine hn p ⟨by omega, Or.inr ⟨hp, by omega, by omega, fun q hq hlt hd => ?_⟩⟩
          by_cases cq : k_idx l q = k
          · rw [uniq q hq cq]; omega
          · have := s4 q hq (by omega) hd
            exact ⟨by omega, fun _ => by omega⟩
  · intro n s ⟨k0, hs⟩
    show q_ok (f_PG_firstGreatest_b4 (f_PG_firstGreatest_l4 n) v s _ m) _
    unfold f_PG_firstGreatest_b4
    rw [x_lt, x_one hc.1.1, c_points hc.1.2, x_bd, if_pos (Int.le_refl _)]
    refine o_rt ⟨rfl, ?_⟩
    rcases hs with ⟨e, h⟩ | ⟨s1, s2, s3, s4⟩
    · exact Or.inl ⟨e, fun p hp => h p hp (k_idx_pt hg hp).1.2⟩
    · exact Or.inr ⟨s1, s3, fun q hq hd => s4 q hq (k_idx_pt hg hq).1.2 hd⟩
end total
