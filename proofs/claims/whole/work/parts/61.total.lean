/-! QUESTION: total -/
/-- the first of the greatest, among those that are so -/
def f_gr (l : q_Mem) (A : Int → Prop) (V : Int → Int) (r : Int) : Prop := (r = -1 ∧ ∀ p, g_pt l p → ¬ A p) ∨ (g_pt l r ∧ A r ∧ ∀ q, g_pt l q → A q → q_w (V q) ≤ q_w (V r) ∧ (q < r → q_w (V q) < q_w (V r)))
theorem f_gr_u {l : q_Mem} {A : Int → Prop} {V : Int → Int} {r r' : Int} (h : f_gr l A V r) (h' : f_gr l A V r') : r = r' := by
  rcases h with ⟨rfl, h⟩ | ⟨h1, h2, h3⟩ <;> rcases h' with ⟨rfl, h'⟩ | ⟨h1', h2', h3'⟩
  · rfl
  · exact absurd h2' (h r' h1')
  · exact absurd h2 (h' r h1)
  · have a := h3 r' h1' h2'
    have b := h3' r h1 h2
    refine Classical.byContradiction fun hne => ?_
    by_cases c : r < r'
    · have := b.2 c; omega
    · have := a.2 (by omega); omega
/-- a value is least, as it is read -/
def f_le (l : q_Mem) (A : Int → Prop) (V : Int → Int) (x : Int) : Prop := (∃ p, g_pt l p ∧ A p ∧ q_w x = q_w (V p)) ∧ ∀ q, g_pt l q → A q → q_w x ≤ q_w (V q)
theorem f_le_u {l : q_Mem} {A : Int → Prop} {V : Int → Int} {x x' : Int} (h : f_le l A V x) (h' : f_le l A V x') : q_w x = q_w x' := by
  obtain ⟨⟨p, hp, ha, e⟩, h1⟩ := h
  obtain ⟨⟨p', hp', ha', e'⟩, h1'⟩ := h'
  have := h1 p' hp' ha'
  have := h1' p hp ha
  omega
section total
variable {l m : q_Mem} {o : Int → Int}
theorem c_sumOf (hg : g_lw l) (hb : k_web l m) {v : Int} (hv : 0 ≤ v ∧ v < 3) : f_PG_sumOf v m = some (g_sa l (fun p => if 0 ≤ m 54 p then m 74 (100 * v + p) else 0), m) := by
  obtain ⟨b1, b2, b3, b4, ⟨o1, o2, o3, o4, o5⟩, b6, b7, b8, b9⟩ := hb
  unfold f_PG_sumOf
  refine o_sum (fun n a k => f_PG_sumOf_l4 n v a k m) (fun k => m 74 (100 * v + m 56 k)) (m 53 6).toNat (by omega) ?_ ?_
  · intro n a k k0 k1
    have hp := (o2 k k0 (by omega)).1
    show f_PG_sumOf_b4 (f_PG_sumOf_l4 n) v a k m = _
    unfold f_PG_sumOf_b4
    rw [q_w_id (by omega) (by omega), q_w_id (x := k) (by omega) (by omega), if_neg (by omega), x_rd (n := 100) k0 (by omega) (by decide), show v * 100 = 100 * v by omega, x_rd (n := 300) (by omega) (by omega) (by decide)]
  · intro n
    show f_PG_sumOf_b4 (f_PG_sumOf_l4 n) v _ _ m = _
    unfold f_PG_sumOf_b4
    rw [show (((m 53 6).toNat : Nat) : Int) = m 53 6 by omega, if_pos (Int.le_refl _)]
    have e := g_sa_enum (l := l) (ord := m 56) (F := fun p => m 74 (100 * v + p)) (n := (m 53 6).toNat) (fun i i0 i1 => o2 i i0 (by omega)) (fun i j i0 ij jn => o3 i j i0 ij (by omega))
    have e2 : g_sa l (fun p => if f_am (m 56) (m 53 6).toNat p = true then m 74 (100 * v + p) else 0) = g_sa l (fun p => if 0 ≤ m 54 p then m 74 (100 * v + p) else 0) := by
      refine g_sa_congr fun p hp => ?_
      by_cases c : 0 ≤ m 54 p
      · obtain ⟨i, i0, i1, ei⟩ := (o4 p hp).mp (decide_eq_true c)
        rw [if_pos c, if_pos (f_am_iff.mpr ⟨i, i0, by omega, ei⟩)]
      · rw [if_neg c, if_neg]
        intro h
        obtain ⟨i, i0, i1, ei⟩ := f_am_iff.mp h
        exact c (of_decide_eq_true ((o4 p hp).mpr ⟨i, i0, by omega, ei⟩))
    rw [e, e2]
    rfl
theorem c_leastOf (hg : g_lw l) (hb : k_web l m) {v : Int} (hv : 0 ≤ v ∧ v < 3) (hne : ∃ p, g_pt l p ∧ 0 ≤ m 54 p) : q_ok (f_PG_leastOf v m) (fun r m' => m' = m ∧ f_le l (fun p => 0 ≤ m 54 p) (fun p => m 74 (100 * v + p)) r) := by
  obtain ⟨b1, b2, b3, b4, ⟨o1, o2, o3, o4, o5⟩, b6, b7, b8, b9⟩ := hb
  unfold f_PG_leastOf
  refine o_upF (fun n k (s : Int) => f_PG_leastOf_l6 n v s k m) (fun k s => 0 ≤ k ∧ (∀ i, 0 ≤ i → i < k → q_w s ≤ q_w (m 74 (100 * v + m 56 i))) ∧ (s = 2147483647 ∨ ∃ i, 0 ≤ i ∧ i < k ∧ q_w s = q_w (m 74 (100 * v + m 56 i)))) _ (k := 0) (e := m 53 6) (s := 2147483647) (by omega) (by omega) ⟨by omega, fun i i0 i1 => by omega, Or.inl rfl⟩ ?_ ?_
  · intro n k s hk ⟨k0, h1, h2⟩ hn
    have hp := (o2 k k0 hk).1
    show q_ok (f_PG_leastOf_b6 (f_PG_leastOf_l6 n) v s k m) _
    unfold f_PG_leastOf_b6
    rw [q_w_id (by omega) (by omega), q_w_id (x := k) (by omega) (by omega), if_neg (by omega), x_rd (n := 100) k0 (by omega) (by decide), show v * 100 = 100 * v by omega, x_rd (n := 300) (by omega) (by omega) (by decide)]
    unfold q_min
    by_cases c : q_w (m 74 (100 * v + m 56 k)) < q_w s
    · rw [if_pos c]
      refine hn _ ⟨by omega, fun i i0 i1 => ?_, Or.inr ⟨k, k0, by omega, rfl⟩⟩
      by_cases ck : i = k
      · rw [ck]; exact Int.le_refl _
      · have := h1 i i0 (by omega); omega
    · rw [if_neg c]
      refine hn s ⟨by omega, fun i i0 i1 => ?_, ?_⟩
      · by_cases ck : i = k
        · rw [ck]; omega
        · exact h1 i i0 (by omega)
      · rcases h2 with h2 | ⟨i, i0, i1, e⟩
        · exact Or.inl h2
        · exact Or.inr ⟨i, i0, by omega, e⟩
  · intro n s ⟨k0, h1, h2⟩
    show q_ok (f_PG_leastOf_b6 (f_PG_leastOf_l6 n) v s (m 53 6) m) _
    unfold f_PG_leastOf_b6
    rw [if_pos (Int.le_refl _)]
    have hall : ∀ q, g_pt l q → 0 ≤ m 54 q → q_w s ≤ q_w (m 74 (100 * v + q)) := by
      intro q hq hd
      obtain ⟨i, i0, i1, ei⟩ := (o4 q hq).mp (decide_eq_true hd)
      rw [← ei]
      exact h1 i i0 i1
    refine o_rt ⟨rfl, ?_, hall⟩
    rcases h2 with h2 | ⟨i, i0, i1, e⟩
    · obtain ⟨p, hp, hd⟩ := hne
      refine ⟨p, hp, hd, ?_⟩
      have a := hall p hp hd
      have b := q_w_lt (m 74 (100 * v + p))
      show q_w s = q_w (m 74 (100 * v + p))
      rw [h2, q_w_id (by decide) (by decide)] at a ⊢
      omega
    · exact ⟨m 56 i, o2 i i0 i1, of_decide_eq_true ((o4 _ (o2 i i0 i1)).mpr ⟨i, i0, i1, rfl⟩), e⟩
end total
