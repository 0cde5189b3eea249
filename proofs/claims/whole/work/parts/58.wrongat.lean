/-! QUESTION: wrongAt -/
/-- the x-th point of a kind, or none -/
def f_nth (l : q_Mem) (X : Int → Bool) (x r : Int) : Prop := (g_pt l r ∧ X r = true ∧ g_cp l (k_idx l r) X = x) ∨ (r = -1 ∧ ∀ p, g_pt l p → X p = true → g_cp l (k_idx l p) X ≠ x)
theorem g_cp_mono {l : q_Mem} (hg : g_lw l) {X : Int → Bool} {p q : Int} (hp : g_pt l p) (hX : X p = true) (hq : g_pt l q) (h : k_idx l p < k_idx l q) : g_cp l (k_idx l p) X < g_cp l (k_idx l q) X := by
  have a := k_idx_pt hg hp
  have b := k_idx_pt hg hq
  have e := g_cp_s hg X (k := k_idx l p) a.1.1 a.1.2
  rw [a.2, if_pos hX] at e
  have hle : g_cp l (k_idx l p + 1) X ≤ g_cp l (k_idx l q) X := by
    refine g_cnt_le fun k k0 k1 hk => ?_
    simp only [Bool.and_eq_true, decide_eq_true_iff] at hk ⊢
    exact ⟨hk.1, by omega, hk.2.2⟩
  omega
theorem f_nth_u {l : q_Mem} (hg : g_lw l) {X : Int → Bool} {x r r' : Int} (h : f_nth l X x r) (h' : f_nth l X x r') : r = r' := by
  rcases h with ⟨h1, h2, h3⟩ | ⟨rfl, h⟩ <;> rcases h' with ⟨h1', h2', h3'⟩ | ⟨rfl, h'⟩
  · by_cases c : k_idx l r = k_idx l r'
    · have a := (k_idx_pt hg h1).2
      have b := (k_idx_pt hg h1').2
      rw [c, b] at a
      exact a.symm
    · by_cases c2 : k_idx l r < k_idx l r'
      · have := g_cp_mono hg h1 h2 h1' c2; omega
      · have := g_cp_mono hg h1' h2' h1 (by omega); omega
  · exact absurd h3 (h' r h1 h2)
  · exact absurd h3' (h r' h1' h2')
  · rfl
theorem g_cnt_cut (P : Int → Bool) {p : Int} (h0 : 0 ≤ p) : ∀ n : Nat, p ≤ n → g_cnt (fun q => P q && decide (q < p)) n = g_cnt P p.toNat := by
  have small : ∀ n : Nat, (n : Int) ≤ p → g_cnt (fun q => P q && decide (q < p)) n = g_cnt P n := by
    intro n hn
    refine g_cnt_congr fun k k0 k1 => ?_
    rw [decide_eq_true (show k < p by omega), Bool.and_true]
  intro n
  induction n with
  | zero => intro h; rw [show p.toNat = 0 by omega]; rfl
  | succ n ih =>
    intro h
    by_cases c : p = ((n + 1 : Nat) : Int)
    · rw [show p.toNat = n + 1 by omega]
      exact small (n + 1) (by omega)
    · show g_cnt (fun q => P q && decide (q < p)) n + (if (P n && decide ((n : Int) < p)) = true then 1 else 0) = _
      rw [ih (by omega), decide_eq_false (show ¬ (n : Int) < p by omega), Bool.and_false]
      exact Int.add_zero _
theorem g_cp_cut {l : q_Mem} (hg : g_lw l) (X : Int → Bool) {p : Int} (hp : g_pt l p) : g_cp l (k_idx l p) X = g_cnt (fun q => decide (g_th (l 0 0) (l 0 1) q) && X q) p.toNat := by
  rw [← g_cnt_cut _ hp.1.1 100 (by have := hp.1; omega)]
  refine g_cnt_congr fun q q0 q1 => ?_
  by_cases ct : g_th (l 0 0) (l 0 1) q
  · have hq : g_pt l q := ⟨⟨q0, q1⟩, ct⟩
    have e : decide (k_idx l q < k_idx l p) = decide (q < p) := by
      rw [decide_eq_decide]
      refine ⟨fun h => ?_, fun h => k_idx_lt hg hp hq h⟩
      refine Classical.byContradiction fun hn => ?_
      by_cases c : q = p
      · rw [c] at h; omega
      · have := k_idx_lt hg hq hp (by omega); omega
    rw [e, decide_eq_true ct, Bool.true_and, Bool.true_and, Bool.and_comm]
  · rw [decide_eq_false ct, Bool.false_and, Bool.false_and, Bool.false_and]
section wrongat
variable {l m : q_Mem} {o : Int → Int}
theorem c_wrongAt (hg : g_lw l) (hc : k_C l o m) {x : Int} (hx : q_32 x) : q_ok (f_PG_wrongAt_l8 q_F x 0 0 m) (fun r m' => m' = m ∧ f_nth l (f_wr l (m 54) (m 74) (m 75)) x r) := by
  have hRC := g_RC hg
  unfold q_32 at hx
  refine o_upF (fun n k (a : Int) => f_PG_wrongAt_l8 n x a k m) (fun k a => 0 ≤ k ∧ a = g_cp l k (f_wr l (m 54) (m 74) (m 75)) ∧ ∀ p, g_pt l p → k_idx l p < k → f_wr l (m 54) (m 74) (m 75) p = true → g_cp l (k_idx l p) (f_wr l (m 54) (m 74) (m 75)) ≠ x) _ (k := 0) (e := l 0 0 * l 0 1) (s := 0) (by omega) (by omega) ⟨by omega, (g_cp_0 hg _).symm, fun p hp h => by have := (k_idx_pt hg hp).1; omega⟩ ?_ ?_
  · intro n k a hk ⟨k0, ea, he⟩ hn
    obtain ⟨hp, hidx⟩ := k_at_pt hg k0 hk
    have es := g_cp_s hg (f_wr l (m 54) (m 74) (m 75)) k0 hk
    have har := g_cp_rg l k (f_wr l (m 54) (m 74) (m 75))
    show q_ok (f_PG_wrongAt_b8 (f_PG_wrongAt_l8 n) x a k m) _
    unfold f_PG_wrongAt_b8 f_PG_wrongAt_b56
    rw [x_lt, x_one hc.1.1, c_points hc.1.2, x_bd, q_w_id (by omega) (by omega), q_w_id (x := k) (by omega) (by omega), if_neg (by omega), x_lt, x_one hc.1.1, c_pointAt hc.1.2 hg ⟨k0, by omega⟩, x_bd]
    revert hp hidx es
    generalize k / l 0 1 * 10 + k % l 0 1 = p
    intro hp hidx es
    rw [c_isWrong hg hc hp, x_bd, x_wi]
    simp only [x_i0]
    have uniq : ∀ q, g_pt l q → k_idx l q = k → q = p := by
      intro q hq e
      have a1 := (k_idx_pt hg hq).2
      have a2 := (k_idx_pt hg hp).2
      rw [e] at a1
      rw [hidx] at a2
      exact a1.symm.trans a2
    by_cases cw : f_wr l (m 54) (m 74) (m 75) p = true
    · rw [if_pos cw] at es
      rw [if_neg (fun h => h cw), q_w_id (x := a) (by omega) (by omega), q_w_id (x := x) (by omega) (by omega)]
      by_cases c : a = x
      · rw [if_pos c]
        exact o_rt ⟨rfl, Or.inl ⟨hp, cw, by rw [hidx, ← ea]; exact c⟩⟩
      · rw [if_neg c]
        refine hn (a + 1) ⟨by omega, by omega, fun q hq hlt hw => ?_⟩
        by_cases c2 : k_idx l q = k
        · rw [c2, ← ea]; exact c
        · exact he q hq (by omega) hw
    · rw [if_neg cw] at es
      rw [if_pos cw]
      refine hn a ⟨by omega, by omega, fun q hq hlt hw => ?_⟩
      by_cases c2 : k_idx l q = k
      · rw [uniq q hq c2] at hw; exact absurd hw cw
      · exact he q hq (by omega) hw
  · intro n a ⟨k0, ea, he⟩
    show q_ok (f_PG_wrongAt_b8 (f_PG_wrongAt_l8 n) x a _ m) _
    unfold f_PG_wrongAt_b8
    rw [x_lt, x_one hc.1.1, c_points hc.1.2, x_bd, if_pos (Int.le_refl _)]
    exact o_rt ⟨rfl, Or.inr ⟨rfl, fun p hp hw => he p hp (k_idx_pt hg hp).1.2 hw⟩⟩
end wrongat
