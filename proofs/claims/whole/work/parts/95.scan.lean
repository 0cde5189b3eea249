/-! THE SCANNERS: tokens of a tape T of n bytes -/
def v_sg (b : Int) : Prop := b = 40 ∨ b = 41 ∨ b = 42 ∨ b = 43 ∨ b = 44 ∨ b = 45 ∨ b = 59 ∨ b = 60 ∨ b = 61 ∨ b = 62
def v_kd (b : Int) : Int := if 97 ≤ b ∧ b ≤ 122 then 3 else if 48 ≤ b ∧ b ≤ 57 then 4 else if b = 10 ∨ b = 32 then 2 else if b = 40 ∨ b = 41 ∨ b = 42 ∨ b = 43 ∨ b = 44 ∨ b = 45 ∨ b = 59 ∨ b = 60 ∨ b = 61 ∨ b = 62 then b else 1
/-- the token from x on: its kind k, its place a, what lies behind it b -/
def v_tok (T : Int → Int) (n x k a b : Int) : Prop := (x ≤ a ∧ a ≤ n) ∧ (∀ i, x ≤ i → i < a → v_kd (T i) = 2) ∧ ((a = n ∧ k = 0 ∧ b = n) ∨ (a < n ∧ k = v_kd (T a) ∧ k ≠ 2 ∧ (a < b ∧ b ≤ n) ∧ ((k = 3 ∨ k = 4) → (∀ i, a ≤ i → i < b → v_kd (T i) = k) ∧ (b = n ∨ v_kd (T b) ≠ k)) ∧ (k ≠ 3 → k ≠ 4 → b = a + 1)))
theorem v_kd_rg (b : Int) (h : -128 ≤ b ∧ b ≤ 127) : 1 ≤ v_kd b ∧ v_kd b ≤ 62 := by
  unfold v_kd
  split
  · omega
  · split
    · omega
    · split
      · omega
      · split <;> omega
/-- there is but one -/
theorem v_tok_u {T : Int → Int} {n x k a b k' a' b' : Int} (h : v_tok T n x k a b) (h' : v_tok T n x k' a' b') : k = k' ∧ a = a' ∧ b = b' := by
  obtain ⟨h1, h2, h3⟩ := h
  obtain ⟨h1', h2', h3'⟩ := h'
  have ea : a = a' := by
    refine Classical.byContradiction fun hn => ?_
    by_cases c : a < a'
    · have := h2' a h1.1 c
      rcases h3 with ⟨e, _⟩ | ⟨_, e, e2, _⟩
      · omega
      · exact e2 (e.trans this)
    · have := h2 a' h1'.1 (by omega)
      rcases h3' with ⟨e, _⟩ | ⟨_, e, e2, _⟩
      · omega
      · exact e2 (e.trans this)
  subst ea
  rcases h3 with ⟨e, e1, e2⟩ | ⟨e, e1, e2, e3, e4, e5⟩ <;> rcases h3' with ⟨g, g1, g2⟩ | ⟨g, g1, g2, g3, g4, g5⟩
  · exact ⟨by omega, rfl, by omega⟩
  · omega
  · omega
  · have ek : k = k' := e1.trans g1.symm
    subst ek
    refine ⟨rfl, rfl, ?_⟩
    by_cases c : k = 3 ∨ k = 4
    · have A := e4 c
      have B := g4 c
      refine Classical.byContradiction fun hn => ?_
      by_cases cb : b < b'
      · rcases A.2 with h | h
        · omega
        · exact h (B.1 b (by omega) cb)
      · rcases B.2 with h | h
        · omega
        · exact h (A.1 b' (by omega) (by omega))
    · rw [e5 (fun h => c (Or.inl h)) (fun h => c (Or.inr h)), g5 (fun h => c (Or.inl h)) (fun h => c (Or.inr h))]
/-- the number that digits spell -/
def v_dec (T : Int → Int) (a : Int) : Nat → Int
  | 0 => 0
  | n + 1 => 10 * v_dec T a n + (T (a + n) - 48)
/-- as it is kept: itself up to 999, else something greater -/
def v_nr (V N : Int) : Prop := (V ≤ 999 ∧ N = V) ∨ (999 < V ∧ 999 < N ∧ N ≤ 1000000)
theorem v_dec_s (T : Int → Int) {a k : Int} (h : a ≤ k) : v_dec T a (k + 1 - a).toNat = 10 * v_dec T a (k - a).toNat + (T k - 48) := by
  rw [show (k + 1 - a).toNat = (k - a).toNat + 1 by omega]
  show 10 * v_dec T a (k - a).toNat + (T (a + ((k - a).toNat : Int)) - 48) = _
  rw [show a + ((k - a).toNat : Int) = k by omega]
theorem v_kd_4 {b : Int} : v_kd b = 4 ↔ 48 ≤ b ∧ b ≤ 57 := by
  unfold v_kd
  by_cases c1 : 97 ≤ b ∧ b ≤ 122
  · rw [if_pos c1]; omega
  · rw [if_neg c1]
    by_cases c2 : 48 ≤ b ∧ b ≤ 57
    · rw [if_pos c2]; omega
    · rw [if_neg c2]
      by_cases c3 : b = 10 ∨ b = 32
      · rw [if_pos c3]; omega
      · rw [if_neg c3]
        split <;> omega
theorem v_kd_3 {b : Int} : v_kd b = 3 ↔ 97 ≤ b ∧ b ≤ 122 := by
  unfold v_kd
  by_cases c1 : 97 ≤ b ∧ b ≤ 122
  · rw [if_pos c1]; omega
  · rw [if_neg c1]
    by_cases c2 : 48 ≤ b ∧ b ≤ 57
    · rw [if_pos c2]; omega
    · rw [if_neg c2]
      by_cases c3 : b = 10 ∨ b = 32
      · rw [if_pos c3]; omega
      · rw [if_neg c3]
        split <;> omega
theorem v_kd_2 {b : Int} : v_kd b = 2 ↔ b = 10 ∨ b = 32 := by
  unfold v_kd
  by_cases c1 : 97 ≤ b ∧ b ≤ 122
  · rw [if_pos c1]; omega
  · rw [if_neg c1]
    by_cases c2 : 48 ≤ b ∧ b ≤ 57
    · rw [if_pos c2]; omega
    · rw [if_neg c2]
      by_cases c3 : b = 10 ∨ b = 32
      · rw [if_pos c3]; omega
      · rw [if_neg c3]
        split <;> omega
section scan
variable {m : q_Mem} {T : Int → Int} {n x : Int}
theorem c_kindOf {b : Int} (hb : -128 ≤ b ∧ b ≤ 127) (m : q_Mem) : f_Tape_kindOf b m = some (v_kd b, m) := by
  have e28 : ¬ (97 ≤ b ∧ b ≤ 122) → ¬ (48 ≤ b ∧ b ≤ 57) → f_Tape_kindOf_b28 b m = some (v_kd b, m) := by
    intro h1 h2
    unfold f_Tape_kindOf_b28 v_kd
    rw [if_neg h1, if_neg h2, q_w_id (x := b) (by omega) (by omega)]
    by_cases c10 : b = 10
    · rw [if_pos c10, if_pos (Or.inl c10), x_rt]
    rw [if_neg c10]
    by_cases c32 : b = 32
    · rw [if_pos c32, if_pos (Or.inr c32), x_rt]
    rw [if_neg c32, if_neg (show ¬ (b = 10 ∨ b = 32) by omega)]
    by_cases cs : b = 40 ∨ b = 41 ∨ b = 42 ∨ b = 43 ∨ b = 44 ∨ b = 45 ∨ b = 59 ∨ b = 60 ∨ b = 61 ∨ b = 62
    · rw [if_pos cs]
      rcases cs with h | h | h | h | h | h | h | h | h | h <;> subst h <;> rfl
    · rw [if_neg cs, if_neg (by omega), if_neg (by omega), if_neg (by omega), if_neg (by omega), if_neg (by omega), if_neg (by omega), if_neg (by omega), if_neg (by omega), if_neg (by omega), if_neg (by omega), x_rt]
  have e14 : ¬ (97 ≤ b ∧ b ≤ 122) → f_Tape_kindOf_b14 b m = some (v_kd b, m) := by
    intro h1
    unfold f_Tape_kindOf_b14
    rw [q_w_id (x := b) (by omega) (by omega)]
    by_cases c1 : b < 48
    · rw [if_pos c1]; exact e28 h1 (by omega)
    · by_cases c2 : 57 < b
      · rw [if_neg c1, if_pos c2]; exact e28 h1 (by omega)
      · rw [if_neg c1, if_neg c2, x_rt, v_kd_4.mpr (by omega)]
  unfold f_Tape_kindOf
  rw [q_w_id (x := b) (by omega) (by omega)]
  by_cases c1 : b < 97
  · rw [if_pos c1]; exact e14 (by omega)
  · by_cases c2 : 122 < b
    · rw [if_neg c1, if_pos c2]; exact e14 (by omega)
    · rw [if_neg c1, if_neg c2, x_rt, v_kd_3.mpr (by omega)]
/-- the class's tape -/
def v_C (m : q_Mem) (T : Int → Int) (n : Int) : Prop := m 1 1 = n ∧ (0 ≤ n ∧ n ≤ 800) ∧ (∀ i, 0 ≤ i → i < 800 → m 2 i = T i) ∧ ∀ i, 0 ≤ i → i < 800 → -128 ≤ T i ∧ T i ≤ 127
/-- only the token changes -/
def v_fr (m m' : q_Mem) : Prop := (∀ c, c ≠ 1 → m' c = m c) ∧ ∀ j, j < 2 ∨ 5 < j → m' 1 j = m 1 j
theorem v_fr_id (m : q_Mem) : v_fr m m := ⟨fun _ _ => rfl, fun _ _ => rfl⟩
theorem v_fr_tr {m m1 m2 : q_Mem} (h : v_fr m m1) (h' : v_fr m1 m2) : v_fr m m2 := ⟨fun c hc => (h'.1 c hc).trans (h.1 c hc), fun j hj => (h'.2 j hj).trans (h.2 j hj)⟩
theorem v_fr_up {m : q_Mem} {j v : Int} (hj : 2 ≤ j ∧ j ≤ 5) : v_fr m (q_up m 1 j v) := ⟨fun c hc => q_up_f hc, fun i hi => q_up_i (by omega)⟩
theorem v_C_fr {m' : q_Mem} (h : v_C m T n) (e : v_fr m m') : v_C m' T n := by
  obtain ⟨h1, h2, h3, h4⟩ := h
  exact ⟨by rw [e.2 1 (by omega)]; exact h1, h2, by rw [e.1 2 (by decide)]; exact h3, h4⟩
theorem c_digits (h : v_C m T n) {a b : Int} (ha : 0 ≤ a ∧ a < b ∧ b ≤ n) (e3 : m 1 3 = a) (e4 : m 1 4 = b) (hd : ∀ i, a ≤ i → i < b → v_kd (T i) = 4) : q_ok (f_Tape_digits m) (fun r m' => m' = m ∧ v_nr (v_dec T a (b - a).toNat) r ∧ 0 ≤ r) := by
  obtain ⟨h1, h2, h3, h4⟩ := h
  unfold f_Tape_digits
  rw [e3]
  refine o_upF (fun n' k (s : Int) => f_Tape_digits_l7 n' s k m) (fun k s => a ≤ k ∧ v_nr (v_dec T a (k - a).toNat) s ∧ 0 ≤ s ∧ 0 ≤ v_dec T a (k - a).toNat) _ (k := a) (e := b) (s := 0) (by omega) (by omega) ⟨Int.le_refl _, by rw [show (a - a).toNat = 0 by omega]; exact Or.inl ⟨by show (0 : Int) ≤ 999; decide, rfl⟩, Int.le_refl _, by rw [show (a - a).toNat = 0 by omega]; exact Int.le_refl _⟩ ?_ ?_
  · intro n' k s hk ⟨k0, hs, s0, v0⟩ hn
    have hk4 := v_kd_4.mp (hd k k0 hk)
    have es := v_dec_s T k0
    have hsr : s ≤ 1000000 := by rcases hs with ⟨_, _⟩ | ⟨_, _, _⟩ <;> omega
    show q_ok (f_Tape_digits_b7 (f_Tape_digits_l7 n') s k m) _
    unfold f_Tape_digits_b7 f_Tape_digits_b40
    rw [e4, q_w_id (x := b) (by omega) (by omega), q_w_id (x := k) (by omega) (by omega), if_neg (by omega), q_w_id (x := s) (by omega) (by omega)]
    by_cases c : 100000 ≤ s
    · rw [if_pos c]
      refine hn 100000 ⟨by omega, ?_, by decide, by omega⟩
      rw [es]
      unfold v_nr at *
      omega
    · rw [if_neg c, x_rd (n := 800) (by omega) (by omega) (by decide), h3 k (by omega) (by omega)]
      refine hn _ ⟨by omega, ?_, by omega, by omega⟩
      rw [es]
      unfold v_nr at *
      omega
  · intro n' s ⟨_, hs, s0, _⟩
    show q_ok (f_Tape_digits_b7 (f_Tape_digits_l7 n') s b m) _
    unfold f_Tape_digits_b7
    rw [e4, if_pos (Int.le_refl _)]
    exact o_rt ⟨rfl, hs, s0⟩
end scan
