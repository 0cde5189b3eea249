/-! THE SCANNERS: the model's words -/
def v_L (i : Int) : Int := ([115, 105, 122, 101, 32, 108, 101, 116, 32, 102, 105, 114, 101, 32, 111, 110, 116, 111, 32, 101, 100, 103, 101, 32, 105, 32, 106, 32] : List Int).getD i.toNat 0
def v_F (w : Int) : Int := if w = 0 then 0 else if w = 1 then 5 else if w = 2 then 9 else if w = 3 then 14 else if w = 4 then 19 else if w = 5 then 24 else if w = 6 then 26 else 28
/-- the token from a to b spells word w -/
def v_is (T : Int → Int) (a b w : Int) : Prop := v_F (w + 1) - 1 - v_F w = b - a ∧ ∀ i, 0 ≤ i → i < b - a → v_L (v_F w + i) = T (a + i)
def v_wd (T : Int → Int) (a b w : Int) : Prop := ((0 ≤ w ∧ w < 7) ∧ v_is T a b w) ∨ (w = -1 ∧ ∀ j, 0 ≤ j → j < 7 → ¬ v_is T a b j)
theorem v_F_rg {w : Int} (h0 : 0 ≤ w) (h1 : w < 7) : 0 ≤ v_F w ∧ v_F w < v_F (w + 1) - 1 ∧ v_F (w + 1) - 1 < 28 ∧ v_L (v_F (w + 1) - 1) = 32 ∧ ∀ i, v_F w ≤ i → i < v_F (w + 1) - 1 → v_L i ≠ 32 := by
  have key : ∀ k : Fin 7, 0 ≤ v_F (k.val : Int) ∧ v_F (k.val : Int) < v_F ((k.val : Int) + 1) - 1 ∧ v_F ((k.val : Int) + 1) - 1 < 28 ∧ v_L (v_F ((k.val : Int) + 1) - 1) = 32 ∧ ∀ i : Fin 28, v_F (k.val : Int) ≤ (i.val : Int) → (i.val : Int) < v_F ((k.val : Int) + 1) - 1 → v_L (i.val : Int) ≠ 32 := by decide
  have h := key ⟨w.toNat, by omega⟩
  dsimp only at h
  rw [show ((w.toNat : Nat) : Int) = w by omega] at h
  refine ⟨h.1, h.2.1, h.2.2.1, h.2.2.2.1, fun i i0 i1 => ?_⟩
  have := h.2.2.2.2 ⟨i.toNat, by omega⟩
  dsimp only at this
  rw [show ((i.toNat : Nat) : Int) = i by omega] at this
  exact this i0 i1
theorem v_L_rg (i : Int) (h : i.toNat < 28) : 0 ≤ v_L i ∧ v_L i ≤ 127 := by
  have key : ∀ k : Fin 28, 0 ≤ v_L (k.val : Int) ∧ v_L (k.val : Int) ≤ 127 := by decide
  have := key ⟨i.toNat, h⟩
  dsimp only at this
  unfold v_L at this ⊢
  rwa [Int.toNat_natCast] at this
/-- two words are not spelled alike -/
theorem v_is_u {T : Int → Int} {a b w w' : Int} (h0 : 0 ≤ w ∧ w < 7) (h0' : 0 ≤ w' ∧ w' < 7) (h : v_is T a b w) (h' : v_is T a b w') : w = w' := by
  have f := v_F_rg h0.1 h0.2
  have e1 := h.2 0 (Int.le_refl _) (by have := h.1; omega)
  have e2 := h'.2 0 (Int.le_refl _) (by have := h.1; omega)
  have el : v_F (w + 1) - 1 - v_F w = v_F (w' + 1) - 1 - v_F w' := h.1.trans h'.1.symm
  have ec : v_L (v_F w + 0) = v_L (v_F w' + 0) := e1.trans e2.symm
  have key : ∀ k k' : Fin 7, v_F ((k.val : Int) + 1) - 1 - v_F (k.val : Int) = v_F ((k'.val : Int) + 1) - 1 - v_F (k'.val : Int) → v_L (v_F (k.val : Int) + 0) = v_L (v_F (k'.val : Int) + 0) → k = k' := by decide
  have := key ⟨w.toNat, by omega⟩ ⟨w'.toNat, by omega⟩
  dsimp only at this
  rw [show ((w.toNat : Nat) : Int) = w by omega, show ((w'.toNat : Nat) : Int) = w' by omega] at this
  have := congrArg Fin.val (this el ec)
  dsimp only at this
  omega
section mscan
variable {m : q_Mem} {T : Int → Int} {n x : Int}
/-- the model's tape and letters -/
def v_M (m : q_Mem) (T : Int → Int) (n : Int) : Prop := m 81 22 = n ∧ (0 ≤ n ∧ n ≤ 800) ∧ (∀ i, 0 ≤ i → i < 800 → m 101 i = T i) ∧ (∀ i, 0 ≤ i → i < 800 → -128 ≤ T i ∧ T i ≤ 127) ∧ ∀ i, 0 ≤ i → i < 28 → m 102 i = v_L i
def v_fm (m m' : q_Mem) : Prop := (∀ c, c ≠ 81 → m' c = m c) ∧ ∀ j, j < 23 ∨ 27 < j → m' 81 j = m 81 j
theorem v_fm_id (m : q_Mem) : v_fm m m := ⟨fun _ _ => rfl, fun _ _ => rfl⟩
theorem v_fm_tr {m m1 m2 : q_Mem} (h : v_fm m m1) (h' : v_fm m1 m2) : v_fm m m2 := ⟨fun c hc => (h'.1 c hc).trans (h.1 c hc), fun j hj => (h'.2 j hj).trans (h.2 j hj)⟩
theorem v_fm_up {m : q_Mem} {j v : Int} (hj : 23 ≤ j ∧ j ≤ 27) : v_fm m (q_up m 81 j v) := ⟨fun c hc => q_up_f hc, fun i hi => q_up_i (by omega)⟩
theorem v_M_fr {m' : q_Mem} (h : v_M m T n) (e : v_fm m m') : v_M m' T n := by
  obtain ⟨h1, h2, h3, h4, h5⟩ := h
  exact ⟨by rw [e.2 22 (by omega)]; exact h1, h2, by rw [e.1 101 (by decide)]; exact h3, h4, by rw [e.1 102 (by decide)]; exact h5⟩
theorem v_M_of (h : j_W m) : ∀ i, 0 ≤ i → i < 28 → m 102 i = v_L i := by
  intro i i0 i1
  have := h i.toNat (by omega)
  rw [show ((i.toNat : Nat) : Int) = i by omega] at this
  exact this
theorem m_signAt (h : v_M m T n) {i : Int} (hi : 0 ≤ i ∧ i ≤ 800) : f_Mod_signAt i m = some (if i < n then T i else 0, m) := by
  obtain ⟨h1, h2, h3, h4, h5⟩ := h
  unfold f_Mod_signAt
  rw [h1, q_w_id (x := n) (by omega) (by omega), q_w_id (x := i) (by omega) (by omega)]
  by_cases c : n ≤ i
  · rw [if_pos c, if_neg (by omega), x_rt]
  · rw [if_neg c, if_pos (by omega), x_rd (n := 800) (by omega) (by omega) (by decide), h3 i hi.1 (by omega), x_rt]
theorem m_isLetter {b : Int} (hb : -128 ≤ b ∧ b ≤ 127) (m : q_Mem) : f_Mod_isLetter b m = some (if v_kd b = 3 then 1 else 0, m) := by
  unfold f_Mod_isLetter
  rw [q_w_id (x := b) (by omega) (by omega)]
  by_cases c : v_kd b = 3
  · have := v_kd_3.mp c
    rw [if_pos c, if_neg (by omega), if_neg (by omega), x_rz1]
  · have hn : ¬ (97 ≤ b ∧ b ≤ 122) := fun h => c (v_kd_3.mpr h)
    rw [if_neg c]
    by_cases c1 : b < 97
    · rw [if_pos c1, x_rz0]
    · rw [if_neg c1, if_pos (by omega), x_rz0]
theorem m_isDigit {b : Int} (hb : -128 ≤ b ∧ b ≤ 127) (m : q_Mem) : f_Mod_isDigit b m = some (if v_kd b = 4 then 1 else 0, m) := by
  unfold f_Mod_isDigit
  rw [q_w_id (x := b) (by omega) (by omega)]
  by_cases c : v_kd b = 4
  · have := v_kd_4.mp c
    rw [if_pos c, if_neg (by omega), if_neg (by omega), x_rz1]
  · have hn : ¬ (48 ≤ b ∧ b ≤ 57) := fun h => c (v_kd_4.mpr h)
    rw [if_neg c]
    by_cases c1 : b < 48
    · rw [if_pos c1, x_rz0]
    · rw [if_neg c1, if_pos (by omega), x_rz0]
theorem m_isSame (h : v_M m T n) {a b f e : Int} (ha : 0 ≤ a ∧ a ≤ b ∧ b ≤ n) (e24 : m 81 24 = a) (e23 : m 81 23 = b) (hf : 0 ≤ f ∧ f ≤ e ∧ e ≤ 28) : q_ok (f_Mod_isSame f e m) (fun r m' => m' = m ∧ ((r = 1 ∧ e - f = b - a ∧ ∀ i, 0 ≤ i → i < b - a → v_L (f + i) = T (a + i)) ∨ (r = 0 ∧ ¬ (e - f = b - a ∧ ∀ i, 0 ≤ i → i < b - a → v_L (f + i) = T (a + i))))) := by
  obtain ⟨h1, h2, h3, h4, h5⟩ := h
  unfold f_Mod_isSame
  rw [e23, e24, q_w_id (x := e - f) (by omega) (by omega), q_w_id (x := b - a) (by omega) (by omega)]
  by_cases c : e - f = b - a
  · rw [if_pos c]
    refine o_upF (fun n' k (_ : Unit) => f_Mod_isSame_l19 n' f e k m) (fun k _ => 0 ≤ k ∧ ∀ i, 0 ≤ i → i < k → v_L (f + i) = T (a + i)) _ (k := 0) (e := b - a) (s := ()) (by omega) (by omega) ⟨Int.le_refl _, fun i i0 i1 => by omega⟩ ?_ ?_
    · intro n' k _ hk ⟨k0, hs⟩ hn
      have hT := h4 (a + k) (by omega) (by omega)
      have hL := v_L_rg (f + k) (by omega)
      show q_ok (f_Mod_isSame_b19 (f_Mod_isSame_l19 n') f e k m) _
      unfold f_Mod_isSame_b19
      rw [q_w_id (x := e - f) (by omega) (by omega), q_w_id (x := k) (by omega) (by omega), if_neg (by omega), x_rd (n := 28) (by omega) (by omega) (by decide), h5 _ (by omega) (by omega), e24, x_rd (n := 800) (by omega) (by omega) (by decide), h3 _ (by omega) (by omega), q_w_id (x := v_L (f + k)) (by omega) (by omega), q_w_id (x := T (a + k)) (by omega) (by omega)]
      by_cases ce : v_L (f + k) = T (a + k)
      · rw [if_pos ce]
        refine hn () ⟨by omega, fun i i0 i1 => ?_⟩
        by_cases ci : i = k
        · rw [ci]; exact ce
        · exact hs i i0 (by omega)
      · rw [if_neg ce, x_rz0]
        exact o_some ⟨rfl, Or.inr ⟨rfl, fun hh => ce (hh.2 k k0 hk)⟩⟩
    · intro n' _ ⟨_, hs⟩
      show q_ok (f_Mod_isSame_b19 (f_Mod_isSame_l19 n') f e (b - a) m) _
      unfold f_Mod_isSame_b19
      rw [c, if_pos (Int.le_refl _), x_rz1]
      exact o_some ⟨rfl, Or.inl ⟨rfl, rfl, hs⟩⟩
  · rw [if_neg c, x_rz0]
    exact o_some ⟨rfl, Or.inr ⟨rfl, fun hh => c hh.1⟩⟩
end mscan
