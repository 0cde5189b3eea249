/-! THE PARSER: the model's waiting minuses -/
/-- j minuses were laid from the stack to the codes -/
def v_cm (m m' : q_Mem) (bk C W D : Int) (j : Nat) : Prop := (∀ c, c ≠ 81 → c ≠ 92 → c ≠ 100 → m' c = m c) ∧ (∀ i, i ≠ 38 → i ≠ 39 → m' 81 i = m 81 i) ∧ m' 81 38 = W - j ∧ m' 81 39 = D - j ∧ (∀ i, i ≠ bk → m' 92 i = m 92 i) ∧ m' 92 bk = C + j ∧ (∀ i, i < 100 * bk + C ∨ 100 * bk + C + j ≤ i → m' 100 i = m 100 i) ∧ ∀ i, 100 * bk + C ≤ i → i < 100 * bk + C + j → m' 100 i = 1205
section minus
variable {bk : Int}
theorem v_cm_id {m : q_Mem} {C W D : Int} (e92 : m 92 bk = C) (e38 : m 81 38 = W) (e39 : m 81 39 = D) : v_cm m m bk C W D 0 := ⟨fun _ _ _ _ => rfl, fun _ _ _ => rfl, by omega, by omega, fun _ _ => rfl, by omega, fun _ _ => rfl, fun i h1 h2 => by omega⟩
theorem v_cm_step {m m3 m' : q_Mem} {C W D : Int} {j : Nat} (hf : ∀ c, c ≠ 81 → c ≠ 92 → c ≠ 100 → m3 c = m c) (h81 : ∀ i, i ≠ 38 → i ≠ 39 → m3 81 i = m 81 i) (h92 : ∀ i, i ≠ bk → m3 92 i = m 92 i) (h100 : ∀ i, i ≠ 100 * bk + C → m3 100 i = m 100 i) (h100' : m3 100 (100 * bk + C) = 1205) (h : v_cm m3 m' bk (C + 1) (W - 1) (D - 1) j) : v_cm m m' bk C W D (j + 1) := by
  obtain ⟨a1, a2, a3, a4, a5, a6, a7, a8⟩ := h
  refine ⟨fun c c1 c2 c3 => (a1 c c1 c2 c3).trans (hf c c1 c2 c3), fun i i1 i2 => (a2 i i1 i2).trans (h81 i i1 i2), by omega, by omega, fun i i1 => (a5 i i1).trans (h92 i i1), by omega, fun i hi => ?_, fun i i1 i2 => ?_⟩
  · exact (a7 i (by omega)).trans (h100 i (by omega))
  · by_cases c : i = 100 * bk + C
    · rw [c, a7 _ (by omega)]; exact h100'
    · exact a8 i (by omega) (by omega)
theorem m_cm (hb : bk = 0 ∨ bk = 1) : ∀ (j n : Nat) (m : q_Mem) (C W D : Int), 0 ≤ C → C + j ≤ 100 → m 92 bk = C → W ≤ 100 → j ≤ W → m 81 38 = W → m 81 39 = D → (∀ i, W - j ≤ i → i < W → m 105 i = 1205) → (W = j ∨ (j < W ∧ (1200 ≤ m 105 (W - 1 - j) ∧ m 105 (W - 1 - j) ≤ 1210) ∧ m 105 (W - 1 - j) ≠ 1205)) → q_ok (f_Mod_closeMinus_l0 (n + j + 1) bk m) (fun _ m' => v_cm m m' bk C W D j) := by
  intro j
  induction j with
  | zero =>
    intro n m C W D hC hCj e92 hW hjW e38 e39 hm hs
    show q_ok (f_Mod_closeMinus_b0 (f_Mod_closeMinus_l0 n) bk m) _
    unfold f_Mod_closeMinus_b0
    rw [e38, q_w_id (x := W) (by omega) (by omega)]
    by_cases c : W ≤ 0
    · rw [if_pos c]; exact o_rt (v_cm_id e92 e38 e39)
    · rw [show W - 1 - ((0 : Nat) : Int) = W - 1 by omega] at hs
      rcases hs with hs | ⟨_, hr, hne⟩
      · exact absurd hs (by omega)
      · rw [if_neg c, x_rd (n := 100) (by omega) (by omega) (by decide), q_w_id (x := m 105 (W - 1)) (by omega) (by omega), if_neg hne]
        exact o_rt (v_cm_id e92 e38 e39)
  | succ j ih =>
    intro n m C W D hC hCj e92 hW hjW e38 e39 hm hs
    show q_ok (f_Mod_closeMinus_b0 (f_Mod_closeMinus_l0 (n + j + 1)) bk m) _
    unfold f_Mod_closeMinus_b0
    have e105 : m 105 (W - 1) = 1205 := hm (W - 1) (by omega) (by omega)
    have lw := m_layWaiting (m := m) hb (C := C) (W := W) (by omega) e92 (by omega) e38
    rw [e105] at lw
    rw [e38, q_w_id (x := W) (by omega) (by omega), if_neg (by omega), x_rd (n := 100) (by omega) (by omega) (by decide), e105, if_pos (by decide), lw, x_bd, x_pf]
    have g39 : q_up (q_up (q_up m 81 38 (W - 1)) 100 (100 * bk + C) 1205) 92 bk (C + 1) 81 39 = D := by rw [q_up_c (by decide), q_up_c (by decide), q_up_i (by decide)]; exact e39
    rw [g39]
    have k105 : q_up (q_up (q_up (q_up m 81 38 (W - 1)) 100 (100 * bk + C) 1205) 92 bk (C + 1)) 81 39 (D - 1) 105 = m 105 := by rw [q_up_f (by decide), q_up_f (by decide), q_up_f (by decide), q_up_f (by decide)]
    refine o_mono (ih n _ (C + 1) (W - 1) (D - 1) (by omega) (by omega) ?_ (by omega) (by omega) ?_ (q_up_s _ _ _ _) ?_ ?_) fun _ m' h => v_cm_step (fun c c1 c2 c3 => ?_) (fun i i1 i2 => ?_) (fun i i1 => ?_) (fun i i1 => ?_) ?_ h
    · rw [q_up_c (by decide), q_up_s]
    · rw [q_up_i (by decide), q_up_c (by decide), q_up_c (by decide), q_up_s]
    · rw [k105]
      exact fun i i1 i2 => hm i (by omega) (by omega)
    · rw [k105, show W - 1 - 1 - (j : Int) = W - 1 - ((j + 1 : Nat) : Int) by omega]
      rcases hs with hs | ⟨h1, h2⟩
      · exact Or.inl (by omega)
      · exact Or.inr ⟨by omega, h2⟩
    · rw [q_up_f c1, q_up_f c2, q_up_f c3, q_up_f c1]
    · rw [q_up_i i2, q_up_c (by decide), q_up_c (by decide), q_up_i i1]
    · rw [q_up_c (by decide), q_up_i i1, q_up_c (by decide), q_up_c (by decide)]
    · rw [q_up_c (by decide), q_up_c (by decide), q_up_i i1, q_up_c (by decide)]
    · rw [q_up_c (by decide), q_up_c (by decide), q_up_s]
theorem m_closeMinus (hb : bk = 0 ∨ bk = 1) {m : q_Mem} {C W D : Int} {j : Nat} (hC : 0 ≤ C) (hCj : C + j ≤ 100) (e92 : m 92 bk = C) (hW : W ≤ 100) (hj : j ≤ W) (e38 : m 81 38 = W) (e39 : m 81 39 = D) (hm : ∀ i, W - j ≤ i → i < W → m 105 i = 1205) (hs : W = j ∨ (j < W ∧ (1200 ≤ m 105 (W - 1 - j) ∧ m 105 (W - 1 - j) ≤ 1210) ∧ m 105 (W - 1 - j) ≠ 1205)) : q_ok (f_Mod_closeMinus bk m) (fun _ m' => v_cm m m' bk C W D j) := by
  unfold f_Mod_closeMinus
  obtain ⟨n, hn⟩ : ∃ n, q_F = n + j + 1 := ⟨20000 - j - 1, by unfold q_F; omega⟩
  rw [hn]
  exact m_cm hb j n m C W D hC hCj e92 hW hj e38 e39 hm hs
end minus
