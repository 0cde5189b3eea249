/-! THE PARSER: the model closes a bracket -/
/-- j waiting signs were laid from the stack to the codes -/
def v_lu (m m' : q_Mem) (bk C W : Int) (j : Nat) : Prop := (∀ c, c ≠ 81 → c ≠ 92 → c ≠ 100 → m' c = m c) ∧ (∀ i, i ≠ 38 → m' 81 i = m 81 i) ∧ m' 81 38 = W - j ∧ (∀ i, i ≠ bk → m' 92 i = m 92 i) ∧ m' 92 bk = C + j ∧ (∀ i, i < 100 * bk + C ∨ 100 * bk + C + j ≤ i → m' 100 i = m 100 i) ∧ ∀ i : Int, 0 ≤ i → i < j → m' 100 (100 * bk + C + i) = m 105 (W - 1 - i)
section close
variable {bk : Int}
theorem v_lu_id {m : q_Mem} {C W : Int} (e92 : m 92 bk = C) (e38 : m 81 38 = W) : v_lu m m bk C W 0 := ⟨fun _ _ _ _ => rfl, fun _ _ => rfl, by omega, fun _ _ => rfl, by omega, fun _ _ => rfl, fun i h1 h2 => by omega⟩
theorem v_lu_step {m m' : q_Mem} {C W : Int} {j : Nat} (h : v_lu (q_up (q_up (q_up m 81 38 (W - 1)) 100 (100 * bk + C) (m 105 (W - 1))) 92 bk (C + 1)) m' bk (C + 1) (W - 1) j) : v_lu m m' bk C W (j + 1) := by
  obtain ⟨a1, a2, a3, a5, a6, a7, a8⟩ := h
  have k105 : q_up (q_up (q_up m 81 38 (W - 1)) 100 (100 * bk + C) (m 105 (W - 1))) 92 bk (C + 1) 105 = m 105 := by rw [q_up_f (by decide), q_up_f (by decide), q_up_f (by decide)]
  rw [k105] at a8
  refine ⟨fun c c1 c2 c3 => ?_, fun i i1 => ?_, by omega, fun i i1 => ?_, by omega, fun i hi => ?_, fun i i1 i2 => ?_⟩
  · rw [a1 c c1 c2 c3, q_up_f c2, q_up_f c3, q_up_f c1]
  · rw [a2 i i1, q_up_c (by decide), q_up_c (by decide), q_up_i i1]
  · rw [a5 i i1, q_up_i i1, q_up_c (by decide), q_up_c (by decide)]
  · rw [a7 i (by omega), q_up_c (by decide), q_up_i (by omega), q_up_c (by decide)]
  · by_cases c : i = 0
    · rw [c, a7 _ (by omega), show 100 * bk + C + 0 = 100 * bk + C by omega, show W - 1 - 0 = W - 1 by omega, q_up_c (by decide), q_up_s]
    · have := a8 (i - 1) (by omega) (by omega)
      rw [show 100 * bk + (C + 1) + (i - 1) = 100 * bk + C + i by omega, show W - 1 - 1 - (i - 1) = W - 1 - i by omega] at this
      exact this
theorem m_cl (hb : bk = 0 ∨ bk = 1) : ∀ (j n : Nat) (m : q_Mem) (C W : Int), 0 ≤ C → C + j ≤ 100 → m 92 bk = C → W ≤ 100 → j < W → m 81 38 = W → (∀ i, W - j ≤ i → i < W → (1200 ≤ m 105 i ∧ m 105 i ≤ 1210) ∧ m 105 i ≠ 1206) → ∃ m1, v_lu m m1 bk C W j ∧ f_Mod_close_l0 (n + j) bk m = f_Mod_close_l0 n bk m1 := by
  intro j
  induction j with
  | zero =>
    intro n m C W hC hCj e92 hW hjW e38 hm
    exact ⟨m, v_lu_id e92 e38, rfl⟩
  | succ j ih =>
    intro n m C W hC hCj e92 hW hjW e38 hm
    have e105 := hm (W - 1) (by omega) (by omega)
    have lw := m_layWaiting (m := m) hb (C := C) (W := W) (by omega) e92 (by omega) e38
    have k105 : q_up (q_up (q_up m 81 38 (W - 1)) 100 (100 * bk + C) (m 105 (W - 1))) 92 bk (C + 1) 105 = m 105 := by rw [q_up_f (by decide), q_up_f (by decide), q_up_f (by decide)]
    obtain ⟨m1, h1, h2⟩ := ih n (q_up (q_up (q_up m 81 38 (W - 1)) 100 (100 * bk + C) (m 105 (W - 1))) 92 bk (C + 1)) (C + 1) (W - 1) (by omega) (by omega) (q_up_s _ _ _ _) (by omega) (by omega) (by rw [q_up_c (by decide), q_up_c (by decide), q_up_s]) (by rw [k105]; exact fun i i1 i2 => hm i (by omega) (by omega))
    refine ⟨m1, v_lu_step h1, ?_⟩
    show f_Mod_close_b0 (f_Mod_close_l0 (n + j)) bk m = _
    unfold f_Mod_close_b0
    rw [e38, x_rd (n := 100) (by omega) (by omega) (by decide), q_w_id (x := m 105 (W - 1)) (by omega) (by omega), if_neg e105.2, lw, x_bd]
    exact h2
theorem m_close (hb : bk = 0 ∨ bk = 1) {m : q_Mem} {T : Int → Int} {n k a b : Int} (h : v_ms m T n k a b) {C W D : Int} {j j' : Nat} (hC : 0 ≤ C) (hCj : C + j + j' ≤ 100) (e92 : m 92 bk = C) (hW : W ≤ 100) (hj : j + 1 + j' ≤ W) (e38 : m 81 38 = W) (e39 : m 81 39 = D) (hm : ∀ i, W - j ≤ i → i < W → (1200 ≤ m 105 i ∧ m 105 i ≤ 1210) ∧ m 105 i ≠ 1206) (hp : m 105 (W - j - 1) = 1206) (hm' : ∀ i, W - j - 1 - j' ≤ i → i < W - j - 1 → m 105 i = 1205) (hs : W - j - 1 = j' ∨ (j' < W - j - 1 ∧ (1200 ≤ m 105 (W - j - 1 - 1 - j') ∧ m 105 (W - j - 1 - 1 - j') ≤ 1210) ∧ m 105 (W - j - 1 - 1 - j') ≠ 1205)) : q_ok (f_Mod_close bk m) (fun _ m' => ∃ m1 m4 k' a' b', v_lu m m1 bk C W j ∧ v_fm (q_up (q_up m1 81 38 (W - j - 1)) 81 39 (D - 1)) m4 ∧ v_tok T n b k' a' b' ∧ v_ms m4 T n k' a' b' ∧ v_cm m4 m' bk (C + j) (W - j - 1) (D - 1) j') := by
  unfold f_Mod_close
  obtain ⟨f, hn⟩ : ∃ f, q_F = (f + 1) + j := ⟨20000 - j - 1, by unfold q_F; omega⟩
  obtain ⟨m1, hl, e⟩ := m_cl hb j (f + 1) m C W hC (by omega) e92 hW (by omega) e38 hm
  rw [hn, e]
  show q_ok (f_Mod_close_b0 (f_Mod_close_l0 f) bk m1) _
  have k105 : m1 105 = m 105 := hl.1 105 (by decide) (by decide) (by decide)
  unfold f_Mod_close_b0
  rw [hl.2.2.1, x_rd (n := 100) (by omega) (by omega) (by decide), k105, hp, if_pos (by decide), x_pf, x_pf]
  have g39 : q_up m1 81 38 (W - j - 1) 81 39 = D := by rw [q_up_i (by decide), hl.2.1 39 (by decide)]; exact e39
  rw [g39]
  have hms : v_ms (q_up (q_up m1 81 38 (W - j - 1)) 81 39 (D - 1)) T n k a b := by
    refine v_ms_fr h (fun i i1 i2 => ?_) ?_ ?_
    · rw [q_up_i (by omega), q_up_i (by omega), hl.2.1 i (by omega)]
    · rw [q_up_f (by decide), q_up_f (by decide), hl.1 101 (by decide) (by decide) (by decide)]
    · rw [q_up_f (by decide), q_up_f (by decide), hl.1 102 (by decide) (by decide) (by decide)]
  refine o_bd (m_next hms) fun _ m4 ⟨f4, k', a', b', ht, hms4⟩ => ?_
  have j105 : m4 105 = m 105 := by rw [f4.1 105 (by decide), q_up_f (by decide), q_up_f (by decide), k105]
  refine o_bd (m_closeMinus hb (m := m4) (C := C + j) (W := W - j - 1) (D := D - 1) (j := j') (by omega) (by omega) ?_ (by omega) (by omega) ?_ ?_ ?_ ?_) fun _ m5 h5 => o_rt ⟨m1, m4, k', a', b', hl, f4, ht, hms4, h5⟩
  · rw [f4.1 92 (by decide), q_up_f (by decide), q_up_f (by decide)]; exact hl.2.2.2.2.1
  · rw [f4.2 38 (by omega), q_up_i (by decide), q_up_s]
  · rw [f4.2 39 (by omega), q_up_s]
  · rw [j105]; exact hm'
  · rw [j105]; exact hs
end close
