/-! THE PARSER: the model's numerals without a sign -/
section numeral
variable {m : q_Mem} {T : Int → Int} {n k a b : Int}
theorem m_numeral (h : v_ms m T n k a b) (hf : m 81 28 = 0) {lo hi : Int} (hlo : -10 ≤ lo ∧ lo ≤ 10) (hhi : -10 ≤ hi ∧ hi ≤ 10) : q_ok (f_Mod_numeral lo hi m) (fun r m' => v_fs m m' ∧ (-9999 ≤ r ∧ r ≤ 9999) ∧ (0 ≤ m' 81 26 ∧ m' 81 26 ≤ 9999) ∧ ((k ≠ 4 ∧ m' 81 28 = 1 ∧ m' 81 29 = a) ∨ (k = 4 ∧ ¬ (lo ≤ v_val T lo k a b ∧ v_val T lo k a b ≤ hi) ∧ m' 81 28 = 2 ∧ m' 81 29 = a) ∨ (k = 4 ∧ (lo ≤ v_val T lo k a b ∧ v_val T lo k a b ≤ hi) ∧ m' 81 28 = 0 ∧ r = v_val T lo k a b ∧ m' 81 29 = m 81 29 ∧ ∃ k' a' b', v_tok T n b k' a' b' ∧ v_ms m' T n k' a' b'))) := by
  have hk := h.2.2.1.2.1
  have hk2 : k ≠ 2 := fun e => (h.2.2.1.2.2.2.2 (by omega)).2.1 e
  have htk := v_tk_iff hk hk2
  unfold f_Mod_numeral
  rw [h.2.1.1, q_w_id (x := v_tk k) (by omega) (by omega)]
  by_cases c4 : k = 4
  · rw [if_pos (htk.2.2.2.1.mpr c4)]
    have sg : q_ok (f_Mod_signed lo hi m) (fun r m' => v_fs m m' ∧ v_mn m' (m 81 29) T n lo hi k k a b r) := by
      unfold f_Mod_signed
      refine o_bd (m_isAt h.1 h.2.2.1 h.2.1 hf (q := 45) (by unfold v_sg; omega)) fun v m2 ⟨em, hv⟩ => ?_
      rw [em]
      rcases hv with ⟨ev, hk'⟩ | ⟨ev, hk'⟩
      · exact absurd hk' (by omega)
      · rw [ev, x_w0, if_pos rfl]
        exact m_num h hf hlo hhi (w := 0) (Or.inl rfl) (k0 := k) ⟨fun e => absurd e (by decide), fun e => absurd e.2 hk'⟩
    refine o_bd sg fun r m2 ⟨f2, hr2, hc⟩ => ?_
    unfold f_Mod_numeral_b25
    rcases hc with ⟨h1, _⟩ | ⟨_, hn, e28, e29⟩ | ⟨_, hin, e28, er, hms, e29⟩
    · exact absurd c4 h1
    · rw [e28, if_neg (by decide)]
      exact o_rt ⟨f2, hr2.1, hr2.2, Or.inr (Or.inl ⟨c4, hn, e28, e29⟩)⟩
    · rw [e28, if_pos (by decide)]
      refine o_bd (m_next hms) fun _ m3 ⟨f3, k', a', b', ht, hms3⟩ => ?_
      exact o_rt ⟨v_fs_tr f2 (v_fs_fm f3), hr2.1, hms3.2.2.2.2, Or.inr (Or.inr ⟨c4, hin, (f3.2 28 (by omega)).trans e28, er, (f3.2 29 (by omega)).trans e29, k', a', b', ht, hms3⟩)⟩
  · rw [if_neg fun e => c4 (htk.2.2.2.1.mp e), m_fail0 hf, x_bd]
    unfold f_Mod_numeral_b25
    have e28 : q_up (q_up m 81 28 1) 81 29 (m 81 24) 81 28 = 1 := by rw [q_up_i (by decide)]; exact q_up_s _ _ _ _
    rw [e28, if_neg (by decide)]
    exact o_rt ⟨v_fs_tr (v_fs_up (Or.inl rfl)) (v_fs_up (Or.inr rfl)), by omega, by rw [q_up_i (by decide), q_up_i (by decide)]; exact h.2.2.2.2, Or.inl ⟨c4, e28, by rw [q_up_s]; exact h.2.1.2.1⟩⟩
/-- where something was wrong before, nothing happens -/
theorem m_numeral1 (hf : 1 ≤ m 81 28 ∧ m 81 28 ≤ 4) (h25 : 0 ≤ m 81 25 ∧ m 81 25 ≤ 4) (hr : 0 ≤ m 81 26 ∧ m 81 26 ≤ 9999) {lo hi : Int} (hlo : -10 ≤ lo ∧ lo ≤ 10) (hhi : -10 ≤ hi ∧ hi ≤ 10) : q_ok (f_Mod_numeral lo hi m) (fun r m' => m' = m ∧ 0 ≤ r ∧ r ≤ 9999) := by
  have b25 : ∀ x, f_Mod_numeral_b25 x m = some (x, m) := by
    intro x
    unfold f_Mod_numeral_b25
    rw [q_w_id (x := m 81 28) (by omega) (by omega), if_neg (by omega), x_rt]
  unfold f_Mod_numeral
  by_cases c : q_w (m 81 25) = 3
  · rw [if_pos c, m_signed1 hf h25 hr hlo hhi, x_bd, b25]
    exact o_some ⟨rfl, hr⟩
  · rw [if_neg c, m_fail1 hf, x_bd, b25]
    exact o_some ⟨rfl, by omega⟩
end numeral
