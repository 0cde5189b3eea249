/-! THE PARSER: a read under a standing fault -/
section mread2
variable {m : q_Mem} {bk : Int}
theorem m_rd301 {vr l x : Int} (hf : 1 ≤ m 81 28 ∧ m 81 28 ≤ 4) (h25 : 0 ≤ m 81 25 ∧ m 81 25 ≤ 4) (hr : 0 ≤ m 81 26 ∧ m 81 26 ≤ 9999) : f_Mod_readRead_b30 bk vr l x m = some (0, m) := by
  unfold f_Mod_readRead_b30
  rw [m_need1 hf, x_bd, m_signed1 hf h25 hr (by omega) (by omega), x_bd]
  by_cases c1 : q_w vr = q_w l
  · rw [if_pos c1]
    by_cases c2 : q_w x = 0
    · rw [if_pos c2]
      by_cases c3 : q_w (m 81 26) = 0
      · rw [if_pos c3, m_fail1 hf, x_bd, m_rd651 hf]
      · rw [if_neg c3, m_rd651 hf]
    · rw [if_neg c2, m_rd651 hf]
  · rw [if_neg c1, m_rd651 hf]
end mread2
