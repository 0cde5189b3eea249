/-! QUESTION: near -/
section near
variable {l m : q_Mem} {o : Int → Int}
theorem b_near (hk : k_ok l o) {i j w : Int} (hi : q_32 i) (hj : q_32 j) (hw : q_32 w) : k_both l o (f_PG_near i j w) (f_Mod_near i j w) := by
  refine k_both_of fun mc mm hc hm => ?_
  have hg := hk.1
  have hw' := hw
  unfold q_32 at hw'
  refine ⟨q_w (if g_in (l 0 0) (l 0 1) i j then (if w = 0 then g_hang l (10 * i + j) else if w = 1 then g_held l (10 * i + j) else -1) else -1), ?_, ?_⟩
  · unfold f_PG_near
    rw [x_lt, x_one hc.1.1, c_isInside hc.1.2 hg hi hj, x_bd, x_wi]
    simp only [x_i0]
    by_cases c : g_in (l 0 0) (l 0 1) i j
    · obtain ⟨hp, hi', hj'⟩ := g_in_pt hg c
      rw [if_neg (fun h => h c), if_pos c, q_w_id (x := w) (by omega) (by omega), x_lt, x_one hc.1.1, x_lt, x_one hc.1.1, show i * 10 + j = 10 * i + j by omega, c_readBy hc.1.2 hg hp.1, c_readersOf hc.1.2 hg hp.1, x_bd, x_bd]
      split
      · exact o_rt ⟨rfl, k_fc_id _, hc⟩
      split
      · exact o_rt ⟨rfl, k_fc_id _, hc⟩
      · exact o_rt ⟨rfl, k_fc_id _, hc⟩
    · rw [if_pos c, if_neg c]
      exact o_rt ⟨rfl, k_fc_id _, hc⟩
  · rw [m_near hm.1 hg hi hj hw, show i * 10 + j = 10 * i + j by omega]
    exact o_some ⟨rfl, k_fm_id _⟩
end near
