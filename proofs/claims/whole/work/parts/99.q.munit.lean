/-! THE PARSER: what the model finds wrong with a unit -/
section munit
variable {m : q_Mem} {T : Int → Int} {n k a b bk : Int} {f e : Int → Int}
theorem m_unitHead (hb : bk = 0 ∨ bk = 1) (h : v_ms m T n k a b) (hf0 : m 81 28 = 0) {u R mny w x : Int} (hm : 0 ≤ mny ∧ mny ≤ 3) (e85 : m 85 bk = u) (e86 : m 86 bk = R) (e39 : m 81 39 = w) (hu : 0 ≤ u ∧ u ≤ 40) (hR : 0 ≤ R ∧ R ≤ 12) (hw : 0 ≤ w ∧ w ≤ 5) (hf : ∀ j, 0 ≤ j → j < mny → m 103 j = f j ∧ m 104 j = e j - f j ∧ 0 ≤ f j ∧ f j ≤ e j ∧ e j ≤ 800) (hx : v_nd (fun j => v_nm T (f j) (e j) a b) mny x) : ∃ r o, v_UF T k a b x u w R r ∧ (o = 0 ∨ o = 1) ∧ (o = 1 ↔ (k = 40 ∨ k = 45)) ∧ ((r = 0 ∧ f_Mod_readUnit bk mny m = f_Mod_readUnit_b171 bk mny o m) ∨ (r ≠ 0 ∧ f_Mod_readUnit bk mny m = some (0, q_up (q_up m 81 28 r) 81 29 a))) := by
  have hk := h.2.2.1.2.1
  have hk2 : k ≠ 2 := fun e => (h.2.2.1.2.2.2.2 (by omega)).2.1 e
  have htk := v_tk_iff hk hk2
  have hr26 := h.2.2.2.2
  obtain ⟨nm, mn, enm, emn, hnm⟩ := m_isName h.2.2.1 h.2.1 hf0
  rw [emn] at enm
  have hnm' : (nm = 1 ∧ v_Rd T k a b) ∨ (nm = 0 ∧ ¬ v_Rd T k a b) := hnm
  have hwn : q_w nm = nm := by rcases hnm' with ⟨h, _⟩ | ⟨h, _⟩ <;> subst h <;> rfl
  obtain ⟨x', m3, enx, em3, hx'⟩ := m_named h.1 h.2.2.1 h.2.1 hm hf
  have exx : x' = x := v_nd_u hx' hx
  rw [exx, em3] at enx
  have hxr : -1 ≤ x ∧ x < 3 := by rcases hx with ⟨hx, _⟩ | ⟨hx, _⟩ <;> omega
  -- whether it opens
  have core : ∀ o, (o = 0 ∨ o = 1) → (o = 1 ↔ (k = 40 ∨ k = 45)) → ∃ r, v_UF T k a b x u w R r ∧ ((r = 0 ∧ f_Mod_readUnit_b23 bk mny o m = f_Mod_readUnit_b171 bk mny o m) ∨ (r ≠ 0 ∧ f_Mod_readUnit_b23 bk mny o m = some (0, q_up (q_up m 81 28 r) 81 29 a))) := by
    intro o ho hoi
    have hwo : q_w o = o := by rcases ho with h | h <;> subst h <;> rfl
    have fl : ∀ r, 1 ≤ r → r ≤ 4 → q_bd (f_Mod_fail r m) (fun _ m1 => f_Mod_readUnit_b171 bk mny o m1) = some (0, q_up (q_up m 81 28 r) 81 29 a) := by
      intro r r1 r4
      rw [m_fail0 hf0, x_bd, h.2.1.2.1]
      unfold f_Mod_readUnit_b171
      have e28 : q_up (q_up m 81 28 r) 81 29 a 81 28 = r := by rw [q_up_i (by decide), q_up_s]
      rw [e28, q_w_id (x := r) (by omega) (by omega), if_neg (by omega), x_rz0]
    have b166 : (v_Rd T k a b ∨ v_pl T k a b) → ¬ (k = 4 ∧ 999 < v_dec T a (b - a).toNat) → ¬ (v_Rd T k a b ∧ x = -1) → (40 ≤ u ∨ 4 < w ∨ (v_Rd T k a b ∧ 12 ≤ R)) → ∃ r, v_UF T k a b x u w R r ∧ ((r = 0 ∧ f_Mod_readUnit_b166 bk mny o m = f_Mod_readUnit_b171 bk mny o m) ∨ (r ≠ 0 ∧ f_Mod_readUnit_b166 bk mny o m = some (0, q_up (q_up m 81 28 r) 81 29 a))) := by
      intro hA hB hC hD
      refine ⟨4, Or.inr (Or.inr (Or.inr (Or.inl ⟨rfl, hA, hB, hC, hD⟩))), Or.inr ⟨by decide, ?_⟩⟩
      unfold f_Mod_readUnit_b166
      exact fl 4 (by decide) (by decide)
    have b129 : (v_Rd T k a b ∨ v_pl T k a b) → ¬ (k = 4 ∧ 999 < v_dec T a (b - a).toNat) → ¬ (v_Rd T k a b ∧ x = -1) → ∃ r, v_UF T k a b x u w R r ∧ ((r = 0 ∧ f_Mod_readUnit_b129 bk mny o m = f_Mod_readUnit_b171 bk mny o m) ∨ (r ≠ 0 ∧ f_Mod_readUnit_b129 bk mny o m = some (0, q_up (q_up m 81 28 r) 81 29 a))) := by
      intro hA hB hC
      unfold f_Mod_readUnit_b129
      rw [x_rd (n := 2) (by omega) (by omega) (by decide), e85, q_w_id (x := u) (by omega) (by omega), e39, q_w_id (x := w) (by omega) (by omega)]
      by_cases c1 : u = 40
      · rw [if_pos c1]; exact b166 hA hB hC (Or.inl (by omega))
      rw [if_neg c1]
      by_cases c2 : 4 < w
      · rw [if_pos c2]; exact b166 hA hB hC (Or.inr (Or.inl c2))
      rw [if_neg c2, enm, x_bd, hwn]
      rcases hnm' with ⟨ev, hRd⟩ | ⟨ev, hRd⟩
      · rw [if_neg (by omega), x_rd (n := 2) (by omega) (by omega) (by decide), e86, q_w_id (x := R) (by omega) (by omega)]
        by_cases c3 : R = 12
        · rw [if_pos c3]; exact b166 hA hB hC (Or.inr (Or.inr ⟨hRd, by omega⟩))
        · rw [if_neg c3]
          refine ⟨0, Or.inr (Or.inr (Or.inr (Or.inr ⟨rfl, hA, hB, hC, fun hh => ?_⟩))), Or.inl ⟨rfl, rfl⟩⟩
          rcases hh with hh | hh | ⟨_, hh⟩ <;> omega
      · rw [if_pos ev]
        refine ⟨0, Or.inr (Or.inr (Or.inr (Or.inr ⟨rfl, hA, hB, hC, fun hh => ?_⟩))), Or.inl ⟨rfl, rfl⟩⟩
        rcases hh with hh | hh | ⟨hh, _⟩
        · omega
        · omega
        · exact hRd hh
    have b106 : (v_Rd T k a b ∨ v_pl T k a b) → ¬ (k = 4 ∧ 999 < v_dec T a (b - a).toNat) → ∃ r, v_UF T k a b x u w R r ∧ ((r = 0 ∧ f_Mod_readUnit_b106 bk mny o m = f_Mod_readUnit_b171 bk mny o m) ∨ (r ≠ 0 ∧ f_Mod_readUnit_b106 bk mny o m = some (0, q_up (q_up m 81 28 r) 81 29 a))) := by
      intro hA hB
      unfold f_Mod_readUnit_b106
      rw [enm, x_bd, hwn]
      rcases hnm' with ⟨ev, hRd⟩ | ⟨ev, hRd⟩
      · rw [if_neg (by omega), enx, x_bd, q_w_id (x := x) (by omega) (by omega)]
        by_cases cx : 0 ≤ x
        · rw [if_pos cx]; exact b129 hA hB fun hh => by omega
        · rw [if_neg cx]
          exact ⟨3, Or.inr (Or.inr (Or.inl ⟨rfl, hA, hB, hRd, by omega⟩)), Or.inr ⟨by decide, fl 3 (by decide) (by decide)⟩⟩
      · rw [if_pos ev]; exact b129 hA hB fun hh => hRd hh.1
    have b80 : (v_Rd T k a b ∨ v_pl T k a b) → ∃ r, v_UF T k a b x u w R r ∧ ((r = 0 ∧ f_Mod_readUnit_b80 bk mny o m = f_Mod_readUnit_b171 bk mny o m) ∨ (r ≠ 0 ∧ f_Mod_readUnit_b80 bk mny o m = some (0, q_up (q_up m 81 28 r) 81 29 a))) := by
      intro hA
      unfold f_Mod_readUnit_b80
      rw [h.2.1.1, q_w_id (x := v_tk k) (by omega) (by omega)]
      by_cases c4 : k = 4
      · have hn := h.2.2.2.1 c4
        rw [if_pos (htk.2.2.2.1.mpr c4), q_w_id (x := m 81 26) (by omega) (by omega)]
        by_cases c5 : m 81 26 ≤ 999
        · rw [if_pos c5]
          refine b106 hA fun hh => ?_
          rcases hn with ⟨_, _⟩ | ⟨_, _, _⟩ <;> omega
        · rw [if_neg c5]
          refine ⟨2, Or.inr (Or.inl ⟨rfl, hA, c4, ?_⟩), Or.inr ⟨by decide, fl 2 (by decide) (by decide)⟩⟩
          rcases hn with ⟨_, _⟩ | ⟨_, _, _⟩ <;> omega
      · rw [if_neg fun e => c4 (htk.2.2.2.1.mp e)]
        exact b106 hA fun hh => c4 hh.1
    have b46 : ∀ s0, (s0 = 0 ∨ s0 = 1) → (s0 = 1 ↔ v_pw T k a b) → ∃ r, v_UF T k a b x u w R r ∧ ((r = 0 ∧ f_Mod_readUnit_b46 bk mny o s0 m = f_Mod_readUnit_b171 bk mny o m) ∨ (r ≠ 0 ∧ f_Mod_readUnit_b46 bk mny o s0 m = some (0, q_up (q_up m 81 28 r) 81 29 a))) := by
      intro s0 hs0 hsi
      have hws : q_w s0 = s0 := by rcases hs0 with h | h <;> subst h <;> rfl
      unfold f_Mod_readUnit_b46
      rw [hwo, hws]
      by_cases co : o = 0
      · rw [if_pos co]
        by_cases cs : s0 = 0
        · rw [if_pos cs, enm, x_bd, hwn]
          rcases hnm' with ⟨ev, hRd⟩ | ⟨ev, hRd⟩
          · rw [if_neg (by omega)]; exact b80 (Or.inl hRd)
          · rw [if_pos ev, h.2.1.1, q_w_id (x := v_tk k) (by omega) (by omega)]
            by_cases c4 : k = 4
            · rw [if_pos (htk.2.2.2.1.mpr c4)]; exact b80 (Or.inr (Or.inl c4))
            · rw [if_neg fun e => c4 (htk.2.2.2.1.mp e)]
              refine ⟨1, Or.inl ⟨rfl, fun hh => ?_⟩, Or.inr ⟨by decide, fl 1 (by decide) (by decide)⟩⟩
              rcases hh with hh | hh | hh | hh | hh
              · exact hRd hh
              · exact c4 hh
              · have := hoi.mpr (Or.inl hh); omega
              · have := hoi.mpr (Or.inr hh); omega
              · have := hsi.mpr hh; omega
        · rw [if_neg cs]
          exact b80 (Or.inr (Or.inr (Or.inr (Or.inr (hsi.mp (by omega))))))
      · rw [if_neg co]
        rcases hoi.mp (by omega) with hh | hh
        · exact b80 (Or.inr (Or.inr (Or.inl hh)))
        · exact b80 (Or.inr (Or.inr (Or.inr (Or.inl hh))))
    unfold f_Mod_readUnit_b23
    obtain ⟨i5, m5, e5, em5, h5⟩ := m_isWord h.2.2.1 h.2.1 hf0 (w := 5) (by decide)
    obtain ⟨i6, m6, e6, em6, h6⟩ := m_isWord h.2.2.1 h.2.1 hf0 (w := 6) (by decide)
    rw [em5] at e5
    rw [em6] at e6
    rw [e5, x_bd]
    rcases h5 with ⟨ei5, h5⟩ | ⟨ei5, h5⟩
    · rw [ei5, x_w1, if_neg (by decide)]
      unfold f_Mod_readUnit_b41
      exact b46 1 (Or.inr rfl) ⟨fun _ => Or.inl h5, fun _ => rfl⟩
    rw [ei5, x_w0, if_pos rfl, e6, x_bd]
    rcases h6 with ⟨ei6, h6⟩ | ⟨ei6, h6⟩
    · rw [ei6, x_w1, if_neg (by decide)]
      unfold f_Mod_readUnit_b41
      exact b46 1 (Or.inr rfl) ⟨fun _ => Or.inr h6, fun _ => rfl⟩
    rw [ei6, x_w0, if_pos rfl]
    refine b46 0 (Or.inl rfl) ⟨fun e => absurd e (by decide), fun hh => ?_⟩
    rcases hh with hh | hh
    · exact absurd hh h5
    · exact absurd hh h6
  unfold f_Mod_readUnit
  rw [m_isAtE h hf0 (q := 40) (by unfold v_sg; omega), x_bd]
  by_cases c40 : k = 40
  · rw [if_pos c40, x_w1, if_neg (by decide)]
    obtain ⟨r, h1, h2⟩ := core 1 (Or.inr rfl) ⟨fun _ => Or.inl c40, fun _ => rfl⟩
    exact ⟨r, 1, h1, Or.inr rfl, ⟨fun _ => Or.inl c40, fun _ => rfl⟩, h2⟩
  rw [if_neg c40, x_w0, if_pos rfl, m_isAtE h hf0 (q := 45) (by unfold v_sg; omega), x_bd]
  by_cases c45 : k = 45
  · rw [if_pos c45, x_w1, if_neg (by decide)]
    obtain ⟨r, h1, h2⟩ := core 1 (Or.inr rfl) ⟨fun _ => Or.inr c45, fun _ => rfl⟩
    exact ⟨r, 1, h1, Or.inr rfl, ⟨fun _ => Or.inr c45, fun _ => rfl⟩, h2⟩
  rw [if_neg c45, x_w0, if_pos rfl]
  have hno : ¬ (k = 40 ∨ k = 45) := fun hh => by omega
  obtain ⟨r, h1, h2⟩ := core 0 (Or.inl rfl) ⟨fun e => absurd e (by decide), fun hh => absurd hh hno⟩
  exact ⟨r, 0, h1, Or.inl rfl, ⟨fun e => absurd e (by decide), fun hh => absurd hh hno⟩, h2⟩
end munit
