/-! THE PARSER: the model's numbers -/
def v_fs (m m' : q_Mem) : Prop := (∀ c, c ≠ 81 → m' c = m c) ∧ ∀ j, j < 23 ∨ 29 < j → m' 81 j = m 81 j
/-- what the model's number makes of it; it has not gone over it yet -/
def v_mn (m' : q_Mem) (Q : Int) (T : Int → Int) (n lo hi k k1 a1 b1 r : Int) : Prop := ((-9999 ≤ r ∧ r ≤ 9999) ∧ 0 ≤ m' 81 26 ∧ m' 81 26 ≤ 9999) ∧ ((k1 ≠ 4 ∧ m' 81 28 = 1 ∧ m' 81 29 = a1) ∨ (k1 = 4 ∧ ¬ (lo ≤ v_val T lo k a1 b1 ∧ v_val T lo k a1 b1 ≤ hi) ∧ m' 81 28 = 2 ∧ m' 81 29 = a1) ∨ (k1 = 4 ∧ (lo ≤ v_val T lo k a1 b1 ∧ v_val T lo k a1 b1 ≤ hi) ∧ m' 81 28 = 0 ∧ r = v_val T lo k a1 b1 ∧ v_ms m' T n k1 a1 b1 ∧ m' 81 29 = Q))
section mnum
variable {m m' : q_Mem} {T : Int → Int} {n k a b : Int}
theorem v_fs_id (m : q_Mem) : v_fs m m := ⟨fun _ _ => rfl, fun _ _ => rfl⟩
theorem v_fs_fm (h : v_fm m m') : v_fs m m' := ⟨h.1, fun j hj => h.2 j (by omega)⟩
theorem v_fs_tr {m1 m2 : q_Mem} (h : v_fs m m1) (h' : v_fs m1 m2) : v_fs m m2 := ⟨fun c hc => (h'.1 c hc).trans (h.1 c hc), fun j hj => (h'.2 j hj).trans (h.2 j hj)⟩
theorem v_fs_up {j v : Int} (hj : j = 28 ∨ j = 29) : v_fs m (q_up m 81 j v) := ⟨fun c hc => q_up_f hc, fun i hi => q_up_i (by omega)⟩
theorem m_num (h : v_ms m T n k a b) (hf : m 81 28 = 0) {lo hi : Int} (hlo : -10 ≤ lo ∧ lo ≤ 10) (hhi : -10 ≤ hi ∧ hi ≤ 10) {w : Int} (hw : w = 0 ∨ w = 1) {k0 : Int} (hk0 : w = 1 ↔ (lo < 0 ∧ k0 = 45)) : q_ok (f_Mod_signed_b15 lo hi w m) (fun r m' => v_fs m m' ∧ v_mn m' (m 81 29) T n lo hi k0 k a b r) := by
  have hk := h.2.2.1.2.1
  have hk2 : k ≠ 2 := fun e => (h.2.2.1.2.2.2.2 (by omega)).2.1 e
  have htk := v_tk_iff hk hk2
  have hr := h.2.2.2.2
  have hww : q_w w = w := by rcases hw with rfl | rfl <;> rfl
  unfold f_Mod_signed_b15
  rw [h.2.1.1, q_w_id (x := v_tk k) (by omega) (by omega)]
  -- the value as the model has it
  have sval : ∀ m2 : q_Mem, m2 81 26 = m 81 26 → f_Mod_signed_b28 lo hi w m2 = f_Mod_signed_b44 lo hi (if w = 1 then -(m 81 26) else m 81 26) m2 := by
    intro m2 e
    unfold f_Mod_signed_b28
    rw [hww, e]
    rcases hw with hw | hw
    · rw [if_pos hw, if_neg (by omega)]
    · rw [if_neg (by omega), if_pos hw]
  have hsr : -9999 ≤ (if w = 1 then -(m 81 26) else m 81 26) ∧ (if w = 1 then -(m 81 26) else m 81 26) ≤ 9999 := by split <;> omega
  by_cases c4 : k = 4
  · have hv := h.2.2.2.1 c4
    have hin := v_in (lo := lo) (hi := hi) hv hr.1 hlo hhi
    rw [if_pos (htk.2.2.2.1.mpr c4), sval m rfl]
    have hval : ((lo ≤ v_val T lo k0 a b ∧ v_val T lo k0 a b ≤ hi) ↔ (lo ≤ (if w = 1 then -(m 81 26) else m 81 26) ∧ (if w = 1 then -(m 81 26) else m 81 26) ≤ hi)) ∧ ((lo ≤ v_val T lo k0 a b ∧ v_val T lo k0 a b ≤ hi) → (if w = 1 then -(m 81 26) else m 81 26) = v_val T lo k0 a b) := by
      unfold v_val
      by_cases c1 : w = 1
      · rw [if_pos (hk0.mp c1), if_pos c1]
        exact ⟨hin.2.1, fun hh => by have := hin.2.2.2.1 hh; omega⟩
      · rw [if_neg fun hh => c1 (hk0.mpr hh), if_neg c1]
        exact ⟨hin.1, fun hh => hin.2.2.1 hh⟩
    generalize (if w = 1 then -(m 81 26) else m 81 26) = s1 at *
    unfold f_Mod_signed_b44
    rw [m_isIn (by omega) (by omega) (by omega), x_bd]
    by_cases ci : lo ≤ s1 ∧ s1 ≤ hi
    · rw [if_pos ci, x_w1, if_neg (by decide)]
      have hvv := hval.1.mpr ci
      exact o_rt ⟨v_fs_id m, ⟨hsr, hr⟩, Or.inr (Or.inr ⟨c4, hvv, hf, hval.2 hvv, h, rfl⟩)⟩
    · rw [if_neg ci, x_w0, if_pos rfl, m_fail0 hf, x_bd, h.2.1.2.1]
      exact o_rt ⟨v_fs_tr (v_fs_up (by omega)) (v_fs_up (by omega)), ⟨hsr, by rw [q_up_i (by decide), q_up_i (by decide)]; exact hr⟩, Or.inr (Or.inl ⟨c4, fun hh => ci (hval.1.mp hh), by rw [q_up_i (by decide), q_up_s], q_up_s _ _ _ _⟩)⟩
  · rw [if_neg fun e => c4 (htk.2.2.2.1.mp e), m_fail0 hf, x_bd, h.2.1.2.1, sval _ (by rw [q_up_i (by decide), q_up_i (by decide)])]
    have g28 : q_up (q_up m 81 28 1) 81 29 a 81 28 = 1 := by rw [q_up_i (by decide), q_up_s]
    have g29 : q_up (q_up m 81 28 1) 81 29 a 81 29 = a := q_up_s _ _ _ _
    have g26 : q_up (q_up m 81 28 1) 81 29 a 81 26 = m 81 26 := by rw [q_up_i (by decide), q_up_i (by decide)]
    have fs : v_fs m (q_up (q_up m 81 28 1) 81 29 a) := v_fs_tr (v_fs_up (by omega)) (v_fs_up (by omega))
    revert g28 g29 g26 fs
    generalize q_up (q_up m 81 28 1) 81 29 a = m5
    intro g28 g29 g26 fs
    generalize (if w = 1 then -(m 81 26) else m 81 26) = s1 at *
    unfold f_Mod_signed_b44
    rw [m_isIn (by omega) (by omega) (by omega), x_bd]
    have fin : q_ok (q_rt s1 m5) (fun r m' => v_fs m m' ∧ v_mn m' (m 81 29) T n lo hi k0 k a b r) := o_rt ⟨fs, ⟨hsr, by rw [g26]; exact hr⟩, Or.inl ⟨c4, g28, g29⟩⟩
    by_cases ci : lo ≤ s1 ∧ s1 ≤ hi
    · rw [if_pos ci, x_w1, if_neg (by decide)]
      exact fin
    · rw [if_neg ci, x_w0, if_pos rfl, m_fail1 (by omega), x_bd]
      exact fin
theorem m_signed (h : v_ms m T n k a b) (hf : m 81 28 = 0) {lo hi : Int} (hlo : -10 ≤ lo ∧ lo < 0) (hhi : -10 ≤ hi ∧ hi ≤ 10) : q_ok (f_Mod_signed lo hi m) (fun r m' => v_fs m m' ∧ ∃ k1 a1 b1, v_pm T n lo k a b k1 a1 b1 ∧ v_mn m' (m 81 29) T n lo hi k k1 a1 b1 r) := by
  unfold f_Mod_signed
  refine o_bd (m_isAt h.1 h.2.2.1 h.2.1 hf (q := 45) (by unfold v_sg; omega)) fun v m2 ⟨em, hv⟩ => ?_
  rw [em]
  rcases hv with ⟨ev, hk⟩ | ⟨ev, hk⟩
  · rw [ev, x_w1, if_neg (by decide)]
    refine o_bd (m_next h) fun _ m3 ⟨f3, k1, a1, b1, ht, hms⟩ => ?_
    have hm : lo < 0 ∧ k = 45 := ⟨hlo.2, hk⟩
    refine o_mono (m_num hms (by rw [f3.2 28 (by omega)]; exact hf) (by omega) hhi (w := 1) (Or.inr rfl) (k0 := k) ⟨fun _ => hm, fun _ => rfl⟩) fun r m4 ⟨f4, h4⟩ => ⟨v_fs_tr (v_fs_fm f3) f4, k1, a1, b1, Or.inr ⟨hm, ht⟩, by rw [← f3.2 29 (by omega)]; exact h4⟩
  · rw [ev, x_w0, if_pos rfl]
    have hn : ¬ (lo < 0 ∧ k = 45) := fun hh => hk hh.2
    refine o_mono (m_num h hf (by omega) hhi (w := 0) (Or.inl rfl) (k0 := k) ⟨fun e => absurd e (by decide), fun e => absurd e hn⟩) fun r m4 ⟨f4, h4⟩ => ⟨f4, k, a, b, Or.inl ⟨hn, rfl, rfl, rfl⟩, h4⟩
/-- where something was wrong before, nothing happens -/
theorem m_signed1 (hf : 1 ≤ m 81 28 ∧ m 81 28 ≤ 4) (h25 : 0 ≤ m 81 25 ∧ m 81 25 ≤ 4) (hr : 0 ≤ m 81 26 ∧ m 81 26 ≤ 9999) {lo hi : Int} (hlo : -10 ≤ lo ∧ lo ≤ 10) (hhi : -10 ≤ hi ∧ hi ≤ 10) : f_Mod_signed lo hi m = some (m 81 26, m) := by
  have b44 : f_Mod_signed_b44 lo hi (m 81 26) m = some (m 81 26, m) := by
    unfold f_Mod_signed_b44
    rw [m_isIn (by omega) (by omega) (by omega), x_bd]
    by_cases c : lo ≤ m 81 26 ∧ m 81 26 ≤ hi
    · rw [if_pos c, x_w1, if_neg (by decide), x_rt]
    · rw [if_neg c, x_w0, if_pos rfl, m_fail1 hf, x_bd, x_rt]
  have b28 : f_Mod_signed_b28 lo hi 0 m = some (m 81 26, m) := by
    unfold f_Mod_signed_b28
    rw [x_w0, if_pos rfl]
    exact b44
  unfold f_Mod_signed f_Mod_signed_b15
  rw [m_isAt1 hf, x_bd, x_w0, if_pos rfl]
  by_cases c : q_w (m 81 25) = 3
  · rw [if_pos c]; exact b28
  · rw [if_neg c, m_fail1 hf, x_bd]; exact b28
end mnum
