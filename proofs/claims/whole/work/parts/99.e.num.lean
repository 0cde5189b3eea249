/-! THE PARSER: a number is passed -/
section num
variable {m m' : q_Mem} {T : Int → Int} {n k a b : Int}
theorem v_in {V N lo hi : Int} (hv : v_nr V N) (h0 : 0 ≤ N) (hlo : -10 ≤ lo ∧ lo ≤ 10) (hhi : -10 ≤ hi ∧ hi ≤ 10) : ((lo ≤ V ∧ V ≤ hi) ↔ (lo ≤ N ∧ N ≤ hi)) ∧ ((lo ≤ -V ∧ -V ≤ hi) ↔ (lo ≤ -N ∧ -N ≤ hi)) ∧ ((lo ≤ V ∧ V ≤ hi) → N = V) ∧ ((lo ≤ -V ∧ -V ≤ hi) → N = V) ∧ N ≤ 1000000 := by
  unfold v_nr at hv
  omega
theorem c_num (h : v_cs m T n k a b) {lo hi : Int} (hlo : -10 ≤ lo ∧ lo ≤ 10) (hhi : -10 ≤ hi ∧ hi ≤ 10) {w : Int} (hw : w = 0 ∨ w = 1) {k0 : Int} (hk0 : w = 1 ↔ (lo < 0 ∧ k0 = 45)) : q_ok (f_Pars_passNumber_b33 lo hi w m) (fun r m' => v_fp m m' ∧ v_cn m m' T n lo hi k0 k a b r) := by
  have hk := h.2.2.1.2.1
  have hs1 := h.2.2.1.1
  have hn := h.1.2.1
  unfold f_Pars_passNumber_b33
  rw [h.2.1.1, q_w_id (x := k) (by omega) (by omega)]
  by_cases c4 : k = 4
  · obtain ⟨hv, hv0⟩ := h.2.2.2 c4
    have hin := v_in (lo := lo) (hi := hi) hv hv0 hlo hhi
    -- the value as the class has it
    have core : ∀ s1, s1 = (if w = 1 then -(m 1 5) else m 1 5) → q_ok (f_Pars_passNumber_b80 lo hi s1 m) (fun r m' => v_fp m m' ∧ v_cn m m' T n lo hi k0 k a b r) := by
      intro s1 hs
      have hval : ((lo ≤ v_val T lo k0 a b ∧ v_val T lo k0 a b ≤ hi) ↔ (lo ≤ s1 ∧ s1 ≤ hi)) ∧ ((lo ≤ v_val T lo k0 a b ∧ v_val T lo k0 a b ≤ hi) → s1 = v_val T lo k0 a b) := by
        unfold v_val
        by_cases c1 : w = 1
        · rw [if_pos (hk0.mp c1)]
          rw [if_pos c1] at hs
          rw [hs]
          exact ⟨hin.2.1, fun hh => by have := hin.2.2.2.1 hh; omega⟩
        · rw [if_neg fun hh => c1 (hk0.mpr hh)]
          rw [if_neg c1] at hs
          rw [hs]
          exact ⟨hin.1, fun hh => hin.2.2.1 hh⟩
      have hsr : -1000000 ≤ s1 ∧ s1 ≤ 1000000 := by
        rw [hs]
        split <;> omega
      unfold f_Pars_passNumber_b80 f_Pars_passNumber_b110
      have g13 : q_up m 25 9 s1 1 3 = a := by rw [q_up_c (by decide)]; exact h.2.1.2.1
      have g259 : q_up (q_up m 25 9 s1) 25 10 a 25 9 = s1 := by rw [q_up_i (by decide), q_up_s]
      have g2510 : q_up (q_up m 25 9 s1) 25 10 a 25 10 = a := q_up_s _ _ _ _
      rw [x_pf, x_pf, g13, g259, g2510, q_w_id (x := s1) (by omega) (by omega), q_w_id (x := lo) (by omega) (by omega), q_w_id (x := hi) (by omega) (by omega)]
      have fp : v_fp m (q_up (q_up m 25 9 s1) 25 10 a) := v_fp_tr (v_fp_up (by omega)) (v_fp_up (by omega))
      have bad : ¬ (lo ≤ s1 ∧ s1 ≤ hi) → q_ok (q_bd (f_Pars_refuse 2 a (q_up (q_up m 25 9 s1) 25 10 a)) fun v1 m2 => q_rz v1 m2) (fun r m' => v_fp m m' ∧ v_cn m m' T n lo hi k0 k a b r) := by
        intro hb
        rw [c_refuse, x_bd, x_rz0]
        exact o_some ⟨v_fp_tr fp (v_fp_tr (v_fp_up (by omega)) (v_fp_up (by omega))), Or.inr (Or.inl ⟨c4, fun hh => hb (hval.1.mp hh), rfl, by rw [q_up_i (by decide), q_up_s], q_up_s _ _ _ _⟩)⟩
      by_cases c1 : s1 < lo
      · rw [if_pos c1]; exact bad (by omega)
      · rw [if_neg c1]
        by_cases c2 : s1 ≤ hi
        · rw [if_pos c2]
          have hcs : v_cs (q_up (q_up m 25 9 s1) 25 10 a) T n k a b := v_cs_fr h (by rw [q_up_f (by decide), q_up_f (by decide)]) (by rw [q_up_f (by decide), q_up_f (by decide)])
          refine o_bd (c_next hcs) fun _ m3 ⟨f3, hnx⟩ => ?_
          rw [x_rz1]
          have hvv := hval.1.mpr ⟨by omega, c2⟩
          refine o_some ⟨v_fp_tr fp (v_fp_fr f3), Or.inr (Or.inr ⟨c4, hvv, rfl, ⟨?_, ?_⟩, ?_, ?_, hnx⟩)⟩
          · rw [f3.1 25 (by decide), q_up_i (by decide), q_up_i (by decide)]
          · rw [f3.1 25 (by decide), q_up_i (by decide), q_up_i (by decide)]
          · rw [f3.1 25 (by decide), g259]; exact hval.2 hvv
          · rw [f3.1 25 (by decide), g2510]
        · rw [if_neg c2]; exact bad (by omega)
    rw [if_pos c4]
    rcases hw with hw | hw
    · rw [hw, x_w0, if_pos rfl]
      exact core _ (by rw [hw]; rfl)
    · rw [hw, x_w1, if_neg (by decide)]
      exact core _ (by rw [hw]; rfl)
  · rw [if_neg c4, h.2.1.2.1, c_refuse, x_bd, x_rz0]
    exact o_some ⟨v_fp_tr (v_fp_up (by omega)) (v_fp_up (by omega)), Or.inl ⟨c4, rfl, by rw [q_up_i (by decide), q_up_s], q_up_s _ _ _ _⟩⟩
theorem c_passNumber (h : v_cs m T n k a b) {lo hi : Int} (hlo : -10 ≤ lo ∧ lo ≤ 10) (hhi : -10 ≤ hi ∧ hi ≤ 10) : q_ok (f_Pars_passNumber lo hi m) (fun r m' => v_fp m m' ∧ ∃ k1 a1 b1, v_pm T n lo k a b k1 a1 b1 ∧ v_cn m m' T n lo hi k k1 a1 b1 r) := by
  have hk := h.2.2.1.2.1
  have plain : ¬ (lo < 0 ∧ k = 45) → q_ok (f_Pars_passNumber_b20 lo hi m) (fun r m' => v_fp m m' ∧ ∃ k1 a1 b1, v_pm T n lo k a b k1 a1 b1 ∧ v_cn m m' T n lo hi k k1 a1 b1 r) := by
    intro hn
    unfold f_Pars_passNumber_b20 f_Pars_passNumber_b21
    rw [x_w0, if_pos rfl]
    refine o_mono (c_num h hlo hhi (w := 0) (Or.inl rfl) (k0 := k) ⟨fun e => absurd e (by decide), fun e => absurd e hn⟩) fun r m2 ⟨f2, h2⟩ => ⟨f2, k, a, b, Or.inl ⟨hn, rfl, rfl, rfl⟩, h2⟩
  unfold f_Pars_passNumber
  rw [h.2.1.1, q_w_id (x := lo) (by omega) (by omega), q_w_id (x := k) (by omega) (by omega)]
  by_cases c1 : 0 ≤ lo
  · rw [if_pos c1]; exact plain (by omega)
  · rw [if_neg c1]
    by_cases c2 : k = 45
    · rw [if_pos c2]
      unfold f_Pars_passNumber_b21
      rw [x_w1, if_neg (by decide)]
      refine o_bd (c_next h) fun _ m2 ⟨f2, k1, a1, b1, ht, hcs⟩ => ?_
      have hm : lo < 0 ∧ k = 45 := ⟨by omega, c2⟩
      refine o_mono (c_num hcs hlo hhi (w := 1) (Or.inr rfl) (k0 := k) ⟨fun _ => hm, fun _ => rfl⟩) fun r m3 ⟨f3, h3⟩ => ⟨v_fp_tr (v_fp_fr f2) f3, k1, a1, b1, Or.inr ⟨hm, ht⟩, ?_⟩
      rcases h3 with h3 | h3 | ⟨g1, g2, g3, g4, g5⟩
      · exact Or.inl h3
      · exact Or.inr (Or.inl h3)
      · exact Or.inr (Or.inr ⟨g1, g2, g3, ⟨by rw [g4.1, f2.1 25 (by decide)], by rw [g4.2, f2.1 25 (by decide)]⟩, g5⟩)
    · rw [if_neg c2]; exact plain (by omega)
end num
