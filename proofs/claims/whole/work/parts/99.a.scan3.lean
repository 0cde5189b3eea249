/-! THE SCANNERS: the model's scan, whole -/
theorem v_kd_s {b : Int} (h3 : v_kd b ≠ 3) (h4 : v_kd b ≠ 4) (h2 : v_kd b ≠ 2) : (v_sg b ∧ v_kd b = b) ∨ (¬ v_sg b ∧ v_kd b = 1) := by
  have c3 : ¬ (97 ≤ b ∧ b ≤ 122) := fun h => h3 (v_kd_3.mpr h)
  have c4 : ¬ (48 ≤ b ∧ b ≤ 57) := fun h => h4 (v_kd_4.mpr h)
  have c2 : ¬ (b = 10 ∨ b = 32) := fun h => h2 (v_kd_2.mpr h)
  unfold v_kd v_sg
  rw [if_neg c3, if_neg c4, if_neg c2]
  by_cases cs : b = 40 ∨ b = 41 ∨ b = 42 ∨ b = 43 ∨ b = 44 ∨ b = 45 ∨ b = 59 ∨ b = 60 ∨ b = 61 ∨ b = 62
  · rw [if_pos cs]; exact Or.inl ⟨cs, rfl⟩
  · rw [if_neg cs]; exact Or.inr ⟨cs, rfl⟩
section mscan3
variable {m : q_Mem} {T : Int → Int} {n x : Int}
theorem m_isBlank (h : v_M m T n) {i : Int} (hi : 0 ≤ i ∧ i ≤ 800) : q_ok (f_Mod_isBlank i m) (fun r m' => m' = m ∧ ((r = 1 ∧ i < n ∧ v_kd (T i) = 2) ∨ (r = 0 ∧ ¬ (i < n ∧ v_kd (T i) = 2)))) := by
  obtain ⟨h1, h2, h3, h4, h5⟩ := h
  unfold f_Mod_isBlank
  rw [h1, q_w_id (x := n) (by omega) (by omega), q_w_id (x := i) (by omega) (by omega)]
  by_cases c : n ≤ i
  · rw [if_pos c, x_rz0]
    exact o_some ⟨rfl, Or.inr ⟨rfl, fun hh => by omega⟩⟩
  · have hT := h4 i hi.1 (by omega)
    rw [if_neg c, x_rd (n := 800) (by omega) (by omega) (by decide), h3 i hi.1 (by omega), q_w_id (x := T i) (by omega) (by omega)]
    by_cases c32 : T i = 32
    · rw [if_pos c32, x_rz1]
      exact o_some ⟨rfl, Or.inl ⟨rfl, by omega, v_kd_2.mpr (Or.inr c32)⟩⟩
    · rw [if_neg c32, x_rd (n := 800) (by omega) (by omega) (by decide), h3 i hi.1 (by omega), q_w_id (x := T i) (by omega) (by omega)]
      by_cases c10 : T i = 10
      · rw [if_pos c10, x_rz1]
        exact o_some ⟨rfl, Or.inl ⟨rfl, by omega, v_kd_2.mpr (Or.inl c10)⟩⟩
      · rw [if_neg c10, x_rz0]
        exact o_some ⟨rfl, Or.inr ⟨rfl, fun hh => by have := v_kd_2.mp hh.2; omega⟩⟩
theorem m_isSign {b : Int} (hb : -128 ≤ b ∧ b ≤ 127) (m : q_Mem) : q_ok (f_Mod_isSign b m) (fun r m' => m' = m ∧ ((r = 1 ∧ v_sg b) ∨ (r = 0 ∧ ¬ v_sg b))) := by
  unfold f_Mod_isSign v_sg
  rw [q_w_id (x := b) (by omega) (by omega)]
  by_cases c : b = 40 ∨ b = 41 ∨ b = 42 ∨ b = 43 ∨ b = 44 ∨ b = 45 ∨ b = 59 ∨ b = 60 ∨ b = 61 ∨ b = 62
  · refine ⟨1, m, ?_, rfl, Or.inl ⟨rfl, c⟩⟩
    rcases c with h | h | h | h | h | h | h | h | h | h <;> subst h <;> rfl
  · refine ⟨0, m, ?_, rfl, Or.inr ⟨rfl, c⟩⟩
    rw [if_neg (by omega), if_neg (by omega), if_neg (by omega), if_neg (by omega), if_neg (by omega), if_neg (by omega), if_neg (by omega), if_neg (by omega), if_neg (by omega), if_neg (by omega), x_rz0]
theorem m_scan (h : v_M m T n) (hx : 0 ≤ x ∧ x ≤ n) (e23 : m 81 23 = x) (e26 : 0 ≤ m 81 26 ∧ m 81 26 ≤ 9999) : q_ok (f_Mod_scan m) (fun _ m' => v_fm m m' ∧ v_mt m' T n x ∧ (0 ≤ m' 81 26 ∧ m' 81 26 ≤ 9999)) := by
  have hn := h.2.1
  unfold f_Mod_scan
  rw [x_pf, e23]
  refine o_while (fun n' (s : q_Mem) => f_Mod_scan_l8 n' s) (fun s => v_fm m s ∧ (x ≤ s 81 24 ∧ s 81 24 ≤ n) ∧ (∀ i, x ≤ i → i < s 81 24 → v_kd (T i) = 2) ∧ (0 ≤ s 81 26 ∧ s 81 26 ≤ 9999)) (fun s => (n - s 81 24).toNat) _ ?_ q_F _ (by rw [q_up_s]; show (n - x).toNat < 20000; omega) ⟨v_fm_up (by omega), by rw [q_up_s]; omega, fun i i0 i1 => by rw [q_up_s] at i1; omega, by rw [q_up_i (by decide)]; exact e26⟩
  intro n' s ⟨f1, h24, hbl, h26⟩ hnx
  have hs := v_M_fr h f1
  have h4 := hs.2.2.2.1
  show q_ok (f_Mod_scan_b8 (f_Mod_scan_l8 n') s) _
  unfold f_Mod_scan_b8
  refine o_bd (m_isBlank hs (i := s 81 24) (by omega)) fun v m2 ⟨em, hv⟩ => ?_
  rw [em]
  rcases hv with ⟨ev, hlt, hk2⟩ | ⟨ev, hno⟩
  · rw [ev, x_w1, if_neg (by decide), x_pf]
    refine hnx _ ⟨v_fm_tr f1 (v_fm_up (by omega)), by rw [q_up_s]; omega, fun i i0 i1 => ?_, by rw [q_up_i (by decide)]; exact h26⟩ (by rw [q_up_s]; omega)
    rw [q_up_s] at i1
    by_cases ci : i = s 81 24
    · rw [ci]; exact hk2
    · exact hbl i i0 (by omega)
  · rw [ev, x_w0, if_pos rfl, x_pf]
    have f3 : v_fm m (q_up s 81 23 (s 81 24 + 1)) := v_fm_tr f1 (v_fm_up (by omega))
    have hs3 := v_M_fr h f3
    have g24 : q_up s 81 23 (s 81 24 + 1) 81 24 = s 81 24 := q_up_i (by decide)
    have g22 : q_up s 81 23 (s 81 24 + 1) 81 22 = n := hs3.1
    have g23 : q_up s 81 23 (s 81 24 + 1) 81 23 = s 81 24 + 1 := q_up_s _ _ _ _
    have g26 : q_up s 81 23 (s 81 24 + 1) 81 26 = s 81 26 := q_up_i (by decide)
    revert f3 hs3 g24 g22 g23 g26
    generalize q_up s 81 23 (s 81 24 + 1) = s3
    intro f3 hs3 g24 g22 g23 g26
    rw [g24, m_signAt hs3 (by omega), x_bd, g24, g22, q_w_id (x := s 81 24) (by omega) (by omega), q_w_id (x := n) (by omega) (by omega)]
    generalize ha : s 81 24 = a at *
    by_cases cl : a < n
    · have hT := h4 a (by omega) (by omega)
      have hk2 : v_kd (T a) ≠ 2 := fun e => hno ⟨cl, e⟩
      rw [if_pos cl, if_pos cl, m_isLetter hT, x_bd]
      by_cases c3 : v_kd (T a) = 3
      · rw [if_pos c3, x_w1, if_neg (by decide)]
        refine o_bd (m_scanWord hs3 ⟨by omega, cl⟩ g24 c3) fun _ m4 ⟨f4, r24, r25, r26, b, r23, hb, hl, hend, hw⟩ => ?_
        refine o_rt ⟨v_fm_tr f3 f4, ⟨3, a, b, ⟨by omega, hbl, Or.inr ⟨cl, c3.symm, by decide, hb, fun _ => ⟨hl, hend⟩, fun e _ => absurd rfl e⟩⟩, r25, r24, r23, fun e => absurd e (by decide), fun _ => hw⟩, by rw [r26, g26]; exact h26⟩
      · rw [if_neg c3, x_w0, if_pos rfl, m_isDigit hT, x_bd]
        by_cases c4 : v_kd (T a) = 4
        · rw [if_pos c4, x_w1, if_neg (by decide)]
          refine o_bd (m_scanNumber hs3 ⟨by omega, cl⟩ g24 c4) fun _ m4 ⟨f4, r24, r25, r26, b, r23, hb, hl, hend, hw⟩ => ?_
          exact o_rt ⟨v_fm_tr f3 f4, ⟨4, a, b, ⟨by omega, hbl, Or.inr ⟨cl, c4.symm, by decide, hb, fun _ => ⟨hl, hend⟩, fun _ e => absurd rfl e⟩⟩, r25, r24, r23, fun _ => hw, fun e => absurd e (by decide)⟩, r26⟩
        · rw [if_neg c4, x_w0, if_pos rfl]
          have hks := v_kd_s c3 c4 hk2
          refine o_bd (m_isSign hT s3) fun v5 m5 ⟨em5, hv5⟩ => ?_
          rw [em5]
          have htok : v_tok T n x (v_kd (T a)) a (a + 1) := ⟨by omega, hbl, Or.inr ⟨cl, rfl, hk2, by omega, fun e => by rcases e with e | e; exact absurd e c3; exact absurd e c4, fun _ _ => rfl⟩⟩
          have fin : ∀ w, w = v_tk (v_kd (T a)) → q_ok (f_Mod_scan_b119 w s3) (fun _ m' => v_fm m m' ∧ v_mt m' T n x ∧ (0 ≤ m' 81 26 ∧ m' 81 26 ≤ 9999)) := by
            intro w hw
            unfold f_Mod_scan_b119
            rw [x_pf]
            exact o_rt ⟨v_fm_tr f3 (v_fm_up (by omega)), ⟨v_kd (T a), a, a + 1, htok, by rw [q_up_s]; exact hw, by rw [q_up_i (by decide)]; exact g24, by rw [q_up_i (by decide)]; exact g23, fun e => absurd e c4, fun e => absurd e c3⟩, by rw [q_up_i (by decide), g26]; exact h26⟩
          rcases hv5 with ⟨e5, hsg⟩ | ⟨e5, hsg⟩
          · rw [e5, x_w1, if_neg (by decide)]
            refine fin 4 ?_
            rcases hks with ⟨_, e⟩ | ⟨hn', _⟩
            · unfold v_tk
              rw [e]
              unfold v_sg at hsg
              rw [if_neg (by omega), if_neg (by omega), if_neg (by omega), if_neg (by omega)]
            · exact absurd hsg hn'
          · rw [e5, x_w0, if_pos rfl]
            refine fin 1 ?_
            rcases hks with ⟨h', _⟩ | ⟨_, e⟩
            · exact absurd h' hsg
            · rw [e]; rfl
    · rw [if_neg cl, x_pf, x_pf]
      have ea : a = n := by omega
      refine o_rt ⟨v_fm_tr f3 (v_fm_tr (v_fm_up (by omega)) (v_fm_up (by omega))), ⟨0, n, n, ⟨by omega, fun i i0 i1 => hbl i i0 (by omega), Or.inl ⟨rfl, rfl, rfl⟩⟩, by rw [q_up_s]; rfl, by rw [q_up_i (by decide), q_up_i (by decide), g24]; exact ea, by rw [q_up_i (by decide), q_up_s]; exact ea, fun e => absurd e (by decide), fun e => absurd e (by decide)⟩, by rw [q_up_i (by decide), q_up_i (by decide), g26]; exact h26⟩
end mscan3
