/-! THE SCANNERS: the class's step -/
/-- the class's token at hand -/
def v_ct (m : q_Mem) (T : Int → Int) (n x : Int) : Prop := ∃ k a b, v_tok T n x k a b ∧ m 1 2 = k ∧ m 1 3 = a ∧ m 1 4 = b ∧ (k = 4 → v_nr (v_dec T a (b - a).toNat) (m 1 5) ∧ 0 ≤ m 1 5)
section cscan
variable {m : q_Mem} {T : Int → Int} {n x : Int}
theorem c_step (h : v_C m T n) (hx : 0 ≤ x ∧ x ≤ n) (e4 : m 1 4 = x) : q_ok (f_Tape_step m) (fun _ m' => v_fr m m' ∧ v_ct m' T n x) := by
  have hn := h.2.1
  unfold f_Tape_step
  refine o_while (fun n' (s : q_Mem) => f_Tape_step_l0 n' s) (fun s => v_fr m s ∧ (x ≤ s 1 4 ∧ s 1 4 ≤ n) ∧ ∀ i, x ≤ i → i < s 1 4 → v_kd (T i) = 2) (fun s => (n - s 1 4).toNat) _ ?_ q_F m (by rw [e4]; show (n - x).toNat < 20000; omega) ⟨v_fr_id m, by omega, fun i i0 i1 => by omega⟩
  intro n' s ⟨f1, h14, hbl⟩ hnx
  have hs := v_C_fr h f1
  obtain ⟨s1, _, s3, s4⟩ := hs
  -- what follows the blanks
  have tail : (s 1 4 < n → v_kd (T (s 1 4)) ≠ 2) → q_ok (f_Tape_step_b40 s) (fun _ m' => v_fr m m' ∧ v_ct m' T n x) := by
    intro hnb
    unfold f_Tape_step_b40
    have g4 : q_up s 1 3 (s 1 4) 1 4 = s 1 4 := q_up_i (by decide)
    have g1 : q_up s 1 3 (s 1 4) 1 1 = n := by rw [q_up_i (by decide)]; exact s1
    rw [x_pf, g4, g1, q_w_id (x := s 1 4) (by omega) (by omega), q_w_id (x := n) (by omega) (by omega)]
    have fa : v_fr m (q_up s 1 3 (s 1 4)) := v_fr_tr f1 (v_fr_up (by omega))
    by_cases cl : s 1 4 < n
    · have hT := s4 (s 1 4) (by omega) (by omega)
      have hk2 := hnb cl
      have hkr := v_kd_rg (T (s 1 4)) hT
      rw [if_pos cl, x_rd (n := 800) (by omega) (by omega) (by decide), q_up_f (show (2 : Int) ≠ 1 by decide), s3 _ (by omega) (by omega), c_kindOf hT, x_bd, x_pf, q_up_s, q_w_id (x := v_kd (T (s 1 4))) (by omega) (by omega)]
      generalize ha : s 1 4 = a at *
      generalize hk : v_kd (T a) = k at *
      have fb : v_fr m (q_up (q_up s 1 3 a) 1 2 k) := v_fr_tr fa (v_fr_up (by omega))
      -- the row of the same kind
      have long : ∀ w, (w = 0 ∨ w = 1) → (w = 1 ↔ (k = 3 ∨ k = 4)) → q_ok (f_Tape_step_b102 w (q_up (q_up s 1 3 a) 1 2 k)) (fun _ m' => v_fr m m' ∧ v_ct m' T n x) := by
        intro w hw hwk
        unfold f_Tape_step_b102
        have u4 : q_up (q_up s 1 3 a) 1 2 k 1 4 = a := by rw [q_up_i (by decide), q_up_i (by decide)]; exact ha
        rw [x_pf, u4]
        refine o_while (fun n' (z : q_Mem) => f_Tape_step_l113 n' w z) (fun z => v_fr m z ∧ (z 1 2 = k ∧ z 1 3 = a) ∧ (a < z 1 4 ∧ z 1 4 ≤ n) ∧ (∀ i, a ≤ i → i < z 1 4 → v_kd (T i) = k) ∧ (w = 0 → z 1 4 = a + 1)) (fun z => (n - z 1 4).toNat) _ ?_ q_F _ ?_ ⟨v_fr_tr fb (v_fr_up (by omega)), ⟨by simp [q_up], by simp [q_up]⟩, by rw [q_up_s]; omega, fun i i0 i1 => by rw [q_up_s] at i1; rw [show i = a by omega]; exact hk, fun _ => q_up_s _ _ _ _⟩
        · intro n2 z ⟨g1, ⟨g2, g3⟩, g4, g5, g6⟩ hnz
          have hz := v_C_fr h g1
          obtain ⟨z1, _, z3, _⟩ := hz
          -- the end of the token
          have fin : (w = 1 → z 1 4 = n ∨ v_kd (T (z 1 4)) ≠ k) → q_ok (f_Tape_step_b160 z) (fun _ m' => v_fr m m' ∧ v_ct m' T n x) := by
            intro hend
            have htok : v_tok T n x k a (z 1 4) := by
              refine ⟨by omega, fun i i0 i1 => hbl i i0 i1, Or.inr ⟨cl, hk.symm, hk2, g4, fun hk34 => ⟨g5, hend (hwk.mpr hk34)⟩, fun n3 n4 => g6 ?_⟩⟩
              rcases hw with h | h
              · exact h
              · rcases hwk.mp h with h' | h'
                · exact absurd h' n3
                · exact absurd h' n4
            unfold f_Tape_step_b160 f_Tape_step_b177
            rw [g2, q_w_id (x := k) (by omega) (by omega)]
            by_cases ck : k = 4
            · rw [if_pos ck]
              refine o_bd (c_digits (v_C_fr h g1) (a := a) (b := z 1 4) ⟨by omega, g4.1, g4.2⟩ g3 rfl fun i i0 i1 => by rw [g5 i i0 i1]; exact ck) fun v m2 ⟨em, hv, hv0⟩ => ?_
              rw [em, x_pf]
              refine o_rt ⟨v_fr_tr g1 (v_fr_up (by omega)), k, a, z 1 4, htok, by rw [q_up_i (by decide)]; exact g2, by rw [q_up_i (by decide)]; exact g3, q_up_i (by decide), fun _ => ?_⟩
              rw [q_up_s]
              exact ⟨hv, hv0⟩
            · rw [if_neg ck, x_pf]
              exact o_rt ⟨v_fr_tr g1 (v_fr_up (by omega)), k, a, z 1 4, htok, by rw [q_up_i (by decide)]; exact g2, by rw [q_up_i (by decide)]; exact g3, q_up_i (by decide), fun e => absurd e ck⟩
          show q_ok (f_Tape_step_b113 (f_Tape_step_l113 n2) w z) _
          unfold f_Tape_step_b113
          rcases hw with hw | hw
          · rw [hw, x_w0, if_pos rfl]
            exact fin fun e => by omega
          · rw [hw, x_w1, if_neg (by decide), z1, q_w_id (x := n) (by omega) (by omega), q_w_id (x := z 1 4) (by omega) (by omega)]
            by_cases ce : n ≤ z 1 4
            · rw [if_pos ce]
              exact fin fun _ => Or.inl (by omega)
            · have hT2 := s4 (z 1 4) (by omega) (by omega)
              have hkr2 := v_kd_rg _ hT2
              rw [if_neg ce, x_rd (n := 800) (by omega) (by omega) (by decide), z3 _ (by omega) (by omega), c_kindOf hT2, x_bd, g2, q_w_id (x := v_kd (T (z 1 4))) (by omega) (by omega), q_w_id (x := k) (by omega) (by omega)]
              by_cases cs : v_kd (T (z 1 4)) = k
              · rw [if_pos cs, x_pf]
                rw [hw] at hnz g6
                refine hnz _ ⟨v_fr_tr g1 (v_fr_up (by omega)), ⟨by rw [q_up_i (by decide)]; exact g2, by rw [q_up_i (by decide)]; exact g3⟩, by rw [q_up_s]; omega, fun i i0 i1 => ?_, fun e => absurd e (by decide)⟩ (by rw [q_up_s]; omega)
                rw [q_up_s] at i1
                by_cases ci : i = z 1 4
                · rw [ci]; exact cs
                · exact g5 i i0 (by omega)
              · rw [if_neg cs]
                exact fin fun _ => Or.inr cs
        · rw [q_up_s]; show (n - (a + 1)).toNat < 20000; omega
      unfold f_Tape_step_b97
      by_cases c3 : k = 3
      · rw [if_pos c3]
        exact long 1 (Or.inr rfl) ⟨fun _ => Or.inl c3, fun _ => rfl⟩
      · rw [if_neg c3]
        by_cases c4 : k = 4
        · rw [if_pos c4]
          exact long 1 (Or.inr rfl) ⟨fun _ => Or.inr c4, fun _ => rfl⟩
        · rw [if_neg c4]
          exact long 0 (Or.inl rfl) ⟨fun e => absurd e (by decide), fun e => by omega⟩
    · rw [if_neg cl, x_pf]
      have ea : s 1 4 = n := by omega
      refine o_rt ⟨v_fr_tr fa (v_fr_up (by omega)), 0, n, n, ⟨by omega, fun i i0 i1 => hbl i i0 (by omega), Or.inl ⟨rfl, rfl, rfl⟩⟩, q_up_s _ _ _ _, by rw [q_up_i (by decide), q_up_s]; exact ea, by rw [q_up_i (by decide), q_up_i (by decide)]; exact ea, fun e => absurd e (by decide)⟩
  show q_ok (f_Tape_step_b0 (f_Tape_step_l0 n') s) _
  unfold f_Tape_step_b0
  rw [s1, q_w_id (x := n) (by omega) (by omega), q_w_id (x := s 1 4) (by omega) (by omega)]
  by_cases ce : n ≤ s 1 4
  · rw [if_pos ce]
    exact tail fun e => by omega
  · have hT := s4 (s 1 4) (by omega) (by omega)
    have hkr := v_kd_rg _ hT
    rw [if_neg ce, x_rd (n := 800) (by omega) (by omega) (by decide), s3 _ (by omega) (by omega), c_kindOf hT, x_bd, q_w_id (x := v_kd (T (s 1 4))) (by omega) (by omega)]
    by_cases c2 : v_kd (T (s 1 4)) = 2
    · rw [if_pos c2, x_pf]
      refine hnx _ ⟨v_fr_tr f1 (v_fr_up (by omega)), by rw [q_up_s]; omega, fun i i0 i1 => ?_⟩ (by rw [q_up_s]; omega)
      rw [q_up_s] at i1
      by_cases ci : i = s 1 4
      · rw [ci]; exact c2
      · exact hbl i i0 (by omega)
    · rw [if_neg c2]
      exact tail fun _ => c2
end cscan
