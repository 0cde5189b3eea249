/-! THE SCANNERS: what a token is asked -/
/-- the word that a string of the class is -/
def v_S (s : Int) : Int := ([0, 1, 0, 1, 2, 3, 4, 5, 6, 5, 6, 4, 2, 3] : List Int).getD s.toNat 0
/-- the token at hand: kind, place, behind -/
def v_tc (m : q_Mem) (k a b : Int) : Prop := m 1 2 = k ∧ m 1 3 = a ∧ m 1 4 = b
/-- a token's shape -/
def v_sh (T : Int → Int) (n k a b : Int) : Prop := (0 ≤ a ∧ a ≤ b ∧ b ≤ n) ∧ (0 ≤ k ∧ k ≤ 62) ∧ (k = 0 ↔ a = n) ∧ (k = 0 → b = n) ∧ (k ≠ 0 → k = v_kd (T a) ∧ k ≠ 2 ∧ a < b)
theorem v_tok_sh {T : Int → Int} {n x k a b : Int} (hx : 0 ≤ x) (hT : ∀ i, 0 ≤ i → i < n → -128 ≤ T i ∧ T i ≤ 127) (h : v_tok T n x k a b) : v_sh T n k a b := by
  obtain ⟨h1, h2, h3⟩ := h
  rcases h3 with ⟨e1, e2, e3⟩ | ⟨e1, e2, e3, e4, _⟩
  · exact ⟨by omega, by omega, ⟨fun _ => e1, fun _ => e2⟩, fun _ => e3, fun h => absurd e2 h⟩
  · have := v_kd_rg (T a) (hT a (by omega) e1)
    exact ⟨by omega, by omega, ⟨fun h => by omega, fun h => by omega⟩, fun h => by omega, fun _ => ⟨e2, e3, e4.1⟩⟩
section words
variable {m : q_Mem} {T : Int → Int} {n k a b : Int}
theorem v_S_of {s : Int} (h0 : 0 ≤ s) (h1 : s < 14) : (0 ≤ v_S s ∧ v_S s < 7) ∧ (q_sln s : Int) = v_F (v_S s + 1) - 1 - v_F (v_S s) ∧ ∀ j, 0 ≤ j → j < (q_sln s : Int) → q_sch s j = v_L (v_F (v_S s) + j) := by
  have key : ∀ i : Fin 14, (0 ≤ v_S (i.val : Int) ∧ v_S (i.val : Int) < 7) ∧ (q_sln (i.val : Int) : Int) = v_F (v_S (i.val : Int) + 1) - 1 - v_F (v_S (i.val : Int)) ∧ q_sln (i.val : Int) ≤ 4 ∧ ∀ j : Fin 4, (j.val : Int) < (q_sln (i.val : Int) : Int) → q_sch (i.val : Int) (j.val : Int) = v_L (v_F (v_S (i.val : Int)) + (j.val : Int)) := by decide
  have h := key ⟨s.toNat, by omega⟩
  dsimp only at h
  rw [show ((s.toNat : Nat) : Int) = s by omega] at h
  refine ⟨h.1, h.2.1, fun j j0 j1 => ?_⟩
  have hl := h.2.2.1
  have := h.2.2.2 ⟨j.toNat, by omega⟩
  dsimp only at this
  rw [show ((j.toNat : Nat) : Int) = j by omega] at this
  exact this j1
theorem c_isWord (h : v_C m T n) (ht : v_tc m k a b) (hs : v_sh T n k a b) {s : Int} (h0 : 0 ≤ s) (h1 : s < 14) : q_ok (f_Tape_isWord s m) (fun r m' => m' = m ∧ ((r = 1 ∧ k = 3 ∧ v_is T a b (v_S s)) ∨ (r = 0 ∧ ¬ (k = 3 ∧ v_is T a b (v_S s))))) := by
  obtain ⟨c1, c2, c3, c4⟩ := h
  obtain ⟨t2, t3, t4⟩ := ht
  obtain ⟨s1, s2, _⟩ := hs
  obtain ⟨w1, w2, w3⟩ := v_S_of h0 h1
  have hF := v_F_rg w1.1 w1.2
  unfold f_Tape_isWord
  rw [t2, q_w_id (x := k) (by omega) (by omega)]
  by_cases ck : k = 3
  · rw [if_pos ck, t4, t3, q_w_id (x := b - a) (by omega) (by omega), q_w_id (x := (q_sln s : Int)) (by omega) (by omega)]
    by_cases cl : b - a = (q_sln s : Int)
    · rw [if_pos cl]
      refine o_upF (fun n' j (_ : Unit) => f_Tape_isWord_l28 n' s j m) (fun j _ => 0 ≤ j ∧ ∀ i, 0 ≤ i → i < j → v_L (v_F (v_S s) + i) = T (a + i)) _ (k := 0) (e := (q_sln s : Int)) (s := ()) (by omega) (by omega) ⟨Int.le_refl _, fun i i0 i1 => by omega⟩ ?_ ?_
      · intro n' j _ hj ⟨j0, hp⟩ hn
        have hT := c4 (a + j) (by omega) (by omega)
        have hL := v_L_rg (v_F (v_S s) + j) (by omega)
        show q_ok (f_Tape_isWord_b28 (f_Tape_isWord_l28 n') s j m) _
        unfold f_Tape_isWord_b28 q_ch
        rw [q_w_id (x := (q_sln s : Int)) (by omega) (by omega), q_w_id (x := j) (by omega) (by omega), if_neg (by omega), t3, x_rd (n := 800) (by omega) (by omega) (by decide), c3 _ (by omega) (by omega), if_pos ⟨j0, hj⟩, w3 j j0 hj]
        show q_ok (if q_w (T (a + j)) = q_w (v_L (v_F (v_S s) + j)) then f_Tape_isWord_l28 n' s (j + 1) m else q_rz 0 m) _
        rw [q_w_id (x := T (a + j)) (by omega) (by omega), q_w_id (x := v_L (v_F (v_S s) + j)) (by omega) (by omega)]
        by_cases ce : T (a + j) = v_L (v_F (v_S s) + j)
        · rw [if_pos ce]
          refine hn () ⟨by omega, fun i i0 i1 => ?_⟩
          by_cases ci : i = j
          · rw [ci]; exact ce.symm
          · exact hp i i0 (by omega)
        · rw [if_neg ce, x_rz0]
          exact o_some ⟨rfl, Or.inr ⟨rfl, fun hh => ce (hh.2.2 j j0 (by omega)).symm⟩⟩
      · intro n' _ ⟨_, hp⟩
        show q_ok (f_Tape_isWord_b28 (f_Tape_isWord_l28 n') s (q_sln s : Int) m) _
        unfold f_Tape_isWord_b28
        rw [if_pos (Int.le_refl _), x_rz1]
        exact o_some ⟨rfl, Or.inl ⟨rfl, ck, by omega, fun i i0 i1 => hp i i0 (by omega)⟩⟩
    · rw [if_neg cl, x_rz0]
      exact o_some ⟨rfl, Or.inr ⟨rfl, fun hh => cl (by have := hh.2.1; omega)⟩⟩
  · rw [if_neg ck, x_rz0]
    exact o_some ⟨rfl, Or.inr ⟨rfl, fun hh => ck hh.1⟩⟩
/-- the model's token at hand -/
def v_tm (m : q_Mem) (T : Int → Int) (k a b : Int) : Prop := m 81 25 = v_tk k ∧ m 81 24 = a ∧ m 81 23 = b ∧ (k = 3 → v_wd T a b (m 81 27))
theorem v_tk_iff (hk : 0 ≤ k ∧ k ≤ 62) (h2 : k ≠ 2) : (0 ≤ v_tk k ∧ v_tk k ≤ 4) ∧ (v_tk k = 0 ↔ k = 0) ∧ (v_tk k = 2 ↔ k = 3) ∧ (v_tk k = 3 ↔ k = 4) ∧ (v_tk k = 4 ↔ 5 ≤ k) := by
  unfold v_tk
  split
  · omega
  · split
    · omega
    · split
      · omega
      · split <;> omega
theorem m_isWord (hs : v_sh T n k a b) (ht : v_tm m T k a b) (hf : m 81 28 = 0) {w : Int} (h0 : 0 ≤ w ∧ w < 7) : q_ok (f_Mod_isWord w m) (fun r m' => m' = m ∧ ((r = 1 ∧ k = 3 ∧ v_is T a b w) ∨ (r = 0 ∧ ¬ (k = 3 ∧ v_is T a b w)))) := by
  obtain ⟨t25, t24, t23, t27⟩ := ht
  have hk2 : k ≠ 2 := fun e => (hs.2.2.2.2 (by omega)).2.1 e
  have htk := v_tk_iff hs.2.1 hk2
  unfold f_Mod_isWord
  rw [hf, x_w0, if_pos rfl, t25, q_w_id (x := v_tk k) (by omega) (by omega)]
  by_cases ck : k = 3
  · have hw := t27 ck
    have hr : -1 ≤ m 81 27 ∧ m 81 27 < 7 := by
      rcases hw with ⟨h, _⟩ | ⟨h, _⟩ <;> omega
    rw [if_pos (htk.2.2.1.mpr ck), q_w_id (x := m 81 27) (by omega) (by omega), q_w_id (x := w) (by omega) (by omega)]
    by_cases ce : m 81 27 = w
    · rw [if_pos ce, x_rz1]
      refine o_some ⟨rfl, Or.inl ⟨rfl, ck, ?_⟩⟩
      rcases hw with ⟨_, h⟩ | ⟨h, _⟩
      · rw [ce] at h; exact h
      · omega
    · rw [if_neg ce, x_rz0]
      refine o_some ⟨rfl, Or.inr ⟨rfl, fun hh => ?_⟩⟩
      rcases hw with ⟨h, h'⟩ | ⟨_, h⟩
      · exact ce (v_is_u h h0 h' hh.2)
      · exact h w h0.1 h0.2 hh.2
  · rw [if_neg fun e => ck (htk.2.2.1.mp e), x_rz0]
    exact o_some ⟨rfl, Or.inr ⟨rfl, fun hh => ck hh.1⟩⟩
theorem m_isName (hs : v_sh T n k a b) (ht : v_tm m T k a b) (hf : m 81 28 = 0) : q_ok (f_Mod_isName m) (fun r m' => m' = m ∧ ((r = 1 ∧ k = 3 ∧ ∀ j, 0 ≤ j → j < 7 → ¬ v_is T a b j) ∨ (r = 0 ∧ ¬ (k = 3 ∧ ∀ j, 0 ≤ j → j < 7 → ¬ v_is T a b j)))) := by
  obtain ⟨t25, t24, t23, t27⟩ := ht
  have hk2 : k ≠ 2 := fun e => (hs.2.2.2.2 (by omega)).2.1 e
  have htk := v_tk_iff hs.2.1 hk2
  unfold f_Mod_isName
  rw [hf, x_w0, if_pos rfl, t25, q_w_id (x := v_tk k) (by omega) (by omega)]
  by_cases ck : k = 3
  · have hw := t27 ck
    have hr : -1 ≤ m 81 27 ∧ m 81 27 < 7 := by
      rcases hw with ⟨h, _⟩ | ⟨h, _⟩ <;> omega
    rw [if_pos (htk.2.2.1.mpr ck), q_w_id (x := m 81 27) (by omega) (by omega)]
    by_cases ce : m 81 27 = -1
    · rw [if_pos ce, x_rz1]
      refine o_some ⟨rfl, Or.inl ⟨rfl, ck, ?_⟩⟩
      rcases hw with ⟨h, _⟩ | ⟨_, h⟩
      · omega
      · exact h
    · rw [if_neg ce, x_rz0]
      refine o_some ⟨rfl, Or.inr ⟨rfl, fun hh => ?_⟩⟩
      rcases hw with ⟨h, h'⟩ | ⟨h, _⟩
      · exact hh.2 _ h.1 h.2 h'
      · exact ce h
  · rw [if_neg fun e => ck (htk.2.2.1.mp e), x_rz0]
    exact o_some ⟨rfl, Or.inr ⟨rfl, fun hh => ck hh.1⟩⟩
theorem m_isAt (h : v_M m T n) (hs : v_sh T n k a b) (ht : v_tm m T k a b) (hf : m 81 28 = 0) {q : Int} (hq : v_sg q) : q_ok (f_Mod_isAt q m) (fun r m' => m' = m ∧ ((r = 1 ∧ k = q) ∨ (r = 0 ∧ k ≠ q))) := by
  obtain ⟨t25, t24, t23, t27⟩ := ht
  have hn := h.2.1
  have hk2 : k ≠ 2 := fun e => (hs.2.2.2.2 (by omega)).2.1 e
  have htk := v_tk_iff hs.2.1 hk2
  have hqr : 40 ≤ q ∧ q ≤ 62 := by unfold v_sg at hq; omega
  unfold f_Mod_isAt
  rw [hf, x_w0, if_pos rfl, t25, q_w_id (x := v_tk k) (by omega) (by omega)]
  by_cases ck : 5 ≤ k
  · have hk := hs.2.2.2.2 (by omega)
    have han : a < n := by have := hs.1; omega
    have hT := h.2.2.2.1 a (by have := hs.1; omega) (by omega)
    have hks := v_kd_s (b := T a) (by omega) (by omega) (by omega)
    have e : T a = k := by
      rcases hks with ⟨_, e⟩ | ⟨_, e⟩
      · omega
      · omega
    rw [if_pos (htk.2.2.2.2.mpr ck), t24, m_signAt h (by have := hs.1; omega), x_bd, if_pos han, e, q_w_id (x := k) (by omega) (by omega), q_w_id (x := q) (by omega) (by omega)]
    by_cases ce : k = q
    · rw [if_pos ce, x_rz1]
      exact o_some ⟨rfl, Or.inl ⟨rfl, ce⟩⟩
    · rw [if_neg ce, x_rz0]
      exact o_some ⟨rfl, Or.inr ⟨rfl, ce⟩⟩
  · rw [if_neg fun e => ck (htk.2.2.2.2.mp e), x_rz0]
    exact o_some ⟨rfl, Or.inr ⟨rfl, by omega⟩⟩
end words
