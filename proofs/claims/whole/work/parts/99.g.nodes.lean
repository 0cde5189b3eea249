/-! THE PARSER: nodes, formulas, offsets -/
/-- an offset is known -/
def v_kn (cnt : Int) (A B : Int → Int) (a c : Int) : Prop := (a = 0 ∧ c = 0) ∨ ∃ o, (0 ≤ o ∧ o < cnt) ∧ A o = a ∧ B o = c
section nodes
variable {m : q_Mem} {t : Int}
theorem c_addNode (ht : t ∈ q_Lp) {N w x y : Int} (hN : 0 ≤ N ∧ N < 80) (e : m t 6 = N) : f_Loop_addNode t w x y m = some (N, q_up (q_up (q_up (q_up m (t + 7) N w) (t + 8) N x) (t + 9) N y) t 6 (N + 1)) := by
  have ht' : t = 3 ∨ t = 14 := by simpa [q_Lp] using ht
  have e1 : q_up m (t + 7) N w t 6 = N := by rw [q_up_c (by omega)]; exact e
  have e2 : q_up (q_up m (t + 7) N w) (t + 8) N x t 6 = N := by rw [q_up_c (by omega)]; exact e1
  have e3 : q_up (q_up (q_up m (t + 7) N w) (t + 8) N x) (t + 9) N y t 6 = N := by rw [q_up_c (by omega)]; exact e2
  unfold f_Loop_addNode
  rw [e, q_w_id (x := N) (by omega) (by omega), if_pos hN.2, x_wr (n := 80) hN.1 hN.2 (by decide), e1, x_wr (n := 80) hN.1 hN.2 (by decide), e2, x_wr (n := 80) hN.1 hN.2 (by decide), e3, x_pf, q_up_s, x_rt, show N + 1 - 1 = N by omega]
theorem c_closeFormula (ht : t ∈ q_Lp) {F N : Int} (hF : 0 ≤ F ∧ F < 6) (e7 : m t 7 = F) (e6 : m t 6 = N) : f_Loop_closeFormula t m = some (0, q_up (q_up m t 7 (F + 1)) (t + 10) (F + 1) N) := by
  unfold f_Loop_closeFormula
  have g6 : q_up m t 7 (F + 1) t 6 = N := by rw [q_up_i (by decide)]; exact e6
  rw [e7, q_w_id (x := F) (by omega) (by omega), if_neg (by omega), x_pf, q_up_s, x_wr (n := 7) (by omega) (by omega) (by decide), g6, x_rt]
theorem c_noteOffset (ht : t ∈ q_Lp) {cnt a c : Int} (hc : 0 ≤ cnt ∧ cnt < 12) (e5 : m t 5 = cnt) (ha : -3 ≤ a ∧ a ≤ 3) (hcc : -3 ≤ c ∧ c ≤ 3) (hA : ∀ o, 0 ≤ o → o < cnt → (-3 ≤ m (t + 2) o ∧ m (t + 2) o ≤ 3) ∧ (-3 ≤ m (t + 3) o ∧ m (t + 3) o ≤ 3)) : q_ok (f_Loop_noteOffset t a c m) (fun _ m' => (v_kn cnt (m (t + 2)) (m (t + 3)) a c ∧ m' = m) ∨ (¬ v_kn cnt (m (t + 2)) (m (t + 3)) a c ∧ m' = q_up (q_up (q_up m (t + 2) cnt a) (t + 3) cnt c) t 5 (cnt + 1))) := by
  have ht' : t = 3 ∨ t = 14 := by simpa [q_Lp] using ht
  have or0 : q_or 0 0 = 0 := by decide
  have or1 : q_or 0 1 = 1 := by decide
  have or2 : q_or 1 0 = 1 := by decide
  have or3 : q_or 1 1 = 1 := by decide
  have body : ∀ s0, (s0 = 0 ∨ s0 = 1) → (s0 = 1 ↔ (a = 0 ∧ c = 0)) → q_ok (f_Loop_noteOffset_b13 t a c s0 m) (fun _ m' => (v_kn cnt (m (t + 2)) (m (t + 3)) a c ∧ m' = m) ∨ (¬ v_kn cnt (m (t + 2)) (m (t + 3)) a c ∧ m' = q_up (q_up (q_up m (t + 2) cnt a) (t + 3) cnt c) t 5 (cnt + 1))) := by
    intro s0 hs0 hs1
    unfold f_Loop_noteOffset_b13
    refine o_upF (fun n' o (s : Int) => f_Loop_noteOffset_l17 t n' a c s o m) (fun o s => 0 ≤ o ∧ (s = 0 ∨ s = 1) ∧ (s = 1 ↔ ((a = 0 ∧ c = 0) ∨ ∃ o', (0 ≤ o' ∧ o' < o) ∧ m (t + 2) o' = a ∧ m (t + 3) o' = c))) _ (k := 0) (e := cnt) (s := s0) (by omega) (by omega) ⟨Int.le_refl _, hs0, ?_⟩ ?_ ?_
    · rw [hs1]
      constructor
      · exact Or.inl
      · rintro (h | ⟨o', ho, _⟩)
        · exact h
        · omega
    · intro n' o s ho ⟨o0, hs, hiff⟩ hn
      have hAo := hA o o0 ho
      have ext : (∃ o', (0 ≤ o' ∧ o' < o + 1) ∧ m (t + 2) o' = a ∧ m (t + 3) o' = c) ↔ ((∃ o', (0 ≤ o' ∧ o' < o) ∧ m (t + 2) o' = a ∧ m (t + 3) o' = c) ∨ (m (t + 2) o = a ∧ m (t + 3) o = c)) := by
        constructor
        · rintro ⟨o', h1, h2⟩
          by_cases eo : o' = o
          · rw [eo] at h2; exact Or.inr h2
          · exact Or.inl ⟨o', by omega, h2⟩
        · rintro (⟨o', h1, h2⟩ | h2)
          · exact ⟨o', by omega, h2⟩
          · exact ⟨o, by omega, h2⟩
      have keep : ¬ (m (t + 2) o = a ∧ m (t + 3) o = c) → q_ok (f_Loop_noteOffset_l17 t n' a c (q_or s 0) (o + 1) m) (fun _ m' => (v_kn cnt (m (t + 2)) (m (t + 3)) a c ∧ m' = m) ∨ (¬ v_kn cnt (m (t + 2)) (m (t + 3)) a c ∧ m' = q_up (q_up (q_up m (t + 2) cnt a) (t + 3) cnt c) t 5 (cnt + 1))) := by
        intro hno
        have es : q_or s 0 = s := by rcases hs with h | h <;> simp only [h, or0, or2]
        rw [es]
        refine hn s ⟨by omega, hs, ?_⟩
        rw [hiff, ext]
        constructor
        · rintro (h | h)
          · exact Or.inl h
          · exact Or.inr (Or.inl h)
        · rintro (h | h | h)
          · exact Or.inl h
          · exact Or.inr h
          · exact absurd h hno
      show q_ok (f_Loop_noteOffset_b17 t (f_Loop_noteOffset_l17 t n') a c s o m) _
      unfold f_Loop_noteOffset_b17 f_Loop_noteOffset_b53 f_Loop_noteOffset_b54
      rw [e5, q_w_id (x := cnt) (by omega) (by omega), q_w_id (x := o) (by omega) (by omega), if_neg (show ¬ cnt ≤ o by omega), x_rd (n := 12) o0 (by omega) (by decide), q_w_id (x := m (t + 2) o) (by omega) (by omega), q_w_id (x := a) (by omega) (by omega)]
      by_cases c1 : m (t + 2) o = a
      · rw [if_pos c1, x_rd (n := 12) o0 (by omega) (by decide), q_w_id (x := m (t + 3) o) (by omega) (by omega), q_w_id (x := c) (by omega) (by omega)]
        by_cases c2 : m (t + 3) o = c
        · rw [if_pos c2]
          have es : q_or s 1 = 1 := by rcases hs with h | h <;> rw [h] <;> decide
          rw [es]
          exact hn 1 ⟨by omega, Or.inr rfl, ⟨fun _ => Or.inr (ext.mpr (Or.inr ⟨c1, c2⟩)), fun _ => rfl⟩⟩
        · rw [if_neg c2]
          exact keep fun h => c2 h.2
      · rw [if_neg c1]
        exact keep fun h => c1 h.1
    · intro n' s ⟨_, hs, hiff⟩
      show q_ok (f_Loop_noteOffset_b17 t (f_Loop_noteOffset_l17 t n') a c s cnt m) _
      unfold f_Loop_noteOffset_b17
      rw [e5, if_pos (Int.le_refl _)]
      rcases hs with h | h
      · have hno : ¬ v_kn cnt (m (t + 2)) (m (t + 3)) a c := fun hh => by have := hiff.mpr hh; omega
        have g5 : q_up m (t + 2) cnt a t 5 = cnt := by rw [q_up_c (by omega)]; exact e5
        have g5' : q_up (q_up m (t + 2) cnt a) (t + 3) cnt c t 5 = cnt := by rw [q_up_c (by omega)]; exact g5
        rw [h, x_w0, if_pos rfl, q_w_id (x := cnt) (by omega) (by omega), if_neg (by omega), x_wr (n := 12) hc.1 (by omega) (by decide), g5, x_wr (n := 12) hc.1 (by omega) (by decide), g5', x_pf]
        exact o_rt (Or.inr ⟨hno, rfl⟩)
      · rw [h, x_w1, if_neg (by decide)]
        exact o_rt (Or.inl ⟨hiff.mp h, rfl⟩)
  unfold f_Loop_noteOffset f_Loop_noteOffset_b12
  rw [q_w_id (x := a) (by omega) (by omega), q_w_id (x := c) (by omega) (by omega)]
  by_cases c1 : a = 0
  · rw [if_pos c1]
    by_cases c2 : c = 0
    · rw [if_pos c2]; exact body 1 (Or.inr rfl) ⟨fun _ => ⟨c1, c2⟩, fun _ => rfl⟩
    · rw [if_neg c2]; exact body 0 (Or.inl rfl) ⟨fun e => absurd e (by decide), fun e => absurd e.2 c2⟩
  · rw [if_neg c1]; exact body 0 (Or.inl rfl) ⟨fun e => absurd e (by decide), fun e => absurd e.1 c1⟩
end nodes
