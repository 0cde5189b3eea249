/-! THE PARSER: the model's offsets -/
section moff
variable {m : q_Mem}
theorem m_addOffset {bk cnt a c : Int} (hb : bk = 0 ∨ bk = 1) (hc : 0 ≤ cnt ∧ cnt < 12) (e87 : m 87 bk = cnt) (ha : -3 ≤ a ∧ a ≤ 3) (hcc : -3 ≤ c ∧ c ≤ 3) (hA : ∀ o, 0 ≤ o → o < cnt → (-3 ≤ m 96 (12 * bk + o) ∧ m 96 (12 * bk + o) ≤ 3) ∧ (-3 ≤ m 97 (12 * bk + o) ∧ m 97 (12 * bk + o) ≤ 3)) : q_ok (f_Mod_addOffset bk a c m) (fun _ m' => (v_kn cnt (fun o => m 96 (12 * bk + o)) (fun o => m 97 (12 * bk + o)) a c ∧ m' = m) ∨ (¬ v_kn cnt (fun o => m 96 (12 * bk + o)) (fun o => m 97 (12 * bk + o)) a c ∧ m' = q_up (q_up (q_up m 96 (12 * bk + cnt) a) 97 (12 * bk + cnt) c) 87 bk (cnt + 1))) := by
  have body : ∀ s0, (s0 = 0 ∨ s0 = 1) → (s0 = 1 ↔ (a = 0 ∧ c = 0)) → q_ok (f_Mod_addOffset_b13 bk a c s0 m) (fun _ m' => (v_kn cnt (fun o => m 96 (12 * bk + o)) (fun o => m 97 (12 * bk + o)) a c ∧ m' = m) ∨ (¬ v_kn cnt (fun o => m 96 (12 * bk + o)) (fun o => m 97 (12 * bk + o)) a c ∧ m' = q_up (q_up (q_up m 96 (12 * bk + cnt) a) 97 (12 * bk + cnt) c) 87 bk (cnt + 1))) := by
    intro s0 hs0 hs1
    unfold f_Mod_addOffset_b13
    refine o_upF (fun n' o (s : Int) => f_Mod_addOffset_l18 n' bk a c s o m) (fun o s => 0 ≤ o ∧ (s = 0 ∨ s = 1) ∧ (s = 1 ↔ ((a = 0 ∧ c = 0) ∨ ∃ o', (0 ≤ o' ∧ o' < o) ∧ m 96 (12 * bk + o') = a ∧ m 97 (12 * bk + o') = c))) _ (k := 0) (e := cnt) (s := s0) (by omega) (by omega) ⟨Int.le_refl _, hs0, ?_⟩ ?_ ?_
    · rw [hs1]
      constructor
      · exact Or.inl
      · rintro (h | ⟨o', ho, _⟩)
        · exact h
        · omega
    · intro n' o s ho ⟨o0, hs, hiff⟩ hn
      have hAo := hA o o0 ho
      have ext : (∃ o', (0 ≤ o' ∧ o' < o + 1) ∧ m 96 (12 * bk + o') = a ∧ m 97 (12 * bk + o') = c) ↔ ((∃ o', (0 ≤ o' ∧ o' < o) ∧ m 96 (12 * bk + o') = a ∧ m 97 (12 * bk + o') = c) ∨ (m 96 (12 * bk + o) = a ∧ m 97 (12 * bk + o) = c)) := by
        constructor
        · rintro ⟨o', h1, h2⟩
          by_cases eo : o' = o
          · rw [eo] at h2; exact Or.inr h2
          · exact Or.inl ⟨o', by omega, h2⟩
        · rintro (⟨o', h1, h2⟩ | h2)
          · exact ⟨o', by omega, h2⟩
          · exact ⟨o, by omega, h2⟩
      have yes : ((a = 0 ∧ c = 0) ∨ ∃ o', (0 ≤ o' ∧ o' < o + 1) ∧ m 96 (12 * bk + o') = a ∧ m 97 (12 * bk + o') = c) → q_ok (f_Mod_addOffset_l18 n' bk a c 1 (o + 1) m) (fun _ m' => (v_kn cnt (fun o => m 96 (12 * bk + o)) (fun o => m 97 (12 * bk + o)) a c ∧ m' = m) ∨ (¬ v_kn cnt (fun o => m 96 (12 * bk + o)) (fun o => m 97 (12 * bk + o)) a c ∧ m' = q_up (q_up (q_up m 96 (12 * bk + cnt) a) 97 (12 * bk + cnt) c) 87 bk (cnt + 1))) := fun hh => hn 1 ⟨Int.le_add_one o0, Or.inr rfl, ⟨fun _ => hh, fun _ => rfl⟩⟩
      show q_ok (f_Mod_addOffset_b18 (f_Mod_addOffset_l18 n') bk a c s o m) _
      unfold f_Mod_addOffset_b18 f_Mod_addOffset_b66 f_Mod_addOffset_b70 f_Mod_addOffset_b71
      rw [x_rd (n := 2) (by clear hiff ext yes; omega) (by clear hiff ext yes; omega) (by decide), e87, q_w_id (x := cnt) (by clear hiff ext yes; omega) (by clear hiff ext yes; omega), q_w_id (x := o) (by clear hiff ext yes; omega) (by clear hiff ext yes; omega), if_neg (show ¬ cnt ≤ o by clear hiff ext yes; omega)]
      rcases hs with h | h
      · have hno : ¬ ((a = 0 ∧ c = 0) ∨ ∃ o', (0 ≤ o' ∧ o' < o) ∧ m 96 (12 * bk + o') = a ∧ m 97 (12 * bk + o') = c) := fun hh => by have := hiff.mpr hh; omega
        have nxt : ¬ (m 96 (12 * bk + o) = a ∧ m 97 (12 * bk + o) = c) → q_ok (f_Mod_addOffset_l18 n' bk a c 0 (o + 1) m) (fun _ m' => (v_kn cnt (fun o => m 96 (12 * bk + o)) (fun o => m 97 (12 * bk + o)) a c ∧ m' = m) ∨ (¬ v_kn cnt (fun o => m 96 (12 * bk + o)) (fun o => m 97 (12 * bk + o)) a c ∧ m' = q_up (q_up (q_up m 96 (12 * bk + cnt) a) 97 (12 * bk + cnt) c) 87 bk (cnt + 1))) := by
          intro hn2
          refine hn 0 ⟨Int.le_add_one o0, Or.inl rfl, ⟨fun e => absurd e (by decide), fun hh => ?_⟩⟩
          exfalso
          rw [ext] at hh
          rcases hh with h1 | h1 | h1
          · exact hno (Or.inl h1)
          · exact hno (Or.inr h1)
          · exact hn2 h1
        rw [h, x_w0, if_pos rfl, x_rd (n := 24) (by clear hiff ext yes hno nxt; omega) (by clear hiff ext yes hno nxt; omega) (by decide), q_w_id (x := m 96 (12 * bk + o)) (by clear hiff ext yes hno nxt; omega) (by clear hiff ext yes hno nxt; omega), q_w_id (x := a) (by clear hiff ext yes hno nxt; omega) (by clear hiff ext yes hno nxt; omega)]
        by_cases c1 : m 96 (12 * bk + o) = a
        · rw [if_pos c1, x_rd (n := 24) (by clear hiff ext yes hno nxt; omega) (by clear hiff ext yes hno nxt; omega) (by decide), q_w_id (x := m 97 (12 * bk + o)) (by clear hiff ext yes hno nxt; omega) (by clear hiff ext yes hno nxt; omega), q_w_id (x := c) (by clear hiff ext yes hno nxt; omega) (by clear hiff ext yes hno nxt; omega)]
          by_cases c2 : m 97 (12 * bk + o) = c
          · rw [if_pos c2]
            exact yes (Or.inr (ext.mpr (Or.inr ⟨c1, c2⟩)))
          · rw [if_neg c2]
            exact nxt fun h => c2 h.2
        · rw [if_neg c1]
          exact nxt fun h => c1 h.1
      · rw [h, x_w1, if_neg (by decide)]
        refine yes ?_
        rcases hiff.mp h with h1 | h1
        · exact Or.inl h1
        · exact Or.inr (ext.mpr (Or.inl h1))
    · intro n' s ⟨_, hs, hiff⟩
      show q_ok (f_Mod_addOffset_b18 (f_Mod_addOffset_l18 n') bk a c s cnt m) _
      unfold f_Mod_addOffset_b18
      rw [x_rd (n := 2) (by clear hiff; omega) (by clear hiff; omega) (by decide), e87, if_pos (Int.le_refl _)]
      rcases hs with h | h
      · have hno : ¬ v_kn cnt (fun o => m 96 (12 * bk + o)) (fun o => m 97 (12 * bk + o)) a c := fun hh => by have := hiff.mpr hh; omega
        have g1 : q_up m 96 (12 * bk + cnt) a 87 bk = cnt := by rw [q_up_c (by decide)]; exact e87
        have g2 : q_up (q_up m 96 (12 * bk + cnt) a) 97 (12 * bk + cnt) c 87 bk = cnt := by rw [q_up_c (by decide)]; exact g1
        rw [h, x_w0, if_pos rfl, x_rd (n := 2) (by clear hiff hno; omega) (by clear hiff hno; omega) (by decide), e87, x_wr (n := 24) (by clear hiff hno; omega) (by clear hiff hno; omega) (by decide), x_rd (n := 2) (by clear hiff hno; omega) (by clear hiff hno; omega) (by decide), g1, x_wr (n := 24) (by clear hiff hno; omega) (by clear hiff hno; omega) (by decide), x_rd (n := 2) (by clear hiff hno; omega) (by clear hiff hno; omega) (by decide), g2, x_wr (n := 2) (by clear hiff hno; omega) (by clear hiff hno; omega) (by decide)]
        exact o_rt (Or.inr ⟨hno, rfl⟩)
      · rw [h, x_w1, if_neg (by decide)]
        exact o_rt (Or.inl ⟨hiff.mp h, rfl⟩)
  unfold f_Mod_addOffset f_Mod_addOffset_b12
  rw [q_w_id (x := a) (by omega) (by omega), q_w_id (x := c) (by omega) (by omega)]
  by_cases c1 : a = 0
  · rw [if_pos c1]
    by_cases c2 : c = 0
    · rw [if_pos c2]; exact body 1 (Or.inr rfl) ⟨fun _ => ⟨c1, c2⟩, fun _ => rfl⟩
    · rw [if_neg c2]; exact body 0 (Or.inl rfl) ⟨fun e => absurd e (by decide), fun e => absurd e.2 c2⟩
  · rw [if_neg c1]; exact body 0 (Or.inl rfl) ⟨fun e => absurd e (by decide), fun e => absurd e.1 c1⟩
end moff
