/-! QUESTION: tiles -/
section tiles8
variable {l m : q_Mem} {r c t : Int} {o : Int → Int}
def i_fr2 (s s' : q_Mem) : Prop := (∀ c', c' ≠ 69 → c' ≠ 70 → c' ≠ 71 → c' ≠ 72 → s' c' = s c') ∧ ∀ j, j ≠ 8 → s' 69 j = s 69 j
theorem i_fr2_of {k : Int} {s s1 s2 : q_Mem} (h : i_fr2 s s1) (h' : i_fr k s1 s2) : i_fr2 s s2 := ⟨fun c' a b c d => (h'.1 c' a b c d).trans (h.1 c' a b c d), fun j hj => (h'.2.1 j hj).trans (h.2 j hj)⟩
theorem c_longestRow (ht : t ∈ q_Lp) (hl : g_CL m t l) (hw : g_lw l) (hr : 1 ≤ r ∧ r ≤ 10) (hc : 1 ≤ c ∧ c ≤ 10) (e3 : m 69 3 = r) (e4 : m 69 4 = c) (e5 : m 69 5 = i_A l c) (e6 : m 69 6 = i_N l r c) : q_ok (f_Tile_longestRow t m) (fun v m' => i_fr2 m m' ∧ (0 ≤ v ∧ v ≤ 200) ∧ ∃ X, (∀ Z, i_Tab l r c (fun _ _ => True) Z → i_sol l r c Z X) ∧ (∀ w, i_S l r c w → -1 ≤ X w) ∧ i_row l r c X v) := by
  have hNr := i_N_rg hw hr hc
  unfold f_Tile_longestRow
  refine o_bd (c_countWaits ht hl hw hr hc e3 e4 e5) fun _ m1 ⟨f1, w1⟩ => ?_
  rw [x_pf]
  have f2 : i_fr2 m (q_up m1 69 8 0) := ⟨fun c' c1 c2 _ _ => by rw [q_up_f c1]; exact f1 c' c2, fun j hj => by rw [q_up_i hj, f1 69 (by decide)]⟩
  have w2 : ∀ k, 0 ≤ k → k < 100 → q_up m1 69 8 0 70 k = i_W l r c (fun _ => false) k := fun k k0 k1 => by rw [q_up_c (by decide)]; exact w1 k k0 k1
  have z2 : q_up m1 69 8 0 69 8 = 0 := q_up_s _ _ _ _
  revert f2 w2 z2
  generalize q_up m1 69 8 0 = m2
  intro f2 w2 z2
  refine o_upF (fun n k (s : q_Mem) => f_Tile_longestRow_l12 n t k s) (fun k s => 0 ≤ k ∧ i_fr2 m s ∧ s 70 = m2 70 ∧ (∀ w, 0 ≤ w → w < k → s 71 w = 1) ∧ k_O i_F (fun w => decide (w < k) && m2 70 w == 0) (s 72) (s 69 8)) _ (k := 0) (e := i_N l r c) (s := m2) (by omega) (by omega) ⟨by omega, f2, rfl, fun w w0 w1 => by omega, ?_⟩ ?_ ?_
  · rw [z2]
    refine ⟨by omega, fun i i0 i1 => by omega, fun i j i0 ij j1 => by omega, fun p hp => ?_, ?_⟩
    · have hp' := i_F_pt.mp hp
      have : ¬ p < 0 := by omega
      simp [this]
      intro i i0 i1
      omega
    · refine (g_cnt_zero.mpr fun k k0 k1 => ?_).symm
      have : ¬ k < 0 := by omega
      simp [this]
  · intro n k s hk ⟨k0, f3, h70, h71, hO⟩ hn
    have hN0 := hO.1
    show q_ok (f_Tile_longestRow_b12 (f_Tile_longestRow_l12 n) t k s) _
    unfold f_Tile_longestRow_b12 f_Tile_longestRow_b41
    have e6' : s 69 6 = i_N l r c := by rw [f3.2 6 (by decide)]; exact e6
    have e70 : q_up s 71 k 1 70 k = m2 70 k := by rw [q_up_c (by decide), h70]
    have hWr : 0 ≤ m2 70 k ∧ m2 70 k ≤ 1200 := by rw [w2 k k0 (by omega)]; exact g_cnt_rg _ 1200
    rw [e6', q_w_id (x := i_N l r c) (by omega) (by omega), q_w_id (x := k) (by omega) (by omega), if_neg (by omega), x_wr (n := 100) k0 (by omega) (by decide), x_rd (n := 100) k0 (by omega) (by decide), e70, q_w_id (x := m2 70 k) (by omega) (by omega)]
    have v71 : ∀ w, 0 ≤ w → w < k + 1 → q_up s 71 k 1 71 w = 1 := by
      intro w w0 w1
      by_cases cw : w = k
      · rw [cw, q_up_s]
      · rw [q_up_i cw]; exact h71 w w0 (by omega)
    by_cases cz : m2 70 k = 0
    · rw [if_pos cz]
      unfold f_Tile_enqueue
      have e8 : q_up s 71 k 1 69 8 = s 69 8 := q_up_c (by decide)
      obtain ⟨hlt, hOn⟩ := k_O_add (l := i_F) (z' := fun w => decide (w < k + 1) && m2 70 w == 0) (ord' := fun i => if i = s 69 8 then k else s 72 i) (q := k) hO (i_F_pt.mpr (by omega)) (fun w _ hw => by
          have : (w < k + 1) ↔ (w < k) := by omega
          simp [this]) (by
          have : ¬ k < k := by omega
          simp) (by
          have : k < k + 1 := by omega
          simp [this, cz]) (fun i i0 i1 => if_neg (by omega)) (if_pos rfl)
      rw [e8, q_w_id (x := s 69 8) (by omega) (by omega), if_neg (by omega), x_wr (n := 100) (by omega) (by omega) (by decide), x_pf, x_rt, x_bd]
      have e8' : q_up (q_up s 71 k 1) 72 (s 69 8) k 69 8 = s 69 8 := by rw [q_up_c (by decide)]; exact e8
      rw [e8']
      refine hn _ ⟨by omega, ⟨fun c' c1 c2 c3 c4 => by rw [q_up_f c1, q_up_f c4, q_up_f c3]; exact f3.1 c' c1 c2 c3 c4, fun j hj => by rw [q_up_i hj, q_up_c (by decide), q_up_c (by decide)]; exact f3.2 j hj⟩, by rw [q_up_f (by decide), q_up_f (by decide), q_up_f (by decide)]; exact h70, fun w w0 w1 => by rw [q_up_c (by decide), q_up_c (by decide)]; exact v71 w w0 w1, ?_⟩
      rw [q_up_s, q_up_f (show (72 : Int) ≠ 69 by decide), q_up_fn, q_up_f (show (72 : Int) ≠ 71 by decide)]
      exact hOn
    · rw [if_neg cz]
      refine hn _ ⟨by omega, ⟨fun c' c1 c2 c3 c4 => by rw [q_up_f c3]; exact f3.1 c' c1 c2 c3 c4, fun j hj => by rw [q_up_c (by decide)]; exact f3.2 j hj⟩, by rw [q_up_f (by decide)]; exact h70, v71, ?_⟩
      rw [q_up_f (show (72 : Int) ≠ 71 by decide), q_up_c (show (69 : Int) ≠ 71 by decide)]
      refine k_O_same hO fun w hw' => ?_
      by_cases cw : w = k
      · rw [cw, beq_false_of_ne cz]; simp
      · have : (w < k + 1) ↔ (w < k) := by omega
        simp [this]
  · intro n s ⟨_, f3, h70, h71, hO⟩
    show q_ok (f_Tile_longestRow_b12 (f_Tile_longestRow_l12 n) t (i_N l r c) s) _
    unfold f_Tile_longestRow_b12
    have e6' : s 69 6 = i_N l r c := by rw [f3.2 6 (by decide)]; exact e6
    rw [e6', if_pos (Int.le_refl _)]
    have hI0 : i_I l r c 0 (-1) 0 0 (0 + 1) s (fun _ => false) := by
      refine ⟨fun w w0 w1 => by rw [h70]; exact w2 w w0 (by omega), by rw [h70]; exact hO, fun w w0 w1 => by rw [h71 w w0 w1]; omega, fun e _ _ _ h => by simp at h, fun w w0 w1 => Or.inl (h71 w w0 w1), fun e e0 e1 hE => ?_⟩
      have hs := i_K_rg hw hr hc (i_E_of hw e0 e1 hE).2.2.2.2
      constructor
      · intro h; simp at h
      · rintro (⟨i, i0, i1, _⟩ | ⟨h, _⟩)
        · omega
        · have : 0 ≤ i_sr l r c e := hs.1
          omega
    refine o_upF (fun n k (z : Int × q_Mem × (Int → Bool)) => f_Tile_longestRow_l51 n t z.1 k z.2.1) (fun k z => 0 ≤ k ∧ i_fr2 m z.2.1 ∧ i_I l r c k (-1) 0 0 (k + 1) z.2.1 z.2.2 ∧ k ≤ z.2.1 69 8 ∧ (∀ i, 0 ≤ i → i < k → z.2.1 71 (z.2.1 72 i) ≤ z.1) ∧ (0 ≤ z.1 ∧ z.1 ≤ 200) ∧ ((k = 0 ∧ z.1 = 0) ∨ ∃ i, 0 ≤ i ∧ i < k ∧ z.2.1 71 (z.2.1 72 i) = z.1)) _ (k := 0) (e := 100) (s := (0, s, fun _ => false)) (by omega) (by omega) ⟨by omega, f3, hI0, hO.1.1, fun i i0 i1 => by omega, ⟨Int.le_refl _, by show (0 : Int) ≤ 200; decide⟩, Or.inl ⟨rfl, rfl⟩⟩ ?_ ?_
    · intro n k z hk ⟨k0, f4, hI, hkN, hg1, hgr, hg2⟩ hn
      obtain ⟨g, s4, R⟩ := z
      replace f4 : i_fr2 m s4 := f4
      replace hI : i_I l r c k (-1) 0 0 (k + 1) s4 R := hI
      replace hkN : k ≤ s4 69 8 := hkN
      replace hg1 : ∀ i, 0 ≤ i → i < k → s4 71 (s4 72 i) ≤ g := hg1
      replace hgr : 0 ≤ g ∧ g ≤ 200 := hgr
      replace hg2 : (k = 0 ∧ g = 0) ∨ ∃ i, 0 ≤ i ∧ i < k ∧ s4 71 (s4 72 i) = g := hg2
      have hN1 := hI.2.1.1
      have e6' : s4 69 6 = i_N l r c := by rw [f4.2 6 (by decide)]; exact e6
      show q_ok (f_Tile_longestRow_b51 (f_Tile_longestRow_l51 n) t g k s4) _
      unfold f_Tile_longestRow_b51 f_Tile_longestRow_b98
      rw [q_w_id (x := k) (by omega) (by omega), if_neg (show ¬ 100 ≤ k by omega), q_w_id (x := s4 69 8) (by omega) (by omega)]
      by_cases ck : s4 69 8 ≤ k
      · have ek : k = s4 69 8 := by omega
        rw [if_pos ck, e6', q_w_id (x := i_N l r c) (by omega) (by omega)]
        rw [ek] at hI hg1 hg2
        have fin := i_fin hw hr hc hI hg1 hg2
        by_cases cN : s4 69 8 = i_N l r c
        · rw [if_pos cN] at fin ⊢
          exact o_rt ⟨f4, hgr, fin⟩
        · rw [if_neg cN] at fin ⊢
          exact o_rt ⟨f4, by decide, fin⟩
      · obtain ⟨ia, ib, ic, id, jf, ig⟩ := hI
        have hu : 0 ≤ s4 72 k ∧ s4 72 k < i_N l r c := by
          have h1 := (i_F_pt).mp (ib.2.1 k k0 (by omega))
          have h2 := (ib.2.2.2.1 (s4 72 k) (ib.2.1 k k0 (by omega))).mpr ⟨k, k0, by omega, rfl⟩
          simp at h2
          exact ⟨h1.1, h2.1⟩
        have hru := ic _ hu.1 hu.2
        have hl4 : g_CL s4 t l := g_CL_of ht hl fun c' hc' => f4.1 c' (by omega) (by omega) (by omega) (by omega)
        rw [if_neg ck, x_rd (n := 100) k0 hk (by decide), x_rd (n := 100) hu.1 (by omega) (by decide), x_rd (n := 100) k0 hk (by decide), x_max (by omega) (by omega) (by omega) (by omega)]
        have hI' : i_I l r c k (s4 72 k) 0 0 (k + 2) s4 R := by
          refine ⟨ia, ib, fun w w0 w1 => by have := ic w w0 w1; omega, id, jf, fun e e0 e1 hE => ?_⟩
          have hp := (i_E_of hw e0 e1 hE).2.2.2.2
          have hs := i_K_rg hw hr hc hp
          have hs' : 0 ≤ i_sr l r c e := hs.1
          rw [ig e e0 e1 hE]
          constructor
          · rintro (h | ⟨h, _⟩)
            · exact Or.inl h
            · omega
          · rintro (h | ⟨_, h⟩)
            · exact Or.inl h
            · unfold i_vis at h
              have := hp.1
              omega
        refine o_bd (c_release ht hw hr hc hl4 (by rw [f4.2 3 (by decide)]; exact e3) (by rw [f4.2 4 (by decide)]; exact e4) (by rw [f4.2 5 (by decide)]; exact e5) hI' ⟨k0, by omega, rfl⟩ hru.2 hu) fun _ s5 ⟨f5, R5, h5⟩ => ?_
        have h72 : ∀ i, 0 ≤ i → i ≤ k → s5 72 i = s4 72 i ∧ s5 71 (s4 72 i) = s4 71 (s4 72 i) := f5.2.2.2
        refine hn (max g (s4 71 (s4 72 k)), s5, R5) ⟨by omega, i_fr2_of f4 f5, ?_, by have := f5.2.2.1; show k + 1 ≤ s5 69 8; omega, fun i i0 i1 => ?_, by show 0 ≤ max g (s4 71 (s4 72 k)) ∧ max g (s4 71 (s4 72 k)) ≤ 200; omega, Or.inr ?_⟩
        · show i_I l r c (k + 1) (-1) 0 0 (k + 1 + 1) s5 R5
          obtain ⟨ja, jb, jc, jd, jf', jg⟩ := h5
          refine ⟨ja, jb, fun w w0 w1 => by have := jc w w0 w1; omega, jd, jf', fun e e0 e1 hE => ?_⟩
          have hp := (i_E_of hw e0 e1 hE).2.2.2.2
          have hs := i_K_rg hw hr hc hp
          have hs' : 0 ≤ i_sr l r c e := hs.1
          rw [jg e e0 e1 hE]
          constructor
          · rintro (⟨i, i0, i1, ei⟩ | ⟨h, _⟩)
            · exact Or.inl ⟨i, i0, by omega, ei⟩
            · exact Or.inl ⟨k, k0, by omega, by rw [(h72 k k0 (Int.le_refl _)).1]; exact h.symm⟩
          · rintro (⟨i, i0, i1, ei⟩ | ⟨h, _⟩)
            · by_cases ci : i = k
              · refine Or.inr ⟨?_, ?_⟩
                · rw [← ei, ci, (h72 k k0 (Int.le_refl _)).1]
                · unfold i_vis
                  have := hp.1
                  omega
              · exact Or.inl ⟨i, i0, by omega, ei⟩
            · omega
        · show s5 71 (s5 72 i) ≤ max g (s4 71 (s4 72 k))
          have a := h72 i i0 (by omega)
          rw [a.1, a.2]
          by_cases ci : i = k
          · rw [ci]; omega
          · have := hg1 i i0 (by omega); omega
        · show ∃ i, 0 ≤ i ∧ i < k + 1 ∧ s5 71 (s5 72 i) = max g (s4 71 (s4 72 k))
          by_cases cg : g ≤ s4 71 (s4 72 k)
          · have a := h72 k k0 (Int.le_refl _)
            exact ⟨k, k0, by omega, by rw [a.1, a.2]; omega⟩
          · rcases hg2 with ⟨_, h⟩ | ⟨i, i0, i1, ei⟩
            · omega
            · have a := h72 i i0 (by omega)
              exact ⟨i, i0, by omega, by rw [a.1, a.2]; omega⟩
    · intro n z ⟨_, f4, hI, hkN, hg1, hgr, hg2⟩
      have hN1 := hI.2.1.1
      have e6' : z.2.1 69 6 = i_N l r c := by rw [f4.2 6 (by decide)]; exact e6
      have ek : (100 : Int) = z.2.1 69 8 := by omega
      show q_ok (f_Tile_longestRow_b51 (f_Tile_longestRow_l51 n) t z.1 100 z.2.1) _
      unfold f_Tile_longestRow_b51 f_Tile_longestRow_b98
      rw [if_pos (by decide), e6', q_w_id (x := z.2.1 69 8) (by omega) (by omega), q_w_id (x := i_N l r c) (by omega) (by omega)]
      have fin := i_fin hw hr hc (s := z.2.1) (R := z.2.2) (b := 101) (g := z.1) (by rw [← ek]; exact hI) (fun i i0 i1 => hg1 i i0 (by omega)) (by
        rcases hg2 with ⟨h, _⟩ | ⟨i, i0, i1, ei⟩
        · omega
        · exact Or.inr ⟨i, i0, by omega, ei⟩)
      by_cases cN : z.2.1 69 8 = i_N l r c
      · rw [if_pos cN] at fin ⊢
        exact o_rt ⟨f4, hgr, fin⟩
      · rw [if_neg cN] at fin ⊢
        exact o_rt ⟨f4, by decide, fin⟩
/-- the table has one solution -/
theorem i_sol_u (hr : 1 ≤ r) (hc : 1 ≤ c) {Z X X' : Int → Int} (hZ : i_Tab l r c (fun _ _ => True) Z) (hw : g_lw l) (h : i_sol l r c Z X) (h' : i_sol l r c Z X') : ∀ w, i_S l r c w → X w = X' w := by
  refine g_uniq (tg := fun w u => i_tg Z w u) (n := 100) (S := i_S l r c) (Dom := i_S l r c) (fun w u hw' u0 u1 hne => ?_) h h' (fun p hp hn => absurd hp hn) (fun p hp hn => absurd hp hn)
  have hwr := i_S_rg hr hc hw'
  have e := i_tg_in hne
  rw [e]
  rcases hZ w u hwr.1 hwr.2 u0 u1 with ⟨_, q, o, _, hq, ho, hx, _, e2⟩ | ⟨hz, _⟩
  · unfold i_x at hx
    simp at hx
    exact ⟨_, g_tg_pt hw hx.1, e2⟩
  · exact absurd (if_pos hz) hne
end tiles8
