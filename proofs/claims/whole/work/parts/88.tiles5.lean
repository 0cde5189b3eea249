/-! TILES: the class releases one behind another -/
def i_F : q_Mem := fun _ _ => 10
theorem i_F_pt {k : Int} : g_pt i_F k ↔ 0 ≤ k ∧ k < 100 := by
  unfold g_pt g_th i_F
  omega
def i_vis (l : q_Mem) (P O e : Int) : Prop := g_tg l (e / 12) (e % 12) < P ∨ (g_tg l (e / 12) (e % 12) = P ∧ e % 12 < O)
def i_I (l : q_Mem) (r c k u P O b : Int) (s : q_Mem) (R : Int → Bool) : Prop :=
  (∀ w, 0 ≤ w → w < i_N l r c → s 70 w = i_W l r c R w) ∧
  k_O i_F (fun w => decide (w < i_N l r c) && s 70 w == 0) (s 72) (s 69 8) ∧
  (∀ w, 0 ≤ w → w < i_N l r c → 1 ≤ s 71 w ∧ s 71 w ≤ b) ∧
  (∀ e, 0 ≤ e → e < 1200 → i_E l r c e = true → R e = true → s 71 (i_sr l r c e) + 1 ≤ s 71 (i_tl l r c e)) ∧
  (∀ w, 0 ≤ w → w < i_N l r c → s 71 w = 1 ∨ ∃ e, (0 ≤ e ∧ e < 1200) ∧ i_E l r c e = true ∧ R e = true ∧ i_tl l r c e = w ∧ s 71 w = s 71 (i_sr l r c e) + 1) ∧
  ∀ e, 0 ≤ e → e < 1200 → i_E l r c e = true → (R e = true ↔ (∃ i, 0 ≤ i ∧ i < k ∧ s 72 i = i_sr l r c e) ∨ (i_sr l r c e = u ∧ i_vis l P O e))
section tiles5
variable {l m : q_Mem} {r c t : Int}
theorem i_I_vis {k u P O P' O' b : Int} {s : q_Mem} {R : Int → Bool} (h : i_I l r c k u P O b s R) (hv : ∀ e, 0 ≤ e → e < 1200 → i_E l r c e = true → i_sr l r c e = u → (i_vis l P O e ↔ i_vis l P' O' e)) : i_I l r c k u P' O' b s R := by
  obtain ⟨a, b, c, d, f, g⟩ := h
  refine ⟨a, b, c, d, f, fun e e0 e1 hE => ?_⟩
  rw [g e e0 e1 hE]
  constructor
  · rintro (h | ⟨h1, h2⟩)
    · exact Or.inl h
    · exact Or.inr ⟨h1, (hv e e0 e1 hE h1).mp h2⟩
  · rintro (h | ⟨h1, h2⟩)
    · exact Or.inl h
    · exact Or.inr ⟨h1, (hv e e0 e1 hE h1).mpr h2⟩
/-- what a release leaves as it is -/
def i_fr (k : Int) (s s' : q_Mem) : Prop := (∀ c', c' ≠ 69 → c' ≠ 70 → c' ≠ 71 → c' ≠ 72 → s' c' = s c') ∧ (∀ j, j ≠ 8 → s' 69 j = s 69 j) ∧ s 69 8 ≤ s' 69 8 ∧ (∀ i, 0 ≤ i → i ≤ k → s' 72 i = s 72 i ∧ s' 71 (s 72 i) = s 71 (s 72 i))
theorem i_fr_id (k : Int) (s : q_Mem) : i_fr k s s := ⟨fun _ _ _ _ _ => rfl, fun _ _ => rfl, Int.le_refl _, fun _ _ _ => ⟨rfl, rfl⟩⟩
theorem i_fr_tr {k : Int} {s s1 s2 : q_Mem} (h : i_fr k s s1) (h' : i_fr k s1 s2) : i_fr k s s2 := by
  refine ⟨fun c' a b c d => (h'.1 c' a b c d).trans (h.1 c' a b c d), fun j hj => (h'.2.1 j hj).trans (h.2.1 j hj), Int.le_trans h.2.2.1 h'.2.2.1, fun i i0 i1 => ?_⟩
  have a := h.2.2.2 i i0 i1
  have b := h'.2.2.2 i i0 i1
  rw [a.1] at b
  exact ⟨b.1, b.2.trans a.2⟩
/-- an edge is released -/
theorem i_step (hw : g_lw l) (hr : 1 ≤ r ∧ r ≤ 10) (hc : 1 ≤ c ∧ c ≤ 10) {k u P O : Int} {s : q_Mem} {R : Int → Bool} (h : i_I l r c k u P O (k + 2) s R) (hk : 0 ≤ k ∧ k < s 69 8 ∧ s 72 k = u) (hu : s 71 u ≤ k + 1) (hP : g_pt l P) (hPu : i_K r c (i_A l c) P = u) (hO : 0 ≤ O ∧ O < l 0 5) (hq : g_rr l P O ≠ -1) (hne : i_K r c (i_A l c) (g_rr l P O) ≠ u) {K : q_Mem → q_Res} {Q : Int → q_Mem → Prop}
    (hK : ∀ s' R', i_fr k s s' → i_I l r c k u P (O + 1) (k + 2) s' R' → q_ok (K s') Q) : q_ok (q_rd s 71 100 (i_K r c (i_A l c) (g_rr l P O)) fun v1 => q_rd s 71 100 u fun v2 => q_wr s 71 100 (i_K r c (i_A l c) (g_rr l P O)) (q_max v1 (v2 + 1)) fun m3 => q_rd m3 70 100 (i_K r c (i_A l c) (g_rr l P O)) fun v4 => q_wr m3 70 100 (i_K r c (i_A l c) (g_rr l P O)) (v4 - 1) fun m5 => q_rd m5 70 100 (i_K r c (i_A l c) (g_rr l P O)) fun v6 => if q_w v6 = 0 then q_bd (f_Tile_enqueue (i_K r c (i_A l c) (g_rr l P O)) m5) fun _ m7 => K m7 else K m5) Q := by
  obtain ⟨ia, ib, ic, id, jf, ig⟩ := h
  have hNr := i_N_rg hw hr hc
  have hqp := g_rr_pt hw hq
  have htg : g_tg l (g_rr l P O) O = P := (g_tg_rr hw hqp hP).mpr rfl
  have h12 := hw.2.2.2.2.1
  have hKq := i_K_rg hw hr hc hqp
  have hKP := i_K_rg hw hr hc hP
  rw [hPu] at hKP
  generalize hy : i_K r c (i_A l c) (g_rr l P O) = y at *
  generalize hqq : g_rr l P O = q at *
  have hq' := hqp.1
  have ee : (12 * q + O) / 12 = q ∧ (12 * q + O) % 12 = O := by omega
  have hE0 : i_E l r c (12 * q + O) = true := by
    unfold i_E
    rw [ee.1, ee.2]
    have h1 := hqp.2
    have hx : i_x l r c q O = true := by
      unfold i_x
      rw [htg]
      have n1 : P ≠ -1 := by have := hP.1; omega
      have n2 : ¬ i_T r c q = i_T r c P := fun e => hne (by rw [← hy, ← hPu]; exact (i_K_iff hw hr hc hqp hP).mpr e)
      simp [n1, n2]
    simp [h1, hO.2, hx]
  have hsr0 : i_sr l r c (12 * q + O) = u := by unfold i_sr; rw [ee.1, ee.2, htg]; exact hPu
  have htl0 : i_tl l r c (12 * q + O) = y := by unfold i_tl; rw [ee.1]; exact hy
  have hR0 : R (12 * q + O) = false := by
    cases hRe : R (12 * q + O) with
    | false => rfl
    | true =>
      rcases (ig _ (by omega) (by omega) hE0).mp hRe with ⟨i, i0, i1, ei⟩ | ⟨_, hv⟩
      · rw [hsr0] at ei
        have := ib.2.2.1 i k i0 i1 hk.2.1
        exact absurd (ei.trans hk.2.2.symm) this
      · unfold i_vis at hv
        rw [ee.1, ee.2, htg] at hv
        omega
  have hW1 : 1 ≤ s 70 y := by
    rw [ia y hKq.1 hKq.2]
    have : 0 < i_W l r c R y := g_cnt_pos (k := 12 * q + O) (by omega) (by show 12 * q + O < 1200; omega) (by rw [hE0, htl0, hR0]; simp)
    omega
  have hW2 : s 70 y ≤ 1200 := by rw [ia y hKq.1 hKq.2]; exact (g_cnt_rg _ 1200).2
  -- y is not in the row yet
  have hny : ∀ i, 0 ≤ i → i < s 69 8 → s 72 i ≠ y := by
    intro i i0 i1 ei
    have := (ib.2.2.2.1 y (i_F_pt.mpr (by omega))).mpr ⟨i, i0, i1, ei⟩
    simp at this
    omega
  have hsrn : ∀ e, 0 ≤ e → e < 1200 → i_E l r c e = true → R e = true → i_sr l r c e ≠ y := by
    intro e e0 e1 hE hRe ey
    rcases (ig e e0 e1 hE).mp hRe with ⟨i, i0, i1, ei⟩ | ⟨h1, _⟩
    · exact hny i i0 (by omega) (ei.trans ey)
    · exact hne (ey.symm.trans h1)
  have hN1 := ib.1
  have hry := ic y hKq.1 hKq.2
  have hru := ic u hKP.1 hKP.2
  rw [x_rd (n := 100) hKq.1 (by omega) (by decide), x_rd (n := 100) hKP.1 (by omega) (by decide), x_max (by omega) (by omega) (by omega) (by omega), x_wr (n := 100) hKq.1 (by omega) (by decide), x_rd (n := 100) hKq.1 (by omega) (by decide), x_wr (n := 100) hKq.1 (by omega) (by decide), x_rd (n := 100) hKq.1 (by omega) (by decide), q_up_s, q_up_f (show (70 : Int) ≠ 71 by decide), q_w_id (x := s 70 y - 1) (by omega) (by omega)]
  -- the new ghost
  have hWn : ∀ w, 0 ≤ w → w < i_N l r c → i_W l r c (fun e => if e = 12 * q + O then true else R e) w = if w = y then s 70 y - 1 else s 70 w := by
    intro w w0 w1
    have key := i_cnt_step (P := fun e => i_E l r c e && i_tl l r c e == w && !(if e = 12 * q + O then true else R e)) (P' := fun e => i_E l r c e && i_tl l r c e == w && !R e) (n := 1200) (e := 12 * q + O) (by omega) (by show 12 * q + O < 1200; omega) (fun e _ _ hne => by rw [if_neg hne]) (by rw [if_pos rfl]; simp)
    have k1 : i_W l r c R w = i_W l r c (fun e => if e = 12 * q + O then true else R e) w + (if (i_E l r c (12 * q + O) && i_tl l r c (12 * q + O) == w && !R (12 * q + O)) = true then 1 else 0) := key
    rw [hE0, htl0, hR0, ← ia w w0 w1] at k1
    generalize i_W l r c (fun e => if e = 12 * q + O then true else R e) w = V at k1 ⊢
    by_cases cw : w = y
    · rw [if_pos cw]
      subst cw
      simp at k1
      omega
    · rw [if_neg cw]
      have : ¬ y = w := fun h => cw h.symm
      simp [this] at k1
      omega
  have main : ∀ s' : q_Mem, i_fr k s s' → (∀ w, s' 70 w = if w = y then s 70 y - 1 else s 70 w) → (∀ w, s' 71 w = if w = y then max (s 71 y) (s 71 u + 1) else s 71 w) → (∀ i, 0 ≤ i → i < s 69 8 → s' 72 i = s 72 i) → k_O i_F (fun w => decide (w < i_N l r c) && s' 70 w == 0) (s' 72) (s' 69 8) → q_ok (K s') Q := by
    intro s' hfr h70 h71 h72 hO'
    have huy : u ≠ y := fun e => hne e.symm
    refine hK s' (fun e => if e = 12 * q + O then true else R e) hfr ⟨fun w w0 w1 => by rw [hWn w w0 w1]; exact h70 w, hO', fun w w0 w1 => ?_, fun e e0 e1 hE hRe => ?_, fun w w0 w1 => ?_, fun e e0 e1 hE => ?_⟩
    · rw [h71 w]
      have := ic w w0 w1
      split <;> omega
    · by_cases ce : e = 12 * q + O
      · rw [ce, hsr0, htl0, h71 u, h71 y, if_neg huy, if_pos rfl]
        omega
      · replace hRe : (if e = 12 * q + O then true else R e) = true := hRe
        rw [if_neg ce] at hRe
        have n1 := hsrn e e0 e1 hE hRe
        have := id e e0 e1 hE hRe
        rw [h71 (i_sr l r c e), h71 (i_tl l r c e), if_neg n1]
        split
        · rename_i h; rw [h] at this; omega
        · exact this
    · rw [h71 w]
      by_cases cw : w = y
      · rw [if_pos cw]
        by_cases cm : s 71 y ≤ s 71 u + 1
        · refine Or.inr ⟨12 * q + O, by omega, hE0, if_pos rfl, by rw [htl0, cw], ?_⟩
          rw [hsr0, h71 u, if_neg huy]
          omega
        · rcases jf y hKq.1 hKq.2 with h1 | ⟨e, he, hE, hRe, h1, h2⟩
          · omega
          · refine Or.inr ⟨e, he, hE, ?_, by rw [h1, cw], ?_⟩
            · show (if e = 12 * q + O then true else R e) = true
              split
              · rfl
              · exact hRe
            · rw [h71 (i_sr l r c e), if_neg (hsrn e he.1 he.2 hE hRe)]
              omega
      · rw [if_neg cw]
        rcases jf w w0 w1 with h1 | ⟨e, he, hE, hRe, h1, h2⟩
        · exact Or.inl h1
        · refine Or.inr ⟨e, he, hE, ?_, h1, ?_⟩
          · show (if e = 12 * q + O then true else R e) = true
            split
            · rfl
            · exact hRe
          · rw [h71 (i_sr l r c e), if_neg (hsrn e he.1 he.2 hE hRe)]
            exact h2
    · show (if e = 12 * q + O then true else R e) = true ↔ _
      have hex : (∃ i, 0 ≤ i ∧ i < k ∧ s' 72 i = i_sr l r c e) ↔ (∃ i, 0 ≤ i ∧ i < k ∧ s 72 i = i_sr l r c e) := by
        constructor
        · rintro ⟨i, i0, i1, ei⟩; exact ⟨i, i0, i1, by rw [← h72 i i0 (by omega)]; exact ei⟩
        · rintro ⟨i, i0, i1, ei⟩; exact ⟨i, i0, i1, by rw [h72 i i0 (by omega)]; exact ei⟩
      rw [hex]
      by_cases ce : e = 12 * q + O
      · rw [if_pos ce]
        refine ⟨fun _ => Or.inr ⟨by rw [ce]; exact hsr0, ?_⟩, fun _ => rfl⟩
        unfold i_vis
        rw [ce, ee.1, ee.2]
        exact Or.inr ⟨htg, by omega⟩
      · rw [if_neg ce, ig e e0 e1 hE]
        have hEo := i_E_of hw e0 e1 hE
        have hv : i_vis l P O e ↔ i_vis l P (O + 1) e := by
          unfold i_vis
          constructor
          · rintro (h | ⟨h1, h2⟩)
            · exact Or.inl h
            · exact Or.inr ⟨h1, by omega⟩
          · rintro (h | ⟨h1, h2⟩)
            · exact Or.inl h
            · by_cases e2 : e % 12 = O
              · exfalso
                rw [e2] at h1
                have h3 := (g_tg_rr hw hEo.1 hP).mp h1
                rw [hqq] at h3
                omega
              · exact Or.inr ⟨h1, by omega⟩
        rw [hv]
  have hfr0 : ∀ i, 0 ≤ i → i ≤ k → s 72 i ≠ y := fun i i0 i1 => hny i i0 (by omega)
  have v70 : ∀ w, q_up (q_up s 71 y (max (s 71 y) (s 71 u + 1))) 70 y (s 70 y - 1) 70 w = if w = y then s 70 y - 1 else s 70 w := by
    intro w
    rw [q_up_fn, q_up_f (by decide)]
  have v71 : ∀ w, q_up (q_up s 71 y (max (s 71 y) (s 71 u + 1))) 70 y (s 70 y - 1) 71 w = if w = y then max (s 71 y) (s 71 u + 1) else s 71 w := by
    intro w
    rw [q_up_f (by decide), q_up_fn]
  by_cases cz : s 70 y - 1 = 0
  · rw [if_pos cz]
    unfold f_Tile_enqueue
    have e8 : q_up (q_up s 71 y (max (s 71 y) (s 71 u + 1))) 70 y (s 70 y - 1) 69 8 = s 69 8 := by rw [q_up_c (by decide), q_up_c (by decide)]
    obtain ⟨hlt, hOn⟩ := k_O_add (l := i_F) (z' := fun w => decide (w < i_N l r c) && (if w = y then s 70 y - 1 else s 70 w) == 0) (ord' := fun i => if i = s 69 8 then y else s 72 i) (q := y) ib (i_F_pt.mpr (by omega)) (fun w _ hw => by simp only [if_neg hw]) (by
        have : ¬ s 70 y = 0 := by omega
        simp [this]) (by simp [cz, hKq.2]) (fun i i0 i1 => if_neg (by omega)) (if_pos rfl)
    have hN0 : 0 ≤ s 69 8 := ib.1.1
    rw [e8, q_w_id (x := s 69 8) (by omega) (by omega), if_neg (by omega), x_wr (n := 100) (by omega) (by omega) (by decide), x_pf, x_rt, x_bd]
    have e8' : q_up (q_up (q_up s 71 y (max (s 71 y) (s 71 u + 1))) 70 y (s 70 y - 1)) 72 (s 69 8) y 69 8 = s 69 8 := by rw [q_up_c (by decide)]; exact e8
    rw [e8']
    refine main _ ⟨fun c' c1 c2 c3 c4 => by rw [q_up_f c1, q_up_f c4, q_up_f c2, q_up_f c3], fun j hj => by rw [q_up_i hj, q_up_c (by decide), q_up_c (by decide), q_up_c (by decide)], by rw [q_up_s]; omega, fun i i0 i1 => ⟨by rw [q_up_c (by decide), q_up_i (by omega), q_up_c (by decide), q_up_c (by decide)], ?_⟩⟩ (fun w => ?_) (fun w => ?_) (fun i i0 i1 => by rw [q_up_c (by decide), q_up_i (by omega), q_up_c (by decide), q_up_c (by decide)]) ?_
    · rw [q_up_c (by decide), q_up_c (by decide), v71, if_neg (hfr0 i i0 i1)]
    · rw [q_up_c (by decide), q_up_c (by decide)]; exact v70 w
    · rw [q_up_c (by decide), q_up_c (by decide)]; exact v71 w
    · have e72 : q_up (q_up (q_up (q_up s 71 y (max (s 71 y) (s 71 u + 1))) 70 y (s 70 y - 1)) 72 (s 69 8) y) 69 8 (s 69 8 + 1) 72 = fun i => if i = s 69 8 then y else s 72 i := by
        rw [q_up_f (by decide), q_up_fn, q_up_f (by decide), q_up_f (by decide)]
      have e70 : q_up (q_up (q_up (q_up s 71 y (max (s 71 y) (s 71 u + 1))) 70 y (s 70 y - 1)) 72 (s 69 8) y) 69 8 (s 69 8 + 1) 70 = fun w => if w = y then s 70 y - 1 else s 70 w := by
        rw [q_up_f (by decide), q_up_f (by decide), q_up_fn, q_up_f (by decide)]
      rw [e72, e70, q_up_s]
      exact hOn
  · rw [if_neg cz]
    refine main _ ⟨fun c' c1 c2 c3 c4 => by rw [q_up_f c2, q_up_f c3], fun j hj => by rw [q_up_c (by decide), q_up_c (by decide)], by rw [q_up_c (by decide), q_up_c (by decide)]; exact Int.le_refl _, fun i i0 i1 => ⟨by rw [q_up_c (by decide), q_up_c (by decide)], by rw [v71, if_neg (hfr0 i i0 i1)]⟩⟩ v70 v71 (fun i i0 i1 => by rw [q_up_c (by decide), q_up_c (by decide)]) ?_
    rw [q_up_f (show (72 : Int) ≠ 70 by decide), q_up_f (show (72 : Int) ≠ 71 by decide), q_up_c (show (69 : Int) ≠ 70 by decide), q_up_c (show (69 : Int) ≠ 71 by decide)]
    refine k_O_same ib fun w hw => ?_
    show (decide (w < i_N l r c) && q_up (q_up s 71 y (max (s 71 y) (s 71 u + 1))) 70 y (s 70 y - 1) 70 w == 0) = (decide (w < i_N l r c) && s 70 w == 0)
    rw [v70]
    by_cases cw : w = y
    · rw [if_pos cw, cw]
      have n1 : ¬ s 70 y = 0 := by omega
      rw [beq_false_of_ne cz, beq_false_of_ne n1]
    · rw [if_neg cw]
end tiles5
