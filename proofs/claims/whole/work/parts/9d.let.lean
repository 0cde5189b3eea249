/-! THE PARSER: a let line: what it needs -/
def u_oM (bk c i : Int) : Prop := c < 82 ∨ (c ≤ 92 ∧ i ≠ bk) ∨ (93 ≤ c ∧ c ≤ 97 ∧ (i < 12 * bk ∨ 12 * bk + 12 ≤ i)) ∨ (98 ≤ c ∧ c ≤ 99 ∧ (i < 3 * bk ∨ 3 * bk + 3 ≤ i)) ∨ (c = 100 ∧ (i < 100 * bk ∨ 100 * bk + 100 ≤ i)) ∨ 100 < c
/-- what a line leaves alone: the model's, the class's -/
def u_fM (bk : Int) (m m' : q_Mem) : Prop := (∀ c i, c ≠ 81 → c ≠ 103 → c ≠ 104 → c ≠ 105 → u_oM bk c i → m' c i = m c i) ∧ ∀ j, j < 23 ∨ (29 < j ∧ j < 35) ∨ j = 37 ∨ 39 < j → m' 81 j = m 81 j
def u_fC (t : Int) (m m' : q_Mem) : Prop := (∀ c, c ≠ 1 → c ≠ 25 → c ≠ 26 → c ≠ 27 → c < t ∨ t + 10 < c → m' c = m c) ∧ (∀ j, j < 2 ∨ 5 < j → m' 1 j = m 1 j) ∧ m' (t + 10) 0 = m (t + 10) 0
/-- a line's fault, in both -/
def u_FL (t bk : Int) (mc mm mc' mm' : q_Mem) : Prop := (∃ F P, (1 ≤ F ∧ F ≤ 4) ∧ (mc' 25 4 = F ∧ mc' 25 5 = P) ∧ mm' 81 28 = F ∧ mm' 81 29 = P) ∧ u_fC t mc mc' ∧ u_fM bk mm mm' ∧ 0 ≤ mm' 81 26 ∧ mm' 81 26 ≤ 9999
section letl
variable {T : Int → Int} {n t bk V ed k a b w W : Int} {f e : Int → Int} {l mc mm m m' m1 m2 mc' mm' : q_Mem}
theorem u_fM_id (bk : Int) (m : q_Mem) : u_fM bk m m := ⟨fun _ _ _ _ _ _ _ => rfl, fun _ _ => rfl⟩
theorem u_fM_tr (h : u_fM bk m m1) (h' : u_fM bk m1 m2) : u_fM bk m m2 := ⟨fun c i c1 c2 c3 c4 c5 => (h'.1 c i c1 c2 c3 c4 c5).trans (h.1 c i c1 c2 c3 c4 c5), fun j hj => (h'.2 j hj).trans (h.2 j hj)⟩
theorem u_fM_fm (h : u_fm bk m m') : u_fM bk m m' := ⟨fun c i c1 _ _ c4 c5 => h.1 c i c1 c4 (by unfold u_ou; unfold u_oM at c5; omega), fun j hj => h.2 j (by omega)⟩
theorem u_fM_up {c i v : Int} (hc : (c = 81 ∧ ((23 ≤ i ∧ i ≤ 29) ∨ (35 ≤ i ∧ i ≤ 36) ∨ i = 38 ∨ i = 39)) ∨ c = 103 ∨ c = 104 ∨ c = 105 ∨ (c ≠ 81 ∧ ¬ u_oM bk c i)) : u_fM bk m (q_up m c i v) := by
  refine ⟨fun c' i' c1 c2 c3 c4 c5 => ?_, fun j hj => ?_⟩
  · by_cases e : c' = c
    · subst e
      by_cases e2 : i' = i
      · subst e2
        rcases hc with hc | hc | hc | hc | hc
        · exact absurd hc.1 c1
        · exact absurd hc c2
        · exact absurd hc c3
        · exact absurd hc c4
        · exact absurd c5 hc.2
      · exact q_up_i e2
    · exact q_up_c e
  · by_cases e : (81 : Int) = c
    · subst e
      exact q_up_i (by omega)
    · exact q_up_c e
theorem u_fC_id (t : Int) (m : q_Mem) : u_fC t m m := ⟨fun _ _ _ _ _ _ => rfl, fun _ _ => rfl, rfl⟩
theorem u_fC_tr (h : u_fC t m m1) (h' : u_fC t m1 m2) : u_fC t m m2 := ⟨fun c c1 c2 c3 c4 c5 => (h'.1 c c1 c2 c3 c4 c5).trans (h.1 c c1 c2 c3 c4 c5), fun j hj => (h'.2.1 j hj).trans (h.2.1 j hj), h'.2.2.trans h.2.2⟩
theorem u_fC_fc (htL : t ∈ q_Lp) (h : u_fc t m m') : u_fC t m m' := by
  have := u_Lp htL
  exact ⟨fun c c1 c2 _ _ c5 => h.1 c c1 c2 (by omega), h.2.1, by rw [h.1 (t + 10) (by omega) (by omega) (by omega)]⟩
theorem u_fC_up (htL : t ∈ q_Lp) {c i v : Int} (hc : c = 25 ∨ c = 26 ∨ c = 27 ∨ (t ≤ c ∧ c ≤ t + 9) ∨ (c = t + 10 ∧ i ≠ 0)) : u_fC t m (q_up m c i v) := by
  have := u_Lp htL
  refine ⟨fun c' _ c2 c3 c4 c5 => q_up_f (by omega), fun j _ => q_up_c (by omega), ?_⟩
  by_cases e : c = t + 10
  · rw [e]; exact q_up_i (by omega)
  · exact q_up_c (fun h => e h.symm)
theorem u_FL_F (htL : t ∈ q_Lp) (hc : u_fC t mc m1) (hm : u_fM bk mm m2) (h : u_F t bk m1 m2 mc' mm') : u_FL t bk mc mm mc' mm' := ⟨h.1, u_fC_tr hc (u_fC_fc htL h.2.1), u_fM_tr hm (u_fM_fm h.2.2.1), h.2.2.2.2⟩
/-- a name is taken up -/
theorem u_W_V (h : u_W V l) : u_W (V + 1) (q_up l 0 2 (V + 1)) := by
  have e0 : ∀ i, i ≠ 2 → q_up l 0 2 (V + 1) 0 i = l 0 i := fun i hi => q_up_i hi
  have ej : ∀ j, j ≠ 0 → q_up l 0 2 (V + 1) j = l j := fun j hj => q_up_f hj
  obtain ⟨a1, a2, a3, a4, a5, a6, a7, a8⟩ := h
  unfold u_W
  rw [e0 3 (by decide), e0 4 (by decide), e0 5 (by decide), e0 6 (by decide), ej 2 (by decide), ej 3 (by decide), ej 4 (by decide), ej 5 (by decide), ej 6 (by decide)]
  exact ⟨a1, a2, a3, a4, a5, a6, fun k k0 k1 => ⟨by have := (a7 k k0 k1).1; omega, (a7 k k0 k1).2⟩, a8⟩
theorem u_name (htL : t ∈ q_Lp) (hV : 0 ≤ V ∧ V ≤ 2) (h : u_S T n t bk V ed f e l mc mm k a b w W) : u_S T n t bk (V + 1) ed (fun j => if j = V then a else f j) (fun j => if j = V then b else e j) (q_up l 0 2 (V + 1)) (q_up (q_up (q_up mc 26 V a) 27 V b) t 2 (V + 1)) (q_up (q_up mm 103 V a) 104 V (b - a)) k a b w W := by
  obtain ⟨⟨hcs, hms, hf0⟩, ⟨h253, h258, hl⟩, hnm, hRR, hWW, hl2, e39, e38, hft⟩ := h
  have ht := u_Lp htL
  have cc : ∀ c, c ≠ 26 → c ≠ 27 → c ≠ t → q_up (q_up (q_up mc 26 V a) 27 V b) t 2 (V + 1) c = mc c := fun c c1 c2 c3 => by rw [q_up_f c3, q_up_f c2, q_up_f c1]
  have cm : ∀ c, c ≠ 103 → c ≠ 104 → q_up (q_up mm 103 V a) 104 V (b - a) c = mm c := fun c c1 c2 => by rw [q_up_f c2, q_up_f c1]
  refine ⟨⟨v_cs_fr hcs (cc 1 (by decide) (by decide) (by omega)) (cc 2 (by decide) (by decide) (by omega)), v_ms_fr hms (fun j _ _ => by rw [cm 81 (by decide) (by decide)]) (cm 101 (by decide) (by decide)) (cm 102 (by decide) (by decide)), by rw [cm 81 (by decide) (by decide)]; exact hf0⟩, ⟨by rw [cc 25 (by decide) (by decide) (by omega)]; exact h253, by rw [cc 25 (by decide) (by decide) (by omega)]; exact h258, ?_⟩, fun i i0 i1 => ?_, u_R_of hRR (by rw [cm 85 (by decide) (by decide), q_up_i (by decide)]; exact hRR.1.1) (q_up_i (by decide)) (q_up_i (by decide)) (fun j j0 _ => q_up_f (by omega)) ⟨cm 86 (by decide) (by decide), cm 87 (by decide) (by decide)⟩ (fun c c0 c1 => cm c (by omega) (by omega)), u_W_V hWW, q_up_s _ _ _ _, by rw [cm 81 (by decide) (by decide)]; exact e39, by rw [cm 81 (by decide) (by decide)]; exact e38, by rw [cc 25 (by decide) (by decide) (by omega)]; exact hft.1, by rw [cc 25 (by decide) (by decide) (by omega)]; exact hft.2.1, by rw [cm 81 (by decide) (by decide)]; exact hft.2.2⟩
  · rw [u_l_up0, u_l_fr (m := mc) (fun c c0 c1 => by rw [q_up_f (by omega), q_up_f (by omega)]), hl]
  · have g26 : q_up (q_up (q_up mc 26 V a) 27 V b) t 2 (V + 1) 26 i = q_up mc 26 V a 26 i := by rw [q_up_c (by omega), q_up_c (by decide)]
    have g27 : q_up (q_up (q_up mc 26 V a) 27 V b) t 2 (V + 1) 27 i = q_up (q_up mc 26 V a) 27 V b 27 i := by rw [q_up_c (by omega)]
    have g103 : q_up (q_up mm 103 V a) 104 V (b - a) 103 i = q_up mm 103 V a 103 i := q_up_c (by decide)
    dsimp only
    rw [g26, g27, g103]
    by_cases c : i = V
    · rw [if_pos c, if_pos c, c, q_up_s, q_up_s, q_up_s, q_up_s]
      exact ⟨⟨rfl, rfl⟩, rfl, rfl⟩
    · rw [if_neg c, if_neg c, q_up_i c, q_up_i c, q_up_i c, q_up_i c, q_up_c (by decide), q_up_c (by decide)]
      exact hnm i i0 (by omega)
/-- the rest of the model's let line where a fault stands -/
theorem m_let151 (hb : bk = 0 ∨ bk = 1) (hV : 0 ≤ V ∧ V ≤ 2) : f_Mod_readLet_b151 bk V m = some (0, q_up (q_up m 99 (3 * bk + V) (m 92 bk)) 84 bk (m 84 bk + 1)) := by
  unfold f_Mod_readLet_b151
  rw [x_rd (n := 2) (by omega) (by omega) (by decide), x_wr (n := 6) (by omega) (by omega) (by decide), x_rd (n := 2) (by omega) (by omega) (by decide), q_up_c (show (84 : Int) ≠ 99 by decide), x_wr (n := 2) (by omega) (by omega) (by decide), x_rt]
theorem m_letF (hb : bk = 0 ∨ bk = 1) (hV : 0 ≤ V ∧ V ≤ 2) (hf : 1 ≤ m 81 28 ∧ m 81 28 ≤ 4) (h92 : 0 ≤ m 92 bk ∧ m 92 bk ≤ 95) : ∃ m', (q_rd m 92 2 bk fun v6 =>
  q_wr m 98 6 ((3 * bk) + V) v6 fun m7 =>
  q_bd (f_Mod_isWord 4 m7) fun v8 m9 =>
  if q_w v8 = 0 then (q_bd (f_Mod_lay bk 0 m9) fun _ m10 =>
  f_Mod_readLet_b151 bk V m10)
  else (q_bd (f_Mod_scan m9) fun _ m11 =>
  q_bd (f_Mod_readFormula bk 0 m11) fun _ m12 =>
  f_Mod_readLet_b151 bk V m12)) = some (0, m') ∧ m' 81 = m 81 ∧ u_fM bk m m' := by
  refine ⟨q_up (q_up (q_up (q_up (q_up m 98 (3 * bk + V) (m 92 bk)) 100 (100 * bk + m 92 bk) 0) 92 bk (m 92 bk + 1)) 99 (3 * bk + V) (m 92 bk + 1)) 84 bk (m 84 bk + 1), ?_, ?_, ?_⟩
  · have e92 : q_up m 98 (3 * bk + V) (m 92 bk) 92 bk = m 92 bk := q_up_c (by decide)
    have la := m_lay (m := q_up m 98 (3 * bk + V) (m 92 bk)) (v := 0) hb (C := m 92 bk) (by omega) e92
    rw [x_rd (n := 2) (by omega) (by omega) (by decide), x_wr (n := 6) (by omega) (by omega) (by decide), m_isWord1 (by rw [q_up_c (by decide)]; exact hf), x_bd, x_w0, if_pos rfl, la, x_bd, m_let151 hb hV]
    rw [q_up_s, q_up_c (show (84 : Int) ≠ 92 by decide), q_up_c (show (84 : Int) ≠ 100 by decide), q_up_c (show (84 : Int) ≠ 98 by decide)]
  · rw [q_up_f (by decide), q_up_f (by decide), q_up_f (by decide), q_up_f (by decide), q_up_f (by decide)]
  · refine u_fM_tr (u_fM_tr (u_fM_tr (u_fM_tr (u_fM_up ?_) (u_fM_up ?_)) (u_fM_up ?_)) (u_fM_up ?_)) (u_fM_up ?_) <;> exact Or.inr (Or.inr (Or.inr (Or.inr ⟨by decide, by unfold u_oM; omega⟩)))
end letl
