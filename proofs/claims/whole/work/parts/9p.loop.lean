/-! THE CALL loop -/
section loopl
variable {T : Int → Int} {n t bk V x z ft pl k a b w W : Int} {f e : Int → Int} {o F : Int → Int} {L X : Int → Int → Int} {l m m' mc mm : q_Mem}
theorem k_C_p (h : k_C l o m) (hy : 28 ≤ m 29 (m 28 1)) (e : ∀ c, c = 0 ∨ (m 0 1 ≤ c ∧ c ≤ m 0 1 + 10) ∨ 28 ≤ c → m' c = m c) : k_C l o m' := by
  obtain ⟨⟨h1, h2⟩, ⟨h3, h4, h5⟩, h6, h7, h8, h9⟩ := h
  have e0 : m' 0 = m 0 := e 0 (by omega)
  have e28 : m' 28 = m 28 := e 28 (by omega)
  have e29 : m' 29 = m 29 := e 29 (by omega)
  refine ⟨⟨by rw [e0]; exact h1, ?_⟩, ⟨by rw [e28]; exact h3, by rw [e28, e29]; exact h4, ?_⟩, k_web_fr h6 fun c _ _ => e c (by omega), k_plac_fr h7 fun c _ _ => e c (by omega), by rw [e 54 (by omega), e 74 (by omega)]; exact h8, by rw [e0, e 75 (by omega)]; exact h9⟩
  · rw [e0]
    refine ⟨fun i => ?_, fun j i j1 j2 => ?_⟩
    · rw [e _ (by omega)]; exact h2.1 i
    · rw [e _ (by omega)]; exact h2.2 j i j1 j2
  · intro i i0 i1
    rw [e28, e29, e _ (by omega)]
    exact h5 i i0 i1
theorem k_M_bank (hk : g_lw l) (h : k_M l o m) (e19 : m' 81 19 = m 81 19) (e : ∀ c i, 82 ≤ c → c ≤ 100 → u_oM (1 - m 81 19) c i → m' c i = m c i) (e115 : m' 115 = m 115) : k_M l o m' := by
  obtain ⟨⟨b, hb, h19, ⟨a1, a2, a3, a4, a5, a6⟩, a7, a8⟩, ⟨b', hb', h19', hv⟩, h3, h4⟩ := h
  have eb : b' = b := h19'.symm.trans h19
  subst eb
  rw [h19] at e
  have q : ∀ c, 82 ≤ c → c ≤ 92 → m' c b' = m c b' := fun c c0 c1 => e c b' c0 (by omega) (by unfold u_oM; omega)
  have r : ∀ c k, 93 ≤ c → c ≤ 97 → 0 ≤ k → k < 12 → m' c (12 * b' + k) = m c (12 * b' + k) := fun c k c0 c1 k0 k1 => e c _ (by omega) (by omega) (by unfold u_oM; omega)
  have l4 := hk.2.2.2.1
  have l5 := hk.2.2.2.2.1
  have l2 := hk.2.2.1
  refine ⟨⟨b', hb, e19.trans h19, ⟨(q 82 (by decide) (by decide)).trans a1, (q 83 (by decide) (by decide)).trans a2, (q 84 (by decide) (by decide)).trans a3, (q 85 (by decide) (by decide)).trans a4, (q 86 (by decide) (by decide)).trans a5, (q 87 (by decide) (by decide)).trans a6⟩, fun k k0 k1 => ?_, fun k k0 k1 => ?_⟩, ⟨b', hb, e19.trans h19, fun v v0 v1 => ?_⟩, by rw [e115]; exact h3, by rw [e115]; exact h4⟩
  · rw [r 96 k (by decide) (by decide) k0 (by omega), r 97 k (by decide) (by decide) k0 (by omega)]; exact a7 k k0 k1
  · rw [r 93 k (by decide) (by decide) k0 (by omega), r 94 k (by decide) (by decide) k0 (by omega), r 95 k (by decide) (by decide) k0 (by omega)]; exact a8 k k0 k1
  · have e98 : m' 98 (3 * b' + v) = m 98 (3 * b' + v) := e _ _ (by decide) (by decide) (by unfold u_oM; omega)
    have e99 : m' 99 (3 * b' + v) = m 99 (3 * b' + v) := e _ _ (by decide) (by decide) (by unfold u_oM; omega)
    have ef : f_fs m' b' v = f_fs m b' v := by
      unfold f_fs
      by_cases c : v = 0
      · rw [if_pos c, if_pos c]
      · rw [if_neg c, if_neg c]; exact e _ _ (by decide) (by decide) (by unfold u_oM; omega)
    have sg : ∀ x y s z, g_seg m l b' x y s z → g_seg m' l b' x y s z := by
      intro x y s z ⟨g1, g2, g3⟩
      refine ⟨g1, g2, fun i i0 i1 => ?_⟩
      rw [e 100 _ (by decide) (by decide) (by unfold u_oM; omega)]
      exact g3 i i0 i1
    obtain ⟨s1, s2⟩ := hv v v0 v1
    rw [ef, e98, e99]
    refine ⟨sg _ _ _ _ s1, ?_⟩
    rcases s2 with ⟨g1, g2⟩ | ⟨g1, g2, g3, g4⟩
    · exact Or.inl ⟨g1, sg _ _ _ _ g2⟩
    · refine Or.inr ⟨g1, g2, g3, ?_⟩
      rw [e 100 _ (by decide) (by decide) (by unfold u_oM; omega)]
      exact g4
theorem u_kok (h : u_I T n t bk V f e l mc mm k a b w W) : k_ok l (l 1) := by
  obtain ⟨hS, ⟨⟨_, _, y1, y2⟩, _, ⟨y3, y4, y5, y6, _⟩, _⟩, ⟨d, zw, _⟩, hV, _⟩ := h
  obtain ⟨_, _, _, _, ⟨w1, w2, w3, w4, w5, w6, w7, w8⟩, hl2, _⟩ := hS
  refine ⟨⟨y1, y2, by omega, w2, by omega, w5, w6, ?_, w8⟩, ?_, y5, y3, y4, by omega⟩
  · rw [hl2]; exact w7
  · show u_wf (l 0 2) l
    rw [hl2]
    exact zw
/-- the model, up to where the lines are read -/
theorem m_begin2 (hb : bk = 0 ∨ bk = 1) (hbk : bk = 1 - mm 81 19) (hk : j_ok l x z L F X n T) (h : j_M l x z L F X n T ft pl mm) : ∃ m8, (f_Mod_loop mm = q_bd (f_Mod_readAll bk m8) fun _ m9 =>
  q_pf m9 81 30 (m9 81 28) fun m10 =>
  q_pf m10 81 31 (m10 81 29) fun m11 =>
  if q_w (m11 81 30) ≤ 0 then (q_pf m11 81 19 bk fun m12 =>
  q_bd (f_Mod_startAnew m12) fun _ m13 =>
  q_bd (f_Mod_many m13) fun v14 m15 =>
  q_rt v14 m15)
  else (q_rt (-1) m11)) ∧ (v_M m8 T n ∧ m8 81 23 = 0 ∧ (0 ≤ m8 81 26 ∧ m8 81 26 ≤ 9999) ∧ m8 81 28 = 0 ∧ m8 81 29 = -1 ∧ m8 81 35 = 0 ∧ m8 81 36 = 0) ∧ ((m8 82 bk = 1 ∧ m8 83 bk = 1 ∧ m8 84 bk = 0 ∧ m8 85 bk = 0 ∧ m8 86 bk = 0 ∧ m8 87 bk = 0) ∧ (m8 88 bk = 1 ∧ m8 89 bk = 1 ∧ m8 90 bk = 1 ∧ m8 91 bk = 0 ∧ m8 92 bk = 0)) ∧ m8 81 21 = 0 ∧ (∀ c i, c ≠ 81 → c < 82 ∨ 92 < c ∨ i ≠ bk → m8 c i = mm c i) ∧ ∀ j, j < 21 ∨ (29 < j ∧ j < 35) ∨ 36 < j → m8 81 j = mm 81 j := by
  obtain ⟨h1, h2, h3, hW, s1, s2, s3, s4, s5⟩ := h
  unfold f_Mod_loop
  rw [x_pf, x_pf, x_pf, x_pf, x_pf, x_pz0, x_pz0, ← hbk]
  have e81 : ∀ j, q_up (q_up (q_up (q_up (q_up (q_up (q_up mm 81 22 (mm 81 21)) 81 21 0) 81 23 0) 81 28 0) 81 29 (-1)) 81 35 0) 81 36 0 81 j = if j = 36 then 0 else if j = 35 then 0 else if j = 29 then -1 else if j = 28 then 0 else if j = 23 then 0 else if j = 21 then 0 else if j = 22 then mm 81 21 else mm 81 j := by
    intro j
    simp only [q_up, if_true]
  have eo : ∀ c, c ≠ 81 → q_up (q_up (q_up (q_up (q_up (q_up (q_up mm 81 22 (mm 81 21)) 81 21 0) 81 23 0) 81 28 0) 81 29 (-1)) 81 35 0) 81 36 0 c = mm c := fun c hc => by rw [q_up_f hc, q_up_f hc, q_up_f hc, q_up_f hc, q_up_f hc, q_up_f hc, q_up_f hc]
  revert e81 eo
  generalize q_up (q_up (q_up (q_up (q_up (q_up (q_up mm 81 22 (mm 81 21)) 81 21 0) 81 23 0) 81 28 0) 81 29 (-1)) 81 35 0) 81 36 0 = s
  intro e81 eo
  obtain ⟨r8, m8, e8, f8, b8, b8'⟩ := m_clear (m := s) hb
  have g81 : ∀ j, m8 81 j = _ := fun j => (f8 81 j (by omega)).trans (e81 j)
  rw [e8, x_bd]
  refine ⟨m8, rfl, ⟨⟨(g81 22).trans s1, hk.2.2.2.1, fun i i0 i1 => ?_, hk.2.2.2.2, fun i i0 i1 => ?_⟩, g81 23, ?_, g81 28, g81 29, g81 35, g81 36⟩, ⟨b8, b8'⟩, g81 21, fun c i c0 c1 => ?_, fun j hj => ?_⟩
  · rw [f8 101 i (by omega), eo 101 (by decide)]; exact s2 i i0 i1
  · rw [f8 102 i (by omega), eo 102 (by decide)]
    have := hW i.toNat (by omega)
    rwa [Int.toNat_of_nonneg i0] at this
  · have : m8 81 26 = mm 81 26 := g81 26
    rw [this]; exact s5
  · rw [f8 c i c1, eo c c0]
  · rw [g81 j]
    rw [if_neg (by omega), if_neg (by omega), if_neg (by omega), if_neg (by omega), if_neg (by omega), if_neg (by omega), if_neg (by omega)]
theorem a_loop : j_op f_PG_loop f_Mod_loop := by
  rintro m ⟨l0, x, z, L, F, X, n, T, ft, pl, hk, hc, hm⟩
  obtain ⟨hc1, hH, hBx, h02, hT⟩ := hc
  obtain ⟨t1, t2, t3, t4, t5, t6⟩ := hT
  have h1 := hc1.1.1
  have ht1 := u_Lp h1
  obtain ⟨t, et⟩ : ∃ t, m 0 2 = t := ⟨_, rfl⟩
  have htL : t ∈ q_Lp := by
    have : t = 3 ∨ t = 14 := by omega
    rcases this with rfl | rfl <;> decide
  have ht := u_Lp htL
  obtain ⟨b0, hb0, h19, _⟩ := hm.1.1
  obtain ⟨bk, ebk⟩ : ∃ bk, bk = 1 - b0 := ⟨_, rfl⟩
  have hb : bk = 0 ∨ bk = 1 := by omega
  have hvC : v_C m T n := ⟨t1, hk.2.2.2.1, t2, hk.2.2.2.2⟩
  have hz : m (t + 10) 0 = 0 := by
    rcases ht with e | e
    · rw [e]; exact t5
    · rw [e]; exact t6
  have hgl : g_lw l0 := (j_now hk).1
  have both : ∀ mm, j_M l0 x z L F X n T ft pl mm → mm 81 19 = b0 → ∃ v mc' mm' m8, f_Pars_parse t m = some (v, mc') ∧ u_E T n t bk m m8 v mc' mm' ∧ (f_Mod_loop mm = q_pf mm' 81 30 (mm' 81 28) fun m10 =>
  q_pf m10 81 31 (m10 81 29) fun m11 =>
  if q_w (m11 81 30) ≤ 0 then (q_pf m11 81 19 bk fun m12 =>
  q_bd (f_Mod_startAnew m12) fun _ m13 =>
  q_bd (f_Mod_many m13) fun v14 m15 =>
  q_rt v14 m15)
  else (q_rt (-1) m11)) ∧ m8 81 21 = 0 ∧ (∀ c i, c ≠ 81 → c < 82 ∨ 92 < c ∨ i ≠ bk → m8 c i = mm c i) ∧ ∀ j, j < 21 ∨ (29 < j ∧ j < 35) ∨ 36 < j → m8 81 j = mm 81 j := by
    intro mm hmm h19'
    obtain ⟨m8, e8, ⟨v8, g23, g26, g28, g29, g35, g36⟩, ⟨gb, gb'⟩, g21, fr, fr81⟩ := m_begin2 (bk := bk) hb (by rw [h19']; exact ebk) hk hmm
    obtain ⟨v, mc', r, mm', e1, e2, hE⟩ := u_all htL hb hvC hz v8 g23 g26 g28 g29 g35 g36 gb gb'
    exact ⟨v, mc', mm', m8, e1, hE, by rw [e8, e2, x_bd], g21, fr, fr81⟩
  obtain ⟨v, mc', mm0, m80, ec, hE0, _⟩ := both m hm h19
  have fC : u_fC t m mc' := by
    rcases hE0 with ⟨_, _, _, _, _, _, _, _, _, g, _⟩ | g
    · exact g
    · exact g.2.1
  have hC' : ∀ c, c ≠ 1 → c ≠ 25 → c ≠ 26 → c ≠ 27 → c < t ∨ t + 10 < c → mc' c = m c := fC.1
  have e0 : mc' 0 = m 0 := hC' 0 (by decide) (by decide) (by decide) (by decide) (by omega)
  have same : ∀ mm, (∀ c, 81 ≤ c → mm c = m c) → ∃ mm' m8, u_E T n t bk m m8 v mc' mm' ∧ (f_Mod_loop mm = q_pf mm' 81 30 (mm' 81 28) fun m10 =>
  q_pf m10 81 31 (m10 81 29) fun m11 =>
  if q_w (m11 81 30) ≤ 0 then (q_pf m11 81 19 bk fun m12 =>
  q_bd (f_Mod_startAnew m12) fun _ m13 =>
  q_bd (f_Mod_many m13) fun v14 m15 =>
  q_rt v14 m15)
  else (q_rt (-1) m11)) ∧ m8 81 21 = 0 ∧ (∀ c i, c ≠ 81 → c < 82 ∨ 92 < c ∨ i ≠ bk → m8 c i = mm c i) ∧ ∀ j, j < 21 ∨ (29 < j ∧ j < 35) ∨ 36 < j → m8 81 j = mm 81 j := by
    intro mm hmm
    obtain ⟨v', mc'', mm', m8, ec', hE, rest⟩ := both mm (j_M_hi hm hmm) (by rw [hmm 81 (by decide)]; exact h19)
    have ee : (v, mc') = (v', mc'') := Option.some.inj (ec.symm.trans ec')
    have ev : v = v' := congrArg Prod.fst ee
    have em : mc' = mc'' := congrArg Prod.snd ee
    subst ev em
    exact ⟨mm', m8, hE, rest⟩
  have tC : f_PG_loop m = (if q_w (mc' 25 4) = 0 then (q_lt (m 0 2) fun v4 => q_one q_Lp v4 <|
  q_lt (m 0 1) fun v5 => q_one q_Lp v5 <|
  q_pf (q_up mc' 1 1 0) 0 2 v5 fun m6 =>
  q_pf m6 0 1 v4 fun m7 =>
  q_bd (f_PG_takeUp m7) fun _ m8 =>
  q_lt (m8 0 1) fun v9 => q_one q_Lp v9 <|
  q_rt (m8 v9 2) m8)
  else (q_rt (-1) (q_up mc' 1 1 0))) := by
    unfold f_PG_loop
    rw [x_lt, et, x_one htL, ec, x_bd, x_pf, q_up_c (show (25 : Int) ≠ 1 by decide), q_up_c (show (0 : Int) ≠ 1 by decide), q_up_c (show (0 : Int) ≠ 1 by decide), e0, et]
  rcases hE0 with ⟨V, f, e, l, a, b, w, W, hI, _, _⟩ | hFL
  · -- no fault
    have hS := hI.1
    have hl : u_l t mc' = l := hS.2.1.2.2
    have hl2 := hS.2.2.2.2.2.1
    obtain ⟨y4, y5, _⟩ := hS.2.2.2.2.2.2.2.2
    have hko := u_kok hI
    rw [y4, x_w0, if_pos rfl, x_lt, et, x_one htL, x_lt, x_one h1, x_pf, x_pf] at tC
    have g7 : ∀ c, c ≠ 0 → c ≠ 1 → q_up (q_up (q_up mc' 1 1 0) 0 2 (m 0 1)) 0 1 t c = mc' c := fun c c0 c1 => by rw [q_up_f c0, q_up_f c0, q_up_f c1]
    have g01 : q_up (q_up (q_up mc' 1 1 0) 0 2 (m 0 1)) 0 1 t 0 1 = t := q_up_s _ _ _ _
    have g02 : q_up (q_up (q_up mc' 1 1 0) 0 2 (m 0 1)) 0 1 t 0 2 = m 0 1 := by rw [q_up_i (by decide), q_up_s]
    have g11 : q_up (q_up (q_up mc' 1 1 0) 0 2 (m 0 1)) 0 1 t 1 1 = 0 := by rw [q_up_c (by decide), q_up_c (by decide), q_up_s]
    revert tC g7 g01 g02 g11
    generalize q_up (q_up (q_up mc' 1 1 0) 0 2 (m 0 1)) 0 1 t = m7
    intro tC g7 g01 g02 g11
    have h29 : m7 29 = m 29 := (g7 29 (by decide) (by decide)).trans (hC' 29 (by decide) (by decide) (by decide) (by decide) (by omega))
    have h51 : m7 51 = m 51 := (g7 51 (by decide) (by decide)).trans (hC' 51 (by decide) (by decide) (by decide) (by decide) (by omega))
    have h2 : m7 2 = m 2 := (g7 2 (by decide) (by decide)).trans (hC' 2 (by decide) (by decide) (by decide) (by decide) (by omega))
    have hz10 : mc' (t + 10) 0 = 0 := fC.2.2.trans hz
    have hTT : j_T m7 0 T 0 (-1) := by
      refine ⟨g11, by rw [h2]; exact t2, by rw [g7 25 (by decide) (by decide)]; exact y4, by rw [g7 25 (by decide) (by decide)]; exact y5, ?_, ?_⟩
      · rw [g7 13 (by decide) (by decide)]
        rcases ht with e | e
        · rw [e] at hz10; exact hz10
        · rw [hC' 13 (by decide) (by decide) (by decide) (by decide) (by omega)]; exact t5
      · rw [g7 24 (by decide) (by decide)]
        rcases ht with e | e
        · rw [hC' 24 (by decide) (by decide) (by decide) (by decide) (by omega)]; exact t6
        · rw [e] at hz10; exact hz10
    have hCL : g_CL m7 (m7 0 1) l := by
      rw [g01, ← hl]
      have := u_l_CL t mc'
      refine ⟨fun i => ?_, fun j i j0 j1 => ?_⟩
      · rw [g7 t (by omega) (by omega)]; exact this.1 i
      · rw [g7 (t + j) (by omega) (by omega)]; exact this.2 j i j0 j1
    obtain ⟨_, m8, e8, f8, g8, hj⟩ := c_takeUp (by rw [g01]; exact htL) hCL hko (by rw [h29]; exact hH.2.2.1) (by rw [h29]; exact hH.2.2.2.1) (by rw [h51]; exact hBx.1) (by rw [g01, g02]; omega) hTT
    have g8t : m8 0 1 = t := g8.trans g01
    rw [e8, x_bd, x_lt, g8t, x_one htL, x_rt] at tC
    have m82 : m8 t 2 = V := by
      have := hj.1.1.2.1 2
      rw [g8t] at this
      exact this.trans hl2
    have hi8 : ∀ c, 81 ≤ c → m8 c = m c := fun c hc => by rw [f8 c hc, g7 c (by omega) (by omega), hC' c (by omega) (by omega) (by omega) (by omega) (by omega)]
    obtain ⟨mm', m9, hE, em, g21, fr, fr81⟩ := same m8 hi8
    rcases hE with ⟨V', f', e', l', a', b', w', W', hI', _, fM⟩ | hFL
    rotate_left
    · obtain ⟨FF, PP, hF, hc', _⟩ := hFL.1
      have := hc'.1
      omega
    have el : l' = l := hI'.1.2.1.2.2.symm.trans hl
    subst el
    have eV : V' = V := hI'.1.2.2.2.2.2.1.symm.trans hl2
    subst eV
    obtain ⟨⟨⟨hcs', hms', g28⟩, _, _, hR, _, _, _, _, _, _, g29⟩, ⟨⟨u1, u2, _, _⟩, ⟨u3, u4, u5, u6⟩, ⟨_, _, _, u7, u8⟩, _⟩, ⟨d, _, _, hsg, _, _, _, _, g84⟩, hV, _⟩ := hI'
    rw [x_pf, g28, x_pf, q_up_i (show (29 : Int) ≠ 30 by decide), g29, q_up_i (show (30 : Int) ≠ 31 by decide), q_up_s, x_w0, if_pos (Int.le_refl _), x_pf] at em
    have c12 : ∀ c, c ≠ 81 → q_up (q_up (q_up mm' 81 30 0) 81 31 (-1)) 81 19 bk c = mm' c := fun c hc => by rw [q_up_f hc, q_up_f hc, q_up_f hc]
    have d12 : ∀ j, q_up (q_up (q_up mm' 81 30 0) 81 31 (-1)) 81 19 bk 81 j = if j = 19 then bk else if j = 31 then -1 else if j = 30 then 0 else mm' 81 j := fun j => by simp only [q_up, if_true]
    revert em c12 d12
    generalize q_up (q_up (q_up mm' 81 30 0) 81 31 (-1)) 81 19 bk = m12
    intro em c12 d12
    have d19 : m12 81 19 = bk := d12 19
    have hML : g_ML m12 l' := by
      refine ⟨bk, hb, d19, ⟨?_, ?_, ?_, ?_, ?_, ?_⟩, fun k k0 k1 => ?_, fun k k0 k1 => ?_⟩
      · rw [c12 82 (by decide)]; exact u1
      · rw [c12 83 (by decide)]; exact u2
      · rw [c12 84 (by decide)]; exact g84.trans hl2.symm
      · rw [c12 85 (by decide)]; exact hR.1.1
      · rw [c12 86 (by decide)]; exact hR.1.2.1
      · rw [c12 87 (by decide)]; exact hR.1.2.2
      · rw [c12 96 (by decide), c12 97 (by decide)]; exact hR.2.1 k k0 k1
      · rw [c12 93 (by decide), c12 94 (by decide), c12 95 (by decide)]; exact hR.2.2 k k0 k1
    have hMF : g_MF m12 l' := by
      refine ⟨bk, hb, d19, fun v v0 v1 => ?_⟩
      have := hsg v v0 (by omega)
      unfold g_seg f_fs at this ⊢
      rw [c12 98 (by decide), c12 99 (by decide), c12 100 (by decide)]
      exact this
    obtain ⟨_, m13, e13, f13, f13', hkM, h69, h125, h125'⟩ := m_startAnew hb d19 hML hMF (by rw [c12 88 (by decide)]; exact u3) (by rw [c12 89 (by decide)]; exact u4) (by rw [c12 90 (by decide)]; exact u5) (by rw [c12 91 (by decide)]; exact u6) u7 u8
    have k19 : m13 81 19 = bk := (f13' 19 (by decide) (by decide)).trans d19
    have eMany : f_Mod_many m13 = some (V', m13) := by
      unfold f_Mod_many
      rw [k19, x_rd (n := 2) (by omega) (by omega) (by decide), x_rt, f13 84 (by decide) (by decide) (by decide), c12 84 (by decide), g84]
    rw [e13, x_bd, eMany, x_bd, x_rt] at em
    have lo : ∀ c, c < 81 → m13 c = m8 c := by
      intro c hc
      funext i
      rw [f13 c (by omega) (by omega) (by omega), c12 c (by omega), fM.1 c i (by omega) (by omega) (by omega) (by omega) (by unfold u_oM; omega)]
      exact fr c i (by omega) (by omega)
    have hi : ∀ c, 100 < c → c ≠ 103 → c ≠ 104 → c ≠ 105 → c ≠ 115 → c ≠ 125 → m13 c = m c := by
      intro c hc c1 c2 c3 c4 c5
      funext i
      rw [f13 c (by omega) (by omega) (by omega), c12 c (by omega), fM.1 c i (by omega) (by omega) (by omega) (by omega) (by unfold u_oM; omega), fr c i (by omega) (by omega), hi8 c (by omega)]
    have hi81 : ∀ j, j < 19 ∨ j = 20 ∨ j = 21 ∨ j = 26 → m13 81 j = mm' 81 j := fun j hj => by rw [f13' j (by omega) (by omega), d12 j, if_neg (by omega), if_neg (by omega), if_neg (by omega)]
    refine ⟨_, _, m8, m13, tC, em, by rw [m82], l', 0, 0, fun _ => l' 1, fun _ => 0, fun _ => l' 1, 0, T, 0, -1, ⟨by omega, fun _ _ _ => hko, fun _ _ _ => Or.inl rfl, by omega, hk.2.2.2.2⟩, j_C_low hj lo, hkM, ⟨⟨h69.1, h69.2⟩, fun i i0 i1 => by omega, fun i i0 i1 => by omega⟩, fun k k0 k1 => ⟨?_, fun hh => absurd (show (0 : Int) = 1 from hh) (by decide)⟩, j_W_fr hm.2.2.2.1 (hi 102 (by decide) (by decide) (by decide) (by decide) (by decide) (by decide)), ?_, ?_, ?_, ?_, ?_⟩
    · have : k = 0 ∨ k = 1 := by omega
      rcases this with rfl | rfl
      · exact h125
      · exact h125'
    · rw [hi81 21 (by omega), fM.2 21 (by omega)]; exact g21
    · rw [hi 101 (by decide) (by decide) (by decide) (by decide) (by decide) (by decide)]; exact hm.2.2.2.2.2.1
    · rw [f13' 30 (by decide) (by decide)]; exact d12 30
    · rw [f13' 31 (by decide) (by decide)]; exact d12 31
    · rw [hi81 26 (by omega)]; exact hms'.2.2.2.2
  · -- a fault
    obtain ⟨FF, PP, hF, ⟨hc4, hc5⟩, _⟩ := hFL.1
    rw [hc4, q_w_id (x := FF) (by omega) (by omega), if_neg (by omega), x_rt] at tC
    have g1 : ∀ c, c ≠ 1 → q_up mc' 1 1 0 c = mc' c := fun c hc => q_up_f hc
    have hi8 : ∀ c, 81 ≤ c → q_up mc' 1 1 0 c = m c := fun c hc => by rw [g1 c (by omega), hC' c (by omega) (by omega) (by omega) (by omega) (by omega)]
    obtain ⟨mm', m9, hE, em, g21, fr, fr81⟩ := same _ hi8
    rcases hE with ⟨V', f', e', l', a', b', w', W', hI', _, _⟩ | hFL'
    · have := hI'.1.2.2.2.2.2.2.2.2.1
      omega
    obtain ⟨⟨FF', PP', hF', ⟨hc4', hc5'⟩, g28, g29⟩, _, fM, g26⟩ := hFL'
    have eF : FF' = FF := hc4'.symm.trans hc4
    have eP : PP' = PP := hc5'.symm.trans hc5
    subst eF eP
    rw [x_pf, x_pf, q_up_i (show (29 : Int) ≠ 30 by decide), g29, q_up_i (show (30 : Int) ≠ 31 by decide), q_up_s, g28, q_w_id (x := FF') (by omega) (by omega), if_neg (by omega), x_rt] at em
    have c12 : ∀ c, c ≠ 81 → q_up (q_up mm' 81 30 FF') 81 31 PP' c = mm' c := fun c hc => by rw [q_up_f hc, q_up_f hc]
    have d12 : ∀ j, q_up (q_up mm' 81 30 FF') 81 31 PP' 81 j = if j = 31 then PP' else if j = 30 then FF' else mm' 81 j := fun j => by simp only [q_up, if_true]
    revert em c12 d12
    generalize q_up (q_up mm' 81 30 FF') 81 31 PP' = m12
    intro em c12 d12
    have ou : ∀ c i, c ≠ 81 → c ≠ 103 → c ≠ 104 → c ≠ 105 → u_oM bk c i → m12 c i = q_up mc' 1 1 0 c i := by
      intro c i c0 c1 c2 c3 hu
      rw [c12 c c0, fM.1 c i c0 c1 c2 c3 hu]
      exact fr c i c0 (by unfold u_oM at hu; omega)
    have lo : ∀ c, c < 81 → m12 c = q_up mc' 1 1 0 c := fun c hc => by
      funext i
      exact ou c i (by omega) (by omega) (by omega) (by omega) (by unfold u_oM; omega)
    have hi : ∀ c, 105 < c ∨ c = 101 ∨ c = 102 → m12 c = m c := fun c hc => by
      funext i
      rw [ou c i (by omega) (by omega) (by omega) (by omega) (by unfold u_oM; omega), hi8 c (by omega)]
    have s81 : ∀ j, j < 21 ∨ 39 < j → m12 81 j = m 81 j := fun j hj => by
      rw [d12 j, if_neg (by omega), if_neg (by omega), fM.2 j (by omega), fr81 j (by omega), hi8 81 (by decide)]
    have y29 := (hH.2.2.1 (m 28 1) (by rw [hH.1.1]; exact hH.2.1.1) (by rw [hH.1.1]; have := hH.2.1; omega)).1
    refine ⟨_, _, _, m12, tC, em, rfl, l0, x, z, L, F, X, 0, T, FF', PP', ⟨hk.1, hk.2.1, hk.2.2.1, by omega, hk.2.2.2.2⟩, j_C_low (m := q_up mc' 1 1 0) ⟨?_, ?_, ?_, ?_, ?_⟩ lo, ?_, ?_, ?_, ?_, ?_, ?_, ?_, ?_, ?_⟩
    · refine k_C_p hc1 (by omega) fun c hc => ?_
      rw [g1 c (by omega)]
      exact hC' c (by omega) (by omega) (by omega) (by omega) (by omega)
    · exact j_H_fr hH fun c c0 c1 => by rw [g1 c (by omega), hC' c (by omega) (by omega) (by omega) (by omega) (by omega)]
    · exact j_B_fr hBx fun c hc => by rw [g1 c (by omega), hC' c (by omega) (by omega) (by omega) (by omega) (by omega)]
    · rw [g1 0 (by decide), e0]; exact h02
    · refine ⟨q_up_s _ _ _ _, ?_, ?_, ?_, ?_, ?_⟩
      · rw [g1 2 (by decide), hC' 2 (by decide) (by decide) (by decide) (by decide) (by omega)]; exact t2
      · rw [g1 25 (by decide)]; exact hc4
      · rw [g1 25 (by decide)]; exact hc5
      · rw [g1 13 (by decide)]
        rcases ht with e | e
        · have := fC.2.2; rw [e] at this; exact this.trans t5
        · rw [hC' 13 (by decide) (by decide) (by decide) (by decide) (by omega)]; exact t5
      · rw [g1 24 (by decide)]
        rcases ht with e | e
        · rw [hC' 24 (by decide) (by decide) (by decide) (by decide) (by omega)]; exact t6
        · have := fC.2.2; rw [e] at this; exact this.trans t6
    · refine k_M_bank hgl hm.1 (s81 19 (by omega)) (fun c i c0 c1 hu => ?_) (hi 115 (by omega))
      rw [h19, ← ebk] at hu
      rw [ou c i (by omega) (by omega) (by omega) (by omega) hu, hi8 c (by omega)]
    · exact j_HM_fr hm.2.1 (s81 69 (by omega)) (s81 70 (by omega)) (hi 123 (by omega))
    · exact j_BM_fr hm.2.2.1 (hi 124 (by omega)) (hi 125 (by omega))
    · exact j_W_fr hm.2.2.2.1 (hi 102 (by omega))
    · rw [d12 21, if_neg (by decide), if_neg (by decide), fM.2 21 (by omega)]; exact g21
    · rw [hi 101 (by omega)]; exact hm.2.2.2.2.2.1
    · exact d12 30
    · exact d12 31
    · rw [d12 26, if_neg (by decide), if_neg (by decide)]; exact g26
end loopl
