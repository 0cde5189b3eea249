/-! THE PARSER: a let line, in both, whole -/
def u_I (T : Int → Int) (n t bk V : Int) (f e : Int → Int) (l mc mm : q_Mem) (k a b w W : Int) : Prop := u_S T n t bk V 0 f e l mc mm k a b w W ∧ u_Y bk l mc mm ∧ (∃ d, u_Z V d bk l mm) ∧ (0 ≤ V ∧ V ≤ 3) ∧ ∀ j, 0 ≤ j → j < V → 0 ≤ f j ∧ f j ≤ e j ∧ e j ≤ 800
def u_O1 (T : Int → Int) (n t bk : Int) (mc mm : q_Mem) (b v : Int) (mc' mm' : q_Mem) : Prop := (v = 1 ∧ ∃ V f e l k' a' b' w W, u_I T n t bk V f e l mc' mm' k' a' b' w W ∧ b ≤ a' ∧ u_fC t mc mc' ∧ u_fM bk mm mm') ∨ (v = 0 ∧ u_FL t bk mc mm mc' mm')
section let5
variable {T : Int → Int} {n t bk V k a b w W : Int} {f e : Int → Int} {l mc mm : q_Mem}
theorem u_Y_kp {l' mc' mm' : q_Mem} (h : u_Y bk l mc mm) (h' : u_kp t bk l mc mm l' mc' mm') : u_Y bk l' mc' mm' := by
  obtain ⟨⟨a1, a2, a3⟩, ⟨b1, b2⟩, c1, ⟨d1, d2⟩, _, _⟩ := h'
  unfold u_Y at *
  rw [a1, a2, a3, b1, b2, d1, d2, c1 82 (by omega), c1 83 (by omega), c1 88 (by omega), c1 89 (by omega), c1 90 (by omega), c1 91 (by omega)]
  exact h
theorem u_let (htL : t ∈ q_Lp) (hb : bk = 0 ∨ bk = 1) (h : u_I T n t bk V f e l mc mm k a b w W) : q_2 (f_Pars_letLine mc) (q_bd (f_Mod_readLet bk mm) fun _ m1 => f_Mod_need 59 m1) (u_O1 T n t bk mc mm b) := by
  have ht := u_Lp htL
  obtain ⟨hS, hY, ⟨d, hZ⟩, hV, hfe⟩ := h
  obtain ⟨zw, ⟨z7, z10⟩, zsg, zbd, z92, zd, zfs, z84⟩ := hZ
  have hWW := hS.2.2.2.2.1
  have W1 := hWW.1
  have W4 := hWW.2.2.2.1
  have hl := hS.2.1.2.2
  have hl2 := hS.2.2.2.2.2.1
  have ec : ∀ i, mc t i = l 0 i := fun i => by rw [← u_l_0 t mc, hl]
  have h253 := hS.2.1.1
  have hf0 := hS.1.2.2
  have hsh := hS.1.1.2.2.1.1
  have fault : ∀ (mc' mm' : q_Mem) (F P : Int), 1 ≤ F → F ≤ 4 → u_fC t mc mc' → u_fM bk mm mm' → mm' 81 28 = 0 → mm' 81 24 = P → (0 ≤ mm' 81 26 ∧ mm' 81 26 ≤ 9999) → (∃ v1 m1, f_Pars_refuse F P mc' = some (v1, m1) ∧ v1 = 0 ∧ ∃ m2, f_Mod_fail F mm' = some (0, m2) ∧ (1 ≤ m2 81 28 ∧ m2 81 28 ≤ 4) ∧ u_FL t bk mc mm m1 m2) := by
    intro mc' mm' F P f1 f4 g1 g2 g3 g4 g5
    refine ⟨0, _, c_refuse, rfl, _, m_fail0 g3, ?_, ⟨F, P, ⟨f1, f4⟩, ⟨?_, q_up_s _ _ _ _⟩, ?_, ?_⟩, u_fC_tr g1 (u_fC_tr (u_fC_up htL (by omega)) (u_fC_up htL (by omega))), u_fM_tr g2 (u_fM_tr (u_fM_up (Or.inl ⟨rfl, by omega⟩)) (u_fM_up (Or.inl ⟨rfl, by omega⟩))), ?_⟩
    · rw [q_up_i (by decide), q_up_s]; omega
    · rw [q_up_i (by decide), q_up_s]
    · rw [q_up_i (by decide), q_up_s]
    · rw [q_up_s]; exact g4
    · rw [q_up_i (by decide), q_up_i (by decide)]; exact g5
  have idle57 : ∀ m : q_Mem, (1 ≤ m 81 28 ∧ m 81 28 ≤ 4) → f_Mod_readLet_b57 bk V m = some (0, m) := by
    intro m hm
    unfold f_Mod_readLet_b57
    rw [q_w_id (x := m 81 28) (by omega) (by omega), if_neg (by omega), x_rt]
  have idle17 : ∀ m : q_Mem, (1 ≤ m 81 28 ∧ m 81 28 ≤ 4) → f_Mod_readLet_b17 bk V m = some (0, m) := by
    intro m hm
    unfold f_Mod_readLet_b17
    rw [q_w_id (x := m 81 28) (by omega) (by omega), if_neg (by omega), x_rt]
  unfold f_Pars_letLine f_Mod_readLet
  rw [x_lt, h253, x_one htL, ec 2, hl2, q_w_id (x := V) (by omega) (by omega), x_rd (n := 2) (by omega) (by omega) (by decide), z84, q_w_id (x := V) (by omega) (by omega)]
  by_cases c3 : V = 3
  · rw [if_neg (by omega), if_pos c3, hS.1.1.2.1.2.1]
    obtain ⟨v1, m1, er, ev, m2, em, hm2, hFL⟩ := fault mc mm 4 a (by decide) (by decide) (u_fC_id t mc) (u_fM_id bk mm) hf0 hS.1.2.1.2.1.2.1 hS.1.2.1.2.2.2.2
    rw [er, x_bd, ev, x_rz0, em, x_bd, idle17 m2 hm2, x_bd, m_need1 hm2]
    exact o2_d (Or.inr ⟨rfl, hFL⟩)
  rw [if_pos (by omega), if_neg c3]
  unfold f_Mod_readLet_b17
  rw [hf0, x_w0, if_pos (Int.le_refl _)]
  obtain ⟨r1, mc1, r1', mm1, k1, a1, b1, es1, en1, hS1, fr1, fm1, hab1⟩ := u_S_next htL hS
  rw [es1, x_bd, en1, x_bd]
  have fC1 : u_fC t mc mc1 := u_fC_fc htL (u_fc_fr fr1)
  have fM1 : u_fM bk mm mm1 := u_fM_fm (u_fm_fm fm1)
  obtain ⟨v3, m4, e3, em4, hv3⟩ := c_isName hS1.1.1.1 hS1.1.1.2.1 hS1.1.1.2.2.1
  obtain ⟨v2, m3, e2, em3, hv2⟩ := m_isName hS1.1.2.1.2.2.1 hS1.1.2.1.2.1 hS1.1.2.2
  rw [e3, em4, x_bd, e2, em3, x_bd]
  rcases hv3 with ⟨ev3, hRd⟩ | ⟨ev3, hRd⟩
  rotate_left
  · rcases hv2 with ⟨_, hh⟩ | ⟨ev2, _⟩
    · exact absurd hh hRd
    obtain ⟨v1, m1, er, ev, m2, em, hm2, hFL⟩ := fault mc1 mm1 1 a1 (by decide) (by decide) fC1 fM1 hS1.1.2.2 hS1.1.2.1.2.1.2.1 hS1.1.2.1.2.2.2.2
    rw [ev3, x_w0, if_pos rfl, hS1.1.1.2.1.2.1, er, x_bd, ev, x_rz0, ev2, x_w0, if_pos rfl, em, x_bd, idle57 m2 hm2, x_bd, m_need1 hm2]
    exact o2_d (Or.inr ⟨rfl, hFL⟩)
  rcases hv2 with ⟨ev2, _⟩ | ⟨_, hh⟩
  rotate_left
  · exact absurd hRd hh
  rw [ev3, x_w1, if_neg (by decide), ev2, x_w1, if_neg (by decide)]
  have ec1 : ∀ i, mc1 t i = l 0 i := fun i => by rw [← u_l_0 t mc1, hS1.2.1.2.2]
  obtain ⟨x, m6, e6, em6, hx⟩ := c_named hS1.1.1.1 hS1.1.1.2.1 hS1.1.1.2.2.1 hS1.2.1.1 htL (cnt := V) (by omega) ((ec1 2).trans hl2) (fun j j0 j1 => ⟨(hS1.2.2.1 j j0 j1).1.1, (hS1.2.2.1 j j0 j1).1.2, hfe j j0 j1⟩)
  obtain ⟨x', m5, e5, em5, hx'⟩ := m_named hS1.1.2.1.1 hS1.1.2.1.2.2.1 hS1.1.2.1.2.1 (cnt := V) (by omega) (fun j j0 j1 => ⟨(hS1.2.2.1 j j0 j1).2.1, (hS1.2.2.1 j j0 j1).2.2, hfe j j0 j1⟩)
  have exx : x' = x := v_nd_u hx' hx
  have hxr : -1 ≤ x ∧ x < 3 := by rcases hx with ⟨hx, _⟩ | ⟨hx, _⟩ <;> omega
  rw [e6, em6, x_bd, e5, em5, x_bd, exx, q_w_id (x := x) (by omega) (by omega)]
  by_cases cx : x = -1
  rotate_left
  · obtain ⟨v1, m1, er, ev, m2, em, hm2, hFL⟩ := fault mc1 mm1 3 a1 (by decide) (by decide) fC1 fM1 hS1.1.2.2 hS1.1.2.1.2.1.2.1 hS1.1.2.1.2.2.2.2
    rw [if_neg cx, hS1.1.1.2.1.2.1, er, x_bd, ev, x_rz0, if_neg (by omega), em, x_bd, idle57 m2 hm2, x_bd, m_need1 hm2]
    exact o2_d (Or.inr ⟨rfl, hFL⟩)
  rw [if_pos cx, if_pos (by omega)]
  have hn := hS1.1.1.1.2.1
  have sh1 := hS1.1.1.2.2.1.1
  -- the name
  have hS2 := u_name htL (by omega) hS1
  have cl : ∀ c, c ≠ 26 → q_up mc1 26 V a1 c = mc1 c := fun c hc => q_up_f hc
  have cl2 : ∀ c, c ≠ 26 → c ≠ 27 → q_up (q_up mc1 26 V a1) 27 V b1 c = mc1 c := fun c c1 c2 => by rw [q_up_f c2, q_up_f c1]
  have e12 : mc1 t 2 = V := (ec1 2).trans hl2
  have e124 : mc1 1 4 = b1 := hS1.1.1.2.1.2.2
  have m24 : mm1 81 24 = a1 := hS1.1.2.1.2.1.2.1
  have m23 : mm1 81 23 = b1 := hS1.1.2.1.2.1.2.2.1
  unfold f_Mod_readLet_b57
  rw [x_lt, hS1.2.1.1, x_one htL, e12, hS1.1.1.2.1.2.1, x_wr (n := 3) (by omega) (by omega) (by decide), x_lt, cl 25 (by decide), hS1.2.1.1, x_one htL, cl t (by omega), e12, cl 1 (by decide), e124, x_wr (n := 3) (by omega) (by omega) (by decide), x_lt, cl2 25 (by decide) (by decide), hS1.2.1.1, x_one htL, cl2 t (by omega) (by omega), e12, x_pf, hS1.1.2.2, x_w0, if_pos (Int.le_refl _), x_wr (n := 3) (by omega) (by omega) (by decide), m24, q_up_c (show (81 : Int) ≠ 103 by decide), q_up_c (show (81 : Int) ≠ 103 by decide), m23, m24, x_wr (n := 3) (by omega) (by omega) (by decide)]
  have fC2 : u_fC t mc (q_up (q_up (q_up mc1 26 V a1) 27 V b1) t 2 (V + 1)) := u_fC_tr fC1 (u_fC_tr (u_fC_tr (u_fC_up htL (by omega)) (u_fC_up htL (by omega))) (u_fC_up htL (by omega)))
  have fM2 : u_fM bk mm (q_up (q_up mm1 103 V a1) 104 V (b1 - a1)) := u_fM_tr fM1 (u_fM_tr (u_fM_up (Or.inr (Or.inl rfl))) (u_fM_up (Or.inr (Or.inr (Or.inl rfl)))))
  have g25 : q_up (q_up (q_up mc1 26 V a1) 27 V b1) t 2 (V + 1) 25 = mc 25 := by rw [q_up_f (by omega), q_up_f (by decide), q_up_f (by decide), fr1.1 25 (by decide)]
  have cm2 : ∀ c, c ≠ 81 → c ≠ 103 → c ≠ 104 → q_up (q_up mm1 103 V a1) 104 V (b1 - a1) c = mm c := fun c c0 c1 c2 => by rw [q_up_f c2, q_up_f c1, fm1.1 c c0]
  have f81 : ∀ i, 27 < i → q_up (q_up mm1 103 V a1) 104 V (b1 - a1) 81 i = mm 81 i := fun i hi => by rw [q_up_c (by decide), q_up_c (by decide), fm1.2 i (by omega)]
  revert hS2 fC2 fM2 g25 cm2 f81
  generalize q_up (q_up (q_up mc1 26 V a1) 27 V b1) t 2 (V + 1) = mc2
  generalize q_up (q_up mm1 103 V a1) 104 V (b1 - a1) = mm2
  intro hS2 fC2 fM2 g25 cm2 f81
  have hfe2 : ∀ j, 0 ≤ j → j < V + 1 → 0 ≤ (fun j => if j = V then a1 else f j) j ∧ (fun j => if j = V then a1 else f j) j ≤ (fun j => if j = V then b1 else e j) j ∧ (fun j => if j = V then b1 else e j) j ≤ 800 := by
    intro j j0 j1
    dsimp only
    by_cases c : j = V
    · rw [if_pos c, if_pos c]; omega
    · rw [if_neg c, if_neg c]; exact hfe j j0 (by omega)
  revert hS2 hfe2
  generalize (fun j => if j = V then a1 else f j) = f2
  generalize (fun j => if j = V then b1 else e j) = e2'
  intro hS2 hfe2
  obtain ⟨r3, mc3, r3', mm3, k3, a3, b3, es3, en3, hS3, fr3, fm3, hab3⟩ := u_S_next htL hS2
  rw [es3, x_bd, en3, x_bd]
  have fC3 : u_fC t mc mc3 := u_fC_tr fC2 (u_fC_fc htL (u_fc_fr fr3))
  have fM3 : u_fM bk mm mm3 := u_fM_tr fM2 (u_fM_fm (u_fm_fm fm3))
  have cm3 : ∀ c, c ≠ 81 → c ≠ 103 → c ≠ 104 → mm3 c = mm c := fun c c0 c1 c2 => by rw [fm3.1 c c0, cm2 c c0 c1 c2]
  rcases u_S_need htL hS3 (q := 61) (by unfold v_sg; omega) with ⟨hk4, mc4, r4, mm4, k4, a4, b4, ep4, en4, hS4, fr4, fm4, hab4⟩ | ⟨hk4, ep4, r4, en4⟩
  rotate_left
  · rw [ep4, x_bd, x_w0, if_pos rfl, x_rz0, en4, x_bd]
    have h28 : q_up (q_up mm3 81 28 1) 81 29 a3 81 28 = 1 := by rw [q_up_i (by decide), q_up_s]
    have h29 : q_up (q_up mm3 81 28 1) 81 29 a3 81 29 = a3 := q_up_s _ _ _ _
    have h26 : q_up (q_up mm3 81 28 1) 81 29 a3 81 26 = mm3 81 26 := by rw [q_up_i (by decide), q_up_i (by decide)]
    rw [m_formula1 (by omega), x_bd]
    obtain ⟨m', eF, c81, fMF⟩ := m_letF (m := q_up (q_up (q_up (q_up mm3 81 28 1) 81 29 a3) 81 38 0) 81 39 0) (V := V) hb (by omega) (by rw [q_up_i (by decide), q_up_i (by decide), h28]; omega) (by rw [q_up_c (by decide), q_up_c (by decide), q_up_c (by decide), q_up_c (by decide), cm3 92 (by decide) (by decide) (by decide), z92]; omega)
    rw [eF, x_bd, m_need1 (by rw [c81, q_up_i (by decide), q_up_i (by decide), h28]; omega)]
    refine o2_d (Or.inr ⟨rfl, ⟨1, a3, by decide, ⟨by rw [q_up_i (by decide), q_up_s], q_up_s _ _ _ _⟩, by rw [c81, q_up_i (by decide), q_up_i (by decide)]; exact h28, by rw [c81, q_up_i (by decide), q_up_i (by decide)]; exact h29⟩, u_fC_tr fC3 (u_fC_tr (u_fC_up htL (by omega)) (u_fC_up htL (by omega))), ?_, ?_⟩)
    · exact u_fM_tr fM3 (u_fM_tr (u_fM_tr (u_fM_tr (u_fM_tr (u_fM_up (Or.inl ⟨rfl, by omega⟩)) (u_fM_up (Or.inl ⟨rfl, by omega⟩))) (u_fM_up (Or.inl ⟨rfl, by omega⟩))) (u_fM_up (Or.inl ⟨rfl, by omega⟩))) fMF)
    · rw [c81, q_up_i (by decide), q_up_i (by decide), h26]; exact hS3.1.2.1.2.2.2.2
  rw [ep4, x_bd, x_w1, if_neg (by decide), en4, x_bd]
  have fC4 : u_fC t mc mc4 := u_fC_tr fC3 (u_fC_fc htL (u_fc_fr fr4))
  have fM4 : u_fM bk mm mm4 := u_fM_tr fM3 (u_fM_fm (u_fm_fm fm4))
  have cm4 : ∀ c, c ≠ 81 → c ≠ 103 → c ≠ 104 → mm4 c = mm c := fun c c0 c1 c2 => by rw [fm4.1 c c0, cm3 c c0 c1 c2]
  have eA : ∀ i, i ≠ 2 → q_up l 0 2 (V + 1) 0 i = l 0 i := fun i hi => q_up_i hi
  have eAj : ∀ j, j ≠ 0 → q_up l 0 2 (V + 1) j = l j := fun j hj => q_up_f hj
  have hP4 : u_P (V + 1) (l 0 6) (q_up l 0 2 (V + 1)) [] := by
    refine ⟨by rw [eA 6 (by decide)]; omega, ?_, fun y y0 y1 => by rw [eA 6 (by decide)] at y1; omega⟩
    rw [eA 6 (by decide), show (l 0 6 - l 0 6).toNat = 0 by omega]
    exact rfl
  have hC4 : u_C bk mm4 (q_up l 0 2 (V + 1)) d (l 0 6) (q_up l 0 2 (V + 1) 0 6) := ⟨by rw [eA 6 (by decide), cm4 92 (by decide) (by decide) (by decide)]; exact z92, fun y y0 y1 => by rw [eA 6 (by decide)] at y1; omega⟩
  obtain ⟨v5, mc5, r5, mm5, ech, efo, hres⟩ := u_formula (mny := V + 1) (s := l 0 6) ⟨htL, hb, by omega, Or.inr ⟨rfl, rfl⟩, hfe2⟩ (by omega) hS4 hP4 hC4
  rw [ech, x_bd, efo, x_bd]
  rcases hres with ⟨l5, k5, a5, b5, hS5, ev5, hv5, ⟨hP5, hx5, hcnt5, hlo5, fc5, fm5⟩, hC5, hab5⟩ | ⟨ev5, hF⟩
  rotate_left
  · obtain ⟨⟨F, Q, hF1, hF2, g28, g29⟩, hF3, hF4, hF5, hF6⟩ := hF
    obtain ⟨m', eF, c81, fMF⟩ := m_letF (m := mm5) (V := V) hb (by omega) (by omega) hF5
    rw [ev5, if_pos (by decide), x_rz0, eF, x_bd, m_need1 (by rw [c81]; omega)]
    exact o2_d (Or.inr ⟨rfl, ⟨F, Q, hF1, hF2, by rw [c81]; exact g28, by rw [c81]; exact g29⟩, u_fC_tr fC4 (u_fC_fc htL hF3), u_fM_tr fM4 (u_fM_tr (u_fM_fm hF4) fMF), by rw [c81]; exact hF6⟩)
  have hW5 := hS5.2.2.2.2.1
  have W15 := hW5.1
  have W45 := hW5.2.2.2.1
  rw [q_w_id (x := v5) (by omega) (by omega), if_neg (by omega)]
  have k7 : ∀ y, y < l 0 6 → l5 7 y = l 7 y ∧ l5 8 y = l 8 y ∧ l5 9 y = l 9 y := fun y hy => by
    have := hx5.2.2.2.2.1 y (by rw [eA 6 (by decide)]; exact hy)
    rw [eAj 7 (by decide), eAj 8 (by decide), eAj 9 (by decide)] at this
    exact this
  have k4' : ∀ r, r < l 0 4 → l5 4 r = l 4 r ∧ l5 5 r = l 5 r ∧ l5 6 r = l 6 r := fun r hr => by
    have := hx5.2.2.2.2.2.1 r (by rw [eA 4 (by decide)]; exact hr)
    rw [eAj 4 (by decide), eAj 5 (by decide), eAj 6 (by decide)] at this
    exact this
  have k10 : l5 10 = l 10 := hx5.2.2.1.trans (eAj 10 (by decide))
  have k04 : l 0 4 ≤ l5 0 4 := by have := hx5.2.2.2.1.2.1; rw [eA 4 (by decide)] at this; exact this
  have cm5 : ∀ c, (82 ≤ c ∧ c ≤ 84) ∨ (88 ≤ c ∧ c ≤ 91) ∨ c = 98 ∨ c = 99 → mm5 c = mm c := fun c hc => by rw [u_fm_cell fm5 (by omega), cm4 c (by omega) (by omega) (by omega)]
  have low : ∀ i, i < l 0 6 + d → mm5 100 (100 * bk + i) = mm 100 (100 * bk + i) := fun i hi => by rw [hlo5 i (by rw [eA 6 (by decide)]; exact hi), cm4 100 (by decide) (by decide) (by decide)]
  have hw5 : u_wf V l5 := u_wf_x zw hV.1 (fun i _ _ => by rw [k10]) (fun y hy => k7 y (by omega)) k4' k04
  have hsg5 : u_sg V bk mm5 l5 := u_sg_x (C := l 0 6 + d) zsg zw (fun v v0 v1 => by have := zbd v v0 v1; omega) (fun i _ _ => by rw [k10]) (fun y hy => k7 y (by omega)) (fun v v0 v1 => by rw [cm5 98 (by omega), cm5 99 (by omega)]; exact ⟨rfl, rfl⟩) low
  have hfs5 : f_fs mm5 bk V = l 0 6 + d := by
    rw [← z92, ← zfs]
    unfold f_fs
    rw [cm5 99 (by omega)]
  have kp5 : u_kp t bk l mc mm l5 mc5 mm5 := by
    refine ⟨⟨hx5.2.1.trans (eAj 1 (by decide)), (hx5.1 0 (by decide) (by decide) (by decide) (by decide)).trans (eA 0 (by decide)), (hx5.1 1 (by decide) (by decide) (by decide) (by decide)).trans (eA 1 (by decide))⟩, ⟨?_, ?_⟩, fun c hc => cm5 c (by omega), ⟨?_, ?_⟩, u_fC_tr fC4 (u_fC_fc htL fc5), u_fM_tr fM4 (u_fM_fm fm5)⟩
    · rw [fc5.2.2 6 (by omega), fr4.1 25 (by decide), fr3.1 25 (by decide), g25]
    · rw [fc5.2.2 7 (by omega), fr4.1 25 (by decide), fr3.1 25 (by decide), g25]
    · rw [fm5.2 35 (by omega), fm4.2 35 (by omega), fm3.2 35 (by omega), f81 35 (by decide)]
    · rw [fm5.2 36 (by omega), fm4.2 36 (by omega), fm3.2 36 (by omega), f81 36 (by decide)]
  obtain ⟨v6, mc6, r6, mm6, ec6, em6', hr6⟩ := u_edge (s0 := l 0 6) (d := d) htL hb (by omega) zd hfe2 hS5 hw5 (by rw [hx5.1 7 (by decide) (by decide) (by decide) (by decide), eA 7 (by decide)]; exact z7) (by rw [k10]; exact z10) hP5 (by have := hcnt5.1; rw [eA 6 (by decide)] at this; exact this) hC5 hsg5 (fun v v0 v1 => by rw [cm5 98 (by omega), cm5 99 (by omega)]; have := zbd v v0 v1; omega) hfs5 (by rw [cm5 84 (by omega)]; exact z84)
  refine ⟨v6, mc6, r6, mm6, ec6, em6', ?_⟩
  rcases hr6 with ⟨hv6, l6, k6, a6, b6, hS6, hZ6, hab6, kp6⟩ | ⟨hv6, hF⟩
  · have kp := u_kp_tr kp5 kp6
    refine Or.inl ⟨hv6, V + 1, f2, e2', l6, k6, a6, b6, 0, 0, ⟨hS6, u_Y_kp hY kp, hZ6, by omega, hfe2⟩, ?_, kp.2.2.2.2.1, kp.2.2.2.2.2⟩
    have := hS2.1.1.2.2.1.1
    have := hS3.1.1.2.2.1.1
    omega
  · exact Or.inr ⟨hv6, hF.1, u_fC_tr kp5.2.2.2.2.1 hF.2.1, u_fM_tr kp5.2.2.2.2.2 hF.2.2.1, hF.2.2.2⟩
end let5
