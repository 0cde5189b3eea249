/-! THE PARSER: a let line: the edge, in both -/
section let4
variable {T : Int → Int} {n t bk V d s0 k a b : Int} {f e : Int → Int} {l mc mm : q_Mem}
def u_LO (T : Int → Int) (n t bk V : Int) (f e : Int → Int) (l mc mm : q_Mem) (a v : Int) (mc' mm' : q_Mem) : Prop := (v = 1 ∧ ∃ l' k' a' b', u_S T n t bk V 0 f e l' mc' mm' k' a' b' 0 0 ∧ (∃ d', u_Z V d' bk l' mm') ∧ a ≤ a' ∧ u_kp t bk l mc mm l' mc' mm') ∨ (v = 0 ∧ u_FL t bk mc mm mc' mm')
theorem u_edge (htL : t ∈ q_Lp) (hb : bk = 0 ∨ bk = 1) (hV : 0 ≤ V ∧ V ≤ 2) (hd : 0 ≤ d ∧ d ≤ V) (hfe : ∀ j, 0 ≤ j → j < V + 1 → 0 ≤ f j ∧ f j ≤ e j ∧ e j ≤ 800) (hS : u_S T n t bk (V + 1) 0 f e l mc mm k a b 0 0) (hw : u_wf V l) (e7 : l 0 7 = 2 * V) (e0 : l 10 (2 * V) = s0) (hP : u_P (V + 1) s0 l [l 0 6 - 1]) (h01 : s0 < l 0 6) (hC : u_C bk mm l d s0 (l 0 6)) (hsg : u_sg V bk mm l) (hbd : ∀ v, 0 ≤ v → v < V → mm 98 (3 * bk + v) ≤ s0 + d ∧ mm 99 (3 * bk + v) ≤ s0 + d) (hfs : f_fs mm bk V = s0 + d) (e84 : mm 84 bk = V) : q_2 (q_lt (mc 25 3) fun v18 => q_one q_Lp v18 <|
  q_bd (f_Loop_closeFormula v18 mc) fun _ m19 =>
  q_bd (f_Tape_isWord 11 m19) fun v20 m21 =>
  q_pz m21 25 8 v20 fun m22 =>
  if q_w (m22 25 8) = 0 then (f_Pars_letLine_b200 m22)
  else (q_bd (f_Tape_step m22) fun _ m23 =>
  q_bd (f_Pars_chain 0 0 m23) fun v24 m25 =>
  if q_w v24 = (-1) then (q_rz 0 m25)
  else (f_Pars_letLine_b200 m25))) (q_bd (q_rd mm 92 2 bk fun v6 =>
  q_wr mm 98 6 ((3 * bk) + V) v6 fun m7 =>
  q_bd (f_Mod_isWord 4 m7) fun v8 m9 =>
  if q_w v8 = 0 then (q_bd (f_Mod_lay bk 0 m9) fun _ m10 =>
  f_Mod_readLet_b151 bk V m10)
  else (q_bd (f_Mod_scan m9) fun _ m11 =>
  q_bd (f_Mod_readFormula bk 0 m11) fun _ m12 =>
  f_Mod_readLet_b151 bk V m12)) fun _ m1 => f_Mod_need 59 m1) (u_LO T n t bk (V + 1) f e l mc mm a) := by
  have ht := u_Lp htL
  have hWW := hS.2.2.2.2.1
  have W1 := hWW.1
  have W4 := hWW.2.2.2.1
  have hP1 := hP.1
  have hsh := hS.1.1.2.2.1.1
  obtain ⟨mc1, ec1, hS1, fc1, e25, e1c⟩ := u_S_cf htL hS (by omega)
  obtain ⟨n1, n2, n3, n4, n5⟩ := n_cf_e l
  rw [x_lt, hS.2.1.1, x_one htL, ec1, x_bd, x_rd (n := 2) (by omega) (by omega) (by decide), x_wr (n := 6) (by omega) (by omega) (by decide)]
  have hSm : u_S T n t bk (V + 1) 0 f e (n_cf l) mc1 (q_up mm 98 (3 * bk + V) (mm 92 bk)) k a b 0 0 := u_S_m hS1 (fun i _ => q_up_c (by decide)) (fun c hc => q_up_f (by omega))
  have fm1 : u_fM bk mm (q_up mm 98 (3 * bk + V) (mm 92 bk)) := u_fM_up (Or.inr (Or.inr (Or.inr (Or.inr ⟨by decide, by unfold u_oM; omega⟩))))
  have c98 : ∀ c, c ≠ 98 → q_up mm 98 (3 * bk + V) (mm 92 bk) c = mm c := fun c hc => q_up_f hc
  have g98 : q_up mm 98 (3 * bk + V) (mm 92 bk) 98 (3 * bk + V) = l 0 6 + d := by rw [q_up_s]; exact hC.1
  have g98' : ∀ i, i ≠ 3 * bk + V → q_up mm 98 (3 * bk + V) (mm 92 bk) 98 i = mm 98 i := fun i hi => q_up_i hi
  revert hSm fm1 c98 g98 g98'
  generalize q_up mm 98 (3 * bk + V) (mm 92 bk) = mm1
  intro hSm fm1 c98 g98 g98'
  have g92 : mm1 92 bk = l 0 6 + d := by rw [c98 92 (by decide)]; exact hC.1
  refine o2_l (c_isWord hSm.1.1.1 hSm.1.1.2.1 hSm.1.1.2.2.1 (s := 11) (by decide) (by decide)) fun v20 m21 ⟨em21, hv20⟩ => ?_
  rw [em21]
  obtain ⟨v8, m9, e8, em9, hv8⟩ := m_isWord hSm.1.2.1.2.2.1 hSm.1.2.1.2.1 hSm.1.2.2 (w := 4) (by decide)
  rw [e8, em9, x_bd]
  -- the first formula stays what it is
  have hcdN : ∀ (l' mm' : q_Mem), (∀ k, k < l 0 6 → l' 7 k = l 7 k ∧ l' 8 k = l 8 k ∧ l' 9 k = l 9 k) → (∀ i, i < l 0 6 + d → mm' 100 (100 * bk + i) = mm 100 (100 * bk + i)) → u_cd bk mm' l' d s0 (l 0 6) := by
    intro l' mm' hk hm x x0 x1
    have := hk x x1
    rw [hm _ (by omega), hC.2 x x0 x1]
    unfold f_cd
    rw [this.1, this.2.1]
  rcases hv20 with ⟨ev, hy⟩ | ⟨ev, hy⟩
  · -- an edge is told
    rcases hv8 with ⟨ev8, _⟩ | ⟨_, hn⟩
    rotate_left
    · exact absurd hy hn
    rw [ev, x_pz1, q_up_s, x_w1, if_neg (by decide), ev8, x_w1, if_neg (by decide)]
    have hS2 : u_S T n t bk (V + 1) 1 f e (n_cf l) (q_up mc1 25 8 1) mm1 k a b 0 0 := u_S_c hSm (q_up_f (by decide)) (q_up_f (by decide)) ⟨q_up_i (by decide), q_up_s _ _ _ _, q_up_i (by decide), q_up_i (by decide)⟩ (q_up_f (by decide)) (q_up_f (by decide)) ((u_l_fr fun c c0 c1 => q_up_f (by omega)).trans hSm.2.1.2.2) (fun _ _ _ => rfl) (fun _ _ _ => rfl)
    obtain ⟨r3, mc3, r3', mm3, k3, a3, b3, es, en, hS3, fr3, fm3, hab3⟩ := u_S_next htL hS2
    rw [es, x_bd, en, x_bd]
    have e6 : n_cf l 0 6 = l 0 6 := n1 6 (by decide)
    have fc3 : u_fC t mc mc3 := u_fC_tr fc1 (u_fC_tr (u_fC_up htL (by omega)) (u_fC_fc htL (u_fc_fr fr3)))
    have fM3 : u_fM bk mm mm3 := u_fM_tr fm1 (u_fM_fm (u_fm_fm fm3))
    have hP3 : u_P (V + 1) (l 0 6) (n_cf l) [] := by
      refine ⟨by omega, ?_, fun x x0 x1 => by omega⟩
      rw [e6, show (l 0 6 - l 0 6).toNat = 0 by omega]
      exact rfl
    have hC3 : u_C bk mm3 (n_cf l) d (l 0 6) (n_cf l 0 6) := ⟨by rw [e6, fm3.1 92 (by decide)]; exact g92, fun x x0 x1 => by omega⟩
    obtain ⟨v4, mc4, r4, mm4, ech, efo, hres⟩ := u_formula (mny := 0) (s := l 0 6) ⟨htL, hb, by omega, Or.inl ⟨rfl, rfl⟩, hfe⟩ (by omega) hS3 hP3 hC3
    rw [ech, x_bd, efo, x_bd]
    have q6 : mc3 25 6 = mc 25 6 ∧ mc3 25 7 = mc 25 7 := by
      rw [fr3.1 25 (by decide), q_up_i (by decide), q_up_i (by decide), e25]
      exact ⟨rfl, rfl⟩
    rcases hres with ⟨l4, k4, a4, b4, hS4, ev4, hv4, ⟨hP4, hx4, hcnt4, hlo4, fc4, fm4⟩, hC4, hab4⟩ | ⟨ev4, hF⟩
    · have hW4 := hS4.2.2.2.2.1
      have W14 := hW4.1
      have W44 := hW4.2.2.2.1
      have l47 : l4 0 7 = 2 * V + 1 := by rw [hx4.1 7 (by decide) (by decide) (by decide) (by decide)]; omega
      rw [q_w_id (x := v4) (by omega) (by omega), if_neg (by omega), m_let151 hb hV, x_bd]
      have hS5 : u_S T n t bk (V + 1) 1 f e l4 mc4 (q_up (q_up mm4 99 (3 * bk + V) (mm4 92 bk)) 84 bk (mm4 84 bk + 1)) k4 a4 b4 0 0 := u_S_m hS4 (fun i _ => by rw [q_up_c (by decide), q_up_c (by decide)]) (fun c hc => by rw [q_up_f (by omega), q_up_f (by omega)])
      have fM5 : u_fM bk mm4 (q_up (q_up mm4 99 (3 * bk + V) (mm4 92 bk)) 84 bk (mm4 84 bk + 1)) := by
        refine u_fM_tr (u_fM_up ?_) (u_fM_up ?_) <;> exact Or.inr (Or.inr (Or.inr (Or.inr ⟨by decide, by unfold u_oM; omega⟩)))
      obtain ⟨v5, mc5, r5, mm5, eb, en5, hr5⟩ := u_b200 htL hS5 (by omega)
      rw [eb, en5]
      have cc45 : u_fC t mc mc4 := u_fC_tr fc3 (u_fC_fc htL fc4)
      have fM4 : u_fM bk mm mm4 := u_fM_tr fM3 (u_fM_fm fm4)
      have same : ∀ c, (82 ≤ c ∧ c ≤ 83) ∨ (88 ≤ c ∧ c ≤ 91) → q_up (q_up mm4 99 (3 * bk + V) (mm4 92 bk)) 84 bk (mm4 84 bk + 1) c = mm c := fun c hc => by rw [q_up_f (by omega), q_up_f (by omega), u_fm_cell fm4 (by omega), fm3.1 c (by omega), c98 c (by omega)]
      rcases hr5 with ⟨hv5, k5, a5, b5, hS6, fm6, hab5, kp⟩ | ⟨hv5, hF⟩
      · refine o2_d (Or.inl ⟨hv5, n_cf l4, k5, a5, b5, hS6, ?_, by have := hS3.1.1.2.2.1.1; have := hS4.1.1.2.2.1.1; omega, u_kp_tr ⟨⟨?_, ?_, ?_⟩, ⟨?_, ?_⟩, same, ⟨?_, ?_⟩, cc45, u_fM_tr fM4 fM5⟩ kp⟩)
        · obtain ⟨p1, p2, p3, p4, p5⟩ := n_cf_e l4
          have k7 : ∀ x, x < l 0 6 → n_cf l4 7 x = l 7 x ∧ n_cf l4 8 x = l 8 x ∧ n_cf l4 9 x = l 9 x := fun x hx => by
            have := hx4.2.2.2.2.1 x (by omega)
            rw [p3 7 (by decide) (by decide), p3 8 (by decide) (by decide), p3 9 (by decide) (by decide), this.1, this.2.1, this.2.2, n3 7 (by decide) (by decide), n3 8 (by decide) (by decide), n3 9 (by decide) (by decide)]
            exact ⟨rfl, rfl, rfl⟩
          have k10 : ∀ i, i ≤ 2 * V → n_cf l4 10 i = l 10 i := fun i hi => by rw [p4 i (by omega), hx4.2.2.1, n4 i (by omega)]
          have k11 : n_cf l4 10 (2 * V + 1) = l 0 6 := by rw [p4 _ (by omega), hx4.2.2.1, show 2 * V + 1 = l 0 7 + 1 by omega]; exact n5
          have k12 : n_cf l4 10 (2 * V + 2) = l4 0 6 := by rw [show 2 * V + 2 = l4 0 7 + 1 by omega]; exact p5
          have k4' : ∀ r, r < l 0 4 → n_cf l4 4 r = l 4 r ∧ n_cf l4 5 r = l 5 r ∧ n_cf l4 6 r = l 6 r := fun r hr => by
            have := hx4.2.2.2.2.2.1 r (by rw [n1 4 (by decide)]; exact hr)
            rw [p3 4 (by decide) (by decide), p3 5 (by decide) (by decide), p3 6 (by decide) (by decide), this.1, this.2.1, this.2.2, n3 4 (by decide) (by decide), n3 5 (by decide) (by decide), n3 6 (by decide) (by decide)]
            exact ⟨rfl, rfl, rfl⟩
          have m100 : mm5 100 = mm4 100 := by rw [fm6.1 100 (by decide), q_up_f (by decide), q_up_f (by decide)]
          have m98 : ∀ i, mm5 98 i = mm1 98 i := fun i => by rw [fm6.1 98 (by decide), q_up_f (by decide), q_up_f (by decide), u_fm_cell fm4 (by omega), fm3.1 98 (by decide)]
          have m99 : ∀ i, i ≠ 3 * bk + V → mm5 99 i = mm 99 i := fun i hi => by rw [fm6.1 99 (by decide), q_up_c (by decide), q_up_i hi, u_fm_cell fm4 (by omega), fm3.1 99 (by decide), c98 99 (by decide)]
          have m92 : mm5 92 bk = l4 0 6 + d := by rw [fm6.1 92 (by decide), q_up_c (by decide), q_up_c (by decide)]; exact hC4.1
          have low : ∀ i, i < l 0 6 + d → mm5 100 (100 * bk + i) = mm 100 (100 * bk + i) := fun i hi => by rw [m100, hlo4 i (by omega), fm3.1 100 (by decide), c98 100 (by decide)]
          have hsg5 : u_sg V bk mm5 (n_cf l4) := u_sg_x (C := s0 + d) hsg hw hbd (fun i _ i1 => k10 i i1) (fun x hx => k7 x (by omega)) (fun v v0 v1 => ⟨by rw [m98, g98' _ (by omega)], m99 _ (by omega)⟩) (fun i hi => low i (by omega))
          have hw5 : u_wf V (n_cf l4) := u_wf_x hw hV.1 (fun i _ i1 => k10 i i1) (fun x hx => k7 x (by omega)) k4' (by rw [p1 4 (by decide)]; have := hx4.2.2.2.1.2.1; rw [n1 4 (by decide)] at this; exact this)
          have hfs5 : f_fs mm5 bk V = s0 + d := by
            rw [← hfs]
            unfold f_fs
            by_cases c : V = 0
            · rw [if_pos c, if_pos c]
            · rw [if_neg c, if_neg c, m99 _ (by omega)]
          have k04 : n_cf l4 0 4 = l4 0 4 := p1 4 (by decide)
          refine u_Zfin hV hd hw5 (by have := hW4.2.1; omega) (by omega) ((k10 _ (Int.le_refl _)).trans e0) k11 k12 (p1 6 (by decide)) hP1.1 h01 (by omega) (by omega) ?_ (fun _ => ?_) ?_ hsg5 (fun v v0 v1 => by rw [m98, g98' _ (by omega), m99 _ (by omega)]; exact hbd v v0 v1) (by rw [m98]; exact g98) ?_ hfs5 (hcdN _ _ k7 low) (Or.inl ⟨by omega, m92, ?_⟩) ?_
          · exact f_stk_c (fun x x0 x1 => k7 x (by omega)) hP.2.1
          · refine f_stk_c (fun x _ _ => ?_) hP4.2.1
            rw [p3 7 (by decide) (by decide), p3 8 (by decide) (by decide), p3 9 (by decide) (by decide)]
            exact ⟨rfl, rfl, rfl⟩
          · intro x x0 x1
            rw [p1 6 (by decide)] at x1
            by_cases cx : x < l 0 6
            · have ek := k7 x cx
              rw [ek.1, ek.2.1]
              obtain ⟨z1, z2⟩ := hP.2.2 x x0 cx
              refine ⟨z1, fun z3 => ?_⟩
              obtain ⟨z4, z5⟩ := z2 z3
              have ek4 := k4' (l 8 x) z4.2
              rw [ek4.1, ek4.2.1, ek4.2.2, k04]
              have := hx4.2.2.2.1.2.1
              rw [n1 4 (by decide)] at this
              exact ⟨by omega, z5⟩
            · have := hP4.2.2 x (by omega) x1
              rw [p3 4 (by decide) (by decide), p3 5 (by decide) (by decide), p3 6 (by decide) (by decide), p3 7 (by decide) (by decide), p3 8 (by decide) (by decide), k04]
              exact this
          · rw [m92, fm6.1 99 (by decide), q_up_c (by decide), q_up_s]; exact hC4.1
          · intro x x0 x1
            have := hC4.2 x x0 x1
            rw [m100, this]
            unfold f_cd
            rw [p3 7 (by decide) (by decide), p3 8 (by decide) (by decide)]
          · rw [fm6.1 84 (by decide), q_up_s, u_fm_cell fm4 (by omega), fm3.1 84 (by decide), c98 84 (by decide), e84]
        · rw [hx4.2.1, n3 1 (by decide) (by decide)]
        · rw [hx4.1 0 (by decide) (by decide) (by decide) (by decide), n1 0 (by decide)]
        · rw [hx4.1 1 (by decide) (by decide) (by decide) (by decide), n1 1 (by decide)]
        · rw [fc4.2.2 6 (by omega)]; exact q6.1
        · rw [fc4.2.2 7 (by omega)]; exact q6.2
        · rw [q_up_c (by decide), q_up_c (by decide), fm4.2 35 (by omega), fm3.2 35 (by omega), c98 81 (by decide)]
        · rw [q_up_c (by decide), q_up_c (by decide), fm4.2 36 (by omega), fm3.2 36 (by omega), c98 81 (by decide)]
      · exact o2_d (Or.inr ⟨hv5, hF.1, u_fC_tr cc45 hF.2.1, u_fM_tr fM4 (u_fM_tr fM5 hF.2.2.1), hF.2.2.2⟩)
    · rw [ev4, if_pos (by decide), x_rz0, m_let151 hb hV, x_bd]
      obtain ⟨⟨F, Q, hF1, hF2, g28, g29⟩, hF3, hF4, hF5, hF6⟩ := hF
      have c81 : q_up (q_up mm4 99 (3 * bk + V) (mm4 92 bk)) 84 bk (mm4 84 bk + 1) 81 = mm4 81 := by rw [q_up_f (by decide), q_up_f (by decide)]
      have fM5 : u_fM bk mm4 (q_up (q_up mm4 99 (3 * bk + V) (mm4 92 bk)) 84 bk (mm4 84 bk + 1)) := by
        refine u_fM_tr (u_fM_up ?_) (u_fM_up ?_) <;> exact Or.inr (Or.inr (Or.inr (Or.inr ⟨by decide, by unfold u_oM; omega⟩)))
      rw [m_need1 (by rw [c81]; omega)]
      exact o2_d (Or.inr ⟨rfl, ⟨F, Q, hF1, hF2, by rw [c81]; exact g28, by rw [c81]; exact g29⟩, u_fC_tr fc3 (u_fC_fc htL hF3), u_fM_tr fM3 (u_fM_tr (u_fM_fm hF4) fM5), by rw [c81]; exact hF6⟩)
  · -- none is told
    rcases hv8 with ⟨_, hn⟩ | ⟨ev8, _⟩
    · exact absurd hn hy
    have la := m_lay (m := mm1) (v := 0) hb (C := l 0 6 + d) (by omega) g92
    rw [ev, x_pz0, q_up_s, x_w0, if_pos rfl, ev8, x_w0, if_pos rfl, la, x_bd, m_let151 hb hV, x_bd]
    have hS2 : u_S T n t bk (V + 1) 0 f e (n_cf l) (q_up mc1 25 8 0) mm1 k a b 0 0 := u_S_c hSm (q_up_f (by decide)) (q_up_f (by decide)) ⟨q_up_i (by decide), q_up_s _ _ _ _, q_up_i (by decide), q_up_i (by decide)⟩ (q_up_f (by decide)) (q_up_f (by decide)) ((u_l_fr fun c c0 c1 => q_up_f (by omega)).trans hSm.2.1.2.2) (fun _ _ _ => rfl) (fun _ _ _ => rfl)
    have ex : ∃ mm2 : q_Mem, mm2 = q_up (q_up (q_up (q_up mm1 100 (100 * bk + (l 0 6 + d)) 0) 92 bk (l 0 6 + d + 1)) 99 (3 * bk + V) (q_up (q_up mm1 100 (100 * bk + (l 0 6 + d)) 0) 92 bk (l 0 6 + d + 1) 92 bk)) 84 bk (q_up (q_up mm1 100 (100 * bk + (l 0 6 + d)) 0) 92 bk (l 0 6 + d + 1) 84 bk + 1) := ⟨_, rfl⟩
    obtain ⟨mm2, emm2⟩ := ex
    rw [← emm2]
    have cA : ∀ c, c ≠ 100 → c ≠ 92 → c ≠ 99 → c ≠ 84 → mm2 c = mm1 c := fun c c1 c2 c3 c4 => by rw [emm2, q_up_f c4, q_up_f c3, q_up_f c2, q_up_f c1]
    have c100 : mm2 100 (100 * bk + (l 0 6 + d)) = 0 := by rw [emm2, q_up_c (by decide), q_up_c (by decide), q_up_c (by decide), q_up_s]
    have c100' : ∀ i, i ≠ 100 * bk + (l 0 6 + d) → mm2 100 i = mm1 100 i := fun i hi => by rw [emm2, q_up_c (by decide), q_up_c (by decide), q_up_c (by decide), q_up_i hi]
    have c92 : mm2 92 bk = l 0 6 + d + 1 := by rw [emm2, q_up_c (by decide), q_up_c (by decide), q_up_s]
    have c99 : mm2 99 (3 * bk + V) = l 0 6 + d + 1 := by rw [emm2, q_up_c (by decide), q_up_s, q_up_s]
    have c99' : ∀ i, i ≠ 3 * bk + V → mm2 99 i = mm1 99 i := fun i hi => by rw [emm2, q_up_c (by decide), q_up_i hi, q_up_c (by decide), q_up_c (by decide)]
    have c84 : mm2 84 bk = V + 1 := by rw [emm2, q_up_s, q_up_c (by decide), q_up_c (by decide), c98 84 (by decide), e84]
    have fM2 : u_fM bk mm1 mm2 := by
      rw [emm2]
      refine u_fM_tr (u_fM_tr (u_fM_tr (u_fM_up ?_) (u_fM_up ?_)) (u_fM_up ?_)) (u_fM_up ?_) <;> exact Or.inr (Or.inr (Or.inr (Or.inr ⟨by decide, by unfold u_oM; omega⟩)))
    clear emm2 la
    have hS5 : u_S T n t bk (V + 1) 0 f e (n_cf l) (q_up mc1 25 8 0) mm2 k a b 0 0 := u_S_m hS2 (fun i _ => by rw [cA 81 (by decide) (by decide) (by decide) (by decide)]) (fun c hc => cA c (by omega) (by omega) (by omega) (by omega))
    obtain ⟨v5, mc5, r5, mm5, eb, en5, hr5⟩ := u_b200 htL hS5 (by omega)
    rw [eb, en5]
    have cc4 : u_fC t mc (q_up mc1 25 8 0) := u_fC_tr fc1 (u_fC_up htL (by omega))
    have fM4 : u_fM bk mm mm2 := u_fM_tr fm1 fM2
    rcases hr5 with ⟨hv5, k5, a5, b5, hS6, fm6, hab5, kp⟩ | ⟨hv5, hF⟩
    · refine o2_d (Or.inl ⟨hv5, n_cf (n_cf l), k5, a5, b5, hS6, ?_, by omega, u_kp_tr ⟨⟨n3 1 (by decide) (by decide), n1 0 (by decide), n1 1 (by decide)⟩, ⟨?_, ?_⟩, fun c hc => ?_, ⟨?_, ?_⟩, cc4, fM4⟩ kp⟩)
      · obtain ⟨p1, p2, p3, p4, p5⟩ := n_cf_e (n_cf l)
        have e6 : n_cf l 0 6 = l 0 6 := n1 6 (by decide)
        have k7 : ∀ x, x < l 0 6 → n_cf (n_cf l) 7 x = l 7 x ∧ n_cf (n_cf l) 8 x = l 8 x ∧ n_cf (n_cf l) 9 x = l 9 x := fun x _ => by
          rw [p3 7 (by decide) (by decide), p3 8 (by decide) (by decide), p3 9 (by decide) (by decide), n3 7 (by decide) (by decide), n3 8 (by decide) (by decide), n3 9 (by decide) (by decide)]
          exact ⟨rfl, rfl, rfl⟩
        have k10 : ∀ i, i ≤ 2 * V → n_cf (n_cf l) 10 i = l 10 i := fun i hi => by rw [p4 i (by omega), n4 i (by omega)]
        have k11 : n_cf (n_cf l) 10 (2 * V + 1) = l 0 6 := by rw [p4 _ (by omega), show 2 * V + 1 = l 0 7 + 1 by omega]; exact n5
        have k12 : n_cf (n_cf l) 10 (2 * V + 2) = l 0 6 := by rw [show 2 * V + 2 = n_cf l 0 7 + 1 by omega, p5]; exact e6
        have k4' : ∀ r, r < l 0 4 → n_cf (n_cf l) 4 r = l 4 r ∧ n_cf (n_cf l) 5 r = l 5 r ∧ n_cf (n_cf l) 6 r = l 6 r := fun r _ => by
          rw [p3 4 (by decide) (by decide), p3 5 (by decide) (by decide), p3 6 (by decide) (by decide), n3 4 (by decide) (by decide), n3 5 (by decide) (by decide), n3 6 (by decide) (by decide)]
          exact ⟨rfl, rfl, rfl⟩
        have k04 : n_cf (n_cf l) 0 4 = l 0 4 := (p1 4 (by decide)).trans (n1 4 (by decide))
        have m98 : ∀ i, mm5 98 i = mm1 98 i := fun i => by rw [fm6.1 98 (by decide), cA 98 (by decide) (by decide) (by decide) (by decide)]
        have m99 : ∀ i, i ≠ 3 * bk + V → mm5 99 i = mm 99 i := fun i hi => by rw [fm6.1 99 (by decide), c99' i hi, c98 99 (by decide)]
        have m92 : mm5 92 bk = l 0 6 + d + 1 := by rw [fm6.1 92 (by decide)]; exact c92
        have low : ∀ i, i < l 0 6 + d → mm5 100 (100 * bk + i) = mm 100 (100 * bk + i) := fun i hi => by rw [fm6.1 100 (by decide), c100' _ (by omega), c98 100 (by decide)]
        have hsg5 : u_sg V bk mm5 (n_cf (n_cf l)) := u_sg_x (C := s0 + d) hsg hw hbd (fun i _ i1 => k10 i i1) (fun x hx => k7 x (by omega)) (fun v v0 v1 => ⟨by rw [m98, g98' _ (by omega)], m99 _ (by omega)⟩) (fun i hi => low i (by omega))
        have hw5 : u_wf V (n_cf (n_cf l)) := u_wf_x hw hV.1 (fun i _ i1 => k10 i i1) (fun x hx => k7 x (by omega)) k4' (by omega)
        have hfs5 : f_fs mm5 bk V = s0 + d := by
          rw [← hfs]
          unfold f_fs
          by_cases c : V = 0
          · rw [if_pos c, if_pos c]
          · rw [if_neg c, if_neg c, m99 _ (by omega)]
        refine u_Zfin hV hd hw5 (by have := hWW.2.1; omega) (by omega) ((k10 _ (Int.le_refl _)).trans e0) k11 k12 ((p1 6 (by decide)).trans e6) hP1.1 h01 (Int.le_refl _) (by omega) ?_ (fun h => absurd h (by omega)) ?_ hsg5 (fun v v0 v1 => by rw [m98, g98' _ (by omega), m99 _ (by omega)]; exact hbd v v0 v1) (by rw [m98]; exact g98) ?_ hfs5 (hcdN _ _ k7 low) (Or.inr ⟨rfl, m92, ?_⟩) ?_
        · exact f_stk_c (fun x x0 x1 => k7 x (by omega)) hP.2.1
        · intro x x0 x1
          rw [p1 6 (by decide), e6] at x1
          have ek := k7 x x1
          rw [ek.1, ek.2.1]
          obtain ⟨z1, z2⟩ := hP.2.2 x x0 x1
          refine ⟨z1, fun z3 => ?_⟩
          obtain ⟨z4, z5⟩ := z2 z3
          have ek4 := k4' (l 8 x) z4.2
          rw [ek4.1, ek4.2.1, ek4.2.2, k04]
          exact ⟨z4, z5⟩
        · rw [m92, fm6.1 99 (by decide)]; exact c99
        · rw [fm6.1 100 (by decide)]; exact c100
        · rw [fm6.1 84 (by decide)]; exact c84
      · rw [q_up_i (by decide), e25]
      · rw [q_up_i (by decide), e25]
      · rw [cA c (by omega) (by omega) (by omega) (by omega), c98 c (by omega)]
      · rw [cA 81 (by decide) (by decide) (by decide) (by decide), c98 81 (by decide)]
      · rw [cA 81 (by decide) (by decide) (by decide) (by decide), c98 81 (by decide)]
    · exact o2_d (Or.inr ⟨hv5, hF.1, u_fC_tr cc4 hF.2.1, u_fM_tr fM4 hF.2.2.1, hF.2.2.2⟩)
end let4
