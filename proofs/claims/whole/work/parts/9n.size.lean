/-! THE PARSER: the size line, in both -/
section sizel
variable {T : Int → Int} {n t bk V ed d k a b w W : Int} {f e : Int → Int} {l l' mc mm mc' mm' : q_Mem}
theorem m_numeral2 {m : q_Mem} (hf : 1 ≤ m 81 28 ∧ m 81 28 ≤ 4) (hr : 0 ≤ m 81 26 ∧ m 81 26 ≤ 9999) {lo hi : Int} (hlo : -10 ≤ lo ∧ lo ≤ 10) (hhi : -10 ≤ hi ∧ hi ≤ 10) : ∃ r, f_Mod_numeral lo hi m = some (r, m) := by
  have b25 : ∀ x, f_Mod_numeral_b25 x m = some (x, m) := by
    intro x
    unfold f_Mod_numeral_b25
    rw [q_w_id (x := m 81 28) (by omega) (by omega), if_neg (by omega), x_rt]
  unfold f_Mod_numeral
  by_cases c : q_w (m 81 25) = 3
  · rw [if_pos c, m_signed2 hf hr hlo hhi, x_bd, b25]
    exact ⟨_, rfl⟩
  · rw [if_neg c, m_fail1 hf, x_bd, b25]
    exact ⟨_, rfl⟩
theorem u_numS (h : u_S T n t bk V ed f e l mc mm k a b w W) : ∃ v mc' r mm', f_Pars_passNumber 1 10 mc = some (v, mc') ∧ f_Mod_numeral 1 10 mm = some (r, mm') ∧ v_fp mc mc' ∧ v_fs mm mm' ∧ (0 ≤ mm' 81 26 ∧ mm' 81 26 ≤ 9999) ∧ ((v = 1 ∧ (1 ≤ r ∧ r ≤ 10) ∧ mc' 25 9 = r ∧ (mc' 25 4 = mc 25 4 ∧ mc' 25 5 = mc 25 5) ∧ mm' 81 28 = 0 ∧ mm' 81 29 = mm 81 29 ∧ ∃ k' a' b', v_tok T n b k' a' b' ∧ v_cs mc' T n k' a' b' ∧ v_ms mm' T n k' a' b') ∨ (v = 0 ∧ ∃ F P, (1 ≤ F ∧ F ≤ 4) ∧ (mc' 25 4 = F ∧ mc' 25 5 = P) ∧ mm' 81 28 = F ∧ mm' 81 29 = P)) := by
  obtain ⟨v, mc', ec, fp, k1, a1, b1, hp, hc⟩ := c_passNumber h.1.1 (lo := 1) (hi := 10) (by omega) (by omega)
  obtain ⟨r, mm', em, fs, hrg, h26, hc'⟩ := m_numeral h.1.2.1 h.1.2.2 (lo := 1) (hi := 10) (by omega) (by omega)
  rcases hp with ⟨_, q1, q2, q3⟩ | ⟨q1, _⟩
  rotate_left
  · exact absurd q1.1 (by decide)
  subst q1 q2 q3
  refine ⟨v, mc', r, mm', ec, em, fp, fs, h26, ?_⟩
  rcases hc with ⟨n4, ev, eF, eP⟩ | ⟨y4, nin, ev, eF, eP⟩ | ⟨y4, yin, ev, e45, e9, e10, k4, a4, b4, ht4, hcs4⟩
  · rcases hc' with ⟨_, gF, gP⟩ | ⟨y4', _⟩ | ⟨y4', _⟩
    · exact Or.inr ⟨ev, 1, a1, by decide, ⟨eF, eP⟩, gF, gP⟩
    · exact absurd y4' n4
    · exact absurd y4' n4
  · rcases hc' with ⟨n4', _⟩ | ⟨_, _, gF, gP⟩ | ⟨_, yin', _⟩
    · exact absurd y4 n4'
    · exact Or.inr ⟨ev, 2, a1, by decide, ⟨eF, eP⟩, gF, gP⟩
    · exact absurd yin' nin
  · rcases hc' with ⟨n4', _⟩ | ⟨_, nin', _⟩ | ⟨_, _, gF, gz, g29, k5, a5, b5, ht5, hms5⟩
    · exact absurd y4 n4'
    · exact absurd yin nin'
    · obtain ⟨q1, q2, q3⟩ := v_tok_u ht4 ht5
      subst q1 q2 q3
      exact Or.inl ⟨ev, by rw [gz]; exact yin, by rw [gz]; exact e9, e45, gF, g29, k4, a4, b4, ht4, hcs4, hms5⟩
theorem u_wrs {c i r k' a' b' : Int} (htL : t ∈ q_Lp) (h : u_S T n t bk V ed f e l mc mm k a b w W) (hc : c = 82 ∨ c = 83) (hi : i = 0 ∨ i = 1) (fp : v_fp mc mc') (fs : v_fs mm mm') (e45 : mc' 25 4 = mc 25 4 ∧ mc' 25 5 = mc 25 5) (e28 : mm' 81 28 = 0) (e29 : mm' 81 29 = mm 81 29) (hcs : v_cs mc' T n k' a' b') (hms : v_ms mm' T n k' a' b') : u_S T n t bk V ed f e (q_up l 0 i r) (q_up mc' t i r) (q_up mm' c bk r) k' a' b' w W := by
  have ht := u_Lp htL
  obtain ⟨⟨_, _, hf0⟩, ⟨h253, h258, hl⟩, hnm, hRR, hWW, hl2, e39, e38, hft⟩ := h
  have cc : ∀ d, d ≠ t → q_up mc' t i r d = mc' d := fun d hd => q_up_f hd
  have cm : ∀ d, d ≠ c → q_up mm' c bk r d = mm' d := fun d hd => q_up_f hd
  have ll : ∀ j, j ≠ 0 → j ≠ 1 → q_up l 0 i r 0 j = l 0 j := fun j j0 j1 => q_up_i (by omega)
  refine ⟨⟨v_cs_fr hcs (cc 1 (by omega)) (cc 2 (by omega)), v_ms_fr hms (fun j _ _ => by rw [cm 81 (by omega)]) (cm 101 (by omega)) (cm 102 (by omega)), by rw [cm 81 (by omega)]; exact e28⟩, ⟨by rw [cc 25 (by omega), fp.2.2 3 (by omega)]; exact h253, by rw [cc 25 (by omega), fp.2.2 8 (by omega)]; exact h258, ?_⟩, fun j j0 j1 => ?_, u_R_of hRR (by rw [cm 85 (by omega), fs.1 85 (by decide), ll 3 (by decide) (by decide)]; exact hRR.1.1) (ll 4 (by decide) (by decide)) (ll 5 (by decide) (by decide)) (fun j j0 j6 => q_up_f (by omega)) ⟨by rw [cm 86 (by omega), fs.1 86 (by decide)], by rw [cm 87 (by omega), fs.1 87 (by decide)]⟩ (fun d d0 d1 => by rw [cm d (by omega), fs.1 d (by omega)]), u_W_of hWW (ll 4 (by decide) (by decide)) (ll 5 (by decide) (by decide)) (fun j j0 j6 => q_up_f (by omega)) (by rw [ll 3 (by decide) (by decide)]; exact hWW.1) (by rw [ll 3 (by decide) (by decide), ll 6 (by decide) (by decide)]; exact hWW.2.2.2.1), by rw [ll 2 (by decide) (by decide)]; exact hl2, ?_, ?_, by rw [cc 25 (by omega)]; exact e45.1.trans hft.1, by rw [cc 25 (by omega)]; exact e45.2.trans hft.2.1, by rw [cm 81 (by omega)]; exact e29.trans hft.2.2⟩
  · rw [u_l_up0, u_l_fr (m := mc) (fun d d0 d1 => fp.1 d (by omega) (by omega)), hl]
  · rw [cc 26 (by omega), cc 27 (by omega), fp.1 26 (by decide) (by decide), fp.1 27 (by decide) (by decide), cm 103 (by omega), cm 104 (by omega), fs.1 103 (by decide), fs.1 104 (by decide)]
    exact hnm j j0 j1
  · rw [cm 81 (by omega), fs.2 39 (by omega)]; exact e39
  · rw [cm 81 (by omega), fs.2 38 (by omega)]; exact e38
theorem u_Z_size (hV : 0 ≤ V) (h : u_Z V d bk l mm) (ej : ∀ j, j ≠ 0 → l' j = l j) (e0 : ∀ i, 2 ≤ i → l' 0 i = l 0 i) (ec : ∀ c, c = 84 ∨ c = 92 ∨ (98 ≤ c ∧ c ≤ 100) → mm' c = mm c) : u_Z V d bk l' mm' := by
  obtain ⟨zw, ⟨z7, z10⟩, zsg, zbd, z92, zd, zfs, z84⟩ := h
  have e10 := ej 10 (by decide)
  have e7 : ∀ x, l' 7 x = l 7 x ∧ l' 8 x = l 8 x ∧ l' 9 x = l 9 x := fun x => by rw [ej 7 (by decide), ej 8 (by decide), ej 9 (by decide)]; exact ⟨rfl, rfl, rfl⟩
  refine ⟨u_wf_x zw hV (fun i _ _ => by rw [e10]) (fun x _ => e7 x) (fun r _ => by rw [ej 4 (by decide), ej 5 (by decide), ej 6 (by decide)]; exact ⟨rfl, rfl, rfl⟩) (by rw [e0 4 (by decide)]; omega), ⟨by rw [e0 7 (by decide)]; exact z7, by rw [e10, e0 6 (by decide)]; exact z10⟩, u_sg_x zsg zw zbd (fun i _ _ => by rw [e10]) (fun x _ => e7 x) (fun v _ _ => by rw [ec 98 (by omega), ec 99 (by omega)]; exact ⟨rfl, rfl⟩) (fun i _ => by rw [ec 100 (by omega)]), by rw [ec 98 (by omega), ec 99 (by omega), ec 92 (by omega)]; exact zbd, by rw [ec 92 (by omega), e0 6 (by decide)]; exact z92, zd, ?_, by rw [ec 84 (by omega)]; exact z84⟩
  unfold f_fs at *
  rw [ec 99 (by omega), ec 92 (by omega)]
  exact zfs
theorem u_size (htL : t ∈ q_Lp) (hb : bk = 0 ∨ bk = 1) (h : u_I T n t bk V f e l mc mm k a b w W) : ∃ v mc' mm', f_Pars_sizeLine mc = some (v, mc') ∧ (q_bd (f_Mod_isWord 0 mm) fun v2 m3 =>
  if q_w v2 = 0 then (q_bd (f_Mod_fail 1 m3) fun _ m4 =>
  f_Mod_readAll_b25 bk m4)
  else (f_Mod_readAll_b25 bk m3)) = f_Mod_readAll_l68 q_F bk mm' ∧ u_O1 T n t bk mc mm a v mc' mm' := by
  have ht := u_Lp htL
  obtain ⟨hS, hY, ⟨d, hZ⟩, hV, hfe⟩ := h
  have hcs := hS.1.1
  have hms := hS.1.2.1
  have hf0 := hS.1.2.2
  have fW : ∀ (m : q_Mem) (c v : Int), 82 ≤ c → c ≤ 83 → u_fM bk m (q_up m c bk v) := fun m c v c0 c1 => u_fM_up (Or.inr (Or.inr (Or.inr (Or.inr ⟨by omega, by unfold u_oM; omega⟩))))
  -- the rest where a fault stands
  have idle36 : ∀ m : q_Mem, (1 ≤ m 81 28 ∧ m 81 28 ≤ 4) → (0 ≤ m 81 26 ∧ m 81 26 ≤ 9999) → ∃ m', f_Mod_readAll_b36 bk m = f_Mod_readAll_l68 q_F bk m' ∧ m' 81 = m 81 ∧ u_fM bk m m' := by
    intro m h28 h26
    unfold f_Mod_readAll_b36
    obtain ⟨r1, e1⟩ := m_numeral2 h28 h26 (lo := 1) (hi := 10) (by omega) (by omega)
    have g1 : q_up m 82 bk r1 81 = m 81 := q_up_f (by decide)
    obtain ⟨r2, e2⟩ := m_numeral2 (m := q_up m 82 bk r1) (by rw [g1]; exact h28) (by rw [g1]; exact h26) (lo := 1) (hi := 10) (by omega) (by omega)
    have g2 : q_up (q_up m 82 bk r1) 83 bk r2 81 = m 81 := by rw [q_up_f (by decide), g1]
    rw [e1, x_bd, x_wr (n := 2) (by omega) (by omega) (by decide), e2, x_bd, x_wr (n := 2) (by omega) (by omega) (by decide), m_need1 (by rw [g2]; exact h28), x_bd]
    exact ⟨_, rfl, g2, u_fM_tr (fW _ _ _ (by decide) (by decide)) (fW _ _ _ (by decide) (by decide))⟩
  unfold f_Pars_sizeLine
  obtain ⟨v1, m2, e1, em2, hv1⟩ := c_isWord hcs.1 hcs.2.1 hcs.2.2.1 (s := 0) (by decide) (by decide)
  obtain ⟨v3, m4, e3, em4, hv3⟩ := m_isWord hms.2.2.1 hms.2.1 hf0 (w := 0) (by decide)
  rw [e1, em2, x_bd, e3, em4, x_bd]
  rcases hv1 with ⟨ev1, hy⟩ | ⟨ev1, hy⟩
  rotate_left
  · rcases hv3 with ⟨_, hn⟩ | ⟨ev3, _⟩
    · exact absurd hn hy
    have h28 : q_up (q_up mm 81 28 1) 81 29 a 81 28 = 1 := by rw [q_up_i (by decide), q_up_s]
    have h26 : q_up (q_up mm 81 28 1) 81 29 a 81 26 = mm 81 26 := by rw [q_up_i (by decide), q_up_i (by decide)]
    rw [ev1, x_w0, if_pos rfl, ev3, x_w0, if_pos rfl, c_refuse, x_bd, x_rz0, m_fail0 hf0, x_bd, hcs.2.1.2.1, hms.2.1.2.1]
    obtain ⟨m', ei, g81, gM⟩ := idle36 (q_up (q_up mm 81 28 1) 81 29 a) (by omega) (by rw [h26]; exact hms.2.2.2.2)
    refine ⟨0, _, m', rfl, ?_, Or.inr ⟨rfl, ⟨1, a, by decide, ⟨by rw [q_up_i (by decide), q_up_s], q_up_s _ _ _ _⟩, by rw [g81]; exact h28, by rw [g81]; exact q_up_s _ _ _ _⟩, u_fC_tr (u_fC_up htL (by omega)) (u_fC_up htL (by omega)), u_fM_tr (u_fM_tr (u_fM_up (Or.inl ⟨rfl, by omega⟩)) (u_fM_up (Or.inl ⟨rfl, by omega⟩))) gM, ?_⟩⟩
    · unfold f_Mod_readAll_b25
      rw [h28, if_neg (by decide)]
      exact ei
    · rw [g81, h26]; exact hms.2.2.2.2
  rcases hv3 with ⟨ev3, _⟩ | ⟨_, hn⟩
  rotate_left
  · exact absurd hy hn
  rw [ev1, x_w1, if_neg (by decide), ev3, x_w1, if_neg (by decide)]
  unfold f_Mod_readAll_b25
  rw [hf0, x_w0, if_pos rfl]
  obtain ⟨r2, mc2, r2', mm2, k2, a2, b2, es2, en2, hS2, fr2, fm2, hab2⟩ := u_S_next htL hS
  rw [es2, x_bd, en2, x_bd]
  have fC2 : u_fC t mc mc2 := u_fC_fc htL (u_fc_fr fr2)
  have fM2 : u_fM bk mm mm2 := u_fM_fm (u_fm_fm fm2)
  obtain ⟨v5, mc5, r5, mm5, ec5, em5, fp5, fs5, h265, hres5⟩ := u_numS hS2
  have fC5 : u_fC t mc mc5 := u_fC_tr fC2 (u_fC_fc htL (u_fc_fp fp5))
  have fM5 : u_fM bk mm mm5 := u_fM_tr fM2 (u_fM_fm (u_fm_fs fs5))
  rw [ec5, x_bd]
  rcases hres5 with ⟨ev5, hin5, e95, e455, g285, g295, k6, a6, b6, htk5, hcs6, hms6⟩ | ⟨ev5, F, P, hF, hFP, g285, g295⟩
  rotate_left
  · rw [ev5, x_w0, if_pos rfl, x_rz0]
    unfold f_Mod_readAll_b36
    rw [em5, x_bd, x_wr (n := 2) (by omega) (by omega) (by decide)]
    have g1 : q_up mm5 82 bk r5 81 = mm5 81 := q_up_f (by decide)
    obtain ⟨r6, e6⟩ := m_numeral2 (m := q_up mm5 82 bk r5) (by rw [g1]; omega) (by rw [g1]; exact h265) (lo := 1) (hi := 10) (by omega) (by omega)
    have g2 : q_up (q_up mm5 82 bk r5) 83 bk r6 81 = mm5 81 := by rw [q_up_f (by decide), g1]
    rw [e6, x_bd, x_wr (n := 2) (by omega) (by omega) (by decide), m_need1 (by rw [g2]; omega), x_bd]
    exact ⟨0, _, _, rfl, rfl, Or.inr ⟨rfl, ⟨F, P, hF, hFP, by rw [g2]; exact g285, by rw [g2]; exact g295⟩, fC5, u_fM_tr fM5 (u_fM_tr (fW _ _ _ (by decide) (by decide)) (fW _ _ _ (by decide) (by decide))), by rw [g2]; exact h265⟩⟩
  rw [ev5, x_w1, if_neg (by decide), x_lt, fp5.2.2 3 (by omega), hS2.2.1.1, x_one htL, e95, x_pf]
  unfold f_Mod_readAll_b36
  rw [em5, x_bd, x_wr (n := 2) (by omega) (by omega) (by decide)]
  have hS5 := u_wrs (c := 82) (i := 0) (r := r5) htL hS2 (Or.inl rfl) (Or.inl rfl) fp5 fs5 e455 g285 g295 hcs6 hms6
  have fC6 : u_fC t mc (q_up mc5 t 0 r5) := u_fC_tr fC5 (u_fC_up htL (by omega))
  have fM6 : u_fM bk mm (q_up mm5 82 bk r5) := u_fM_tr fM5 (fW _ _ _ (by decide) (by decide))
  obtain ⟨v7, mc7, r7, mm7, ec7, em7, fp7, fs7, h267, hres7⟩ := u_numS hS5
  have fC7 : u_fC t mc mc7 := u_fC_tr fC6 (u_fC_fc htL (u_fc_fp fp7))
  have fM7 : u_fM bk mm mm7 := u_fM_tr fM6 (u_fM_fm (u_fm_fs fs7))
  rw [ec7, x_bd, em7, x_bd, x_wr (n := 2) (by omega) (by omega) (by decide)]
  rcases hres7 with ⟨ev7, hin7, e97, e457, g287, g297, k8, a8, b8, htk7, hcs8, hms8⟩ | ⟨ev7, F, P, hF, hFP, g287, g297⟩
  rotate_left
  · have g2 : q_up mm7 83 bk r7 81 = mm7 81 := q_up_f (by decide)
    rw [ev7, x_w0, if_pos rfl, x_rz0, m_need1 (by rw [g2]; omega), x_bd]
    exact ⟨0, _, _, rfl, rfl, Or.inr ⟨rfl, ⟨F, P, hF, hFP, by rw [g2]; exact g287, by rw [g2]; exact g297⟩, fC7, u_fM_tr fM7 (fW _ _ _ (by decide) (by decide)), by rw [g2]; exact h267⟩⟩
  rw [ev7, x_w1, if_neg (by decide), x_lt, fp7.2.2 3 (by omega), hS5.2.1.1, x_one htL, e97, x_pf]
  have hS7 := u_wrs (c := 83) (i := 1) (r := r7) htL hS5 (Or.inr rfl) (Or.inr rfl) fp7 fs7 e457 g287 g297 hcs8 hms8
  have fC8 : u_fC t mc (q_up mc7 t 1 r7) := u_fC_tr fC7 (u_fC_up htL (by omega))
  have fM8 : u_fM bk mm (q_up mm7 83 bk r7) := u_fM_tr fM7 (fW _ _ _ (by decide) (by decide))
  rcases u_S_need htL hS7 (q := 59) (by unfold v_sg; omega) with ⟨hk, mc9, r9, mm9, k9, a9, b9, ep, en, hS9, fr9, fm9, hab9⟩ | ⟨hk, ep, r9, en⟩
  · rw [ep, x_bd, x_rz1, en, x_bd]
    have c9 : ∀ c, c ≠ 81 → c ≠ 82 → c ≠ 83 → mm9 c = mm c := fun c c1 c2 c3 => by rw [fm9.1 c c1, q_up_f c3, fs7.1 c c1, q_up_f c2, fs5.1 c c1, fm2.1 c c1]
    have g82 : mm9 82 bk = r5 := by rw [fm9.1 82 (by decide), q_up_c (by decide), fs7.1 82 (by decide), q_up_s]
    have g83 : mm9 83 bk = r7 := by rw [fm9.1 83 (by decide), q_up_s]
    have f81 : ∀ j, 29 < j → mm9 81 j = mm 81 j := fun j hj => by rw [fm9.2 j (by omega), q_up_c (by decide), fs7.2 j (by omega), q_up_c (by decide), fs5.2 j (by omega), fm2.2 j (by omega)]
    have f25 : ∀ j, 5 < j → j < 9 → mc9 25 j = mc 25 j := fun j j0 j1 => by rw [fr9.1 25 (by decide), q_up_c (by omega), fp7.2.2 j (by omega), q_up_c (by omega), fp5.2.2 j (by omega), fr2.1 25 (by decide)]
    have l0 : ∀ i, 2 ≤ i → q_up (q_up l 0 0 r5) 0 1 r7 0 i = l 0 i := fun i hi => by rw [q_up_i (by omega), q_up_i (by omega)]
    have lj : ∀ j, j ≠ 0 → q_up (q_up l 0 0 r5) 0 1 r7 j = l j := fun j hj => by rw [q_up_f hj, q_up_f hj]
    obtain ⟨y1, y2, y3, y4⟩ := hY
    refine ⟨1, mc9, mm9, rfl, rfl, Or.inl ⟨rfl, V, f, e, _, k9, a9, b9, w, W, ⟨hS9, ⟨?_, ?_, ?_, ?_⟩, ⟨d, u_Z_size hV.1 hZ lj l0 (fun c hc => c9 c (by omega) (by omega) (by omega))⟩, hV, hfe⟩, ?_, u_fC_tr fC8 (u_fC_fc htL (u_fc_fr fr9)), u_fM_tr fM8 (u_fM_fm (u_fm_fm fm9))⟩⟩
    · rw [g82, g83, q_up_s, q_up_i (show (0 : Int) ≠ 1 by decide), q_up_s]
      exact ⟨rfl, rfl, hin5, hin7⟩
    · rw [c9 88 (by decide) (by decide) (by decide), c9 89 (by decide) (by decide) (by decide), c9 90 (by decide) (by decide) (by decide), c9 91 (by decide) (by decide) (by decide), lj 1 (by decide)]; exact y2
    · rw [lj 1 (by decide)]; exact y3
    · rw [f25 6 (by decide) (by decide), f25 7 (by decide) (by decide), f81 35 (by decide), f81 36 (by decide)]; exact y4
    · have := hS.1.1.2.2.1.1
      have := hS2.1.1.2.2.1.1
      have := htk5.1
      have := hS5.1.1.2.2.1.1
      have := htk7.1
      have := hS7.1.1.2.2.1.1
      omega
  · rw [ep, x_bd, x_rz0, en, x_bd]
    refine ⟨0, _, _, rfl, rfl, Or.inr ⟨rfl, ⟨1, a8, by decide, ⟨by rw [q_up_i (by decide), q_up_s], q_up_s _ _ _ _⟩, by rw [q_up_i (by decide), q_up_s], q_up_s _ _ _ _⟩, u_fC_tr fC8 (u_fC_tr (u_fC_up htL (by omega)) (u_fC_up htL (by omega))), u_fM_tr fM8 (u_fM_tr (u_fM_up (Or.inl ⟨rfl, by omega⟩)) (u_fM_up (Or.inl ⟨rfl, by omega⟩))), ?_⟩⟩
    rw [q_up_i (by decide), q_up_i (by decide)]
    exact hS7.1.2.1.2.2.2.2
end sizel
