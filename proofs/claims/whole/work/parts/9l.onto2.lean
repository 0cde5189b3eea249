/-! THE PARSER: an onto line, in both, whole -/
section ontol2
variable {T : Int → Int} {n t bk V d k a b w W : Int} {f e : Int → Int} {l l' mc mm mc' mm' : q_Mem}
theorem u_onto (htL : t ∈ q_Lp) (hb : bk = 0 ∨ bk = 1) (h : u_I T n t bk V f e l mc mm k a b w W) (hab : a < b) : q_2 (f_Pars_ontoLine mc) (q_bd (q_pz mm 81 36 1 fun m5 =>
  q_bd (f_Mod_scan m5) fun _ m6 =>
  q_bd (f_Mod_signed (-3) 3 m6) fun v7 m8 =>
  q_wr m8 90 2 bk v7 fun m9 =>
  if q_w (m9 81 28) = 0 then (q_bd (f_Mod_scan m9) fun _ m10 =>
  f_Mod_readLine_b141 bk m10)
  else (f_Mod_readLine_b141 bk m9)) fun _ m1 => f_Mod_need 59 m1) (u_O1 T n t bk mc mm b) := by
  have ht := u_Lp htL
  obtain ⟨hS, hY, ⟨d, hZ⟩, hV, hfe⟩ := h
  unfold f_Pars_ontoLine
  rw [x_pz1, x_pz1]
  have hS1 : u_S T n t bk V 0 f e l (q_up mc 25 7 1) (q_up mm 81 36 1) k a b w W := by
    refine u_S_m (u_S_c hS (q_up_f (by decide)) (q_up_f (by decide)) ⟨q_up_i (by decide), by rw [q_up_i (by decide)]; exact hS.2.1.2.1, q_up_i (by decide), q_up_i (by decide)⟩ (q_up_f (by decide)) (q_up_f (by decide)) ((u_l_fr fun c c0 c1 => q_up_f (by omega)).trans hS.2.1.2.2) (fun _ _ _ => rfl) (fun _ _ _ => rfl)) (fun i hi => q_up_i (by omega)) (fun c hc => q_up_f (by omega))
  obtain ⟨r2, mc2, r2', mm2, k2, a2, b2, es2, en2, hS2, fr2, fm2, hab2⟩ := u_S_next htL hS1
  rw [es2, x_bd, en2, x_bd]
  have fC2 : u_fC t mc mc2 := u_fC_tr (u_fC_up htL (by omega)) (u_fC_fc htL (u_fc_fr fr2))
  have fM2 : u_fM bk mm mm2 := u_fM_tr (u_fM_up (Or.inl ⟨rfl, by omega⟩)) (u_fM_fm (u_fm_fm fm2))
  have cm2 : ∀ c, c ≠ 81 → mm2 c = mm c := fun c hc => by rw [fm2.1 c hc, q_up_f hc]
  obtain ⟨v3, mc3, r3, mm3, ec3, em3, hr3, fp3, fs3, h26, hres3⟩ := u_num hS2 (lo := -3) (hi := 3) (by omega) (by omega)
  rw [ec3, x_bd, em3, x_bd, x_wr (n := 2) (by omega) (by omega) (by decide)]
  have fW : ∀ (m : q_Mem) (c v : Int), 88 ≤ c → c ≤ 91 → u_fM bk m (q_up m c bk v) := fun m c v c0 c1 => u_fM_up (Or.inr (Or.inr (Or.inr (Or.inr ⟨by omega, by unfold u_oM; omega⟩))))
  have fC3 : u_fC t mc mc3 := u_fC_tr fC2 (u_fC_fc htL (u_fc_fp fp3))
  have fM3 : u_fM bk mm mm3 := u_fM_tr fM2 (u_fM_fm (u_fm_fs fs3))
  -- the rest of the model's line where a fault stands
  have idle : ∀ (m : q_Mem) (r : Int), (1 ≤ m 81 28 ∧ m 81 28 ≤ 4) → (0 ≤ m 81 26 ∧ m 81 26 ≤ 9999) → m 90 bk = r → (-9999 ≤ r ∧ r ≤ 9999) → f_Mod_readLine_b141 bk m = some (0, q_up m 91 bk (m 81 26)) := by
    intro m r h28 h26 e90 hr
    unfold f_Mod_readLine_b141
    obtain ⟨g, hg⟩ := m_commonT (x := r) (y := m 81 26) hr (by omega) (q_up m 91 bk (m 81 26))
    have h28' : 1 ≤ q_up m 91 bk (m 81 26) 81 28 ∧ q_up m 91 bk (m 81 26) 81 28 ≤ 4 := by rw [q_up_c (by decide)]; exact h28
    have b178 : f_Mod_readLine_b178 (q_up m 91 bk (m 81 26)) = some (0, q_up m 91 bk (m 81 26)) := by
      unfold f_Mod_readLine_b178
      rw [q_w_id (x := q_up m 91 bk (m 81 26) 81 28) (by omega) (by omega), if_neg (by omega), x_rt]
    rw [m_signed2 h28 h26 (by omega) (by omega), x_bd, x_wr (n := 2) (by omega) (by omega) (by decide), x_rd (n := 2) (by omega) (by omega) (by decide), q_up_c (show (90 : Int) ≠ 91 by decide), e90, x_rd (n := 2) (by omega) (by omega) (by decide), q_up_s, hg, x_bd]
    by_cases c : q_w g = 1
    · rw [if_pos c, b178]
    · rw [if_neg c, m_fail1 h28', x_bd, b178]
  rcases hres3 with ⟨ev3, hin3, e9, e45, g28, g29, k1, a1, b1, k4, a4, b4, e10, hms3, htk, hcs4, haa, hbb⟩ | ⟨ev3, F, P, hF, hFP, g28, g29⟩
  rotate_left
  · rw [ev3, x_w0, if_pos rfl, x_rz0, q_up_c (show (81 : Int) ≠ 90 by decide), q_w_id (x := mm3 81 28) (by omega) (by omega), if_neg (by omega), idle _ r3 (by rw [q_up_c (by decide)]; omega) (by rw [q_up_c (by decide)]; exact h26) (q_up_s _ _ _ _) hr3, x_bd, m_need1 (by rw [q_up_c (by decide), q_up_c (by decide)]; omega)]
    exact o2_d (Or.inr ⟨rfl, ⟨F, P, hF, hFP, by rw [q_up_c (by decide), q_up_c (by decide)]; exact g28, by rw [q_up_c (by decide), q_up_c (by decide)]; exact g29⟩, fC3, u_fM_tr fM3 (u_fM_tr (fW _ _ _ (by decide) (by decide)) (fW _ _ _ (by decide) (by decide))), by rw [q_up_c (by decide), q_up_c (by decide)]; exact h26⟩)
  obtain ⟨r4, mm4, en4, fm4, hS4⟩ := u_wrn (c := 90) (i := 2) (r := r3) htL hS2 (by decide) fp3 fs3 e45 g28 g29 hms3 htk hcs4
  rw [ev3, x_w1, if_neg (by decide), x_lt, fp3.2.2 3 (by omega), hS2.2.1.1, x_one htL, e9, x_pf, q_up_c (show (81 : Int) ≠ 90 by decide), g28, x_w0, if_pos rfl, en4, x_bd]
  have fC4 : u_fC t mc (q_up mc3 (t + 1) 2 r3) := u_fC_tr fC3 (u_fC_up htL (by omega))
  have fM4 : u_fM bk mm mm4 := u_fM_tr fM3 (u_fM_tr (fW mm3 90 r3 (by decide) (by decide)) (u_fM_fm (u_fm_fm fm4)))
  unfold f_Mod_readLine_b141
  obtain ⟨v5, mc5, r5, mm5, ec5, em5, hr5, fp5, fs5, h265, hres5⟩ := u_num hS4 (lo := -3) (hi := 3) (by omega) (by omega)
  rw [ec5, x_bd, em5, x_bd, x_wr (n := 2) (by omega) (by omega) (by decide), x_rd (n := 2) (by omega) (by omega) (by decide), q_up_c (show (90 : Int) ≠ 91 by decide), x_rd (n := 2) (by omega) (by omega) (by decide), q_up_s]
  have fC5 : u_fC t mc mc5 := u_fC_tr fC4 (u_fC_fc htL (u_fc_fp fp5))
  have fM5 : u_fM bk mm mm5 := u_fM_tr fM4 (u_fM_fm (u_fm_fs fs5))
  have g90 : mm5 90 bk = r3 := by rw [fs5.1 90 (by decide), fm4.1 90 (by decide), q_up_s]
  rw [g90]
  rcases hres5 with ⟨ev5, hin5, e95, e455, g285, g295, k6, a6, b6, k7, a7, b7, e105, hms5, htk5, hcs7, haa5, hbb5⟩ | ⟨ev5, F, P, hF, hFP, g285, g295⟩
  rotate_left
  · obtain ⟨g, hg⟩ := m_commonT (x := r3) (y := r5) hr3 hr5 (q_up mm5 91 bk r5)
    have h28' : 1 ≤ q_up mm5 91 bk r5 81 28 ∧ q_up mm5 91 bk r5 81 28 ≤ 4 := by rw [q_up_c (by decide)]; omega
    have b178 : f_Mod_readLine_b178 (q_up mm5 91 bk r5) = some (0, q_up mm5 91 bk r5) := by
      unfold f_Mod_readLine_b178
      rw [q_w_id (x := q_up mm5 91 bk r5 81 28) (by omega) (by omega), if_neg (by omega), x_rt]
    have rest : (if q_w g = 1 then (f_Mod_readLine_b178 (q_up mm5 91 bk r5)) else (q_bd (f_Mod_fail 2 (q_up mm5 91 bk r5)) fun _ m8 => f_Mod_readLine_b178 m8)) = some (0, q_up mm5 91 bk r5) := by
      by_cases c : q_w g = 1
      · rw [if_pos c, b178]
      · rw [if_neg c, m_fail1 h28', x_bd, b178]
    rw [ev5, x_w0, if_pos rfl, x_rz0, hg, x_bd, rest, x_bd, m_need1 h28']
    exact o2_d (Or.inr ⟨rfl, ⟨F, P, hF, hFP, by rw [q_up_c (by decide)]; exact g285, by rw [q_up_c (by decide)]; exact g295⟩, fC5, u_fM_tr fM5 (fW _ _ _ (by decide) (by decide)), by rw [q_up_c (by decide)]; exact h265⟩)
  have hgr := g_gcd_rg (x := max r3 (-r3)) (z := max r5 (-r5)) (by omega) (by omega)
  have c3 : q_up mc5 (t + 1) 3 r5 (t + 1) 2 = r3 := by rw [q_up_i (by decide), fp5.1 (t + 1) (by omega) (by omega), q_up_s]
  have c25 : q_up mc5 (t + 1) 3 r5 25 = mc5 25 := q_up_f (by omega)
  rw [ev5, x_w1, if_neg (by decide), x_lt, fp5.2.2 3 (by omega), hS4.2.1.1, x_one htL, e95, x_pf, x_lt, c25, fp5.2.2 3 (by omega), hS4.2.1.1, x_one htL, x_lt, x_one htL, c3, q_up_s, c_isLine (by omega) (by omega), x_bd, m_common hin3 hin5, x_bd, q_w_id (x := g_gcd (max r3 (-r3)) (max r5 (-r5))) (by omega) (by omega), x_ifb]
  have fC6 : u_fC t mc (q_up mc5 (t + 1) 3 r5) := u_fC_tr fC5 (u_fC_up htL (by omega))
  by_cases cg : g_gcd (max r3 (-r3)) (max r5 (-r5)) = 1
  rotate_left
  · rw [if_neg (fun h => cg h.2.2), c25, c_refuse, x_bd, x_rz0, if_neg cg, m_fail0 (by rw [q_up_c (by decide)]; exact g285), x_bd, q_up_c (show (81 : Int) ≠ 91 by decide), hms5.2.1.2.1, e105]
    have h28 : q_up (q_up (q_up mm5 91 bk r5) 81 28 2) 81 29 a6 81 28 = 2 := by rw [q_up_i (by decide), q_up_s]
    have b178 : f_Mod_readLine_b178 (q_up (q_up (q_up mm5 91 bk r5) 81 28 2) 81 29 a6) = some (0, q_up (q_up (q_up mm5 91 bk r5) 81 28 2) 81 29 a6) := by
      unfold f_Mod_readLine_b178
      rw [h28, if_neg (by decide), x_rt]
    rw [b178, x_bd, m_need1 (by omega)]
    refine o2_d (Or.inr ⟨rfl, ⟨2, a6, by decide, ⟨by rw [q_up_i (by decide), q_up_s], q_up_s _ _ _ _⟩, h28, q_up_s _ _ _ _⟩, u_fC_tr fC6 (u_fC_tr (u_fC_up htL (by omega)) (u_fC_up htL (by omega))), u_fM_tr fM5 (u_fM_tr (fW _ _ _ (by decide) (by decide)) (u_fM_tr (u_fM_up (Or.inl ⟨rfl, by omega⟩)) (u_fM_up (Or.inl ⟨rfl, by omega⟩)))), ?_⟩)
    rw [q_up_i (by decide), q_up_i (by decide), q_up_c (by decide)]
    exact h265
  rw [if_pos ⟨hin3, hin5, cg⟩, if_pos cg]
  unfold f_Mod_readLine_b178
  obtain ⟨r6, mm6, en6, fm6, hS6⟩ := u_wrn (c := 91) (i := 3) (r := r5) htL hS4 (by decide) fp5 fs5 e455 g285 g295 hms5 htk5 hcs7
  rw [q_up_c (show (81 : Int) ≠ 91 by decide), g285, x_w0, if_pos rfl, en6, x_bd, x_rt, x_bd]
  have fM6 : u_fM bk mm mm6 := u_fM_tr fM5 (u_fM_tr (fW mm5 91 r5 (by decide) (by decide)) (u_fM_fm (u_fm_fm fm6)))
  rcases u_S_need htL hS6 (q := 59) (by unfold v_sg; omega) with ⟨hk, mc7, r7, mm7, k8, a8, b8, ep, en, hS7, fr7, fm7, hab7⟩ | ⟨hk, ep, r7, en⟩
  · rw [ep, x_bd, x_rz1, en]
    have c7 : ∀ c, c ≠ 81 → c ≠ 90 → c ≠ 91 → mm7 c = mm c := fun c c1 c2 c3 => by rw [fm7.1 c c1, fm6.1 c c1, q_up_f c3, fs5.1 c c1, fm4.1 c c1, q_up_f c2, fs3.1 c c1, cm2 c c1]
    have g88 : mm7 90 bk = r3 := by rw [fm7.1 90 (by decide), fm6.1 90 (by decide), q_up_c (by decide)]; exact g90
    have g89 : mm7 91 bk = r5 := by rw [fm7.1 91 (by decide), fm6.1 91 (by decide), q_up_s]
    have f81 : ∀ j, 29 < j → mm7 81 j = q_up mm 81 36 1 81 j := fun j hj => by rw [fm7.2 j (by omega), fm6.2 j (by omega), q_up_c (by decide), fs5.2 j (by omega), fm4.2 j (by omega), q_up_c (by decide), fs3.2 j (by omega), fm2.2 j (by omega)]
    have f25 : ∀ j, 5 < j → j < 9 → mc7 25 j = q_up mc 25 7 1 25 j := fun j j0 j1 => by rw [fr7.1 25 (by decide), q_up_c (by omega), fp5.2.2 j (by omega), q_up_c (by omega), fp3.2.2 j (by omega), fr2.1 25 (by decide)]
    obtain ⟨y1, y2, y3, y4⟩ := hY
    refine o2_d (Or.inl ⟨rfl, V, f, e, _, k8, a8, b8, w, W, ⟨hS7, ⟨?_, ⟨?_, ?_, ?_, ?_⟩, ⟨?_, ?_, ?_, ?_, ?_⟩, ?_, ?_, ?_, ?_⟩, ⟨d, u_Z_same hV.1 hZ (fun j hj => by rw [q_up_f hj, q_up_f hj]) (fun c hc => c7 c (by omega) (by omega) (by omega))⟩, hV, hfe⟩, ?_, u_fC_tr fC6 (u_fC_fc htL (u_fc_fr fr7)), u_fM_tr fM6 (u_fM_fm (u_fm_fm fm7))⟩)
    · rw [c7 82 (by decide) (by decide) (by decide), c7 83 (by decide) (by decide) (by decide), q_up_c (by decide), q_up_c (by decide), q_up_c (by decide), q_up_c (by decide)]; exact y1
    · rw [c7 88 (by decide) (by decide) (by decide), q_up_i (by decide), q_up_i (by decide)]; exact y2.1
    · rw [c7 89 (by decide) (by decide) (by decide), q_up_i (by decide), q_up_i (by decide)]; exact y2.2.1
    · rw [g88, q_up_i (by decide), q_up_s]
    · rw [g89, q_up_s]
    · rw [q_up_i (by decide), q_up_i (by decide)]; exact y3.1
    · rw [q_up_i (by decide), q_up_i (by decide)]; exact y3.2.1
    · rw [q_up_s, q_up_i (by decide), q_up_s]; exact ⟨hin3, hin5, cg⟩
    · rw [q_up_i (by decide), q_up_i (by decide)]; exact y3.2.2.2.1
    · rw [q_up_i (by decide), q_up_i (by decide)]; exact y3.2.2.2.2
    · rw [f25 6 (by decide) (by decide), f81 35 (by decide), q_up_i (by decide), q_up_i (by decide)]; exact y4.1
    · rw [f25 7 (by decide) (by decide), f81 36 (by decide), q_up_s, q_up_s]
    · rw [f25 6 (by decide) (by decide), q_up_i (by decide)]; exact y4.2.2.1
    · rw [f25 7 (by decide) (by decide), q_up_s]; exact Or.inr rfl
    · have := hS2.1.1.2.2.1.1
      have := htk.1
      have := hS4.1.1.2.2.1.1
      have := htk5.1
      have := hS6.1.1.2.2.1.1
      omega
  · rw [ep, x_bd, x_rz0, en]
    refine o2_d (Or.inr ⟨rfl, ⟨1, a7, by decide, ⟨by rw [q_up_i (by decide), q_up_s], q_up_s _ _ _ _⟩, by rw [q_up_i (by decide), q_up_s], q_up_s _ _ _ _⟩, u_fC_tr fC6 (u_fC_tr (u_fC_up htL (by omega)) (u_fC_up htL (by omega))), u_fM_tr fM6 (u_fM_tr (u_fM_up (Or.inl ⟨rfl, by omega⟩)) (u_fM_up (Or.inl ⟨rfl, by omega⟩))), ?_⟩)
    rw [q_up_i (by decide), q_up_i (by decide)]
    exact hS6.1.2.1.2.2.2.2
end ontol2
