/-! THE PARSER: a unit, in both, whole -/
section unit4
variable {T : Int → Int} {n t bk V ed mny d s w : Int} {f e : Int → Int}
theorem u_unit (hst : u_st t bk V ed mny f e) (hd : 0 ≤ d ∧ d ≤ 3) (hw : 0 ≤ w ∧ w ≤ 5) {kc : Int → Int → q_Mem → q_Res} {ku kb kn : Int → q_Mem → q_Res} (hK : w ≤ 4 → ∃ kc' ku' kb' kn', kb = f_Pars_bracket_e kc' ku' kb' kn' ∧ kn = f_Pars_negated_e kc' ku' kb' kn' ∧ u_spC T n t bk V ed mny d s f e kc' 0 (w + 1) ∧ u_spU T n t bk V ed mny d s f e ku' (w + 1)) : u_spU T n t bk V ed mny d s f e (f_Pars_unit_e kc ku kb kn) w := by
  intro l mc mm k a b W j A hS hP hCd hmi hj hWb
  have hst' := hst
  obtain ⟨htL, hb, hV, hed, hfe⟩ := hst
  have hS' := hS
  obtain ⟨⟨hcs, hms, hf0⟩, ⟨h253, h258, hl⟩, hnm, hRR, hWW, hl2, e39, e38, hft⟩ := hS'
  have ht := u_Lp htL
  have ec : ∀ i, mc t i = l 0 i := fun i => by rw [← u_l_0 t mc, hl]
  have hmny : 0 ≤ mny ∧ mny ≤ V := by omega
  have W1 := hWW.1
  have W2 := hWW.2.1
  have W4 := hWW.2.2.2.1
  have hsh := hcs.2.2.1
  have hkr := hsh.2.1
  have hP1 := hP.1
  have hfm : ∀ i, 0 ≤ i → i < mny → mm 103 i = f i ∧ mm 104 i = e i - f i ∧ 0 ≤ f i ∧ f i ≤ e i ∧ e i ≤ 800 := fun i i0 i1 => ⟨(hnm i i0 (by omega)).2.1, (hnm i i0 (by omega)).2.2, hfe i i0 (by omega)⟩
  obtain ⟨x, mx, enx, emx, hx⟩ := m_named hms.1 hms.2.2.1 hms.2.1 (cnt := mny) (by omega) hfm
  obtain ⟨r, o, huf, ho, hoi, hru⟩ := m_unitHead hb hms hf0 (by omega) hRR.1.1 hRR.1.2.1 e39 W1 W2 hw hfm hx
  have cuf := c_unitFault hcs h253 htL (by omega) ((ec 2).trans hl2) (ec 3) (ec 4) h258 W1 W2 hw hed (fun i i0 i1 => ⟨(hnm i i0 i1).1.1, (hnm i i0 i1).1.2, hfe i i0 i1⟩) hx
  have hrr := v_uf_rg huf
  unfold f_Pars_unit_e
  refine o_bd cuf fun v1 m2 ⟨em2, huf'⟩ => ?_
  rw [em2, v_uf_u huf' huf, q_w_id (x := r) (by omega) (by omega)]
  by_cases cr : r = 0
  rotate_left
  · rcases hru with ⟨h0, _⟩ | ⟨_, eru⟩
    · exact absurd h0 cr
    rw [if_neg cr, c_refuse, x_bd, hcs.2.1.2.1]
    have e28 : q_up (q_up mm 81 28 r) 81 29 a 81 28 = r := by rw [q_up_i (by decide), q_up_s]
    refine o_rt (Or.inr ⟨rfl, q_up (q_up mm 81 28 r) 81 29 a, 2, ⟨⟨r, a, by omega, ⟨by rw [q_up_i (by decide), q_up_s], q_up_s _ _ _ _⟩, e28, q_up_s _ _ _ _⟩, u_fc_tr (u_fc_5 (by omega)) (u_fc_5 (by omega)), u_fm_tr (u_fm_up (Or.inl ⟨rfl, by omega⟩)) (u_fm_up (Or.inl ⟨rfl, by omega⟩)), ?_⟩, by have := hsh.1; omega, fun nn => ?_⟩)
    · rw [q_up_c (by decide), q_up_c (by decide), hCd.1, q_up_i (by decide), q_up_i (by decide)]; exact ⟨by omega, hms.2.2.2.2⟩
    · show f_Mod_readFormula_l15 (nn + 1 + 1) bk mny 1 1 mm = _
      rw [L_unit hf0, eru, x_bd, L_fail (by omega)]
  rcases hru with ⟨_, eru⟩ | ⟨h0, _⟩
  rotate_left
  · exact absurd cr h0
  rw [if_pos cr]
  have huf0 : (v_Rd T k a b ∨ v_pl T k a b) ∧ ¬ (k = 4 ∧ 999 < v_dec T a (b - a).toNat) ∧ ¬ (v_Rd T k a b ∧ x = -1) ∧ ¬ (40 ≤ l 0 3 ∨ 4 < w ∨ (v_Rd T k a b ∧ 12 ≤ l 0 4)) := by
    rcases huf with ⟨h, _⟩ | ⟨h, _⟩ | ⟨h, _⟩ | ⟨h, _⟩ | ⟨_, h1, h2, h3, h4⟩
    · omega
    · omega
    · omega
    · omega
    · exact ⟨h1, h2, h3, h4⟩
  obtain ⟨hA, hB, hCC, hD⟩ := huf0
  clear huf huf' hrr cuf
  have hu : l 0 3 < 40 := by
    have : ¬ 40 ≤ l 0 3 := fun h => hD (Or.inl h)
    omega
  have hw4 : w ≤ 4 := by
    have : ¬ 4 < w := fun h => hD (Or.inr (Or.inl h))
    omega
  obtain ⟨kc', ku', kb', kn', ekb, ekn, hC, hU⟩ := hK hw4
  subst ekb ekn
  have hab : a < b := by
    refine (hsh.2.2.2.2 ?_).2.2
    rcases hA with h | h | h | h | h | h
    · have := h.1; omega
    · omega
    · omega
    · omega
    · have := h.1; omega
    · have := h.1; omega
  have hS1 := u_units htL hS hu
  obtain ⟨n1, n2, n3⟩ := n_un_e l
  have n6 := n1 6 (by decide)
  have n4 := n1 4 (by decide)
  rw [x_lt, h253, x_one htL, x_pf, ec 3]
  have fc4 : u_fc t mc (q_up mc t 3 (l 0 3 + 1)) := u_fc_up htL (by omega)
  have fm4 : u_fm bk mm (q_up mm 85 bk (l 0 3 + 1)) := u_fm_up (Or.inr (Or.inr ⟨by decide, by unfold u_ou; omega⟩))
  have cell4 : ∀ c, c ≠ 85 → q_up mm 85 bk (l 0 3 + 1) c = mm c := fun c hc => q_up_f hc
  have b171 : f_Mod_readUnit_b171 bk mny o mm = (if q_w o = 0 then (q_bd (f_Mod_isName (q_up mm 85 bk (l 0 3 + 1))) fun v3 m4 =>
      if q_w v3 = 0 then (if q_w (m4 81 25) = 3 then (f_Mod_readUnit_b289 bk bk (m4 81 26) m4)
      else (if q_w (m4 81 27) = 5 then (f_Mod_readUnit_b289 bk bk 1000 m4)
      else (f_Mod_readUnit_b289 bk bk 1001 m4)))
      else (q_bd (f_Mod_named mny m4) fun v5 m6 =>
      q_bd (f_Mod_readRead bk v5 (mny - 1) m6) fun _ m7 =>
      f_Mod_readUnit_b296 bk m7))
      else (q_bd (f_Mod_isAt 40 (q_up mm 85 bk (l 0 3 + 1))) fun v8 m9 =>
      if q_w v8 = 0 then (f_Mod_readUnit_b213 1205 m9)
      else (f_Mod_readUnit_b213 1206 m9))) := by
    unfold f_Mod_readUnit_b171
    rw [hf0, x_w0, if_pos (Int.le_refl _), x_rd (n := 2) (by omega) (by omega) (by decide), hRR.1.1, x_wr (n := 2) (by omega) (by omega) (by decide)]
  have hLL : ∀ nn, f_Mod_readFormula_l15 (nn + 1) bk mny 1 1 mm = q_bd (f_Mod_readUnit_b171 bk mny o mm) fun v m5 => f_Mod_readFormula_l15 nn bk mny v 1 m5 := fun nn => by rw [L_unit hf0, eru]
  rw [b171] at hLL
  clear b171 eru
  revert hS1 fc4 fm4 cell4 hLL
  generalize q_up mc t 3 (l 0 3 + 1) = mc4
  generalize q_up mm 85 bk (l 0 3 + 1) = mm4
  intro hS1 fc4 fm4 cell4 hLL
  have hW4 : u_W V (n_un l) := hS1.2.2.2.2.1
  have hP4 : u_P V s (n_un l) A := u_P_ext hP hWW (n_un_x l) n6
  have g92 : mm4 92 bk = l 0 6 + d := by rw [cell4 92 (by decide)]; exact hCd.1
  have hCd4 : u_C bk mm4 (n_un l) d s (n_un l 0 6) := by
    rw [n6]
    exact ⟨g92, u_cd_ext (n_un_x l) (Int.le_refl _) hCd.2 fun _ _ _ => by rw [cell4 100 (by decide)]⟩
  have hmi4 : u_mi mm4 j W := by
    unfold u_mi at *
    rw [cell4 105 (by decide)]
    exact hmi
  have hNu : n_un l 0 6 + 1 ≤ 2 * n_un l 0 3 := by omega
  have hms4 := hS1.1.2.1
  have hf4 := hS1.1.2.2
  have hk2 : k ≠ 2 := fun e => (hsh.2.2.2.2 (by omega)).2.1 e
  have htk := v_tk_iff hkr hk2
  have e25 : mm4 81 25 = v_tk k := hms4.2.1.1
  -- what is laid for a number, i or j
  have lay : ∀ kd ct cd, (0 ≤ kd ∧ kd ≤ 2) → (kd = 0 → 0 ≤ ct ∧ ct ≤ 999) → cd = (if kd = 0 then ct else if kd = 1 then 1000 else if kd = 2 then 1001 else if kd = 3 then 1100 + ct else if kd = 4 then 1205 else kd + 1195) → (∀ nn, f_Mod_readFormula_l15 (nn + 1) bk mny 1 1 mm = q_bd (f_Mod_readUnit_b289 bk bk cd mm4) fun v m5 => f_Mod_readFormula_l15 nn bk mny v 1 m5) → q_ok (q_bd (f_Pars_leaf kd ct mc4) fun v6 m7 => q_rt v6 m7) (fun v mc' => u_oU T n t bk V ed mny d s f e A l mc mm a w W j v mc') := by
    intro kd ct cd hkd hk0 hcd hLc
    obtain ⟨mc', mm', k', a', b', el, em, hSl, ⟨m92, mcd, m1205, mlow, m105⟩, hab', fcl, fml⟩ := u_leaf htL hb hS1 g92 (by omega) (by omega) hmi4 (by omega) hNu (kd := kd) (ct := ct) (cd := cd)
    rw [el, x_bd, n6]
    refine o_rt (u_fin (lr := n_un l) hP hWW hCd (n_un_x l) hW4 n6 n2 (by omega) hk0 (fun h => by omega) hSl m92 ?_ m1205 (fun i hi => ?_) ?_ (by omega) (u_fc_tr fc4 fcl) (u_fm_tr fm4 fml) fun nn => ?_)
    · rw [mcd, hcd, f_cd_no]
    · rw [mlow i hi, cell4 100 (by decide)]
    · rw [m105, cell4 105 (by decide)]
    · rw [hLc, em, x_bd]
  have ho0 : ¬ (k = 40 ∨ k = 45) → o = 0 := fun h => by
    rcases ho with h' | h'
    · exact h'
    · exact absurd (hoi.mp h') h
  have nameN : ¬ v_Rd T k a b → f_Mod_isName mm4 = some (0, mm4) := by
    intro h
    obtain ⟨r', m', e', em', hr'⟩ := m_isName hms4.2.2.1 hms4.2.1 hf4
    rcases hr' with ⟨_, hh⟩ | ⟨er, _⟩
    · exact absurd hh h
    · rw [e', er, em']
  have nameY : v_Rd T k a b → f_Mod_isName mm4 = some (1, mm4) := by
    intro h
    obtain ⟨r', m', e', em', hr'⟩ := m_isName hms4.2.2.1 hms4.2.1 hf4
    rcases hr' with ⟨er, _⟩ | ⟨_, hh⟩
    · rw [e', er, em']
    · exact absurd h hh
  rw [hS1.1.1.2.1.1, q_w_id (x := k) (by omega) (by omega)]
  by_cases c4 : k = 4
  · rw [if_pos c4]
    have hdec : ¬ 999 < v_dec T a (b - a).toNat := fun h => hB ⟨c4, h⟩
    obtain ⟨hn1, hn10⟩ := hS1.1.1.2.2.2 c4
    have hn2 := hms4.2.2.2.1 c4
    have q1 : mc4 1 5 = v_dec T a (b - a).toNat := by
      rcases hn1 with ⟨_, h⟩ | ⟨h, _⟩
      · exact h
      · exact absurd h hdec
    have q2 : mm4 81 26 = v_dec T a (b - a).toNat := by
      rcases hn2 with ⟨_, h⟩ | ⟨h, _⟩
      · exact h
      · exact absurd h hdec
    refine lay 0 (mc4 1 5) (mm4 81 26) (by omega) (fun _ => by omega) (by rw [if_pos rfl, q1, q2]) fun nn => ?_
    rw [hLL, ho0 (by omega), x_w0, if_pos rfl, nameN (fun h => by have := h.1; omega), x_bd, x_w0, if_pos rfl, e25, q_w_id (x := v_tk k) (by omega) (by omega), if_pos (htk.2.2.2.1.mpr c4)]
  rw [if_neg c4]
  by_cases c40 : k = 40
  · rw [if_pos c40]
    have ho1 : o = 1 := hoi.mpr (Or.inl c40)
    refine o_bd (u_brack hst' hd (by omega) hC hS1 hP4 hCd4 hmi4 hj hWb c40 (n_un_x l) n6 n2 fc4 fm4 (cell4 100 (by decide)) (cell4 105 (by decide)) fun nn => ?_) fun v m' h => o_rt h
    rw [hLL, ho1, x_w1, if_neg (by decide), m_isAtE hms4 hf4 (q := 40) (by unfold v_sg; omega), x_bd, if_pos c40, x_w1, if_neg (by decide)]
  rw [if_neg c40]
  by_cases c45 : k = 45
  · rw [if_pos c45]
    have ho1 : o = 1 := hoi.mpr (Or.inr c45)
    refine o_bd (u_neg hst' hd (by omega) hU hS1 hP4 hCd4 hmi4 hj hWb c45 (n_un_x l) n6 n2 fc4 fm4 (cell4 100 (by decide)) (cell4 105 (by decide)) (by omega) fun nn => ?_) fun v m' h => o_rt h
    rw [hLL, ho1, x_w1, if_neg (by decide), m_isAtE hms4 hf4 (q := 40) (by unfold v_sg; omega), x_bd, if_neg c40, x_w0, if_pos rfl]
  rw [if_neg c45]
  have hoz := ho0 (by omega)
  rw [hoz, x_w0, if_pos rfl] at hLL
  refine o_bd (c_isWord hS1.1.1.1 hS1.1.1.2.1 hS1.1.1.2.2.1 (s := 9) (by decide) (by decide)) fun v3 m4 ⟨em4, hv3⟩ => ?_
  rw [em4]
  rcases hv3 with ⟨ev3, h3⟩ | ⟨ev3, h3⟩
  · have hi5 : v_is T a b 5 := h3.2
    have hnR : ¬ v_Rd T k a b := fun h => h.2 5 (by decide) (by decide) hi5
    have e27 : mm4 81 27 = 5 := by
      rcases hms4.2.1.2.2.2 h3.1 with ⟨g1, g2⟩ | ⟨_, g2⟩
      · exact v_is_u g1 (by decide) g2 hi5
      · exact absurd hi5 (g2 5 (by decide) (by decide))
    rw [ev3, x_w1, if_neg (by decide)]
    refine lay 1 0 1000 (by omega) (fun h => absurd h (by decide)) rfl fun nn => ?_
    rw [hLL, nameN hnR, x_bd, x_w0, if_pos rfl, e25, q_w_id (x := v_tk k) (by omega) (by omega), if_neg (fun h => c4 (htk.2.2.2.1.mp h)), e27, if_pos (by decide)]
  rw [ev3, x_w0, if_pos rfl]
  refine o_bd (c_isWord hS1.1.1.1 hS1.1.1.2.1 hS1.1.1.2.2.1 (s := 10) (by decide) (by decide)) fun v5 m6 ⟨em6, hv5⟩ => ?_
  rw [em6]
  rcases hv5 with ⟨ev5, h5⟩ | ⟨ev5, h5⟩
  · have hi6 : v_is T a b 6 := h5.2
    have hnR : ¬ v_Rd T k a b := fun h => h.2 6 (by decide) (by decide) hi6
    have e27 : mm4 81 27 = 6 := by
      rcases hms4.2.1.2.2.2 h5.1 with ⟨g1, g2⟩ | ⟨_, g2⟩
      · exact v_is_u g1 (by decide) g2 hi6
      · exact absurd hi6 (g2 6 (by decide) (by decide))
    rw [ev5, x_w1, if_neg (by decide)]
    refine lay 2 0 1001 (by omega) (fun h => absurd h (by decide)) rfl fun nn => ?_
    rw [hLL, nameN hnR, x_bd, x_w0, if_pos rfl, e25, q_w_id (x := v_tk k) (by omega) (by omega), if_neg (fun h => c4 (htk.2.2.2.1.mp h)), e27, if_neg (by decide)]
  rw [ev5, x_w0, if_pos rfl]
  have hRd : v_Rd T k a b := by
    rcases hA with h | h | h | h | h | h
    · exact h
    · exact absurd h c4
    · exact absurd h c40
    · exact absurd h c45
    · exact absurd h h3
    · exact absurd h h5
  have hR12 : l 0 4 < 12 := by
    have : ¬ 12 ≤ l 0 4 := fun h => hD (Or.inr (Or.inr ⟨hRd, h⟩))
    omega
  have hx1 : x ≠ -1 := fun h => hCC ⟨hRd, h⟩
  have enx4 : f_Mod_named mny mm4 = some (x, mm4) := by
    obtain ⟨x', m', e', em', hx'⟩ := m_named hms4.1 hms4.2.2.1 hms4.2.1 (cnt := mny) (f := f) (e := e) (by omega) (fun i i0 i1 => ⟨(hS1.2.2.1 i i0 (by omega)).2.1, (hS1.2.2.1 i i0 (by omega)).2.2, hfe i i0 (by omega)⟩)
    rw [e', em', v_nd_u hx' hx]
  obtain ⟨v, mc', r', mm', er, em, hro⟩ := u_read hst' hS1 hx hx1 (by omega) hNu g92 (by omega)
  rw [er, x_bd]
  have hLr : ∀ nn, f_Mod_readFormula_l15 (nn + 1) bk mny 1 1 mm = q_bd (f_Mod_readUnit_b296 bk mm') fun v m5 => f_Mod_readFormula_l15 nn bk mny v 1 m5 := fun nn => by rw [hLL, nameY hRd, x_bd, x_w1, if_neg (by decide), enx4, x_bd, em, x_bd]
  rcases hro with ⟨ev, l', k', a', b', hS', ⟨lr, lx, lW, ⟨l3, l6, l4⟩, lz, el'⟩, ⟨m92, mcd, mlow, m105⟩, hab', fcr, fmr⟩ | ⟨ev, hF⟩
  · subst el'
    have hmi' : u_mi mm' j W := by
      unfold u_mi at *
      rw [m105]
      exact hmi4
    obtain ⟨mm'', ec', hS'', ⟨p92, p1205, plow, p105⟩, pfm⟩ := u_cmin hb hS' m92 (by omega) (by omega) hmi' (by omega)
    rw [ev, n6]
    refine o_rt (u_fin (lr := lr) hP hWW hCd (u_ext_tr (n_un_x l) lx) lW (by omega) (by omega) (by omega) (fun h => absurd h (by decide)) (fun _ => ⟨by omega, lz⟩) hS'' p92 ?_ p1205 (fun i hi => ?_) ?_ (by omega) (u_fc_tr fc4 fcr) (u_fm_tr fm4 (u_fm_tr fmr pfm)) fun nn => ?_)
    · rw [plow _ (by omega), mcd, f_cd_no]
      rfl
    · rw [plow _ (by omega), mlow _ (by omega), cell4 100 (by decide)]
    · rw [p105, m105, cell4 105 (by decide)]
    · rw [hLr, ec', x_bd]
  · obtain ⟨⟨F, P, hF1, hF2, g28, g29⟩, hF3⟩ := hF
    rw [ev]
    refine o_rt (Or.inr ⟨rfl, mm', 2, u_F_pre fc4 fm4 ⟨⟨F, P, hF1, hF2, g28, g29⟩, hF3⟩, by have := hsh.1; omega, fun nn => ?_⟩)
    have b296 : f_Mod_readUnit_b296 bk mm' = some (0, mm') := by
      unfold f_Mod_readUnit_b296
      rw [g28, q_w_id (x := F) (by omega) (by omega), if_neg (by omega), x_rz0]
    show f_Mod_readFormula_l15 (nn + 1 + 1) bk mny 1 1 mm = _
    rw [hLr, b296, x_bd, L_fail (by omega)]
end unit4
