/-! THE PARSER: a unit, in both -/
section unit3
variable {T : Int → Int} {n t bk V ed mny d s w : Int} {f e : Int → Int}
theorem u_brack (hst : u_st t bk V ed mny f e) (hd : 0 ≤ d ∧ d ≤ 3) (hw : 0 ≤ w ∧ w ≤ 4) {kc : Int → Int → q_Mem → q_Res} {ku kb kn : Int → q_Mem → q_Res} (hC : u_spC T n t bk V ed mny d s f e kc 0 (w + 1)) {l mc mm mc0 mm0 l0 : q_Mem} {k a b W : Int} {j : Nat} {A : List Int} (hS : u_S T n t bk V ed f e l mc mm k a b w W) (hP : u_P V s l A) (hCd : u_C bk mm l d s (l 0 6)) (hmi : u_mi mm j W) (hj : (j : Int) ≤ w) (hWb : W ≤ 4 * w + 3) (hk : k = 40) (hx : u_ext l0 l) (h6 : l 0 6 = l0 0 6) (h3 : l 0 3 = l0 0 3 + 1) (hfc0 : u_fc t mc0 mc) (hfm0 : u_fm bk mm0 mm) (h100 : mm 100 = mm0 100) (h105 : mm 105 = mm0 105) (hL : ∀ nn, f_Mod_readFormula_l15 (nn + 1) bk mny 1 1 mm0 = q_bd (f_Mod_readUnit_b213 1206 mm) fun v m5 => f_Mod_readFormula_l15 nn bk mny v 1 m5) : q_ok (f_Pars_bracket_e kc ku kb kn w mc) (fun v mc' => u_oU T n t bk V ed mny d s f e A l0 mc0 mm0 a w W j v mc') := by
  obtain ⟨htL, hb, hV, hed, hfe⟩ := hst
  have hW0 : 0 ≤ W := by have := hmi.1; omega
  obtain ⟨r1, mc5, mm5, k5, a5, b5, en, eb213, hS5, ⟨g92, g100, g105, g105'⟩, hab5, fc5, fm5⟩ := u_open hb htL hS (by omega) (c := 1206)
  have hL5 : ∀ nn, f_Mod_readFormula_l15 (nn + 1) bk mny 1 1 mm0 = f_Mod_readFormula_l15 nn bk mny 1 1 mm5 := fun nn => by rw [hL, eb213, x_bd]
  have hsh := hS.1.1.2.2.1
  have hab : a < b := (hsh.2.2.2.2 (by omega)).2.2
  have hCd5 : u_C bk mm5 l d s (l 0 6) := by
    unfold u_C u_cd at *
    rw [g92, g100]
    exact hCd
  have hb5 : v_bd 1206 = 0 := by decide
  have htp : u_tp mm5 0 (W + 1) := Or.inr ⟨by omega, by rw [show W + 1 - 1 = W by omega, g105]; omega, by rw [show W + 1 - 1 = W by omega, g105]; decide, by rw [show W + 1 - 1 = W by omega, g105, hb5]; omega⟩
  have hsp := hC l mc5 mm5 k5 a5 b5 (W + 1) A hS5 hP hCd5 htp (by omega) (by omega)
  unfold f_Pars_bracket_e
  rw [en, x_bd]
  refine o_bd hsp fun v2 mc6 hres => ?_
  rcases hres with ⟨l6, mm6, k6, a6, b6, p, q, hS6, ev, ⟨hP6, hx6, hcnt6, hlo6, fc6, fm6⟩, ⟨hC6, hlt6⟩, hst6, hlow6, hq, hnj, hpa, hL6⟩ | ⟨ev, mm6, p, hF, hpa, hL6⟩
  rotate_left
  · rw [ev, if_pos (by decide)]
    refine o_rt (Or.inr ⟨rfl, mm6, p + 1, u_F_pre (u_fc_tr hfc0 fc5) (u_fm_tr hfm0 fm5) hF, by omega, fun nn => ?_⟩)
    rw [show nn + (p + 1) = (nn + p) + 1 by omega, hL5, hL6]
  have hW6 := hS6.2.2.2.2.1
  have hr6 : 0 ≤ l6 0 6 ∧ l6 0 6 ≤ 80 := by
    have := hW6.1
    have := hW6.2.2.2.1
    omega
  have hNl : 0 ≤ l 0 6 := by have := hP.1; omega
  have hsh6 := hS6.1.1.2.2.1
  rw [ev, q_w_id (x := l6 0 6 - 1) (by omega) (by omega), if_neg (by omega)]
  by_cases ck : k6 = 41
  · have hmi6 : u_mi mm6 j W := by
      have e6 : ∀ i, i < W → mm6 105 i = mm 105 i := fun i hi => by rw [hlow6 i (by omega), g105' i (by omega)]
      refine ⟨hmi.1, fun i i0 i1 => by rw [e6 i i1]; exact hmi.2.1 i i0 i1, ?_⟩
      rcases hmi.2.2 with h | ⟨h1, h2⟩
      · exact Or.inl h
      · exact Or.inr ⟨h1, by rw [e6 _ (by omega)]; exact h2⟩
    obtain ⟨mc7, mm7, r7, k7, a7, b7, ep, ecl, hS7, hc7, hlo7, h1057, hab7, fc7, fm7⟩ := u_close hb htL hS6 ck hC6 (by omega) hd (j := j) (by omega) (fun i i0 i1 => ⟨(hst6 i i0 i1).1, (hst6 i i0 i1).2.1⟩) (by rw [hlow6 W (by omega)]; exact g105) hmi6 (by omega)
    rw [ep, x_bd, x_w1, if_neg (by decide)]
    refine o_rt (Or.inl ⟨l6, mm7, k7, a7, b7, p + 2, hS7, rfl, ⟨hP6, u_ext_tr hx hx6, by omega, fun i hi => ?_, u_fc_tr hfc0 (u_fc_tr fc5 (u_fc_tr fc6 fc7)), u_fm_tr hfm0 (u_fm_tr fm5 (u_fm_tr fm6 fm7))⟩, hc7, fun i hi => ?_, ?_, fun nn => ?_⟩)
    · rw [hlo7 i (by omega), hlo6 i (by omega), g100, h100]
    · rw [h1057, hlow6 i (by omega), g105' i (by omega), h105]
    · have := (hsh6.2.2.2.2 (by omega)).2.2
      omega
    · rw [show nn + (p + 2) = ((nn + 1) + p) + 1 by omega, hL5, hL6, L_close hS6.1.2.1 hS6.1.2.2 hS6.2.2.2.2.2.2.1 (by omega) ck nn, ecl, x_bd]
  · obtain ⟨v4, mc7, ep, hpass⟩ := c_pass hS6.1.1 (q := 41) (by unfold v_sg; omega)
    rcases hpass with ⟨hk', _⟩ | ⟨_, ev4, ec7⟩
    · exact absurd hk' ck
    rw [ep, x_bd, ev4, x_w0, if_pos rfl]
    have hbt := v_jn_no fun lv l0' l2' => hnj lv l0' l2'
    have e28 : q_up (q_up mm6 81 28 1) 81 29 a6 81 28 = 1 := by rw [q_up_i (by decide), q_up_s]
    refine o_rt (Or.inr ⟨rfl, q_up (q_up mm6 81 28 1) 81 29 a6, p + 3, ⟨⟨1, a6, by decide, ⟨by rw [ec7, q_up_i (by decide), q_up_s], by rw [ec7, q_up_s]⟩, e28, q_up_s _ _ _ _⟩, ?_, ?_, ?_⟩, ?_, fun nn => ?_⟩)
    · rw [ec7]; exact u_fc_tr hfc0 (u_fc_tr fc5 (u_fc_tr fc6 (u_fc_tr (u_fc_5 (by omega)) (u_fc_5 (by omega)))))
    · exact u_fm_tr hfm0 (u_fm_tr fm5 (u_fm_tr fm6 (u_fm_tr (u_fm_up (Or.inl ⟨rfl, by omega⟩)) (u_fm_up (Or.inl ⟨rfl, by omega⟩)))))
    · rw [q_up_c (by decide), q_up_c (by decide), hC6.1, q_up_i (by decide), q_up_i (by decide)]; exact ⟨by omega, hS6.1.2.1.2.2.2.2⟩
    · have := hsh6.1
      omega
    · rw [show nn + (p + 3) = ((nn + 2) + p) + 1 by omega, hL5, hL6, L_stop hS6.1.2.1 hS6.1.2.2 hS6.2.2.2.2.2.2.1 (by omega) hbt (fun hh => ck hh.1) nn]
      unfold f_Mod_readFormula_b137
      rw [hS6.1.2.2, x_w0, if_pos rfl, hS6.2.2.2.2.2.2.1, q_w_id (x := w + 1) (by omega) (by omega), if_neg (by omega), m_fail0 hS6.1.2.2, x_bd, hS6.1.2.1.2.1.2.1, L_156 (by omega)]
theorem u_neg (hst : u_st t bk V ed mny f e) (hd : 0 ≤ d ∧ d ≤ 3) (hw : 0 ≤ w ∧ w ≤ 4) {kc : Int → Int → q_Mem → q_Res} {ku kb kn : Int → q_Mem → q_Res} (hU : u_spU T n t bk V ed mny d s f e ku (w + 1)) {l mc mm mc0 mm0 l0 : q_Mem} {k a b W : Int} {j : Nat} {A : List Int} (hS : u_S T n t bk V ed f e l mc mm k a b w W) (hP : u_P V s l A) (hCd : u_C bk mm l d s (l 0 6)) (hmi : u_mi mm j W) (hj : (j : Int) ≤ w) (hWb : W ≤ 4 * w + 3) (hk : k = 45) (hx : u_ext l0 l) (h6 : l 0 6 = l0 0 6) (h3 : l 0 3 = l0 0 3 + 1) (hfc0 : u_fc t mc0 mc) (hfm0 : u_fm bk mm0 mm) (h100 : mm 100 = mm0 100) (h105 : mm 105 = mm0 105) (hW00 : l0 0 6 ≤ 2 * l0 0 3) (hL : ∀ nn, f_Mod_readFormula_l15 (nn + 1) bk mny 1 1 mm0 = q_bd (f_Mod_readUnit_b213 1205 mm) fun v m5 => f_Mod_readFormula_l15 nn bk mny v 1 m5) : q_ok (f_Pars_negated_e kc ku kb kn w mc) (fun v mc' => u_oU T n t bk V ed mny d s f e A l0 mc0 mm0 a w W j v mc') := by
  obtain ⟨htL, hb, hV, hed, hfe⟩ := hst
  have ht := u_Lp htL
  have hW0 : 0 ≤ W := by have := hmi.1; omega
  obtain ⟨r1, mc5, mm5, k5, a5, b5, en, eb213, hS5, ⟨g92, g100, g105, g105'⟩, hab5, fc5, fm5⟩ := u_open hb htL hS (by omega) (c := 1205)
  have hL5 : ∀ nn, f_Mod_readFormula_l15 (nn + 1) bk mny 1 1 mm0 = f_Mod_readFormula_l15 nn bk mny 1 1 mm5 := fun nn => by rw [hL, eb213, x_bd]
  have hsh := hS.1.1.2.2.1
  have hab : a < b := (hsh.2.2.2.2 (by omega)).2.2
  have hCd5 : u_C bk mm5 l d s (l 0 6) := by
    unfold u_C u_cd at *
    rw [g92, g100]
    exact hCd
  have hmi5 : u_mi mm5 (j + 1) (W + 1) := by
    refine ⟨by have := hmi.1; omega, fun i i0 i1 => ?_, ?_⟩
    · by_cases c : i = W
      · rw [c]; exact g105
      · rw [g105' i c]; exact hmi.2.1 i (by omega) (by omega)
    · rcases hmi.2.2 with h | ⟨h1, h2⟩
      · exact Or.inl (by omega)
      · refine Or.inr ⟨by omega, ?_⟩
        rw [show W + 1 - 1 - ((j + 1 : Nat) : Int) = W - 1 - j by omega, g105' _ (by omega)]
        exact h2
  have hsp := hU l mc5 mm5 k5 a5 b5 (W + 1) (j + 1) A hS5 hP hCd5 hmi5 (by omega) (by omega)
  unfold f_Pars_negated_e
  rw [en, x_bd]
  refine o_bd hsp fun v2 mc6 hres => ?_
  rcases hres with ⟨l6, mm6, k6, a6, b6, p, hS6, ev, ⟨hP6, hx6, hcnt6, hlo6, fc6, fm6⟩, ⟨h926, hcd6, h12056⟩, hlow6, hpa, hL6⟩ | ⟨ev, mm6, p, hF, hpa, hL6⟩
  rotate_left
  · rw [ev, if_pos (by decide)]
    refine o_rt (Or.inr ⟨rfl, mm6, p + 1, u_F_pre (u_fc_tr hfc0 fc5) (u_fm_tr hfm0 fm5) hF, by omega, fun nn => ?_⟩)
    rw [show nn + (p + 1) = (nn + p) + 1 by omega, hL5, hL6]
  have hW6 := hS6.2.2.2.2.1
  have hr6 : 0 ≤ l6 0 6 ∧ l6 0 6 ≤ 80 := by
    have := hW6.1
    have := hW6.2.2.2.1
    omega
  have hNl : 0 ≤ l 0 6 := by have := hP.1; omega
  have hu6 := hW6.1
  have hWl := hS.2.2.2.2.1.2.2.2.1
  have e6 : mc6 t 6 = l6 0 6 := by rw [← u_l_0 t mc6, hS6.2.1.2.2]
  have hsm : l6 0 6 + 1 ≤ 2 * l6 0 3 := by omega
  have ad : f_Loop_addNode t 4 (l6 0 6 - 1) 0 mc6 = some (l6 0 6, v_no mc6 t (l6 0 6) 4 (l6 0 6 - 1) 0) := c_addNode htL (by omega) e6
  rw [ev, q_w_id (x := l6 0 6 - 1) (by omega) (by omega), if_neg (by omega), x_lt, hS6.2.1.1, x_one htL, ad, x_bd]
  have cno : ∀ c, c < t ∨ t + 9 < c → v_no mc6 t (l6 0 6) 4 (l6 0 6 - 1) 0 c = mc6 c := fun c hc => v_no_f (by omega) (by omega) (by omega) (by omega)
  obtain ⟨n1, n2, n3, n4, n5, n6, n7⟩ := n_no_e l6 4 (l6 0 6 - 1) 0
  have hfn : u_fc t mc6 (v_no mc6 t (l6 0 6) 4 (l6 0 6 - 1) 0) := ⟨fun c _ _ c3 => cno c c3, fun i _ => by rw [cno 1 (by omega)], fun i _ => by rw [cno 25 (by omega)]⟩
  obtain ⟨⟨hcs, hms, hf0⟩, ⟨h253, h258, hl⟩, hnm, hRR, hWW, hl2, e39, e38, hft⟩ := hS6
  refine o_rt (Or.inl ⟨n_no l6 4 (l6 0 6 - 1) 0, mm6, k6, a6, b6, p + 1, ⟨⟨v_cs_fr hcs (cno 1 (by omega)) (cno 2 (by omega)), hms, hf0⟩, ⟨by rw [cno 25 (by omega)]; exact h253, by rw [cno 25 (by omega)]; exact h258, by rw [n_no_l e6, hl]⟩, fun i i0 i1 => ?_, u_R_no hRR, u_W_no hWW hsm, by rw [n1 2 (by decide)]; exact hl2, by omega, by omega, by rw [cno 25 (by omega)]; exact hft.1, by rw [cno 25 (by omega)]; exact hft.2.1, hft.2.2⟩, by omega, ⟨?_, u_ext_tr hx (u_ext_tr hx6 (n_no_x _ _ _ _)), ⟨by omega, ?_⟩, fun i hi => ?_, u_fc_tr hfc0 (u_fc_tr fc5 (u_fc_tr fc6 hfn)), u_fm_tr hfm0 (u_fm_tr fm5 fm6)⟩, ⟨by omega, ?_, fun i i0 i1 => ?_⟩, fun i hi => ?_, by omega, fun nn => ?_⟩)
  · rw [cno 26 (by omega), cno 27 (by omega)]
    exact hnm i i0 i1
  · refine u_P_no hP6 hWW (Or.inr (Or.inl ⟨n5, A, by rw [n6], by rw [n2, Int.add_sub_cancel]⟩)) (fun h => absurd h (by decide)) (fun h => absurd h (by decide))
  · have := n1 3 (by decide)
    omega
  · rw [hlo6 i (by omega), g100, h100]
  · rw [n2]
    refine u_cd_no hcd6 (fun _ _ => rfl) ?_
    have := h12056 0 (by omega) (by omega)
    rw [show l6 0 6 + d + 0 = l6 0 6 + d by omega] at this
    rw [this, f_cd_no]
    rfl
  · have := h12056 (i + 1) (by omega) (by omega)
    rw [n2, show l6 0 6 + 1 + d + i = l6 0 6 + d + (i + 1) by omega]
    exact this
  · rw [hlow6 i (by omega), g105' i (by omega), h105]
  · rw [show nn + (p + 1) = (nn + p) + 1 by omega, hL5, hL6]
end unit3
