/-! THE PARSER: a chain, in both -/
section chain
variable {T : Int → Int} {n t bk V ed mny d s w lv : Int} {f e : Int → Int} {kc : Int → Int → q_Mem → q_Res} {ku kb kn : Int → q_Mem → q_Res}
theorem u_chain3 (hw : 0 ≤ w) (hU : u_spU T n t bk V ed mny d s f e ku w) : u_spC T n t bk V ed mny d s f e (f_Pars_chain_e kc ku kb kn) 3 w := by
  intro l mc mm k a b W A hS hP hCd htp hW0 hWb
  have z0 : ((0 : Nat) : Int) = 0 := rfl
  have hmi : u_mi mm 0 W := by
    refine ⟨by omega, fun i i0 i1 => by omega, ?_⟩
    rcases htp with h | ⟨h1, h2, h3, _⟩
    · exact Or.inl (by omega)
    · refine Or.inr ⟨by omega, ?_⟩
      rw [show W - 1 - ((0 : Nat) : Int) = W - 1 by omega]
      exact ⟨h2, h3⟩
  unfold f_Pars_chain_e
  rw [if_neg (by decide)]
  refine o_bd (hU l mc mm k a b W 0 A hS hP hCd hmi (by omega) (by omega)) fun v m' h => o_rt ?_
  rcases h with ⟨l', mm', k', a', b', p, hS', ev, hG, ⟨h92, hcd, _⟩, hlow, hpa, hL⟩ | h
  · rw [show w - ((0 : Nat) : Int) = w by omega, show W - ((0 : Nat) : Int) = W + ((0 : Nat) : Int) by omega] at hS'
    refine Or.inl ⟨l', mm', k', a', b', p, 0, hS', ev, hG, ⟨⟨by omega, ?_⟩, by have := hG.2.2.1; omega⟩, fun i i0 i1 => by omega, fun i hi => hlow i (by omega), by omega, fun lv' l0 l1 => by omega, hpa, hL⟩
    rw [show l' 0 6 - ((0 : Nat) : Int) = l' 0 6 by omega]
    exact hcd
  · exact Or.inr h
theorem u_l23 {nf : Nat} {c : Int} (hnf : 1 ≤ nf) (m : q_Mem) : f_Pars_chain_l23 kc ku kb kn nf lv w (-1) c m = some (-1, m) := by
  obtain ⟨n', rfl⟩ : ∃ n', nf = n' + 1 := ⟨nf - 1, by omega⟩
  show f_Pars_chain_b23 kc ku kb kn (f_Pars_chain_l23 kc ku kb kn n') lv w (-1) c m = _
  unfold f_Pars_chain_b23
  by_cases h : 40 ≤ q_w c
  · rw [if_pos h, x_rt]
  · rw [if_neg h, if_pos (by decide), x_rt]
theorem u_loop (hst : u_st t bk V ed mny f e) (hd : 0 ≤ d ∧ d ≤ 3) (hw : 0 ≤ w ∧ w ≤ 5) (hlv : 0 ≤ lv ∧ lv ≤ 2) (hK : u_spC T n t bk V ed mny d s f e kc (lv + 1) w) {l mc mm : q_Mem} {a W : Int} {A : List Int} (htp : u_tp mm lv W) (hW0 : 0 ≤ W) (hWb : W ≤ 4 * w + lv) (hN0 : 0 ≤ l 0 6) : ∀ (nf : Nat) (c : Int) (l1 mc1 mm1 : q_Mem) (k1 a1 b1 : Int) (p q : Nat), 0 ≤ c → 60 ≤ nf + c → c + 1 ≤ l1 0 3 → u_S T n t bk V ed f e l1 mc1 mm1 k1 a1 b1 w (W + q) → u_G t bk V d s A l mc mm l1 mc1 mm1 → u_C bk mm1 l1 d s (l1 0 6 - q) ∧ l 0 6 < l1 0 6 - q → (∀ i : Int, 0 ≤ i → i < q → mm1 105 (W + i) = f_cd l1 (l1 0 6 - 1 - i) ∧ (1200 ≤ mm1 105 (W + i) ∧ mm1 105 (W + i) ≤ 1204) ∧ lv + 1 ≤ v_bd (mm1 105 (W + i))) → (∀ i, i < W → mm1 105 i = mm 105 i) → q + lv ≤ 3 → (∀ lv', lv + 1 ≤ lv' → lv' ≤ 2 → v_jn lv' k1 = -1) → a + p ≤ a1 → (∀ nn, f_Mod_readFormula_l15 (nn + p) bk mny 1 1 mm = f_Mod_readFormula_l15 nn bk mny 0 1 mm1) → q_ok (f_Pars_chain_l23 kc ku kb kn nf lv w (l1 0 6 - 1) c mc1) (fun v mc' => u_oC T n t bk V ed mny d s f e A l mc mm lv a w W v mc') := by
  obtain ⟨htL, hb, hV, hed, hfe⟩ := hst
  have ht := u_Lp htL
  intro nf
  induction nf with
  | zero =>
    intro c l1 mc1 mm1 k1 a1 b1 p q hc hnf hcu hS
    have := hS.2.2.2.2.1.1
    omega
  | succ nf ih =>
    intro c l1 mc1 mm1 k1 a1 b1 p q hc hnf hcu hS hG hCq hst1 hlow hq hnj hpa hL
    have hS' := hS
    obtain ⟨⟨hcs, hms, hf0⟩, ⟨h253, h258, hl⟩, hnm, hRR, hWW, hl2, e39, e38, hft⟩ := hS'
    have W1 := hWW.1
    have W4 := hWW.2.2.2.1
    have hsh := hcs.2.2.1
    obtain ⟨hP1, hx1, hcnt1, hlo1, hfc1, hfm1⟩ := hG
    show q_ok (f_Pars_chain_b23 kc ku kb kn (f_Pars_chain_l23 kc ku kb kn nf) lv w (l1 0 6 - 1) c mc1) _
    unfold f_Pars_chain_b23
    rw [q_w_id (x := c) (by omega) (by omega), if_neg (by omega), q_w_id (x := l1 0 6 - 1) (by omega) (by omega), if_neg (by omega), c_joinAt hcs (by omega), x_bd]
    by_cases hj : v_jn lv k1 = -1
    · rw [hj, if_pos (by decide)]
      refine o_rt (Or.inl ⟨l1, mm1, k1, a1, b1, p, q, hS, rfl, ⟨hP1, hx1, hcnt1, hlo1, hfc1, hfm1⟩, hCq, hst1, hlow, hq, fun lv' l0 l2 => ?_, hpa, hL⟩)
      by_cases c' : lv' = lv
      · rw [c']; exact hj
      · exact hnj lv' (by omega) l2
    obtain ⟨hbt, hbd, hcode, hkr⟩ := v_jn_bt hlv hj
    obtain ⟨hbr, hko⟩ := v_bt_op hbt
    rw [q_w_id (x := v_jn lv k1) (by omega) (by omega), if_neg hj]
    refine o_bd (c_next hcs) fun _ mc2 ⟨fc2, k2, a2, b2, ht2, hcs2⟩ => ?_
    obtain ⟨mm2, k2', a2', b2', ht2', hms2, g1, g2, g38, g105, g105', ⟨g92, g92'⟩, g100, g100', hLop⟩ := m_opstep (mny := mny) hb hms hf0 hbt (C := l1 0 6 - q + d) (W0 := W) (q := q) (by omega) (by omega) hCq.1.1 (by omega) e38 (fun i i0 i1 => by
      have := hst1 (i - W) (by omega) (by omega)
      rw [show W + (i - W) = i by omega] at this
      exact ⟨this.2.1, by omega⟩) (by
      rcases htp with h | ⟨h1, h2, h3, h4⟩
      · exact Or.inl h
      · refine Or.inr ⟨h1, ?_⟩
        rw [hlow _ (by omega)]
        exact ⟨h2, by omega⟩)
    obtain ⟨q1, q2, q3⟩ := v_tok_u ht2 ht2'
    subst q1 q2 q3
    have e25 : mc2 25 = mc1 25 := fc2.1 25 (by decide)
    have hS2 : u_S T n t bk V ed f e l1 mc2 mm2 k2 a2 b2 w (W + 1) := by
      refine ⟨⟨hcs2, hms2, (g2 28 (by omega) (by decide)).trans hf0⟩, ⟨by rw [e25]; exact h253, by rw [e25]; exact h258, (u_l_fr fun c c0 c1 => fc2.1 c (by omega)).trans hl⟩, fun i i0 i1 => ?_, u_R_fr hRR fun c c0 c1 c2 => g1 c (by omega) c2 (by omega) (by omega), hWW, hl2, (g2 39 (by omega) (by decide)).trans e39, g38, by rw [e25]; exact hft.1, by rw [e25]; exact hft.2.1, (g2 29 (by omega) (by decide)).trans hft.2.2⟩
      rw [fc2.1 26 (by decide), fc2.1 27 (by decide), g1 103 (by decide) (by decide) (by decide) (by decide), g1 104 (by decide) (by decide) (by decide) (by decide)]
      exact hnm i i0 i1
    have hC2 : u_C bk mm2 l1 d s (l1 0 6) := by
      refine ⟨by omega, fun x x0 x1 => ?_⟩
      by_cases cx : x < l1 0 6 - q
      · rw [g100 _ (by omega)]; exact hCq.1.2 x x0 cx
      · have h7 := g100' (x - (l1 0 6 - q)) (by omega) (by omega)
        rw [show 100 * bk + (l1 0 6 - (q : Int) + d) + (x - (l1 0 6 - q)) = 100 * bk + (x + d) by omega] at h7
        rw [h7, show W + (q : Int) - 1 - (x - (l1 0 6 - q)) = W + (l1 0 6 - 1 - x) by omega, (hst1 (l1 0 6 - 1 - x) (by omega) (by omega)).1, show l1 0 6 - 1 - (l1 0 6 - 1 - x) = x by omega]
    have htp2 : u_tp mm2 (lv + 1) (W + 1) := Or.inr ⟨by omega, by rw [show W + 1 - 1 = W by omega, g105]; omega, by rw [show W + 1 - 1 = W by omega, g105]; omega, by rw [show W + 1 - 1 = W by omega, g105, hbd]; omega⟩
    have hfm2 : u_fm bk mm1 mm2 := by
      refine ⟨fun c i c1 c2 c3 => ?_, fun i hi => g2 i (by omega) (by omega)⟩
      by_cases e92 : c = 92
      · rw [e92]; rw [e92] at c3; exact g92' i (by unfold u_ou at c3; omega)
      · by_cases e100 : c = 100
        · rw [e100]; rw [e100] at c3; exact g100 i (by unfold u_ou at c3; omega)
        · rw [g1 c c1 e92 e100 c2]
    have hop : ∀ nn, f_Mod_readFormula_l15 (nn + (p + 1)) bk mny 1 1 mm = f_Mod_readFormula_l15 nn bk mny 1 1 mm2 := fun nn => by rw [show nn + (p + 1) = (nn + 1) + p by omega, hL, hLop]
    have ab2 := ht2.1
    have hab : a1 < b1 := (hsh.2.2.2.2 (by omega)).2.2
    refine o_bd (hK l1 mc2 mm2 k2 a2 b2 (W + 1) ((l1 0 6 - 1) :: A) hS2 hP1 hC2 htp2 (by omega) (by omega)) fun v4 mc5 hres => ?_
    rcases hres with ⟨l2, mm3, k3, a3, b3, p2, q2, hS3, ev, ⟨hP3, hx3, hcnt3, hlo3, hfc3, hfm3⟩, ⟨hC3, hlt3⟩, hst3, hlow3, hq3, hnj3, hpa3, hL3⟩ | ⟨ev, mm3, p2, hF, hpa3, hL3⟩
    rotate_left
    · rw [ev, if_pos (by decide)]
      unfold f_Pars_chain_b89
      rw [u_l23 (by omega)]
      refine o_some (Or.inr ⟨rfl, mm3, p + 1 + p2, u_F_pre (u_fc_tr hfc1 (u_fc_fr fc2)) (u_fm_tr hfm1 hfm2) hF, by omega, fun nn => ?_⟩)
      rw [show nn + (p + 1 + p2) = (nn + p2) + (p + 1) by omega, hop, hL3]
    obtain ⟨⟨hcs3, hms3, hf3⟩, ⟨h2533, h2583, hl3⟩, hnm3, hRR3, hWW3, hl23, e393, e383, hft3⟩ := hS3
    have W13 := hWW3.1
    have W43 := hWW3.2.2.2.1
    have hsm : l2 0 6 + 1 ≤ 2 * l2 0 3 := by omega
    have e6 : mc5 t 6 = l2 0 6 := by rw [← u_l_0 t mc5, hl3]
    have ad : f_Loop_addNode t (v_jn lv k1) (l1 0 6 - 1) (l2 0 6 - 1) mc5 = some (l2 0 6, v_no mc5 t (l2 0 6) (v_jn lv k1) (l1 0 6 - 1) (l2 0 6 - 1)) := c_addNode htL (by omega) e6
    rw [ev, q_w_id (x := l2 0 6 - 1) (by omega) (by omega), if_neg (by omega), x_lt, h2533, x_one htL, ad, x_bd]
    unfold f_Pars_chain_b89
    obtain ⟨n1, n2, n3, n4, n5, n6, n7⟩ := n_no_e l2 (v_jn lv k1) (l1 0 6 - 1) (l2 0 6 - 1)
    have cno : ∀ c, c < t ∨ t + 9 < c → v_no mc5 t (l2 0 6) (v_jn lv k1) (l1 0 6 - 1) (l2 0 6 - 1) c = mc5 c := fun c hc => v_no_f (by omega) (by omega) (by omega) (by omega)
    have hfn : u_fc t mc5 (v_no mc5 t (l2 0 6) (v_jn lv k1) (l1 0 6 - 1) (l2 0 6 - 1)) := ⟨fun c _ _ c3 => cno c c3, fun i _ => by rw [cno 1 (by omega)], fun i _ => by rw [cno 25 (by omega)]⟩
    have hcdN : f_cd (n_no l2 (v_jn lv k1) (l1 0 6 - 1) (l2 0 6 - 1)) (l2 0 6) = v_bt k1 := by
      rw [f_cd_no, if_neg (by omega), if_neg (by omega), if_neg (by omega), if_neg (by omega), if_neg (by omega)]
      exact hcode
    have hm3W : mm3 105 W = v_bt k1 := by rw [hlow3 W (by omega)]; exact g105
    have n3' := n1 3 (by decide)
    have go := ih (c + 1) (n_no l2 (v_jn lv k1) (l1 0 6 - 1) (l2 0 6 - 1)) (v_no mc5 t (l2 0 6) (v_jn lv k1) (l1 0 6 - 1) (l2 0 6 - 1)) mm3 k3 a3 b3 (p + 1 + p2) (q2 + 1) (by omega) (by omega) (by omega)
    rw [show n_no l2 (v_jn lv k1) (l1 0 6 - 1) (l2 0 6 - 1) 0 6 - 1 = l2 0 6 by omega] at go
    refine go ⟨⟨v_cs_fr hcs3 (cno 1 (by omega)) (cno 2 (by omega)), hms3, hf3⟩, ⟨by rw [cno 25 (by omega)]; exact h2533, by rw [cno 25 (by omega)]; exact h2583, by rw [n_no_l e6, hl3]⟩, fun i i0 i1 => ?_, u_R_no hRR3, u_W_no hWW3 hsm, by rw [n1 2 (by decide)]; exact hl23, e393, by omega, by rw [cno 25 (by omega)]; exact hft3.1, by rw [cno 25 (by omega)]; exact hft3.2.1, hft3.2.2⟩ ⟨?_, u_ext_tr hx1 (u_ext_tr hx3 (n_no_x _ _ _ _)), by omega, fun i hi => ?_, u_fc_tr hfc1 (u_fc_tr (u_fc_fr fc2) (u_fc_tr hfc3 hfn)), u_fm_tr hfm1 (u_fm_tr hfm2 hfm3)⟩ ⟨⟨by have := hC3.1; omega, ?_⟩, by omega⟩ (fun i i0 i1 => ?_) (fun i hi => ?_) (by omega) (fun lv' l0 l2' => hnj3 lv' (by omega) l2') (by omega) fun nn => ?_
    · rw [cno 26 (by omega), cno 27 (by omega)]
      exact hnm3 i i0 i1
    · refine u_P_no hP3 hWW3 (Or.inr (Or.inr ⟨by omega, by omega, A, by rw [n6, n7], ?_⟩)) (fun h => by omega) (fun h => by omega)
      rw [n2, Int.add_sub_cancel]
    · rw [hlo3 i (by omega), g100 _ (by omega), hlo1 i hi]
    · rw [n2, show l2 0 6 + 1 - ((q2 + 1 : Nat) : Int) = l2 0 6 - q2 by omega]
      exact u_cd_ext (n_no_x _ _ _ _) (by omega) hC3.2 fun _ _ _ => rfl
    · by_cases ci : i = 0
      · rw [ci, show W + 0 = W by omega, hm3W, show l2 0 6 - 0 = l2 0 6 by omega, hcdN]
        exact ⟨rfl, by omega, by omega⟩
      · have := hst3 (i - 1) (by omega) (by omega)
        rw [show W + 1 + (i - 1) = W + i by omega, show l2 0 6 - 1 - (i - 1) = l2 0 6 - i by omega] at this
        rw [u_ext_cd (n_no_x _ _ _ _) (by omega)]
        exact ⟨this.1, this.2.1, by omega⟩
    · rw [hlow3 i (by omega), g105' i (by omega), hlow i hi]
    · rw [show nn + (p + 1 + p2) = (nn + p2) + (p + 1) by omega, hop, hL3]
theorem u_chain (hst : u_st t bk V ed mny f e) (hd : 0 ≤ d ∧ d ≤ 3) (hw : 0 ≤ w ∧ w ≤ 5) (hlv : 0 ≤ lv ∧ lv ≤ 2) (hK : u_spC T n t bk V ed mny d s f e kc (lv + 1) w) : u_spC T n t bk V ed mny d s f e (f_Pars_chain_e kc ku kb kn) lv w := by
  intro l mc mm k a b W A hS hP hCd htp hW0 hWb
  unfold f_Pars_chain_e
  rw [q_w_id (x := lv) (by omega) (by omega), if_pos (by omega)]
  have htp' : u_tp mm (lv + 1) W := by
    rcases htp with h | ⟨h1, h2, h3, h4⟩
    · exact Or.inl h
    · exact Or.inr ⟨h1, h2, h3, by omega⟩
  refine o_bd (hK l mc mm k a b W A hS hP hCd htp' hW0 (by omega)) fun v1 m2 hres => ?_
  rcases hres with ⟨l2, mm3, k3, a3, b3, p2, q2, hS3, ev, hG, hC3, hst3, hlow3, hq3, hnj3, hpa3, hL3⟩ | hF
  · rw [ev]
    have hc := hG.2.2.1
    have hu := hS.2.2.2.2.1.1
    exact u_loop hst hd hw hlv hK htp hW0 hWb (by have := hP.1; omega) q_F 0 l2 m2 mm3 k3 a3 b3 p2 q2 (by omega) (by unfold q_F; omega) (by omega) hS3 hG hC3 (fun i i0 i1 => ⟨(hst3 i i0 i1).1, (hst3 i i0 i1).2.1, by have := (hst3 i i0 i1).2.2; omega⟩) hlow3 (by omega) hnj3 hpa3 hL3
  · have ev := hF.1
    rw [ev, u_l23 (by unfold q_F; omega)]
    rw [ev] at hF
    exact o_some (Or.inr hF)
/-- the descent -/
theorem u_rec (hst : u_st t bk V ed mny f e) (hd : 0 ≤ d ∧ d ≤ 3) : ∀ r : Nat, ((∀ w : Int, 0 ≤ w → w ≤ 5 → 31 - 6 * w ≤ (r : Int) → u_spU T n t bk V ed mny d s f e (f_Pars_rec r).2.1 w) ∧ (∀ lv w : Int, 0 ≤ lv → lv ≤ 3 → 0 ≤ w → w ≤ 5 → 35 - lv - 6 * w ≤ (r : Int) → u_spC T n t bk V ed mny d s f e (f_Pars_rec r).1 lv w)) ∧ ((∀ w : Int, 0 ≤ w → w ≤ 5 → 31 - 6 * w ≤ (r : Int) + 1 → u_spU T n t bk V ed mny d s f e (f_Pars_rec (r + 1)).2.1 w) ∧ (∀ lv w : Int, 0 ≤ lv → lv ≤ 3 → 0 ≤ w → w ≤ 5 → 35 - lv - 6 * w ≤ (r : Int) + 1 → u_spC T n t bk V ed mny d s f e (f_Pars_rec (r + 1)).1 lv w)) := by
  intro r
  induction r with
  | zero =>
    refine ⟨⟨fun w w0 w5 h => by omega, fun lv w l0 l3 w0 w5 h => by omega⟩, fun w w0 w5 h => ?_, fun lv w l0 l3 w0 w5 h => by omega⟩
    exact u_unit (kc := (f_Pars_rec 0).1) (ku := (f_Pars_rec 0).2.1) hst hd ⟨w0, w5⟩ fun h4 => by omega
  | succ r ih =>
    obtain ⟨⟨ih1, ih2⟩, ih3, ih4⟩ := ih
    refine ⟨⟨fun w w0 w5 h => ih3 w w0 w5 (by omega), fun lv w l0 l3 w0 w5 h => ih4 lv w l0 l3 w0 w5 (by omega)⟩, fun w w0 w5 h => ?_, fun lv w l0 l3 w0 w5 h => ?_⟩
    · exact u_unit (kc := (f_Pars_rec (r + 1)).1) (ku := (f_Pars_rec (r + 1)).2.1) hst hd ⟨w0, w5⟩ fun h4 => ⟨(f_Pars_rec r).1, (f_Pars_rec r).2.1, (f_Pars_rec r).2.2.1, (f_Pars_rec r).2.2.2, rfl, rfl, ih2 0 (w + 1) (by omega) (by omega) (by omega) (by omega) (by omega), ih1 (w + 1) (by omega) (by omega) (by omega)⟩
    · by_cases c : lv = 3
      · subst c
        exact u_chain3 w0 (ih3 w w0 w5 (by omega))
      · exact u_chain hst hd ⟨w0, w5⟩ ⟨l0, by omega⟩ (ih4 (lv + 1) w (by omega) (by omega) w0 w5 (by omega))
end chain
