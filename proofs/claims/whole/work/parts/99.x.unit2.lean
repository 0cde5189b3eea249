/-! THE PARSER: a unit, in both: what it needs -/
section unit2
variable {T : Int → Int} {n t bk V ed mny d s k a b w W C : Int} {f e : Int → Int} {l l' lr mc mm mc' mm' : q_Mem} {A B : List Int} {j q : Nat}
theorem u_F_pre {mc1 mm1 : q_Mem} (hc : u_fc t mc mc1) (hm : u_fm bk mm mm1) (h : u_F t bk mc1 mm1 mc' mm') : u_F t bk mc mm mc' mm' := ⟨h.1, u_fc_tr hc h.2.1, u_fm_tr hm h.2.2.1, h.2.2.2⟩
theorem u_fin {k' a' b' kd ct : Int} (hP : u_P V s l A) (hW : u_W V l) (hCd : u_C bk mm l d s (l 0 6)) (hx : u_ext l lr) (hWr : u_W V lr) (h6 : lr 0 6 = l 0 6) (h3 : lr 0 3 = l 0 3 + 1) (hkd : 0 ≤ kd ∧ kd ≤ 3) (hk0 : kd = 0 → 0 ≤ ct ∧ ct ≤ 999) (hk3 : kd = 3 → (0 ≤ ct ∧ ct < lr 0 4) ∧ (lr 5 ct = 0 → lr 6 ct = 0 → lr 4 ct < V - 1)) (hS : u_S T n t bk V ed f e (n_no lr kd ct 0) mc' mm' k' a' b' (w - j) (W - j)) (e92 : mm' 92 bk = l 0 6 + d + 1 + j) (ecd : mm' 100 (100 * bk + (l 0 6 + d)) = f_cd (n_no lr kd ct 0) (lr 0 6)) (e1205 : ∀ i : Int, 0 ≤ i → i < j → mm' 100 (100 * bk + (l 0 6 + d + 1 + i)) = 1205) (elow : ∀ i, i < l 0 6 + d → mm' 100 (100 * bk + i) = mm 100 (100 * bk + i)) (e105 : mm' 105 = mm 105) (hab : a + 1 ≤ a') (hfc : u_fc t mc mc') (hfm : u_fm bk mm mm') (hL : ∀ nn, f_Mod_readFormula_l15 (nn + 1) bk mny 1 1 mm = f_Mod_readFormula_l15 nn bk mny 0 1 mm') : u_oU T n t bk V ed mny d s f e A l mc mm a w W j (l 0 6) mc' := by
  obtain ⟨n1, n2, n3, n4, n5, n6, n7⟩ := n_no_e lr kd ct 0
  have hPr := u_P_ext hP hW hx h6
  have hcdr : u_cd bk mm lr d s (lr 0 6) := by
    rw [h6]
    exact u_cd_ext hx (Int.le_refl _) hCd.2 fun _ _ _ => rfl
  refine Or.inl ⟨n_no lr kd ct 0, mm', k', a', b', 1, hS, by omega, ⟨?_, u_ext_tr hx (n_no_x _ _ _ _), ⟨by omega, ?_⟩, elow, hfc, hfm⟩, ⟨by omega, ?_, fun i i0 i1 => ?_⟩, fun i _ => by rw [e105], hab, hL⟩
  · refine u_P_no hPr hWr (Or.inl ⟨by omega, by omega, ?_⟩) hk0 hk3
    rw [n2, Int.add_sub_cancel]
  · have := n1 3 (by decide)
    omega
  · rw [n2]
    exact u_cd_no hcdr (fun i hi => elow i (by omega)) (by rw [h6] at ecd ⊢; exact ecd)
  · rw [n2, h6, show l 0 6 + 1 + d + i = l 0 6 + d + 1 + i by omega]
    exact e1205 i i0 i1
theorem u_close (hb : bk = 0 ∨ bk = 1) (htL : t ∈ q_Lp) (hS : u_S T n t bk V ed f e l mc mm k a b (w + 1) (W + 1 + q)) (hk : k = 41) (hCd : u_C bk mm l d s (l 0 6 - q)) (hN : 0 ≤ l 0 6 - q ∧ l 0 6 ≤ 80) (hd : 0 ≤ d ∧ d ≤ 3) (hj : j ≤ 5) (hst : ∀ i : Int, 0 ≤ i → i < q → mm 105 (W + 1 + i) = f_cd l (l 0 6 - 1 - i) ∧ (1200 ≤ mm 105 (W + 1 + i) ∧ mm 105 (W + 1 + i) ≤ 1204)) (hp : mm 105 W = 1206) (hmi : u_mi mm j W) (hW : 0 ≤ W ∧ W + 1 + q ≤ 100) : ∃ mc' mm' r k' a' b', f_Pars_pass 41 mc = some (1, mc') ∧ f_Mod_close bk mm = some (r, mm') ∧ u_S T n t bk V ed f e l mc' mm' k' a' b' (w - j) (W - j) ∧ (mm' 92 bk = l 0 6 + d + j ∧ u_cd bk mm' l d s (l 0 6) ∧ ∀ i : Int, 0 ≤ i → i < j → mm' 100 (100 * bk + (l 0 6 + d + i)) = 1205) ∧ (∀ i, i < l 0 6 - q + d → mm' 100 (100 * bk + i) = mm 100 (100 * bk + i)) ∧ mm' 105 = mm 105 ∧ b ≤ a' ∧ u_fc t mc mc' ∧ u_fm bk mm mm' := by
  obtain ⟨⟨hcs, hms, hf0⟩, ⟨h253, h258, hl⟩, hnm, hRR, hWW, hl2, e39, e38, hft⟩ := hS
  have ht := u_Lp htL
  have eW : W + 1 + (q : Int) - q - 1 = W := by omega
  obtain ⟨r, mm', em, m1, m4, k', a', b', hlu, hfm, htk, hms4, hcm⟩ := m_close hb hms (C := l 0 6 - q + d) (W := W + 1 + q) (D := w + 1) (j := q) (j' := j) (by omega) (by omega) hCd.1 (by omega) (by have := hmi.1; omega) e38 e39 (fun i i0 i1 => by
    have := (hst (i - (W + 1)) (by omega) (by omega)).2
    rw [show W + 1 + (i - (W + 1)) = i by omega] at this
    omega) (by rw [eW]; exact hp) (by rw [eW]; exact hmi.2.1) (by rw [eW]; exact hmi.2.2)
  rw [eW, show w + 1 - 1 = w by omega] at hfm hcm
  obtain ⟨l1, l2, l3, l4, l5, l6, l7⟩ := hlu
  obtain ⟨v, mc', ec, hpass⟩ := c_pass hcs (q := 41) (by unfold v_sg; omega)
  rcases hpass with ⟨_, ev, fc, k1, a1, b1, ht1, hcs1⟩ | ⟨hk', _⟩
  rotate_left
  · exact absurd hk hk'
  obtain ⟨q1, q2, q3⟩ := v_tok_u htk ht1
  subst q1 q2 q3
  have e25 : mc' 25 = mc 25 := fc.1 25 (by decide)
  have fcell : ∀ c, c ≠ 81 → c ≠ 92 → c ≠ 100 → m4 c = mm c := fun c c1 c2 c3 => by rw [hfm.1 c c1, q_up_f c1, q_up_f c1, l1 c c1 c2 c3]
  have f81 : ∀ i, i < 23 ∨ 27 < i → i ≠ 38 → i ≠ 39 → m4 81 i = mm 81 i := fun i hi i38 i39 => by rw [hfm.2 i hi, q_up_i i39, q_up_i i38, l2 i i38]
  have f92 : m4 92 = m1 92 := by rw [hfm.1 92 (by decide), q_up_f (by decide), q_up_f (by decide)]
  have f100 : m4 100 = m1 100 := by rw [hfm.1 100 (by decide), q_up_f (by decide), q_up_f (by decide)]
  have hS4 : u_S T n t bk V ed f e l mc' m4 k' a' b' w W := by
    refine ⟨⟨hcs1, hms4, (f81 28 (by omega) (by decide) (by decide)).trans hf0⟩, ⟨by rw [e25]; exact h253, by rw [e25]; exact h258, (u_l_fr fun c c0 c1 => fc.1 c (by omega)).trans hl⟩, fun i i0 i1 => ?_, u_R_fr hRR fun c c0 c1 c2 => fcell c (by omega) c2 (by omega), hWW, hl2, ?_, ?_, by rw [e25]; exact hft.1, by rw [e25]; exact hft.2.1, (f81 29 (by omega) (by decide) (by decide)).trans hft.2.2⟩
    · rw [fc.1 26 (by decide), fc.1 27 (by decide), fcell 103 (by decide) (by decide) (by decide), fcell 104 (by decide) (by decide) (by decide)]
      exact hnm i i0 i1
    · rw [hfm.2 39 (by omega), q_up_s]
    · rw [hfm.2 38 (by omega), q_up_i (by decide), q_up_s]
  obtain ⟨hS', ⟨m92, m1205, m100, m105⟩, mfm⟩ := u_cm_S hS4 (C := l 0 6 - q + d + q) (by omega) (by omega) hcm
  have ab1 := htk.1
  refine ⟨mc', mm', r, k', a', b', by rw [ec, ev], em, hS', ⟨by omega, fun x x0 x1 => ?_, fun i i0 i1 => ?_⟩, fun i hi => ?_, ?_, ab1.1, u_fc_fr fc, u_fm_tr ?_ mfm⟩
  · rw [m100 (x + d) (by omega), f100]
    by_cases cx : x < l 0 6 - q
    · rw [l6 _ (by omega)]; exact hCd.2 x x0 cx
    · have h7 := l7 (x - (l 0 6 - q)) (by omega) (by omega)
      rw [show 100 * bk + (l 0 6 - (q : Int) + d) + (x - (l 0 6 - q)) = 100 * bk + (x + d) by omega] at h7
      rw [h7, show W + 1 + (q : Int) - 1 - (x - (l 0 6 - q)) = W + 1 + (l 0 6 - 1 - x) by omega, (hst (l 0 6 - 1 - x) (by omega) (by omega)).1, show l 0 6 - 1 - (l 0 6 - 1 - x) = x by omega]
  · have := m1205 i i0 i1
    rw [show l 0 6 - (q : Int) + d + q + i = l 0 6 + d + i by omega] at this
    exact this
  · rw [m100 i (by omega), f100, l6 _ (by omega)]
  · rw [m105, fcell 105 (by decide) (by decide) (by decide)]
  · refine ⟨fun c i c1 c2 c3 => ?_, fun i hi => f81 i (by omega) (by omega) (by omega)⟩
    by_cases e92 : c = 92
    · rw [e92, f92]; rw [e92] at c3; exact l4 i (by unfold u_ou at c3; omega)
    · by_cases e100 : c = 100
      · rw [e100, f100]; rw [e100] at c3; exact l6 i (by unfold u_ou at c3; omega)
      · rw [fcell c c1 e92 e100]
end unit2
