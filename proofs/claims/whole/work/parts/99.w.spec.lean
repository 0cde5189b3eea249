/-! THE PARSER: what units and chains do, in both -/
def u_P (V s : Int) (l : q_Mem) (A : List Int) : Prop := (0 ≤ s ∧ s ≤ l 0 6) ∧ f_stk l s (l 0 6 - s).toNat A ∧ u_nd V s l
def u_C (bk : Int) (mm l : q_Mem) (d s N : Int) : Prop := mm 92 bk = N + d ∧ u_cd bk mm l d s N
def u_mi (mm : q_Mem) (j : Nat) (W : Int) : Prop := (j : Int) ≤ W ∧ (∀ i, W - j ≤ i → i < W → mm 105 i = 1205) ∧ (W = j ∨ (j < W ∧ (1200 ≤ mm 105 (W - 1 - j) ∧ mm 105 (W - 1 - j) ≤ 1210) ∧ mm 105 (W - 1 - j) ≠ 1205))
def u_tp (mm : q_Mem) (lv W : Int) : Prop := W = 0 ∨ (0 < W ∧ (1200 ≤ mm 105 (W - 1) ∧ mm 105 (W - 1) ≤ 1210) ∧ mm 105 (W - 1) ≠ 1205 ∧ v_bd (mm 105 (W - 1)) ≤ lv)
def u_G (t bk V d s : Int) (A : List Int) (l mc mm l' mc' mm' : q_Mem) : Prop := u_P V s l' ((l' 0 6 - 1) :: A) ∧ u_ext l l' ∧ (l 0 6 < l' 0 6 ∧ l' 0 6 - l 0 6 + 1 ≤ 2 * (l' 0 3 - l 0 3)) ∧ (∀ i, i < l 0 6 + d → mm' 100 (100 * bk + i) = mm 100 (100 * bk + i)) ∧ u_fc t mc mc' ∧ u_fm bk mm mm'
def u_X (n t bk mny a : Int) (mc mm mc' : q_Mem) (v : Int) : Prop := v = -1 ∧ ∃ (mm' : q_Mem) (p : Nat), u_F t bk mc mm mc' mm' ∧ a + p ≤ n + 2 ∧ ∀ nn, f_Mod_readFormula_l15 (nn + p) bk mny 1 1 mm = some (0, mm')
def u_oU (T : Int → Int) (n t bk V ed mny d s : Int) (f e : Int → Int) (A : List Int) (l mc mm : q_Mem) (a w W : Int) (j : Nat) (v : Int) (mc' : q_Mem) : Prop := (∃ l' mm' k' a' b', ∃ p : Nat, u_S T n t bk V ed f e l' mc' mm' k' a' b' (w - j) (W - j) ∧ v = l' 0 6 - 1 ∧ u_G t bk V d s A l mc mm l' mc' mm' ∧ (mm' 92 bk = l' 0 6 + d + j ∧ u_cd bk mm' l' d s (l' 0 6) ∧ ∀ i : Int, 0 ≤ i → i < j → mm' 100 (100 * bk + (l' 0 6 + d + i)) = 1205) ∧ (∀ i, i < W - j → mm' 105 i = mm 105 i) ∧ a + p ≤ a' ∧ ∀ nn, f_Mod_readFormula_l15 (nn + p) bk mny 1 1 mm = f_Mod_readFormula_l15 nn bk mny 0 1 mm') ∨ u_X n t bk mny a mc mm mc' v
def u_spU (T : Int → Int) (n t bk V ed mny d s : Int) (f e : Int → Int) (g : Int → q_Mem → q_Res) (w : Int) : Prop := ∀ (l mc mm : q_Mem) (k a b W : Int) (j : Nat) (A : List Int), u_S T n t bk V ed f e l mc mm k a b w W → u_P V s l A → u_C bk mm l d s (l 0 6) → u_mi mm j W → (j : Int) ≤ w → W ≤ 4 * w + 3 → q_ok (g w mc) (fun v mc' => u_oU T n t bk V ed mny d s f e A l mc mm a w W j v mc')
def u_oC (T : Int → Int) (n t bk V ed mny d s : Int) (f e : Int → Int) (A : List Int) (l mc mm : q_Mem) (lv a w W v : Int) (mc' : q_Mem) : Prop := (∃ l' mm' k' a' b', ∃ p q : Nat, u_S T n t bk V ed f e l' mc' mm' k' a' b' w (W + q) ∧ v = l' 0 6 - 1 ∧ u_G t bk V d s A l mc mm l' mc' mm' ∧ (u_C bk mm' l' d s (l' 0 6 - q) ∧ l 0 6 < l' 0 6 - q) ∧ (∀ i : Int, 0 ≤ i → i < q → mm' 105 (W + i) = f_cd l' (l' 0 6 - 1 - i) ∧ (1200 ≤ mm' 105 (W + i) ∧ mm' 105 (W + i) ≤ 1204) ∧ lv + 1 ≤ v_bd (mm' 105 (W + i))) ∧ (∀ i, i < W → mm' 105 i = mm 105 i) ∧ q + lv ≤ 3 ∧ (∀ lv', lv ≤ lv' → lv' ≤ 2 → v_jn lv' k' = -1) ∧ a + p ≤ a' ∧ ∀ nn, f_Mod_readFormula_l15 (nn + p) bk mny 1 1 mm = f_Mod_readFormula_l15 nn bk mny 0 1 mm') ∨ u_X n t bk mny a mc mm mc' v
def u_spC (T : Int → Int) (n t bk V ed mny d s : Int) (f e : Int → Int) (g : Int → Int → q_Mem → q_Res) (lv w : Int) : Prop := ∀ (l mc mm : q_Mem) (k a b W : Int) (A : List Int), u_S T n t bk V ed f e l mc mm k a b w W → u_P V s l A → u_C bk mm l d s (l 0 6) → u_tp mm lv W → 0 ≤ W → W ≤ 4 * w + lv → q_ok (g lv w mc) (fun v mc' => u_oC T n t bk V ed mny d s f e A l mc mm lv a w W v mc')
section spec
variable {T : Int → Int} {n t bk V ed mny d s k a b w W C : Int} {f e : Int → Int} {l l' lr mc mm mm' : q_Mem} {A B : List Int} {j : Nat}
theorem u_P_ext (h : u_P V s l A) (hW : u_W V l) (hx : u_ext l l') (h6 : l' 0 6 = l 0 6) : u_P V s l' A := by
  obtain ⟨h1, h2, h3⟩ := h
  refine ⟨by omega, ?_, fun k k0 k1 => u_ext_nd hx hW ⟨k0, by omega⟩ h3⟩
  rw [h6]
  exact u_ext_stk hx (by omega) h2
theorem u_P_no {x y z : Int} (h : u_P V s l A) (hW : u_W V l) (hsp : f_sp (n_no l x y z) (l 0 6) A B) (h0 : x = 0 → 0 ≤ y ∧ y ≤ 999) (h3 : x = 3 → (0 ≤ y ∧ y < l 0 4) ∧ (l 5 y = 0 → l 6 y = 0 → l 4 y < V - 1)) : u_P V s (n_no l x y z) B := by
  obtain ⟨e1, e2, e3, e4, e5, e6, e7⟩ := n_no_e l x y z
  refine ⟨by have := h.1; omega, f_stk_push h.1.2 h.2.1 hsp, fun k k0 k1 => ?_⟩
  by_cases c : k = l 0 6
  · rw [c, e5, e6, e1 4 (by decide), e3 4 (by decide) (by decide) (by decide) (by decide), e3 5 (by decide) (by decide) (by decide) (by decide), e3 6 (by decide) (by decide) (by decide) (by decide)]
    exact ⟨h0, h3⟩
  · exact u_ext_nd (n_no_x l x y z) hW ⟨k0, by omega⟩ h.2.2
theorem f_cd_no (x y z : Int) : f_cd (n_no l x y z) (l 0 6) = if x = 0 then y else if x = 1 then 1000 else if x = 2 then 1001 else if x = 3 then 1100 + y else if x = 4 then 1205 else x + 1195 := by
  obtain ⟨e1, e2, e3, e4, e5, e6, e7⟩ := n_no_e l x y z
  unfold f_cd
  rw [e5, e6]
theorem u_cd_no {x y z : Int} (hc : u_cd bk mm l d s (l 0 6)) (he : ∀ i, i < l 0 6 + d → mm' 100 (100 * bk + i) = mm 100 (100 * bk + i)) (hv : mm' 100 (100 * bk + (l 0 6 + d)) = f_cd (n_no l x y z) (l 0 6)) : u_cd bk mm' (n_no l x y z) d s (l 0 6 + 1) := by
  intro k k0 k1
  by_cases c : k = l 0 6
  · rw [c]; exact hv
  · rw [he _ (by omega), u_ext_cd (n_no_x l x y z) (by omega)]
    exact hc k k0 (by omega)
theorem u_units (htL : t ∈ q_Lp) (h : u_S T n t bk V ed f e l mc mm k a b w W) (hu : l 0 3 < 40) : u_S T n t bk V ed f e (n_un l) (q_up mc t 3 (l 0 3 + 1)) (q_up mm 85 bk (l 0 3 + 1)) k a b w W := by
  obtain ⟨⟨hcs, hms, hf0⟩, ⟨h253, h258, hl⟩, hnm, hRR, hW, hl2, e39, e38, hft⟩ := h
  have ht := u_Lp htL
  obtain ⟨n1, n2, n3⟩ := n_un_e l
  refine ⟨⟨v_cs_fr hcs (q_up_f (by omega)) (q_up_f (by omega)), v_ms_fr hms (fun j _ _ => q_up_c (by decide)) (q_up_f (by decide)) (q_up_f (by decide)), by rw [q_up_c (by decide)]; exact hf0⟩, ⟨by rw [q_up_c (by omega)]; exact h253, by rw [q_up_c (by omega)]; exact h258, ?_⟩, fun i i0 i1 => ?_, u_R_of hRR (by rw [q_up_s, n2]) (n1 4 (by decide)) (n1 5 (by decide)) (fun j j0 _ => n3 j (by omega)) ⟨q_up_f (by decide), q_up_f (by decide)⟩ (fun c c0 _ => q_up_f (by omega)), u_W_un hW hu, by rw [n1 2 (by decide)]; exact hl2, by rw [q_up_c (by decide)]; exact e39, by rw [q_up_c (by decide)]; exact e38, by rw [q_up_c (by omega)]; exact hft.1, by rw [q_up_c (by omega)]; exact hft.2.1, by rw [q_up_c (by decide)]; exact hft.2.2⟩
  · rw [u_l_up0, hl]; rfl
  · rw [q_up_c (by omega), q_up_c (by omega), q_up_c (by decide), q_up_c (by decide)]
    exact hnm i i0 i1
/-- the waiting minuses are laid -/
theorem u_cm_S (h : u_S T n t bk V ed f e l mc mm k a b w W) (hC : 0 ≤ C) (hCj : C + j ≤ 100) (hcm : v_cm mm mm' bk C W w j) : u_S T n t bk V ed f e l mc mm' k a b (w - j) (W - j) ∧ (mm' 92 bk = C + j ∧ (∀ i : Int, 0 ≤ i → i < j → mm' 100 (100 * bk + (C + i)) = 1205) ∧ (∀ i, i < C → mm' 100 (100 * bk + i) = mm 100 (100 * bk + i)) ∧ mm' 105 = mm 105) ∧ u_fm bk mm mm' := by
  obtain ⟨⟨hcs, hms, hf0⟩, h25, hnm, hRR, hW, hl2, e39, e38, hft⟩ := h
  obtain ⟨c1, c2, c3, c4, c5, c6, c7, c8⟩ := hcm
  refine ⟨⟨⟨hcs, v_ms_fr hms (fun j _ _ => c2 j (by omega) (by omega)) (c1 101 (by decide) (by decide) (by decide)) (c1 102 (by decide) (by decide) (by decide)), (c2 28 (by decide) (by decide)).trans hf0⟩, h25, fun i i0 i1 => ?_, u_R_fr hRR fun c c0 _ c92 => c1 c (by omega) c92 (by omega), hW, hl2, c4, c3, hft.1, hft.2.1, (c2 29 (by decide) (by decide)).trans hft.2.2⟩, ⟨c6, fun i i0 i1 => c8 _ (by omega) (by omega), fun i hi => c7 _ (by omega), c1 105 (by decide) (by decide) (by decide)⟩, fun c i d1 d2 d3 => ?_, fun i hi => c2 i (by omega) (by omega)⟩
  · rw [c1 103 (by decide) (by decide) (by decide), c1 104 (by decide) (by decide) (by decide)]
    exact hnm i i0 i1
  · by_cases e92 : c = 92
    · rw [e92]; rw [e92] at d3; exact c5 i (by unfold u_ou at d3; omega)
    · by_cases e100 : c = 100
      · rw [e100]; rw [e100] at d3; exact c7 i (by unfold u_ou at d3; omega)
      · rw [c1 c d1 e92 e100]
theorem u_cmin (hb : bk = 0 ∨ bk = 1) (h : u_S T n t bk V ed f e l mc mm k a b w W) (e92 : mm 92 bk = C) (hC : 0 ≤ C) (hCj : C + j ≤ 100) (hmi : u_mi mm j W) (hW : W ≤ 100) : ∃ mm', f_Mod_readUnit_b296 bk mm = some (0, mm') ∧ u_S T n t bk V ed f e l mc mm' k a b (w - j) (W - j) ∧ (mm' 92 bk = C + j ∧ (∀ i : Int, 0 ≤ i → i < j → mm' 100 (100 * bk + (C + i)) = 1205) ∧ (∀ i, i < C → mm' 100 (100 * bk + i) = mm 100 (100 * bk + i)) ∧ mm' 105 = mm 105) ∧ u_fm bk mm mm' := by
  obtain ⟨r, mm', ec, hcm⟩ := m_closeMinus hb (m := mm) (C := C) (W := W) (D := w) (j := j) hC hCj e92 hW hmi.1 h.2.2.2.2.2.2.2.1 h.2.2.2.2.2.2.1 hmi.2.1 hmi.2.2
  refine ⟨mm', ?_, u_cm_S h hC hCj hcm⟩
  unfold f_Mod_readUnit_b296
  rw [h.1.2.2, x_w0, if_pos rfl, ec, x_bd, x_rz0]
/-- a number, i or j -/
theorem u_leaf (htL : t ∈ q_Lp) (hb : bk = 0 ∨ bk = 1) (h : u_S T n t bk V ed f e l mc mm k a b w W) (e92 : mm 92 bk = C) (hC : 0 ≤ C) (hCj : C + j ≤ 98) (hmi : u_mi mm j W) (hW : W ≤ 100) (hN : l 0 6 + 1 ≤ 2 * l 0 3) {kd ct cd : Int} : ∃ mc' mm' k' a' b', f_Pars_leaf kd ct mc = some (l 0 6, mc') ∧ f_Mod_readUnit_b289 bk bk cd mm = some (0, mm') ∧ u_S T n t bk V ed f e (n_no l kd ct 0) mc' mm' k' a' b' (w - j) (W - j) ∧ (mm' 92 bk = C + 1 + j ∧ mm' 100 (100 * bk + C) = cd ∧ (∀ i : Int, 0 ≤ i → i < j → mm' 100 (100 * bk + (C + 1 + i)) = 1205) ∧ (∀ i, i < C → mm' 100 (100 * bk + i) = mm 100 (100 * bk + i)) ∧ mm' 105 = mm 105) ∧ b ≤ a' ∧ u_fc t mc mc' ∧ u_fm bk mm mm' := by
  obtain ⟨⟨hcs, hms, hf0⟩, ⟨h253, h258, hl⟩, hnm, hRR, hWW, hl2, e39, e38, hft⟩ := h
  have ht := u_Lp htL
  have W1 := hWW.1
  have W4 := hWW.2.2.2.1
  obtain ⟨r1, mc1, en1, fc1, k1, a1, b1, ht1, hcs1⟩ := c_next hcs
  have hl1 : u_l t mc1 = l := (u_l_fr fun c c0 c1 => fc1.1 c (by omega)).trans hl
  have e25 : mc1 25 = mc 25 := fc1.1 25 (by decide)
  have e6 : mc1 t 6 = l 0 6 := by rw [← u_l_0 t mc1, hl1]
  have ad := c_addNode (m := mc1) (w := kd) (x := ct) (y := 0) htL (N := l 0 6) (by omega) e6
  have ad' : f_Loop_addNode t kd ct 0 mc1 = some (l 0 6, v_no mc1 t (l 0 6) kd ct 0) := ad
  -- the model lays and goes on
  have la := m_lay (m := mm) (v := cd) hb (C := C) (by omega) e92
  have hms' : v_ms (q_up (q_up mm 100 (100 * bk + C) cd) 92 bk (C + 1)) T n k a b := v_ms_fr hms (fun j _ _ => by rw [q_up_c (by decide), q_up_c (by decide)]) (by rw [q_up_f (by decide), q_up_f (by decide)]) (by rw [q_up_f (by decide), q_up_f (by decide)])
  obtain ⟨r2, mm1, en2, fm1, k2, a2, b2, ht2, hms1⟩ := m_next hms'
  obtain ⟨q1, q2, q3⟩ := v_tok_u ht1 ht2
  subst q1 q2 q3
  have fcell : ∀ c, c ≠ 81 → c ≠ 92 → c ≠ 100 → mm1 c = mm c := fun c c1 c2 c3 => by rw [fm1.1 c c1, q_up_f c2, q_up_f c3]
  have f81 : ∀ i, i < 23 ∨ 27 < i → mm1 81 i = mm 81 i := fun i hi => by rw [fm1.2 i hi, q_up_c (by decide), q_up_c (by decide)]
  have g92 : mm1 92 bk = C + 1 := by rw [fm1.1 92 (by decide), q_up_s]
  have g100 : ∀ i, mm1 100 i = if i = 100 * bk + C then cd else mm 100 i := by
    intro i
    rw [fm1.1 100 (by decide), q_up_c (by decide)]
    by_cases c : i = 100 * bk + C
    · rw [if_pos c, c, q_up_s]
    · rw [if_neg c, q_up_i c]
  have ab1 := ht1.1
  have cno : ∀ c, c < t ∨ t + 9 < c → v_no mc1 t (l 0 6) kd ct 0 c = mc1 c := fun c hc => v_no_f (by omega) (by omega) (by omega) (by omega)
  have hS1 : u_S T n t bk V ed f e (n_no l kd ct 0) (v_no mc1 t (l 0 6) kd ct 0) mm1 k1 a1 b1 w W := by
    refine ⟨⟨v_cs_fr hcs1 (cno 1 (by omega)) (cno 2 (by omega)), hms1, (f81 28 (by omega)).trans hf0⟩, ⟨by rw [cno 25 (by omega), e25]; exact h253, by rw [cno 25 (by omega), e25]; exact h258, by rw [n_no_l e6, hl1]⟩, fun i i0 i1 => ?_, u_R_no (u_R_fr hRR fun c c0 c1 c2 => fcell c (by omega) c2 (by omega)), u_W_no hWW hN, by rw [(n_no_e l kd ct 0).1 2 (by decide)]; exact hl2, (f81 39 (by omega)).trans e39, (f81 38 (by omega)).trans e38, by rw [cno 25 (by omega), e25]; exact hft.1, by rw [cno 25 (by omega), e25]; exact hft.2.1, (f81 29 (by omega)).trans hft.2.2⟩
    rw [cno 26 (by omega), cno 27 (by omega), fc1.1 26 (by decide), fc1.1 27 (by decide), fcell 103 (by decide) (by decide) (by decide), fcell 104 (by decide) (by decide) (by decide)]
    exact hnm i i0 i1
  have hmi1 : u_mi mm1 j W := by
    unfold u_mi at *
    rw [fcell 105 (by decide) (by decide) (by decide)]
    exact hmi
  obtain ⟨mm', ec, hS', ⟨m92, m1205, m100, m105⟩, mfm⟩ := u_cmin hb hS1 g92 (by omega) (by omega) hmi1 hW
  have fmm : u_fm bk mm mm1 := by
    refine u_fm_tr (u_fm_tr (u_fm_up (Or.inr (Or.inr ⟨by decide, ?_⟩))) (u_fm_up (Or.inr (Or.inr ⟨by decide, ?_⟩)))) (u_fm_fm fm1)
    · unfold u_ou; omega
    · unfold u_ou; omega
  refine ⟨v_no mc1 t (l 0 6) kd ct 0, mm', k1, a1, b1, ?_, ?_, hS', ⟨m92, ?_, m1205, fun i hi => ?_, ?_⟩, ab1.1, ⟨fun c c1 c2 c3 => by rw [cno c c3, fc1.1 c c1], fun i hi => by rw [cno 1 (by omega), fc1.2 i hi], fun i _ => by rw [cno 25 (by omega), e25]⟩, u_fm_tr fmm mfm⟩
  · unfold f_Pars_leaf
    rw [en1, x_bd, x_lt, e25, h253, x_one htL, ad', x_bd, x_rt]
  · unfold f_Mod_readUnit_b289
    rw [la, x_bd, en2, x_bd, ec]
  · rw [m100 C (by omega), g100, if_pos rfl]
  · rw [m100 i (by omega), g100, if_neg (by omega)]
  · rw [m105, fcell 105 (by decide) (by decide) (by decide)]
/-- a bracket or a minus is opened -/
theorem u_open (hb : bk = 0 ∨ bk = 1) (htL : t ∈ q_Lp) (h : u_S T n t bk V ed f e l mc mm k a b w W) (hW : 0 ≤ W ∧ W < 100) {c : Int} : ∃ r mc' mm' k' a' b', f_Tape_step mc = some (r, mc') ∧ f_Mod_readUnit_b213 c mm = some (1, mm') ∧ u_S T n t bk V ed f e l mc' mm' k' a' b' (w + 1) (W + 1) ∧ (mm' 92 = mm 92 ∧ mm' 100 = mm 100 ∧ mm' 105 W = c ∧ ∀ i, i ≠ W → mm' 105 i = mm 105 i) ∧ b ≤ a' ∧ u_fc t mc mc' ∧ u_fm bk mm mm' := by
  obtain ⟨⟨hcs, hms, hf0⟩, ⟨h253, h258, hl⟩, hnm, hRR, hWW, hl2, e39, e38, hft⟩ := h
  have ht := u_Lp htL
  obtain ⟨r1, mc1, en1, fc1, k1, a1, b1, ht1, hcs1⟩ := c_next hcs
  have hl1 : u_l t mc1 = l := (u_l_fr fun c c0 c1 => fc1.1 c (by omega)).trans hl
  have e25 : mc1 25 = mc 25 := fc1.1 25 (by decide)
  have pu := m_push (m := mm) (v := c) (W := W) (by omega) e38
  have g39 : q_up (q_up mm 105 W c) 81 38 (W + 1) 81 39 = w := by rw [q_up_i (by decide), q_up_c (by decide)]; exact e39
  have hms' : v_ms (q_up (q_up (q_up mm 105 W c) 81 38 (W + 1)) 81 39 (w + 1)) T n k a b := v_ms_fr hms (fun j _ _ => by rw [q_up_i (by omega), q_up_i (by omega), q_up_c (by decide)]) (by rw [q_up_f (by decide), q_up_f (by decide), q_up_f (by decide)]) (by rw [q_up_f (by decide), q_up_f (by decide), q_up_f (by decide)])
  obtain ⟨r2, mm1, en2, fm1, k2, a2, b2, ht2, hms1⟩ := m_next hms'
  obtain ⟨q1, q2, q3⟩ := v_tok_u ht1 ht2
  subst q1 q2 q3
  have fcell : ∀ c, c ≠ 81 → c ≠ 105 → mm1 c = mm c := fun c c1 c2 => by rw [fm1.1 c c1, q_up_f c1, q_up_f c1, q_up_f c2]
  refine ⟨r1, mc1, mm1, k1, a1, b1, en1, ?_, ⟨⟨hcs1, hms1, ?_⟩, ⟨by rw [e25]; exact h253, by rw [e25]; exact h258, hl1⟩, fun i i0 i1 => ?_, u_R_fr hRR fun c c0 c1 _ => fcell c (by omega) (by omega), hWW, hl2, ?_, ?_, by rw [e25]; exact hft.1, by rw [e25]; exact hft.2.1, ?_⟩, ⟨fcell 92 (by decide) (by decide), fcell 100 (by decide) (by decide), ?_, fun i hi => ?_⟩, ht1.1.1, u_fc_fr fc1, ?_⟩
  · unfold f_Mod_readUnit_b213
    rw [pu, x_bd, x_pf, g39, en2, x_bd, x_rz1]
  · rw [fm1.2 28 (by omega), q_up_i (by decide), q_up_i (by decide), q_up_c (by decide)]; exact hf0
  · rw [fc1.1 26 (by decide), fc1.1 27 (by decide), fcell 103 (by decide) (by decide), fcell 104 (by decide) (by decide)]
    exact hnm i i0 i1
  · rw [fm1.2 39 (by omega), q_up_s]
  · rw [fm1.2 38 (by omega), q_up_i (by decide), q_up_s]
  · rw [fm1.2 29 (by omega), q_up_i (by decide), q_up_i (by decide), q_up_c (by decide)]; exact hft.2.2
  · rw [fm1.1 105 (by decide), q_up_c (by decide), q_up_c (by decide), q_up_s]
  · rw [fm1.1 105 (by decide), q_up_c (by decide), q_up_c (by decide), q_up_i hi]
  · exact u_fm_tr (u_fm_tr (u_fm_tr (u_fm_up (Or.inr (Or.inl rfl))) (u_fm_up (Or.inl ⟨rfl, by omega⟩))) (u_fm_up (Or.inl ⟨rfl, by omega⟩))) (u_fm_fm fm1)
end spec
