/-! THE PARSER: a read, in both -/
/-- both found the same fault -/
def u_F (t bk : Int) (mc mm mc' mm' : q_Mem) : Prop := (∃ F P, (1 ≤ F ∧ F ≤ 4) ∧ (mc' 25 4 = F ∧ mc' 25 5 = P) ∧ mm' 81 28 = F ∧ mm' 81 29 = P) ∧ u_fc t mc mc' ∧ u_fm bk mm mm' ∧ (0 ≤ mm' 92 bk ∧ mm' 92 bk ≤ 95) ∧ 0 ≤ mm' 81 26 ∧ mm' 81 26 ≤ 9999
def u_rdl (V : Int) (l l' : q_Mem) : Prop := ∃ lr, u_ext l lr ∧ u_W V lr ∧ (lr 0 3 = l 0 3 ∧ lr 0 6 = l 0 6 ∧ lr 0 4 = l 0 4 + 1) ∧ (lr 5 (l 0 4) = 0 → lr 6 (l 0 4) = 0 → lr 4 (l 0 4) < V - 1) ∧ l' = n_no lr 3 (l 0 4) 0
section readb
variable {m : q_Mem} {bk t : Int}
theorem m_signed2 (hf : 1 ≤ m 81 28 ∧ m 81 28 ≤ 4) (hr : 0 ≤ m 81 26 ∧ m 81 26 ≤ 9999) {lo hi : Int} (hlo : -10 ≤ lo ∧ lo ≤ 10) (hhi : -10 ≤ hi ∧ hi ≤ 10) : f_Mod_signed lo hi m = some (m 81 26, m) := by
  have b44 : f_Mod_signed_b44 lo hi (m 81 26) m = some (m 81 26, m) := by
    unfold f_Mod_signed_b44
    rw [m_isIn (by omega) (by omega) (by omega), x_bd]
    by_cases c : lo ≤ m 81 26 ∧ m 81 26 ≤ hi
    · rw [if_pos c, x_w1, if_neg (by decide), x_rt]
    · rw [if_neg c, x_w0, if_pos rfl, m_fail1 hf, x_bd, x_rt]
  have b28 : f_Mod_signed_b28 lo hi 0 m = some (m 81 26, m) := by
    unfold f_Mod_signed_b28
    rw [x_w0, if_pos rfl]
    exact b44
  unfold f_Mod_signed f_Mod_signed_b15
  rw [m_isAt1 hf, x_bd, x_w0, if_pos rfl]
  by_cases c : q_w (m 81 25) = 3
  · rw [if_pos c]; exact b28
  · rw [if_neg c, m_fail1 hf, x_bd]; exact b28
theorem m_rdrest {vr l x : Int} (hf : 1 ≤ m 81 28 ∧ m 81 28 ≤ 4) (hr : 0 ≤ m 81 26 ∧ m 81 26 ≤ 9999) : (q_bd (f_Mod_signed (-3) 3 m) fun v2 m3 =>
  if q_w vr = q_w l then (if q_w x = 0 then (if q_w v2 = 0 then (q_bd (f_Mod_fail 2 m3) fun _ m4 =>
  f_Mod_readRead_b65 bk vr x v2 m4)
  else (f_Mod_readRead_b65 bk vr x v2 m3))
  else (f_Mod_readRead_b65 bk vr x v2 m3))
  else (f_Mod_readRead_b65 bk vr x v2 m3)) = some (0, m) := by
  rw [m_signed2 hf hr (by omega) (by omega), x_bd]
  by_cases c1 : q_w vr = q_w l
  · rw [if_pos c1]
    by_cases c2 : q_w x = 0
    · rw [if_pos c2]
      by_cases c3 : q_w (m 81 26) = 0
      · rw [if_pos c3, m_fail1 hf, x_bd, m_rd651 hf]
      · rw [if_neg c3, m_rd651 hf]
    · rw [if_neg c2, m_rd651 hf]
  · rw [if_neg c1, m_rd651 hf]
theorem m_rd302 {vr l x : Int} (hf : 1 ≤ m 81 28 ∧ m 81 28 ≤ 4) (hr : 0 ≤ m 81 26 ∧ m 81 26 ≤ 9999) : f_Mod_readRead_b30 bk vr l x m = some (0, m) := by
  unfold f_Mod_readRead_b30
  rw [m_need1 hf, x_bd]
  exact m_rdrest hf hr
theorem m_rd40 {vr l : Int} (hf : 1 ≤ m 81 28 ∧ m 81 28 ≤ 4) (hr : 0 ≤ m 81 26 ∧ m 81 26 ≤ 9999) : (q_bd (f_Mod_signed (-3) 3 m) fun v3 m4 =>
  if q_w (m4 81 28) = 0 then (q_bd (f_Mod_scan m4) fun _ m5 =>
  f_Mod_readRead_b30 bk vr l v3 m5)
  else (f_Mod_readRead_b30 bk vr l v3 m4)) = some (0, m) := by
  rw [m_signed2 hf hr (by omega) (by omega), x_bd, q_w_id (x := m 81 28) (by omega) (by omega), if_neg (by omega), m_rd302 hf hr]
theorem v_no_f {N w x y d : Int} (h : d ≠ t) (h7 : d ≠ t + 7) (h8 : d ≠ t + 8) (h9 : d ≠ t + 9) : v_no m t N w x y d = m d := by
  unfold v_no
  rw [q_up_f h, q_up_f h9, q_up_f h8, q_up_f h7]
theorem v_of_f {N x y d : Int} (h : d ≠ t) (h2 : d ≠ t + 2) (h3 : d ≠ t + 3) : v_of m t N x y d = m d := by
  unfold v_of
  rw [q_up_f h, q_up_f h3, q_up_f h2]
theorem v_ow_f {N x y d : Int} (h1 : d ≠ 96) (h2 : d ≠ 97) (h3 : d ≠ 87) : v_ow m bk N x y d = m d := by
  unfold v_ow
  rw [q_up_f h3, q_up_f h2, q_up_f h1]
theorem u_R_no {l : q_Mem} {w x y : Int} (h : u_R bk m l) : u_R bk m (n_no l w x y) := by
  obtain ⟨h1, h2, h3, h4, _⟩ := n_no_e l w x y
  exact u_R_of h (by rw [h1 3 (by decide)]; exact h.1.1) (h1 4 (by decide)) (h1 5 (by decide)) (fun j j0 j6 => h3 j (by omega) (by omega) (by omega) (by omega)) ⟨rfl, rfl⟩ fun _ _ _ => rfl
theorem v_rr_92 {R C vr x y : Int} : v_rr m bk R C vr x y 92 bk = C + 1 := by
  unfold v_rr
  rw [q_up_c (by decide), q_up_s]
theorem v_rr_100 {R C vr x y : Int} : v_rr m bk R C vr x y 100 (100 * bk + C) = 1100 + R ∧ ∀ i, i ≠ 100 * bk + C → v_rr m bk R C vr x y 100 i = m 100 i := by
  unfold v_rr
  refine ⟨?_, fun i hi => ?_⟩
  · rw [q_up_c (by decide), q_up_c (by decide), q_up_s]
  · rw [q_up_c (by decide), q_up_c (by decide), q_up_i hi, q_up_c (by decide), q_up_c (by decide), q_up_c (by decide)]
theorem u_fm_rr {R C vr x y : Int} (hR : 0 ≤ R ∧ R < 12) (hC : 0 ≤ C ∧ C < 100) : u_fm bk m (v_rr m bk R C vr x y) := by
  unfold v_rr
  refine u_fm_tr (u_fm_tr (u_fm_tr (u_fm_tr (u_fm_tr (u_fm_up ?_) (u_fm_up ?_)) (u_fm_up ?_)) (u_fm_up ?_)) (u_fm_up ?_)) (u_fm_up ?_) <;> exact Or.inr (Or.inr ⟨by decide, by unfold u_ou; omega⟩)
theorem u_fm_ow {N x y : Int} (hN : 0 ≤ N ∧ N < 12) : u_fm bk m (v_ow m bk N x y) := by
  unfold v_ow
  refine u_fm_tr (u_fm_tr (u_fm_up ?_) (u_fm_up ?_)) (u_fm_up ?_) <;> exact Or.inr (Or.inr ⟨by decide, by unfold u_ou; omega⟩)
theorem v_kn_c {cnt a c : Int} {A B A' B' : Int → Int} (hA : ∀ o, 0 ≤ o → o < cnt → A o = A' o ∧ B o = B' o) (h : v_kn cnt A B a c) : v_kn cnt A' B' a c := by
  rcases h with h | ⟨o, ho, e1, e2⟩
  · exact Or.inl h
  · have := hA o ho.1 ho.2
    exact Or.inr ⟨o, ho, this.1 ▸ e1, this.2 ▸ e2⟩
end readb
section readb3
variable {T : Int → Int} {n t bk V ed mny k a b w W x x1 y1 C : Int} {f e : Int → Int} {l mc mm : q_Mem}
/-- a read's outcome -/
def u_RO (T : Int → Int) (n t bk V ed : Int) (f e : Int → Int) (l mc mm : q_Mem) (b w W C v : Int) (mc' mm' : q_Mem) : Prop := (v = l 0 6 ∧ ∃ l' k' a' b', u_S T n t bk V ed f e l' mc' mm' k' a' b' w W ∧ u_rdl V l l' ∧ (mm' 92 bk = C + 1 ∧ mm' 100 (100 * bk + C) = 1100 + l 0 4 ∧ (∀ i, i ≠ 100 * bk + C → mm' 100 i = mm 100 i) ∧ mm' 105 = mm 105) ∧ b ≤ a' ∧ u_fc t mc mc' ∧ u_fm bk mm mm') ∨ (v = -1 ∧ u_F t bk mc mm mc' mm')
theorem u_read3 {k0 a0 b0 k1 a1 b1 : Int} (htL : t ∈ q_Lp) (hb : bk = 0 ∨ bk = 1) (hcs : v_cs mc T n k1 a1 b1) (hms : v_ms mm T n k0 a0 b0) (htk : v_tok T n b0 k1 a1 b1) (hf0 : mm 81 28 = 0) (h25 : mc 25 3 = t ∧ mc 25 8 = ed ∧ u_l t mc = l) (hnm : ∀ j, 0 ≤ j → j < V → (mc 26 j = f j ∧ mc 27 j = e j) ∧ mm 103 j = f j ∧ mm 104 j = e j - f j) (hRR : u_R bk mm l) (hW : u_W V l) (hl2 : l 0 2 = V) (e3 : mm 81 39 = w ∧ mm 81 38 = W ∧ u_ft mc mm) (hxr : 0 ≤ x ∧ x < V) (hx1 : -3 ≤ x1 ∧ x1 ≤ 3) (hy1 : -3 ≤ y1 ∧ y1 ≤ 3) (hz : ¬ (x1 = 0 ∧ y1 = 0 ∧ x = V - 1)) (hR : l 0 4 < 12) (hN : l 0 6 + 1 ≤ 2 * l 0 3) (e92 : mm 92 bk = C) (hC : 0 ≤ C ∧ C ≤ 90) (hb1 : b ≤ a1) : q_2 (f_Pars_readUnit_b97 x x1 y1 mc) (f_Mod_readRead_b65 bk x x1 y1 mm) (u_RO T n t bk V ed f e l mc mm b w W C) := by
  have ht := u_Lp htL
  have W1 := hW.1
  have W2 := hW.2.1
  have W3 := hW.2.2.1
  have W4 := hW.2.2.2.1
  obtain ⟨r, mm', em, m2, k1', a1', b1', fs, ht', hcase, hrec⟩ := m_rd65 hb hms hf0 (R := l 0 4) (C := C) (cnt := l 0 5) (vr := x) (x := x1) (y := y1) (by omega) hRR.1.2.1 (by omega) e92 (by omega) hRR.1.2.2 hx1 hy1 (fun o o0 o1 => by
    have q := hRR.2.1 o o0 o1
    have q' := hW.2.2.2.2.1 o o0 o1
    rw [q.1, q.2]; exact ⟨q'.1, q'.2.1⟩)
  obtain ⟨e1, e2, e3'⟩ := v_tok_u htk ht'
  subst e1 e2 e3'
  have hkn : v_kn (l 0 5) (fun o => mm 96 (12 * bk + o)) (fun o => mm 97 (12 * bk + o)) x1 y1 ↔ v_kn (l 0 5) (l 2) (l 3) x1 y1 := ⟨v_kn_c fun o o0 o1 => hRR.2.1 o o0 o1, v_kn_c fun o o0 o1 => ⟨(hRR.2.1 o o0 o1).1.symm, (hRR.2.1 o o0 o1).2.symm⟩⟩
  rw [hkn] at hrec
  have hRR2 : u_R bk m2 l := u_R_fr hRR fun c c0 c1 c2 => fs.1 c (by omega)
  -- what the model's memory is like behind it
  have hm' : (mm' 81 = m2 81 ∧ mm' 101 = m2 101 ∧ mm' 102 = m2 102 ∧ mm' 103 = m2 103 ∧ mm' 104 = m2 104 ∧ mm' 105 = m2 105) ∧ mm' 92 bk = C + 1 ∧ (mm' 100 (100 * bk + C) = 1100 + l 0 4 ∧ ∀ i, i ≠ 100 * bk + C → mm' 100 i = m2 100 i) ∧ u_fm bk m2 mm' ∧ ∃ lr, u_ext l lr ∧ u_W V lr ∧ u_R bk mm' lr ∧ (lr 0 3 = l 0 3 ∧ lr 0 6 = l 0 6 ∧ lr 0 4 = l 0 4 + 1) ∧ (lr 5 (l 0 4) = x1 ∧ lr 6 (l 0 4) = y1 ∧ lr 4 (l 0 4) = x) ∧ ((v_kn (l 0 5) (l 2) (l 3) x1 y1 ∧ lr = n_rd l x x1 y1) ∨ (¬ v_kn (l 0 5) (l 2) (l 3) x1 y1 ∧ lr = n_of (n_rd l x x1 y1) x1 y1)) := by
    have frr : ∀ d, d = 81 ∨ 101 ≤ d → v_rr m2 bk (l 0 4) C x x1 y1 d = m2 d := fun d hd => v_rr_f (by omega) (by omega) (by omega) (by omega) (by omega) (by omega)
    obtain ⟨r1, r2, r3, r4, r5, r6, r7⟩ := n_rd_e l x x1 y1
    rcases hrec with ⟨hk, hrec⟩ | ⟨hk, hrec⟩
    · subst hrec
      refine ⟨⟨frr 81 (by omega), frr 101 (by omega), frr 102 (by omega), frr 103 (by omega), frr 104 (by omega), frr 105 (by omega)⟩, v_rr_92, v_rr_100, u_fm_rr (by omega) (by omega), n_rd l x x1 y1, n_rd_x l x x1 y1, u_W_rd hW hR hxr hx1 hy1 hk, u_R_rd hRR2, ⟨r1 3 (by decide), r1 6 (by decide), r2⟩, ⟨r6, r7, r5⟩, Or.inl ⟨hk, rfl⟩⟩
    · subst hrec
      obtain ⟨g1, g2, g3, g4, g5, g6⟩ := n_of_e (n_rd l x x1 y1) x1 y1
      have fow : ∀ d, d = 81 ∨ d = 92 ∨ d = 100 ∨ 101 ≤ d → v_ow (v_rr m2 bk (l 0 4) C x x1 y1) bk (l 0 5) x1 y1 d = v_rr m2 bk (l 0 4) C x x1 y1 d := fun d hd => v_ow_f (by omega) (by omega) (by omega)
      have hRo : u_R bk (v_ow (v_rr m2 bk (l 0 4) C x x1 y1) bk (l 0 5) x1 y1) (n_of (n_rd l x x1 y1) x1 y1) := by
        have := u_R_ow (x := x1) (y := y1) (u_R_rd (w := x) (x := x1) (y := y1) (C := C) hRR2)
        rwa [r1 5 (by decide)] at this
      refine ⟨⟨(fow 81 (by omega)).trans (frr 81 (by omega)), (fow 101 (by omega)).trans (frr 101 (by omega)), (fow 102 (by omega)).trans (frr 102 (by omega)), (fow 103 (by omega)).trans (frr 103 (by omega)), (fow 104 (by omega)).trans (frr 104 (by omega)), (fow 105 (by omega)).trans (frr 105 (by omega))⟩, by rw [fow 92 (by omega)]; exact v_rr_92, by rw [fow 100 (by omega)]; exact v_rr_100, u_fm_tr (u_fm_rr (by omega) (by omega)) (u_fm_ow (by omega)), n_of (n_rd l x x1 y1) x1 y1, u_ext_tr (n_rd_x l x x1 y1) (n_of_x _ _ _), u_W_ro hW hR hxr hx1 hy1 hk, hRo, ⟨(g1 3 (by decide)).trans (r1 3 (by decide)), (g1 6 (by decide)).trans (r1 6 (by decide)), (g1 4 (by decide)).trans r2⟩, ⟨?_, ?_, ?_⟩, Or.inr ⟨hk, rfl⟩⟩
      · rw [g3 5 (by decide) (by decide) (by decide)]; exact r6
      · rw [g3 6 (by decide) (by decide) (by decide)]; exact r7
      · rw [g3 4 (by decide) (by decide) (by decide)]; exact r5
  obtain ⟨⟨m81, m101, m102, m103, m104, m105⟩, m92, ⟨m100, m100'⟩, mfm, lr, lx, lW, lR, ⟨l3, l6, l4⟩, ⟨z5, z6, z4⟩, hlr⟩ := hm'
  rw [em]
  unfold f_Pars_readUnit_b97
  refine o2_l (c_pass hcs (q := 41) (by unfold v_sg; omega)) fun v1 mc2 h2 => ?_
  rcases h2 with ⟨hk, ev, fc2, k2, a2, b2, ht2, hcs2⟩ | ⟨hk, ev, ec2⟩
  rotate_left
  · rcases hcase with ⟨hk', _⟩ | ⟨_, g1, g2, g3⟩
    · exact absurd hk' hk
    rw [ev, x_w0, if_pos rfl, x_rt]
    refine o2_d (Or.inr ⟨rfl, ⟨1, a1, by decide, ⟨by rw [ec2, q_up_i (by decide), q_up_s], by rw [ec2, q_up_s]⟩, by rw [m81]; exact g1, by rw [m81]; exact g2⟩, ?_, u_fm_tr (u_fm_fs fs) mfm, by omega, by rw [m81]; exact g3⟩)
    rw [ec2]; exact u_fc_tr (u_fc_5 (by omega)) (u_fc_5 (by omega))
  rcases hcase with ⟨_, ⟨g1, g29⟩, k3, a3, b3, ht3, hms3⟩ | ⟨hk', _⟩
  rotate_left
  · exact absurd hk hk'
  obtain ⟨e1, e2, e3'⟩ := v_tok_u ht2 ht3
  subst e1 e2 e3'
  have hl' : u_l t mc2 = l := (u_l_fr fun c c0 c1 => fc2.1 c (by omega)).trans h25.2.2
  have ec : ∀ i, mc2 t i = l 0 i := fun i => by rw [← hl', u_l_0]
  have ej : ∀ j, 0 ≤ j → j ≤ 10 → mc2 (t + j) = l j := fun j j0 j1 => by funext i; rw [← hl', u_l_j t mc2 j0 j1]
  have e25 : mc2 25 = mc 25 := fc2.1 25 (by decide)
  rw [ev, x_w1, if_neg (by decide), x_lt, e25, h25.1, x_one htL]
  have ar := c_addRead (m := mc2) htL (R := l 0 4) (cnt := l 0 5) (N := l 0 6) (vr := x) (a := x1) (c := y1) (by omega) (ec 4) (by omega) (ec 5) (by omega) (ec 6) hx1 hy1 (fun o o0 o1 => by
    have q' := hW.2.2.2.2.1 o o0 o1
    rw [ej 2 (by decide) (by decide), ej 3 (by decide) (by decide)]; exact ⟨q'.1, q'.2.1⟩)
  rw [ej 2 (by decide) (by decide), ej 3 (by decide) (by decide)] at ar
  refine o2_l ar fun v4 mc5 ⟨ev4, hrc⟩ => ?_
  rw [x_rt]
  have hmc : (∀ c, c < t ∨ t + 9 < c → mc5 c = mc2 c) ∧ u_l t mc5 = n_no lr 3 (l 0 4) 0 := by
    have w6 : v_rd mc2 t (l 0 4) x x1 y1 t 6 = l 0 6 := (v_rd_t (by decide)).trans (ec 6)
    have w5 : v_rd mc2 t (l 0 4) x x1 y1 t 5 = l 0 5 := (v_rd_t (by decide)).trans (ec 5)
    rcases hlr with ⟨hk1, hlr⟩ | ⟨hk1, hlr⟩ <;> rcases hrc with ⟨hk2, hrc⟩ | ⟨hk2, hrc⟩
    · rw [hrc, hlr]
      refine ⟨fun c hc => ?_, ?_⟩
      · rw [v_no_f (by omega) (by omega) (by omega) (by omega), v_rd_f (by omega) (by omega) (by omega) (by omega)]
      · rw [n_no_l w6, n_rd_l (ec 4), hl']
    · exact absurd hk1 hk2
    · exact absurd hk2 hk1
    · rw [hrc, hlr]
      refine ⟨fun c hc => ?_, ?_⟩
      · rw [v_no_f (by omega) (by omega) (by omega) (by omega), v_of_f (by omega) (by omega) (by omega), v_rd_f (by omega) (by omega) (by omega) (by omega)]
      · rw [n_no_l ((v_of_t (by decide)).trans w6), n_of_l w5, n_rd_l (ec 4), hl']
  have ab2 := ht2.1
  have sh1 := hcs.2.2.1.1
  refine o2_d (Or.inl ⟨ev4, n_no lr 3 (l 0 4) 0, _, _, _, ⟨⟨v_cs_fr hcs2 (hmc.1 1 (by omega)) (hmc.1 2 (by omega)), v_ms_fr hms3 (fun j _ _ => by rw [m81]) m101 m102, by rw [m81]; exact g1⟩, ⟨by rw [hmc.1 25 (by omega), e25]; exact h25.1, by rw [hmc.1 25 (by omega), e25]; exact h25.2.1, hmc.2⟩, fun j j0 j1 => ?_, u_R_no lR, u_W_no lW (by omega), ?_, by rw [m81, fs.2 39 (by omega)]; exact e3.1, by rw [m81, fs.2 38 (by omega)]; exact e3.2.1, by rw [hmc.1 25 (by omega), e25]; exact e3.2.2.1, by rw [hmc.1 25 (by omega), e25]; exact e3.2.2.2.1, by rw [m81, g29]; exact e3.2.2.2.2⟩, ⟨lr, lx, lW, ⟨l3, l6, l4⟩, fun q5 q6 => by rw [z5] at q5; rw [z6] at q6; rw [z4]; omega, rfl⟩, ⟨m92, m100, fun i hi => by rw [m100' i hi, fs.1 100 (by decide)], by rw [m105, fs.1 105 (by decide)]⟩, by omega, ⟨fun c c1 c2 c3 => by rw [hmc.1 c c3, fc2.1 c c1], fun j hj => by rw [hmc.1 1 (by omega), fc2.2 j hj], fun j _ => by rw [hmc.1 25 (by omega), e25]⟩, u_fm_tr (u_fm_fs fs) mfm⟩)
  · have := hnm j j0 j1
    rw [hmc.1 26 (by omega), hmc.1 27 (by omega), fc2.1 26 (by decide), fc2.1 27 (by decide), m103, m104, fs.1 103 (by decide), fs.1 104 (by decide)]
    exact this
  · rw [(n_no_e lr 3 (l 0 4) 0).1 2 (by decide), lx.1 2 (by decide) (by decide) (by decide) (by decide)]; exact hl2
end readb3
