/-! THE PARSER: a read, in both: its head -/
section readb4
variable {T : Int → Int} {n t bk V ed mny k a b w W x x1 C : Int} {f e : Int → Int} {l mc mm : q_Mem}
theorem u_pm_le {lo k1 a1 b1 : Int} (h : v_pm T n lo k a b k1 a1 b1) (hab : a ≤ b) : a ≤ a1 := by
  rcases h with ⟨_, _, e, _⟩ | ⟨_, ht⟩
  · omega
  · have := ht.1; omega
theorem u_read2 (htL : t ∈ q_Lp) (hb : bk = 0 ∨ bk = 1) (hcs : v_cs mc T n k a b) (hms : v_ms mm T n k a b) (hf0 : mm 81 28 = 0) (h25 : mc 25 3 = t ∧ mc 25 8 = ed ∧ u_l t mc = l) (hnm : ∀ j, 0 ≤ j → j < V → (mc 26 j = f j ∧ mc 27 j = e j) ∧ mm 103 j = f j ∧ mm 104 j = e j - f j) (hRR : u_R bk mm l) (hW : u_W V l) (hV : 1 ≤ V ∧ V ≤ 3) (hl2 : l 0 2 = V) (e3 : mm 81 39 = w ∧ mm 81 38 = W ∧ u_ft mc mm) (hxr : 0 ≤ x ∧ x < V) (hx1 : -3 ≤ x1 ∧ x1 ≤ 3) (hR : l 0 4 < 12) (hN : l 0 6 + 1 ≤ 2 * l 0 3) (e92 : mm 92 bk = C) (hC : 0 ≤ C ∧ C ≤ 90) : q_2 (q_bd (f_Pars_pass 44 mc) fun v8 m9 =>
  if q_w v8 = 0 then (q_rt (-1) m9)
  else (q_bd (f_Pars_passNumber (-3) 3 m9) fun v10 m11 =>
  if q_w v10 = 0 then (q_rt (-1) m11)
  else (if q_w x1 = 0 then (if q_w (m11 25 9) = 0 then (q_lt (m11 25 3) fun v12 => q_one q_Lp v12 <|
  if q_w x = q_w ((m11 v12 2) - 1) then (q_bd (f_Pars_refuse 2 (m11 25 10) m11) fun v13 m14 =>
  q_rt (-1) m14)
  else (f_Pars_readUnit_b97 x x1 (m11 25 9) m11))
  else (f_Pars_readUnit_b97 x x1 (m11 25 9) m11))
  else (f_Pars_readUnit_b97 x x1 (m11 25 9) m11)))) (f_Mod_readRead_b30 bk x (V - 1) x1 mm) (u_RO T n t bk V ed f e l mc mm a w W C) := by
  have ht := u_Lp htL
  have mkF : ∀ (mc' mm' : q_Mem) (F P : Int), 1 ≤ F → F ≤ 4 → mc' 25 4 = F → mc' 25 5 = P → mm' 81 28 = F → mm' 81 29 = P → u_fc t mc mc' → v_fs mm mm' → (0 ≤ mm' 81 26 ∧ mm' 81 26 ≤ 9999) → u_RO T n t bk V ed f e l mc mm a w W C (-1) mc' mm' := fun mc' mm' F P f1 f4 g1 g2 g3 g4 g5 g6 g7 => Or.inr ⟨rfl, ⟨F, P, ⟨f1, f4⟩, ⟨g1, g2⟩, g3, g4⟩, g5, u_fm_fs g6, by rw [g6.1 92 (by decide), e92]; omega, g7⟩
  have hsh := hcs.2.2.1.1
  unfold f_Mod_readRead_b30
  refine o2_l (c_pass hcs (q := 44) (by unfold v_sg; omega)) fun v4 mc2 h2 => ?_
  refine o2_r (m_need0 hms hf0 (q := 44) (by unfold v_sg; omega)) fun _ mm2 h2' => ?_
  rcases h2 with ⟨hk, ev, fc2, k2, a2, b2, ht2, hcs2⟩ | ⟨hk, ev, ec2⟩
  rotate_left
  · rcases h2' with ⟨hk', _⟩ | ⟨_, em2'⟩
    · exact absurd hk' hk
    have e28 : mm2 81 28 = 1 := by rw [em2', q_up_i (by decide), q_up_s]
    rw [ev, x_w0, if_pos rfl, x_rt, m_rdrest (by omega) (by rw [em2', q_up_i (by decide), q_up_i (by decide)]; exact hms.2.2.2.2)]
    refine o2_d (mkF _ _ 1 a (by decide) (by decide) (by rw [ec2, q_up_i (by decide), q_up_s]) (by rw [ec2, q_up_s]) e28 (by rw [em2', q_up_s]) ?_ ?_ ?_)
    · rw [ec2]; exact u_fc_tr (u_fc_5 (by omega)) (u_fc_5 (by omega))
    · rw [em2']; exact v_fs_tr (v_fs_up (by omega)) (v_fs_up (by omega))
    · rw [em2', q_up_i (by decide), q_up_i (by decide)]; exact hms.2.2.2.2
  rcases h2' with ⟨_, fm2, k2', a2', b2', ht2', hms2⟩ | ⟨hk', _⟩
  rotate_left
  · exact absurd hk hk'
  obtain ⟨e1, e2, e3'⟩ := v_tok_u ht2 ht2'
  subst e1 e2 e3'
  have hf2 : mm2 81 28 = 0 := (fm2.2 28 (by omega)).trans hf0
  have ab2 := ht2.1
  have sh2 := hcs2.2.2.1.1
  rw [ev, x_w1, if_neg (by decide)]
  refine o2_l (c_passNumber hcs2 (lo := -3) (hi := 3) (by omega) (by omega)) fun v6 mc3 ⟨fc3, k3, a3, b3, hp3, hc3⟩ => ?_
  refine o2_r (m_signed hms2 hf2 (lo := -3) (hi := 3) (by omega) (by omega)) fun z3 mm3 ⟨fm3, k3', a3', b3', hp3', hrg3, hc3'⟩ => ?_
  obtain ⟨e1, e2, e3'⟩ := v_pm_u hp3 hp3'
  subst e1 e2 e3'
  have Fp3 : v_fp mc mc3 := v_fp_tr (v_fp_fr fc2) fc3
  have Fc3 : u_fc t mc mc3 := u_fc_fp Fp3
  have Fs3 : v_fs mm mm3 := v_fs_tr (v_fs_fm fm2) fm3
  have h651 : (1 ≤ mm3 81 28 ∧ mm3 81 28 ≤ 4) → (if q_w x = q_w (V - 1) then (if q_w x1 = 0 then (if q_w z3 = 0 then (q_bd (f_Mod_fail 2 mm3) fun _ m4 => f_Mod_readRead_b65 bk x x1 z3 m4) else (f_Mod_readRead_b65 bk x x1 z3 mm3)) else (f_Mod_readRead_b65 bk x x1 z3 mm3)) else (f_Mod_readRead_b65 bk x x1 z3 mm3)) = some (0, mm3) := by
    intro hf
    by_cases c1 : q_w x = q_w (V - 1)
    · rw [if_pos c1]
      by_cases c2 : q_w x1 = 0
      · rw [if_pos c2]
        by_cases c3 : q_w z3 = 0
        · rw [if_pos c3, m_fail1 hf, x_bd, m_rd651 hf]
        · rw [if_neg c3, m_rd651 hf]
      · rw [if_neg c2, m_rd651 hf]
    · rw [if_neg c1, m_rd651 hf]
  rcases hc3 with ⟨n4, ev6, eF, eP⟩ | ⟨y4, nin, ev6, eF, eP⟩ | ⟨y4, yin, ev6, e45, e9, e10, k4, a4, b4, ht4, hcs4⟩
  · rcases hc3' with ⟨_, gF, gP⟩ | ⟨y4', _⟩ | ⟨y4', _⟩
    · rw [ev6, x_w0, if_pos rfl, x_rt, h651 (by omega)]
      exact o2_d (mkF _ _ 1 a3 (by decide) (by decide) eF eP gF gP Fc3 Fs3 hrg3.2)
    · exact absurd y4' n4
    · exact absurd y4' n4
  · rcases hc3' with ⟨n4', _⟩ | ⟨_, _, gF, gP⟩ | ⟨_, yin', _⟩
    · exact absurd y4 n4'
    · rw [ev6, x_w0, if_pos rfl, x_rt, h651 (by omega)]
      exact o2_d (mkF _ _ 2 a3 (by decide) (by decide) eF eP gF gP Fc3 Fs3 hrg3.2)
    · exact absurd yin' nin
  rcases hc3' with ⟨n4', _⟩ | ⟨_, nin', _⟩ | ⟨_, _, gF, gz3, hms3, g29⟩
  · exact absurd y4 n4'
  · exact absurd yin nin'
  rw [ev6, x_w1, if_neg (by decide), e9, gz3]
  clear h651 hp3'
  have hsh3 := hms3.2.2.1.1
  have ab3 := u_pm_le hp3 (by omega)
  have ab4 := ht4.1
  revert yin gz3 e9 hrg3
  generalize v_val T (-3) k2 a3 b3 = y1
  intro hrg3 yin e9 gz3
  have hl3 : u_l t mc3 = l := (u_l_fr fun c c0 c1 => Fp3.1 c (by omega) (by omega)).trans h25.2.2
  have e253 : mc3 25 3 = t := (Fp3.2.2 3 (by omega)).trans h25.1
  have e258 : mc3 25 8 = ed := (Fp3.2.2 8 (by omega)).trans h25.2.1
  have ec2 : mc3 t 2 = V := by rw [← u_l_0 t mc3, hl3]; exact hl2
  have hnm3 : ∀ j, 0 ≤ j → j < V → (mc3 26 j = f j ∧ mc3 27 j = e j) ∧ mm3 103 j = f j ∧ mm3 104 j = e j - f j := by
    intro j j0 j1
    rw [Fp3.1 26 (by decide) (by decide), Fp3.1 27 (by decide) (by decide), Fs3.1 103 (by decide), Fs3.1 104 (by decide)]
    exact hnm j j0 j1
  have go : ¬ (x1 = 0 ∧ y1 = 0 ∧ x = V - 1) → q_2 (f_Pars_readUnit_b97 x x1 y1 mc3) (f_Mod_readRead_b65 bk x x1 y1 mm3) (u_RO T n t bk V ed f e l mc mm a w W C) := by
    intro hz
    obtain ⟨v, mc', r, mm', q1, q2, hq⟩ := u_read3 htL hb hcs4 hms3 ht4 gF ⟨e253, e258, hl3⟩ hnm3 (u_R_fr hRR fun c _ _ _ => Fs3.1 c (by omega)) hW hl2 ⟨(Fs3.2 39 (by omega)).trans e3.1, (Fs3.2 38 (by omega)).trans e3.2.1, (e45.1.trans (congrFun (fc2.1 25 (by decide)) 4)).trans e3.2.2.1, (e45.2.trans (congrFun (fc2.1 25 (by decide)) 5)).trans e3.2.2.2.1, (g29.trans (fm2.2 29 (by omega))).trans e3.2.2.2.2⟩ hxr hx1 yin hz hR hN ((congrFun (Fs3.1 92 (by decide)) bk).trans e92) hC (b := a) (by omega)
    refine ⟨v, mc', r, mm', q1, q2, ?_⟩
    rcases hq with ⟨hv, l', k', a', b', g1, g2, ⟨g3, g4, g5, g6⟩, g7, g8, g9⟩ | ⟨hv, g1, g2, g3, g4⟩
    · exact Or.inl ⟨hv, l', k', a', b', g1, g2, ⟨g3, g4, fun i hi => by rw [g5 i hi, Fs3.1 100 (by decide)], g6.trans (Fs3.1 105 (by decide))⟩, g7, u_fc_tr Fc3 g8, u_fm_tr (u_fm_fs Fs3) g9⟩
    · exact Or.inr ⟨hv, g1, u_fc_tr Fc3 g2, u_fm_tr (u_fm_fs Fs3) g3, g4⟩
  rw [q_w_id (x := x1) (by omega) (by omega), q_w_id (x := y1) (by omega) (by omega), q_w_id (x := x) (by omega) (by omega), q_w_id (x := V - 1) (by omega) (by omega), x_lt, e253, x_one htL, ec2, q_w_id (x := V - 1) (by omega) (by omega)]
  by_cases c1 : x1 = 0
  · rw [if_pos c1, if_pos c1]
    by_cases c2 : y1 = 0
    · rw [if_pos c2, if_pos c2]
      by_cases c3 : x = V - 1
      · rw [if_pos c3, if_pos c3, c_refuse, x_bd, x_rt, m_fail0 gF, x_bd, hms3.2.1.2.1]
        have e28 : q_up (q_up mm3 81 28 2) 81 29 a3 81 28 = 2 := by rw [q_up_i (by decide), q_up_s]
        rw [m_rd651 (by omega), e10]
        refine o2_d (mkF _ _ 2 a3 (by decide) (by decide) (by rw [q_up_i (by decide), q_up_s]) (by rw [q_up_s]) e28 (by rw [q_up_s]) ?_ ?_ (by rw [q_up_i (by decide), q_up_i (by decide)]; exact hms3.2.2.2.2))
        · exact u_fc_tr Fc3 (u_fc_tr (u_fc_5 (by omega)) (u_fc_5 (by omega)))
        · exact v_fs_tr Fs3 (v_fs_tr (v_fs_up (by omega)) (v_fs_up (by omega)))
      · rw [if_neg c3, if_neg c3]; exact go fun hh => c3 hh.2.2
    · rw [if_neg c2, if_neg c2]
      have g := go fun hh => c2 hh.2.1
      split <;> exact g
  · rw [if_neg c1, if_neg c1]
    have g := go fun hh => c1 hh.1
    split <;> exact g
theorem u_read (hst : u_st t bk V ed mny f e) (h : u_S T n t bk V ed f e l mc mm k a b w W) (hx : v_nd (fun j => v_nm T (f j) (e j) a b) mny x) (hx1 : x ≠ -1) (hR : l 0 4 < 12) (hN : l 0 6 + 1 ≤ 2 * l 0 3) (e92 : mm 92 bk = C) (hC : 0 ≤ C ∧ C ≤ 90) : q_2 (f_Pars_readUnit mc) (f_Mod_readRead bk x (mny - 1) mm) (u_RO T n t bk V ed f e l mc mm b w W C) := by
  obtain ⟨htL, hb, hV, hed, hfe⟩ := hst
  obtain ⟨⟨hcs, hms, hf0⟩, ⟨h253, h258, hl⟩, hnm, hRR, hW, hl2, e39, e38, hft⟩ := h
  have ht := u_Lp htL
  have emx : mny = V ∧ (0 ≤ x ∧ x < V) := by
    rcases hx with ⟨hx, _⟩ | ⟨hx, _⟩
    · omega
    · exact absurd hx hx1
  obtain ⟨emV, hxr⟩ := emx
  have ec2 : mc t 2 = V := by rw [← u_l_0 t mc, hl]; exact hl2
  have mkF : ∀ (mc' mm' : q_Mem) (F P : Int), 1 ≤ F → F ≤ 4 → mc' 25 4 = F → mc' 25 5 = P → mm' 81 28 = F → mm' 81 29 = P → u_fc t mc mc' → v_fs mm mm' → (0 ≤ mm' 81 26 ∧ mm' 81 26 ≤ 9999) → u_RO T n t bk V ed f e l mc mm b w W C (-1) mc' mm' := fun mc' mm' F P f1 f4 g1 g2 g3 g4 g5 g6 g7 => Or.inr ⟨rfl, ⟨F, P, ⟨f1, f4⟩, ⟨g1, g2⟩, g3, g4⟩, g5, u_fm_fs g6, by rw [g6.1 92 (by decide), e92]; omega, g7⟩
  unfold f_Pars_readUnit f_Mod_readRead
  refine o2_l (c_named hcs.1 hcs.2.1 hcs.2.2.1 h253 htL (by omega) ec2 (fun j j0 j1 => ⟨(hnm j j0 j1).1.1, (hnm j j0 j1).1.2, hfe j j0 j1⟩)) fun v1 m2 ⟨em2, hv1⟩ => ?_
  have ev1 : v1 = x := by rw [emV] at hx; exact v_nd_u hv1 hx
  rw [em2, ev1]
  refine o2_l (c_next hcs) fun _ mc1 ⟨fc1, k1, a1, b1, ht1, hcs1⟩ => ?_
  refine o2_r (m_next hms) fun _ mm1 ⟨fm1, k1', a1', b1', ht1', hms1⟩ => ?_
  obtain ⟨e1, e2, e3⟩ := v_tok_u ht1 ht1'
  subst e1 e2 e3
  have hf1 : mm1 81 28 = 0 := (fm1.2 28 (by omega)).trans hf0
  have ab1 := ht1.1
  have sh1 := hcs1.2.2.1.1
  refine o2_l (c_pass hcs1 (q := 40) (by unfold v_sg; omega)) fun v4 mc2 h2 => ?_
  refine o2_r (m_need0 hms1 hf1 (q := 40) (by unfold v_sg; omega)) fun _ mm2 h2' => ?_
  rcases h2 with ⟨hk, ev, fc2, k2, a2, b2, ht2, hcs2⟩ | ⟨hk, ev, ec2⟩
  rotate_left
  · rcases h2' with ⟨hk', _⟩ | ⟨_, em2'⟩
    · exact absurd hk' hk
    have e28 : mm2 81 28 = 1 := by rw [em2', q_up_i (by decide), q_up_s]
    rw [ev, x_w0, if_pos rfl, x_rt, m_rd40 (by omega) (by rw [em2', q_up_i (by decide), q_up_i (by decide)]; exact hms1.2.2.2.2)]
    refine o2_d (mkF _ _ 1 a1 (by decide) (by decide) (by rw [ec2, q_up_i (by decide), q_up_s]) (by rw [ec2, q_up_s]) e28 (by rw [em2', q_up_s]) ?_ ?_ ?_)
    · rw [ec2]; exact u_fc_tr (u_fc_fr fc1) (u_fc_tr (u_fc_5 (by omega)) (u_fc_5 (by omega)))
    · rw [em2']; exact v_fs_tr (v_fs_fm fm1) (v_fs_tr (v_fs_up (by omega)) (v_fs_up (by omega)))
    · rw [em2', q_up_i (by decide), q_up_i (by decide)]; exact hms1.2.2.2.2
  rcases h2' with ⟨_, fm2, k2', a2', b2', ht2', hms2⟩ | ⟨hk', _⟩
  rotate_left
  · exact absurd hk hk'
  obtain ⟨e1, e2, e3⟩ := v_tok_u ht2 ht2'
  subst e1 e2 e3
  have hf2 : mm2 81 28 = 0 := (fm2.2 28 (by omega)).trans hf1
  have ab2 := ht2.1
  have sh2 := hcs2.2.2.1.1
  rw [ev, x_w1, if_neg (by decide)]
  refine o2_l (c_passNumber hcs2 (lo := -3) (hi := 3) (by omega) (by omega)) fun v6 mc3 ⟨fc3, k3, a3, b3, hp3, hc3⟩ => ?_
  refine o2_r (m_signed hms2 hf2 (lo := -3) (hi := 3) (by omega) (by omega)) fun z3 mm3 ⟨fm3, k3', a3', b3', hp3', hrg3, hc3'⟩ => ?_
  obtain ⟨e1, e2, e3⟩ := v_pm_u hp3 hp3'
  subst e1 e2 e3
  have Fp3 : v_fp mc mc3 := v_fp_tr (v_fp_fr fc1) (v_fp_tr (v_fp_fr fc2) fc3)
  have Fs3 : v_fs mm mm3 := v_fs_tr (v_fs_fm fm1) (v_fs_tr (v_fs_fm fm2) fm3)
  rcases hc3 with ⟨n4, ev6, eF, eP⟩ | ⟨y4, nin, ev6, eF, eP⟩ | ⟨y4, yin, ev6, e45, e9, e10, k4, a4, b4, ht4, hcs4⟩
  · rcases hc3' with ⟨_, gF, gP⟩ | ⟨y4', _⟩ | ⟨y4', _⟩
    · rw [ev6, x_w0, if_pos rfl, x_rt, gF, x_w1, if_neg (by decide), m_rd302 (by omega) hrg3.2]
      exact o2_d (mkF _ _ 1 a3 (by decide) (by decide) eF eP gF gP (u_fc_fp Fp3) Fs3 hrg3.2)
    · exact absurd y4' n4
    · exact absurd y4' n4
  · rcases hc3' with ⟨n4', _⟩ | ⟨_, _, gF, gP⟩ | ⟨_, yin', _⟩
    · exact absurd y4 n4'
    · rw [ev6, x_w0, if_pos rfl, x_rt, gF, if_neg (by decide), m_rd302 (by omega) hrg3.2]
      exact o2_d (mkF _ _ 2 a3 (by decide) (by decide) eF eP gF gP (u_fc_fp Fp3) Fs3 hrg3.2)
    · exact absurd yin' nin
  rcases hc3' with ⟨n4', _⟩ | ⟨_, nin', _⟩ | ⟨_, _, gF, gz3, hms3, g29⟩
  · exact absurd y4 n4'
  · exact absurd yin nin'
  have hsh3 := hms3.2.2.1.1
  have ab3 := u_pm_le hp3 (by omega)
  have ab4 := ht4.1
  rw [ev6, x_w1, if_neg (by decide), gF, x_w0, if_pos rfl, e9, gz3, emV]
  clear hp3'
  revert yin gz3 e9 hrg3
  generalize v_val T (-3) k2 a3 b3 = y1
  intro hrg3 yin e9 gz3
  refine o2_r (m_next hms3) fun _ mm4 ⟨fm4, k4', a4', b4', ht4', hms4⟩ => ?_
  obtain ⟨e1, e2, e3⟩ := v_tok_u ht4 ht4'
  subst e1 e2 e3
  have hf4 : mm4 81 28 = 0 := (fm4.2 28 (by omega)).trans gF
  have Fs4 : v_fs mm mm4 := v_fs_tr Fs3 (v_fs_fm fm4)
  have hl3 : u_l t mc3 = l := (u_l_fr fun c c0 c1 => Fp3.1 c (by omega) (by omega)).trans hl
  have hnm3 : ∀ j, 0 ≤ j → j < V → (mc3 26 j = f j ∧ mc3 27 j = e j) ∧ mm4 103 j = f j ∧ mm4 104 j = e j - f j := by
    intro j j0 j1
    rw [Fp3.1 26 (by decide) (by decide), Fp3.1 27 (by decide) (by decide), Fs4.1 103 (by decide), Fs4.1 104 (by decide)]
    exact hnm j j0 j1
  obtain ⟨v, mc', r, mm', q1, q2, hq⟩ := u_read2 htL hb hcs4 hms4 hf4 ⟨(Fp3.2.2 3 (by omega)).trans h253, (Fp3.2.2 8 (by omega)).trans h258, hl3⟩ hnm3 (u_R_fr hRR fun c _ _ _ => Fs4.1 c (by omega)) hW hV hl2 ⟨(Fs4.2 39 (by omega)).trans e39, (Fs4.2 38 (by omega)).trans e38, ((e45.1.trans (congrFun (fc2.1 25 (by decide)) 4)).trans (congrFun (fc1.1 25 (by decide)) 4)).trans hft.1, ((e45.2.trans (congrFun (fc2.1 25 (by decide)) 5)).trans (congrFun (fc1.1 25 (by decide)) 5)).trans hft.2.1, (((fm4.2 29 (by omega)).trans g29).trans ((fm2.2 29 (by omega)).trans (fm1.2 29 (by omega)))).trans hft.2.2⟩ hxr yin hR hN ((congrFun (Fs4.1 92 (by decide)) bk).trans e92) hC
  refine ⟨v, mc', r, mm', q1, q2, ?_⟩
  rcases hq with ⟨hv, l', k', a', b', g1, g2, ⟨g3, g4, g5, g6⟩, g7, g8, g9⟩ | ⟨hv, g1, g2, g3, g4⟩
  · exact Or.inl ⟨hv, l', k', a', b', g1, g2, ⟨g3, g4, fun i hi => by rw [g5 i hi, Fs4.1 100 (by decide)], g6.trans (Fs4.1 105 (by decide))⟩, by omega, u_fc_tr (u_fc_fp Fp3) g8, u_fm_tr (u_fm_fs Fs4) g9⟩
  · exact Or.inr ⟨hv, g1, u_fc_tr (u_fc_fp Fp3) g2, u_fm_tr (u_fm_fs Fs4) g3, g4⟩
end readb4
