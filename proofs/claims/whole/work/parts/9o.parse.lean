/-! THE PARSER: all lines, in both -/
def u_E (T : Int → Int) (n t bk : Int) (mc mm : q_Mem) (_ : Int) (mc' mm' : q_Mem) : Prop := (∃ V f e l a b w W, u_I T n t bk V f e l mc' mm' 0 a b w W ∧ u_fC t mc mc' ∧ u_fM bk mm mm') ∨ u_FL t bk mc mm mc' mm'
section parsel
variable {T : Int → Int} {n t bk V d k a b w W : Int} {f e : Int → Int} {l l' mc mm mc' mm' : q_Mem}
theorem q_bd_pull (A : q_Res) (L R : q_Mem → q_Res) (K : Int → q_Mem → q_Res) : (q_bd A fun v m2 => if q_w v = 0 then q_bd (L m2) K else q_bd (R m2) K) = q_bd (q_bd A fun v m2 => if q_w v = 0 then L m2 else R m2) K := by
  cases A with
  | none => rfl
  | some p =>
    show (if q_w p.1 = 0 then q_bd (L p.2) K else q_bd (R p.2) K) = q_bd (if q_w p.1 = 0 then L p.2 else R p.2) K
    split <;> rfl
theorem q_bd_asc (A : q_Res) (g K : q_Mem → q_Res) : (q_bd A fun _ m1 => q_bd (g m1) fun _ m2 => K m2) = q_bd (q_bd A fun _ m1 => g m1) fun _ m2 => K m2 := by
  cases A with
  | none => rfl
  | some p => rfl
theorem u_FL_tr {m0 m0' : q_Mem} (hc : u_fC t m0 mc) (hm : u_fM bk m0' mm) (h : u_FL t bk mc mm mc' mm') : u_FL t bk m0 m0' mc' mm' := ⟨h.1, u_fC_tr hc h.2.1, u_fM_tr hm h.2.2.1, h.2.2.2⟩
theorem u_E_tr {v : Int} {m0 m0' : q_Mem} (hc : u_fC t m0 mc) (hm : u_fM bk m0' mm) (h : u_E T n t bk mc mm v mc' mm') : u_E T n t bk m0 m0' v mc' mm' := by
  rcases h with ⟨V, f, e, l, a, b, w, W, h1, h2, h3⟩ | h
  · exact Or.inl ⟨V, f, e, l, a, b, w, W, h1, u_fC_tr hc h2, u_fM_tr hm h3⟩
  · exact Or.inr (u_FL_tr hc hm h)
/-- both end where a fault stands -/
theorem u_endF {N N' : Nat} {cnt : Int} (hf : 1 ≤ mm 81 28 ∧ mm 81 28 ≤ 4) : f_Pars_parse_l69 (N + 1) 0 cnt mc = some (0, mc) ∧ f_Mod_readAll_l68 (N' + 1) bk mm = some (0, mm) := by
  constructor
  · show f_Pars_parse_b69 (f_Pars_parse_l69 N) 0 cnt mc = _
    unfold f_Pars_parse_b69
    split
    · rfl
    · rw [x_w0, if_pos rfl]; rfl
  · show f_Mod_readAll_b68 (f_Mod_readAll_l68 N') bk mm = _
    unfold f_Mod_readAll_b68
    rw [q_w_id (x := mm 81 28) (by omega) (by omega), if_neg (by omega), x_rt]
theorem u_lines (htL : t ∈ q_Lp) (hb : bk = 0 ∨ bk = 1) : ∀ (d N N' : Nat) (cnt : Int) {mc mm : q_Mem} {V : Int} {f e : Int → Int} {l : q_Mem} {k a b w W : Int}, cnt + d = 800 → 0 ≤ cnt → cnt ≤ a → d ≤ N → d ≤ N' → u_I T n t bk V f e l mc mm k a b w W → q_2 (f_Pars_parse_l69 (N + 1) 1 cnt mc) (f_Mod_readAll_l68 (N' + 1) bk mm) (u_E T n t bk mc mm) := by
  intro d
  induction d with
  | zero =>
    intro N N' cnt mc mm V f e l k a b w W h1 h2 h3 _ _ h
    have hn := h.1.1.1.1.2.1
    have hsh := h.1.1.1.2.2.1
    have ka : k = 0 := hsh.2.2.1.mpr (by have := hsh.1; omega)
    show q_2 (f_Pars_parse_b69 (f_Pars_parse_l69 N) 1 cnt mc) (f_Mod_readAll_b68 (f_Mod_readAll_l68 N') bk mm) _
    unfold f_Pars_parse_b69 f_Mod_readAll_b68
    have e25 : mm 81 25 = 0 := by rw [h.1.1.2.1.2.1.1, ka]; rfl
    rw [q_w_id (x := cnt) (by omega) (by omega), if_pos (by omega), x_rt, h.1.1.2.2, x_w0, if_pos rfl, e25, x_w0, if_pos rfl, x_rt]
    subst ka
    exact o2_d (Or.inl ⟨V, f, e, l, a, b, w, W, h, u_fC_id _ _, u_fM_id _ _⟩)
  | succ d ih =>
    intro N N' cnt mc mm V f e l k a b w W h1 h2 h3 hN hN' h
    have hn := h.1.1.1.1.2.1
    have hsh := h.1.1.1.2.2.1
    have hk := hsh.2.1
    show q_2 (f_Pars_parse_b69 (f_Pars_parse_l69 N) 1 cnt mc) (f_Mod_readAll_b68 (f_Mod_readAll_l68 N') bk mm) _
    unfold f_Pars_parse_b69 f_Mod_readAll_b68
    rw [q_w_id (x := cnt) (by omega) (by omega), if_neg (by omega), x_w1, if_neg (by decide), h.1.1.1.2.1.1, q_w_id (x := k) (by omega) (by omega), h.1.1.2.2, x_w0, if_pos rfl]
    by_cases ck : k = 0
    · have e25 : mm 81 25 = 0 := by rw [h.1.1.2.1.2.1.1, ck]; rfl
      rw [if_pos ck, x_rt, e25, x_w0, if_pos rfl, x_rt]
      subst ck
      exact o2_d (Or.inl ⟨V, f, e, l, a, b, w, W, h, u_fC_id _ _, u_fM_id _ _⟩)
    have hk2 : k ≠ 2 := fun e => (hsh.2.2.2.2 ck).2.1 e
    have htk := v_tk_iff hk hk2
    have e25 : ¬ (q_w (mm 81 25) = 0) := by
      rw [h.1.1.2.1.2.1.1, q_w_id (x := v_tk k) (by omega) (by omega)]
      exact fun e => ck (htk.2.1.mp e)
    rw [if_neg ck, if_neg e25, q_bd_pull, q_bd_asc]
    obtain ⟨v, mc1, r, mm1, e1, e2, hO⟩ := u_line htL hb h ck
    rw [e1, e2, x_bd, x_bd]
    unfold f_Pars_parse_b113
    obtain ⟨N0, rfl⟩ : ∃ N0, N = N0 + 1 := ⟨N - 1, by omega⟩
    obtain ⟨N0', rfl⟩ : ∃ N0', N' = N0' + 1 := ⟨N' - 1, by omega⟩
    rcases hO with ⟨ev, V1, f1, e1', l1, k1, a1, b1, w1, W1, hI, hba, fC, fM⟩ | ⟨ev, hFL⟩
    · have hab : a < b := (hsh.2.2.2.2 ck).2.2
      rw [ev]
      obtain ⟨v2, mc2, r2, mm2, g1, g2, hE⟩ := ih N0 N0' (cnt + 1) (by omega) (by omega) (by omega) (by omega) (by omega) hI
      exact ⟨v2, mc2, r2, mm2, g1, g2, u_E_tr fC fM hE⟩
    · obtain ⟨F, P, hF, _, g28, _⟩ := hFL.1
      obtain ⟨g1, g2⟩ := u_endF (N := N0) (N' := N0') (cnt := cnt + 1) (bk := bk) (mc := mc1) (mm := mm1) (by omega)
      rw [ev, g1, g2]
      exact o2_d (Or.inr hFL)
theorem c_clear {m : q_Mem} : q_ok (f_Loop_clear t m) (fun _ m' => (∀ c, c ≠ t → c ≠ t + 1 → m' c = m c) ∧ (m' t 0 = 1 ∧ m' t 1 = 1 ∧ m' t 2 = 0 ∧ m' t 3 = 0 ∧ m' t 4 = 0 ∧ m' t 5 = 0 ∧ m' t 6 = 0 ∧ m' t 7 = 0) ∧ (m' (t + 1) 0 = 1 ∧ m' (t + 1) 1 = 1 ∧ m' (t + 1) 2 = 1 ∧ m' (t + 1) 3 = 0 ∧ m' (t + 1) 4 = 1 ∧ m' (t + 1) 5 = 0)) := by
  have h1 : ¬ (t = t + 1) := by omega
  unfold f_Loop_clear
  simp only [x_pf]
  refine o_rt ⟨fun c c1 c2 => ?_, ⟨?_, ?_, ?_, ?_, ?_, ?_, ?_, ?_⟩, ⟨?_, ?_, ?_, ?_, ?_, ?_⟩⟩
  · simp only [q_up_f c1, q_up_f c2]
  all_goals simp [q_up, h1]
theorem m_clear {m : q_Mem} (hb : bk = 0 ∨ bk = 1) : q_ok (f_Mod_clearBank bk m) (fun _ m' => (∀ c i, c < 82 ∨ 92 < c ∨ i ≠ bk → m' c i = m c i) ∧ (m' 82 bk = 1 ∧ m' 83 bk = 1 ∧ m' 84 bk = 0 ∧ m' 85 bk = 0 ∧ m' 86 bk = 0 ∧ m' 87 bk = 0) ∧ (m' 88 bk = 1 ∧ m' 89 bk = 1 ∧ m' 90 bk = 1 ∧ m' 91 bk = 0 ∧ m' 92 bk = 0)) := by
  unfold f_Mod_clearBank
  simp only [x_wr (k := bk) (n := 2) (by omega) (by omega) (by decide)]
  refine o_rt ⟨fun c i hc => ?_, ⟨?_, ?_, ?_, ?_, ?_, ?_⟩, ⟨?_, ?_, ?_, ?_, ?_⟩⟩
  · have key : ∀ (s : q_Mem) (c' v : Int), 82 ≤ c' → c' ≤ 92 → q_up s c' bk v c i = s c i := by
      intro s c' v h0 h1
      by_cases e : c = c'
      · subst e; exact q_up_i (by omega)
      · exact q_up_c e
    rw [key _ _ _ (by decide) (by decide), key _ _ _ (by decide) (by decide), key _ _ _ (by decide) (by decide), key _ _ _ (by decide) (by decide), key _ _ _ (by decide) (by decide), key _ _ _ (by decide) (by decide), key _ _ _ (by decide) (by decide), key _ _ _ (by decide) (by decide), key _ _ _ (by decide) (by decide), key _ _ _ (by decide) (by decide), key _ _ _ (by decide) (by decide)]
  all_goals simp [q_up]
theorem c_begin2 (htL : t ∈ q_Lp) (hC : v_C mc T n) (h10 : mc (t + 10) 0 = 0) : ∃ mc9 k a b, f_Pars_parse t mc = (if q_w (mc9 1 2) = 0 then (f_Pars_parse_b61 mc9) else (q_bd (f_Pars_sizeLine mc9) fun v10 m11 => if q_w v10 = 0 then (f_Pars_parse_b66 0 m11) else (f_Pars_parse_b61 m11))) ∧ v_tok T n 0 k a b ∧ v_cs mc9 T n k a b ∧ u_fC t mc mc9 ∧ (mc9 25 3 = t ∧ mc9 25 4 = 0 ∧ mc9 25 5 = -1 ∧ mc9 25 6 = 0 ∧ mc9 25 7 = 0 ∧ mc9 25 8 = 0) ∧ (mc9 t 0 = 1 ∧ mc9 t 1 = 1 ∧ mc9 t 2 = 0 ∧ mc9 t 3 = 0 ∧ mc9 t 4 = 0 ∧ mc9 t 5 = 0 ∧ mc9 t 6 = 0 ∧ mc9 t 7 = 0) ∧ (mc9 (t + 1) 0 = 1 ∧ mc9 (t + 1) 1 = 1 ∧ mc9 (t + 1) 2 = 1 ∧ mc9 (t + 1) 3 = 0 ∧ mc9 (t + 1) 4 = 1 ∧ mc9 (t + 1) 5 = 0) ∧ mc9 (t + 10) 0 = 0 := by
  have ht := u_Lp htL
  unfold f_Pars_parse
  rw [x_pf, x_lt, q_up_s, x_one htL]
  obtain ⟨r3, m3, e3, f3, g3, g3'⟩ := c_clear (t := t) (m := q_up mc 25 3 t)
  rw [e3, x_bd, x_pf, x_pf, x_pz0, x_pz0, x_pz0]
  unfold f_Tape_rewind
  rw [x_pf]
  have e253 : m3 25 3 = t := by rw [f3 25 (by omega) (by omega), q_up_s]
  have s25 : q_up (q_up (q_up (q_up (q_up (q_up m3 25 4 0) 25 5 (-1)) 25 6 0) 25 7 0) 25 8 0) 1 4 0 25 3 = t ∧ q_up (q_up (q_up (q_up (q_up (q_up m3 25 4 0) 25 5 (-1)) 25 6 0) 25 7 0) 25 8 0) 1 4 0 25 4 = 0 ∧ q_up (q_up (q_up (q_up (q_up (q_up m3 25 4 0) 25 5 (-1)) 25 6 0) 25 7 0) 25 8 0) 1 4 0 25 5 = -1 ∧ q_up (q_up (q_up (q_up (q_up (q_up m3 25 4 0) 25 5 (-1)) 25 6 0) 25 7 0) 25 8 0) 1 4 0 25 6 = 0 ∧ q_up (q_up (q_up (q_up (q_up (q_up m3 25 4 0) 25 5 (-1)) 25 6 0) 25 7 0) 25 8 0) 1 4 0 25 7 = 0 ∧ q_up (q_up (q_up (q_up (q_up (q_up m3 25 4 0) 25 5 (-1)) 25 6 0) 25 7 0) 25 8 0) 1 4 0 25 8 = 0 := by
    refine ⟨?_, ?_, ?_, ?_, ?_, ?_⟩ <;> simp [q_up, e253]
  have so : ∀ c, c ≠ 1 → c ≠ 25 → q_up (q_up (q_up (q_up (q_up (q_up m3 25 4 0) 25 5 (-1)) 25 6 0) 25 7 0) 25 8 0) 1 4 0 c = m3 c := fun c c1 c2 => by rw [q_up_f c1, q_up_f c2, q_up_f c2, q_up_f c2, q_up_f c2, q_up_f c2]
  have s1 : ∀ j, j ≠ 4 → q_up (q_up (q_up (q_up (q_up (q_up m3 25 4 0) 25 5 (-1)) 25 6 0) 25 7 0) 25 8 0) 1 4 0 1 j = mc 1 j := fun j hj => by rw [q_up_i hj, q_up_c (by decide), q_up_c (by decide), q_up_c (by decide), q_up_c (by decide), q_up_c (by decide), f3 1 (by omega) (by omega), q_up_c (by decide)]
  have s4 : q_up (q_up (q_up (q_up (q_up (q_up m3 25 4 0) 25 5 (-1)) 25 6 0) 25 7 0) 25 8 0) 1 4 0 1 4 = 0 := q_up_s _ _ _ _
  revert s25 so s1 s4
  generalize q_up (q_up (q_up (q_up (q_up (q_up m3 25 4 0) 25 5 (-1)) 25 6 0) 25 7 0) 25 8 0) 1 4 0 = s
  intro s25 so s1 s4
  have hsC : v_C s T n := by
    obtain ⟨c1, c2, c3, c4⟩ := hC
    refine ⟨(s1 1 (by decide)).trans c1, c2, fun i i0 i1 => ?_, c4⟩
    rw [so 2 (by decide) (by decide), f3 2 (by omega) (by omega), q_up_c (by decide)]
    exact c3 i i0 i1
  obtain ⟨r9, mc9, e9, fr9, k, a, b, htk, t1, t2, t3, t4⟩ := c_step hsC (x := 0) ⟨Int.le_refl _, hC.2.1.1⟩ s4
  rw [e9, x_bd, x_rt, x_bd]
  have g9 : ∀ c, c ≠ 1 → c ≠ 25 → mc9 c = m3 c := fun c c1 c2 => (fr9.1 c c1).trans (so c c1 c2)
  have g25 : mc9 25 = s 25 := fr9.1 25 (by decide)
  have e10 : mc9 (t + 10) 0 = mc (t + 10) 0 := by rw [g9 _ (by omega) (by omega), f3 _ (by omega) (by omega), q_up_c (by omega)]
  refine ⟨mc9, k, a, b, rfl, htk, ⟨v_C_fr hsC fr9, ⟨t1, t2, t3⟩, v_tok_sh (Int.le_refl _) (fun i i0 i1 => hC.2.2.2 i i0 (by have := hC.2.1; omega)) htk, t4⟩, ⟨fun c c1 c2 c3 c4 c5 => ?_, fun j hj => ?_, e10⟩, by rw [g25]; exact s25, ?_, ?_, e10.trans h10⟩
  · rw [g9 c c1 c2, f3 c (by omega) (by omega), q_up_f c2]
  · rw [fr9.2 j hj, s1 j (by omega)]
  · rw [g9 t (by omega) (by omega)]; exact g3
  · rw [g9 (t + 1) (by omega) (by omega)]; exact g3'
theorem u_all (htL : t ∈ q_Lp) (hb : bk = 0 ∨ bk = 1) (hC : v_C mc T n) (h10 : mc (t + 10) 0 = 0) (hM : v_M mm T n) (h23 : mm 81 23 = 0) (h26 : 0 ≤ mm 81 26 ∧ mm 81 26 ≤ 9999) (h28 : mm 81 28 = 0) (h29 : mm 81 29 = -1) (h35 : mm 81 35 = 0) (h36 : mm 81 36 = 0) (hB : mm 82 bk = 1 ∧ mm 83 bk = 1 ∧ mm 84 bk = 0 ∧ mm 85 bk = 0 ∧ mm 86 bk = 0 ∧ mm 87 bk = 0) (hB' : mm 88 bk = 1 ∧ mm 89 bk = 1 ∧ mm 90 bk = 1 ∧ mm 91 bk = 0 ∧ mm 92 bk = 0) : q_2 (f_Pars_parse t mc) (f_Mod_readAll bk mm) (u_E T n t bk mc mm) := by
  have ht := u_Lp htL
  obtain ⟨mc9, k, a, b, ep, htk, hcs, fC, ⟨p3, p4, p5, p6, p7, p8⟩, ⟨q0, q1, q2, q3, q4, q5, q6, q7⟩, ⟨o0, o1, o2, o3, o4, o5⟩, hz⟩ := c_begin2 htL hC h10
  obtain ⟨r9, mm9, e9, fm9, ⟨k', a', b', htk', t1, t2, t3, t4, t5⟩, h26'⟩ := m_scan hM (x := 0) ⟨Int.le_refl _, hM.2.1.1⟩ h23 h26
  obtain ⟨u1, u2, u3⟩ := v_tok_u htk htk'
  subst u1 u2 u3
  have hms : v_ms mm9 T n k a b := ⟨v_M_fr hM fm9, ⟨t1, t2, t3, t5⟩, hcs.2.2.1, t4, h26'⟩
  have fM : u_fM bk mm mm9 := u_fM_fm (u_fm_fm fm9)
  have L0 : ∀ i, u_l t mc9 0 i = mc9 t i := fun i => u_l_0 t mc9 i
  have L1 : ∀ i, u_l t mc9 1 i = mc9 (t + 1) i := fun i => u_l_j t mc9 (by decide) (by decide) i
  have L10 : u_l t mc9 10 0 = 0 := by rw [u_l_j t mc9 (by decide) (by decide)]; exact hz
  have cm : ∀ c, c ≠ 81 → mm9 c = mm c := fun c hc => fm9.1 c hc
  have hl2 : u_l t mc9 0 2 = 0 := (L0 2).trans q2
  have hl3 : u_l t mc9 0 3 = 0 := (L0 3).trans q3
  have hl4 : u_l t mc9 0 4 = 0 := (L0 4).trans q4
  have hl5 : u_l t mc9 0 5 = 0 := (L0 5).trans q5
  have hl6 : u_l t mc9 0 6 = 0 := (L0 6).trans q6
  have hl7 : u_l t mc9 0 7 = 0 := (L0 7).trans q7
  have hI : u_I T n t bk 0 (fun _ => 0) (fun _ => 0) (u_l t mc9) mc9 mm9 k a b (mm9 81 39) (mm9 81 38) := by
    refine ⟨⟨⟨hcs, hms, (fm9.2 28 (by omega)).trans h28⟩, ⟨p3, p8, rfl⟩, fun j j0 j1 => by omega, ⟨⟨?_, ?_, ?_⟩, fun k k0 k1 => by omega, fun k k0 k1 => by omega⟩, ⟨by omega, by omega, by omega, by omega, fun k k0 k1 => by omega, fun k k' k0 k1 k2 => by omega, fun k k0 k1 => by omega, fun k k0 k1 => by omega⟩, hl2, rfl, rfl, p4, p5, (fm9.2 29 (by omega)).trans h29⟩, ⟨⟨?_, ?_, ?_, ?_⟩, ⟨?_, ?_, ?_, ?_⟩, ⟨?_, ?_, ?_, ?_, ?_⟩, ?_, ?_, Or.inl p6, Or.inl p7⟩, ⟨0, ⟨L10, fun i i0 i1 => by omega, fun v v0 v1 => by omega, fun v v0 v1 => by omega, fun v k v0 v1 => by omega, fun k k0 k1 => ?_, fun k k0 k1 => ?_⟩, ⟨hl7, L10.trans hl6.symm⟩, fun v v0 v1 => by omega, fun v v0 v1 => by omega, ?_, by omega, ?_, ?_⟩, by omega, fun j j0 j1 => by omega⟩
    · rw [cm 85 (by decide), hl3]; exact hB.2.2.2.1
    · rw [cm 86 (by decide), hl4]; exact hB.2.2.2.2.1
    · rw [cm 87 (by decide), hl5]; exact hB.2.2.2.2.2
    · rw [cm 82 (by decide), L0, q0]; exact hB.1
    · rw [cm 83 (by decide), L0, q1]; exact hB.2.1
    · rw [L0, q0]; decide
    · rw [L0, q1]; decide
    · rw [cm 88 (by decide), L1, o0]; exact hB'.1
    · rw [cm 89 (by decide), L1, o1]; exact hB'.2.1
    · rw [cm 90 (by decide), L1, o2]; exact hB'.2.2.1
    · rw [cm 91 (by decide), L1, o3]; exact hB'.2.2.2.1
    · rw [L1, o0]; decide
    · rw [L1, o1]; decide
    · rw [L1, L1, o2, o3]; unfold g_line; decide
    · rw [L1]; exact o4
    · rw [L1]; exact o5
    · rw [p6, fm9.2 35 (by omega), h35]
    · rw [p7, fm9.2 36 (by omega), h36]
    · rw [show (2 : Int) * 0 = 0 from rfl, L10] at k1; omega
    · rw [show (2 : Int) * 0 = 0 from rfl, L10] at k1; omega
    · rw [cm 92 (by decide), hl6]; exact hB'.2.2.2.2
    · rw [cm 92 (by decide), hB'.2.2.2.2]; rfl
    · rw [cm 84 (by decide)]; exact hB.2.2.1
  have hk := hcs.2.2.1.2.1
  unfold f_Mod_readAll
  rw [ep, e9, x_bd, hcs.2.1.1, q_w_id (x := k) (by omega) (by omega)]
  by_cases ck : k = 0
  · have e25 : mm9 81 25 = 0 := by rw [t1, ck]; rfl
    rw [if_pos ck, e25, x_w0, if_pos rfl, x_rt]
    subst ck
    unfold f_Pars_parse_b61 f_Pars_parse_b66
    have st : f_Pars_parse_l69 q_F 1 0 mc9 = f_Pars_parse_b69 (f_Pars_parse_l69 19999) 1 0 mc9 := rfl
    rw [st]
    unfold f_Pars_parse_b69
    rw [x_w0, if_neg (by decide), x_w1, if_neg (by decide), hcs.2.1.1, x_w0, if_pos rfl, x_rt]
    exact o2_d (Or.inl ⟨_, _, _, _, a, b, _, _, hI, fC, fM⟩)
  have hk2 : k ≠ 2 := fun e => (hcs.2.2.1.2.2.2.2 ck).2.1 e
  have htk2 := v_tk_iff hk hk2
  have e25 : ¬ (q_w (mm9 81 25) = 0) := by
    rw [t1, q_w_id (x := v_tk k) (by omega) (by omega)]
    exact fun e => ck (htk2.2.1.mp e)
  rw [if_neg ck, if_neg e25]
  obtain ⟨v, mc1, mm1, g1, g2, hO⟩ := u_size htL hb hI
  rw [g1, g2, x_bd]
  rcases hO with ⟨ev, V1, f1, e1', l1, k1, a1, b1, w1, W1, hI1, hba, fC1, fM1⟩ | ⟨ev, hFL⟩
  · rw [ev, x_w1, if_neg (by decide)]
    unfold f_Pars_parse_b61 f_Pars_parse_b66
    have h0 := hcs.2.2.1.1
    obtain ⟨v2, mc2, r2, mm2, y1, y2, hE⟩ := u_lines htL hb 800 19999 19999 0 (by omega) (by omega) (by omega) (by omega) (by omega) hI1
    exact ⟨v2, mc2, r2, mm2, y1, y2, u_E_tr (u_fC_tr fC fC1) (u_fM_tr fM fM1) hE⟩
  · rw [ev, x_w0, if_pos rfl]
    unfold f_Pars_parse_b66
    obtain ⟨F, P, hF, _, g28, _⟩ := hFL.1
    obtain ⟨y1, y2⟩ := u_endF (N := 19999) (N' := 19999) (cnt := 0) (bk := bk) (mc := mc1) (mm := mm1) (by omega)
    rw [show q_F = 19999 + 1 from rfl, y1, y2]
    exact o2_d (Or.inr (u_FL_tr fC fM hFL))
end parsel
