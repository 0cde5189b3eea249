/-! THE START: both objects made -/
theorem xp_B : q_B 81 xp_mem := by
  unfold xp_mem
  repeat' first
    | exact fun _ _ => rfl
    | refine q_B_up ?_ (by decide)
    | refine q_B_mL ?_ (by decide)
    | refine q_B_mH ?_ (by decide)
theorem xp_n : (xp_mem 0 1 = 3 ∧ xp_mem 0 2 = 14 ∧ xp_mem 1 1 = 0 ∧ xp_mem 25 4 = 0 ∧ xp_mem 25 5 = -1 ∧ xp_mem 13 0 = 0 ∧ xp_mem 24 0 = 0 ∧ xp_mem 51 0 = 79 ∧ xp_mem 51 1 = 80) ∧ (xp_mem 3 0 = 1 ∧ xp_mem 3 1 = 1 ∧ xp_mem 3 2 = 0 ∧ xp_mem 3 3 = 0 ∧ xp_mem 3 4 = 0 ∧ xp_mem 3 5 = 0 ∧ xp_mem 3 6 = 0 ∧ xp_mem 3 7 = 0) ∧ (xp_mem 4 0 = 1 ∧ xp_mem 4 1 = 1 ∧ xp_mem 4 2 = 1 ∧ xp_mem 4 3 = 0 ∧ xp_mem 4 4 = 1 ∧ xp_mem 4 5 = 0) := by decide +kernel
theorem xp_29 : ∀ i : Nat, i < 21 → xp_mem 29 i = 30 + i := by decide +kernel
theorem xp_2 : ∀ i : Nat, i < 800 → xp_mem 2 i = 0 := by decide +kernel
def xp_l : q_Mem := u_l 3 xp_mem
theorem xp_ko : k_ok xp_l (xp_l 1) := by
  obtain ⟨⟨_, _, _, _, _, z13, _, _, _⟩, ⟨a0, a1, a2, a3, a4, a5, a6, a7⟩, ⟨b0, b1, b2, b3, b4, b5⟩⟩ := xp_n
  have L0 : ∀ i, xp_l 0 i = xp_mem 3 i := fun i => u_l_0 3 xp_mem i
  have L1 : ∀ i, xp_l 1 i = xp_mem 4 i := fun i => u_l_j 3 xp_mem (by decide) (by decide) i
  have L10 : xp_l 10 0 = 0 := (u_l_j 3 xp_mem (by decide) (by decide) 0).trans z13
  have l0 := (L0 0).trans a0
  have l1 := (L0 1).trans a1
  have l2 := (L0 2).trans a2
  have l4 := (L0 4).trans a4
  have l5 := (L0 5).trans a5
  refine ⟨⟨by omega, by omega, by omega, by omega, by omega, fun k k0 k1 => by omega, fun k k' k0 k1 k2 => by omega, fun k k0 k1 => by omega, fun k k0 k1 => by omega⟩, ?_, ?_, ?_, ?_, ?_⟩
  · refine ⟨L10, fun i i0 i1 => by omega, fun v v0 v1 => by omega, fun v v0 v1 => by omega, fun v k v0 v1 => by omega, fun k k0 k1 => ?_, fun k k0 k1 => ?_⟩
    · rw [l2, show (2 : Int) * 0 = 0 from rfl, L10] at k1; omega
    · rw [l2, show (2 : Int) * 0 = 0 from rfl, L10] at k1; omega
  · rw [L1, L1, b2, b3]; unfold g_line; decide
  · rw [L1, b0]; decide
  · rw [L1, b1]; decide
  · rw [L1, b4]; decide
theorem xp_take : q_ok (f_PG_takeUp xp_mem) (fun _ m' => (∀ c, 81 ≤ c → m' c = xp_mem c) ∧ j_C xp_l 0 0 (fun _ => xp_l 1) (fun _ => 0) (fun _ => xp_l 1) 0 (fun _ => 0) 0 (-1) m') := by
  obtain ⟨⟨h01, h02, h11, h254, h255, h13, h24, h510, h511⟩, _, _⟩ := xp_n
  have h29 : ∀ i, 0 ≤ i → i ≤ 20 → xp_mem 29 i = 30 + i := by
    intro i i0 i1
    have := xp_29 i.toNat (by omega)
    rwa [Int.toNat_of_nonneg i0] at this
  refine o_mono (c_takeUp (l := xp_l) (n := 0) (T := fun _ => 0) (ft := 0) (pl := -1) (by rw [h01]; decide) (by rw [h01]; exact u_l_CL 3 xp_mem) xp_ko (fun i i0 i1 => by rw [h29 i i0 i1]; omega) (fun i j i0 ij j1 => by rw [h29 i i0 (by omega), h29 j (by omega) j1]; omega) ⟨h510, h511⟩ (by rw [h01, h02]; rfl) ⟨h11, fun i i0 i1 => ?_, h254, h255, h13, h24⟩) fun _ m' ⟨g1, _, g3⟩ => ⟨g1, g3⟩
  have := xp_2 i.toNat (by omega)
  rwa [Int.toNat_of_nonneg i0] at this
section q_startm
variable {m : q_Mem}
theorem mp_o {c : Int} (h1 : c ≠ 81) (h2 : c ≠ 102) : mp_mem m c = m c := by
  unfold mp_mem
  simp only [q_up_f h1, q_up_f h2]
theorem mp_81 {j : Int} : mp_mem m 81 j = if j = 31 then -1 else m 81 j := by
  unfold mp_mem
  simp only [q_up_f (show (81 : Int) ≠ 102 by decide)]
  by_cases h : j = 31
  · rw [h, q_up_s, if_pos rfl]
  · rw [q_up_i h, if_neg h]
theorem mp_W : j_W (mp_mem m) := by
  intro i hi
  match i, hi with
  | 0, _ => rfl
  | 1, _ => rfl
  | 2, _ => rfl
  | 3, _ => rfl
  | 4, _ => rfl
  | 5, _ => rfl
  | 6, _ => rfl
  | 7, _ => rfl
  | 8, _ => rfl
  | 9, _ => rfl
  | 10, _ => rfl
  | 11, _ => rfl
  | 12, _ => rfl
  | 13, _ => rfl
  | 14, _ => rfl
  | 15, _ => rfl
  | 16, _ => rfl
  | 17, _ => rfl
  | 18, _ => rfl
  | 19, _ => rfl
  | 20, _ => rfl
  | 21, _ => rfl
  | 22, _ => rfl
  | 23, _ => rfl
  | 24, _ => rfl
  | 25, _ => rfl
  | 26, _ => rfl
  | 27, _ => rfl
  | i + 28, h => omega
/-- both objects stand -/
theorem mp_start {m1 : q_Mem} (hB : q_B 81 m1) (hC : j_C xp_l 0 0 (fun _ => xp_l 1) (fun _ => 0) (fun _ => xp_l 1) 0 (fun _ => 0) 0 (-1) m1) : ∃ r1 r2, f_Mod_clearBank 0 (mp_mem m1) = some r1 ∧ f_Mod_startAnew r1.2 = some r2 ∧ j_J r2.2 := by
  obtain ⟨v1, m2, e1, f2, ⟨b82, b83, b84, b85, b86, b87⟩, ⟨b88, b89, b90, b91, b92⟩⟩ := m_clear (bk := 0) (m := mp_mem m1) (Or.inl rfl)
  obtain ⟨_, ⟨a0, a1, a2, a3, a4, a5, a6, a7⟩, ⟨o0, o1, o2, o3, o4, o5⟩⟩ := xp_n
  have L0 : ∀ i, xp_l 0 i = xp_mem 3 i := fun i => u_l_0 3 xp_mem i
  have L1 : ∀ i, xp_l 1 i = xp_mem 4 i := fun i => u_l_j 3 xp_mem (by decide) (by decide) i
  have g81 : ∀ j : Nat, j ≠ 31 → m2 81 j = q_m0 81 j := by
    intro j hj
    rw [f2 81 j (by omega), mp_81, if_neg (by omega)]
    exact congrFun (hB 81 (Nat.le_refl _)) j
  have z81 : ∀ j : Nat, j < 71 → q_m0 81 j = 0 := by decide +kernel
  have h19 : m2 81 19 = 0 := (g81 19 (by decide)).trans (z81 19 (by decide))
  have hML : g_ML m2 xp_l := by
    have l4 := (L0 4).trans a4
    have l5 := (L0 5).trans a5
    refine ⟨0, Or.inl rfl, h19, ⟨?_, ?_, ?_, ?_, ?_, ?_⟩, fun k k0 k1 => by omega, fun k k0 k1 => by omega⟩
    · rw [b82, L0, a0]
    · rw [b83, L0, a1]
    · rw [b84, L0, a2]
    · rw [b85, L0, a3]
    · rw [b86, L0, a4]
    · rw [b87, L0, a5]
  have hMF : g_MF m2 xp_l := by
    have l2 := (L0 2).trans a2
    exact ⟨0, Or.inl rfl, h19, fun v v0 v1 => by omega⟩
  obtain ⟨v3, m3, e3, f3, f3', hkM, h69, h125, h125'⟩ := m_startAnew (m := m2) (l := xp_l) (b := 0) (Or.inl rfl) h19 hML hMF (by rw [b88, L1, o0]) (by rw [b89, L1, o1]) (by rw [b90, L1, o2]) (by rw [b91, L1, o3]) (by rw [L1, o4]) (by rw [L1, o5])
  have lo : ∀ c, c < 81 → m3 c = m1 c := by
    intro c hc
    funext i
    rw [f3 c (by omega) (by omega) (by omega), f2 c i (by omega), mp_o (by omega) (by omega)]
  have hi : ∀ c, 92 < c → c ≠ 115 → c ≠ 125 → m3 c = mp_mem m1 c := by
    intro c h0 h1 h2
    funext i
    rw [f3 c (by omega) h1 h2, f2 c i (by omega)]
  have s81 : ∀ j : Nat, j ≠ 69 → j ≠ 70 → m3 81 j = m2 81 j := fun j j1 j2 => f3' j (by omega) (by omega)
  have z101 : ∀ j : Nat, j < 800 → q_m0 101 j = 0 := by decide +kernel
  refine ⟨_, _, e1, e3, xp_l, 0, 0, fun _ => xp_l 1, fun _ => 0, fun _ => xp_l 1, 0, fun _ => 0, 0, -1, ⟨by omega, fun _ _ _ => xp_ko, fun _ _ _ => Or.inl rfl, by omega, fun _ _ _ => (by show (-128 : Int) ≤ 0 ∧ (0 : Int) ≤ 127; decide)⟩, j_C_low hC lo, hkM, ⟨⟨h69.1, h69.2⟩, fun i i0 i1 => by omega, fun i i0 i1 => by omega⟩, fun k k0 k1 => ⟨?_, fun hh => absurd (show (0 : Int) = 1 from hh) (by decide)⟩, j_W_fr mp_W (hi 102 (by decide) (by decide) (by decide)), ?_, fun i i0 i1 => ?_, ?_, ?_, ?_⟩
  · have : k = 0 ∨ k = 1 := by omega
    rcases this with rfl | rfl
    · exact h125
    · exact h125'
  · exact ((s81 21 (by decide) (by decide)).trans (g81 21 (by decide))).trans (z81 21 (by decide))
  · have := z101 i.toNat (by omega)
    rw [Int.toNat_of_nonneg i0] at this
    show m3 101 i = 0
    rw [hi 101 (by decide) (by decide) (by decide), mp_o (by decide) (by decide)]
    exact (congrFun (hB 101 (by decide)) i).trans this
  · exact ((s81 30 (by decide) (by decide)).trans (g81 30 (by decide))).trans (z81 30 (by decide))
  · have e : m2 81 31 = -1 := by rw [f2 81 31 (by omega), mp_81, if_pos rfl]
    exact (s81 31 (by decide) (by decide)).trans e
  · have e : m3 81 26 = 0 := ((s81 26 (by decide) (by decide)).trans (g81 26 (by decide))).trans (z81 26 (by decide))
    show 0 ≤ m3 81 26 ∧ m3 81 26 ≤ 9999
    rw [e]; decide
end q_startm
theorem whole_start {p : Program} {e : Env} {s : State} {m : MethodId} {below : List Frame} {meth : Method} {c : Code} (l : Launch) (hflags : l.flags = flags0) {b L : Nat} {xs : Nat → Int32} (hL : L ≤ 3072) (C0 : lw_At p s m meth c b L xs) : W p l e room_1 s m #[Value.ref b] below meth c s.heap [] 0 0 (lw_Z below #[Value.ref b] s) (entryFrame m ([Value.ref b] : List Value).toArray 4) := by
  obtain ⟨hx, hb, hr, hml, hown, hts, hX, hbl, hlocks, hgv⟩ := id C0
  have hq : ∀ w ∈ q_T, w.before #[Value.ref b] s = true := fun w hw => hts w (List.mem_filter.mp hw).1
  obtain ⟨D, cs, hK⟩ := sk_K hq (hts _ sw_over)
  obtain ⟨ad, adV, had, hE⟩ := sk_Ex b hts hgv
  have C : q_Cx (q_ML meth.name) p s m #[Value.ref b] meth c D cs s.heap.size ad adV := ⟨hx, hb, hr, hml, hown, hq, hlocks, rfl, hK, Nat.le_refl _, hE⟩
  have hX' : va_X (ad 29) L xs s s.heap := by rw [had]; exact hX
  have hbl' : ad 29 < s.heap.size := by rw [had]; exact hbl
  obtain ⟨v1, m1, e1, g1, hj1⟩ := xp_take
  have hB1 : q_B 81 m1 := fun c hc => by rw [g1 c (by omega)]; exact xp_B c hc
  obtain ⟨r2, r3, e2, e3, hJ⟩ := mp_start hB1 hj1
  have hl := lv_entry ([.ref b]) (n := 4) (Nat.le_of_ble_eq_true rfl)
  rw [lg_entry_eq]
  generalize (lg_sl ([.ref b]) ++ List.replicate (4 - (lg_sl ([.ref b])).length) Slot.unset).toArray = ar at hl ⊢
  have hl : lv_has ar 4 [(0, .ref b)] := hl
  have hls : q_ls s.heap.size ad 4 [q_S 29, q_N, q_N, q_N] ar := by
    refine ⟨_, hl, fun i v hi h9 => ?_⟩
    match i, hi with
    | 0, hi =>
      cases hi
      have : q_cv s.heap.size ad (q_S 29) = .ref b := by
        show Value.ref (ad 29) = _
        rw [had]
      rw [this]
      exact List.mem_cons_self
    | 1, hi => cases hi; exact absurd rfl h9
    | 2, hi => cases hi; exact absurd rfl h9
    | 3, hi => cases hi; exact absurd rfl h9
    | i + 4, hi => simp at hi
  have key : q_K p l e s m #[Value.ref b] below meth c D cs s.heap.size ad 4 room_1 (lw_Z below #[Value.ref b] s) 0 0 (0, q_lay, fun _ _ => -1) q_m0 0 [q_S 29, q_N, q_N, q_N] [] := by
    refine z_newO (M := q_ML meth.name) C (pc := 0) (N := 0) cl_10 kl_12_7 ins_10 in_10 dL_law_0 (by decide +kernel) rfl rfl tk_10 (Nat.le_of_ble_eq_true rfl) (Nat.le_of_ble_eq_true rfl) ?_
    refine z_dup (M := q_ML meth.name) C (pc := 3) dL_law_3 (show (2 : Nat) ≠ 1 by decide) ?_
    refine z_callI (M := q_ML meth.name) C (pc := 4) (M' := md_X10_init) (rm' := q_rmC 8 80 4368) (mc' := 80) (ms' := 4368) (n := 0) (av := []) (r := 0) (v := none) (g' := q_g 81) (m' := m1) ml_12_9 im_X10_init rfl rfl dL_law_4 (k_PG e1) rfl (by decide) (Nat.le_of_ble_eq_true rfl) ⟨rfl, rfl, Nat.le_of_ble_eq_true rfl, Nat.le_of_ble_eq_true rfl, Nat.le_of_ble_eq_true rfl, Nat.le_of_ble_eq_true rfl⟩ ?_
    refine z_astore_n (M := q_ML meth.name) C (pc := 7) (n := 1) (x := 0) dL_law_7 (by decide) (show 1 < 4 by decide) (q_pl rfl) ?_
    refine z_phi (M := q_ML meth.name) (N := 81) (phi := q_phi) (phi' := xq_phi) (fun c hc j _ => (if_pos hc).symm) ?_
    refine z_newO (M := q_ML meth.name) C (pc := 8) (N := 81) cl_11 kl_12_10 ins_11 in_11 dL_law_8 (by decide +kernel) rfl (hB1 81 (Nat.le_refl _)) tk_11 (Nat.le_of_ble_eq_true rfl) (Nat.le_of_ble_eq_true rfl) ?_
    refine z_dup (M := q_ML meth.name) C (pc := 11) dL_law_11 (show (2 : Nat) ≠ 1 by decide) ?_
    refine z_callI (M := q_ML meth.name) C (pc := 12) (M' := md_X11_init) (rm' := q_rmC 8 44 14986) (mc' := 44) (ms' := 14986) (n := 0) (av := []) (r := 81) (v := none) (g' := q_g 126) (m' := r3.2) ml_12_12 im_X11_init rfl rfl dL_law_12 (k_Mod (q_B_le hB1 (by decide)) e2 e3) rfl (by decide) (Nat.le_of_ble_eq_true rfl) ⟨rfl, rfl, Nat.le_of_ble_eq_true rfl, Nat.le_of_ble_eq_true rfl, Nat.le_of_ble_eq_true rfl, Nat.le_of_ble_eq_true rfl⟩ ?_
    refine z_astore_n (M := q_ML meth.name) C (pc := 15) (n := 2) (x := 81) dL_law_15 (by decide) (show 2 < 4 by decide) (q_pl rfl) ?_
    refine z_iconst (M := q_ML meth.name) C (pc := 16) dL_law_16 ?_
    refine z_istore_n (M := q_ML meth.name) C (pc := 17) (n := 3) dL_law_17 (show 3 < 4 by decide) (q_pl rfl) ?_
    refine z_loop C hX' hbl' rfl hL (Nat.le_of_ble_eq_true rfl) (Nat.le_of_ble_eq_true rfl) (fun m' i => ?_) L 0 r3.2 hJ (Nat.zero_le _) (by omega)
    refine z_iconst (M := q_ML meth.name) C (pc := 1580) dL_law_1580 ?_
    intro H locs ar' hP hz hS hl'
    refine va_forget (fun q hq => hS.2.2 q hq) ?_
    refine W.widen (k := 600000) (n := 7302250) (Nat.le_of_ble_eq_true rfl) (Nat.le_of_ble_eq_true rfl) ?_
    exact lw_ret hx hb hr hlocks dL_law_1581
  refine key s.heap [] ar (fun k q hk => ?_) rfl va_S.rf hls
  simp [q_ws] at hk
