/-! THE PARSER: the steps of the model's formula -/
section msteps
variable {mm : q_Mem} {T : Int → Int} {n k a b bk mny w : Int}
theorem L_unit (hf : mm 81 28 = 0) (nn : Nat) : f_Mod_readFormula_l15 (nn + 1) bk mny 1 1 mm = q_bd (f_Mod_readUnit bk mny mm) fun v m5 => f_Mod_readFormula_l15 nn bk mny v 1 m5 := by
  show f_Mod_readFormula_b15 (f_Mod_readFormula_l15 nn) bk mny 1 1 mm = _
  unfold f_Mod_readFormula_b15
  rw [hf, x_w0, if_pos rfl, x_w1, if_neg (by decide), if_neg (by decide)]
theorem L_156 (hf : 1 ≤ mm 81 28 ∧ mm 81 28 ≤ 4) : f_Mod_readFormula_l156 q_F bk mm = some (0, mm) := by
  show f_Mod_readFormula_b156 (f_Mod_readFormula_l156 19999) bk mm = _
  unfold f_Mod_readFormula_b156
  rw [q_w_id (x := mm 81 28) (by omega) (by omega), if_neg (by omega), x_rt]
theorem L_fail (hf : 1 ≤ mm 81 28 ∧ mm 81 28 ≤ 4) (nn : Nat) (x g : Int) : f_Mod_readFormula_l15 (nn + 1) bk mny x g mm = some (0, mm) := by
  show f_Mod_readFormula_b15 (f_Mod_readFormula_l15 nn) bk mny x g mm = _
  unfold f_Mod_readFormula_b15 f_Mod_readFormula_b137
  rw [q_w_id (x := mm 81 28) (by omega) (by omega), if_neg (by omega), if_neg (by omega), L_156 hf]
theorem L_stop (h : v_ms mm T n k a b) (hf : mm 81 28 = 0) (e39 : mm 81 39 = w) (hw : 0 ≤ w ∧ w ≤ 100) (hk : v_bt k = -1) (h41 : ¬ (k = 41 ∧ 0 < w)) (nn : Nat) : f_Mod_readFormula_l15 (nn + 2) bk mny 0 1 mm = f_Mod_readFormula_b137 bk mm := by
  have two : f_Mod_readFormula_l15 (nn + 1) bk mny 0 0 mm = f_Mod_readFormula_b137 bk mm := by
    show f_Mod_readFormula_b15 (f_Mod_readFormula_l15 nn) bk mny 0 0 mm = _
    unfold f_Mod_readFormula_b15
    rw [hf, x_w0, if_pos rfl, if_pos rfl]
  have one : f_Mod_readFormula_b65 (f_Mod_readFormula_l15 (nn + 1)) bk mny 0 1 mm = f_Mod_readFormula_b137 bk mm := by
    unfold f_Mod_readFormula_b65
    rw [m_between h hf, x_bd, hk, if_pos (by decide)]
    exact two
  show f_Mod_readFormula_b15 (f_Mod_readFormula_l15 (nn + 1)) bk mny 0 1 mm = _
  unfold f_Mod_readFormula_b15
  rw [hf, x_w0, if_pos rfl, x_w1, if_neg (by decide), if_pos rfl, m_isAtE h hf (q := 41) (by unfold v_sg; omega), x_bd]
  by_cases c : k = 41
  · rw [if_pos c, x_w1, if_neg (by decide), e39, q_w_id (x := w) (by omega) (by omega), if_pos (by omega)]
    exact one
  · rw [if_neg c, x_w0, if_pos rfl]
    exact one
theorem L_close (h : v_ms mm T n k a b) (hf : mm 81 28 = 0) (e39 : mm 81 39 = w) (hw : 0 < w ∧ w ≤ 100) (hk : k = 41) (nn : Nat) : f_Mod_readFormula_l15 (nn + 1) bk mny 0 1 mm = q_bd (f_Mod_close bk mm) fun _ m3 => f_Mod_readFormula_l15 nn bk mny 0 1 m3 := by
  show f_Mod_readFormula_b15 (f_Mod_readFormula_l15 nn) bk mny 0 1 mm = _
  unfold f_Mod_readFormula_b15
  rw [hf, x_w0, if_pos rfl, x_w1, if_neg (by decide), if_pos rfl, m_isAtE h hf (q := 41) (by unfold v_sg; omega), x_bd, if_pos hk, x_w1, if_neg (by decide), e39, q_w_id (x := w) (by omega) (by omega), if_neg (by omega)]
theorem v_bd_rg (v : Int) : 0 ≤ v_bd v ∧ v_bd v ≤ 3 := by
  unfold v_bd
  split
  · omega
  split
  · omega
  split
  · omega
  split
  · omega
  split <;> omega
theorem v_bt_op (hk : v_bt k ≠ -1) : (1200 ≤ v_bt k ∧ v_bt k ≤ 1204) ∧ (k = 60 ∨ k = 62 ∨ k = 43 ∨ k = 45 ∨ k = 42) := by
  unfold v_bt at *
  split at hk
  · omega
  split at hk
  · simp_all
  split at hk
  · simp_all
  split at hk
  · simp_all
  split at hk
  · simp_all
  · simp_all
theorem m_pop (hb : bk = 0 ∨ bk = 1) {c l4 : Int} (hc : 1200 ≤ c ∧ c ≤ 1204) : ∀ (q : Nat) (m : q_Mem) (C W : Int), 0 ≤ C → C + q ≤ 100 → m 92 bk = C → W ≤ 100 → q ≤ W → m 81 38 = W → (∀ i, W - q ≤ i → i < W → (1200 ≤ m 105 i ∧ m 105 i ≤ 1204) ∧ v_bd c ≤ v_bd (m 105 i)) → ∃ m1, v_lu m m1 bk C W q ∧ ∀ (k15 : Int → Int → Int → Int → q_Mem → q_Res) (n' : Nat), f_Mod_readFormula_l79 k15 (n' + q) bk mny l4 c m = f_Mod_readFormula_l79 k15 n' bk mny l4 c m1 := by
  intro q
  induction q with
  | zero =>
    intro m C W hC hCj e92 hW hjW e38 hm
    exact ⟨m, v_lu_id e92 e38, fun _ _ => rfl⟩
  | succ q ih =>
    intro m C W hC hCj e92 hW hjW e38 hm
    have e105 := hm (W - 1) (by omega) (by omega)
    have lw := m_layWaiting (m := m) hb (C := C) (W := W) (by omega) e92 (by omega) e38
    have k105 : q_up (q_up (q_up m 81 38 (W - 1)) 100 (100 * bk + C) (m 105 (W - 1))) 92 bk (C + 1) 105 = m 105 := by rw [q_up_f (by decide), q_up_f (by decide), q_up_f (by decide)]
    obtain ⟨m1, h1, h2⟩ := ih (q_up (q_up (q_up m 81 38 (W - 1)) 100 (100 * bk + C) (m 105 (W - 1))) 92 bk (C + 1)) (C + 1) (W - 1) (by omega) (by omega) (q_up_s _ _ _ _) (by omega) (by omega) (by rw [q_up_c (by decide), q_up_c (by decide), q_up_s]) (by rw [k105]; exact fun i i1 i2 => hm i (by omega) (by omega))
    refine ⟨m1, v_lu_step h1, fun k15 n' => ?_⟩
    have r1 := v_bd_rg c
    have r2 := v_bd_rg (m 105 (W - 1))
    show f_Mod_readFormula_b79 k15 (f_Mod_readFormula_l79 k15 (n' + q)) bk mny l4 c m = _
    unfold f_Mod_readFormula_b79
    rw [e38, q_w_id (x := W) (by omega) (by omega), if_neg (by omega), x_rd (n := 100) (by omega) (by omega) (by decide), m_bindsBy (by omega), x_bd, m_bindsBy (by omega), x_bd, q_w_id (x := v_bd (m 105 (W - 1))) (by omega) (by omega), q_w_id (x := v_bd c) (by omega) (by omega), if_neg (by omega), lw, x_bd]
    exact h2 k15 n'
theorem m_opstep (hb : bk = 0 ∨ bk = 1) (h : v_ms mm T n k a b) (hf : mm 81 28 = 0) (hk : v_bt k ≠ -1) {C W0 : Int} {q : Nat} (hC : 0 ≤ C) (hCj : C + q ≤ 100) (e92 : mm 92 bk = C) (hW : 0 ≤ W0 ∧ W0 + q < 100) (e38 : mm 81 38 = W0 + q) (hm : ∀ i, W0 ≤ i → i < W0 + q → (1200 ≤ mm 105 i ∧ mm 105 i ≤ 1204) ∧ v_bd (v_bt k) ≤ v_bd (mm 105 i)) (hs : W0 = 0 ∨ (0 < W0 ∧ (1200 ≤ mm 105 (W0 - 1) ∧ mm 105 (W0 - 1) ≤ 1210) ∧ v_bd (mm 105 (W0 - 1)) < v_bd (v_bt k))) : ∃ mm2 k' a' b', v_tok T n b k' a' b' ∧ v_ms mm2 T n k' a' b' ∧ (∀ c, c ≠ 81 → c ≠ 92 → c ≠ 100 → c ≠ 105 → mm2 c = mm c) ∧ (∀ i, i < 23 ∨ 27 < i → i ≠ 38 → mm2 81 i = mm 81 i) ∧ mm2 81 38 = W0 + 1 ∧ mm2 105 W0 = v_bt k ∧ (∀ i, i ≠ W0 → mm2 105 i = mm 105 i) ∧ (mm2 92 bk = C + q ∧ ∀ i, i ≠ bk → mm2 92 i = mm 92 i) ∧ (∀ i, i < 100 * bk + C ∨ 100 * bk + C + q ≤ i → mm2 100 i = mm 100 i) ∧ (∀ i : Int, 0 ≤ i → i < q → mm2 100 (100 * bk + C + i) = mm 105 (W0 + q - 1 - i)) ∧ ∀ nn, f_Mod_readFormula_l15 (nn + 1) bk mny 0 1 mm = f_Mod_readFormula_l15 nn bk mny 1 1 mm2 := by
  obtain ⟨hc, hko⟩ := v_bt_op hk
  obtain ⟨m1, hl, e79⟩ := m_pop (mny := mny) (l4 := 1) hb hc q mm C (W0 + q) hC hCj e92 (by omega) (by omega) e38 (fun i i0 i1 => hm i (by omega) i1)
  obtain ⟨l1, l2, l3, l4, l5, l6, l7⟩ := hl
  have f105 : m1 105 = mm 105 := l1 105 (by decide) (by decide) (by decide)
  have e38' : m1 81 38 = W0 := by omega
  -- the push and the next token
  have pu := m_push (m := m1) (v := v_bt k) (W := W0) (by omega) e38'
  have hms1 : v_ms (q_up (q_up m1 105 W0 (v_bt k)) 81 38 (W0 + 1)) T n k a b := v_ms_fr h (fun j j0 j1 => by rw [q_up_i (by omega), q_up_c (by decide), l2 j (by omega)]) (by rw [q_up_f (by decide), q_up_f (by decide), l1 101 (by decide) (by decide) (by decide)]) (by rw [q_up_f (by decide), q_up_f (by decide), l1 102 (by decide) (by decide) (by decide)])
  obtain ⟨r, mm2, en, fm, k', a', b', ht, hms2⟩ := m_next hms1
  refine ⟨mm2, k', a', b', ht, hms2, fun c c1 c2 c3 c4 => ?_, fun i hi i38 => ?_, ?_, ?_, fun i hi => ?_, ⟨?_, fun i hi => ?_⟩, fun i hi => ?_, fun i i0 i1 => ?_, fun nn => ?_⟩
  · rw [fm.1 c c1, q_up_f c1, q_up_f c4, l1 c c1 c2 c3]
  · rw [fm.2 i hi, q_up_i i38, q_up_c (by decide), l2 i i38]
  · rw [fm.2 38 (by omega), q_up_s]
  · rw [fm.1 105 (by decide), q_up_c (by decide), q_up_s]
  · rw [fm.1 105 (by decide), q_up_c (by decide), q_up_i hi, f105]
  · rw [fm.1 92 (by decide), q_up_c (by decide), q_up_c (by decide)]; exact l5
  · rw [fm.1 92 (by decide), q_up_c (by decide), q_up_c (by decide)]; exact l4 i hi
  · rw [fm.1 100 (by decide), q_up_c (by decide), q_up_c (by decide)]; exact l6 i hi
  · rw [fm.1 100 (by decide), q_up_c (by decide), q_up_c (by decide)]; exact l7 i i0 i1
  · show f_Mod_readFormula_b15 (f_Mod_readFormula_l15 nn) bk mny 0 1 mm = _
    unfold f_Mod_readFormula_b15 f_Mod_readFormula_b65
    have bt := m_between h hf
    rw [hf, x_w0, if_pos rfl, x_w1, if_neg (by decide), if_pos rfl, m_isAtE h hf (q := 41) (by unfold v_sg; omega), x_bd, if_neg (show ¬ k = 41 by omega), x_w0, if_pos rfl, bt, x_bd, q_w_id (x := v_bt k) (by omega) (by omega), if_neg hk, bt, x_bd]
    obtain ⟨nf, hnf⟩ : ∃ nf, q_F = (nf + 1) + q := ⟨20000 - q - 1, by unfold q_F; omega⟩
    rw [hnf, e79]
    show f_Mod_readFormula_b79 (f_Mod_readFormula_l15 nn) (f_Mod_readFormula_l79 (f_Mod_readFormula_l15 nn) nf) bk mny 1 (v_bt k) m1 = _
    have b116 : f_Mod_readFormula_b116 (f_Mod_readFormula_l15 nn) bk mny 1 (v_bt k) m1 = f_Mod_readFormula_l15 nn bk mny 1 1 mm2 := by
      unfold f_Mod_readFormula_b116
      rw [pu, x_bd, en, x_bd]
    unfold f_Mod_readFormula_b79
    rw [e38', q_w_id (x := W0) (by omega) (by omega)]
    by_cases c0 : W0 ≤ 0
    · rw [if_pos c0]; exact b116
    · rcases hs with hs | ⟨_, hs1, hs2⟩
      · exact absurd hs (by omega)
      have r1 := v_bd_rg (v_bt k)
      have r2 := v_bd_rg (mm 105 (W0 - 1))
      rw [if_neg c0, x_rd (n := 100) (by omega) (by omega) (by decide), f105, m_bindsBy (by omega), x_bd, m_bindsBy (by omega), x_bd, q_w_id (x := v_bd (mm 105 (W0 - 1))) (by omega) (by omega), q_w_id (x := v_bd (v_bt k)) (by omega) (by omega), if_pos hs2]
      exact b116
/-- signs and levels -/
theorem v_jn_bt {lv : Int} (hl : 0 ≤ lv ∧ lv ≤ 2) (h : v_jn lv k ≠ -1) : v_bt k ≠ -1 ∧ v_bd (v_bt k) = lv + 1 ∧ v_jn lv k + 1195 = v_bt k ∧ (5 ≤ v_jn lv k ∧ v_jn lv k ≤ 9) := by
  unfold v_jn at h ⊢
  by_cases c1 : k = 42
  · subst c1
    rw [if_pos rfl] at h ⊢
    by_cases c : lv = 2
    · subst c; decide
    · rw [if_neg c] at h; exact absurd rfl h
  rw [if_neg c1] at h ⊢
  by_cases c2 : k = 43
  · subst c2
    rw [if_pos rfl] at h ⊢
    by_cases c : lv = 1
    · subst c; decide
    · rw [if_neg c] at h; exact absurd rfl h
  rw [if_neg c2] at h ⊢
  by_cases c3 : k = 45
  · subst c3
    rw [if_pos rfl] at h ⊢
    by_cases c : lv = 1
    · subst c; decide
    · rw [if_neg c] at h; exact absurd rfl h
  rw [if_neg c3] at h ⊢
  by_cases c4 : k = 60
  · subst c4
    rw [if_pos rfl] at h ⊢
    by_cases c : lv = 0
    · subst c; decide
    · rw [if_neg c] at h; exact absurd rfl h
  rw [if_neg c4] at h ⊢
  by_cases c5 : k = 62
  · subst c5
    rw [if_pos rfl] at h ⊢
    by_cases c : lv = 0
    · subst c; decide
    · rw [if_neg c] at h; exact absurd rfl h
  rw [if_neg c5] at h
  exact absurd rfl h
theorem v_jn_no (h : ∀ lv, 0 ≤ lv → lv ≤ 2 → v_jn lv k = -1) : v_bt k = -1 := by
  have h0 := h 0 (by decide) (by decide)
  have h1 := h 1 (by decide) (by decide)
  have h2 := h 2 (by decide) (by decide)
  unfold v_jn at h0 h1 h2
  unfold v_bt
  by_cases c1 : k = 42
  · subst c1; simp at h2
  by_cases c2 : k = 43
  · subst c2; simp at h1
  by_cases c3 : k = 45
  · subst c3; simp at h1
  by_cases c4 : k = 60
  · subst c4; simp at h0
  by_cases c5 : k = 62
  · subst c5; simp at h0
  rw [if_neg c4, if_neg c5, if_neg c2, if_neg c3, if_neg c1]
end msteps
