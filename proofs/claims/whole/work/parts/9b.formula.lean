/-! THE PARSER: a formula, in both -/
section formula
variable {T : Int → Int} {n t bk V ed mny d s k a b w W : Int} {f e : Int → Int} {l mc mm : q_Mem}
theorem m_flush (hb : bk = 0 ∨ bk = 1) : ∀ (q : Nat) (m : q_Mem) (C : Int), 0 ≤ C → C + q ≤ 100 → m 92 bk = C → q ≤ 100 → m 81 38 = q → m 81 28 = 0 → ∃ m1, v_lu m m1 bk C q q ∧ ∀ n' : Nat, f_Mod_readFormula_l156 (n' + q + 1) bk m = some (0, m1) := by
  intro q
  induction q with
  | zero =>
    intro m C hC hCj e92 hq e38 hf
    refine ⟨m, v_lu_id e92 e38, fun n' => ?_⟩
    show f_Mod_readFormula_b156 (f_Mod_readFormula_l156 n') bk m = _
    unfold f_Mod_readFormula_b156
    rw [hf, x_w0, if_pos rfl, e38]
    rfl
  | succ q ih =>
    intro m C hC hCj e92 hq e38 hf
    have lw := m_layWaiting (m := m) hb (C := C) (W := ((q + 1 : Nat) : Int)) (by omega) e92 (by omega) e38
    obtain ⟨m1, h1, h2⟩ := ih (q_up (q_up (q_up m 81 38 (((q + 1 : Nat) : Int) - 1)) 100 (100 * bk + C) (m 105 (((q + 1 : Nat) : Int) - 1))) 92 bk (C + 1)) (C + 1) (by omega) (by omega) (q_up_s _ _ _ _) (by omega) (by rw [q_up_c (by decide), q_up_c (by decide), q_up_s]; omega) (by rw [q_up_c (by decide), q_up_c (by decide), q_up_i (by decide)]; exact hf)
    refine ⟨m1, v_lu_step (by rw [show ((q + 1 : Nat) : Int) - 1 = (q : Int) by omega] at h1 ⊢; exact h1), fun n' => ?_⟩
    show f_Mod_readFormula_b156 (f_Mod_readFormula_l156 (n' + q + 1)) bk m = _
    unfold f_Mod_readFormula_b156
    rw [hf, x_w0, if_pos rfl, e38, q_w_id (x := ((q + 1 : Nat) : Int)) (by omega) (by omega), if_neg (by omega), lw, x_bd]
    exact h2 n'
theorem u_formula (hst : u_st t bk V ed mny f e) (hd : 0 ≤ d ∧ d ≤ 3) (h : u_S T n t bk V ed f e l mc mm k a b w W) (hP : u_P V s l []) (hCd : u_C bk mm l d s (l 0 6)) : q_2 (f_Pars_chain 0 0 mc) (f_Mod_readFormula bk mny mm) (fun v mc' mm' => (∃ l' k' a' b', u_S T n t bk V ed f e l' mc' mm' k' a' b' 0 0 ∧ v = l' 0 6 - 1 ∧ 0 ≤ v ∧ u_G t bk V d s [] l mc mm l' mc' mm' ∧ u_C bk mm' l' d s (l' 0 6) ∧ a ≤ a') ∨ (v = -1 ∧ u_F t bk mc mm mc' mm')) := by
  have hb := hst.2.1
  have hn := h.1.1.1.2.1
  have hP1 := hP.1
  have hsp := ((u_rec (T := T) (n := n) (s := s) hst hd 40).1.2 0 0 (by decide) (by decide) (by decide) (by decide) (by decide))
  have hfm0 : u_fm bk mm (q_up (q_up mm 81 38 0) 81 39 0) := u_fm_tr (u_fm_up (Or.inl ⟨rfl, by omega⟩)) (u_fm_up (Or.inl ⟨rfl, by omega⟩))
  have cell0 : ∀ c, c ≠ 81 → q_up (q_up mm 81 38 0) 81 39 0 c = mm c := fun c hc => by rw [q_up_f hc, q_up_f hc]
  have hS0 : u_S T n t bk V ed f e l mc (q_up (q_up mm 81 38 0) 81 39 0) k a b 0 0 := by
    obtain ⟨⟨hcs, hms, hf0⟩, h25, hnm, hRR, hWW, hl2, e39, e38, hft⟩ := h
    refine ⟨⟨hcs, v_ms_fr hms (fun j _ _ => by rw [q_up_i (by omega), q_up_i (by omega)]) (cell0 101 (by decide)) (cell0 102 (by decide)), by rw [q_up_i (by decide), q_up_i (by decide)]; exact hf0⟩, h25, fun i i0 i1 => ?_, u_R_fr hRR fun c c0 c1 _ => cell0 c (by omega), hWW, hl2, q_up_s _ _ _ _, by rw [q_up_i (by decide), q_up_s], hft.1, hft.2.1, by rw [q_up_i (by decide), q_up_i (by decide)]; exact hft.2.2⟩
    rw [cell0 103 (by decide), cell0 104 (by decide)]
    exact hnm i i0 i1
  have hCd0 : u_C bk (q_up (q_up mm 81 38 0) 81 39 0) l d s (l 0 6) := by
    unfold u_C u_cd at *
    rw [cell0 92 (by decide), cell0 100 (by decide)]
    exact hCd
  unfold f_Pars_chain f_Mod_readFormula
  rw [x_pf, x_pf]
  obtain ⟨v, mc', ec, hres⟩ := hsp l mc _ k a b 0 [] hS0 hP hCd0 (Or.inl rfl) (by decide) (by decide)
  rw [ec]
  rcases hres with ⟨l', mm', k', a', b', p, q, hS', ev, ⟨hP', hx', hcnt', hlo', fc', fm'⟩, ⟨hC', hlt'⟩, hst', hlow', hq', hnj', hpa', hL'⟩ | ⟨ev, mm', p, hF, hpa', hL'⟩
  · have hsh' := hS'.1.1.2.2.1
    have hW' := hS'.2.2.2.2.1
    have W1 := hW'.1
    have W4 := hW'.2.2.2.1
    have hbt := v_jn_no fun lv l0 l2 => hnj' lv l0 l2
    have e38 : mm' 81 38 = (q : Int) := by have := hS'.2.2.2.2.2.2.2.1; omega
    obtain ⟨m1, hlu, hfl⟩ := m_flush hb q mm' (l' 0 6 - q + d) (by omega) (by omega) hC'.1 (by omega) e38 hS'.1.2.2
    obtain ⟨nf, hnf⟩ : ∃ nf, q_F = (nf + 2) + p := ⟨20000 - 2 - p, by unfold q_F; have := hsh'.1; have := h.1.1.2.2.1.1; omega⟩
    obtain ⟨nf2, hnf2⟩ : ∃ nf2, q_F = nf2 + q + 1 := ⟨20000 - 1 - q, by unfold q_F; omega⟩
    have fin : f_Mod_readFormula_l15 q_F bk mny 1 1 (q_up (q_up mm 81 38 0) 81 39 0) = some (0, m1) := by
      rw [hnf, hL', L_stop hS'.1.2.1 hS'.1.2.2 hS'.2.2.2.2.2.2.1 (by decide) hbt (fun hh => absurd hh.2 (by decide)) nf]
      unfold f_Mod_readFormula_b137
      rw [hS'.1.2.2, x_w0, if_pos rfl, hS'.2.2.2.2.2.2.1, if_pos (by decide), hnf2, hfl]
    rw [fin]
    obtain ⟨l1, l2, l3, l4, l5, l6, l7⟩ := hlu
    have hfm1 : u_fm bk mm' m1 := by
      refine ⟨fun c i c1 c2 c3 => ?_, fun i hi => l2 i (by omega)⟩
      by_cases e92 : c = 92
      · rw [e92]; rw [e92] at c3; exact l4 i (by unfold u_ou at c3; omega)
      · by_cases e100 : c = 100
        · rw [e100]; rw [e100] at c3; exact l6 i (by unfold u_ou at c3; omega)
        · rw [l1 c c1 e92 e100]
    obtain ⟨⟨hcs, hms, hf0⟩, h25, hnm, hRR, hWW, hl2, e39, _, hft⟩ := hS'
    refine o2_d (Or.inl ⟨l', k', a', b', ⟨⟨hcs, v_ms_fr hms (fun j _ _ => l2 j (by omega)) (l1 101 (by decide) (by decide) (by decide)) (l1 102 (by decide) (by decide) (by decide)), (l2 28 (by decide)).trans hf0⟩, h25, fun i i0 i1 => ?_, u_R_fr hRR fun c c0 c1 c2 => l1 c (by omega) c2 (by omega), hWW, hl2, (l2 39 (by decide)).trans e39, by omega, hft.1, hft.2.1, (l2 29 (by decide)).trans hft.2.2⟩, ev, by omega, ⟨hP', hx', hcnt', fun i hi => ?_, fc', u_fm_tr hfm0 (u_fm_tr fm' hfm1)⟩, ⟨by omega, fun x x0 x1 => ?_⟩, by omega⟩)
    · rw [l1 103 (by decide) (by decide) (by decide), l1 104 (by decide) (by decide) (by decide)]
      exact hnm i i0 i1
    · rw [l6 _ (by omega), hlo' i hi, cell0 100 (by decide)]
    · by_cases cx : x < l' 0 6 - q
      · rw [l6 _ (by omega)]; exact hC'.2 x x0 cx
      · have h7 := l7 (x - (l' 0 6 - q)) (by omega) (by omega)
        rw [show 100 * bk + (l' 0 6 - (q : Int) + d) + (x - (l' 0 6 - q)) = 100 * bk + (x + d) by omega] at h7
        rw [h7, show (q : Int) - 1 - (x - (l' 0 6 - q)) = 0 + (l' 0 6 - 1 - x) by omega, (hst' (l' 0 6 - 1 - x) (by omega) (by omega)).1, show l' 0 6 - 1 - (l' 0 6 - 1 - x) = x by omega]
  · have ha := h.1.1.2.2.1.1
    obtain ⟨nf, hnf⟩ : ∃ nf, q_F = nf + p := ⟨20000 - p, by unfold q_F; omega⟩
    rw [hnf, hL']
    exact o2_d (Or.inr ⟨ev, u_F_pre (u_fc_id t mc) hfm0 hF⟩)
/-- where something was wrong before, nothing happens but that the stack is emptied -/
theorem m_formula1 (hf : 1 ≤ mm 81 28 ∧ mm 81 28 ≤ 4) : f_Mod_readFormula bk mny mm = some (0, q_up (q_up mm 81 38 0) 81 39 0) := by
  unfold f_Mod_readFormula
  rw [x_pf, x_pf]
  exact L_fail (by rw [q_up_i (by decide), q_up_i (by decide)]; exact hf) 19999 1 1
end formula
