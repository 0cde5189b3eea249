/-! THE PARSER: a let line: its end, in both -/
section let3
variable {T : Int → Int} {n t bk V ed d k a b w W : Int} {f e : Int → Int} {l mc mm : q_Mem}
/-- what of the line's beginning stays -/
def u_kp (t bk : Int) (l mc mm l' mc' mm' : q_Mem) : Prop := (l' 1 = l 1 ∧ l' 0 0 = l 0 0 ∧ l' 0 1 = l 0 1) ∧ (mc' 25 6 = mc 25 6 ∧ mc' 25 7 = mc 25 7) ∧ (∀ c, (82 ≤ c ∧ c ≤ 83) ∨ (88 ≤ c ∧ c ≤ 91) → mm' c = mm c) ∧ (mm' 81 35 = mm 81 35 ∧ mm' 81 36 = mm 81 36) ∧ u_fC t mc mc' ∧ u_fM bk mm mm'
theorem u_kp_tr {l1 mc1 mm1 l2 mc2 mm2 : q_Mem} (h : u_kp t bk l mc mm l1 mc1 mm1) (h' : u_kp t bk l1 mc1 mm1 l2 mc2 mm2) : u_kp t bk l mc mm l2 mc2 mm2 := by
  obtain ⟨⟨a1, a2, a3⟩, ⟨b1, b2⟩, c1, ⟨d1, d2⟩, e1, e2⟩ := h
  obtain ⟨⟨a1', a2', a3'⟩, ⟨b1', b2'⟩, c1', ⟨d1', d2'⟩, e1', e2'⟩ := h'
  exact ⟨⟨a1'.trans a1, a2'.trans a2, a3'.trans a3⟩, ⟨b1'.trans b1, b2'.trans b2⟩, fun c hc => (c1' c hc).trans (c1 c hc), ⟨d1'.trans d1, d2'.trans d2⟩, u_fC_tr e1 e1', u_fM_tr e2 e2'⟩
theorem u_b200 (htL : t ∈ q_Lp) (h : u_S T n t bk V ed f e l mc mm k a b w W) (hF : 0 ≤ l 0 7 ∧ l 0 7 < 6) : q_2 (f_Pars_letLine_b200 mc) (f_Mod_need 59 mm) (fun v mc' mm' => (v = 1 ∧ ∃ k' a' b', u_S T n t bk V 0 f e (n_cf l) mc' mm' k' a' b' w W ∧ v_fm mm mm' ∧ b ≤ a' ∧ u_kp t bk l mc mm (n_cf l) mc' mm') ∨ (v = 0 ∧ u_FL t bk mc mm mc' mm')) := by
  have ht := u_Lp htL
  obtain ⟨mc1, ec1, hS1, fc1, e25, e1⟩ := u_S_cf htL h hF
  have hS2 : u_S T n t bk V 0 f e (n_cf l) (q_up mc1 25 8 0) mm k a b w W := u_S_c hS1 (q_up_f (by decide)) (q_up_f (by decide)) ⟨q_up_i (by decide), q_up_s _ _ _ _, q_up_i (by decide), q_up_i (by decide)⟩ (q_up_f (by decide)) (q_up_f (by decide)) ((u_l_fr fun c c0 c1 => q_up_f (by omega)).trans hS1.2.1.2.2) (fun _ _ _ => rfl) (fun _ _ _ => rfl)
  have fc2 : u_fC t mc (q_up mc1 25 8 0) := u_fC_tr fc1 (u_fC_up htL (by omega))
  have g6 : q_up mc1 25 8 0 25 6 = mc 25 6 ∧ q_up mc1 25 8 0 25 7 = mc 25 7 := by rw [q_up_i (by decide), q_up_i (by decide), e25]; exact ⟨rfl, rfl⟩
  obtain ⟨n1, n2, n3, n4, n5⟩ := n_cf_e l
  unfold f_Pars_letLine_b200
  rw [x_lt, h.2.1.1, x_one htL, ec1, x_bd, x_pz0]
  rcases u_S_need htL hS2 (q := 59) (by unfold v_sg; omega) with ⟨hk, mc3, r3, mm3, k3, a3, b3, ep, en, hS3, fr3, fm3, hab⟩ | ⟨hk, ep, r3, en⟩
  · rw [ep, x_bd, x_rz1, en]
    have e25' : mc3 25 = q_up mc1 25 8 0 25 := fr3.1 25 (by decide)
    exact o2_d (Or.inl ⟨rfl, k3, a3, b3, hS3, fm3, hab, ⟨n3 1 (by decide) (by decide), n1 0 (by decide), n1 1 (by decide)⟩, by rw [e25']; exact g6, fun c hc => fm3.1 c (by omega), ⟨fm3.2 35 (by omega), fm3.2 36 (by omega)⟩, u_fC_tr fc2 (u_fC_fc htL (u_fc_fr fr3)), u_fM_fm (u_fm_fm fm3)⟩)
  · rw [ep, x_bd, x_rz0, en]
    refine o2_d (Or.inr ⟨rfl, ⟨1, a, by decide, ⟨by rw [q_up_i (by decide), q_up_s], q_up_s _ _ _ _⟩, by rw [q_up_i (by decide), q_up_s], q_up_s _ _ _ _⟩, u_fC_tr fc2 (u_fC_tr (u_fC_up htL (by omega)) (u_fC_up htL (by omega))), u_fM_tr (u_fM_up (Or.inl ⟨rfl, by omega⟩)) (u_fM_up (Or.inl ⟨rfl, by omega⟩)), ?_⟩)
    rw [q_up_i (by decide), q_up_i (by decide)]
    exact h.1.2.1.2.2.2.2
end let3
