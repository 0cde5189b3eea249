/-! THE PARSER: what is wrong with a unit -/
def v_Rd (T : Int → Int) (k a b : Int) : Prop := k = 3 ∧ ∀ j, 0 ≤ j → j < 7 → ¬ v_is T a b j
def v_pw (T : Int → Int) (k a b : Int) : Prop := (k = 3 ∧ v_is T a b 5) ∨ (k = 3 ∧ v_is T a b 6)
def v_pl (T : Int → Int) (k a b : Int) : Prop := k = 4 ∨ k = 40 ∨ k = 45 ∨ v_pw T k a b
def v_uf (A B C D : Prop) (r : Int) : Prop := (r = 1 ∧ ¬ A) ∨ (r = 2 ∧ A ∧ B) ∨ (r = 3 ∧ A ∧ ¬ B ∧ C) ∨ (r = 4 ∧ A ∧ ¬ B ∧ ¬ C ∧ D) ∨ (r = 0 ∧ A ∧ ¬ B ∧ ¬ C ∧ ¬ D)
theorem v_uf_u {A B C D : Prop} {r r' : Int} (h : v_uf A B C D r) (h' : v_uf A B C D r') : r = r' := by
  unfold v_uf at h h'
  by_cases cA : A <;> by_cases cB : B <;> by_cases cC : C <;> by_cases cD : D <;> simp_all
theorem v_uf_rg {A B C D : Prop} {r : Int} (h : v_uf A B C D r) : 0 ≤ r ∧ r ≤ 4 := by
  unfold v_uf at h
  omega
/-- all that can be wrong with a unit -/
def v_UF (T : Int → Int) (k a b x u w R r : Int) : Prop := v_uf (v_Rd T k a b ∨ v_pl T k a b) (k = 4 ∧ 999 < v_dec T a (b - a).toNat) (v_Rd T k a b ∧ x = -1) (40 ≤ u ∨ 4 < w ∨ (v_Rd T k a b ∧ 12 ≤ R)) r
section unit
variable {m : q_Mem} {T : Int → Int} {n k a b t : Int} {f e : Int → Int}
theorem c_unitFault (h : v_cs m T n k a b) (h253 : m 25 3 = t) (htL : t ∈ q_Lp) {V u R ed mny w x : Int} (hV : 0 ≤ V ∧ V ≤ 3) (e2 : m t 2 = V) (e3 : m t 3 = u) (e4 : m t 4 = R) (e8 : m 25 8 = ed) (hu : 0 ≤ u ∧ u ≤ 40) (hR : 0 ≤ R ∧ R ≤ 12) (hw : 0 ≤ w ∧ w ≤ 5) (hed : (ed = 1 ∧ mny = 0) ∨ (ed = 0 ∧ mny = V)) (hf : ∀ j, 0 ≤ j → j < V → m 26 j = f j ∧ m 27 j = e j ∧ 0 ≤ f j ∧ f j ≤ e j ∧ e j ≤ 800) (hx : v_nd (fun j => v_nm T (f j) (e j) a b) mny x) : q_ok (f_Pars_unitFault w m) (fun r m' => m' = m ∧ v_UF T k a b x u w R r) := by
  have hk := h.2.2.1.2.1
  unfold f_Pars_unitFault
  refine o_bd (c_isName h.1 h.2.1 h.2.2.1) fun v1 m2 ⟨em, hv⟩ => ?_
  rw [em]
  have hv1 : (v1 = 1 ∧ v_Rd T k a b) ∨ (v1 = 0 ∧ ¬ v_Rd T k a b) := hv
  have hw1 : q_w v1 = v1 := by rcases hv1 with ⟨h, _⟩ | ⟨h, _⟩ <;> subst h <;> rfl
  have b168 : (40 ≤ u ∨ 4 < w ∨ (v_Rd T k a b ∧ 12 ≤ R)) → (v_Rd T k a b ∨ v_pl T k a b) → ¬ (k = 4 ∧ 999 < v_dec T a (b - a).toNat) → ¬ (v_Rd T k a b ∧ x = -1) → q_ok (f_Pars_unitFault_b163 m) (fun r m' => m' = m ∧ v_UF T k a b x u w R r) := by
    intro hD hA hB hC
    unfold f_Pars_unitFault_b163 f_Pars_unitFault_b168
    rw [x_w1, if_neg (by decide)]
    exact o_rt ⟨rfl, Or.inr (Or.inr (Or.inr (Or.inl ⟨rfl, hA, hB, hC, hD⟩)))⟩
  have b167 : ¬ (40 ≤ u ∨ 4 < w ∨ (v_Rd T k a b ∧ 12 ≤ R)) → (v_Rd T k a b ∨ v_pl T k a b) → ¬ (k = 4 ∧ 999 < v_dec T a (b - a).toNat) → ¬ (v_Rd T k a b ∧ x = -1) → q_ok (f_Pars_unitFault_b167 m) (fun r m' => m' = m ∧ v_UF T k a b x u w R r) := by
    intro hD hA hB hC
    unfold f_Pars_unitFault_b167 f_Pars_unitFault_b168
    rw [x_w0, if_pos rfl]
    exact o_rt ⟨rfl, Or.inr (Or.inr (Or.inr (Or.inr ⟨rfl, hA, hB, hC, hD⟩)))⟩
  have b130 : (v_Rd T k a b ∨ v_pl T k a b) → ¬ (k = 4 ∧ 999 < v_dec T a (b - a).toNat) → ¬ (v_Rd T k a b ∧ x = -1) → q_ok (f_Pars_unitFault_b130 w v1 m) (fun r m' => m' = m ∧ v_UF T k a b x u w R r) := by
    intro hA hB hC
    unfold f_Pars_unitFault_b130
    rw [x_lt, h253, x_one htL, e3, q_w_id (x := u) (by omega) (by omega), q_w_id (x := w) (by omega) (by omega), hw1]
    by_cases c1 : 40 ≤ u
    · rw [if_pos c1]; exact b168 (Or.inl c1) hA hB hC
    rw [if_neg c1]
    by_cases c2 : 4 < w
    · rw [if_pos c2]; exact b168 (Or.inr (Or.inl c2)) hA hB hC
    rw [if_neg c2]
    rcases hv1 with ⟨ev, hRd⟩ | ⟨ev, hRd⟩
    · rw [if_neg (by omega), x_lt, x_one htL, e4, q_w_id (x := R) (by omega) (by omega)]
      by_cases c3 : R < 12
      · rw [if_pos c3]
        refine b167 (fun hh => ?_) hA hB hC
        rcases hh with hh | hh | ⟨_, hh⟩
        · exact c1 hh
        · exact c2 hh
        · omega
      · rw [if_neg c3]; exact b168 (Or.inr (Or.inr ⟨hRd, by omega⟩)) hA hB hC
    · rw [if_pos ev]
      refine b167 (fun hh => ?_) hA hB hC
      rcases hh with hh | hh | ⟨hh, _⟩
      · exact c1 hh
      · exact c2 hh
      · exact hRd hh
  have b109 : (v_Rd T k a b ∨ v_pl T k a b) → ¬ (k = 4 ∧ 999 < v_dec T a (b - a).toNat) → q_ok (f_Pars_unitFault_b109 w v1 m) (fun r m' => m' = m ∧ v_UF T k a b x u w R r) := by
    intro hA hB
    unfold f_Pars_unitFault_b109
    rw [hw1]
    rcases hv1 with ⟨ev, hRd⟩ | ⟨ev, hRd⟩
    · rw [if_neg (by omega), e8]
      rcases hed with ⟨ee, em0⟩ | ⟨ee, em0⟩
      · rw [ee, x_w1, if_neg (by decide)]
        have hx1 : x = -1 := by
          rcases hx with ⟨hx, _⟩ | ⟨hx, _⟩
          · omega
          · exact hx
        exact o_rt ⟨rfl, Or.inr (Or.inr (Or.inl ⟨rfl, hA, hB, hRd, hx1⟩))⟩
      · rw [ee, x_w0, if_pos rfl]
        refine o_bd (c_named h.1 h.2.1 h.2.2.1 h253 htL hV e2 hf) fun x' m3 ⟨em3, hx'⟩ => ?_
        rw [em3]
        have exx : x' = x := by rw [em0] at hx; exact v_nd_u hx' hx
        have hxr : -1 ≤ x ∧ x < 3 := by
          rcases hx with ⟨hx, _⟩ | ⟨hx, _⟩ <;> omega
        rw [exx, q_w_id (x := x) (by omega) (by omega)]
        by_cases cx : x = -1
        · rw [if_pos cx]
          exact o_rt ⟨rfl, Or.inr (Or.inr (Or.inl ⟨rfl, hA, hB, hRd, cx⟩))⟩
        · rw [if_neg cx]; exact b130 hA hB fun hh => cx hh.2
    · rw [if_pos ev]; exact b130 hA hB fun hh => hRd hh.1
  have b83 : (v_Rd T k a b ∨ v_pl T k a b) → q_ok (f_Pars_unitFault_b83 w v1 m) (fun r m' => m' = m ∧ v_UF T k a b x u w R r) := by
    intro hA
    unfold f_Pars_unitFault_b83
    rw [h.2.1.1, q_w_id (x := k) (by omega) (by omega)]
    by_cases c4 : k = 4
    · have hn := h.2.2.2 c4
      have hb5 : m 1 5 ≤ 1000000 := by rcases hn.1 with ⟨_, _⟩ | ⟨_, _, _⟩ <;> omega
      rw [if_pos c4, q_w_id (x := m 1 5) (by omega) (by omega)]
      by_cases c5 : m 1 5 ≤ 999
      · rw [if_pos c5]
        refine b109 hA fun hh => ?_
        rcases hn.1 with ⟨_, _⟩ | ⟨_, _, _⟩ <;> omega
      · rw [if_neg c5]
        refine o_rt ⟨rfl, Or.inr (Or.inl ⟨rfl, hA, c4, ?_⟩)⟩
        rcases hn.1 with ⟨_, _⟩ | ⟨_, _, _⟩ <;> omega
    · rw [if_neg c4]; exact b109 hA fun hh => c4 hh.1
  have b67 : v_pl T k a b → q_ok (f_Pars_unitFault_b67 w v1 m) (fun r m' => m' = m ∧ v_UF T k a b x u w R r) := by
    intro hp
    unfold f_Pars_unitFault_b67 f_Pars_unitFault_b72
    rw [x_w1, if_neg (show ¬ ((1 : Int) = 0) by decide)]
    split
    · exact b83 (Or.inr hp)
    · exact b83 (Or.inr hp)
  rw [h.2.1.1, q_w_id (x := k) (by omega) (by omega)]
  by_cases c4 : k = 4
  · rw [if_pos c4]; exact b67 (Or.inl c4)
  rw [if_neg c4]
  by_cases c40 : k = 40
  · rw [if_pos c40]; exact b67 (Or.inr (Or.inl c40))
  rw [if_neg c40]
  by_cases c45 : k = 45
  · rw [if_pos c45]; exact b67 (Or.inr (Or.inr (Or.inl c45)))
  rw [if_neg c45]
  refine o_bd (c_isWord h.1 h.2.1 h.2.2.1 (s := 9) (by decide) (by decide)) fun v3 m4 ⟨em4, hv3⟩ => ?_
  rw [em4]
  rcases hv3 with ⟨ev3, h3⟩ | ⟨ev3, h3⟩
  · rw [ev3, x_w1, if_neg (by decide)]; exact b67 (Or.inr (Or.inr (Or.inr (Or.inl h3))))
  rw [ev3, x_w0, if_pos rfl]
  refine o_bd (c_isWord h.1 h.2.1 h.2.2.1 (s := 10) (by decide) (by decide)) fun v5 m6 ⟨em6, hv5⟩ => ?_
  rw [em6]
  rcases hv5 with ⟨ev5, h5⟩ | ⟨ev5, h5⟩
  · rw [ev5, x_w1, if_neg (by decide)]; exact b67 (Or.inr (Or.inr (Or.inr (Or.inr h5))))
  rw [ev5, x_w0, if_pos rfl]
  unfold f_Pars_unitFault_b72
  rw [hw1, x_w0]
  rcases hv1 with ⟨ev, hRd⟩ | ⟨ev, hRd⟩
  · rw [if_neg (by omega)]; exact b83 (Or.inl hRd)
  · rw [if_pos ev, if_pos rfl]
    refine o_rt ⟨rfl, Or.inl ⟨rfl, fun hh => ?_⟩⟩
    rcases hh with hh | hh | hh | hh | hh | hh
    · exact hRd hh
    · exact c4 hh
    · exact c40 hh
    · exact c45 hh
    · exact h3 hh
    · exact h5 hh
end unit
