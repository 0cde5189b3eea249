/-! THE PARSER: one token on; a sign is passed -/
/-- the class stands at a token; the model does -/
def v_cs (m : q_Mem) (T : Int → Int) (n k a b : Int) : Prop := v_C m T n ∧ v_tc m k a b ∧ v_sh T n k a b ∧ (k = 4 → v_nr (v_dec T a (b - a).toNat) (m 1 5) ∧ 0 ≤ m 1 5)
def v_ms (m : q_Mem) (T : Int → Int) (n k a b : Int) : Prop := v_M m T n ∧ v_tm m T k a b ∧ v_sh T n k a b ∧ (k = 4 → v_nr (v_dec T a (b - a).toNat) (m 81 26)) ∧ (0 ≤ m 81 26 ∧ m 81 26 ≤ 9999)
section pass
variable {m m' : q_Mem} {T : Int → Int} {n k a b : Int}
theorem v_cs_fr (h : v_cs m T n k a b) (e1 : m' 1 = m 1) (e2 : m' 2 = m 2) : v_cs m' T n k a b := by
  unfold v_cs v_C v_tc at *
  rw [e1, e2]
  exact h
theorem v_ms_fr (h : v_ms m T n k a b) (e : ∀ j, 22 ≤ j → j ≤ 27 → m' 81 j = m 81 j) (e1 : m' 101 = m 101) (e2 : m' 102 = m 102) : v_ms m' T n k a b := by
  unfold v_ms v_M v_tm at *
  rw [e 22 (by decide) (by decide), e 23 (by decide) (by decide), e 24 (by decide) (by decide), e 25 (by decide) (by decide), e 26 (by decide) (by decide), e 27 (by decide) (by decide), e1, e2]
  exact h
theorem c_next (h : v_cs m T n k a b) : q_ok (f_Tape_step m) (fun _ m' => v_fr m m' ∧ ∃ k' a' b', v_tok T n b k' a' b' ∧ v_cs m' T n k' a' b') := by
  obtain ⟨h1, h2, h3, _⟩ := h
  have hn := h1.2.1
  have s1 := h3.1
  refine o_mono (c_step h1 (x := b) (by omega) h2.2.2) fun _ m2 ⟨f2, k', a', b', ht, e1, e2, e3, hv⟩ => ⟨f2, k', a', b', ht, v_C_fr h1 f2, ⟨e1, e2, e3⟩, v_tok_sh (by omega) (fun i i0 i1 => h1.2.2.2 i i0 (by omega)) ht, hv⟩
theorem m_next (h : v_ms m T n k a b) : q_ok (f_Mod_scan m) (fun _ m' => v_fm m m' ∧ ∃ k' a' b', v_tok T n b k' a' b' ∧ v_ms m' T n k' a' b') := by
  obtain ⟨h1, h2, h3, _, h5⟩ := h
  have hn := h1.2.1
  have s1 := h3.1
  refine o_mono (m_scan h1 (x := b) (by omega) h2.2.2.1 h5) fun _ m2 ⟨f2, ⟨k', a', b', ht, e1, e2, e3, hv, hw⟩, hr⟩ => ⟨f2, k', a', b', ht, v_M_fr h1 f2, ⟨e1, e2, e3, hw⟩, v_tok_sh (by omega) (fun i i0 i1 => h1.2.2.2.1 i i0 (by omega)) ht, hv, hr⟩
/-- the class's first fault -/
theorem c_refuse {w p : Int} : f_Pars_refuse w p m = some (0, q_up (q_up m 25 4 w) 25 5 p) := by
  unfold f_Pars_refuse
  rw [x_pf, x_pf, x_rz0]
theorem c_pass (h : v_cs m T n k a b) {q : Int} (hq : v_sg q) : q_ok (f_Pars_pass q m) (fun r m' => (k = q ∧ r = 1 ∧ v_fr m m' ∧ ∃ k' a' b', v_tok T n b k' a' b' ∧ v_cs m' T n k' a' b') ∨ (k ≠ q ∧ r = 0 ∧ m' = q_up (q_up m 25 4 1) 25 5 a)) := by
  have hk := h.2.2.1.2.1
  have hqr : 40 ≤ q ∧ q ≤ 62 := by unfold v_sg at hq; omega
  unfold f_Pars_pass
  rw [h.2.1.1, h.2.1.2.1, q_w_id (x := k) (by omega) (by omega), q_w_id (x := q) (by omega) (by omega)]
  by_cases c : k = q
  · rw [if_pos c]
    refine o_bd (c_next h) fun _ m2 hm2 => ?_
    rw [x_rz1]
    exact o_some (Or.inl ⟨c, rfl, hm2⟩)
  · rw [if_neg c, c_refuse, x_bd, x_rz0]
    exact o_some (Or.inr ⟨c, rfl, rfl⟩)
theorem m_fail0 {w : Int} (hf : m 81 28 = 0) : f_Mod_fail w m = some (0, q_up (q_up m 81 28 w) 81 29 (m 81 24)) := by
  unfold f_Mod_fail
  rw [hf, x_w0, if_pos (by decide), x_pf, x_pf, q_up_i (by decide), x_rt]
theorem m_fail1 {w : Int} (hf : 1 ≤ m 81 28 ∧ m 81 28 ≤ 4) : f_Mod_fail w m = some (0, m) := by
  unfold f_Mod_fail
  rw [q_w_id (by omega) (by omega), if_neg (by omega), x_rt]
theorem m_isAt1 {q : Int} (hf : 1 ≤ m 81 28 ∧ m 81 28 ≤ 4) : f_Mod_isAt q m = some (0, m) := by
  unfold f_Mod_isAt
  rw [q_w_id (by omega) (by omega), if_neg (by omega), x_rz0]
theorem m_isWord1 {w : Int} (hf : 1 ≤ m 81 28 ∧ m 81 28 ≤ 4) : f_Mod_isWord w m = some (0, m) := by
  unfold f_Mod_isWord
  rw [q_w_id (by omega) (by omega), if_neg (by omega), x_rz0]
theorem m_isName1 (hf : 1 ≤ m 81 28 ∧ m 81 28 ≤ 4) : f_Mod_isName m = some (0, m) := by
  unfold f_Mod_isName
  rw [q_w_id (by omega) (by omega), if_neg (by omega), x_rz0]
theorem m_need1 {q : Int} (hf : 1 ≤ m 81 28 ∧ m 81 28 ≤ 4) : f_Mod_need q m = some (0, m) := by
  unfold f_Mod_need
  rw [m_isAt1 hf, x_bd, x_w0, if_pos rfl, m_fail1 hf, x_bd, x_rt]
theorem m_need0 (h : v_ms m T n k a b) (hf : m 81 28 = 0) {q : Int} (hq : v_sg q) : q_ok (f_Mod_need q m) (fun _ m' => (k = q ∧ v_fm m m' ∧ ∃ k' a' b', v_tok T n b k' a' b' ∧ v_ms m' T n k' a' b') ∨ (k ≠ q ∧ m' = q_up (q_up m 81 28 1) 81 29 a)) := by
  unfold f_Mod_need
  refine o_bd (m_isAt h.1 h.2.2.1 h.2.1 hf hq) fun v m2 ⟨em, hv⟩ => ?_
  rw [em]
  rcases hv with ⟨ev, hk⟩ | ⟨ev, hk⟩
  · rw [ev, x_w1, if_neg (by decide)]
    refine o_bd (m_next h) fun _ m3 hm3 => ?_
    exact o_rt (Or.inl ⟨hk, hm3⟩)
  · rw [ev, x_w0, if_pos rfl, m_fail0 hf, x_bd, h.2.1.2.1]
    exact o_rt (Or.inr ⟨hk, rfl⟩)
/-- a number is read, with a minus ahead or not: the token of its digits -/
def v_pm (T : Int → Int) (n lo k a b k1 a1 b1 : Int) : Prop := (¬ (lo < 0 ∧ k = 45) ∧ k1 = k ∧ a1 = a ∧ b1 = b) ∨ ((lo < 0 ∧ k = 45) ∧ v_tok T n b k1 a1 b1)
theorem v_pm_u {lo k1 a1 b1 k2 a2 b2 : Int} (h : v_pm T n lo k a b k1 a1 b1) (h' : v_pm T n lo k a b k2 a2 b2) : k1 = k2 ∧ a1 = a2 ∧ b1 = b2 := by
  rcases h with ⟨c, e1, e2, e3⟩ | ⟨c, ht⟩ <;> rcases h' with ⟨c', g1, g2, g3⟩ | ⟨c', ht'⟩
  · exact ⟨e1.trans g1.symm, e2.trans g2.symm, e3.trans g3.symm⟩
  · exact absurd c' c
  · exact absurd c c'
  · exact v_tok_u ht ht'
/-- its value -/
def v_val (T : Int → Int) (lo k a1 b1 : Int) : Int := if lo < 0 ∧ k = 45 then -v_dec T a1 (b1 - a1).toNat else v_dec T a1 (b1 - a1).toNat
/-- what the class's number makes of it -/
def v_cn (m m' : q_Mem) (T : Int → Int) (n lo hi k k1 a1 b1 r : Int) : Prop :=
  (k1 ≠ 4 ∧ r = 0 ∧ m' 25 4 = 1 ∧ m' 25 5 = a1) ∨ (k1 = 4 ∧ ¬ (lo ≤ v_val T lo k a1 b1 ∧ v_val T lo k a1 b1 ≤ hi) ∧ r = 0 ∧ m' 25 4 = 2 ∧ m' 25 5 = a1) ∨ (k1 = 4 ∧ (lo ≤ v_val T lo k a1 b1 ∧ v_val T lo k a1 b1 ≤ hi) ∧ r = 1 ∧ (m' 25 4 = m 25 4 ∧ m' 25 5 = m 25 5) ∧ m' 25 9 = v_val T lo k a1 b1 ∧ m' 25 10 = a1 ∧ ∃ k' a' b', v_tok T n b1 k' a' b' ∧ v_cs m' T n k' a' b')
/-- only the token and the parser's fault and number change -/
def v_fp (m m' : q_Mem) : Prop := (∀ c, c ≠ 1 → c ≠ 25 → m' c = m c) ∧ (∀ j, j < 2 ∨ 5 < j → m' 1 j = m 1 j) ∧ ∀ j, j < 4 ∨ (5 < j ∧ j < 9) ∨ 10 < j → m' 25 j = m 25 j
theorem v_fp_fr (h : v_fr m m') : v_fp m m' := ⟨fun c c1 _ => h.1 c c1, h.2, fun j _ => by rw [h.1 25 (by decide)]⟩
theorem v_fp_tr {m1 m2 : q_Mem} (h : v_fp m m1) (h' : v_fp m1 m2) : v_fp m m2 := ⟨fun c c1 c2 => (h'.1 c c1 c2).trans (h.1 c c1 c2), fun j hj => (h'.2.1 j hj).trans (h.2.1 j hj), fun j hj => (h'.2.2 j hj).trans (h.2.2 j hj)⟩
theorem v_fp_up {j v : Int} (hj : j = 4 ∨ j = 5 ∨ j = 9 ∨ j = 10) : v_fp m (q_up m 25 j v) := ⟨fun c _ c2 => q_up_f c2, fun i _ => q_up_c (by decide), fun i hi => q_up_i (by omega)⟩
end pass
