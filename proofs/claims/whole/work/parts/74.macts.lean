/-! ACTS, the model's side -/
section macts
variable {l m m' : q_Mem} {o : Int → Int} {x z n ft pl : Int} {L X : Int → Int → Int} {F T : Int → Int}
theorem r_ok_congr {R R' o : Int → Int} (h : r_ok R o) (e : ∀ j, 0 ≤ j → j < 69 → R' j = R j) : r_ok R' o := by
  refine ⟨fun i i0 i4 => by rw [e i i0 (by omega)]; exact h.1 i i0 i4, fun c c0 c1 => ?_⟩
  rw [e (5 + c) (by omega) (by omega)]
  exact h.2 c c0 c1
theorem r_ok_o {R o o' : Int → Int} (h : r_ok R o) (e : ∀ j, 0 ≤ j → j ≤ 5 → o' j = o j) : r_ok R o' := by
  refine ⟨fun i i0 i4 => by rw [e i i0 (by omega)]; exact h.1 i i0 i4, fun c c0 c1 => ?_⟩
  rw [e 5 (by decide) (by decide)]
  exact h.2 c c0 c1
theorem r_ok_up {R : Int → Int} {L : Int → Int → Int} {x f v : Int} (h : r_ok R (L x)) (hf : 0 ≤ f ∧ f ≤ 4) : r_ok (fun j => if j = f then v else R j) (j_up L x f v x) := by
  refine ⟨fun i i0 i4 => ?_, fun c c0 c1 => ?_⟩
  · show (if i = f then v else R i) = _
    by_cases ci : i = f
    · rw [if_pos ci, ci, j_up_s]
    · rw [if_neg ci, j_up_o fun h => ci h.2]
      exact h.1 i i0 i4
  · rw [j_up_o fun h => by omega]
    show (_ → (if 5 + c = f then v else R (5 + c)) = 0) ∧ (_ → (if 5 + c = f then v else R (5 + c)) = 1)
    rw [if_neg (by omega)]
    exact h.2 c c0 c1
theorem m_keepB {y : Int} (hy : 0 ≤ y ∧ y ≤ 19) (h69 : m 81 69 = y) : q_ok (f_Mod_keepAct_b49 m) (fun _ m' => (∀ c, c ≠ 81 → c ≠ 123 → m' c = m c) ∧ (∀ j, j ≠ 69 → j ≠ 70 → m' 81 j = m 81 j) ∧ m' 81 69 = y + 1 ∧ m' 81 70 = 0 ∧ (∀ j, 0 ≤ j → j < 69 → m' 123 (69 * y + j) = m 115 j) ∧ ∀ i, i < 69 * y ∨ 69 * y + 69 ≤ i → m' 123 i = m 123 i) := by
  unfold f_Mod_keepAct_b49
  refine o_upF (fun n' k (s : q_Mem) => f_Mod_keepAct_l51 n' k s) (fun k s => 0 ≤ k ∧ (∀ c, c ≠ 123 → s c = m c) ∧ (∀ j, 0 ≤ j → j < k → s 123 (69 * y + j) = m 115 j) ∧ ∀ i, i < 69 * y ∨ 69 * y + 69 ≤ i → s 123 i = m 123 i) _ (k := 0) (e := 69) (s := m) (by omega) (by omega) ⟨by omega, fun _ _ => rfl, fun i i0 i1 => by omega, fun _ _ => rfl⟩ ?_ ?_
  · intro n' k s hk ⟨k0, f1, s1, s2⟩ hn
    show q_ok (f_Mod_keepAct_b51 (f_Mod_keepAct_l51 n') k s) _
    unfold f_Mod_keepAct_b51
    rw [q_w_id (x := k) (by omega) (by omega), if_neg (by omega), x_rd (n := 69) k0 (by omega) (by decide), f1 115 (by decide), f1 81 (by decide), h69, x_wr (n := 1449) (by omega) (by omega) (by decide)]
    refine hn _ ⟨by omega, fun c hc => by rw [q_up_f hc]; exact f1 c hc, fun i i0 i1 => ?_, fun i hi => ?_⟩
    · by_cases c : i = k
      · rw [c, q_up_s]
      · rw [q_up_i (by omega)]; exact s1 i i0 (by omega)
    · rw [q_up_i (by omega)]; exact s2 i hi
  · intro n' s ⟨_, f1, s1, s2⟩
    show q_ok (f_Mod_keepAct_b51 (f_Mod_keepAct_l51 n') 69 s) _
    unfold f_Mod_keepAct_b51
    have e69 : s 81 69 = y := by rw [f1 81 (by decide)]; exact h69
    rw [if_pos (by decide), x_pf, x_pf, e69]
    have e123 : q_up (q_up s 81 69 (y + 1)) 81 70 0 123 = s 123 := by rw [q_up_f (by decide), q_up_f (by decide)]
    refine o_rt ⟨fun c c1 c2 => by rw [q_up_f c1, q_up_f c1]; exact f1 c c2, fun j j1 j2 => by rw [q_up_i j2, q_up_i j1, f1 81 (by decide)], by rw [q_up_i (by decide), q_up_s], q_up_s _ _ _ _, fun j j0 j1 => by rw [e123]; exact s1 j j0 j1, fun i hi => by rw [e123]; exact s2 i hi⟩
theorem j_keep (h2 : 0 ≤ x ∧ x ≤ z ∧ z ≤ 20) (ho : r_ok (m 115) (L x)) (h : j_HM m x z L) : q_ok (f_Mod_keepAct m) (fun _ m' => (∀ c, c ≠ 81 → c ≠ 123 → m' c = m c) ∧ (∀ j, j ≠ 69 → j ≠ 70 → m' 81 j = m 81 j) ∧ j_HM m' (j_x x) (j_x x) (j_L x L)) := by
  obtain ⟨h1, h3, h4⟩ := h
  unfold f_Mod_keepAct
  rw [h1.1, q_w_id (x := x) (by omega) (by omega)]
  by_cases c : x < 20
  · have ex : j_x x = x + 1 := if_pos c
    rw [if_neg (by omega), ex]
    refine o_mono (m_keepB (y := x) (by omega) h1.1) fun _ m1 ⟨f1, f2, e69, e70, v1, v2⟩ => ⟨f1, f2, ⟨e69, by rw [e70]; omega⟩, fun i i0 i1 => ?_, fun i i0 i1 => by omega⟩
    unfold j_L
    rw [if_pos c, if_neg (by omega)]
    by_cases ci : i = x
    · rw [ci]
      exact r_ok_congr ho fun j j0 j1 => v1 j j0 j1
    · exact r_ok_congr (h3 i i0 (by omega)) fun j j0 j1 => v2 _ (by omega)
  · have ex : x = 20 := by omega
    subst ex
    rw [if_pos rfl]
    refine o_upF (fun n' k (s : q_Mem) => f_Mod_keepAct_l11 n' k s) (fun k s => 0 ≤ k ∧ (∀ c, c ≠ 123 → s c = m c) ∧ (∀ j, 0 ≤ j → j < k → s 123 j = m 123 (j + 69)) ∧ ∀ i, k ≤ i → s 123 i = m 123 i) _ (k := 0) (e := 1380) (s := m) (by omega) (by omega) ⟨by omega, fun _ _ => rfl, fun i i0 i1 => by omega, fun _ _ => rfl⟩ ?_ ?_
    · intro n' k s hk ⟨k0, f1, s1, s2⟩ hn
      show q_ok (f_Mod_keepAct_b11 (f_Mod_keepAct_l11 n') k s) _
      unfold f_Mod_keepAct_b11
      rw [q_w_id (x := k) (by omega) (by omega), if_neg (by omega), x_rd (n := 1449) (by omega) (by omega) (by decide), s2 (k + 69) (by omega), x_wr (n := 1449) (by omega) (by omega) (by decide)]
      refine hn _ ⟨by omega, fun c hc => by rw [q_up_f hc]; exact f1 c hc, fun i i0 i1 => ?_, fun i hi => ?_⟩
      · by_cases c : i = k
        · rw [c, q_up_s]
        · rw [q_up_i (by omega)]; exact s1 i i0 (by omega)
      · rw [q_up_i (by omega)]; exact s2 i (by omega)
    · intro n' s ⟨_, f1, s1, s2⟩
      show q_ok (f_Mod_keepAct_b11 (f_Mod_keepAct_l11 n') 1380 s) _
      unfold f_Mod_keepAct_b11
      rw [if_pos (by decide), x_pf, f1 81 (by decide), h1.1]
      refine o_mono (m_keepB (m := q_up s 81 69 (20 - 1)) (y := 19) (by omega) (q_up_s _ _ _ _)) fun _ m1 ⟨g1, g2, e69, e70, v1, v2⟩ => ⟨fun c c1 c2 => by rw [g1 c c1 c2, q_up_f c1]; exact f1 c c2, fun j j1 j2 => by rw [g2 j j1 j2, q_up_i j1, f1 81 (by decide)], ⟨e69, by rw [e70]; rfl⟩, fun i i0 i1 => ?_, fun i i0 i1 => by omega⟩
      replace i1 : i < 20 := i1
      unfold j_L
      rw [if_neg (by decide), if_pos i1]
      by_cases ci : i = 19
      · rw [ci]
        refine r_ok_congr ho fun j j0 j1 => ?_
        rw [v1 j j0 j1, q_up_f (by decide), f1 115 (by decide)]
      · refine r_ok_congr (h3 (i + 1) (by omega) (by omega)) fun j j0 j1 => ?_
        show m1 123 (69 * i + j) = m 123 (69 * (i + 1) + j)
        rw [v2 _ (by omega), q_up_f (by decide), s1 _ (by omega) (by omega), show 69 * i + j + 69 = 69 * (i + 1) + j by omega]
theorem m_swap {y : Int} (hy : 0 ≤ y ∧ y ≤ 20) (h69 : m 81 69 = y) : q_ok (f_Mod_swapAll m) (fun _ m' => (∀ c, c ≠ 115 → c ≠ 123 → m' c = m c) ∧ (∀ j, 0 ≤ j → j < 69 → m' 123 (69 * y + j) = m 115 j ∧ m' 115 j = m 123 (69 * y + j)) ∧ ∀ i, i < 69 * y ∨ 69 * y + 69 ≤ i → m' 123 i = m 123 i) := by
  unfold f_Mod_swapAll
  refine o_upF (fun n' k (s : q_Mem) => f_Mod_swapAll_l2 n' k s) (fun k s => 0 ≤ k ∧ (∀ c, c ≠ 115 → c ≠ 123 → s c = m c) ∧ (∀ j, 0 ≤ j → j < k → s 123 (69 * y + j) = m 115 j ∧ s 115 j = m 123 (69 * y + j)) ∧ (∀ j, k ≤ j → j < 69 → s 123 (69 * y + j) = m 123 (69 * y + j) ∧ s 115 j = m 115 j) ∧ ∀ i, i < 69 * y ∨ 69 * y + 69 ≤ i → s 123 i = m 123 i) _ (k := 0) (e := 69) (s := m) (by omega) (by omega) ⟨by omega, fun _ _ _ => rfl, fun i i0 i1 => by omega, fun _ _ _ => ⟨rfl, rfl⟩, fun _ _ => rfl⟩ ?_ ?_
  · intro n' k s hk ⟨k0, f1, s1, s2, s3⟩ hn
    have a := s2 k (Int.le_refl _) (by omega)
    show q_ok (f_Mod_swapAll_b2 (f_Mod_swapAll_l2 n') k s) _
    unfold f_Mod_swapAll_b2
    rw [q_w_id (x := k) (by omega) (by omega), if_neg (by omega), f1 81 (by decide) (by decide), h69, x_rd (n := 1449) (by omega) (by omega) (by decide), x_rd (n := 69) k0 (by omega) (by decide), x_wr (n := 1449) (by omega) (by omega) (by decide), x_wr (n := 69) k0 (by omega) (by decide), a.1, a.2]
    refine hn _ ⟨by omega, fun c c1 c2 => by rw [q_up_f c1, q_up_f c2]; exact f1 c c1 c2, fun j j0 j1 => ?_, fun j j0 j1 => ?_, fun i hi => ?_⟩
    · rw [q_up_c (show (123 : Int) ≠ 115 by decide)]
      by_cases c : j = k
      · rw [c, q_up_s, q_up_s]; exact ⟨rfl, rfl⟩
      · rw [q_up_i (by omega), q_up_i c, q_up_c (by decide)]; exact s1 j j0 (by omega)
    · rw [q_up_c (show (123 : Int) ≠ 115 by decide), q_up_i (by omega), q_up_i (by omega), q_up_c (by decide)]; exact s2 j (by omega) j1
    · rw [q_up_c (by decide), q_up_i (by omega)]; exact s3 i hi
  · intro n' s ⟨_, f1, s1, s2, s3⟩
    show q_ok (f_Mod_swapAll_b2 (f_Mod_swapAll_l2 n') 69 s) _
    unfold f_Mod_swapAll_b2
    rw [if_pos (by decide)]
    exact o_rt ⟨f1, s1, s3⟩
/-- the model's layout has changed -/
theorem k_M_115 (h : k_M l o m) {o' : Int → Int} (e : ∀ c, 81 ≤ c → c < 101 → c ≠ 81 → m' c = m c) (e19 : m' 81 19 = m 81 19) (ho : r_ok (m' 115) o') : k_M l o' m' := by
  obtain ⟨h1, h2, _⟩ := h
  refine ⟨g_ML_of h1 e19 fun c c0 c1 => e c (by omega) (by omega) (by omega), ?_, ho⟩
  obtain ⟨b, hb, h19, hv⟩ := h2
  refine ⟨b, hb, by rw [e19]; exact h19, ?_⟩
  unfold g_seg f_fs at hv ⊢
  rw [e 98 (by decide) (by decide) (by decide), e 99 (by decide) (by decide) (by decide), e 100 (by decide) (by decide) (by decide)]
  exact hv
theorem j_W_fr (h : j_W m) (e : m' 102 = m 102) : j_W m' := by
  unfold j_W at *
  rw [e]
  exact h
/-- the model's state after an act: the history and the layout at hand are new -/
theorem j_M_act (h : j_M l x z L F X n T ft pl m) {x' z' : Int} {L' : Int → Int → Int} (e : ∀ c, 81 ≤ c → c ≠ 81 → c ≠ 115 → c ≠ 123 → m' c = m c) (e81 : ∀ j, j ≠ 69 → j ≠ 70 → m' 81 j = m 81 j) (hH : j_HM m' x' z' L') (ho : r_ok (m' 115) (L' x')) : j_M l x' z' L' F X n T ft pl m' := by
  obtain ⟨h1, h2, h3, h4, h5⟩ := h
  exact ⟨k_M_115 h1 (fun c c0 c1 c2 => e c (by omega) (by omega) (by omega) (by omega)) (e81 19 (by decide) (by decide)) ho, hH, j_BM_fr h3 (e 124 (by decide) (by decide) (by decide) (by decide)) (e 125 (by decide) (by decide) (by decide) (by decide)), j_W_fr h4 (e 102 (by decide) (by decide) (by decide) (by decide)), j_TM_fr h5 (e81 21 (by decide) (by decide)) (e81 30 (by decide) (by decide)) (e81 31 (by decide) (by decide)) (e 101 (by decide) (by decide) (by decide) (by decide)) (e81 26 (by decide) (by decide))⟩
theorem j_HM_up (h : j_HM m x x L) {f v : Int} : j_HM m x x (j_up L x f v) := by
  obtain ⟨h1, h2, h3⟩ := h
  refine ⟨h1, fun i i0 i1 => r_ok_o (h2 i i0 i1) fun j _ _ => j_up_o fun hh => by omega, fun i i0 i1 => by omega⟩
end macts
