/-! ACTS, the class's side -/
def k_P (l : q_Mem) (o : Int → Int) (m : q_Mem) : Prop := (m 0 1 ∈ q_Lp ∧ g_CL m (m 0 1) l) ∧ ((0 ≤ m 28 1 ∧ m 28 1 ≤ 20) ∧ m 29 (m 28 1) ∈ q_Ly ∧ ∀ i, 0 ≤ i → i ≤ 5 → m (m 29 (m 28 1)) i = o i) ∧ k_web l m ∧ f_V l (m 54) (fun p => 0 ≤ m 54 p) (-1) (-1) (m 74)
def j_x (x : Int) : Int := if x < 20 then x + 1 else 20
def j_L (x : Int) (L : Int → Int → Int) : Int → Int → Int := fun i => if x < 20 then (if i = x + 1 then L x else L i) else (if i < 20 then L (i + 1) else L 20)
def j_up (L : Int → Int → Int) (x f v : Int) : Int → Int → Int := fun i j => if i = x ∧ j = f then v else L i j
theorem j_L_x {x : Int} (hx : x ≤ 20) (L : Int → Int → Int) : j_L x L (j_x x) = L x := by
  unfold j_L j_x
  by_cases c : x < 20
  · simp only [if_pos c]
    rw [if_pos trivial]
  · have : x = 20 := by omega
    subst this
    rfl
theorem j_up_s (L : Int → Int → Int) (x f v : Int) : j_up L x f v x f = v := if_pos ⟨rfl, rfl⟩
theorem j_up_o {L : Int → Int → Int} {x f v i j : Int} (h : ¬ (i = x ∧ j = f)) : j_up L x f v i j = L i j := if_neg h
theorem q_Ly_in {y : Int} (h : 30 ≤ y ∧ y ≤ 50) : y ∈ q_Ly := by
  simp [q_Ly]
  omega
theorem c_copy {m : q_Mem} {t s : Int} (h : s ≠ t) : q_ok (f_Layo_copy t s m) (fun _ m' => (∀ c, c ≠ t → m' c = m c) ∧ ∀ j, 0 ≤ j → j ≤ 5 → m' t j = m s j) := by
  unfold f_Layo_copy
  simp only [x_pf, q_up_c h]
  refine o_rt ⟨fun c hc => by rw [q_up_f hc, q_up_f hc, q_up_f hc, q_up_f hc, q_up_f hc, q_up_f hc], fun j j0 j5 => ?_⟩
  have : j = 0 ∨ j = 1 ∨ j = 2 ∨ j = 3 ∨ j = 4 ∨ j = 5 := by omega
  rcases this with rfl | rfl | rfl | rfl | rfl | rfl <;> simp [q_up]
section acts
variable {l m m' : q_Mem} {o : Int → Int} {x z n ft pl : Int} {L X : Int → Int → Int} {F T : Int → Int}
theorem c_settle (hk : k_ok l o) (h : k_P l o m) : q_ok (f_PG_settle m) (fun _ m' => (∀ c, c ≠ 0 → c < 60 ∨ 68 < c → m' c = m c) ∧ (∀ j, j ≠ 15 → m' 0 j = m 0 j) ∧ k_C l o m') := by
  obtain ⟨⟨h1, h2⟩, ⟨h3, h4, h5⟩, h6, h7⟩ := h
  unfold f_PG_settle f_PG_current
  rw [x_lt, x_one h1, x_rd (n := 21) h3.1 (by omega) (by decide), x_one h4, x_rt, x_bd, x_one h4]
  refine o_bd (c_place h1 h2 hk.1 h4 (h5 0 (by decide) (by decide)) (h5 1 (by decide) (by decide)) (h5 2 (by decide) (by decide)) (h5 3 (by decide) (by decide)) hk.2.2.1 hk.2.2.2.1 hk.2.2.2.2.1) fun _ m4 ⟨f4, p4⟩ => ?_
  rw [x_pz0]
  have hy := k_Ly_rg h4
  have ht : m 0 1 = 3 ∨ m 0 1 = 14 := by simpa [q_Lp] using h1
  have f5 : ∀ c, c ≠ 0 → c < 60 ∨ 68 < c → q_up m4 0 15 0 c = m c := fun c c0 hc => by rw [q_up_f c0]; exact f4 c hc
  have f0 : ∀ j, j ≠ 15 → q_up m4 0 15 0 0 j = m 0 j := fun j hj => by rw [q_up_i hj, f4 0 (by omega)]
  refine o_rt ⟨f5, f0, ⟨by rw [f0 1 (by decide)]; exact h1, ?_⟩, ⟨by rw [f5 28 (by decide) (by omega)]; exact h3, by rw [f5 28 (by decide) (by omega), f5 29 (by decide) (by omega)]; exact h4, fun i i0 i5 => ?_⟩, k_web_fr h6 fun c _ _ => f5 c (by omega) (by omega), k_plac_fr p4 fun c _ _ => q_up_f (by omega), by rw [f5 54 (by decide) (by omega), f5 74 (by decide) (by omega)]; exact h7, Or.inl (q_up_s _ _ _ _)⟩
  · rw [f0 1 (by decide)]
    refine ⟨fun i => ?_, fun j i j1 j2 => ?_⟩
    · rw [f5 _ (by omega) (by omega)]; exact h2.1 i
    · rw [f5 _ (by omega) (by omega)]; exact h2.2 j i j1 j2
  · rw [f5 28 (by decide) (by omega), f5 29 (by decide) (by omega), f5 _ (by omega) (by omega)]
    exact h5 i i0 i5
theorem j_H_now (h : j_H m x z L) : (0 ≤ m 28 1 ∧ m 28 1 ≤ 20) ∧ m 29 (m 28 1) ∈ q_Ly ∧ ∀ i, 0 ≤ i → i ≤ 5 → m (m 29 (m 28 1)) i = L x i := by
  obtain ⟨h1, h2, h3, h4, h5⟩ := h
  rw [h1.1]
  exact ⟨by omega, q_Ly_in (h3 x h2.1 (by omega)), fun i i0 i5 => h5 x i h2.1 h2.2.1 i0 i5⟩
theorem k_P_of (hc : k_C l o m) (hH : j_H m' x z L) (e : ∀ c, c < 28 ∨ 50 < c → m' c = m c) : k_P l (L x) m' := by
  obtain ⟨⟨h1, h2⟩, _, h6, h7, h8, _⟩ := hc
  have ht : m 0 1 = 3 ∨ m 0 1 = 14 := by simpa [q_Lp] using h1
  refine ⟨⟨by rw [e 0 (by omega)]; exact h1, ?_⟩, j_H_now hH, k_web_fr h6 fun c _ _ => e c (by omega), by rw [e 54 (by omega), e 74 (by omega)]; exact h8⟩
  rw [e 0 (by omega)]
  refine ⟨fun i => ?_, fun j i j1 j2 => ?_⟩
  · rw [e _ (by omega)]; exact h2.1 i
  · rw [e _ (by omega)]; exact h2.2 j i j1 j2
/-- the history has changed: the placement is made anew -/
theorem j_act (hc : j_C l x z L F X n T ft pl m) {x' z' : Int} {L' : Int → Int → Int} (hH : j_H m' x' z' L') (e : ∀ c, c < 28 ∨ 50 < c → m' c = m c) (hk : k_ok l (L' x')) : q_ok (f_PG_settle m') (fun _ s => (∀ c, 81 ≤ c → s c = m c) ∧ (∀ c, 28 ≤ c → c ≤ 50 → s c = m' c) ∧ j_C l x' z' L' F X n T ft pl s) := by
  obtain ⟨h1, h2, h3, h4, h5⟩ := hc
  refine o_mono (c_settle hk (k_P_of h1 hH e)) fun _ s ⟨f1, f0, hs⟩ => ⟨fun c hc => ?_, fun c c0 c1 => f1 c (by omega) (by omega), hs, j_H_fr hH fun c c0 c1 => f1 c (by omega) (by omega), j_B_fr h3 fun c hc => ?_, ?_, j_T_fr h5 fun c hc => ?_⟩
  · rw [f1 c (by omega) (by omega), e c (by omega)]
  · rw [f1 c (by omega) (by omega), e c (by omega)]
  · rw [f0 1 (by decide), f0 2 (by decide), e 0 (by omega)]; exact h4
  · rw [f1 c (by omega) (by omega), e c (by omega)]
theorem j_H_up (h : j_H m x z L) {f v : Int} (hf : 0 ≤ f ∧ f ≤ 5) : j_H (q_up m (m 29 x) f v) x z (j_up L x f v) := by
  obtain ⟨h1, h2, h3, h4, h5⟩ := h
  have hx := h3 x h2.1 (by omega)
  have e28 : q_up m (m 29 x) f v 28 = m 28 := q_up_f (by omega)
  have e29 : q_up m (m 29 x) f v 29 = m 29 := q_up_f (by omega)
  refine ⟨by rw [e28]; exact h1, h2, by rw [e29]; exact h3, by rw [e29]; exact h4, fun i j i0 iz j0 j5 => ?_⟩
  rw [e29]
  by_cases ci : i = x
  · subst ci
    by_cases cj : j = f
    · rw [cj, q_up_s, j_up_s]
    · rw [q_up_i cj, j_up_o fun h => cj h.2]
      exact h5 i j i0 iz j0 j5
  · have hne : m 29 i ≠ m 29 x := by
      by_cases c : i < x
      · exact h4 i x i0 c (by omega)
      · exact (h4 x i h2.1 (by omega) (by omega)).symm
    rw [q_up_c hne, j_up_o fun h => ci h.1]
    exact h5 i j i0 iz j0 j5
theorem c_drop (h : j_H m 20 20 L) : q_ok (f_Hist_dropOldest m) (fun _ m' => (∀ c, c ≠ 29 → m' c = m c) ∧ ∀ i, 0 ≤ i → i ≤ 20 → m' 29 i = if i < 20 then m 29 (i + 1) else m 29 0) := by
  obtain ⟨h1, h2, h3, h4, h5⟩ := h
  unfold f_Hist_dropOldest
  rw [x_rd (n := 21) (by decide) (by decide) (by decide), x_one (q_Ly_in (h3 0 (by decide) (by decide)))]
  refine o_upF (fun n' k (s : q_Mem) => f_Hist_dropOldest_l9 n' (m 29 0) k s) (fun k s => 0 ≤ k ∧ (∀ c, c ≠ 29 → s c = m c) ∧ (∀ i, 0 ≤ i → i < k → s 29 i = m 29 (i + 1)) ∧ ∀ i, k ≤ i → i ≤ 20 → s 29 i = m 29 i) _ (k := 0) (e := 20) (s := m) (by omega) (by omega) ⟨by omega, fun _ _ => rfl, fun i i0 i1 => by omega, fun _ _ _ => rfl⟩ ?_ ?_
  · intro n' k s hk ⟨k0, f1, s1, s2⟩ hn
    show q_ok (f_Hist_dropOldest_b9 (f_Hist_dropOldest_l9 n') (m 29 0) k s) _
    unfold f_Hist_dropOldest_b9
    rw [q_w_id (x := k) (by omega) (by omega), if_neg (by omega), x_rd (n := 21) (by omega) (by omega) (by decide), s2 (k + 1) (by omega) (by omega), x_one (q_Ly_in (h3 (k + 1) (by omega) (by omega))), x_wr (n := 21) k0 (by omega) (by decide)]
    refine hn _ ⟨by omega, fun c hc => by rw [q_up_f hc]; exact f1 c hc, fun i i0 i1 => ?_, fun i i0 i1 => ?_⟩
    · by_cases c : i = k
      · rw [c, q_up_s]
      · rw [q_up_i c]; exact s1 i i0 (by omega)
    · rw [q_up_i (by omega)]; exact s2 i (by omega) i1
  · intro n' s ⟨_, f1, s1, s2⟩
    show q_ok (f_Hist_dropOldest_b9 (f_Hist_dropOldest_l9 n') (m 29 0) 20 s) _
    unfold f_Hist_dropOldest_b9
    rw [if_pos (by decide), x_wr (n := 21) (by decide) (by decide) (by decide)]
    refine o_rt ⟨fun c hc => by rw [q_up_f hc]; exact f1 c hc, fun i i0 i1 => ?_⟩
    by_cases c : i < 20
    · rw [if_pos c, q_up_i (by omega)]; exact s1 i i0 c
    · rw [if_neg c, show i = 20 by omega, q_up_s]
theorem c_openB (h3 : ∀ i, 0 ≤ i → i ≤ 20 → 30 ≤ m 29 i ∧ m 29 i ≤ 50) (h4 : ∀ i j, 0 ≤ i → i < j → j ≤ 20 → m 29 i ≠ m 29 j) {y : Int} (hy : 1 ≤ y ∧ y ≤ 20) (hx : m 28 1 = y) (h5 : ∀ i j, 0 ≤ i → i < y → 0 ≤ j → j ≤ 5 → m (m 29 i) j = L i j) (hL : ∀ j, 0 ≤ j → j ≤ 5 → L y j = L (y - 1) j) : q_ok (f_Hist_open_b26 m) (fun r m' => (∀ c, c < 28 ∨ 50 < c → m' c = m c) ∧ j_H m' y y L ∧ r = m' 29 y) := by
  have a1 := h3 y (by omega) (by omega)
  have a2 := h3 (y - 1) (by omega) (by omega)
  have a3 := h4 (y - 1) y (by omega) (by omega) (by omega)
  unfold f_Hist_open_b26
  have e28 : q_up m 28 2 (m 28 1) 28 1 = y := by rw [q_up_i (by decide)]; exact hx
  have e29 : q_up m 28 2 (m 28 1) 29 = m 29 := q_up_f (by decide)
  rw [x_pf, e28, x_rd (n := 21) (by omega) (by omega) (by decide), e29, x_one (q_Ly_in a1), x_rd (n := 21) (by omega) (by omega) (by decide), e29, x_one (q_Ly_in a2)]
  refine o_bd (c_copy a3) fun _ m4 ⟨f4, v4⟩ => ?_
  have g28 : m4 28 = q_up m 28 2 (m 28 1) 28 := f4 28 (by omega)
  have g29 : m4 29 = m 29 := by rw [f4 29 (by omega), e29]
  rw [g28, e28, x_rd (n := 21) (by omega) (by omega) (by decide), g29, x_one (q_Ly_in a1)]
  refine o_rt ⟨fun c hc => by rw [f4 c (by omega), q_up_f (by omega)], ⟨⟨by rw [g28]; exact e28, by rw [g28, q_up_s]; exact hx⟩, by omega, by rw [g29]; exact h3, by rw [g29]; exact h4, fun i j i0 iz j0 j5 => ?_⟩, by rw [g29]⟩
  rw [g29]
  by_cases c : i = y
  · rw [c, v4 j j0 j5, q_up_f (by omega), h5 (y - 1) j (by omega) (by omega) j0 j5, hL j j0 j5]
  · have b1 := h3 i i0 (by omega)
    rw [f4 _ (h4 i y i0 (by omega) (by omega)), q_up_f (by omega)]
    exact h5 i j i0 (by omega) j0 j5
theorem j_open (h : j_H m x z L) : q_ok (f_Hist_open m) (fun r m' => (∀ c, c < 28 ∨ 50 < c → m' c = m c) ∧ j_H m' (j_x x) (j_x x) (j_L x L) ∧ r = m' 29 (j_x x)) := by
  have h' := h
  obtain ⟨h1, h2, h3, h4, h5⟩ := h'
  unfold f_Hist_open
  rw [h1.1, q_w_id (x := x) (by omega) (by omega)]
  by_cases c : x < 20
  · have ex : j_x x = x + 1 := if_pos c
    rw [if_pos c, x_pf, ex]
    have e29 : q_up m 28 1 (x + 1) 29 = m 29 := q_up_f (by decide)
    refine o_mono (c_openB (L := j_L x L) (y := x + 1) (by rw [e29]; exact h3) (by rw [e29]; exact h4) (by omega) (q_up_s _ _ _ _) (fun i j i0 i1 j0 j5 => ?_) fun j j0 j5 => ?_) fun r m1 ⟨f1, c1⟩ => ⟨fun c hc => by rw [f1 c hc, q_up_f (by omega)], c1⟩
    · have b1 := h3 i i0 (by omega)
      rw [e29, q_up_f (by omega)]
      unfold j_L
      rw [if_pos c, if_neg (by omega)]
      exact h5 i j i0 (by omega) j0 j5
    · unfold j_L
      rw [if_pos c, if_pos c, if_pos rfl, if_neg (by omega), show x + 1 - 1 = x by omega]
  · have ex : x = 20 := by omega
    have ez : z = 20 := by omega
    subst ex
    subst ez
    rw [if_neg c]
    refine o_bd (c_drop h) fun _ m2 ⟨f2, v2⟩ => ?_
    refine o_mono (c_openB (L := j_L 20 L) (y := 20) (fun i i0 i1 => ?_) (fun i j i0 ij j1 => ?_) (by omega) (by rw [f2 28 (by decide)]; exact h1.1) (fun i j i0 i1 j0 j5 => ?_) fun j j0 j5 => ?_) fun r m1 ⟨f1, c1⟩ => ⟨fun c hc => by rw [f1 c hc, f2 c (by omega)], c1⟩
    · rw [v2 i i0 i1]
      split
      · exact h3 _ (by omega) (by omega)
      · exact h3 0 (by decide) (by decide)
    · rw [v2 i i0 (by omega), v2 j (by omega) j1, if_pos (by omega)]
      split
      · exact h4 _ _ (by omega) (by omega) (by omega)
      · exact (h4 0 (i + 1) (by decide) (by omega) (by omega)).symm
    · have b1 := h3 (i + 1) (by omega) (by omega)
      rw [v2 i i0 (by omega), if_pos i1, f2 _ (by omega)]
      unfold j_L
      rw [if_neg (by decide), if_pos i1]
      exact h5 (i + 1) j (by omega) (by omega) j0 j5
    · rfl
end acts
