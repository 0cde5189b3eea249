/-! THE STATES: the class's, the model's, of one loop and one layout -/
def k_run (l : q_Mem) (o : Int → Int) (B : Int) (X : Int → Int) : Prop := f_V l (g_tk l (o 0) (o 1)) (fun p => g_ck l (o 0) (o 1) (o 2) (o 3) p = false ∧ f_un B (g_ce l (o 2) (o 3) p)) (-1) (-1) X
def k_ok (l : q_Mem) (o : Int → Int) : Prop := g_lw l ∧ f_wf l ∧ g_line (o 2) (o 3) ∧ (-9 ≤ o 0 ∧ o 0 ≤ 9) ∧ (-9 ≤ o 1 ∧ o 1 ≤ 9) ∧ (1 ≤ o 4 ∧ o 4 ≤ 12)
def k_C (l : q_Mem) (o : Int → Int) (m : q_Mem) : Prop := (m 0 1 ∈ q_Lp ∧ g_CL m (m 0 1) l) ∧ ((0 ≤ m 28 1 ∧ m 28 1 ≤ 20) ∧ m 29 (m 28 1) ∈ q_Ly ∧ ∀ i, 0 ≤ i → i ≤ 5 → m (m 29 (m 28 1)) i = o i) ∧ k_web l m ∧ k_plac l m (o 0) (o 1) (o 2) (o 3) ∧ f_V l (m 54) (fun p => 0 ≤ m 54 p) (-1) (-1) (m 74) ∧ (m 0 15 = 0 ∨ (m 0 15 = 1 ∧ k_run l o (o 5) (m 75)))
def k_M (l : q_Mem) (o : Int → Int) (m : q_Mem) : Prop := g_ML m l ∧ g_MF m l ∧ (∀ i, 0 ≤ i → i ≤ 4 → m 115 i = o i) ∧ ∀ c, 0 ≤ c → c < 64 → (f_un (o 5) c → m 115 (5 + c) = 0) ∧ (¬ f_un (o 5) c → m 115 (5 + c) = 1)
/-- what the class's questions leave alone; what the model's do -/
def k_fc (m m' : q_Mem) : Prop := (∀ j, j ≠ 15 → m' 0 j = m 0 j) ∧ ∀ c, c ≠ 0 → c < 58 ∨ (59 < c ∧ c < 68) ∨ c = 74 ∨ 78 < c → m' c = m c
def k_fm (m m' : q_Mem) : Prop := (∀ j, j < 53 ∨ 62 < j → m' 81 j = m 81 j) ∧ ∀ c, c ≠ 81 → c < 105 ∨ c = 115 ∨ 122 < c → m' c = m c
theorem k_fc_id (m : q_Mem) : k_fc m m := ⟨fun _ _ => rfl, fun _ _ _ => rfl⟩
theorem k_fm_id (m : q_Mem) : k_fm m m := ⟨fun _ _ => rfl, fun _ _ _ => rfl⟩
theorem k_fc_tr {m m1 m2 : q_Mem} (h : k_fc m m1) (h' : k_fc m1 m2) : k_fc m m2 := ⟨fun j hj => (h'.1 j hj).trans (h.1 j hj), fun c c0 hc => (h'.2 c c0 hc).trans (h.2 c c0 hc)⟩
theorem k_fm_tr {m m1 m2 : q_Mem} (h : k_fm m m1) (h' : k_fm m1 m2) : k_fm m m2 := ⟨fun j hj => (h'.1 j hj).trans (h.1 j hj), fun c c0 hc => (h'.2 c c0 hc).trans (h.2 c c0 hc)⟩
theorem k_Ly_rg {y : Int} (h : y ∈ q_Ly) : y = 4 ∨ y = 15 ∨ (30 ≤ y ∧ y ≤ 50) ∨ y = 79 ∨ y = 80 := by
  have := k_ly h
  simp [q_Ly] at h
  omega
theorem k_web_fr {l m m' : q_Mem} (h : k_web l m) (e : ∀ c, 53 ≤ c → c < 57 → m' c = m c) : k_web l m' := by
  unfold k_web at *
  rw [e 53 (by decide) (by decide), e 54 (by decide) (by decide), e 55 (by decide) (by decide), e 56 (by decide) (by decide)]
  exact h
theorem k_plac_fr {l m m' : q_Mem} {P Q a b : Int} (h : k_plac l m P Q a b) (e : ∀ c, 60 ≤ c → c < 66 → m' c = m c) : k_plac l m' P Q a b := by
  unfold k_plac at *
  rw [e 60 (by decide) (by decide), e 61 (by decide) (by decide), e 62 (by decide) (by decide), e 63 (by decide) (by decide), e 64 (by decide) (by decide), e 65 (by decide) (by decide)]
  exact h
/-- the class's state stays; the row of the run aside -/
theorem k_C_fr {l : q_Mem} {o : Int → Int} {m m' : q_Mem} (h : k_C l o m) (e : k_fc m m') (hr : m' 0 15 = 0 ∨ (m' 0 15 = 1 ∧ k_run l o (o 5) (m' 75))) : k_C l o m' := by
  obtain ⟨⟨h1, h2⟩, ⟨h3, h4, h5⟩, h6, h7, h8, _⟩ := h
  have e01 : m' 0 1 = m 0 1 := e.1 1 (by decide)
  have e28 : m' 28 = m 28 := e.2 28 (by decide) (by omega)
  have e29 : m' 29 = m 29 := e.2 29 (by decide) (by omega)
  have e54 : m' 54 = m 54 := e.2 54 (by decide) (by omega)
  have e74 : m' 74 = m 74 := e.2 74 (by decide) (by omega)
  have hy := k_Ly_rg h4
  have ht : m 0 1 = 3 ∨ m 0 1 = 14 := by simpa [q_Lp] using h1
  refine ⟨⟨by rw [e01]; exact h1, ?_⟩, ⟨by rw [e28]; exact h3, by rw [e28, e29]; exact h4, ?_⟩, k_web_fr h6 fun c _ _ => e.2 c (by omega) (by omega), k_plac_fr h7 fun c _ _ => e.2 c (by omega) (by omega), by rw [e54, e74]; exact h8, hr⟩
  · rw [e01]
    refine ⟨fun i => ?_, fun j i j1 j2 => ?_⟩
    · rw [e.2 _ (by omega) (by omega)]; exact h2.1 i
    · rw [e.2 _ (by omega) (by omega)]; exact h2.2 j i j1 j2
  · intro i i0 i1
    rw [e28, e29, e.2 _ (by omega) (by omega)]
    exact h5 i i0 i1
theorem k_C_same {l : q_Mem} {o : Int → Int} {m m' : q_Mem} (h : k_C l o m) (e : k_fc m m') (h15 : m' 0 15 = m 0 15) (h75 : m' 75 = m 75) : k_C l o m' := by
  refine k_C_fr h e ?_
  rw [h15, h75]
  exact h.2.2.2.2.2
theorem k_M_fr {l : q_Mem} {o : Int → Int} {m m' : q_Mem} (h : k_M l o m) (e : k_fm m m') : k_M l o m' := by
  obtain ⟨h1, h2, h3, h4⟩ := h
  have e115 : m' 115 = m 115 := e.2 115 (by decide) (by omega)
  refine ⟨g_ML_of h1 (e.1 19 (by omega)) (fun c _ _ => e.2 c (by omega) (by omega)), ?_, by rw [e115]; exact h3, by rw [e115]; exact h4⟩
  obtain ⟨b, hb, h19, hv⟩ := h2
  refine ⟨b, hb, ?_, ?_⟩
  · rw [e.1 19 (by omega)]; exact h19
  · unfold g_seg f_fs at hv ⊢
    rw [e.2 98 (by decide) (by omega), e.2 99 (by decide) (by omega), e.2 100 (by decide) (by omega)]
    exact hv
theorem k_M_now {l : q_Mem} {o : Int → Int} {m : q_Mem} (h : k_M l o m) : k_now m (o 0) (o 1) (o 2) (o 3) := ⟨h.2.2.1 0 (by decide) (by decide), h.2.2.1 1 (by decide) (by decide), h.2.2.1 2 (by decide) (by decide), h.2.2.1 3 (by decide) (by decide)⟩
section state
variable {l m : q_Mem} {o : Int → Int}
theorem s_current (h : k_C l o m) : f_PG_current m = some (m 29 (m 28 1), m) := by
  unfold f_PG_current
  rw [x_rd (n := 21) h.2.1.1.1 (by have := h.2.1.1.2; omega) (by decide), x_one h.2.1.2.1, x_rt]
theorem s_freshenRun (hk : k_ok l o) (h : k_C l o m) : q_ok (f_PG_freshenRun m) (fun _ m' => k_fc m m' ∧ (∀ c, c ≠ 0 → c ≠ 75 → c ≠ 77 → c ≠ 78 → m' c = m c) ∧ k_C l o m' ∧ m' 0 15 = 1 ∧ k_run l o (o 5) (m' 75)) := by
  have h' := h
  obtain ⟨⟨h1, h2⟩, ⟨h3, h4, h5⟩, h6, h7, h8, h9⟩ := h'
  unfold f_PG_freshenRun
  rcases h9 with h9 | ⟨h9, h10⟩
  · rw [h9, x_w0, if_pos rfl, s_current h, x_bd, x_one h4, h5 5 (by decide) (by decide)]
    refine o_bd (c_reckonRun rfl h1 h2 hk.1 hk.2.1 h7 (fun p hp => ?_) (by decide)) fun _ m1 ⟨f1, v1⟩ => ?_
    · have t1 := g_tk_rg hk.1 (o 0) (o 1) hp
      have t2 := g_lat_rg hk.1 hk.2.2.2.1 hk.2.2.2.2.1
      omega
    rw [x_pz1]
    have e0 : m1 0 = m 0 := f1 0 (by decide) (by decide) (by decide)
    have hf : k_fc m (q_up m1 0 15 1) := ⟨fun j hj => by rw [q_up_i hj, e0], fun c c0 hc => by rw [q_up_f c0]; exact f1 c (by omega) (by omega) (by omega)⟩
    have e75 : q_up m1 0 15 1 75 = m1 75 := q_up_f (by decide)
    have hr : k_run l o (o 5) (q_up m1 0 15 1 75) := by rw [e75]; exact v1
    exact o_rt ⟨hf, fun c c0 c1 c2 c3 => by rw [q_up_f c0]; exact f1 c c2 c3 c1, k_C_fr h hf (Or.inr ⟨q_up_s _ _ _ _, hr⟩), q_up_s _ _ _ _, hr⟩
  · rw [h9, x_w1, if_neg (by decide)]
    exact o_rt ⟨k_fc_id m, fun _ _ _ _ _ => rfl, h, h9, h10⟩
theorem s_isVariable (hg : g_lw l) (h : k_C l o m) {v : Int} (hv : -2147483648 ≤ v ∧ v < 2147483648) : f_PG_isVariable v m = some (if 0 ≤ v ∧ v < l 0 2 then 1 else 0, m) := by
  have h2 := hg.2.2.1
  unfold f_PG_isVariable
  rw [x_lt, x_one h.1.1, h.1.2.1]
  simp (disch := omega) only [x_bd, x_rt, x_pf, x_lt, x_fi, x_rz0, x_rz1, x_rzi, x_pz0, x_pz1, x_rd, x_wr, x_wrz, x_dv, x_md, q_w_id, x_wi, x_i0, x_i1, x_max, x_min, x_abs, ↓reduceIte, Int.reduceEq, Int.reduceLT, Int.reduceLE, Int.reduceNeg, if_true, if_false]
  grind
/-- both answer alike, and both stay -/
def k_both (l : q_Mem) (o : Int → Int) (ec em : q_Mem → q_Res) : Prop := ∀ mc mm, k_C l o mc → k_M l o mm → ∃ r r' mc' mm', ec mc = some (r, mc') ∧ em mm = some (r', mm') ∧ q_w r = q_w r' ∧ (k_fc mc mc' ∧ k_C l o mc') ∧ k_fm mm mm'
theorem k_both_of {ec em : q_Mem → q_Res} (h : ∀ mc mm, k_C l o mc → k_M l o mm → ∃ A, q_ok (ec mc) (fun r m' => q_w r = A ∧ k_fc mc m' ∧ k_C l o m') ∧ q_ok (em mm) (fun r m' => q_w r = A ∧ k_fm mm m')) : k_both l o ec em := by
  intro mc mm hc hm
  obtain ⟨A, ⟨r, mc', e1, a1, a2⟩, ⟨r', mm', e2, b1, b2⟩⟩ := h mc mm hc hm
  exact ⟨r, r', mc', mm', e1, e2, a1.trans b1.symm, a2, b2⟩
end state
