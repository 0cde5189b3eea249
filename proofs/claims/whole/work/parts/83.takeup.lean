/-! A LOOP IS TAKEN UP: the class's takeUp, the model's startAnew -/
section takeup
variable {l m m' : q_Mem} {n ft pl : Int} {T : Int → Int}
theorem c_takeUp (h1 : m 0 1 ∈ q_Lp) (h2 : g_CL m (m 0 1) l) (hk : k_ok l (l 1)) (h3 : ∀ i, 0 ≤ i → i ≤ 20 → 30 ≤ m 29 i ∧ m 29 i ≤ 50) (h4 : ∀ i j, 0 ≤ i → i < j → j ≤ 20 → m 29 i ≠ m 29 j) (hb : m 51 0 = 79 ∧ m 51 1 = 80) (h02 : m 0 2 = 17 - m 0 1) (hT : j_T m n T ft pl) : q_ok (f_PG_takeUp m) (fun _ m' => (∀ c, 81 ≤ c → m' c = m c) ∧ m' 0 1 = m 0 1 ∧ j_C l 0 0 (fun _ => l 1) (fun _ => 0) (fun _ => l 1) n T ft pl m') := by
  have ht : m 0 1 = 3 ∨ m 0 1 = 14 := by simpa [q_Lp] using h1
  have b0 := h3 0 (by decide) (by decide)
  unfold f_PG_takeUp f_Hist_restart
  have e29 : q_up (q_up m 28 1 0) 28 2 0 29 = m 29 := by rw [q_up_f (by decide), q_up_f (by decide)]
  have e0 : q_up (q_up m 28 1 0) 28 2 0 0 = m 0 := by rw [q_up_f (by decide), q_up_f (by decide)]
  rw [x_pf, x_pf, x_rd (n := 21) (by decide) (by decide) (by decide), e29, x_one (q_Ly_in b0), x_rt, x_bd, x_one (q_Ly_in b0), x_lt, e0, x_one h1]
  refine o_bd (c_copy (by omega)) fun _ m4 ⟨f4, v4⟩ => ?_
  have v4' : ∀ j, 0 ≤ j → j ≤ 5 → m4 (m 29 0) j = l 1 j := by
    intro j j0 j5
    rw [v4 j j0 j5, q_up_f (by omega), q_up_f (by omega), h2.2 1 j (by decide) (by decide)]
  have f4' : ∀ c, c ≠ 28 → c ≠ m 29 0 → m4 c = m c := fun c c1 c2 => by rw [f4 c c2, q_up_f c1, q_up_f c1]
  have g28 : m4 28 = q_up (q_up m 28 1 0) 28 2 0 28 := f4 28 (by omega)
  have st : ∀ (k : Int) (s : q_Mem), f_PG_takeUp_l19 q_F k s = f_PG_takeUp_b19 (f_PG_takeUp_l19 19999) k s := fun _ _ => rfl
  have st1 : ∀ (k : Int) (s : q_Mem), f_PG_takeUp_l19 19999 k s = f_PG_takeUp_b19 (f_PG_takeUp_l19 19998) k s := fun _ _ => rfl
  have st2 : ∀ (k : Int) (s : q_Mem), f_PG_takeUp_l19 19998 k s = f_PG_takeUp_b19 (f_PG_takeUp_l19 19997) k s := fun _ _ => rfl
  rw [st]
  unfold f_PG_takeUp_b19
  rw [if_neg (by decide), x_wrz (n := 2) (by decide) (by decide) (by decide) (Or.inl rfl), st1]
  unfold f_PG_takeUp_b19
  rw [if_neg (by decide), x_wrz (n := 2) (by decide) (by decide) (by decide) (Or.inl rfl), st2]
  unfold f_PG_takeUp_b19
  rw [if_pos (by decide)]
  have f6 : ∀ c, c ≠ 28 → c ≠ m 29 0 → c ≠ 52 → q_up (q_up m4 52 0 0) 52 (0 + 1) 0 c = m c := fun c c1 c2 c3 => by rw [q_up_f c3, q_up_f c3]; exact f4' c c1 c2
  have g6 : ∀ c, c ≠ 52 → q_up (q_up m4 52 0 0) 52 (0 + 1) 0 c = m4 c := fun c c3 => by rw [q_up_f c3, q_up_f c3]
  have s52 : q_up (q_up m4 52 0 0) 52 (0 + 1) 0 52 0 = 0 ∧ q_up (q_up m4 52 0 0) 52 (0 + 1) 0 52 1 = 0 := by simp [q_up]
  revert f6 g6 s52
  generalize q_up (q_up m4 52 0 0) 52 (0 + 1) 0 = m6
  intro f6 g6 s52
  have e60 := f6 0 (by omega) (by omega) (by decide)
  rw [x_lt, e60, x_one h1]
  have hl6 : g_CL m6 (m 0 1) l := by
    refine ⟨fun i => ?_, fun j i j1 j2 => ?_⟩
    · rw [f6 _ (by omega) (by omega) (by omega)]; exact h2.1 i
    · rw [f6 _ (by omega) (by omega) (by omega)]; exact h2.2 j i j1 j2
  refine o_bd (c_weave h1 hl6 hk.1) fun _ m7 ⟨f7, w7⟩ => ?_
  have hl7 : g_CL m7 (m 0 1) l := g_CL_of h1 hl6 fun c hc => f7 c (by omega)
  refine o_bd (c_reckonValues (t := m 0 1) (z := 74) (by rw [f7 0 (by omega), e60]) h1 hl7 hk.1 hk.2.1 w7 (by decide) (by decide) (by decide)) fun _ m8 ⟨f8, v8⟩ => ?_
  have f8' : ∀ c, c < 53 ∨ (57 < c ∧ c < 74) ∨ (74 < c ∧ c < 77) ∨ 78 < c → m8 c = m6 c := fun c hc => by rw [f8 c (by omega) (by omega) (by omega), f7 c (by omega)]
  have g8_28 : m8 28 = q_up (q_up m 28 1 0) 28 2 0 28 := by rw [f8' 28 (by omega), g6 28 (by decide), g28]
  have g8_29 : m8 29 = m 29 := by rw [f8' 29 (by omega), f6 29 (by decide) (by omega) (by decide)]
  have hH : j_H m8 0 0 (fun _ => l 1) := by
    refine ⟨⟨by rw [g8_28, q_up_i (by decide), q_up_s], by rw [g8_28, q_up_s]⟩, by omega, by rw [g8_29]; exact h3, by rw [g8_29]; exact h4, fun i j i0 iz j0 j5 => ?_⟩
    rw [g8_29, show i = 0 by omega, f8' _ (by omega), g6 _ (by omega)]
    exact v4' j j0 j5
  have e80 : m8 0 = m 0 := by rw [f8' 0 (by omega), e60]
  have hP : k_P l (l 1) m8 := by
    refine ⟨⟨by rw [e80]; exact h1, ?_⟩, j_H_now (L := fun _ => l 1) (x := 0) hH, k_web_fr w7 fun c c0 c1 => f8 c (by omega) (by omega) (by omega), ?_⟩
    · rw [e80]
      exact g_CL_of h1 hl7 fun c hc => f8 c (by omega) (by omega) (by omega)
    · rw [f8 54 (by decide) (by decide) (by decide)]; exact v8
  refine o_bd (c_settle hk hP) fun _ m9 ⟨f9, g9, c9⟩ => ?_
  refine o_rt ⟨fun c hc => ?_, by rw [g9 1 (by decide), e80], c9, j_H_fr hH fun c c0 c1 => f9 c (by omega) (by omega), ⟨?_, fun k k0 k1 => ⟨?_, Or.inl rfl⟩⟩, by rw [g9 1 (by decide), g9 2 (by decide), e80]; exact h02, j_T_fr hT fun c hc => ?_⟩
  · rw [f9 c (by omega) (by omega), f8' c (by omega), f6 c (by omega) (by omega) (by omega)]
  · rw [f9 51 (by decide) (by omega), f8' 51 (by omega), f6 51 (by decide) (by omega) (by decide)]; exact hb
  · rw [f9 52 (by decide) (by omega), f8' 52 (by omega)]
    have : k = 0 ∨ k = 1 := by omega
    rcases this with rfl | rfl
    · exact s52.1
    · exact s52.2
  · rw [f9 c (by omega) (by omega), f8' c (by omega), f6 c (by omega) (by omega) (by omega)]
theorem m_startAnew {b : Int} (hb : b = 0 ∨ b = 1) (h19 : m 81 19 = b) (h : g_ML m l) (hF : g_MF m l) (e0 : m 88 b = l 1 0) (e1 : m 89 b = l 1 1) (e2 : m 90 b = l 1 2) (e3 : m 91 b = l 1 3) (e4 : l 1 4 = 1) (e5 : l 1 5 = 0) : q_ok (f_Mod_startAnew m) (fun _ m' => (∀ c, c ≠ 81 → c ≠ 115 → c ≠ 125 → m' c = m c) ∧ (∀ j, j ≠ 69 → j ≠ 70 → m' 81 j = m 81 j) ∧ k_M l (l 1) m' ∧ (m' 81 69 = 0 ∧ m' 81 70 = 0) ∧ m' 125 0 = 0 ∧ m' 125 1 = 0) := by
  unfold f_Mod_startAnew
  refine o_upF (fun n' i (s : q_Mem) => f_Mod_startAnew_l2 n' i s) (fun i s => 0 ≤ i ∧ (∀ c, c ≠ 115 → s c = m c) ∧ (∀ j, 0 ≤ j → j < i → s 115 j = 0)) _ (k := 0) (e := 69) (s := m) (by omega) (by omega) ⟨by omega, fun _ _ => rfl, fun j j0 j1 => by omega⟩ ?_ ?_
  · intro n' i s hi ⟨i0, f1, s1⟩ hn
    show q_ok (f_Mod_startAnew_b2 (f_Mod_startAnew_l2 n') i s) _
    unfold f_Mod_startAnew_b2
    rw [q_w_id (x := i) (by omega) (by omega), if_neg (by omega), x_wr (n := 69) i0 (by omega) (by decide)]
    refine hn _ ⟨by omega, fun c hc => by rw [q_up_f hc]; exact f1 c hc, fun j j0 j1 => ?_⟩
    by_cases cj : j = i
    · rw [cj, q_up_s]
    · rw [q_up_i cj]; exact s1 j j0 (by omega)
  · intro n' s ⟨_, f1, s1⟩
    show q_ok (f_Mod_startAnew_b2 (f_Mod_startAnew_l2 n') 69 s) _
    unfold f_Mod_startAnew_b2
    have e19 : ∀ s' : q_Mem, (∀ c, c ≠ 115 → s' c = s c) → s' 81 19 = b := fun s' hs' => by rw [hs' 81 (by decide), f1 81 (by decide)]; exact h19
    have hx : ∀ (s' : q_Mem) (f v : Int), (∀ c, c ≠ 115 → s' c = s c) → ∀ c, c ≠ 115 → q_up s' 115 f v c = s c := fun s' f v hs' c hc => by rw [q_up_f hc]; exact hs' c hc
    have a0 : ∀ c, c ≠ 115 → s c = s c := fun _ _ => rfl
    have a1 := hx s 0 (l 1 0) a0
    have a2 := hx _ 1 (l 1 1) a1
    have a3 := hx _ 2 (l 1 2) a2
    have a4 := hx _ 3 (l 1 3) a3
    have a5 := hx _ 4 1 a4
    rw [if_pos (by decide), e19 s a0, x_rd (n := 2) (by omega) (by omega) (by decide), f1 88 (by decide), e0, x_wr (n := 69) (by decide) (by decide) (by decide)]
    rw [e19 _ a1, x_rd (n := 2) (by omega) (by omega) (by decide), a1 89 (by decide), f1 89 (by decide), e1, x_wr (n := 69) (by decide) (by decide) (by decide)]
    rw [e19 _ a2, x_rd (n := 2) (by omega) (by omega) (by decide), a2 90 (by decide), f1 90 (by decide), e2, x_wr (n := 69) (by decide) (by decide) (by decide)]
    rw [e19 _ a3, x_rd (n := 2) (by omega) (by omega) (by decide), a3 91 (by decide), f1 91 (by decide), e3, x_wr (n := 69) (by decide) (by decide) (by decide), x_wr (n := 69) (by decide) (by decide) (by decide), x_pf, x_pf]
    have r5 : r_ok (q_up (q_up (q_up (q_up (q_up s 115 0 (l 1 0)) 115 1 (l 1 1)) 115 2 (l 1 2)) 115 3 (l 1 3)) 115 4 1 115) (l 1) := by
      refine ⟨fun i i0 i4 => ?_, fun c c0 c1 => ?_⟩
      · have : i = 0 ∨ i = 1 ∨ i = 2 ∨ i = 3 ∨ i = 4 := by omega
        rcases this with rfl | rfl | rfl | rfl | rfl
        · simp [q_up]
        · simp [q_up]
        · simp [q_up]
        · simp [q_up]
        · rw [q_up_s, e4]
      · rw [e5, q_up_i (by omega), q_up_i (by omega), q_up_i (by omega), q_up_i (by omega), q_up_i (by omega)]
        exact ⟨fun _ => s1 _ (by omega) (by omega), fun hh => absurd (z_un0 c0 c1) hh⟩
    revert a5 r5
    generalize q_up (q_up (q_up (q_up (q_up s 115 0 (l 1 0)) 115 1 (l 1 1)) 115 2 (l 1 2)) 115 3 (l 1 3)) 115 4 1 = s5
    intro a5 r5
    have st : ∀ (k : Int) (s : q_Mem), f_Mod_startAnew_l100 q_F k s = f_Mod_startAnew_b100 (f_Mod_startAnew_l100 19999) k s := fun _ _ => rfl
    have st1 : ∀ (k : Int) (s : q_Mem), f_Mod_startAnew_l100 19999 k s = f_Mod_startAnew_b100 (f_Mod_startAnew_l100 19998) k s := fun _ _ => rfl
    have st2 : ∀ (k : Int) (s : q_Mem), f_Mod_startAnew_l100 19998 k s = f_Mod_startAnew_b100 (f_Mod_startAnew_l100 19997) k s := fun _ _ => rfl
    rw [st]
    unfold f_Mod_startAnew_b100
    rw [if_neg (by decide), x_wrz (n := 2) (by decide) (by decide) (by decide) (Or.inl rfl), st1]
    unfold f_Mod_startAnew_b100
    rw [if_neg (by decide), x_wrz (n := 2) (by decide) (by decide) (by decide) (Or.inl rfl), st2]
    unfold f_Mod_startAnew_b100
    rw [if_pos (by decide)]
    have fr : ∀ c, c ≠ 81 → c ≠ 115 → c ≠ 125 → q_up (q_up (q_up (q_up s5 81 69 0) 81 70 0) 125 0 0) 125 (0 + 1) 0 c = m c := fun c c1 c2 c3 => by rw [q_up_f c3, q_up_f c3, q_up_f c1, q_up_f c1, a5 c c2, f1 c c2]
    have fr81 : ∀ j, j ≠ 69 → j ≠ 70 → q_up (q_up (q_up (q_up s5 81 69 0) 81 70 0) 125 0 0) 125 (0 + 1) 0 81 j = m 81 j := fun j j1 j2 => by rw [q_up_c (by decide), q_up_c (by decide), q_up_i j2, q_up_i j1, a5 81 (by decide), f1 81 (by decide)]
    have r6 : r_ok (q_up (q_up (q_up (q_up s5 81 69 0) 81 70 0) 125 0 0) 125 (0 + 1) 0 115) (l 1) := by rw [q_up_f (by decide), q_up_f (by decide), q_up_f (by decide), q_up_f (by decide)]; exact r5
    refine o_rt ⟨fr, fr81, ⟨g_ML_of h (fr81 19 (by decide) (by decide)) fun c c0 c1 => fr c (by omega) (by omega) (by omega), ?_, r6⟩, ⟨by rw [q_up_c (by decide), q_up_c (by decide), q_up_i (by decide), q_up_s], by rw [q_up_c (by decide), q_up_c (by decide), q_up_s]⟩, by rw [q_up_i (by decide), q_up_s], by simp [q_up]⟩
    obtain ⟨b', hb', h19', hv⟩ := hF
    refine ⟨b', hb', by rw [fr81 19 (by decide) (by decide)]; exact h19', ?_⟩
    unfold g_seg f_fs at hv ⊢
    rw [fr 98 (by decide) (by decide) (by decide), fr 99 (by decide) (by decide) (by decide), fr 100 (by decide) (by decide) (by decide)]
    exact hv
end takeup
