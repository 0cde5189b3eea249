/-! THE PARSER: how a loop grows -/
def n_un (l : q_Mem) : q_Mem := q_up l 0 3 (l 0 3 + 1)
def n_no (l : q_Mem) (w x y : Int) : q_Mem := q_up (q_up (q_up (q_up l 7 (l 0 6) w) 8 (l 0 6) x) 9 (l 0 6) y) 0 6 (l 0 6 + 1)
def n_rd (l : q_Mem) (vr x y : Int) : q_Mem := q_up (q_up (q_up (q_up l 4 (l 0 4) vr) 5 (l 0 4) x) 6 (l 0 4) y) 0 4 (l 0 4 + 1)
def n_of (l : q_Mem) (x y : Int) : q_Mem := q_up (q_up (q_up l 2 (l 0 5) x) 3 (l 0 5) y) 0 5 (l 0 5 + 1)
section grow
variable {m l l' mm mm' : q_Mem} {t bk V : Int}
theorem n_un_e (l : q_Mem) : (∀ i, i ≠ 3 → n_un l 0 i = l 0 i) ∧ n_un l 0 3 = l 0 3 + 1 ∧ ∀ j, j ≠ 0 → n_un l j = l j := by
  unfold n_un
  exact ⟨fun i hi => q_up_i hi, q_up_s _ _ _ _, fun j hj => q_up_f hj⟩
theorem n_no_e (l : q_Mem) (w x y : Int) : (∀ i, i ≠ 6 → n_no l w x y 0 i = l 0 i) ∧ n_no l w x y 0 6 = l 0 6 + 1 ∧ (∀ j, j ≠ 0 → j ≠ 7 → j ≠ 8 → j ≠ 9 → n_no l w x y j = l j) ∧ (∀ k, k ≠ l 0 6 → n_no l w x y 7 k = l 7 k ∧ n_no l w x y 8 k = l 8 k ∧ n_no l w x y 9 k = l 9 k) ∧ n_no l w x y 7 (l 0 6) = w ∧ n_no l w x y 8 (l 0 6) = x ∧ n_no l w x y 9 (l 0 6) = y := by
  unfold n_no
  refine ⟨fun i hi => ?_, q_up_s _ _ _ _, fun j j0 j7 j8 j9 => ?_, fun k hk => ?_, ?_, ?_, ?_⟩
  · rw [q_up_i hi, q_up_c (by decide), q_up_c (by decide), q_up_c (by decide)]
  · rw [q_up_f j0, q_up_f j9, q_up_f j8, q_up_f j7]
  · simp [q_up, hk]
  · simp [q_up]
  · simp [q_up]
  · simp [q_up]
theorem n_rd_e (l : q_Mem) (w x y : Int) : (∀ i, i ≠ 4 → n_rd l w x y 0 i = l 0 i) ∧ n_rd l w x y 0 4 = l 0 4 + 1 ∧ (∀ j, j ≠ 0 → j ≠ 4 → j ≠ 5 → j ≠ 6 → n_rd l w x y j = l j) ∧ (∀ k, k ≠ l 0 4 → n_rd l w x y 4 k = l 4 k ∧ n_rd l w x y 5 k = l 5 k ∧ n_rd l w x y 6 k = l 6 k) ∧ n_rd l w x y 4 (l 0 4) = w ∧ n_rd l w x y 5 (l 0 4) = x ∧ n_rd l w x y 6 (l 0 4) = y := by
  unfold n_rd
  refine ⟨fun i hi => ?_, q_up_s _ _ _ _, fun j j0 j7 j8 j9 => ?_, fun k hk => ?_, ?_, ?_, ?_⟩
  · rw [q_up_i hi, q_up_c (by decide), q_up_c (by decide), q_up_c (by decide)]
  · rw [q_up_f j0, q_up_f j9, q_up_f j8, q_up_f j7]
  · simp [q_up, hk]
  · simp [q_up]
  · simp [q_up]
  · simp [q_up]
theorem n_of_e (l : q_Mem) (x y : Int) : (∀ i, i ≠ 5 → n_of l x y 0 i = l 0 i) ∧ n_of l x y 0 5 = l 0 5 + 1 ∧ (∀ j, j ≠ 0 → j ≠ 2 → j ≠ 3 → n_of l x y j = l j) ∧ (∀ k, k ≠ l 0 5 → n_of l x y 2 k = l 2 k ∧ n_of l x y 3 k = l 3 k) ∧ n_of l x y 2 (l 0 5) = x ∧ n_of l x y 3 (l 0 5) = y := by
  unfold n_of
  refine ⟨fun i hi => ?_, q_up_s _ _ _ _, fun j j0 j7 j8 => ?_, fun k hk => ?_, ?_, ?_⟩
  · rw [q_up_i hi, q_up_c (by decide), q_up_c (by decide)]
  · rw [q_up_f j0, q_up_f j8, q_up_f j7]
  · simp [q_up, hk]
  · simp [q_up]
  · simp [q_up]
/-- of the class's cells -/
theorem n_no_l {N w x y : Int} (h : m t 6 = N) : u_l t (v_no m t N w x y) = n_no (u_l t m) w x y := by
  unfold v_no n_no
  rw [u_l_up0, u_l_up (by decide) (by decide), u_l_up (by decide) (by decide), u_l_up (by decide) (by decide), u_l_0, h]
theorem n_rd_l {R w x y : Int} (h : m t 4 = R) : u_l t (v_rd m t R w x y) = n_rd (u_l t m) w x y := by
  unfold v_rd n_rd
  rw [u_l_up0, u_l_up (by decide) (by decide), u_l_up (by decide) (by decide), u_l_up (by decide) (by decide), u_l_0, h]
theorem n_of_l {R x y : Int} (h : m t 5 = R) : u_l t (v_of m t R x y) = n_of (u_l t m) x y := by
  unfold v_of n_of
  rw [u_l_up0, u_l_up (by decide) (by decide), u_l_up (by decide) (by decide), u_l_0, h]
/-- one is the other and more -/
theorem n_un_x (l : q_Mem) : u_ext l (n_un l) := by
  obtain ⟨h1, h2, h3⟩ := n_un_e l
  exact ⟨fun i i3 _ _ _ => h1 i i3, h3 1 (by decide), h3 10 (by decide), ⟨by omega, by rw [h1 4 (by decide)]; omega, by rw [h1 5 (by decide)]; omega, by rw [h1 6 (by decide)]; omega⟩, fun k _ => by rw [h3 7 (by decide), h3 8 (by decide), h3 9 (by decide)]; exact ⟨rfl, rfl, rfl⟩, fun k _ => by rw [h3 4 (by decide), h3 5 (by decide), h3 6 (by decide)]; exact ⟨rfl, rfl, rfl⟩, fun k _ => by rw [h3 2 (by decide), h3 3 (by decide)]; exact ⟨rfl, rfl⟩⟩
theorem n_no_x (l : q_Mem) (w x y : Int) : u_ext l (n_no l w x y) := by
  obtain ⟨h1, h2, h3, h4, _⟩ := n_no_e l w x y
  exact ⟨fun i _ _ _ i6 => h1 i i6, h3 1 (by decide) (by decide) (by decide) (by decide), h3 10 (by decide) (by decide) (by decide) (by decide), ⟨by rw [h1 3 (by decide)]; omega, by rw [h1 4 (by decide)]; omega, by rw [h1 5 (by decide)]; omega, by omega⟩, fun k hk => h4 k (by omega), fun k _ => by rw [h3 4 (by decide) (by decide) (by decide) (by decide), h3 5 (by decide) (by decide) (by decide) (by decide), h3 6 (by decide) (by decide) (by decide) (by decide)]; exact ⟨rfl, rfl, rfl⟩, fun k _ => by rw [h3 2 (by decide) (by decide) (by decide) (by decide), h3 3 (by decide) (by decide) (by decide) (by decide)]; exact ⟨rfl, rfl⟩⟩
theorem n_rd_x (l : q_Mem) (w x y : Int) : u_ext l (n_rd l w x y) := by
  obtain ⟨h1, h2, h3, h4, _⟩ := n_rd_e l w x y
  exact ⟨fun i _ i4 _ _ => h1 i i4, h3 1 (by decide) (by decide) (by decide) (by decide), h3 10 (by decide) (by decide) (by decide) (by decide), ⟨by rw [h1 3 (by decide)]; omega, by omega, by rw [h1 5 (by decide)]; omega, by rw [h1 6 (by decide)]; omega⟩, fun k _ => by rw [h3 7 (by decide) (by decide) (by decide) (by decide), h3 8 (by decide) (by decide) (by decide) (by decide), h3 9 (by decide) (by decide) (by decide) (by decide)]; exact ⟨rfl, rfl, rfl⟩, fun k hk => h4 k (by omega), fun k _ => by rw [h3 2 (by decide) (by decide) (by decide) (by decide), h3 3 (by decide) (by decide) (by decide) (by decide)]; exact ⟨rfl, rfl⟩⟩
theorem n_of_x (l : q_Mem) (x y : Int) : u_ext l (n_of l x y) := by
  obtain ⟨h1, h2, h3, h4, _⟩ := n_of_e l x y
  exact ⟨fun i _ _ i5 _ => h1 i i5, h3 1 (by decide) (by decide) (by decide), h3 10 (by decide) (by decide) (by decide), ⟨by rw [h1 3 (by decide)]; omega, by rw [h1 4 (by decide)]; omega, by omega, by rw [h1 6 (by decide)]; omega⟩, fun k _ => by rw [h3 7 (by decide) (by decide) (by decide), h3 8 (by decide) (by decide) (by decide), h3 9 (by decide) (by decide) (by decide)]; exact ⟨rfl, rfl, rfl⟩, fun k _ => by rw [h3 4 (by decide) (by decide) (by decide), h3 5 (by decide) (by decide) (by decide), h3 6 (by decide) (by decide) (by decide)]; exact ⟨rfl, rfl, rfl⟩, fun k hk => h4 k (by omega)⟩
/-- it stays what it is -/
theorem u_W_of (h : u_W V l) (e4 : l' 0 4 = l 0 4) (e5 : l' 0 5 = l 0 5) (ej : ∀ j, 2 ≤ j → j ≤ 6 → l' j = l j) (h3 : 0 ≤ l' 0 3 ∧ l' 0 3 ≤ 40) (h6 : 0 ≤ l' 0 6 ∧ l' 0 6 ≤ 2 * l' 0 3) : u_W V l' := by
  obtain ⟨_, a2, a3, _, a5⟩ := h
  unfold u_W
  rw [e4, e5, ej 2 (by decide) (by decide), ej 3 (by decide) (by decide), ej 4 (by decide) (by decide), ej 5 (by decide) (by decide), ej 6 (by decide) (by decide)]
  exact ⟨h3, a2, a3, h6, a5⟩
theorem u_W_un (h : u_W V l) (hu : l 0 3 < 40) : u_W V (n_un l) := by
  obtain ⟨h1, h2, h3⟩ := n_un_e l
  have a := h.1
  have b := h.2.2.2.1
  exact u_W_of h (h1 4 (by decide)) (h1 5 (by decide)) (fun j j0 _ => h3 j (by omega)) (by omega) (by rw [h1 6 (by decide)]; omega)
theorem u_W_no {w x y : Int} (h : u_W V l) (hN : l 0 6 + 1 ≤ 2 * l 0 3) : u_W V (n_no l w x y) := by
  obtain ⟨h1, h2, h3, h4, _⟩ := n_no_e l w x y
  have a := h.1
  have b := h.2.2.2.1
  exact u_W_of h (h1 4 (by decide)) (h1 5 (by decide)) (fun j j0 j6 => h3 j (by omega) (by omega) (by omega) (by omega)) (by rw [h1 3 (by decide)]; omega) (by rw [h1 3 (by decide)]; omega)
theorem u_W_rd {w x y : Int} (h : u_W V l) (hR : l 0 4 < 12) (hw : 0 ≤ w ∧ w < V) (hx : -3 ≤ x ∧ x ≤ 3) (hy : -3 ≤ y ∧ y ≤ 3) (hk : v_kn (l 0 5) (l 2) (l 3) x y) : u_W V (n_rd l w x y) := by
  obtain ⟨h1, h2, h3, h4, h5, h6, h7⟩ := n_rd_e l w x y
  obtain ⟨a1, a2, a3, a4, a5, a6, a7, a8⟩ := h
  unfold u_W
  rw [h1 3 (by decide), h1 5 (by decide), h1 6 (by decide), h2, h3 2 (by decide) (by decide) (by decide) (by decide), h3 3 (by decide) (by decide) (by decide) (by decide)]
  refine ⟨a1, by omega, by omega, a4, a5, a6, fun k k0 k1 => ?_, fun k k0 k1 => ?_⟩
  · by_cases c : k = l 0 4
    · rw [c, h5, h6, h7]; exact ⟨hw, hx, hy⟩
    · obtain ⟨e4, e5, e6⟩ := h4 k c
      rw [e4, e5, e6]; exact a7 k k0 (by omega)
  · by_cases c : k = l 0 4
    · rw [c, h6, h7]
      rcases hk with hk | ⟨o, ho, e1, e2⟩
      · exact Or.inl hk
      · exact Or.inr ⟨o, ho.1, ho.2, e1, e2⟩
    · obtain ⟨_, e5, e6⟩ := h4 k c
      rw [e5, e6]; exact a8 k k0 (by omega)
theorem u_W_ro {w x y : Int} (h : u_W V l) (hR : l 0 4 < 12) (hw : 0 ≤ w ∧ w < V) (hx : -3 ≤ x ∧ x ≤ 3) (hy : -3 ≤ y ∧ y ≤ 3) (hk : ¬ v_kn (l 0 5) (l 2) (l 3) x y) : u_W V (n_of (n_rd l w x y) x y) := by
  obtain ⟨h1, h2, h3, h4, h5, h6, h7⟩ := n_rd_e l w x y
  obtain ⟨g1, g2, g3, g4, g5, g6⟩ := n_of_e (n_rd l w x y) x y
  have e5 := h1 5 (by decide)
  have e22 := h3 2 (by decide) (by decide) (by decide) (by decide)
  have e33 := h3 3 (by decide) (by decide) (by decide) (by decide)
  obtain ⟨a1, a2, a3, a4, a5, a6, a7, a8⟩ := h
  rw [e5] at g2 g4 g5 g6
  rw [e22, e33] at g4
  unfold u_W
  rw [g1 3 (by decide), g1 4 (by decide), g1 6 (by decide), g2, g3 4 (by decide) (by decide) (by decide), g3 5 (by decide) (by decide) (by decide), g3 6 (by decide) (by decide) (by decide), h1 3 (by decide), h1 6 (by decide), h2]
  refine ⟨a1, by omega, by omega, a4, fun k k0 k1 => ?_, fun k k' k0 kk k1 => ?_, fun k k0 k1 => ?_, fun k k0 k1 => ?_⟩
  · by_cases c : k = l 0 5
    · rw [c, g5, g6]
      exact ⟨hx, hy, fun hh => hk (Or.inl hh)⟩
    · obtain ⟨f1, f2⟩ := g4 k c
      rw [f1, f2]; exact a5 k k0 (by omega)
  · obtain ⟨f1, f2⟩ := g4 k (by omega)
    rw [f1, f2]
    by_cases c : k' = l 0 5
    · rw [c, g5, g6]
      exact fun hh => hk (Or.inr ⟨k, by omega, hh.1, hh.2⟩)
    · obtain ⟨f3, f4⟩ := g4 k' c
      rw [f3, f4]; exact a6 k k' k0 kk (by omega)
  · by_cases c : k = l 0 4
    · rw [c, h5, h6, h7]; exact ⟨hw, hx, hy⟩
    · obtain ⟨e4, e5, e6⟩ := h4 k c
      rw [e4, e5, e6]; exact a7 k k0 (by omega)
  · by_cases c : k = l 0 4
    · rw [c, h6, h7]
      exact Or.inr ⟨l 0 5, by omega, by omega, g5, g6⟩
    · obtain ⟨_, e5, e6⟩ := h4 k c
      rw [e5, e6]
      rcases a8 k k0 (by omega) with hz | ⟨o, o0, o1, q1, q2⟩
      · exact Or.inl hz
      · obtain ⟨f1, f2⟩ := g4 o (by omega)
        exact Or.inr ⟨o, o0, by omega, f1.trans q1, f2.trans q2⟩
/-- the model's tables beside them -/
theorem u_R_of (h : u_R bk mm l) (e3 : mm' 85 bk = l' 0 3) (e4 : l' 0 4 = l 0 4) (e5 : l' 0 5 = l 0 5) (ej : ∀ j, 2 ≤ j → j ≤ 6 → l' j = l j) (em : mm' 86 = mm 86 ∧ mm' 87 = mm 87) (ec : ∀ c, 93 ≤ c → c ≤ 97 → mm' c = mm c) : u_R bk mm' l' := by
  obtain ⟨⟨_, a2, a3⟩, a4, a5⟩ := h
  unfold u_R
  rw [e4, e5, em.1, em.2, ej 2 (by decide) (by decide), ej 3 (by decide) (by decide), ej 4 (by decide) (by decide), ej 5 (by decide) (by decide), ej 6 (by decide) (by decide), ec 93 (by decide) (by decide), ec 94 (by decide) (by decide), ec 95 (by decide) (by decide), ec 96 (by decide) (by decide), ec 97 (by decide) (by decide)]
  exact ⟨⟨e3, a2, a3⟩, a4, a5⟩
theorem u_R_fr (h : u_R bk mm l) (ec : ∀ c, 85 ≤ c → c ≤ 97 → c ≠ 92 → mm' c = mm c) : u_R bk mm' l := u_R_of h (by rw [ec 85 (by decide) (by decide) (by decide)]; exact h.1.1) rfl rfl (fun _ _ _ => rfl) ⟨ec 86 (by decide) (by decide) (by decide), ec 87 (by decide) (by decide) (by decide)⟩ fun c c0 c1 => ec c (by omega) c1 (by omega)
theorem u_R_rd {w x y C : Int} (h : u_R bk mm l) : u_R bk (v_rr mm bk (l 0 4) C w x y) (n_rd l w x y) := by
  obtain ⟨h1, h2, h3, h4, h5, h6, h7⟩ := n_rd_e l w x y
  obtain ⟨⟨a1, a2, a3⟩, a4, a5⟩ := h
  unfold u_R
  rw [h1 3 (by decide), h1 5 (by decide), h2, h3 2 (by decide) (by decide) (by decide) (by decide), h3 3 (by decide) (by decide) (by decide) (by decide)]
  refine ⟨⟨?_, ?_, ?_⟩, fun k k0 k1 => ?_, fun k k0 k1 => ?_⟩
  · rw [v_rr_f (by decide) (by decide) (by decide) (by decide) (by decide) (by decide)]; exact a1
  · simp [v_rr, q_up]
  · rw [v_rr_f (by decide) (by decide) (by decide) (by decide) (by decide) (by decide)]; exact a3
  · rw [v_rr_f (by decide) (by decide) (by decide) (by decide) (by decide) (by decide), v_rr_f (by decide) (by decide) (by decide) (by decide) (by decide) (by decide)]; exact a4 k k0 k1
  · by_cases c : k = l 0 4
    · subst c
      rw [h5, h6, h7]
      simp [v_rr, q_up]
    · obtain ⟨e4, e5, e6⟩ := h4 k c
      have ne : ¬ (12 * bk + k = 12 * bk + l 0 4) := by omega
      rw [e4, e5, e6]
      have := a5 k k0 (by omega)
      simp only [v_rr, q_up]
      simp [c]
      exact this
theorem u_R_ow {x y : Int} (h : u_R bk mm l) : u_R bk (v_ow mm bk (l 0 5) x y) (n_of l x y) := by
  obtain ⟨h1, h2, h3, h4, h5, h6⟩ := n_of_e l x y
  obtain ⟨⟨a1, a2, a3⟩, a4, a5⟩ := h
  have f : ∀ d, d ≠ 96 → d ≠ 97 → d ≠ 87 → v_ow mm bk (l 0 5) x y d = mm d := by
    intro d d1 d2 d3
    unfold v_ow
    rw [q_up_f d3, q_up_f d2, q_up_f d1]
  unfold u_R
  rw [h1 3 (by decide), h1 4 (by decide), h2, h3 4 (by decide) (by decide) (by decide), h3 5 (by decide) (by decide) (by decide), h3 6 (by decide) (by decide) (by decide), f 85 (by decide) (by decide) (by decide), f 86 (by decide) (by decide) (by decide), f 93 (by decide) (by decide) (by decide), f 94 (by decide) (by decide) (by decide), f 95 (by decide) (by decide) (by decide)]
  refine ⟨⟨a1, a2, ?_⟩, fun k k0 k1 => ?_, a5⟩
  · simp [v_ow, q_up]
  · by_cases c : k = l 0 5
    · subst c
      rw [h5, h6]
      simp [v_ow, q_up]
    · obtain ⟨e4, e5⟩ := h4 k c
      rw [e4, e5]
      have := a4 k k0 (by omega)
      simp only [v_ow, q_up]
      simp [c]
      exact this
/-- a node is laid on the row of parts -/
theorem f_stk_push {s w x y : Int} {A B : List Int} (hs : s ≤ l 0 6) (h : f_stk l s (l 0 6 - s).toNat A) (hp : f_sp (n_no l w x y) (l 0 6) A B) : f_stk (n_no l w x y) s (n_no l w x y 0 6 - s).toNat B := by
  rw [(n_no_e l w x y).2.1, show (l 0 6 + 1 - s).toNat = (l 0 6 - s).toNat + 1 by omega]
  refine ⟨A, u_ext_stk (n_no_x l w x y) (by omega) h, ?_⟩
  rw [show s + ((l 0 6 - s).toNat : Int) = l 0 6 by omega]
  exact hp
end grow
/-! two runs side by side -/
def q_2 (ec em : q_Res) (Q : Int → q_Mem → q_Mem → Prop) : Prop := ∃ v mc r mm, ec = some (v, mc) ∧ em = some (r, mm) ∧ Q v mc mm
theorem o2_l {e em : q_Res} {K : Int → q_Mem → q_Res} {P : Int → q_Mem → Prop} {Q : Int → q_Mem → q_Mem → Prop} (h : q_ok e P) (k : ∀ v m', P v m' → q_2 (K v m') em Q) : q_2 (q_bd e K) em Q := by
  obtain ⟨v, m', rfl, hp⟩ := h
  exact k v m' hp
theorem o2_r {e ec : q_Res} {K : Int → q_Mem → q_Res} {P : Int → q_Mem → Prop} {Q : Int → q_Mem → q_Mem → Prop} (h : q_ok e P) (k : ∀ v m', P v m' → q_2 ec (K v m') Q) : q_2 ec (q_bd e K) Q := by
  obtain ⟨v, m', rfl, hp⟩ := h
  exact k v m' hp
theorem o2_b {ec em : q_Res} {P : Int → q_Mem → q_Mem → Prop} {K M : Int → q_Mem → q_Res} {Q : Int → q_Mem → q_Mem → Prop} (h : q_2 ec em P) (k : ∀ v mc r mm, P v mc mm → q_2 (K v mc) (M r mm) Q) : q_2 (q_bd ec K) (q_bd em M) Q := by
  obtain ⟨v, mc, r, mm, rfl, rfl, hp⟩ := h
  exact k v mc r mm hp
theorem o2_d {v r : Int} {mc mm : q_Mem} {Q : Int → q_Mem → q_Mem → Prop} (h : Q v mc mm) : q_2 (some (v, mc)) (some (r, mm)) Q := ⟨v, mc, r, mm, rfl, rfl, h⟩
