/-! THE SCANNERS: names -/
/-- the token from a to b is spelled as what lies from f to e -/
def v_nm (T : Int → Int) (f e a b : Int) : Prop := e - f = b - a ∧ ∀ i, 0 ≤ i → i < b - a → T (f + i) = T (a + i)
/-- the first of cnt that is so -/
def v_nd (P : Int → Prop) (cnt r : Int) : Prop := ((0 ≤ r ∧ r < cnt) ∧ P r ∧ ∀ j, 0 ≤ j → j < r → ¬ P j) ∨ (r = -1 ∧ ∀ j, 0 ≤ j → j < cnt → ¬ P j)
theorem v_nd_u {P : Int → Prop} {cnt r r' : Int} (h : v_nd P cnt r) (h' : v_nd P cnt r') : r = r' := by
  rcases h with ⟨h1, h2, h3⟩ | ⟨h1, h2⟩ <;> rcases h' with ⟨g1, g2, g3⟩ | ⟨g1, g2⟩
  · refine Classical.byContradiction fun hn => ?_
    by_cases c : r < r'
    · exact g3 r h1.1 c h2
    · exact h3 r' g1.1 (by omega) g2
  · exact absurd h2 (g2 r h1.1 h1.2)
  · exact absurd g2 (h2 r' g1.1 g1.2)
  · omega
section names
variable {m : q_Mem} {T : Int → Int} {n k a b t : Int} {f e : Int → Int}
theorem c_isName (h : v_C m T n) (ht : v_tc m k a b) (hs : v_sh T n k a b) : q_ok (f_Tape_isName m) (fun r m' => m' = m ∧ ((r = 1 ∧ k = 3 ∧ ∀ j, 0 ≤ j → j < 7 → ¬ v_is T a b j) ∨ (r = 0 ∧ ¬ (k = 3 ∧ ∀ j, 0 ≤ j → j < 7 → ¬ v_is T a b j)))) := by
  have hk := hs.2.1
  unfold f_Tape_isName
  rw [ht.1, q_w_id (x := k) (by omega) (by omega)]
  by_cases ck : k = 3
  · rw [if_pos ck]
    have w : ∀ s, 0 ≤ s → s < 14 → (f_Tape_isWord s m = some (1, m) ∧ v_is T a b (v_S s)) ∨ (f_Tape_isWord s m = some (0, m) ∧ ¬ v_is T a b (v_S s)) := by
      intro s s0 s1
      obtain ⟨r, m', e1, em, hr⟩ := c_isWord h ht hs s0 s1
      rw [em] at e1
      rcases hr with ⟨er, _, h2⟩ | ⟨er, h2⟩
      · rw [er] at e1; exact Or.inl ⟨e1, h2⟩
      · rw [er] at e1; exact Or.inr ⟨e1, fun hh => h2 ⟨ck, hh⟩⟩
    have no : ∀ s, 0 ≤ s → s < 14 → v_is T a b (v_S s) → (0 ≤ v_S s ∧ v_S s < 7) → q_ok (q_rz 0 m) (fun r m' => m' = m ∧ ((r = 1 ∧ k = 3 ∧ ∀ j, 0 ≤ j → j < 7 → ¬ v_is T a b j) ∨ (r = 0 ∧ ¬ (k = 3 ∧ ∀ j, 0 ≤ j → j < 7 → ¬ v_is T a b j)))) := by
      intro s _ _ hv hr
      rw [x_rz0]
      exact o_some ⟨rfl, Or.inr ⟨rfl, fun hh => hh.2 _ hr.1 hr.2 hv⟩⟩
    rcases w 2 (by decide) (by decide) with ⟨e2, h2⟩ | ⟨e2, h2⟩
    · rw [e2, x_bd, x_w1, if_neg (by decide)]; exact no 2 (by decide) (by decide) h2 (by decide)
    rw [e2, x_bd, x_w0, if_pos rfl]
    rcases w 3 (by decide) (by decide) with ⟨e3, h3⟩ | ⟨e3, h3⟩
    · rw [e3, x_bd, x_w1, if_neg (by decide)]; exact no 3 (by decide) (by decide) h3 (by decide)
    rw [e3, x_bd, x_w0, if_pos rfl]
    rcases w 4 (by decide) (by decide) with ⟨e4, h4⟩ | ⟨e4, h4⟩
    · rw [e4, x_bd, x_w1, if_neg (by decide)]; exact no 4 (by decide) (by decide) h4 (by decide)
    rw [e4, x_bd, x_w0, if_pos rfl]
    rcases w 5 (by decide) (by decide) with ⟨e5, h5⟩ | ⟨e5, h5⟩
    · rw [e5, x_bd, x_w1, if_neg (by decide)]; exact no 5 (by decide) (by decide) h5 (by decide)
    rw [e5, x_bd, x_w0, if_pos rfl]
    rcases w 6 (by decide) (by decide) with ⟨e6, h6⟩ | ⟨e6, h6⟩
    · rw [e6, x_bd, x_w1, if_neg (by decide)]; exact no 6 (by decide) (by decide) h6 (by decide)
    rw [e6, x_bd, x_w0, if_pos rfl]
    rcases w 7 (by decide) (by decide) with ⟨e7, h7⟩ | ⟨e7, h7⟩
    · rw [e7, x_bd, x_w1, if_neg (by decide)]; exact no 7 (by decide) (by decide) h7 (by decide)
    rw [e7, x_bd, x_w0, if_pos rfl]
    rcases w 8 (by decide) (by decide) with ⟨e8, h8⟩ | ⟨e8, h8⟩
    · rw [e8, x_bd, x_w1, if_neg (by decide)]; exact no 8 (by decide) (by decide) h8 (by decide)
    rw [e8, x_bd, x_w0, if_pos rfl, x_rz1]
    refine o_some ⟨rfl, Or.inl ⟨rfl, ck, fun j j0 j1 => ?_⟩⟩
    have : j = 0 ∨ j = 1 ∨ j = 2 ∨ j = 3 ∨ j = 4 ∨ j = 5 ∨ j = 6 := by omega
    rcases this with e | e | e | e | e | e | e <;> subst e
    · exact h2
    · exact h3
    · exact h4
    · exact h5
    · exact h6
    · exact h7
    · exact h8
  · rw [if_neg ck, x_rz0]
    exact o_some ⟨rfl, Or.inr ⟨rfl, fun hh => ck hh.1⟩⟩
theorem c_isSameAs (h : v_C m T n) (ht : v_tc m k a b) (hs : v_sh T n k a b) {f e : Int} (hf : 0 ≤ f ∧ f ≤ e ∧ e ≤ 800) : q_ok (f_Tape_isSameAs f e m) (fun r m' => m' = m ∧ ((r = 1 ∧ v_nm T f e a b) ∨ (r = 0 ∧ ¬ v_nm T f e a b))) := by
  obtain ⟨c1, c2, c3, c4⟩ := h
  obtain ⟨t2, t3, t4⟩ := ht
  have s1 := hs.1
  unfold f_Tape_isSameAs
  rw [t3, t4, q_w_id (x := e - f) (by omega) (by omega), q_w_id (x := b - a) (by omega) (by omega)]
  by_cases c : e - f = b - a
  · rw [if_pos c]
    refine o_upF (fun n' j (_ : Unit) => f_Tape_isSameAs_l19 n' f e j m) (fun j _ => 0 ≤ j ∧ ∀ i, 0 ≤ i → i < j → T (f + i) = T (a + i)) _ (k := 0) (e := b - a) (s := ()) (by omega) (by omega) ⟨Int.le_refl _, fun i i0 i1 => by omega⟩ ?_ ?_
    · intro n' j _ hj ⟨j0, hp⟩ hn
      have hT := c4 (a + j) (by omega) (by omega)
      have hT2 := c4 (f + j) (by omega) (by omega)
      show q_ok (f_Tape_isSameAs_b19 (f_Tape_isSameAs_l19 n') f e j m) _
      unfold f_Tape_isSameAs_b19
      rw [q_w_id (x := e - f) (by omega) (by omega), q_w_id (x := j) (by omega) (by omega), if_neg (by omega), x_rd (n := 800) (by omega) (by omega) (by decide), c3 _ (by omega) (by omega), t3, x_rd (n := 800) (by omega) (by omega) (by decide), c3 _ (by omega) (by omega), q_w_id (x := T (f + j)) (by omega) (by omega), q_w_id (x := T (a + j)) (by omega) (by omega)]
      by_cases ce : T (f + j) = T (a + j)
      · rw [if_pos ce]
        refine hn () ⟨by omega, fun i i0 i1 => ?_⟩
        by_cases ci : i = j
        · rw [ci]; exact ce
        · exact hp i i0 (by omega)
      · rw [if_neg ce, x_rz0]
        exact o_some ⟨rfl, Or.inr ⟨rfl, fun hh => ce (hh.2 j j0 hj)⟩⟩
    · intro n' _ ⟨_, hp⟩
      show q_ok (f_Tape_isSameAs_b19 (f_Tape_isSameAs_l19 n') f e (b - a) m) _
      unfold f_Tape_isSameAs_b19
      rw [q_w_id (x := e - f) (by omega) (by omega), q_w_id (x := b - a) (by omega) (by omega), if_pos (by omega), x_rz1]
      exact o_some ⟨rfl, Or.inl ⟨rfl, c, hp⟩⟩
  · rw [if_neg c, x_rz0]
    exact o_some ⟨rfl, Or.inr ⟨rfl, fun hh => c hh.1⟩⟩
/-- which of the class's names -/
theorem c_named (h : v_C m T n) (ht : v_tc m k a b) (hs : v_sh T n k a b) (h253 : m 25 3 = t) (htL : t ∈ q_Lp) {cnt : Int} (hc : 0 ≤ cnt ∧ cnt ≤ 3) (e2 : m t 2 = cnt) (hf : ∀ j, 0 ≤ j → j < cnt → m 26 j = f j ∧ m 27 j = e j ∧ 0 ≤ f j ∧ f j ≤ e j ∧ e j ≤ 800) : q_ok (f_Pars_named m) (fun r m' => m' = m ∧ v_nd (fun j => v_nm T (f j) (e j) a b) cnt r) := by
  unfold f_Pars_named
  refine o_upF (fun n' j (_ : Unit) => f_Pars_named_l2 n' j m) (fun j _ => 0 ≤ j ∧ ∀ i, 0 ≤ i → i < j → ¬ v_nm T (f i) (e i) a b) _ (k := 0) (e := cnt) (s := ()) (by omega) (by omega) ⟨Int.le_refl _, fun i i0 i1 => by omega⟩ ?_ ?_
  · intro n' j _ hj ⟨j0, hp⟩ hn
    have hfj := hf j j0 hj
    show q_ok (f_Pars_named_b2 (f_Pars_named_l2 n') j m) _
    unfold f_Pars_named_b2
    rw [x_lt, h253, x_one htL, e2, q_w_id (x := cnt) (by omega) (by omega), q_w_id (x := j) (by omega) (by omega), if_neg (by omega), x_rd (n := 3) j0 (by omega) (by decide), x_rd (n := 3) j0 (by omega) (by decide), hfj.1, hfj.2.1]
    refine o_bd (c_isSameAs h ht hs hfj.2.2) fun v m2 ⟨em, hv⟩ => ?_
    rw [em]
    rcases hv with ⟨ev, h1⟩ | ⟨ev, h1⟩
    · rw [ev, x_w1, if_neg (by decide)]
      exact o_rt ⟨rfl, Or.inl ⟨⟨j0, hj⟩, h1, hp⟩⟩
    · rw [ev, x_w0, if_pos rfl]
      refine hn () ⟨by omega, fun i i0 i1 => ?_⟩
      by_cases ci : i = j
      · rw [ci]; exact h1
      · exact hp i i0 (by omega)
  · intro n' _ ⟨_, hp⟩
    show q_ok (f_Pars_named_b2 (f_Pars_named_l2 n') cnt m) _
    unfold f_Pars_named_b2
    rw [x_lt, h253, x_one htL, e2, if_pos (Int.le_refl _)]
    exact o_rt ⟨rfl, Or.inr ⟨rfl, hp⟩⟩
theorem m_isNamed (h : v_M m T n) (hs : v_sh T n k a b) (ht : v_tm m T k a b) {j f e : Int} (hj : 0 ≤ j ∧ j < 3) (h103 : m 103 j = f) (h104 : m 104 j = e - f) (hf : 0 ≤ f ∧ f ≤ e ∧ e ≤ 800) : q_ok (f_Mod_isNamed j m) (fun r m' => m' = m ∧ ((r = 1 ∧ v_nm T f e a b) ∨ (r = 0 ∧ ¬ v_nm T f e a b))) := by
  obtain ⟨c1, c2, c3, c4, _⟩ := h
  obtain ⟨t25, t24, t23, _⟩ := ht
  have s1 := hs.1
  unfold f_Mod_isNamed
  rw [x_rd (n := 3) hj.1 hj.2 (by decide), h104, t23, t24, q_w_id (x := e - f) (by omega) (by omega), q_w_id (x := b - a) (by omega) (by omega)]
  by_cases c : e - f = b - a
  · rw [if_pos c]
    refine o_upF (fun n' i (_ : Unit) => f_Mod_isNamed_l22 n' j i m) (fun i _ => 0 ≤ i ∧ ∀ i', 0 ≤ i' → i' < i → T (f + i') = T (a + i')) _ (k := 0) (e := b - a) (s := ()) (by omega) (by omega) ⟨Int.le_refl _, fun i i0 i1 => by omega⟩ ?_ ?_
    · intro n' i _ hi ⟨i0, hp⟩ hn
      have hT := c4 (a + i) (by omega) (by omega)
      have hT2 := c4 (f + i) (by omega) (by omega)
      show q_ok (f_Mod_isNamed_b22 (f_Mod_isNamed_l22 n') j i m) _
      unfold f_Mod_isNamed_b22
      rw [x_rd (n := 3) hj.1 hj.2 (by decide), h104, q_w_id (x := e - f) (by omega) (by omega), q_w_id (x := i) (by omega) (by omega), if_neg (by omega), x_rd (n := 3) hj.1 hj.2 (by decide), h103, x_rd (n := 800) (by omega) (by omega) (by decide), c3 _ (by omega) (by omega), t24, x_rd (n := 800) (by omega) (by omega) (by decide), c3 _ (by omega) (by omega), q_w_id (x := T (f + i)) (by omega) (by omega), q_w_id (x := T (a + i)) (by omega) (by omega)]
      by_cases ce : T (f + i) = T (a + i)
      · rw [if_pos ce]
        refine hn () ⟨by omega, fun i' i0' i1' => ?_⟩
        by_cases ci : i' = i
        · rw [ci]; exact ce
        · exact hp i' i0' (by omega)
      · rw [if_neg ce, x_rz0]
        exact o_some ⟨rfl, Or.inr ⟨rfl, fun hh => ce (hh.2 i i0 hi)⟩⟩
    · intro n' _ ⟨_, hp⟩
      show q_ok (f_Mod_isNamed_b22 (f_Mod_isNamed_l22 n') j (b - a) m) _
      unfold f_Mod_isNamed_b22
      rw [x_rd (n := 3) hj.1 hj.2 (by decide), h104, q_w_id (x := e - f) (by omega) (by omega), q_w_id (x := b - a) (by omega) (by omega), if_pos (by omega), x_rz1]
      exact o_some ⟨rfl, Or.inl ⟨rfl, c, hp⟩⟩
  · rw [if_neg c, x_rz0]
    exact o_some ⟨rfl, Or.inr ⟨rfl, fun hh => c hh.1⟩⟩
theorem m_named (h : v_M m T n) (hs : v_sh T n k a b) (ht : v_tm m T k a b) {cnt : Int} (hc : 0 ≤ cnt ∧ cnt ≤ 3) (hf : ∀ j, 0 ≤ j → j < cnt → m 103 j = f j ∧ m 104 j = e j - f j ∧ 0 ≤ f j ∧ f j ≤ e j ∧ e j ≤ 800) : q_ok (f_Mod_named cnt m) (fun r m' => m' = m ∧ v_nd (fun j => v_nm T (f j) (e j) a b) cnt r) := by
  unfold f_Mod_named
  refine o_upF (fun n' j (_ : Unit) => f_Mod_named_l2 n' cnt j m) (fun j _ => 0 ≤ j ∧ ∀ i, 0 ≤ i → i < j → ¬ v_nm T (f i) (e i) a b) _ (k := 0) (e := cnt) (s := ()) (by omega) (by omega) ⟨Int.le_refl _, fun i i0 i1 => by omega⟩ ?_ ?_
  · intro n' j _ hj ⟨j0, hp⟩ hn
    have hfj := hf j j0 hj
    show q_ok (f_Mod_named_b2 (f_Mod_named_l2 n') cnt j m) _
    unfold f_Mod_named_b2
    rw [q_w_id (x := cnt) (by omega) (by omega), q_w_id (x := j) (by omega) (by omega), if_neg (by omega)]
    refine o_bd (m_isNamed h hs ht ⟨j0, by omega⟩ hfj.1 hfj.2.1 hfj.2.2) fun v m2 ⟨em, hv⟩ => ?_
    rw [em]
    rcases hv with ⟨ev, h1⟩ | ⟨ev, h1⟩
    · rw [ev, x_w1, if_neg (by decide)]
      exact o_rt ⟨rfl, Or.inl ⟨⟨j0, hj⟩, h1, hp⟩⟩
    · rw [ev, x_w0, if_pos rfl]
      refine hn () ⟨by omega, fun i i0 i1 => ?_⟩
      by_cases ci : i = j
      · rw [ci]; exact h1
      · exact hp i i0 (by omega)
  · intro n' _ ⟨_, hp⟩
    show q_ok (f_Mod_named_b2 (f_Mod_named_l2 n') cnt cnt m) _
    unfold f_Mod_named_b2
    rw [if_pos (Int.le_refl _)]
    exact o_rt ⟨rfl, Or.inr ⟨rfl, hp⟩⟩
end names
