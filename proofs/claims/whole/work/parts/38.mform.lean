/-! THE MODEL's FORMULAS -/
def f_cd (l : q_Mem) (k : Int) : Int := if l 7 k = 0 then l 8 k else if l 7 k = 1 then 1000 else if l 7 k = 2 then 1001 else if l 7 k = 3 then 1100 + l 8 k else if l 7 k = 4 then 1205 else l 7 k + 1195
theorem f_stk_fun {l : q_Mem} {s : Int} : ∀ {n : Nat} {a b : List Int}, f_stk l s n a → f_stk l s n b → a = b := by
  intro n
  induction n with
  | zero => exact fun h h' => Eq.trans h (Eq.symm h')
  | succ n ih =>
    intro a b ⟨a', h, hs⟩ ⟨b', h', hs'⟩
    have := ih h h'
    subst this
    rcases hs with ⟨_, _, rfl⟩ | ⟨_, r, rfl, rfl⟩ | ⟨_, _, r, rfl, rfl⟩ <;> rcases hs' with ⟨_, _, rfl⟩ | ⟨_, r', e, rfl⟩ | ⟨_, _, r', e, rfl⟩ <;> first | rfl | omega | (simp at e; rw [e])
/-- the values of nodes on a stack, the last one on top -/
def k_stk (A R : Int → Int) : List Int → Prop
  | [] => True
  | x :: r => A r.length = R x ∧ k_stk A R r
theorem k_stk_up {A A' R R' : Int → Int} : ∀ {r : List Int}, k_stk A R r → (∀ x, x ∈ r → R' x = R x) → (∀ i : Int, 0 ≤ i → i < r.length → A' i = A i) → k_stk A' R' r := by
  intro r
  induction r with
  | nil => exact fun _ _ _ => trivial
  | cons x r ih =>
    intro ⟨h1, h2⟩ hR hA
    refine ⟨?_, ih h2 (fun y hy => hR y (List.mem_cons_of_mem _ hy)) fun i i0 i1 => hA i i0 (by simp; omega)⟩
    rw [hA _ (by omega) (by simp; omega), hR x (by simp)]
    exact h1
section mform
variable {m l : q_Mem}
theorem m_stepOver {A R : Int → Int} {cell k i j x : Int} {a b : List Int} (hA : m cell = A) (hs : f_sp l k a b) (hk : k_stk A R a) (hn : a.length < 100) (h0 : l 7 k = 0 → 0 ≤ l 8 k ∧ l 8 k ≤ 999) (h3 : l 7 k = 3 → 0 ≤ l 8 k ∧ l 8 k < 12) : f_Mod_stepOver (f_cd l k) a.length i j x cell m = some ((b.length : Int), q_up m cell (b.length - 1 : Int) (f_nv l (fun _ => x) i j k R)) := by
  subst hA
  unfold f_Mod_stepOver f_Mod_stepOver_b103 f_cd f_nv
  rcases hs with ⟨k0, k1, rfl⟩ | ⟨k0, r, rfl, rfl⟩ | ⟨k0, k1, r, rfl, rfl⟩
  · have e : (((k :: a).length : Nat) : Int) = (a.length : Int) + 1 := by simp
    rw [e, show (a.length : Int) + 1 - 1 = a.length by omega]
    by_cases c0 : l 7 k = 0
    · have := h0 c0
      simp only [if_pos c0]
      rw [q_w_id (by omega) (by omega), if_neg (by omega), if_pos (by omega), if_neg (by omega), if_neg (by omega), if_pos (by omega), x_wr (n := 100) (by omega) (by omega) (by decide)]
      rfl
    simp only [if_neg c0]
    by_cases c1 : l 7 k = 1
    · simp only [if_pos c1]
      rw [q_w_id (by omega) (by omega), if_neg (by decide), if_pos (by decide), if_pos rfl, x_wr (n := 100) (by omega) (by omega) (by decide)]
      rfl
    simp only [if_neg c1]
    by_cases c2 : l 7 k = 2
    · simp only [if_pos c2]
      rw [q_w_id (by omega) (by omega), if_neg (by decide), if_pos (by decide), if_neg (by decide), if_pos rfl, x_wr (n := 100) (by omega) (by omega) (by decide)]
      rfl
    simp only [if_neg c2]
    have c3 : l 7 k = 3 := by omega
    have := h3 c3
    simp only [if_pos c3]
    rw [q_w_id (by omega) (by omega), if_neg (by omega), if_pos (by omega), if_neg (by omega), if_neg (by omega), if_neg (by omega), x_wr (n := 100) (by omega) (by omega) (by decide)]
    rfl
  · have e : (((l 8 k :: r).length : Nat) : Int) = (r.length : Int) + 1 := by simp
    have e' : (((k :: r).length : Nat) : Int) = (r.length : Int) + 1 := by simp
    have hn' : (r.length : Int) + 1 < 100 := by rw [← e]; omega
    rw [e, e', show (r.length : Int) + 1 - 1 = r.length by omega]
    simp only [if_neg (show ¬ l 7 k = 0 by omega), if_neg (show ¬ l 7 k = 1 by omega), if_neg (show ¬ l 7 k = 2 by omega), if_neg (show ¬ l 7 k = 3 by omega), if_pos k0]
    rw [q_w_id (by omega) (by omega), if_pos rfl, x_rd (n := 100) (by omega) (by omega) (by decide), x_wr (n := 100) (by omega) (by omega) (by decide), hk.1]
    rfl
  · have e : (((l 9 k :: l 8 k :: r).length : Nat) : Int) = (r.length : Int) + 2 := by simp; omega
    have e' : (((k :: r).length : Nat) : Int) = (r.length : Int) + 1 := by simp
    have g1 : m cell (r.length + 1) = R (l 9 k) := by
      have := hk.1
      rwa [show (((l 8 k :: r).length : Nat) : Int) = (r.length : Int) + 1 by simp] at this
    have g2 : m cell r.length = R (l 8 k) := hk.2.1
    have hn' : (r.length : Int) + 2 < 100 := by rw [← e]; omega
    rw [e, e', show (r.length : Int) + 2 + -1 - 1 = r.length by omega, show (r.length : Int) + 2 + -1 = r.length + 1 by omega, show (r.length : Int) + 1 - 1 = r.length by omega]
    simp only [if_neg (show ¬ l 7 k = 0 by omega), if_neg (show ¬ l 7 k = 1 by omega), if_neg (show ¬ l 7 k = 2 by omega), if_neg (show ¬ l 7 k = 3 by omega), if_neg (show ¬ l 7 k = 4 by omega)]
    rw [q_w_id (by omega) (by omega), if_neg (by omega), if_neg (by omega), x_rd (n := 100) (by omega) (by omega) (by decide), x_rd (n := 100) (by omega) (by omega) (by decide), g1, g2]
    have hm : f_Mod_made (l 7 k + 1195) (R (l 8 k)) (R (l 9 k)) m = some (f_op (l 7 k) (R (l 8 k)) (R (l 9 k)), m) := by
      unfold f_Mod_made f_op f_Mod_less f_Mod_more
      rw [q_w_id (x := l 7 k + 1195) (by omega) (by omega)]
      by_cases c5 : l 7 k = 5
      · rw [if_pos c5, if_pos (by omega)]; split <;> simp_all [q_bd, q_rt]
      rw [if_neg c5, if_neg (by omega)]
      by_cases c6 : l 7 k = 6
      · rw [if_pos c6, if_pos (by omega)]; split <;> simp_all [q_bd, q_rt]
      rw [if_neg c6, if_neg (by omega)]
      by_cases c7 : l 7 k = 7
      · rw [if_pos c7, if_pos (by omega)]; rfl
      rw [if_neg c7, if_neg (by omega)]
      by_cases c8 : l 7 k = 8
      · rw [if_pos c8, if_pos (by omega)]; rfl
      rw [if_neg c8, if_neg (by omega)]
      rfl
    rw [hm, x_bd, x_wr (n := 100) (by omega) (by omega) (by decide)]
    rfl
/-- a formula's code in the model's bank -/
def g_seg (m l : q_Mem) (b a e s t : Int) : Prop := (0 ≤ a ∧ e ≤ 100) ∧ e - a = t - s ∧ ∀ n, 0 ≤ n → n < e - a → m 100 (100 * b + (a + n)) = f_cd l (s + n)
def f_fs (m : q_Mem) (b v : Int) : Int := if v = 0 then 0 else m 99 (3 * b + v - 1)
def g_MF (m l : q_Mem) : Prop := ∃ b, (b = 0 ∨ b = 1) ∧ m 81 19 = b ∧ ∀ v, 0 ≤ v → v < l 0 2 → g_seg m l b (f_fs m b v) (m 98 (3 * b + v)) (l 10 (2 * v)) (l 10 (2 * v + 1)) ∧
  ((l 10 (2 * v + 1) < l 10 (2 * v + 2) ∧ g_seg m l b (m 98 (3 * b + v)) (m 99 (3 * b + v)) (l 10 (2 * v + 1)) (l 10 (2 * v + 2))) ∨ (l 10 (2 * v + 2) ≤ l 10 (2 * v + 1) ∧ (0 ≤ m 98 (3 * b + v) ∧ m 99 (3 * b + v) ≤ 100) ∧ m 99 (3 * b + v) = m 98 (3 * b + v) + 1 ∧ m 100 (100 * b + m 98 (3 * b + v)) = 0))
/-- the model's stack after so many of a formula's signs -/
def k_mst (l : q_Mem) (rd : Int → Int) (i j s : Int) (n : Nat) (A : Int → Int) (z : Int) : Prop := ∃ a, f_stk l s n a ∧ z = (a.length : Int) ∧ k_stk A (f_R l rd i j s n) a
theorem k_mst_step {rd : Int → Int} {cell i j s z x : Int} {n N : Nat} {c : List Int} (hst : f_stk l s N c) (hn : n < N) (hN : N ≤ 80) (h : k_mst l rd i j s n (m cell) z) (h0 : l 7 (s + n) = 0 → 0 ≤ l 8 (s + n) ∧ l 8 (s + n) ≤ 999) (h3 : l 7 (s + n) = 3 → 0 ≤ l 8 (s + n) ∧ l 8 (s + n) < 12 ∧ x = rd (l 8 (s + n))) :
    q_ok (f_Mod_stepOver (f_cd l (s + n)) z i j x cell m) (fun z' m' => (∀ c, c ≠ cell → m' c = m c) ∧ k_mst l rd i j s (n + 1) (m' cell) z') := by
  obtain ⟨a, h1, rfl, h2⟩ := h
  have e : N = (n + 1) + (N - (n + 1)) := by omega
  rw [e] at hst
  obtain ⟨b, a', h1', hsp⟩ := f_stk_pre hst
  have := f_stk_fun h1 h1'
  subst this
  have hi := f_stk_in h1
  rw [m_stepOver rfl hsp h2 (by omega) h0 (fun c => ⟨(h3 c).1, (h3 c).2.1⟩)]
  have hnd := f_stk_node (N := n + 1) (s := s) (l := l) ⟨a, h1, hsp⟩ (k := s + n) (by omega) (by omega)
  have ev : f_nv l (fun _ => x) i j (s + n) (f_R l rd i j s n) = f_R l rd i j s (n + 1) (s + n) := by
    rw [f_R_s]
    exact f_nv_congr (fun c => (h3 c).2.2) (fun _ => rfl) (fun _ => rfl) hnd.1
  have key : ∀ r : List Int, (∀ y, y ∈ r → y ∈ a) → b = (s + n) :: r → k_stk (m cell) (f_R l rd i j s n) r → q_ok (some ((b.length : Int), q_up m cell (b.length - 1 : Int) (f_nv l (fun _ => x) i j (s + n) (f_R l rd i j s n)))) (fun z' m' => (∀ c, c ≠ cell → m' c = m c) ∧ k_mst l rd i j s (n + 1) (m' cell) z') := by
    intro r hr hb hk
    have el : (b.length : Int) - 1 = r.length := by rw [hb]; simp
    rw [el, ev]
    refine o_some ⟨fun c hc => q_up_f hc, b, ⟨a, h1, hsp⟩, rfl, ?_⟩
    rw [hb]
    refine ⟨q_up_s _ _ _ _, k_stk_up hk (fun y hy => ?_) fun i i0 i1 => q_up_i (by omega)⟩
    have := hi.1 y (hr y hy)
    exact f_R_o l rd i j s n (by omega)
  rcases hsp with ⟨_, _, hb⟩ | ⟨_, r, ha, hb⟩ | ⟨_, _, r, ha, hb⟩
  · exact key a (fun _ h => h) hb h2
  · subst ha
    exact key r (fun _ h => List.mem_cons_of_mem _ h) hb h2.2
  · subst ha
    exact key r (fun _ h => List.mem_cons_of_mem _ (List.mem_cons_of_mem _ h)) hb h2.2.2
theorem k_mst_end {rd : Int → Int} {i j s t z : Int} {A : Int → Int} (h : k_mst l rd i j s (t - s).toNat A z) (hst : f_stk l s (t - s).toNat [t - 1]) (h1 : s < t) : A 0 = f_val l rd i j s t := by
  obtain ⟨a, h2, rfl, h3⟩ := h
  have := f_stk_fun h2 hst
  subst this
  unfold f_val
  rw [if_neg (by omega)]
  exact h3.1
theorem f_cd_rg {k : Int} (h7 : 0 ≤ l 7 k ∧ l 7 k ≤ 9) (h0 : l 7 k = 0 → 0 ≤ l 8 k ∧ l 8 k ≤ 999) (h3 : l 7 k = 3 → 0 ≤ l 8 k ∧ l 8 k < 12) : 0 ≤ f_cd l k ∧ f_cd l k ≤ 1205 ∧ (1100 ≤ f_cd l k ∧ f_cd l k < 1112 ↔ l 7 k = 3) := by
  unfold f_cd
  by_cases c0 : l 7 k = 0
  · have := h0 c0
    rw [if_pos c0]; omega
  rw [if_neg c0]
  by_cases c1 : l 7 k = 1
  · rw [if_pos c1]; omega
  rw [if_neg c1]
  by_cases c2 : l 7 k = 2
  · rw [if_pos c2]; omega
  rw [if_neg c2]
  by_cases c3 : l 7 k = 3
  · have := h3 c3
    rw [if_pos c3]; omega
  rw [if_neg c3]
  by_cases c4 : l 7 k = 4
  · rw [if_pos c4]; omega
  rw [if_neg c4]; omega
theorem m_formula {b a e s t i j : Int} (hb : b = 0 ∨ b = 1) (h19 : m 81 19 = b) (hg : g_seg m l b a e s t) (h1 : s < t) (h80 : t - s ≤ 80) (hst : f_stk l s (t - s).toNat [t - 1]) (h0 : ∀ k, s ≤ k → k < t → l 7 k = 0 → 0 ≤ l 8 k ∧ l 8 k ≤ 999) (h3 : ∀ k, s ≤ k → k < t → l 7 k = 3 → 0 ≤ l 8 k ∧ l 8 k < 12) : q_ok (f_Mod_formula a e i j m) (fun x m' => x = f_val l (fun _ => 0) i j s t ∧ ∀ c, c ≠ 114 → m' c = m c) := by
  obtain ⟨g1, g2, g3⟩ := hg
  unfold f_Mod_formula
  refine o_upF (fun n k (q : Int × q_Mem) => f_Mod_formula_l6 n e i j q.1 k q.2) (fun k q => a ≤ k ∧ (∀ c, c ≠ 114 → q.2 c = m c) ∧ k_mst l (fun _ => 0) i j s (k - a).toNat (q.2 114) q.1) _ (k := a) (e := e) (s := (0, m)) (by omega) (by omega) ?_ ?_ ?_
  · refine ⟨Int.le_refl _, fun _ _ => rfl, [], ?_, rfl, trivial⟩
    rw [show (a - a).toNat = 0 by omega]
    rfl
  · intro n k ⟨z, q⟩ hk ⟨ha, hf, hm⟩ hn
    dsimp only at hf hm
    show q_ok (f_Mod_formula_b6 (f_Mod_formula_l6 n) e i j z k q) _
    unfold f_Mod_formula_b6
    have e1 : m 100 (100 * b + k) = f_cd l (s + ((k - a).toNat : Int)) := by
      have := g3 (k - a) (by omega) (by omega)
      rw [show a + (k - a) = k by omega] at this
      rw [this, show ((k - a).toNat : Int) = k - a by omega]
    have hkb := h0 (s + ((k - a).toNat : Int)) (by omega) (by omega)
    have hkc := h3 (s + ((k - a).toNat : Int)) (by omega) (by omega)
    rw [q_w_id (by omega) (by omega), q_w_id (by omega) (by omega), if_neg (by omega), hf 81 (by decide), h19, x_rd (n := 200) (by omega) (by omega) (by decide), hf 100 (by decide), e1]
    refine o_bd (k_mst_step hst (by omega) (by omega) hm hkb fun c => ⟨(hkc c).1, (hkc c).2, rfl⟩) fun z' m' h => ?_
    refine hn (z', m') ⟨by omega, fun c hc => (h.1 c hc).trans (hf c hc), ?_⟩
    dsimp only
    rw [show (k + 1 - a).toNat = (k - a).toNat + 1 by omega]
    exact h.2
  · intro n ⟨z, q⟩ ⟨ha, hf, hm⟩
    dsimp only at hf hm
    show q_ok (f_Mod_formula_b6 (f_Mod_formula_l6 n) e i j z e q) _
    unfold f_Mod_formula_b6
    rw [if_pos (Int.le_refl _), x_rd (n := 100) (by omega) (by omega) (by decide)]
    rw [show (e - a).toNat = (t - s).toNat by omega] at hm
    exact o_rt ⟨k_mst_end hm hst h1, hf⟩
theorem m_formula0 {b a i j : Int} (hb : b = 0 ∨ b = 1) (h19 : m 81 19 = b) (ha : 0 ≤ a ∧ a < 100) (h0 : m 100 (100 * b + a) = 0) : q_ok (f_Mod_formula a (a + 1) i j m) (fun x m' => x = 0 ∧ ∀ c, c ≠ 114 → m' c = m c) := by
  unfold f_Mod_formula
  show q_ok (f_Mod_formula_b6 (f_Mod_formula_l6 19999) (a + 1) i j 0 a m) _
  unfold f_Mod_formula_b6
  rw [q_w_id (by omega) (by omega), q_w_id (by omega) (by omega), if_neg (by omega), h19, x_rd (n := 200) (by omega) (by omega) (by decide), h0]
  unfold f_Mod_stepOver f_Mod_stepOver_b103
  simp (disch := omega) only [x_bd, x_rt, x_pf, x_lt, x_fi, x_rz0, x_rz1, x_rzi, x_pz0, x_pz1, x_rd, x_wr, x_wrz, x_dv, x_md, q_w_id, x_wi, x_i0, x_i1, x_max, x_min, x_abs, ↓reduceIte, Int.reduceEq, Int.reduceLT, Int.reduceLE, Int.reduceNeg, if_true, if_false]
  show q_ok (f_Mod_formula_b6 (f_Mod_formula_l6 19998) (a + 1) i j (0 + 1) (a + 1) (q_up m 114 0 0)) _
  unfold f_Mod_formula_b6
  rw [if_pos (Int.le_refl _), x_rd (n := 100) (by omega) (by omega) (by decide)]
  exact o_rt ⟨q_up_s _ _ _ _, fun c hc => q_up_f hc⟩
end mform
