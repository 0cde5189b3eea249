/-! FORMULAS: what nodes give -/
def f_op (o x z : Int) : Int := if o = 5 then (if q_w z ≤ q_w x then z else x) else if o = 6 then (if q_w x ≤ q_w z then z else x) else if o = 7 then x + z else if o = 8 then x - z else x * z
def f_nv (l : q_Mem) (rd : Int → Int) (i j k : Int) (R : Int → Int) : Int := if l 7 k = 0 then l 8 k else if l 7 k = 1 then i else if l 7 k = 2 then j else if l 7 k = 3 then rd (l 8 k) else if l 7 k = 4 then - R (l 8 k) else f_op (l 7 k) (R (l 8 k)) (R (l 9 k))
def f_R (l : q_Mem) (rd : Int → Int) (i j s : Int) : Nat → Int → Int
  | 0 => fun _ => 0
  | n + 1 => fun k => if k = s + n then f_nv l rd i j (s + n) (f_R l rd i j s n) else f_R l rd i j s n k
def f_sp (l : q_Mem) (k : Int) (a b : List Int) : Prop := (0 ≤ l 7 k ∧ l 7 k ≤ 3 ∧ b = k :: a) ∨ (l 7 k = 4 ∧ ∃ r, a = l 8 k :: r ∧ b = k :: r) ∨ (5 ≤ l 7 k ∧ l 7 k ≤ 9 ∧ ∃ r, a = l 9 k :: l 8 k :: r ∧ b = k :: r)
def f_stk (l : q_Mem) (s : Int) : Nat → List Int → Prop
  | 0, a => a = []
  | n + 1, a => ∃ a', f_stk l s n a' ∧ f_sp l (s + n) a' a
theorem f_stk_in {l : q_Mem} {s : Int} : ∀ {n : Nat} {a : List Int}, f_stk l s n a → (∀ x, x ∈ a → s ≤ x ∧ x < s + n) ∧ a.length ≤ n := by
  intro n
  induction n with
  | zero =>
    intro a h
    have : a = [] := h
    subst this
    exact ⟨fun x hx => (List.not_mem_nil hx).elim, Nat.le_refl _⟩
  | succ n ih =>
    intro a ⟨a', h, hs⟩
    obtain ⟨i1, i2⟩ := ih h
    rcases hs with ⟨_, _, rfl⟩ | ⟨_, r, rfl, rfl⟩ | ⟨_, _, r, rfl, rfl⟩
    · refine ⟨fun x hx => ?_, by simpa using i2⟩
      rcases List.mem_cons.mp hx with rfl | hx
      · omega
      · have := i1 x hx; omega
    · refine ⟨fun x hx => ?_, by simp at i2 ⊢; omega⟩
      rcases List.mem_cons.mp hx with rfl | hx
      · omega
      · have := i1 x (List.mem_cons_of_mem _ hx); omega
    · refine ⟨fun x hx => ?_, by simp at i2 ⊢; omega⟩
      rcases List.mem_cons.mp hx with rfl | hx
      · omega
      · have := i1 x (List.mem_cons_of_mem _ (List.mem_cons_of_mem _ hx)); omega
theorem f_stk_pre {l : q_Mem} {s : Int} {n d : Nat} : ∀ {a : List Int}, f_stk l s (n + d) a → ∃ a', f_stk l s n a' := by
  induction d with
  | zero => exact fun h => ⟨_, h⟩
  | succ d ih => exact fun ⟨a', h, _⟩ => ih h
/-- the parts of a node lie ahead of it -/
theorem f_stk_node {l : q_Mem} {s : Int} {N : Nat} {a : List Int} (h : f_stk l s N a) {k : Int} (h0 : s ≤ k) (h1 : k < s + N) : (0 ≤ l 7 k ∧ l 7 k ≤ 9) ∧ (4 ≤ l 7 k → s ≤ l 8 k ∧ l 8 k < k) ∧ (5 ≤ l 7 k → s ≤ l 9 k ∧ l 9 k < k) := by
  have e : N = ((k - s).toNat + 1) + (N - ((k - s).toNat + 1)) := by omega
  rw [e] at h
  obtain ⟨b, a', h', hs⟩ := f_stk_pre h
  have hk : s + ((k - s).toNat : Int) = k := by omega
  have hi := (f_stk_in h').1
  rw [hk] at hs hi
  rcases hs with ⟨_, _, rfl⟩ | ⟨_, r, rfl, rfl⟩ | ⟨_, _, r, rfl, rfl⟩
  · exact ⟨by omega, fun _ => by omega, fun _ => by omega⟩
  · exact ⟨by omega, fun _ => hi _ (by simp), fun _ => by omega⟩
  · exact ⟨by omega, fun _ => hi _ (by simp), fun _ => hi _ (by simp)⟩
theorem f_nv_congr {l : q_Mem} {rd rd' : Int → Int} {i j k : Int} {R R' : Int → Int} (hr : l 7 k = 3 → rd (l 8 k) = rd' (l 8 k)) (h8 : 4 ≤ l 7 k → R (l 8 k) = R' (l 8 k)) (h9 : 5 ≤ l 7 k → R (l 9 k) = R' (l 9 k)) (hk : 0 ≤ l 7 k ∧ l 7 k ≤ 9) : f_nv l rd i j k R = f_nv l rd' i j k R' := by
  unfold f_nv
  by_cases c0 : l 7 k = 0
  · rw [if_pos c0, if_pos c0]
  rw [if_neg c0, if_neg c0]
  by_cases c1 : l 7 k = 1
  · rw [if_pos c1, if_pos c1]
  rw [if_neg c1, if_neg c1]
  by_cases c2 : l 7 k = 2
  · rw [if_pos c2, if_pos c2]
  rw [if_neg c2, if_neg c2]
  by_cases c3 : l 7 k = 3
  · rw [if_pos c3, if_pos c3, hr c3]
  rw [if_neg c3, if_neg c3]
  by_cases c4 : l 7 k = 4
  · rw [if_pos c4, if_pos c4, h8 (by omega)]
  rw [if_neg c4, if_neg c4, h8 (by omega), h9 (by omega)]
theorem f_R_s (l : q_Mem) (rd : Int → Int) (i j s : Int) (n : Nat) : f_R l rd i j s (n + 1) (s + n) = f_nv l rd i j (s + n) (f_R l rd i j s n) := if_pos rfl
theorem f_R_o (l : q_Mem) (rd : Int → Int) (i j s : Int) (n : Nat) {k : Int} (h : k ≠ s + n) : f_R l rd i j s (n + 1) k = f_R l rd i j s n k := if_neg h
/-- reads alone matter -/
theorem f_R_congr {l : q_Mem} {rd rd' : Int → Int} {i j s : Int} {N : Nat} {a : List Int} (h : f_stk l s N a) (hr : ∀ k, s ≤ k → k < s + N → l 7 k = 3 → rd (l 8 k) = rd' (l 8 k)) : ∀ n : Nat, n ≤ N → f_R l rd i j s n = f_R l rd' i j s n := by
  intro n
  induction n with
  | zero => exact fun _ => rfl
  | succ n ih =>
    intro hn
    have e := ih (by omega)
    funext k
    show (if k = s + n then _ else _) = (if k = s + n then _ else _)
    have hk := (f_stk_node h (k := s + n) (by omega) (by omega)).1
    rw [e, f_nv_congr (hr (s + n) (by omega) (by omega)) (fun _ => rfl) (fun _ => rfl) hk]
def f_val (l : q_Mem) (rd : Int → Int) (i j s e : Int) : Int := if e ≤ s then 0 else f_R l rd i j s (e - s).toNat (e - 1)
theorem f_val_congr {l : q_Mem} {rd rd' : Int → Int} {i j s e : Int} {a : List Int} (h : f_stk l s (e - s).toNat a) (hr : ∀ k, s ≤ k → k < e → l 7 k = 3 → rd (l 8 k) = rd' (l 8 k)) : f_val l rd i j s e = f_val l rd' i j s e := by
  unfold f_val
  by_cases c : e ≤ s
  · rw [if_pos c, if_pos c]
  · rw [if_neg c, if_neg c, f_R_congr h (fun k h0 h1 => hr k h0 (by omega)) _ (Nat.le_refl _)]
/-- a loop's formulas are such as a text can tell -/
def f_wf (l : q_Mem) : Prop := l 10 0 = 0 ∧ (∀ i, 0 ≤ i → i < 2 * l 0 2 → l 10 i ≤ l 10 (i + 1) ∧ l 10 (i + 1) ≤ 80) ∧
  (∀ v, 0 ≤ v → v < l 0 2 → l 10 (2 * v) < l 10 (2 * v + 1) ∧ f_stk l (l 10 (2 * v)) (l 10 (2 * v + 1) - l 10 (2 * v)).toNat [l 10 (2 * v + 1) - 1]) ∧
  (∀ v, 0 ≤ v → v < l 0 2 → l 10 (2 * v + 1) < l 10 (2 * v + 2) → f_stk l (l 10 (2 * v + 1)) (l 10 (2 * v + 2) - l 10 (2 * v + 1)).toNat [l 10 (2 * v + 2) - 1]) ∧
  (∀ v k, 0 ≤ v → v < l 0 2 → l 10 (2 * v) ≤ k → k < l 10 (2 * v + 1) → l 7 k = 3 → (0 ≤ l 8 k ∧ l 8 k < l 0 4) ∧ (l 5 (l 8 k) = 0 → l 6 (l 8 k) = 0 → l 4 (l 8 k) < v)) ∧
  (∀ k, 0 ≤ k → k < l 10 (2 * l 0 2) → l 7 k = 0 → 0 ≤ l 8 k ∧ l 8 k ≤ 999) ∧ (∀ k, 0 ≤ k → k < l 10 (2 * l 0 2) → l 7 k = 3 → 0 ≤ l 8 k ∧ l 8 k < 12)
theorem f_wf_mono {l : q_Mem} (h : f_wf l) : ∀ (d : Nat) {i : Int}, 0 ≤ i → i + d ≤ 2 * l 0 2 → l 10 i ≤ l 10 (i + d) := by
  intro d
  induction d with
  | zero => intro i _ _; rw [show i + ((0 : Nat) : Int) = i by omega]; exact Int.le_refl _
  | succ d ih =>
    intro i h0 h1
    have := ih (i := i) h0 (by omega)
    have h2 := (h.2.1 (i + d) (by omega) (by omega)).1
    rw [show i + ((d + 1 : Nat) : Int) = i + d + 1 by omega]
    omega
theorem f_wf_le {l : q_Mem} (h : f_wf l) {i j : Int} (h0 : 0 ≤ i) (h1 : i ≤ j) (h2 : j ≤ 2 * l 0 2) : l 10 i ≤ l 10 j := by
  have := f_wf_mono h (j - i).toNat h0 (i := i) (by omega)
  rwa [show i + ((j - i).toNat : Int) = j by omega] at this
theorem f_wf_rg {l : q_Mem} (h : f_wf l) {i : Int} (h0 : 0 ≤ i) (h2 : i ≤ 2 * l 0 2) : 0 ≤ l 10 i ∧ l 10 i ≤ 80 := by
  have h1 := f_wf_le h (i := 0) (j := i) (by omega) h0 h2
  rw [h.1] at h1
  refine ⟨h1, ?_⟩
  by_cases c : i = 0
  · rw [c, h.1]; omega
  · have := (h.2.1 (i - 1) (by omega) (by omega)).2
    rwa [show i - 1 + 1 = i by omega] at this
/-- the value of v's edge; what read r gives at p; what v's formula gives at p -/
def f_ed (l : q_Mem) (v i j : Int) : Int := f_val l (fun _ => 0) i j (l 10 (2 * v + 1)) (l 10 (2 * v + 2))
def f_rd (l : q_Mem) (T X : Int → Int) (p r : Int) : Int :=
  let q := g_mv (l 0 0) (l 0 1) p (l 5 r) (l 6 r)
  if q = -1 then f_ed l (l 4 r) (p / 10 + l 5 r) (p % 10 + l 6 r) else if q = p ∨ T q < T p then X (100 * l 4 r + q) else 0
def f_E (l : q_Mem) (T X : Int → Int) (v p : Int) : Int := f_val l (f_rd l T X p) (p / 10) (p % 10) (l 10 (2 * v)) (l 10 (2 * v + 1))
theorem g_mv_self {R C p a b : Int} (h : g_mv R C p a b = p) (hC : C ≤ 10) (hp : 0 ≤ p) : a = 0 ∧ b = 0 := by
  unfold g_mv at h
  split at h <;> omega
/-- what is read must agree, the rest need not -/
theorem f_E_congr {l : q_Mem} (hw : f_wf l) (hl : g_lw l) {T T' X X' : Int → Int} {v p : Int} (hv : 0 ≤ v ∧ v < l 0 2) (hp : 0 ≤ p ∧ p < 100) (hT : T = T')
    (hX : ∀ u q, 0 ≤ u → u < l 0 2 → -1 ≤ q → q < 100 → q ≠ -1 → (q = p ∧ u < v) ∨ (q ≠ p ∧ T q < T p ∧ ∃ o, 0 ≤ o ∧ o < l 0 5 ∧ g_tg l p o = q) → X (100 * u + q) = X' (100 * u + q)) : f_E l T X v p = f_E l T' X' v p := by
  subst hT
  refine f_val_congr (hw.2.2.1 v hv.1 hv.2).2 fun k h0 h1 h3 => ?_
  obtain ⟨h4, h5⟩ := hw.2.2.2.2.1 v k hv.1 hv.2 h0 h1 h3
  have h6 := hl.2.2.2.2.2.2.2.1 _ h4.1 h4.2
  have hr : -1 ≤ g_mv (l 0 0) (l 0 1) p (l 5 (l 8 k)) (l 6 (l 8 k)) ∧ g_mv (l 0 0) (l 0 1) p (l 5 (l 8 k)) (l 6 (l 8 k)) < 100 := g_mv_rg _ _ _ _ _ hl.1.2 hl.2.1.2
  unfold f_rd
  dsimp only
  by_cases c : g_mv (l 0 0) (l 0 1) p (l 5 (l 8 k)) (l 6 (l 8 k)) = -1
  · rw [if_pos c, if_pos c]
  rw [if_neg c, if_neg c]
  by_cases c2 : g_mv (l 0 0) (l 0 1) p (l 5 (l 8 k)) (l 6 (l 8 k)) = p ∨ T (g_mv (l 0 0) (l 0 1) p (l 5 (l 8 k)) (l 6 (l 8 k))) < T p
  · rw [if_pos c2, if_pos c2]
    refine hX _ _ h6.1.1 h6.1.2 hr.1 hr.2 c ?_
    by_cases c3 : g_mv (l 0 0) (l 0 1) p (l 5 (l 8 k)) (l 6 (l 8 k)) = p
    · have := g_mv_self c3 hl.2.1.2 hp.1
      exact Or.inl ⟨c3, h5 this.1 this.2⟩
    · refine Or.inr ⟨c3, by omega, ?_⟩
      rcases hl.2.2.2.2.2.2.2.2 (l 8 k) h4.1 h4.2 with hz | ⟨o, o0, o1, e1, e2⟩
      · exfalso
        have hin := (g_mv_in c).1
        rw [hz.1, hz.2] at hin c3
        omega
      · refine ⟨o, o0, o1, ?_⟩
        unfold g_tg
        rw [e1, e2]
  · rw [if_neg c2, if_neg c2]
