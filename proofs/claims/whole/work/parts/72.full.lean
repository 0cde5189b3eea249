/-! THE WHOLE STATE: history, boxes, tape, the last fault -/
def r_ok (R o : Int → Int) : Prop := (∀ i, 0 ≤ i → i ≤ 4 → R i = o i) ∧ ∀ c, 0 ≤ c → c < 64 → (f_un (o 5) c → R (5 + c) = 0) ∧ (¬ f_un (o 5) c → R (5 + c) = 1)
/-- the class's history: x is at hand, z the last, L the layouts -/
def j_H (m : q_Mem) (x z : Int) (L : Int → Int → Int) : Prop := (m 28 1 = x ∧ m 28 2 = z) ∧ (0 ≤ x ∧ x ≤ z ∧ z ≤ 20) ∧ (∀ i, 0 ≤ i → i ≤ 20 → 30 ≤ m 29 i ∧ m 29 i ≤ 50) ∧ (∀ i j, 0 ≤ i → i < j → j ≤ 20 → m 29 i ≠ m 29 j) ∧ ∀ i j, 0 ≤ i → i ≤ z → 0 ≤ j → j ≤ 5 → m (m 29 i) j = L i j
def j_B (m : q_Mem) (F : Int → Int) (X : Int → Int → Int) : Prop := (m 51 0 = 79 ∧ m 51 1 = 80) ∧ ∀ k, 0 ≤ k → k ≤ 1 → m 52 k = F k ∧ (F k = 0 ∨ (F k = 1 ∧ ∀ j, 0 ≤ j → j ≤ 5 → m (79 + k) j = X k j))
def j_T (m : q_Mem) (n : Int) (T : Int → Int) (ft pl : Int) : Prop := m 1 1 = n ∧ (∀ i, 0 ≤ i → i < 800 → m 2 i = T i) ∧ m 25 4 = ft ∧ m 25 5 = pl ∧ m 13 0 = 0 ∧ m 24 0 = 0
def j_C (l : q_Mem) (x z : Int) (L : Int → Int → Int) (F : Int → Int) (X : Int → Int → Int) (n : Int) (T : Int → Int) (ft pl : Int) (m : q_Mem) : Prop := k_C l (L x) m ∧ j_H m x z L ∧ j_B m F X ∧ m 0 2 = 17 - m 0 1 ∧ j_T m n T ft pl
def j_HM (m : q_Mem) (x z : Int) (L : Int → Int → Int) : Prop := (m 81 69 = x ∧ m 81 70 = z - x) ∧ (∀ i, 0 ≤ i → i < x → r_ok (fun j => m 123 (69 * i + j)) (L i)) ∧ ∀ i, x ≤ i → i < z → r_ok (fun j => m 123 (69 * i + j)) (L (i + 1))
def j_BM (m : q_Mem) (F : Int → Int) (X : Int → Int → Int) : Prop := ∀ k, 0 ≤ k → k ≤ 1 → m 125 k = F k ∧ (F k = 1 → r_ok (fun j => m 124 (69 * k + j)) (X k))
/-- the words' letters -/
def j_W (m : q_Mem) : Prop := ∀ i : Nat, i < 28 → m 102 i = ([115, 105, 122, 101, 32, 108, 101, 116, 32, 102, 105, 114, 101, 32, 111, 110, 116, 111, 32, 101, 100, 103, 101, 32, 105, 32, 106, 32] : List Int).getD i 0
def j_TM (m : q_Mem) (n : Int) (T : Int → Int) (ft pl : Int) : Prop := m 81 21 = n ∧ (∀ i, 0 ≤ i → i < 800 → m 101 i = T i) ∧ m 81 30 = ft ∧ m 81 31 = pl ∧ 0 ≤ m 81 26 ∧ m 81 26 ≤ 9999
def j_M (l : q_Mem) (x z : Int) (L : Int → Int → Int) (F : Int → Int) (X : Int → Int → Int) (n : Int) (T : Int → Int) (ft pl : Int) (m : q_Mem) : Prop := k_M l (L x) m ∧ j_HM m x z L ∧ j_BM m F X ∧ j_W m ∧ j_TM m n T ft pl
def j_ok (l : q_Mem) (x z : Int) (L : Int → Int → Int) (F : Int → Int) (X : Int → Int → Int) (n : Int) (T : Int → Int) : Prop := (0 ≤ x ∧ x ≤ z ∧ z ≤ 20) ∧ (∀ i, 0 ≤ i → i ≤ z → k_ok l (L i)) ∧ (∀ k, 0 ≤ k → k ≤ 1 → F k = 0 ∨ (F k = 1 ∧ k_ok l (X k))) ∧ (0 ≤ n ∧ n ≤ 800) ∧ ∀ i, 0 ≤ i → i < 800 → -128 ≤ T i ∧ T i ≤ 127
def j_J (m : q_Mem) : Prop := ∃ l x z L F X n T ft pl, j_ok l x z L F X n T ∧ j_C l x z L F X n T ft pl m ∧ j_M l x z L F X n T ft pl m
def j_op (ec em : q_Mem → q_Res) : Prop := ∀ m, j_J m → ∃ r r' m1 m2, ec m = some (r, m1) ∧ em m1 = some (r', m2) ∧ q_w r = q_w r' ∧ j_J m2
section full
variable {l m m' : q_Mem} {o : Int → Int} {x z n ft pl : Int} {L X : Int → Int → Int} {F T : Int → Int}
theorem k_C_low (h : k_C l o m) (e : ∀ c, c < 81 → m' c = m c) : k_C l o m' := by
  obtain ⟨⟨h1, h2⟩, ⟨h3, h4, h5⟩, h6, h7, h8, h9⟩ := h
  have e0 : m' 0 = m 0 := e 0 (by decide)
  have e28 : m' 28 = m 28 := e 28 (by decide)
  have e29 : m' 29 = m 29 := e 29 (by decide)
  have e54 : m' 54 = m 54 := e 54 (by decide)
  have e74 : m' 74 = m 74 := e 74 (by decide)
  have e75 : m' 75 = m 75 := e 75 (by decide)
  have hy := k_Ly_rg h4
  have ht : m 0 1 = 3 ∨ m 0 1 = 14 := by simpa [q_Lp] using h1
  refine ⟨⟨by rw [e0]; exact h1, ?_⟩, ⟨by rw [e28]; exact h3, by rw [e28, e29]; exact h4, ?_⟩, k_web_fr h6 fun c _ _ => e c (by omega), k_plac_fr h7 fun c _ _ => e c (by omega), by rw [e54, e74]; exact h8, by rw [e0, e75]; exact h9⟩
  · rw [e0]
    refine ⟨fun i => ?_, fun j i j1 j2 => ?_⟩
    · rw [e _ (by omega)]; exact h2.1 i
    · rw [e _ (by omega)]; exact h2.2 j i j1 j2
  · intro i i0 i1
    rw [e28, e29, e _ (by omega)]
    exact h5 i i0 i1
theorem k_M_hi (h : k_M l o m) (e : ∀ c, 81 ≤ c → m' c = m c) : k_M l o m' := by
  obtain ⟨h1, h2, h3, h4⟩ := h
  refine ⟨g_ML_fr h1 fun c c0 _ => e c c0, g_MF_of h2 fun c c0 _ => e c c0, ?_, ?_⟩
  · rw [e 115 (by decide)]; exact h3
  · rw [e 115 (by decide)]; exact h4
theorem j_H_fr (h : j_H m x z L) (e : ∀ c, 28 ≤ c → c ≤ 50 → m' c = m c) : j_H m' x z L := by
  obtain ⟨h1, h2, h3, h4, h5⟩ := h
  have e28 := e 28 (by decide) (by decide)
  have e29 := e 29 (by decide) (by decide)
  refine ⟨by rw [e28]; exact h1, h2, by rw [e29]; exact h3, by rw [e29]; exact h4, fun i j i0 iz j0 j5 => ?_⟩
  have := h3 i i0 (by omega)
  rw [e29, e _ (by omega) (by omega)]
  exact h5 i j i0 iz j0 j5
theorem j_B_fr (h : j_B m F X) (e : ∀ c, c = 51 ∨ c = 52 ∨ c = 79 ∨ c = 80 → m' c = m c) : j_B m' F X := by
  obtain ⟨h1, h2⟩ := h
  refine ⟨by rw [e 51 (by omega)]; exact h1, fun k k0 k1 => ?_⟩
  rw [e 52 (by omega), e (79 + k) (by omega)]
  exact h2 k k0 k1
theorem j_T_fr (h : j_T m n T ft pl) (e : ∀ c, c = 1 ∨ c = 2 ∨ c = 25 ∨ c = 13 ∨ c = 24 → m' c = m c) : j_T m' n T ft pl := by
  unfold j_T at *
  rw [e 1 (by omega), e 2 (by omega), e 25 (by omega), e 13 (by omega), e 24 (by omega)]
  exact h
theorem j_C_low (h : j_C l x z L F X n T ft pl m) (e : ∀ c, c < 81 → m' c = m c) : j_C l x z L F X n T ft pl m' := by
  obtain ⟨h1, h2, h3, h4, h5⟩ := h
  exact ⟨k_C_low h1 e, j_H_fr h2 fun c _ _ => e c (by omega), j_B_fr h3 fun c hc => e c (by omega), by rw [e 0 (by decide)]; exact h4, j_T_fr h5 fun c hc => e c (by omega)⟩
theorem j_HM_fr (h : j_HM m x z L) (e69 : m' 81 69 = m 81 69) (e70 : m' 81 70 = m 81 70) (e : m' 123 = m 123) : j_HM m' x z L := by
  unfold j_HM at *
  rw [e69, e70, e]
  exact h
theorem j_BM_fr (h : j_BM m F X) (e : m' 124 = m 124) (e' : m' 125 = m 125) : j_BM m' F X := by
  unfold j_BM at *
  rw [e, e']
  exact h
theorem j_TM_fr (h : j_TM m n T ft pl) (e21 : m' 81 21 = m 81 21) (e30 : m' 81 30 = m 81 30) (e31 : m' 81 31 = m 81 31) (e : m' 101 = m 101) (e26 : m' 81 26 = m 81 26) : j_TM m' n T ft pl := by
  unfold j_TM at *
  rw [e21, e30, e31, e, e26]
  exact h
theorem j_M_hi (h : j_M l x z L F X n T ft pl m) (e : ∀ c, 81 ≤ c → m' c = m c) : j_M l x z L F X n T ft pl m' := by
  obtain ⟨h1, h2, h3, h4, h5⟩ := h
  have e81 := e 81 (by decide)
  refine ⟨k_M_hi h1 e, j_HM_fr h2 (by rw [e81]) (by rw [e81]) (e 123 (by decide)), j_BM_fr h3 (e 124 (by decide)) (e 125 (by decide)), ?_, j_TM_fr h5 (by rw [e81]) (by rw [e81]) (by rw [e81]) (e 101 (by decide)) (by rw [e81])⟩
  unfold j_W at *
  rw [e 102 (by decide)]
  exact h4
/-- the class's call, then the model's -/
theorem j_op_of {ec em : q_Mem → q_Res} (h : ∀ l x z L F X n T ft pl m, j_ok l x z L F X n T → j_C l x z L F X n T ft pl m → j_M l x z L F X n T ft pl m → ∃ A l' x' z' L' F' X' n' T' ft' pl', j_ok l' x' z' L' F' X' n' T' ∧ q_ok (ec m) (fun r m' => q_w r = A ∧ (∀ c, 81 ≤ c → m' c = m c) ∧ j_C l' x' z' L' F' X' n' T' ft' pl' m') ∧ ∀ m1, j_M l x z L F X n T ft pl m1 → q_ok (em m1) (fun r m' => q_w r = A ∧ (∀ c, c < 81 → m' c = m1 c) ∧ j_M l' x' z' L' F' X' n' T' ft' pl' m')) : j_op ec em := by
  rintro m ⟨l, x, z, L, F, X, n, T, ft, pl, hk, hc, hm⟩
  obtain ⟨A, l', x', z', L', F', X', n', T', ft', pl', hk', ⟨r, m1, e1, a1, f1, c1⟩, hM⟩ := h l x z L F X n T ft pl m hk hc hm
  obtain ⟨r', m2, e2, a2, f2, c2⟩ := hM m1 (j_M_hi hm f1)
  exact ⟨r, r', m1, m2, e1, e2, a1.trans a2.symm, l', x', z', L', F', X', n', T', ft', pl', hk', j_C_low c1 f2, c2⟩
theorem j_now (hk : j_ok l x z L F X n T) : k_ok l (L x) := hk.2.1 x hk.1.1 hk.1.2.1
theorem j_C_fc (h : j_C l x z L F X n T ft pl m) (e : k_fc m m') (hc : k_C l (L x) m') : j_C l x z L F X n T ft pl m' := by
  obtain ⟨h1, h2, h3, h4, h5⟩ := h
  exact ⟨hc, j_H_fr h2 fun c _ _ => e.2 c (by omega) (by omega), j_B_fr h3 fun c hc => e.2 c (by omega) (by omega), by rw [e.1 1 (by decide), e.1 2 (by decide)]; exact h4, j_T_fr h5 fun c hc => e.2 c (by omega) (by omega)⟩
theorem j_M_fm (h : j_M l x z L F X n T ft pl m) (e : k_fm m m') : j_M l x z L F X n T ft pl m' := by
  obtain ⟨h1, h2, h3, h4, h5⟩ := h
  refine ⟨k_M_fr h1 e, j_HM_fr h2 (e.1 69 (by omega)) (e.1 70 (by omega)) (e.2 123 (by decide) (by omega)), j_BM_fr h3 (e.2 124 (by decide) (by omega)) (e.2 125 (by decide) (by omega)), ?_, j_TM_fr h5 (e.1 21 (by omega)) (e.1 30 (by omega)) (e.1 31 (by omega)) (e.2 101 (by decide) (by omega)) (e.1 26 (by omega))⟩
  unfold j_W at *
  rw [e.2 102 (by decide) (by omega)]
  exact h4
/-- every question -/
theorem j_ask {ec em : q_Mem → q_Res} (h : ∀ l o, k_ok l o → k_both l o ec em) : j_op ec em := by
  rintro m ⟨l, x, z, L, F, X, n, T, ft, pl, hk, hc, hm⟩
  have hk' := j_now hk
  obtain ⟨r, _, m1, _, e1, _, _, ⟨f1, c1⟩, _⟩ := h l (L x) hk' m m hc.1 hm.1
  have hm1 := j_M_hi hm fun c hc => f1.2 c (by omega) (by omega)
  obtain ⟨r2, r', m1', m2, e1', e2, ee, _, f2⟩ := h l (L x) hk' m m1 hc.1 hm1.1
  rw [e1] at e1'
  have ee1 : r = r2 := congrArg Prod.fst (Option.some.inj e1')
  refine ⟨r, r', m1, m2, e1, e2, ee1 ▸ ee, l, x, z, L, F, X, n, T, ft, pl, hk, ?_, j_M_fm hm1 f2⟩
  exact j_C_low (j_C_fc hc f1 c1) fun c hc => f2.2 c (by omega) (by omega)
end full
