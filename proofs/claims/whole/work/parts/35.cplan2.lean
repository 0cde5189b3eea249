/-! THE CLASS's PLACEMENT, whole -/
theorem g_cnt_shift {P : Int → Bool} {d n : Nat} (h : ∀ k : Int, 0 ≤ k → k < d → P k = false) : g_cnt P (d + n) = g_cnt (fun k => P (k + d)) n := by
  induction n with
  | zero => exact g_cnt_zero.mpr h
  | succ n ih =>
    show g_cnt P (d + n) + (if P ((d + n : Nat) : Int) = true then 1 else 0) = g_cnt _ n + (if P ((n : Int) + d) = true then 1 else 0)
    rw [ih, show ((d + n : Nat) : Int) = (n : Int) + d by omega]
theorem g_cnt_tail {P : Int → Bool} {n n' : Nat} (hn : n ≤ n') (h : ∀ k : Int, n ≤ k → k < n' → P k = false) : g_cnt P n' = g_cnt P n := by
  induction n' with
  | zero => rw [show n = 0 by omega]
  | succ n' ih =>
    by_cases e : n = n' + 1
    · rw [e]
    · show g_cnt P n' + (if P n' = true then 1 else 0) = g_cnt P n
      rw [ih (by omega) (fun k a b => h k a (by omega)), h n' (by omega) (by omega)]
      simp
section cplan2
variable {m l : q_Mem} {t y P Q a b : Int}
/-- a key, counted from the least -/
theorem k_sk (l : q_Mem) (a b p : Int) : b * (p / 10) - a * (p % 10) - g_ls (l 0 0) (l 0 1) b (-a) = g_tk l b (-a) p ∧ g_key a b p = g_tk l b (-a) p + g_ls (l 0 0) (l 0 1) b (-a) := by
  unfold g_tk g_key
  rw [Int.neg_mul]
  omega
theorem k_lsr (hw : g_lw l) (ha : -3 ≤ a ∧ a ≤ 3) (hb : -3 ≤ b ∧ b ≤ 3) : (-54 ≤ g_ls (l 0 0) (l 0 1) b (-a) ∧ g_ls (l 0 0) (l 0 1) b (-a) ≤ 0) ∧ 1 ≤ g_lat (l 0 0) (l 0 1) b (-a) ∧ g_lat (l 0 0) (l 0 1) b (-a) ≤ 55 := by
  have h1 := hw.1
  have h2 := hw.2.1
  have a1 := x_mul (x := b) (z := l 0 0 - 1) (a := 3) (b := 9) hb.1 hb.2 (by omega) (by omega)
  have a2 := x_mul (x := -a) (z := l 0 1 - 1) (a := 3) (b := 9) (by omega) (by omega) (by omega) (by omega)
  have b1 := x_mulp (x := max b (-b)) (z := l 0 0 - 1) (a := 3) (b := 9) (by omega) (by omega) (by omega) (by omega)
  have b2 := x_mulp (x := max (-a) (- -a)) (z := l 0 1 - 1) (a := 3) (b := 9) (by omega) (by omega) (by omega) (by omega)
  unfold g_ls g_lat
  omega
theorem k_oc_iff (x : Int) : g_oc l a b (x + g_ls (l 0 0) (l 0 1) b (-a)) = true ↔ ∃ p, g_pt l p ∧ g_tk l b (-a) p = x := by
  constructor
  · intro h
    obtain ⟨p, hp, e⟩ := g_oc_ex h
    exact ⟨p, hp, by have := (k_sk l a b p).2; omega⟩
  · intro ⟨p, hp, e⟩
    rw [← e, ← (k_sk l a b p).2]
    exact g_oc_pt hp
theorem k_ce (hw : g_lw l) (ha : -3 ≤ a ∧ a ≤ 3) (hb : -3 ≤ b ∧ b ≤ 3) {p : Int} (hp : g_pt l p) : g_ce l a b p = g_cnt (fun k => g_oc l a b (k + g_ls (l 0 0) (l 0 1) b (-a))) (g_tk l b (-a) p).toNat := by
  have hr := k_lsr hw ha hb
  have hk := (k_sk l a b p).2
  have ht := g_tk_rg hw b (-a) hp
  unfold g_ce
  rw [show (g_key a b p + 64).toNat = (g_ls (l 0 0) (l 0 1) b (-a) + 64).toNat + (g_tk l b (-a) p).toNat by omega, g_cnt_shift (fun k k0 k1 => ?_)]
  · refine g_cnt_congr (fun k _ _ => ?_)
    rw [show k + ((g_ls (l 0 0) (l 0 1) b (-a) + 64).toNat : Int) - 64 = k + g_ls (l 0 0) (l 0 1) b (-a) by omega]
  · cases ho : g_oc l a b (k - 64) with
    | false => rfl
    | true =>
      obtain ⟨q, hq, e⟩ := g_oc_ex ho
      have := (k_sk l a b q).2
      have := (g_tk_rg hw b (-a) hq).1
      omega
theorem k_cc (hw : g_lw l) (ha : -3 ≤ a ∧ a ≤ 3) (hb : -3 ≤ b ∧ b ≤ 3) : g_cc l a b = g_cnt (fun k => g_oc l a b (k + g_ls (l 0 0) (l 0 1) b (-a))) 55 := by
  have hr := k_lsr hw ha hb
  unfold g_cc
  rw [show 128 = (g_ls (l 0 0) (l 0 1) b (-a) + 64).toNat + (64 - g_ls (l 0 0) (l 0 1) b (-a)).toNat by omega, g_cnt_shift (fun k k0 k1 => ?_)]
  · rw [g_cnt_tail (n := 55) (by omega) (fun k k0 k1 => ?_)]
    · refine g_cnt_congr (fun k _ _ => ?_)
      rw [show k + ((g_ls (l 0 0) (l 0 1) b (-a) + 64).toNat : Int) - 64 = k + g_ls (l 0 0) (l 0 1) b (-a) by omega]
    · rw [show k + ((g_ls (l 0 0) (l 0 1) b (-a) + 64).toNat : Int) - 64 = k + g_ls (l 0 0) (l 0 1) b (-a) by omega]
      cases ho : g_oc l a b (k + g_ls (l 0 0) (l 0 1) b (-a)) with
      | false => rfl
      | true =>
        obtain ⟨q, hq, e⟩ := (k_oc_iff k).mp ho
        have := (g_tk_rg hw b (-a) hq).2
        omega
  · cases ho : g_oc l a b (k - 64) with
    | false => rfl
    | true =>
      obtain ⟨q, hq, e⟩ := g_oc_ex ho
      have := (k_sk l a b q).2
      have := (g_tk_rg hw b (-a) hq).1
      omega
theorem c_setCells (ht : t ∈ q_Lp) (hl : g_CL m t l) (hw : g_lw l) (hy : y ∈ q_Ly) (e2 : m y 2 = a) (e3 : m y 3 = b) (ha : -3 ≤ a ∧ a ≤ 3) (hb : -3 ≤ b ∧ b ≤ 3) (h8 : m 60 8 = l 0 0 * l 0 1) :
    q_ok (f_Plac_setCells t y m) (fun _ m' => (∀ c, c ≠ 60 → c ≠ 62 → c ≠ 67 → m' c = m c) ∧ (∀ j, j ≠ 10 → m' 60 j = m 60 j) ∧ (∀ p, g_pt l p → m' 62 p = g_ce l a b p) ∧ m' 60 10 = g_cc l a b) := by
  have hRC := g_RC hw
  have h1 := hw.1
  have h2 := hw.2.1
  have hyy := k_ly hy
  have hr := k_lsr hw ha hb
  have a1 := x_mul (x := b) (z := l 0 0 - 1) (a := 3) (b := 9) hb.1 hb.2 (by omega) (by omega)
  have a2 := x_mul (x := -a) (z := l 0 1 - 1) (a := 3) (b := 9) (by omega) (by omega) (by omega) (by omega)
  unfold f_Plac_setCells
  rw [x_fi, e2, e3, hl.1, hl.1, x_min (by omega) (by omega) (by omega) (by omega), x_min (by omega) (by omega) (by omega) (by omega)]
  have els : min 0 (b * (l 0 0 - 1)) + min 0 (-a * (l 0 1 - 1)) = g_ls (l 0 0) (l 0 1) b (-a) := rfl
  rw [els]
  refine o_upF (fun n k (s : q_Mem) => f_Plac_setCells_l44 n t y (g_ls (l 0 0) (l 0 1) b (-a)) k s) (fun k s => 0 ≤ k ∧ (∀ c, c ≠ 62 → c ≠ 67 → s c = m c) ∧ (∀ p, g_pt l p → k_idx l p < k → s 62 p = g_tk l b (-a) p) ∧ ∀ x, 0 ≤ x → x < 55 → (s 67 x = -1 ∨ s 67 x = 0) ∧ (s 67 x = 0 ↔ ∃ p, g_pt l p ∧ k_idx l p < k ∧ g_tk l b (-a) p = x)) _ (k := 0) (e := l 0 0 * l 0 1) (by omega) (by omega) ⟨by omega, fun c _ c2 => q_fill_f c2, fun p hp hk => by have := (k_idx_pt hw hp).1; omega, fun x x0 x1 => by rw [q_fill_in x0 x1]; exact ⟨Or.inl rfl, fun e => by omega, fun ⟨p, hp, hk, _⟩ => by have := (k_idx_pt hw hp).1; omega⟩⟩ ?_ ?_
  · intro n k s hk ⟨h0, hf, htk, hx⟩ hn
    show q_ok (f_Plac_setCells_b44 (f_Plac_setCells_l44 n) t y (g_ls (l 0 0) (l 0 1) b (-a)) k s) _
    unfold f_Plac_setCells_b44
    have hl' : g_CL s t l := g_CL_of2 ht hl (fun c hc => hf c (by omega) (by omega))
    obtain ⟨hpt, hidx⟩ := k_at_pt hw h0 hk
    rw [hf 60 (by decide) (by decide), h8, q_w_id (x := k) (by omega) (by omega), q_w_id (x := l 0 0 * l 0 1) (by omega) (by omega), if_neg (by omega), c_pointAt hl' hw ⟨h0, by omega⟩, x_bd, hf y (by omega) (by omega), e2, e3]
    generalize hpd : k / l 0 1 * 10 + k % l 0 1 = p at hpt hidx
    have hp1 := hpt.1
    have hrg := g_tk_rg hw b (-a) hpt
    have other : ∀ q, g_pt l q → q ≠ p → (k_idx l q < k + 1 ↔ k_idx l q < k) := by
      intro q hq e
      have : k_idx l q ≠ k := fun e2 => e (by
        have aa := (k_idx_pt hw hq).2
        rw [e2] at aa
        exact aa.symm.trans hpd)
      omega
    rw [x_dv hp1.1 (by omega) (by omega) (by omega), x_md hp1.1 (by omega) (by omega) (by omega), (k_sk l a b p).1, x_wr (n := 100) hp1.1 hp1.2 (by decide), x_rd (n := 100) hp1.1 hp1.2 (by decide), q_up_s, x_wr (n := 55) hrg.1 (by show g_tk l b (-a) p < 55; omega) (by decide)]
    refine hn (q_up (q_up s 62 p (g_tk l b (-a) p)) 67 (g_tk l b (-a) p) 0) ⟨by omega, fun c c1 c2 => ?_, fun q hq hqk => ?_, fun x x0 x1 => ?_⟩
    · rw [q_up_f c2, q_up_f c1]; exact hf c c1 c2
    · rw [q_up_f (by decide)]
      by_cases e : q = p
      · rw [e, q_up_s]
      · rw [q_up_i e]; exact htk q hq ((other q hq e).mp hqk)
    · by_cases e : x = g_tk l b (-a) p
      · rw [e, q_up_s]
        exact ⟨Or.inr rfl, fun _ => ⟨p, hpt, by omega, rfl⟩, fun _ => rfl⟩
      · rw [q_up_i e, q_up_f (by decide)]
        refine ⟨(hx x x0 x1).1, fun e0 => ?_, fun ⟨q, hq, hqk, he⟩ => (hx x x0 x1).2.mpr ⟨q, hq, ?_, he⟩⟩
        · obtain ⟨q, hq, hqk, he⟩ := (hx x x0 x1).2.mp e0
          exact ⟨q, hq, by omega, he⟩
        · have : q ≠ p := fun e2 => by rw [e2] at he; exact e he.symm
          exact (other q hq this).mp hqk
  intro n s ⟨_, hf, htk, hx⟩
  show q_ok (f_Plac_setCells_b44 (f_Plac_setCells_l44 n) t y (g_ls (l 0 0) (l 0 1) b (-a)) (l 0 0 * l 0 1) s) _
  unfold f_Plac_setCells_b44
  rw [hf 60 (by decide) (by decide), h8, if_pos (Int.le_refl _), x_pf]
  have hoc : ∀ x, 0 ≤ x → x < 55 → (g_oc l a b (x + g_ls (l 0 0) (l 0 1) b (-a)) = true ↔ s 67 x = 0) := by
    intro x x0 x1
    rw [k_oc_iff, (hx x x0 x1).2]
    exact ⟨fun ⟨p, hp, e⟩ => ⟨p, hp, (k_idx_pt hw hp).1.2, e⟩, fun ⟨p, hp, _, e⟩ => ⟨p, hp, e⟩⟩
  refine o_upF (fun n k (s' : q_Mem) => f_Plac_setCells_l118 n t k s') (fun k s' => 0 ≤ k ∧ (∀ c, c ≠ 60 → c ≠ 67 → s' c = s c) ∧ (∀ j, j ≠ 10 → s' 60 j = m 60 j) ∧ s' 60 10 = g_cnt (fun k => g_oc l a b (k + g_ls (l 0 0) (l 0 1) b (-a))) k.toNat ∧ (∀ x, k ≤ x → x < 55 → s' 67 x = s 67 x) ∧ ∀ x, 0 ≤ x → x < k → g_oc l a b (x + g_ls (l 0 0) (l 0 1) b (-a)) = true → s' 67 x = g_cnt (fun k => g_oc l a b (k + g_ls (l 0 0) (l 0 1) b (-a))) x.toNat) _ (k := 0) (e := 55) (s := q_up s 60 10 0) (by omega) (by omega) ⟨by omega, fun c c1 _ => q_up_f c1, fun j hj => by rw [q_up_i hj, hf 60 (by decide) (by decide)], q_up_s _ _ _ _, fun x x0 x1 => by rw [q_up_f (by decide)], fun x x0 x1 => by omega⟩ ?_ ?_
  · intro n k s' hk ⟨h0, hf', hg', h10, hge, hlt⟩ hn
    show q_ok (f_Plac_setCells_b118 (f_Plac_setCells_l118 n) t k s') _
    unfold f_Plac_setCells_b118 f_Plac_setCells_b157
    have hs := hge k (by omega) hk
    have hs2 := (hx k h0 hk).1
    have hcn := g_cnt_rg (fun k => g_oc l a b (k + g_ls (l 0 0) (l 0 1) b (-a))) k.toNat
    have hstep := g_cnt_s (fun k => g_oc l a b (k + g_ls (l 0 0) (l 0 1) b (-a))) h0
    simp (disch := omega) only [x_bd, x_rt, x_pf, x_lt, x_fi, x_rz0, x_rz1, x_rzi, x_pz0, x_pz1, x_rd, x_wr, x_wrz, x_dv, x_md, q_w_id, x_wi, x_i0, x_i1, x_max, x_min, x_abs, ↓reduceIte, Int.reduceEq, Int.reduceLT, Int.reduceLE, Int.reduceNeg, if_true, if_false, hs]
    rw [if_neg (by omega)]
    by_cases c : s 67 k = 0
    · rw [if_neg (by omega), q_up_f (m := s') (c := 67) (c' := 60) (by decide), h10]
      rw [if_pos ((hoc k h0 hk).mpr c)] at hstep
      refine hn (q_up (q_up s' 67 k _) 60 10 _) ⟨by omega, fun c c1 c2 => ?_, fun j hj => ?_, ?_, fun x x0 x1 => ?_, fun x x0 x1 ho => ?_⟩
      · rw [q_up_f c1, q_up_f c2]; exact hf' c c1 c2
      · rw [q_up_i hj, q_up_f (by decide)]; exact hg' j hj
      · rw [q_up_s]; exact hstep.symm
      · rw [q_up_f (by decide), q_up_i (by omega)]; exact hge x (by omega) x1
      · rw [q_up_f (by decide)]
        by_cases e : x = k
        · rw [e, q_up_s]
        · rw [q_up_i e]; exact hlt x x0 (by omega) ho
    · rw [if_pos (by omega)]
      have hno : ¬ g_oc l a b (k + g_ls (l 0 0) (l 0 1) b (-a)) = true := fun ho => c ((hoc k h0 hk).mp ho)
      rw [if_neg hno] at hstep
      refine hn s' ⟨by omega, hf', hg', by rw [h10, hstep]; omega, fun x x0 x1 => hge x (by omega) x1, fun x x0 x1 ho => ?_⟩
      by_cases e : x = k
      · rw [e] at ho; exact absurd ho hno
      · exact hlt x x0 (by omega) ho
  intro n s' ⟨_, hf', hg', h10, _, hlt⟩
  show q_ok (f_Plac_setCells_b118 (f_Plac_setCells_l118 n) t 55 s') _
  unfold f_Plac_setCells_b118
  rw [q_wlit rfl, if_pos (by decide)]
  refine o_upF (fun n k (s'' : q_Mem) => f_Plac_setCells_l166 n t k s'') (fun k s'' => 0 ≤ k ∧ (∀ c, c ≠ 62 → s'' c = s' c) ∧ (∀ p, g_pt l p → k_idx l p < k → s'' 62 p = g_ce l a b p) ∧ ∀ p, g_pt l p → k ≤ k_idx l p → s'' 62 p = g_tk l b (-a) p) _ (k := 0) (e := l 0 0 * l 0 1) (s := s') (by omega) (by omega) ⟨by omega, fun _ _ => rfl, fun p hp hk => by have := (k_idx_pt hw hp).1; omega, fun p hp _ => by rw [hf' 62 (by decide) (by decide)]; exact htk p hp (k_idx_pt hw hp).1.2⟩ ?_ ?_
  · intro n k s'' hk ⟨h0, hf2, hlo, hhi⟩ hn
    show q_ok (f_Plac_setCells_b166 (f_Plac_setCells_l166 n) t k s'') _
    unfold f_Plac_setCells_b166
    have hl' : g_CL s'' t l := g_CL_of2 ht hl (fun c hc => by rw [hf2 c (by omega), hf' c (by omega) (by omega)]; exact hf c (by omega) (by omega))
    obtain ⟨hpt, hidx⟩ := k_at_pt hw h0 hk
    rw [hf2 60 (by decide), hg' 8 (by decide), h8, q_w_id (x := k) (by omega) (by omega), q_w_id (x := l 0 0 * l 0 1) (by omega) (by omega), if_neg (by omega), c_pointAt hl' hw ⟨h0, by omega⟩, x_bd]
    generalize hpd : k / l 0 1 * 10 + k % l 0 1 = p at hpt hidx
    have hp1 := hpt.1
    have hrg := g_tk_rg hw b (-a) hpt
    have other : ∀ q, g_pt l q → q ≠ p → k_idx l q ≠ k := by
      intro q hq e e2
      have aa := (k_idx_pt hw hq).2
      rw [e2] at aa
      exact e (aa.symm.trans hpd)
    rw [x_rd (n := 100) hp1.1 hp1.2 (by decide), hhi p hpt (by omega), x_rd (n := 55) hrg.1 (by show g_tk l b (-a) p < 55; omega) (by decide), x_wr (n := 100) hp1.1 hp1.2 (by decide), hf2 67 (by decide), hlt _ hrg.1 (by omega) ((k_oc_iff _).mpr ⟨p, hpt, rfl⟩), ← k_ce hw ha hb hpt]
    refine hn (q_up s'' 62 p (g_ce l a b p)) ⟨by omega, fun c hc => by rw [q_up_f hc]; exact hf2 c hc, fun q hq hqk => ?_, fun q hq hqk => ?_⟩
    · by_cases e : q = p
      · rw [e, q_up_s]
      · rw [q_up_i e]; exact hlo q hq (by have := other q hq e; omega)
    · have : q ≠ p := fun e => by rw [e] at hqk; omega
      rw [q_up_i this]; exact hhi q hq (by omega)
  · intro n s'' ⟨_, hf2, hlo, _⟩
    show q_ok (f_Plac_setCells_b166 (f_Plac_setCells_l166 n) t (l 0 0 * l 0 1) s'') _
    unfold f_Plac_setCells_b166
    rw [hf2 60 (by decide), hg' 8 (by decide), h8, if_pos (Int.le_refl _)]
    refine o_rt ⟨fun c c1 c2 c3 => by rw [hf2 c c2, hf' c c1 c3]; exact hf c c2 c3, fun j hj => by rw [hf2 60 (by decide)]; exact hg' j hj, fun p hp => hlo p hp (k_idx_pt hw hp).1.2, ?_⟩
    rw [hf2 60 (by decide), h10, k_cc hw ha hb]
    rfl
theorem c_setClashes (ht : t ∈ q_Lp) (hl : g_CL m t l) (hw : g_lw l) (hy : y ∈ q_Ly) (e2 : m y 2 = a) (e3 : m y 3 = b) (hab : g_line a b) (h8 : m 60 8 = l 0 0 * l 0 1) (h11 : m 60 11 = max (P * a + Q * b) (-(P * a + Q * b))) (hP : -9 ≤ P ∧ P ≤ 9) (hQ : -9 ≤ Q ∧ Q ≤ 9) :
    q_ok (f_Plac_setClashes t y m) (fun _ m' => (∀ c, c ≠ 63 → m' c = m c) ∧ ∀ p, g_pt l p → m' 63 p = if g_ck l P Q a b p = true then 1 else 0) := by
  have hRC := g_RC hw
  have ha := hab.1
  have hb := hab.2.1
  have q1 := x_mul (x := P) (z := a) (a := 9) (b := 3) hP.1 hP.2 ha.1 ha.2
  have q2 := x_mul (x := Q) (z := b) (a := 9) (b := 3) hQ.1 hQ.2 hb.1 hb.2
  have main : ∀ sa sb, sa = (if g_on a b then -a else a) → sb = (if g_on a b then -b else b) → q_ok (f_Plac_setClashes_l66 q_F t sa sb 0 m) (fun _ m' => (∀ c, c ≠ 63 → m' c = m c) ∧ ∀ p, g_pt l p → m' 63 p = if g_ck l P Q a b p = true then 1 else 0) := by
    intro sa sb hsa hsb
    have rsa : -9 ≤ sa ∧ sa ≤ 9 := by rw [hsa]; split <;> omega
    have rsb : -9 ≤ sb ∧ sb ≤ 9 := by rw [hsb]; split <;> omega
    refine o_upF (fun n k (s : q_Mem) => f_Plac_setClashes_l66 n t sa sb k s) (fun k s => 0 ≤ k ∧ (∀ c, c ≠ 63 → s c = m c) ∧ ∀ p, g_pt l p → k_idx l p < k → s 63 p = if g_ck l P Q a b p = true then 1 else 0) _ (k := 0) (e := l 0 0 * l 0 1) (s := m) (by omega) (by omega) ⟨by omega, fun _ _ => rfl, fun p hp hk => by have := (k_idx_pt hw hp).1; omega⟩ ?_ ?_
    · intro n k s hk ⟨h0, hf, hc⟩ hn
      show q_ok (f_Plac_setClashes_b66 (f_Plac_setClashes_l66 n) t sa sb k s) _
      unfold f_Plac_setClashes_b66 f_Plac_setClashes_b114 f_Plac_setClashes_b115
      have hl' : g_CL s t l := g_CL_of2 ht hl (fun c hc => hf c (by omega))
      obtain ⟨hpt, hidx⟩ := k_at_pt hw h0 hk
      rw [hf 60 (by decide), h8, q_w_id (x := k) (by omega) (by omega), q_w_id (x := l 0 0 * l 0 1) (by omega) (by omega), if_neg (by omega), c_pointAt hl' hw ⟨h0, by omega⟩, x_bd, hf 60 (by decide), h11, q_w_id (x := max (P * a + Q * b) (-(P * a + Q * b))) (by omega) (by omega)]
      generalize hpd : k / l 0 1 * 10 + k % l 0 1 = p at hpt hidx
      have hp1 := hpt.1
      have hpv : g_pv l a b p = g_mv (l 0 0) (l 0 1) p sa sb := by rw [hsa, hsb]; rfl
      have hrg : -1 ≤ g_pv l a b p ∧ g_pv l a b p < 100 := g_mv_rg _ _ _ _ _ hw.1.2 hw.2.1.2
      have next : ∀ v, v = (if g_ck l P Q a b p = true then (1 : Int) else 0) → q_ok (q_wrz s 63 100 p v fun m1 => f_Plac_setClashes_l66 n t sa sb (k + 1) m1) (fun _ m' => (∀ c, c ≠ 63 → m' c = m c) ∧ ∀ p, g_pt l p → m' 63 p = if g_ck l P Q a b p = true then 1 else 0) := by
        intro v hv
        rw [x_wrz (n := 100) hp1.1 hp1.2 (by decide) (by rw [hv]; split <;> omega)]
        refine hn (q_up s 63 p v) ⟨by omega, fun c hc => by rw [q_up_f hc]; exact hf c hc, fun q hq hqk => ?_⟩
        by_cases e : q = p
        · rw [e, q_up_s, hv]
        · rw [q_up_i e]
          have : k_idx l q ≠ k := fun e2 => e (by
            have aa := (k_idx_pt hw hq).2
            rw [e2] at aa
            exact aa.symm.trans hpd)
          exact hc q hq (by omega)
      by_cases c0 : P * a + Q * b = 0
      · rw [if_pos (by omega), c_moved' hl' hw hp1 rsa rsb, x_bd, ← hpv, q_w_id (x := g_pv l a b p) (by omega) (by omega)]
        by_cases cv : g_pv l a b p = -1
        · rw [if_pos cv]
          exact next 0 (by rw [if_neg]; unfold g_ck; simp [cv])
        · rw [if_neg cv]
          exact next 1 (by rw [if_pos]; unfold g_ck; simp [cv, c0])
      · rw [if_neg (by omega)]
        exact next 0 (by rw [if_neg]; unfold g_ck; simp [c0])
    · intro n s ⟨_, hf, hc⟩
      show q_ok (f_Plac_setClashes_b66 (f_Plac_setClashes_l66 n) t sa sb (l 0 0 * l 0 1) s) _
      unfold f_Plac_setClashes_b66
      rw [hf 60 (by decide), h8, if_pos (Int.le_refl _)]
      exact o_rt ⟨hf, fun p hp => hc p hp (k_idx_pt hw hp).1.2⟩
  unfold f_Plac_setClashes f_Plac_setClashes_b21 f_Plac_setClashes_b25 f_Plac_setClashes_b26 f_Plac_setClashes_b43 f_Plac_setClashes_b61
  simp only [x_w0, x_w1, e2, e3]
  rw [q_w_id (x := a) (by omega) (by omega), q_w_id (x := b) (by omega) (by omega)]
  have on : g_on a b → q_ok (f_Plac_setClashes_l66 q_F t (-a) (-b) 0 m) (fun _ m' => (∀ c, c ≠ 63 → m' c = m c) ∧ ∀ p, g_pt l p → m' 63 p = if g_ck l P Q a b p = true then 1 else 0) := fun c => main _ _ (by rw [if_pos c]) (by rw [if_pos c])
  have off : ¬ g_on a b → q_ok (f_Plac_setClashes_l66 q_F t a b 0 m) (fun _ m' => (∀ c, c ≠ 63 → m' c = m c) ∧ ∀ p, g_pt l p → m' 63 p = if g_ck l P Q a b p = true then 1 else 0) := fun c => main _ _ (by rw [if_neg c]) (by rw [if_neg c])
  simp only [if_true, Int.reduceEq, if_false]
  by_cases c1 : 0 < a
  · rw [if_pos c1]; exact on (Or.inl c1)
  · rw [if_neg c1]
    by_cases c2 : a = 0
    · rw [if_pos c2]
      by_cases c3 : b ≤ 0
      · rw [if_pos c3]; exact off (fun h => by rcases h with h | h <;> omega)
      · rw [if_neg c3]; exact on (Or.inr ⟨c2, by omega⟩)
    · rw [if_neg c2]; exact off (fun h => by rcases h with h | h <;> omega)
/-- what the class's placement is, by a schedule and a line -/
def k_plac (l m : q_Mem) (P Q a b : Int) : Prop := (∀ p, g_pt l p → m 61 p = g_tk l P Q p) ∧ (∀ p, g_pt l p → m 62 p = g_ce l a b p) ∧ (∀ p, g_pt l p → m 63 p = if g_ck l P Q a b p = true then 1 else 0) ∧ k_ord l (g_tk l P Q) (m 64) ∧ (∀ x, 0 ≤ x → x < 163 → m 65 x = g_ca l (fun q => g_tk l P Q q == x)) ∧ m 60 8 = l 0 0 * l 0 1 ∧ m 60 9 = g_lat (l 0 0) (l 0 1) P Q ∧ m 60 10 = l 0 0 * l 0 1 - g_sh (l 0 0) (l 0 1) a b ∧ m 60 11 = max (P * a + Q * b) (-(P * a + Q * b))
theorem c_place (ht : t ∈ q_Lp) (hl : g_CL m t l) (hw : g_lw l) (hy : y ∈ q_Ly) (e0 : m y 0 = P) (e1 : m y 1 = Q) (e2 : m y 2 = a) (e3 : m y 3 = b) (hab : g_line a b) (hP : -9 ≤ P ∧ P ≤ 9) (hQ : -9 ≤ Q ∧ Q ≤ 9) :
    q_ok (f_Plac_place t y m) (fun _ m' => (∀ c, c < 60 ∨ 68 < c → m' c = m c) ∧ k_plac l m' P Q a b) := by
  have hyy := k_ly hy
  have ha := hab.1
  have hb := hab.2.1
  have q1 := x_mul (x := P) (z := a) (a := 9) (b := 3) hP.1 hP.2 ha.1 ha.2
  have q2 := x_mul (x := Q) (z := b) (a := 9) (b := 3) hQ.1 hQ.2 hb.1 hb.2
  unfold f_Plac_place
  rw [c_points hl, x_bd, x_pf]
  have f3 : ∀ c, c ≠ 60 → q_up m 60 8 (l 0 0 * l 0 1) c = m c := fun c hc => q_up_f hc
  have l3 := g_CL_of2 ht hl (m' := q_up m 60 8 (l 0 0 * l 0 1)) (fun c hc => f3 c (by omega))
  rw [f3 y (by omega), e0, e1, c_latency l3 hP hQ, x_bd, x_pf]
  have f6 : ∀ c, c ≠ 60 → q_up (q_up m 60 8 (l 0 0 * l 0 1)) 60 9 (g_lat (l 0 0) (l 0 1) P Q) c = m c := fun c hc => by rw [q_up_f hc]; exact f3 c hc
  rw [f6 y (by omega), e0, e1, e2, e3, x_abs (by omega) (by omega), x_pf]
  generalize hm7 : q_up (q_up (q_up m 60 8 (l 0 0 * l 0 1)) 60 9 (g_lat (l 0 0) (l 0 1) P Q)) 60 11 (max (P * a + Q * b) (-(P * a + Q * b))) = m7
  have f7 : ∀ c, c ≠ 60 → m7 c = m c := fun c hc => by rw [← hm7, q_up_f hc]; exact f6 c hc
  have g8 : m7 60 8 = l 0 0 * l 0 1 := by rw [← hm7, q_up_i (by decide), q_up_i (by decide), q_up_s]
  have g9 : m7 60 9 = g_lat (l 0 0) (l 0 1) P Q := by rw [← hm7, q_up_i (by decide), q_up_s]
  have g11 : m7 60 11 = max (P * a + Q * b) (-(P * a + Q * b)) := by rw [← hm7, q_up_s]
  have l7 : g_CL m7 t l := g_CL_of2 ht hl (fun c hc => f7 c (by omega))
  refine o_bd (c_setTicks ht l7 hw hy (by rw [f7 y (by omega)]; exact e0) (by rw [f7 y (by omega)]; exact e1) hP hQ g8) (fun _ m8 ⟨a1, a2, a3⟩ => ?_)
  have l8 : g_CL m8 t l := g_CL_of2 ht l7 (fun c hc => a1 c (by omega) (by omega))
  refine o_bd (c_sortByTick ht l8 hw hP hQ (by rw [a1 60 (by decide) (by decide)]; exact g8) (by rw [a1 60 (by decide) (by decide)]; exact g9) a2 a3) (fun _ m9 ⟨b1, b2⟩ => ?_)
  have l9 : g_CL m9 t l := g_CL_of2 ht l8 (fun c hc => b1 c (by omega) (by omega))
  have k9 : ∀ c, c ≠ 60 → c ≠ 61 → c ≠ 64 → c ≠ 65 → c ≠ 66 → m9 c = m c := fun c x1 x2 x3 x4 x5 => by rw [b1 c x3 x5, a1 c x2 x4]; exact f7 c x1
  have j9 : m9 60 = m7 60 := by rw [b1 60 (by decide) (by decide), a1 60 (by decide) (by decide)]
  refine o_bd (c_setCells ht l9 hw hy (by rw [k9 y (by omega) (by omega) (by omega) (by omega) (by omega)]; exact e2) (by rw [k9 y (by omega) (by omega) (by omega) (by omega) (by omega)]; exact e3) ha hb (by rw [j9]; exact g8)) (fun _ m10 ⟨c1, c2, c3, c4⟩ => ?_)
  have l10 : g_CL m10 t l := g_CL_of2 ht l9 (fun c hc => c1 c (by omega) (by omega) (by omega))
  have ky : m10 y = m y := by rw [c1 y (by omega) (by omega) (by omega)]; exact k9 y (by omega) (by omega) (by omega) (by omega) (by omega)
  refine o_bd (c_setClashes (P := P) (Q := Q) ht l10 hw hy (by rw [ky]; exact e2) (by rw [ky]; exact e3) hab (by rw [c2 8 (by decide), j9]; exact g8) (by rw [c2 11 (by decide), j9]; exact g11) hP hQ) (fun _ m11 ⟨d1, d2⟩ => ?_)
  refine o_rt ⟨fun c hc => ?_, fun p hp => ?_, fun p hp => ?_, d2, ?_, fun x x0 x1 => ?_, ?_, ?_, ?_, ?_⟩
  · rw [d1 c (by omega), c1 c (by omega) (by omega) (by omega)]; exact k9 c (by omega) (by omega) (by omega) (by omega) (by omega)
  · rw [d1 61 (by decide), c1 61 (by decide) (by decide) (by decide), b1 61 (by decide) (by decide)]; exact a2 p hp
  · rw [d1 62 (by decide)]; exact c3 p hp
  · rw [d1 64 (by decide), c1 64 (by decide) (by decide) (by decide)]; exact b2
  · rw [d1 65 (by decide), c1 65 (by decide) (by decide) (by decide), b1 65 (by decide) (by decide)]; exact a3 x x0 x1
  · rw [d1 60 (by decide), c2 8 (by decide), j9]; exact g8
  · rw [d1 60 (by decide), c2 9 (by decide), j9]; exact g9
  · rw [d1 60 (by decide), c4]; exact g_cc_eq hw hab
  · rw [d1 60 (by decide), c2 11 (by decide), j9]; exact g11
end cplan2
