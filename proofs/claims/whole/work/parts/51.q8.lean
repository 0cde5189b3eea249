/-! SUMS; QUESTION: flow -/
theorem o_sum (g : Nat → Int → Int → q_Res) (F : Int → Int) (N : Nat) (hN : N < 20000) {y : q_Res} (hs : ∀ (n : Nat) (a k : Int), 0 ≤ k → k < N → g (n + 1) a k = g n (a + F k) (k + 1)) (hx : ∀ n, g (n + 1) (g_sum F N) N = y) : g q_F 0 0 = y := by
  have main : ∀ (d k n : Nat), k + d = N → g (n + d + 1) (g_sum F k) k = y := by
    intro d
    induction d with
    | zero =>
      intro k n hk
      have : k = N := by omega
      subst this
      exact hx n
    | succ d ih =>
      intro k n hk
      rw [show n + (d + 1) + 1 = (n + d + 1) + 1 by omega, hs (n + d + 1) _ k (by omega) (by omega)]
      have := ih (k + 1) n (by omega)
      exact this
  have := main N 0 (20000 - (N + 1)) (by omega)
  rw [show 20000 - (N + 1) + N + 1 = q_F by show _ = 20000; omega] at this
  exact this
theorem g_sum_q (F : Int → Int) {q : Int} : ∀ n : Nat, g_sum (fun p => if p = q then F p else 0) n = if 0 ≤ q ∧ q < n then F q else 0 := by
  intro n
  induction n with
  | zero => rw [if_neg (by omega)]; rfl
  | succ n ih =>
    show g_sum (fun p => if p = q then F p else 0) n + (if (n : Int) = q then F n else 0) = _
    rw [ih]
    by_cases c : (n : Int) = q
    · rw [if_pos c, if_neg (show ¬ (0 ≤ q ∧ q < (n : Int)) by omega), if_pos (show 0 ≤ q ∧ q < ((n + 1 : Nat) : Int) by omega), c]; omega
    · rw [if_neg c]
      by_cases c2 : 0 ≤ q ∧ q < n
      · rw [if_pos c2, if_pos (show 0 ≤ q ∧ q < ((n + 1 : Nat) : Int) by omega)]; omega
      · rw [if_neg c2, if_neg (show ¬ (0 ≤ q ∧ q < ((n + 1 : Nat) : Int)) by omega)]; rfl
theorem g_sum_0 : ∀ n : Nat, g_sum (fun _ => 0) n = 0 := by
  intro n
  induction n with
  | zero => rfl
  | succ n ih => show g_sum (fun _ => 0) n + 0 = 0; rw [ih]; rfl
theorem g_sum_enum {ord F : Int → Int} {M : Nat} : ∀ n : Nat, (∀ i : Int, 0 ≤ i → i < n → 0 ≤ ord i ∧ ord i < M) → (∀ i j : Int, 0 ≤ i → i < j → j < n → ord i ≠ ord j) → g_sum (fun i => F (ord i)) n = g_sum (fun p => if f_am ord n p = true then F p else 0) M := by
  intro n
  induction n with
  | zero =>
    intro _ _
    exact (g_sum_0 M).symm
  | succ n ih =>
    intro h1 h2
    show g_sum (fun i => F (ord i)) n + F (ord n) = _
    rw [ih (fun i i0 i1 => h1 i i0 (by omega)) (fun i j i0 ij jn => h2 i j i0 ij (by omega))]
    have hp := h1 n (by omega) (by omega)
    have e1 := g_sum_q F (q := ord n) M
    rw [if_pos hp] at e1
    rw [← e1, ← g_sum_add]
    refine g_sum_congr fun p p0 p1 => ?_
    by_cases c : p = ord n
    · have a1 : f_am ord (n + 1) p = true := f_am_iff.mpr ⟨n, by omega, by omega, c.symm⟩
      have a2 : ¬ f_am ord n p = true := by
        intro h
        obtain ⟨i, i0, i1, e⟩ := f_am_iff.mp h
        exact h2 i n i0 i1 (by omega) (e.trans c)
      rw [if_pos a1, if_neg a2, if_pos c]; omega
    · rw [if_neg c]
      by_cases a : f_am ord n p = true
      · obtain ⟨i, i0, i1, e⟩ := f_am_iff.mp a
        rw [if_pos a, if_pos (f_am_iff.mpr ⟨i, i0, by omega, e⟩)]; omega
      · have a1 : ¬ f_am ord (n + 1) p = true := by
          intro h
          obtain ⟨i, i0, i1, e⟩ := f_am_iff.mp h
          by_cases ci : i = n
          · rw [ci] at e; exact c e.symm
          · exact a (f_am_iff.mpr ⟨i, i0, by omega, e⟩)
        rw [if_neg a, if_neg a1]; rfl
/-- a sum over all points -/
def g_sa (l : q_Mem) (F : Int → Int) : Int := g_sum (fun p => if g_th (l 0 0) (l 0 1) p then F p else 0) 100
theorem g_sa_congr {l : q_Mem} {F G : Int → Int} (h : ∀ p, g_pt l p → F p = G p) : g_sa l F = g_sa l G := by
  refine g_sum_congr fun p p0 p1 => ?_
  by_cases c : g_th (l 0 0) (l 0 1) p
  · rw [if_pos c, if_pos c]; exact h p ⟨⟨p0, p1⟩, c⟩
  · rw [if_neg c, if_neg c]
theorem g_sa_at {l : q_Mem} (hg : g_lw l) (F : Int → Int) : g_sum (fun k => F (k / l 0 1 * 10 + k % l 0 1)) (l 0 0 * l 0 1).toNat = g_sa l F := by
  have hRC := g_RC hg
  rw [g_sum_enum (ord := fun k => k / l 0 1 * 10 + k % l 0 1) (M := 100) _ (fun i i0 i1 => (k_at_pt hg i0 (by omega)).1.1) (fun i j i0 ij jn e => by
    have a1 := (k_at_pt hg i0 (show i < l 0 0 * l 0 1 by omega)).2
    have a2 := (k_at_pt hg (show 0 ≤ j by omega) (show j < l 0 0 * l 0 1 by omega)).2
    rw [e] at a1
    omega)]
  refine g_sum_congr fun p p0 p1 => ?_
  by_cases c : g_th (l 0 0) (l 0 1) p
  · obtain ⟨a, b⟩ := k_idx_pt hg ⟨⟨p0, p1⟩, c⟩
    rw [if_pos c, if_pos (f_am_iff.mpr ⟨k_idx l p, a.1, by omega, b⟩)]
  · rw [if_neg c, if_neg]
    intro h
    obtain ⟨i, i0, i1, e⟩ := f_am_iff.mp h
    have := (k_at_pt hg i0 (show i < l 0 0 * l 0 1 by omega)).1.2
    rw [e] at this
    exact c this
theorem g_sa_enum {l : q_Mem} {ord F : Int → Int} {n : Nat} (h1 : ∀ i : Int, 0 ≤ i → i < n → g_pt l (ord i)) (h2 : ∀ i j : Int, 0 ≤ i → i < j → j < n → ord i ≠ ord j) : g_sum (fun i => F (ord i)) n = g_sa l (fun p => if f_am ord n p = true then F p else 0) := by
  rw [g_sum_enum (M := 100) n (fun i i0 i1 => (h1 i i0 i1).1) h2]
  refine g_sum_congr fun p p0 p1 => ?_
  by_cases c : g_th (l 0 0) (l 0 1) p
  · rw [if_pos c]
  · rw [if_neg c, if_neg]
    intro h
    obtain ⟨i, i0, i1, e⟩ := f_am_iff.mp h
    have := (h1 i i0 i1).2
    rw [e] at this
    exact c this
section q8
variable {l m : q_Mem} {o : Int → Int}
/-- what flows in, or out, at a point -/
def f_fl (l : q_Mem) (o : Int → Int) (x y p : Int) : Int := if g_tk l (o 0) (o 1) p = x ∧ g_ck l (o 0) (o 1) (o 2) (o 3) p = false then (if y = 0 then g_edge l p else if g_held l p = 0 then 1 else 0) else 0
theorem c_flow (hk : k_ok l o) (hc : k_C l o m) {x y : Int} (hx : q_32 x) (hy : 0 ≤ y ∧ y ≤ 1) : f_PG_flow_l20 q_F x y 0 0 m = some (g_sa l (f_fl l o x y), m) := by
  have hg := hk.1
  have hRC := g_RC hg
  unfold q_32 at hx
  have hlat := g_lat_rg hg hk.2.2.2.1 hk.2.2.2.2.1
  refine o_sum (fun n a k => f_PG_flow_l20 n x y a k m) (fun k => f_fl l o x y (k / l 0 1 * 10 + k % l 0 1)) (l 0 0 * l 0 1).toNat (by omega) ?_ ?_
  · intro n a k k0 k1
    have hp := (k_at_pt hg k0 (show k < l 0 0 * l 0 1 by omega)).1
    show f_PG_flow_b20 (f_PG_flow_l20 n) x y a k m = _
    unfold f_PG_flow_b20 f_PG_flow_b107
    rw [x_lt, x_one hc.1.1, c_points hc.1.2, x_bd, q_w_id (by omega) (by omega), q_w_id (x := k) (by omega) (by omega), if_neg (by omega), x_lt, x_one hc.1.1, c_pointAt hc.1.2 hg ⟨k0, by omega⟩, x_bd]
    revert hp
    generalize k / l 0 1 * 10 + k % l 0 1 = p
    intro hp
    have hp' := hp.1
    have htk := g_tk_rg hg (o 0) (o 1) hp
    unfold f_fl
    rw [x_rd (n := 100) (by omega) (by omega) (by decide), hc.2.2.2.1.1 p hp, q_w_id (by omega) (by omega), q_w_id (x := x) (by omega) (by omega), x_rd (n := 100) (by omega) (by omega) (by decide), hc.2.2.2.1.2.2.1 p hp, x_wi]
    simp only [x_i0]
    by_cases c1 : g_tk l (o 0) (o 1) p = x
    · rw [if_pos c1]
      by_cases c2 : g_ck l (o 0) (o 1) (o 2) (o 3) p = true
      · rw [if_neg (fun h => h c2), if_neg (fun h => by rw [h.2] at c2; exact absurd c2 (by decide)), Int.add_zero]
      · rw [if_pos c2, if_pos (show g_tk l (o 0) (o 1) p = x ∧ g_ck l (o 0) (o 1) (o 2) (o 3) p = false from ⟨c1, by simpa using c2⟩), q_w_id (x := y) (by omega) (by omega)]
        by_cases c3 : y = 0
        · rw [if_pos c3, if_pos c3, x_lt, x_one hc.1.1, c_edgeReads hc.1.2 hg hp', x_bd]
        · have hh := g_cnt_rg (fun o => g_rr l p o != -1) (l 0 5).toNat
          have h5 := hg.2.2.2.2.1
          rw [if_neg c3, if_neg c3, x_lt, x_one hc.1.1, c_readersOf hc.1.2 hg hp', x_bd, q_w_id (x := g_held l p) (by unfold g_held; omega) (by unfold g_held; omega)]
          by_cases c4 : g_held l p = 0
          · rw [if_pos c4, if_pos c4]
          · rw [if_neg c4, if_neg c4, Int.add_zero]
    · rw [if_neg c1, if_neg (fun h => c1 h.1), Int.add_zero]
  · intro n
    show f_PG_flow_b20 (f_PG_flow_l20 n) x y _ _ m = _
    unfold f_PG_flow_b20
    rw [x_lt, x_one hc.1.1, c_points hc.1.2, x_bd, show (((l 0 0 * l 0 1).toNat : Nat) : Int) = l 0 0 * l 0 1 by omega, if_pos (Int.le_refl _), g_sa_at hg]
    rfl
theorem m_flow (hk : k_ok l o) (hm : k_M l o m) (hpl : k_plan l m (o 0) (o 1) (o 2) (o 3)) {x y : Int} (hx : q_32 x) (hy : 0 ≤ y ∧ y ≤ 1) : f_Mod_flow_l24 q_F x y 0 0 m = some (g_sa l (f_fl l o x y), m) := by
  have hg := hk.1
  unfold q_32 at hx
  have hlat := g_lat_rg hg hk.2.2.2.1 hk.2.2.2.2.1
  refine o_sum (fun n a k => f_Mod_flow_l24 n x y a k m) (fun p => if g_th (l 0 0) (l 0 1) p then f_fl l o x y p else 0) 100 (by omega) ?_ ?_
  · intro n a p k0 k1
    show f_Mod_flow_b24 (f_Mod_flow_l24 n) x y a p m = _
    unfold f_Mod_flow_b24 f_Mod_flow_b92 f_Mod_flow_b94
    rw [q_w_id (by omega) (by omega), if_neg (by omega), m_isThere hm.1 hg ⟨k0, by omega⟩, x_bd, x_wi]
    simp only [x_i0]
    by_cases ct : g_th (l 0 0) (l 0 1) p
    · have hp : g_pt l p := ⟨⟨k0, k1⟩, ct⟩
      have htk := g_tk_rg hg (o 0) (o 1) hp
      unfold f_fl
      rw [if_neg (fun h => h ct), if_pos ct, x_rd (n := 100) (by omega) (by omega) (by decide), hpl.1 p hp, q_w_id (by omega) (by omega), q_w_id (x := x) (by omega) (by omega), x_rd (n := 100) (by omega) (by omega) (by decide), hpl.2.2.2.2.1 p hp, x_wi]
      simp only [x_i0]
      by_cases c1 : g_tk l (o 0) (o 1) p = x
      · rw [if_pos c1]
        by_cases c2 : g_ck l (o 0) (o 1) (o 2) (o 3) p = true
        · rw [if_neg (fun h => h c2), if_neg (fun h => by rw [h.2] at c2; exact absurd c2 (by decide)), Int.add_zero]
        · rw [if_pos c2, if_pos (show g_tk l (o 0) (o 1) p = x ∧ g_ck l (o 0) (o 1) (o 2) (o 3) p = false from ⟨c1, by simpa using c2⟩), q_w_id (x := y) (by omega) (by omega)]
          by_cases c3 : y = 0
          · rw [if_pos c3, if_pos c3, m_edgesBy hm.1 hg ⟨k0, by omega⟩, x_bd]
          · rw [if_neg c3, if_neg c3, m_hasReader hm.1 hg ⟨k0, by omega⟩, x_bd]
            by_cases c4 : g_held l p = 0
            · rw [if_pos c4, if_pos c4]; rfl
            · rw [if_neg c4, if_neg c4]; rfl
      · rw [if_neg c1, if_neg (fun h => c1 h.1), Int.add_zero]
    · rw [if_pos ct, if_neg ct, Int.add_zero]
  · intro n
    show f_Mod_flow_b24 (f_Mod_flow_l24 n) x y _ 100 m = _
    unfold f_Mod_flow_b24
    rw [if_pos (by decide)]
    rfl
theorem b_flow (hk : k_ok l o) {x y : Int} (hx : q_32 x) (hy : q_32 y) : k_both l o (f_PG_flow x y) (f_Mod_flow x y) := by
  refine k_both_of fun mc mm hc hm => ?_
  have hx' := hx
  have hy' := hy
  unfold q_32 at hx' hy'
  by_cases cx : x < 0
  · refine ⟨-1, ?_, ?_⟩
    · unfold f_PG_flow
      rw [q_w_id (x := x) (by omega) (by omega), if_pos cx]
      exact o_rt ⟨rfl, k_fc_id _, hc⟩
    · unfold f_Mod_flow
      rw [q_w_id (x := x) (by omega) (by omega), if_pos cx]
      exact o_rt ⟨rfl, k_fm_id _⟩
  by_cases cy : 0 ≤ y ∧ y ≤ 1
  · refine ⟨q_w (g_sa l (f_fl l o x y)), ?_, ?_⟩
    · unfold f_PG_flow
      rw [q_w_id (x := x) (by omega) (by omega), if_neg cx, q_w_id (x := y) (by omega) (by omega), if_neg (by omega), if_pos cy.2, c_flow hk hc hx cy]
      exact o_some ⟨rfl, k_fc_id _, hc⟩
    · unfold f_Mod_flow
      rw [q_w_id (x := x) (by omega) (by omega), if_neg cx, m_isIn hy' (by omega) (by omega), x_bd, if_pos cy, x_w1, if_neg (by decide)]
      refine o_bd (s_layNow hk hm) fun _ m1 ⟨f1, k1, q1, _⟩ => ?_
      rw [m_flow hk k1 q1 hx cy]
      exact o_some ⟨rfl, f1⟩
  · refine ⟨-1, ?_, ?_⟩
    · unfold f_PG_flow
      rw [q_w_id (x := x) (by omega) (by omega), if_neg cx, q_w_id (x := y) (by omega) (by omega)]
      by_cases c : y < 0
      · rw [if_pos c]; exact o_rt ⟨rfl, k_fc_id _, hc⟩
      · rw [if_neg c, if_neg (by omega)]; exact o_rt ⟨rfl, k_fc_id _, hc⟩
    · unfold f_Mod_flow
      rw [q_w_id (x := x) (by omega) (by omega), if_neg cx, m_isIn hy' (by omega) (by omega), x_bd, if_neg cy, x_w0, if_pos rfl]
      exact o_rt ⟨rfl, k_fm_id _⟩
end q8
