/-! QUESTIONS: offset, critical, the points of a cell -/
theorem g_cnt_1q (q : Int) : ∀ n : Nat, g_cnt (fun p => p == q) n = if 0 ≤ q ∧ q < n then 1 else 0 := by
  intro n
  induction n with
  | zero => rw [if_neg (by omega)]; rfl
  | succ n ih =>
    show g_cnt (fun p => p == q) n + (if ((n : Int) == q) = true then 1 else 0) = _
    rw [ih]
    by_cases c : (n : Int) = q
    · rw [if_neg (by omega), if_pos (by rw [c]; exact beq_self_eq_true q), if_pos (by omega)]; rfl
    · rw [show ((n : Int) == q) = false from beq_false_of_ne c]
      by_cases c2 : 0 ≤ q ∧ q < n
      · rw [if_pos c2, if_pos (show 0 ≤ q ∧ q < ((n + 1 : Nat) : Int) by omega)]; rfl
      · rw [if_neg c2, if_neg (show ¬ (0 ≤ q ∧ q < ((n + 1 : Nat) : Int)) by omega)]; rfl
theorem g_ca_one {l : q_Mem} {q : Int} (hq : g_pt l q) : g_ca l (fun p => p == q) = 1 := by
  have e : g_ca l (fun p => p == q) = g_cnt (fun p => p == q) 100 := by
    refine g_cnt_congr fun k k0 k1 => ?_
    by_cases c : k = q
    · subst c
      rw [decide_eq_true hq.2]; rfl
    · dsimp only
      rw [show (k == q) = false from beq_false_of_ne c, Bool.and_false]
  rw [e, g_cnt_1q]
  exact if_pos hq.1
theorem g_ca_false {l : q_Mem} {X : Int → Bool} (h : ∀ p, g_pt l p → X p = false) : g_ca l X = 0 := by
  refine Classical.byContradiction fun hn => ?_
  obtain ⟨p, hp, hx⟩ := g_ca_ex hn
  rw [h p hp] at hx
  exact absurd hx (by decide)
/-- among the first n of a row -/
def f_am (ord : Int → Int) (n : Nat) (p : Int) : Bool := g_cnt (fun i => ord i == p) n != 0
theorem f_am_iff {ord : Int → Int} {n : Nat} {p : Int} : f_am ord n p = true ↔ ∃ i : Int, 0 ≤ i ∧ i < n ∧ ord i = p := by
  unfold f_am
  constructor
  · intro h
    refine Classical.byContradiction fun hn => ?_
    have : g_cnt (fun i => ord i == p) n = 0 := g_cnt_zero.mpr fun k k0 k1 => beq_false_of_ne fun e => hn ⟨k, k0, k1, e⟩
    rw [this] at h
    exact absurd h (by decide)
  · rintro ⟨i, i0, i1, e⟩
    have := g_cnt_pos (P := fun i => ord i == p) i0 i1 (by rw [e]; exact beq_self_eq_true p)
    simp
    omega
theorem g_ca_enum {l : q_Mem} {ord : Int → Int} (X : Int → Bool) : ∀ n : Nat, (∀ i : Int, 0 ≤ i → i < n → g_pt l (ord i)) → (∀ i j : Int, 0 ≤ i → i < j → j < n → ord i ≠ ord j) → g_cnt (fun i => X (ord i)) n = g_ca l (fun p => f_am ord n p && X p) := by
  intro n
  induction n with
  | zero =>
    intro _ _
    exact (g_ca_false fun p _ => rfl).symm
  | succ n ih =>
    intro h1 h2
    show g_cnt (fun i => X (ord i)) n + (if X (ord n) = true then 1 else 0) = _
    rw [ih (fun i i0 i1 => h1 i i0 (by omega)) (fun i j i0 ij jn => h2 i j i0 ij (by omega))]
    have hp := h1 n (by omega) (by omega)
    have e : g_ca l (fun p => f_am ord (n + 1) p && X p) = g_ca l (fun p => f_am ord n p && X p) + g_ca l (fun p => (p == ord n) && X p) := by
      refine g_ca_or fun p _ => ?_
      by_cases c : p = ord n
      · have a1 : f_am ord (n + 1) p = true := f_am_iff.mpr ⟨n, by omega, by omega, c.symm⟩
        have a2 : f_am ord n p = false := by
          refine Bool.eq_false_iff.mpr fun h => ?_
          obtain ⟨i, i0, i1, e⟩ := f_am_iff.mp h
          exact h2 i n i0 i1 (by omega) (e.trans c)
        rw [a1, a2, c, beq_self_eq_true]
        simp
      · have a1 : f_am ord (n + 1) p = f_am ord n p := by
          refine Bool.eq_iff_iff.mpr ?_
          rw [f_am_iff, f_am_iff]
          constructor
          · rintro ⟨i, i0, i1, e⟩
            exact ⟨i, i0, by by_cases ci : i = n; · rw [ci] at e; exact absurd e.symm c
                             omega, e⟩
          · rintro ⟨i, i0, i1, e⟩
            exact ⟨i, i0, by omega, e⟩
        rw [a1, show (p == ord n) = false from beq_false_of_ne c]
        simp
    have e2 : (if X (ord n) = true then (1 : Int) else 0) = g_ca l (fun p => (p == ord n) && X p) := by
      by_cases c : X (ord n) = true
      · rw [if_pos c, ← g_ca_one hp]
        refine g_ca_congr fun p _ => ?_
        by_cases c2 : p = ord n
        · rw [c2, c, Bool.and_true]
        · rw [show (p == ord n) = false from beq_false_of_ne c2]; rfl
      · rw [if_neg c]
        refine (g_ca_false fun p _ => ?_).symm
        by_cases c2 : p = ord n
        · rw [c2]; simpa using c
        · rw [show (p == ord n) = false from beq_false_of_ne c2]; rfl
    rw [e, e2]
section q6
variable {l m : q_Mem} {o : Int → Int}
theorem m_readersBy (hg : g_lw l) (h : g_ML m l) {x : Int} (hx : 0 ≤ x ∧ x < l 0 5) : f_Mod_readersBy x m = some (g_sh (l 0 0) (l 0 1) (l 2 x) (l 3 x), m) := by
  have h6 := hg.2.2.2.2.2.1 x hx.1 hx.2
  have h5 := hg.2.2.2.2.1
  rw [← g_sh_ca hg (by omega) (by omega)]
  unfold f_Mod_readersBy
  refine o_cnt (fun n a k => f_Mod_readersBy_l4 n x a k m) (fun k => decide (g_th (l 0 0) (l 0 1) k) && (g_mv (l 0 0) (l 0 1) k (l 2 x) (l 3 x) != -1)) 100 (by omega) ?_ ?_
  · intro n a k k0 k1 a0 a1
    show f_Mod_readersBy_b4 (f_Mod_readersBy_l4 n) x a k m = _
    unfold f_Mod_readersBy_b4 f_Mod_readersBy_b32 f_Mod_readersBy_b33
    rw [q_w_id (by omega) (by omega), if_neg (by omega), m_isThere h hg ⟨k0, by omega⟩, x_bd, x_wi]
    simp only [x_i0]
    by_cases ct : g_th (l 0 0) (l 0 1) k
    · have hr : -1 ≤ g_tg l k x ∧ g_tg l k x < 100 := g_mv_rg _ _ _ _ _ hg.1.2 hg.2.1.2
      rw [if_neg (fun h => h ct), m_readBy h hg ⟨k0, by omega⟩ hx, x_bd, q_w_id (by omega) (by omega), decide_eq_true ct, Bool.true_and]
      show (if g_tg l k x < 0 then _ else _) = f_Mod_readersBy_l4 n x (a + if (g_tg l k x != -1) = true then 1 else 0) (k + 1) m
      by_cases c : g_tg l k x = -1
      · rw [if_pos (by omega), c]; rfl
      · rw [if_neg (by omega), if_pos (by simpa using c)]
    · rw [if_pos ct, decide_eq_false ct, Bool.false_and]
      rfl
  · intro n
    show f_Mod_readersBy_b4 (f_Mod_readersBy_l4 n) x _ 100 m = _
    unfold f_Mod_readersBy_b4
    rw [if_pos (by decide)]
    rfl
theorem b_offset (hk : k_ok l o) {x y : Int} (hx : q_32 x) (hy : q_32 y) : k_both l o (f_PG_offset x y) (f_Mod_offset x y) := by
  refine k_both_of fun mc mm hc hm => ?_
  have hg := hk.1
  have h5 := hg.2.2.2.2.1
  unfold q_32 at hx hy
  have o0 := hc.2.1.2.2 0 (by decide) (by decide)
  have o1 := hc.2.1.2.2 1 (by decide) (by decide)
  have o2 := hc.2.1.2.2 2 (by decide) (by decide)
  have o3 := hc.2.1.2.2 3 (by decide) (by decide)
  obtain ⟨n0, n1, n2, n3⟩ := k_M_now hm
  by_cases cx : 0 ≤ x ∧ x < l 0 5
  · have h6 := hg.2.2.2.2.2.1 x cx.1 cx.2
    refine ⟨q_w (if y = 0 then l 2 x else if y = 1 then l 3 x else if y = 2 then g_sh (l 0 0) (l 0 1) (l 2 x) (l 3 x) else if y = 3 then o 3 * l 2 x - o 2 * l 3 x else if y = 4 then -(o 0 * l 2 x + o 1 * l 3 x) else if y = 5 then (if 0 ≤ q_w (-(o 0 * l 2 x + o 1 * l 3 x)) then g_sh (l 0 0) (l 0 1) (l 2 x) (l 3 x) * (-(o 0 * l 2 x + o 1 * l 3 x)) else 0) else -1000), ?_, ?_⟩
    · unfold f_PG_offset
      simp only [s_current hc, x_bd, x_lt, x_one hc.1.1, x_one hc.2.1.2.1, o0, o1, o2, o3]
      rw [q_w_id (x := x) (by omega) (by omega), if_neg (by omega), hc.1.2.1, q_w_id (x := l 0 5) (by omega) (by omega), if_pos (by omega), x_rd (n := 12) (by omega) (by omega) (by decide), x_rd (n := 12) (by omega) (by omega) (by decide), hc.1.2.2 2 _ (by decide) (by decide), hc.1.2.2 3 _ (by decide) (by decide), c_shifted hc.1.2 hg (by omega) (by omega), x_bd, q_w_id (x := y) (by omega) (by omega)]
      simp only [o0, o1, o2, o3]
      split
      · exact o_rt ⟨rfl, k_fc_id _, hc⟩
      split
      · exact o_rt ⟨rfl, k_fc_id _, hc⟩
      split
      · exact o_rt ⟨rfl, k_fc_id _, hc⟩
      split
      · exact o_rt ⟨rfl, k_fc_id _, hc⟩
      split
      · exact o_rt ⟨rfl, k_fc_id _, hc⟩
      split
      · split
        · exact o_rt ⟨rfl, k_fc_id _, hc⟩
        · exact o_rt ⟨rfl, k_fc_id _, hc⟩
      · exact o_rt ⟨rfl, k_fc_id _, hc⟩
    · unfold f_Mod_offset
      rw [m_offsets hm.1, x_bd, m_isIn (by omega) (by omega) (by omega), x_bd, if_pos (show 0 ≤ x ∧ x ≤ l 0 5 - 1 by omega), x_w1, if_neg (by decide), m_byA hm.1 hg cx, x_bd, m_byB hm.1 hg cx, x_bd, x_rd (n := 69) (by decide) (by decide) (by decide), x_rd (n := 69) (by decide) (by decide) (by decide), n0, n1, q_w_id (x := y) (by omega) (by omega), m_readersBy hg hm.1 cx, x_bd, x_rd (n := 69) (by decide) (by decide) (by decide), x_rd (n := 69) (by decide) (by decide) (by decide), n2, n3]
      split
      · exact o_rt ⟨rfl, k_fm_id _⟩
      split
      · exact o_rt ⟨rfl, k_fm_id _⟩
      split
      · exact o_rt ⟨rfl, k_fm_id _⟩
      split
      · exact o_rt ⟨rfl, k_fm_id _⟩
      split
      · exact o_rt ⟨rfl, k_fm_id _⟩
      split
      · split
        · exact o_rt ⟨by rw [Int.mul_comm], k_fm_id _⟩
        · exact o_rt ⟨rfl, k_fm_id _⟩
      · exact o_rt ⟨rfl, k_fm_id _⟩
  · refine ⟨-1000, ?_, ?_⟩
    · unfold f_PG_offset
      rw [x_lt, x_one hc.1.1, hc.1.2.1, q_w_id (x := x) (by omega) (by omega), q_w_id (x := l 0 5) (by omega) (by omega)]
      by_cases c : x < 0
      · rw [if_pos c]; exact o_rt ⟨rfl, k_fc_id _, hc⟩
      · rw [if_neg c, if_neg (by omega)]; exact o_rt ⟨rfl, k_fc_id _, hc⟩
    · unfold f_Mod_offset
      rw [m_offsets hm.1, x_bd, m_isIn (by omega) (by omega) (by omega), x_bd, if_neg (show ¬ (0 ≤ x ∧ x ≤ l 0 5 - 1) by omega), x_w0, if_pos rfl]
      exact o_rt ⟨rfl, k_fm_id _⟩
end q6
