/-! QUESTION: busy, its first three kinds -/
theorem g_cnt_onto {P : Int → Bool} : ∀ {n : Nat} {x : Int}, 0 ≤ x → x < g_cnt P n → ∃ k : Nat, k < n ∧ P k = true ∧ g_cnt P k = x := by
  intro n
  induction n with
  | zero => intro x h0 h1; exact absurd h1 (by show ¬ x < 0; omega)
  | succ n ih =>
    intro x h0 h1
    have h1' : x < g_cnt P n + (if P n = true then 1 else 0) := h1
    by_cases c : x < g_cnt P n
    · obtain ⟨k, k1, k2, k3⟩ := ih h0 c
      exact ⟨k, by omega, k2, k3⟩
    · by_cases cp : P n = true
      · rw [if_pos cp] at h1'
        exact ⟨n, by omega, cp, by omega⟩
      · rw [if_neg cp] at h1'
        omega
theorem g_ce_onto {l : q_Mem} {a b x : Int} (h0 : 0 ≤ x) (h1 : x < g_cc l a b) : ∃ p, g_pt l p ∧ g_ce l a b p = x := by
  obtain ⟨k, k1, k2, k3⟩ := g_cnt_onto h0 h1
  obtain ⟨p, hp, e⟩ := g_oc_ex k2
  refine ⟨p, hp, ?_⟩
  unfold g_ce
  rw [e, show ((k : Int) - 64 + 64).toNat = k by omega]
  exact k3
section q9
variable {l m : q_Mem} {o : Int → Int}
theorem k_ord_inj {T ord : Int → Int} (h : k_ord l T ord) : ∀ i j : Int, 0 ≤ i → i < j → j < l 0 0 * l 0 1 → ord i ≠ ord j := by
  intro i j i0 ij jn e
  have := h.2.2 i j i0 ij jn
  rw [e] at this
  omega
theorem c_pointsOf (hk : k_ok l o) (hc : k_C l o m) {x : Int} (hx : q_32 x) : f_Plac_pointsOf x m = some (g_ca l (fun p => g_ce l (o 2) (o 3) p == x), m) := by
  have hg := hk.1
  have hl := hk.2.2.1
  have hRC := g_RC hg
  unfold q_32 at hx
  obtain ⟨p1, p2, p3, p4, p5, p6, p7, p8, p9⟩ := hc.2.2.2.1
  unfold f_Plac_pointsOf
  refine o_cnt (fun n a k => f_Plac_pointsOf_l4 n x a k m) (fun k => g_ce l (o 2) (o 3) (m 64 k) == x) (l 0 0 * l 0 1).toNat (by omega) ?_ ?_
  · intro n a k k0 k1 a0 a1
    have hp := p4.1 k k0 (by omega)
    have hp' := hp.1
    have hce := g_ce_55 hg hl.1 hl.2.1 hp
    show f_Plac_pointsOf_b4 (f_Plac_pointsOf_l4 n) x a k m = _
    unfold f_Plac_pointsOf_b4 f_Plac_pointsOf_b30
    rw [p6, q_w_id (by omega) (by omega), q_w_id (x := k) (by omega) (by omega), if_neg (by omega), x_rd (n := 100) k0 (by omega) (by decide), x_rd (n := 100) (by omega) (by omega) (by decide), p2 _ hp, q_w_id (by omega) (by omega), q_w_id (x := x) (by omega) (by omega)]
    by_cases c : g_ce l (o 2) (o 3) (m 64 k) = x
    · rw [if_pos c, if_pos (show (g_ce l (o 2) (o 3) (m 64 k) == x) = true by rw [c]; exact beq_self_eq_true x)]
    · rw [if_neg c, if_neg (show ¬ (g_ce l (o 2) (o 3) (m 64 k) == x) = true from fun h => c (eq_of_beq h)), Int.add_zero]
  · intro n
    show f_Plac_pointsOf_b4 (f_Plac_pointsOf_l4 n) x _ _ m = _
    unfold f_Plac_pointsOf_b4
    rw [p6, show (((l 0 0 * l 0 1).toNat : Nat) : Int) = l 0 0 * l 0 1 by omega, if_pos (Int.le_refl _)]
    have e := g_ca_enum (l := l) (ord := m 64) (fun p => g_ce l (o 2) (o 3) p == x) (l 0 0 * l 0 1).toNat (fun i i0 i1 => p4.1 i i0 (by omega)) (fun i j i0 ij jn => k_ord_inj p4 i j i0 ij (by omega))
    have e2 : g_ca l (fun p => f_am (m 64) (l 0 0 * l 0 1).toNat p && (g_ce l (o 2) (o 3) p == x)) = g_ca l (fun p => g_ce l (o 2) (o 3) p == x) := by
      refine g_ca_congr fun p hp => ?_
      obtain ⟨i, i0, i1, ei⟩ := p4.2.1 p hp
      rw [f_am_iff.mpr ⟨i, i0, by omega, ei⟩, Bool.true_and]
    rw [e, e2]
    rfl
theorem m_pointsOf (hk : k_ok l o) (hm : k_M l o m) (hpl : k_plan l m (o 0) (o 1) (o 2) (o 3)) {x : Int} (hx : q_32 x) : f_Mod_pointsOf x m = some (g_ca l (fun p => g_ce l (o 2) (o 3) p == x), m) := by
  have hg := hk.1
  have hl := hk.2.2.1
  unfold q_32 at hx
  unfold f_Mod_pointsOf
  refine o_cnt (fun n a k => f_Mod_pointsOf_l4 n x a k m) (fun k => decide (g_th (l 0 0) (l 0 1) k) && (g_ce l (o 2) (o 3) k == x)) 100 (by omega) ?_ ?_
  · intro n a k k0 k1 a0 a1
    show f_Mod_pointsOf_b4 (f_Mod_pointsOf_l4 n) x a k m = _
    unfold f_Mod_pointsOf_b4 f_Mod_pointsOf_b33 f_Mod_pointsOf_b34
    rw [q_w_id (by omega) (by omega), if_neg (by omega), m_isThere hm.1 hg ⟨k0, by omega⟩, x_bd, x_wi]
    simp only [x_i0]
    by_cases ct : g_th (l 0 0) (l 0 1) k
    · have hp : g_pt l k := ⟨⟨k0, k1⟩, ct⟩
      have hce := g_ce_55 hg hl.1 hl.2.1 hp
      rw [if_neg (fun h => h ct), x_rd (n := 100) (by omega) (by omega) (by decide), hpl.2.2.1 k hp, q_w_id (by omega) (by omega), q_w_id (x := x) (by omega) (by omega), decide_eq_true ct, Bool.true_and]
      by_cases c : g_ce l (o 2) (o 3) k = x
      · rw [if_pos c, if_pos (show (g_ce l (o 2) (o 3) k == x) = true by rw [c]; exact beq_self_eq_true x)]
      · rw [if_neg c, if_neg (show ¬ (g_ce l (o 2) (o 3) k == x) = true from fun h => c (eq_of_beq h))]
    · rw [if_pos ct, decide_eq_false ct, Bool.false_and]
      rfl
  · intro n
    show f_Mod_pointsOf_b4 (f_Mod_pointsOf_l4 n) x _ 100 m = _
    unfold f_Mod_pointsOf_b4
    rw [if_pos (by decide)]
    rfl
/-- the least tick of a cell's points; the greatest -/
def f_lo (l : q_Mem) (o : Int → Int) (x r : Int) : Prop := (∃ p, g_pt l p ∧ g_ce l (o 2) (o 3) p = x ∧ g_tk l (o 0) (o 1) p = r) ∧ ∀ p, g_pt l p → g_ce l (o 2) (o 3) p = x → r ≤ g_tk l (o 0) (o 1) p
def f_hi (l : q_Mem) (o : Int → Int) (x r : Int) : Prop := (∃ p, g_pt l p ∧ g_ce l (o 2) (o 3) p = x ∧ g_tk l (o 0) (o 1) p = r) ∧ ∀ p, g_pt l p → g_ce l (o 2) (o 3) p = x → g_tk l (o 0) (o 1) p ≤ r
theorem f_lo_u {x r r' : Int} (h : f_lo l o x r) (h' : f_lo l o x r') : r = r' := by
  obtain ⟨⟨p, hp, e1, e2⟩, h1⟩ := h
  obtain ⟨⟨p', hp', e1', e2'⟩, h1'⟩ := h'
  have := h1 p' hp' e1'
  have := h1' p hp e1
  omega
theorem f_hi_u {x r r' : Int} (h : f_hi l o x r) (h' : f_hi l o x r') : r = r' := by
  obtain ⟨⟨p, hp, e1, e2⟩, h1⟩ := h
  obtain ⟨⟨p', hp', e1', e2'⟩, h1'⟩ := h'
  have := h1 p' hp' e1'
  have := h1' p hp e1
  omega
theorem c_firstTickOf (hk : k_ok l o) (hc : k_C l o m) {x : Int} (h0 : 0 ≤ x) (h1 : x < g_cc l (o 2) (o 3)) (hx : q_32 x) : q_ok (f_Plac_firstTickOf x m) (fun r m' => m' = m ∧ f_lo l o x r) := by
  have hg := hk.1
  have hl := hk.2.2.1
  have hRC := g_RC hg
  unfold q_32 at hx
  obtain ⟨q, hq, eq⟩ := g_ce_onto h0 h1
  obtain ⟨p1, p2, p3, p4, p5, p6, p7, p8, p9⟩ := hc.2.2.2.1
  unfold f_Plac_firstTickOf
  refine o_upF (fun n k (_ : Unit) => f_Plac_firstTickOf_l2 n x k m) (fun k _ => 0 ≤ k ∧ ∀ i, 0 ≤ i → i < k → g_ce l (o 2) (o 3) (m 64 i) ≠ x) _ (k := 0) (e := l 0 0 * l 0 1) (s := ()) (by omega) (by omega) ⟨by omega, fun i i0 i1 => by omega⟩ ?_ ?_
  · intro n k _ hkk ⟨k0, he⟩ hn
    have hp := p4.1 k k0 hkk
    have hp' := hp.1
    have hce := g_ce_55 hg hl.1 hl.2.1 hp
    show q_ok (f_Plac_firstTickOf_b2 (f_Plac_firstTickOf_l2 n) x k m) _
    unfold f_Plac_firstTickOf_b2
    rw [p6, q_w_id (by omega) (by omega), q_w_id (x := k) (by omega) (by omega), if_neg (by omega), x_rd (n := 100) k0 (by omega) (by decide), x_rd (n := 100) (by omega) (by omega) (by decide), p2 _ hp, q_w_id (by omega) (by omega), q_w_id (x := x) (by omega) (by omega)]
    by_cases c : g_ce l (o 2) (o 3) (m 64 k) = x
    · rw [if_pos c, x_rd (n := 100) k0 (by omega) (by decide), x_rd (n := 100) (by omega) (by omega) (by decide), p1 _ hp]
      refine o_rt ⟨rfl, ⟨_, hp, c, rfl⟩, fun p hpp hpx => ?_⟩
      obtain ⟨i, i0, i1, ei⟩ := p4.2.1 p hpp
      by_cases ci : i < k
      · exact absurd (by rw [ei]; exact hpx) (he i i0 ci)
      · by_cases ck : i = k
        · rw [← ei, ck]; exact Int.le_refl _
        · have := p4.2.2 k i k0 (by omega) i1
          rw [ei] at this
          omega
    · rw [if_neg c]
      refine hn () ⟨by omega, fun i i0 i1 => ?_⟩
      by_cases ck : i = k
      · rw [ck]; exact c
      · exact he i i0 (by omega)
  · intro n _ ⟨k0, he⟩
    obtain ⟨i, i0, i1, ei⟩ := p4.2.1 q hq
    exact absurd (by rw [ei]; exact eq) (he i i0 i1)
end q9
