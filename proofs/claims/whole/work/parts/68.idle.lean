/-! QUESTION: idle -/
theorem d_btw {a N k R i : Int} (ha : -3 ≤ a ∧ a ≤ 3) (h1 : 0 ≤ i ∧ i < R) (h2 : 0 ≤ i + N * a ∧ i + N * a < R) (hk : (0 ≤ k ∧ k ≤ N) ∨ (N ≤ k ∧ k ≤ 0)) : 0 ≤ i + k * a ∧ i + k * a < R := by
  have : a = -3 ∨ a = -2 ∨ a = -1 ∨ a = 0 ∨ a = 1 ∨ a = 2 ∨ a = 3 := by omega
  rcases this with rfl | rfl | rfl | rfl | rfl | rfl | rfl <;> omega
section idle
variable {l m : q_Mem} {o : Int → Int}
theorem d_step {P Q a b p q : Int} (h : g_line a b) (hk : g_key a b p = g_key a b q) : ∃ n, q / 10 - p / 10 = n * a ∧ q % 10 - p % 10 = n * b ∧ g_tk l P Q q - g_tk l P Q p = n * (P * a + Q * b) := by
  obtain ⟨n, e1, e2⟩ := g_line_div h (x := q / 10 - p / 10) (y := q % 10 - p % 10) (by
    unfold g_key at hk
    rw [Int.mul_sub, Int.mul_sub]
    omega)
  refine ⟨n, e1, e2, ?_⟩
  have t1 : P * (q / 10) - P * (p / 10) = P * (n * a) := by rw [← Int.mul_sub, e1]
  have t2 : Q * (q % 10) - Q * (p % 10) = Q * (n * b) := by rw [← Int.mul_sub, e2]
  unfold g_tk
  rw [Int.mul_add, Int.mul_left_comm n P a, Int.mul_left_comm n Q b]
  omega
def d_st (o : Int → Int) : Int := max (o 0 * o 2 + o 1 * o 3) (-(o 0 * o 2 + o 1 * o 3))
def d_s1 (o : Int → Int) : Int := max (d_st o) 1
def d_on (l : q_Mem) (o : Int → Int) (x t : Int) : Prop := ∃ p, g_pt l p ∧ g_ce l (o 2) (o 3) p = x ∧ g_tk l (o 0) (o 1) p = t
theorem d_key (hk : k_ok l o) {p q x : Int} (hp : g_pt l p) (hq : g_pt l q) (h1 : g_ce l (o 2) (o 3) p = x) (h2 : g_ce l (o 2) (o 3) q = x) : g_key (o 2) (o 3) p = g_key (o 2) (o 3) q := (g_ce_iff hk.1 hk.2.2.1.1 hk.2.2.1.2.1 hp hq).mp (h1.trans h2.symm)
/-- the ticks of a cell: steps of one length, none wanting -/
theorem d_has (hk : k_ok l o) {x lo hi t : Int} (hlo : f_lo l o x lo) (hhi : f_hi l o x hi) (h1 : lo ≤ t) (h2 : t ≤ hi) : d_on l o x t ↔ ∃ k, 0 ≤ k ∧ t - lo = k * d_s1 o := by
  obtain ⟨⟨p, hp, cp, tp⟩, hlo'⟩ := hlo
  obtain ⟨⟨q, hq, cq, tq⟩, hhi'⟩ := hhi
  have hl := hk.2.2.1
  have hg := hk.1
  obtain ⟨N, n1, n2, n3⟩ := d_step (l := l) (P := o 0) (Q := o 1) hl (d_key hk hp hq cp cq)
  constructor
  · rintro ⟨r, hr, cr, tr⟩
    obtain ⟨k, k1, k2, k3⟩ := d_step (l := l) (P := o 0) (Q := o 1) hl (d_key hk hp hr cp cr)
    rw [tr, tp] at k3
    by_cases c0 : o 0 * o 2 + o 1 * o 3 = 0
    · rw [c0, Int.mul_zero] at k3
      exact ⟨0, by omega, by omega⟩
    by_cases c1 : 0 < o 0 * o 2 + o 1 * o 3
    · have e : d_s1 o = o 0 * o 2 + o 1 * o 3 := by unfold d_s1 d_st; omega
      refine ⟨k, ?_, by rw [e]; exact k3⟩
      refine Classical.byContradiction fun hn => ?_
      have : k * (o 0 * o 2 + o 1 * o 3) < 0 := Int.mul_neg_of_neg_of_pos (by omega) c1
      omega
    · have e : d_s1 o = -(o 0 * o 2 + o 1 * o 3) := by unfold d_s1 d_st; omega
      refine ⟨-k, ?_, by rw [e, Int.neg_mul_neg]; exact k3⟩
      refine Classical.byContradiction fun hn => ?_
      have : k * (o 0 * o 2 + o 1 * o 3) < 0 := Int.mul_neg_of_pos_of_neg (by omega) (by omega)
      omega
  · rintro ⟨k, k0, ek⟩
    rw [tq, tp] at n3
    by_cases c0 : o 0 * o 2 + o 1 * o 3 = 0
    · rw [c0, Int.mul_zero] at n3
      exact ⟨p, hp, cp, by omega⟩
    -- the step's number, with its sign
    have hkk : ∃ k', k' * (o 0 * o 2 + o 1 * o 3) = t - lo ∧ ((0 ≤ k' ∧ k' ≤ N) ∨ (N ≤ k' ∧ k' ≤ 0)) := by
      by_cases c1 : 0 < o 0 * o 2 + o 1 * o 3
      · have e : d_s1 o = o 0 * o 2 + o 1 * o 3 := by unfold d_s1 d_st; omega
        rw [e] at ek
        refine ⟨k, by omega, Or.inl ⟨k0, ?_⟩⟩
        exact Int.le_of_mul_le_mul_right (a := o 0 * o 2 + o 1 * o 3) (by omega) c1
      · have e : d_s1 o = -(o 0 * o 2 + o 1 * o 3) := by unfold d_s1 d_st; omega
        rw [e] at ek
        refine ⟨-k, by rw [Int.neg_mul, ← Int.mul_neg]; omega, Or.inr ⟨?_, by omega⟩⟩
        have : k ≤ -N := Int.le_of_mul_le_mul_right (a := -(o 0 * o 2 + o 1 * o 3)) (by rw [Int.neg_mul_neg]; omega) (by omega)
        omega
    obtain ⟨k', e', hb⟩ := hkk
    have hR := hg.1
    have hC := hg.2.1
    have p1 := hp.1
    have p2 := hp.2
    have q1 := hq.1
    have q2 := hq.2
    unfold g_th at p2 q2
    have bi := d_btw (a := o 2) (N := N) (k := k') (R := l 0 0) (i := p / 10) hl.1 (by omega) (by omega) hb
    have bj := d_btw (a := o 3) (N := N) (k := k') (R := l 0 1) (i := p % 10) hl.2.1 (by omega) (by omega) hb
    have ei : ((p / 10 + k' * o 2) * 10 + (p % 10 + k' * o 3)) / 10 = p / 10 + k' * o 2 := by omega
    have ej : ((p / 10 + k' * o 2) * 10 + (p % 10 + k' * o 3)) % 10 = p % 10 + k' * o 3 := by omega
    have hr : g_pt l ((p / 10 + k' * o 2) * 10 + (p % 10 + k' * o 3)) := ⟨by omega, by unfold g_th; rw [ei, ej]; omega⟩
    refine ⟨_, hr, ?_, ?_⟩
    · rw [← cp]
      refine (g_ce_iff hg hl.1 hl.2.1 hr hp).mpr ?_
      unfold g_key
      rw [ei, ej, Int.mul_add, Int.mul_add, Int.mul_left_comm (o 3) k' (o 2), Int.mul_left_comm (o 2) k' (o 3), Int.mul_comm (o 3) (o 2)]
      omega
    · have ht : g_tk l (o 0) (o 1) ((p / 10 + k' * o 2) * 10 + (p % 10 + k' * o 3)) = g_tk l (o 0) (o 1) p + k' * (o 0 * o 2 + o 1 * o 3) := by
        unfold g_tk
        rw [ei, ej, Int.mul_add, Int.mul_add, Int.mul_add, Int.mul_left_comm (o 0) k' (o 2), Int.mul_left_comm (o 1) k' (o 3)]
        omega
      rw [ht, tp, e']
      omega
theorem d_far (hk : k_ok l o) {x lo hi : Int} (hlo : f_lo l o x lo) (hhi : f_hi l o x hi) : lo ≤ hi ∧ (lo < hi → 0 < d_st o ∧ d_st o ≤ hi - lo) := by
  have hl := hk.2.2.1
  have h2 := hhi
  have h1 : lo ≤ hi := by
    obtain ⟨⟨q, hq, cq, tq⟩, _⟩ := hhi
    have := hlo.2 q hq cq
    omega
  refine ⟨h1, fun hlt => ?_⟩
  obtain ⟨k, k0, ek⟩ := (d_has hk hlo hhi h1 (Int.le_refl _)).mp (by
    obtain ⟨⟨q, hq, cq, tq⟩, _⟩ := hhi
    exact ⟨q, hq, cq, tq⟩)
  have hst : 0 < d_st o := by
    refine Classical.byContradiction fun hn => ?_
    have c0 : o 0 * o 2 + o 1 * o 3 = 0 := by unfold d_st at hn; omega
    obtain ⟨⟨p, hp, cp, tp⟩, _⟩ := hlo
    obtain ⟨⟨q, hq, cq, tq⟩, _⟩ := h2
    obtain ⟨N, n1, n2, n3⟩ := d_step (l := l) (P := o 0) (Q := o 1) hl (d_key hk hp hq cp cq)
    rw [c0, Int.mul_zero] at n3
    omega
  refine ⟨hst, ?_⟩
  have e : d_s1 o = d_st o := by unfold d_s1; omega
  rw [e] at ek
  have k1 : 1 ≤ k := by
    refine Classical.byContradiction fun hn => ?_
    have : k = 0 := by omega
    rw [this] at ek
    omega
  have := Int.mul_le_mul_of_nonneg_right k1 (show 0 ≤ d_st o by omega)
  omega
theorem d_many (hk : k_ok l o) {x lo hi : Int} (hlo : f_lo l o x lo) (hhi : f_hi l o x hi) (hst : 0 < d_st o) : 1 < g_ca l (fun p => g_ce l (o 2) (o 3) p == x) ↔ lo < hi := by
  have hl := hk.2.2.1
  obtain ⟨⟨p, hp, cp, tp⟩, hlo'⟩ := hlo
  obtain ⟨⟨q, hq, cq, tq⟩, hhi'⟩ := hhi
  constructor
  · intro h
    refine Classical.byContradiction fun hn => ?_
    have : g_ca l (fun p => g_ce l (o 2) (o 3) p == x) = 1 := by
      unfold g_ca
      refine g_cnt_one (q := p) hp.1.1 hp.1.2 (by simp [hp.2, cp]) fun r r0 r1 hr => ?_
      simp at hr
      have hrp : g_pt l r := ⟨⟨r0, r1⟩, hr.1⟩
      have t1 := hlo' r hrp hr.2
      have t2 := hhi' r hrp hr.2
      obtain ⟨N, n1, n2, n3⟩ := d_step (l := l) (P := o 0) (Q := o 1) hl (d_key hk hp hrp cp hr.2)
      have hN : N = 0 := by
        have e : N * (o 0 * o 2 + o 1 * o 3) = 0 := by omega
        rcases Int.mul_eq_zero.mp e with e | e
        · exact e
        · unfold d_st at hst; omega
      rw [hN, Int.zero_mul] at n1 n2
      omega
    omega
  · intro hlt
    have h1 : 0 < g_cnt (fun r => decide (g_th (l 0 0) (l 0 1) r) && (g_ce l (o 2) (o 3) r == x) && decide (r ≠ p)) 100 := g_cnt_pos hq.1.1 hq.1.2 (by
      have : q ≠ p := fun e => by rw [e] at tq; omega
      simp [hq.2, cq, this])
    have h2 : g_cnt (fun r => decide (g_th (l 0 0) (l 0 1) r) && (g_ce l (o 2) (o 3) r == x) && decide (r ≠ p)) 100 + 1 ≤ g_cnt (fun r => decide (g_th (l 0 0) (l 0 1) r) && (g_ce l (o 2) (o 3) r == x)) 100 := g_cnt_lt (fun k _ _ h => by
      simp only [Bool.and_eq_true] at h ⊢
      exact h.1) hp.1.1 hp.1.2 (by simp) (by simp [hp.2, cp])
    show 1 < g_cnt (fun r => decide (g_th (l 0 0) (l 0 1) r) && (g_ce l (o 2) (o 3) r == x)) 100
    omega
theorem m_hasPoint (hk : k_ok l o) (hm : k_M l o m) (hpl : k_plan l m (o 0) (o 1) (o 2) (o 3)) {x t : Int} (hx : q_32 x) (ht : q_32 t) : q_ok (f_Mod_hasPoint x t m) (fun r m' => m' = m ∧ ((r = 1 ∧ d_on l o x t) ∨ (r = 0 ∧ ¬ d_on l o x t))) := by
  have hg := hk.1
  have hl := hk.2.2.1
  have hlat := g_lat_rg hg hk.2.2.2.1 hk.2.2.2.2.1
  unfold q_32 at hx ht
  unfold f_Mod_hasPoint
  refine o_upF (fun n k (_ : Unit) => f_Mod_hasPoint_l2 n x t k m) (fun k _ => 0 ≤ k ∧ ∀ p, g_pt l p → p < k → ¬ (g_ce l (o 2) (o 3) p = x ∧ g_tk l (o 0) (o 1) p = t)) _ (k := 0) (e := 100) (s := ()) (by omega) (by omega) ⟨by omega, fun p hp h => by have := hp.1; omega⟩ ?_ ?_
  · intro n k _ hk1 ⟨k0, hs⟩ hn
    have go : (g_pt l k → ¬ (g_ce l (o 2) (o 3) k = x ∧ g_tk l (o 0) (o 1) k = t)) → ∀ p, g_pt l p → p < k + 1 → ¬ (g_ce l (o 2) (o 3) p = x ∧ g_tk l (o 0) (o 1) p = t) := by
      intro hh p hp hlt
      by_cases c : p = k
      · rw [c] at hp ⊢; exact hh hp
      · exact hs p hp (by omega)
    show q_ok (f_Mod_hasPoint_b2 (f_Mod_hasPoint_l2 n) x t k m) _
    unfold f_Mod_hasPoint_b2 f_Mod_hasPoint_b38
    rw [q_w_id (x := k) (by omega) (by omega), if_neg (show ¬ 100 ≤ k by omega), m_isThere hm.1 hg ⟨k0, hk1⟩, x_bd]
    by_cases c : g_th (l 0 0) (l 0 1) k
    · have hp : g_pt l k := ⟨⟨k0, hk1⟩, c⟩
      have hce := g_ce_rg hg hl.1 hl.2.1 hp
      have hcc := g_cnt_rg (fun k => g_oc l (o 2) (o 3) (k - 64)) 128
      have hcc' : g_cc l (o 2) (o 3) ≤ 128 := hcc.2
      have htk := g_tk_rg hg (o 0) (o 1) hp
      rw [if_pos c, x_w1, if_neg (by decide), x_rd (n := 100) k0 hk1 (by decide), hpl.2.2.1 k hp, q_w_id (x := g_ce l (o 2) (o 3) k) (by omega) (by omega), q_w_id (x := x) (by omega) (by omega)]
      by_cases c1 : g_ce l (o 2) (o 3) k = x
      · rw [if_pos c1, x_rd (n := 100) k0 hk1 (by decide), hpl.1 k hp, q_w_id (x := g_tk l (o 0) (o 1) k) (by omega) (by omega), q_w_id (x := t) (by omega) (by omega)]
        by_cases c2 : g_tk l (o 0) (o 1) k = t
        · rw [if_pos c2, x_rz1]
          exact o_some ⟨rfl, Or.inl ⟨rfl, k, hp, c1, c2⟩⟩
        · rw [if_neg c2]
          exact hn () ⟨by omega, go fun _ h => c2 h.2⟩
      · rw [if_neg c1]
        exact hn () ⟨by omega, go fun _ h => c1 h.1⟩
    · rw [if_neg c, x_w0, if_pos rfl]
      exact hn () ⟨by omega, go fun h _ => c h.2⟩
  · intro n _ ⟨_, hs⟩
    show q_ok (f_Mod_hasPoint_b2 (f_Mod_hasPoint_l2 n) x t 100 m) _
    unfold f_Mod_hasPoint_b2
    rw [if_pos (by decide), x_rz0]
    refine o_some ⟨rfl, Or.inr ⟨rfl, ?_⟩⟩
    rintro ⟨p, hp, h1, h2⟩
    exact hs p hp hp.1.2 ⟨h1, h2⟩
theorem m_idle (hk : k_ok l o) (hm : k_M l o m) (hpl : k_plan l m (o 0) (o 1) (o 2) (o 3)) {x lo hi : Int} (h0 : 0 ≤ x) (h1 : x < g_cc l (o 2) (o 3)) (hx : q_32 x) (hlo : f_lo l o x lo) (hhi : f_hi l o x hi) : q_ok (f_Mod_idle_l21 q_F x 0 0 lo m) (fun r m' => m' = m ∧ r = min (hi - lo) (d_s1 o - 1)) := by
  have hg := hk.1
  have hlat := g_lat_rg hg hk.2.2.2.1 hk.2.2.2.2.1
  have hfar := d_far hk hlo hhi
  have hlr : 0 ≤ lo ∧ lo < 163 := by
    obtain ⟨⟨p, hp, cp, tp⟩, _⟩ := hlo
    have := g_tk_rg hg (o 0) (o 1) hp
    omega
  have hhr : 0 ≤ hi ∧ hi < 163 := by
    obtain ⟨⟨p, hp, cp, tp⟩, _⟩ := hhi
    have := g_tk_rg hg (o 0) (o 1) hp
    omega
  have hs1 : 1 ≤ d_s1 o := by unfold d_s1; omega
  obtain ⟨hi', m1, e1, em1, hh⟩ := m_lastTick hk hm hpl h0 h1 hx
  rw [em1, f_hi_u hh hhi] at e1
  refine o_upF (fun n k (z : Int × Int) => f_Mod_idle_l21 n x z.1 z.2 k m) (fun k z => lo ≤ k ∧ ((k = lo ∧ z.1 = 0 ∧ z.2 = 0) ∨ (lo < k ∧ z.1 = min (k - 1 - lo) (d_s1 o - 1) ∧ ∃ c, 0 ≤ c ∧ k - 1 - lo = c * d_s1 o + z.2 ∧ 0 ≤ z.2 ∧ z.2 < d_s1 o))) _ (k := lo) (e := hi + 1) (s := (0, 0)) (by omega) (by omega) ⟨Int.le_refl _, Or.inl ⟨rfl, rfl, rfl⟩⟩ ?_ ?_
  · intro n k z hk1 ⟨k0, hz⟩ hn
    have zr : (0 ≤ z.1 ∧ z.1 < 1000) ∧ (0 ≤ z.2 ∧ z.2 < 1000) := by
      rcases hz with ⟨_, z1, z2⟩ | ⟨hk2, z1, c, c0, ec, r0, r1⟩
      · omega
      · have := Int.mul_nonneg c0 (show 0 ≤ d_s1 o by omega)
        omega
    have hD := d_has hk hlo hhi k0 (show k ≤ hi by omega)
    show q_ok (f_Mod_idle_b21 (f_Mod_idle_l21 n) x z.1 z.2 k m) _
    unfold f_Mod_idle_b21 f_Mod_idle_b48
    rw [e1, x_bd, q_w_id (x := hi) (by omega) (by omega), q_w_id (x := k) (by omega) (by omega), if_neg (by omega)]
    refine o_bd (m_hasPoint hk hm hpl hx (t := k) ⟨by omega, by omega⟩) fun v m2 ⟨em2, hv⟩ => ?_
    rw [em2]
    rcases hv with ⟨ev, hon⟩ | ⟨ev, hon⟩
    · rw [ev, x_w1, if_neg (by decide), m_more (by omega) (by omega), x_bd]
      obtain ⟨c, c0, ec⟩ := hD.mp hon
      refine hn (max z.1 0, 0) ⟨by omega, Or.inr ⟨by omega, ?_, c, c0, by show k + 1 - 1 - lo = c * d_s1 o + 0; omega, Int.le_refl _, by show 0 < d_s1 o; omega⟩⟩
      show max z.1 0 = min (k + 1 - 1 - lo) (d_s1 o - 1)
      rcases hz with ⟨z0, z1, z2⟩ | ⟨hk2, z1, _⟩
      · omega
      · have c1 : 1 ≤ c := by
          refine Classical.byContradiction fun hc => ?_
          have : c = 0 := by omega
          rw [this, Int.zero_mul] at ec
          omega
        have := Int.mul_le_mul_of_nonneg_right c1 (show 0 ≤ d_s1 o by omega)
        omega
    · rw [ev, x_w0, if_pos rfl, m_more (by omega) (by omega), x_bd]
      rcases hz with ⟨z0, z1, z2⟩ | ⟨hk2, z1, c, c0, ec, r0, r1⟩
      · exact absurd (hD.mpr ⟨0, by omega, by omega⟩) hon
      · have hne : z.2 + 1 ≠ d_s1 o := by
          intro e
          refine hon (hD.mpr ⟨c + 1, by omega, ?_⟩)
          rw [Int.add_mul, Int.one_mul]
          omega
        refine hn (max z.1 (z.2 + 1), z.2 + 1) ⟨by omega, Or.inr ⟨by omega, ?_, c, c0, by show k + 1 - 1 - lo = c * d_s1 o + (z.2 + 1); omega, by show 0 ≤ z.2 + 1; omega, by show z.2 + 1 < d_s1 o; omega⟩⟩
        show max z.1 (z.2 + 1) = min (k + 1 - 1 - lo) (d_s1 o - 1)
        by_cases cc : c = 0
        · rw [cc, Int.zero_mul] at ec
          omega
        · have := Int.mul_le_mul_of_nonneg_right (show 1 ≤ c by omega) (show 0 ≤ d_s1 o by omega)
          omega
  · intro n z ⟨k0, hz⟩
    show q_ok (f_Mod_idle_b21 (f_Mod_idle_l21 n) x z.1 z.2 (hi + 1) m) _
    unfold f_Mod_idle_b21
    rw [e1, x_bd, q_w_id (x := hi) (by omega) (by omega), q_w_id (x := hi + 1) (by omega) (by omega), if_pos (by omega)]
    refine o_rt ⟨rfl, ?_⟩
    rcases hz with ⟨z0, z1, z2⟩ | ⟨hk2, z1, _⟩
    · omega
    · omega
theorem b_idle (hk : k_ok l o) {x : Int} (hx : q_32 x) : k_both l o (f_PG_idle x) (f_Mod_idle x) := by
  intro mc mm hc hm
  have hg := hk.1
  have hl := hk.2.2.1
  have hx' := hx
  unfold q_32 at hx'
  have hcc := g_cc_eq hg hl
  obtain ⟨_, m1, e1, f1, k1, q1, _⟩ := s_layNow hk hm
  have hcr := g_cnt_rg (fun k => g_oc l (o 2) (o 3) (k + g_ls (l 0 0) (l 0 1) (o 3) (-o 2))) 55
  have hc55 := k_cc hg hl.1 hl.2.1
  have h10 : mc 60 10 = g_cc l (o 2) (o 3) := by rw [hcc]; exact hc.2.2.2.1.2.2.2.2.2.2.2.1
  have h11 : mc 60 11 = d_st o := hc.2.2.2.1.2.2.2.2.2.2.2.2
  have h54 : m1 81 54 = g_cc l (o 2) (o 3) := by rw [hcc]; exact q1.2.2.2.1
  have hcC : f_PG_isCell x mc = some (if 0 ≤ x ∧ x < g_cc l (o 2) (o 3) then 1 else 0, mc) := by
    unfold f_PG_isCell
    rw [h10]
    simp (disch := omega) only [x_bd, x_rt, x_pf, x_lt, x_fi, x_rz0, x_rz1, x_rzi, x_pz0, x_pz1, x_rd, x_wr, x_wrz, x_dv, x_md, q_w_id, x_wi, x_i0, x_i1, x_max, x_min, x_abs, ↓reduceIte, Int.reduceEq, Int.reduceLT, Int.reduceLE, Int.reduceNeg, if_true, if_false]
    grind
  have hcM : f_Mod_isCell x mm = some (if 0 ≤ x ∧ x < g_cc l (o 2) (o 3) then 1 else 0, m1) := by
    unfold f_Mod_isCell
    rw [e1, x_bd, h54, m_isIn hx' (by omega) (by omega), x_bd, x_rzi]
    by_cases c : 0 ≤ x ∧ x < g_cc l (o 2) (o 3)
    · rw [if_pos c, if_pos (by omega)]
    · rw [if_neg c, if_neg (by omega)]
  unfold f_PG_idle f_Mod_idle
  rw [hcC, hcM, x_bd, x_bd]
  by_cases cx : ¬ (0 ≤ x ∧ x < g_cc l (o 2) (o 3))
  · rw [if_neg cx, x_w0, if_pos rfl, if_pos rfl]
    exact ⟨-1, -1, mc, m1, rfl, rfl, rfl, ⟨k_fc_id _, hc⟩, f1⟩
  replace cx := Classical.not_not.mp cx
  rw [if_pos cx, x_w1]
  simp only [if_neg (show ¬ (1 : Int) = 0 by decide)]
  obtain ⟨lo, m2, e2, em2, hlo⟩ := m_firstTick hk k1 q1 cx.1 cx.2 hx
  obtain ⟨hi, m3, e3, em3, hhi⟩ := m_lastTick hk k1 q1 cx.1 cx.2 hx
  rw [em2] at e2
  obtain ⟨r', m4, e4, em4, er⟩ := m_idle hk k1 q1 cx.1 cx.2 hx hlo hhi
  rw [em4] at e4
  rw [e2, x_bd, e4]
  have hfar := d_far hk hlo hhi
  have hst : 0 ≤ d_st o ∧ d_st o < 1000 := by
    have := x_mul (x := o 0) (z := o 2) (a := 9) (b := 3) (by have := hk.2.2.2.1; omega) (by have := hk.2.2.2.1; omega) (by have := hl.1; omega) (by have := hl.1; omega)
    have := x_mul (x := o 1) (z := o 3) (a := 9) (b := 3) (by have := hk.2.2.2.2.1; omega) (by have := hk.2.2.2.2.1; omega) (by have := hl.2.1; omega) (by have := hl.2.1; omega)
    unfold d_st
    omega
  have hca := g_ca_rg l (fun p => g_ce l (o 2) (o 3) p == x)
  have hs1 : d_s1 o = max (d_st o) 1 := rfl
  have hC : f_Plac_longestPause x mc = some (r', mc) := by
    unfold f_Plac_longestPause
    rw [c_pointsOf hk hc hx, x_bd, q_w_id (x := g_ca l (fun p => g_ce l (o 2) (o 3) p == x)) (by omega) (by omega), h11, q_w_id (x := d_st o) (by omega) (by omega)]
    by_cases cst : 0 < d_st o
    · have hmany := d_many hk hlo hhi cst
      by_cases cl : lo < hi
      · have := hmany.mpr cl
        have h9 := hfar.2 cl
        rw [if_neg (by omega), if_neg (by omega), x_rt, er]
        rw [show min (hi - lo) (d_s1 o - 1) = d_st o - 1 by omega]
      · have hn : ¬ 1 < g_ca l (fun p => g_ce l (o 2) (o 3) p == x) := fun h => cl (hmany.mp h)
        rw [if_pos (by omega), x_rt, er]
        rw [show min (hi - lo) (d_s1 o - 1) = 0 by omega]
    · have : ¬ lo < hi := fun h => cst (hfar.2 h).1
      have e0 : r' = 0 := by omega
      rw [e0, if_pos (show d_st o ≤ 0 by omega)]
      split <;> rfl
  rw [hC, x_bd]
  exact ⟨r', r', mc, m1, rfl, rfl, rfl, ⟨k_fc_id _, hc⟩, f1⟩
end idle
