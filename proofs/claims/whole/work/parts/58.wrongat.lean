/-! QUESTION: wrongAt -/
/-- the x-th point of a kind, or none -/
def f_nth (l : q_Mem) (X : Int → Bool) (x r : Int) : Prop := (g_pt l r ∧ X r = true ∧ g_cp l (k_idx l r) X = x) ∨ (r = -1 ∧ ∀ p, g_pt l p → X p = true → g_cp l (k_idx l p) X ≠ x)
theorem g_cp_mono {l : q_Mem} (hg : g_lw l) {X : Int → Bool} {p q : Int} (hp : g_pt l p) (hX : X p = true) (hq : g_pt l q) (h : k_idx l p < k_idx l q) : g_cp l (k_idx l p) X < g_cp l (k_idx l q) X := by
  have a := k_idx_pt hg hp
  have b := k_idx_pt hg hq
  have e := g_cp_s hg X (k := k_idx l p) a.1.1 a.1.2
  rw [a.2, if_pos hX] at e
  have hle : g_cp l (k_idx l p + 1) X ≤ g_cp l (k_idx l q) X := by
    refine g_cnt_le fun k k0 k1 hk => ?_
    simp only [Bool.and_eq_true, decide_eq_true_iff] at hk ⊢
    exact ⟨hk.1, by omega, hk.2.2⟩
  omega
theorem f_nth_u {l : q_Mem} (hg : g_lw l) {X : Int → Bool} {x r r' : Int} (h : f_nth l X x r) (h' : f_nth l X x r') : r = r' := by
  rcases h with ⟨h1, h2, h3⟩ | ⟨rfl, h⟩ <;> rcases h' with ⟨h1', h2', h3'⟩ | ⟨rfl, h'⟩
  · by_cases c : k_idx l r = k_idx l r'
    · have a := (k_idx_pt hg h1).2
      have b := (k_idx_pt hg h1').2
      rw [c, b] at a
      exact a.symm
    · by_cases c2 : k_idx l r < k_idx l r'
      · have := g_cp_mono hg h1 h2 h1' c2; omega
      · have := g_cp_mono hg h1' h2' h1 (by omega); omega
  · exact absurd h3 (h' r h1 h2)
  · exact absurd h3' (h r' h1' h2')
  · rfl
theorem g_cnt_cut (P : Int → Bool) {p : Int} (h0 : 0 ≤ p) : ∀ n : Nat, p ≤ n → g_cnt (fun q => P q && decide (q < p)) n = g_cnt P p.toNat := by
  have small : ∀ n : Nat, (n : Int) ≤ p → g_cnt (fun q => P q && decide (q < p)) n = g_cnt P n := by
    intro n hn
    refine g_cnt_congr fun k k0 k1 => ?_
    rw [decide_eq_true (show k < p by omega), Bool.and_true]
  intro n
  induction n with
  | zero => intro h; rw [show p.toNat = 0 by omega]; rfl
  | succ n ih =>
    intro h
    by_cases c : p = ((n + 1 : Nat) : Int)
    · rw [show p.toNat = n + 1 by omega]
      exact small (n + 1) (by omega)
    · show g_cnt (fun q => P q && decide (q < p)) n + (if (P n && decide ((n : Int) < p)) = true then 1 else 0) = _
      rw [ih (by omega), decide_eq_false (show ¬ (n : Int) < p by omega), Bool.and_false]
      exact Int.add_zero _
theorem g_cp_cut {l : q_Mem} (hg : g_lw l) (X : Int → Bool) {p : Int} (hp : g_pt l p) : g_cp l (k_idx l p) X = g_cnt (fun q => decide (g_th (l 0 0) (l 0 1) q) && X q) p.toNat := by
  rw [← g_cnt_cut _ hp.1.1 100 (by have := hp.1; omega)]
  refine g_cnt_congr fun q q0 q1 => ?_
  by_cases ct : g_th (l 0 0) (l 0 1) q
  · have hq : g_pt l q := ⟨⟨q0, q1⟩, ct⟩
    have e : decide (k_idx l q < k_idx l p) = decide (q < p) := by
      rw [decide_eq_decide]
      refine ⟨fun h => ?_, fun h => k_idx_lt hg hp hq h⟩
      refine Classical.byContradiction fun hn => ?_
      by_cases c : q = p
      · rw [c] at h; omega
      · have := k_idx_lt hg hq hp (by omega); omega
    rw [e, decide_eq_true ct, Bool.true_and, Bool.true_and, Bool.and_comm]
  · rw [decide_eq_false ct, Bool.false_and, Bool.false_and, Bool.false_and]
section wrongat
variable {l m : q_Mem} {o : Int → Int}
theorem c_wrongAt (hg : g_lw l) (hc : k_C l o m) {x : Int} (hx : q_32 x) : q_ok (f_PG_wrongAt_l8 q_F x 0 0 m) (fun r m' => m' = m ∧ f_nth l (f_wr l (m 54) (m 74) (m 75)) x r) := by
  have hRC := g_RC hg
  unfold q_32 at hx
  refine o_upF (fun n k (a : Int) => f_PG_wrongAt_l8 n x a k m) (fun k a => 0 ≤ k ∧ a = g_cp l k (f_wr l (m 54) (m 74) (m 75)) ∧ ∀ p, g_pt l p → k_idx l p < k → f_wr l (m 54) (m 74) (m 75) p = true → g_cp l (k_idx l p) (f_wr l (m 54) (m 74) (m 75)) ≠ x) _ (k := 0) (e := l 0 0 * l 0 1) (s := 0) (by omega) (by omega) ⟨by omega, (g_cp_0 hg _).symm, fun p hp h => by have := (k_idx_pt hg hp).1; omega⟩ ?_ ?_
  · intro n k a hk ⟨k0, ea, he⟩ hn
    obtain ⟨hp, hidx⟩ := k_at_pt hg k0 hk
    have es := g_cp_s hg (f_wr l (m 54) (m 74) (m 75)) k0 hk
    have har := g_cp_rg l k (f_wr l (m 54) (m 74) (m 75))
    show q_ok (f_PG_wrongAt_b8 (f_PG_wrongAt_l8 n) x a k m) _
    unfold f_PG_wrongAt_b8 f_PG_wrongAt_b56
    rw [x_lt, x_one hc.1.1, c_points hc.1.2, x_bd, q_w_id (by omega) (by omega), q_w_id (x := k) (by omega) (by omega), if_neg (by omega), x_lt, x_one hc.1.1, c_pointAt hc.1.2 hg ⟨k0, by omega⟩, x_bd]
    revert hp hidx es
    generalize k / l 0 1 * 10 + k % l 0 1 = p
    intro hp hidx es
    rw [c_isWrong hg hc hp, x_bd, x_wi]
    simp only [x_i0]
    have uniq : ∀ q, g_pt l q → k_idx l q = k → q = p := by
      intro q hq e
      have a1 := (k_idx_pt hg hq).2
      have a2 := (k_idx_pt hg hp).2
      rw [e] at a1
      rw [hidx] at a2
      exact a1.symm.trans a2
    by_cases cw : f_wr l (m 54) (m 74) (m 75) p = true
    · rw [if_pos cw] at es
      rw [if_neg (fun h => h cw), q_w_id (x := a) (by omega) (by omega), q_w_id (x := x) (by omega) (by omega)]
      by_cases c : a = x
      · rw [if_pos c]
        exact o_rt ⟨rfl, Or.inl ⟨hp, cw, by rw [hidx, ← ea]; exact c⟩⟩
      · rw [if_neg c]
        refine hn (a + 1) ⟨by omega, by omega, fun q hq hlt hw => ?_⟩
        by_cases c2 : k_idx l q = k
        · rw [c2, ← ea]; exact c
        · exact he q hq (by omega) hw
    · rw [if_neg cw] at es
      rw [if_pos cw]
      refine hn a ⟨by omega, by omega, fun q hq hlt hw => ?_⟩
      by_cases c2 : k_idx l q = k
      · rw [uniq q hq c2] at hw; exact absurd hw cw
      · exact he q hq (by omega) hw
  · intro n a ⟨k0, ea, he⟩
    show q_ok (f_PG_wrongAt_b8 (f_PG_wrongAt_l8 n) x a _ m) _
    unfold f_PG_wrongAt_b8
    rw [x_lt, x_one hc.1.1, c_points hc.1.2, x_bd, if_pos (Int.le_refl _)]
    exact o_rt ⟨rfl, Or.inr ⟨rfl, fun p hp hw => he p hp (k_idx_pt hg hp).1.2 hw⟩⟩
theorem m_wrongMany2 (hk : k_ok l o) (hm : k_M l o m) : q_ok (f_Mod_wrongMany m) (fun r m' => k_fm m m' ∧ k_M l o m' ∧ (0 ≤ r ∧ r ≤ 100) ∧ (∀ p, g_pt l p → -1 ≤ m' 106 p ∧ m' 106 p < 100) ∧ r = g_ca l (f_wr l (m' 106) (m' 110) (m' 111)) ∧ ∀ D V R, g_isD l D → (∀ p, g_pt l p → -1 ≤ D p) → f_V l D (fun p => 0 ≤ D p) (-1) (-1) V → k_run l o (o 5) R → ∀ p, g_pt l p → f_wr l (m' 106) (m' 110) (m' 111) p = f_wr l D V R p) := by
  unfold f_Mod_wrongMany
  refine o_bd (s_layNow hk hm) fun _ m1 ⟨f1, k1, p1, _⟩ => ?_
  refine o_bd (s_layRun hk k1 p1) fun _ m2 ⟨f2, k2, g2, r2⟩ => ?_
  refine o_bd (m_layValues k2.1 k2.2.1 hk.1 hk.2.1) fun _ m3 ⟨g3, d3, r3, v3, _⟩ => ?_
  have f3 : k_fm m2 m3 := k_fm_dep fun c c1 c2 c3 c4 c5 c6 => g3 c c1 c3 c5 c6
  have k3 := k_M_fr k2 f3
  have e111 : m3 111 = m2 111 := g3 111 (by decide) (by decide) (by decide) (by decide)
  have hc : f_Mod_wrongMany_l16 q_F 0 0 m3 = some (g_ca l (f_wr l (m3 106) (m3 110) (m3 111)), m3) := by
    refine o_cnt (fun n a k => f_Mod_wrongMany_l16 n a k m3) (fun k => decide (g_th (l 0 0) (l 0 1) k) && f_wr l (m3 106) (m3 110) (m3 111) k) 100 (by omega) ?_ ?_
    · intro n a k k0 k1 a0 a1
      show f_Mod_wrongMany_b16 (f_Mod_wrongMany_l16 n) a k m3 = _
      unfold f_Mod_wrongMany_b16 f_Mod_wrongMany_b36
      rw [q_w_id (by omega) (by omega), if_neg (by omega), m_isWrong hk.1 k3.1 r3 ⟨k0, by omega⟩, x_bd, x_wi]
      simp only [x_i0]
      by_cases c : (decide (g_th (l 0 0) (l 0 1) k) && f_wr l (m3 106) (m3 110) (m3 111) k) = true
      · rw [if_neg (fun h => h c), if_pos c]
      · rw [if_pos c, if_neg c]
    · intro n
      show f_Mod_wrongMany_b16 (f_Mod_wrongMany_l16 n) _ 100 m3 = _
      unfold f_Mod_wrongMany_b16
      rw [if_pos (by decide)]
      rfl
  rw [hc]
  refine o_some ⟨k_fm_tr f1 (k_fm_tr f2 f3), k3, g_ca_rg _ _, r3, rfl, fun D V R hD hDr hV hR p hp => ?_⟩
  rw [e111]
  exact (f_wr_same hk.1 hk.2.1 hD d3 (fun p hp => (r3 p hp).1) hV v3 (fun p hp => by have := g_tk_rg hk.1 (o 0) (o 1) hp; omega) hR r2 p hp).symm
theorem b_wrongAt (hk : k_ok l o) {x : Int} (hx : q_32 x) : k_both l o (f_PG_wrongAt x) (f_Mod_wrongAt x) := by
  intro mc mm hc hm
  have hg := hk.1
  have hx' := hx
  unfold q_32 at hx'
  obtain ⟨_, m1, e1, f1, _, c1, _, r1⟩ := s_freshenRun hk hc
  obtain ⟨r, m1', e2, rfl, h2⟩ := c_wrongAt hg c1 hx
  obtain ⟨t, m3, e3, f3, k3, ht, r3, et, w3⟩ := m_wrongMany2 hk hm
  have hw := w3 (m1' 54) (m1' 74) (m1' 75) c1.2.2.1.1 (fun p hp => (c1.2.2.1.2.2.1 p hp).1) c1.2.2.2.2.1 r1
  have hcp : ∀ k, g_cp l k (f_wr l (m3 106) (m3 110) (m3 111)) = g_cp l k (f_wr l (m1' 54) (m1' 74) (m1' 75)) := fun k => g_cp_congr hw
  have hM : q_ok (f_Mod_wrongAt x mm) (fun r m' => m' = m3 ∧ f_nth l (f_wr l (m3 106) (m3 110) (m3 111)) x r) := by
    unfold f_Mod_wrongAt f_Mod_wrongAt_b16 f_Mod_wrongAt_b17
    rw [e3, x_bd, q_w_id (x := t) (by omega) (by omega), q_w_id (x := x) (by omega) (by omega), if_neg (show ¬ (0 ≤ q_w (-1)) by decide)]
    have no : (t ≤ x ∨ x < 0) → q_ok (q_rt (-1) m3) (fun r m' => m' = m3 ∧ f_nth l (f_wr l (m3 106) (m3 110) (m3 111)) x r) := by
      intro h
      refine o_rt ⟨rfl, Or.inr ⟨rfl, fun p hp hX he => ?_⟩⟩
      have a := k_idx_pt hg hp
      have b := g_cp_rg l (k_idx l p) (f_wr l (m3 106) (m3 110) (m3 111))
      have e := g_cp_s hg (f_wr l (m3 106) (m3 110) (m3 111)) a.1.1 a.1.2
      rw [a.2, if_pos hX] at e
      have hle : g_cp l (k_idx l p + 1) (f_wr l (m3 106) (m3 110) (m3 111)) ≤ t := by
        rw [et, ← g_cp_all hg]
        refine g_cnt_le fun k k0 k1 hk => ?_
        simp only [Bool.and_eq_true, decide_eq_true_iff] at hk ⊢
        exact ⟨hk.1, by omega, hk.2.2⟩
      omega
    by_cases ct : t ≤ x
    · rw [if_pos ct]
      exact no (Or.inl ct)
    rw [if_neg ct]
    by_cases cn : x < 0
    · rw [if_pos cn]
      exact no (Or.inr cn)
    rw [if_neg cn, if_pos (by omega)]
    refine o_upF (fun n k (s : Int) => f_Mod_wrongAt_l26 n s k m3) (fun k s => 0 ≤ k ∧ 0 ≤ s ∧ s = x - g_cnt (fun q => decide (g_th (l 0 0) (l 0 1) q) && f_wr l (m3 106) (m3 110) (m3 111) q) k.toNat) _ (k := 0) (e := 100) (s := x) (by omega) (by omega) ⟨by omega, by omega, by show x = x - 0; omega⟩ ?_ ?_
    · intro n p s hp ⟨p0, hs, es⟩ hn
      have e := g_cnt_s (fun q => decide (g_th (l 0 0) (l 0 1) q) && f_wr l (m3 106) (m3 110) (m3 111) q) p0
      show q_ok (f_Mod_wrongAt_b26 (f_Mod_wrongAt_l26 n) s p m3) _
      unfold f_Mod_wrongAt_b26 f_Mod_wrongAt_b38 f_Mod_wrongAt_b52
      have hcr := g_cnt_rg (fun q => decide (g_th (l 0 0) (l 0 1) q) && f_wr l (m3 106) (m3 110) (m3 111) q) p.toNat
      simp only [m_isWrong hg k3.1 r3 ⟨p0, hp⟩, x_bd, x_wi, x_i0]
      by_cases cw : (decide (g_th (l 0 0) (l 0 1) p) && f_wr l (m3 106) (m3 110) (m3 111) p) = true
      · rw [if_pos cw] at e
        rw [if_neg (fun h => h cw), q_w_id (x := s) (by omega) (by omega)]
        by_cases c0 : s ≤ 0
        · rw [if_pos c0]
          have cw' := Bool.and_eq_true_iff.mp cw
          have hpp : g_pt l p := ⟨⟨p0, hp⟩, of_decide_eq_true cw'.1⟩
          exact o_rt ⟨rfl, Or.inl ⟨hpp, cw'.2, by rw [g_cp_cut hg _ hpp]; omega⟩⟩
        · rw [if_neg c0, if_neg (fun h => h cw)]
          exact hn (s - 1) ⟨by omega, by omega, by omega⟩
      · rw [if_neg cw] at e
        rw [if_pos cw, if_pos cw]
        exact hn (s - 0) ⟨by omega, by omega, by omega⟩
    · intro n s ⟨_, hs, es⟩
      have : g_cnt (fun q => decide (g_th (l 0 0) (l 0 1) q) && f_wr l (m3 106) (m3 110) (m3 111) q) (100 : Int).toNat = t := et.symm
      omega
  obtain ⟨r', m4, e4, rfl, h4⟩ := hM
  refine ⟨r, r', m1', m4, ?_, e4, ?_, ⟨f1, c1⟩, f3⟩
  · unfold f_PG_wrongAt
    rw [e1, x_bd]
    exact e2
  · have h4' : f_nth l (f_wr l (m1' 54) (m1' 74) (m1' 75)) x r' := by
      rcases h4 with ⟨a, b, c⟩ | ⟨a, b⟩
      · exact Or.inl ⟨a, by rw [← hw r' a]; exact b, by rw [← hcp]; exact c⟩
      · exact Or.inr ⟨a, fun p hp hX => by rw [← hcp]; exact b p hp (by rw [hw p hp]; exact hX)⟩
    rw [f_nth_u hg h2 h4']
end wrongat
