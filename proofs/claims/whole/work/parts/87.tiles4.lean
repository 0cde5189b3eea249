/-! TILES: the class's numbers of tiles; who waits for how many -/
def i_A (l : q_Mem) (c : Int) : Int := (l 0 1 + c - 1) / c
def i_N (l : q_Mem) (r c : Int) : Int := (l 0 0 + r - 1) / r * i_A l c
/-- the class's number of the model's tile t -/
def i_cl (l : q_Mem) (c t : Int) : Int := t / 10 * i_A l c + t % 10
section tiles4
variable {l m : q_Mem} {r c t : Int}
theorem i_ceil {x w i : Int} (hw : 1 ≤ w) (h0 : 0 ≤ i) (h1 : i < x) : 0 ≤ i / w ∧ i / w < (x + w - 1) / w := by
  refine ⟨Int.ediv_nonneg h0 (by omega), ?_⟩
  have e : (i + w) / w = i / w + 1 := Int.add_ediv_of_dvd_right (Int.dvd_refl w) |>.trans (by rw [Int.ediv_self (by omega)])
  have : (i + w) / w ≤ (x + w - 1) / w := Int.ediv_le_ediv (by omega) (by omega)
  omega
theorem i_K_eq (r c p : Int) (hc : 1 ≤ c) (hp : 0 ≤ p ∧ p < 100) : i_K r c (i_A l c) p = i_cl l c (i_T r c p) := by
  have b := i_div (x := p % 10) (r := c) (by omega) (by omega) hc
  unfold i_K i_cl i_T
  rw [show (10 * (p / 10 / r) + p % 10 / c) / 10 = p / 10 / r by omega, show (10 * (p / 10 / r) + p % 10 / c) % 10 = p % 10 / c by omega]
theorem i_K_rg (hw : g_lw l) (hr : 1 ≤ r ∧ r ≤ 10) (hc : 1 ≤ c ∧ c ≤ 10) {p : Int} (hp : g_pt l p) : 0 ≤ i_K r c (i_A l c) p ∧ i_K r c (i_A l c) p < i_N l r c := by
  have p1 := hp.1
  have p2 := hp.2
  unfold g_th at p2
  have a := i_ceil (x := l 0 0) (w := r) (i := p / 10) hr.1 (by omega) (by omega)
  have b := i_ceil (x := l 0 1) (w := c) (i := p % 10) hc.1 (by omega) (by omega)
  have dA := i_up hw.2.1 hc
  unfold i_K i_N
  have hm : p / 10 / r * i_A l c ≤ ((l 0 0 + r - 1) / r - 1) * i_A l c := Int.mul_le_mul_of_nonneg_right (by omega) (by unfold i_A; omega)
  have hn : 0 ≤ p / 10 / r * i_A l c := Int.mul_nonneg a.1 (by unfold i_A; omega)
  rw [Int.sub_mul, Int.one_mul] at hm
  unfold i_A at *
  omega
theorem i_N_rg (hw : g_lw l) (hr : 1 ≤ r ∧ r ≤ 10) (hc : 1 ≤ c ∧ c ≤ 10) : 1 ≤ i_N l r c ∧ i_N l r c ≤ 100 := by
  have d1 := i_up hw.1 hr
  have d2 := i_up hw.2.1 hc
  have h1 := x_mulp (x := (l 0 0 + r - 1) / r) (z := (l 0 1 + c - 1) / c) (a := 10) (b := 10) (by omega) (by omega) (by omega) (by omega)
  have h2 : 1 * 1 ≤ (l 0 0 + r - 1) / r * ((l 0 1 + c - 1) / c) := Int.mul_le_mul d1.1 d2.1 (by omega) (by omega)
  unfold i_N i_A
  omega
/-- two points are of one tile, by either number -/
theorem i_K_iff (hw : g_lw l) (hr : 1 ≤ r ∧ r ≤ 10) (hc : 1 ≤ c ∧ c ≤ 10) {p q : Int} (hp : g_pt l p) (hq : g_pt l q) : i_K r c (i_A l c) p = i_K r c (i_A l c) q ↔ i_T r c p = i_T r c q := by
  constructor
  · intro h
    rw [i_T_eq hr.1 hc.1 hp.1 hq.1]
    have p1 := hp.1
    have p2 := hp.2
    have q1 := hq.1
    have q2 := hq.2
    unfold g_th at p2 q2
    have bp := i_ceil (x := l 0 1) (w := c) (i := p % 10) hc.1 (by omega) (by omega)
    have bq := i_ceil (x := l 0 1) (w := c) (i := q % 10) hc.1 (by omega) (by omega)
    unfold i_K at h
    have hA : 0 < i_A l c := by unfold i_A; omega
    have e1 : (p / 10 / r * i_A l c + p % 10 / c) / i_A l c = p / 10 / r := by
      rw [Int.add_comm, Int.add_mul_ediv_right _ _ (by omega), show p % 10 / c / i_A l c = 0 from Int.ediv_eq_zero_of_lt bp.1 bp.2, Int.zero_add]
    have e2 : (q / 10 / r * i_A l c + q % 10 / c) / i_A l c = q / 10 / r := by
      rw [Int.add_comm, Int.add_mul_ediv_right _ _ (by omega), show q % 10 / c / i_A l c = 0 from Int.ediv_eq_zero_of_lt bq.1 bq.2, Int.zero_add]
    have e3 : p / 10 / r = q / 10 / r := by rw [← e1, ← e2, h]
    rw [e3] at h
    exact ⟨e3, by omega⟩
  · intro h
    rw [i_K_eq r c p hc.1 hp.1, i_K_eq r c q hc.1 hq.1, h]
theorem c_tileOf (hr : 1 ≤ r ∧ r ≤ 10) (hc : 1 ≤ c ∧ c ≤ 10) (e3 : m 69 3 = r) (e4 : m 69 4 = c) (e5 : m 69 5 = i_A l c) {p : Int} (hp : 0 ≤ p ∧ p < 100) : f_Tile_tileOf p m = some (i_K r c (i_A l c) p, m) := by
  have a := i_div (x := p / 10) (r := r) (by omega) (by omega) hr.1
  unfold f_Tile_tileOf i_K
  rw [x_dv (by omega) (by omega) (by decide) (by decide), e3, x_dv (by omega) (by omega) (by omega) (by omega), x_md (by omega) (by omega) (by decide) (by decide), e4, x_dv (by omega) (by omega) (by omega) (by omega), e5, x_rt]
/-- the edges: point q reads by offset o one of another tile; coded 12 q + o -/
def i_E (l : q_Mem) (r c e : Int) : Bool := decide (g_th (l 0 0) (l 0 1) (e / 12)) && (decide (e % 12 < l 0 5) && i_x l r c (e / 12) (e % 12))
def i_sr (l : q_Mem) (r c e : Int) : Int := i_K r c (i_A l c) (g_tg l (e / 12) (e % 12))
def i_tl (l : q_Mem) (r c e : Int) : Int := i_K r c (i_A l c) (e / 12)
def i_W (l : q_Mem) (r c : Int) (R : Int → Bool) (k : Int) : Int := g_cnt (fun e => i_E l r c e && i_tl l r c e == k && !R e) 1200
theorem i_E_of (hw : g_lw l) {e : Int} (h0 : 0 ≤ e) (h1 : e < 1200) (h : i_E l r c e = true) : g_pt l (e / 12) ∧ (0 ≤ e % 12 ∧ e % 12 < l 0 5) ∧ i_x l r c (e / 12) (e % 12) = true ∧ g_tg l (e / 12) (e % 12) ≠ -1 ∧ g_pt l (g_tg l (e / 12) (e % 12)) := by
  unfold i_E at h
  simp at h
  have hx := h.2.2
  unfold i_x at hx
  simp at hx
  exact ⟨⟨by omega, h.1⟩, ⟨by omega, h.2.1⟩, h.2.2, hx.1, g_tg_pt hw hx.1⟩
theorem i_cnt_step {P P' : Int → Bool} {n : Nat} {e : Int} (h0 : 0 ≤ e) (h1 : e < n) (h : ∀ k : Int, 0 ≤ k → k < n → k ≠ e → P' k = P k) (hP : P e = false) : g_cnt P' n = g_cnt P n + (if P' e = true then 1 else 0) := by
  by_cases c : P' e = true
  · rw [if_pos c]; exact g_cnt_flip h0 h1 h hP c
  · rw [if_neg c, Int.add_zero]
    refine g_cnt_congr fun k k0 k1 => ?_
    by_cases ek : k = e
    · rw [ek, hP]; simpa using c
    · exact h k k0 k1 ek
theorem c_countWaits (ht : t ∈ q_Lp) (hl : g_CL m t l) (hw : g_lw l) (hr : 1 ≤ r ∧ r ≤ 10) (hc : 1 ≤ c ∧ c ≤ 10) (e3 : m 69 3 = r) (e4 : m 69 4 = c) (e5 : m 69 5 = i_A l c) : q_ok (f_Tile_countWaits t m) (fun _ m' => (∀ c', c' ≠ 70 → m' c' = m c') ∧ ∀ k, 0 ≤ k → k < 100 → m' 70 k = i_W l r c (fun _ => false) k) := by
  have hRC := g_RC hw
  have h5 := hw.2.2.2.2.1
  unfold f_Tile_countWaits
  rw [x_fi]
  refine o_upF (fun n k (s : q_Mem) => f_Tile_countWaits_l10 n t k s) (fun k s => 0 ≤ k ∧ (∀ c', c' ≠ 70 → s c' = m c') ∧ ∀ u, 0 ≤ u → u < 100 → s 70 u = g_cnt (fun e => i_E l r c e && i_tl l r c e == u && decide (k_idx l (e / 12) < k)) 1200) _ (k := 0) (e := l 0 0 * l 0 1) (s := q_fill m 70 100 0) (by omega) (by omega) ⟨by omega, fun c' hc' => q_fill_f hc', fun u u0 u1 => ?_⟩ ?_ ?_
  · rw [q_fill_in u0 u1]
    refine (g_cnt_zero.mpr fun e h0 h1 => ?_).symm
    by_cases cE : i_E l r c e = true
    · have := (k_idx_pt hw (i_E_of hw h0 h1 cE).1).1
      have hn : ¬ k_idx l (e / 12) < 0 := by omega
      simp [hn]
    · simp [cE]
  · intro n k s hk ⟨k0, f1, s1⟩ hn
    obtain ⟨hp, hidx⟩ := k_at_pt hw k0 hk
    have hl1 : g_CL s t l := g_CL_of ht hl fun c' hc' => f1 c' (by omega)
    show q_ok (f_Tile_countWaits_b10 (f_Tile_countWaits_l10 n) t k s) _
    unfold f_Tile_countWaits_b10
    rw [c_points hl1, x_bd, q_w_id (by omega) (by omega), q_w_id (x := k) (by omega) (by omega), if_neg (by omega), c_pointAt hl1 hw ⟨k0, by omega⟩, x_bd]
    revert hp hidx
    generalize k / l 0 1 * 10 + k % l 0 1 = p
    intro hp hidx
    have hp' := hp.1
    have uniq : ∀ q, g_pt l q → k_idx l q = k → q = p := by
      intro q hq e
      have a1 := (k_idx_pt hw hq).2
      have a2 := (k_idx_pt hw hp).2
      rw [e] at a1
      rw [hidx] at a2
      exact a1.symm.trans a2
    have hKp := i_K_rg hw hr hc hp
    have hNr := i_N_rg hw hr hc
    rw [c_tileOf (l := l) hr hc (by rw [f1 69 (by decide)]; exact e3) (by rw [f1 69 (by decide)]; exact e4) (by rw [f1 69 (by decide)]; exact e5) hp', x_bd]
    refine o_upF (fun n' o (s' : q_Mem) => f_Tile_countWaits_l34 (f_Tile_countWaits_l10 n) n' t k p (i_K r c (i_A l c) p) o s') (fun o s' => 0 ≤ o ∧ (∀ c', c' ≠ 70 → s' c' = m c') ∧ ∀ u, 0 ≤ u → u < 100 → s' 70 u = g_cnt (fun e => i_E l r c e && i_tl l r c e == u && (decide (k_idx l (e / 12) < k) || (e / 12 == p && decide (e % 12 < o)))) 1200) _ (k := 0) (e := l 0 5) (s := s) (by omega) (by omega) ⟨by omega, f1, fun u u0 u1 => ?_⟩ ?_ ?_
    · rw [s1 u u0 u1]
      refine g_cnt_congr fun e h0 h1 => ?_
      have : ¬ e % 12 < 0 := by omega
      simp [this]
    · intro n' o s2 ho ⟨o0, f2, s2'⟩ hn'
      have hl2 : g_CL s2 t l := g_CL_of ht hl fun c' hc' => f2 c' (by omega)
      have hrg : -1 ≤ g_tg l p o ∧ g_tg l p o < 100 := g_mv_rg _ _ _ _ _ hw.1.2 hw.2.1.2
      have ee : (12 * p + o) / 12 = p ∧ (12 * p + o) % 12 = o := by omega
      -- the edge at hand
      have step : ∀ u, g_cnt (fun e => i_E l r c e && i_tl l r c e == u && (decide (k_idx l (e / 12) < k) || (e / 12 == p && decide (e % 12 < o + 1)))) 1200 = g_cnt (fun e => i_E l r c e && i_tl l r c e == u && (decide (k_idx l (e / 12) < k) || (e / 12 == p && decide (e % 12 < o)))) 1200 + (if i_x l r c p o = true ∧ i_K r c (i_A l c) p = u then 1 else 0) := by
        intro u
        rw [i_cnt_step (P := fun e => i_E l r c e && i_tl l r c e == u && (decide (k_idx l (e / 12) < k) || (e / 12 == p && decide (e % 12 < o)))) (e := 12 * p + o) (by omega) (by show 12 * p + o < 1200; omega) ?_ ?_]
        · have hE : i_E l r c (12 * p + o) = i_x l r c p o := by
            unfold i_E
            rw [ee.1, ee.2]
            have := hp.2
            simp [this, ho]
          have hT : i_tl l r c (12 * p + o) = i_K r c (i_A l c) p := by unfold i_tl; rw [ee.1]
          rw [hE, hT, ee.1, ee.2]
          congr 1
          have h2 : o < o + 1 := by omega
          by_cases cx : i_x l r c p o = true
          · by_cases cu : i_K r c (i_A l c) p = u
            · simp [cx, cu, h2]
            · simp [cu]
          · simp [cx]
        · intro e h0 h1 hne
          by_cases cp : e / 12 = p
          · have h3 : (e % 12 < o + 1) ↔ (e % 12 < o) := by
              constructor
              · intro h; refine Classical.byContradiction fun hh => hne ?_; omega
              · intro h; omega
            simp [cp, h3]
          · simp only [beq_false_of_ne cp, Bool.false_and]
        · rw [ee.1, ee.2, hidx]
          have h1 : ¬ k < k := by omega
          have h2 : ¬ o < o := by omega
          simp
      have skip : i_x l r c p o = false → ∀ u, 0 ≤ u → u < 100 → s2 70 u = g_cnt (fun e => i_E l r c e && i_tl l r c e == u && (decide (k_idx l (e / 12) < k) || (e / 12 == p && decide (e % 12 < o + 1)))) 1200 := by
        intro hx u u0 u1
        rw [step u, if_neg (by rw [hx]; simp), Int.add_zero]
        exact s2' u u0 u1
      show q_ok (f_Tile_countWaits_b34 (f_Tile_countWaits_l10 n) (f_Tile_countWaits_l34 (f_Tile_countWaits_l10 n) n') t k p (i_K r c (i_A l c) p) o s2) _
      unfold f_Tile_countWaits_b34 f_Tile_countWaits_b80
      rw [hl2.1, q_w_id (x := l 0 5) (by omega) (by omega), q_w_id (x := o) (by omega) (by omega), if_neg (by omega), c_target hl2 hw hp' ⟨o0, ho⟩, x_bd, q_w_id (x := g_tg l p o) (by omega) (by omega)]
      by_cases cq : g_tg l p o = -1
      · rw [if_pos cq]
        exact hn' s2 ⟨by omega, f2, skip (by unfold i_x; rw [cq]; rfl)⟩
      · have hq := g_tg_pt hw cq
        have hKq := i_K_rg hw hr hc hq
        rw [if_neg cq, c_tileOf (l := l) hr hc (by rw [f2 69 (by decide)]; exact e3) (by rw [f2 69 (by decide)]; exact e4) (by rw [f2 69 (by decide)]; exact e5) hq.1, x_bd, q_w_id (x := i_K r c (i_A l c) (g_tg l p o)) (by omega) (by omega), q_w_id (x := i_K r c (i_A l c) p) (by omega) (by omega)]
        by_cases ce : i_K r c (i_A l c) (g_tg l p o) = i_K r c (i_A l c) p
        · rw [if_pos ce]
          refine hn' s2 ⟨by omega, f2, skip ?_⟩
          unfold i_x
          rw [(i_K_iff hw hr hc hq hp).mp ce]
          simp
        · have hx : i_x l r c p o = true := by
            unfold i_x
            have : ¬ i_T r c p = i_T r c (g_tg l p o) := fun h => ce ((i_K_iff hw hr hc hq hp).mpr h.symm)
            simp [cq, this]
          rw [if_neg ce, x_rd (n := 100) hKp.1 (by omega) (by decide), x_wr (n := 100) hKp.1 (by omega) (by decide)]
          refine hn' _ ⟨by omega, fun c' hc' => by rw [q_up_f hc']; exact f2 c' hc', fun u u0 u1 => ?_⟩
          rw [step u]
          by_cases cu : u = i_K r c (i_A l c) p
          · rw [cu, q_up_s, if_pos ⟨hx, rfl⟩, s2' _ hKp.1 (by omega)]
          · rw [q_up_i cu, if_neg fun h => cu h.2.symm, Int.add_zero]
            exact s2' u u0 u1
    · intro n' s2 ⟨_, f2, s2'⟩
      have hl2 : g_CL s2 t l := g_CL_of ht hl fun c' hc' => f2 c' (by omega)
      show q_ok (f_Tile_countWaits_b34 (f_Tile_countWaits_l10 n) (f_Tile_countWaits_l34 (f_Tile_countWaits_l10 n) n') t k p (i_K r c (i_A l c) p) (l 0 5) s2) _
      unfold f_Tile_countWaits_b34
      rw [hl2.1, if_pos (Int.le_refl _)]
      refine hn s2 ⟨by omega, f2, fun u u0 u1 => ?_⟩
      rw [s2' u u0 u1]
      refine g_cnt_congr fun e h0 h1 => ?_
      by_cases cE : i_E l r c e = true
      · have hE := i_E_of hw h0 h1 cE
        have h3 : (k_idx l (e / 12) < k ∨ e / 12 = p) ↔ k_idx l (e / 12) < k + 1 := by
          constructor
          · rintro (h | h)
            · omega
            · rw [h, hidx]; omega
          · intro h
            by_cases e2 : k_idx l (e / 12) = k
            · exact Or.inr (uniq _ hE.1 e2)
            · exact Or.inl (by omega)
        have h4 := hE.2.1.2
        simp [cE, h4]
        have hb : (decide (k_idx l (e / 12) < k) || e / 12 == p) = decide (k_idx l (e / 12) < k + 1) := by
          rw [Bool.eq_iff_iff]
          simp only [Bool.or_eq_true, decide_eq_true_eq, beq_iff_eq]
          exact h3
        rw [hb]
      · simp [cE]
  · intro n s ⟨_, f1, s1⟩
    have hl1 : g_CL s t l := g_CL_of ht hl fun c' hc' => f1 c' (by omega)
    show q_ok (f_Tile_countWaits_b10 (f_Tile_countWaits_l10 n) t (l 0 0 * l 0 1) s) _
    unfold f_Tile_countWaits_b10
    rw [c_points hl1, x_bd, if_pos (Int.le_refl _)]
    refine o_rt ⟨f1, fun u u0 u1 => ?_⟩
    rw [s1 u u0 u1]
    unfold i_W
    refine g_cnt_congr fun e h0 h1 => ?_
    by_cases cE : i_E l r c e = true
    · have := (k_idx_pt hw (i_E_of hw h0 h1 cE).1).1.2
      simp [this]
    · simp [cE]
end tiles4
