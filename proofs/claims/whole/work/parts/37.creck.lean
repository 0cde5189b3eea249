/-! THE CLASS RECKONS A POINT -/
section creck
variable {m l : q_Mem} {t : Int}
theorem c_join (ht : m 77 1 = t) (hLp : t ∈ q_Lp) (hl : g_CL m t l) {k i j : Int} (hk : 0 ≤ k ∧ k < 80) (h7 : 0 ≤ l 7 k ∧ l 7 k ≤ 9) (h8 : 4 ≤ l 7 k → 0 ≤ l 8 k ∧ l 8 k < 80) (h9 : 5 ≤ l 7 k → 0 ≤ l 9 k ∧ l 9 k < 80) : f_Reck_join k i j m = some (f_nv l (fun _ => 0) i j k (m 78), m) := by
  unfold f_Reck_join
  simp only [ht, x_lt, x_one hLp]
  rw [x_rd (n := 80) hk.1 (by omega) (by decide), x_rd (n := 80) hk.1 (by omega) (by decide), x_rd (n := 80) hk.1 (by omega) (by decide), hl.2 8 k (by decide) (by decide), hl.2 9 k (by decide) (by decide), hl.2 7 k (by decide) (by decide)]
  rw [q_w_id (x := l 7 k) (by omega) (by omega)]
  unfold f_nv f_op
  by_cases c0 : l 7 k = 0
  · rw [if_pos c0, if_pos c0]; rfl
  rw [if_neg c0, if_neg c0]
  by_cases c1 : l 7 k = 1
  · rw [if_pos c1, if_pos c1]; rfl
  rw [if_neg c1, if_neg c1]
  by_cases c2 : l 7 k = 2
  · rw [if_pos c2, if_pos c2]; rfl
  rw [if_neg c2, if_neg c2]
  by_cases c3 : l 7 k = 3
  · rw [if_pos c3, if_pos c3]; rfl
  rw [if_neg c3, if_neg c3]
  have h8 := h8 (by omega)
  by_cases c4 : l 7 k = 4
  · rw [if_pos c4, if_pos c4, x_rd (n := 80) h8.1 (by omega) (by decide)]; rfl
  rw [if_neg c4, if_neg c4]
  have h9 := h9 (by omega)
  simp (disch := omega) only [x_rd]
  by_cases c5 : l 7 k = 5
  · rw [if_pos c5, if_pos c5]; split <;> rfl
  rw [if_neg c5, if_neg c5]
  by_cases c6 : l 7 k = 6
  · rw [if_pos c6, if_pos c6]; split <;> rfl
  rw [if_neg c6, if_neg c6]
  by_cases c7 : l 7 k = 7
  · rw [if_pos c7, if_pos c7]; rfl
  rw [if_neg c7, if_neg c7]
  by_cases c8 : l 7 k = 8
  · rw [if_pos c8, if_pos c8]; rfl
  rw [if_neg c8, if_neg c8, if_pos (show l 7 k = 9 by omega)]
  rfl
/-- a loop's value stays where its cells do -/
theorem c_keep {m' : q_Mem} (hl : g_CL m t l) (hLp : t ∈ q_Lp) (h : ∀ c, c < 54 → m' c = m c) : g_CL m' t l := by
  have : t = 3 ∨ t = 14 := by simpa [q_Lp] using hLp
  refine ⟨fun i => ?_, fun j i h1 h2 => ?_⟩
  · rw [h t (by omega)]; exact hl.1 i
  · rw [h (t + j) (by omega)]; exact hl.2 j i h1 h2
/-- what stands in the results' row while a formula's nodes are gone through -/
def k_res (l : q_Mem) (rd : Int → Int) (i j s k : Int) (m m' : q_Mem) : Prop := (∀ c, c ≠ 78 → m' c = m c) ∧ (∀ n, s ≤ n → n < k → m' 78 n = f_R l rd i j s (k - s).toNat n) ∧ ∀ n, n < s ∨ k ≤ n → m' 78 n = m 78 n
theorem k_res_step {rd : Int → Int} {i j s k : Int} {m' : q_Mem} {N : Nat} {a : List Int} (h : k_res l rd i j s k m m') (hs : f_stk l s N a) (h0 : s ≤ k) (h1 : k < s + N) {x : Int} (hx : x = f_nv l rd i j k (m' 78)) : k_res l rd i j s (k + 1) m (q_up m' 78 k x) ∧ x = f_R l rd i j s (k + 1 - s).toNat k := by
  obtain ⟨a1, a2, a3⟩ := h
  have hn := f_stk_node hs h0 h1
  have e : f_nv l rd i j k (m' 78) = f_nv l rd i j k (f_R l rd i j s (k - s).toNat) := f_nv_congr (fun _ => rfl) (fun c => a2 _ (hn.2.1 c).1 (hn.2.1 c).2) (fun c => a2 _ (hn.2.2 c).1 (hn.2.2 c).2) hn.1
  have hx' : x = f_R l rd i j s (k + 1 - s).toNat k := by
    rw [hx, e, show (k + 1 - s).toNat = (k - s).toNat + 1 by omega]
    have := f_R_s l rd i j s (k - s).toNat
    rw [show s + ((k - s).toNat : Int) = k by omega] at this
    exact this.symm
  refine ⟨⟨fun c hc => ?_, fun n n0 n1 => ?_, fun n hn' => ?_⟩, hx'⟩
  · rw [q_up_f hc]; exact a1 c hc
  · by_cases c : n = k
    · subst c
      rw [q_up_s]; exact hx'
    · rw [q_up_i c, a2 n n0 (by omega), show (k + 1 - s).toNat = (k - s).toNat + 1 by omega]
      exact (f_R_o l rd i j s _ (by omega)).symm
  · rw [q_up_i (by omega)]
    exact a3 n (by omega)
theorem c_edgeAt (ht : m 77 1 = t) (hLp : t ∈ q_Lp) (hl : g_CL m t l) (hg : g_lw l) (hw : f_wf l) {v i j : Int} (hv : 0 ≤ v ∧ v < l 0 2) : q_ok (f_Reck_edgeAt v i j m) (fun x m' => x = f_ed l v i j ∧ (∀ c, c ≠ 78 → m' c = m c) ∧ ∀ n, n < l 10 (2 * v + 1) ∨ l 10 (2 * v + 2) ≤ n → m' 78 n = m 78 n) := by
  have h2 := hg.2.2.1
  have r1 := f_wf_rg hw (i := 2 * v + 1) (by omega) (by omega)
  have r2 := f_wf_rg hw (i := 2 * v + 2) (by omega) (by omega)
  have r3 := f_wf_le hw (i := 2 * v + 1) (j := 2 * v + 2) (by omega) (by omega) (by omega)
  have hl' : ∀ {s : q_Mem}, (∀ c, c ≠ 78 → s c = m c) → g_CL s t l ∧ s 77 1 = t := fun hs => ⟨c_keep hl hLp (fun c hc => hs c (by omega)), by rw [hs 77 (by decide)]; exact ht⟩
  unfold f_Reck_edgeAt
  rw [ht, x_lt, x_one hLp, x_rd (n := 7) (by omega) (by omega) (by decide), hl.2 10 _ (by decide) (by decide)]
  refine o_upF (fun n k (s : Int × q_Mem) => f_Reck_edgeAt_l18 n v i j s.1 k s.2) (fun k s => l 10 (2 * v + 1) ≤ k ∧ k_res l (fun _ => 0) i j (l 10 (2 * v + 1)) k m s.2 ∧ s.1 = f_val l (fun _ => 0) i j (l 10 (2 * v + 1)) k) _ (k := l 10 (2 * v + 1)) (e := l 10 (2 * v + 2)) (s := (0, m)) r3 (by omega) ?_ ?_ ?_
  · refine ⟨Int.le_refl _, ⟨fun c _ => rfl, fun n _ _ => by omega, fun n _ => rfl⟩, ?_⟩
    exact (if_pos (Int.le_refl _)).symm
  · intro n k ⟨x, s⟩ hk ⟨h0, hs, hx⟩ hn
    dsimp only at hs hx
    obtain ⟨l1, l2⟩ := hl' hs.1
    have hst := hw.2.2.2.1 v hv.1 hv.2 (by omega)
    have hnd := f_stk_node hst (k := k) h0 (by omega)
    show q_ok (f_Reck_edgeAt_b18 (f_Reck_edgeAt_l18 n) v i j x k s) _
    unfold f_Reck_edgeAt_b18
    rw [l2, x_lt, x_one hLp, x_rd (n := 7) (by omega) (by omega) (by decide), l1.2 10 _ (by decide) (by decide), q_w_id (by omega) (by omega), q_w_id (by omega) (by omega), if_neg (by omega), c_join l2 hLp l1 ⟨by omega, by omega⟩ hnd.1 (fun c => by have := hnd.2.1 c; omega) (fun c => by have := hnd.2.2 c; omega), x_bd, x_wr (n := 80) (by omega) (by omega) (by decide)]
    have hq := k_res_step hs hst h0 (by omega) (x := f_nv l (fun _ => 0) i j k (s 78)) rfl
    refine hn (f_nv l (fun _ => 0) i j k (s 78), q_up s 78 k (f_nv l (fun _ => 0) i j k (s 78))) ⟨by omega, hq.1, ?_⟩
    dsimp only
    rw [hq.2]
    unfold f_val
    rw [if_neg (by omega), show k + 1 - 1 = k by omega]
  · intro n ⟨x, s⟩ ⟨h0, hs, hx⟩
    dsimp only at hs hx
    obtain ⟨l1, l2⟩ := hl' hs.1
    show q_ok (f_Reck_edgeAt_b18 (f_Reck_edgeAt_l18 n) v i j x _ s) _
    unfold f_Reck_edgeAt_b18
    rw [l2, x_lt, x_one hLp, x_rd (n := 7) (by omega) (by omega) (by decide), l1.2 10 _ (by decide) (by decide), if_pos (Int.le_refl _)]
    exact o_rt ⟨hx, hs.1, hs.2.2⟩
theorem c_fetch (ht : m 77 1 = t) (hLp : t ∈ q_Lp) (hl : g_CL m t l) (hg : g_lw l) (hw : f_wf l) {w z : Int} (hw2 : m 77 2 = w) (hwI : w ∈ [54, 61]) (hz : m 77 3 = z) (hzI : z ∈ [74, 75, 76]) {p r : Int} (hp : g_pt l p) (hr : 0 ≤ r ∧ r < l 0 4) (hT : ∀ q, g_pt l q → -1 ≤ m w q ∧ m w q < 10000) : q_ok (f_Reck_fetch r p m) (fun x m' => x = f_rd l (m w) (m z) p r ∧ (∀ c, c ≠ 78 → m' c = m c) ∧ ∀ n, n < l 10 (2 * l 4 r + 1) ∨ l 10 (2 * l 4 r + 2) ≤ n → m' 78 n = m 78 n) := by
  have h2 := hg.2.2.1
  have h4 := hg.2.2.2.1
  have h6 := hg.2.2.2.2.2.2.2.1 r hr.1 hr.2
  have hp' := hp.1
  have hq : -1 ≤ g_mv (l 0 0) (l 0 1) p (l 5 r) (l 6 r) ∧ g_mv (l 0 0) (l 0 1) p (l 5 r) (l 6 r) < 100 := g_mv_rg _ _ _ _ _ hg.1.2 hg.2.1.2
  unfold f_Reck_fetch
  simp only [ht, hw2, hz, x_lt, x_one hLp]
  rw [x_rd (n := 12) (by omega) (by omega) (by decide), x_rd (n := 12) (by omega) (by omega) (by decide), x_rd (n := 12) (by omega) (by omega) (by decide), hl.2 4 r (by decide) (by decide), hl.2 5 r (by decide) (by decide), hl.2 6 r (by decide) (by decide), c_moved' hl hg hp' (by omega) (by omega), x_bd, q_w_id (by omega) (by omega)]
  unfold f_rd
  dsimp only
  by_cases c : g_mv (l 0 0) (l 0 1) p (l 5 r) (l 6 r) = -1
  · rw [if_pos c, if_pos c, x_dv hp'.1 (by omega) (by decide) (by decide)]
    simp only [ht, x_lt, x_one hLp]
    rw [x_rd (n := 12) (by omega) (by omega) (by decide), x_md hp'.1 (by omega) (by decide) (by decide), x_rd (n := 12) (by omega) (by omega) (by decide), hl.2 5 r (by decide) (by decide), hl.2 6 r (by decide) (by decide)]
    exact o_bd (c_edgeAt ht hLp hl hg hw h6.1) fun v m' h => o_rt h
  · rw [if_neg c, if_neg c, q_w_id (x := p) (by omega) (by omega)]
    have hqp := g_mv_pt hg.1.2 hg.2.1.2 c
    have t1 := hT _ hqp
    have t2 := hT _ hp
    unfold f_Reck_fetch_b100 f_Reck_fetch_b105
    simp only [hz, hw2, x_lt, x_one hwI, x_one hzI, x_w0, x_w1, if_true, if_neg (show ¬ (1 : Int) = 0 by decide)]
    by_cases c2 : g_mv (l 0 0) (l 0 1) p (l 5 r) (l 6 r) = p
    · rw [if_pos c2, if_pos (Or.inl c2), x_rd (n := 300) (by omega) (by omega) (by decide), show l 4 r * 100 = 100 * l 4 r by omega]
      exact o_rt ⟨rfl, fun _ _ => rfl, fun _ _ => rfl⟩
    · rw [if_neg c2, x_rd (n := 100) (by omega) (by omega) (by decide), x_rd (n := 100) (by omega) (by omega) (by decide), q_w_id (by omega) (by omega), q_w_id (by omega) (by omega)]
      by_cases c3 : m w (g_mv (l 0 0) (l 0 1) p (l 5 r) (l 6 r)) < m w p
      · rw [if_neg (by omega), if_pos (Or.inr c3), x_rd (n := 300) (by omega) (by omega) (by decide), show l 4 r * 100 = 100 * l 4 r by omega]
        exact o_rt ⟨rfl, fun _ _ => rfl, fun _ _ => rfl⟩
      · rw [if_pos (by omega), if_neg (by omega)]
        exact o_rt ⟨rfl, fun _ _ => rfl, fun _ _ => rfl⟩
/-- one more for the stirred one -/
def f_more (sv sp v p : Int) : Int := if v = sv ∧ p = sp then 1 else 0
theorem c_formula (ht : m 77 1 = t) (hLp : t ∈ q_Lp) (hl : g_CL m t l) (hg : g_lw l) (hw : f_wf l) {w z : Int} (hw2 : m 77 2 = w) (hwI : w ∈ [54, 61]) (hz : m 77 3 = z) (hzI : z ∈ [74, 75, 76]) {p v : Int} (hp : g_pt l p) (hv : 0 ≤ v ∧ v < l 0 2) (hT : ∀ q, g_pt l q → -1 ≤ m w q ∧ m w q < 10000)
    (hs4 : -1 ≤ m 77 4 ∧ m 77 4 < 100) (hs5 : -1 ≤ m 77 5 ∧ m 77 5 < 100) (K : Int → Int → q_Mem → q_Res) (Q : Int → q_Mem → Prop)
    (hK : ∀ s, (∀ c, c ≠ 78 → s c = m c) → q_ok (K p (v + 1) (q_up s z (100 * v + p) (f_E l (m w) (m z) v p + f_more (m 77 4) (m 77 5) v p))) Q) : q_ok (f_Reck_reckon_l28 K q_F p v 0 (l 10 (2 * v)) m) Q := by
  have h2 := hg.2.2.1
  have r1 := f_wf_rg hw (i := 2 * v) (by omega) (by omega)
  have r2 := f_wf_rg hw (i := 2 * v + 1) (by omega) (by omega)
  obtain ⟨r3, hst⟩ := hw.2.2.1 v hv.1 hv.2
  have hz' : z = 74 ∨ z = 75 ∨ z = 76 := by simpa using hzI
  have hw' : w = 54 ∨ w = 61 := by simpa using hwI
  have hl' : ∀ {s : q_Mem}, (∀ c, c ≠ 78 → s c = m c) → g_CL s t l ∧ s 77 = m 77 ∧ s w = m w ∧ s z = m z := fun hs => ⟨c_keep hl hLp (fun c hc => hs c (by omega)), hs 77 (by decide), hs w (by omega), hs z (by omega)⟩
  refine o_upF (fun n k (s : Int × q_Mem) => f_Reck_reckon_l28 K n p v s.1 k s.2) (fun k s => l 10 (2 * v) ≤ k ∧ k_res l (f_rd l (m w) (m z) p) (p / 10) (p % 10) (l 10 (2 * v)) k s.2 s.2 ∧ (∀ c, c ≠ 78 → s.2 c = m c) ∧ s.1 = f_val l (f_rd l (m w) (m z) p) (p / 10) (p % 10) (l 10 (2 * v)) k) _ (k := l 10 (2 * v)) (e := l 10 (2 * v + 1)) (s := (0, m)) (by omega) (by omega) ?_ ?_ ?_
  · refine ⟨Int.le_refl _, ⟨fun c _ => rfl, fun n _ _ => by omega, fun n _ => rfl⟩, fun _ _ => rfl, ?_⟩
    exact (if_pos (Int.le_refl _)).symm
  · intro n k ⟨x, s⟩ hk ⟨h0, hs, hf, hx⟩ hn
    dsimp only at hs hx hf
    obtain ⟨l1, l2, l3, l4⟩ := hl' hf
    have hnd := f_stk_node hst (k := k) h0 (by omega)
    show q_ok (f_Reck_reckon_b28 K (f_Reck_reckon_l28 K n) p v x k s) _
    unfold f_Reck_reckon_b28
    simp only [l2, ht, x_lt, x_one hLp]
    rw [x_rd (n := 7) (by omega) (by omega) (by decide), l1.2 10 _ (by decide) (by decide), q_w_id (by omega) (by omega), q_w_id (x := k) (by omega) (by omega), if_neg (by omega), x_rd (n := 80) (by omega) (by omega) (by decide), l1.2 7 _ (by decide) (by decide), q_w_id (by omega) (by omega)]
    have go : ∀ (y : Int) (s' : q_Mem), y = f_nv l (f_rd l (m w) (m z) p) (p / 10) (p % 10) k (s' 78) → (∀ c, c ≠ 78 → s' c = m c) → (∀ n, l 10 (2 * v) ≤ n → n < k → s' 78 n = s 78 n) → q_ok (f_Reck_reckon_b92 K (f_Reck_reckon_l28 K n) p v k y s') Q := by
      intro y s' hy hf' hr'
      unfold f_Reck_reckon_b92
      rw [x_wr (n := 80) (by omega) (by omega) (by decide)]
      have hs' : k_res l (f_rd l (m w) (m z) p) (p / 10) (p % 10) (l 10 (2 * v)) k s' s' := ⟨fun _ _ => rfl, fun n n0 n1 => by rw [hr' n n0 n1]; exact hs.2.1 n n0 n1, fun _ _ => rfl⟩
      have hq := k_res_step hs' hst h0 (by omega) hy
      refine hn (y, q_up s' 78 k y) ⟨by omega, ⟨fun _ _ => rfl, hq.1.2.1, fun _ _ => rfl⟩, fun c hc => ?_, ?_⟩
      · dsimp only
        rw [q_up_f hc]; exact hf' c hc
      · dsimp only
        rw [hq.2]
        unfold f_val
        rw [if_neg (by omega), show k + 1 - 1 = k by omega]
    by_cases c3 : l 7 k = 3
    · rw [if_pos c3, x_rd (n := 80) (by omega) (by omega) (by decide), l1.2 8 _ (by decide) (by decide)]
      have hrd := hw.2.2.2.2.1 v k hv.1 hv.2 h0 (by omega) c3
      have hrv := hg.2.2.2.2.2.2.2.1 _ hrd.1.1 hrd.1.2
      refine o_bd (c_fetch (by rw [l2]; exact ht) hLp l1 hg hw (by rw [l2]; exact hw2) hwI (by rw [l2]; exact hz) hzI hp hrd.1 (by rw [l3]; exact hT)) ?_
      rintro y s' ⟨e1, e2, e3⟩
      rw [l3, l4] at e1
      refine go y s' ?_ (fun c hc => (e2 c hc).trans (hf c hc)) fun n n0 n1 => e3 n ?_
      · rw [e1]
        unfold f_nv
        rw [if_neg (by omega), if_neg (by omega), if_neg (by omega), if_pos c3]
      · by_cases c : v ≤ l 4 (l 8 k)
        · have := f_wf_le hw (i := 2 * v + 1) (j := 2 * l 4 (l 8 k) + 1) (by omega) (by omega) (by omega)
          omega
        · have := f_wf_le hw (i := 2 * l 4 (l 8 k) + 2) (j := 2 * v) (by omega) (by omega) (by omega)
          omega
    · rw [if_neg c3, x_dv (by omega) (by omega) (by decide) (by decide), x_md (by omega) (by omega) (by decide) (by decide), c_join (by rw [l2]; exact ht) hLp l1 ⟨by omega, by omega⟩ hnd.1 (fun c => by have := hnd.2.1 c; omega) (fun c => by have := hnd.2.2 c; omega), x_bd]
      exact go _ s (f_nv_congr (fun c => absurd c c3) (fun _ => rfl) (fun _ => rfl) hnd.1) hf fun _ _ _ => rfl
  · intro n ⟨x, s⟩ ⟨h0, hs, hf, hx⟩
    dsimp only at hs hx hf
    obtain ⟨l1, l2, l3, l4⟩ := hl' hf
    show q_ok (f_Reck_reckon_b28 K (f_Reck_reckon_l28 K n) p v x _ s) _
    unfold f_Reck_reckon_b28 f_Reck_reckon_b127 f_Reck_reckon_b128
    simp only [l2, ht, hz, x_lt, x_one hLp, x_one hzI]
    rw [x_rd (n := 7) (by omega) (by omega) (by decide), l1.2 10 _ (by decide) (by decide), if_pos (Int.le_refl _)]
    rw [q_w_id (x := v) (by omega) (by omega), q_w_id (x := m 77 4) (by omega) (by omega), q_w_id (x := p) (by omega) (by omega), q_w_id (x := m 77 5) (by omega) (by omega), show v * 100 = 100 * v by omega]
    have hk := hK s hf
    rw [hx]
    unfold f_more at hk
    unfold f_E at hk
    by_cases c1 : v = m 77 4
    · rw [if_pos c1]
      by_cases c2 : p = m 77 5
      · rw [if_pos c2, x_wr (n := 300) (by omega) (by omega) (by decide)]
        rwa [if_pos ⟨c1, c2⟩] at hk
      · rw [if_neg c2, x_wr (n := 300) (by omega) (by omega) (by decide)]
        rwa [if_neg (fun h => c2 h.2)] at hk
    · rw [if_neg c1, x_wr (n := 300) (by omega) (by omega) (by decide)]
      rwa [if_neg (fun h => c1 h.1)] at hk
/-- a point is reckoned: its values stand, by what stands ahead of it -/
def f_at (l : q_Mem) (T X Y : Int → Int) (sv sp p : Int) : Prop := (∀ i, (∀ u, 0 ≤ u → u < l 0 2 → i ≠ 100 * u + p) → Y i = X i) ∧ ∀ u, 0 ≤ u → u < l 0 2 → Y (100 * u + p) = f_E l T Y u p + f_more sv sp u p
theorem c_reckon (ht : m 77 1 = t) (hLp : t ∈ q_Lp) (hl : g_CL m t l) (hg : g_lw l) (hw : f_wf l) {w z : Int} (hw2 : m 77 2 = w) (hwI : w ∈ [54, 61]) (hz : m 77 3 = z) (hzI : z ∈ [74, 75, 76]) {p : Int} (hp : g_pt l p) (hT : ∀ q, g_pt l q → -1 ≤ m w q ∧ m w q < 10000)
    (hs4 : -1 ≤ m 77 4 ∧ m 77 4 < 100) (hs5 : -1 ≤ m 77 5 ∧ m 77 5 < 100) : q_ok (f_Reck_reckon p m) (fun _ m' => (∀ c, c ≠ 78 → c ≠ z → m' c = m c) ∧ f_at l (m w) (m z) (m' z) (m 77 4) (m 77 5) p) := by
  have h2 := hg.2.2.1
  have hz' : z = 74 ∨ z = 75 ∨ z = 76 := by simpa using hzI
  have hw' : w = 54 ∨ w = 61 := by simpa using hwI
  have hl' : ∀ {s : q_Mem}, (∀ c, c ≠ 78 → c ≠ z → s c = m c) → g_CL s t l ∧ s 77 = m 77 ∧ s w = m w := fun hs => ⟨c_keep hl hLp (fun c hc => hs c (by omega) (by omega)), hs 77 (by decide) (by omega), hs w (by omega) (by omega)⟩
  unfold f_Reck_reckon
  refine o_upF (fun n k (s : q_Mem) => f_Reck_reckon_l2 n p k s) (fun k s => 0 ≤ k ∧ (∀ c, c ≠ 78 → c ≠ z → s c = m c) ∧ (∀ i, (∀ u, 0 ≤ u → u < k → i ≠ 100 * u + p) → s z i = m z i) ∧ ∀ u, 0 ≤ u → u < k → s z (100 * u + p) = f_E l (m w) (s z) u p + f_more (m 77 4) (m 77 5) u p) _ (k := 0) (e := l 0 2) (s := m) (by omega) (by omega) ?_ ?_ ?_
  · exact ⟨Int.le_refl _, fun _ _ _ => rfl, fun _ _ => rfl, fun u _ _ => by omega⟩
  · intro n k s hk ⟨h0, hf, ho, he⟩ hn
    obtain ⟨l1, l2, l3⟩ := hl' hf
    show q_ok (f_Reck_reckon_b2 (f_Reck_reckon_l2 n) p k s) _
    unfold f_Reck_reckon_b2
    simp only [l2, ht, x_lt, x_one hLp]
    rw [l1.1, q_w_id (by omega) (by omega), q_w_id (x := k) (by omega) (by omega), if_neg (by omega), x_rd (n := 7) (by omega) (by omega) (by decide), l1.2 10 _ (by decide) (by decide)]
    refine c_formula (by rw [l2]; exact ht) hLp l1 hg hw (by rw [l2]; exact hw2) hwI (by rw [l2]; exact hz) hzI hp ⟨h0, hk⟩ (by rw [l3]; exact hT) (by rw [l2]; exact hs4) (by rw [l2]; exact hs5) _ _ fun s' hs' => ?_
    rw [l2, l3]
    have ez : s' z = s z := hs' z (by omega)
    have hY : ∀ u q, 0 ≤ u → 0 ≤ q → q < 100 → ¬ (u = k ∧ q = p) → q_up s' z (100 * k + p) (f_E l (m w) (s z) k p + f_more (m 77 4) (m 77 5) k p) z (100 * u + q) = s z (100 * u + q) := by
      intro u q u0 q0 q1 hne
      rw [q_up_i (by have := hp.1; omega), ez]
    have hc : ∀ u, 0 ≤ u → u ≤ k → f_E l (m w) (q_up s' z (100 * k + p) (f_E l (m w) (s z) k p + f_more (m 77 4) (m 77 5) k p) z) u p = f_E l (m w) (s z) u p := by
      intro u u0 u1
      refine f_E_congr hw hg ⟨u0, by omega⟩ hp.1 rfl fun u' q a0 a1 q0 q1 qn hh => hY u' q a0 (by omega) q1 (by omega)
    refine hn (q_up s' z (100 * k + p) (f_E l (m w) (s z) k p + f_more (m 77 4) (m 77 5) k p)) ⟨by omega, fun c c1 c2 => ?_, fun i hi => ?_, fun u u0 u1 => ?_⟩
    · rw [q_up_f c2, hs' c c1]; exact hf c c1 c2
    · rw [q_up_i (hi k h0 (by omega)), ez]
      exact ho i fun u u0 u1 => hi u u0 (by omega)
    · rw [hc u u0 (by omega)]
      by_cases c : u = k
      · subst c
        rw [q_up_s]
      · rw [hY u p u0 hp.1.1 hp.1.2 (fun h => c h.1)]
        exact he u u0 (by omega)
  · intro n s ⟨h0, hf, ho, he⟩
    obtain ⟨l1, l2, l3⟩ := hl' hf
    show q_ok (f_Reck_reckon_b2 (f_Reck_reckon_l2 n) p (l 0 2) s) _
    unfold f_Reck_reckon_b2
    simp only [l2, ht, x_lt, x_one hLp]
    rw [l1.1, if_pos (Int.le_refl _)]
    exact o_rt ⟨hf, ho, he⟩
end creck
