/-! THE CLASS RECKONS A POINT -/
section creck
variable {m l : q_Mem} {t : Int}
theorem c_join (ht : m 77 1 = t) (hLp : t ∈ q_Lp) (hl : g_CL m t l) {k i j : Int} (hk : 0 ≤ k ∧ k < 80) (h7 : 0 ≤ l 7 k ∧ l 7 k ≤ 9) (h8 : 4 ≤ l 7 k → 0 ≤ l 8 k ∧ l 8 k < 80) (h9 : 5 ≤ l 7 k → 0 ≤ l 9 k ∧ l 9 k < 80) : f_Reck_join k i j m = some (f_nv l (fun _ => 0) i j k (m 78), m) := by
  unfold f_Reck_join
  simp only [ht, x_lt, x_one hLp]
  rw [x_rd (n := 80) hk.1 (by omega) (by decide), x_rd (n := 80) hk.1 (by omega) (by decide), x_rd (n := 80) hk.1 (by omega) (by decide), hl.2 8 k (by decide) (by decide), hl.2 9 k (by decide) (by decide), hl.2 7 k (by decide) (by decide)]
  rw [q_w_id (x := l 7 k) (by omega) (by omega)]
  unfold f_nv f_op
  by_cases c0 : l 7 k = 0
  · rw [if_pos c0, if_pos c0]; rfl
  rw [if_neg c0, if_neg c0]
  by_cases c1 : l 7 k = 1
  · rw [if_pos c1, if_pos c1]; rfl
  rw [if_neg c1, if_neg c1]
  by_cases c2 : l 7 k = 2
  · rw [if_pos c2, if_pos c2]; rfl
  rw [if_neg c2, if_neg c2]
  by_cases c3 : l 7 k = 3
  · rw [if_pos c3, if_pos c3]; rfl
  rw [if_neg c3, if_neg c3]
  have h8 := h8 (by omega)
  by_cases c4 : l 7 k = 4
  · rw [if_pos c4, if_pos c4, x_rd (n := 80) h8.1 (by omega) (by decide)]; rfl
  rw [if_neg c4, if_neg c4]
  have h9 := h9 (by omega)
  simp (disch := omega) only [x_rd]
  by_cases c5 : l 7 k = 5
  · rw [if_pos c5, if_pos c5]; split <;> rfl
  rw [if_neg c5, if_neg c5]
  by_cases c6 : l 7 k = 6
  · rw [if_pos c6, if_pos c6]; split <;> rfl
  rw [if_neg c6, if_neg c6]
  by_cases c7 : l 7 k = 7
  · rw [if_pos c7, if_pos c7]; rfl
  rw [if_neg c7, if_neg c7]
  by_cases c8 : l 7 k = 8
  · rw [if_pos c8, if_pos c8]; rfl
  rw [if_neg c8, if_neg c8, if_pos (show l 7 k = 9 by omega)]
  rfl
/-- a loop's value stays where its cells do -/
theorem c_keep {m' : q_Mem} (hl : g_CL m t l) (hLp : t ∈ q_Lp) (h : ∀ c, c < 54 → m' c = m c) : g_CL m' t l := by
  have : t = 3 ∨ t = 14 := by simpa [q_Lp] using hLp
  refine ⟨fun i => ?_, fun j i h1 h2 => ?_⟩
  · rw [h t (by omega)]; exact hl.1 i
  · rw [h (t + j) (by omega)]; exact hl.2 j i h1 h2
/-- what stands in the results' row while a formula's nodes are gone through -/
def k_res (l : q_Mem) (rd : Int → Int) (i j s k : Int) (m m' : q_Mem) : Prop := (∀ c, c ≠ 78 → m' c = m c) ∧ (∀ n, s ≤ n → n < k → m' 78 n = f_R l rd i j s (k - s).toNat n) ∧ ∀ n, n < s ∨ k ≤ n → m' 78 n = m 78 n
theorem k_res_step {rd : Int → Int} {i j s k : Int} {m' : q_Mem} {N : Nat} {a : List Int} (h : k_res l rd i j s k m m') (hs : f_stk l s N a) (h0 : s ≤ k) (h1 : k < s + N) {x : Int} (hx : x = f_nv l rd i j k (m' 78)) : k_res l rd i j s (k + 1) m (q_up m' 78 k x) ∧ x = f_R l rd i j s (k + 1 - s).toNat k := by
  obtain ⟨a1, a2, a3⟩ := h
  have hn := f_stk_node hs h0 h1
  have e : f_nv l rd i j k (m' 78) = f_nv l rd i j k (f_R l rd i j s (k - s).toNat) := f_nv_congr (fun _ => rfl) (fun c => a2 _ (hn.2.1 c).1 (hn.2.1 c).2) (fun c => a2 _ (hn.2.2 c).1 (hn.2.2 c).2) hn.1
  have hx' : x = f_R l rd i j s (k + 1 - s).toNat k := by
    rw [hx, e, show (k + 1 - s).toNat = (k - s).toNat + 1 by omega]
    have := f_R_s l rd i j s (k - s).toNat
    rw [show s + ((k - s).toNat : Int) = k by omega] at this
    exact this.symm
  refine ⟨⟨fun c hc => ?_, fun n n0 n1 => ?_, fun n hn' => ?_⟩, hx'⟩
  · rw [q_up_f hc]; exact a1 c hc
  · by_cases c : n = k
    · subst c
      rw [q_up_s]; exact hx'
    · rw [q_up_i c, a2 n n0 (by omega), show (k + 1 - s).toNat = (k - s).toNat + 1 by omega]
      exact (f_R_o l rd i j s _ (by omega)).symm
  · rw [q_up_i (by omega)]
    exact a3 n (by omega)
theorem c_edgeAt (ht : m 77 1 = t) (hLp : t ∈ q_Lp) (hl : g_CL m t l) (hg : g_lw l) (hw : f_wf l) {v i j : Int} (hv : 0 ≤ v ∧ v < l 0 2) : q_ok (f_Reck_edgeAt v i j m) (fun x m' => x = f_ed l v i j ∧ (∀ c, c ≠ 78 → m' c = m c) ∧ ∀ n, n < l 10 (2 * v + 1) ∨ l 10 (2 * v + 2) ≤ n → m' 78 n = m 78 n) := by
  have h2 := hg.2.2.1
  have r1 := f_wf_rg hw (i := 2 * v + 1) (by omega) (by omega)
  have r2 := f_wf_rg hw (i := 2 * v + 2) (by omega) (by omega)
  have r3 := f_wf_le hw (i := 2 * v + 1) (j := 2 * v + 2) (by omega) (by omega) (by omega)
  have hl' : ∀ {s : q_Mem}, (∀ c, c ≠ 78 → s c = m c) → g_CL s t l ∧ s 77 1 = t := fun hs => ⟨c_keep hl hLp (fun c hc => hs c (by omega)), by rw [hs 77 (by decide)]; exact ht⟩
  unfold f_Reck_edgeAt
  rw [ht, x_lt, x_one hLp, x_rd (n := 7) (by omega) (by omega) (by decide), hl.2 10 _ (by decide) (by decide)]
  refine o_upF (fun n k (s : Int × q_Mem) => f_Reck_edgeAt_l18 n v i j s.1 k s.2) (fun k s => l 10 (2 * v + 1) ≤ k ∧ k_res l (fun _ => 0) i j (l 10 (2 * v + 1)) k m s.2 ∧ s.1 = f_val l (fun _ => 0) i j (l 10 (2 * v + 1)) k) _ (k := l 10 (2 * v + 1)) (e := l 10 (2 * v + 2)) (s := (0, m)) r3 (by omega) ?_ ?_ ?_
  · refine ⟨Int.le_refl _, ⟨fun c _ => rfl, fun n _ _ => by omega, fun n _ => rfl⟩, ?_⟩
    exact (if_pos (Int.le_refl _)).symm
  · intro n k ⟨x, s⟩ hk ⟨h0, hs, hx⟩ hn
    dsimp only at hs hx
    obtain ⟨l1, l2⟩ := hl' hs.1
    have hst := hw.2.2.2.1 v hv.1 hv.2 (by omega)
    have hnd := f_stk_node hst (k := k) h0 (by omega)
    show q_ok (f_Reck_edgeAt_b18 (f_Reck_edgeAt_l18 n) v i j x k s) _
    unfold f_Reck_edgeAt_b18
    rw [l2, x_lt, x_one hLp, x_rd (n := 7) (by omega) (by omega) (by decide), l1.2 10 _ (by decide) (by decide), q_w_id (by omega) (by omega), q_w_id (by omega) (by omega), if_neg (by omega), c_join l2 hLp l1 ⟨by omega, by omega⟩ hnd.1 (fun c => by have := hnd.2.1 c; omega) (fun c => by have := hnd.2.2 c; omega), x_bd, x_wr (n := 80) (by omega) (by omega) (by decide)]
    have hq := k_res_step hs hst h0 (by omega) (x := f_nv l (fun _ => 0) i j k (s 78)) rfl
    refine hn (f_nv l (fun _ => 0) i j k (s 78), q_up s 78 k (f_nv l (fun _ => 0) i j k (s 78))) ⟨by omega, hq.1, ?_⟩
    dsimp only
    rw [hq.2]
    unfold f_val
    rw [if_neg (by omega), show k + 1 - 1 = k by omega]
  · intro n ⟨x, s⟩ ⟨h0, hs, hx⟩
    dsimp only at hs hx
    obtain ⟨l1, l2⟩ := hl' hs.1
    show q_ok (f_Reck_edgeAt_b18 (f_Reck_edgeAt_l18 n) v i j x _ s) _
    unfold f_Reck_edgeAt_b18
    rw [l2, x_lt, x_one hLp, x_rd (n := 7) (by omega) (by omega) (by decide), l1.2 10 _ (by decide) (by decide), if_pos (Int.le_refl _)]
    exact o_rt ⟨hx, hs.1, hs.2.2⟩
theorem c_fetch (ht : m 77 1 = t) (hLp : t ∈ q_Lp) (hl : g_CL m t l) (hg : g_lw l) (hw : f_wf l) {w z : Int} (hw2 : m 77 2 = w) (hwI : w ∈ [54, 61]) (hz : m 77 3 = z) (hzI : z ∈ [74, 75, 76]) {p r : Int} (hp : g_pt l p) (hr : 0 ≤ r ∧ r < l 0 4) (hT : ∀ q, g_pt l q → -1 ≤ m w q ∧ m w q < 10000) : q_ok (f_Reck_fetch r p m) (fun x m' => x = f_rd l (m w) (m z) p r ∧ (∀ c, c ≠ 78 → m' c = m c) ∧ ∀ n, n < l 10 (2 * l 4 r + 1) ∨ l 10 (2 * l 4 r + 2) ≤ n → m' 78 n = m 78 n) := by
  have h2 := hg.2.2.1
  have h4 := hg.2.2.2.1
  have h6 := hg.2.2.2.2.2.2.2.1 r hr.1 hr.2
  have hp' := hp.1
  have hq : -1 ≤ g_mv (l 0 0) (l 0 1) p (l 5 r) (l 6 r) ∧ g_mv (l 0 0) (l 0 1) p (l 5 r) (l 6 r) < 100 := g_mv_rg _ _ _ _ _ hg.1.2 hg.2.1.2
  unfold f_Reck_fetch
  simp only [ht, hw2, hz, x_lt, x_one hLp]
  rw [x_rd (n := 12) (by omega) (by omega) (by decide), x_rd (n := 12) (by omega) (by omega) (by decide), x_rd (n := 12) (by omega) (by omega) (by decide), hl.2 4 r (by decide) (by decide), hl.2 5 r (by decide) (by decide), hl.2 6 r (by decide) (by decide), c_moved' hl hg hp' (by omega) (by omega), x_bd, q_w_id (by omega) (by omega)]
  unfold f_rd
  dsimp only
  by_cases c : g_mv (l 0 0) (l 0 1) p (l 5 r) (l 6 r) = -1
  · rw [if_pos c, if_pos c, x_dv hp'.1 (by omega) (by decide) (by decide)]
    simp only [ht, x_lt, x_one hLp]
    rw [x_rd (n := 12) (by omega) (by omega) (by decide), x_md hp'.1 (by omega) (by decide) (by decide), x_rd (n := 12) (by omega) (by omega) (by decide), hl.2 5 r (by decide) (by decide), hl.2 6 r (by decide) (by decide)]
    exact o_bd (c_edgeAt ht hLp hl hg hw h6.1) fun v m' h => o_rt h
  · rw [if_neg c, if_neg c, q_w_id (x := p) (by omega) (by omega)]
    have hqp := g_mv_pt hg.1.2 hg.2.1.2 c
    have t1 := hT _ hqp
    have t2 := hT _ hp
    unfold f_Reck_fetch_b100 f_Reck_fetch_b105
    simp only [hz, hw2, x_lt, x_one hwI, x_one hzI, x_w0, x_w1, if_true, if_neg (show ¬ (1 : Int) = 0 by decide)]
    by_cases c2 : g_mv (l 0 0) (l 0 1) p (l 5 r) (l 6 r) = p
    · rw [if_pos c2, if_pos (Or.inl c2), x_rd (n := 300) (by omega) (by omega) (by decide), show l 4 r * 100 = 100 * l 4 r by omega]
      exact o_rt ⟨rfl, fun _ _ => rfl, fun _ _ => rfl⟩
    · rw [if_neg c2, x_rd (n := 100) (by omega) (by omega) (by decide), x_rd (n := 100) (by omega) (by omega) (by decide), q_w_id (by omega) (by omega), q_w_id (by omega) (by omega)]
      by_cases c3 : m w (g_mv (l 0 0) (l 0 1) p (l 5 r) (l 6 r)) < m w p
      · rw [if_neg (by omega), if_pos (Or.inr c3), x_rd (n := 300) (by omega) (by omega) (by decide), show l 4 r * 100 = 100 * l 4 r by omega]
        exact o_rt ⟨rfl, fun _ _ => rfl, fun _ _ => rfl⟩
      · rw [if_pos (by omega), if_neg (by omega)]
        exact o_rt ⟨rfl, fun _ _ => rfl, fun _ _ => rfl⟩
end creck
