/-! THE CLASS's PLACEMENT -/
theorem g_CL_of2 {m m' l : q_Mem} {t : Int} (ht : t ∈ q_Lp) (h : g_CL m t l) (hc : ∀ c, c < 60 → m' c = m c) : g_CL m' t l := g_CL_of ht h (fun c hc2 => hc c (by omega))
theorem k_ly {y : Int} (h : y ∈ q_Ly) : (0 ≤ y ∧ y < 60) ∨ (68 < y ∧ y < 81) := by
  simp only [q_Ly, List.mem_cons, List.not_mem_nil, or_false] at h
  omega
theorem g_cnt_le {P P' : Int → Bool} {n : Nat} (h : ∀ k : Int, 0 ≤ k → k < n → P k = true → P' k = true) : g_cnt P n ≤ g_cnt P' n := by
  induction n with
  | zero => exact Int.le_refl _
  | succ n ih =>
    show g_cnt P n + (if P n = true then 1 else 0) ≤ g_cnt P' n + (if P' n = true then 1 else 0)
    have i1 := ih (fun k a b => h k a (by omega))
    have i2 := h n (by omega) (by omega)
    grind
/-- the row of all points, by tick, then as they stand -/
def k_ord (l : q_Mem) (T ord : Int → Int) : Prop := (∀ i, 0 ≤ i → i < l 0 0 * l 0 1 → g_pt l (ord i)) ∧ (∀ p, g_pt l p → ∃ i, 0 ≤ i ∧ i < l 0 0 * l 0 1 ∧ ord i = p) ∧ ∀ i j, 0 ≤ i → i < j → j < l 0 0 * l 0 1 → T (ord i) < T (ord j) ∨ (T (ord i) = T (ord j) ∧ k_idx l (ord i) < k_idx l (ord j))
section cplan
variable {m l : q_Mem} {t y P Q a b : Int}
theorem c_setTicks (ht : t ∈ q_Lp) (hl : g_CL m t l) (hw : g_lw l) (hy : y ∈ q_Ly) (e0 : m y 0 = P) (e1 : m y 1 = Q) (hP : -9 ≤ P ∧ P ≤ 9) (hQ : -9 ≤ Q ∧ Q ≤ 9) (h8 : m 60 8 = l 0 0 * l 0 1) :
    q_ok (f_Plac_setTicks t y m) (fun _ m' => (∀ c, c ≠ 61 → c ≠ 65 → m' c = m c) ∧ (∀ p, g_pt l p → m' 61 p = g_tk l P Q p) ∧ ∀ x, 0 ≤ x → x < 163 → m' 65 x = g_ca l (fun q => g_tk l P Q q == x)) := by
  have hRC := g_RC hw
  have h1 := hw.1
  have h2 := hw.2.1
  have hls := g_val_rg hw hP hQ
  have hlat := g_lat_rg hw hP hQ
  have hyy := k_ly hy
  have a1 := x_mul (x := P) (z := l 0 0 - 1) (a := 9) (b := 9) hP.1 hP.2 (by omega) (by omega)
  have a2 := x_mul (x := Q) (z := l 0 1 - 1) (a := 9) (b := 9) hQ.1 hQ.2 (by omega) (by omega)
  unfold f_Plac_setTicks
  rw [x_fi, e0, e1, hl.1, hl.1, x_min (by omega) (by omega) (by omega) (by omega), x_min (by omega) (by omega) (by omega) (by omega)]
  have els : min 0 (P * (l 0 0 - 1)) + min 0 (Q * (l 0 1 - 1)) = g_ls (l 0 0) (l 0 1) P Q := rfl
  rw [els]
  refine o_upF (fun n k (s : q_Mem) => f_Plac_setTicks_l43 n t y (g_ls (l 0 0) (l 0 1) P Q) k s) (fun k s => 0 ≤ k ∧ (∀ c, c ≠ 61 → c ≠ 65 → s c = m c) ∧ (∀ p, g_pt l p → k_idx l p < k → s 61 p = g_tk l P Q p) ∧ ∀ x, 0 ≤ x → x < 163 → s 65 x = g_cp l k (fun q => g_tk l P Q q == x)) _ (k := 0) (e := l 0 0 * l 0 1) (by omega) (by omega) ⟨by omega, fun c _ c2 => q_fill_f c2, fun p hp hk => by have := (k_idx_pt hw hp).1; omega, fun x x0 x1 => by rw [q_fill_in x0 x1, g_cp_0 hw]⟩ ?_ ?_
  · intro n k s hk ⟨h0, hf, htk, hwv⟩ hn
    show q_ok (f_Plac_setTicks_b43 (f_Plac_setTicks_l43 n) t y (g_ls (l 0 0) (l 0 1) P Q) k s) _
    unfold f_Plac_setTicks_b43
    have hl' : g_CL s t l := g_CL_of2 ht hl (fun c hc => hf c (by omega) (by omega))
    obtain ⟨hpt, hidx⟩ := k_at_pt hw h0 hk
    have hcs := fun X => g_cp_s hw X h0 hk
    rw [hf 60 (by decide) (by decide), h8, q_w_id (x := k) (by omega) (by omega), q_w_id (x := l 0 0 * l 0 1) (by omega) (by omega), if_neg (by omega), c_pointAt hl' hw ⟨h0, by omega⟩, x_bd, hf y (by omega) (by omega), e0, e1]
    generalize hpd : k / l 0 1 * 10 + k % l 0 1 = p at hpt hidx hcs
    have hp1 := hpt.1
    have hrg := g_tk_rg hw P Q hpt
    have etk : P * (p / 10) + Q * (p % 10) - g_ls (l 0 0) (l 0 1) P Q = g_tk l P Q p := rfl
    rw [x_dv hp1.1 (by omega) (by omega) (by omega), x_md hp1.1 (by omega) (by omega) (by omega), etk, x_wr (n := 100) hp1.1 hp1.2 (by decide), x_rd (n := 100) hp1.1 hp1.2 (by decide), q_up_s, x_rd (n := 163) hrg.1 (by show g_tk l P Q p < 163; omega) (by decide), x_wr (n := 163) hrg.1 (by show g_tk l P Q p < 163; omega) (by decide), q_up_f (m := s) (c := 61) (c' := 65) (by decide)]
    refine hn (q_up (q_up s 61 p (g_tk l P Q p)) 65 (g_tk l P Q p) (s 65 (g_tk l P Q p) + 1)) ⟨by omega, fun c c1 c2 => ?_, fun q hq hqk => ?_, fun x x0 x1 => ?_⟩
    · rw [q_up_f c2, q_up_f c1]; exact hf c c1 c2
    · rw [q_up_f (by decide)]
      by_cases e : q = p
      · rw [e, q_up_s]
      · rw [q_up_i e]
        refine htk q hq ?_
        have : k_idx l q ≠ k := fun e2 => e (by
          have aa := (k_idx_pt hw hq).2
          rw [e2] at aa
          exact aa.symm.trans hpd)
        omega
    · rw [hcs]
      by_cases e : x = g_tk l P Q p
      · rw [← e, q_up_s, hwv x x0 x1, if_pos (by simp [e])]
      · rw [q_up_i e, q_up_f (by decide), hwv x x0 x1, if_neg (by simpa using Ne.symm e)]; omega
  · intro n s ⟨h0, hf, htk, hwv⟩
    show q_ok (f_Plac_setTicks_b43 (f_Plac_setTicks_l43 n) t y (g_ls (l 0 0) (l 0 1) P Q) (l 0 0 * l 0 1) s) _
    unfold f_Plac_setTicks_b43
    rw [hf 60 (by decide) (by decide), h8, if_pos (Int.le_refl _)]
    exact o_rt ⟨hf, fun p hp => htk p hp (k_idx_pt hw hp).1.2, fun x x0 x1 => by rw [hwv x x0 x1, g_cp_all hw]⟩
/-- where a tick's points begin -/
def k_B (l : q_Mem) (P Q x : Int) : Int := g_ca l (fun q => decide (g_tk l P Q q < x))
theorem k_B_s (l : q_Mem) (P Q x : Int) : k_B l P Q (x + 1) = k_B l P Q x + g_ca l (fun q => g_tk l P Q q == x) := by
  refine g_ca_or (fun p _ => ?_)
  simp only [decide_eq_true_eq, beq_iff_eq]
  by_cases c1 : g_tk l P Q p < x
  · rw [if_pos (by omega), if_pos c1, if_neg (by omega)]; rfl
  · by_cases c2 : g_tk l P Q p = x
    · rw [if_pos (by omega), if_neg c1, if_pos c2]; rfl
    · rw [if_neg (by omega), if_neg c1, if_neg c2]; rfl
theorem k_B_mono {l : q_Mem} {P Q x x' : Int} (h : x ≤ x') : k_B l P Q x ≤ k_B l P Q x' := by
  have : ∀ d : Nat, k_B l P Q x ≤ k_B l P Q (x + d) := by
    intro d
    induction d with
    | zero => rw [show x + ((0 : Nat) : Int) = x by omega]; exact Int.le_refl _
    | succ d ih =>
      rw [show x + ((d + 1 : Nat) : Int) = x + d + 1 by omega, k_B_s]
      have := (g_ca_rg l (fun q => g_tk l P Q q == x + d)).1
      omega
  have h2 := this (x' - x).toNat
  rwa [show x + ((x' - x).toNat : Int) = x' by omega] at h2
theorem k_B_0 {l : q_Mem} (hw : g_lw l) (P Q : Int) : k_B l P Q 0 = 0 := by
  refine g_cnt_zero.mpr (fun k k0 k1 => ?_)
  by_cases c : g_th (l 0 0) (l 0 1) k
  · have := (g_tk_rg hw P Q ⟨⟨k0, k1⟩, c⟩).1
    have e : decide (g_tk l P Q k < 0) = false := decide_eq_false (by omega)
    simp [e]
  · simp [c]
theorem k_B_all {l : q_Mem} (hw : g_lw l) (P Q : Int) : k_B l P Q (g_lat (l 0 0) (l 0 1) P Q) = l 0 0 * l 0 1 := by
  rw [← g_ca_true hw]
  exact g_ca_congr (fun p hp => decide_eq_true (g_tk_rg hw P Q hp).2)
theorem k_B_find {l : q_Mem} (hw : g_lw l) (P Q : Int) {i : Int} (h0 : 0 ≤ i) : ∀ d : Nat, i < k_B l P Q d → ∃ x : Int, 0 ≤ x ∧ x < d ∧ k_B l P Q x ≤ i ∧ i < k_B l P Q (x + 1) := by
  intro d
  induction d with
  | zero => intro h; rw [show ((0 : Nat) : Int) = 0 from rfl, k_B_0 hw] at h; omega
  | succ d ih =>
    intro h
    by_cases c : i < k_B l P Q d
    · obtain ⟨x, x0, x1, x2⟩ := ih c
      exact ⟨x, x0, by omega, x2⟩
    · exact ⟨d, by omega, by omega, by omega, by rw [show (d : Int) + 1 = ((d + 1 : Nat) : Int) by omega]; exact h⟩
theorem c_sortByTick (ht : t ∈ q_Lp) (hl : g_CL m t l) (hw : g_lw l) (hP : -9 ≤ P ∧ P ≤ 9) (hQ : -9 ≤ Q ∧ Q ≤ 9) (h8 : m 60 8 = l 0 0 * l 0 1) (h9 : m 60 9 = g_lat (l 0 0) (l 0 1) P Q) (h61 : ∀ p, g_pt l p → m 61 p = g_tk l P Q p) (h65 : ∀ x, 0 ≤ x → x < 163 → m 65 x = g_ca l (fun q => g_tk l P Q q == x)) :
    q_ok (f_Plac_sortByTick t m) (fun _ m' => (∀ c, c ≠ 64 → c ≠ 66 → m' c = m c) ∧ k_ord l (g_tk l P Q) (m' 64)) := by
  have hRC := g_RC hw
  have hlat := g_lat_rg hw hP hQ
  unfold f_Plac_sortByTick
  refine o_upF (fun n k (s : Int × q_Mem) => f_Plac_sortByTick_l4 n t s.1 k s.2) (fun k s => 0 ≤ k ∧ s.1 = k_B l P Q k ∧ (∀ c, c ≠ 66 → s.2 c = m c) ∧ ∀ x, 0 ≤ x → x < k → s.2 66 x = k_B l P Q x) _ (k := 0) (e := g_lat (l 0 0) (l 0 1) P Q) (s := (0, m)) (by omega) (by omega) ⟨by omega, (k_B_0 hw P Q).symm, fun _ _ => rfl, fun x x0 x1 => by omega⟩ ?_ ?_
  · intro n k ⟨v, s⟩ hk ⟨h0, hv, hf, hx⟩ hn
    dsimp only at hv hf hx
    show q_ok (f_Plac_sortByTick_b4 (f_Plac_sortByTick_l4 n) t v k s) _
    unfold f_Plac_sortByTick_b4
    rw [hf 60 (by decide), h9, q_w_id (x := k) (by omega) (by omega), q_w_id (x := g_lat (l 0 0) (l 0 1) P Q) (by omega) (by omega), if_neg (by omega), x_wr (n := 163) h0 (by show k < 163; omega) (by decide), x_rd (n := 163) h0 (by show k < 163; omega) (by decide), q_up_f (m := s) (c := 66) (c' := 65) (by decide), hf 65 (by decide), h65 k h0 (by omega)]
    refine hn (v + g_ca l (fun q => g_tk l P Q q == k), q_up s 66 k v) ⟨by omega, ?_, fun c hc => by dsimp only; rw [q_up_f hc]; exact hf c hc, fun x x0 x1 => ?_⟩
    · dsimp only; rw [k_B_s, hv]
    · dsimp only
      by_cases e : x = k
      · rw [e, q_up_s, hv]
      · rw [q_up_i e]; exact hx x x0 (by omega)
  intro n ⟨v, s⟩ ⟨_, hv, hf, hx⟩
  dsimp only at hv hf hx
  show q_ok (f_Plac_sortByTick_b4 (f_Plac_sortByTick_l4 n) t v (g_lat (l 0 0) (l 0 1) P Q) s) _
  unfold f_Plac_sortByTick_b4
  rw [hf 60 (by decide), h9, if_pos (Int.le_refl _)]
  have sl : ∀ k x, g_cp l k (fun q => g_tk l P Q q == x) ≤ g_ca l (fun q => g_tk l P Q q == x) := by
    intro k x
    refine g_cnt_le (fun p _ _ hp => ?_)
    simp only [Bool.and_eq_true] at hp ⊢
    exact ⟨hp.1, hp.2.2⟩
  refine o_upF (fun n k (s' : q_Mem) => f_Plac_sortByTick_l36 n t k s') (fun k s' => 0 ≤ k ∧ (∀ c, c ≠ 64 → c ≠ 66 → s' c = m c) ∧ (∀ x, 0 ≤ x → x < g_lat (l 0 0) (l 0 1) P Q → s' 66 x = k_B l P Q x + g_cp l k (fun q => g_tk l P Q q == x)) ∧
      (∀ x i, 0 ≤ x → x < g_lat (l 0 0) (l 0 1) P Q → k_B l P Q x ≤ i → i < k_B l P Q x + g_cp l k (fun q => g_tk l P Q q == x) → g_pt l (s' 64 i) ∧ k_idx l (s' 64 i) < k ∧ g_tk l P Q (s' 64 i) = x) ∧
      (∀ x i j, 0 ≤ x → x < g_lat (l 0 0) (l 0 1) P Q → k_B l P Q x ≤ i → i < j → j < k_B l P Q x + g_cp l k (fun q => g_tk l P Q q == x) → k_idx l (s' 64 i) < k_idx l (s' 64 j)) ∧
      (∀ p, g_pt l p → k_idx l p < k → ∃ i, k_B l P Q (g_tk l P Q p) ≤ i ∧ i < k_B l P Q (g_tk l P Q p) + g_cp l k (fun q => g_tk l P Q q == g_tk l P Q p) ∧ s' 64 i = p)) _ (k := 0) (e := l 0 0 * l 0 1) (s := s) (by omega) (by omega)
    ⟨by omega, fun c _ c2 => hf c c2, fun x x0 x1 => by rw [g_cp_0 hw, hx x x0 x1]; omega, fun x i x0 x1 i0 i1 => by rw [g_cp_0 hw] at i1; omega, fun x i j x0 x1 i0 ij j1 => by rw [g_cp_0 hw] at j1; omega, fun p hp hk => by have := (k_idx_pt hw hp).1; omega⟩ ?_ ?_
  · intro n k s' hk ⟨h0, hf', hsl, hiv, hso, hex⟩ hn
    show q_ok (f_Plac_sortByTick_b36 (f_Plac_sortByTick_l36 n) t k s') _
    unfold f_Plac_sortByTick_b36
    have hl' : g_CL s' t l := g_CL_of2 ht hl (fun c hc => hf' c (by omega) (by omega))
    obtain ⟨hpt, hidx⟩ := k_at_pt hw h0 hk
    have hcs := fun X => g_cp_s hw X h0 hk
    rw [hf' 60 (by decide) (by decide), h8, q_w_id (x := k) (by omega) (by omega), q_w_id (x := l 0 0 * l 0 1) (by omega) (by omega), if_neg (by omega), c_pointAt hl' hw ⟨h0, by omega⟩, x_bd]
    generalize hpd : k / l 0 1 * 10 + k % l 0 1 = p at hpt hidx hcs
    have hp1 := hpt.1
    have hrg := g_tk_rg hw P Q hpt
    have e61 : s' 61 p = g_tk l P Q p := by rw [hf' 61 (by decide) (by decide)]; exact h61 p hpt
    -- the slot
    have hslot := hsl _ hrg.1 hrg.2
    have hgr : g_cp l k (fun q => g_tk l P Q q == g_tk l P Q p) + 1 ≤ g_ca l (fun q => g_tk l P Q q == g_tk l P Q p) := by
      have := sl (k + 1) (g_tk l P Q p)
      rw [hcs, if_pos (by simp)] at this
      omega
    have hBs := k_B_s l P Q (g_tk l P Q p)
    have hBm := k_B_mono (l := l) (P := P) (Q := Q) (x := g_tk l P Q p + 1) (x' := g_lat (l 0 0) (l 0 1) P Q) (by omega)
    rw [k_B_all hw] at hBm
    have hB0 := (g_ca_rg l (fun q => decide (g_tk l P Q q < g_tk l P Q p))).1
    have hB0' : 0 ≤ k_B l P Q (g_tk l P Q p) := hB0
    have hc0 := (g_cp_rg l k (fun q => g_tk l P Q q == g_tk l P Q p)).1
    generalize hi0 : k_B l P Q (g_tk l P Q p) + g_cp l k (fun q => g_tk l P Q q == g_tk l P Q p) = i0 at hslot
    have hi0r : 0 ≤ i0 ∧ i0 < 100 := by omega
    rw [x_rd (n := 100) hp1.1 hp1.2 (by decide), e61, x_rd (n := 163) hrg.1 (by show g_tk l P Q p < 163; omega) (by decide), hslot, x_wr (n := 100) hi0r.1 hi0r.2 (by decide), x_rd (n := 100) hp1.1 hp1.2 (by decide), q_up_f (m := s') (c := 64) (c' := 61) (by decide), e61, x_rd (n := 163) hrg.1 (by show g_tk l P Q p < 163; omega) (by decide), q_up_f (m := s') (c := 64) (c' := 66) (by decide), hslot, x_wr (n := 163) hrg.1 (by show g_tk l P Q p < 163; omega) (by decide)]
    -- other ticks' places lie elsewhere
    have apart : ∀ x i, 0 ≤ x → x < g_lat (l 0 0) (l 0 1) P Q → x ≠ g_tk l P Q p → k_B l P Q x ≤ i → i < k_B l P Q x + g_cp l k (fun q => g_tk l P Q q == x) → i ≠ i0 := by
      intro x i x0 x1 xn i1 i2 e
      have hb := k_B_s l P Q x
      have hs2 := sl k x
      rcases Int.lt_or_gt_of_ne xn with c | c
      · have := k_B_mono (l := l) (P := P) (Q := Q) (x := x + 1) (x' := g_tk l P Q p) (by omega)
        omega
      · have := k_B_mono (l := l) (P := P) (Q := Q) (x := g_tk l P Q p + 1) (x' := x) (by omega)
        omega
    have cpx : ∀ x, x ≠ g_tk l P Q p → g_cp l (k + 1) (fun q => g_tk l P Q q == x) = g_cp l k (fun q => g_tk l P Q q == x) := by
      intro x xn
      rw [hcs, if_neg (by simpa using Ne.symm xn)]; omega
    have cpp : g_cp l (k + 1) (fun q => g_tk l P Q q == g_tk l P Q p) = g_cp l k (fun q => g_tk l P Q q == g_tk l P Q p) + 1 := by
      rw [hcs, if_pos (by simp)]
    have v64 : ∀ i, i ≠ i0 → q_up (q_up s' 64 i0 p) 66 (g_tk l P Q p) (i0 + 1) 64 i = s' 64 i := fun i hi => by rw [q_up_f (by decide), q_up_i hi]
    have v64' : q_up (q_up s' 64 i0 p) 66 (g_tk l P Q p) (i0 + 1) 64 i0 = p := by rw [q_up_f (by decide), q_up_s]
    refine hn (q_up (q_up s' 64 i0 p) 66 (g_tk l P Q p) (i0 + 1)) ⟨by omega, fun c c1 c2 => ?_, fun x x0 x1 => ?_, fun x i x0 x1 i1 i2 => ?_, fun x i j x0 x1 i1 ij j1 => ?_, fun q hq hqk => ?_⟩
    · rw [q_up_f c2, q_up_f c1]; exact hf' c c1 c2
    · by_cases e : x = g_tk l P Q p
      · rw [e, q_up_s, cpp]; omega
      · rw [q_up_i e, q_up_f (by decide), hsl x x0 x1, cpx x e]
    · by_cases e : x = g_tk l P Q p
      · rw [e] at i1 i2 ⊢
        rw [cpp] at i2
        by_cases ei : i = i0
        · rw [ei, v64']; exact ⟨hpt, by omega, rfl⟩
        · rw [v64 i ei]
          have := hiv _ i hrg.1 hrg.2 i1 (by omega)
          exact ⟨this.1, by omega, this.2.2⟩
      · rw [cpx x e] at i2
        rw [v64 i (apart x i x0 x1 e i1 i2)]
        have := hiv x i x0 x1 i1 i2
        exact ⟨this.1, by omega, this.2.2⟩
    · by_cases e : x = g_tk l P Q p
      · rw [e] at i1 j1
        rw [cpp] at j1
        rw [v64 i (by omega)]
        by_cases ej : j = i0
        · rw [ej, v64', hidx]
          exact (hiv _ i hrg.1 hrg.2 i1 (by omega)).2.1
        · rw [v64 j ej]
          exact hso _ i j hrg.1 hrg.2 i1 ij (by omega)
      · rw [cpx x e] at j1
        rw [v64 i (apart x i x0 x1 e i1 (by omega)), v64 j (apart x j x0 x1 e (by omega) j1)]
        exact hso x i j x0 x1 i1 ij j1
    · by_cases eq : q = p
      · rw [eq]
        exact ⟨i0, by omega, by rw [cpp]; omega, v64'⟩
      · have hqk' : k_idx l q < k := by
          have : k_idx l q ≠ k := fun e2 => eq (by
            have aa := (k_idx_pt hw hq).2
            rw [e2] at aa
            exact aa.symm.trans hpd)
          omega
        obtain ⟨i, i1, i2, i3⟩ := hex q hq hqk'
        have hne : i ≠ i0 := by
          by_cases e : g_tk l P Q q = g_tk l P Q p
          · rw [e] at i2; omega
          · exact apart _ i (g_tk_rg hw P Q hq).1 (g_tk_rg hw P Q hq).2 e i1 i2
        refine ⟨i, i1, ?_, by rw [v64 i hne]; exact i3⟩
        by_cases e : g_tk l P Q q = g_tk l P Q p
        · rw [e] at i2 ⊢; rw [cpp]; omega
        · rw [cpx _ e]; exact i2
  · intro n s' ⟨_, hf', hsl, hiv, hso, hex⟩
    show q_ok (f_Plac_sortByTick_b36 (f_Plac_sortByTick_l36 n) t (l 0 0 * l 0 1) s') _
    unfold f_Plac_sortByTick_b36
    rw [hf' 60 (by decide) (by decide), h8, if_pos (Int.le_refl _)]
    simp only [g_cp_all hw] at hsl hiv hso hex
    have hend : ∀ x, k_B l P Q x + g_ca l (fun q => g_tk l P Q q == x) = k_B l P Q (x + 1) := fun x => (k_B_s l P Q x).symm
    simp only [hend] at hsl hiv hso hex
    have find : ∀ i, 0 ≤ i → i < l 0 0 * l 0 1 → ∃ x, 0 ≤ x ∧ x < g_lat (l 0 0) (l 0 1) P Q ∧ k_B l P Q x ≤ i ∧ i < k_B l P Q (x + 1) := by
      intro i i0 i1
      have := k_B_find hw P Q i0 (g_lat (l 0 0) (l 0 1) P Q).toNat (by rw [Int.toNat_of_nonneg (by omega), k_B_all hw]; exact i1)
      rwa [Int.toNat_of_nonneg (by omega)] at this
    refine o_rt ⟨hf', fun i i0 i1 => ?_, fun p hp => ?_, fun i j i0 ij j1 => ?_⟩
    · obtain ⟨x, x0, x1, x2, x3⟩ := find i i0 i1
      exact (hiv x i x0 x1 x2 x3).1
    · obtain ⟨i, i1, i2, i3⟩ := hex p hp (k_idx_pt hw hp).1.2
      have hrg := g_tk_rg hw P Q hp
      have hBm := k_B_mono (l := l) (P := P) (Q := Q) (x := g_tk l P Q p + 1) (x' := g_lat (l 0 0) (l 0 1) P Q) (by omega)
      rw [k_B_all hw] at hBm
      have hB0 : 0 ≤ k_B l P Q (g_tk l P Q p) := (g_ca_rg l _).1
      exact ⟨i, by omega, by omega, i3⟩
    · obtain ⟨x, x0, x1, x2, x3⟩ := find i i0 (by omega)
      obtain ⟨z, z0, z1, z2, z3⟩ := find j (by omega) j1
      rw [(hiv x i x0 x1 x2 x3).2.2, (hiv z j z0 z1 z2 z3).2.2]
      rcases Int.lt_trichotomy x z with c | c | c
      · exact Or.inl c
      · subst c
        exact Or.inr ⟨rfl, hso x i j x0 x1 x2 ij z3⟩
      · have := k_B_mono (l := l) (P := P) (Q := Q) (x := z + 1) (x' := x) (by omega)
        omega
end cplan
