/-! PLANS: ticks, cells, clashes, as numbers -/
def g_ls (R C P Q : Int) : Int := min 0 (P * (R - 1)) + min 0 (Q * (C - 1))
def g_tk (l : q_Mem) (P Q p : Int) : Int := P * (p / 10) + Q * (p % 10) - g_ls (l 0 0) (l 0 1) P Q
def g_key (a b p : Int) : Int := b * (p / 10) - a * (p % 10)
/-- how many points are so -/
def g_ca (l : q_Mem) (X : Int → Bool) : Int := g_cnt (fun p => decide (g_th (l 0 0) (l 0 1) p) && X p) 100
/-- the same of the first k points -/
def g_cp (l : q_Mem) (k : Int) (X : Int → Bool) : Int := g_cnt (fun p => decide (g_th (l 0 0) (l 0 1) p) && (decide (k_idx l p < k) && X p)) 100
theorem g_ca_congr {l : q_Mem} {X Y : Int → Bool} (h : ∀ p, g_pt l p → X p = Y p) : g_ca l X = g_ca l Y := by
  refine g_cnt_congr (fun k k0 k1 => ?_)
  by_cases c : g_th (l 0 0) (l 0 1) k
  · rw [h k ⟨⟨k0, k1⟩, c⟩]
  · simp [c]
theorem g_cp_congr {l : q_Mem} {k : Int} {X Y : Int → Bool} (h : ∀ p, g_pt l p → X p = Y p) : g_cp l k X = g_cp l k Y := by
  refine g_cnt_congr (fun k k0 k1 => ?_)
  by_cases c : g_th (l 0 0) (l 0 1) k
  · rw [h k ⟨⟨k0, k1⟩, c⟩]
  · simp [c]
theorem g_ca_rg (l : q_Mem) (X : Int → Bool) : 0 ≤ g_ca l X ∧ g_ca l X ≤ 100 := g_cnt_rg _ 100
theorem g_cp_rg (l : q_Mem) (k : Int) (X : Int → Bool) : 0 ≤ g_cp l k X ∧ g_cp l k X ≤ 100 := g_cnt_rg _ 100
theorem g_cp_0 {l : q_Mem} (hw : g_lw l) (X : Int → Bool) : g_cp l 0 X = 0 := by
  refine g_cnt_zero.mpr (fun k k0 k1 => ?_)
  by_cases c : g_th (l 0 0) (l 0 1) k
  · have := (k_idx_pt hw ⟨⟨k0, k1⟩, c⟩).1
    have e : decide (k_idx l k < 0) = false := decide_eq_false (by omega)
    simp [e]
  · simp [c]
theorem g_cp_all {l : q_Mem} (hw : g_lw l) (X : Int → Bool) : g_cp l (l 0 0 * l 0 1) X = g_ca l X := by
  refine g_cnt_congr (fun k k0 k1 => ?_)
  by_cases c : g_th (l 0 0) (l 0 1) k
  · have := (k_idx_pt hw ⟨⟨k0, k1⟩, c⟩).1
    have e : decide (k_idx l k < l 0 0 * l 0 1) = true := decide_eq_true (by omega)
    simp [e]
  · simp [c]
theorem g_cp_s {l : q_Mem} (hw : g_lw l) (X : Int → Bool) {k : Int} (h0 : 0 ≤ k) (h1 : k < l 0 0 * l 0 1) : g_cp l (k + 1) X = g_cp l k X + (if X (k / l 0 1 * 10 + k % l 0 1) = true then 1 else 0) := by
  obtain ⟨hpt, hidx⟩ := k_at_pt hw h0 h1
  generalize hpd : k / l 0 1 * 10 + k % l 0 1 = p at hpt hidx
  have ne : ∀ q : Int, 0 ≤ q → q < 100 → q ≠ p → (decide (g_th (l 0 0) (l 0 1) q) && (decide (k_idx l q < k + 1) && X q)) = (decide (g_th (l 0 0) (l 0 1) q) && (decide (k_idx l q < k) && X q)) := by
    intro q q0 q1 e
    by_cases c : g_th (l 0 0) (l 0 1) q
    · have : k_idx l q ≠ k := fun e2 => e (by
        have a := (k_idx_pt hw ⟨⟨q0, q1⟩, c⟩).2
        rw [e2] at a
        exact a.symm.trans hpd)
      rw [decide_eq_decide.mpr (show k_idx l q < k + 1 ↔ k_idx l q < k by omega)]
    · simp [c]
  by_cases cx : X p = true
  · rw [if_pos cx]
    refine g_cnt_flip hpt.1.1 hpt.1.2 ne ?_ ?_
    · have e : decide (k_idx l p < k) = false := decide_eq_false (by omega)
      simp [e]
    · have e : decide (k_idx l p < k + 1) = true := decide_eq_true (by omega)
      simp only [e, cx, decide_eq_true hpt.2, Bool.and_self]
  · rw [if_neg cx, Int.add_zero]
    refine g_cnt_congr (fun q q0 q1 => ?_)
    by_cases e : q = p
    · have : X p = false := by simpa using cx
      rw [e, this]; simp
    · exact ne q q0 q1 e
theorem g_ca_true {l : q_Mem} (hw : g_lw l) : g_ca l (fun _ => true) = l 0 0 * l 0 1 := by
  have hRC := g_RC hw
  have : ∀ d : Nat, (d : Int) ≤ l 0 0 * l 0 1 → g_cp l d (fun _ => true) = d := by
    intro d
    induction d with
    | zero => intro _; exact g_cp_0 hw _
    | succ d ih =>
      intro h
      rw [show ((d + 1 : Nat) : Int) = (d : Int) + 1 by omega, g_cp_s hw _ (by omega) (by omega), ih (by omega)]
      simp
  have h := this (l 0 0 * l 0 1).toNat (by omega)
  rw [Int.toNat_of_nonneg (by omega)] at h
  rw [← g_cp_all hw]; exact h
theorem g_ca_or {l : q_Mem} {X Y Z : Int → Bool} (h : ∀ p, g_pt l p → (if Z p = true then (1 : Int) else 0) = (if X p = true then 1 else 0) + (if Y p = true then 1 else 0)) : g_ca l Z = g_ca l X + g_ca l Y := by
  have : ∀ n : Nat, n ≤ 100 → g_cnt (fun p => decide (g_th (l 0 0) (l 0 1) p) && Z p) n = g_cnt (fun p => decide (g_th (l 0 0) (l 0 1) p) && X p) n + g_cnt (fun p => decide (g_th (l 0 0) (l 0 1) p) && Y p) n := by
    intro n
    induction n with
    | zero => intro _; rfl
    | succ n ih =>
      intro hn
      show g_cnt _ n + _ = (g_cnt _ n + _) + (g_cnt _ n + _)
      rw [ih (by omega)]
      by_cases c : g_th (l 0 0) (l 0 1) n
      · have := h n ⟨⟨by omega, by omega⟩, c⟩
        simp only [decide_eq_true c, Bool.true_and]
        omega
      · simp [c]
  exact this 100 (Nat.le_refl _)
theorem g_ca_pos {l : q_Mem} {X : Int → Bool} {p : Int} (hp : g_pt l p) (h : X p = true) : 0 < g_ca l X := g_cnt_pos hp.1.1 hp.1.2 (by simp [h, hp.2])
theorem g_ca_ex {l : q_Mem} {X : Int → Bool} (h : g_ca l X ≠ 0) : ∃ p, g_pt l p ∧ X p = true := by
  refine Classical.byContradiction fun hn => h (g_cnt_zero.mpr fun k k0 k1 => ?_)
  by_cases c : g_th (l 0 0) (l 0 1) k
  · cases hx : X k with
    | false => simp
    | true => exact absurd ⟨k, ⟨⟨k0, k1⟩, c⟩, hx⟩ hn
  · simp [c]
/-- ticks lie within the latency -/
theorem g_lin {P i R : Int} (h0 : 0 ≤ i) (h1 : i < R) : min 0 (P * (R - 1)) ≤ P * i ∧ P * i ≤ max 0 (P * (R - 1)) := by
  by_cases c : 0 ≤ P
  · have e1 : 0 ≤ P * i := Int.mul_nonneg c h0
    have e2 : P * i ≤ P * (R - 1) := Int.mul_le_mul_of_nonneg_left (by omega) c
    omega
  · have e1 : P * i ≤ 0 := Int.mul_nonpos_of_nonpos_of_nonneg (by omega) h0
    have e2 : P * (R - 1) ≤ P * i := Int.mul_le_mul_of_nonpos_left (by omega) (by omega)
    omega
theorem g_abs_mul {P n : Int} (hn : 0 ≤ n) : max P (-P) * n = max 0 (P * n) - min 0 (P * n) := by
  by_cases c : 0 ≤ P
  · have : 0 ≤ P * n := Int.mul_nonneg c hn
    rw [show max P (-P) = P by omega]; omega
  · have : P * n ≤ 0 := Int.mul_nonpos_of_nonpos_of_nonneg (by omega) hn
    rw [show max P (-P) = -P by omega, Int.neg_mul]; omega
theorem g_lat_eq {R C : Int} (hR : 1 ≤ R) (hC : 1 ≤ C) (P Q : Int) : g_lat R C P Q = (max 0 (P * (R - 1)) + max 0 (Q * (C - 1))) - g_ls R C P Q + 1 := by
  unfold g_lat g_ls
  rw [g_abs_mul (by omega), g_abs_mul (by omega)]
  omega
theorem g_tk_rg {l : q_Mem} (hw : g_lw l) (P Q : Int) {p : Int} (hp : g_pt l p) : 0 ≤ g_tk l P Q p ∧ g_tk l P Q p < g_lat (l 0 0) (l 0 1) P Q := by
  have h1 := hw.1
  have h2 := hw.2.1
  have hp1 := hp.1
  have hp2 := hp.2
  have a := g_lin (P := P) (i := p / 10) (R := l 0 0) (by omega) (by omega)
  have b := g_lin (P := Q) (i := p % 10) (R := l 0 1) (by omega) (by omega)
  rw [g_lat_eq h1.1 h2.1]
  unfold g_tk g_ls
  omega
theorem g_lat_rg {l : q_Mem} (hw : g_lw l) {P Q : Int} (hP : -9 ≤ P ∧ P ≤ 9) (hQ : -9 ≤ Q ∧ Q ≤ 9) : 1 ≤ g_lat (l 0 0) (l 0 1) P Q ∧ g_lat (l 0 0) (l 0 1) P Q ≤ 163 := by
  have h1 := hw.1
  have h2 := hw.2.1
  have a := x_mulp (x := max P (-P)) (z := l 0 0 - 1) (a := 9) (b := 9) (by omega) (by omega) (by omega) (by omega)
  have b := x_mulp (x := max Q (-Q)) (z := l 0 1 - 1) (a := 9) (b := 9) (by omega) (by omega) (by omega) (by omega)
  unfold g_lat
  omega
/-- a corner that has the least, one that has the greatest -/
theorem g_corner {l : q_Mem} (hw : g_lw l) (P Q : Int) : (∃ p, g_pt l p ∧ g_tk l P Q p = 0) ∧ ∃ p, g_pt l p ∧ g_tk l P Q p = g_lat (l 0 0) (l 0 1) P Q - 1 := by
  have h1 := hw.1
  have h2 := hw.2.1
  have corner : ∀ i j, (i = 0 ∨ i = l 0 0 - 1) → (j = 0 ∨ j = l 0 1 - 1) → g_pt l (i * 10 + j) ∧ (i * 10 + j) / 10 = i ∧ (i * 10 + j) % 10 = j := by
    intro i j hi hj
    have e1 : (i * 10 + j) / 10 = i := by omega
    have e2 : (i * 10 + j) % 10 = j := by omega
    exact ⟨⟨by omega, by unfold g_th; rw [e1, e2]; omega⟩, e1, e2⟩
  have lo : ∀ (P n : Int), 0 ≤ n → ∃ i, (i = 0 ∨ i = n) ∧ P * i = min 0 (P * n) := by
    intro P n hn
    by_cases c : 0 ≤ P * n
    · exact ⟨0, Or.inl rfl, by omega⟩
    · exact ⟨n, Or.inr rfl, by omega⟩
  have hi : ∀ (P n : Int), 0 ≤ n → ∃ i, (i = 0 ∨ i = n) ∧ P * i = max 0 (P * n) := by
    intro P n hn
    by_cases c : 0 ≤ P * n
    · exact ⟨n, Or.inr rfl, by omega⟩
    · exact ⟨0, Or.inl rfl, by omega⟩
  obtain ⟨i, hi1, hi2⟩ := lo P (l 0 0 - 1) (by omega)
  obtain ⟨j, hj1, hj2⟩ := lo Q (l 0 1 - 1) (by omega)
  obtain ⟨i', hi1', hi2'⟩ := hi P (l 0 0 - 1) (by omega)
  obtain ⟨j', hj1', hj2'⟩ := hi Q (l 0 1 - 1) (by omega)
  obtain ⟨a1, a2, a3⟩ := corner i j hi1 hj1
  obtain ⟨b1, b2, b3⟩ := corner i' j' hi1' hj1'
  refine ⟨⟨_, a1, ?_⟩, ⟨_, b1, ?_⟩⟩
  · unfold g_tk g_ls; rw [a2, a3]; omega
  · rw [g_lat_eq h1.1 h2.1]; unfold g_tk g_ls; rw [b2, b3]; omega
/-- an occupied key; a cell's number; how many cells there are -/
def g_oc (l : q_Mem) (a b x : Int) : Bool := g_ca l (fun q => g_key a b q == x) != 0
def g_ce (l : q_Mem) (a b p : Int) : Int := g_cnt (fun k => g_oc l a b (k - 64)) (g_key a b p + 64).toNat
def g_cc (l : q_Mem) (a b : Int) : Int := g_cnt (fun k => g_oc l a b (k - 64)) 128
theorem g_key_rg {l : q_Mem} (hw : g_lw l) {a b : Int} (ha : -3 ≤ a ∧ a ≤ 3) (hb : -3 ≤ b ∧ b ≤ 3) {p : Int} (hp : g_pt l p) : -54 ≤ g_key a b p ∧ g_key a b p ≤ 54 := by
  have hp1 := hp.1
  have e1 := x_mul (x := b) (z := p / 10) (a := 3) (b := 9) hb.1 hb.2 (by omega) (by omega)
  have e2 := x_mul (x := a) (z := p % 10) (a := 3) (b := 9) ha.1 ha.2 (by omega) (by omega)
  unfold g_key
  omega
theorem g_oc_pt {l : q_Mem} {a b p : Int} (hp : g_pt l p) : g_oc l a b (g_key a b p) = true := by
  have := g_ca_pos (X := fun q => g_key a b q == g_key a b p) hp (by simp)
  unfold g_oc
  simp
  omega
theorem g_oc_ex {l : q_Mem} {a b x : Int} (h : g_oc l a b x = true) : ∃ p, g_pt l p ∧ g_key a b p = x := by
  unfold g_oc at h
  obtain ⟨p, hp, e⟩ := g_ca_ex (by simpa using h)
  exact ⟨p, hp, by simpa using e⟩
/-- cells' numbers tell keys apart -/
theorem g_cnt_mono {P : Int → Bool} {n n' : Nat} (h : n ≤ n') : g_cnt P n ≤ g_cnt P n' := by
  induction n' with
  | zero => rw [show n = 0 by omega]; exact Int.le_refl _
  | succ n' ih =>
    by_cases e : n = n' + 1
    · rw [e]; exact Int.le_refl _
    · have := ih (by omega)
      show g_cnt P n ≤ g_cnt P n' + (if P n' = true then 1 else 0)
      split <;> omega
theorem g_ce_lt {l : q_Mem} (hw : g_lw l) {a b : Int} (ha : -3 ≤ a ∧ a ≤ 3) (hb : -3 ≤ b ∧ b ≤ 3) {p q : Int} (hp : g_pt l p) (hq : g_pt l q) (h : g_key a b p < g_key a b q) : g_ce l a b p < g_ce l a b q := by
  have k1 := g_key_rg hw ha hb hp
  have k2 := g_key_rg hw ha hb hq
  have e := g_cnt_s (fun k => g_oc l a b (k - 64)) (k := g_key a b p + 64) (by omega)
  have m := g_cnt_mono (P := fun k => g_oc l a b (k - 64)) (n := (g_key a b p + 64 + 1).toNat) (n' := (g_key a b q + 64).toNat) (by omega)
  rw [e] at m
  have o : g_oc l a b (g_key a b p + 64 - 64) = true := by rw [show g_key a b p + 64 - 64 = g_key a b p by omega]; exact g_oc_pt hp
  rw [if_pos o] at m
  unfold g_ce
  omega
theorem g_ce_iff {l : q_Mem} (hw : g_lw l) {a b : Int} (ha : -3 ≤ a ∧ a ≤ 3) (hb : -3 ≤ b ∧ b ≤ 3) {p q : Int} (hp : g_pt l p) (hq : g_pt l q) : g_ce l a b p = g_ce l a b q ↔ g_key a b p = g_key a b q := by
  constructor
  · intro h
    rcases Int.lt_trichotomy (g_key a b p) (g_key a b q) with c | c | c
    · have := g_ce_lt hw ha hb hp hq c; omega
    · exact c
    · have := g_ce_lt hw ha hb hq hp c; omega
  · intro h
    unfold g_ce; rw [h]
theorem g_ce_rg {l : q_Mem} (hw : g_lw l) {a b : Int} (ha : -3 ≤ a ∧ a ≤ 3) (hb : -3 ≤ b ∧ b ≤ 3) {p : Int} (hp : g_pt l p) : 0 ≤ g_ce l a b p ∧ g_ce l a b p < g_cc l a b := by
  have k1 := g_key_rg hw ha hb hp
  refine ⟨(g_cnt_rg _ _).1, ?_⟩
  have e := g_cnt_s (fun k => g_oc l a b (k - 64)) (k := g_key a b p + 64) (by omega)
  have m := g_cnt_mono (P := fun k => g_oc l a b (k - 64)) (n := (g_key a b p + 64 + 1).toNat) (n' := 128) (by omega)
  have o : g_oc l a b (g_key a b p + 64 - 64) = true := by rw [show g_key a b p + 64 - 64 = g_key a b p by omega]; exact g_oc_pt hp
  rw [e, if_pos o] at m
  unfold g_ce g_cc
  omega
