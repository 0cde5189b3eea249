/-! GEOMETRY: points, steps; a loop's value ℓ: ℓ 0 its numbers (0 rows, 1 columns, 2 variables, 3 units, 4 reads, 5 offsets), ℓ 2, ℓ 3 the offsets, ℓ 4, 5, 6 the reads -/
abbrev g_in (R C i j : Int) : Prop := 0 ≤ i ∧ i < R ∧ 0 ≤ j ∧ j < C
def g_mv (R C p a b : Int) : Int := if g_in R C (p / 10 + a) (p % 10 + b) then (p / 10 + a) * 10 + (p % 10 + b) else -1
abbrev g_th (R C p : Int) : Prop := p / 10 < R ∧ p % 10 < C
theorem g_mv_rg (R C p a b : Int) (hR : R ≤ 10) (hC : C ≤ 10) : -1 ≤ g_mv R C p a b ∧ g_mv R C p a b < 100 := by
  unfold g_mv
  split <;> omega
theorem g_mv_nn {R C p a b : Int} (h : g_mv R C p a b ≠ -1) : 0 ≤ g_mv R C p a b := by
  unfold g_mv at h ⊢
  split at h
  · rw [if_pos (by assumption)]; omega
  · exact absurd rfl h
/-- how many k below n are so -/
def g_cnt (P : Int → Bool) : Nat → Int
  | 0 => 0
  | n + 1 => g_cnt P n + (if P n = true then 1 else 0)
theorem g_cnt_s (P : Int → Bool) {k : Int} (h : 0 ≤ k) : g_cnt P (k + 1).toNat = g_cnt P k.toNat + (if P k = true then 1 else 0) := by
  rw [show (k + 1).toNat = k.toNat + 1 by omega]
  show g_cnt P k.toNat + (if P (k.toNat : Int) = true then 1 else 0) = _
  rw [Int.toNat_of_nonneg h]
theorem g_cnt_rg (P : Int → Bool) (n : Nat) : 0 ≤ g_cnt P n ∧ g_cnt P n ≤ n := by
  induction n with
  | zero => exact ⟨Int.le_refl _, Int.le_refl _⟩
  | succ n ih =>
    show 0 ≤ g_cnt P n + (if P n = true then 1 else 0) ∧ g_cnt P n + (if P n = true then 1 else 0) ≤ ((n + 1 : Nat) : Int)
    split <;> omega
theorem g_cnt_congr {P P' : Int → Bool} {n : Nat} (h : ∀ k : Int, 0 ≤ k → k < n → P k = P' k) : g_cnt P n = g_cnt P' n := by
  induction n with
  | zero => rfl
  | succ n ih =>
    show g_cnt P n + _ = g_cnt P' n + _
    rw [ih (fun k h0 h1 => h k h0 (by omega)), h n (by omega) (by omega)]
theorem o_eq {e : q_Res} {x : Int} {m : q_Mem} (h : q_ok e (fun v m' => v = x ∧ m' = m)) : e = some (x, m) := by
  obtain ⟨v, m', rfl, rfl, rfl⟩ := h
  rfl
theorem o_of {e : q_Res} {x : Int} {m : q_Mem} (h : e = some (x, m)) : q_ok e (fun v m' => v = x ∧ m' = m) := ⟨x, m, h, rfl, rfl⟩
/-- a loop's value in the class's cells from t on -/
def g_CL (m : q_Mem) (t : Int) (l : q_Mem) : Prop := (∀ i, m t i = l 0 i) ∧ ∀ j i, 1 ≤ j → j ≤ 10 → m (t + j) i = l j i
/-- a loop's value is such as a text can tell -/
def g_lw (l : q_Mem) : Prop := (1 ≤ l 0 0 ∧ l 0 0 ≤ 10) ∧ (1 ≤ l 0 1 ∧ l 0 1 ≤ 10) ∧ (0 ≤ l 0 2 ∧ l 0 2 ≤ 3) ∧ (0 ≤ l 0 4 ∧ l 0 4 ≤ 12) ∧ (0 ≤ l 0 5 ∧ l 0 5 ≤ 12) ∧
  (∀ k, 0 ≤ k → k < l 0 5 → (-3 ≤ l 2 k ∧ l 2 k ≤ 3) ∧ (-3 ≤ l 3 k ∧ l 3 k ≤ 3) ∧ ¬ (l 2 k = 0 ∧ l 3 k = 0)) ∧
  (∀ k k', 0 ≤ k → k < k' → k' < l 0 5 → ¬ (l 2 k = l 2 k' ∧ l 3 k = l 3 k')) ∧
  (∀ k, 0 ≤ k → k < l 0 4 → (0 ≤ l 4 k ∧ l 4 k < l 0 2) ∧ (-3 ≤ l 5 k ∧ l 5 k ≤ 3) ∧ (-3 ≤ l 6 k ∧ l 6 k ≤ 3)) ∧
  (∀ k, 0 ≤ k → k < l 0 4 → (l 5 k = 0 ∧ l 6 k = 0) ∨ ∃ o, 0 ≤ o ∧ o < l 0 5 ∧ l 2 o = l 5 k ∧ l 3 o = l 6 k)
/-- the point that p reads by offset o; that reads p -/
def g_tg (l : q_Mem) (p o : Int) : Int := g_mv (l 0 0) (l 0 1) p (l 2 o) (l 3 o)
def g_rr (l : q_Mem) (p o : Int) : Int := g_mv (l 0 0) (l 0 1) p (-l 2 o) (-l 3 o)
section geo_c
variable {t : Int} {m l : q_Mem} (hl : g_CL m t l) (hw : g_lw l)
theorem c_moved {p a b : Int} (hR : 1 ≤ m t 0 ∧ m t 0 ≤ 10) (hC : 1 ≤ m t 1 ∧ m t 1 ≤ 10) (hp : 0 ≤ p ∧ p < 100) (ha : -9 ≤ a ∧ a ≤ 9) (hb : -9 ≤ b ∧ b ≤ 9) : f_Loop_moved t p a b m = some (g_mv (m t 0) (m t 1) p a b, m) := by
  unfold f_Loop_moved g_mv f_Loop_moved_b48 f_Loop_moved_b49
  simp (disch := omega) only [x_bd, x_rt, x_pf, x_lt, x_fi, x_rz0, x_rz1, x_rzi, x_pz0, x_pz1, x_rd, x_wr, x_wrz, x_dv, x_md, q_w_id, x_wi, x_i0, x_i1, x_max, x_min, x_abs, ↓reduceIte, Int.reduceEq, Int.reduceLT, Int.reduceLE, Int.reduceNeg, if_true, if_false]
  grind
theorem c_moved' (hl : g_CL m t l) (hw : g_lw l) {p a b : Int} (hp : 0 ≤ p ∧ p < 100) (ha : -9 ≤ a ∧ a ≤ 9) (hb : -9 ≤ b ∧ b ≤ 9) : f_Loop_moved t p a b m = some (g_mv (l 0 0) (l 0 1) p a b, m) := by
  rw [c_moved (by rw [hl.1]; exact hw.1) (by rw [hl.1]; exact hw.2.1) hp ha hb, hl.1, hl.1]
theorem c_target (hl : g_CL m t l) (hw : g_lw l) {p o : Int} (hp : 0 ≤ p ∧ p < 100) (ho : 0 ≤ o ∧ o < l 0 5) : f_Loop_target t p o m = some (g_tg l p o, m) := by
  have h5 := hw.2.2.2.2.1
  have h6 := hw.2.2.2.2.2.1 o ho.1 ho.2
  unfold f_Loop_target
  simp (disch := omega) only [x_bd, x_rt, x_pf, x_lt, x_fi, x_rz0, x_rz1, x_rzi, x_pz0, x_pz1, x_rd, x_wr, x_wrz, x_dv, x_md, q_w_id, x_wi, x_i0, x_i1, x_max, x_min, x_abs, ↓reduceIte, Int.reduceEq, Int.reduceLT, Int.reduceLE, Int.reduceNeg, if_true, if_false, hl.2]
  rw [c_moved' hl hw hp (by omega) (by omega)]
  rfl
theorem c_reader (hl : g_CL m t l) (hw : g_lw l) {p o : Int} (hp : 0 ≤ p ∧ p < 100) (ho : 0 ≤ o ∧ o < l 0 5) : f_Loop_reader t p o m = some (g_rr l p o, m) := by
  have h5 := hw.2.2.2.2.1
  have h6 := hw.2.2.2.2.2.1 o ho.1 ho.2
  unfold f_Loop_reader
  simp (disch := omega) only [x_bd, x_rt, x_pf, x_lt, x_fi, x_rz0, x_rz1, x_rzi, x_pz0, x_pz1, x_rd, x_wr, x_wrz, x_dv, x_md, q_w_id, x_wi, x_i0, x_i1, x_max, x_min, x_abs, ↓reduceIte, Int.reduceEq, Int.reduceLT, Int.reduceLE, Int.reduceNeg, if_true, if_false, hl.2]
  rw [c_moved' hl hw hp (by omega) (by omega)]
  rfl
theorem c_readBy (hl : g_CL m t l) (hw : g_lw l) {p : Int} (hp : 0 ≤ p ∧ p < 100) : f_Loop_readBy t p m = some (g_cnt (fun o => g_tg l p o != -1) (l 0 5).toNat, m) := by
  have h5 := hw.2.2.2.2.1
  apply o_eq
  unfold f_Loop_readBy
  refine o_upF (fun n k (s : Int) => f_Loop_readBy_l4 t n p s k m) (fun k s => 0 ≤ k ∧ s = g_cnt (fun o => g_tg l p o != -1) k.toNat) _ (k := 0) (e := l 0 5) h5.1 (by omega) ⟨by omega, rfl⟩ ?_ ?_
  · intro n k s hk ⟨h0, hs⟩ hn
    show q_ok (f_Loop_readBy_b4 t (f_Loop_readBy_l4 t n) p s k m) _
    unfold f_Loop_readBy_b4 f_Loop_readBy_b25
    have hr := g_mv_rg (l 0 0) (l 0 1) p (l 2 k) (l 3 k) hw.1.2 hw.2.1.2
    rw [c_target hl hw hp ⟨h0, hk⟩, hl.1]
    simp (disch := (first | omega | (unfold g_tg; omega))) only [x_bd, x_rt, x_pf, x_lt, x_fi, x_rz0, x_rz1, x_rzi, x_pz0, x_pz1, x_rd, x_wr, x_wrz, x_dv, x_md, q_w_id, x_wi, x_i0, x_i1, x_max, x_min, x_abs, ↓reduceIte, Int.reduceEq, Int.reduceLT, Int.reduceLE, Int.reduceNeg, if_true, if_false]
    rw [if_neg (by omega)]
    refine o_if (fun c => hn _ ⟨by omega, ?_⟩) (fun c => hn _ ⟨by omega, ?_⟩)
    · rw [g_cnt_s _ h0, hs]; simp [c]
    · rw [g_cnt_s _ h0, hs]; simp [c]
  · intro n s ⟨h0, hs⟩
    show q_ok (f_Loop_readBy_b4 t (f_Loop_readBy_l4 t n) p s (l 0 5) m) _
    unfold f_Loop_readBy_b4
    rw [hl.1, if_pos (Int.le_refl _)]
    exact o_rt ⟨hs, rfl⟩
end geo_c
