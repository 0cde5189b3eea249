/-! GEOMETRY, more: the class's loop, the model's -/
theorem g_cnt_pos {P : Int → Bool} {n : Nat} {k : Int} (h0 : 0 ≤ k) (h1 : k < n) (h : P k = true) : 0 < g_cnt P n := by
  induction n with
  | zero => omega
  | succ n ih =>
    have hr := g_cnt_rg P n
    show 0 < g_cnt P n + (if P n = true then 1 else 0)
    by_cases hk : k = n
    · rw [← hk, if_pos h]; omega
    · have := ih (by omega)
      split <;> omega
theorem g_cnt_zero {P : Int → Bool} {n : Nat} : g_cnt P n = 0 ↔ ∀ k : Int, 0 ≤ k → k < n → P k = false := by
  constructor
  · intro h k h0 h1
    cases hp : P k with
    | false => rfl
    | true => have := g_cnt_pos h0 h1 hp; omega
  · intro h
    induction n with
    | zero => rfl
    | succ n ih =>
      show g_cnt P n + (if P n = true then 1 else 0) = 0
      rw [ih (fun k h0 h1 => h k h0 (by omega)), h n (by omega) (by omega)]
      rfl
def g_law (l : q_Mem) (P Q : Int) : Int := if g_cnt (fun o => decide (0 ≤ P * l 2 o + Q * l 3 o)) (l 0 5).toNat = 0 then 1 else 0
def g_sh (R C a b : Int) : Int := max 0 (R - max a (-a)) * max 0 (C - max b (-b))
def g_lat (R C P Q : Int) : Int := max P (-P) * (R - 1) + max Q (-Q) * (C - 1) + 1
def g_hang (l : q_Mem) (p : Int) : Int := g_cnt (fun o => g_tg l p o != -1) (l 0 5).toNat
def g_held (l : q_Mem) (p : Int) : Int := g_cnt (fun o => g_rr l p o != -1) (l 0 5).toNat
def g_edge (l : q_Mem) (p : Int) : Int := g_cnt (fun r => g_mv (l 0 0) (l 0 1) p (l 5 r) (l 6 r) == -1) (l 0 4).toNat
section geo2_c
variable {t : Int} {m l : q_Mem}
theorem c_isInside (hl : g_CL m t l) (hw : g_lw l) {i j : Int} (hi : -2147483648 ≤ i ∧ i < 2147483648) (hj : -2147483648 ≤ j ∧ j < 2147483648) : f_Loop_isInside t i j m = some (if g_in (l 0 0) (l 0 1) i j then 1 else 0, m) := by
  have h1 := hw.1
  have h2 := hw.2.1
  unfold f_Loop_isInside
  simp (disch := omega) only [x_bd, x_rt, x_pf, x_lt, x_fi, x_rz0, x_rz1, x_rzi, x_pz0, x_pz1, x_rd, x_wr, x_wrz, x_dv, x_md, q_w_id, x_wi, x_i0, x_i1, x_max, x_min, x_abs, ↓reduceIte, Int.reduceEq, Int.reduceLT, Int.reduceLE, Int.reduceNeg, if_true, if_false, hl.1]
  grind
theorem c_points (hl : g_CL m t l) : f_Loop_points t m = some (l 0 0 * l 0 1, m) := by
  unfold f_Loop_points
  rw [hl.1, hl.1]
  rfl
theorem g_RC (hw : g_lw l) : 1 ≤ l 0 0 * l 0 1 ∧ l 0 0 * l 0 1 ≤ 100 := by
  have h1 := hw.1
  have h2 := hw.2.1
  have e := x_mulp (x := l 0 0) (z := l 0 1) (a := 10) (b := 10) (by omega) h1.2 (by omega) h2.2
  have e2 : 0 < l 0 0 * l 0 1 := Int.mul_pos (by omega) (by omega)
  omega
theorem c_pointAt (hl : g_CL m t l) (hw : g_lw l) {k : Int} (hk : 0 ≤ k ∧ k < 100) : f_Loop_pointAt t k m = some (k / l 0 1 * 10 + k % l 0 1, m) := by
  have h2 := hw.2.1
  unfold f_Loop_pointAt
  simp (disch := omega) only [x_bd, x_rt, x_pf, x_lt, x_fi, x_rz0, x_rz1, x_rzi, x_pz0, x_pz1, x_rd, x_wr, x_wrz, x_dv, x_md, q_w_id, x_wi, x_i0, x_i1, x_max, x_min, x_abs, ↓reduceIte, Int.reduceEq, Int.reduceLT, Int.reduceLE, Int.reduceNeg, if_true, if_false, hl.1]
theorem c_shifted (hl : g_CL m t l) (hw : g_lw l) {a b : Int} (ha : -9 ≤ a ∧ a ≤ 9) (hb : -9 ≤ b ∧ b ≤ 9) : f_Loop_shifted t a b m = some (g_sh (l 0 0) (l 0 1) a b, m) := by
  have h1 := hw.1
  have h2 := hw.2.1
  unfold f_Loop_shifted g_sh
  simp (disch := omega) only [x_bd, x_rt, x_pf, x_lt, x_fi, x_rz0, x_rz1, x_rzi, x_pz0, x_pz1, x_rd, x_wr, x_wrz, x_dv, x_md, q_w_id, x_wi, x_i0, x_i1, x_max, x_min, x_abs, ↓reduceIte, Int.reduceEq, Int.reduceLT, Int.reduceLE, Int.reduceNeg, if_true, if_false, hl.1]
theorem c_latency (hl : g_CL m t l) {P Q : Int} (ha : -9 ≤ P ∧ P ≤ 9) (hb : -9 ≤ Q ∧ Q ≤ 9) : f_Loop_latency t P Q m = some (g_lat (l 0 0) (l 0 1) P Q, m) := by
  unfold f_Loop_latency g_lat
  simp (disch := omega) only [x_bd, x_rt, x_pf, x_lt, x_fi, x_rz0, x_rz1, x_rzi, x_pz0, x_pz1, x_rd, x_wr, x_wrz, x_dv, x_md, q_w_id, x_wi, x_i0, x_i1, x_max, x_min, x_abs, ↓reduceIte, Int.reduceEq, Int.reduceLT, Int.reduceLE, Int.reduceNeg, if_true, if_false, hl.1]
theorem c_cells (hl : g_CL m t l) (hw : g_lw l) {a b : Int} (ha : -9 ≤ a ∧ a ≤ 9) (hb : -9 ≤ b ∧ b ≤ 9) : f_Loop_cells t a b m = some (l 0 0 * l 0 1 - g_sh (l 0 0) (l 0 1) a b, m) := by
  unfold f_Loop_cells
  rw [c_points hl, x_bd, c_shifted hl hw ha hb]
  rfl
theorem c_clashes (hl : g_CL m t l) (hw : g_lw l) {P Q a b : Int} (hP : -9 ≤ P ∧ P ≤ 9) (hQ : -9 ≤ Q ∧ Q ≤ 9) (ha : -9 ≤ a ∧ a ≤ 9) (hb : -9 ≤ b ∧ b ≤ 9) : f_Loop_clashes t P Q a b m = some (if P * a + Q * b = 0 then g_sh (l 0 0) (l 0 1) a b else 0, m) := by
  have e1 := x_mul (x := P) (z := a) (a := 9) (b := 9) hP.1 hP.2 ha.1 ha.2
  have e2 := x_mul (x := Q) (z := b) (a := 9) (b := 9) hQ.1 hQ.2 hb.1 hb.2
  unfold f_Loop_clashes
  rw [c_shifted hl hw ha hb]
  simp (disch := omega) only [x_bd, x_rt, x_pf, x_lt, x_fi, x_rz0, x_rz1, x_rzi, x_pz0, x_pz1, x_rd, x_wr, x_wrz, x_dv, x_md, q_w_id, x_wi, x_i0, x_i1, x_max, x_min, x_abs, ↓reduceIte, Int.reduceEq, Int.reduceLT, Int.reduceLE, Int.reduceNeg, if_true, if_false]
  split <;> rfl
theorem c_readersOf (hl : g_CL m t l) (hw : g_lw l) {p : Int} (hp : 0 ≤ p ∧ p < 100) : f_Loop_readersOf t p m = some (g_held l p, m) := by
  have h5 := hw.2.2.2.2.1
  apply o_eq
  unfold f_Loop_readersOf
  refine o_upF (fun n k (s : Int) => f_Loop_readersOf_l4 t n p s k m) (fun k s => 0 ≤ k ∧ s = g_cnt (fun o => g_rr l p o != -1) k.toNat) _ (k := 0) (e := l 0 5) h5.1 (by omega) ⟨by omega, rfl⟩ ?_ ?_
  · intro n k s hk ⟨h0, hs⟩ hn
    show q_ok (f_Loop_readersOf_b4 t (f_Loop_readersOf_l4 t n) p s k m) _
    unfold f_Loop_readersOf_b4 f_Loop_readersOf_b25
    have hr := g_mv_rg (l 0 0) (l 0 1) p (-l 2 k) (-l 3 k) hw.1.2 hw.2.1.2
    rw [c_reader hl hw hp ⟨h0, hk⟩, hl.1]
    simp (disch := (first | omega | (unfold g_rr; omega))) only [x_bd, x_rt, x_pf, x_lt, x_fi, x_rz0, x_rz1, x_rzi, x_pz0, x_pz1, x_rd, x_wr, x_wrz, x_dv, x_md, q_w_id, x_wi, x_i0, x_i1, x_max, x_min, x_abs, ↓reduceIte, Int.reduceEq, Int.reduceLT, Int.reduceLE, Int.reduceNeg, if_true, if_false]
    rw [if_neg (by omega)]
    refine o_if (fun c => hn _ ⟨by omega, ?_⟩) (fun c => hn _ ⟨by omega, ?_⟩)
    · rw [g_cnt_s _ h0, hs]; simp [c]
    · rw [g_cnt_s _ h0, hs]; simp [c]
  · intro n s ⟨h0, hs⟩
    show q_ok (f_Loop_readersOf_b4 t (f_Loop_readersOf_l4 t n) p s (l 0 5) m) _
    unfold f_Loop_readersOf_b4
    rw [hl.1, if_pos (Int.le_refl _)]
    exact o_rt ⟨hs, rfl⟩
theorem c_edgeReads (hl : g_CL m t l) (hw : g_lw l) {p : Int} (hp : 0 ≤ p ∧ p < 100) : f_Loop_edgeReads t p m = some (g_edge l p, m) := by
  have h4 := hw.2.2.2.1
  apply o_eq
  unfold f_Loop_edgeReads
  refine o_upF (fun n k (s : Int) => f_Loop_edgeReads_l4 t n p s k m) (fun k s => 0 ≤ k ∧ s = g_cnt (fun r => g_mv (l 0 0) (l 0 1) p (l 5 r) (l 6 r) == -1) k.toNat) _ (k := 0) (e := l 0 4) h4.1 (by omega) ⟨by omega, rfl⟩ ?_ ?_
  · intro n k s hk ⟨h0, hs⟩ hn
    show q_ok (f_Loop_edgeReads_b4 t (f_Loop_edgeReads_l4 t n) p s k m) _
    unfold f_Loop_edgeReads_b4 f_Loop_edgeReads_b36
    have hr := g_mv_rg (l 0 0) (l 0 1) p (l 5 k) (l 6 k) hw.1.2 hw.2.1.2
    have h8 := hw.2.2.2.2.2.2.2.1 k h0 hk
    simp (disch := omega) only [x_bd, x_rt, x_pf, x_lt, x_fi, x_rz0, x_rz1, x_rzi, x_pz0, x_pz1, x_rd, x_wr, x_wrz, x_dv, x_md, q_w_id, x_wi, x_i0, x_i1, x_max, x_min, x_abs, ↓reduceIte, Int.reduceEq, Int.reduceLT, Int.reduceLE, Int.reduceNeg, if_true, if_false, hl.2, hl.1]
    rw [if_neg (by omega), c_moved' hl hw hp (by omega) (by omega)]
    simp (disch := omega) only [x_bd, x_rt, x_pf, x_lt, x_fi, x_rz0, x_rz1, x_rzi, x_pz0, x_pz1, x_rd, x_wr, x_wrz, x_dv, x_md, q_w_id, x_wi, x_i0, x_i1, x_max, x_min, x_abs, ↓reduceIte, Int.reduceEq, Int.reduceLT, Int.reduceLE, Int.reduceNeg, if_true, if_false]
    refine o_if (fun c => hn _ ⟨by omega, ?_⟩) (fun c => hn _ ⟨by omega, ?_⟩)
    · rw [g_cnt_s _ h0, hs]; simp [c]
    · rw [g_cnt_s _ h0, hs]; simp [c]
  · intro n s ⟨h0, hs⟩
    show q_ok (f_Loop_edgeReads_b4 t (f_Loop_edgeReads_l4 t n) p s (l 0 4) m) _
    unfold f_Loop_edgeReads_b4
    rw [hl.1, if_pos (Int.le_refl _)]
    exact o_rt ⟨hs, rfl⟩
theorem c_isLawful (hl : g_CL m t l) (hw : g_lw l) {P Q : Int} (hP : -9 ≤ P ∧ P ≤ 9) (hQ : -9 ≤ Q ∧ Q ≤ 9) : f_Loop_isLawful t P Q m = some (g_law l P Q, m) := by
  have h5 := hw.2.2.2.2.1
  apply o_eq
  unfold f_Loop_isLawful
  refine o_upF (fun n k (_ : Unit) => f_Loop_isLawful_l2 t n P Q k m) (fun k _ => 0 ≤ k ∧ g_cnt (fun o => decide (0 ≤ P * l 2 o + Q * l 3 o)) k.toNat = 0) _ (k := 0) (e := l 0 5) (s := ()) h5.1 (by omega) ⟨by omega, rfl⟩ ?_ ?_
  · intro n k _ hk ⟨h0, hs⟩ hn
    show q_ok (f_Loop_isLawful_b2 t (f_Loop_isLawful_l2 t n) P Q k m) _
    unfold f_Loop_isLawful_b2
    have h6 := hw.2.2.2.2.2.1 k h0 hk
    have e1 := x_mul (x := P) (z := l 2 k) (a := 9) (b := 3) hP.1 hP.2 (by omega) (by omega)
    have e2 := x_mul (x := Q) (z := l 3 k) (a := 9) (b := 3) hQ.1 hQ.2 (by omega) (by omega)
    simp (disch := omega) only [x_bd, x_rt, x_pf, x_lt, x_fi, x_rz0, x_rz1, x_rzi, x_pz0, x_pz1, x_rd, x_wr, x_wrz, x_dv, x_md, q_w_id, x_wi, x_i0, x_i1, x_max, x_min, x_abs, ↓reduceIte, Int.reduceEq, Int.reduceLT, Int.reduceLE, Int.reduceNeg, if_true, if_false, hl.2, hl.1]
    rw [if_neg (by omega)]
    refine o_if (fun c => hn () ⟨by omega, ?_⟩) (fun c => o_some ⟨?_, rfl⟩)
    · rw [g_cnt_s _ h0, hs]; simp; omega
    · have := g_cnt_pos (P := fun o => decide (0 ≤ P * l 2 o + Q * l 3 o)) (n := (l 0 5).toNat) h0 (by omega) (by simp; omega)
      unfold g_law
      rw [if_neg (by omega)]
  · intro n _ ⟨h0, hs⟩
    show q_ok (f_Loop_isLawful_b2 t (f_Loop_isLawful_l2 t n) P Q (l 0 5) m) _
    unfold f_Loop_isLawful_b2
    rw [hl.1, if_pos (Int.le_refl _)]
    refine o_some ⟨?_, rfl⟩
    unfold g_law
    rw [if_pos hs]
end geo2_c
/-- a loop's value in the model's bank -/
def g_ML (m l : q_Mem) : Prop := ∃ b, (b = 0 ∨ b = 1) ∧ m 81 19 = b ∧ (m 82 b = l 0 0 ∧ m 83 b = l 0 1 ∧ m 84 b = l 0 2 ∧ m 85 b = l 0 3 ∧ m 86 b = l 0 4 ∧ m 87 b = l 0 5) ∧
  (∀ k, 0 ≤ k → k < l 0 5 → m 96 (12 * b + k) = l 2 k ∧ m 97 (12 * b + k) = l 3 k) ∧ (∀ k, 0 ≤ k → k < l 0 4 → m 93 (12 * b + k) = l 4 k ∧ m 94 (12 * b + k) = l 5 k ∧ m 95 (12 * b + k) = l 6 k)
section geo2_m
variable {m l : q_Mem}
theorem m_isIn {x a b : Int} (h1 : -2147483648 ≤ x ∧ x < 2147483648) (h2 : -2147483648 ≤ a ∧ a < 2147483648) (h3 : -2147483648 ≤ b ∧ b < 2147483648) : f_Mod_isIn x a b m = some (if a ≤ x ∧ x ≤ b then 1 else 0, m) := by
  unfold f_Mod_isIn
  simp (disch := omega) only [x_bd, x_rt, x_pf, x_lt, x_fi, x_rz0, x_rz1, x_rzi, x_pz0, x_pz1, x_rd, x_wr, x_wrz, x_dv, x_md, q_w_id, x_wi, x_i0, x_i1, x_max, x_min, x_abs, ↓reduceIte, Int.reduceEq, Int.reduceLT, Int.reduceLE, Int.reduceNeg, if_true, if_false]
  grind
theorem m_less {x z : Int} (h1 : -2147483648 ≤ x ∧ x < 2147483648) (h2 : -2147483648 ≤ z ∧ z < 2147483648) : f_Mod_less x z m = some (min x z, m) := by
  unfold f_Mod_less
  simp (disch := omega) only [x_bd, x_rt, x_pf, x_lt, x_fi, x_rz0, x_rz1, x_rzi, x_pz0, x_pz1, x_rd, x_wr, x_wrz, x_dv, x_md, q_w_id, x_wi, x_i0, x_i1, x_max, x_min, x_abs, ↓reduceIte, Int.reduceEq, Int.reduceLT, Int.reduceLE, Int.reduceNeg, if_true, if_false]
  grind
theorem m_more {x z : Int} (h1 : -2147483648 ≤ x ∧ x < 2147483648) (h2 : -2147483648 ≤ z ∧ z < 2147483648) : f_Mod_more x z m = some (max x z, m) := by
  unfold f_Mod_more
  simp (disch := omega) only [x_bd, x_rt, x_pf, x_lt, x_fi, x_rz0, x_rz1, x_rzi, x_pz0, x_pz1, x_rd, x_wr, x_wrz, x_dv, x_md, q_w_id, x_wi, x_i0, x_i1, x_max, x_min, x_abs, ↓reduceIte, Int.reduceEq, Int.reduceLT, Int.reduceLE, Int.reduceNeg, if_true, if_false]
  grind
theorem m_size {x : Int} (h1 : -2147483648 ≤ x ∧ x < 2147483648) : f_Mod_size x m = some (max x (-x), m) := by
  unfold f_Mod_size
  simp (disch := omega) only [x_bd, x_rt, x_pf, x_lt, x_fi, x_rz0, x_rz1, x_rzi, x_pz0, x_pz1, x_rd, x_wr, x_wrz, x_dv, x_md, q_w_id, x_wi, x_i0, x_i1, x_max, x_min, x_abs, ↓reduceIte, Int.reduceEq, Int.reduceLT, Int.reduceLE, Int.reduceNeg, if_true, if_false]
  grind
theorem m_rows (h : g_ML m l) : f_Mod_rowsNow m = some (l 0 0, m) := by
  obtain ⟨b, hb, h19, ⟨h0, -⟩, -⟩ := h
  unfold f_Mod_rowsNow
  rw [h19]
  simp (disch := omega) only [x_bd, x_rt, x_pf, x_lt, x_fi, x_rz0, x_rz1, x_rzi, x_pz0, x_pz1, x_rd, x_wr, x_wrz, x_dv, x_md, q_w_id, x_wi, x_i0, x_i1, x_max, x_min, x_abs, ↓reduceIte, Int.reduceEq, Int.reduceLT, Int.reduceLE, Int.reduceNeg, if_true, if_false, h0]
theorem m_columns (h : g_ML m l) : f_Mod_columnsNow m = some (l 0 1, m) := by
  obtain ⟨b, hb, h19, ⟨-, h0, -⟩, -⟩ := h
  unfold f_Mod_columnsNow
  rw [h19]
  simp (disch := omega) only [x_bd, x_rt, x_pf, x_lt, x_fi, x_rz0, x_rz1, x_rzi, x_pz0, x_pz1, x_rd, x_wr, x_wrz, x_dv, x_md, q_w_id, x_wi, x_i0, x_i1, x_max, x_min, x_abs, ↓reduceIte, Int.reduceEq, Int.reduceLT, Int.reduceLE, Int.reduceNeg, if_true, if_false, h0]
theorem m_many (h : g_ML m l) : f_Mod_many m = some (l 0 2, m) := by
  obtain ⟨b, hb, h19, ⟨-, -, h0, -⟩, -⟩ := h
  unfold f_Mod_many
  rw [h19]
  simp (disch := omega) only [x_bd, x_rt, x_pf, x_lt, x_fi, x_rz0, x_rz1, x_rzi, x_pz0, x_pz1, x_rd, x_wr, x_wrz, x_dv, x_md, q_w_id, x_wi, x_i0, x_i1, x_max, x_min, x_abs, ↓reduceIte, Int.reduceEq, Int.reduceLT, Int.reduceLE, Int.reduceNeg, if_true, if_false, h0]
theorem m_offsets (h : g_ML m l) : f_Mod_offsetsNow m = some (l 0 5, m) := by
  obtain ⟨b, hb, h19, ⟨-, -, -, -, -, h0⟩, -⟩ := h
  unfold f_Mod_offsetsNow
  rw [h19]
  simp (disch := omega) only [x_bd, x_rt, x_pf, x_lt, x_fi, x_rz0, x_rz1, x_rzi, x_pz0, x_pz1, x_rd, x_wr, x_wrz, x_dv, x_md, q_w_id, x_wi, x_i0, x_i1, x_max, x_min, x_abs, ↓reduceIte, Int.reduceEq, Int.reduceLT, Int.reduceLE, Int.reduceNeg, if_true, if_false, h0]
theorem m_byA (h : g_ML m l) (hw : g_lw l) {o : Int} (ho : 0 ≤ o ∧ o < l 0 5) : f_Mod_byA o m = some (l 2 o, m) := by
  have h5 := hw.2.2.2.2.1
  obtain ⟨b, hb, h19, -, h2, -⟩ := h
  unfold f_Mod_byA
  rw [h19]
  simp (disch := omega) only [x_bd, x_rt, x_pf, x_lt, x_fi, x_rz0, x_rz1, x_rzi, x_pz0, x_pz1, x_rd, x_wr, x_wrz, x_dv, x_md, q_w_id, x_wi, x_i0, x_i1, x_max, x_min, x_abs, ↓reduceIte, Int.reduceEq, Int.reduceLT, Int.reduceLE, Int.reduceNeg, if_true, if_false, (h2 o ho.1 ho.2).1]
theorem m_byB (h : g_ML m l) (hw : g_lw l) {o : Int} (ho : 0 ≤ o ∧ o < l 0 5) : f_Mod_byB o m = some (l 3 o, m) := by
  have h5 := hw.2.2.2.2.1
  obtain ⟨b, hb, h19, -, h2, -⟩ := h
  unfold f_Mod_byB
  rw [h19]
  simp (disch := omega) only [x_bd, x_rt, x_pf, x_lt, x_fi, x_rz0, x_rz1, x_rzi, x_pz0, x_pz1, x_rd, x_wr, x_wrz, x_dv, x_md, q_w_id, x_wi, x_i0, x_i1, x_max, x_min, x_abs, ↓reduceIte, Int.reduceEq, Int.reduceLT, Int.reduceLE, Int.reduceNeg, if_true, if_false, (h2 o ho.1 ho.2).2]
theorem m_isPoint (h : g_ML m l) (hw : g_lw l) {i j : Int} (hi : -2147483648 ≤ i ∧ i < 2147483648) (hj : -2147483648 ≤ j ∧ j < 2147483648) : f_Mod_isPoint i j m = some (if g_in (l 0 0) (l 0 1) i j then 1 else 0, m) := by
  have h1 := hw.1
  have h2 := hw.2.1
  unfold f_Mod_isPoint
  rw [m_rows h, x_bd, m_isIn hi (by omega) (by omega), x_bd, m_columns h, x_bd, m_isIn hj (by omega) (by omega), x_bd]
  simp only [x_bd, x_rt, x_pf, x_lt, x_fi, x_rz0, x_rz1, x_rzi, x_pz0, x_pz1, x_rd, x_wr, x_wrz, x_dv, x_md, q_w_id, x_wi, x_i0, x_i1, x_max, x_min, x_abs, ↓reduceIte, Int.reduceEq, Int.reduceLT, Int.reduceLE, Int.reduceNeg, if_true, if_false]
  grind
theorem m_isThere (h : g_ML m l) (hw : g_lw l) {p : Int} (hp : 0 ≤ p ∧ p < 100) : f_Mod_isThere p m = some (if g_th (l 0 0) (l 0 1) p then 1 else 0, m) := by
  unfold f_Mod_isThere
  simp (disch := omega) only [x_bd, x_rt, x_pf, x_lt, x_fi, x_rz0, x_rz1, x_rzi, x_pz0, x_pz1, x_rd, x_wr, x_wrz, x_dv, x_md, q_w_id, x_wi, x_i0, x_i1, x_max, x_min, x_abs, ↓reduceIte, Int.reduceEq, Int.reduceLT, Int.reduceLE, Int.reduceNeg, if_true, if_false]
  rw [m_isPoint h hw (by omega) (by omega), x_bd]
  simp only [x_bd, x_rt, x_pf, x_lt, x_fi, x_rz0, x_rz1, x_rzi, x_pz0, x_pz1, x_rd, x_wr, x_wrz, x_dv, x_md, q_w_id, x_wi, x_i0, x_i1, x_max, x_min, x_abs, ↓reduceIte, Int.reduceEq, Int.reduceLT, Int.reduceLE, Int.reduceNeg, if_true, if_false]
  grind
theorem m_isVariable (h : g_ML m l) (hw : g_lw l) {v : Int} (hv : -2147483648 ≤ v ∧ v < 2147483648) : f_Mod_isVariable v m = some (if 0 ≤ v ∧ v < l 0 2 then 1 else 0, m) := by
  have h3 := hw.2.2.1
  unfold f_Mod_isVariable
  rw [m_many h, x_bd, m_isIn hv (by omega) (by omega), x_bd]
  simp only [x_bd, x_rt, x_pf, x_lt, x_fi, x_rz0, x_rz1, x_rzi, x_pz0, x_pz1, x_rd, x_wr, x_wrz, x_dv, x_md, q_w_id, x_wi, x_i0, x_i1, x_max, x_min, x_abs, ↓reduceIte, Int.reduceEq, Int.reduceLT, Int.reduceLE, Int.reduceNeg, if_true, if_false]
  grind
theorem m_points (h : g_ML m l) : f_Mod_points m = some (l 0 0 * l 0 1, m) := by
  unfold f_Mod_points
  rw [m_rows h, x_bd, m_columns h]
  rfl
theorem m_readBy (h : g_ML m l) (hw : g_lw l) {p o : Int} (hp : 0 ≤ p ∧ p < 100) (ho : 0 ≤ o ∧ o < l 0 5) : f_Mod_readBy p o m = some (g_tg l p o, m) := by
  have h6 := hw.2.2.2.2.2.1 o ho.1 ho.2
  unfold f_Mod_readBy g_tg g_mv
  simp (disch := omega) only [x_bd, x_rt, x_pf, x_lt, x_fi, x_rz0, x_rz1, x_rzi, x_pz0, x_pz1, x_rd, x_wr, x_wrz, x_dv, x_md, q_w_id, x_wi, x_i0, x_i1, x_max, x_min, x_abs, ↓reduceIte, Int.reduceEq, Int.reduceLT, Int.reduceLE, Int.reduceNeg, if_true, if_false, m_byA h hw ho, m_byB h hw ho]
  rw [m_isPoint h hw (by omega) (by omega), x_bd]
  simp only [x_bd, x_rt, x_pf, x_lt, x_fi, x_rz0, x_rz1, x_rzi, x_pz0, x_pz1, x_rd, x_wr, x_wrz, x_dv, x_md, q_w_id, x_wi, x_i0, x_i1, x_max, x_min, x_abs, ↓reduceIte, Int.reduceEq, Int.reduceLT, Int.reduceLE, Int.reduceNeg, if_true, if_false]
  grind
theorem m_readerBy (h : g_ML m l) (hw : g_lw l) {p o : Int} (hp : 0 ≤ p ∧ p < 100) (ho : 0 ≤ o ∧ o < l 0 5) : f_Mod_readerBy p o m = some (g_rr l p o, m) := by
  have h6 := hw.2.2.2.2.2.1 o ho.1 ho.2
  unfold f_Mod_readerBy g_rr g_mv
  simp (disch := omega) only [x_bd, x_rt, x_pf, x_lt, x_fi, x_rz0, x_rz1, x_rzi, x_pz0, x_pz1, x_rd, x_wr, x_wrz, x_dv, x_md, q_w_id, x_wi, x_i0, x_i1, x_max, x_min, x_abs, ↓reduceIte, Int.reduceEq, Int.reduceLT, Int.reduceLE, Int.reduceNeg, if_true, if_false, m_byA h hw ho, m_byB h hw ho]
  rw [m_isPoint h hw (by omega) (by omega), x_bd]
  simp only [x_bd, x_rt, x_pf, x_lt, x_fi, x_rz0, x_rz1, x_rzi, x_pz0, x_pz1, x_rd, x_wr, x_wrz, x_dv, x_md, q_w_id, x_wi, x_i0, x_i1, x_max, x_min, x_abs, ↓reduceIte, Int.reduceEq, Int.reduceLT, Int.reduceLE, Int.reduceNeg, if_true, if_false]
  grind
end geo2_m
