/-! GEOMETRY, third: lines, the model's counts by offset -/
theorem x_ifb (c : Prop) [Decidable c] (A B : q_Res) : (if q_w (if c then 1 else 0) = 0 then A else B) = if c then B else A := by
  by_cases h : c
  · rw [if_pos h, if_pos h, if_neg (by decide)]
  · rw [if_neg h, if_neg h, if_pos (by decide)]
/-- the greatest common divisor of two numbers 0 .. 3 -/
def g_gcd (x y : Int) : Int := if y = 0 then x else if x = 0 then y else if x = y then x else 1
abbrev g_line (a b : Int) : Prop := (-3 ≤ a ∧ a ≤ 3) ∧ (-3 ≤ b ∧ b ≤ 3) ∧ g_gcd (max a (-a)) (max b (-b)) = 1
theorem g_03 {P : Int → Prop} (h0 : P 0) (h1 : P 1) (h2 : P 2) (h3 : P 3) {x : Int} (hx : 0 ≤ x ∧ x ≤ 3) : P x := by
  have : x = 0 ∨ x = 1 ∨ x = 2 ∨ x = 3 := by omega
  rcases this with rfl | rfl | rfl | rfl <;> assumption
theorem c_divisor {x z : Int} (hx : 0 ≤ x ∧ x ≤ 3) (hz : 0 ≤ z ∧ z ≤ 3) (m : q_Mem) : f_PG_divisor x z m = some (g_gcd x z, m) := by
  revert hz
  refine g_03 (P := fun x => (0 ≤ z ∧ z ≤ 3) → f_PG_divisor x z m = some (g_gcd x z, m)) ?_ ?_ ?_ ?_ hx
  all_goals
    intro hz
    refine g_03 (P := fun z => f_PG_divisor _ z m = some (g_gcd _ z, m)) ?_ ?_ ?_ ?_ hz <;> rfl
theorem m_common {a b : Int} (ha : -3 ≤ a ∧ a ≤ 3) (hb : -3 ≤ b ∧ b ≤ 3) (m : q_Mem) : f_Mod_common a b m = some (g_gcd (max a (-a)) (max b (-b)), m) := by
  unfold f_Mod_common
  rw [m_size (by omega), x_bd, m_size (by omega), x_bd]
  have hx : 0 ≤ max a (-a) ∧ max a (-a) ≤ 3 := by omega
  have hz : 0 ≤ max b (-b) ∧ max b (-b) ≤ 3 := by omega
  revert hx hz
  generalize max a (-a) = x
  generalize max b (-b) = z
  intro hx
  refine g_03 (P := fun x => (0 ≤ z ∧ z ≤ 3) → f_Mod_common_l10 q_F x z m = some (g_gcd x z, m)) ?_ ?_ ?_ ?_ hx
  all_goals
    intro hz
    refine g_03 (P := fun z => f_Mod_common_l10 q_F _ z m = some (g_gcd _ z, m)) ?_ ?_ ?_ ?_ hz <;> rfl
theorem g_gcd_rg {x z : Int} (hx : 0 ≤ x ∧ x ≤ 3) (hz : 0 ≤ z ∧ z ≤ 3) : 0 ≤ g_gcd x z ∧ g_gcd x z ≤ 3 := by
  unfold g_gcd
  grind
theorem c_isWithin {x k : Int} (hx : -2147483648 ≤ x ∧ x < 2147483648) (hk : 0 ≤ k ∧ k < 2147483648) (m : q_Mem) : f_PG_isWithin x k m = some (if -k ≤ x ∧ x ≤ k then 1 else 0, m) := by
  unfold f_PG_isWithin
  simp (disch := omega) only [x_bd, x_rt, x_pf, x_lt, x_fi, x_rz0, x_rz1, x_rzi, x_pz0, x_pz1, x_rd, x_wr, x_wrz, x_dv, x_md, q_w_id, x_wi, x_i0, x_i1, x_max, x_min, x_abs, ↓reduceIte, Int.reduceEq, Int.reduceLT, Int.reduceLE, Int.reduceNeg, if_true, if_false]
  grind
theorem c_isLine {a b : Int} (ha : -2147483648 ≤ a ∧ a < 2147483648) (hb : -2147483648 ≤ b ∧ b < 2147483648) (m : q_Mem) : f_PG_isLine a b m = some (if g_line a b then 1 else 0, m) := by
  unfold f_PG_isLine
  rw [c_isWithin ha (by omega), x_bd, x_wi, c_isWithin hb (by omega), x_bd, x_wi]
  simp only [x_i0]
  by_cases h1 : -3 ≤ a ∧ a ≤ 3
  · by_cases h2 : -3 ≤ b ∧ b ≤ 3
    · rw [if_neg (by simpa using h1), if_neg (by simpa using h2), x_abs (by omega) (by omega), x_abs (by omega) (by omega), c_divisor (by omega) (by omega), x_bd]
      have := g_gcd_rg (x := max a (-a)) (z := max b (-b)) (by omega) (by omega)
      rw [q_w_id (by omega) (by omega)]
      by_cases h3 : g_gcd (max a (-a)) (max b (-b)) = 1
      · rw [if_pos h3, if_pos ⟨h1, h2, h3⟩]; rfl
      · rw [if_neg h3, if_neg (fun h => h3 h.2.2)]; rfl
    · rw [if_neg (by simpa using h1), if_pos h2, if_neg (fun h => h2 h.2.1)]; rfl
  · rw [if_pos h1, if_neg (fun h => h1 h.1)]; rfl
theorem m_isLine {a b : Int} (ha : -2147483648 ≤ a ∧ a < 2147483648) (hb : -2147483648 ≤ b ∧ b < 2147483648) (m : q_Mem) : f_Mod_isLine a b m = some (if g_line a b then 1 else 0, m) := by
  unfold f_Mod_isLine
  rw [m_isIn ha (by omega) (by omega), x_bd, x_wi, m_isIn hb (by omega) (by omega), x_bd, x_wi]
  simp only [x_i0]
  by_cases h1 : -3 ≤ a ∧ a ≤ 3
  · by_cases h2 : -3 ≤ b ∧ b ≤ 3
    · rw [if_neg (by simpa using h1), if_neg (by simpa using h2), m_common h1 h2, x_bd]
      have := g_gcd_rg (x := max a (-a)) (z := max b (-b)) (by omega) (by omega)
      rw [q_w_id (by omega) (by omega)]
      by_cases h3 : g_gcd (max a (-a)) (max b (-b)) = 1
      · rw [if_pos h3, if_pos ⟨h1, h2, h3⟩]; rfl
      · rw [if_neg h3, if_neg (fun h => h3 h.2.2)]; rfl
    · rw [if_neg (by simpa using h1), if_pos h2, if_neg (fun h => h2 h.2.1)]; rfl
  · rw [if_pos h1, if_neg (fun h => h1 h.1)]; rfl
section geo3_m
variable {m l : q_Mem}
theorem m_isLawful (h : g_ML m l) (hw : g_lw l) {P Q : Int} (hP : -9 ≤ P ∧ P ≤ 9) (hQ : -9 ≤ Q ∧ Q ≤ 9) : f_Mod_isLawful P Q m = some (g_law l P Q, m) := by
  have h5 := hw.2.2.2.2.1
  apply o_eq
  unfold f_Mod_isLawful
  refine o_upF (fun n k (_ : Unit) => f_Mod_isLawful_l2 n P Q k m) (fun k _ => 0 ≤ k ∧ g_cnt (fun o => decide (0 ≤ P * l 2 o + Q * l 3 o)) k.toNat = 0) _ (k := 0) (e := l 0 5) (s := ()) h5.1 (by omega) ⟨by omega, rfl⟩ ?_ ?_
  · intro n k _ hk ⟨h0, hs⟩ hn
    show q_ok (f_Mod_isLawful_b2 (f_Mod_isLawful_l2 n) P Q k m) _
    unfold f_Mod_isLawful_b2
    have h6 := hw.2.2.2.2.2.1 k h0 hk
    have e1 := x_mul (x := P) (z := l 2 k) (a := 9) (b := 3) hP.1 hP.2 (by omega) (by omega)
    have e2 := x_mul (x := Q) (z := l 3 k) (a := 9) (b := 3) hQ.1 hQ.2 (by omega) (by omega)
    simp (disch := omega) only [x_bd, x_rt, x_pf, x_lt, x_fi, x_rz0, x_rz1, x_rzi, x_pz0, x_pz1, x_rd, x_wr, x_wrz, x_dv, x_md, q_w_id, x_wi, x_i0, x_i1, x_max, x_min, x_abs, ↓reduceIte, Int.reduceEq, Int.reduceLT, Int.reduceLE, Int.reduceNeg, if_true, if_false, m_offsets h, m_byA h hw ⟨h0, hk⟩, m_byB h hw ⟨h0, hk⟩]
    rw [if_neg (by omega)]
    refine o_if (fun c => hn () ⟨by omega, ?_⟩) (fun c => o_some ⟨?_, rfl⟩)
    · rw [g_cnt_s _ h0, hs]; simp; omega
    · have := g_cnt_pos (P := fun o => decide (0 ≤ P * l 2 o + Q * l 3 o)) (n := (l 0 5).toNat) h0 (by omega) (by simp; omega)
      unfold g_law
      rw [if_neg (by omega)]
  · intro n _ ⟨h0, hs⟩
    show q_ok (f_Mod_isLawful_b2 (f_Mod_isLawful_l2 n) P Q (l 0 5) m) _
    unfold f_Mod_isLawful_b2
    rw [m_offsets h, x_bd, if_pos (Int.le_refl _)]
    refine o_some ⟨?_, rfl⟩
    unfold g_law
    rw [if_pos hs]
theorem g_neg1 {x : Int} (h : -1 ≤ x) : (x != -1) = decide (0 ≤ x) := by
  by_cases hx : x = -1
  · subst hx; rfl
  · rw [decide_eq_true (by omega)]
    simpa using hx
theorem m_hasReader (h : g_ML m l) (hw : g_lw l) {p : Int} (hp : 0 ≤ p ∧ p < 100) : f_Mod_hasReader p m = some (if g_held l p = 0 then 0 else 1, m) := by
  have h5 := hw.2.2.2.2.1
  apply o_eq
  unfold f_Mod_hasReader
  refine o_upF (fun n k (_ : Unit) => f_Mod_hasReader_l2 n p k m) (fun k _ => 0 ≤ k ∧ g_cnt (fun o => g_rr l p o != -1) k.toNat = 0) _ (k := 0) (e := l 0 5) (s := ()) h5.1 (by omega) ⟨by omega, rfl⟩ ?_ ?_
  · intro n k _ hk ⟨h0, hs⟩ hn
    show q_ok (f_Mod_hasReader_b2 (f_Mod_hasReader_l2 n) p k m) _
    unfold f_Mod_hasReader_b2
    have hr := g_mv_rg (l 0 0) (l 0 1) p (-l 2 k) (-l 3 k) hw.1.2 hw.2.1.2
    have hr' : -1 ≤ g_rr l p k ∧ g_rr l p k < 100 := hr
    simp (disch := omega) only [x_bd, x_rt, x_pf, x_lt, x_fi, x_rz0, x_rz1, x_rzi, x_pz0, x_pz1, x_rd, x_wr, x_wrz, x_dv, x_md, q_w_id, x_wi, x_i0, x_i1, x_max, x_min, x_abs, ↓reduceIte, Int.reduceEq, Int.reduceLT, Int.reduceLE, Int.reduceNeg, if_true, if_false, m_offsets h, m_readerBy h hw hp ⟨h0, hk⟩]
    rw [if_neg (by omega)]
    refine o_if (fun c => hn () ⟨by omega, ?_⟩) (fun c => o_some ⟨?_, rfl⟩)
    · rw [g_cnt_s _ h0, hs]; simp; omega
    · have := g_cnt_pos (P := fun o => g_rr l p o != -1) (n := (l 0 5).toNat) h0 (by omega) (by simp; omega)
      unfold g_held
      rw [if_neg (by omega)]
  · intro n _ ⟨h0, hs⟩
    show q_ok (f_Mod_hasReader_b2 (f_Mod_hasReader_l2 n) p (l 0 5) m) _
    unfold f_Mod_hasReader_b2
    rw [m_offsets h, x_bd, if_pos (Int.le_refl _)]
    refine o_some ⟨?_, rfl⟩
    unfold g_held
    rw [if_pos hs]
theorem m_edgesBy (h : g_ML m l) (hw : g_lw l) {p : Int} (hp : 0 ≤ p ∧ p < 100) : f_Mod_edgesBy p m = some (g_edge l p, m) := by
  have h4 := hw.2.2.2.1
  have hML := h
  obtain ⟨b, hb, h19, ⟨-, -, -, -, h86, -⟩, -, hr⟩ := h
  apply o_eq
  unfold f_Mod_edgesBy
  refine o_upF (fun n k (s : Int) => f_Mod_edgesBy_l4 n p s k m) (fun k s => 0 ≤ k ∧ s = g_cnt (fun r => g_mv (l 0 0) (l 0 1) p (l 5 r) (l 6 r) == -1) k.toNat) _ (k := 0) (e := l 0 4) h4.1 (by omega) ⟨by omega, rfl⟩ ?_ ?_
  · intro n k s hk ⟨h0, hs⟩ hn
    show q_ok (f_Mod_edgesBy_b4 (f_Mod_edgesBy_l4 n) p s k m) _
    unfold f_Mod_edgesBy_b4 f_Mod_edgesBy_b68
    have h8 := hw.2.2.2.2.2.2.2.1 k h0 hk
    rw [h19]
    simp (disch := omega) only [x_bd, x_rt, x_pf, x_lt, x_fi, x_rz0, x_rz1, x_rzi, x_pz0, x_pz1, x_rd, x_wr, x_wrz, x_dv, x_md, q_w_id, x_wi, x_i0, x_i1, x_max, x_min, x_abs, ↓reduceIte, Int.reduceEq, Int.reduceLT, Int.reduceLE, Int.reduceNeg, if_true, if_false, h86, (hr k h0 hk).2.1, (hr k h0 hk).2.2]
    rw [if_neg (by omega), m_isPoint hML hw (by omega) (by omega)]
    simp only [x_bd, x_rt, x_pf, x_lt, x_fi, x_rz0, x_rz1, x_rzi, x_pz0, x_pz1, x_rd, x_wr, x_wrz, x_dv, x_md, q_w_id, x_wi, x_i0, x_i1, x_max, x_min, x_abs, ↓reduceIte, Int.reduceEq, Int.reduceLT, Int.reduceLE, Int.reduceNeg, if_true, if_false]
    refine o_if (fun c => hn _ ⟨by omega, ?_⟩) (fun c => hn _ ⟨by omega, ?_⟩)
    · rw [g_cnt_s _ h0, hs]
      have e : g_mv (l 0 0) (l 0 1) p (l 5 k) (l 6 k) = -1 := if_neg c
      simp [e]
    · rw [g_cnt_s _ h0, hs]
      have e : g_mv (l 0 0) (l 0 1) p (l 5 k) (l 6 k) ≠ -1 := by
        unfold g_mv
        rw [if_pos (Decidable.not_not.mp c)]
        omega
      simp [e]
  · intro n s ⟨h0, hs⟩
    show q_ok (f_Mod_edgesBy_b4 (f_Mod_edgesBy_l4 n) p s (l 0 4) m) _
    unfold f_Mod_edgesBy_b4
    rw [h19]
    simp (disch := omega) only [x_bd, x_rt, x_pf, x_lt, x_fi, x_rz0, x_rz1, x_rzi, x_pz0, x_pz1, x_rd, x_wr, x_wrz, x_dv, x_md, q_w_id, x_wi, x_i0, x_i1, x_max, x_min, x_abs, ↓reduceIte, Int.reduceEq, Int.reduceLT, Int.reduceLE, Int.reduceNeg, if_true, if_false, h86]
    rw [if_pos (Int.le_refl _)]
    exact o_some ⟨hs, rfl⟩
/-- near: what 0 and what 1 -/
theorem m_near (h : g_ML m l) (hw : g_lw l) {i j w : Int} (hi : -2147483648 ≤ i ∧ i < 2147483648) (hj : -2147483648 ≤ j ∧ j < 2147483648) (hww : -2147483648 ≤ w ∧ w < 2147483648) : f_Mod_near i j w m = some (if g_in (l 0 0) (l 0 1) i j then (if w = 0 then g_hang l (i * 10 + j) else if w = 1 then g_held l (i * 10 + j) else -1) else -1, m) := by
  have h5 := hw.2.2.2.2.1
  have h1 := hw.1
  have h2 := hw.2.1
  unfold f_Mod_near
  rw [m_isPoint h hw hi hj, x_bd, x_ifb]
  by_cases hg : g_in (l 0 0) (l 0 1) i j
  · rw [if_pos hg, if_pos hg, m_isIn hww (by omega) (by omega), x_bd, x_ifb]
    by_cases hw2 : 0 ≤ w ∧ w ≤ 1
    · rw [if_pos hw2]
      apply o_eq
      have e10 : 10 * i + j = i * 10 + j := by omega
      refine o_upF (fun n k (s : Int) => f_Mod_near_l26 n i j w s k m) (fun k s => 0 ≤ k ∧ s = if w = 0 then g_cnt (fun o => g_tg l (i * 10 + j) o != -1) k.toNat else g_cnt (fun o => g_rr l (i * 10 + j) o != -1) k.toNat) _ (k := 0) (e := l 0 5) h5.1 (by omega) ⟨by omega, ?_⟩ ?_ ?_
      · show (0 : Int) = if w = 0 then g_cnt _ 0 else g_cnt _ 0
        split <;> rfl
      · intro n k s hk ⟨h0, hs⟩ hn
        show q_ok (f_Mod_near_b26 (f_Mod_near_l26 n) i j w s k m) _
        unfold f_Mod_near_b26 f_Mod_near_b68 f_Mod_near_b76
        have hr1 : -1 ≤ g_tg l (i * 10 + j) k ∧ g_tg l (i * 10 + j) k < 100 := g_mv_rg _ _ _ _ _ hw.1.2 hw.2.1.2
        have hr2 : -1 ≤ g_rr l (i * 10 + j) k ∧ g_rr l (i * 10 + j) k < 100 := g_mv_rg _ _ _ _ _ hw.1.2 hw.2.1.2
        rw [e10]
        simp (disch := omega) only [x_bd, x_rt, x_pf, x_lt, x_fi, x_rz0, x_rz1, x_rzi, x_pz0, x_pz1, x_rd, x_wr, x_wrz, x_dv, x_md, q_w_id, x_wi, x_i0, x_i1, x_max, x_min, x_abs, ↓reduceIte, Int.reduceEq, Int.reduceLT, Int.reduceLE, Int.reduceNeg, if_true, if_false, m_offsets h, m_readerBy h hw (show 0 ≤ i * 10 + j ∧ i * 10 + j < 100 by omega) ⟨h0, hk⟩, m_readBy h hw (show 0 ≤ i * 10 + j ∧ i * 10 + j < 100 by omega) ⟨h0, hk⟩]
        rw [if_neg (by omega)]
        refine o_if (fun c => o_if (fun c2 => hn _ ⟨by omega, ?_⟩) (fun c2 => hn _ ⟨by omega, ?_⟩)) (fun c => o_if (fun c2 => hn _ ⟨by omega, ?_⟩) (fun c2 => hn _ ⟨by omega, ?_⟩))
        · rw [if_pos c] at hs ⊢
          rw [g_cnt_s _ h0, hs]; simp; omega
        · rw [if_pos c] at hs ⊢
          rw [g_cnt_s _ h0, hs]; simp; omega
        · rw [if_neg c] at hs ⊢
          rw [g_cnt_s _ h0, hs]; simp; omega
        · rw [if_neg c] at hs ⊢
          rw [g_cnt_s _ h0, hs]; simp; omega
      · intro n s ⟨h0, hs⟩
        show q_ok (f_Mod_near_b26 (f_Mod_near_l26 n) i j w s (l 0 5) m) _
        unfold f_Mod_near_b26
        rw [m_offsets h, x_bd, if_pos (Int.le_refl _)]
        refine o_some ⟨?_, rfl⟩
        unfold g_hang g_held
        rw [hs]
        grind
    · rw [if_neg hw2]
      have : ¬ w = 0 ∧ ¬ w = 1 := by omega
      rw [if_neg this.1, if_neg this.2]
      rfl
  · rw [if_neg hg, if_neg hg]
    rfl
end geo3_m
