/-! TILES: how often points read those of other tiles -/
def i_T (r c p : Int) : Int := 10 * (p / 10 / r) + p % 10 / c
def i_K (r c A p : Int) : Int := p / 10 / r * A + p % 10 / c
def i_tog (P s w : Int) : Int := g_cnt (fun k => decide (k < P) && (decide (0 ≤ k + s) && decide (k + s < P)) && k / w == (k + s) / w) 10
/-- a point reads one of another tile by an offset -/
def i_x (l : q_Mem) (r c p o : Int) : Bool := g_tg l p o != -1 && i_T r c p != i_T r c (g_tg l p o)
def i_X (l : q_Mem) (r c : Int) : Int := g_sum (fun o => g_ca l (fun p => i_x l r c p o)) (l 0 5).toNat
theorem i_div {x r : Int} (h0 : 0 ≤ x) (hx : x < 10) (hr : 1 ≤ r) : 0 ≤ x / r ∧ x / r < 10 := by
  refine ⟨Int.ediv_nonneg h0 (by omega), ?_⟩
  have := Int.ediv_le_self r h0
  omega
theorem i_T_rg {r c p : Int} (hr : 1 ≤ r) (hc : 1 ≤ c) (hp : 0 ≤ p ∧ p < 100) : 0 ≤ i_T r c p ∧ i_T r c p < 100 := by
  have a := i_div (x := p / 10) (r := r) (by omega) (by omega) hr
  have b := i_div (x := p % 10) (r := c) (by omega) (by omega) hc
  unfold i_T
  omega
theorem i_T_eq {r c p q : Int} (hr : 1 ≤ r) (hc : 1 ≤ c) (hp : 0 ≤ p ∧ p < 100) (hq : 0 ≤ q ∧ q < 100) : i_T r c p = i_T r c q ↔ p / 10 / r = q / 10 / r ∧ p % 10 / c = q % 10 / c := by
  have b := i_div (x := p % 10) (r := c) (by omega) (by omega) hc
  have b' := i_div (x := q % 10) (r := c) (by omega) (by omega) hc
  unfold i_T
  constructor
  · intro h; omega
  · rintro ⟨h1, h2⟩; rw [h1, h2]
theorem g_sum_swap (P : Int → Int → Bool) (n N : Nat) : g_sum (fun p => g_cnt (fun o => P p o) n) N = g_sum (fun o => g_cnt (fun p => P p o) N) n := by
  induction N with
  | zero => exact (g_sum_0 n).symm
  | succ N ih =>
    show g_sum (fun p => g_cnt (fun o => P p o) n) N + g_cnt (fun o => P N o) n = g_sum (fun o => g_cnt (fun p => P p o) N + (if P N o = true then 1 else 0)) n
    rw [g_sum_add, ih, g_cnt_sum (fun o => P N o) n]
section tiles1
variable {l m : q_Mem} {t : Int}
theorem c_together {P s w : Int} (hP : 1 ≤ P ∧ P ≤ 10) (hs : -3 ≤ s ∧ s ≤ 3) (hw : 1 ≤ w ∧ w ≤ 10) (m : q_Mem) : f_Tile_together P s w m = some (i_tog P s w, m) := by
  apply o_eq
  unfold f_Tile_together
  have hlo : q_max 0 (-s) = max 0 (-s) := x_max (by omega) (by omega) (by omega) (by omega)
  have hhi : q_min P (P - s) = min P (P - s) := x_min (by omega) (by omega) (by omega) (by omega)
  rw [hlo]
  have cf : ∀ k : Int, ¬ (0 ≤ k + s ∧ k + s < P ∧ k < P) → (decide (k < P) && (decide (0 ≤ k + s) && decide (k + s < P)) && k / w == (k + s) / w) = false := by
    intro k hk
    by_cases h1 : k < P <;> by_cases h2 : 0 ≤ k + s <;> by_cases h3 : k + s < P <;> simp [h1, h2, h3]
    omega
  by_cases ce : min P (P - s) ≤ max 0 (-s)
  · have st : f_Tile_together_l10 q_F P s w 0 (max 0 (-s)) m = f_Tile_together_b10 (f_Tile_together_l10 19999) P s w 0 (max 0 (-s)) m := rfl
    rw [st]
    unfold f_Tile_together_b10
    rw [hhi, q_w_id (x := min P (P - s)) (by omega) (by omega), q_w_id (x := max 0 (-s)) (by omega) (by omega), if_pos ce]
    refine o_rt ⟨?_, rfl⟩
    unfold i_tog
    exact (g_cnt_zero.mpr fun k k0 k1 => cf k (by omega)).symm
  · refine o_upF (fun n k (a : Int) => f_Tile_together_l10 n P s w a k m) (fun k a => max 0 (-s) ≤ k ∧ a = g_cnt (fun k => decide (k < P) && (decide (0 ≤ k + s) && decide (k + s < P)) && k / w == (k + s) / w) k.toNat) _ (k := max 0 (-s)) (e := min P (P - s)) (s := 0) (by omega) (by omega) ⟨Int.le_refl _, ?_⟩ ?_ ?_
    · exact (g_cnt_zero.mpr fun k k0 k1 => cf k (by omega)).symm
    · intro n k a hk ⟨k0, ha⟩ hn
      have d1 := i_div (x := k) (r := w) (by omega) (by omega) hw.1
      have d2 := i_div (x := k + s) (r := w) (by omega) (by omega) hw.1
      show q_ok (f_Tile_together_b10 (f_Tile_together_l10 n) P s w a k m) _
      unfold f_Tile_together_b10 f_Tile_together_b38
      rw [hhi, q_w_id (x := min P (P - s)) (by omega) (by omega), q_w_id (x := k) (by omega) (by omega), if_neg (by omega), x_dv (by omega) (by omega) (by omega) (by omega), x_dv (by omega) (by omega) (by omega) (by omega), q_w_id (x := k / w) (by omega) (by omega), q_w_id (x := (k + s) / w) (by omega) (by omega)]
      have hs := g_cnt_s (fun k => decide (k < P) && (decide (0 ≤ k + s) && decide (k + s < P)) && k / w == (k + s) / w) (k := k) (by omega)
      have p1 : k < P := by omega
      have p2 : 0 ≤ k + s := by omega
      have p3 : k + s < P := by omega
      by_cases c : k / w = (k + s) / w
      · rw [if_pos c]
        refine hn _ ⟨by omega, ?_⟩
        rw [hs, ← ha, if_pos (by simp [p1, p2, p3, c])]
      · rw [if_neg c]
        refine hn _ ⟨by omega, ?_⟩
        rw [hs, ← ha, if_neg (by simp [c]), Int.add_zero]
    · intro n a ⟨_, ha⟩
      show q_ok (f_Tile_together_b10 (f_Tile_together_l10 n) P s w a (min P (P - s)) m) _
      unfold f_Tile_together_b10
      rw [hhi, if_pos (Int.le_refl _)]
      refine o_rt ⟨?_, rfl⟩
      rw [ha]
      unfold i_tog
      exact (g_cnt_tail (by omega) fun k k0 k1 => cf k (by omega)).symm
/-- those that stay within their tile -/
theorem i_same (hw : g_lw l) {r c o : Int} (hr : 1 ≤ r ∧ r ≤ 10) (hc : 1 ≤ c ∧ c ≤ 10) (ho : 0 ≤ o ∧ o < l 0 5) : g_ca l (fun p => g_tg l p o != -1 && i_T r c p == i_T r c (g_tg l p o)) = i_tog (l 0 0) (l 2 o) r * i_tog (l 0 1) (l 3 o) c := by
  have h6 := hw.2.2.2.2.2.1 o ho.1 ho.2
  have hR := hw.1
  have hC := hw.2.1
  unfold i_tog
  rw [← g_cnt_10 (fun k => decide (k < l 0 0) && (decide (0 ≤ k + l 2 o) && decide (k + l 2 o < l 0 0)) && k / r == (k + l 2 o) / r) (fun k => decide (k < l 0 1) && (decide (0 ≤ k + l 3 o) && decide (k + l 3 o < l 0 1)) && k / c == (k + l 3 o) / c) 10]
  unfold g_ca
  refine g_cnt_congr fun p p0 p1 => ?_
  have p1' : p < 100 := p1
  show (decide (g_th (l 0 0) (l 0 1) p) && (g_tg l p o != -1 && i_T r c p == i_T r c (g_tg l p o))) = _
  by_cases ct : g_tg l p o = -1
  · rw [ct]
    have hn : ¬ g_in (l 0 0) (l 0 1) (p / 10 + l 2 o) (p % 10 + l 3 o) := by
      intro hin
      unfold g_tg g_mv at ct
      rw [if_pos hin] at ct
      unfold g_in at hin
      omega
    unfold g_in at hn
    simp
    intro a1 a2 a3 a4 a5 a6 a7
    omega
  · have hin := g_mv_in (R := l 0 0) (C := l 0 1) (p := p) (a := l 2 o) (b := l 3 o) ct
    have e : g_tg l p o = (p / 10 + l 2 o) * 10 + (p % 10 + l 3 o) := hin.1
    have hi := hin.2
    unfold g_in at hi
    have e1 : g_tg l p o / 10 = p / 10 + l 2 o := by omega
    have e2 : g_tg l p o % 10 = p % 10 + l 3 o := by omega
    have hT := i_T_eq (r := r) (c := c) (p := p) (q := g_tg l p o) hr.1 hc.1 ⟨p0, p1'⟩ (by omega)
    rw [e1, e2] at hT
    have b1 : 0 ≤ p / 10 + l 2 o := by omega
    have b2 : p / 10 + l 2 o < l 0 0 := by omega
    have b3 : 0 ≤ p % 10 + l 3 o := by omega
    have b4 : p % 10 + l 3 o < l 0 1 := by omega
    have hT' : (i_T r c p == i_T r c (g_tg l p o)) = (p / 10 / r == (p / 10 + l 2 o) / r && p % 10 / c == (p % 10 + l 3 o) / c) := by
      rw [Bool.eq_iff_iff]
      simp only [Bool.and_eq_true, beq_iff_eq]
      exact hT
    rw [hT']
    simp only [b1, b2, b3, b4, decide_true, Bool.true_and, Bool.and_true, bne_iff_ne]
    rw [show (g_tg l p o != -1) = true by simp [ct], Bool.true_and]
    unfold g_th
    by_cases d1 : p / 10 < l 0 0 <;> by_cases d2 : p % 10 < l 0 1 <;> simp [d1, d2]
theorem i_cross (hw : g_lw l) {r c o : Int} (hr : 1 ≤ r ∧ r ≤ 10) (hc : 1 ≤ c ∧ c ≤ 10) (ho : 0 ≤ o ∧ o < l 0 5) : g_ca l (fun p => i_x l r c p o) = g_sh (l 0 0) (l 0 1) (l 2 o) (l 3 o) - i_tog (l 0 0) (l 2 o) r * i_tog (l 0 1) (l 3 o) c := by
  have h6 := hw.2.2.2.2.2.1 o ho.1 ho.2
  rw [← i_same hw hr hc ho, ← g_sh_ca hw (s := l 2 o) (t := l 3 o) (by omega) (by omega)]
  have := g_ca_or (l := l) (X := fun p => g_tg l p o != -1 && i_T r c p == i_T r c (g_tg l p o)) (Y := fun p => i_x l r c p o) (Z := fun p => g_mv (l 0 0) (l 0 1) p (l 2 o) (l 3 o) != -1) (fun p hp => by
    show (if (g_tg l p o != -1) = true then (1 : Int) else 0) = _
    unfold i_x
    by_cases c1 : g_tg l p o = -1
    · simp [c1]
    · by_cases c2 : i_T r c p = i_T r c (g_tg l p o)
      · simp [c1, c2]
      · simp [c1, c2])
  omega
end tiles1
