/-! QUESTION: peak -/
/-- the first tick below n that is fullest -/
def f_full (W : Int → Int) : Nat → Int
  | 0 => 0
  | n + 1 => if W n ≤ W (f_full W n) then f_full W n else n
theorem f_full_s (W : Int → Int) {k : Int} (h : 0 ≤ k) : f_full W (k + 1).toNat = if W k ≤ W (f_full W k.toNat) then f_full W k.toNat else k := by
  rw [show (k + 1).toNat = k.toNat + 1 by omega]
  show (if W (k.toNat : Int) ≤ W (f_full W k.toNat) then f_full W k.toNat else (k.toNat : Int)) = _
  rw [show (k.toNat : Int) = k by omega]
theorem f_full_rg (W : Int → Int) : ∀ n : Nat, 0 ≤ f_full W n ∧ f_full W n ≤ n := by
  intro n
  induction n with
  | zero => exact ⟨Int.le_refl _, Int.le_refl _⟩
  | succ n ih =>
    have e : f_full W (n + 1) = if W n ≤ W (f_full W n) then f_full W n else n := rfl
    rw [e]
    split <;> omega
section peak
variable {l m : q_Mem} {o : Int → Int}
def f_W (l : q_Mem) (o : Int → Int) (x : Int) : Int := g_ca l (fun q => g_tk l (o 0) (o 1) q == x)
theorem f_W_rg (x : Int) : 0 ≤ f_W l o x ∧ f_W l o x ≤ 100 := g_ca_rg _ _
theorem c_fullest (hk : k_ok l o) (hc : k_C l o m) : f_Plac_fullestTick m = some (f_full (f_W l o) (g_lat (l 0 0) (l 0 1) (o 0) (o 1)).toNat, m) := by
  have hlat := g_lat_rg hk.1 hk.2.2.2.1 hk.2.2.2.2.1
  obtain ⟨p1, p2, p3, p4, p5, p6, p7, p8, p9⟩ := hc.2.2.2.1
  unfold f_Plac_fullestTick
  refine o_upP (fun n k (s : Int) => f_Plac_fullestTick_l4 n s k m) (fun k s => 1 ≤ k ∧ s = f_full (f_W l o) k.toNat) (fun r => r = some (f_full (f_W l o) (g_lat (l 0 0) (l 0 1) (o 0) (o 1)).toNat, m)) (k := 1) (e := g_lat (l 0 0) (l 0 1) (o 0) (o 1)) (s := 0) (by omega) (by omega) ⟨by omega, (if_pos (Int.le_refl _)).symm⟩ ?_ ?_
  · intro n k s hkk ⟨k0, es⟩ hn
    have hr := f_full_rg (f_W l o) k.toNat
    have e := f_full_s (f_W l o) (k := k) (by omega)
    have w1 := f_W_rg (l := l) (o := o) k
    have w2 := f_W_rg (l := l) (o := o) s
    show f_Plac_fullestTick_b4 (f_Plac_fullestTick_l4 n) s k m = _
    unfold f_Plac_fullestTick_b4 f_Plac_fullestTick_b29
    rw [p7, q_w_id (by omega) (by omega), q_w_id (x := k) (by omega) (by omega), if_neg (by omega), x_rd (n := 163) (by omega) (by omega) (by decide), x_rd (n := 163) (by omega) (by omega) (by decide), p5 k (by omega) (by omega), p5 s (by omega) (by omega)]
    show (if q_w (f_W l o k) ≤ q_w (f_W l o s) then _ else _) = _
    rw [q_w_id (by omega) (by omega), q_w_id (by omega) (by omega)]
    rw [← es] at e
    by_cases c : f_W l o k ≤ f_W l o s
    · rw [if_pos c] at e ⊢
      exact hn s ⟨by omega, e.symm⟩
    · rw [if_neg c] at e ⊢
      exact hn k ⟨by omega, e.symm⟩
  · intro n s ⟨k0, es⟩
    show f_Plac_fullestTick_b4 (f_Plac_fullestTick_l4 n) s _ m = _
    unfold f_Plac_fullestTick_b4
    rw [p7, if_pos (Int.le_refl _), es]
    rfl
theorem c_empty (hk : k_ok l o) (hc : k_C l o m) : f_Plac_emptyTicks m = some (g_cnt (fun x => f_W l o x == 0) (g_lat (l 0 0) (l 0 1) (o 0) (o 1)).toNat, m) := by
  have hlat := g_lat_rg hk.1 hk.2.2.2.1 hk.2.2.2.2.1
  obtain ⟨p1, p2, p3, p4, p5, p6, p7, p8, p9⟩ := hc.2.2.2.1
  unfold f_Plac_emptyTicks
  refine o_cnt (fun n a k => f_Plac_emptyTicks_l4 n a k m) (fun x => f_W l o x == 0) (g_lat (l 0 0) (l 0 1) (o 0) (o 1)).toNat (by omega) ?_ ?_
  · intro n a k k0 k1 a0 a1
    have w1 := f_W_rg (l := l) (o := o) k
    show f_Plac_emptyTicks_b4 (f_Plac_emptyTicks_l4 n) a k m = _
    unfold f_Plac_emptyTicks_b4 f_Plac_emptyTicks_b24
    rw [p7, q_w_id (by omega) (by omega), q_w_id (x := k) (by omega) (by omega), if_neg (by omega), x_rd (n := 163) (by omega) (by omega) (by decide), p5 k (by omega) (by omega)]
    show (if q_w (f_W l o k) = 0 then _ else _) = _
    rw [q_w_id (by omega) (by omega)]
    by_cases c : f_W l o k = 0
    · rw [if_pos c, if_pos (show (f_W l o k == 0) = true by rw [c]; rfl)]
    · rw [if_neg c, if_neg (show ¬ (f_W l o k == 0) = true from fun h => c (eq_of_beq h)), Int.add_zero]
  · intro n
    show f_Plac_emptyTicks_b4 (f_Plac_emptyTicks_l4 n) _ _ m = _
    unfold f_Plac_emptyTicks_b4
    rw [p7, show (((g_lat (l 0 0) (l 0 1) (o 0) (o 1)).toNat : Nat) : Int) = g_lat (l 0 0) (l 0 1) (o 0) (o 1) by omega, if_pos (Int.le_refl _)]
    rfl
end peak
