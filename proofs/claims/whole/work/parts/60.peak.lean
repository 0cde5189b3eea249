/-! QUESTION: peak -/
/-- the first tick below n that is fullest -/
def f_full (W : Int → Int) : Nat → Int
  | 0 => 0
  | n + 1 => if W n ≤ W (f_full W n) then f_full W n else n
theorem f_full_s (W : Int → Int) {k : Int} (h : 0 ≤ k) : f_full W (k + 1).toNat = if W k ≤ W (f_full W k.toNat) then f_full W k.toNat else k := by
  rw [show (k + 1).toNat = k.toNat + 1 by omega]
  show (if W (k.toNat : Int) ≤ W (f_full W k.toNat) then f_full W k.toNat else (k.toNat : Int)) = _
  rw [show (k.toNat : Int) = k by omega]
theorem f_full_rg (W : Int → Int) : ∀ n : Nat, 0 ≤ f_full W n ∧ f_full W n ≤ n := by
  intro n
  induction n with
  | zero => exact ⟨Int.le_refl _, Int.le_refl _⟩
  | succ n ih =>
    have e : f_full W (n + 1) = if W n ≤ W (f_full W n) then f_full W n else n := rfl
    rw [e]
    split <;> omega
section peak
variable {l m : q_Mem} {o : Int → Int}
def f_W (l : q_Mem) (o : Int → Int) (x : Int) : Int := g_ca l (fun q => g_tk l (o 0) (o 1) q == x)
theorem f_W_rg (x : Int) : 0 ≤ f_W l o x ∧ f_W l o x ≤ 100 := g_ca_rg _ _
theorem c_fullest (hk : k_ok l o) (hc : k_C l o m) : f_Plac_fullestTick m = some (f_full (f_W l o) (g_lat (l 0 0) (l 0 1) (o 0) (o 1)).toNat, m) := by
  have hlat := g_lat_rg hk.1 hk.2.2.2.1 hk.2.2.2.2.1
  obtain ⟨p1, p2, p3, p4, p5, p6, p7, p8, p9⟩ := hc.2.2.2.1
  unfold f_Plac_fullestTick
  refine o_upP (fun n k (s : Int) => f_Plac_fullestTick_l4 n s k m) (fun k s => 1 ≤ k ∧ s = f_full (f_W l o) k.toNat) (fun r => r = some (f_full (f_W l o) (g_lat (l 0 0) (l 0 1) (o 0) (o 1)).toNat, m)) (k := 1) (e := g_lat (l 0 0) (l 0 1) (o 0) (o 1)) (s := 0) (by omega) (by omega) ⟨by omega, (if_pos (Int.le_refl _)).symm⟩ ?_ ?_
  · intro n k s hkk ⟨k0, es⟩ hn
    have hr := f_full_rg (f_W l o) k.toNat
    have e := f_full_s (f_W l o) (k := k) (by omega)
    have w1 := f_W_rg (l := l) (o := o) k
    have w2 := f_W_rg (l := l) (o := o) s
    show f_Plac_fullestTick_b4 (f_Plac_fullestTick_l4 n) s k m = _
    unfold f_Plac_fullestTick_b4 f_Plac_fullestTick_b29
    rw [p7, q_w_id (by omega) (by omega), q_w_id (x := k) (by omega) (by omega), if_neg (by omega), x_rd (n := 163) (by omega) (by omega) (by decide), x_rd (n := 163) (by omega) (by omega) (by decide), p5 k (by omega) (by omega), p5 s (by omega) (by omega)]
    show (if q_w (f_W l o k) ≤ q_w (f_W l o s) then _ else _) = _
    rw [q_w_id (by omega) (by omega), q_w_id (by omega) (by omega)]
    rw [← es] at e
    by_cases c : f_W l o k ≤ f_W l o s
    · rw [if_pos c] at e ⊢
      exact hn s ⟨by omega, e.symm⟩
    · rw [if_neg c] at e ⊢
      exact hn k ⟨by omega, e.symm⟩
  · intro n s ⟨k0, es⟩
    show f_Plac_fullestTick_b4 (f_Plac_fullestTick_l4 n) s _ m = _
    unfold f_Plac_fullestTick_b4
    rw [p7, if_pos (Int.le_refl _), es]
    rfl
theorem c_empty (hk : k_ok l o) (hc : k_C l o m) : f_Plac_emptyTicks m = some (g_cnt (fun x => f_W l o x == 0) (g_lat (l 0 0) (l 0 1) (o 0) (o 1)).toNat, m) := by
  have hlat := g_lat_rg hk.1 hk.2.2.2.1 hk.2.2.2.2.1
  obtain ⟨p1, p2, p3, p4, p5, p6, p7, p8, p9⟩ := hc.2.2.2.1
  unfold f_Plac_emptyTicks
  refine o_cnt (fun n a k => f_Plac_emptyTicks_l4 n a k m) (fun x => f_W l o x == 0) (g_lat (l 0 0) (l 0 1) (o 0) (o 1)).toNat (by omega) ?_ ?_
  · intro n a k k0 k1 a0 a1
    have w1 := f_W_rg (l := l) (o := o) k
    show f_Plac_emptyTicks_b4 (f_Plac_emptyTicks_l4 n) a k m = _
    unfold f_Plac_emptyTicks_b4 f_Plac_emptyTicks_b24
    rw [p7, q_w_id (by omega) (by omega), q_w_id (x := k) (by omega) (by omega), if_neg (by omega), x_rd (n := 163) (by omega) (by omega) (by decide), p5 k (by omega) (by omega)]
    show (if q_w (f_W l o k) = 0 then _ else _) = _
    rw [q_w_id (by omega) (by omega)]
    by_cases c : f_W l o k = 0
    · rw [if_pos c, if_pos (show (f_W l o k == 0) = true by rw [c]; rfl)]
    · rw [if_neg c, if_neg (show ¬ (f_W l o k == 0) = true from fun h => c (eq_of_beq h)), Int.add_zero]
  · intro n
    show f_Plac_emptyTicks_b4 (f_Plac_emptyTicks_l4 n) _ _ m = _
    unfold f_Plac_emptyTicks_b4
    rw [p7, show (((g_lat (l 0 0) (l 0 1) (o 0) (o 1)).toNat : Nat) : Int) = g_lat (l 0 0) (l 0 1) (o 0) (o 1) by omega, if_pos (Int.le_refl _)]
    rfl
theorem m_peak (hk : k_ok l o) (hm : k_M l o m) (hpl : k_plan l m (o 0) (o 1) (o 2) (o 3)) {x : Int} (hx : 0 ≤ x ∧ x ≤ 2) : f_Mod_peak_l22 q_F x 0 0 0 m = some (if x = 0 then f_full (f_W l o) (g_lat (l 0 0) (l 0 1) (o 0) (o 1)).toNat else if x = 1 then f_W l o (f_full (f_W l o) (g_lat (l 0 0) (l 0 1) (o 0) (o 1)).toNat) else g_cnt (fun x => f_W l o x == 0) (g_lat (l 0 0) (l 0 1) (o 0) (o 1)).toNat, m) := by
  have hlat := g_lat_rg hk.1 hk.2.2.2.1 hk.2.2.2.2.1
  have hwv : ∀ x, 0 ≤ x → x < 1000 → f_Mod_waveAt x m = some (f_W l o x, m) := fun x x0 x1 => m_waveAt hk.1 hm.1 hpl hk.2.2.2.1 hk.2.2.2.2.1 (show q_32 x from ⟨by omega, by omega⟩)
  refine o_upP (fun n k (s : Int × Int) => f_Mod_peak_l22 n x s.1 s.2 k m) (fun k s => 0 ≤ k ∧ s.1 = f_full (f_W l o) k.toNat ∧ s.2 = g_cnt (fun x => f_W l o x == 0) k.toNat) (fun r => r = _) (k := 0) (e := g_lat (l 0 0) (l 0 1) (o 0) (o 1)) (s := (0, 0)) (by omega) (by omega) ⟨by omega, rfl, rfl⟩ ?_ ?_
  · intro n k ⟨s, z⟩ hkk ⟨k0, es, ez⟩ hn
    dsimp only at es ez
    have hr := f_full_rg (f_W l o) k.toNat
    have e := f_full_s (f_W l o) k0
    have e2 := g_cnt_s (fun x => f_W l o x == 0) k0
    have w1 := f_W_rg (l := l) (o := o) k
    have w2 := f_W_rg (l := l) (o := o) s
    show f_Mod_peak_b22 (f_Mod_peak_l22 n) x s z k m = _
    unfold f_Mod_peak_b22 f_Mod_peak_b48 f_Mod_peak_b63
    rw [hpl.2.1, q_w_id (by omega) (by omega), q_w_id (x := k) (by omega) (by omega), if_neg (by omega), hwv k k0 (by omega), x_bd, hwv s (by omega) (by omega), x_bd]
    simp only [hwv k k0 (by omega), x_bd]
    rw [q_w_id (x := f_W l o k) (by omega) (by omega), q_w_id (x := f_W l o s) (by omega) (by omega)]
    rw [← es] at e
    have go : ∀ s', s' = f_full (f_W l o) (k + 1).toNat → (if f_W l o k = 0 then f_Mod_peak_l22 n x s' (z + 1) (k + 1) m else f_Mod_peak_l22 n x s' (z + 0) (k + 1) m) = some (if x = 0 then f_full (f_W l o) (g_lat (l 0 0) (l 0 1) (o 0) (o 1)).toNat else if x = 1 then f_W l o (f_full (f_W l o) (g_lat (l 0 0) (l 0 1) (o 0) (o 1)).toNat) else g_cnt (fun x => f_W l o x == 0) (g_lat (l 0 0) (l 0 1) (o 0) (o 1)).toNat, m) := by
      intro s' hs'
      by_cases c : f_W l o k = 0
      · rw [if_pos c]
        rw [if_pos (show (f_W l o k == 0) = true by rw [c]; rfl)] at e2
        exact hn (s', z + 1) ⟨by omega, hs', by dsimp only; omega⟩
      · rw [if_neg c]
        rw [if_neg (show ¬ (f_W l o k == 0) = true from fun h => c (eq_of_beq h))] at e2
        exact hn (s', z + 0) ⟨by omega, hs', by dsimp only; omega⟩
    by_cases c : f_W l o k ≤ f_W l o s
    · rw [if_pos c] at e ⊢
      exact go s e.symm
    · rw [if_neg c] at e ⊢
      exact go k e.symm
  · intro n ⟨s, z⟩ ⟨k0, es, ez⟩
    dsimp only at es ez
    have hr := f_full_rg (f_W l o) (g_lat (l 0 0) (l 0 1) (o 0) (o 1)).toNat
    show f_Mod_peak_b22 (f_Mod_peak_l22 n) x s z _ m = _
    unfold f_Mod_peak_b22
    rw [hpl.2.1, if_pos (Int.le_refl _), q_w_id (x := x) (by omega) (by omega), hwv s (by omega) (by omega), x_bd, ← es, ← ez]
    split
    · rfl
    split <;> rfl
theorem b_peak (hk : k_ok l o) {x : Int} (hx : q_32 x) : k_both l o (f_PG_peak x) (f_Mod_peak x) := by
  refine k_both_of fun mc mm hc hm => ?_
  have hlat := g_lat_rg hk.1 hk.2.2.2.1 hk.2.2.2.2.1
  have hx' := hx
  unfold q_32 at hx'
  have hr := f_full_rg (f_W l o) (g_lat (l 0 0) (l 0 1) (o 0) (o 1)).toNat
  have hr2 : f_full (f_W l o) (g_lat (l 0 0) (l 0 1) (o 0) (o 1)).toNat < 163 := by
    have e := f_full_s (f_W l o) (k := g_lat (l 0 0) (l 0 1) (o 0) (o 1) - 1) (by omega)
    have hr' := f_full_rg (f_W l o) (g_lat (l 0 0) (l 0 1) (o 0) (o 1) - 1).toNat
    rw [show g_lat (l 0 0) (l 0 1) (o 0) (o 1) - 1 + 1 = g_lat (l 0 0) (l 0 1) (o 0) (o 1) by omega] at e
    rw [e]
    split <;> omega
  refine ⟨q_w (if 0 ≤ x ∧ x ≤ 2 then (if x = 0 then f_full (f_W l o) (g_lat (l 0 0) (l 0 1) (o 0) (o 1)).toNat else if x = 1 then f_W l o (f_full (f_W l o) (g_lat (l 0 0) (l 0 1) (o 0) (o 1)).toNat) else g_cnt (fun x => f_W l o x == 0) (g_lat (l 0 0) (l 0 1) (o 0) (o 1)).toNat) else -1), ?_, ?_⟩
  · unfold f_PG_peak
    rw [q_w_id (x := x) (by omega) (by omega), c_fullest hk hc, c_empty hk hc, x_bd, x_bd, x_bd, x_rd (n := 163) (by omega) (by omega) (by decide), hc.2.2.2.1.2.2.2.2.1 _ hr.1 hr2]
    by_cases c0 : x = 0
    · rw [if_pos c0, if_pos (show 0 ≤ x ∧ x ≤ 2 by omega), if_pos c0]; exact o_rt ⟨rfl, k_fc_id _, hc⟩
    rw [if_neg c0]
    by_cases c1 : x = 1
    · rw [if_pos c1, if_pos (show 0 ≤ x ∧ x ≤ 2 by omega), if_neg c0, if_pos c1]; exact o_rt ⟨rfl, k_fc_id _, hc⟩
    rw [if_neg c1]
    by_cases c2 : x = 2
    · rw [if_pos c2, if_pos (show 0 ≤ x ∧ x ≤ 2 by omega), if_neg c0, if_neg c1]; exact o_rt ⟨rfl, k_fc_id _, hc⟩
    rw [if_neg c2, if_neg (show ¬ (0 ≤ x ∧ x ≤ 2) by omega)]
    exact o_rt ⟨rfl, k_fc_id _, hc⟩
  · unfold f_Mod_peak
    rw [m_isIn hx' (by omega) (by omega), x_bd, x_wi]
    simp only [x_i0]
    by_cases c : 0 ≤ x ∧ x ≤ 2
    · rw [if_neg (fun h => h c), if_pos c]
      refine o_bd (s_layNow hk hm) fun _ m1 ⟨f1, k1, q1, _⟩ => ?_
      rw [m_peak hk k1 q1 c]
      exact o_some ⟨rfl, f1⟩
    · rw [if_pos c, if_neg c]
      exact o_rt ⟨rfl, k_fm_id _⟩
end peak
