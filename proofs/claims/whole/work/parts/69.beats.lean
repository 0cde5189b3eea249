/-! QUESTIONS: beats, fewest -/
def t_M (f : Int → Int) : Nat → Int
  | 0 => 0
  | n + 1 => max (t_M f n) (f n)
theorem t_M_s (f : Int → Int) {k : Int} (h : 0 ≤ k) : t_M f (k + 1).toNat = max (t_M f k.toNat) (f k) := by
  rw [show (k + 1).toNat = k.toNat + 1 by omega]
  show max (t_M f k.toNat) (f (k.toNat : Int)) = _
  rw [Int.toNat_of_nonneg h]
theorem t_M_nn (f : Int → Int) : ∀ n : Nat, 0 ≤ t_M f n := by
  intro n
  induction n with
  | zero => exact Int.le_refl _
  | succ n ih => show 0 ≤ max (t_M f n) (f n); omega
theorem t_M_le {f : Int → Int} {B : Int} (hB : 0 ≤ B) : ∀ n : Nat, (∀ w : Int, 0 ≤ w → w < n → f w ≤ B) → t_M f n ≤ B := by
  intro n
  induction n with
  | zero => intro _; exact hB
  | succ n ih =>
    intro h
    have a := ih fun w w0 w1 => h w w0 (by omega)
    have b := h n (by omega) (by omega)
    show max (t_M f n) (f n) ≤ B
    omega
theorem t_M_congr {f g : Int → Int} : ∀ n : Nat, (∀ w : Int, 0 ≤ w → w < n → f w = g w) → t_M f n = t_M g n := by
  intro n
  induction n with
  | zero => intro _; rfl
  | succ n ih =>
    intro h
    show max (t_M f n) (f n) = max (t_M g n) (g n)
    rw [ih fun w w0 w1 => h w w0 (by omega), h n (by omega) (by omega)]
theorem t_M_0 : ∀ n : Nat, t_M (fun _ => 0) n = 0 := by
  intro n
  induction n with
  | zero => rfl
  | succ n ih => show max (t_M (fun _ => 0) n) 0 = 0; rw [ih]; rfl
theorem t_M_upd {f f' : Int → Int} {v : Int} (h0 : 0 ≤ v) (hv : f' v = f v + 1) (he : ∀ w, w ≠ v → f' w = f w) : ∀ n : Nat, t_M f' n = if v < n then max (t_M f n) (f v + 1) else t_M f n := by
  intro n
  induction n with
  | zero => rw [if_neg (by omega)]; rfl
  | succ n ih =>
    show max (t_M f' n) (f' n) = if v < ((n + 1 : Nat) : Int) then max (max (t_M f n) (f n)) (f v + 1) else max (t_M f n) (f n)
    rw [ih]
    by_cases c : v < n
    · rw [if_pos c, if_pos (by omega), he n (by omega)]
      omega
    · rw [if_neg c]
      by_cases c2 : v = n
      · rw [if_pos (by omega), ← c2, hv]
        omega
      · rw [if_neg (by omega), he n (by omega)]
def t_cn (T W : Int → Int) (k : Nat) (t w : Int) : Int := g_cnt (fun i => T i == t && W i == w) k
def t_B (T W : Int → Int) (k : Nat) (t : Int) : Int := t_M (fun w => t_cn T W k t w) 12
def t_S (T W : Int → Int) (L : Nat) (k : Nat) : Int := g_sum (fun t => t_B T W k t) L
theorem t_cn_s (T W : Int → Int) {k : Int} (h : 0 ≤ k) (t w : Int) : t_cn T W (k + 1).toNat t w = t_cn T W k.toNat t w + (if T k = t ∧ W k = w then 1 else 0) := by
  unfold t_cn
  rw [g_cnt_s _ h]
  by_cases c : T k = t ∧ W k = w
  · rw [if_pos c, if_pos (by simp [c.1, c.2])]
  · rw [if_neg c, if_neg]
    simp only [Bool.and_eq_true, beq_iff_eq]
    exact c
theorem t_cn_rg (T W : Int → Int) (k : Nat) (t w : Int) : 0 ≤ t_cn T W k t w ∧ t_cn T W k t w ≤ k := g_cnt_rg _ k
theorem t_B_s {T W : Int → Int} {k : Int} (h : 0 ≤ k) (hW : 0 ≤ W k ∧ W k < 12) : t_B T W (k + 1).toNat (T k) = max (t_B T W k.toNat (T k)) (t_cn T W k.toNat (T k) (W k) + 1) := by
  unfold t_B
  rw [t_M_upd (f := fun w => t_cn T W k.toNat (T k) w) (v := W k) hW.1 (by rw [t_cn_s T W h, if_pos ⟨rfl, rfl⟩]) (fun w hw => by rw [t_cn_s T W h, if_neg fun hh => hw hh.2.symm, Int.add_zero]), if_pos (by omega)]
theorem t_B_o {T W : Int → Int} {k t : Int} (h : 0 ≤ k) (ht : T k ≠ t) : t_B T W (k + 1).toNat t = t_B T W k.toNat t := by
  unfold t_B
  refine t_M_congr 12 fun w _ _ => ?_
  rw [t_cn_s T W h, if_neg fun hh => ht hh.1, Int.add_zero]
theorem t_S_s {T W : Int → Int} {L : Nat} {k : Int} (h : 0 ≤ k) (hW : 0 ≤ W k ∧ W k < 12) (hT : 0 ≤ T k ∧ T k < L) : t_S T W L (k + 1).toNat = t_S T W L k.toNat + (t_B T W (k + 1).toNat (T k) - t_B T W k.toNat (T k)) := by
  unfold t_S
  rw [g_sum_congr (g := fun t => t_B T W k.toNat t + (fun t => if t = T k then (fun t => t_B T W (k + 1).toNat t - t_B T W k.toNat t) t else 0) t) fun t _ _ => by
    show t_B T W (k + 1).toNat t = t_B T W k.toNat t + (if t = T k then t_B T W (k + 1).toNat t - t_B T W k.toNat t else 0)
    by_cases c : t = T k
    · rw [if_pos c]; omega
    · rw [if_neg c, t_B_o h fun e => c e.symm, Int.add_zero]]
  rw [g_sum_add, g_sum_q, if_pos hT]
def t_wk (l : q_Mem) (o : Int → Int) (n y p : Int) : Int := if q_w y = 0 then g_ce l (o 2) (o 3) p / ((g_cc l (o 2) (o 3) + n - 1) / n) else g_ce l (o 2) (o 3) p % n
def t_V (l : q_Mem) (o : Int → Int) (n y : Int) : Int := g_sum (fun t => t_M (fun w => g_ca l (fun p => g_tk l (o 0) (o 1) p == t && t_wk l o n y p == w)) 12) (g_lat (l 0 0) (l 0 1) (o 0) (o 1)).toNat
section beats
variable {l m : q_Mem} {o : Int → Int}
theorem g_cc_rg (hk : k_ok l o) : 1 ≤ g_cc l (o 2) (o 3) ∧ g_cc l (o 2) (o 3) ≤ 128 := by
  have hcc := g_cnt_rg (fun k => g_oc l (o 2) (o 3) (k - 64)) 128
  obtain ⟨⟨p, hp, _⟩, _⟩ := g_corner hk.1 (o 0) (o 1)
  have := g_ce_rg hk.1 hk.2.2.1.1 hk.2.2.1.2.1 hp
  have h2 : g_cc l (o 2) (o 3) ≤ 128 := hcc.2
  omega
theorem t_bl (hk : k_ok l o) {n : Int} (hn : 1 ≤ n ∧ n ≤ 12) : (1 ≤ (g_cc l (o 2) (o 3) + n - 1) / n ∧ (g_cc l (o 2) (o 3) + n - 1) / n ≤ 200) ∧ g_cc l (o 2) (o 3) ≤ n * ((g_cc l (o 2) (o 3) + n - 1) / n) := by
  have hcc := g_cc_rg hk
  have e := Int.mul_ediv_add_emod (g_cc l (o 2) (o 3) + n - 1) n
  have r1 := Int.emod_lt_of_pos (g_cc l (o 2) (o 3) + n - 1) (show 0 < n by omega)
  have r2 := Int.emod_nonneg (g_cc l (o 2) (o 3) + n - 1) (show n ≠ 0 by omega)
  have d1 : 1 ≤ (g_cc l (o 2) (o 3) + n - 1) / n := (Int.le_ediv_iff_mul_le (show 0 < n by omega)).mpr (by omega)
  have d2 : (g_cc l (o 2) (o 3) + n - 1) / n ≤ g_cc l (o 2) (o 3) + n - 1 := Int.ediv_le_self _ (by omega)
  exact ⟨⟨d1, by omega⟩, by omega⟩
theorem t_wk_rg (hk : k_ok l o) {n y p : Int} (hn : 1 ≤ n ∧ n ≤ 12) (hp : g_pt l p) : 0 ≤ t_wk l o n y p ∧ t_wk l o n y p < 12 := by
  have hce := g_ce_rg hk.1 hk.2.2.1.1 hk.2.2.1.2.1 hp
  have hb := t_bl hk hn
  unfold t_wk
  split
  · refine ⟨Int.ediv_nonneg hce.1 (by omega), ?_⟩
    have : g_ce l (o 2) (o 3) p / ((g_cc l (o 2) (o 3) + n - 1) / n) < n := Int.ediv_lt_of_lt_mul (by omega) (by omega)
    omega
  · have := Int.emod_lt_of_pos (g_ce l (o 2) (o 3) p) (show 0 < n by omega)
    have := Int.emod_nonneg (g_ce l (o 2) (o 3) p) (show n ≠ 0 by omega)
    omega
theorem t_V_eq (hk : k_ok l o) {n y : Int} {ord : Int → Int} (h : k_ord l (g_tk l (o 0) (o 1)) ord) : t_S (fun i => g_tk l (o 0) (o 1) (ord i)) (fun i => t_wk l o n y (ord i)) (g_lat (l 0 0) (l 0 1) (o 0) (o 1)).toNat (l 0 0 * l 0 1).toNat = t_V l o n y := by
  have hRC := g_RC hk.1
  unfold t_S t_V
  refine g_sum_congr fun t _ _ => ?_
  unfold t_B
  refine t_M_congr 12 fun w _ _ => ?_
  show g_cnt (fun i => (fun p => g_tk l (o 0) (o 1) p == t && t_wk l o n y p == w) (ord i)) (l 0 0 * l 0 1).toNat = _
  rw [g_ca_enum (l := l) (ord := ord) (fun p => g_tk l (o 0) (o 1) p == t && t_wk l o n y p == w) _ (fun i i0 i1 => h.1 i i0 (by omega)) (fun i j i0 ij jn => k_ord_inj h i j i0 ij (by omega))]
  refine g_ca_congr fun p hp => ?_
  obtain ⟨i, i0, i1, ei⟩ := h.2.1 p hp
  rw [f_am_iff.mpr ⟨i, i0, by omega, ei⟩, Bool.true_and]
theorem c_beatStep (hk : k_ok l o) (hc : k_C l o m) {n y k a b : Int} {m1 : q_Mem} (hn : 1 ≤ n ∧ n ≤ 12) (f1 : ∀ c, c ≠ 68 → m1 c = m c) (k0 : 0 ≤ k) (k1 : k < l 0 0 * l 0 1) (hb : b = t_B (fun i => g_tk l (o 0) (o 1) (m 64 i)) (fun i => t_wk l o n y (m 64 i)) k.toNat (g_tk l (o 0) (o 1) (m 64 k))) (h68 : ∀ w, 0 ≤ w → w < 12 → m1 68 w = t_cn (fun i => g_tk l (o 0) (o 1) (m 64 i)) (fun i => t_wk l o n y (m 64 i)) k.toNat (g_tk l (o 0) (o 1) (m 64 k)) w) {Q : Int → q_Mem → Prop} (K : Int → Int → Int → Int → Int → Int → q_Mem → q_Res)
    (hK : ∀ m', (∀ c, c ≠ 68 → m' c = m c) → (∀ w, 0 ≤ w → w < 12 → m' 68 w = t_cn (fun i => g_tk l (o 0) (o 1) (m 64 i)) (fun i => t_wk l o n y (m 64 i)) (k + 1).toNat (g_tk l (o 0) (o 1) (m 64 k)) w) → q_ok (K n y ((g_cc l (o 2) (o 3) + n - 1) / n) a (t_B (fun i => g_tk l (o 0) (o 1) (m 64 i)) (fun i => t_wk l o n y (m 64 i)) (k + 1).toNat (g_tk l (o 0) (o 1) (m 64 k))) (k + 1) m') Q) : q_ok (f_Plac_beatsBy_b85 K n y ((g_cc l (o 2) (o 3) + n - 1) / n) a b k (m 64 k) m1) Q := by
  have hRC := g_RC hk.1
  obtain ⟨p1, p2, p3, p4, p5, p6, p7, p8, p9⟩ := hc.2.2.2.1
  have hp := p4.1 k k0 k1
  have hp' := hp.1
  have hce := g_ce_rg hk.1 hk.2.2.1.1 hk.2.2.1.2.1 hp
  have hcc := g_cc_rg hk
  have hbl := t_bl hk hn
  have hw := t_wk_rg hk (y := y) hn hp
  have hcn := t_cn_rg (fun i => g_tk l (o 0) (o 1) (m 64 i)) (fun i => t_wk l o n y (m 64 i)) k.toNat (g_tk l (o 0) (o 1) (m 64 k)) (t_wk l o n y (m 64 k))
  have hbr : 0 ≤ b ∧ b ≤ 100 := by
    rw [hb]
    refine ⟨t_M_nn _ _, t_M_le (by decide) 12 fun w _ _ => ?_⟩
    have := t_cn_rg (fun i => g_tk l (o 0) (o 1) (m 64 i)) (fun i => t_wk l o n y (m 64 i)) k.toNat (g_tk l (o 0) (o 1) (m 64 k)) w
    omega
  have main : q_ok (f_Plac_beatsBy_b110 K n y ((g_cc l (o 2) (o 3) + n - 1) / n) a b k (t_wk l o n y (m 64 k)) m1) Q := by
    unfold f_Plac_beatsBy_b110
    have e68 := h68 _ hw.1 hw.2
    rw [x_rd (n := 12) hw.1 hw.2 (by decide), x_wr (n := 12) hw.1 hw.2 (by decide), x_rd (n := 12) hw.1 hw.2 (by decide), q_up_s, e68, x_max (by omega) (by omega) (by omega) (by omega), hb]
    rw [← t_B_s (T := fun i => g_tk l (o 0) (o 1) (m 64 i)) (W := fun i => t_wk l o n y (m 64 i)) k0 hw]
    refine hK _ (fun c hc => by rw [q_up_f hc]; exact f1 c hc) fun w w0 w1 => ?_
    rw [t_cn_s _ _ k0]
    by_cases c : w = t_wk l o n y (m 64 k)
    · rw [c, q_up_s, if_pos ⟨rfl, rfl⟩]
    · rw [q_up_i c, if_neg fun h => c h.2.symm, Int.add_zero]
      exact h68 w w0 w1
  unfold f_Plac_beatsBy_b85
  have e62 : m1 62 (m 64 k) = g_ce l (o 2) (o 3) (m 64 k) := by rw [f1 62 (by decide)]; exact p2 _ hp
  by_cases cy : q_w y = 0
  · rw [if_pos cy, x_rd (n := 100) (by omega) (by omega) (by decide), e62, x_dv hce.1 (by omega) (by omega) (by omega)]
    unfold t_wk at main
    simp only [if_pos cy] at main
    exact main
  · rw [if_neg cy, x_rd (n := 100) (by omega) (by omega) (by decide), e62, x_md hce.1 (by omega) (by omega) (by omega)]
    unfold t_wk at main
    simp only [if_neg cy] at main
    exact main
theorem c_beatsBy (hk : k_ok l o) (hc : k_C l o m) {n y : Int} (hn : 1 ≤ n ∧ n ≤ 12) : q_ok (f_Plac_beatsBy n y m) (fun r m' => (∀ c, c ≠ 68 → m' c = m c) ∧ r = t_V l o n y) := by
  have hg := hk.1
  have hl := hk.2.2.1
  have hRC := g_RC hg
  have hcc := g_cc_rg hk
  have hbl := t_bl hk hn
  have hlat := g_lat_rg hg hk.2.2.2.1 hk.2.2.2.2.1
  obtain ⟨p1, p2, p3, p4, p5, p6, p7, p8, p9⟩ := hc.2.2.2.1
  have h10 : m 60 10 = g_cc l (o 2) (o 3) := by rw [g_cc_eq hg hl]; exact p8
  unfold f_Plac_beatsBy
  rw [h10, x_dv (by omega) (by omega) (by omega) (by omega), ← t_V_eq hk p4]
  refine o_upF (fun n' k (z : Int × Int × q_Mem) => f_Plac_beatsBy_l20 n' n y ((g_cc l (o 2) (o 3) + n - 1) / n) z.1 z.2.1 k z.2.2) (fun k z => 0 ≤ k ∧ (∀ c, c ≠ 68 → z.2.2 c = m c) ∧ z.1 + z.2.1 = t_S (fun i => g_tk l (o 0) (o 1) (m 64 i)) (fun i => t_wk l o n y (m 64 i)) (g_lat (l 0 0) (l 0 1) (o 0) (o 1)).toNat k.toNat ∧ (0 < k → (∀ w, 0 ≤ w → w < 12 → z.2.2 68 w = t_cn (fun i => g_tk l (o 0) (o 1) (m 64 i)) (fun i => t_wk l o n y (m 64 i)) k.toNat (g_tk l (o 0) (o 1) (m 64 (k - 1))) w) ∧ z.2.1 = t_B (fun i => g_tk l (o 0) (o 1) (m 64 i)) (fun i => t_wk l o n y (m 64 i)) k.toNat (g_tk l (o 0) (o 1) (m 64 (k - 1))))) _ (k := 0) (e := l 0 0 * l 0 1) (s := (0, 0, m)) (by omega) (by omega) ⟨by omega, fun _ _ => rfl, ?_, fun h => by omega⟩ ?_ ?_
  · have e0 : ∀ t, t_B (fun i => g_tk l (o 0) (o 1) (m 64 i)) (fun i => t_wk l o n y (m 64 i)) (Int.toNat 0) t = 0 := fun t => t_M_0 12
    unfold t_S
    simp only [e0, g_sum_0]
    rfl
  · intro n' k z hk1 ⟨k0, f1, hs, hz⟩ hnx
    obtain ⟨a, b, m1⟩ := z
    replace f1 : ∀ c, c ≠ 68 → m1 c = m c := f1
    replace hs : a + b = _ := hs
    have hp := p4.1 k k0 hk1
    have hp' := hp.1
    have htk := g_tk_rg hg (o 0) (o 1) hp
    have hw := t_wk_rg hk (y := y) hn hp
    have hSs := t_S_s (T := fun i => g_tk l (o 0) (o 1) (m 64 i)) (W := fun i => t_wk l o n y (m 64 i)) (L := (g_lat (l 0 0) (l 0 1) (o 0) (o 1)).toNat) k0 hw (by show 0 ≤ g_tk l (o 0) (o 1) (m 64 k) ∧ g_tk l (o 0) (o 1) (m 64 k) < _; omega)
    -- a new tick: none of it lies ahead
    have fresh : (∀ i, 0 ≤ i → i < k → g_tk l (o 0) (o 1) (m 64 i) ≠ g_tk l (o 0) (o 1) (m 64 k)) → q_ok (f_Plac_beatsBy_b67 (f_Plac_beatsBy_l20 n') n y ((g_cc l (o 2) (o 3) + n - 1) / n) a b k (m 64 k) m1) (fun r m' => (∀ c, c ≠ 68 → m' c = m c) ∧ r = t_S (fun i => g_tk l (o 0) (o 1) (m 64 i)) (fun i => t_wk l o n y (m 64 i)) (g_lat (l 0 0) (l 0 1) (o 0) (o 1)).toNat (l 0 0 * l 0 1).toNat) := by
      intro hne
      have hz0 : ∀ w, t_cn (fun i => g_tk l (o 0) (o 1) (m 64 i)) (fun i => t_wk l o n y (m 64 i)) k.toNat (g_tk l (o 0) (o 1) (m 64 k)) w = 0 := fun w => g_cnt_zero.mpr fun i i0 i1 => by
        have := hne i i0 (by omega)
        simp [this]
      have hB0 : t_B (fun i => g_tk l (o 0) (o 1) (m 64 i)) (fun i => t_wk l o n y (m 64 i)) k.toNat (g_tk l (o 0) (o 1) (m 64 k)) = 0 := by
        unfold t_B
        rw [t_M_congr (g := fun _ => 0) 12 fun w _ _ => hz0 w, t_M_0]
      unfold f_Plac_beatsBy_b67
      rw [x_fi]
      refine c_beatStep hk hc hn (fun c hc => by rw [q_fill_f hc]; exact f1 c hc) k0 hk1 hB0.symm (fun w w0 w1 => by rw [hz0 w]; exact q_fill_in w0 w1) _ fun m' f' h' => ?_
      refine hnx (a + b, t_B (fun i => g_tk l (o 0) (o 1) (m 64 i)) (fun i => t_wk l o n y (m 64 i)) (k + 1).toNat (g_tk l (o 0) (o 1) (m 64 k)), m') ⟨by omega, f', ?_, fun _ => ⟨fun w w0 w1 => ?_, ?_⟩⟩
      · show a + b + t_B (fun i => g_tk l (o 0) (o 1) (m 64 i)) (fun i => t_wk l o n y (m 64 i)) (k + 1).toNat (g_tk l (o 0) (o 1) (m 64 k)) = _
        rw [hSs, hs]
        show _ = _ + (_ - t_B (fun i => g_tk l (o 0) (o 1) (m 64 i)) (fun i => t_wk l o n y (m 64 i)) k.toNat (g_tk l (o 0) (o 1) (m 64 k)))
        rw [hB0, Int.sub_zero]
      · rw [show k + 1 - 1 = k by omega]; exact h' w w0 w1
      · rw [show k + 1 - 1 = k by omega]
    show q_ok (f_Plac_beatsBy_b20 (f_Plac_beatsBy_l20 n') n y ((g_cc l (o 2) (o 3) + n - 1) / n) a b k m1) _
    unfold f_Plac_beatsBy_b20
    rw [f1 60 (by decide), p6, q_w_id (x := l 0 0 * l 0 1) (by omega) (by omega), q_w_id (x := k) (by omega) (by omega), if_neg (by omega), x_rd (n := 100) k0 (by omega) (by decide), f1 64 (by decide)]
    by_cases ck : k = 0
    · rw [if_pos ck]
      exact fresh fun i i0 i1 => by omega
    · have hq := p4.1 (k - 1) (by omega) (by omega)
      have hq' := hq.1
      have htq := g_tk_rg hg (o 0) (o 1) hq
      obtain ⟨z1, z2⟩ := hz (by omega)
      replace z1 : ∀ w, 0 ≤ w → w < 12 → m1 68 w = _ := z1
      replace z2 : b = _ := z2
      rw [if_neg ck, x_rd (n := 100) (by omega) (by omega) (by decide), x_rd (n := 100) (by omega) (by omega) (by decide), f1 64 (by decide), x_rd (n := 100) (by omega) (by omega) (by decide), f1 61 (by decide), p1 _ hp, p1 _ hq, q_w_id (x := g_tk l (o 0) (o 1) (m 64 k)) (by omega) (by omega), q_w_id (x := g_tk l (o 0) (o 1) (m 64 (k - 1))) (by omega) (by omega)]
      by_cases ct : g_tk l (o 0) (o 1) (m 64 k) = g_tk l (o 0) (o 1) (m 64 (k - 1))
      · rw [if_pos ct]
        rw [← ct] at z1 z2
        refine c_beatStep hk hc hn f1 k0 hk1 z2 z1 _ fun m' f' h' => ?_
        refine hnx (a, t_B (fun i => g_tk l (o 0) (o 1) (m 64 i)) (fun i => t_wk l o n y (m 64 i)) (k + 1).toNat (g_tk l (o 0) (o 1) (m 64 k)), m') ⟨by omega, f', ?_, fun _ => ⟨fun w w0 w1 => ?_, ?_⟩⟩
        · show a + t_B (fun i => g_tk l (o 0) (o 1) (m 64 i)) (fun i => t_wk l o n y (m 64 i)) (k + 1).toNat (g_tk l (o 0) (o 1) (m 64 k)) = _
          rw [hSs, ← hs, z2]
          show a + t_B (fun i => g_tk l (o 0) (o 1) (m 64 i)) (fun i => t_wk l o n y (m 64 i)) (k + 1).toNat (g_tk l (o 0) (o 1) (m 64 k)) = a + t_B (fun i => g_tk l (o 0) (o 1) (m 64 i)) (fun i => t_wk l o n y (m 64 i)) k.toNat (g_tk l (o 0) (o 1) (m 64 k)) + (t_B (fun i => g_tk l (o 0) (o 1) (m 64 i)) (fun i => t_wk l o n y (m 64 i)) (k + 1).toNat (g_tk l (o 0) (o 1) (m 64 k)) - t_B (fun i => g_tk l (o 0) (o 1) (m 64 i)) (fun i => t_wk l o n y (m 64 i)) k.toNat (g_tk l (o 0) (o 1) (m 64 k)))
          omega
        · rw [show k + 1 - 1 = k by omega]; exact h' w w0 w1
        · rw [show k + 1 - 1 = k by omega]
      · rw [if_neg ct]
        refine fresh fun i i0 i1 => ?_
        have a1 := p4.2.2 (k - 1) k (by omega) (by omega) hk1
        by_cases ci : i = k - 1
        · rw [ci]; omega
        · have a2 := p4.2.2 i (k - 1) i0 (by omega) (by omega)
          omega
  · intro n' z ⟨_, f1, hs, _⟩
    show q_ok (f_Plac_beatsBy_b20 (f_Plac_beatsBy_l20 n') n y ((g_cc l (o 2) (o 3) + n - 1) / n) z.1 z.2.1 (l 0 0 * l 0 1) z.2.2) _
    unfold f_Plac_beatsBy_b20
    rw [f1 60 (by decide), p6, if_pos (Int.le_refl _)]
    exact o_rt ⟨f1, hs⟩
end beats
