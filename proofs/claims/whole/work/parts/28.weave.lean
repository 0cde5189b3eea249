/-! THE CLASS's WEB, whole -/
/-- a loop that counts down to -1 -/
theorem o_down {σ : Type} (g : Nat → Int → σ → q_Res) (I : Int → σ → Prop) (Q : Int → q_Mem → Prop) (hs : ∀ n k s, 0 ≤ k → I k s → (∀ s', I (k + (-1)) s' → q_ok (g n (k + (-1)) s') Q) → q_ok (g (n + 1) k s) Q) (hx : ∀ n s, I (-1) s → q_ok (g (n + 1) (-1) s) Q) :
    ∀ (d n : Nat) (k : Int) (s : σ), k + 1 = d → I k s → q_ok (g (n + d + 1) k s) Q := by
  intro d
  induction d with
  | zero =>
    intro n k s hk hi
    have : k = -1 := by omega
    subst this
    exact hx n s hi
  | succ d ih =>
    intro n k s hk hi
    exact hs (n + d + 1) k s (by omega) hi (fun s' hi' => ih n (k + (-1)) s' (by omega) hi')
theorem o_downF {σ : Type} (g : Nat → Int → σ → q_Res) (I : Int → σ → Prop) (Q : Int → q_Mem → Prop) {k : Int} {s : σ} (h0 : -1 ≤ k) (h1 : k < 19000) (hi : I k s) (hs : ∀ n k s, 0 ≤ k → I k s → (∀ s', I (k + (-1)) s' → q_ok (g n (k + (-1)) s') Q) → q_ok (g (n + 1) k s) Q) (hx : ∀ n s, I (-1) s → q_ok (g (n + 1) (-1) s) Q) : q_ok (g q_F k s) Q := by
  have hF : q_F = (20000 - ((k + 1).toNat + 1)) + (k + 1).toNat + 1 := by
    show (20000 : Nat) = _
    omega
  rw [hF]
  exact o_down g I Q hs hx (k + 1).toNat _ k s (by omega) hi
/-- a point's place in the row of all points -/
def k_idx (l : q_Mem) (p : Int) : Int := p / 10 * l 0 1 + p % 10
theorem k_idx_pt {l : q_Mem} (hw : g_lw l) {p : Int} (hp : g_pt l p) : (0 ≤ k_idx l p ∧ k_idx l p < l 0 0 * l 0 1) ∧ k_idx l p / l 0 1 * 10 + k_idx l p % l 0 1 = p := by
  have h1 := hw.1
  have h2 := hw.2.1
  have hp1 := hp.1
  have hp2 := hp.2
  have a1 : 0 ≤ p / 10 * l 0 1 := Int.mul_nonneg (by omega) (by omega)
  have a2 : (p / 10 + 1) * l 0 1 ≤ l 0 0 * l 0 1 := Int.mul_le_mul_of_nonneg_right (by omega) (by omega)
  have a3 : (p / 10 + 1) * l 0 1 = p / 10 * l 0 1 + l 0 1 := by rw [Int.add_mul, Int.one_mul]
  have d1 : k_idx l p / l 0 1 = p / 10 := by
    unfold k_idx
    rw [Int.add_comm, Int.add_mul_ediv_right _ _ (by omega), Int.ediv_eq_zero_of_lt (by omega) (by omega)]
    omega
  have d2 : k_idx l p % l 0 1 = p % 10 := by
    unfold k_idx
    rw [Int.add_comm, Int.add_mul_emod_self_right]
    exact Int.emod_eq_of_lt (by omega) (by omega)
  rw [d1, d2]
  unfold k_idx
  omega
theorem k_at_pt {l : q_Mem} (hw : g_lw l) {k : Int} (h0 : 0 ≤ k) (h1 : k < l 0 0 * l 0 1) : g_pt l (k / l 0 1 * 10 + k % l 0 1) ∧ k_idx l (k / l 0 1 * 10 + k % l 0 1) = k := by
  have b1 := hw.1
  have b2 := hw.2.1
  have m0 := Int.emod_nonneg k (b := l 0 1) (by omega)
  have m1 := Int.emod_lt_of_pos k (b := l 0 1) (by omega)
  have q0 : 0 ≤ k / l 0 1 := Int.ediv_nonneg h0 (by omega)
  have q1 : k / l 0 1 < l 0 0 := Int.ediv_lt_of_lt_mul (by omega) h1
  have e := Int.emod_add_mul_ediv k (l 0 1)
  rw [Int.mul_comm] at e
  have e1 : (k / l 0 1 * 10 + k % l 0 1) / 10 = k / l 0 1 := by omega
  have e2 : (k / l 0 1 * 10 + k % l 0 1) % 10 = k % l 0 1 := by omega
  refine ⟨⟨by omega, ?_⟩, ?_⟩
  · unfold g_th; rw [e1, e2]; omega
  · unfold k_idx; rw [e1, e2]; omega
def k_V (l : q_Mem) (D : Int → Int) (q : Int) : Int := g_cnt (fun o' => g_tg l q o' != -1 && decide (D (g_tg l q o') < 0)) (l 0 5).toNat
theorem k_U_0 (l : q_Mem) (D : Int → Int) (p q : Int) : k_U l D p 0 q = k_V l D q := by
  refine g_cnt_congr (fun k k0 k1 => ?_)
  have : decide (k < 0) = false := decide_eq_false (by omega)
  simp [this]
theorem k_U_all (l : q_Mem) (D : Int → Int) {p d : Int} (hd : 0 ≤ d) (q : Int) : k_U l D p (l 0 5) q = k_V l (fun x => if x = p then d else D x) q := by
  refine g_cnt_congr (fun k k0 k1 => ?_)
  have : decide (k < l 0 5) = true := decide_eq_true (by omega)
  by_cases e : g_tg l q k = p
  · simp [e, this]; omega
  · simp [e]
theorem c_heightOver {m l : q_Mem} {t p : Int} (hl : g_CL m t l) (hw : g_lw l) (hp : 0 ≤ p ∧ p < 100) (hH : ∀ q, g_pt l q → -1 ≤ m 55 q ∧ m 55 q < 1000) : f_Web_heightOver t p m = some (g_db (g_rr l p) (m 55) (l 0 5).toNat, m) := by
  have h5 := hw.2.2.2.2.1
  apply o_eq
  unfold f_Web_heightOver
  refine o_upF (fun n k (s : Int) => f_Web_heightOver_l5 n t p s k m) (fun k s => 0 ≤ k ∧ s + 1 = g_db (g_rr l p) (m 55) k.toNat ∧ 0 ≤ s + 1 ∧ s ≤ 1000) _ (k := 0) (e := l 0 5) (s := -1) h5.1 (by omega) ⟨by omega, rfl, by omega, by omega⟩ ?_ ?_
  · intro n k s hk ⟨h0, hs, hs0, hs1⟩ hn
    show q_ok (f_Web_heightOver_b5 (f_Web_heightOver_l5 n) t p s k m) _
    unfold f_Web_heightOver_b5 f_Web_heightOver_b54
    have hr : -1 ≤ g_rr l p k ∧ g_rr l p k < 100 := g_mv_rg _ _ _ _ _ hw.1.2 hw.2.1.2
    have es := g_db_s (g_rr l p) (m 55) h0
    rw [if_neg (by omega)] at es
    rw [c_reader hl hw hp ⟨h0, hk⟩, hl.1]
    simp (disch := omega) only [x_bd, x_rt, x_pf, x_lt, x_fi, x_rz0, x_rz1, x_rzi, x_pz0, x_pz1, x_rd, x_wr, x_wrz, x_dv, x_md, q_w_id, x_wi, x_i0, x_i1, x_max, x_min, x_abs, ↓reduceIte, Int.reduceEq, Int.reduceLT, Int.reduceLE, Int.reduceNeg, if_true, if_false]
    rw [if_neg (by omega)]
    by_cases c : g_rr l p k = -1
    · rw [if_pos c]
      exact hn _ ⟨by omega, by rw [es, if_pos c]; exact hs, hs0, hs1⟩
    · rw [if_neg c]
      have hq := hH _ (g_rr_pt hw c)
      simp (disch := omega) only [x_bd, x_rt, x_pf, x_lt, x_fi, x_rz0, x_rz1, x_rzi, x_pz0, x_pz1, x_rd, x_wr, x_wrz, x_dv, x_md, q_w_id, x_wi, x_i0, x_i1, x_max, x_min, x_abs, ↓reduceIte, Int.reduceEq, Int.reduceLT, Int.reduceLE, Int.reduceNeg, if_true, if_false]
      by_cases c2 : m 55 (g_rr l p k) = -1
      · rw [if_pos c2]
        refine o_some ⟨?_, rfl⟩
        have hneg : g_db (g_rr l p) (m 55) (l 0 5).toNat < 0 := by
          refine Classical.byContradiction fun hh => ?_
          have := g_db_nn (Int.not_lt.mp hh) k h0 (by omega) c
          omega
        have := g_db_ge (g_rr l p) (m 55) (l 0 5).toNat
        omega
      · rw [if_neg c2]
        refine hn _ ⟨by omega, ?_, by omega, by omega⟩
        rw [es, if_neg c, if_neg (by omega)]
        omega
  · intro n s ⟨h0, hs, hs0, hs1⟩
    show q_ok (f_Web_heightOver_b5 (f_Web_heightOver_l5 n) t p s (l 0 5) m) _
    unfold f_Web_heightOver_b5
    rw [hl.1, if_pos (Int.le_refl _)]
    exact o_rt ⟨hs, rfl⟩
/-- what the web is, behind weave -/
def k_web (l m : q_Mem) : Prop := g_isD l (m 54) ∧ g_isH l (m 54) (m 55) ∧ (∀ p, g_pt l p → -1 ≤ m 54 p ∧ m 54 p < 100) ∧ (∀ p, g_pt l p → -1 ≤ m 55 p ∧ m 55 p < 100) ∧ k_O l (fun p => decide (0 ≤ m 54 p)) (m 56) (m 53 6) ∧ (∀ i j o, 0 ≤ i → i < m 53 6 → 0 ≤ o → o < l 0 5 → g_tg l (m 56 i) o ≠ -1 → 0 ≤ j → j < m 53 6 → m 56 j = g_tg l (m 56 i) o → j < i) ∧ (-1 ≤ m 53 7 ∧ m 53 7 < 100) ∧ (∀ p, g_pt l p → m 54 p ≤ m 53 7) ∧ (m 53 7 = -1 ∨ ∃ p, g_pt l p ∧ m 54 p = m 53 7)
/-- the rows' state when K points have been deepened -/
def k_S (l m s : q_Mem) (K : Int) : Prop := (∀ c, c < 53 ∨ 57 < c → s c = m c) ∧ (∀ q, 0 ≤ q → q < 100 → s 55 q = -1) ∧ (∀ q, g_pt l q → s 57 q = k_V l (s 54) q) ∧ k_O l (fun q => s 57 q == 0) (s 56) (s 53 6) ∧ K ≤ s 53 6 ∧
  (∀ p, g_pt l p → -1 ≤ s 54 p ∧ (0 ≤ s 54 p ↔ ∃ i, 0 ≤ i ∧ i < K ∧ s 56 i = p)) ∧ (∀ p, g_pt l p → 0 ≤ s 54 p → s 54 p = g_db (g_tg l p) (s 54) (l 0 5).toNat) ∧
  (∀ i o, 0 ≤ i → i < K → 0 ≤ o → o < l 0 5 → g_tg l (s 56 i) o ≠ -1 → ∃ j, 0 ≤ j ∧ j < i ∧ s 56 j = g_tg l (s 56 i) o) ∧ (∀ i, 0 ≤ i → i < K → s 54 (s 56 i) ≤ i) ∧
  (-1 ≤ s 53 7 ∧ s 53 7 < 100) ∧ (∀ p, g_pt l p → s 54 p ≤ s 53 7) ∧ (s 53 7 = -1 ∨ ∃ p, g_pt l p ∧ s 54 p = s 53 7)
theorem k_V_0 {l : q_Mem} {D : Int → Int} {q : Int} (h : k_V l D q = 0) : ∀ o, 0 ≤ o → o < l 0 5 → g_tg l q o ≠ -1 → 0 ≤ D (g_tg l q o) := by
  intro o o0 o1 ho
  have := g_cnt_zero.mp h o o0 (by omega)
  simp [ho] at this
  exact this
/-- one more point is deepened -/
theorem k_S_step {l m s : q_Mem} {t K : Int} (ht : t ∈ q_Lp) (hl : g_CL m t l) (hw : g_lw l) (h0 : 0 ≤ K) (hK : K < s 53 6) (h : k_S l m s K) : q_ok (f_Web_deepen t (s 56 K) s) (fun _ s' => k_S l m s' (K + 1)) := by
  obtain ⟨hf, h55, h57, hO, hKN, hD1, hD2, htop, hDi, hdr, hdm, hde⟩ := h
  have hO1 := hO.1
  have hO2 := hO.2.1
  have hO3 := hO.2.2.1
  have hp := hO2 K h0 hK
  have hl' : g_CL s t l := g_CL_of ht hl (fun c hc => hf c (by omega))
  have hrg : ∀ q, g_pt l q → -1 ≤ s 54 q ∧ s 54 q < 100 := by
    intro q hq
    refine ⟨(hD1 q hq).1, ?_⟩
    by_cases c : 0 ≤ s 54 q
    · obtain ⟨i, i0, i1, i2⟩ := (hD1 q hq).2.mp c
      have := hDi i i0 i1
      rw [i2] at this
      omega
    · omega
  have hDp : s 54 (s 56 K) = -1 := by
    have h1 := hD1 _ hp
    refine Classical.byContradiction fun hh => ?_
    obtain ⟨i, i0, i1, i2⟩ := h1.2.mp (by omega)
    exact hO3 i K i0 i1 hK i2
  have hz : s 57 (s 56 K) = 0 := by
    have := (hO.2.2.2.1 _ hp).mpr ⟨K, h0, hK, rfl⟩
    simpa using this
  have htg := k_V_0 (by rw [← h57 _ hp]; exact hz)
  have hdb : 0 ≤ g_db (g_tg l (s 56 K)) (s 54) (l 0 5).toNat := by
    refine Classical.byContradiction fun hh => ?_
    obtain ⟨o, o0, o1, o2, o3⟩ := g_db_neg (Int.not_le.mp hh)
    have := htg o o0 (by omega) o2
    omega
  have hdbK : g_db (g_tg l (s 56 K)) (s 54) (l 0 5).toNat ≤ K := by
    refine g_db_le h0 (fun o o0 o1 o2 => ?_)
    have h1 := htg o o0 (by omega) o2
    obtain ⟨i, i0, i1, i2⟩ := (hD1 _ (g_tg_pt hw o2)).2.mp h1
    have := hDi i i0 i1
    rw [i2] at this
    omega
  refine o_mono (c_deepen ht hl' hw hp hrg hDp htg (fun q hq => by rw [k_U_0]; exact h57 q hq) hO ⟨hdr.1, by omega⟩) ?_
  intro _ s' ⟨f1, f55, f54, f57, fN, fo, fO, f7⟩
  have hin : ∀ i, 0 ≤ i → i < s 53 6 → s' 56 i = s 56 i := fo
  have keep : ∀ q, g_pt l q → 0 ≤ s 54 q → g_db (g_tg l q) (s' 54) (l 0 5).toNat = g_db (g_tg l q) (s 54) (l 0 5).toNat := by
    intro q hq hq0
    refine g_db_congr (fun o o0 o1 o2 => ?_)
    have he := hD2 q hq hq0
    have := g_db_nn (by rw [← he]; exact hq0) o o0 o1 o2
    rw [f54]
    have hne : g_tg l q o ≠ s 56 K := fun e => by rw [e] at this; omega
    simp [hne]
  have self : g_db (g_tg l (s 56 K)) (s' 54) (l 0 5).toNat = g_db (g_tg l (s 56 K)) (s 54) (l 0 5).toNat := by
    refine g_db_congr (fun o o0 o1 o2 => ?_)
    rw [f54]
    have hne := g_tg_self hw hp.1.1 o0 (show o < l 0 5 by omega)
    simp [hne]
  refine ⟨fun c hc => by rw [f1 c hc]; exact hf c hc, by rw [f55]; exact h55, fun q hq => ?_, fO, by omega, fun p hpp => ?_, fun p hpp hp0 => ?_, fun i o i0 i1 o0 o1 o2 => ?_, fun i i0 i1 => ?_, ?_, fun p hpp => ?_, ?_⟩
  · rw [f57 q hq, k_U_all l (s 54) hdb q, f54]
  · rw [f54]
    dsimp only
    by_cases e : p = s 56 K
    · rw [if_pos e]
      exact ⟨by omega, fun _ => ⟨K, h0, by omega, by rw [hin K h0 hK, e]⟩, fun _ => hdb⟩
    · rw [if_neg e]
      refine ⟨(hD1 p hpp).1, fun c => ?_, fun ⟨i, i0, i1, i2⟩ => ?_⟩
      · obtain ⟨i, i0, i1, i2⟩ := (hD1 p hpp).2.mp c
        exact ⟨i, i0, by omega, by rw [hin i i0 (by omega)]; exact i2⟩
      · rw [hin i i0 (by omega)] at i2
        have : i ≠ K := fun e2 => e (by rw [← i2, e2])
        exact (hD1 p hpp).2.mpr ⟨i, i0, by omega, i2⟩
  · by_cases e : p = s 56 K
    · rw [e, self, f54]; simp
    · have hp0' : 0 ≤ s 54 p := by rw [f54] at hp0; simpa [e] using hp0
      rw [keep p hpp hp0', f54]
      simp only [if_neg e]
      exact hD2 p hpp hp0'
  · rw [hin i i0 (by omega)] at o2 ⊢
    by_cases e : i = K
    · subst e
      have h1 := htg o o0 o1 o2
      obtain ⟨j, j0, j1, j2⟩ := (hD1 _ (g_tg_pt hw o2)).2.mp h1
      exact ⟨j, j0, j1, by rw [hin j j0 (by omega)]; exact j2⟩
    · obtain ⟨j, j0, j1, j2⟩ := htop i o i0 (by omega) o0 o1 o2
      exact ⟨j, j0, j1, by rw [hin j j0 (by omega)]; exact j2⟩
  · rw [hin i i0 (by omega), f54]
    dsimp only
    by_cases e : i = K
    · subst e; rw [if_pos rfl]; exact hdbK
    · rw [if_neg (hO3 i K i0 (by omega) hK)]; exact hDi i i0 (by omega)
  · rw [f7]; omega
  · rw [f7, f54]
    dsimp only
    have := hdm p hpp
    split <;> omega
  · right
    rw [f7]
    by_cases c : s 53 7 ≤ g_db (g_tg l (s 56 K)) (s 54) (l 0 5).toNat
    · refine ⟨s 56 K, hp, ?_⟩
      rw [f54]
      simp
      omega
    · rcases hde with hde | ⟨p, hpp, hpe⟩
      · omega
      · refine ⟨p, hpp, ?_⟩
        rw [f54]
        have : p ≠ s 56 K := fun e => by rw [e, hDp] at hpe; omega
        simp [this]
        omega
