/-! QUESTIONS: wrong, wave, plan, point -/
theorem o_cnt (g : Nat → Int → Int → q_Res) (Z : Int → Bool) (N : Nat) (hN : N < 20000) {y : q_Res} (hs : ∀ (n : Nat) (a k : Int), 0 ≤ k → k < N → 0 ≤ a → a ≤ k → g (n + 1) a k = g n (a + (if Z k = true then 1 else 0)) (k + 1)) (hx : ∀ n, g (n + 1) (g_cnt Z N) N = y) : g q_F 0 0 = y := by
  have main : ∀ (d k n : Nat), k + d = N → g (n + d + 1) (g_cnt Z k) k = y := by
    intro d
    induction d with
    | zero =>
      intro k n hk
      have : k = N := by omega
      subst this
      exact hx n
    | succ d ih =>
      intro k n hk
      have hr := g_cnt_rg Z k
      rw [show n + (d + 1) + 1 = (n + d + 1) + 1 by omega, hs (n + d + 1) _ k (by omega) (by omega) hr.1 hr.2]
      have := ih (k + 1) n (by omega)
      exact this
  have := main N 0 (20000 - (N + 1)) (by omega)
  rw [show 20000 - (N + 1) + N + 1 = q_F by show _ = 20000; omega] at this
  exact this
theorem g_ca_at {l : q_Mem} (hg : g_lw l) (X : Int → Bool) : g_cnt (fun k => X (k / l 0 1 * 10 + k % l 0 1)) (l 0 0 * l 0 1).toNat = g_ca l X := by
  have hRC := g_RC hg
  have main : ∀ n : Nat, (n : Int) ≤ l 0 0 * l 0 1 → g_cnt (fun k => X (k / l 0 1 * 10 + k % l 0 1)) n = g_cp l n X := by
    intro n
    induction n with
    | zero => exact fun _ => (g_cp_0 hg X).symm
    | succ n ih =>
      intro hn
      have e := g_cp_s hg X (k := n) (by omega) (by omega)
      rw [show ((n + 1 : Nat) : Int) = (n : Int) + 1 by omega, e, ← ih (by omega)]
      rfl
  rw [main _ (by omega), show (((l 0 0 * l 0 1).toNat : Nat) : Int) = l 0 0 * l 0 1 by omega]
  exact g_cp_all hg X
/-- a point that a run gets wrong -/
def f_df (l : q_Mem) (V R : Int → Int) (p : Int) : Prop := ∃ v, 0 ≤ v ∧ v < l 0 2 ∧ q_w (V (100 * v + p)) ≠ q_w (R (100 * v + p))
noncomputable def f_wr (l : q_Mem) (D V R : Int → Int) (p : Int) : Bool := @decide (0 ≤ D p ∧ f_df l V R p) (Classical.propDecidable _)
theorem f_wr_iff {l : q_Mem} {D V R : Int → Int} {p : Int} : f_wr l D V R p = true ↔ 0 ≤ D p ∧ f_df l V R p := by
  unfold f_wr
  exact @decide_eq_true_iff _ (Classical.propDecidable _)
section q2
variable {l m : q_Mem} {o : Int → Int}
theorem c_isWrong (hg : g_lw l) (hc : k_C l o m) {z p : Int} (hp : g_pt l p) : f_PG_isWrong p z m = some (if f_wr l (m 54) (m 74) (m z) p = true then 1 else 0, m) := by
  have h2 := hg.2.2.1
  have hp' := hp.1
  have hwd := hc.2.2.1.2.2.1 _ hp
  apply o_eq
  unfold f_PG_isWrong f_Web_isOrdered
  rw [x_rd (n := 100) (by omega) (by omega) (by decide), q_w_id (by omega) (by omega)]
  by_cases c : m 54 p = -1
  · rw [if_pos c, x_rz0, x_bd, x_w0, if_pos rfl, x_rz0, if_neg (by rw [f_wr_iff]; omega)]
    exact o_some ⟨rfl, rfl⟩
  rw [if_neg c, x_rz1, x_bd, x_w1, if_neg (by decide)]
  refine o_upF (fun n k (_ : Unit) => f_PG_isWrong_l15 n p z k m) (fun k _ => 0 ≤ k ∧ ∀ v, 0 ≤ v → v < k → q_w (m 74 (100 * v + p)) = q_w (m z (100 * v + p))) _ (k := 0) (e := l 0 2) (s := ()) (by omega) (by omega) ⟨by omega, fun v v0 v1 => by omega⟩ ?_ ?_
  · intro n k _ hk ⟨h0, he⟩ hn
    show q_ok (f_PG_isWrong_b15 (f_PG_isWrong_l15 n) p z k m) _
    unfold f_PG_isWrong_b15
    rw [x_lt, x_one hc.1.1, hc.1.2.1, q_w_id (by omega) (by omega), q_w_id (x := k) (by omega) (by omega), if_neg (by omega), show k * 100 = 100 * k by omega, x_rd (n := 300) (by omega) (by omega) (by decide), x_rd (n := 300) (by omega) (by omega) (by decide)]
    by_cases c2 : q_w (m 74 (100 * k + p)) = q_w (m z (100 * k + p))
    · rw [if_pos c2]
      refine hn () ⟨by omega, fun v v0 v1 => ?_⟩
      by_cases c3 : v = k
      · rw [c3]; exact c2
      · exact he v v0 (by omega)
    · rw [if_neg c2, x_rz1, if_pos (f_wr_iff.mpr ⟨by omega, k, h0, hk, c2⟩)]
      exact o_some ⟨rfl, rfl⟩
  · intro n _ ⟨h0, he⟩
    show q_ok (f_PG_isWrong_b15 (f_PG_isWrong_l15 n) p z (l 0 2) m) _
    unfold f_PG_isWrong_b15
    rw [x_lt, x_one hc.1.1, hc.1.2.1, if_pos (Int.le_refl _), x_rz0, if_neg]
    · exact o_some ⟨rfl, rfl⟩
    · rw [f_wr_iff]
      rintro ⟨_, v, v0, v1, hv⟩
      exact hv (he v v0 v1)
theorem c_countWrong (hg : g_lw l) (hc : k_C l o m) (z : Int) : f_PG_countWrong z m = some (g_ca l (f_wr l (m 54) (m 74) (m z)), m) := by
  have hRC := g_RC hg
  unfold f_PG_countWrong
  refine o_cnt (fun n a k => f_PG_countWrong_l4 n z a k m) (fun k => f_wr l (m 54) (m 74) (m z) (k / l 0 1 * 10 + k % l 0 1)) (l 0 0 * l 0 1).toNat (by omega) ?_ ?_
  · intro n a k k0 k1 a0 a1
    have hp := (k_at_pt hg k0 (by omega)).1
    show f_PG_countWrong_b4 (f_PG_countWrong_l4 n) z a k m = _
    unfold f_PG_countWrong_b4 f_PG_countWrong_b34
    rw [x_lt, x_one hc.1.1, c_points hc.1.2, x_bd, q_w_id (by omega) (by omega), q_w_id (by omega) (by omega), if_neg (by omega), x_lt, x_one hc.1.1, c_pointAt hc.1.2 hg ⟨k0, by omega⟩, x_bd, c_isWrong hg hc hp, x_bd, x_wi]
    simp only [x_i0]
    by_cases c : f_wr l (m 54) (m 74) (m z) (k / l 0 1 * 10 + k % l 0 1) = true
    · rw [if_neg (fun h => h c), if_pos c]
    · rw [if_pos c, if_neg c, Int.add_zero]
  · intro n
    show f_PG_countWrong_b4 (f_PG_countWrong_l4 n) z _ _ m = _
    unfold f_PG_countWrong_b4
    rw [x_lt, x_one hc.1.1, c_points hc.1.2, x_bd, show (((l 0 0 * l 0 1).toNat : Nat) : Int) = l 0 0 * l 0 1 by omega, if_pos (Int.le_refl _), g_ca_at hg]
    rfl
theorem m_isWrong (hg : g_lw l) (h : g_ML m l) (hr : ∀ p, g_pt l p → -1 ≤ m 106 p ∧ m 106 p < 100) {p : Int} (hp' : 0 ≤ p ∧ p < 100) : f_Mod_isWrong p m = some (if (decide (g_th (l 0 0) (l 0 1) p) && f_wr l (m 106) (m 110) (m 111) p) = true then 1 else 0, m) := by
  have h2 := hg.2.2.1
  apply o_eq
  unfold f_Mod_isWrong
  rw [m_isThere h hg hp', x_bd, x_wi]
  simp only [x_i0]
  by_cases ct : g_th (l 0 0) (l 0 1) p
  · have hp : g_pt l p := ⟨hp', ct⟩
    have hwd := hr p hp
    rw [if_neg (fun h => h ct), x_rd (n := 100) (by omega) (by omega) (by decide), q_w_id (by omega) (by omega)]
    rw [decide_eq_true ct, Bool.true_and]
    by_cases c : 0 ≤ m 106 p
    · rw [if_pos c]
      refine o_upF (fun n k (_ : Unit) => f_Mod_isWrong_l21 n p k m) (fun k _ => 0 ≤ k ∧ ∀ v, 0 ≤ v → v < k → q_w (m 110 (100 * v + p)) = q_w (m 111 (100 * v + p))) _ (k := 0) (e := l 0 2) (s := ()) (by omega) (by omega) ⟨by omega, fun v v0 v1 => by omega⟩ ?_ ?_
      · intro n k _ hk ⟨h0, he⟩ hn
        show q_ok (f_Mod_isWrong_b21 (f_Mod_isWrong_l21 n) p k m) _
        unfold f_Mod_isWrong_b21
        rw [m_many h, x_bd, q_w_id (by omega) (by omega), q_w_id (x := k) (by omega) (by omega), if_neg (by omega), x_rd (n := 300) (by omega) (by omega) (by decide), x_rd (n := 300) (by omega) (by omega) (by decide)]
        by_cases c2 : q_w (m 111 (100 * k + p)) = q_w (m 110 (100 * k + p))
        · rw [if_pos c2]
          refine hn () ⟨by omega, fun v v0 v1 => ?_⟩
          by_cases c3 : v = k
          · rw [c3]; exact c2.symm
          · exact he v v0 (by omega)
        · rw [if_neg c2, x_rz1, if_pos (f_wr_iff.mpr ⟨by omega, k, h0, hk, fun e => c2 e.symm⟩)]
          exact o_some ⟨rfl, rfl⟩
      · intro n _ ⟨h0, he⟩
        show q_ok (f_Mod_isWrong_b21 (f_Mod_isWrong_l21 n) p (l 0 2) m) _
        unfold f_Mod_isWrong_b21
        rw [m_many h, x_bd, if_pos (Int.le_refl _), x_rz0, if_neg]
        · exact o_some ⟨rfl, rfl⟩
        · rw [f_wr_iff]
          rintro ⟨_, v, v0, v1, hv⟩
          exact hv (he v v0 v1)
    · rw [if_neg c, x_rz0, if_neg (by rw [f_wr_iff]; omega)]
      exact o_some ⟨rfl, rfl⟩
  · rw [if_pos ct, x_rz0]
    rw [decide_eq_false ct, Bool.false_and]
    exact o_some ⟨rfl, rfl⟩
/-- rows alike, and so what is wrong -/
theorem f_wr_same (hg : g_lw l) (hw : f_wf l) {D D' V V' R R' T : Int → Int} {A : Int → Prop} (hD : g_isD l D) (hD' : g_isD l D') (r' : ∀ p, g_pt l p → -1 ≤ D' p) (hV : f_V l D (fun p => 0 ≤ D p) (-1) (-1) V) (hV' : f_V l D' (fun p => 0 ≤ D' p) (-1) (-1) V') (hT : ∀ p, g_pt l p → -1 ≤ T p) (hR : f_V l T A (-1) (-1) R) (hR' : f_V l T A (-1) (-1) R') : ∀ p, g_pt l p → f_wr l D V R p = f_wr l D' V' R' p := by
  intro p hp
  have hDe := g_D_uniq hg hD hD'
  have hVe := f_V_uniq hw hg r' (f_V_T hw hg (f_V_same hV fun p hp => by rw [hDe p hp]) hDe) hV'
  have hRe := f_V_uniq hw hg hT hR hR'
  have : (f_wr l D V R p = true) ↔ (f_wr l D' V' R' p = true) := by
    rw [f_wr_iff, f_wr_iff, hDe p hp]
    refine and_congr_right fun _ => ?_
    unfold f_df
    constructor
    · rintro ⟨v, v0, v1, h⟩
      exact ⟨v, v0, v1, by rw [← hVe v p v0 v1 hp, ← hRe v p v0 v1 hp]; exact h⟩
    · rintro ⟨v, v0, v1, h⟩
      exact ⟨v, v0, v1, by rw [hVe v p v0 v1 hp, hRe v p v0 v1 hp]; exact h⟩
  exact Bool.eq_iff_iff.mpr this
end q2
