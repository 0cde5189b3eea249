/-! WEAVE -/
theorem q_fill_in {m : q_Mem} {c v i : Int} {n : Nat} (h0 : 0 ≤ i) (h1 : i < n) : q_fill m c n v c i = v := if_pos ⟨rfl, h0, h1⟩
theorem q_fill_f {m : q_Mem} {c v c' : Int} {n : Nat} (h : c' ≠ c) : q_fill m c n v c' = m c' := by
  funext i
  exact if_neg (fun e => h e.1)
/-- the heights, from the last point of the row on -/
def k_T (l m s : q_Mem) (k : Int) : Prop := (∀ c, c ≠ 55 → s c = m c) ∧ (∀ p, g_pt l p → -1 ≤ s 55 p ∧ s 55 p < 100) ∧ (∀ i, k < i → i < m 53 6 → s 55 (m 56 i) = g_db (g_rr l (m 56 i)) (s 55) (l 0 5).toNat ∧ s 55 (m 56 i) ≤ m 53 6 - 1 - i) ∧ (∀ p, g_pt l p → (∀ i, k < i → i < m 53 6 → m 56 i ≠ p) → s 55 p = -1)
theorem c_heights {l m : q_Mem} {t : Int} (ht : t ∈ q_Lp) (hl : g_CL m t l) (hw : g_lw l) (hO : k_O l (fun p => decide (0 ≤ m 54 p)) (m 56) (m 53 6)) (htop : ∀ i j o, 0 ≤ i → i < m 53 6 → 0 ≤ o → o < l 0 5 → g_tg l (m 56 i) o ≠ -1 → 0 ≤ j → j < m 53 6 → m 56 j = g_tg l (m 56 i) o → j < i) (h55 : ∀ q, 0 ≤ q → q < 100 → m 55 q = -1) :
    q_ok (f_Web_weave_l113 q_F t (m 53 6 - 1) m) (fun _ m' => (∀ c, c ≠ 55 → m' c = m c) ∧ (∀ p, g_pt l p → -1 ≤ m' 55 p ∧ m' 55 p < 100) ∧ g_isH l (m 54) (m' 55)) := by
  have hO1 := hO.1
  have hO2 := hO.2.1
  have hO3 := hO.2.2.1
  have hO4 := hO.2.2.2.1
  refine o_downF (fun n k (s : q_Mem) => f_Web_weave_l113 n t k s) (fun k s => -1 ≤ k ∧ k < m 53 6 ∧ k_T l m s k) _ (k := m 53 6 - 1) (s := m) (by omega) (by omega) ⟨by omega, by omega, fun _ _ => rfl, fun p hp => by rw [h55 p hp.1.1 hp.1.2]; omega, fun i i0 i1 => by omega, fun p hp _ => h55 p hp.1.1 hp.1.2⟩ ?_ ?_
  · intro n k s hk ⟨_, hkN, hf, hr, hh, hn1⟩ hn
    show q_ok (f_Web_weave_b113 (f_Web_weave_l113 n) t k s) _
    unfold f_Web_weave_b113
    have hp := hO2 k hk hkN
    have hp1 := hp.1
    have e56 : s 56 = m 56 := hf 56 (by omega)
    have hl' : g_CL s t l := g_CL_of ht hl (fun c hc => hf c (by omega))
    simp (disch := omega) only [x_bd, x_rt, x_pf, x_lt, x_fi, x_rz0, x_rz1, x_rzi, x_pz0, x_pz1, x_rd, x_wr, x_wrz, x_dv, x_md, q_w_id, x_wi, x_i0, x_i1, x_max, x_min, x_abs, ↓reduceIte, Int.reduceEq, Int.reduceLT, Int.reduceLE, Int.reduceNeg, if_true, if_false, e56]
    rw [if_neg (by omega), c_heightOver hl' hw hp1 (fun q hq => by have := hr q hq; omega), x_bd]
    -- the readers of this point: behind it in the row, or not ordered
    have readers : ∀ o, 0 ≤ o → o < l 0 5 → g_rr l (m 56 k) o ≠ -1 → (∃ i, k < i ∧ i < m 53 6 ∧ m 56 i = g_rr l (m 56 k) o) ∨ s 55 (g_rr l (m 56 k) o) = -1 := by
      intro o o0 o1 o2
      have hq := g_rr_pt hw o2
      by_cases c : ∃ i, 0 ≤ i ∧ i < m 53 6 ∧ m 56 i = g_rr l (m 56 k) o
      · obtain ⟨i, i0, i1, i2⟩ := c
        left
        refine ⟨i, ?_, i1, i2⟩
        have e : g_tg l (m 56 i) o = m 56 k := by rw [i2]; exact (g_tg_rr hw hq hp).mpr rfl
        exact htop i k o i0 i1 o0 o1 (by rw [e]; omega) hk hkN e.symm
      · right
        exact hn1 _ hq (fun i i0 i1 e => c ⟨i, by omega, i1, e⟩)
    have hne : ∀ o, 0 ≤ o → o < l 0 5 → g_rr l (m 56 k) o ≠ m 56 k := by
      intro o o0 o1 e
      exact g_tg_self hw hp1.1 o0 o1 ((g_tg_rr hw hp hp).mpr e)
    have hb1 := g_db_ge (g_rr l (m 56 k)) (s 55) (l 0 5).toNat
    have hb2 : g_db (g_rr l (m 56 k)) (s 55) (l 0 5).toNat ≤ m 53 6 - 1 - k := by
      refine g_db_le (by omega) (fun o o0 o1 o2 => ?_)
      rcases readers o o0 (by omega) o2 with ⟨i, i0, i1, i2⟩ | h1
      · have := (hh i i0 i1).2
        rw [i2] at this
        omega
      · omega
    have eup : ∀ q, q ≠ m 56 k → q_up s 55 (m 56 k) (g_db (g_rr l (m 56 k)) (s 55) (l 0 5).toNat) 55 q = s 55 q := fun q e => q_up_i e
    refine hn _ ⟨by omega, by omega, fun c hc => by rw [q_up_f hc]; exact hf c hc, fun p hpp => ?_, fun i i0 i1 => ?_, fun p hpp hpi => ?_⟩
    · by_cases e : p = m 56 k
      · rw [e, q_up_s]; omega
      · rw [eup p e]; exact hr p hpp
    · have cong : ∀ q, (∀ o, 0 ≤ o → o < l 0 5 → g_rr l q o ≠ -1 → 0 ≤ g_db (g_rr l q) (s 55) (l 0 5).toNat → g_rr l q o ≠ m 56 k) → True := fun _ _ => trivial
      by_cases e : i = k
      · subst e
        rw [q_up_s]
        refine ⟨(g_db_congr (fun o o0 o1 o2 => ?_)).symm, hb2⟩
        exact eup _ (hne o o0 (by omega))
      · have hi := hh i (by omega) i1
        have hik : m 56 i ≠ m 56 k := fun e2 => hO3 k i hk (by omega) i1 e2.symm
        rw [eup _ hik]
        refine ⟨?_, hi.2⟩
        rw [hi.1]
        refine (g_db_congr (fun o o0 o1 o2 => ?_)).symm
        refine eup _ (fun e2 => ?_)
        -- m 56 k would read a point behind it
        have hpi := hO2 i (by omega) i1
        have e3 : g_tg l (m 56 k) o = m 56 i := (g_tg_rr hw hp hpi).mpr e2
        have := htop k i o hk hkN o0 (by omega) (by rw [e3]; have := hpi.1; omega) (by omega) i1 e3.symm
        omega
    · have : p ≠ m 56 k := fun e => hpi k (by omega) hkN e.symm
      rw [eup p this]
      exact hn1 p hpp (fun i i0 i1 => hpi i (by omega) i1)
  · intro n s ⟨_, _, hf, hr, hh, hn1⟩
    show q_ok (f_Web_weave_b113 (f_Web_weave_l113 n) t (-1) s) _
    unfold f_Web_weave_b113
    rw [q_wlit rfl, if_pos (by decide)]
    refine o_rt ⟨hf, hr, fun p hp h0 => ?_, fun p hp h0 => ?_⟩
    · obtain ⟨i, i0, i1, i2⟩ := (hO4 p hp).mp (decide_eq_true h0)
      have := (hh i (by omega) i1).1
      rw [i2] at this
      exact this
    · refine hn1 p hp (fun i i0 i1 e => ?_)
      have := (hO4 p hp).mpr ⟨i, by omega, i1, e⟩
      simp at this
      omega
theorem c_weave {l m : q_Mem} {t : Int} (ht : t ∈ q_Lp) (hl : g_CL m t l) (hw : g_lw l) : q_ok (f_Web_weave t m) (fun _ m' => (∀ c, c < 53 ∨ 57 < c → m' c = m c) ∧ k_web l m') := by
  have h5 := hw.2.2.2.2.1
  have hRC := g_RC hw
  unfold f_Web_weave
  simp only [x_fi, x_pf]
  -- the row's end
  have last : ∀ s, k_S l m s (s 53 6) → q_ok (f_Web_weave_b106 t s) (fun _ m' => (∀ c, c < 53 ∨ 57 < c → m' c = m c) ∧ k_web l m') := by
    intro s ⟨hf, h55, h57, hO, hKN, hD1, hD2, htop, hDi, hdr, hdm, hde⟩
    unfold f_Web_weave_b106
    have hl' : g_CL s t l := g_CL_of ht hl (fun c hc => hf c (by omega))
    have hO1 := hO.1
    have hO' : k_O l (fun p => decide (0 ≤ s 54 p)) (s 56) (s 53 6) := by
      refine k_O_same hO (fun p hp => ?_)
      have e1 := (hD1 p hp).2
      have e2 := hO.2.2.2.1 p hp
      by_cases c : 0 ≤ s 54 p
      · rw [decide_eq_true c]
        exact (e2.mpr (e1.mp c)).symm
      · rw [decide_eq_false c]
        cases hz : (s 57 p == 0) with
        | false => rfl
        | true => exact absurd (e1.mpr (e2.mp hz)) c
    have hisD : g_isD l (s 54) := by
      intro p hp
      by_cases c : 0 ≤ s 54 p
      · exact hD2 p hp c
      · have hz : s 57 p ≠ 0 := fun e => c ((hD1 p hp).2.mpr ((hO.2.2.2.1 p hp).mp (by simpa using e)))
        have hV : k_V l (s 54) p ≠ 0 := by rw [← h57 p hp]; exact hz
        have hneg : g_db (g_tg l p) (s 54) (l 0 5).toNat < 0 := by
          refine Classical.byContradiction fun hh => hV (g_cnt_zero.mpr (fun o o0 o1 => ?_))
          by_cases c2 : g_tg l p o = -1
          · simp [c2]
          · have := g_db_nn (Int.not_lt.mp hh) o o0 o1 c2
            simp [this.1]
        have h1 := g_db_ge (g_tg l p) (s 54) (l 0 5).toNat
        have h2 := (hD1 p hp).1
        omega
    have htop' : ∀ i j o, 0 ≤ i → i < s 53 6 → 0 ≤ o → o < l 0 5 → g_tg l (s 56 i) o ≠ -1 → 0 ≤ j → j < s 53 6 → s 56 j = g_tg l (s 56 i) o → j < i := by
      intro i j o i0 i1 o0 o1 o2 j0 j1 e
      obtain ⟨j', a0, a1, a2⟩ := htop i o i0 i1 o0 o1 o2
      rcases Int.lt_trichotomy j j' with hlt | heq | hgt
      · omega
      · omega
      · exact absurd (a2.trans e.symm) (hO.2.2.1 j' j a0 hgt j1)
    have hD100 : ∀ p, g_pt l p → -1 ≤ s 54 p ∧ s 54 p < 100 := fun p hp => ⟨(hD1 p hp).1, by have := hdm p hp; omega⟩
    refine o_mono (c_heights ht hl' hw hO' htop' h55) (fun _ m' ⟨g1, g2, g3⟩ => ⟨fun c hc => by rw [g1 c (by omega)]; exact hf c hc, ?_⟩)
    unfold k_web
    rw [g1 54 (by omega), g1 53 (by omega), g1 56 (by omega)]
    exact ⟨hisD, g3, hD100, g2, hO', htop', hdr, hdm, hde⟩
  -- the points, one behind another
  refine o_upF (fun n k (s : q_Mem) => f_Web_weave_l28 n t k s) (fun k s => 0 ≤ k ∧ (∀ c, c < 53 ∨ 57 < c → s c = m c) ∧ (∀ q, 0 ≤ q → q < 100 → s 54 q = -1) ∧ (∀ q, 0 ≤ q → q < 100 → s 55 q = -1) ∧ s 53 7 = -1 ∧ (∀ p, g_pt l p → k_idx l p < k → s 57 p = g_hang l p) ∧ k_O l (fun p => decide (k_idx l p < k) && s 57 p == 0) (s 56) (s 53 6)) _ (k := 0) (e := l 0 0 * l 0 1) (by omega) (by omega) ⟨by omega, fun c hc => ?_, fun q q0 q1 => ?_, fun q q0 q1 => ?_, ?_, fun p hp h => ?_, ?_⟩ ?_ ?_
  · rw [q_up_f (by omega), q_up_f (by omega), q_fill_f (by omega), q_fill_f (by omega)]
  · rw [q_up_f (by decide), q_up_f (by decide), q_fill_f (by decide), q_fill_in q0 q1]
  · rw [q_up_f (by decide), q_up_f (by decide), q_fill_in q0 q1]
  · exact q_up_s _ _ _ _
  · have := (k_idx_pt hw hp).1; omega
  · rw [q_up_i (c := 53) (by decide), q_up_s]
    refine ⟨by omega, fun i i0 i1 => by omega, fun i j i0 ij j1 => by omega, fun p hp => ?_, ?_⟩
    · have := (k_idx_pt hw hp).1
      have e : decide (k_idx l p < 0) = false := decide_eq_false (by omega)
      simp only [e, Bool.false_and]
      exact ⟨fun h => (by cases h), fun ⟨i, i0, i1, _⟩ => by omega⟩
    · refine (g_cnt_zero.mpr (fun k k0 k1 => ?_)).symm
      by_cases c : g_th (l 0 0) (l 0 1) k
      · have := (k_idx_pt hw ⟨⟨k0, k1⟩, c⟩).1
        have e : decide (k_idx l k < 0) = false := decide_eq_false (by omega)
        simp [e]
      · simp [c]
  · intro n k s hk ⟨h0, hf, h54, h55, h7, h57, hO⟩ hn
    show q_ok (f_Web_weave_b28 (f_Web_weave_l28 n) t k s) _
    unfold f_Web_weave_b28 f_Web_weave_b67
    have hl' : g_CL s t l := g_CL_of ht hl (fun c hc => hf c (by omega))
    obtain ⟨hpt, hidx⟩ := k_at_pt hw h0 hk
    rw [c_points hl', x_bd, q_w_id (x := k) (by omega) (by omega), q_w_id (x := l 0 0 * l 0 1) (by omega) (by omega), if_neg (by omega), c_pointAt hl' hw ⟨h0, by omega⟩, x_bd]
    generalize hpd : k / l 0 1 * 10 + k % l 0 1 = p at hpt hidx
    have hp1 := hpt.1
    rw [c_readBy hl' hw hp1, x_bd]
    have hh : g_cnt (fun o => g_tg l p o != -1) (l 0 5).toNat = g_hang l p := rfl
    rw [hh]
    have hhr : 0 ≤ g_hang l p ∧ g_hang l p ≤ 12 := by
      have := g_cnt_rg (fun o => g_tg l p o != -1) (l 0 5).toNat
      unfold g_hang; omega
    simp (disch := omega) only [x_bd, x_rt, x_pf, x_lt, x_fi, x_rz0, x_rz1, x_rzi, x_pz0, x_pz1, x_rd, x_wr, x_wrz, x_dv, x_md, q_w_id, x_wi, x_i0, x_i1, x_max, x_min, x_abs, ↓reduceIte, Int.reduceEq, Int.reduceLT, Int.reduceLE, Int.reduceNeg, if_true, if_false, q_up_s]
    have hO1 := hO.1
    have idx_ne : ∀ q, g_pt l q → q ≠ p → (k_idx l q < k + 1 ↔ k_idx l q < k) := by
      intro q hq e
      have : k_idx l q ≠ k := fun e2 => e (by
        have a := (k_idx_pt hw hq).2
        rw [e2] at a
        exact a.symm.trans hpd)
      omega
    have zp : (fun p => decide (k_idx l p < k) && s 57 p == 0) p = false := by
      have e : decide (k_idx l p < k) = false := decide_eq_false (by omega)
      simp [e]
    have zo : ∀ q, g_pt l q → q ≠ p → (fun q => decide (k_idx l q < k + 1) && q_up s 57 p (g_hang l p) 57 q == 0) q = (fun p => decide (k_idx l p < k) && s 57 p == 0) q := by
      intro q hq e
      show (decide (k_idx l q < k + 1) && q_up s 57 p (g_hang l p) 57 q == 0) = _
      rw [q_up_i e, decide_eq_decide.mpr (idx_ne q hq e)]
    have w57 : ∀ q, g_pt l q → k_idx l q < k + 1 → q_up s 57 p (g_hang l p) 57 q = g_hang l q := by
      intro q hq hqi
      by_cases e : q = p
      · rw [e, q_up_s]
      · rw [q_up_i e]; exact h57 q hq ((idx_ne q hq e).mp hqi)
    by_cases cz : g_hang l p = 0
    · rw [if_pos cz]
      have hadd := k_O_add (z' := fun q => decide (k_idx l q < k + 1) && q_up s 57 p (g_hang l p) 57 q == 0) (ord' := fun i => if i = s 53 6 then p else s 56 i) hO hpt zo zp (by
        show (decide (k_idx l p < k + 1) && q_up s 57 p (g_hang l p) 57 p == 0) = true
        rw [q_up_s, cz, decide_eq_true (by omega)]; rfl) (fun i i0 i1 => by rw [if_neg (by omega)]) (by simp)
      rw [c_put (by rw [q_up_f (by omega)]; omega), x_bd]
      simp only [q_up_f (m := s) (c := 57) (c' := 53) (i := p) (v := g_hang l p) (by decide)]
      refine hn (q_up (q_up (q_up s 57 p (g_hang l p)) 56 (s 53 6) p) 53 6 (s 53 6 + 1)) ⟨by omega, fun c hc => ?_, fun q q0 q1 => ?_, fun q q0 q1 => ?_, ?_, fun q hq hqi => ?_, ?_⟩
      · rw [q_up_f (by omega), q_up_f (by omega), q_up_f (by omega)]; exact hf c hc
      · rw [q_up_f (by decide), q_up_f (by decide), q_up_f (by decide)]; exact h54 q q0 q1
      · rw [q_up_f (by decide), q_up_f (by decide), q_up_f (by decide)]; exact h55 q q0 q1
      · rw [q_up_i (by decide), q_up_f (by decide), q_up_f (by decide)]; exact h7
      · rw [q_up_f (by decide), q_up_f (by decide)]; exact w57 q hq hqi
      · rw [q_up_s]
        refine k_O_same (z := fun q => decide (k_idx l q < k + 1) && q_up s 57 p (g_hang l p) 57 q == 0) ?_ (fun q _ => by
          show (decide (k_idx l q < k + 1) && q_up _ 53 _ _ 57 q == 0) = (decide (k_idx l q < k + 1) && q_up s 57 p (g_hang l p) 57 q == 0)
          rw [q_up_f (by decide), q_up_f (by decide)])
        have e56 : (q_up (q_up (q_up s 57 p (g_hang l p)) 56 (s 53 6) p) 53 6 (s 53 6 + 1) 56) = fun i => if i = s 53 6 then p else s 56 i := by
          funext i
          rw [q_up_f (by decide)]
          by_cases e : i = s 53 6
          · rw [e, q_up_s, if_pos rfl]
          · rw [q_up_i e, q_up_f (by decide), if_neg e]
        rw [e56]
        exact hadd.2
    · rw [if_neg cz]
      refine hn (q_up s 57 p (g_hang l p)) ⟨by omega, fun c hc => ?_, fun q q0 q1 => ?_, fun q q0 q1 => ?_, ?_, w57, ?_⟩
      · rw [q_up_f (by omega)]; exact hf c hc
      · rw [q_up_f (by decide)]; exact h54 q q0 q1
      · rw [q_up_f (by decide)]; exact h55 q q0 q1
      · rw [q_up_f (by decide)]; exact h7
      · rw [q_up_f (c' := 56) (by decide), q_up_f (c' := 53) (by decide)]
        refine k_O_same hO (fun q hq => ?_)
        by_cases e : q = p
        · rw [e]
          have e2 : (decide (k_idx l p < k) && s 57 p == 0) = false := zp
          rw [e2, q_up_s]
          have : (g_hang l p == 0) = false := by simpa using cz
          rw [this, Bool.and_false]
        · exact zo q hq e
  · intro n s ⟨h0, hf, h54, h55, h7, h57, hO⟩
    show q_ok (f_Web_weave_b28 (f_Web_weave_l28 n) t (l 0 0 * l 0 1) s) _
    unfold f_Web_weave_b28
    have hl' : g_CL s t l := g_CL_of ht hl (fun c hc => hf c (by omega))
    rw [c_points hl', x_bd, if_pos (Int.le_refl _)]
    have start : k_S l m s 0 := by
      have hV : ∀ q, g_pt l q → k_V l (s 54) q = g_hang l q := by
        intro q hq
        refine g_cnt_congr (fun o o0 o1 => ?_)
        by_cases c : g_tg l q o = -1
        · simp [c]
        · have := g_tg_pt hw c
          have e := h54 _ this.1.1 this.1.2
          simp [e]
      have hO' : k_O l (fun q => s 57 q == 0) (s 56) (s 53 6) := k_O_same hO (fun q hq => by
        have e : decide (k_idx l q < l 0 0 * l 0 1) = true := decide_eq_true (k_idx_pt hw hq).1.2
        rw [e, Bool.true_and])
      have hO1 := hO.1
      refine ⟨hf, h55, fun q hq => ?_, hO', by omega, fun p hp => ?_, fun p hp hp0 => ?_, fun i o i0 i1 => by omega, fun i i0 i1 => by omega, by omega, fun p hp => ?_, Or.inl h7⟩
      · rw [hV q hq]; exact h57 q hq (k_idx_pt hw hq).1.2
      · have e := h54 p hp.1.1 hp.1.2
        exact ⟨by omega, fun c => by omega, fun ⟨i, i0, i1, _⟩ => by omega⟩
      · have e := h54 p hp.1.1 hp.1.2
        omega
      · have e := h54 p hp.1.1 hp.1.2
        omega
    -- deepening
    refine o_while (fun n (s : Int × q_Mem) => f_Web_weave_l75 n t s.1 s.2) (fun s => 0 ≤ s.1 ∧ k_S l m s.2 s.1) (fun s => (101 - s.1).toNat) _ ?_ q_F (0, s) (by show (101 - 0 : Int).toNat < 20000; decide) ⟨by omega, start⟩
    intro n ⟨K, s⟩ ⟨hK0, hS⟩ hn
    dsimp only at hK0 hS hn
    show q_ok (f_Web_weave_b75 (f_Web_weave_l75 n) t K s) _
    unfold f_Web_weave_b75
    have hN := hS.2.2.2.1.1
    have hKN := hS.2.2.2.2.1
    have hpK : ∀ hK : K < s 53 6, g_pt l (s 56 K) := fun hK => hS.2.2.2.1.2.1 K hK0 hK
    rw [q_w_id (x := K) (by omega) (by omega), q_w_id (x := s 53 6) (by omega) (by omega)]
    by_cases c : K < s 53 6
    · rw [if_neg (by omega), if_neg (by omega), x_rd (n := 100) hK0 (by show K < 100; omega) (by decide)]
      refine o_bd (k_S_step ht hl hw hK0 c hS) (fun _ s' hs' => ?_)
      exact hn (K + 1, s') ⟨by omega, hs'⟩ (by dsimp only; omega)
    · have e : K = s 53 6 := by omega
      rw [e] at hS
      by_cases c2 : 100 ≤ K
      · rw [if_pos c2]; exact last s hS
      · rw [if_neg c2, if_pos (by omega)]; exact last s hS
