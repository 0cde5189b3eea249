/-! THE CLASS's WEB: the points in order, depth by depth -/
theorem g_cnt_flip {P P' : Int → Bool} {n : Nat} {q : Int} (h0 : 0 ≤ q) (h1 : q < n) (h : ∀ k : Int, 0 ≤ k → k < n → k ≠ q → P' k = P k) (hq : P q = false) (hq' : P' q = true) : g_cnt P' n = g_cnt P n + 1 := by
  induction n with
  | zero => omega
  | succ n ih =>
    show g_cnt P' n + (if P' n = true then 1 else 0) = g_cnt P n + (if P n = true then 1 else 0) + 1
    by_cases e : q = n
    · subst e
      rw [g_cnt_congr (P := P') (P' := P) (fun k k0 k1 => h k k0 (by omega) (by omega)), hq, hq']
      simp
    · rw [ih (by omega) (fun k k0 k1 => h k k0 (by omega)), h n (by omega) (by omega) (Ne.symm e)]
      omega
theorem g_CL_of {m m' l : q_Mem} {t : Int} (ht : t ∈ q_Lp) (h : g_CL m t l) (hc : ∀ c, c < 53 → m' c = m c) : g_CL m' t l := by
  have : t = 3 ∨ t = 14 := by simpa [q_Lp] using ht
  refine ⟨fun i => ?_, fun j i h1 h2 => ?_⟩
  · rw [hc t (by omega)]; exact h.1 i
  · rw [hc (t + j) (by omega)]; exact h.2 j i h1 h2
/-- the row holds just the points that are ready, each once -/
def k_O (l : q_Mem) (z : Int → Bool) (ord : Int → Int) (N : Int) : Prop := (0 ≤ N ∧ N ≤ 100) ∧ (∀ i, 0 ≤ i → i < N → g_pt l (ord i)) ∧ (∀ i j, 0 ≤ i → i < j → j < N → ord i ≠ ord j) ∧ (∀ p, g_pt l p → (z p = true ↔ ∃ i, 0 ≤ i ∧ i < N ∧ ord i = p)) ∧ N = g_cnt (fun p => decide (g_th (l 0 0) (l 0 1) p) && z p) 100
theorem k_O_same {l : q_Mem} {z z' : Int → Bool} {ord : Int → Int} {N : Int} (h : k_O l z ord N) (hz : ∀ p, g_pt l p → z' p = z p) : k_O l z' ord N := by
  obtain ⟨h1, h2, h3, h4, h5⟩ := h
  refine ⟨h1, h2, h3, fun p hp => by rw [hz p hp]; exact h4 p hp, ?_⟩
  rw [h5]
  refine g_cnt_congr (fun k k0 k1 => ?_)
  by_cases c : g_th (l 0 0) (l 0 1) k
  · rw [hz k ⟨⟨k0, k1⟩, c⟩]
  · simp [c]
theorem k_O_add {l : q_Mem} {z z' : Int → Bool} {ord ord' : Int → Int} {N q : Int} (h : k_O l z ord N) (hq : g_pt l q) (hz : ∀ p, g_pt l p → p ≠ q → z' p = z p) (hzq : z q = false) (hzq' : z' q = true) (ho : ∀ i, 0 ≤ i → i < N → ord' i = ord i) (hoN : ord' N = q) : N < 100 ∧ k_O l z' ord' (N + 1) := by
  obtain ⟨h1, h2, h3, h4, h5⟩ := h
  have hflip : g_cnt (fun p => decide (g_th (l 0 0) (l 0 1) p) && z' p) 100 = g_cnt (fun p => decide (g_th (l 0 0) (l 0 1) p) && z p) 100 + 1 := by
    refine g_cnt_flip hq.1.1 hq.1.2 (fun k k0 k1 kq => ?_) ?_ ?_
    · by_cases c : g_th (l 0 0) (l 0 1) k
      · rw [hz k ⟨⟨k0, k1⟩, c⟩ kq]
      · simp [c]
    · simp [hzq]
    · simp [hzq', hq.2]
  have hle := (g_cnt_rg (fun p => decide (g_th (l 0 0) (l 0 1) p) && z' p) 100).2
  refine ⟨by omega, by omega, fun i i0 i1 => ?_, fun i j i0 ij j1 => ?_, fun p hp => ?_, by omega⟩
  · by_cases e : i = N
    · subst e; rw [hoN]; exact hq
    · rw [ho i i0 (by omega)]; exact h2 i i0 (by omega)
  · by_cases e : j = N
    · subst e
      rw [hoN, ho i i0 (by omega)]
      intro e2
      have := (h4 q hq).mpr ⟨i, i0, by omega, e2⟩
      rw [hzq] at this
      exact absurd this (by decide)
    · rw [ho i i0 (by omega), ho j (by omega) (by omega)]; exact h3 i j i0 ij (by omega)
  · constructor
    · intro hzp
      by_cases e : p = q
      · exact ⟨N, by omega, by omega, by rw [hoN, e]⟩
      · rw [hz p hp e] at hzp
        obtain ⟨i, i0, i1, i2⟩ := (h4 p hp).mp hzp
        exact ⟨i, i0, by omega, by rw [ho i i0 i1]; exact i2⟩
    · intro ⟨i, i0, i1, i2⟩
      by_cases e : p = q
      · rw [e]; exact hzq'
      · rw [hz p hp e]
        have : i ≠ N := fun e2 => by rw [e2, hoN] at i2; exact e i2.symm
        exact (h4 p hp).mpr ⟨i, i0, by omega, by rw [← ho i i0 (by omega)]; exact i2⟩
/-- how many of those that q reads have no depth yet, but for p by the offsets below o -/
def k_U (l : q_Mem) (D : Int → Int) (p o q : Int) : Int := g_cnt (fun o' => g_tg l q o' != -1 && decide (D (g_tg l q o') < 0) && !(decide (o' < o) && g_tg l q o' == p)) (l 0 5).toNat
theorem c_put {m : q_Mem} {q : Int} (hN : 0 ≤ m 53 6 ∧ m 53 6 < 100) : f_Web_putInOrder q m = some (0, q_up (q_up m 56 (m 53 6) q) 53 6 (m 53 6 + 1)) := by
  unfold f_Web_putInOrder
  simp (disch := omega) only [x_bd, x_rt, x_pf, x_lt, x_fi, x_rz0, x_rz1, x_rzi, x_pz0, x_pz1, x_rd, x_wr, x_wrz, x_dv, x_md, q_w_id, x_wi, x_i0, x_i1, x_max, x_min, x_abs, ↓reduceIte, Int.reduceEq, Int.reduceLT, Int.reduceLE, Int.reduceNeg, if_true, if_false]
  rw [if_neg (by omega), q_up_f (by omega)]
theorem c_deepen {m l : q_Mem} {t p : Int} (ht : t ∈ q_Lp) (hl : g_CL m t l) (hw : g_lw l) (hp : g_pt l p) (hD : ∀ q, g_pt l q → -1 ≤ m 54 q ∧ m 54 q < 100) (hDp : m 54 p = -1) (htg : ∀ o, 0 ≤ o → o < l 0 5 → g_tg l p o ≠ -1 → 0 ≤ m 54 (g_tg l p o)) (hwt : ∀ q, g_pt l q → m 57 q = k_U l (m 54) p 0 q) (hO : k_O l (fun q => m 57 q == 0) (m 56) (m 53 6)) (hd : -1 ≤ m 53 7 ∧ m 53 7 < 1000) :
    q_ok (f_Web_deepen t p m) (fun _ m' => (∀ c, c < 53 ∨ 57 < c → m' c = m c) ∧ m' 55 = m 55 ∧ m' 54 = (fun q => if q = p then g_db (g_tg l p) (m 54) (l 0 5).toNat else m 54 q) ∧ (∀ q, g_pt l q → m' 57 q = k_U l (m 54) p (l 0 5) q) ∧ m 53 6 ≤ m' 53 6 ∧ (∀ i, 0 ≤ i → i < m 53 6 → m' 56 i = m 56 i) ∧ k_O l (fun q => m' 57 q == 0) (m' 56) (m' 53 6) ∧ m' 53 7 = max (m 53 7) (g_db (g_tg l p) (m 54) (l 0 5).toNat)) := by
  have h5 := hw.2.2.2.2.1
  have hdb : ∀ k : Int, 0 ≤ k → k ≤ l 0 5 → 0 ≤ g_db (g_tg l p) (m 54) k.toNat ∧ g_db (g_tg l p) (m 54) k.toNat ≤ 100 := by
    intro k k0 k1
    constructor
    · refine Classical.byContradiction fun hh => ?_
      obtain ⟨j, j0, j1, j2, j3⟩ := g_db_neg (Int.not_le.mp hh)
      have := htg j j0 (by omega) j2
      omega
    · exact g_db_le (by omega) (fun j j0 j1 j2 => (hD _ (g_tg_pt hw j2)).2)
  unfold f_Web_deepen
  refine o_upF (fun n k (s : Int × q_Mem) => f_Web_deepen_l5 n t p s.1 k s.2) (fun k s => 0 ≤ k ∧ s.1 + 1 = g_db (g_tg l p) (m 54) k.toNat ∧ (∀ c, c < 53 ∨ 57 < c → s.2 c = m c) ∧ s.2 55 = m 55 ∧ s.2 54 = m 54 ∧ (∀ q, g_pt l q → s.2 57 q = k_U l (m 54) p k q) ∧ m 53 6 ≤ s.2 53 6 ∧ (∀ i, 0 ≤ i → i < m 53 6 → s.2 56 i = m 56 i) ∧ k_O l (fun q => s.2 57 q == 0) (s.2 56) (s.2 53 6) ∧ s.2 53 7 = m 53 7) _ (k := 0) (e := l 0 5) (s := (-1, m)) h5.1 (by omega) ⟨by omega, rfl, fun _ _ => rfl, rfl, rfl, hwt, Int.le_refl _, fun _ _ _ => rfl, hO, rfl⟩ ?_ ?_
  · intro n k ⟨g, s⟩ hk ⟨h0, hg, hf, h55, h54, hw57, hN, ho, hO', h7⟩ hn
    dsimp only at hg hf h55 h54 hw57 hN ho hO' h7
    show q_ok (f_Web_deepen_b5 (f_Web_deepen_l5 n) t p g k s) _
    unfold f_Web_deepen_b5
    have hl' : g_CL s t l := g_CL_of ht hl (fun c hc => hf c (by omega))
    have hr : -1 ≤ g_tg l p k ∧ g_tg l p k < 100 := g_mv_rg _ _ _ _ _ hw.1.2 hw.2.1.2
    have hrr : -1 ≤ g_rr l p k ∧ g_rr l p k < 100 := g_mv_rg _ _ _ _ _ hw.1.2 hw.2.1.2
    have hb := hdb k h0 (by omega)
    have es := g_db_s (g_tg l p) (m 54) h0
    rw [if_neg (by omega)] at es
    rw [c_target hl' hw hp.1 ⟨h0, hk⟩, hl'.1]
    simp (disch := omega) only [x_bd, x_rt, x_pf, x_lt, x_fi, x_rz0, x_rz1, x_rzi, x_pz0, x_pz1, x_rd, x_wr, x_wrz, x_dv, x_md, q_w_id, x_wi, x_i0, x_i1, x_max, x_min, x_abs, ↓reduceIte, Int.reduceEq, Int.reduceLT, Int.reduceLE, Int.reduceNeg, if_true, if_false]
    rw [if_neg (by omega)]
    -- what comes behind: the reader
    have back : ∀ g', g' + 1 = g_db (g_tg l p) (m 54) (k + 1).toNat → q_ok (f_Web_deepen_b41 (f_Web_deepen_l5 n) t p g' k s) (fun _ m' => (∀ c, c < 53 ∨ 57 < c → m' c = m c) ∧ m' 55 = m 55 ∧ m' 54 = (fun q => if q = p then g_db (g_tg l p) (m 54) (l 0 5).toNat else m 54 q) ∧ (∀ q, g_pt l q → m' 57 q = k_U l (m 54) p (l 0 5) q) ∧ m 53 6 ≤ m' 53 6 ∧ (∀ i, 0 ≤ i → i < m 53 6 → m' 56 i = m 56 i) ∧ k_O l (fun q => m' 57 q == 0) (m' 56) (m' 53 6) ∧ m' 53 7 = max (m 53 7) (g_db (g_tg l p) (m 54) (l 0 5).toNat)) := by
      intro g' hg'
      unfold f_Web_deepen_b41 f_Web_deepen_b83
      rw [c_reader hl' hw hp.1 ⟨h0, hk⟩]
      simp (disch := omega) only [x_bd, x_rt, x_pf, x_lt, x_fi, x_rz0, x_rz1, x_rzi, x_pz0, x_pz1, x_rd, x_wr, x_wrz, x_dv, x_md, q_w_id, x_wi, x_i0, x_i1, x_max, x_min, x_abs, ↓reduceIte, Int.reduceEq, Int.reduceLT, Int.reduceLE, Int.reduceNeg, if_true, if_false]
      -- points that don't read p by this offset
      have other : ∀ q, g_pt l q → g_rr l p k ≠ q → k_U l (m 54) p (k + 1) q = k_U l (m 54) p k q := by
        intro q hq hne
        refine g_cnt_congr (fun o' o0 o1 => ?_)
        have : ¬ (o' = k ∧ g_tg l q o' = p) := fun ⟨e1, e2⟩ => hne (by rw [e1] at e2; exact (g_tg_rr hw hq hp).mp e2)
        by_cases e2 : g_tg l q o' = p
        · have : o' ≠ k := fun e => this ⟨e, e2⟩
          have : decide (o' < k + 1) = decide (o' < k) := by
            apply decide_eq_decide.mpr; omega
          rw [this]
        · have e3 : (g_tg l q o' == p) = false := by simpa using e2
          simp only [e3, Bool.and_false]
      by_cases c : g_rr l p k = -1
      · rw [if_pos c]
        refine hn (g', s) ⟨by omega, hg', hf, h55, h54, fun q hq => ?_, hN, ho, hO', h7⟩
        rw [other q hq (fun e => by have := hq.1.1; omega)]
        exact hw57 q hq
      · rw [if_neg c]
        have hq := g_rr_pt hw c
        have hqr : g_tg l (g_rr l p k) k = p := (g_tg_rr hw hq hp).mpr rfl
        generalize hqd : g_rr l p k = q at c hq hqr other hrr
        have hU : k_U l (m 54) p k q = k_U l (m 54) p (k + 1) q + 1 := by
          refine g_cnt_flip h0 (by omega) (fun o' o0 o1 one => ?_) ?_ ?_
          · have : decide (o' < k + 1) = decide (o' < k) := by
              apply decide_eq_decide.mpr; omega
            rw [this]
          · simp [hqr]; omega
          · rw [hqr]; simp [hDp]
            omega
        have hUr := g_cnt_rg (fun o' => g_tg l q o' != -1 && decide (m 54 (g_tg l q o') < 0) && !(decide (o' < k + 1) && g_tg l q o' == p)) (l 0 5).toNat
        have hUr' : 0 ≤ k_U l (m 54) p (k + 1) q ∧ k_U l (m 54) p (k + 1) q ≤ 12 := ⟨hUr.1, by have := hUr.2; unfold k_U; omega⟩
        have e57 : s 57 q = k_U l (m 54) p (k + 1) q + 1 := by rw [hw57 q hq]; exact hU
        have hq1 := hq.1
        simp (disch := omega) only [x_bd, x_rt, x_pf, x_lt, x_fi, x_rz0, x_rz1, x_rzi, x_pz0, x_pz1, x_rd, x_wr, x_wrz, x_dv, x_md, q_w_id, x_wi, x_i0, x_i1, x_max, x_min, x_abs, ↓reduceIte, Int.reduceEq, Int.reduceLT, Int.reduceLE, Int.reduceNeg, if_true, if_false, q_up_s, e57]
        have e1 : k_U l (m 54) p (k + 1) q + 1 - 1 = k_U l (m 54) p (k + 1) q := by omega
        rw [e1]
        have hz0 : (fun q => s 57 q == 0) q = false := by simp [e57]; omega
        have w57 : ∀ q', g_pt l q' → q_up s 57 q (k_U l (m 54) p (k + 1) q) 57 q' = k_U l (m 54) p (k + 1) q' := by
          intro q' hq'
          by_cases e : q' = q
          · rw [e, q_up_s]
          · rw [q_up_i e, hw57 q' hq', other q' hq' (Ne.symm e)]
        have zother : ∀ q', g_pt l q' → q' ≠ q → (fun q' => q_up s 57 q (k_U l (m 54) p (k + 1) q) 57 q' == 0) q' = (fun q' => s 57 q' == 0) q' := by
          intro q' hq' e
          show (q_up s 57 q (k_U l (m 54) p (k + 1) q) 57 q' == 0) = (s 57 q' == 0)
          rw [q_up_i e]
        by_cases cz : k_U l (m 54) p (k + 1) q = 0
        · rw [if_pos cz]
          have hNr := hO'.1
          have hadd := k_O_add (z' := fun q' => q_up s 57 q (k_U l (m 54) p (k + 1) q) 57 q' == 0) (ord' := fun i => if i = s 53 6 then q else s 56 i) hO' hq zother hz0 (by simp [q_up_s, cz]) (fun i i0 i1 => by rw [if_neg (by omega)]) (by simp)
          rw [c_put (by rw [q_up_f (by omega)]; omega), x_bd]
          simp only [q_up_f (m := s) (c := 57) (c' := 53) (i := q) (v := k_U l (m 54) p (k + 1) q) (by decide)]
          refine hn (g', q_up (q_up (q_up s 57 q (k_U l (m 54) p (k + 1) q)) 56 (s 53 6) q) 53 6 (s 53 6 + 1)) ⟨by omega, hg', fun c hc => ?_, ?_, ?_, fun q' hq' => ?_, ?_, fun i i0 i1 => ?_, ?_, ?_⟩
          · dsimp only
            rw [q_up_f (by omega), q_up_f (by omega), q_up_f (by omega)]; exact hf c hc
          · dsimp only
            rw [q_up_f (by decide), q_up_f (by decide), q_up_f (by decide)]; exact h55
          · dsimp only
            rw [q_up_f (by decide), q_up_f (by decide), q_up_f (by decide)]; exact h54
          · dsimp only
            rw [q_up_f (by decide), q_up_f (by decide)]; exact w57 q' hq'
          · dsimp only
            rw [q_up_s]; omega
          · dsimp only
            rw [q_up_f (by decide), q_up_i (by omega), q_up_f (by decide)]; exact ho i i0 i1
          · dsimp only
            rw [q_up_s]
            refine k_O_same (z := fun q' => q_up s 57 q (k_U l (m 54) p (k + 1) q) 57 q' == 0) ?_ (fun q' _ => by
              show (q_up _ 53 _ _ 57 q' == 0) = (q_up s 57 q (k_U l (m 54) p (k + 1) q) 57 q' == 0)
              rw [q_up_f (by decide), q_up_f (by decide)])
            have e56 : (q_up (q_up (q_up s 57 q (k_U l (m 54) p (k + 1) q)) 56 (s 53 6) q) 53 6 (s 53 6 + 1) 56) = fun i => if i = s 53 6 then q else s 56 i := by
              funext i
              rw [q_up_f (by decide)]
              by_cases e : i = s 53 6
              · rw [e, q_up_s, if_pos rfl]
              · rw [q_up_i e, q_up_f (by decide), if_neg e]
            rw [e56]
            exact hadd.2
          · dsimp only
            rw [q_up_i (by decide), q_up_f (by decide), q_up_f (by decide)]; exact h7
        · rw [if_neg cz]
          refine hn (g', q_up s 57 q (k_U l (m 54) p (k + 1) q)) ⟨by omega, hg', fun c hc => ?_, ?_, ?_, w57, ?_, fun i i0 i1 => ?_, ?_, ?_⟩
          · dsimp only
            rw [q_up_f (by omega)]; exact hf c hc
          · dsimp only
            rw [q_up_f (by decide)]; exact h55
          · dsimp only
            rw [q_up_f (by decide)]; exact h54
          · dsimp only
            rw [q_up_f (by decide)]; exact hN
          · dsimp only
            rw [q_up_f (by decide)]; exact ho i i0 i1
          · dsimp only
            rw [q_up_f (c' := 56) (by decide), q_up_f (c' := 53) (by decide)]
            refine k_O_same hO' (fun q' hq' => ?_)
            by_cases e : q' = q
            · rw [e, show (s 57 q == 0) = false from hz0]
              simp [q_up_s, cz]
            · exact zother q' hq' e
          · dsimp only
            rw [q_up_f (by decide)]; exact h7
    by_cases c : g_tg l p k = -1
    · rw [if_pos c]
      exact back g (by rw [es, if_pos c]; exact hg)
    · rw [if_neg c]
      have hq := hD _ (g_tg_pt hw c)
      have hq0 := htg k h0 hk c
      have h54q : s 54 (g_tg l p k) = m 54 (g_tg l p k) := by rw [h54]
      simp (disch := omega) only [x_bd, x_rt, x_pf, x_lt, x_fi, x_rz0, x_rz1, x_rzi, x_pz0, x_pz1, x_rd, x_wr, x_wrz, x_dv, x_md, q_w_id, x_wi, x_i0, x_i1, x_max, x_min, x_abs, ↓reduceIte, Int.reduceEq, Int.reduceLT, Int.reduceLE, Int.reduceNeg, if_true, if_false, h54q]
      exact back _ (by rw [es, if_neg c, if_neg (by omega)]; omega)
  · intro n ⟨g, s⟩ ⟨h0, hg, hf, h55, h54, hw57, hN, ho, hO', h7⟩
    dsimp only at hg hf h55 h54 hw57 hN ho hO' h7
    show q_ok (f_Web_deepen_b5 (f_Web_deepen_l5 n) t p g (l 0 5) s) _
    unfold f_Web_deepen_b5
    have hl' : g_CL s t l := g_CL_of ht hl (fun c hc => hf c (by omega))
    have hb := hdb (l 0 5) h0 (by omega)
    have hp1 := hp.1
    rw [hl'.1, if_pos (Int.le_refl _)]
    simp (disch := omega) only [x_bd, x_rt, x_pf, x_lt, x_fi, x_rz0, x_rz1, x_rzi, x_pz0, x_pz1, x_rd, x_wr, x_wrz, x_dv, x_md, q_w_id, x_wi, x_i0, x_i1, x_max, x_min, x_abs, ↓reduceIte, Int.reduceEq, Int.reduceLT, Int.reduceLE, Int.reduceNeg, if_true, if_false, q_up_s]
    rw [hg, q_up_f (c' := 53) (by decide), h7, x_max (by omega) (by omega) (by omega) (by omega)]
    refine o_some ⟨fun c hc => ?_, ?_, ?_, fun q hq => ?_, ?_, fun i i0 i1 => ?_, ?_, ?_⟩
    · rw [q_up_f (by omega), q_up_f (by omega)]; exact hf c hc
    · rw [q_up_f (by decide), q_up_f (by decide)]; exact h55
    · funext q
      rw [q_up_f (by decide)]
      by_cases e : q = p
      · rw [e, q_up_s, if_pos rfl]
      · rw [q_up_i e, if_neg e, h54]
    · rw [q_up_f (by decide), q_up_f (by decide)]; exact hw57 q hq
    · rw [q_up_i (by decide), q_up_f (by decide)]; exact hN
    · rw [q_up_f (by decide), q_up_f (by decide)]; exact ho i i0 i1
    · rw [q_up_f (c' := 56) (by decide), q_up_f (c' := 56) (by decide), q_up_i (by decide), q_up_f (c' := 53) (by decide)]
      refine k_O_same hO' (fun q hq => ?_)
      show (q_up _ 53 _ _ 57 q == 0) = (s 57 q == 0)
      rw [q_up_f (by decide), q_up_f (by decide)]
    · exact q_up_s _ _ _ _
