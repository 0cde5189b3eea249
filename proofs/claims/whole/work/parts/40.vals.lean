/-! VALUES: the row that the formulas determine -/
def f_V (l : q_Mem) (T : Int → Int) (A : Int → Prop) (sv sp : Int) (X : Int → Int) : Prop := ∀ v p, 0 ≤ v → v < l 0 2 → g_pt l p → (A p → X (100 * v + p) = f_E l T X v p + f_more sv sp v p) ∧ (¬ A p → X (100 * v + p) = 0)
theorem f_V_uniq {l : q_Mem} (hw : f_wf l) (hg : g_lw l) {T : Int → Int} {A : Int → Prop} {sv sp : Int} {X Y : Int → Int} (hT : ∀ p, g_pt l p → -1 ≤ T p) (hX : f_V l T A sv sp X) (hY : f_V l T A sv sp Y) : ∀ v p, 0 ≤ v → v < l 0 2 → g_pt l p → X (100 * v + p) = Y (100 * v + p) := by
  have main : ∀ (N : Nat) (p : Int), g_pt l p → (T p + 1).toNat = N → ∀ (v : Nat), (v : Int) < l 0 2 → X (100 * v + p) = Y (100 * v + p) := by
    intro N
    induction N using Nat.strongRecOn with
    | ind N ih =>
      intro p hp hN v
      induction v using Nat.strongRecOn with
      | ind v ihv =>
        intro hv
        have x1 := hX v p (by omega) hv hp
        have y1 := hY v p (by omega) hv hp
        by_cases c : A p
        · rw [x1.1 c, y1.1 c]
          congr 1
          refine f_E_congr hw hg ⟨by omega, hv⟩ hp.1 rfl fun u q u0 u1 q0 q1 qn hh => ?_
          have hu : ((u.toNat : Nat) : Int) = u := by omega
          rcases hh with ⟨rfl, hlt⟩ | ⟨_, hlt, o, o0, o1, ho⟩
          · have := ihv u.toNat (by omega) (by omega)
            rwa [hu] at this
          · have hq : g_pt l q := by rw [← ho]; exact g_tg_pt hg (by omega)
            have t1 := hT q hq
            have := ih (T q + 1).toNat (by omega) q hq rfl u.toNat (by omega)
            rwa [hu] at this
        · rw [x1.2 c, y1.2 c]
  intro v p v0 v1 hp
  have := main _ p hp rfl v.toNat (by omega)
  rwa [show ((v.toNat : Nat) : Int) = v by omega] at this
theorem f_V_same {l : q_Mem} {T : Int → Int} {A A' : Int → Prop} {sv sp : Int} {X : Int → Int} (h : f_V l T A sv sp X) (hA : ∀ p, g_pt l p → (A p ↔ A' p)) : f_V l T A' sv sp X := by
  intro v p v0 v1 hp
  rw [← hA p hp]
  exact h v p v0 v1 hp
theorem f_V_zero {l : q_Mem} (hg : g_lw l) {T : Int → Int} {A : Int → Prop} {sv sp : Int} {X : Int → Int} (hX : ∀ i, 0 ≤ i → i < 300 → X i = 0) (hA : ∀ p, ¬ A p) : f_V l T A sv sp X := by
  intro v p v0 v1 hp
  have := hg.2.2.1
  have := hp.1
  exact ⟨fun h => absurd h (hA p), fun _ => hX _ (by omega) (by omega)⟩
/-- a further point reckoned, which none of those before reads -/
theorem f_V_step {l : q_Mem} (hw : f_wf l) (hg : g_lw l) {T : Int → Int} {A A' : Int → Prop} {sv sp p : Int} {X Y : Int → Int} (hX : f_V l T A sv sp X) (hp : g_pt l p) (hA : ∀ q, g_pt l q → (A' q ↔ A q ∨ q = p))
    (hn : ¬ A p) (hr : ∀ q o, g_pt l q → A q → 0 ≤ o → o < l 0 5 → g_tg l q o = p → ¬ T p < T q) (hY : f_at l T X Y sv sp p) : f_V l T A' sv sp Y := by
  obtain ⟨y1, y2⟩ := hY
  have hne : ∀ v q, 0 ≤ v → 0 ≤ q → q < 100 → q ≠ p → Y (100 * v + q) = X (100 * v + q) := by
    intro v q v0 q0 q1 hqp
    have := hp.1
    exact y1 _ fun u u0 u1 => by omega
  intro v q v0 v1 hq
  by_cases c : q = p
  · subst c
    exact ⟨fun _ => y2 v v0 v1, fun h => absurd ((hA q hq).mpr (Or.inr rfl)) h⟩
  · have hx := hX v q v0 v1 hq
    rw [hne v q v0 hq.1.1 hq.1.2 c]
    refine ⟨fun h => ?_, fun h => hx.2 fun h' => h ((hA q hq).mpr (Or.inl h'))⟩
    have hAq : A q := ((hA q hq).mp h).resolve_right c
    rw [hx.1 hAq]
    congr 1
    refine f_E_congr hw hg ⟨v0, v1⟩ hq.1 rfl fun u q' u0 u1 q0 q1 qn hh => (hne u q' u0 (by omega) q1 ?_).symm
    rcases hh with ⟨rfl, _⟩ | ⟨_, hlt, o, o0, o1, ho⟩
    · exact c
    · rintro rfl
      exact hr q o hq hAq o0 o1 ho hlt
theorem f_E_T {l : q_Mem} (hw : f_wf l) (hg : g_lw l) {T T' X : Int → Int} {v p : Int} (hv : 0 ≤ v ∧ v < l 0 2) (hp : g_pt l p) (hT : ∀ q, g_pt l q → T q = T' q) : f_E l T X v p = f_E l T' X v p := by
  refine f_val_congr (hw.2.2.1 v hv.1 hv.2).2 fun k h0 h1 h3 => ?_
  unfold f_rd
  dsimp only
  by_cases c : g_mv (l 0 0) (l 0 1) p (l 5 (l 8 k)) (l 6 (l 8 k)) = -1
  · rw [if_pos c, if_pos c]
  · rw [if_neg c, if_neg c, hT p hp, hT _ (g_mv_pt hg.1.2 hg.2.1.2 c)]
theorem f_V_T {l : q_Mem} (hw : f_wf l) (hg : g_lw l) {T T' : Int → Int} {A : Int → Prop} {sv sp : Int} {X : Int → Int} (hX : f_V l T A sv sp X) (hT : ∀ q, g_pt l q → T q = T' q) : f_V l T' A sv sp X := by
  intro v p v0 v1 hp
  rw [← f_E_T hw hg ⟨v0, v1⟩ hp hT]
  exact hX v p v0 v1 hp
/-! THE CLASS's VALUES AND RUNS -/
section cvals
variable {m l : q_Mem} {t : Int}
theorem c_begin {w z : Int} (hzI : z ∈ [74, 75, 76]) : f_Reck_begin t w z m = some (0, q_up (q_up (q_fill (q_up (q_up (q_up m 77 1 t) 77 2 w) 77 3 z) z 300 0) 77 4 (-1)) 77 5 (-1)) := by
  have hz' : z = 74 ∨ z = 75 ∨ z = 76 := by simpa using hzI
  unfold f_Reck_begin f_Reck_stir
  simp only [x_pf, x_lt, q_up_s, x_one hzI, x_fi, x_rt, x_bd]
/-- the reckoner is set up for a row -/
def k_beg (m s : q_Mem) (t w z sv sp : Int) : Prop := (∀ c, c ≠ 77 → c ≠ 78 → c ≠ z → s c = m c) ∧ s 77 1 = t ∧ s 77 2 = w ∧ s 77 3 = z ∧ s 77 4 = sv ∧ s 77 5 = sp
theorem c_beg {w z : Int} (hzI : z ∈ [74, 75, 76]) : q_ok (f_Reck_begin t w z m) (fun _ s => k_beg m s t w z (-1) (-1) ∧ ∀ i, 0 ≤ i → i < 300 → s z i = 0) := by
  have hz' : z = 74 ∨ z = 75 ∨ z = 76 := by simpa using hzI
  rw [c_begin hzI]
  refine o_some ⟨⟨fun c c1 c2 c3 => ?_, ?_, ?_, ?_, ?_, ?_⟩, fun i i0 i1 => ?_⟩
  · rw [q_up_f c1, q_up_f c1, q_fill_f c3, q_up_f c1, q_up_f c1, q_up_f c1]
  · rw [q_up_i (by decide), q_up_i (by decide), q_fill_f (by omega), q_up_i (by decide), q_up_i (by decide), q_up_s]
  · rw [q_up_i (by decide), q_up_i (by decide), q_fill_f (by omega), q_up_i (by decide), q_up_s]
  · rw [q_up_i (by decide), q_up_i (by decide), q_fill_f (by omega), q_up_s]
  · rw [q_up_i (by decide), q_up_s]
  · rw [q_up_s]
  · rw [q_up_f (by omega), q_up_f (by omega), q_fill_in i0 (by omega)]
theorem c_reckonValues (ht : m 0 1 = t) (hLp : t ∈ q_Lp) (hl : g_CL m t l) (hg : g_lw l) (hw : f_wf l) (hb : k_web l m) {z sv sp : Int} (hzI : z ∈ [74, 75, 76]) (hsv : -1 ≤ sv ∧ sv < 100) (hsp : -1 ≤ sp ∧ sp < 100) : q_ok (f_PG_reckonValues z sv sp m) (fun _ m' => (∀ c, c ≠ 77 → c ≠ 78 → c ≠ z → m' c = m c) ∧ f_V l (m 54) (fun p => 0 ≤ m 54 p) sv sp (m' z)) := by
  have hz' : z = 74 ∨ z = 75 ∨ z = 76 := by simpa using hzI
  obtain ⟨_, _, b3, _, b5, b6, _⟩ := hb
  obtain ⟨o1, o2, o3, o4, _⟩ := b5
  unfold f_PG_reckonValues
  rw [ht, x_lt, x_one hLp]
  refine o_bd (c_beg hzI) fun _ s1 hs1 => ?_
  unfold f_Reck_stir
  simp only [x_pf, x_rt, x_bd]
  have hs2 : k_beg m (q_up (q_up s1 77 4 sv) 77 5 sp) t 54 z sv sp ∧ ∀ i, 0 ≤ i → i < 300 → q_up (q_up s1 77 4 sv) 77 5 sp z i = 0 := by
    obtain ⟨⟨a1, a2, a3, a4, _, _⟩, a7⟩ := hs1
    refine ⟨⟨fun c c1 c2 c3 => ?_, ?_, ?_, ?_, ?_, ?_⟩, fun i i0 i1 => ?_⟩
    · rw [q_up_f c1, q_up_f c1]; exact a1 c c1 c2 c3
    · rw [q_up_i (by decide), q_up_i (by decide)]; exact a2
    · rw [q_up_i (by decide), q_up_i (by decide)]; exact a3
    · rw [q_up_i (by decide), q_up_i (by decide)]; exact a4
    · rw [q_up_i (by decide), q_up_s]
    · rw [q_up_s]
    · rw [q_up_f (by omega), q_up_f (by omega)]; exact a7 i i0 i1
  clear hs1
  revert hs2
  generalize q_up (q_up s1 77 4 sv) 77 5 sp = s2
  intro ⟨hs2, hz0⟩
  refine o_upF (fun n k (s : q_Mem) => f_PG_reckonValues_l31 n k s) (fun k s => 0 ≤ k ∧ k_beg m s t 54 z sv sp ∧ f_V l (m 54) (fun p => ∃ i, 0 ≤ i ∧ i < k ∧ m 56 i = p) sv sp (s z)) _ (k := 0) (e := m 53 6) (s := s2) (by omega) (by omega) ?_ ?_ ?_
  · exact ⟨Int.le_refl _, hs2, f_V_zero hg hz0 fun p ⟨i, _⟩ => by omega⟩
  · intro n k s hk ⟨h0, hs, hV⟩ hn
    obtain ⟨a1, a2, a3, a4, a5, a6⟩ := hs
    have e53 : s 53 = m 53 := a1 53 (by decide) (by decide) (by omega)
    have e54 : s 54 = m 54 := a1 54 (by decide) (by decide) (by omega)
    have e56 : s 56 = m 56 := a1 56 (by decide) (by decide) (by omega)
    have hp := o2 k h0 hk
    show q_ok (f_PG_reckonValues_b31 (f_PG_reckonValues_l31 n) k s) _
    unfold f_PG_reckonValues_b31
    rw [e53, q_w_id (by omega) (by omega), q_w_id (by omega) (by omega), if_neg (by omega), x_rd (n := 100) h0 (by omega) (by decide), e56]
    refine o_bd (c_reckon a2 hLp (c_keep hl hLp fun c hc => a1 c (by omega) (by omega) (by omega)) hg hw a3 (by simp) a4 hzI hp (by rw [e54]; intro q hq; have := b3 q hq; omega) (by omega) (by omega)) fun _ s' hs' => ?_
    obtain ⟨f1, f2⟩ := hs'
    rw [e54, a5, a6] at f2
    have e77 : s' 77 = s 77 := f1 77 (by decide) (by omega)
    refine hn s' ⟨by omega, ⟨fun c c1 c2 c3 => (f1 c c2 c3).trans (a1 c c1 c2 c3), by rw [e77]; exact a2, by rw [e77]; exact a3, by rw [e77]; exact a4, by rw [e77]; exact a5, by rw [e77]; exact a6⟩, ?_⟩
    refine f_V_step hw hg hV hp (fun q hq => ?_) ?_ ?_ f2
    · constructor
      · rintro ⟨i, i0, i1, rfl⟩
        by_cases c : i = k
        · rw [c]; exact Or.inr rfl
        · exact Or.inl ⟨i, i0, by omega, rfl⟩
      · rintro (⟨i, i0, i1, rfl⟩ | rfl)
        · exact ⟨i, i0, by omega, rfl⟩
        · exact ⟨k, h0, by omega, rfl⟩
    · rintro ⟨i, i0, i1, e⟩
      exact o3 i k i0 i1 hk e
    · rintro q o hq ⟨i, i0, i1, rfl⟩ oo0 oo1 hto
      have := b6 i k o i0 (by omega) oo0 oo1 (by rw [hto]; have := hp.1; omega) h0 hk hto.symm
      omega
  · intro n s ⟨h0, hs, hV⟩
    have e53 : s 53 = m 53 := hs.1 53 (by decide) (by decide) (by omega)
    show q_ok (f_PG_reckonValues_b31 (f_PG_reckonValues_l31 n) (m 53 6) s) _
    unfold f_PG_reckonValues_b31
    rw [e53, if_pos (Int.le_refl _)]
    refine o_rt ⟨hs.1, f_V_same hV fun p hp => ?_⟩
    rw [← o4 p hp]
    exact decide_eq_true_iff
/-- no broken cell's -/
def f_un (B c : Int) : Prop := q_w (q_lcmp (q_land (q_lushr B c) 1) 0) = 0
theorem c_reckonRun (ht : m 0 1 = t) (hLp : t ∈ q_Lp) (hl : g_CL m t l) (hg : g_lw l) (hw : f_wf l) {P Q a b : Int} (hb : k_plac l m P Q a b) (hT : ∀ p, g_pt l p → -1 ≤ g_tk l P Q p ∧ g_tk l P Q p < 10000) {z B : Int} (hzI : z ∈ [74, 75, 76]) : q_ok (f_PG_reckonRun z B m) (fun _ m' => (∀ c, c ≠ 77 → c ≠ 78 → c ≠ z → m' c = m c) ∧ f_V l (g_tk l P Q) (fun p => g_ck l P Q a b p = false ∧ f_un B (g_ce l a b p)) (-1) (-1) (m' z)) := by
  have hz' : z = 74 ∨ z = 75 ∨ z = 76 := by simpa using hzI
  obtain ⟨b1, b2, b3, ⟨o1, o2, o3⟩, _⟩ := hb
  have hRC := g_RC hg
  unfold f_PG_reckonRun
  rw [ht, x_lt, x_one hLp]
  refine o_bd (c_beg hzI) fun _ s2 ⟨hs2, hz0⟩ => ?_
  have hT' : ∀ p, g_pt l p → m 61 p = g_tk l P Q p := b1
  refine o_upF (fun n k (s : q_Mem) => f_PG_reckonRun_l22 n B k s) (fun k s => 0 ≤ k ∧ k_beg m s t 61 z (-1) (-1) ∧ f_V l (m 61) (fun p => (∃ i, 0 ≤ i ∧ i < k ∧ m 64 i = p) ∧ g_ck l P Q a b p = false ∧ f_un B (g_ce l a b p)) (-1) (-1) (s z)) _ (k := 0) (e := l 0 0 * l 0 1) (s := s2) (by omega) (by omega) ?_ ?_ ?_
  · exact ⟨Int.le_refl _, hs2, f_V_zero hg hz0 fun p ⟨⟨i, _⟩, _⟩ => by omega⟩
  · intro n k s hk ⟨h0, hs, hV⟩ hn
    obtain ⟨a1, a2, a3, a4, a5, a6⟩ := hs
    have e0 : s 0 = m 0 := a1 0 (by decide) (by decide) (by omega)
    have e61 : s 61 = m 61 := a1 61 (by decide) (by decide) (by omega)
    have e62 : s 62 = m 62 := a1 62 (by decide) (by decide) (by omega)
    have e63 : s 63 = m 63 := a1 63 (by decide) (by decide) (by omega)
    have e64 : s 64 = m 64 := a1 64 (by decide) (by decide) (by omega)
    have hp := o1 k h0 hk
    have hp' := hp.1
    have hlk : g_CL s t l := c_keep hl hLp fun c hc => a1 c (by omega) (by omega) (by omega)
    show q_ok (f_PG_reckonRun_b22 (f_PG_reckonRun_l22 n) B k s) _
    unfold f_PG_reckonRun_b22
    rw [e0, ht, x_lt, x_one hLp, c_points hlk, x_bd, q_w_id (by omega) (by omega), q_w_id (x := k) (by omega) (by omega), if_neg (by omega), x_rd (n := 100) h0 (by omega) (by decide), e64, x_rd (n := 100) hp'.1 (by omega) (by decide), e62, b2 _ hp]
    have skip : ¬ (g_ck l P Q a b (m 64 k) = false ∧ f_un B (g_ce l a b (m 64 k))) → q_ok (f_PG_reckonRun_l22 n B (k + 1) s) (fun _ m' => (∀ c, c ≠ 77 → c ≠ 78 → c ≠ z → m' c = m c) ∧ f_V l (g_tk l P Q) (fun p => g_ck l P Q a b p = false ∧ f_un B (g_ce l a b p)) (-1) (-1) (m' z)) := by
      intro hno
      refine hn s ⟨by omega, ⟨a1, a2, a3, a4, a5, a6⟩, f_V_same hV fun p hpp => ⟨?_, ?_⟩⟩
      · rintro ⟨⟨i, i0, i1, rfl⟩, h⟩
        exact ⟨⟨i, i0, by omega, rfl⟩, h⟩
      · rintro ⟨⟨i, i0, i1, rfl⟩, h⟩
        by_cases c : i = k
        · rw [c] at h
          exact absurd h hno
        · exact ⟨⟨i, i0, by omega, rfl⟩, h⟩
    unfold f_PG_reckonRun_b70 f_PG_reckonRun_b99
    rw [x_rd (n := 100) hp'.1 (by omega) (by decide), e63, b3 _ hp, x_wi, x_w0, x_w1, if_pos (rfl : (0 : Int) = 0), if_neg (show ¬ (1 : Int) = 0 by decide)]
    by_cases cu : f_un B (g_ce l a b (m 64 k))
    · have cu' := cu
      unfold f_un at cu'
      rw [if_pos cu']
      by_cases cc : g_ck l P Q a b (m 64 k) = true
      · rw [if_pos cc, if_neg (by decide)]
        exact skip fun h => by rw [h.1] at cc; exact absurd cc (by decide)
      · rw [if_neg cc, if_pos rfl]
        have ccf : g_ck l P Q a b (m 64 k) = false := by simpa using cc
        refine o_bd (c_reckon a2 hLp hlk hg hw a3 (by simp) a4 hzI hp (by rw [e61]; intro q hq; rw [hT' q hq]; exact hT q hq) (by omega) (by omega)) fun _ s' hs' => ?_
        obtain ⟨f1, f2⟩ := hs'
        rw [e61, a5, a6] at f2
        have e77 : s' 77 = s 77 := f1 77 (by decide) (by omega)
        refine hn s' ⟨by omega, ⟨fun c c1 c2 c3 => (f1 c c2 c3).trans (a1 c c1 c2 c3), by rw [e77]; exact a2, by rw [e77]; exact a3, by rw [e77]; exact a4, by rw [e77]; exact a5, by rw [e77]; exact a6⟩, ?_⟩
        refine f_V_step hw hg hV hp (fun q hq => ?_) ?_ ?_ f2
        · constructor
          · rintro ⟨⟨i, i0, i1, rfl⟩, h⟩
            by_cases c : i = k
            · rw [c]; exact Or.inr rfl
            · exact Or.inl ⟨⟨i, i0, by omega, rfl⟩, h⟩
          · rintro (⟨⟨i, i0, i1, rfl⟩, h⟩ | rfl)
            · exact ⟨⟨i, i0, by omega, rfl⟩, h⟩
            · exact ⟨⟨k, h0, by omega, rfl⟩, ccf, cu⟩
        · rintro ⟨⟨i, i0, i1, e⟩, _⟩
          have := o3 i k i0 i1 hk
          rw [e] at this
          omega
        · rintro q o hq ⟨⟨i, i0, i1, rfl⟩, _⟩ oo0 oo1 hto
          have := o3 i k i0 i1 hk
          rw [hT' _ hp, hT' _ hq]
          omega
    · have cu' := cu
      unfold f_un at cu'
      rw [if_neg cu', x_rd (n := 100) hp'.1 (by omega) (by decide), ite_self]
      exact skip fun h => cu h.2
  · intro n s ⟨h0, hs, hV⟩
    have a1 := hs.1
    have e0 : s 0 = m 0 := a1 0 (by decide) (by decide) (by omega)
    have hlk : g_CL s t l := c_keep hl hLp fun c hc => a1 c (by omega) (by omega) (by omega)
    show q_ok (f_PG_reckonRun_b22 (f_PG_reckonRun_l22 n) B (l 0 0 * l 0 1) s) _
    unfold f_PG_reckonRun_b22
    rw [e0, ht, x_lt, x_one hLp, c_points hlk, x_bd, if_pos (Int.le_refl _)]
    refine o_rt ⟨a1, f_V_T hw hg (f_V_same hV fun p hp => ⟨fun h => h.2, fun h => ⟨o2 p hp, h⟩⟩) hT'⟩
end cvals
