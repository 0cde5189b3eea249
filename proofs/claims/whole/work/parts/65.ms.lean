/-! SEARCHES, the model's side -/
theorem w_M_fr {I : Int → Prop} {m m' : q_Mem} {s : Int → Int} (h : w_M I m s) (e : ∀ j, 55 < j → m' 81 j = m 81 j) : w_M I m' s := by
  obtain ⟨h1, h2, h3⟩ := h
  refine ⟨by rw [e 57 (by decide)]; exact h1, fun hz => by rw [e 58 (by decide)]; exact h2 hz, fun hz => ⟨by rw [e 58 (by decide)]; exact (h3 hz).1, fun i i2 i5 hi => ?_⟩⟩
  rw [e (57 + i) (by omega)]
  exact (h3 hz).2 i i2 i5 hi
theorem k_fm_plan {m m' : q_Mem} (h : ∀ c, c ≠ 81 → c < 116 ∨ 119 < c → m' c = m c) (h' : ∀ j, j < 53 ∨ 55 < j → m' 81 j = m 81 j) : k_fm m m' := ⟨fun j hj => h' j (by omega), fun c c0 hc => h c c0 (by omega)⟩
theorem k_fm_weigh {m m' : q_Mem} (h : ∀ c, c ≠ 81 → m' c = m c) (h' : ∀ j, j < 57 ∨ 62 < j → m' 81 j = m 81 j) : k_fm m m' := ⟨fun j hj => h' j (by omega), fun c c0 _ => h c c0⟩
section msearch
variable {l m : q_Mem} {o : Int → Int}
theorem m_begin : q_ok (f_Mod_beginBest m) (fun _ m' => k_fm m m' ∧ ∀ I, w_M I m' (fun _ => 0)) := by
  unfold f_Mod_beginBest
  rw [x_pf, x_pf, x_pf, x_pf, x_pf, x_pf]
  refine o_rt ⟨⟨fun j hj => ?_, fun c hc _ => ?_⟩, fun I => ⟨?_, fun _ => ?_, fun h => absurd h (by decide)⟩⟩
  · rw [q_up_i (by omega), q_up_i (by omega), q_up_i (by omega), q_up_i (by omega), q_up_i (by omega), q_up_i (by omega)]
  · rw [q_up_f hc, q_up_f hc, q_up_f hc, q_up_f hc, q_up_f hc, q_up_f hc]
  · simp [q_up]
  · simp [q_up]
theorem m_best (hk : k_ok l o) (hm : k_M l o m) {r y : Int} (hr : 1 ≤ r ∧ r ≤ 9) (hy : 0 ≤ y ∧ y ≤ 3) {s : Int → Int} (hs : w_M (fun i => i = 2 ∨ i = 3) m s) (h0 : w_b s 0) : q_ok (f_Mod_best_l30 q_F r y (-r) m) (fun v m' => k_fm m m' ∧ v = if y = 0 then w_Ss l (o 2) (o 3) r s 0 else if w_Ss l (o 2) (o 3) r s 0 = 0 then -1000 else w_Ss l (o 2) (o 3) r s y) := by
  have hw := hk.1
  have hli := hk.2.2.1
  unfold w_Ss
  refine o_upF (fun n k (s' : q_Mem) => f_Mod_best_l30 n r y k s') (fun k s' => -r ≤ k ∧ k_fm m s' ∧ w_M (fun i => i = 2 ∨ i = 3) s' (w_up (fun p s => w_S1 l (o 2) (o 3) r p s) (-r) s (k - -r).toNat)) _ (k := -r) (e := r + 1) (s := m) (by omega) (by omega) ⟨Int.le_refl _, k_fm_id _, by rw [show (-r - -r).toNat = 0 by omega]; exact hs⟩ ?_ ?_
  · intro n k m1 hkr ⟨k0, f1, c1⟩ hn
    have hb1 := w_b_Ss hw (a := o 2) (b := o 3) hr h0 (k - -r).toNat (by omega)
    show q_ok (f_Mod_best_b30 (f_Mod_best_l30 n) r y k m1) _
    unfold f_Mod_best_b30
    rw [q_w_id (x := r) (by omega) (by omega), q_w_id (x := k) (by omega) (by omega), if_neg (show ¬ r < k by omega)]
    refine o_upF (fun n' j (s' : q_Mem) => f_Mod_best_l39 (f_Mod_best_l30 n) n' r y k j s') (fun j s' => -r ≤ j ∧ k_fm m s' ∧ w_M (fun i => i = 2 ∨ i = 3) s' (w_up (fun q s => w_S l (o 2) (o 3) k q s) (-r) (w_up (fun p s => w_S1 l (o 2) (o 3) r p s) (-r) s (k - -r).toNat) (j - -r).toNat)) _ (k := -r) (e := r + 1) (s := m1) (by omega) (by omega) ⟨Int.le_refl _, f1, by rw [show (-r - -r).toNat = 0 by omega]; exact c1⟩ ?_ ?_
    · intro n' j m2 hj ⟨j0, f2, c2⟩ hn'
      have hb2 := w_b_S1 hw (a := o 2) (b := o 3) (p := k) hr (by omega) hb1 (j - -r).toNat (by omega)
      have hm2 := k_M_fr hm f2
      have es := w_up_s (fun q s => w_S l (o 2) (o 3) k q s) (w_up (fun p s => w_S1 l (o 2) (o 3) r p s) (-r) s (k - -r).toNat) j0
      have hcl := w_cl_rg hw k j (o 2) (o 3)
      show q_ok (f_Mod_best_b39 (f_Mod_best_l30 n) (f_Mod_best_l39 (f_Mod_best_l30 n) n') r y k j m2) _
      unfold f_Mod_best_b39 f_Mod_best_b97
      rw [q_w_id (x := r) (by omega) (by omega), q_w_id (x := j) (by omega) (by omega), if_neg (show ¬ r < j by omega), m_isLawful hm2.1 hw (by omega) (by omega), x_bd]
      rcases g_law_01 l k j with cl | cl
      · rw [cl, x_w1, if_neg (show ¬ ((1 : Int) = 0) by decide), x_rd (n := 69) (by decide) (by decide) (by decide), x_rd (n := 69) (by decide) (by decide) (by decide), hm2.2.2.1 2 (by decide) (by decide), hm2.2.2.1 3 (by decide) (by decide)]
        refine o_bd (m_layPlan hm2.1 hw hli (by omega) (by omega)) fun _ m3 ⟨f3, f3', hpl⟩ => ?_
        have f3m : k_fm m m3 := k_fm_tr f2 (k_fm_plan f3 f3')
        have c3 := w_M_fr c2 (m' := m3) fun j hj => f3' j (by omega)
        have e55 : m3 81 55 = w_cl l k j (o 2) (o 3) := hpl.2.2.2.2.2
        rw [e55, q_w_id (x := w_cl l k j (o 2) (o 3)) (by omega) (by omega)]
        by_cases cc : w_cl l k j (o 2) (o 3) = 0
        · have hlat := g_lat_rg hw (P := k) (Q := j) (by omega) (by omega)
          rw [if_pos cc, hpl.2.1]
          refine o_bd (w_M_step (a := o 2) (b := o 3) c3 hb2 (by omega) (by omega) (fun _ => rfl) (fun _ => rfl) (fun h => by omega) (fun h => by omega)) fun _ m4 ⟨f4, f4', c4⟩ => ?_
          refine hn' m4 ⟨by omega, k_fm_tr f3m (k_fm_weigh f4 f4'), ?_⟩
          rw [es]
          show w_M _ m4 (w_S l (o 2) (o 3) k j _)
          unfold w_S
          rw [if_pos ⟨cl, cc⟩]
          exact c4
        · rw [if_neg cc]
          refine hn' m3 ⟨by omega, f3m, ?_⟩
          rw [es]
          show w_M _ m3 (w_S l (o 2) (o 3) k j _)
          unfold w_S
          rw [if_neg fun h => cc h.2]
          exact c3
      · rw [cl, x_w0, if_pos rfl]
        refine hn' m2 ⟨by omega, f2, ?_⟩
        rw [es]
        show w_M _ m2 (w_S l (o 2) (o 3) k j _)
        unfold w_S
        rw [if_neg fun h => by have := h.1; omega]
        exact c2
    · intro n' m2 ⟨_, f2, c2⟩
      show q_ok (f_Mod_best_b39 (f_Mod_best_l30 n) (f_Mod_best_l39 (f_Mod_best_l30 n) n') r y k (r + 1) m2) _
      unfold f_Mod_best_b39
      rw [q_w_id (x := r) (by omega) (by omega), q_w_id (x := r + 1) (by omega) (by omega), if_pos (by omega)]
      refine hn m2 ⟨by omega, f2, ?_⟩
      rw [w_up_s _ _ k0]
      exact c2
  · intro n m1 ⟨_, f1, c1⟩
    have hb1 := w_b_Ss hw (a := o 2) (b := o 3) hr h0 (r + 1 - -r).toNat (by omega)
    show q_ok (f_Mod_best_b30 (f_Mod_best_l30 n) r y (r + 1) m1) _
    unfold f_Mod_best_b30
    revert c1 hb1
    generalize w_up (fun p s => w_S1 l (o 2) (o 3) r p s) (-r) s (r + 1 - -r).toNat = S
    intro c1 hb1
    obtain ⟨g1, g2, g3⟩ := c1
    obtain ⟨b1, b2, b3⟩ := hb1
    rw [q_w_id (x := r) (by omega) (by omega), q_w_id (x := r + 1) (by omega) (by omega), if_pos (show r < r + 1 by omega), g1, q_w_id (x := S 0) (by omega) (by omega), q_w_id (x := y) (by omega) (by omega)]
    by_cases y0 : y = 0
    · rw [if_pos y0]
      exact o_rt ⟨f1, by rw [if_pos y0]⟩
    rw [if_neg y0]
    by_cases cs : S 0 = 0
    · rw [if_pos cs]
      exact o_rt ⟨f1, by rw [if_neg y0, if_pos cs]⟩
    rw [if_neg cs]
    have g4 := g3 (by omega)
    by_cases y1 : y = 1
    · rw [if_pos y1]
      exact o_rt ⟨f1, by rw [if_neg y0, if_neg cs, y1]; exact g4.1⟩
    rw [if_neg y1]
    by_cases y2 : y = 2
    · rw [if_pos y2]
      exact o_rt ⟨f1, by rw [if_neg y0, if_neg cs, y2]; exact g4.2 2 (by decide) (by decide) (Or.inl rfl)⟩
    rw [if_neg y2]
    exact o_rt ⟨f1, by rw [if_neg y0, if_neg cs, show y = 3 by omega]; exact g4.2 3 (by decide) (by decide) (Or.inr rfl)⟩
theorem m_line (hk : k_ok l o) (hm : k_M l o m) {y : Int} (hy : 0 ≤ y ∧ y ≤ 3) {s : Int → Int} (hs : w_M (fun i => i = 4 ∨ i = 5) m s) (h0 : w_b s 0) : q_ok (f_Mod_line_l20 q_F y (-3) m) (fun v m' => k_fm m m' ∧ v = if y = 0 then w_Ls l (o 0) (o 1) 1 s 0 else if w_Ls l (o 0) (o 1) 1 s 0 = 0 then -1000 else if y = 1 then w_Ls l (o 0) (o 1) 1 s 1 else w_Ls l (o 0) (o 1) 1 s (y + 2)) := by
  have hw := hk.1
  have hP := hk.2.2.2.1
  have hQ := hk.2.2.2.2.1
  unfold w_Ls
  refine o_upF (fun n k (s' : q_Mem) => f_Mod_line_l20 n y k s') (fun k s' => -3 ≤ k ∧ k_fm m s' ∧ w_M (fun i => i = 4 ∨ i = 5) s' (w_up (fun a s => w_L1 l (o 0) (o 1) 1 a s) (-3) s (k - -3).toNat)) _ (k := -3) (e := 4) (s := m) (by omega) (by omega) ⟨Int.le_refl _, k_fm_id _, hs⟩ ?_ ?_
  · intro n k m1 hkr ⟨k0, f1, c1⟩ hn
    have hb1 := w_b_Ls hw (P := o 0) (Q := o 1) (t := 1) (by omega) h0 (k - -3).toNat (by omega)
    show q_ok (f_Mod_line_b20 (f_Mod_line_l20 n) y k m1) _
    unfold f_Mod_line_b20
    rw [q_w_id (x := k) (by omega) (by omega), if_neg (show ¬ 3 < k by omega)]
    refine o_upF (fun n' j (s' : q_Mem) => f_Mod_line_l28 (f_Mod_line_l20 n) n' y k j s') (fun j s' => -3 ≤ j ∧ k_fm m s' ∧ w_M (fun i => i = 4 ∨ i = 5) s' (w_up (fun b s => w_L l (o 0) (o 1) 1 k b s) (-3) (w_up (fun a s => w_L1 l (o 0) (o 1) 1 a s) (-3) s (k - -3).toNat) (j - -3).toNat)) _ (k := -3) (e := 4) (s := m1) (by omega) (by omega) ⟨Int.le_refl _, f1, c1⟩ ?_ ?_
    · intro n' j m2 hj ⟨j0, f2, c2⟩ hn'
      have hb2 := w_b_L1 hw (P := o 0) (Q := o 1) (a := k) (t := 1) (by omega) hb1 (j - -3).toNat (by omega)
      have hm2 := k_M_fr hm f2
      have es := w_up_s (fun b s => w_L l (o 0) (o 1) 1 k b s) (w_up (fun a s => w_L1 l (o 0) (o 1) 1 a s) (-3) s (k - -3).toNat) j0
      have hcl := w_cl_rg hw (o 0) (o 1) k j
      show q_ok (f_Mod_line_b28 (f_Mod_line_l20 n) (f_Mod_line_l28 (f_Mod_line_l20 n) n') y k j m2) _
      unfold f_Mod_line_b28 f_Mod_line_b81
      rw [q_w_id (x := j) (by omega) (by omega), if_neg (show ¬ 3 < j by omega), m_isLine (by omega) (by omega), x_bd]
      by_cases cl : g_line k j
      · rw [if_pos cl, x_w1, if_neg (show ¬ ((1 : Int) = 0) by decide), x_rd (n := 69) (by decide) (by decide) (by decide), x_rd (n := 69) (by decide) (by decide) (by decide), hm2.2.2.1 0 (by decide) (by decide), hm2.2.2.1 1 (by decide) (by decide)]
        refine o_bd (m_layPlan hm2.1 hw cl hP hQ) fun _ m3 ⟨f3, f3', hpl⟩ => ?_
        have f3m : k_fm m m3 := k_fm_tr f2 (k_fm_plan f3 f3')
        have c3 := w_M_fr c2 (m' := m3) fun j hj => f3' j (by omega)
        have e55 : m3 81 55 = w_cl l (o 0) (o 1) k j := hpl.2.2.2.2.2
        have e54 : m3 81 54 = 1 * (l 0 0 * l 0 1 - g_sh (l 0 0) (l 0 1) k j) := by rw [hpl.2.2.2.1, Int.one_mul]
        rw [e55, q_w_id (x := w_cl l (o 0) (o 1) k j) (by omega) (by omega)]
        by_cases cc : w_cl l (o 0) (o 1) k j = 0
        · rw [if_pos cc, e54]
          refine o_bd (w_M_step (p := o 0) (q := o 1) c3 hb2 (by omega) (w_cost hw (by omega)) (fun h => by omega) (fun h => by omega) (fun _ => rfl) (fun _ => rfl)) fun _ m4 ⟨f4, f4', c4⟩ => ?_
          refine hn' m4 ⟨by omega, k_fm_tr f3m (k_fm_weigh f4 f4'), ?_⟩
          rw [es]
          show w_M _ m4 (w_L l (o 0) (o 1) 1 k j _)
          unfold w_L
          rw [if_pos ⟨cl, cc⟩]
          exact c4
        · rw [if_neg cc]
          refine hn' m3 ⟨by omega, f3m, ?_⟩
          rw [es]
          show w_M _ m3 (w_L l (o 0) (o 1) 1 k j _)
          unfold w_L
          rw [if_neg fun h => cc h.2]
          exact c3
      · rw [if_neg cl, x_w0, if_pos rfl]
        refine hn' m2 ⟨by omega, f2, ?_⟩
        rw [es]
        show w_M _ m2 (w_L l (o 0) (o 1) 1 k j _)
        unfold w_L
        rw [if_neg fun h => cl h.1]
        exact c2
    · intro n' m2 ⟨_, f2, c2⟩
      show q_ok (f_Mod_line_b28 (f_Mod_line_l20 n) (f_Mod_line_l28 (f_Mod_line_l20 n) n') y k 4 m2) _
      unfold f_Mod_line_b28
      rw [if_pos (by decide)]
      refine hn m2 ⟨by omega, f2, ?_⟩
      rw [w_up_s _ _ k0]
      exact c2
  · intro n m1 ⟨_, f1, c1⟩
    have hb1 := w_b_Ls hw (P := o 0) (Q := o 1) (t := 1) (by omega) h0 (4 - -3).toNat (by decide)
    show q_ok (f_Mod_line_b20 (f_Mod_line_l20 n) y 4 m1) _
    unfold f_Mod_line_b20
    revert c1 hb1
    generalize w_up (fun a s => w_L1 l (o 0) (o 1) 1 a s) (-3) s (4 - -3).toNat = S
    intro c1 hb1
    obtain ⟨g1, g2, g3⟩ := c1
    obtain ⟨b1, b2, b3⟩ := hb1
    rw [if_pos (show 3 < q_w 4 by decide), g1, q_w_id (x := S 0) (by omega) (by omega), q_w_id (x := y) (by omega) (by omega)]
    by_cases y0 : y = 0
    · rw [if_pos y0]
      exact o_rt ⟨f1, by rw [if_pos y0]⟩
    rw [if_neg y0]
    by_cases cs : S 0 = 0
    · rw [if_pos cs]
      exact o_rt ⟨f1, by rw [if_neg y0, if_pos cs]⟩
    rw [if_neg cs]
    have g4 := g3 (by omega)
    by_cases y1 : y = 1
    · rw [if_pos y1]
      exact o_rt ⟨f1, by rw [if_neg y0, if_neg cs, if_pos y1]; exact g4.1⟩
    rw [if_neg y1]
    by_cases y2 : y = 2
    · rw [if_pos y2]
      exact o_rt ⟨f1, by rw [if_neg y0, if_neg cs, if_neg y1, y2]; exact g4.2 4 (by decide) (by decide) (Or.inl rfl)⟩
    rw [if_neg y2]
    exact o_rt ⟨f1, by rw [if_neg y0, if_neg cs, if_neg y1, show y = 3 by omega]; exact g4.2 5 (by decide) (by decide) (Or.inr rfl)⟩
theorem m_tryLines (hw : g_lw l) (hm : g_ML m l) {P Q N : Int} (hP : -9 ≤ P ∧ P ≤ 9) (hQ : -9 ≤ Q ∧ Q ≤ 9) {s : Int → Int} (hs : w_M (fun _ => True) m s) (h0 : w_b s N) (hN : N < 900000) : q_ok (f_Mod_tryLines P Q m) (fun _ m' => k_fm m m' ∧ w_M (fun _ => True) m' (w_Ls l P Q (g_lat (l 0 0) (l 0 1) P Q) s)) := by
  have hlat := g_lat_rg hw hP hQ
  unfold f_Mod_tryLines w_Ls
  refine o_upF (fun n k (s' : q_Mem) => f_Mod_tryLines_l3 n P Q k s') (fun k s' => -3 ≤ k ∧ k_fm m s' ∧ w_M (fun _ => True) s' (w_up (fun a s => w_L1 l P Q (g_lat (l 0 0) (l 0 1) P Q) a s) (-3) s (k - -3).toNat)) _ (k := -3) (e := 4) (s := m) (by omega) (by omega) ⟨Int.le_refl _, k_fm_id _, hs⟩ ?_ ?_
  · intro n k m1 hkr ⟨k0, f1, c1⟩ hn
    have hb1 := w_b_Ls hw (P := P) (Q := Q) (t := g_lat (l 0 0) (l 0 1) P Q) (by omega) h0 (k - -3).toNat (by omega)
    show q_ok (f_Mod_tryLines_b3 (f_Mod_tryLines_l3 n) P Q k m1) _
    unfold f_Mod_tryLines_b3
    rw [q_w_id (x := k) (by omega) (by omega), if_neg (show ¬ 3 < k by omega)]
    refine o_upF (fun n' j (s' : q_Mem) => f_Mod_tryLines_l12 (f_Mod_tryLines_l3 n) n' P Q k j s') (fun j s' => -3 ≤ j ∧ k_fm m s' ∧ w_M (fun _ => True) s' (w_up (fun b s => w_L l P Q (g_lat (l 0 0) (l 0 1) P Q) k b s) (-3) (w_up (fun a s => w_L1 l P Q (g_lat (l 0 0) (l 0 1) P Q) a s) (-3) s (k - -3).toNat) (j - -3).toNat)) _ (k := -3) (e := 4) (s := m1) (by omega) (by omega) ⟨Int.le_refl _, f1, c1⟩ ?_ ?_
    · intro n' j m2 hj ⟨j0, f2, c2⟩ hn'
      have hb2 := w_b_L1 hw (P := P) (Q := Q) (a := k) (t := g_lat (l 0 0) (l 0 1) P Q) (by omega) hb1 (j - -3).toNat (by omega)
      have hm2 : g_ML m2 l := g_ML_of hm (f2.1 19 (by omega)) fun c _ _ => f2.2 c (by omega) (by omega)
      have es := w_up_s (fun b s => w_L l P Q (g_lat (l 0 0) (l 0 1) P Q) k b s) (w_up (fun a s => w_L1 l P Q (g_lat (l 0 0) (l 0 1) P Q) a s) (-3) s (k - -3).toNat) j0
      have hcl := w_cl_rg hw P Q k j
      show q_ok (f_Mod_tryLines_b12 (f_Mod_tryLines_l3 n) (f_Mod_tryLines_l12 (f_Mod_tryLines_l3 n) n') P Q k j m2) _
      unfold f_Mod_tryLines_b12 f_Mod_tryLines_b64
      rw [q_w_id (x := j) (by omega) (by omega), if_neg (show ¬ 3 < j by omega), m_isLine (by omega) (by omega), x_bd]
      by_cases cl : g_line k j
      · rw [if_pos cl, x_w1, if_neg (show ¬ ((1 : Int) = 0) by decide)]
        refine o_bd (m_layPlan hm2 hw cl hP hQ) fun _ m3 ⟨f3, f3', hpl⟩ => ?_
        have f3m : k_fm m m3 := k_fm_tr f2 (k_fm_plan f3 f3')
        have c3 := w_M_fr c2 (m' := m3) fun j hj => f3' j (by omega)
        have e55 : m3 81 55 = w_cl l P Q k j := hpl.2.2.2.2.2
        rw [e55, q_w_id (x := w_cl l P Q k j) (by omega) (by omega)]
        by_cases cc : w_cl l P Q k j = 0
        · rw [if_pos cc, hpl.2.1, hpl.2.2.2.1]
          refine o_bd (w_M_step c3 hb2 (by omega) (w_cost hw (by omega)) (fun _ => rfl) (fun _ => rfl) (fun _ => rfl) (fun _ => rfl)) fun _ m4 ⟨f4, f4', c4⟩ => ?_
          refine hn' m4 ⟨by omega, k_fm_tr f3m (k_fm_weigh f4 f4'), ?_⟩
          rw [es]
          show w_M _ m4 (w_L l P Q (g_lat (l 0 0) (l 0 1) P Q) k j _)
          unfold w_L
          rw [if_pos ⟨cl, cc⟩]
          exact c4
        · rw [if_neg cc]
          refine hn' m3 ⟨by omega, f3m, ?_⟩
          rw [es]
          show w_M _ m3 (w_L l P Q (g_lat (l 0 0) (l 0 1) P Q) k j _)
          unfold w_L
          rw [if_neg fun h => cc h.2]
          exact c3
      · rw [if_neg cl, x_w0, if_pos rfl]
        refine hn' m2 ⟨by omega, f2, ?_⟩
        rw [es]
        show w_M _ m2 (w_L l P Q (g_lat (l 0 0) (l 0 1) P Q) k j _)
        unfold w_L
        rw [if_neg fun h => cl h.1]
        exact c2
    · intro n' m2 ⟨_, f2, c2⟩
      show q_ok (f_Mod_tryLines_b12 (f_Mod_tryLines_l3 n) (f_Mod_tryLines_l12 (f_Mod_tryLines_l3 n) n') P Q k 4 m2) _
      unfold f_Mod_tryLines_b12
      rw [if_pos (by decide)]
      refine hn m2 ⟨by omega, f2, ?_⟩
      rw [w_up_s _ _ k0]
      exact c2
  · intro n m1 ⟨_, f1, c1⟩
    show q_ok (f_Mod_tryLines_b3 (f_Mod_tryLines_l3 n) P Q 4 m1) _
    unfold f_Mod_tryLines_b3
    rw [if_pos (by decide)]
    exact o_rt ⟨f1, c1⟩
theorem m_pair (hk : k_ok l o) (hm : k_M l o m) {r y : Int} (hr : 1 ≤ r ∧ r ≤ 9) (hy : 0 ≤ y ∧ y ≤ 4) {s : Int → Int} (hs : w_M (fun _ => True) m s) (h0 : w_b s 0) : q_ok (f_Mod_pair_l29 q_F r y (-r) m) (fun v m' => k_fm m m' ∧ v = if w_Ps l r s 0 = 0 then -1000 else w_Ps l r s (y + 1)) := by
  have hw := hk.1
  unfold w_Ps
  refine o_upF (fun n k (s' : q_Mem) => f_Mod_pair_l29 n r y k s') (fun k s' => -r ≤ k ∧ k_fm m s' ∧ w_M (fun _ => True) s' (w_up (fun p s => w_P1 l r p s) (-r) s (k - -r).toNat)) _ (k := -r) (e := r + 1) (s := m) (by omega) (by omega) ⟨Int.le_refl _, k_fm_id _, by rw [show (-r - -r).toNat = 0 by omega]; exact hs⟩ ?_ ?_
  · intro n k m1 hkr ⟨k0, f1, c1⟩ hn
    have hb1 := w_b_Ps hw hr h0 (k - -r).toNat (by omega)
    show q_ok (f_Mod_pair_b29 (f_Mod_pair_l29 n) r y k m1) _
    unfold f_Mod_pair_b29
    rw [q_w_id (x := r) (by omega) (by omega), q_w_id (x := k) (by omega) (by omega), if_neg (show ¬ r < k by omega)]
    refine o_upF (fun n' j (s' : q_Mem) => f_Mod_pair_l38 (f_Mod_pair_l29 n) n' r y k j s') (fun j s' => -r ≤ j ∧ k_fm m s' ∧ w_M (fun _ => True) s' (w_up (fun q s => w_P l k q s) (-r) (w_up (fun p s => w_P1 l r p s) (-r) s (k - -r).toNat) (j - -r).toNat)) _ (k := -r) (e := r + 1) (s := m1) (by omega) (by omega) ⟨Int.le_refl _, f1, by rw [show (-r - -r).toNat = 0 by omega]; exact c1⟩ ?_ ?_
    · intro n' j m2 hj ⟨j0, f2, c2⟩ hn'
      have hb2 := w_b_P1 hw (p := k) hr (by omega) hb1 (j - -r).toNat (by omega)
      have hm2 := k_M_fr hm f2
      have es := w_up_s (fun q s => w_P l k q s) (w_up (fun p s => w_P1 l r p s) (-r) s (k - -r).toNat) j0
      show q_ok (f_Mod_pair_b38 (f_Mod_pair_l29 n) (f_Mod_pair_l38 (f_Mod_pair_l29 n) n') r y k j m2) _
      unfold f_Mod_pair_b38 f_Mod_pair_b61
      rw [q_w_id (x := r) (by omega) (by omega), q_w_id (x := j) (by omega) (by omega), if_neg (show ¬ r < j by omega), m_isLawful hm2.1 hw (by omega) (by omega), x_bd]
      rcases g_law_01 l k j with cl | cl
      · rw [cl, x_w1, if_neg (show ¬ ((1 : Int) = 0) by decide)]
        refine o_bd (m_tryLines hw hm2.1 (by omega) (by omega) c2 hb2 (by omega)) fun _ m3 ⟨f3, c3⟩ => ?_
        refine hn' m3 ⟨by omega, k_fm_tr f2 f3, ?_⟩
        rw [es]
        show w_M _ m3 (w_P l k j _)
        unfold w_P
        rw [if_pos cl]
        exact c3
      · rw [cl, x_w0, if_pos rfl]
        refine hn' m2 ⟨by omega, f2, ?_⟩
        rw [es]
        show w_M _ m2 (w_P l k j _)
        unfold w_P
        rw [if_neg (by omega)]
        exact c2
    · intro n' m2 ⟨_, f2, c2⟩
      show q_ok (f_Mod_pair_b38 (f_Mod_pair_l29 n) (f_Mod_pair_l38 (f_Mod_pair_l29 n) n') r y k (r + 1) m2) _
      unfold f_Mod_pair_b38
      rw [q_w_id (x := r) (by omega) (by omega), q_w_id (x := r + 1) (by omega) (by omega), if_pos (by omega)]
      refine hn m2 ⟨by omega, f2, ?_⟩
      rw [w_up_s _ _ k0]
      exact c2
  · intro n m1 ⟨_, f1, c1⟩
    have hb1 := w_b_Ps hw hr h0 (r + 1 - -r).toNat (by omega)
    show q_ok (f_Mod_pair_b29 (f_Mod_pair_l29 n) r y (r + 1) m1) _
    unfold f_Mod_pair_b29
    revert c1 hb1
    generalize w_up (fun p s => w_P1 l r p s) (-r) s (r + 1 - -r).toNat = S
    intro c1 hb1
    obtain ⟨g1, g2, g3⟩ := c1
    obtain ⟨b1, b2, b3⟩ := hb1
    rw [q_w_id (x := r) (by omega) (by omega), q_w_id (x := r + 1) (by omega) (by omega), if_pos (show r < r + 1 by omega), g1, q_w_id (x := S 0) (by omega) (by omega), q_w_id (x := y) (by omega) (by omega)]
    by_cases cs : S 0 = 0
    · rw [if_pos cs]
      exact o_rt ⟨f1, by rw [if_pos cs]⟩
    rw [if_neg cs]
    have g4 := g3 (by omega)
    by_cases y0 : y = 0
    · rw [if_pos y0]
      exact o_rt ⟨f1, by rw [if_neg cs, y0]; exact g4.1⟩
    rw [if_neg y0]
    by_cases y1 : y = 1
    · rw [if_pos y1]
      exact o_rt ⟨f1, by rw [if_neg cs, y1]; exact g4.2 2 (by decide) (by decide) trivial⟩
    rw [if_neg y1]
    by_cases y2 : y = 2
    · rw [if_pos y2]
      exact o_rt ⟨f1, by rw [if_neg cs, y2]; exact g4.2 3 (by decide) (by decide) trivial⟩
    rw [if_neg y2]
    by_cases y3 : y = 3
    · rw [if_pos y3]
      exact o_rt ⟨f1, by rw [if_neg cs, y3]; exact g4.2 4 (by decide) (by decide) trivial⟩
    rw [if_neg y3]
    exact o_rt ⟨f1, by rw [if_neg cs, show y = 4 by omega]; exact g4.2 5 (by decide) (by decide) trivial⟩
end msearch
