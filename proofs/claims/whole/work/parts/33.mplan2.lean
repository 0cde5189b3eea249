/-! THE MODEL's PLAN, whole -/
section mplan2
variable {m l : q_Mem}
theorem m_layClashes (h : g_ML m l) (hw : g_lw l) {P Q a b : Int} (hl : g_line a b) (hP : -9 ≤ P ∧ P ≤ 9) (hQ : -9 ≤ Q ∧ Q ≤ 9) (h116 : ∀ p, g_pt l p → m 116 p = g_tk l P Q p) (h117 : ∀ p, g_pt l p → m 117 p = g_ce l a b p) : q_ok (f_Mod_layClashes m) (fun _ m' => (∀ c, c ≠ 81 → c ≠ 118 → m' c = m c) ∧ (∀ j, j ≠ 55 → m' 81 j = m 81 j) ∧ (∀ p, g_pt l p → m' 118 p = if g_ck l P Q a b p = true then 1 else 0) ∧ m' 81 55 = g_ca l (g_ck l P Q a b)) := by
  have hlat := g_lat_rg hw hP hQ
  have hcc : g_cc l a b ≤ 128 := (g_cnt_rg _ 128).2
  unfold f_Mod_layClashes
  rw [x_pf]
  have cnt1 : ∀ {k : Int}, 0 ≤ k → g_cnt (fun p => decide (g_th (l 0 0) (l 0 1) p) && g_ck l P Q a b p) (k + 1).toNat = g_cnt (fun p => decide (g_th (l 0 0) (l 0 1) p) && g_ck l P Q a b p) k.toNat + (if (decide (g_th (l 0 0) (l 0 1) k) && g_ck l P Q a b k) = true then 1 else 0) := fun h => g_cnt_s _ h
  refine o_upF (fun n k (s : q_Mem) => f_Mod_layClashes_l7 n k s) (fun k s => 0 ≤ k ∧ (∀ c, c ≠ 81 → c ≠ 118 → s c = m c) ∧ (∀ j, j ≠ 55 → s 81 j = m 81 j) ∧ (∀ p, g_pt l p → p < k → s 118 p = if g_ck l P Q a b p = true then 1 else 0) ∧ s 81 55 = g_cnt (fun p => decide (g_th (l 0 0) (l 0 1) p) && g_ck l P Q a b p) k.toNat) _ (k := 0) (e := 100) (s := q_up m 81 55 0) (by omega) (by omega) ⟨by omega, fun c c1 _ => q_up_f c1, fun j hj => q_up_i hj, fun p hp hk => by have := hp.1; omega, q_up_s _ _ _ _⟩ ?_ ?_
  · intro n k s hk ⟨h0, hf, hg, hc, h55⟩ hn
    show q_ok (f_Mod_layClashes_b7 (f_Mod_layClashes_l7 n) k s) _
    unfold f_Mod_layClashes_b7
    rw [q_w_id (x := k) (by omega) (by omega), if_neg (by omega), x_wrz (n := 100) h0 hk (by decide) (Or.inl rfl)]
    have hcr := g_cnt_rg (fun p => decide (g_th (l 0 0) (l 0 1) p) && g_ck l P Q a b p) k.toNat
    -- what stands for k decides
    have fin : ∀ s1 : q_Mem, (∀ c, c ≠ 118 → s1 c = s c) → (∀ p, p ≠ k → s1 118 p = s 118 p) → s1 118 k = (if (decide (g_th (l 0 0) (l 0 1) k) && g_ck l P Q a b k) = true then 1 else 0) → q_ok (f_Mod_layClashes_b99 (f_Mod_layClashes_l7 n) k s1) (fun _ m' => (∀ c, c ≠ 81 → c ≠ 118 → m' c = m c) ∧ (∀ j, j ≠ 55 → m' 81 j = m 81 j) ∧ (∀ p, g_pt l p → m' 118 p = if g_ck l P Q a b p = true then 1 else 0) ∧ m' 81 55 = g_ca l (g_ck l P Q a b)) := by
      intro s1 f1 f2 f3
      unfold f_Mod_layClashes_b99 f_Mod_layClashes_b118
      rw [x_rd (n := 100) h0 hk (by decide), f3, x_ifb]
      have go : ∀ v, v = (if (decide (g_th (l 0 0) (l 0 1) k) && g_ck l P Q a b k) = true then (1 : Int) else 0) → q_ok (q_pf s1 81 55 (s1 81 55 + v) fun m1 => f_Mod_layClashes_l7 n (k + 1) m1) (fun _ m' => (∀ c, c ≠ 81 → c ≠ 118 → m' c = m c) ∧ (∀ j, j ≠ 55 → m' 81 j = m 81 j) ∧ (∀ p, g_pt l p → m' 118 p = if g_ck l P Q a b p = true then 1 else 0) ∧ m' 81 55 = g_ca l (g_ck l P Q a b)) := by
        intro v hv
        rw [x_pf]
        refine hn (q_up s1 81 55 (s1 81 55 + v)) ⟨by omega, fun c c1 c2 => ?_, fun j hj => ?_, fun p hp hpk => ?_, ?_⟩
        · rw [q_up_f c1, f1 c c2]; exact hf c c1 c2
        · rw [q_up_i hj, f1 81 (by decide)]; exact hg j hj
        · rw [q_up_f (by decide)]
          by_cases e : p = k
          · subst e; rw [f3, decide_eq_true hp.2, Bool.true_and]
          · rw [f2 p e]; exact hc p hp (by omega)
        · rw [q_up_s, f1 81 (by decide), h55, cnt1 h0, hv]
      split
      · exact go 1 (by rw [if_pos (by assumption)])
      · exact go 0 (by rw [if_neg (by assumption)])
    have hML : g_ML s l := g_ML_of h (hg 19 (by decide)) (fun c _ _ => hf c (by omega) (by omega))
    by_cases ct : g_th (l 0 0) (l 0 1) k
    · have hpt : g_pt l k := ⟨⟨h0, hk⟩, ct⟩
      refine o_upF (fun n' j (s' : q_Mem) => f_Mod_layClashes_l22 (f_Mod_layClashes_l7 n) n' k j s') (fun j s' => 0 ≤ j ∧ (∀ c, c ≠ 118 → s' c = s c) ∧ (∀ p, p ≠ k → s' 118 p = s 118 p) ∧ (s' 118 k = 0 ∨ s' 118 k = 1) ∧ (s' 118 k = 1 ↔ ∃ q, g_pt l q ∧ q < j ∧ g_tk l P Q q = g_tk l P Q k ∧ g_key a b q = g_key a b k)) _ (k := 0) (e := k) (s := q_up s 118 k 0) h0 (by omega) ⟨by omega, fun c hc => q_up_f hc, fun p hp => q_up_i hp, Or.inl (q_up_s _ _ _ _), fun e => by rw [q_up_s] at e; omega, fun ⟨q, hq, hj, _⟩ => by have := hq.1; omega⟩ ?_ ?_
      · intro n' j s' hj ⟨j0, f1, f2, f3, f4⟩ hn'
        show q_ok (f_Mod_layClashes_b22 (f_Mod_layClashes_l7 n) (f_Mod_layClashes_l22 (f_Mod_layClashes_l7 n) n') k j s') _
        unfold f_Mod_layClashes_b22 f_Mod_layClashes_b87 f_Mod_layClashes_b91 f_Mod_layClashes_b92
        have hML' : g_ML s' l := g_ML_of hML (by rw [f1 81 (by decide)]) (fun c _ _ => f1 c (by omega))
        have e116 : s' 116 = m 116 := by rw [f1 116 (by decide), hf 116 (by decide) (by decide)]
        have e117 : s' 117 = m 117 := by rw [f1 117 (by decide), hf 117 (by decide) (by decide)]
        have hj100 : j < 100 := by omega
        have r1 := g_tk_rg hw P Q hpt
        have r2 := g_ce_rg hw hl.1 hl.2.1 hpt
        rw [q_w_id (x := k) (by omega) (by omega), q_w_id (x := j) (by omega) (by omega), if_neg (by omega), m_isThere hML' hw ⟨h0, hk⟩, x_bd, x_ifb, if_pos ct, x_rd (n := 100) h0 hk (by decide)]
        have next : ∀ v, (v = 0 ∨ v = 1) → (v = 1 ↔ ∃ q, g_pt l q ∧ q < j + 1 ∧ g_tk l P Q q = g_tk l P Q k ∧ g_key a b q = g_key a b k) → q_ok (q_wrz s' 118 100 k v fun m1 => f_Mod_layClashes_l22 (f_Mod_layClashes_l7 n) n' k (j + 1) m1) (fun _ m' => (∀ c, c ≠ 81 → c ≠ 118 → m' c = m c) ∧ (∀ j, j ≠ 55 → m' 81 j = m 81 j) ∧ (∀ p, g_pt l p → m' 118 p = if g_ck l P Q a b p = true then 1 else 0) ∧ m' 81 55 = g_ca l (g_ck l P Q a b)) := by
          intro v hv hiff
          rw [x_wrz (n := 100) h0 hk (by decide) hv]
          refine hn' (q_up s' 118 k v) ⟨by omega, fun c hc => by rw [q_up_f hc]; exact f1 c hc, fun p hp => by rw [q_up_i hp]; exact f2 p hp, by rw [q_up_s]; exact hv, by rw [q_up_s]; exact hiff⟩
        rcases f3 with f3 | f3
        · rw [f3, x_w0, if_pos rfl, m_isThere hML' hw ⟨j0, hj100⟩, x_bd, x_ifb]
          have old : ¬ ∃ q, g_pt l q ∧ q < j ∧ g_tk l P Q q = g_tk l P Q k ∧ g_key a b q = g_key a b k := fun hh => by
            have := f4.mpr hh; omega
          have only : (∃ q, g_pt l q ∧ q < j + 1 ∧ g_tk l P Q q = g_tk l P Q k ∧ g_key a b q = g_key a b k) ↔ (g_pt l j ∧ g_tk l P Q j = g_tk l P Q k ∧ g_key a b j = g_key a b k) := by
            constructor
            · intro ⟨q, hq, hqj, e1, e2⟩
              by_cases e : q = j
              · subst e; exact ⟨hq, e1, e2⟩
              · exact absurd ⟨q, hq, by omega, e1, e2⟩ old
            · intro ⟨hq, e1, e2⟩
              exact ⟨j, hq, by omega, e1, e2⟩
          by_cases cj : g_th (l 0 0) (l 0 1) j
          · rw [if_pos cj]
            have hptj : g_pt l j := ⟨⟨j0, hj100⟩, cj⟩
            have q1 := g_tk_rg hw P Q hptj
            have q2 := g_ce_rg hw hl.1 hl.2.1 hptj
            rw [x_rd (n := 100) j0 hj100 (by decide), x_rd (n := 100) h0 hk (by decide), e116, h116 j hptj, h116 k hpt, q_w_id (x := g_tk l P Q j) (by omega) (by omega), q_w_id (x := g_tk l P Q k) (by omega) (by omega)]
            by_cases c1 : g_tk l P Q j = g_tk l P Q k
            · rw [if_pos c1, x_rd (n := 100) j0 hj100 (by decide), x_rd (n := 100) h0 hk (by decide), e117, h117 j hptj, h117 k hpt, q_w_id (x := g_ce l a b j) (by omega) (by omega), q_w_id (x := g_ce l a b k) (by omega) (by omega)]
              by_cases c2 : g_ce l a b j = g_ce l a b k
              · rw [if_pos c2]
                exact next 1 (Or.inr rfl) ⟨fun _ => only.mpr ⟨hptj, c1, (g_ce_iff hw hl.1 hl.2.1 hptj hpt).mp c2⟩, fun _ => rfl⟩
              · rw [if_neg c2]
                exact next 0 (Or.inl rfl) ⟨fun e => by omega, fun hh => absurd ((g_ce_iff hw hl.1 hl.2.1 hptj hpt).mpr (only.mp hh).2.2) c2⟩
            · rw [if_neg c1]
              exact next 0 (Or.inl rfl) ⟨fun e => by omega, fun hh => absurd (only.mp hh).2.1 c1⟩
          · rw [if_neg cj]
            exact next 0 (Or.inl rfl) ⟨fun e => by omega, fun hh => absurd (only.mp hh).1.2 cj⟩
        · rw [f3, x_w1, if_neg (by decide)]
          refine next 1 (Or.inr rfl) ⟨fun _ => ?_, fun _ => rfl⟩
          obtain ⟨q, hq, hqj, e⟩ := f4.mp f3
          exact ⟨q, hq, by omega, e⟩
      · intro n' s' ⟨_, f1, f2, f3, f4⟩
        show q_ok (f_Mod_layClashes_b22 (f_Mod_layClashes_l7 n) (f_Mod_layClashes_l22 (f_Mod_layClashes_l7 n) n') k k s') _
        unfold f_Mod_layClashes_b22
        rw [if_pos (Int.le_refl _)]
        refine fin s' f1 f2 ?_
        rw [decide_eq_true ct, Bool.true_and]
        have hi := g_ck_iff hw (P := P) (Q := Q) hl hpt
        by_cases c : g_ck l P Q a b k = true
        · rw [if_pos c]; exact f4.mpr (hi.mp c)
        · rw [if_neg c]
          rcases f3 with f3 | f3
          · exact f3
          · exact absurd (hi.mpr (f4.mp f3)) c
    · have hML' : g_ML (q_up s 118 k 0) l := g_ML_of hML (by rw [q_up_f (by decide)]) (fun c _ _ => q_up_f (by omega))
      show q_ok (f_Mod_layClashes_b22 (f_Mod_layClashes_l7 n) (f_Mod_layClashes_l22 (f_Mod_layClashes_l7 n) 19999) k 0 (q_up s 118 k 0)) _
      unfold f_Mod_layClashes_b22
      have res := fin (q_up s 118 k 0) (fun c hc => q_up_f hc) (fun p hp => q_up_i hp) (by rw [q_up_s, decide_eq_false ct, Bool.false_and]; rfl)
      rw [q_w_id (x := k) (by omega) (by omega), x_w0]
      by_cases ck : k ≤ 0
      · rw [if_pos ck]; exact res
      · rw [if_neg ck, m_isThere hML' hw ⟨h0, hk⟩, x_bd, x_ifb, if_neg ct]; exact res
  · intro n s ⟨_, hf, hg, hc, h55⟩
    show q_ok (f_Mod_layClashes_b7 (f_Mod_layClashes_l7 n) 100 s) _
    unfold f_Mod_layClashes_b7
    rw [q_wlit rfl, if_pos (by decide)]
    exact o_rt ⟨hf, hg, fun p hp => hc p hp hp.1.2, h55⟩
/-- what the model's plan is, by a schedule and a line -/
def k_plan (l m : q_Mem) (P Q a b : Int) : Prop := (∀ p, g_pt l p → m 116 p = g_tk l P Q p) ∧ m 81 53 = g_lat (l 0 0) (l 0 1) P Q ∧ (∀ p, g_pt l p → m 117 p = g_ce l a b p) ∧ m 81 54 = l 0 0 * l 0 1 - g_sh (l 0 0) (l 0 1) a b ∧ (∀ p, g_pt l p → m 118 p = if g_ck l P Q a b p = true then 1 else 0) ∧ m 81 55 = if P * a + Q * b = 0 then g_sh (l 0 0) (l 0 1) a b else 0
theorem m_layPlan (h : g_ML m l) (hw : g_lw l) {P Q a b : Int} (hl : g_line a b) (hP : -9 ≤ P ∧ P ≤ 9) (hQ : -9 ≤ Q ∧ Q ≤ 9) : q_ok (f_Mod_layPlan P Q a b m) (fun _ m' => (∀ c, c ≠ 81 → c < 116 ∨ 119 < c → m' c = m c) ∧ (∀ j, j < 53 ∨ 55 < j → m' 81 j = m 81 j) ∧ k_plan l m' P Q a b) := by
  unfold f_Mod_layPlan
  refine o_bd (m_layTicks h hw hP hQ) (fun _ m1 ⟨f1, g1, t1, e1⟩ => ?_)
  have h1 : g_ML m1 l := g_ML_of h (g1 19 (by decide)) (fun c _ _ => f1 c (by omega) (by omega))
  refine o_bd (m_layCells h1 hw hl.1 hl.2.1) (fun _ m2 ⟨f2, g2, t2, e2⟩ => ?_)
  have h2 : g_ML m2 l := g_ML_of h1 (g2 19 (by decide)) (fun c _ _ => f2 c (by omega) (by omega) (by omega))
  have t1' : ∀ p, g_pt l p → m2 116 p = g_tk l P Q p := fun p hp => by rw [f2 116 (by decide) (by decide) (by decide)]; exact t1 p hp
  refine o_bd (m_layClashes h2 hw hl hP hQ t1' t2) (fun _ m3 ⟨f3, g3, t3, e3⟩ => ?_)
  refine o_rt ⟨fun c c1 c2 => ?_, fun j hj => ?_, fun p hp => ?_, ?_, fun p hp => ?_, ?_, t3, ?_⟩
  · rw [f3 c c1 (by omega), f2 c c1 (by omega) (by omega)]; exact f1 c c1 (by omega)
  · rw [g3 j (by omega), g2 j (by omega)]; exact g1 j (by omega)
  · rw [f3 116 (by decide) (by decide)]; exact t1' p hp
  · rw [g3 53 (by decide), g2 53 (by decide)]; exact e1
  · rw [f3 117 (by decide) (by decide)]; exact t2 p hp
  · rw [g3 54 (by decide), e2]; exact g_cc_eq hw hl
  · rw [e3]; exact g_ck_ca hw hl
/-- the schedule and line that the model has -/
def k_now (m : q_Mem) (P Q a b : Int) : Prop := m 115 0 = P ∧ m 115 1 = Q ∧ m 115 2 = a ∧ m 115 3 = b
theorem m_layNow (h : g_ML m l) (hw : g_lw l) {P Q a b : Int} (hn : k_now m P Q a b) (hl : g_line a b) (hP : -9 ≤ P ∧ P ≤ 9) (hQ : -9 ≤ Q ∧ Q ≤ 9) : q_ok (f_Mod_layNow m) (fun _ m' => (∀ c, c ≠ 81 → c < 116 ∨ 119 < c → m' c = m c) ∧ (∀ j, j < 53 ∨ 55 < j → m' 81 j = m 81 j) ∧ k_plan l m' P Q a b) := by
  obtain ⟨e1, e2, e3, e4⟩ := hn
  unfold f_Mod_layNow
  simp (disch := omega) only [x_bd, x_rt, x_pf, x_lt, x_fi, x_rz0, x_rz1, x_rzi, x_pz0, x_pz1, x_rd, x_wr, x_wrz, x_dv, x_md, q_w_id, x_wi, x_i0, x_i1, x_max, x_min, x_abs, ↓reduceIte, Int.reduceEq, Int.reduceLT, Int.reduceLE, Int.reduceNeg, if_true, if_false, e1, e2, e3, e4]
  refine o_bd (m_layPlan h hw hl hP hQ) (fun _ m' hm' => o_some hm')
end mplan2
