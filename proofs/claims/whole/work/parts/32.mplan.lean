/-! THE MODEL's PLAN -/
section mplan
variable {m l : q_Mem}
theorem g_val_rg {l : q_Mem} (hw : g_lw l) {P Q : Int} (hP : -9 ≤ P ∧ P ≤ 9) (hQ : -9 ≤ Q ∧ Q ≤ 9) : -162 ≤ g_ls (l 0 0) (l 0 1) P Q ∧ g_ls (l 0 0) (l 0 1) P Q ≤ 0 := by
  have h1 := hw.1
  have h2 := hw.2.1
  have a := x_mul (x := P) (z := l 0 0 - 1) (a := 9) (b := 9) hP.1 hP.2 (by omega) (by omega)
  have b := x_mul (x := Q) (z := l 0 1 - 1) (a := 9) (b := 9) hQ.1 hQ.2 (by omega) (by omega)
  unfold g_ls
  omega
theorem m_layTicks (h : g_ML m l) (hw : g_lw l) {P Q : Int} (hP : -9 ≤ P ∧ P ≤ 9) (hQ : -9 ≤ Q ∧ Q ≤ 9) : q_ok (f_Mod_layTicks P Q m) (fun _ m' => (∀ c, c ≠ 81 → c ≠ 116 → m' c = m c) ∧ (∀ j, j ≠ 53 → m' 81 j = m 81 j) ∧ (∀ p, g_pt l p → m' 116 p = g_tk l P Q p) ∧ m' 81 53 = g_lat (l 0 0) (l 0 1) P Q) := by
  have hls := g_val_rg hw hP hQ
  have hlat := g_lat_rg hw hP hQ
  obtain ⟨⟨p0, hp0, ep0⟩, ⟨p1, hp1, ep1⟩⟩ := g_corner hw P Q
  unfold f_Mod_layTicks
  rw [x_pf]
  have hf1 : ∀ c, c ≠ 81 → q_up m 81 53 0 c = m c := fun c hc => q_up_f hc
  have hg1 : ∀ j, j ≠ 53 → q_up m 81 53 0 81 j = m 81 j := fun j hj => q_up_i hj
  have h53 : q_up m 81 53 0 81 53 = 0 := q_up_s _ _ _ _
  have hML1 : g_ML (q_up m 81 53 0) l := g_ML_of h (hg1 19 (by decide)) (fun c _ _ => hf1 c (by omega))
  generalize q_up m 81 53 0 = m1 at hf1 hg1 h53 hML1
  refine o_upF (fun n k (s : Int) => f_Mod_layTicks_l12 n P Q s k m1) (fun k s => 0 ≤ k ∧ (g_ls (l 0 0) (l 0 1) P Q ≤ s ∧ s ≤ 1000000) ∧ ∀ p, g_pt l p → p < k → s ≤ P * (p / 10) + Q * (p % 10)) _ (k := 0) (e := 100) (s := 1000000) (by omega) (by omega) ⟨by omega, by omega, fun p hp hk => by have := hp.1; omega⟩ ?_ ?_
  · intro n k s hk ⟨h0, hs, hle⟩ hn
    show q_ok (f_Mod_layTicks_b12 (f_Mod_layTicks_l12 n) P Q s k m1) _
    unfold f_Mod_layTicks_b12 f_Mod_layTicks_b48
    have a := x_mul (x := P) (z := k / 10) (a := 9) (b := 9) hP.1 hP.2 (by omega) (by omega)
    have b := x_mul (x := Q) (z := k % 10) (a := 9) (b := 9) hQ.1 hQ.2 (by omega) (by omega)
    rw [q_w_id (x := k) (by omega) (by omega), if_neg (by omega), m_isThere hML1 hw ⟨h0, hk⟩, x_bd, x_ifb]
    by_cases ct : g_th (l 0 0) (l 0 1) k
    · rw [if_pos ct]
      have hpt : g_pt l k := ⟨⟨h0, hk⟩, ct⟩
      have hge := (g_tk_rg hw P Q hpt).1
      unfold g_tk at hge
      simp (disch := omega) only [x_bd, x_rt, x_pf, x_lt, x_fi, x_rz0, x_rz1, x_rzi, x_pz0, x_pz1, x_rd, x_wr, x_wrz, x_dv, x_md, q_w_id, x_wi, x_i0, x_i1, x_max, x_min, x_abs, ↓reduceIte, Int.reduceEq, Int.reduceLT, Int.reduceLE, Int.reduceNeg, if_true, if_false]
      rw [m_less (by omega) (by omega), x_bd]
      refine hn _ ⟨by omega, by omega, fun p hp hpk => ?_⟩
      by_cases e : p = k
      · subst e; omega
      · have := hle p hp (by omega); omega
    · rw [if_neg ct]
      refine hn _ ⟨by omega, hs, fun p hp hpk => ?_⟩
      by_cases e : p = k
      · subst e; exact absurd hp.2 ct
      · exact hle p hp (by omega)
  · intro n s ⟨_, hs, hle⟩
    show q_ok (f_Mod_layTicks_b12 (f_Mod_layTicks_l12 n) P Q s 100 m1) _
    unfold f_Mod_layTicks_b12
    rw [q_wlit rfl, if_pos (by decide)]
    have es : s = g_ls (l 0 0) (l 0 1) P Q := by
      have := hle p0 hp0 hp0.1.2
      unfold g_tk at ep0
      omega
    subst es
    refine o_upF (fun n k (s : q_Mem) => f_Mod_layTicks_l57 n P Q (g_ls (l 0 0) (l 0 1) P Q) k s) (fun k s => 0 ≤ k ∧ (∀ c, c ≠ 81 → c ≠ 116 → s c = m c) ∧ (∀ j, j ≠ 53 → s 81 j = m 81 j) ∧ (∀ p, g_pt l p → p < k → s 116 p = g_tk l P Q p ∧ g_tk l P Q p + 1 ≤ s 81 53) ∧ 0 ≤ s 81 53 ∧ s 81 53 ≤ g_lat (l 0 0) (l 0 1) P Q) _ (k := 0) (e := 100) (s := m1) (by omega) (by omega) ⟨by omega, fun c c1 _ => hf1 c c1, hg1, fun p hp hk => by have := hp.1; omega, by omega, by omega⟩ ?_ ?_
    · intro n k s hk ⟨h0, hf, hg, ht, hl0, hl1⟩ hn
      show q_ok (f_Mod_layTicks_b57 (f_Mod_layTicks_l57 n) P Q (g_ls (l 0 0) (l 0 1) P Q) k s) _
      unfold f_Mod_layTicks_b57 f_Mod_layTicks_b120
      have hML : g_ML s l := g_ML_of h (hg 19 (by decide)) (fun c _ _ => hf c (by omega) (by omega))
      have a := x_mul (x := P) (z := k / 10) (a := 9) (b := 9) hP.1 hP.2 (by omega) (by omega)
      have b := x_mul (x := Q) (z := k % 10) (a := 9) (b := 9) hQ.1 hQ.2 (by omega) (by omega)
      rw [q_w_id (x := k) (by omega) (by omega), if_neg (by omega), m_isThere hML hw ⟨h0, hk⟩, x_bd, x_ifb]
      by_cases ct : g_th (l 0 0) (l 0 1) k
      · rw [if_pos ct]
        have hpt : g_pt l k := ⟨⟨h0, hk⟩, ct⟩
        have hrg := g_tk_rg hw P Q hpt
        have etk : P * (k / 10) + Q * (k % 10) - g_ls (l 0 0) (l 0 1) P Q = g_tk l P Q k := rfl
        simp (disch := omega) only [x_bd, x_rt, x_pf, x_lt, x_fi, x_rz0, x_rz1, x_rzi, x_pz0, x_pz1, x_rd, x_wr, x_wrz, x_dv, x_md, q_w_id, x_wi, x_i0, x_i1, x_max, x_min, x_abs, ↓reduceIte, Int.reduceEq, Int.reduceLT, Int.reduceLE, Int.reduceNeg, if_true, if_false, q_up_s, etk]
        rw [q_up_f (m := s) (c := 116) (c' := 81) (by decide), m_more (by omega) (by omega), x_bd]
        refine hn (q_up (q_up s 116 k (g_tk l P Q k)) 81 53 (max (s 81 53) (g_tk l P Q k + 1))) ⟨by omega, fun c c1 c2 => ?_, fun j hj => ?_, fun p hp hpk => ?_, ?_, ?_⟩
        · rw [q_up_f c1, q_up_f c2]; exact hf c c1 c2
        · rw [q_up_i hj, q_up_f (by decide)]; exact hg j hj
        · rw [q_up_f (c' := 116) (by decide), q_up_s]
          by_cases e : p = k
          · subst e; rw [q_up_s]; omega
          · have := ht p hp (by omega)
            rw [q_up_i e]; omega
        · rw [q_up_s]; omega
        · rw [q_up_s]; omega
      · rw [if_neg ct]
        refine hn s ⟨by omega, hf, hg, fun p hp hpk => ?_, hl0, hl1⟩
        by_cases e : p = k
        · subst e; exact absurd hp.2 ct
        · exact ht p hp (by omega)
    · intro n s ⟨_, hf, hg, ht, hl0, hl1⟩
      show q_ok (f_Mod_layTicks_b57 (f_Mod_layTicks_l57 n) P Q (g_ls (l 0 0) (l 0 1) P Q) 100 s) _
      unfold f_Mod_layTicks_b57
      rw [q_wlit rfl, if_pos (by decide)]
      refine o_rt ⟨hf, hg, fun p hp => (ht p hp hp.1.2).1, ?_⟩
      have := (ht p1 hp1 hp1.1.2).2
      omega
theorem m_layCells (h : g_ML m l) (hw : g_lw l) {a b : Int} (ha : -3 ≤ a ∧ a ≤ 3) (hb : -3 ≤ b ∧ b ≤ 3) : q_ok (f_Mod_layCells a b m) (fun _ m' => (∀ c, c ≠ 81 → c ≠ 117 → c ≠ 119 → m' c = m c) ∧ (∀ j, j ≠ 54 → m' 81 j = m 81 j) ∧ (∀ p, g_pt l p → m' 117 p = g_ce l a b p) ∧ m' 81 54 = g_cc l a b) := by
  have kk : ∀ p, g_pt l p → 64 + b * (p / 10) - a * (p % 10) = g_key a b p + 64 ∧ (0 ≤ g_key a b p + 64 ∧ g_key a b p + 64 < 128) := by
    intro p hp
    have := g_key_rg hw ha hb hp
    unfold g_key at this ⊢
    omega
  unfold f_Mod_layCells
  refine o_upF (fun n k (s : q_Mem) => f_Mod_layCells_l2 n a b k s) (fun k s => 0 ≤ k ∧ (∀ c, c ≠ 119 → s c = m c) ∧ ∀ x, 0 ≤ x → x < k → s 119 x = -1) _ (k := 0) (e := 128) (by omega) (by omega) ⟨by omega, fun _ _ => rfl, fun x x0 x1 => by omega⟩ ?_ ?_
  · intro n k s hk ⟨h0, hf, hx⟩ hn
    show q_ok (f_Mod_layCells_b2 (f_Mod_layCells_l2 n) a b k s) _
    unfold f_Mod_layCells_b2
    simp (disch := omega) only [x_bd, x_rt, x_pf, x_lt, x_fi, x_rz0, x_rz1, x_rzi, x_pz0, x_pz1, x_rd, x_wr, x_wrz, x_dv, x_md, q_w_id, x_wi, x_i0, x_i1, x_max, x_min, x_abs, ↓reduceIte, Int.reduceEq, Int.reduceLT, Int.reduceLE, Int.reduceNeg, if_true, if_false]
    rw [if_neg (by omega)]
    refine hn _ ⟨by omega, fun c hc => by rw [q_up_f hc]; exact hf c hc, fun x x0 x1 => ?_⟩
    by_cases e : x = k
    · rw [e, q_up_s]
    · rw [q_up_i e]; exact hx x x0 (by omega)
  intro n s ⟨_, hf, hx⟩
  show q_ok (f_Mod_layCells_b2 (f_Mod_layCells_l2 n) a b 128 s) _
  unfold f_Mod_layCells_b2
  rw [q_wlit rfl, if_pos (by decide)]
  -- the keys that there are
  refine o_upF (fun n k (s : q_Mem) => f_Mod_layCells_l24 n a b k s) (fun k s => 0 ≤ k ∧ (∀ c, c ≠ 119 → s c = m c) ∧ ∀ x, 0 ≤ x → x < 128 → (s 119 x = -1 ∨ s 119 x = 0) ∧ (s 119 x = 0 ↔ ∃ p, g_pt l p ∧ p < k ∧ g_key a b p + 64 = x)) _ (k := 0) (e := 100) (s := s) (by omega) (by omega) ⟨by omega, hf, fun x x0 x1 => ⟨Or.inl (hx x x0 x1), fun e => by rw [hx x x0 x1] at e; omega, fun ⟨p, hp, hk, _⟩ => by have := hp.1; omega⟩⟩ ?_ ?_
  · clear hf hx s
    intro n k s hk ⟨h0, hf, hx⟩ hn
    show q_ok (f_Mod_layCells_b24 (f_Mod_layCells_l24 n) a b k s) _
    unfold f_Mod_layCells_b24 f_Mod_layCells_b60
    have hML : g_ML s l := g_ML_of h (by rw [hf 81 (by decide)]) (fun c _ _ => hf c (by omega))
    rw [q_w_id (x := k) (by omega) (by omega), if_neg (by omega), m_isThere hML hw ⟨h0, hk⟩, x_bd, x_ifb]
    by_cases ct : g_th (l 0 0) (l 0 1) k
    · rw [if_pos ct]
      have hpt : g_pt l k := ⟨⟨h0, hk⟩, ct⟩
      have hkk := kk k hpt
      simp (disch := omega) only [x_bd, x_rt, x_pf, x_lt, x_fi, x_rz0, x_rz1, x_rzi, x_pz0, x_pz1, x_rd, x_wr, x_wrz, x_dv, x_md, q_w_id, x_wi, x_i0, x_i1, x_max, x_min, x_abs, ↓reduceIte, Int.reduceEq, Int.reduceLT, Int.reduceLE, Int.reduceNeg, if_true, if_false]
      rw [hkk.1]
      refine hn _ ⟨by omega, fun c hc => by rw [q_up_f hc]; exact hf c hc, fun x x0 x1 => ?_⟩
      by_cases e : x = g_key a b k + 64
      · rw [e, q_up_s]
        exact ⟨Or.inr rfl, fun _ => ⟨k, hpt, by omega, rfl⟩, fun _ => rfl⟩
      · rw [q_up_i e]
        refine ⟨(hx x x0 x1).1, fun e0 => ?_, fun ⟨p, hp, hpk, he⟩ => (hx x x0 x1).2.mpr ⟨p, hp, ?_, he⟩⟩
        · obtain ⟨p, hp, hpk, he⟩ := (hx x x0 x1).2.mp e0
          exact ⟨p, hp, by omega, he⟩
        · have : p ≠ k := fun e2 => by rw [e2] at he; omega
          omega
    · rw [if_neg ct]
      refine hn s ⟨by omega, hf, fun x x0 x1 => ⟨(hx x x0 x1).1, fun e0 => ?_, fun ⟨p, hp, hpk, he⟩ => (hx x x0 x1).2.mpr ⟨p, hp, ?_, he⟩⟩⟩
      · obtain ⟨p, hp, hpk, he⟩ := (hx x x0 x1).2.mp e0
        exact ⟨p, hp, by omega, he⟩
      · have : p ≠ k := fun e2 => by rw [e2] at hp; exact ct hp.2
        omega
  clear hf hx s
  intro n s ⟨_, hf, hx⟩
  show q_ok (f_Mod_layCells_b24 (f_Mod_layCells_l24 n) a b 100 s) _
  unfold f_Mod_layCells_b24
  rw [q_wlit rfl, if_pos (by decide), x_pf]
  have hoc : ∀ x, 0 ≤ x → x < 128 → (g_oc l a b (x - 64) = true ↔ s 119 x = 0) := by
    intro x x0 x1
    constructor
    · intro ho
      obtain ⟨p, hp, he⟩ := g_oc_ex ho
      exact (hx x x0 x1).2.mpr ⟨p, hp, hp.1.2, by omega⟩
    · intro e
      obtain ⟨p, hp, _, he⟩ := (hx x x0 x1).2.mp e
      rw [show x - 64 = g_key a b p by omega]
      exact g_oc_pt hp
  -- their numbers
  refine o_upF (fun n k (s' : q_Mem) => f_Mod_layCells_l73 n a b k s') (fun k s' => 0 ≤ k ∧ (∀ c, c ≠ 81 → c ≠ 119 → s' c = m c) ∧ (∀ j, j ≠ 54 → s' 81 j = m 81 j) ∧ s' 81 54 = g_cnt (fun k => g_oc l a b (k - 64)) k.toNat ∧ (∀ x, k ≤ x → x < 128 → s' 119 x = s 119 x) ∧ ∀ x, 0 ≤ x → x < k → g_oc l a b (x - 64) = true → s' 119 x = g_cnt (fun k => g_oc l a b (k - 64)) x.toNat) _ (k := 0) (e := 128) (s := q_up s 81 54 0) (by omega) (by omega) ⟨by omega, fun c c1 c2 => by rw [q_up_f c1]; exact hf c c2, fun j hj => by rw [q_up_i hj, hf 81 (by decide)], q_up_s _ _ _ _, fun x x0 x1 => by rw [q_up_f (by decide)], fun x x0 x1 => by omega⟩ ?_ ?_
  · intro n k s' hk ⟨h0, hf', hg', h54, hge, hlt⟩ hn
    show q_ok (f_Mod_layCells_b73 (f_Mod_layCells_l73 n) a b k s') _
    unfold f_Mod_layCells_b73 f_Mod_layCells_b112
    have hs := hge k (by omega) hk
    have hs2 := (hx k h0 hk).1
    have hcn := g_cnt_rg (fun k => g_oc l a b (k - 64)) k.toNat
    simp (disch := omega) only [x_bd, x_rt, x_pf, x_lt, x_fi, x_rz0, x_rz1, x_rzi, x_pz0, x_pz1, x_rd, x_wr, x_wrz, x_dv, x_md, q_w_id, x_wi, x_i0, x_i1, x_max, x_min, x_abs, ↓reduceIte, Int.reduceEq, Int.reduceLT, Int.reduceLE, Int.reduceNeg, if_true, if_false, hs]
    rw [if_neg (by omega)]
    have hstep := g_cnt_s (fun k => g_oc l a b (k - 64)) h0
    by_cases c : s 119 k = 0
    · rw [if_pos (by omega), q_up_f (m := s') (c := 119) (c' := 81) (by decide), h54]
      rw [if_pos ((hoc k h0 hk).mpr c)] at hstep
      refine hn (q_up (q_up s' 119 k _) 81 54 _) ⟨by omega, fun c c1 c2 => ?_, fun j hj => ?_, ?_, fun x x0 x1 => ?_, fun x x0 x1 ho => ?_⟩
      · rw [q_up_f c1, q_up_f c2]; exact hf' c c1 c2
      · rw [q_up_i hj, q_up_f (by decide)]; exact hg' j hj
      · rw [q_up_s]; exact hstep.symm
      · rw [q_up_f (by decide), q_up_i (by omega)]; exact hge x (by omega) x1
      · rw [q_up_f (by decide)]
        by_cases e : x = k
        · rw [e, q_up_s]
        · rw [q_up_i e]; exact hlt x x0 (by omega) ho
    · rw [if_neg (by omega)]
      have hno : ¬ g_oc l a b (k - 64) = true := fun ho => c ((hoc k h0 hk).mp ho)
      rw [if_neg hno] at hstep
      refine hn s' ⟨by omega, hf', hg', by rw [h54, hstep]; omega, fun x x0 x1 => hge x (by omega) x1, fun x x0 x1 ho => ?_⟩
      by_cases e : x = k
      · rw [e] at ho; exact absurd ho hno
      · exact hlt x x0 (by omega) ho
  intro n s' ⟨_, hf', hg', h54, _, hlt⟩
  show q_ok (f_Mod_layCells_b73 (f_Mod_layCells_l73 n) a b 128 s') _
  unfold f_Mod_layCells_b73
  rw [q_wlit rfl, if_pos (by decide)]
  -- the points' own
  refine o_upF (fun n k (s'' : q_Mem) => f_Mod_layCells_l120 n a b k s'') (fun k s'' => 0 ≤ k ∧ (∀ c, c ≠ 117 → s'' c = s' c) ∧ ∀ p, g_pt l p → p < k → s'' 117 p = g_ce l a b p) _ (k := 0) (e := 100) (s := s') (by omega) (by omega) ⟨by omega, fun _ _ => rfl, fun p hp hk => by have := hp.1; omega⟩ ?_ ?_
  · intro n k s'' hk ⟨h0, hf2, hp2⟩ hn
    show q_ok (f_Mod_layCells_b120 (f_Mod_layCells_l120 n) a b k s'') _
    unfold f_Mod_layCells_b120 f_Mod_layCells_b164
    have hML : g_ML s'' l := g_ML_of h (by rw [hf2 81 (by decide)]; exact hg' 19 (by decide)) (fun c _ _ => by rw [hf2 c (by omega)]; exact hf' c (by omega) (by omega))
    rw [q_w_id (x := k) (by omega) (by omega), if_neg (by omega), m_isThere hML hw ⟨h0, hk⟩, x_bd, x_ifb]
    by_cases ct : g_th (l 0 0) (l 0 1) k
    · rw [if_pos ct]
      have hpt : g_pt l k := ⟨⟨h0, hk⟩, ct⟩
      have hkk := kk k hpt
      simp (disch := omega) only [x_bd, x_rt, x_pf, x_lt, x_fi, x_rz0, x_rz1, x_rzi, x_pz0, x_pz1, x_rd, x_wr, x_wrz, x_dv, x_md, q_w_id, x_wi, x_i0, x_i1, x_max, x_min, x_abs, ↓reduceIte, Int.reduceEq, Int.reduceLT, Int.reduceLE, Int.reduceNeg, if_true, if_false]
      refine hn _ ⟨by omega, fun c hc => by rw [q_up_f hc]; exact hf2 c hc, fun p hp hpk => ?_⟩
      by_cases e : p = k
      · rw [e, q_up_s, hkk.1, hf2 119 (by decide), hlt _ hkk.2.1 hkk.2.2 (by rw [show g_key a b k + 64 - 64 = g_key a b k by omega]; exact g_oc_pt hpt)]
        rfl
      · rw [q_up_i e]; exact hp2 p hp (by omega)
    · rw [if_neg ct]
      simp (disch := omega) only [x_bd, x_rt, x_pf, x_lt, x_fi, x_rz0, x_rz1, x_rzi, x_pz0, x_pz1, x_rd, x_wr, x_wrz, x_dv, x_md, q_w_id, x_wi, x_i0, x_i1, x_max, x_min, x_abs, ↓reduceIte, Int.reduceEq, Int.reduceLT, Int.reduceLE, Int.reduceNeg, if_true, if_false]
      refine hn _ ⟨by omega, fun c hc => by rw [q_up_f hc]; exact hf2 c hc, fun p hp hpk => ?_⟩
      have : p ≠ k := fun e2 => by rw [e2] at hp; exact ct hp.2
      rw [q_up_i this]; exact hp2 p hp (by omega)
  · intro n s'' ⟨_, hf2, hp2⟩
    show q_ok (f_Mod_layCells_b120 (f_Mod_layCells_l120 n) a b 100 s'') _
    unfold f_Mod_layCells_b120
    rw [q_wlit rfl, if_pos (by decide)]
    refine o_rt ⟨fun c c1 c2 c3 => by rw [hf2 c c2]; exact hf' c c1 c3, fun j hj => by rw [hf2 81 (by decide)]; exact hg' j hj, fun p hp => hp2 p hp hp.1.2, ?_⟩
    rw [hf2 81 (by decide), h54]
    rfl
end mplan
