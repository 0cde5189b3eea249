/-! THE MODEL's DEPTHS -/
section mdep
variable {m l : q_Mem}
theorem m_depthBy (h : g_ML m l) (hw : g_lw l) {p : Int} (hp : 0 ≤ p ∧ p < 100) (hD : ∀ q, g_pt l q → -1 ≤ m 106 q ∧ m 106 q < 1000) : f_Mod_depthBy p m = some (g_db (g_tg l p) (m 106) (l 0 5).toNat, m) := by
  have h5 := hw.2.2.2.2.1
  apply o_eq
  unfold f_Mod_depthBy
  refine o_upF (fun n k (s : Int) => f_Mod_depthBy_l4 n p s k m) (fun k s => 0 ≤ k ∧ s = g_db (g_tg l p) (m 106) k.toNat ∧ 0 ≤ s ∧ s ≤ 1000) _ (k := 0) (e := l 0 5) h5.1 (by omega) ⟨by omega, rfl, by omega, by omega⟩ ?_ ?_
  · intro n k s hk ⟨h0, hs, hs0, hs1⟩ hn
    show q_ok (f_Mod_depthBy_b4 (f_Mod_depthBy_l4 n) p s k m) _
    unfold f_Mod_depthBy_b4 f_Mod_depthBy_b54
    have hr : -1 ≤ g_tg l p k ∧ g_tg l p k < 100 := g_mv_rg _ _ _ _ _ hw.1.2 hw.2.1.2
    have es := g_db_s (g_tg l p) (m 106) h0
    rw [← hs] at es
    simp (disch := omega) only [x_bd, x_rt, x_pf, x_lt, x_fi, x_rz0, x_rz1, x_rzi, x_pz0, x_pz1, x_rd, x_wr, x_wrz, x_dv, x_md, q_w_id, x_wi, x_i0, x_i1, x_max, x_min, x_abs, ↓reduceIte, Int.reduceEq, Int.reduceLT, Int.reduceLE, Int.reduceNeg, if_true, if_false, m_offsets h, m_readBy h hw hp ⟨h0, hk⟩]
    rw [if_neg (by omega)]
    by_cases c : g_tg l p k = -1
    · rw [if_neg (by omega)]
      refine hn _ ⟨by omega, ?_, hs0, hs1⟩
      rw [es, if_neg (by omega), if_pos c]
    · have hq := hD _ (g_tg_pt hw c)
      rw [if_pos (by omega)]
      simp (disch := omega) only [x_bd, x_rt, x_pf, x_lt, x_fi, x_rz0, x_rz1, x_rzi, x_pz0, x_pz1, x_rd, x_wr, x_wrz, x_dv, x_md, q_w_id, x_wi, x_i0, x_i1, x_max, x_min, x_abs, ↓reduceIte, Int.reduceEq, Int.reduceLT, Int.reduceLE, Int.reduceNeg, if_true, if_false, m_more (m := m) (show -2147483648 ≤ s ∧ s < 2147483648 by omega) (show -2147483648 ≤ m 106 (g_tg l p k) + 1 ∧ m 106 (g_tg l p k) + 1 < 2147483648 by omega)]
      refine o_if (fun c2 => hn _ ⟨by omega, ?_, by omega, by omega⟩) (fun c2 => o_some ⟨?_, rfl⟩)
      · rw [es, if_neg (by omega), if_neg c, if_neg (by omega)]
      · have hneg : g_db (g_tg l p) (m 106) (l 0 5).toNat < 0 := by
          refine Classical.byContradiction fun hh => ?_
          have := g_db_nn (Int.not_lt.mp hh) k h0 (by omega) c
          omega
        have := g_db_ge (g_tg l p) (m 106) (l 0 5).toNat
        omega
  · intro n s ⟨h0, hs, hs0, hs1⟩
    show q_ok (f_Mod_depthBy_b4 (f_Mod_depthBy_l4 n) p s (l 0 5) m) _
    unfold f_Mod_depthBy_b4
    rw [m_offsets h, x_bd, if_pos (Int.le_refl _)]
    exact o_some ⟨hs, rfl⟩
/-- what stands in the array so far: settled, or not yet -/
def g_part (l : q_Mem) (tg : Int → Int → Int) (S : Int → Prop) (D : Int → Int) (N : Int) : Prop := ∀ p, g_pt l p → D p = -1 ∨ (S p ∧ 0 ≤ D p ∧ D p < N ∧ D p = g_db (tg p) D (l 0 5).toNat)
def g_set (l : q_Mem) (D : Int → Int) : Int := g_cnt (fun p => decide (g_th (l 0 0) (l 0 1) p ∧ 0 ≤ D p)) 100
theorem g_set_rg (l : q_Mem) (D : Int → Int) : 0 ≤ g_set l D ∧ g_set l D ≤ 100 := g_cnt_rg _ _
theorem g_cnt_lt {P P' : Int → Bool} {n : Nat} (h : ∀ k : Int, 0 ≤ k → k < n → P k = true → P' k = true) {k : Int} (h0 : 0 ≤ k) (h1 : k < n) (hk : P k = false) (hk' : P' k = true) : g_cnt P n + 1 ≤ g_cnt P' n := by
  induction n with
  | zero => omega
  | succ n ih =>
    show g_cnt P n + (if P n = true then 1 else 0) + 1 ≤ g_cnt P' n + (if P' n = true then 1 else 0)
    by_cases hn : k = n
    · subst hn
      have : g_cnt P n ≤ g_cnt P' n := by
        clear ih
        have h' : ∀ k : Int, 0 ≤ k → k < n → P k = true → P' k = true := fun k a b => h k a (by omega)
        clear h h1 hk hk' h0
        induction n with
        | zero => exact Int.le_refl _
        | succ n ih =>
          show g_cnt P n + (if P n = true then 1 else 0) ≤ g_cnt P' n + (if P' n = true then 1 else 0)
          have i1 := ih (fun k a b => h' k a (by omega))
          have i2 := h' n (by omega) (by omega)
          grind
      rw [hk, hk']
      simp
      omega
    · have i1 := ih (fun k a b => h k a (by omega)) (by omega)
      have i2 := h n (by omega) (by omega)
      grind
/-- one more is settled -/
theorem g_part_up {l : q_Mem} (hw : g_lw l) {tg : Int → Int → Int} (htg : ∀ p k : Int, tg p k ≠ -1 → g_pt l (tg p k)) {S : Int → Prop} {D : Int → Int} {N : Int} (hN : 0 ≤ N) (h : g_part l tg S D N) {p : Int} (hp : g_pt l p) (hs : S p) (hd : D p = -1) :
    g_part l tg S (fun i => if i = p then g_db (tg p) D (l 0 5).toNat else D i) (if 0 ≤ g_db (tg p) D (l 0 5).toNat then N + 1 else N) := by
  have keep : ∀ q, g_pt l q → 0 ≤ D q → D q = g_db (tg q) D (l 0 5).toNat → g_db (tg q) (fun i => if i = p then g_db (tg p) D (l 0 5).toNat else D i) (l 0 5).toNat = g_db (tg q) D (l 0 5).toNat := by
    intro q hq h0 he
    refine g_db_congr (fun k k0 k1 k2 => ?_)
    have := g_db_nn (by rw [← he]; exact h0) k k0 k1 k2
    have hne : tg q k ≠ p := fun e => by rw [e] at this; omega
    simp [hne]
  intro q hq
  by_cases hqp : q = p
  · subst hqp
    simp only [if_true]
    by_cases c : 0 ≤ g_db (tg q) D (l 0 5).toNat
    · right
      refine ⟨hs, c, ?_, ?_⟩
      · rw [if_pos c]
        have := g_db_le (tg := tg q) (D := D) (B := N) hN (n := (l 0 5).toNat) (fun k _ _ k2 => by
          rcases h _ (htg q k k2) with h1 | h1
          · omega
          · exact h1.2.2.1)
        omega
      · refine g_db_congr (fun k k0 k1 k2 => ?_)
        have := g_db_nn c k k0 k1 k2
        have hne : tg q k ≠ q := fun e => by rw [e] at this; omega
        simp [hne]
    · left
      have := g_db_ge (tg q) D (l 0 5).toNat
      omega
  · simp only [if_neg hqp]
    rcases h q hq with h1 | h1
    · exact Or.inl h1
    · right
      refine ⟨h1.1, h1.2.1, ?_, ?_⟩
      · have := h1.2.2.1
        split <;> omega
      · rw [keep q hq h1.2.1 h1.2.2.2]; exact h1.2.2.2
theorem m_layDepths (h : g_ML m l) (hw : g_lw l) : q_ok (f_Mod_layDepths m) (fun _ m' => (∀ c, c ≠ 106 → m' c = m c) ∧ g_isD l (m' 106) ∧ ∀ p, g_pt l p → -1 ≤ m' 106 p ∧ m' 106 p < 100) := by
  have h5 := hw.2.2.2.2.1
  unfold f_Mod_layDepths
  refine o_upF (fun n k (s : q_Mem) => f_Mod_layDepths_l2 n k s) (fun k s => 0 ≤ k ∧ (∀ c, c ≠ 106 → s c = m c) ∧ ∀ p, 0 ≤ p → p < k → s 106 p = -1) _ (k := 0) (e := 100) (by omega) (by omega) ⟨by omega, fun _ _ => rfl, fun p h0 h1 => by omega⟩ ?_ ?_
  · intro n k s hk ⟨h0, hs, hf⟩ hn
    show q_ok (f_Mod_layDepths_b2 (f_Mod_layDepths_l2 n) k s) _
    unfold f_Mod_layDepths_b2
    simp (disch := omega) only [x_bd, x_rt, x_pf, x_lt, x_fi, x_rz0, x_rz1, x_rzi, x_pz0, x_pz1, x_rd, x_wr, x_wrz, x_dv, x_md, q_w_id, x_wi, x_i0, x_i1, x_max, x_min, x_abs, ↓reduceIte, Int.reduceEq, Int.reduceLT, Int.reduceLE, Int.reduceNeg, if_true, if_false]
    rw [if_neg (by omega)]
    refine hn _ ⟨by omega, fun c hc => by rw [q_up_f hc]; exact hs c hc, fun p p0 p1 => ?_⟩
    by_cases e : p = k
    · subst e; exact q_up_s _ _ _ _
    · rw [q_up_i e]; exact hf p p0 (by omega)
  · intro n s ⟨h0, hs, hf⟩
    show q_ok (f_Mod_layDepths_b2 (f_Mod_layDepths_l2 n) 100 s) _
    unfold f_Mod_layDepths_b2
    rw [q_wlit rfl, if_pos (by omega)]
    -- the rounds
    refine o_while (fun n (s : Int × q_Mem) => f_Mod_layDepths_l23 n s.1 s.2) (fun s => (∀ c, c ≠ 106 → s.2 c = m c) ∧ g_part l (g_tg l) (g_pt l) (s.2 106) (g_set l (s.2 106)) ∧ (s.1 = 0 ∨ s.1 = 1) ∧ (s.1 = 0 → g_isD l (s.2 106))) (fun s => (if s.1 = 0 then 0 else 1) + 2 * (100 - g_set l (s.2 106)).toNat) _ ?_ q_F (1, s) ?_ ?_
    · intro n ⟨c0, s⟩ ⟨hs, hp, hc, hd⟩ hn
      dsimp only at hs hp hc hd hn
      show q_ok (f_Mod_layDepths_b23 (f_Mod_layDepths_l23 n) c0 s) _
      unfold f_Mod_layDepths_b23
      rcases hc with rfl | rfl
      · rw [x_w0, if_pos rfl]
        refine o_rt ⟨hs, hd rfl, fun p hpp => ?_⟩
        have := g_set_rg l (s 106)
        rcases hp p hpp with h1 | h1
        · rw [h1]; omega
        · omega
      · rw [x_w1, if_neg (by decide)]
        have key : ∀ c1 s1, (∀ c, c ≠ 106 → s1 c = m c) → g_part l (g_tg l) (g_pt l) (s1 106) (g_set l (s1 106)) → (c1 = 0 ∧ g_isD l (s1 106) ∧ g_set l (s1 106) = g_set l (s 106)) ∨ (c1 = 1 ∧ g_set l (s 106) + 1 ≤ g_set l (s1 106)) → q_ok (f_Mod_layDepths_l23 n c1 s1) (fun _ m' => (∀ c, c ≠ 106 → m' c = m c) ∧ g_isD l (m' 106) ∧ ∀ p, g_pt l p → -1 ≤ m' 106 p ∧ m' 106 p < 100) := by
          intro c1 s1 hs1 hp1 hc1
          refine hn (c1, s1) ⟨hs1, hp1, ?_, ?_⟩ ?_
          · rcases hc1 with hc1 | hc1
            · exact Or.inl hc1.1
            · exact Or.inr hc1.1
          · intro e
            rcases hc1 with hc1 | hc1
            · exact hc1.2.1
            · have := hc1.1; simp at e; omega
          · have g1 := g_set_rg l (s 106)
            have g2 := g_set_rg l (s1 106)
            rcases hc1 with hc1 | hc1
            · simp [hc1.1]; omega
            · simp [hc1.1]; omega
        clear hn hd
        -- one round
        refine o_upF (fun n' k (s' : Int × q_Mem) => f_Mod_layDepths_l31 (f_Mod_layDepths_l23 n) n' s'.1 k s'.2) (fun k s' => 0 ≤ k ∧ (∀ c, c ≠ 106 → s'.2 c = m c) ∧ g_part l (g_tg l) (g_pt l) (s'.2 106) (g_set l (s'.2 106)) ∧ ((s'.1 = 0 ∧ (∀ p, g_pt l p → s'.2 106 p = s 106 p) ∧ ∀ p, g_pt l p → p < k → s'.2 106 p = g_db (g_tg l p) (s'.2 106) (l 0 5).toNat) ∨ (s'.1 = 1 ∧ g_set l (s 106) + 1 ≤ g_set l (s'.2 106)))) _ (k := 0) (e := 100) (s := (0, s)) (by omega) (by omega) ⟨by omega, hs, hp, Or.inl ⟨rfl, fun _ _ => rfl, fun p h1 h2 => by omega⟩⟩ ?_ ?_
        · intro n' k ⟨c1, s1⟩ hk ⟨h0, hs1, hp1, hc1⟩ hn'
          dsimp only at hs1 hp1 hc1 hn'
          show q_ok (f_Mod_layDepths_b31 (f_Mod_layDepths_l23 n) (f_Mod_layDepths_l31 (f_Mod_layDepths_l23 n) n') c1 k s1) _
          unfold f_Mod_layDepths_b31 f_Mod_layDepths_b87 f_Mod_layDepths_b86 f_Mod_layDepths_b81 f_Mod_layDepths_b87
          have hML : g_ML s1 l := g_ML_of h (by rw [hs1 81 (by omega)]) (fun c _ _ => hs1 c (by omega))
          have gs := g_set_rg l (s1 106)
          rw [q_w_id (x := k) (by omega) (by omega), if_neg (by omega), m_isThere hML hw ⟨h0, hk⟩, x_bd, x_ifb]
          by_cases ct : g_th (l 0 0) (l 0 1) k
          · rw [if_pos ct]
            have hpt : g_pt l k := ⟨⟨h0, hk⟩, ct⟩
            have hrg : -1 ≤ s1 106 k ∧ s1 106 k < 100 := by
              rcases hp1 k hpt with h1 | h1 <;> omega
            simp (disch := omega) only [x_bd, x_rt, x_pf, x_lt, x_fi, x_rz0, x_rz1, x_rzi, x_pz0, x_pz1, x_rd, x_wr, x_wrz, x_dv, x_md, q_w_id, x_wi, x_i0, x_i1, x_max, x_min, x_abs, ↓reduceIte, Int.reduceEq, Int.reduceLT, Int.reduceLE, Int.reduceNeg, if_true, if_false]
            by_cases cn : s1 106 k < 0
            · rw [if_pos cn]
              have hm1 : s1 106 k = -1 := by omega
              rw [m_depthBy hML hw ⟨h0, hk⟩ (fun q hq => by rcases hp1 q hq with h1 | h1 <;> omega), x_bd]
              have hge := g_db_ge (g_tg l k) (s1 106) (l 0 5).toNat
              have hle := g_db_le (tg := g_tg l k) (D := s1 106) (B := 100) (by omega) (n := (l 0 5).toNat) (fun q _ _ k2 => by rcases hp1 _ (g_tg_pt hw k2) with h1 | h1 <;> omega)
              simp (disch := omega) only [x_bd, x_rt, x_pf, x_lt, x_fi, x_rz0, x_rz1, x_rzi, x_pz0, x_pz1, x_rd, x_wr, x_wrz, x_dv, x_md, q_w_id, x_wi, x_i0, x_i1, x_max, x_min, x_abs, ↓reduceIte, Int.reduceEq, Int.reduceLT, Int.reduceLE, Int.reduceNeg, if_true, if_false, q_up_s]
              have hup := g_part_up hw (tg := g_tg l) (fun p k h => g_tg_pt hw h) (N := g_set l (s1 106)) gs.1 hp1 hpt hpt hm1
              have efun : q_up s1 106 k (g_db (g_tg l k) (s1 106) (l 0 5).toNat) 106 = fun i => if i = k then g_db (g_tg l k) (s1 106) (l 0 5).toNat else s1 106 i := by
                funext i
                simp [q_up]
              have hframe : ∀ c, c ≠ 106 → q_up s1 106 k (g_db (g_tg l k) (s1 106) (l 0 5).toNat) c = m c := fun c hc => by rw [q_up_f hc]; exact hs1 c hc
              by_cases cz : g_db (g_tg l k) (s1 106) (l 0 5).toNat < 0
              · -- not settled: nothing has changed
                have ez : g_db (g_tg l k) (s1 106) (l 0 5).toNat = -1 := by omega
                have esame : q_up s1 106 k (g_db (g_tg l k) (s1 106) (l 0 5).toNat) = s1 := by
                  funext c i
                  unfold q_up
                  split
                  · split
                    · subst_vars; omega
                    · rfl
                  · rfl
                rw [esame]
                rcases hc1 with hc1 | hc1
                · obtain ⟨rfl, e1, e2⟩ := hc1
                  rw [if_pos rfl, if_pos cz]
                  refine hn' (0, s1) ⟨by omega, hs1, hp1, Or.inl ⟨rfl, e1, fun p h1 h2 => ?_⟩⟩
                  by_cases e : p = k
                  · subst e; dsimp only; omega
                  · exact e2 p h1 (by omega)
                · obtain ⟨rfl, e1⟩ := hc1
                  rw [if_neg (by decide)]
                  exact hn' (1, s1) ⟨by omega, hs1, hp1, Or.inr ⟨rfl, e1⟩⟩
              · -- settled now
                have hcnt : g_set l (s1 106) + 1 ≤ g_set l (q_up s1 106 k (g_db (g_tg l k) (s1 106) (l 0 5).toNat) 106) := by
                  refine g_cnt_lt (k := k) (fun q q0 q1 hq => ?_) h0 (by omega) ?_ ?_
                  · simp only [decide_eq_true_eq] at hq ⊢
                    refine ⟨hq.1, ?_⟩
                    rw [efun]
                    show 0 ≤ if q = k then _ else s1 106 q
                    split
                    · omega
                    · exact hq.2
                  · simp; omega
                  · simp only [decide_eq_true_eq]
                    exact ⟨ct, by rw [q_up_s]; omega⟩
                have hpart : g_part l (g_tg l) (g_pt l) (q_up s1 106 k (g_db (g_tg l k) (s1 106) (l 0 5).toNat) 106) (g_set l (q_up s1 106 k (g_db (g_tg l k) (s1 106) (l 0 5).toNat) 106)) := by
                  intro p hpp
                  rw [efun] at hcnt ⊢
                  rw [if_pos (by omega)] at hup
                  rcases hup p hpp with h1 | h1
                  · exact Or.inl h1
                  · exact Or.inr ⟨h1.1, h1.2.1, by omega, h1.2.2.2⟩
                have hge' : g_set l (s 106) + 1 ≤ g_set l (q_up s1 106 k (g_db (g_tg l k) (s1 106) (l 0 5).toNat) 106) := by
                  rcases hc1 with hc1 | hc1
                  · have : g_set l (s1 106) = g_set l (s 106) := g_cnt_congr (fun q q0 q1 => by
                      by_cases ctq : g_th (l 0 0) (l 0 1) q
                      · rw [hc1.2.1 q ⟨⟨q0, by omega⟩, ctq⟩]
                      · simp [ctq])
                    omega
                  · omega
                have fin : q_ok (f_Mod_layDepths_l31 (f_Mod_layDepths_l23 n) n' 1 (k + 1) (q_up s1 106 k (g_db (g_tg l k) (s1 106) (l 0 5).toNat))) _ := hn' (1, q_up s1 106 k (g_db (g_tg l k) (s1 106) (l 0 5).toNat)) ⟨by omega, hframe, hpart, Or.inr ⟨rfl, hge'⟩⟩
                rw [if_neg cz]
                split
                · exact fin
                · exact fin
            · rw [if_neg cn]
              refine hn' (c1, s1) ⟨by omega, hs1, hp1, ?_⟩
              rcases hc1 with hc1 | hc1
              · refine Or.inl ⟨hc1.1, hc1.2.1, fun p h1 h2 => ?_⟩
                by_cases e : p = k
                · subst e
                  rcases hp1 p hpt with h3 | h3
                  · show s1 106 p = _
                    omega
                  · exact h3.2.2.2
                · exact hc1.2.2 p h1 (by omega)
              · exact Or.inr hc1
          · rw [if_neg ct]
            refine hn' (c1, s1) ⟨by omega, hs1, hp1, ?_⟩
            rcases hc1 with hc1 | hc1
            · refine Or.inl ⟨hc1.1, hc1.2.1, fun p h1 h2 => ?_⟩
              by_cases e : p = k
              · subst e; exact absurd h1.2 ct
              · exact hc1.2.2 p h1 (by omega)
            · exact Or.inr hc1
        · intro n' ⟨c1, s1⟩ ⟨h0, hs1, hp1, hc1⟩
          dsimp only at hs1 hp1 hc1
          show q_ok (f_Mod_layDepths_b31 (f_Mod_layDepths_l23 n) (f_Mod_layDepths_l31 (f_Mod_layDepths_l23 n) n') c1 100 s1) _
          unfold f_Mod_layDepths_b31
          rw [q_wlit rfl, if_pos (by omega)]
          refine key c1 s1 hs1 hp1 ?_
          rcases hc1 with hc1 | hc1
          · refine Or.inl ⟨hc1.1, fun p hpp => hc1.2.2 p hpp hpp.1.2, ?_⟩
            exact g_cnt_congr (fun q q0 q1 => by
              by_cases ctq : g_th (l 0 0) (l 0 1) q
              · show decide (_ ∧ 0 ≤ s1 106 q) = _
                rw [hc1.2.1 q ⟨⟨q0, by omega⟩, ctq⟩]
              · simp [ctq])
          · exact Or.inr hc1
    · have := g_set_rg l (s 106)
      show (if (1 : Int) = 0 then 0 else 1) + 2 * (100 - g_set l (s 106)).toNat < q_F
      rw [show q_F = 20000 from rfl, if_neg (by decide)]
      omega
    · refine ⟨hs, fun p hp => Or.inl (hf p hp.1.1 hp.1.2), Or.inr rfl, fun e => by simp at e⟩
end mdep
