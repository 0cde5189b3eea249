/-! THE MODEL's HEIGHTS -/
abbrev g_od (l : q_Mem) (D : Int → Int) (p : Int) : Prop := g_pt l p ∧ 0 ≤ D p
def g_isH (l : q_Mem) (D H : Int → Int) : Prop := (∀ p, g_pt l p → 0 ≤ D p → H p = g_db (g_rr l p) H (l 0 5).toNat) ∧ ∀ p, g_pt l p → D p < 0 → H p = -1
theorem g_H_uniq {l : q_Mem} (hw : g_lw l) {D D' H H' : Int → Int} (hD : ∀ p, g_pt l p → D p = D' p) (h : g_isH l D H) (h' : g_isH l D' H') : ∀ p, g_pt l p → H p = H' p :=
  g_uniq (tg := g_rr l) (n := (l 0 5).toNat) (S := g_od l D) (Dom := g_pt l) (fun _ _ _ _ _ h => g_rr_pt hw h) (fun p hp => h.1 p hp.1 hp.2) (fun p hp => h'.1 p hp.1 (by rw [← hD p hp.1]; exact hp.2)) (fun p hp hn => h.2 p hp (Int.not_le.mp fun q => hn ⟨hp, q⟩)) (fun p hp hn => h'.2 p hp (by rw [← hD p hp]; exact Int.not_le.mp fun q => hn ⟨hp, q⟩))
section mhei
variable {m l : q_Mem}
theorem m_heightBy (h : g_ML m l) (hw : g_lw l) {p : Int} (hp : 0 ≤ p ∧ p < 100) (hD : ∀ q, g_pt l q → -1 ≤ m 107 q ∧ m 107 q < 1000) : f_Mod_heightBy p m = some (g_db (g_rr l p) (m 107) (l 0 5).toNat, m) := by
  have h5 := hw.2.2.2.2.1
  apply o_eq
  unfold f_Mod_heightBy
  refine o_upF (fun n k (s : Int) => f_Mod_heightBy_l4 n p s k m) (fun k s => 0 ≤ k ∧ s = g_db (g_rr l p) (m 107) k.toNat ∧ 0 ≤ s ∧ s ≤ 1000) _ (k := 0) (e := l 0 5) h5.1 (by omega) ⟨by omega, rfl, by omega, by omega⟩ ?_ ?_
  · intro n k s hk ⟨h0, hs, hs0, hs1⟩ hn
    show q_ok (f_Mod_heightBy_b4 (f_Mod_heightBy_l4 n) p s k m) _
    unfold f_Mod_heightBy_b4 f_Mod_heightBy_b54
    have hr : -1 ≤ g_rr l p k ∧ g_rr l p k < 100 := g_mv_rg _ _ _ _ _ hw.1.2 hw.2.1.2
    have es := g_db_s (g_rr l p) (m 107) h0
    rw [← hs] at es
    simp (disch := omega) only [x_bd, x_rt, x_pf, x_lt, x_fi, x_rz0, x_rz1, x_rzi, x_pz0, x_pz1, x_rd, x_wr, x_wrz, x_dv, x_md, q_w_id, x_wi, x_i0, x_i1, x_max, x_min, x_abs, ↓reduceIte, Int.reduceEq, Int.reduceLT, Int.reduceLE, Int.reduceNeg, if_true, if_false, m_offsets h, m_readerBy h hw hp ⟨h0, hk⟩]
    rw [if_neg (by omega)]
    by_cases c : g_rr l p k = -1
    · rw [if_neg (by omega)]
      refine hn _ ⟨by omega, ?_, hs0, hs1⟩
      rw [es, if_neg (by omega), if_pos c]
    · have hq := hD _ (g_rr_pt hw c)
      rw [if_pos (by omega)]
      simp (disch := omega) only [x_bd, x_rt, x_pf, x_lt, x_fi, x_rz0, x_rz1, x_rzi, x_pz0, x_pz1, x_rd, x_wr, x_wrz, x_dv, x_md, q_w_id, x_wi, x_i0, x_i1, x_max, x_min, x_abs, ↓reduceIte, Int.reduceEq, Int.reduceLT, Int.reduceLE, Int.reduceNeg, if_true, if_false, m_more (m := m) (show -2147483648 ≤ s ∧ s < 2147483648 by omega) (show -2147483648 ≤ m 107 (g_rr l p k) + 1 ∧ m 107 (g_rr l p k) + 1 < 2147483648 by omega)]
      refine o_if (fun c2 => hn _ ⟨by omega, ?_, by omega, by omega⟩) (fun c2 => o_some ⟨?_, rfl⟩)
      · rw [es, if_neg (by omega), if_neg c, if_neg (by omega)]
      · have hneg : g_db (g_rr l p) (m 107) (l 0 5).toNat < 0 := by
          refine Classical.byContradiction fun hh => ?_
          have := g_db_nn (Int.not_lt.mp hh) k h0 (by omega) c
          omega
        have := g_db_ge (g_rr l p) (m 107) (l 0 5).toNat
        omega
  · intro n s ⟨h0, hs, hs0, hs1⟩
    show q_ok (f_Mod_heightBy_b4 (f_Mod_heightBy_l4 n) p s (l 0 5) m) _
    unfold f_Mod_heightBy_b4
    rw [m_offsets h, x_bd, if_pos (Int.le_refl _)]
    exact o_some ⟨hs, rfl⟩
theorem m_layHeights1 (h : g_ML m l) (hw : g_lw l) (hD : ∀ p, g_pt l p → -1 ≤ m 106 p ∧ m 106 p < 100) : q_ok (f_Mod_layHeights_l6 q_F 0 m) (fun _ m' => (∀ c, c ≠ 107 → m' c = m c) ∧ g_isH l (m 106) (m' 107) ∧ ∀ p, g_pt l p → -1 ≤ m' 107 p ∧ m' 107 p < 100) := by
  have h5 := hw.2.2.2.2.1
  refine o_upF (fun n k (s : q_Mem) => f_Mod_layHeights_l6 n k s) (fun k s => 0 ≤ k ∧ (∀ c, c ≠ 107 → s c = m c) ∧ ∀ p, 0 ≤ p → p < k → s 107 p = -1) _ (k := 0) (e := 100) (by omega) (by omega) ⟨by omega, fun _ _ => rfl, fun p h0 h1 => by omega⟩ ?_ ?_
  · intro n k s hk ⟨h0, hs, hf⟩ hn
    show q_ok (f_Mod_layHeights_b6 (f_Mod_layHeights_l6 n) k s) _
    unfold f_Mod_layHeights_b6
    simp (disch := omega) only [x_bd, x_rt, x_pf, x_lt, x_fi, x_rz0, x_rz1, x_rzi, x_pz0, x_pz1, x_rd, x_wr, x_wrz, x_dv, x_md, q_w_id, x_wi, x_i0, x_i1, x_max, x_min, x_abs, ↓reduceIte, Int.reduceEq, Int.reduceLT, Int.reduceLE, Int.reduceNeg, if_true, if_false]
    rw [if_neg (by omega)]
    refine hn _ ⟨by omega, fun c hc => by rw [q_up_f hc]; exact hs c hc, fun p p0 p1 => ?_⟩
    by_cases e : p = k
    · subst e; exact q_up_s _ _ _ _
    · rw [q_up_i e]; exact hf p p0 (by omega)
  · intro n s ⟨h0, hs, hf⟩
    show q_ok (f_Mod_layHeights_b6 (f_Mod_layHeights_l6 n) 100 s) _
    unfold f_Mod_layHeights_b6
    rw [q_wlit rfl, if_pos (by omega)]
    -- the rounds
    refine o_while (fun n (s : Int × q_Mem) => f_Mod_layHeights_l27 n s.1 s.2) (fun s => (∀ c, c ≠ 107 → s.2 c = m c) ∧ g_part l (g_rr l) (g_od l (m 106)) (s.2 107) (g_set l (s.2 107)) ∧ (s.1 = 0 ∨ s.1 = 1) ∧ (s.1 = 0 → g_isH l (m 106) (s.2 107))) (fun s => (if s.1 = 0 then 0 else 1) + 2 * (100 - g_set l (s.2 107)).toNat) _ ?_ q_F (1, s) ?_ ?_
    · intro n ⟨c0, s⟩ ⟨hs, hp, hc, hd⟩ hn
      dsimp only at hs hp hc hd hn
      show q_ok (f_Mod_layHeights_b27 (f_Mod_layHeights_l27 n) c0 s) _
      unfold f_Mod_layHeights_b27
      rcases hc with rfl | rfl
      · rw [x_w0, if_pos rfl]
        refine o_rt ⟨hs, hd rfl, fun p hpp => ?_⟩
        have := g_set_rg l (s 107)
        rcases hp p hpp with h1 | h1
        · rw [h1]; omega
        · omega
      · rw [x_w1, if_neg (by decide)]
        have key : ∀ c1 s1, (∀ c, c ≠ 107 → s1 c = m c) → g_part l (g_rr l) (g_od l (m 106)) (s1 107) (g_set l (s1 107)) → (c1 = 0 ∧ g_isH l (m 106) (s1 107) ∧ g_set l (s1 107) = g_set l (s 107)) ∨ (c1 = 1 ∧ g_set l (s 107) + 1 ≤ g_set l (s1 107)) → q_ok (f_Mod_layHeights_l27 n c1 s1) (fun _ m' => (∀ c, c ≠ 107 → m' c = m c) ∧ g_isH l (m 106) (m' 107) ∧ ∀ p, g_pt l p → -1 ≤ m' 107 p ∧ m' 107 p < 100) := by
          intro c1 s1 hs1 hp1 hc1
          refine hn (c1, s1) ⟨hs1, hp1, ?_, ?_⟩ ?_
          · rcases hc1 with hc1 | hc1
            · exact Or.inl hc1.1
            · exact Or.inr hc1.1
          · intro e
            rcases hc1 with hc1 | hc1
            · exact hc1.2.1
            · have := hc1.1; simp at e; omega
          · have g1 := g_set_rg l (s 107)
            have g2 := g_set_rg l (s1 107)
            rcases hc1 with hc1 | hc1
            · simp [hc1.1]; omega
            · simp [hc1.1]; omega
        clear hn hd
        -- one round
        refine o_upF (fun n' k (s' : Int × q_Mem) => f_Mod_layHeights_l35 (f_Mod_layHeights_l27 n) n' s'.1 k s'.2) (fun k s' => 0 ≤ k ∧ (∀ c, c ≠ 107 → s'.2 c = m c) ∧ g_part l (g_rr l) (g_od l (m 106)) (s'.2 107) (g_set l (s'.2 107)) ∧ ((s'.1 = 0 ∧ (∀ p, g_pt l p → s'.2 107 p = s 107 p) ∧ ∀ p, g_pt l p → 0 ≤ m 106 p → p < k → s'.2 107 p = g_db (g_rr l p) (s'.2 107) (l 0 5).toNat) ∨ (s'.1 = 1 ∧ g_set l (s 107) + 1 ≤ g_set l (s'.2 107)))) _ (k := 0) (e := 100) (s := (0, s)) (by omega) (by omega) ⟨by omega, hs, hp, Or.inl ⟨rfl, fun _ _ => rfl, fun p h1 h1' h2 => by omega⟩⟩ ?_ ?_
        · intro n' k ⟨c1, s1⟩ hk ⟨h0, hs1, hp1, hc1⟩ hn'
          dsimp only at hs1 hp1 hc1 hn'
          show q_ok (f_Mod_layHeights_b35 (f_Mod_layHeights_l27 n) (f_Mod_layHeights_l35 (f_Mod_layHeights_l27 n) n') c1 k s1) _
          unfold f_Mod_layHeights_b35 f_Mod_layHeights_b100 f_Mod_layHeights_b99 f_Mod_layHeights_b94 f_Mod_layHeights_b100
          have hML : g_ML s1 l := g_ML_of h (by rw [hs1 81 (by omega)]) (fun c _ _ => hs1 c (by omega))
          have gs := g_set_rg l (s1 107)
          rw [q_w_id (x := k) (by omega) (by omega), if_neg (by omega), m_isThere hML hw ⟨h0, hk⟩, x_bd, x_ifb]
          by_cases ct : g_th (l 0 0) (l 0 1) k
          · rw [if_pos ct]
            have hpt : g_pt l k := ⟨⟨h0, hk⟩, ct⟩
            have hDk := hD k hpt
            have e106 : s1 106 k = m 106 k := by rw [hs1 106 (by omega)]
            rw [x_rd (n := 100) h0 hk (by decide), e106, q_w_id (x := m 106 k) (by omega) (by omega)]
            by_cases cd : m 106 k < 0
            · rw [if_pos cd]
              refine hn' (c1, s1) ⟨by omega, hs1, hp1, ?_⟩
              rcases hc1 with hc1 | hc1
              · refine Or.inl ⟨hc1.1, hc1.2.1, fun p h1 h1' h2 => ?_⟩
                by_cases e : p = k
                · subst e; omega
                · exact hc1.2.2 p h1 h1' (by omega)
              · exact Or.inr hc1
            rw [if_neg cd]
            have hrg : -1 ≤ s1 107 k ∧ s1 107 k < 100 := by
              rcases hp1 k hpt with h1 | h1 <;> omega
            simp (disch := omega) only [x_bd, x_rt, x_pf, x_lt, x_fi, x_rz0, x_rz1, x_rzi, x_pz0, x_pz1, x_rd, x_wr, x_wrz, x_dv, x_md, q_w_id, x_wi, x_i0, x_i1, x_max, x_min, x_abs, ↓reduceIte, Int.reduceEq, Int.reduceLT, Int.reduceLE, Int.reduceNeg, if_true, if_false]
            by_cases cn : s1 107 k < 0
            · rw [if_pos cn]
              have hm1 : s1 107 k = -1 := by omega
              rw [m_heightBy hML hw ⟨h0, hk⟩ (fun q hq => by rcases hp1 q hq with h1 | h1 <;> omega), x_bd]
              have hge := g_db_ge (g_rr l k) (s1 107) (l 0 5).toNat
              have hle := g_db_le (tg := g_rr l k) (D := s1 107) (B := 100) (by omega) (n := (l 0 5).toNat) (fun q _ _ k2 => by rcases hp1 _ (g_rr_pt hw k2) with h1 | h1 <;> omega)
              simp (disch := omega) only [x_bd, x_rt, x_pf, x_lt, x_fi, x_rz0, x_rz1, x_rzi, x_pz0, x_pz1, x_rd, x_wr, x_wrz, x_dv, x_md, q_w_id, x_wi, x_i0, x_i1, x_max, x_min, x_abs, ↓reduceIte, Int.reduceEq, Int.reduceLT, Int.reduceLE, Int.reduceNeg, if_true, if_false, q_up_s]
              have hup := g_part_up hw (tg := g_rr l) (fun p k h => g_rr_pt hw h) (N := g_set l (s1 107)) gs.1 hp1 hpt ⟨hpt, by omega⟩ hm1
              have efun : q_up s1 107 k (g_db (g_rr l k) (s1 107) (l 0 5).toNat) 107 = fun i => if i = k then g_db (g_rr l k) (s1 107) (l 0 5).toNat else s1 107 i := by
                funext i
                simp [q_up]
              have hframe : ∀ c, c ≠ 107 → q_up s1 107 k (g_db (g_rr l k) (s1 107) (l 0 5).toNat) c = m c := fun c hc => by rw [q_up_f hc]; exact hs1 c hc
              by_cases cz : g_db (g_rr l k) (s1 107) (l 0 5).toNat < 0
              · -- not settled: nothing has changed
                have ez : g_db (g_rr l k) (s1 107) (l 0 5).toNat = -1 := by omega
                have esame : q_up s1 107 k (g_db (g_rr l k) (s1 107) (l 0 5).toNat) = s1 := by
                  funext c i
                  unfold q_up
                  split
                  · split
                    · subst_vars; omega
                    · rfl
                  · rfl
                rw [esame]
                rcases hc1 with hc1 | hc1
                · obtain ⟨rfl, e1, e2⟩ := hc1
                  rw [if_pos rfl, if_pos cz]
                  refine hn' (0, s1) ⟨by omega, hs1, hp1, Or.inl ⟨rfl, e1, fun p h1 h1' h2 => ?_⟩⟩
                  by_cases e : p = k
                  · subst e; dsimp only; omega
                  · exact e2 p h1 h1' (by omega)
                · obtain ⟨rfl, e1⟩ := hc1
                  rw [if_neg (by decide)]
                  exact hn' (1, s1) ⟨by omega, hs1, hp1, Or.inr ⟨rfl, e1⟩⟩
              · -- settled now
                have hcnt : g_set l (s1 107) + 1 ≤ g_set l (q_up s1 107 k (g_db (g_rr l k) (s1 107) (l 0 5).toNat) 107) := by
                  refine g_cnt_lt (k := k) (fun q q0 q1 hq => ?_) h0 (by omega) ?_ ?_
                  · simp only [decide_eq_true_eq] at hq ⊢
                    refine ⟨hq.1, ?_⟩
                    rw [efun]
                    show 0 ≤ if q = k then _ else s1 107 q
                    split
                    · omega
                    · exact hq.2
                  · simp; omega
                  · simp only [decide_eq_true_eq]
                    exact ⟨ct, by rw [q_up_s]; omega⟩
                have hpart : g_part l (g_rr l) (g_od l (m 106)) (q_up s1 107 k (g_db (g_rr l k) (s1 107) (l 0 5).toNat) 107) (g_set l (q_up s1 107 k (g_db (g_rr l k) (s1 107) (l 0 5).toNat) 107)) := by
                  intro p hpp
                  rw [efun] at hcnt ⊢
                  rw [if_pos (by omega)] at hup
                  rcases hup p hpp with h1 | h1
                  · exact Or.inl h1
                  · exact Or.inr ⟨h1.1, h1.2.1, by omega, h1.2.2.2⟩
                have hge' : g_set l (s 107) + 1 ≤ g_set l (q_up s1 107 k (g_db (g_rr l k) (s1 107) (l 0 5).toNat) 107) := by
                  rcases hc1 with hc1 | hc1
                  · have : g_set l (s1 107) = g_set l (s 107) := g_cnt_congr (fun q q0 q1 => by
                      by_cases ctq : g_th (l 0 0) (l 0 1) q
                      · rw [hc1.2.1 q ⟨⟨q0, by omega⟩, ctq⟩]
                      · simp [ctq])
                    omega
                  · omega
                have fin : q_ok (f_Mod_layHeights_l35 (f_Mod_layHeights_l27 n) n' 1 (k + 1) (q_up s1 107 k (g_db (g_rr l k) (s1 107) (l 0 5).toNat))) _ := hn' (1, q_up s1 107 k (g_db (g_rr l k) (s1 107) (l 0 5).toNat)) ⟨by omega, hframe, hpart, Or.inr ⟨rfl, hge'⟩⟩
                rw [if_neg cz]
                split
                · exact fin
                · exact fin
            · rw [if_neg cn]
              refine hn' (c1, s1) ⟨by omega, hs1, hp1, ?_⟩
              rcases hc1 with hc1 | hc1
              · refine Or.inl ⟨hc1.1, hc1.2.1, fun p h1 h1' h2 => ?_⟩
                by_cases e : p = k
                · subst e
                  rcases hp1 p hpt with h3 | h3
                  · show s1 107 p = _
                    omega
                  · exact h3.2.2.2
                · exact hc1.2.2 p h1 h1' (by omega)
              · exact Or.inr hc1
          · rw [if_neg ct]
            refine hn' (c1, s1) ⟨by omega, hs1, hp1, ?_⟩
            rcases hc1 with hc1 | hc1
            · refine Or.inl ⟨hc1.1, hc1.2.1, fun p h1 h1' h2 => ?_⟩
              by_cases e : p = k
              · subst e; exact absurd h1.2 ct
              · exact hc1.2.2 p h1 h1' (by omega)
            · exact Or.inr hc1
        · intro n' ⟨c1, s1⟩ ⟨h0, hs1, hp1, hc1⟩
          dsimp only at hs1 hp1 hc1
          show q_ok (f_Mod_layHeights_b35 (f_Mod_layHeights_l27 n) (f_Mod_layHeights_l35 (f_Mod_layHeights_l27 n) n') c1 100 s1) _
          unfold f_Mod_layHeights_b35
          rw [q_wlit rfl, if_pos (by omega)]
          refine key c1 s1 hs1 hp1 ?_
          rcases hc1 with hc1 | hc1
          · refine Or.inl ⟨hc1.1, ⟨fun p hpp hp0 => hc1.2.2 p hpp hp0 hpp.1.2, fun p hpp hpn => ?_⟩, ?_⟩
            · rcases hp1 p hpp with h3 | h3
              · exact h3
              · have := h3.1.2; omega
            exact g_cnt_congr (fun q q0 q1 => by
              by_cases ctq : g_th (l 0 0) (l 0 1) q
              · show decide (_ ∧ 0 ≤ s1 107 q) = _
                rw [hc1.2.1 q ⟨⟨q0, by omega⟩, ctq⟩]
              · simp [ctq])
          · exact Or.inr hc1
    · have := g_set_rg l (s 107)
      show (if (1 : Int) = 0 then 0 else 1) + 2 * (100 - g_set l (s 107)).toNat < q_F
      rw [show q_F = 20000 from rfl, if_neg (by decide)]
      omega
    · refine ⟨hs, fun p hp => Or.inl (hf p hp.1.1 hp.1.2), Or.inr rfl, fun e => by simp at e⟩
theorem m_layHeights (h : g_ML m l) (hw : g_lw l) : q_ok (f_Mod_layHeights m) (fun _ m' => (∀ c, c ≠ 106 → c ≠ 107 → m' c = m c) ∧ g_isD l (m' 106) ∧ g_isH l (m' 106) (m' 107) ∧ (∀ p, g_pt l p → -1 ≤ m' 106 p ∧ m' 106 p < 100) ∧ ∀ p, g_pt l p → -1 ≤ m' 107 p ∧ m' 107 p < 100) := by
  unfold f_Mod_layHeights
  refine o_bd (m_layDepths h hw) (fun _ m1 ⟨h1, h2, h3⟩ => ?_)
  have hML : g_ML m1 l := g_ML_of h (by rw [h1 81 (by omega)]) (fun c _ _ => h1 c (by omega))
  refine o_mono (m_layHeights1 hML hw h3) (fun _ m2 ⟨g1, g2, g3⟩ => ⟨fun c c1 c2 => by rw [g1 c c2]; exact h1 c c1, ?_, ?_, ?_, g3⟩)
  · rw [g1 106 (by omega)]; exact h2
  · rw [g1 106 (by omega)]; exact g2
  · rw [g1 106 (by omega)]; exact h3
end mhei
