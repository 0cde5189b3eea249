/-! QUESTION: total, the model's side -/
theorem g_sum_s (F : Int → Int) {k : Int} (h : 0 ≤ k) : g_sum F (k + 1).toNat = g_sum F k.toNat + F k := by
  rw [show (k + 1).toNat = k.toNat + 1 by omega]
  show g_sum F k.toNat + F (k.toNat : Int) = _
  rw [Int.toNat_of_nonneg h]
/-- the best and the worst of those below k -/
def f_bw (l : q_Mem) (A : Int → Prop) (V : Int → Int) (k b w : Int) : Prop := (b = -1 ∧ w = -1 ∧ ∀ p, g_pt l p → p < k → ¬ A p) ∨ (g_pt l b ∧ A b ∧ (∀ q, g_pt l q → q < k → A q → q_w (V q) ≤ q_w (V b) ∧ (q < b → q_w (V q) < q_w (V b))) ∧ g_pt l w ∧ A w ∧ b < k ∧ ∀ q, g_pt l q → q < k → A q → q_w (V w) ≤ q_w (V q))
section total2
variable {l m : q_Mem} {o : Int → Int}
theorem f_bw_skip {A : Int → Prop} {V : Int → Int} {k b w : Int} (h : f_bw l A V k b w) (hk : ¬ (g_pt l k ∧ A k)) : f_bw l A V (k + 1) b w := by
  have hx : ∀ q, g_pt l q → q < k + 1 → A q → q < k := by
    intro q hq hlt ha
    refine Classical.byContradiction fun hn => ?_
    have : q = k := by omega
    rw [this] at hq ha
    exact hk ⟨hq, ha⟩
  rcases h with ⟨h1, h2, h3⟩ | ⟨h1, h2, h3, h4, h5, h6, h7⟩
  · exact Or.inl ⟨h1, h2, fun p hp hlt ha => h3 p hp (hx p hp hlt ha) ha⟩
  · exact Or.inr ⟨h1, h2, fun q hq hlt ha => h3 q hq (hx q hq hlt ha) ha, h4, h5, by omega, fun q hq hlt ha => h7 q hq (hx q hq hlt ha) ha⟩
theorem f_bw_take {A : Int → Prop} {V : Int → Int} {k b w : Int} (h : f_bw l A V k b w) (hk : g_pt l k) (ha : A k) : f_bw l A V (k + 1) (if b < 0 then k else if q_w (V k) ≤ q_w (V b) then b else k) (if w < 0 then k else if q_w (V w) ≤ q_w (V k) then w else k) := by
  rcases h with ⟨h1, h2, h3⟩ | ⟨h1, h2, h3, h4, h5, h6, h7⟩
  · rw [h1, h2, if_pos (by decide), if_pos (by decide)]
    have hx : ∀ q, g_pt l q → q < k + 1 → A q → q = k := by
      intro q hq hlt hA
      refine Classical.byContradiction fun hn => ?_
      exact h3 q hq (by omega) hA
    refine Or.inr ⟨hk, ha, fun q hq hlt hA => ?_, hk, ha, by omega, fun q hq hlt hA => ?_⟩
    · rw [hx q hq hlt hA]; exact ⟨Int.le_refl _, fun h => by omega⟩
    · rw [hx q hq hlt hA]; exact Int.le_refl _
  · have hb := h1.1
    have hw := h4.1
    rw [if_neg (show ¬ b < 0 by omega), if_neg (show ¬ w < 0 by omega)]
    refine Or.inr ?_
    have hx : ∀ q, q < k + 1 → q = k ∨ q < k := by intro q hq; omega
    by_cases c3 : q_w (V k) ≤ q_w (V b)
    · rw [if_pos c3]
      refine ⟨h1, h2, fun q hq hlt hA => ?_, ?_⟩
      · rcases hx q hlt with e | e
        · rw [e]; exact ⟨c3, fun h => by omega⟩
        · exact h3 q hq e hA
      · by_cases c4 : q_w (V w) ≤ q_w (V k)
        · rw [if_pos c4]
          refine ⟨h4, h5, by omega, fun q hq hlt hA => ?_⟩
          rcases hx q hlt with e | e
          · rw [e]; exact c4
          · exact h7 q hq e hA
        · rw [if_neg c4]
          refine ⟨hk, ha, by omega, fun q hq hlt hA => ?_⟩
          rcases hx q hlt with e | e
          · rw [e]; exact Int.le_refl _
          · have := h7 q hq e hA; omega
    · rw [if_neg c3]
      refine ⟨hk, ha, fun q hq hlt hA => ?_, ?_⟩
      · rcases hx q hlt with e | e
        · rw [e]; exact ⟨Int.le_refl _, fun h => by omega⟩
        · have := h3 q hq e hA; exact ⟨by omega, fun _ => by omega⟩
      · by_cases c4 : q_w (V w) ≤ q_w (V k)
        · rw [if_pos c4]
          refine ⟨h4, h5, by omega, fun q hq hlt hA => ?_⟩
          rcases hx q hlt with e | e
          · rw [e]; exact c4
          · exact h7 q hq e hA
        · rw [if_neg c4]
          refine ⟨hk, ha, by omega, fun q hq hlt hA => ?_⟩
          rcases hx q hlt with e | e
          · rw [e]; exact Int.le_refl _
          · have := h7 q hq e hA; omega
theorem f_bw_congr {A A' : Int → Prop} {V V' : Int → Int} {k b w : Int} (h : f_bw l A V k b w) (hA : ∀ p, g_pt l p → (A p ↔ A' p)) (hV : ∀ p, g_pt l p → V p = V' p) : f_bw l A' V' k b w := by
  rcases h with ⟨h1, h2, h3⟩ | ⟨h1, h2, h3, h4, h5, h6, h7⟩
  · exact Or.inl ⟨h1, h2, fun p hp hlt ha => h3 p hp hlt ((hA p hp).mpr ha)⟩
  · refine Or.inr ⟨h1, (hA b h1).mp h2, fun q hq hlt ha => ?_, h4, (hA w h4).mp h5, h6, fun q hq hlt ha => ?_⟩
    · rw [← hV q hq, ← hV b h1]; exact h3 q hq hlt ((hA q hq).mpr ha)
    · rw [← hV q hq, ← hV w h4]; exact h7 q hq hlt ((hA q hq).mpr ha)
theorem f_bw_gr {A : Int → Prop} {V : Int → Int} {b w : Int} (h : f_bw l A V 100 b w) : f_gr l A V b ∧ (b ≠ -1 → g_pt l w ∧ f_le l A V (V w)) := by
  rcases h with ⟨h1, h2, h3⟩ | ⟨h1, h2, h3, h4, h5, h6, h7⟩
  · exact ⟨Or.inl ⟨h1, fun p hp => h3 p hp hp.1.2⟩, fun h => absurd h1 h⟩
  · exact ⟨Or.inr ⟨h1, h2, fun q hq hA => h3 q hq hq.1.2 hA⟩, fun _ => ⟨h4, ⟨w, h4, h5, rfl⟩, fun q hq hA => h7 q hq hq.1.2 hA⟩⟩
theorem f_bw_rg {A : Int → Prop} {V : Int → Int} {k b w : Int} (h : f_bw l A V k b w) : (-1 ≤ b ∧ b < 100) ∧ (-1 ≤ w ∧ w < 100) ∧ (b < 0 ↔ w < 0) := by
  rcases h with ⟨h1, h2, h3⟩ | ⟨h1, h2, h3, h4, h5, h6, h7⟩
  · omega
  · have := h1.1
    have := h4.1
    omega
theorem m_total (hg : g_lw l) (h : g_ML m l) (hD : ∀ p, g_pt l p → -1 ≤ m 106 p ∧ m 106 p < 100) {v y : Int} (hv : 0 ≤ v ∧ v < 3) (hy : 0 ≤ y ∧ y ≤ 3) : q_ok (f_Mod_total_l43 q_F v y 0 (-1) (-1) 0 m) (fun r m' => m' = m ∧ ∃ b w, f_bw l (fun p => 0 ≤ m 106 p) (fun p => m 110 (100 * v + p)) 100 b w ∧ r = if y = 0 then g_sa l (fun p => if 0 ≤ m 106 p then m 110 (100 * v + p) else 0) else if y = 3 then b else if b < 0 then 0 else if y = 1 then m 110 (100 * v + b) else m 110 (100 * v + w)) := by
  refine o_upF (fun n k (s : Int × Int × Int) => f_Mod_total_l43 n v y s.1 s.2.1 s.2.2 k m) (fun k s => 0 ≤ k ∧ s.1 = g_sum (fun p => if g_th (l 0 0) (l 0 1) p then (if 0 ≤ m 106 p then m 110 (100 * v + p) else 0) else 0) k.toNat ∧ f_bw l (fun p => 0 ≤ m 106 p) (fun p => m 110 (100 * v + p)) k s.2.1 s.2.2) _ (k := 0) (e := 100) (s := (0, -1, -1)) (by omega) (by omega) ⟨by omega, rfl, Or.inl ⟨rfl, rfl, fun p hp hk => by have := hp.1; omega⟩⟩ ?_ ?_
  · intro n k s hk ⟨k0, hs, hbw⟩ hn
    obtain ⟨s, b, w⟩ := s
    replace hs : s = _ := hs
    replace hbw : f_bw l (fun p => 0 ≤ m 106 p) (fun p => m 110 (100 * v + p)) k b w := hbw
    show q_ok (f_Mod_total_b43 (f_Mod_total_l43 n) v y s b w k m) _
    unfold f_Mod_total_b43 f_Mod_total_b113 f_Mod_total_b117 f_Mod_total_b139 f_Mod_total_b143
    rw [q_w_id (x := k) (by omega) (by omega), if_neg (show ¬ (100 ≤ k) by omega), m_isThere h hg ⟨k0, hk⟩, x_bd]
    by_cases c : g_th (l 0 0) (l 0 1) k
    · have hp : g_pt l k := ⟨⟨k0, hk⟩, c⟩
      have hd := hD k hp
      rw [if_pos c, x_w1, if_neg (show ¬ ((1 : Int) = 0) by decide), x_rd (n := 100) k0 hk (by decide), q_w_id (x := m 106 k) (by omega) (by omega)]
      by_cases c2 : 0 ≤ m 106 k
      · rw [if_pos c2, x_rd (n := 300) (by omega) (by omega) (by decide)]
        have ht := f_bw_take hbw hp c2
        have hr := f_bw_rg hbw
        have hs' : s + m 110 (100 * v + k) = g_sum (fun p => if g_th (l 0 0) (l 0 1) p then (if 0 ≤ m 106 p then m 110 (100 * v + p) else 0) else 0) (k + 1).toNat := by
          rw [g_sum_s _ k0, ← hs, if_pos c, if_pos c2]
        rw [q_w_id (x := b) (by omega) (by omega), q_w_id (x := w) (by omega) (by omega)]
        by_cases cb : b < 0
        · rw [if_pos cb, if_pos (hr.2.2.mp cb)] at ht
          rw [if_pos cb, if_pos (hr.2.2.mp cb)]
          exact hn (_, k, k) ⟨by omega, hs', ht⟩
        · have cw : ¬ w < 0 := fun hx => cb (hr.2.2.mpr hx)
          rw [if_neg cb, if_neg cw] at ht
          rw [if_neg cb, x_rd (n := 300) (by omega) (by omega) (by decide)]
          by_cases c3 : q_w (m 110 (100 * v + k)) ≤ q_w (m 110 (100 * v + b))
          · rw [if_pos c3] at ht ⊢
            rw [if_neg cw, x_rd (n := 300) (by omega) (by omega) (by decide)]
            by_cases c4 : q_w (m 110 (100 * v + w)) ≤ q_w (m 110 (100 * v + k))
            · rw [if_pos c4] at ht ⊢
              exact hn (_, b, w) ⟨by omega, hs', ht⟩
            · rw [if_neg c4] at ht ⊢
              exact hn (_, b, k) ⟨by omega, hs', ht⟩
          · rw [if_neg c3] at ht ⊢
            rw [if_neg cw, x_rd (n := 300) (by omega) (by omega) (by decide)]
            by_cases c4 : q_w (m 110 (100 * v + w)) ≤ q_w (m 110 (100 * v + k))
            · rw [if_pos c4] at ht ⊢
              exact hn (_, k, w) ⟨by omega, hs', ht⟩
            · rw [if_neg c4] at ht ⊢
              exact hn (_, k, k) ⟨by omega, hs', ht⟩
      · rw [if_neg c2]
        refine hn (s, b, w) ⟨by omega, ?_, f_bw_skip hbw fun hx => c2 hx.2⟩
        rw [g_sum_s _ k0, ← hs, if_pos c, if_neg c2, Int.add_zero]
    · rw [if_neg c, x_w0, if_pos rfl]
      refine hn (s, b, w) ⟨by omega, ?_, f_bw_skip hbw fun hx => c hx.1.2⟩
      rw [g_sum_s _ k0, ← hs, if_neg c, Int.add_zero]
  · intro n s ⟨k0, hs, hbw⟩
    obtain ⟨s, b, w⟩ := s
    replace hs : s = _ := hs
    replace hbw : f_bw l (fun p => 0 ≤ m 106 p) (fun p => m 110 (100 * v + p)) 100 b w := hbw
    have hr := f_bw_rg hbw
    show q_ok (f_Mod_total_b43 (f_Mod_total_l43 n) v y s b w 100 m) _
    unfold f_Mod_total_b43 f_Mod_total_b158 f_Mod_total_b196
    rw [if_pos (by decide), q_w_id (x := y) (by omega) (by omega), q_w_id (x := b) (by omega) (by omega)]
    by_cases y0 : y = 0
    · rw [if_pos y0, if_pos y0]
      exact o_rt ⟨rfl, b, w, hbw, by rw [if_pos y0]; exact hs⟩
    rw [if_neg y0]
    by_cases y3 : y = 3
    · rw [if_pos y3, if_neg y0]
      exact o_rt ⟨rfl, b, w, hbw, by rw [if_neg y0, if_pos y3]⟩
    rw [if_neg y3]
    by_cases cb : 0 ≤ b
    · rw [if_pos cb]
      by_cases y1 : y = 1
      · rw [if_pos y1, x_rd (n := 300) (by omega) (by omega) (by decide)]
        exact o_rt ⟨rfl, b, w, hbw, by rw [if_neg y0, if_neg y3, if_neg (show ¬ b < 0 by omega), if_pos y1]⟩
      · have cw : 0 ≤ w := by
          have := hr.2.2
          omega
        rw [if_neg y1, x_rd (n := 300) (by omega) (by omega) (by decide)]
        exact o_rt ⟨rfl, b, w, hbw, by rw [if_neg y0, if_neg y3, if_neg (show ¬ b < 0 by omega), if_neg y1]⟩
    · rw [if_neg cb]
      exact o_rt ⟨rfl, b, w, hbw, by rw [if_neg y0, if_neg y3, if_pos (show b < 0 by omega)]⟩
theorem b_total (hk : k_ok l o) {v y : Int} (hv : q_32 v) (hy : q_32 y) : k_both l o (f_PG_total v y) (f_Mod_total v y) := by
  refine k_both_of fun mc mm hc hm => ?_
  have hg := hk.1
  have h2 := hg.2.2.1
  have hy' : q_w y = y := q_w_id hy.1 hy.2
  by_cases cv : 0 ≤ v ∧ v < l 0 2
  · have hv3 : 0 ≤ v ∧ v < 3 := by omega
    obtain ⟨b, m1, e1, em1, hb⟩ := c_firstGreatest hg hc hv3
    rw [em1] at e1
    have hbr : -1 ≤ b ∧ b < 100 := by
      rcases hb with ⟨hb, _⟩ | ⟨hb, _⟩
      · omega
      · have := hb.1; omega
    by_cases cy : 0 ≤ y ∧ y ≤ 3
    · have hM : q_ok (f_Mod_total v y mm) (fun r m' => (∃ w, f_bw l (fun p => 0 ≤ mc 54 p) (fun p => mc 74 (100 * v + p)) 100 b w ∧ r = if y = 0 then g_sa l (fun p => if 0 ≤ mc 54 p then mc 74 (100 * v + p) else 0) else if y = 3 then b else if b < 0 then 0 else if y = 1 then mc 74 (100 * v + b) else mc 74 (100 * v + w)) ∧ k_fm mm m') := by
        unfold f_Mod_total
        rw [m_isVariable hm.1 hg hv, x_bd, if_pos cv, x_w1, if_neg (by decide), m_isIn hy (by decide) (by decide), x_bd, if_pos cy, x_w1, if_neg (by decide)]
        refine o_bd (m_layValues hm.1 hm.2.1 hg hk.2.1) fun _ m1 ⟨f1, d1, r1, v1, _⟩ => ?_
        have hf : k_fm mm m1 := k_fm_dep fun c c1 c2 c3 c4 c5 c6 => f1 c c1 c3 c5 c6
        have hD := g_D_uniq hg hc.2.2.1.1 d1
        have hV : f_V l (m1 106) (fun p => 0 ≤ m1 106 p) (-1) (-1) (mc 74) := f_V_T hk.2.1 hg (f_V_same hc.2.2.2.2.1 fun p hp => by rw [hD p hp]) hD
        have hu : ∀ p, g_pt l p → mc 74 (100 * v + p) = m1 110 (100 * v + p) := fun p hp => f_V_uniq hk.2.1 hg (fun p hp => (r1 p hp).1) hV v1 v _ cv.1 cv.2 hp
        refine o_mono (m_total hg (k_M_fr hm hf).1 r1 hv3 cy) fun r m' ⟨e', b', w, hbw, er⟩ => ?_
        have hbw' : f_bw l (fun p => 0 ≤ mc 54 p) (fun p => mc 74 (100 * v + p)) 100 b' w := f_bw_congr hbw (fun p hp => by rw [hD p hp]) (fun p hp => (hu p hp).symm)
        have hbb : b' = b := f_gr_u (f_bw_gr hbw').1 hb
        rw [e']
        rw [hbb] at hbw' er
        refine ⟨⟨w, hbw', ?_⟩, hf⟩
        rw [er]
        have es : g_sa l (fun p => if 0 ≤ m1 106 p then m1 110 (100 * v + p) else 0) = g_sa l (fun p => if 0 ≤ mc 54 p then mc 74 (100 * v + p) else 0) := g_sa_congr fun p hp => by rw [hD p hp, hu p hp]
        rw [es]
        by_cases cb : b < 0
        · rw [if_pos cb, if_pos cb]
        · have hbp : g_pt l b := by
            rcases hb with ⟨hb, _⟩ | ⟨hb, _⟩
            · omega
            · exact hb
          rw [hu b hbp, hu w ((f_bw_gr hbw').2 (by omega)).1]
      obtain ⟨r', mm', em, ⟨w, hbw, er⟩, hf⟩ := hM
      refine ⟨q_w r', ?_, ⟨r', mm', em, rfl, hf⟩⟩
      unfold f_PG_total
      rw [s_isVariable hg hc hv, x_bd, if_pos cv, x_w1, if_neg (by decide), e1, x_bd]
      unfold f_PG_total_b17
      rw [q_w_id (x := b) (by omega) (by omega), hy']
      by_cases cb : b = -1
      · rw [if_pos cb]
        have hz : ∀ p, g_pt l p → ¬ 0 ≤ mc 54 p := by
          rcases hb with ⟨_, hb⟩ | ⟨hb, _⟩
          · exact hb
          · have := hb.1; omega
        have hs0 : g_sa l (fun p => if 0 ≤ mc 54 p then mc 74 (100 * v + p) else 0) = 0 := by
          rw [g_sa_congr (G := fun _ => 0) fun p hp => if_neg (hz p hp)]
          unfold g_sa
          rw [g_sum_congr (g := fun _ => 0) fun p _ _ => by split <;> rfl]
          exact g_sum_0 _
        rw [hs0, cb] at er
        by_cases y3 : y = 3
        · rw [if_pos y3]
          rw [if_neg (by omega), if_pos y3] at er
          rw [er]
          exact o_rt ⟨rfl, k_fc_id _, hc⟩
        · rw [if_neg y3]
          rw [if_neg y3, if_pos (show (-1 : Int) < 0 by decide)] at er
          have : r' = 0 := by rw [er]; split <;> rfl
          rw [this]
          exact o_rt ⟨rfl, k_fc_id _, hc⟩
      · rw [if_neg cb]
        rw [if_neg (show ¬ b < 0 by omega)] at er
        by_cases y0 : y = 0
        · rw [if_pos y0, c_sumOf hg hc.2.2.1 hv3, x_bd]
          rw [if_pos y0] at er
          rw [er]
          exact o_rt ⟨rfl, k_fc_id _, hc⟩
        rw [if_neg y0] at er ⊢
        by_cases y1 : y = 1
        · rw [if_pos y1, show v * 100 = 100 * v by omega, x_rd (n := 300) (by omega) (by omega) (by decide)]
          rw [if_neg (show ¬ y = 3 by omega), if_pos y1] at er
          rw [er]
          exact o_rt ⟨rfl, k_fc_id _, hc⟩
        rw [if_neg y1] at er ⊢
        by_cases y3 : y = 3
        · rw [if_neg (show ¬ y = 2 by omega), if_pos y3]
          rw [if_pos y3] at er
          rw [er]
          exact o_rt ⟨rfl, k_fc_id _, hc⟩
        rw [if_neg y3] at er
        rw [if_pos (show y = 2 by omega)]
        have hne : ∃ p, g_pt l p ∧ 0 ≤ mc 54 p := by
          rcases hb with ⟨hb, _⟩ | ⟨hb, hb', _⟩
          · exact absurd hb cb
          · exact ⟨b, hb, hb'⟩
        refine o_bd (c_leastOf hg hc.2.2.1 hv3 hne) fun r m2 ⟨em2, hle⟩ => ?_
        rw [em2]
        refine o_rt ⟨?_, k_fc_id _, hc⟩
        rw [er]
        exact f_le_u hle ((f_bw_gr hbw).2 cb).2
    · refine ⟨0, ?_, ?_⟩
      · unfold f_PG_total
        rw [s_isVariable hg hc hv, x_bd, if_pos cv, x_w1, if_neg (by decide), e1, x_bd]
        unfold f_PG_total_b17
        rw [hy']
        refine o_if (fun _ => ?_) (fun _ => ?_)
        · rw [if_neg (show ¬ y = 3 by omega)]
          exact o_rt ⟨rfl, k_fc_id _, hc⟩
        · rw [if_neg (show ¬ y = 0 by omega), if_neg (show ¬ y = 1 by omega), if_neg (show ¬ y = 2 by omega), if_neg (show ¬ y = 3 by omega)]
          exact o_rt ⟨rfl, k_fc_id _, hc⟩
      · unfold f_Mod_total f_Mod_total_b17
        rw [m_isVariable hm.1 hg hv, x_bd, if_pos cv, x_w1, if_neg (by decide), m_isIn hy (by decide) (by decide), x_bd, if_neg cy, x_w0, if_pos rfl, hy', if_neg (show ¬ y = 3 by omega)]
        exact o_rt ⟨rfl, k_fm_id _⟩
  · refine ⟨if y = 3 then -1 else 0, ?_, ?_⟩
    · unfold f_PG_total
      rw [s_isVariable hg hc hv, x_bd, if_neg cv, x_w0, if_pos rfl]
      unfold f_PG_total_b17
      rw [if_pos (by decide), hy']
      by_cases y3 : y = 3
      · rw [if_pos y3, if_pos y3]
        exact o_rt ⟨rfl, k_fc_id _, hc⟩
      · rw [if_neg y3, if_neg y3]
        exact o_rt ⟨rfl, k_fc_id _, hc⟩
    · unfold f_Mod_total f_Mod_total_b17
      rw [m_isVariable hm.1 hg hv, x_bd, if_neg cv, x_w0, if_pos rfl, hy']
      by_cases y3 : y = 3
      · rw [if_pos y3, if_pos y3]
        exact o_rt ⟨rfl, k_fm_id _⟩
      · rw [if_neg y3, if_neg y3]
        exact o_rt ⟨rfl, k_fm_id _⟩
end total2
