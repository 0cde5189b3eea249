/-! QUESTIONS: best, line, pair -/
section bsearch
variable {l m : q_Mem} {o : Int → Int}
theorem w_ifFound {S : Int → Int} {N i : Int} (h : w_C m S) (hb : w_b S N) (hN : N < 1000000) (h1 : 1 ≤ i) (h5 : i ≤ 5) : f_Sear_ifFound (m 73 i) m = some (if S 0 = 0 then -1000 else S i, m) := by
  obtain ⟨b1, b2, b3⟩ := hb
  unfold f_Sear_ifFound
  rw [h.1, q_w_id (by omega) (by omega)]
  by_cases c : S 0 = 0
  · rw [if_pos (by omega), if_pos c, x_rt]
  · rw [if_neg (by omega), if_neg c, h.2 (by omega) i h1 h5, x_rt]
theorem w_clear : q_ok (f_Sear_clear m) (fun _ m' => (∀ c, c ≠ 73 → m' c = m c) ∧ w_C m' (fun _ => 0)) := by
  unfold f_Sear_clear
  rw [x_pf]
  exact o_rt ⟨fun c hc => q_up_f hc, q_up_s _ _ _ _, fun h => absurd h (by decide)⟩
theorem w_b0 : w_b (fun _ => 0) 0 := ⟨Int.le_refl _, Int.le_refl _, fun h => absurd h (by decide)⟩
theorem k_fc_73 {m m' : q_Mem} (h : ∀ c, c ≠ 73 → m' c = m c) : k_fc m m' := ⟨fun j _ => by rw [h 0 (by decide)], fun c _ hc => h c (by omega)⟩
theorem k_C_73 {m m' : q_Mem} (hc : k_C l o m) (h : ∀ c, c ≠ 73 → m' c = m c) : k_C l o m' := k_C_same hc (k_fc_73 h) (by rw [h 0 (by decide)]) (h 75 (by decide))
theorem b_best (hk : k_ok l o) {r y : Int} (hr : q_32 r) (hy : q_32 y) : k_both l o (f_PG_best r y) (f_Mod_best r y) := by
  refine k_both_of fun mc mm hc hm => ?_
  have hg := hk.1
  have hl := hk.2.2.1
  have hy' : q_w y = y := q_w_id hy.1 hy.2
  have hr' : q_w r = r := q_w_id hr.1 hr.2
  by_cases cr : 1 ≤ r ∧ r ≤ 9
  · have hS : w_b (w_Ss l (o 2) (o 3) r (fun _ => 0)) 361 := w_b_mono (w_b_Ss hg cr w_b0 _ (by omega)) (by omega)
    have hC : ∃ m5, q_ok (f_PG_best r y mc) (fun v m' => m' = m5 ∧ v = if y = 0 then w_Ss l (o 2) (o 3) r (fun _ => 0) 0 else if 1 ≤ y ∧ y ≤ 3 then (if w_Ss l (o 2) (o 3) r (fun _ => 0) 0 = 0 then -1000 else w_Ss l (o 2) (o 3) r (fun _ => 0) y) else -1000) ∧ (∀ c, c ≠ 73 → m5 c = mc c) := by
      unfold f_PG_best
      rw [hr', hy', if_neg (show ¬ r < 1 by omega), if_pos (show r ≤ 9 by omega), s_current hc, x_bd, x_one hc.2.1.2.1]
      obtain ⟨_, m3, e3, f3, c3⟩ := w_clear (m := mc)
      have hy3 := k_Ly_rg hc.2.1.2.1
      rw [e3, x_bd, x_lt, f3 0 (by decide), x_one hc.1.1, f3 _ (by omega), hc.2.1.2.2 2 (by decide) (by decide), hc.2.1.2.2 3 (by decide) (by decide)]
      obtain ⟨_, m5, e5, f5, c5⟩ := w_sched (m := m3) hc.1.1 (g_CL_of hc.1.1 hc.1.2 fun c hc => f3 c (by omega)) hg cr hl.1 hl.2.1 c3 w_b0
      rw [e5, x_bd]
      refine ⟨m5, ?_, fun c hc => (f5 c hc).trans (f3 c hc)⟩
      by_cases y0 : y = 0
      · rw [if_pos y0, if_pos y0]
        exact o_rt ⟨rfl, c5.1⟩
      rw [if_neg y0, if_neg y0]
      by_cases y1 : y = 1
      · rw [if_pos y1, if_pos (by omega), w_ifFound c5 hS (by decide) (by decide) (by decide), x_bd, y1]
        exact o_rt ⟨rfl, rfl⟩
      rw [if_neg y1]
      by_cases y2 : y = 2
      · rw [if_pos y2, if_pos (by omega), w_ifFound c5 hS (by decide) (by decide) (by decide), x_bd, y2]
        exact o_rt ⟨rfl, rfl⟩
      rw [if_neg y2]
      by_cases y3 : y = 3
      · rw [if_pos y3, if_pos (by omega), w_ifFound c5 hS (by decide) (by decide) (by decide), x_bd, y3]
        exact o_rt ⟨rfl, rfl⟩
      rw [if_neg y3, if_neg (by omega)]
      exact o_rt ⟨rfl, rfl⟩
    obtain ⟨m5, hC, f5⟩ := hC
    refine ⟨q_w (if y = 0 then w_Ss l (o 2) (o 3) r (fun _ => 0) 0 else if 1 ≤ y ∧ y ≤ 3 then (if w_Ss l (o 2) (o 3) r (fun _ => 0) 0 = 0 then -1000 else w_Ss l (o 2) (o 3) r (fun _ => 0) y) else -1000), o_mono hC fun v m' ⟨e, ev⟩ => ⟨by rw [ev], by rw [e]; exact k_fc_73 f5, by rw [e]; exact k_C_73 hc f5⟩, ?_⟩
    unfold f_Mod_best
    rw [m_isIn hr (by decide) (by decide), x_bd, if_pos cr, x_w1, if_neg (by decide), m_isIn hy (by decide) (by decide), x_bd]
    by_cases cy : 0 ≤ y ∧ y ≤ 3
    · rw [if_pos cy, x_w1, if_neg (by decide)]
      refine o_bd m_begin fun _ m1 ⟨f1, w1⟩ => ?_
      refine o_mono (m_best hk (k_M_fr hm f1) cr cy (w1 _) w_b0) fun v m' ⟨f2, ev⟩ => ⟨?_, k_fm_tr f1 f2⟩
      rw [ev]
      by_cases y0 : y = 0
      · rw [if_pos y0, if_pos y0]
      · rw [if_neg y0, if_neg y0, if_pos (show 1 ≤ y ∧ y ≤ 3 by omega)]
    · rw [if_neg cy, x_w0, if_pos rfl, if_neg (by omega), if_neg (by omega)]
      exact o_rt ⟨rfl, k_fm_id _⟩
  · refine ⟨-1000, ?_, ?_⟩
    · unfold f_PG_best
      rw [hr']
      refine o_if (fun _ => o_rt ⟨rfl, k_fc_id _, hc⟩) fun c => ?_
      rw [if_neg (by omega)]
      exact o_rt ⟨rfl, k_fc_id _, hc⟩
    · unfold f_Mod_best
      rw [m_isIn hr (by decide) (by decide), x_bd, if_neg cr, x_w0, if_pos rfl]
      exact o_rt ⟨rfl, k_fm_id _⟩
theorem b_line (hk : k_ok l o) {y : Int} (hy : q_32 y) : k_both l o (f_PG_line y) (f_Mod_line y) := by
  refine k_both_of fun mc mm hc hm => ?_
  have hg := hk.1
  have hy' : q_w y = y := q_w_id hy.1 hy.2
  have hS : w_b (w_Ls l (o 0) (o 1) 1 (fun _ => 0)) 49 := w_b_mono (w_b_Ls hg (by omega) w_b0 _ (by decide)) (by omega)
  have hC : ∃ m5, q_ok (f_PG_line y mc) (fun v m' => m' = m5 ∧ v = if y = 0 then w_Ls l (o 0) (o 1) 1 (fun _ => 0) 0 else if 1 ≤ y ∧ y ≤ 3 then (if w_Ls l (o 0) (o 1) 1 (fun _ => 0) 0 = 0 then -1000 else if y = 1 then w_Ls l (o 0) (o 1) 1 (fun _ => 0) 1 else w_Ls l (o 0) (o 1) 1 (fun _ => 0) (y + 2)) else -1000) ∧ (∀ c, c ≠ 73 → m5 c = mc c) := by
    unfold f_PG_line
    rw [hy', s_current hc, x_bd, x_one hc.2.1.2.1]
    obtain ⟨_, m3, e3, f3, c3⟩ := w_clear (m := mc)
    have hy3 := k_Ly_rg hc.2.1.2.1
    rw [e3, x_bd, x_lt, f3 0 (by decide), x_one hc.1.1, f3 _ (by omega), hc.2.1.2.2 0 (by decide) (by decide), hc.2.1.2.2 1 (by decide) (by decide)]
    obtain ⟨_, m5, e5, f5, c5⟩ := w_lines (m := m3) (x := 1) hc.1.1 (g_CL_of hc.1.1 hc.1.2 fun c hc => f3 c (by omega)) hg hk.2.2.2.1 hk.2.2.2.2.1 (by omega) c3 w_b0 (by decide)
    rw [e5, x_bd]
    refine ⟨m5, ?_, fun c hc => (f5 c hc).trans (f3 c hc)⟩
    by_cases y0 : y = 0
    · rw [if_pos y0, if_pos y0]
      exact o_rt ⟨rfl, c5.1⟩
    rw [if_neg y0, if_neg y0]
    by_cases y1 : y = 1
    · rw [if_pos y1, if_pos (show 1 ≤ y ∧ y ≤ 3 by omega), w_ifFound c5 hS (by decide) (by decide) (by decide), x_bd, if_pos y1]
      exact o_rt ⟨rfl, rfl⟩
    rw [if_neg y1]
    by_cases y2 : y = 2
    · rw [if_pos y2, if_pos (show 1 ≤ y ∧ y ≤ 3 by omega), w_ifFound c5 hS (by decide) (by decide) (by decide), x_bd, if_neg y1, y2]
      exact o_rt ⟨rfl, rfl⟩
    rw [if_neg y2]
    by_cases y3 : y = 3
    · rw [if_pos y3, if_pos (show 1 ≤ y ∧ y ≤ 3 by omega), w_ifFound c5 hS (by decide) (by decide) (by decide), x_bd, if_neg y1, y3]
      exact o_rt ⟨rfl, rfl⟩
    rw [if_neg y3, if_neg (by omega)]
    exact o_rt ⟨rfl, rfl⟩
  obtain ⟨m5, hC, f5⟩ := hC
  refine ⟨q_w (if y = 0 then w_Ls l (o 0) (o 1) 1 (fun _ => 0) 0 else if 1 ≤ y ∧ y ≤ 3 then (if w_Ls l (o 0) (o 1) 1 (fun _ => 0) 0 = 0 then -1000 else if y = 1 then w_Ls l (o 0) (o 1) 1 (fun _ => 0) 1 else w_Ls l (o 0) (o 1) 1 (fun _ => 0) (y + 2)) else -1000), o_mono hC fun v m' ⟨e, ev⟩ => ⟨by rw [ev], by rw [e]; exact k_fc_73 f5, by rw [e]; exact k_C_73 hc f5⟩, ?_⟩
  unfold f_Mod_line
  rw [m_isIn hy (by decide) (by decide), x_bd]
  by_cases cy : 0 ≤ y ∧ y ≤ 3
  · rw [if_pos cy, x_w1, if_neg (by decide)]
    refine o_bd m_begin fun _ m1 ⟨f1, w1⟩ => ?_
    refine o_mono (m_line hk (k_M_fr hm f1) cy (w1 _) w_b0) fun v m' ⟨f2, ev⟩ => ⟨?_, k_fm_tr f1 f2⟩
    rw [ev]
    by_cases y0 : y = 0
    · rw [if_pos y0, if_pos y0]
    · rw [if_neg y0, if_neg y0, if_pos (show 1 ≤ y ∧ y ≤ 3 by omega)]
  · rw [if_neg cy, x_w0, if_pos rfl, if_neg (by omega), if_neg (by omega)]
    exact o_rt ⟨rfl, k_fm_id _⟩
theorem b_pair (hk : k_ok l o) {r y : Int} (hr : q_32 r) (hy : q_32 y) : k_both l o (f_PG_pair r y) (f_Mod_pair r y) := by
  refine k_both_of fun mc mm hc hm => ?_
  have hg := hk.1
  have hy' : q_w y = y := q_w_id hy.1 hy.2
  have hr' : q_w r = r := q_w_id hr.1 hr.2
  by_cases cr : 1 ≤ r ∧ r ≤ 4
  · have cr9 : 1 ≤ r ∧ r ≤ 9 := by omega
    have hS : w_b (w_Ps l r (fun _ => 0)) 17689 := w_b_mono (w_b_Ps hg cr9 w_b0 _ (by omega)) (by omega)
    have hC : ∃ m5, q_ok (f_PG_pair r y mc) (fun v m' => m' = m5 ∧ v = if 0 ≤ y ∧ y ≤ 4 then (if w_Ps l r (fun _ => 0) 0 = 0 then -1000 else w_Ps l r (fun _ => 0) (y + 1)) else -1000) ∧ (∀ c, c ≠ 73 → m5 c = mc c) := by
      unfold f_PG_pair
      rw [hr', hy', if_neg (show ¬ r < 1 by omega), if_pos (show r ≤ 4 by omega)]
      obtain ⟨_, m3, e3, f3, c3⟩ := w_clear (m := mc)
      rw [e3, x_bd, x_lt, f3 0 (by decide), x_one hc.1.1]
      obtain ⟨_, m5, e5, f5, c5⟩ := w_pairs (m := m3) hc.1.1 (g_CL_of hc.1.1 hc.1.2 fun c hc => f3 c (by omega)) hg cr9 c3 w_b0
      rw [e5, x_bd]
      refine ⟨m5, ?_, fun c hc => (f5 c hc).trans (f3 c hc)⟩
      by_cases y0 : y = 0
      · rw [if_pos y0, if_pos (show 0 ≤ y ∧ y ≤ 4 by omega), w_ifFound c5 hS (by decide) (by decide) (by decide), x_bd, y0]
        exact o_rt ⟨rfl, rfl⟩
      rw [if_neg y0]
      by_cases y1 : y = 1
      · rw [if_pos y1, if_pos (show 0 ≤ y ∧ y ≤ 4 by omega), w_ifFound c5 hS (by decide) (by decide) (by decide), x_bd, y1]
        exact o_rt ⟨rfl, rfl⟩
      rw [if_neg y1]
      by_cases y2 : y = 2
      · rw [if_pos y2, if_pos (show 0 ≤ y ∧ y ≤ 4 by omega), w_ifFound c5 hS (by decide) (by decide) (by decide), x_bd, y2]
        exact o_rt ⟨rfl, rfl⟩
      rw [if_neg y2]
      by_cases y3 : y = 3
      · rw [if_pos y3, if_pos (show 0 ≤ y ∧ y ≤ 4 by omega), w_ifFound c5 hS (by decide) (by decide) (by decide), x_bd, y3]
        exact o_rt ⟨rfl, rfl⟩
      rw [if_neg y3]
      by_cases y4 : y = 4
      · rw [if_pos y4, if_pos (show 0 ≤ y ∧ y ≤ 4 by omega), w_ifFound c5 hS (by decide) (by decide) (by decide), x_bd, y4]
        exact o_rt ⟨rfl, rfl⟩
      rw [if_neg y4, if_neg (by omega)]
      exact o_rt ⟨rfl, rfl⟩
    obtain ⟨m5, hC, f5⟩ := hC
    refine ⟨q_w (if 0 ≤ y ∧ y ≤ 4 then (if w_Ps l r (fun _ => 0) 0 = 0 then -1000 else w_Ps l r (fun _ => 0) (y + 1)) else -1000), o_mono hC fun v m' ⟨e, ev⟩ => ⟨by rw [ev], by rw [e]; exact k_fc_73 f5, by rw [e]; exact k_C_73 hc f5⟩, ?_⟩
    unfold f_Mod_pair
    rw [m_isIn hr (by decide) (by decide), x_bd, if_pos cr, x_w1, if_neg (by decide), m_isIn hy (by decide) (by decide), x_bd]
    by_cases cy : 0 ≤ y ∧ y ≤ 4
    · rw [if_pos cy, x_w1, if_neg (by decide)]
      refine o_bd m_begin fun _ m1 ⟨f1, w1⟩ => ?_
      refine o_mono (m_pair hk (k_M_fr hm f1) cr9 cy (w1 _) w_b0) fun v m' ⟨f2, ev⟩ => ⟨?_, k_fm_tr f1 f2⟩
      rw [ev, if_pos cy]
    · rw [if_neg cy, x_w0, if_pos rfl, if_neg cy]
      exact o_rt ⟨rfl, k_fm_id _⟩
  · refine ⟨-1000, ?_, ?_⟩
    · unfold f_PG_pair
      rw [hr']
      refine o_if (fun _ => o_rt ⟨rfl, k_fc_id _, hc⟩) fun c => ?_
      rw [if_neg (by omega)]
      exact o_rt ⟨rfl, k_fc_id _, hc⟩
    · unfold f_Mod_pair
      rw [m_isIn hr (by decide) (by decide), x_bd, if_neg cr, x_w0, if_pos rfl]
      exact o_rt ⟨rfl, k_fm_id _⟩
end bsearch
