/-! QUESTIONS: value, ordered, depth, height, run, tick, cell -/
section q1
variable {l : q_Mem} {o : Int → Int}
def q_32 (x : Int) : Prop := -2147483648 ≤ x ∧ x < 2147483648
theorem g_in_pt {i j : Int} (hg : g_lw l) (h : g_in (l 0 0) (l 0 1) i j) : g_pt l (10 * i + j) ∧ (0 ≤ i ∧ i < 10) ∧ (0 ≤ j ∧ j < 10) := by
  have h1 := hg.1
  have h2 := hg.2.1
  have h3 : 0 ≤ i ∧ i < l 0 0 := by have := h; unfold g_in at this; omega
  have h4 : 0 ≤ j ∧ j < l 0 1 := by have := h; unfold g_in at this; omega
  refine ⟨⟨by omega, ?_⟩, by omega, by omega⟩
  unfold g_th
  omega
theorem k_fm_dep {m m' : q_Mem} (h : ∀ c, c ≠ 106 → c ≠ 107 → c ≠ 110 → c ≠ 112 → c ≠ 113 → c ≠ 114 → m' c = m c) : k_fm m m' := ⟨fun j _ => by rw [h 81 (by decide) (by decide) (by decide) (by decide) (by decide) (by decide)], fun c c0 hc => h c (by omega) (by omega) (by omega) (by omega) (by omega) (by omega)⟩
theorem b_ordered (hk : k_ok l o) {i j : Int} (hi : q_32 i) (hj : q_32 j) : k_both l o (f_PG_ordered i j) (f_Mod_ordered i j) := by
  refine k_both_of fun mc mm hc hm => ?_
  have hg := hk.1
  by_cases c : g_in (l 0 0) (l 0 1) i j
  · obtain ⟨hp, hi', hj'⟩ := g_in_pt hg c
    have hwd := hc.2.2.1.2.2.1 _ hp
    refine ⟨if 0 ≤ mc 54 (10 * i + j) then 1 else 0, ?_, ?_⟩
    · unfold f_PG_ordered f_Web_isOrdered
      rw [x_lt, x_one hc.1.1, c_isInside hc.1.2 hg hi hj, x_bd, if_pos c, x_w1, if_neg (by decide), show i * 10 + j = 10 * i + j by omega, x_rd (n := 100) (by omega) (by omega) (by decide), q_w_id (by omega) (by omega)]
      by_cases c2 : mc 54 (10 * i + j) = -1
      · rw [if_pos c2, x_rz0, x_bd, x_w0, if_pos rfl, if_neg (by omega)]
        exact o_rt ⟨rfl, k_fc_id _, hc⟩
      · rw [if_neg c2, x_rz1, x_bd, x_w1, if_neg (by decide), if_pos (by omega)]
        exact o_rt ⟨rfl, k_fc_id _, hc⟩
    · unfold f_Mod_ordered
      rw [m_isPoint hm.1 hg hi hj, x_bd, if_pos c, x_w1, if_neg (by decide)]
      refine o_bd (m_layDepths hm.1 hg) fun _ m1 ⟨f1, d1, r1⟩ => ?_
      have hf : k_fm mm m1 := k_fm_dep fun c c1 _ _ _ _ _ => f1 c c1
      have hr := r1 _ hp
      rw [x_rd (n := 100) (by omega) (by omega) (by decide), q_w_id (by omega) (by omega), g_D_uniq hg hc.2.2.1.1 d1 _ hp]
      by_cases c2 : m1 106 (10 * i + j) < 0
      · rw [if_pos c2, if_neg (by omega)]
        exact o_rt ⟨rfl, hf⟩
      · rw [if_neg c2, if_pos (by omega)]
        exact o_rt ⟨rfl, hf⟩
  · refine ⟨-1, ?_, ?_⟩
    · unfold f_PG_ordered
      rw [x_lt, x_one hc.1.1, c_isInside hc.1.2 hg hi hj, x_bd, if_neg c, x_w0, if_pos rfl]
      exact o_rt ⟨rfl, k_fc_id _, hc⟩
    · unfold f_Mod_ordered
      rw [m_isPoint hm.1 hg hi hj, x_bd, if_neg c, x_w0, if_pos rfl]
      exact o_rt ⟨rfl, k_fm_id _⟩
theorem b_depth (hk : k_ok l o) {i j : Int} (hi : q_32 i) (hj : q_32 j) : k_both l o (f_PG_depth i j) (f_Mod_depth i j) := by
  refine k_both_of fun mc mm hc hm => ?_
  have hg := hk.1
  by_cases c : g_in (l 0 0) (l 0 1) i j
  · obtain ⟨hp, hi', hj'⟩ := g_in_pt hg c
    have hwd := hc.2.2.1.2.2.1 _ hp
    refine ⟨mc 54 (10 * i + j), ?_, ?_⟩
    · unfold f_PG_depth
      rw [x_lt, x_one hc.1.1, c_isInside hc.1.2 hg hi hj, x_bd, if_pos c, x_w1, if_neg (by decide), show i * 10 + j = 10 * i + j by omega, x_rd (n := 100) (by omega) (by omega) (by decide)]
      exact o_rt ⟨q_w_id (by omega) (by omega), k_fc_id _, hc⟩
    · unfold f_Mod_depth
      rw [m_isPoint hm.1 hg hi hj, x_bd, if_pos c, x_w1, if_neg (by decide)]
      refine o_bd (m_layDepths hm.1 hg) fun _ m1 ⟨f1, d1, r1⟩ => ?_
      have hf : k_fm mm m1 := k_fm_dep fun c c1 _ _ _ _ _ => f1 c c1
      have hr := r1 _ hp
      rw [x_rd (n := 100) (by omega) (by omega) (by decide), g_D_uniq hg hc.2.2.1.1 d1 _ hp]
      exact o_rt ⟨q_w_id (by omega) (by omega), hf⟩
  · refine ⟨-1, ?_, ?_⟩
    · unfold f_PG_depth
      rw [x_lt, x_one hc.1.1, c_isInside hc.1.2 hg hi hj, x_bd, if_neg c, x_w0, if_pos rfl]
      exact o_rt ⟨rfl, k_fc_id _, hc⟩
    · unfold f_Mod_depth
      rw [m_isPoint hm.1 hg hi hj, x_bd, if_neg c, x_w0, if_pos rfl]
      exact o_rt ⟨rfl, k_fm_id _⟩
theorem b_height (hk : k_ok l o) {i j : Int} (hi : q_32 i) (hj : q_32 j) : k_both l o (f_PG_height i j) (f_Mod_height i j) := by
  refine k_both_of fun mc mm hc hm => ?_
  have hg := hk.1
  by_cases c : g_in (l 0 0) (l 0 1) i j
  · obtain ⟨hp, hi', hj'⟩ := g_in_pt hg c
    have hwd := hc.2.2.1.2.2.2.1 _ hp
    refine ⟨mc 55 (10 * i + j), ?_, ?_⟩
    · unfold f_PG_height
      rw [x_lt, x_one hc.1.1, c_isInside hc.1.2 hg hi hj, x_bd, if_pos c, x_w1, if_neg (by decide), show i * 10 + j = 10 * i + j by omega, x_rd (n := 100) (by omega) (by omega) (by decide)]
      exact o_rt ⟨q_w_id (by omega) (by omega), k_fc_id _, hc⟩
    · unfold f_Mod_height
      rw [m_isPoint hm.1 hg hi hj, x_bd, if_pos c, x_w1, if_neg (by decide)]
      refine o_bd (m_layHeights hm.1 hg) fun _ m1 ⟨f1, d1, e1, r1, r2⟩ => ?_
      have hf : k_fm mm m1 := k_fm_dep fun c c1 c2 _ _ _ _ => f1 c c1 c2
      have hr := r2 _ hp
      have hH : mc 55 (10 * i + j) = m1 107 (10 * i + j) := g_H_uniq hg (g_D_uniq hg hc.2.2.1.1 d1) hc.2.2.1.2.1 e1 _ hp
      rw [x_rd (n := 100) (by omega) (by omega) (by decide), hH]
      exact o_rt ⟨q_w_id (by omega) (by omega), hf⟩
  · refine ⟨-1, ?_, ?_⟩
    · unfold f_PG_height
      rw [x_lt, x_one hc.1.1, c_isInside hc.1.2 hg hi hj, x_bd, if_neg c, x_w0, if_pos rfl]
      exact o_rt ⟨rfl, k_fc_id _, hc⟩
    · unfold f_Mod_height
      rw [m_isPoint hm.1 hg hi hj, x_bd, if_neg c, x_w0, if_pos rfl]
      exact o_rt ⟨rfl, k_fm_id _⟩
theorem k_fm_pl {m m' : q_Mem} (h : ∀ c, c ≠ 81 → c < 116 ∨ 119 < c → m' c = m c) (h' : ∀ j, j < 53 ∨ 55 < j → m' 81 j = m 81 j) : k_fm m m' := ⟨fun j hj => h' j (by omega), fun c c0 hc => h c c0 (by omega)⟩
theorem s_layNow {m : q_Mem} (hk : k_ok l o) (hm : k_M l o m) : q_ok (f_Mod_layNow m) (fun _ m' => k_fm m m' ∧ k_M l o m' ∧ k_plan l m' (o 0) (o 1) (o 2) (o 3) ∧ ∀ c, 81 < c → c < 116 → m' c = m c) := by
  refine o_mono (m_layNow hm.1 hk.1 (k_M_now hm) hk.2.2.1 hk.2.2.2.1 hk.2.2.2.2.1) fun _ m1 ⟨f1, f2, f3⟩ => ?_
  have hf := k_fm_pl f1 f2
  exact ⟨hf, k_M_fr hm hf, f3, fun c c1 c2 => f1 c (by omega) (by omega)⟩
theorem s_layRun {m : q_Mem} (hk : k_ok l o) (hm : k_M l o m) (hp : k_plan l m (o 0) (o 1) (o 2) (o 3)) : q_ok (f_Mod_layRun m) (fun _ m' => k_fm m m' ∧ k_M l o m' ∧ (∀ c, c ≠ 111 → c ≠ 113 → c ≠ 114 → m' c = m c) ∧ k_run l o (o 5) (m' 111)) := by
  have hl := hk.2.2.1
  refine o_mono (m_layRun hm.1 hm.2.1 hk.1 hk.2.1 hp hl.1 hl.2.1 hk.2.2.2.1 hk.2.2.2.2.1) fun _ m1 ⟨f1, f2⟩ => ?_
  have hf : k_fm m m1 := ⟨fun j _ => by rw [f1 81 (by decide) (by decide) (by decide)], fun c c0 hc => f1 c (by omega) (by omega) (by omega)⟩
  refine ⟨hf, k_M_fr hm hf, f1, f_V_same f2 fun p hpp => ?_⟩
  have hce := g_ce_55 hk.1 (a := o 2) (b := o 3) hl.1 hl.2.1 hpp
  have hb := hm.2.2.2 (g_ce l (o 2) (o 3) p) hce.1 (by omega)
  unfold f_act
  refine and_congr_right fun _ => ?_
  by_cases c : f_un (o 5) (g_ce l (o 2) (o 3) p)
  · rw [hb.1 c]
    exact ⟨fun _ => c, fun _ => by decide⟩
  · rw [hb.2 c]
    exact ⟨fun h => absurd rfl h, fun h => absurd h c⟩
theorem b_value (hk : k_ok l o) {v i j : Int} (hv : q_32 v) (hi : q_32 i) (hj : q_32 j) : k_both l o (f_PG_value v i j) (f_Mod_value v i j) := by
  refine k_both_of fun mc mm hc hm => ?_
  have hg := hk.1
  have h2 := hg.2.2.1
  by_cases cv : 0 ≤ v ∧ v < l 0 2
  · by_cases c : g_in (l 0 0) (l 0 1) i j
    · obtain ⟨hp, hi', hj'⟩ := g_in_pt hg c
      refine ⟨q_w (mc 74 (100 * v + (10 * i + j))), ?_, ?_⟩
      · unfold f_PG_value
        rw [s_isVariable hg hc hv, x_bd, if_pos cv, x_w1, if_neg (by decide), x_lt, x_one hc.1.1, c_isInside hc.1.2 hg hi hj, x_bd, if_pos c, x_w1, if_neg (by decide), show v * 100 + i * 10 + j = 100 * v + (10 * i + j) by omega, x_rd (n := 300) (by omega) (by omega) (by decide)]
        exact o_rt ⟨rfl, k_fc_id _, hc⟩
      · unfold f_Mod_value
        rw [m_isVariable hm.1 hg hv, x_bd, if_pos cv, x_w1, if_neg (by decide), m_isPoint hm.1 hg hi hj, x_bd, if_pos c, x_w1, if_neg (by decide)]
        refine o_bd (m_layValues hm.1 hm.2.1 hg hk.2.1) fun _ m1 ⟨f1, d1, r1, v1, _⟩ => ?_
        rw [show 100 * v + 10 * i + j = 100 * v + (10 * i + j) by omega, x_rd (n := 300) (by omega) (by omega) (by decide)]
        have hD := g_D_uniq hg hc.2.2.1.1 d1
        have hV : f_V l (m1 106) (fun p => 0 ≤ m1 106 p) (-1) (-1) (mc 74) := f_V_T hk.2.1 hg (f_V_same hc.2.2.2.2.1 fun p hp => by rw [hD p hp]) hD
        rw [f_V_uniq hk.2.1 hg (fun p hp => (r1 p hp).1) hV v1 v _ cv.1 cv.2 hp]
        exact o_rt ⟨rfl, k_fm_dep fun c c1 c2 c3 c4 c5 c6 => f1 c c1 c3 c5 c6⟩
    · refine ⟨0, ?_, ?_⟩
      · unfold f_PG_value
        rw [s_isVariable hg hc hv, x_bd, if_pos cv, x_w1, if_neg (by decide), x_lt, x_one hc.1.1, c_isInside hc.1.2 hg hi hj, x_bd, if_neg c, x_w0, if_pos rfl]
        exact o_rt ⟨rfl, k_fc_id _, hc⟩
      · unfold f_Mod_value
        rw [m_isVariable hm.1 hg hv, x_bd, if_pos cv, x_w1, if_neg (by decide), m_isPoint hm.1 hg hi hj, x_bd, if_neg c, x_w0, if_pos rfl]
        exact o_rt ⟨rfl, k_fm_id _⟩
  · refine ⟨0, ?_, ?_⟩
    · unfold f_PG_value
      rw [s_isVariable hg hc hv, x_bd, if_neg cv, x_w0, if_pos rfl]
      exact o_rt ⟨rfl, k_fc_id _, hc⟩
    · unfold f_Mod_value
      rw [m_isVariable hm.1 hg hv, x_bd, if_neg cv, x_w0, if_pos rfl]
      exact o_rt ⟨rfl, k_fm_id _⟩
theorem b_run (hk : k_ok l o) {v i j : Int} (hv : q_32 v) (hi : q_32 i) (hj : q_32 j) : k_both l o (f_PG_run v i j) (f_Mod_run v i j) := by
  intro mc mm hc hm
  have hg := hk.1
  have h2 := hg.2.2.1
  by_cases cv : 0 ≤ v ∧ v < l 0 2
  · by_cases c : g_in (l 0 0) (l 0 1) i j
    · obtain ⟨hp, hi', hj'⟩ := g_in_pt hg c
      obtain ⟨_, m1, e1, f1, f2, c1, _, r1⟩ := s_freshenRun hk hc
      obtain ⟨_, m2, e2, g1, k2, p2, _⟩ := s_layNow hk hm
      obtain ⟨_, m3, e3, g3, _, _, r3⟩ := s_layRun hk k2 p2
      refine ⟨m1 75 (100 * v + (10 * i + j)), m3 111 (100 * v + (10 * i + j)), m1, m3, ?_, ?_, ?_, ⟨f1, c1⟩, k_fm_tr g1 g3⟩
      · unfold f_PG_run
        rw [s_isVariable hg hc hv, x_bd, if_pos cv, x_w1, if_neg (by decide), x_lt, x_one hc.1.1, c_isInside hc.1.2 hg hi hj, x_bd, if_pos c, x_w1, if_neg (by decide), e1, x_bd, show v * 100 + i * 10 + j = 100 * v + (10 * i + j) by omega, x_rd (n := 300) (by omega) (by omega) (by decide)]
        rfl
      · unfold f_Mod_run
        rw [m_isVariable hm.1 hg hv, x_bd, if_pos cv, x_w1, if_neg (by decide), m_isPoint hm.1 hg hi hj, x_bd, if_pos c, x_w1, if_neg (by decide), e2, x_bd, e3, x_bd, show 100 * v + 10 * i + j = 100 * v + (10 * i + j) by omega, x_rd (n := 300) (by omega) (by omega) (by decide)]
        rfl
      · rw [f_V_uniq hk.2.1 hg (fun p hp => by have := g_tk_rg hg (o 0) (o 1) hp; omega) r1 r3 v _ cv.1 cv.2 hp]
    · refine ⟨0, 0, mc, mm, ?_, ?_, rfl, ⟨k_fc_id _, hc⟩, k_fm_id _⟩
      · unfold f_PG_run
        rw [s_isVariable hg hc hv, x_bd, if_pos cv, x_w1, if_neg (by decide), x_lt, x_one hc.1.1, c_isInside hc.1.2 hg hi hj, x_bd, if_neg c, x_w0, if_pos rfl]
        rfl
      · unfold f_Mod_run
        rw [m_isVariable hm.1 hg hv, x_bd, if_pos cv, x_w1, if_neg (by decide), m_isPoint hm.1 hg hi hj, x_bd, if_neg c, x_w0, if_pos rfl]
        rfl
  · refine ⟨0, 0, mc, mm, ?_, ?_, rfl, ⟨k_fc_id _, hc⟩, k_fm_id _⟩
    · unfold f_PG_run
      rw [s_isVariable hg hc hv, x_bd, if_neg cv, x_w0, if_pos rfl]
      rfl
    · unfold f_Mod_run
      rw [m_isVariable hm.1 hg hv, x_bd, if_neg cv, x_w0, if_pos rfl]
      rfl
theorem b_tick (hk : k_ok l o) {i j : Int} (hi : q_32 i) (hj : q_32 j) : k_both l o (f_PG_tick i j) (f_Mod_tick i j) := by
  refine k_both_of fun mc mm hc hm => ?_
  have hg := hk.1
  by_cases c : g_in (l 0 0) (l 0 1) i j
  · obtain ⟨hp, hi', hj'⟩ := g_in_pt hg c
    refine ⟨q_w (g_tk l (o 0) (o 1) (10 * i + j)), ?_, ?_⟩
    · unfold f_PG_tick
      rw [x_lt, x_one hc.1.1, c_isInside hc.1.2 hg hi hj, x_bd, if_pos c, x_w1, if_neg (by decide), show i * 10 + j = 10 * i + j by omega, x_rd (n := 100) (by omega) (by omega) (by decide), hc.2.2.2.1.1 _ hp]
      exact o_rt ⟨rfl, k_fc_id _, hc⟩
    · unfold f_Mod_tick
      rw [m_isPoint hm.1 hg hi hj, x_bd, if_pos c, x_w1, if_neg (by decide)]
      refine o_bd (s_layNow hk hm) fun _ m1 ⟨f1, _, p1, _⟩ => ?_
      rw [x_rd (n := 100) (by omega) (by omega) (by decide), p1.1 _ hp]
      exact o_rt ⟨rfl, f1⟩
  · refine ⟨-1, ?_, ?_⟩
    · unfold f_PG_tick
      rw [x_lt, x_one hc.1.1, c_isInside hc.1.2 hg hi hj, x_bd, if_neg c, x_w0, if_pos rfl]
      exact o_rt ⟨rfl, k_fc_id _, hc⟩
    · unfold f_Mod_tick
      rw [m_isPoint hm.1 hg hi hj, x_bd, if_neg c, x_w0, if_pos rfl]
      exact o_rt ⟨rfl, k_fm_id _⟩
theorem b_cell (hk : k_ok l o) {i j : Int} (hi : q_32 i) (hj : q_32 j) : k_both l o (f_PG_cell i j) (f_Mod_cell i j) := by
  refine k_both_of fun mc mm hc hm => ?_
  have hg := hk.1
  by_cases c : g_in (l 0 0) (l 0 1) i j
  · obtain ⟨hp, hi', hj'⟩ := g_in_pt hg c
    refine ⟨q_w (g_ce l (o 2) (o 3) (10 * i + j)), ?_, ?_⟩
    · unfold f_PG_cell
      rw [x_lt, x_one hc.1.1, c_isInside hc.1.2 hg hi hj, x_bd, if_pos c, x_w1, if_neg (by decide), show i * 10 + j = 10 * i + j by omega, x_rd (n := 100) (by omega) (by omega) (by decide), hc.2.2.2.1.2.1 _ hp]
      exact o_rt ⟨rfl, k_fc_id _, hc⟩
    · unfold f_Mod_cell
      rw [m_isPoint hm.1 hg hi hj, x_bd, if_pos c, x_w1, if_neg (by decide)]
      refine o_bd (s_layNow hk hm) fun _ m1 ⟨f1, _, p1, _⟩ => ?_
      rw [x_rd (n := 100) (by omega) (by omega) (by decide), p1.2.2.1 _ hp]
      exact o_rt ⟨rfl, f1⟩
  · refine ⟨-1, ?_, ?_⟩
    · unfold f_PG_cell
      rw [x_lt, x_one hc.1.1, c_isInside hc.1.2 hg hi hj, x_bd, if_neg c, x_w0, if_pos rfl]
      exact o_rt ⟨rfl, k_fc_id _, hc⟩
    · unfold f_Mod_cell
      rw [m_isPoint hm.1 hg hi hj, x_bd, if_neg c, x_w0, if_pos rfl]
      exact o_rt ⟨rfl, k_fm_id _⟩
end q1
