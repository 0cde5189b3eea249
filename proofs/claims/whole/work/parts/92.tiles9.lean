/-! QUESTION: tiles -/
noncomputable def i_Z (l : q_Mem) (r c : Int) : Int → Int := fun i => @ite Int (i_H l r c (fun _ _ => True) (i / 100) (i % 100)) (Classical.propDecidable _) 1 0
/-- the longest row of tiles, as it must be -/
def i_len (l : q_Mem) (r c v : Int) : Prop := ∃ X, i_sol l r c (i_Z l r c) X ∧ i_row l r c X v
theorem i_Z_tab (l : q_Mem) (r c : Int) : i_Tab l r c (fun _ _ => True) (i_Z l r c) := by
  intro t u t0 t1 u0 u1
  have e1 : (100 * t + u) / 100 = t := by omega
  have e2 : (100 * t + u) % 100 = u := by omega
  unfold i_Z
  rw [e1, e2]
  by_cases h : i_H l r c (fun _ _ => True) t u
  · rw [if_pos h]; exact Or.inl ⟨rfl, h⟩
  · rw [if_neg h]; exact Or.inr ⟨rfl, h⟩
theorem g_db_tg {tg tg' D : Int → Int} : ∀ n : Nat, (∀ k : Int, 0 ≤ k → k < n → tg k = tg' k) → g_db tg D n = g_db tg' D n := by
  intro n
  induction n with
  | zero => intro _; rfl
  | succ n ih =>
    intro h
    have a := g_db_s tg D (k := (n : Int)) (by omega)
    have b := g_db_s tg' D (k := (n : Int)) (by omega)
    rw [show ((n : Int) + 1).toNat = n + 1 by omega, show ((n : Int)).toNat = n by omega] at a b
    rw [a, b, ih fun k k0 k1 => h k k0 (by omega), h n (by omega) (by omega)]
section tiles9
variable {l m : q_Mem} {r c t : Int} {o : Int → Int}
theorem i_len_u (hw : g_lw l) (hr : 1 ≤ r) (hc : 1 ≤ c) {v v' : Int} (h : i_len l r c v) (h' : i_len l r c v') : v = v' := by
  obtain ⟨X, h1, h2⟩ := h
  obtain ⟨X', h1', h2'⟩ := h'
  exact i_row_u h2 h2' (i_sol_u hr hc (i_Z_tab l r c) hw h1 h1')
theorem i_len_M (hr : 1 ≤ r) (hc : 1 ≤ c) {Z X : Int → Int} {v : Int} (hZ : i_Tab l r c (fun _ _ => True) Z) (h1 : i_sol l r c Z X) (h2 : i_row l r c X v) : i_len l r c v := by
  refine ⟨X, fun w hw' => ?_, h2⟩
  rw [h1 w hw']
  have hwr := i_S_rg hr hc hw'
  refine g_db_tg 100 fun u u0 u1 => ?_
  have a := hZ w u hwr.1 hwr.2 u0 u1
  have b := i_Z_tab l r c w u hwr.1 hwr.2 u0 u1
  unfold i_tg
  rcases a with ⟨a1, a2⟩ | ⟨a1, a2⟩ <;> rcases b with ⟨b1, b2⟩ | ⟨b1, b2⟩
  · rw [a1, b1]
  · exact absurd a2 b2
  · exact absurd b2 a2
  · rw [a1, b1]
theorem i_row_rg (hw : g_lw l) {X : Int → Int} {v : Int} (h : i_row l r c X v) (hX : ∀ w, i_S l r c w → X w < 100) : 0 ≤ v ∧ v ≤ 100 := by
  rcases h with ⟨h, _⟩ | ⟨h1, ⟨w, hw', e⟩, _⟩
  · omega
  · have := h1 w hw'
    have := hX w hw'
    omega
/-- both find one length -/
theorem m_len (h : g_ML m l) (hw : g_lw l) (hr : 1 ≤ r ∧ r ≤ 10) (hc : 1 ≤ c ∧ c ≤ 10) {Q : Int → q_Mem → Prop} {K : Int → Int → q_Mem → q_Res} (hK : ∀ v m', (∀ c', c' ≠ 121 → c' ≠ 122 → m' c' = m c') → i_len l r c v → (0 ≤ v ∧ v ≤ 100) → q_ok (K (i_X l r c) v m') Q) : q_ok (q_bd (f_Mod_layTiles r c m) fun v7 m8 => q_bd (f_Mod_tileRow r c m8) fun v9 m10 => K v7 v9 m10) Q := by
  refine o_bd (m_layTiles h hw hr hc) fun v7 m8 ⟨e7, f8, t8⟩ => ?_
  have hm8 : g_ML m8 l := g_ML_of h (by rw [f8 81 (by decide)]) fun c' _ _ => f8 c' (by omega)
  refine o_bd (m_tileRow hm8 hw hr hc fun t u t0 t1 u0 u1 => ?_) fun v m10 ⟨f10, X, h1, h2, h3⟩ => ?_
  · rcases t8 t u t0 t1 u0 u1 with ⟨h, _⟩ | ⟨h, _⟩
    · exact Or.inr h
    · exact Or.inl h
  · rw [e7]
    exact hK v m10 (fun c' c1 c2 => by rw [f10 c' c1, f8 c' c2]) (i_len_M hr.1 hc.1 t8 h1 h3) (i_row_rg hw h3 fun w hw' => (h2 w hw').2)
theorem c_len (ht : t ∈ q_Lp) (hl : g_CL m t l) (hw : g_lw l) (hr : 1 ≤ r ∧ r ≤ 10) (hc : 1 ≤ c ∧ c ≤ 10) (e3 : m 69 3 = r) (e4 : m 69 4 = c) (e5 : m 69 5 = i_A l c) (e6 : m 69 6 = i_N l r c) : q_ok (f_Tile_longestRow t m) (fun v m' => i_fr2 m m' ∧ i_len l r c v) :=
  o_mono (c_longestRow ht hl hw hr hc e3 e4 e5 e6) fun v m' ⟨f, _, X, h1, _, h3⟩ => ⟨f, X, h1 _ (i_Z_tab l r c), h3⟩
theorem k_fc_69 {m m' : q_Mem} (h : ∀ c', c' ≠ 69 → c' ≠ 70 → c' ≠ 71 → c' ≠ 72 → m' c' = m c') : k_fc m m' := ⟨fun j _ => by rw [h 0 (by decide) (by decide) (by decide) (by decide)], fun c _ hc => h c (by omega) (by omega) (by omega) (by omega)⟩
theorem k_C_69 {m m' : q_Mem} (hc : k_C l o m) (h : ∀ c', c' ≠ 69 → c' ≠ 70 → c' ≠ 71 → c' ≠ 72 → m' c' = m c') : k_C l o m' := k_C_same hc (k_fc_69 h) (by rw [h 0 (by decide) (by decide) (by decide) (by decide)]) (h 75 (by decide) (by decide) (by decide) (by decide))
theorem k_fm_121 {m m' : q_Mem} (h : ∀ c', c' ≠ 121 → c' ≠ 122 → m' c' = m c') : k_fm m m' := ⟨fun j _ => by rw [h 81 (by decide) (by decide)], fun c _ hc => h c (by omega) (by omega)⟩
theorem b_tiles (hk : k_ok l o) {r c y : Int} (hr : q_32 r) (hc : q_32 c) (hy : q_32 y) : k_both l o (f_PG_tiles r c y) (f_Mod_tiles r c y) := by
  intro mc mm hC hM
  have hg := hk.1
  have hy' : q_w y = y := q_w_id hy.1 hy.2
  have hr' : q_w r = r := q_w_id hr.1 hr.2
  have hc' : q_w c = c := q_w_id hc.1 hc.2
  by_cases cr : 1 ≤ r ∧ r ≤ 10
  · by_cases cc : 1 ≤ c ∧ c ≤ 10
    · -- the class cuts
      have pre : f_PG_tiles r c y mc = q_bd (f_Tile_cut (mc 0 1) r c mc) fun _ m2 => if y = 0 then (q_rt (m2 69 6) m2) else if y = 1 then (q_rt (m2 69 7) m2) else if y = 2 then (q_lt (m2 0 1) fun v6 => q_one q_Lp v6 <| q_bd (f_Tile_longestRow v6 m2) fun v7 m8 => if q_w v7 ≤ 0 then (q_rt 0 m8) else (q_rt 1 m8)) else if y = 3 then (q_lt (m2 0 1) fun v10 => q_one q_Lp v10 <| q_bd (f_Tile_longestRow v10 m2) fun v11 m12 => q_rt v11 m12) else (q_rt (-1) m2) := by
        unfold f_PG_tiles
        rw [hr', hc', hy', if_neg (show ¬ r < 1 by omega), if_neg (show ¬ 10 < r by omega), if_neg (show ¬ c < 1 by omega), if_pos (show c ≤ 10 by omega), x_lt, x_one hC.1.1]
      obtain ⟨_, m2, e2, f2, ⟨s3, s4, s5, s6, s7⟩, _⟩ := c_cut hC.1.1 hC.1.2 hg cr cc
      rw [e2, x_bd] at pre
      have f2' : ∀ c', c' ≠ 69 → c' ≠ 70 → c' ≠ 71 → c' ≠ 72 → m2 c' = mc c' := fun c' c1 _ _ _ => f2 c' c1
      have hC2 := k_C_69 hC f2'
      have e01 : m2 0 1 = mc 0 1 := by rw [f2 0 (by decide)]
      obtain ⟨v, m8, e8, f8, hv⟩ := c_len (t := mc 0 1) hC.1.1 (by rw [← e01]; exact hC2.1.2) hg cr cc s3 s4 s5 s6
      have f8' : ∀ c', c' ≠ 69 → c' ≠ 70 → c' ≠ 71 → c' ≠ 72 → m8 c' = mc c' := fun c' c1 c2 c3 c4 => by rw [f8.1 c' c1 c2 c3 c4, f2 c' c1]
      -- the model
      have mpre : f_Mod_tiles r c y mm = if 0 ≤ y ∧ y ≤ 3 then (q_bd (f_Mod_layTiles r c mm) fun v7 m8 => q_bd (f_Mod_tileRow r c m8) fun v9 m10 => if y = 0 then (q_bd (f_Mod_tileMany r c m10) fun v11 m12 => q_rt v11 m12) else (if y = 1 then (q_rt v7 m10) else (if y = 2 then (if q_w v9 ≤ 0 then (q_rt 0 m10) else (q_rt 1 m10)) else (q_rt v9 m10)))) else q_rt (-1) mm := by
        unfold f_Mod_tiles
        rw [m_isIn hr (by decide) (by decide), x_bd, if_pos cr, x_w1, if_neg (by decide), m_isIn hc (by decide) (by decide), x_bd, if_pos cc, x_w1, if_neg (by decide), m_isIn hy (by decide) (by decide), x_bd, hy']
        by_cases c3 : 0 ≤ y ∧ y ≤ 3
        · rw [if_pos c3, if_pos c3, x_w1, if_neg (by decide)]
        · rw [if_neg c3, if_neg c3, x_w0, if_pos rfl]
      by_cases c3 : 0 ≤ y ∧ y ≤ 3
      · rw [if_pos c3] at mpre
        have hmod : q_ok (f_Mod_tiles r c y mm) (fun r' m' => k_fm mm m' ∧ r' = if y = 0 then i_N l r c else if y = 1 then i_X l r c else if y = 2 then (if v ≤ 0 then 0 else 1) else v) := by
          rw [mpre]
          refine m_len (K := fun v7 v9 m10 => if y = 0 then (q_bd (f_Mod_tileMany r c m10) fun v11 m12 => q_rt v11 m12) else (if y = 1 then (q_rt v7 m10) else (if y = 2 then (if q_w v9 ≤ 0 then (q_rt 0 m10) else (q_rt 1 m10)) else (q_rt v9 m10)))) hM.1 hg cr cc fun v' m10 f10 hv' hvr => ?_
          have ev : v' = v := i_len_u hg cr.1 cc.1 hv' hv
          have hf := k_fm_121 f10
          by_cases y0 : y = 0
          · rw [if_pos y0, m_tileMany (k_M_fr hM hf).1 hg cr cc, x_bd]
            exact o_rt ⟨hf, by rw [if_pos y0]; rfl⟩
          rw [if_neg y0]
          by_cases y1 : y = 1
          · rw [if_pos y1]
            exact o_rt ⟨hf, by rw [if_neg y0, if_pos y1]⟩
          rw [if_neg y1]
          by_cases y2 : y = 2
          · rw [if_pos y2, q_w_id (x := v') (by omega) (by omega)]
            by_cases cv : v' ≤ 0
            · rw [if_pos cv]
              exact o_rt ⟨hf, by rw [if_neg y0, if_neg y1, if_pos y2, if_pos (by omega)]⟩
            · rw [if_neg cv]
              exact o_rt ⟨hf, by rw [if_neg y0, if_neg y1, if_pos y2, if_neg (by omega)]⟩
          rw [if_neg y2]
          exact o_rt ⟨hf, by rw [if_neg y0, if_neg y1, if_neg y2]; exact ev⟩
        have hvr : 0 ≤ v ∧ v ≤ 100 := by
          obtain ⟨r', m', em, hf, er⟩ := hmod
          have : q_ok (q_bd (f_Mod_layTiles r c mm) fun v7 m8 => q_bd (f_Mod_tileRow r c m8) fun v9 m10 => q_rt v9 m10) (fun _ _ => 0 ≤ v ∧ v ≤ 100) := m_len (K := fun _ v9 m10 => q_rt v9 m10) hM.1 hg cr cc fun v' m10 _ hv' hvr => o_rt (by rw [← i_len_u hg cr.1 cc.1 hv' hv]; exact hvr)
          obtain ⟨_, _, _, h⟩ := this
          exact h
        obtain ⟨r', mm', em, hf, er⟩ := hmod
        by_cases y0 : y = 0
        · rw [if_pos y0] at pre er
          exact ⟨_, r', m2, mm', pre, em, by rw [er, s6]; rfl, ⟨k_fc_69 f2', hC2⟩, hf⟩
        rw [if_neg y0] at pre er
        by_cases y1 : y = 1
        · rw [if_pos y1] at pre er
          exact ⟨_, r', m2, mm', pre, em, by rw [er, s7], ⟨k_fc_69 f2', hC2⟩, hf⟩
        rw [if_neg y1] at pre er
        by_cases y2 : y = 2
        · rw [if_pos y2, x_lt, e01, x_one hC.1.1, e8, x_bd, q_w_id (x := v) (by omega) (by omega)] at pre
          rw [if_pos y2] at er
          by_cases cv : v ≤ 0
          · rw [if_pos cv] at pre er
            exact ⟨_, r', m8, mm', pre, em, by rw [er], ⟨k_fc_69 f8', k_C_69 hC f8'⟩, hf⟩
          · rw [if_neg cv] at pre er
            exact ⟨_, r', m8, mm', pre, em, by rw [er], ⟨k_fc_69 f8', k_C_69 hC f8'⟩, hf⟩
        rw [if_neg y2] at pre er
        rw [if_pos (show y = 3 by omega), x_lt, e01, x_one hC.1.1, e8, x_bd] at pre
        exact ⟨_, r', m8, mm', pre, em, by rw [er], ⟨k_fc_69 f8', k_C_69 hC f8'⟩, hf⟩
      · rw [if_neg c3] at mpre
        rw [if_neg (by omega), if_neg (by omega), if_neg (by omega), if_neg (by omega)] at pre
        exact ⟨_, _, m2, mm, pre, mpre, rfl, ⟨k_fc_69 f2', hC2⟩, k_fm_id _⟩
    · refine ⟨-1, -1, mc, mm, ?_, ?_, rfl, ⟨k_fc_id _, hC⟩, k_fm_id _⟩
      · unfold f_PG_tiles
        rw [hr', hc', if_neg (show ¬ r < 1 by omega), if_neg (show ¬ 10 < r by omega)]
        by_cases c1 : c < 1
        · rw [if_pos c1, x_rt]
        · rw [if_neg c1, if_neg (by omega), x_rt]
      · unfold f_Mod_tiles
        rw [m_isIn hr (by decide) (by decide), x_bd, if_pos cr, x_w1, if_neg (by decide), m_isIn hc (by decide) (by decide), x_bd, if_neg cc, x_w0, if_pos rfl, x_rt]
  · refine ⟨-1, -1, mc, mm, ?_, ?_, rfl, ⟨k_fc_id _, hC⟩, k_fm_id _⟩
    · unfold f_PG_tiles
      rw [hr']
      by_cases c1 : r < 1
      · rw [if_pos c1, x_rt]
      · rw [if_neg c1, if_pos (by omega), x_rt]
    · unfold f_Mod_tiles
      rw [m_isIn hr (by decide) (by decide), x_bd, if_neg cr, x_w0, if_pos rfl, x_rt]
end tiles9
