/-! QUESTIONS: beats, fewest: the model's side -/
section beats2
variable {l m : q_Mem} {o : Int → Int}
/-- the loads of tick t by the points below k -/
def t_ld (l : q_Mem) (o : Int → Int) (n y t k w : Int) : Int := g_cnt (fun p => decide (g_th (l 0 0) (l 0 1) p) && (g_tk l (o 0) (o 1) p == t && t_wk l o n y p == w)) k.toNat
theorem m_beatTick (hk : k_ok l o) (hm : k_M l o m) (hpl : k_plan l m (o 0) (o 1) (o 2) (o 3)) {n y a t : Int} (hn : 1 ≤ n ∧ n ≤ 12) (ht : 0 ≤ t ∧ t < 1000) {m1 : q_Mem} (f1 : ∀ c, c ≠ 120 → m1 c = m c) {Q : Int → q_Mem → Prop} (K : Int → Int → Int → Int → Int → q_Mem → q_Res)
    (hK : ∀ m', (∀ c, c ≠ 120 → m' c = m c) → q_ok (K n y ((g_cc l (o 2) (o 3) + n - 1) / n) (a + t_M (fun w => g_ca l (fun p => g_tk l (o 0) (o 1) p == t && t_wk l o n y p == w)) 12) (t + 1) m') Q) : q_ok (f_Mod_beatsBy_l33 K q_F n y ((g_cc l (o 2) (o 3) + n - 1) / n) a t 0 m1) Q := by
  have hg := hk.1
  have hcc := g_cc_rg hk
  have hbl := t_bl hk hn
  have hlat := g_lat_rg hg hk.2.2.2.1 hk.2.2.2.2.1
  refine o_upF (fun n' k (z : q_Mem) => f_Mod_beatsBy_l33 K n' n y ((g_cc l (o 2) (o 3) + n - 1) / n) a t k z) (fun k z => 0 ≤ k ∧ (∀ c, c ≠ 120 → z c = m c) ∧ ∀ w, 0 ≤ w → w < k → z 120 w = 0) _ (k := 0) (e := 12) (s := m1) (by omega) (by omega) ⟨by omega, f1, fun w w0 w1 => by omega⟩ ?_ ?_
  · intro n' k z hk1 ⟨k0, fz, hz⟩ hnx
    show q_ok (f_Mod_beatsBy_b33 K (f_Mod_beatsBy_l33 K n') n y ((g_cc l (o 2) (o 3) + n - 1) / n) a t k z) _
    unfold f_Mod_beatsBy_b33
    rw [q_w_id (x := k) (by omega) (by omega), if_neg (by omega), x_wr (n := 12) k0 (by omega) (by decide)]
    refine hnx _ ⟨by omega, fun c hc => by rw [q_up_f hc]; exact fz c hc, fun w w0 w1 => ?_⟩
    by_cases c : w = k
    · rw [c, q_up_s]
    · rw [q_up_i c]; exact hz w w0 (by omega)
  · intro n' z ⟨_, fz, hz⟩
    show q_ok (f_Mod_beatsBy_b33 K (f_Mod_beatsBy_l33 K n') n y ((g_cc l (o 2) (o 3) + n - 1) / n) a t 12 z) _
    unfold f_Mod_beatsBy_b33
    rw [if_pos (by decide)]
    refine o_upF (fun n' k (z : q_Mem) => f_Mod_beatsBy_l57 K n' n y ((g_cc l (o 2) (o 3) + n - 1) / n) a t k z) (fun k z => 0 ≤ k ∧ (∀ c, c ≠ 120 → z c = m c) ∧ ∀ w, 0 ≤ w → w < 12 → z 120 w = t_ld l o n y t k w) _ (k := 0) (e := 100) (s := z) (by omega) (by omega) ⟨by omega, fz, fun w w0 w1 => by rw [hz w w0 w1]; rfl⟩ ?_ ?_
    · intro n' k z hk1 ⟨k0, fz, hz⟩ hnx
      have hmz : g_ML z l := g_ML_of hm.1 (by rw [fz 81 (by decide)]) fun c _ _ => fz c (by omega)
      have skip : ¬ (g_pt l k ∧ g_tk l (o 0) (o 1) k = t) → ∀ w, t_ld l o n y t (k + 1) w = t_ld l o n y t k w := by
        intro hh w
        unfold t_ld
        rw [g_cnt_s _ k0, if_neg, Int.add_zero]
        intro h
        simp at h
        exact hh ⟨⟨⟨k0, hk1⟩, h.1⟩, h.2.1⟩
      show q_ok (f_Mod_beatsBy_b57 K (f_Mod_beatsBy_l57 K n') n y ((g_cc l (o 2) (o 3) + n - 1) / n) a t k z) _
      unfold f_Mod_beatsBy_b57 f_Mod_beatsBy_b114 f_Mod_beatsBy_b119
      rw [q_w_id (x := k) (by omega) (by omega), if_neg (show ¬ 100 ≤ k by omega), m_isThere hmz hg ⟨k0, hk1⟩, x_bd]
      by_cases c : g_th (l 0 0) (l 0 1) k
      · have hp : g_pt l k := ⟨⟨k0, hk1⟩, c⟩
        have htk := g_tk_rg hg (o 0) (o 1) hp
        have hce := g_ce_rg hg hk.2.2.1.1 hk.2.2.1.2.1 hp
        have hw := t_wk_rg hk (y := y) hn hp
        rw [if_pos c, x_w1, if_neg (by decide), x_rd (n := 100) k0 hk1 (by decide), fz 116 (by decide), hpl.1 k hp, q_w_id (x := g_tk l (o 0) (o 1) k) (by omega) (by omega), q_w_id (x := t) (by omega) (by omega)]
        by_cases c1 : g_tk l (o 0) (o 1) k = t
        · rw [if_pos c1]
          have fin : q_ok (q_rd z 120 12 (t_wk l o n y k) fun v1 => q_wr z 120 12 (t_wk l o n y k) (v1 + 1) fun m2 => f_Mod_beatsBy_l57 K n' n y ((g_cc l (o 2) (o 3) + n - 1) / n) a t (k + 1) m2) Q := by
            rw [x_rd (n := 12) hw.1 hw.2 (by decide), x_wr (n := 12) hw.1 hw.2 (by decide)]
            refine hnx _ ⟨by omega, fun c hc => by rw [q_up_f hc]; exact fz c hc, fun w w0 w1 => ?_⟩
            have e : t_ld l o n y t (k + 1) w = t_ld l o n y t k w + (if t_wk l o n y k = w then 1 else 0) := by
              unfold t_ld
              rw [g_cnt_s _ k0]
              by_cases cw : t_wk l o n y k = w
              · rw [if_pos cw, if_pos (by simp [c, c1, cw])]
              · rw [if_neg cw, if_neg (by simp [cw])]
            rw [e]
            by_cases cw : w = t_wk l o n y k
            · rw [if_pos cw.symm, cw, q_up_s, hz _ hw.1 hw.2]
            · rw [if_neg fun h => cw h.symm, q_up_i cw, Int.add_zero]; exact hz w w0 w1
          by_cases cy : q_w y = 0
          · rw [if_pos cy, x_rd (n := 100) k0 hk1 (by decide), fz 117 (by decide), hpl.2.2.1 k hp, x_dv hce.1 (by omega) (by omega) (by omega)]
            unfold t_wk at fin
            rw [if_pos cy] at fin
            exact fin
          · rw [if_neg cy, x_rd (n := 100) k0 hk1 (by decide), fz 117 (by decide), hpl.2.2.1 k hp, x_md hce.1 (by omega) (by omega) (by omega)]
            unfold t_wk at fin
            rw [if_neg cy] at fin
            exact fin
        · rw [if_neg c1]
          exact hnx z ⟨by omega, fz, fun w w0 w1 => by rw [skip (fun h => c1 h.2)]; exact hz w w0 w1⟩
      · rw [if_neg c, x_w0, if_pos rfl]
        exact hnx z ⟨by omega, fz, fun w w0 w1 => by rw [skip (fun h => c h.1.2)]; exact hz w w0 w1⟩
    · intro n' z ⟨_, fz, hz⟩
      show q_ok (f_Mod_beatsBy_b57 K (f_Mod_beatsBy_l57 K n') n y ((g_cc l (o 2) (o 3) + n - 1) / n) a t 100 z) _
      unfold f_Mod_beatsBy_b57
      rw [if_pos (by decide)]
      refine o_upF (fun n' k (s : Int) => f_Mod_beatsBy_l131 K n' n y ((g_cc l (o 2) (o 3) + n - 1) / n) a t s k z) (fun k s => 0 ≤ k ∧ s = t_M (fun w => t_ld l o n y t 100 w) k.toNat) _ (k := 0) (e := 12) (s := 0) (by omega) (by omega) ⟨by omega, rfl⟩ ?_ ?_
      · intro n' k s hk1 ⟨k0, hs⟩ hnx
        have r1 : 0 ≤ t_ld l o n y t 100 k ∧ t_ld l o n y t 100 k ≤ 100 := g_cnt_rg _ 100
        have r2 : 0 ≤ s ∧ s ≤ 100 := by
          rw [hs]
          exact ⟨t_M_nn _ _, t_M_le (by decide) _ fun w _ _ => (g_cnt_rg _ 100).2⟩
        show q_ok (f_Mod_beatsBy_b131 K (f_Mod_beatsBy_l131 K n') n y ((g_cc l (o 2) (o 3) + n - 1) / n) a t s k z) _
        unfold f_Mod_beatsBy_b131
        rw [q_w_id (x := k) (by omega) (by omega), if_neg (by omega), x_rd (n := 12) k0 hk1 (by decide), hz k k0 hk1, m_more (by omega) (by omega), x_bd]
        exact hnx _ ⟨by omega, by rw [t_M_s _ k0, ← hs]⟩
      · intro n' s ⟨_, hs⟩
        show q_ok (f_Mod_beatsBy_b131 K (f_Mod_beatsBy_l131 K n') n y ((g_cc l (o 2) (o 3) + n - 1) / n) a t s 12 z) _
        unfold f_Mod_beatsBy_b131
        rw [if_pos (by decide), hs]
        exact hK z fz
theorem m_beatsBy (hk : k_ok l o) (hm : k_M l o m) {n y : Int} (hn : 1 ≤ n ∧ n ≤ 12) : q_ok (f_Mod_beatsBy n y m) (fun r m' => k_fm m m' ∧ k_M l o m' ∧ r = t_V l o n y) := by
  have hg := hk.1
  have hl := hk.2.2.1
  have hcc := g_cc_rg hk
  have hbl := t_bl hk hn
  have hlat := g_lat_rg hg hk.2.2.2.1 hk.2.2.2.2.1
  unfold f_Mod_beatsBy
  obtain ⟨_, m1, e1, f1, k1, q1, _⟩ := s_layNow hk hm
  have h54 : m1 81 54 = g_cc l (o 2) (o 3) := by rw [g_cc_eq hg hl]; exact q1.2.2.2.1
  rw [e1, x_bd, h54, x_dv (by omega) (by omega) (by omega) (by omega)]
  refine o_upF (fun n' k (z : Int × q_Mem) => f_Mod_beatsBy_l21 n' n y ((g_cc l (o 2) (o 3) + n - 1) / n) z.1 k z.2) (fun k z => 0 ≤ k ∧ (∀ c, c ≠ 120 → z.2 c = m1 c) ∧ z.1 = g_sum (fun t => t_M (fun w => g_ca l (fun p => g_tk l (o 0) (o 1) p == t && t_wk l o n y p == w)) 12) k.toNat) _ (k := 0) (e := g_lat (l 0 0) (l 0 1) (o 0) (o 1)) (s := (0, m1)) (by omega) (by omega) ⟨by omega, fun _ _ => rfl, rfl⟩ ?_ ?_
  · intro n' k z hk1 ⟨k0, fz, hs⟩ hnx
    obtain ⟨a, z⟩ := z
    replace hs : a = _ := hs
    replace fz : ∀ c, c ≠ 120 → z c = m1 c := fz
    show q_ok (f_Mod_beatsBy_b21 (f_Mod_beatsBy_l21 n') n y ((g_cc l (o 2) (o 3) + n - 1) / n) a k z) _
    unfold f_Mod_beatsBy_b21
    rw [fz 81 (by decide), q1.2.1, q_w_id (x := g_lat (l 0 0) (l 0 1) (o 0) (o 1)) (by omega) (by omega), q_w_id (x := k) (by omega) (by omega), if_neg (by omega)]
    refine m_beatTick hk k1 q1 hn (by omega) fz _ fun m' f' => ?_
    refine hnx (a + t_M (fun w => g_ca l (fun p => g_tk l (o 0) (o 1) p == k && t_wk l o n y p == w)) 12, m') ⟨by omega, f', ?_⟩
    rw [g_sum_s _ k0, ← hs]
  · intro n' z ⟨_, fz, hs⟩
    show q_ok (f_Mod_beatsBy_b21 (f_Mod_beatsBy_l21 n') n y ((g_cc l (o 2) (o 3) + n - 1) / n) z.1 (g_lat (l 0 0) (l 0 1) (o 0) (o 1)) z.2) _
    unfold f_Mod_beatsBy_b21
    rw [fz 81 (by decide), q1.2.1, if_pos (Int.le_refl _)]
    have fz' : k_fm m1 z.2 := ⟨fun j _ => by rw [fz 81 (by decide)], fun c _ hc => fz c (by omega)⟩
    exact o_rt ⟨k_fm_tr f1 fz', k_M_fr k1 fz', hs⟩
theorem k_fc_68 {m m' : q_Mem} (h : ∀ c, c ≠ 68 → m' c = m c) : k_fc m m' := ⟨fun j _ => by rw [h 0 (by decide)], fun c _ hc => h c (by omega)⟩
theorem k_C_68 {m m' : q_Mem} (hc : k_C l o m) (h : ∀ c, c ≠ 68 → m' c = m c) : k_C l o m' := k_C_same hc (k_fc_68 h) (by rw [h 0 (by decide)]) (h 75 (by decide))
theorem b_beats (hk : k_ok l o) {n y : Int} (hn : q_32 n) : k_both l o (f_PG_beats n y) (f_Mod_beats n y) := by
  refine k_both_of fun mc mm hc hm => ?_
  have hn' : q_w n = n := q_w_id hn.1 hn.2
  by_cases c : 1 ≤ n ∧ n ≤ 12
  · refine ⟨q_w (t_V l o n y), ?_, ?_⟩
    · unfold f_PG_beats
      rw [hn', if_neg (show ¬ n < 1 by omega), if_pos (show n ≤ 12 by omega)]
      refine o_bd (c_beatsBy hk hc c) fun v m1 ⟨f1, e1⟩ => ?_
      exact o_rt ⟨by rw [e1], k_fc_68 f1, k_C_68 hc f1⟩
    · unfold f_Mod_beats
      rw [m_isIn hn (by decide) (by decide), x_bd, if_pos c, x_w1, if_neg (by decide)]
      refine o_bd (m_beatsBy hk hm c) fun v m1 ⟨f1, _, e1⟩ => ?_
      exact o_rt ⟨by rw [e1], f1⟩
  · refine ⟨-1, ?_, ?_⟩
    · unfold f_PG_beats
      rw [hn']
      refine o_if (fun _ => o_rt ⟨rfl, k_fc_id _, hc⟩) fun h => ?_
      rw [if_neg (by omega)]
      exact o_rt ⟨rfl, k_fc_id _, hc⟩
    · unfold f_Mod_beats
      rw [m_isIn hn (by decide) (by decide), x_bd, if_neg c, x_w0, if_pos rfl]
      exact o_rt ⟨rfl, k_fm_id _⟩
def t_fw (V : Int → Int) (x : Int) : Nat → Int → Int
  | 0, _ => -1
  | d + 1, n => if x < q_w (V n) then t_fw V x d (n + 1) else n
theorem t_fw_go {V : Int → Int} {x k : Int} (h0 : k ≤ 12) : t_fw V x (13 - k).toNat k = if x < q_w (V k) then t_fw V x (13 - (k + 1)).toNat (k + 1) else k := by
  rw [show (13 - k).toNat = (13 - (k + 1)).toNat + 1 by omega]
  rfl
theorem b_fewest (hk : k_ok l o) {x y : Int} (hx : q_32 x) : k_both l o (f_PG_fewest x y) (f_Mod_fewest x y) := by
  refine k_both_of fun mc mm hc hm => ?_
  have hx' : q_w x = x := q_w_id hx.1 hx.2
  refine ⟨q_w (t_fw (fun n => t_V l o n y) x 12 1), ?_, ?_⟩
  · unfold f_PG_fewest
    refine o_upF (fun n' k (z : q_Mem) => f_PG_fewest_l2 n' x y k z) (fun k z => 1 ≤ k ∧ (∀ c, c ≠ 68 → z c = mc c) ∧ t_fw (fun n => t_V l o n y) x (13 - k).toNat k = t_fw (fun n => t_V l o n y) x 12 1) _ (k := 1) (e := 13) (s := mc) (by omega) (by omega) ⟨by omega, fun _ _ => rfl, rfl⟩ ?_ ?_
    · intro n' k z hk1 ⟨k0, fz, hs⟩ hnx
      show q_ok (f_PG_fewest_b2 (f_PG_fewest_l2 n') x y k z) _
      unfold f_PG_fewest_b2
      rw [q_w_id (x := k) (by omega) (by omega), if_neg (show ¬ 12 < k by omega)]
      refine o_bd (c_beatsBy hk (k_C_68 hc fz) (n := k) (y := y) (by omega)) fun v m1 ⟨f1, e1⟩ => ?_
      have f1' : ∀ c, c ≠ 68 → m1 c = mc c := fun c hc => (f1 c hc).trans (fz c hc)
      rw [t_fw_go (by omega)] at hs
      rw [e1, hx']
      by_cases c : x < q_w (t_V l o k y)
      · rw [if_pos c] at hs ⊢
        exact hnx m1 ⟨by omega, f1', hs⟩
      · rw [if_neg c] at hs ⊢
        exact o_rt ⟨by rw [hs], k_fc_68 f1', k_C_68 hc f1'⟩
    · intro n' z ⟨_, fz, hs⟩
      show q_ok (f_PG_fewest_b2 (f_PG_fewest_l2 n') x y 13 z) _
      unfold f_PG_fewest_b2
      rw [if_pos (by decide)]
      exact o_rt ⟨by rw [← hs]; rfl, k_fc_68 fz, k_C_68 hc fz⟩
  · unfold f_Mod_fewest
    refine o_upF (fun n' k (z : q_Mem) => f_Mod_fewest_l2 n' x y k z) (fun k z => 1 ≤ k ∧ (k_fm mm z ∧ k_M l o z) ∧ t_fw (fun n => t_V l o n y) x (13 - k).toNat k = t_fw (fun n => t_V l o n y) x 12 1) _ (k := 1) (e := 13) (s := mm) (by omega) (by omega) ⟨by omega, ⟨k_fm_id _, hm⟩, rfl⟩ ?_ ?_
    · intro n' k z hk1 ⟨k0, ⟨fz, kz⟩, hs⟩ hnx
      show q_ok (f_Mod_fewest_b2 (f_Mod_fewest_l2 n') x y k z) _
      unfold f_Mod_fewest_b2
      rw [q_w_id (x := k) (by omega) (by omega), if_neg (show ¬ 12 < k by omega)]
      refine o_bd (m_beatsBy hk kz (n := k) (y := y) (by omega)) fun v m1 ⟨f1, k1, e1⟩ => ?_
      rw [t_fw_go (by omega)] at hs
      rw [e1, hx']
      by_cases c : x < q_w (t_V l o k y)
      · rw [if_pos c] at hs ⊢
        exact hnx m1 ⟨by omega, ⟨k_fm_tr fz f1, k1⟩, hs⟩
      · rw [if_neg c] at hs ⊢
        exact o_rt ⟨by rw [hs], k_fm_tr fz f1⟩
    · intro n' z ⟨_, ⟨fz, _⟩, hs⟩
      show q_ok (f_Mod_fewest_b2 (f_Mod_fewest_l2 n') x y 13 z) _
      unfold f_Mod_fewest_b2
      rw [if_pos (by decide)]
      exact o_rt ⟨by rw [← hs]; rfl, fz⟩
end beats2
