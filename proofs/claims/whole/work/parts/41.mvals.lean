/-! THE MODEL's VALUES -/
theorem f_at_step {l : q_Mem} (hw : f_wf l) (hg : g_lw l) {T X : Int → Int} {s : q_Mem} {c sv sp p k : Int} (hp : g_pt l p) (hk : 0 ≤ k ∧ k < l 0 2) (h1 : ∀ i, (∀ u, 0 ≤ u → u < k → i ≠ 100 * u + p) → s c i = X i) (h2 : ∀ u, 0 ≤ u → u < k → s c (100 * u + p) = f_E l T (s c) u p + f_more sv sp u p) {x : Int} (hx : x = f_E l T (s c) k p + f_more sv sp k p) :
    (∀ i, (∀ u, 0 ≤ u → u < k + 1 → i ≠ 100 * u + p) → q_up s c (100 * k + p) x c i = X i) ∧ ∀ u, 0 ≤ u → u < k + 1 → q_up s c (100 * k + p) x c (100 * u + p) = f_E l T (q_up s c (100 * k + p) x c) u p + f_more sv sp u p := by
  have hY : ∀ u q, 0 ≤ u → 0 ≤ q → q < 100 → ¬ (u = k ∧ q = p) → q_up s c (100 * k + p) x c (100 * u + q) = s c (100 * u + q) := by
    intro u q u0 q0 q1 hne
    rw [q_up_i (by have := hp.1; omega)]
  have hc : ∀ u, 0 ≤ u → u ≤ k → f_E l T (q_up s c (100 * k + p) x c) u p = f_E l T (s c) u p := by
    intro u u0 u1
    refine f_E_congr hw hg ⟨u0, by omega⟩ hp.1 rfl fun u' q a0 a1 q0 q1 qn hh => hY u' q a0 (by omega) q1 (by omega)
  refine ⟨fun i hi => ?_, fun u u0 u1 => ?_⟩
  · rw [q_up_i (hi k hk.1 (by omega))]
    exact h1 i fun u u0 u1 => hi u u0 (by omega)
  · rw [hc u u0 (by omega)]
    by_cases c : u = k
    · subst c
      rw [q_up_s]
      exact hx
    · rw [hY u p u0 hp.1.1 hp.1.2 (fun h => c h.1)]
      exact h2 u u0 (by omega)
theorem f_more_n {v p : Int} (hv : 0 ≤ v) : f_more (-1) (-1) v p = 0 := if_neg fun h => by omega
section mvals
variable {m l : q_Mem}
theorem m_greatestDepth (h : g_ML m l) (hw : g_lw l) (hD : ∀ p, g_pt l p → -1 ≤ m 106 p ∧ m 106 p < 100) : q_ok (f_Mod_greatestDepth m) (fun G m' => m' = m ∧ (-1 ≤ G ∧ G < 100) ∧ (∀ p, g_pt l p → m 106 p ≤ G) ∧ (G = -1 ∨ ∃ p, g_pt l p ∧ m 106 p = G)) := by
  unfold f_Mod_greatestDepth
  refine o_upF (fun n k (G : Int) => f_Mod_greatestDepth_l4 n G k m) (fun k G => 0 ≤ k ∧ (-1 ≤ G ∧ G < 100) ∧ (∀ p, g_pt l p → p < k → m 106 p ≤ G) ∧ (G = -1 ∨ ∃ p, g_pt l p ∧ m 106 p = G)) _ (k := 0) (e := 100) (s := -1) (by omega) (by omega) ?_ ?_ ?_
  · exact ⟨by omega, by omega, fun p hp h => by have := hp.1; omega, Or.inl rfl⟩
  · intro n k G hk ⟨h0, hG, h1, h2⟩ hn
    show q_ok (f_Mod_greatestDepth_b4 (f_Mod_greatestDepth_l4 n) G k m) _
    unfold f_Mod_greatestDepth_b4 f_Mod_greatestDepth_b29
    rw [q_w_id (by omega) (by omega), if_neg (by omega), m_isThere h hw ⟨h0, hk⟩, x_bd, x_wi]
    simp only [x_i0]
    by_cases c : g_th (l 0 0) (l 0 1) k
    · rw [if_neg (fun h => h c), x_rd (n := 100) h0 (by omega) (by decide)]
      have hp : g_pt l k := ⟨⟨h0, hk⟩, c⟩
      have hd := hD k hp
      rw [m_more (by omega) (by omega), x_bd]
      refine hn _ ⟨by omega, by omega, fun p hp' hlt => ?_, ?_⟩
      · by_cases e : p = k
        · rw [e]; omega
        · have := h1 p hp' (by omega); omega
      · by_cases e : m 106 k ≤ G
        · rw [show max G (m 106 k) = G by omega]; exact h2
        · exact Or.inr ⟨k, hp, by omega⟩
    · rw [if_pos c]
      refine hn _ ⟨by omega, hG, fun p hp' hlt => h1 p hp' ?_, h2⟩
      by_cases e : p = k
      · subst e; exact absurd hp'.2 c
      · omega
  · intro n G ⟨h0, hG, h1, h2⟩
    show q_ok (f_Mod_greatestDepth_b4 (f_Mod_greatestDepth_l4 n) G 100 m) _
    unfold f_Mod_greatestDepth_b4
    rw [if_pos (by decide)]
    exact o_rt ⟨rfl, hG, fun p hp => h1 p hp hp.1.2, h2⟩
/-- points gone through up to the k-th of rank r -/
def f_upto (T : Int → Int) (act : Int → Prop) (r k p : Int) : Prop := act p ∧ (T p < r ∨ (T p = r ∧ p < k))
theorem f_upto_skip {T : Int → Int} {act : Int → Prop} {r k : Int} {l : q_Mem} (h : ¬ (g_pt l k ∧ act k ∧ T k = r)) : ∀ p, g_pt l p → (f_upto T act r k p ↔ f_upto T act r (k + 1) p) := by
  intro p hp
  unfold f_upto
  by_cases c : p = k
  · subst c
    refine ⟨fun ⟨a, b⟩ => ⟨a, ?_⟩, fun ⟨a, b⟩ => ⟨a, ?_⟩⟩
    · omega
    · rcases b with b | b
      · exact Or.inl b
      · exact absurd ⟨hp, a, b.1⟩ h
  · refine ⟨fun ⟨a, b⟩ => ⟨a, ?_⟩, fun ⟨a, b⟩ => ⟨a, ?_⟩⟩ <;> omega
theorem f_upto_take {T : Int → Int} {act : Int → Prop} {r k : Int} (ha : act k) (hr : T k = r) : ∀ p, (f_upto T act r (k + 1) p ↔ f_upto T act r k p ∨ p = k) := by
  intro p
  unfold f_upto
  by_cases c : p = k
  · subst c
    exact ⟨fun _ => Or.inr rfl, fun _ => ⟨ha, Or.inr ⟨hr, by omega⟩⟩⟩
  · constructor
    · rintro ⟨a, b⟩
      exact Or.inl ⟨a, by omega⟩
    · rintro (⟨a, b⟩ | b)
      · exact ⟨a, by omega⟩
      · exact absurd b c
theorem f_upto_row {T : Int → Int} {act : Int → Prop} {r : Int} {l : q_Mem} : ∀ p, g_pt l p → (f_upto T act r 100 p ↔ f_upto T act (r + 1) 0 p) := by
  intro p hp
  have := hp.1
  unfold f_upto
  refine ⟨fun ⟨a, b⟩ => ⟨a, ?_⟩, fun ⟨a, b⟩ => ⟨a, ?_⟩⟩ <;> omega
theorem m_at_values (h : g_ML m l) (hF : g_MF m l) (hg : g_lw l) (hw : f_wf l) {T : Int → Int} {p r : Int} (hp : g_pt l p) (hy : f_way l m T p 0 110) (K0 : Int → q_Mem → q_Res) (K : Int → Int → q_Mem → q_Res) (Q : Int → q_Mem → Prop)
    (hK : ∀ s, (∀ c, c ≠ 110 → c ≠ 113 → c ≠ 114 → s c = m c) → f_at l T (m 110) (s 110) (-1) (-1) p → q_ok (K r (p + 1) s) Q) : q_ok (f_Mod_layValues_l67 K0 K q_F r p 0 m) Q := by
  have h2 := hg.2.2.1
  have hp' := hp.1
  refine o_upF (fun n k (s : q_Mem) => f_Mod_layValues_l67 K0 K n r p k s) (fun k s => 0 ≤ k ∧ (∀ c, c ≠ 110 → c ≠ 113 → c ≠ 114 → s c = m c) ∧ (∀ i, (∀ u, 0 ≤ u → u < k → i ≠ 100 * u + p) → s 110 i = m 110 i) ∧ ∀ u, 0 ≤ u → u < k → s 110 (100 * u + p) = f_E l T (s 110) u p + f_more (-1) (-1) u p) _ (k := 0) (e := l 0 2) (s := m) (by omega) (by omega) ?_ ?_ ?_
  · exact ⟨Int.le_refl _, fun _ _ _ _ => rfl, fun _ _ => rfl, fun u _ _ => by omega⟩
  · intro n k s hk ⟨h0, hf, ho, he⟩ hn
    have hM : g_ML s l := g_ML_fr h fun c _ _ => hf c (by omega) (by omega) (by omega)
    have hMF : g_MF s l := g_MF_of hF fun c _ _ => hf c (by omega) (by omega) (by omega)
    show q_ok (f_Mod_layValues_b67 K0 K (f_Mod_layValues_l67 K0 K n) r p k s) _
    unfold f_Mod_layValues_b67
    rw [m_many hM, x_bd, q_w_id (by omega) (by omega), q_w_id (x := k) (by omega) (by omega), if_neg (by omega), x_dv (by omega) (by omega) (by decide) (by decide), x_md (by omega) (by omega) (by decide) (by decide)]
    refine o_bd (m_withReads hM hMF hg hw (T := T) (xc := 110) hp ⟨h0, hk⟩ (by unfold f_way; rw [hf 116 (by decide) (by decide) (by decide)]; exact hy)) fun x s' hx => ?_
    have ec : s' 110 = s 110 := hx.2 110 (by decide) (by decide)
    rw [x_wr (n := 300) (by omega) (by omega) (by decide)]
    have st := f_at_step (s := s') hw hg hp ⟨h0, hk⟩ (by rw [ec]; exact ho) (by rw [ec]; exact he) (x := x) (by rw [ec, hx.1, f_more_n h0]; omega)
    exact hn (q_up s' 110 (100 * k + p) x) ⟨by omega, fun c c1 c2 c3 => by rw [q_up_f c1, hx.2 c c2 c3]; exact hf c c1 c2 c3, st.1, st.2⟩
  · intro n s ⟨h0, hf, ho, he⟩
    have hM : g_ML s l := g_ML_fr h fun c _ _ => hf c (by omega) (by omega) (by omega)
    show q_ok (f_Mod_layValues_b67 K0 K (f_Mod_layValues_l67 K0 K n) r p (l 0 2) s) _
    unfold f_Mod_layValues_b67 f_Mod_layValues_b106
    rw [m_many hM, x_bd, if_pos (Int.le_refl _)]
    exact hK s hf ⟨ho, he⟩
theorem m_at_run (h : g_ML m l) (hF : g_MF m l) (hg : g_lw l) (hw : f_wf l) {T : Int → Int} {p r : Int} (hp : g_pt l p) (hy : f_way l m T p 1 111) (K0 : Int → q_Mem → q_Res) (K : Int → Int → q_Mem → q_Res) (Q : Int → q_Mem → Prop)
    (hK : ∀ s, (∀ c, c ≠ 111 → c ≠ 113 → c ≠ 114 → s c = m c) → f_at l T (m 111) (s 111) (-1) (-1) p → q_ok (K r (p + 1) s) Q) : q_ok (f_Mod_layRun_l85 K0 K q_F r p 0 m) Q := by
  have h2 := hg.2.2.1
  have hp' := hp.1
  refine o_upF (fun n k (s : q_Mem) => f_Mod_layRun_l85 K0 K n r p k s) (fun k s => 0 ≤ k ∧ (∀ c, c ≠ 111 → c ≠ 113 → c ≠ 114 → s c = m c) ∧ (∀ i, (∀ u, 0 ≤ u → u < k → i ≠ 100 * u + p) → s 111 i = m 111 i) ∧ ∀ u, 0 ≤ u → u < k → s 111 (100 * u + p) = f_E l T (s 111) u p + f_more (-1) (-1) u p) _ (k := 0) (e := l 0 2) (s := m) (by omega) (by omega) ?_ ?_ ?_
  · exact ⟨Int.le_refl _, fun _ _ _ _ => rfl, fun _ _ => rfl, fun u _ _ => by omega⟩
  · intro n k s hk ⟨h0, hf, ho, he⟩ hn
    have hM : g_ML s l := g_ML_fr h fun c _ _ => hf c (by omega) (by omega) (by omega)
    have hMF : g_MF s l := g_MF_of hF fun c _ _ => hf c (by omega) (by omega) (by omega)
    show q_ok (f_Mod_layRun_b85 K0 K (f_Mod_layRun_l85 K0 K n) r p k s) _
    unfold f_Mod_layRun_b85
    rw [m_many hM, x_bd, q_w_id (by omega) (by omega), q_w_id (x := k) (by omega) (by omega), if_neg (by omega), x_dv (by omega) (by omega) (by decide) (by decide), x_md (by omega) (by omega) (by decide) (by decide)]
    refine o_bd (m_withReads hM hMF hg hw (T := T) (xc := 111) hp ⟨h0, hk⟩ (by unfold f_way; rw [hf 116 (by decide) (by decide) (by decide)]; exact hy)) fun x s' hx => ?_
    have ec : s' 111 = s 111 := hx.2 111 (by decide) (by decide)
    rw [x_wr (n := 300) (by omega) (by omega) (by decide)]
    have st := f_at_step (s := s') hw hg hp ⟨h0, hk⟩ (by rw [ec]; exact ho) (by rw [ec]; exact he) (x := x) (by rw [ec, hx.1, f_more_n h0]; omega)
    exact hn (q_up s' 111 (100 * k + p) x) ⟨by omega, fun c c1 c2 c3 => by rw [q_up_f c1, hx.2 c c2 c3]; exact hf c c1 c2 c3, st.1, st.2⟩
  · intro n s ⟨h0, hf, ho, he⟩
    have hM : g_ML s l := g_ML_fr h fun c _ _ => hf c (by omega) (by omega) (by omega)
    show q_ok (f_Mod_layRun_b85 K0 K (f_Mod_layRun_l85 K0 K n) r p (l 0 2) s) _
    unfold f_Mod_layRun_b85 f_Mod_layRun_b124
    rw [m_many hM, x_bd, if_pos (Int.le_refl _)]
    exact hK s hf ⟨ho, he⟩
theorem m_at_stirred (h : g_ML m l) (hF : g_MF m l) (hg : g_lw l) (hw : f_wf l) {T : Int → Int} {p r sv sp : Int} (hp : g_pt l p) (hy : f_way l m T p 2 112) (hsv : -1 ≤ sv ∧ sv < 100) (hsp : -1 ≤ sp ∧ sp < 100) (K0 : Int → Int → Int → q_Mem → q_Res) (K : Int → Int → Int → Int → q_Mem → q_Res) (Q : Int → q_Mem → Prop)
    (hK : ∀ s, (∀ c, c ≠ 112 → c ≠ 113 → c ≠ 114 → s c = m c) → f_at l T (m 112) (s 112) sv sp p → q_ok (K sv sp r (p + 1) s) Q) : q_ok (f_Mod_layStirred_l72 K0 K q_F sv sp r p 0 m) Q := by
  have h2 := hg.2.2.1
  have hp' := hp.1
  refine o_upF (fun n k (s : q_Mem) => f_Mod_layStirred_l72 K0 K n sv sp r p k s) (fun k s => 0 ≤ k ∧ (∀ c, c ≠ 112 → c ≠ 113 → c ≠ 114 → s c = m c) ∧ (∀ i, (∀ u, 0 ≤ u → u < k → i ≠ 100 * u + p) → s 112 i = m 112 i) ∧ ∀ u, 0 ≤ u → u < k → s 112 (100 * u + p) = f_E l T (s 112) u p + f_more sv sp u p) _ (k := 0) (e := l 0 2) (s := m) (by omega) (by omega) ?_ ?_ ?_
  · exact ⟨Int.le_refl _, fun _ _ _ _ => rfl, fun _ _ => rfl, fun u _ _ => by omega⟩
  · intro n k s hk ⟨h0, hf, ho, he⟩ hn
    have hM : g_ML s l := g_ML_fr h fun c _ _ => hf c (by omega) (by omega) (by omega)
    have hMF : g_MF s l := g_MF_of hF fun c _ _ => hf c (by omega) (by omega) (by omega)
    show q_ok (f_Mod_layStirred_b72 K0 K (f_Mod_layStirred_l72 K0 K n) sv sp r p k s) _
    unfold f_Mod_layStirred_b72
    rw [m_many hM, x_bd, q_w_id (by omega) (by omega), q_w_id (x := k) (by omega) (by omega), if_neg (by omega), x_dv (by omega) (by omega) (by decide) (by decide), x_md (by omega) (by omega) (by decide) (by decide)]
    refine o_bd (m_withReads hM hMF hg hw (T := T) (xc := 112) hp ⟨h0, hk⟩ (by unfold f_way; rw [hf 116 (by decide) (by decide) (by decide)]; exact hy)) fun x s' hx => ?_
    have ec : s' 112 = s 112 := hx.2 112 (by decide) (by decide)
    have go : ∀ y, y = f_more sv sp k p → q_ok (f_Mod_layStirred_b127 K0 K (f_Mod_layStirred_l72 K0 K n) sv sp r p k (100 * k + p) x y s') Q := by
      intro y hyy
      unfold f_Mod_layStirred_b127
      rw [x_wr (n := 300) (by omega) (by omega) (by decide)]
      have st := f_at_step (s := s') hw hg hp ⟨h0, hk⟩ (by rw [ec]; exact ho) (by rw [ec]; exact he) (x := x + y) (by rw [ec, hx.1, hyy])
      exact hn (q_up s' 112 (100 * k + p) (x + y)) ⟨by omega, fun c c1 c2 c3 => by rw [q_up_f c1, hx.2 c c2 c3]; exact hf c c1 c2 c3, st.1, st.2⟩
    rw [q_w_id (x := p) (by omega) (by omega), q_w_id (x := sp) (by omega) (by omega), q_w_id (x := sv) (by omega) (by omega)]
    unfold f_Mod_layStirred_b126
    by_cases c1 : p = sp
    · rw [if_pos c1]
      by_cases c2 : k = sv
      · rw [if_pos c2]
        exact go 1 (if_pos ⟨c2, c1⟩).symm
      · rw [if_neg c2]
        exact go 0 (if_neg fun h => c2 h.1).symm
    · rw [if_neg c1]
      exact go 0 (if_neg fun h => c1 h.2).symm
  · intro n s ⟨h0, hf, ho, he⟩
    have hM : g_ML s l := g_ML_fr h fun c _ _ => hf c (by omega) (by omega) (by omega)
    show q_ok (f_Mod_layStirred_b72 K0 K (f_Mod_layStirred_l72 K0 K n) sv sp r p (l 0 2) s) _
    unfold f_Mod_layStirred_b72 f_Mod_layStirred_b135
    rw [m_many hM, x_bd, if_pos (Int.le_refl _)]
    exact hK s hf ⟨ho, he⟩
/-- naught wherever no point is -/
def f_Z (l : q_Mem) (X : Int → Int) : Prop := ∀ i, 0 ≤ i → i < 300 → (∀ u p, 0 ≤ u → u < l 0 2 → g_pt l p → i ≠ 100 * u + p) → X i = 0
theorem m_all_values (h : g_ML m l) (hF : g_MF m l) (hg : g_lw l) (hw : f_wf l) (hD : g_isD l (m 106)) (hr : ∀ p, g_pt l p → -1 ≤ m 106 p ∧ m 106 p < 100) (hz : ∀ i, 0 ≤ i → i < 300 → m 110 i = 0) : q_ok (f_Mod_layValues_l28 q_F 0 m) (fun _ m' => (∀ c, c ≠ 110 → c ≠ 113 → c ≠ 114 → m' c = m c) ∧ f_V l (m 106) (fun p => 0 ≤ m 106 p) (-1) (-1) (m' 110) ∧ f_Z l (m' 110)) := by
  obtain ⟨G, _, _, _, hGr, hG1, hG2⟩ := m_greatestDepth h hg hr
  have hlt : ∀ p o, g_pt l p → 0 ≤ m 106 p → 0 ≤ o → o < l 0 5 → g_tg l p o ≠ -1 → m 106 (g_tg l p o) < m 106 p := by
    intro p o hp h0 o0 o1 hne
    have := hD p hp
    rw [this] at h0 ⊢
    have := g_db_nn h0 o o0 (by omega) hne
    omega
  have gd : ∀ s : q_Mem, (∀ c, c ≠ 110 → c ≠ 113 → c ≠ 114 → s c = m c) → f_Mod_greatestDepth s = some (G, s) := by
    intro s hf
    obtain ⟨G', s', e, rfl, hGr', hG1', hG2'⟩ := m_greatestDepth (g_ML_fr h fun c _ _ => hf c (by omega) (by omega) (by omega)) hg (by rw [hf 106 (by decide) (by decide) (by decide)]; exact hr)
    rw [hf 106 (by decide) (by decide) (by decide)] at hG1' hG2'
    rw [e]
    have : G' = G := by
      rcases hG2 with rfl | ⟨p, hp, rfl⟩
      · rcases hG2' with rfl | ⟨p', hp', rfl⟩
        · rfl
        · have := hG1 p' hp'; omega
      · have := hG1' p hp
        rcases hG2' with rfl | ⟨p', hp', rfl⟩
        · omega
        · have := hG1 p' hp'; omega
    rw [this]
  refine o_upF (fun n k (s : q_Mem) => f_Mod_layValues_l28 n k s) (fun k s => 0 ≤ k ∧ (∀ c, c ≠ 110 → c ≠ 113 → c ≠ 114 → s c = m c) ∧ f_V l (m 106) (f_upto (m 106) (fun p => 0 ≤ m 106 p) k 0) (-1) (-1) (s 110) ∧ f_Z l (s 110)) _ (k := 0) (e := G + 1) (s := m) (by omega) (by omega) ?_ ?_ ?_
  · refine ⟨Int.le_refl _, fun _ _ _ _ => rfl, f_V_same (f_V_zero hg hz (A := fun _ => False) fun p h => h) fun p hp => ⟨fun h => h.elim, ?_⟩, fun i i0 i1 _ => hz i i0 i1⟩
    rintro ⟨a, b⟩
    have := hp.1
    omega
  · intro n r s hk ⟨h0, hf, hV, hZ⟩ hn
    show q_ok (f_Mod_layValues_b28 (f_Mod_layValues_l28 n) r s) _
    unfold f_Mod_layValues_b28
    rw [gd s hf, x_bd, q_w_id (by omega) (by omega), q_w_id (by omega) (by omega), if_neg (by omega)]
    refine o_upF (fun n' k (s : q_Mem) => f_Mod_layValues_l38 (f_Mod_layValues_l28 n) n' r k s) (fun k s => 0 ≤ k ∧ (∀ c, c ≠ 110 → c ≠ 113 → c ≠ 114 → s c = m c) ∧ f_V l (m 106) (f_upto (m 106) (fun p => 0 ≤ m 106 p) r k) (-1) (-1) (s 110) ∧ f_Z l (s 110)) _ (k := 0) (e := 100) (s := s) (by omega) (by omega) ⟨by omega, hf, hV, hZ⟩ ?_ ?_
    · intro n' k s hk ⟨h0', hf, hV, hZ⟩ hn'
      have hM : g_ML s l := g_ML_fr h fun c _ _ => hf c (by omega) (by omega) (by omega)
      have hMF : g_MF s l := g_MF_of hF fun c _ _ => hf c (by omega) (by omega) (by omega)
      show q_ok (f_Mod_layValues_b38 (f_Mod_layValues_l28 n) (f_Mod_layValues_l38 (f_Mod_layValues_l28 n) n') r k s) _
      unfold f_Mod_layValues_b38 f_Mod_layValues_b106
      rw [q_w_id (by omega) (by omega), if_neg (by omega), m_isThere hM hg ⟨h0', hk⟩, x_bd, x_wi]
      simp only [x_i0]
      have skip : ¬ (g_pt l k ∧ 0 ≤ m 106 k ∧ m 106 k = r) → q_ok (f_Mod_layValues_l38 (f_Mod_layValues_l28 n) n' r (k + 1) s) (fun _ m' => (∀ c, c ≠ 110 → c ≠ 113 → c ≠ 114 → m' c = m c) ∧ f_V l (m 106) (fun p => 0 ≤ m 106 p) (-1) (-1) (m' 110) ∧ f_Z l (m' 110)) := fun hno => hn' s ⟨by omega, hf, f_V_same hV (f_upto_skip hno), hZ⟩
      by_cases c : g_th (l 0 0) (l 0 1) k
      · have hp : g_pt l k := ⟨⟨h0', hk⟩, c⟩
        have hrk := hr k hp
        rw [if_neg (fun h => h c), x_rd (n := 100) h0' (by omega) (by decide), hf 106 (by decide) (by decide) (by decide), q_w_id (by omega) (by omega), q_w_id (x := r) (by omega) (by omega)]
        by_cases c2 : m 106 k = r
        · rw [if_pos c2]
          refine m_at_values hM hMF hg hw (T := m 106) hp (Or.inl ⟨by omega, fun o o0 o1 hne => hlt k o hp (by omega) o0 o1 hne⟩) _ _ _ fun s' hs' hat => ?_
          refine hn' s' ⟨by omega, fun c c1 c2 c3 => (hs' c c1 c2 c3).trans (hf c c1 c2 c3), ?_, fun i i0 i1 hi => (hat.1 i fun u u0 u1 => hi u k u0 u1 hp).trans (hZ i i0 i1 hi)⟩
          refine f_V_step hw hg hV hp (fun q _ => f_upto_take (act := fun p => 0 ≤ m 106 p) (by omega) c2 q) ?_ ?_ hat
          · rintro ⟨_, b⟩; omega
          · rintro q o hq ⟨_, b⟩ o0 o1 hto
            omega
        · rw [if_neg c2]
          exact skip fun h => c2 h.2.2
      · rw [if_pos c]
        exact skip fun h => c h.1.2
    · intro n' s ⟨h0', hf, hV, hZ⟩
      show q_ok (f_Mod_layValues_b38 (f_Mod_layValues_l28 n) (f_Mod_layValues_l38 (f_Mod_layValues_l28 n) n') r 100 s) _
      unfold f_Mod_layValues_b38
      rw [if_pos (by decide)]
      exact hn s ⟨by omega, hf, f_V_same hV f_upto_row, hZ⟩
  · intro n s ⟨h0, hf, hV, hZ⟩
    show q_ok (f_Mod_layValues_b28 (f_Mod_layValues_l28 n) (G + 1) s) _
    unfold f_Mod_layValues_b28
    rw [gd s hf, x_bd, q_w_id (by omega) (by omega), q_w_id (by omega) (by omega), if_pos (by omega)]
    refine o_rt ⟨hf, f_V_same hV fun p hp => ⟨fun h => h.1, fun h => ⟨h, ?_⟩⟩, hZ⟩
    have := hG1 p hp
    omega
theorem m_all_stirred (h : g_ML m l) (hF : g_MF m l) (hg : g_lw l) (hw : f_wf l) {sv sp : Int} (hD : g_isD l (m 106)) (hr : ∀ p, g_pt l p → -1 ≤ m 106 p ∧ m 106 p < 100) (hsv : -1 ≤ sv ∧ sv < 100) (hsp : -1 ≤ sp ∧ sp < 100) (hz : ∀ i, 0 ≤ i → i < 300 → m 112 i = 0) : q_ok (f_Mod_layStirred_l28 q_F sv sp 0 m) (fun _ m' => (∀ c, c ≠ 112 → c ≠ 113 → c ≠ 114 → m' c = m c) ∧ f_V l (m 106) (fun p => 0 ≤ m 106 p) sv sp (m' 112) ∧ f_Z l (m' 112)) := by
  obtain ⟨G, _, _, _, hGr, hG1, hG2⟩ := m_greatestDepth h hg hr
  have hlt : ∀ p o, g_pt l p → 0 ≤ m 106 p → 0 ≤ o → o < l 0 5 → g_tg l p o ≠ -1 → m 106 (g_tg l p o) < m 106 p := by
    intro p o hp h0 o0 o1 hne
    have := hD p hp
    rw [this] at h0 ⊢
    have := g_db_nn h0 o o0 (by omega) hne
    omega
  have gd : ∀ s : q_Mem, (∀ c, c ≠ 112 → c ≠ 113 → c ≠ 114 → s c = m c) → f_Mod_greatestDepth s = some (G, s) := by
    intro s hf
    obtain ⟨G', s', e, rfl, hGr', hG1', hG2'⟩ := m_greatestDepth (g_ML_fr h fun c _ _ => hf c (by omega) (by omega) (by omega)) hg (by rw [hf 106 (by decide) (by decide) (by decide)]; exact hr)
    rw [hf 106 (by decide) (by decide) (by decide)] at hG1' hG2'
    rw [e]
    have : G' = G := by
      rcases hG2 with rfl | ⟨p, hp, rfl⟩
      · rcases hG2' with rfl | ⟨p', hp', rfl⟩
        · rfl
        · have := hG1 p' hp'; omega
      · have := hG1' p hp
        rcases hG2' with rfl | ⟨p', hp', rfl⟩
        · omega
        · have := hG1 p' hp'; omega
    rw [this]
  refine o_upF (fun n k (s : q_Mem) => f_Mod_layStirred_l28 n sv sp k s) (fun k s => 0 ≤ k ∧ (∀ c, c ≠ 112 → c ≠ 113 → c ≠ 114 → s c = m c) ∧ f_V l (m 106) (f_upto (m 106) (fun p => 0 ≤ m 106 p) k 0) sv sp (s 112) ∧ f_Z l (s 112)) _ (k := 0) (e := G + 1) (s := m) (by omega) (by omega) ?_ ?_ ?_
  · refine ⟨Int.le_refl _, fun _ _ _ _ => rfl, f_V_same (f_V_zero hg hz (A := fun _ => False) fun p h => h) fun p hp => ⟨fun h => h.elim, ?_⟩, fun i i0 i1 _ => hz i i0 i1⟩
    rintro ⟨a, b⟩
    have := hp.1
    omega
  · intro n r s hk ⟨h0, hf, hV, hZ⟩ hn
    show q_ok (f_Mod_layStirred_b28 (f_Mod_layStirred_l28 n) sv sp r s) _
    unfold f_Mod_layStirred_b28
    rw [gd s hf, x_bd, q_w_id (by omega) (by omega), q_w_id (by omega) (by omega), if_neg (by omega)]
    refine o_upF (fun n' k (s : q_Mem) => f_Mod_layStirred_l39 (f_Mod_layStirred_l28 n) n' sv sp r k s) (fun k s => 0 ≤ k ∧ (∀ c, c ≠ 112 → c ≠ 113 → c ≠ 114 → s c = m c) ∧ f_V l (m 106) (f_upto (m 106) (fun p => 0 ≤ m 106 p) r k) sv sp (s 112) ∧ f_Z l (s 112)) _ (k := 0) (e := 100) (s := s) (by omega) (by omega) ⟨by omega, hf, hV, hZ⟩ ?_ ?_
    · intro n' k s hk ⟨h0', hf, hV, hZ⟩ hn'
      have hM : g_ML s l := g_ML_fr h fun c _ _ => hf c (by omega) (by omega) (by omega)
      have hMF : g_MF s l := g_MF_of hF fun c _ _ => hf c (by omega) (by omega) (by omega)
      show q_ok (f_Mod_layStirred_b39 (f_Mod_layStirred_l28 n) (f_Mod_layStirred_l39 (f_Mod_layStirred_l28 n) n') sv sp r k s) _
      unfold f_Mod_layStirred_b39 f_Mod_layStirred_b135
      rw [q_w_id (by omega) (by omega), if_neg (by omega), m_isThere hM hg ⟨h0', hk⟩, x_bd, x_wi]
      simp only [x_i0]
      have skip : ¬ (g_pt l k ∧ 0 ≤ m 106 k ∧ m 106 k = r) → q_ok (f_Mod_layStirred_l39 (f_Mod_layStirred_l28 n) n' sv sp r (k + 1) s) (fun _ m' => (∀ c, c ≠ 112 → c ≠ 113 → c ≠ 114 → m' c = m c) ∧ f_V l (m 106) (fun p => 0 ≤ m 106 p) sv sp (m' 112) ∧ f_Z l (m' 112)) := fun hno => hn' s ⟨by omega, hf, f_V_same hV (f_upto_skip hno), hZ⟩
      by_cases c : g_th (l 0 0) (l 0 1) k
      · have hp : g_pt l k := ⟨⟨h0', hk⟩, c⟩
        have hrk := hr k hp
        rw [if_neg (fun h => h c), x_rd (n := 100) h0' (by omega) (by decide), hf 106 (by decide) (by decide) (by decide), q_w_id (by omega) (by omega), q_w_id (x := r) (by omega) (by omega)]
        by_cases c2 : m 106 k = r
        · rw [if_pos c2]
          refine m_at_stirred hM hMF hg hw (T := m 106) hp (Or.inl ⟨by omega, fun o o0 o1 hne => hlt k o hp (by omega) o0 o1 hne⟩) hsv hsp _ _ _ fun s' hs' hat => ?_
          refine hn' s' ⟨by omega, fun c c1 c2 c3 => (hs' c c1 c2 c3).trans (hf c c1 c2 c3), ?_, fun i i0 i1 hi => (hat.1 i fun u u0 u1 => hi u k u0 u1 hp).trans (hZ i i0 i1 hi)⟩
          refine f_V_step hw hg hV hp (fun q _ => f_upto_take (act := fun p => 0 ≤ m 106 p) (by omega) c2 q) ?_ ?_ hat
          · rintro ⟨_, b⟩; omega
          · rintro q o hq ⟨_, b⟩ o0 o1 hto
            omega
        · rw [if_neg c2]
          exact skip fun h => c2 h.2.2
      · rw [if_pos c]
        exact skip fun h => c h.1.2
    · intro n' s ⟨h0', hf, hV, hZ⟩
      show q_ok (f_Mod_layStirred_b39 (f_Mod_layStirred_l28 n) (f_Mod_layStirred_l39 (f_Mod_layStirred_l28 n) n') sv sp r 100 s) _
      unfold f_Mod_layStirred_b39
      rw [if_pos (by decide)]
      exact hn s ⟨by omega, hf, f_V_same hV f_upto_row, hZ⟩
  · intro n s ⟨h0, hf, hV, hZ⟩
    show q_ok (f_Mod_layStirred_b28 (f_Mod_layStirred_l28 n) sv sp (G + 1) s) _
    unfold f_Mod_layStirred_b28
    rw [gd s hf, x_bd, q_w_id (by omega) (by omega), q_w_id (by omega) (by omega), if_pos (by omega)]
    refine o_rt ⟨hf, f_V_same hV fun p hp => ⟨fun h => h.1, fun h => ⟨h, ?_⟩⟩, hZ⟩
    have := hG1 p hp
    omega
theorem m_layValues (h : g_ML m l) (hF : g_MF m l) (hg : g_lw l) (hw : f_wf l) : q_ok (f_Mod_layValues m) (fun _ m' => (∀ c, c ≠ 106 → c ≠ 110 → c ≠ 113 → c ≠ 114 → m' c = m c) ∧ g_isD l (m' 106) ∧ (∀ p, g_pt l p → -1 ≤ m' 106 p ∧ m' 106 p < 100) ∧ f_V l (m' 106) (fun p => 0 ≤ m' 106 p) (-1) (-1) (m' 110) ∧ f_Z l (m' 110)) := by
  unfold f_Mod_layValues
  refine o_bd (m_layDepths h hg) fun _ m1 ⟨f1, d1, r1⟩ => ?_
  refine o_upF (fun n k (s : q_Mem) => f_Mod_layValues_l6 n k s) (fun k s => 0 ≤ k ∧ (∀ c, c ≠ 110 → s c = m1 c) ∧ ∀ i, 0 ≤ i → i < k → s 110 i = 0) _ (k := 0) (e := 300) (s := m1) (by omega) (by omega) ⟨by omega, fun _ _ => rfl, fun i i0 i1 => by omega⟩ ?_ ?_
  · intro n k s hk ⟨h0, hf, hz⟩ hn
    show q_ok (f_Mod_layValues_b6 (f_Mod_layValues_l6 n) k s) _
    unfold f_Mod_layValues_b6
    rw [q_w_id (by omega) (by omega), if_neg (by omega), x_wr (n := 300) h0 (by omega) (by decide)]
    refine hn (q_up s 110 k 0) ⟨by omega, fun c hc => by rw [q_up_f hc]; exact hf c hc, fun i i0 i1 => ?_⟩
    by_cases c : i = k
    · rw [c, q_up_s]
    · rw [q_up_i c]; exact hz i i0 (by omega)
  · intro n s ⟨h0, hf, hz⟩
    show q_ok (f_Mod_layValues_b6 (f_Mod_layValues_l6 n) 300 s) _
    unfold f_Mod_layValues_b6
    rw [if_pos (by decide)]
    have e106 : s 106 = m1 106 := hf 106 (by decide)
    refine o_mono (m_all_values (g_ML_fr h fun c _ _ => (hf c (by omega)).trans (f1 c (by omega))) (g_MF_of hF fun c _ _ => (hf c (by omega)).trans (f1 c (by omega))) hg hw (by rw [e106]; exact d1) (by rw [e106]; exact r1) hz) fun _ m' ⟨g1, g2, g3⟩ => ?_
    have e106' : m' 106 = s 106 := g1 106 (by decide) (by decide) (by decide)
    rw [e106']
    refine ⟨fun c c1 c2 c3 c4 => ?_, by rw [e106]; exact d1, by rw [e106]; exact r1, g2, g3⟩
    rw [g1 c c2 c3 c4, hf c c2, f1 c c1]
theorem m_layStirred (h : g_ML m l) (hF : g_MF m l) (hg : g_lw l) (hw : f_wf l) {sv sp : Int} (hsv : -1 ≤ sv ∧ sv < 100) (hsp : -1 ≤ sp ∧ sp < 100) : q_ok (f_Mod_layStirred sv sp m) (fun _ m' => (∀ c, c ≠ 106 → c ≠ 110 → c ≠ 112 → c ≠ 113 → c ≠ 114 → m' c = m c) ∧ g_isD l (m' 106) ∧ (∀ p, g_pt l p → -1 ≤ m' 106 p ∧ m' 106 p < 100) ∧ (f_V l (m' 106) (fun p => 0 ≤ m' 106 p) (-1) (-1) (m' 110) ∧ f_Z l (m' 110)) ∧ f_V l (m' 106) (fun p => 0 ≤ m' 106 p) sv sp (m' 112) ∧ f_Z l (m' 112)) := by
  unfold f_Mod_layStirred
  refine o_bd (m_layValues h hF hg hw) fun _ m1 ⟨f1, d1, r1, v1, z1⟩ => ?_
  refine o_upF (fun n k (s : q_Mem) => f_Mod_layStirred_l6 n sv sp k s) (fun k s => 0 ≤ k ∧ (∀ c, c ≠ 112 → s c = m1 c) ∧ ∀ i, 0 ≤ i → i < k → s 112 i = 0) _ (k := 0) (e := 300) (s := m1) (by omega) (by omega) ⟨by omega, fun _ _ => rfl, fun i i0 i1 => by omega⟩ ?_ ?_
  · intro n k s hk ⟨h0, hf, hz⟩ hn
    show q_ok (f_Mod_layStirred_b6 (f_Mod_layStirred_l6 n) sv sp k s) _
    unfold f_Mod_layStirred_b6
    rw [q_w_id (by omega) (by omega), if_neg (by omega), x_wr (n := 300) h0 (by omega) (by decide)]
    refine hn (q_up s 112 k 0) ⟨by omega, fun c hc => by rw [q_up_f hc]; exact hf c hc, fun i i0 i1 => ?_⟩
    by_cases c : i = k
    · rw [c, q_up_s]
    · rw [q_up_i c]; exact hz i i0 (by omega)
  · intro n s ⟨h0, hf, hz⟩
    show q_ok (f_Mod_layStirred_b6 (f_Mod_layStirred_l6 n) sv sp 300 s) _
    unfold f_Mod_layStirred_b6
    rw [if_pos (by decide)]
    have e106 : s 106 = m1 106 := hf 106 (by decide)
    refine o_mono (m_all_stirred (g_ML_fr h fun c _ _ => (hf c (by omega)).trans (f1 c (by omega) (by omega) (by omega) (by omega))) (g_MF_of hF fun c _ _ => (hf c (by omega)).trans (f1 c (by omega) (by omega) (by omega) (by omega))) hg hw (by rw [e106]; exact d1) (by rw [e106]; exact r1) hsv hsp hz) fun _ m' ⟨g1, g2, g3⟩ => ?_
    have e106' : m' 106 = s 106 := g1 106 (by decide) (by decide) (by decide)
    have e110 : m' 110 = m1 110 := (g1 110 (by decide) (by decide) (by decide)).trans (hf 110 (by decide))
    rw [e106', e110]
    refine ⟨fun c c1 c2 c3 c4 c5 => ?_, by rw [e106]; exact d1, by rw [e106]; exact r1, by rw [e106]; exact ⟨v1, z1⟩, g2, g3⟩
    rw [g1 c c3 c4 c5, hf c c3, f1 c c1 c2 c4 c5]
end mvals
