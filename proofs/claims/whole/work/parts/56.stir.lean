/-! QUESTIONS: stirs, stirred -/
theorem o_upP {σ : Type} (g : Nat → Int → σ → q_Res) (I : Int → σ → Prop) (P : q_Res → Prop) {k e : Int} {s : σ} (h0 : k ≤ e) (h1 : e - k < 20000) (hi : I k s) (hs : ∀ n k s, k < e → I k s → (∀ s', I (k + 1) s' → P (g n (k + 1) s')) → P (g (n + 1) k s)) (hx : ∀ n s, I e s → P (g (n + 1) e s)) : P (g q_F k s) := by
  have main : ∀ (d n : Nat) (k : Int) (s : σ), k + d = e → I k s → P (g (n + d + 1) k s) := by
    intro d
    induction d with
    | zero =>
      intro n k s hk hi
      have : k = e := by omega
      subst this
      exact hx n s hi
    | succ d ih =>
      intro n k s hk hi
      exact hs (n + d + 1) k s (by omega) hi (fun s' hi' => ih n (k + 1) s' (by omega) hi')
  have := main (e - k).toNat (20000 - ((e - k).toNat + 1)) k s (by omega) hi
  rwa [show 20000 - ((e - k).toNat + 1) + (e - k).toNat + 1 = q_F by show _ = 20000; omega] at this
section stir
variable {l m : q_Mem} {o : Int → Int}
theorem c_canStir (hg : g_lw l) (hc : k_C l o m) {v i j : Int} (hv : q_32 v) (hi : q_32 i) (hj : q_32 j) : f_PG_canStir v i j m = some (if (0 ≤ v ∧ v < l 0 2) ∧ g_in (l 0 0) (l 0 1) i j ∧ 0 ≤ m 54 (10 * i + j) then 1 else 0, m) := by
  unfold f_PG_canStir f_Web_isOrdered
  rw [s_isVariable hg hc hv, x_bd, x_wi]
  simp only [x_i0]
  by_cases cv : 0 ≤ v ∧ v < l 0 2
  · rw [if_neg (fun h => h cv), x_lt, x_one hc.1.1, c_isInside hc.1.2 hg hi hj, x_bd, x_wi]
    simp only [x_i0]
    by_cases c : g_in (l 0 0) (l 0 1) i j
    · obtain ⟨hp, hi', hj'⟩ := g_in_pt hg c
      have hwd := hc.2.2.1.2.2.1 _ hp
      rw [if_neg (fun h => h c), show i * 10 + j = 10 * i + j by omega, x_rd (n := 100) (by omega) (by omega) (by decide), q_w_id (by omega) (by omega)]
      by_cases c2 : m 54 (10 * i + j) = -1
      · rw [if_pos c2, x_rz0, x_bd, x_w0, if_pos rfl, x_rz0, if_neg (fun h => by have := h.2.2; omega)]
      · rw [if_neg c2, x_rz1, x_bd, x_w1, if_neg (by decide), x_rz1, if_pos ⟨cv, c, by omega⟩]
    · rw [if_pos c, x_rz0, if_neg (fun h => c h.2.1)]
  · rw [if_pos cv, x_rz0, if_neg (fun h => cv h.1)]
theorem m_canStir (hg : g_lw l) (hm : k_M l o m) {D : Int → Int} (hD : g_isD l D) {v i j : Int} (hv : q_32 v) (hi : q_32 i) (hj : q_32 j) : q_ok (f_Mod_canStir v i j m) (fun r m' => (r = if (0 ≤ v ∧ v < l 0 2) ∧ g_in (l 0 0) (l 0 1) i j ∧ 0 ≤ D (10 * i + j) then 1 else 0) ∧ k_fm m m' ∧ k_M l o m') := by
  unfold f_Mod_canStir
  rw [m_isVariable hm.1 hg hv, x_bd, x_wi]
  simp only [x_i0]
  by_cases cv : 0 ≤ v ∧ v < l 0 2
  · rw [if_neg (fun h => h cv), m_isPoint hm.1 hg hi hj, x_bd, x_wi]
    simp only [x_i0]
    by_cases c : g_in (l 0 0) (l 0 1) i j
    · obtain ⟨hp, hi', hj'⟩ := g_in_pt hg c
      rw [if_neg (fun h => h c)]
      refine o_bd (m_layDepths hm.1 hg) fun _ m1 ⟨f1, d1, r1⟩ => ?_
      have hf : k_fm m m1 := k_fm_dep fun c c1 _ _ _ _ _ => f1 c c1
      have hr := r1 _ hp
      rw [x_rd (n := 100) (by omega) (by omega) (by decide), q_w_id (by omega) (by omega), g_D_uniq hg hD d1 _ hp]
      by_cases c2 : m1 106 (10 * i + j) < 0
      · rw [if_pos c2, x_rz0, if_neg (fun h => by have := h.2.2; omega)]
        exact o_some ⟨rfl, hf, k_M_fr hm hf⟩
      · rw [if_neg c2, x_rz1, if_pos ⟨cv, c, by omega⟩]
        exact o_some ⟨rfl, hf, k_M_fr hm hf⟩
    · rw [if_pos c, x_rz0, if_neg (fun h => c h.2.1)]
      exact o_some ⟨rfl, k_fm_id _, hm⟩
  · rw [if_pos cv, x_rz0, if_neg (fun h => cv h.1)]
    exact o_some ⟨rfl, k_fm_id _, hm⟩
theorem g_last (hg : g_lw l) : g_pt l (10 * (l 0 0 - 1) + (l 0 1 - 1)) ∧ (l 0 0 * l 0 1 - 1) / l 0 1 * 10 + (l 0 0 * l 0 1 - 1) % l 0 1 = 10 * (l 0 0 - 1) + (l 0 1 - 1) := by
  have h1 := hg.1
  have h2 := hg.2.1
  have hp := (g_in_pt hg (i := l 0 0 - 1) (j := l 0 1 - 1) ⟨by omega, by omega, by omega, by omega⟩).1
  refine ⟨hp, ?_⟩
  have e := (k_idx_pt hg hp).2
  have e2 : k_idx l (10 * (l 0 0 - 1) + (l 0 1 - 1)) = l 0 0 * l 0 1 - 1 := by
    unfold k_idx
    rw [show (10 * (l 0 0 - 1) + (l 0 1 - 1)) / 10 = l 0 0 - 1 by omega, show (10 * (l 0 0 - 1) + (l 0 1 - 1)) % 10 = l 0 1 - 1 by omega, Int.sub_mul]
    omega
  rw [e2] at e
  exact e
theorem b_stirred (hk : k_ok l o) {v i j : Int} (hv : q_32 v) (hi : q_32 i) (hj : q_32 j) : k_both l o (f_PG_stirred v i j) (f_Mod_stirred v i j) := by
  intro mc mm hc hm
  have hg := hk.1
  have h2 := hg.2.2.1
  have hRC := g_RC hg
  obtain ⟨hlp, hle⟩ := g_last hg
  have hlp' := hlp.1
  obtain ⟨r, m1, e1, er, f1, k1⟩ := m_canStir hg hm hc.2.2.1.1 hv hi hj
  unfold f_PG_stirred f_Mod_stirred
  rw [c_canStir hg hc hv hi hj, e1, er, x_bd, x_bd]
  by_cases c : ¬ ((0 ≤ v ∧ v < l 0 2) ∧ g_in (l 0 0) (l 0 1) i j ∧ 0 ≤ mc 54 (10 * i + j))
  · rw [if_neg c, x_w0, if_pos rfl, if_pos rfl]
    exact ⟨0, 0, mc, m1, rfl, rfl, rfl, ⟨k_fc_id _, hc⟩, f1⟩
  replace c := Classical.not_not.mp c
  obtain ⟨hp, hi', hj'⟩ := g_in_pt hg c.2.1
  have hp' := hp.1
  rw [if_pos c, x_w1]
  simp only [if_neg (show ¬ (1 : Int) = 0 by decide)]
  rw [show i * 10 + j = 10 * i + j by omega]
  obtain ⟨_, m2, e2, f2, v2⟩ := c_reckonValues rfl hc.1.1 hc.1.2 hg hk.2.1 hc.2.2.1 (z := 76) (sv := v) (sp := 10 * i + j) (by decide) (by omega) (by omega)
  obtain ⟨_, m3, e3, f3, d3, r3, _, v3, _⟩ := m_layStirred k1.1 k1.2.1 hg hk.2.1 (sv := v) (sp := 10 * i + j) (by omega) (by omega)
  have hf : k_fc mc m2 := ⟨fun j _ => by rw [f2 0 (by decide) (by decide) (by decide)], fun c c0 hc => f2 c (by omega) (by omega) (by omega)⟩
  have hc2 : k_C l o m2 := k_C_same hc hf (by rw [f2 0 (by decide) (by decide) (by decide)]) (f2 75 (by decide) (by decide) (by decide))
  have g3 : k_fm m1 m3 := k_fm_dep fun c c1 c2 c3 c4 c5 c6 => f3 c c1 c3 c4 c5 c6
  have k3 := k_M_fr k1 g3
  have hD := g_D_uniq hg hc.2.2.1.1 d3
  have hV : f_V l (m3 106) (fun p => 0 ≤ m3 106 p) v (10 * i + j) (m2 76) := f_V_T hk.2.1 hg (f_V_same v2 fun p hp => by rw [hD p hp]) hD
  have hu := f_V_uniq hk.2.1 hg (fun p hp => (r3 p hp).1) hV v3 v _ c.1.1 c.1.2 hlp
  refine ⟨m2 76 (100 * v + (10 * (l 0 0 - 1) + (l 0 1 - 1))), m3 112 (100 * v + (10 * (l 0 0 - 1) + (l 0 1 - 1))), m2, m3, ?_, ?_, by rw [hu], ⟨hf, hc2⟩, k_fm_tr f1 g3⟩
  · rw [e2, x_bd, x_lt, x_one hc2.1.1, x_lt, x_one hc2.1.1, c_points hc2.1.2, x_bd, c_pointAt hc2.1.2 hg (by omega), x_bd, hle, show v * 100 = 100 * v by omega, x_rd (n := 300) (by omega) (by omega) (by decide)]
    rfl
  · rw [e3, x_bd, m_rows k3.1, x_bd, m_columns k3.1, x_bd, show 100 * v + 10 * (l 0 0 - 1) + l 0 1 - 1 = 100 * v + (10 * (l 0 0 - 1) + (l 0 1 - 1)) by omega, x_rd (n := 300) (by omega) (by omega) (by decide)]
    rfl
noncomputable def f_dfb (l : q_Mem) (V R : Int → Int) (p : Int) : Bool := @decide (f_df l V R p) (Classical.propDecidable _)
theorem f_dfb_iff {V R : Int → Int} {p : Int} : f_dfb l V R p = true ↔ f_df l V R p := by
  unfold f_dfb
  exact @decide_eq_true_iff _ (Classical.propDecidable _)
theorem m_stirIn (hg : g_lw l) (h : g_ML m l) {a p : Int} (hp : 0 ≤ p ∧ p < 100) (K : Int → Int → q_Mem → q_Res) : f_Mod_stirs_l42 K q_F a p 0 0 m = K (a + (if f_dfb l (m 110) (m 112) p = true then 1 else 0)) (p + 1) m := by
  have h2 := hg.2.2.1
  refine o_upP (fun n k (s : Int) => f_Mod_stirs_l42 K n a p s k m) (fun k s => 0 ≤ k ∧ (s = 0 ∨ s = 1) ∧ (s = 1 ↔ ∃ v, 0 ≤ v ∧ v < k ∧ q_w (m 110 (100 * v + p)) ≠ q_w (m 112 (100 * v + p)))) (fun r => r = K (a + (if f_dfb l (m 110) (m 112) p = true then 1 else 0)) (p + 1) m) (k := 0) (e := l 0 2) (s := 0) (by omega) (by omega) ⟨by omega, Or.inl rfl, ⟨fun h => absurd h (by decide), fun ⟨v, v0, v1, _⟩ => by omega⟩⟩ ?_ ?_
  · intro n k s hk ⟨k0, hs, he⟩ hn
    show f_Mod_stirs_b42 K (f_Mod_stirs_l42 K n) a p s k m = _
    unfold f_Mod_stirs_b42 f_Mod_stirs_b85 f_Mod_stirs_b90
    rw [m_many h, x_bd, q_w_id (x := l 0 2) (by omega) (by omega), q_w_id (x := k) (by omega) (by omega), if_neg (by omega), q_w_id (x := s) (by omega) (by omega)]
    by_cases c : s = 0
    · rw [if_pos c, x_rd (n := 300) (by omega) (by omega) (by decide), x_rd (n := 300) (by omega) (by omega) (by decide)]
      by_cases c2 : q_w (m 112 (100 * k + p)) = q_w (m 110 (100 * k + p))
      · rw [if_pos c2]
        refine hn 0 ⟨by omega, Or.inl rfl, ⟨fun h => absurd h (by decide), fun ⟨v, v0, v1, hv⟩ => ?_⟩⟩
        exfalso
        by_cases c3 : v = k
        · rw [c3] at hv; exact hv c2.symm
        · have := he.mpr ⟨v, v0, by omega, hv⟩; omega
      · rw [if_neg c2]
        exact hn 1 ⟨by omega, Or.inr rfl, ⟨fun _ => ⟨k, k0, by omega, fun e => c2 e.symm⟩, fun _ => rfl⟩⟩
    · rw [if_neg c]
      obtain ⟨v, v0, v1, hv⟩ := he.mp (by omega)
      exact hn 1 ⟨by omega, Or.inr rfl, ⟨fun _ => ⟨v, v0, by omega, hv⟩, fun _ => rfl⟩⟩
  · intro n s ⟨k0, hs, he⟩
    show f_Mod_stirs_b42 K (f_Mod_stirs_l42 K n) a p s (l 0 2) m = _
    unfold f_Mod_stirs_b42 f_Mod_stirs_b110
    rw [m_many h, x_bd, if_pos (Int.le_refl _), q_w_id (x := s) (by omega) (by omega)]
    by_cases c : s = 0
    · rw [if_pos c, if_neg (fun hd => by have := he.mpr (f_dfb_iff.mp hd); omega)]
    · rw [if_neg c, if_pos (f_dfb_iff.mpr (he.mp (by omega)))]
theorem b_stirs (hk : k_ok l o) {v i j : Int} (hv : q_32 v) (hi : q_32 i) (hj : q_32 j) : k_both l o (f_PG_stirs v i j) (f_Mod_stirs v i j) := by
  intro mc mm hc hm
  have hg := hk.1
  have h2 := hg.2.2.1
  obtain ⟨r, m1, e1, er, f1, k1⟩ := m_canStir hg hm hc.2.2.1.1 hv hi hj
  unfold f_PG_stirs f_Mod_stirs
  rw [c_canStir hg hc hv hi hj, e1, er, x_bd, x_bd]
  by_cases c : ¬ ((0 ≤ v ∧ v < l 0 2) ∧ g_in (l 0 0) (l 0 1) i j ∧ 0 ≤ mc 54 (10 * i + j))
  · rw [if_neg c, x_w0, if_pos rfl, if_pos rfl]
    exact ⟨-1, -1, mc, m1, rfl, rfl, rfl, ⟨k_fc_id _, hc⟩, f1⟩
  replace c := Classical.not_not.mp c
  obtain ⟨hp, hi', hj'⟩ := g_in_pt hg c.2.1
  rw [if_pos c, x_w1]
  simp only [if_neg (show ¬ (1 : Int) = 0 by decide)]
  rw [show i * 10 + j = 10 * i + j by omega]
  obtain ⟨_, m2, e2, f2, v2⟩ := c_reckonValues rfl hc.1.1 hc.1.2 hg hk.2.1 hc.2.2.1 (z := 76) (sv := v) (sp := 10 * i + j) (by decide) (by omega) (by omega)
  obtain ⟨_, m3, e3, f3, d3, r3, ⟨w3, z3⟩, v3, y3⟩ := m_layStirred k1.1 k1.2.1 hg hk.2.1 (sv := v) (sp := 10 * i + j) (by omega) (by omega)
  have hf : k_fc mc m2 := ⟨fun j _ => by rw [f2 0 (by decide) (by decide) (by decide)], fun c c0 hc => f2 c (by omega) (by omega) (by omega)⟩
  have hc2 : k_C l o m2 := k_C_same hc hf (by rw [f2 0 (by decide) (by decide) (by decide)]) (f2 75 (by decide) (by decide) (by decide))
  have g3 : k_fm m1 m3 := k_fm_dep fun c c1 c2 c3 c4 c5 c6 => f3 c c1 c3 c4 c5 c6
  have k3 := k_M_fr k1 g3
  have hM : f_Mod_stirs_l29 q_F 0 0 m3 = some (g_cnt (f_dfb l (m3 110) (m3 112)) 100, m3) := by
    refine o_cnt (fun n a k => f_Mod_stirs_l29 n a k m3) (f_dfb l (m3 110) (m3 112)) 100 (by omega) ?_ ?_
    · intro n a k k0 kk a0 a1
      show f_Mod_stirs_b29 (f_Mod_stirs_l29 n) a k m3 = _
      unfold f_Mod_stirs_b29
      rw [q_w_id (by omega) (by omega), if_neg (by omega), m_stirIn hg k3.1 ⟨k0, by omega⟩]
    · intro n
      show f_Mod_stirs_b29 (f_Mod_stirs_l29 n) _ 100 m3 = _
      unfold f_Mod_stirs_b29
      rw [if_pos (by decide)]
      rfl
  rw [e2, x_bd, c_countWrong hg hc2, x_bd, e3, x_bd, hM]
  refine ⟨_, _, m2, m3, rfl, rfl, congrArg q_w ?_, ⟨hf, hc2⟩, k_fm_tr f1 g3⟩
  have e54 : m2 54 = mc 54 := f2 54 (by decide) (by decide) (by decide)
  have hD := g_D_uniq hg hc2.2.2.1.1 d3
  have hDr := fun p hp => (r3 p hp).1
  have hV := f_V_uniq hk.2.1 hg hDr (f_V_T hk.2.1 hg (f_V_same hc2.2.2.2.2.1 fun p hp => by rw [hD p hp]) hD) w3
  have hS := f_V_uniq hk.2.1 hg hDr (f_V_T hk.2.1 hg (f_V_same (T := m2 54) (A := fun p => 0 ≤ m2 54 p) (by rw [e54]; exact v2) fun p hp => by rw [hD p hp]) hD) v3
  unfold g_ca
  refine g_cnt_congr fun p p0 p1 => ?_
  refine Bool.eq_iff_iff.mpr ?_
  rw [Bool.and_eq_true, decide_eq_true_iff, f_wr_iff, f_dfb_iff]
  constructor
  · rintro ⟨ht, _, u, u0, u1, hu⟩
    have hpp : g_pt l p := ⟨⟨p0, p1⟩, ht⟩
    exact ⟨u, u0, u1, by rw [← hV u p u0 u1 hpp, ← hS u p u0 u1 hpp]; exact hu⟩
  · rintro ⟨u, u0, u1, hu⟩
    by_cases ht : g_th (l 0 0) (l 0 1) p
    · have hpp : g_pt l p := ⟨⟨p0, p1⟩, ht⟩
      by_cases hd : 0 ≤ m3 106 p
      · exact ⟨ht, by rw [hD p hpp]; exact hd, u, u0, u1, by rw [hV u p u0 u1 hpp, hS u p u0 u1 hpp]; exact hu⟩
      · exact absurd (by rw [(w3 u p u0 u1 hpp).2 hd, (v3 u p u0 u1 hpp).2 hd]) hu
    · have hno : ∀ u' p', 0 ≤ u' → u' < l 0 2 → g_pt l p' → 100 * u + p ≠ 100 * u' + p' := by
        intro u' p' _ _ hp' e
        have := hp'.1
        have : p = p' := by omega
        rw [this] at ht
        exact ht hp'.2
      exact absurd (by rw [z3 _ (by omega) (by omega) hno, y3 _ (by omega) (by omega) hno]) hu
end stir
