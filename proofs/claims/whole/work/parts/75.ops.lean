/-! CALLS: fire, onto, workers, undo, redo -/
theorem q_up_fn (m : q_Mem) (c i v : Int) : q_up m c i v c = fun j => if j = i then v else m c j := by
  funext j
  simp [q_up]
theorem j_up_ne {L : Int → Int → Int} {x f v i : Int} (h : i ≠ x) : j_up L x f v i = L i := by
  funext j
  exact j_up_o fun hh => h hh.1
section ops
variable {l m m' : q_Mem} {o : Int → Int} {x z n ft pl : Int} {L X : Int → Int → Int} {F T : Int → Int}
theorem j_x_rg (h : 0 ≤ x ∧ x ≤ z ∧ z ≤ 20) : 1 ≤ j_x x ∧ j_x x ≤ 20 := by
  unfold j_x
  split <;> omega
theorem j_L_ok (h : 0 ≤ x ∧ x ≤ z ∧ z ≤ 20) (hk : ∀ i, 0 ≤ i → i ≤ z → k_ok l (L i)) : ∀ i, 0 ≤ i → i ≤ j_x x → k_ok l (j_L x L i) := by
  intro i i0 i1
  unfold j_x at i1
  unfold j_L
  by_cases c : x < 20
  · rw [if_pos c] at i1 ⊢
    by_cases ci : i = x + 1
    · rw [if_pos ci]; exact hk x h.1 h.2.1
    · rw [if_neg ci]; exact hk i i0 (by omega)
  · rw [if_neg c] at i1 ⊢
    split
    · exact hk _ (by omega) (by omega)
    · exact hk _ (by omega) (by omega)
theorem j_up_ok {f v : Int} (hk : ∀ i, 0 ≤ i → i ≤ x → k_ok l (L i)) (h : k_ok l (j_up L x f v x)) : ∀ i, 0 ≤ i → i ≤ x → k_ok l (j_up L x f v i) := by
  intro i i0 i1
  by_cases c : i = x
  · rw [c]; exact h
  · rw [j_up_ne c]; exact hk i i0 i1
theorem j_up_j {f v i j : Int} (h : j ≠ f) : j_up L x f v i j = L i j := j_up_o fun hh => h hh.2
theorem k_ok_P {v : Int} (hk : k_ok l (L x)) (h : -9 ≤ v ∧ v ≤ 9) : k_ok l (j_up L x 0 v x) := by
  refine ⟨hk.1, hk.2.1, ?_, ?_, ?_, ?_⟩
  · rw [j_up_j (by decide), j_up_j (by decide)]; exact hk.2.2.1
  · rw [j_up_s]; exact h
  · rw [j_up_j (by decide)]; exact hk.2.2.2.2.1
  · rw [j_up_j (by decide)]; exact hk.2.2.2.2.2
theorem k_ok_Q {v : Int} (hk : k_ok l (L x)) (h : -9 ≤ v ∧ v ≤ 9) : k_ok l (j_up L x 1 v x) := by
  refine ⟨hk.1, hk.2.1, ?_, ?_, ?_, ?_⟩
  · rw [j_up_j (by decide), j_up_j (by decide)]; exact hk.2.2.1
  · rw [j_up_j (by decide)]; exact hk.2.2.2.1
  · rw [j_up_s]; exact h
  · rw [j_up_j (by decide)]; exact hk.2.2.2.2.2
theorem k_ok_W {v : Int} (hk : k_ok l (L x)) (h : 1 ≤ v ∧ v ≤ 12) : k_ok l (j_up L x 4 v x) := by
  refine ⟨hk.1, hk.2.1, ?_, ?_, ?_, ?_⟩
  · rw [j_up_j (by decide), j_up_j (by decide)]; exact hk.2.2.1
  · rw [j_up_j (by decide)]; exact hk.2.2.2.1
  · rw [j_up_j (by decide)]; exact hk.2.2.2.2.1
  · rw [j_up_s]; exact h
theorem k_ok_B {v : Int} (hk : k_ok l (L x)) : k_ok l (j_up L x 5 v x) := by
  refine ⟨hk.1, hk.2.1, ?_, ?_, ?_, ?_⟩
  · rw [j_up_j (by decide), j_up_j (by decide)]; exact hk.2.2.1
  · rw [j_up_j (by decide)]; exact hk.2.2.2.1
  · rw [j_up_j (by decide)]; exact hk.2.2.2.2.1
  · rw [j_up_j (by decide)]; exact hk.2.2.2.2.2
theorem k_ok_AB {a b : Int} (hk : k_ok l (L x)) (h : g_line a b) : k_ok l (j_up (j_up L x 2 a) x 3 b x) := by
  refine ⟨hk.1, hk.2.1, ?_, ?_, ?_, ?_⟩
  · rw [j_up_j (by decide), j_up_s, j_up_s]; exact h
  · rw [j_up_j (by decide), j_up_j (by decide)]; exact hk.2.2.2.1
  · rw [j_up_j (by decide), j_up_j (by decide)]; exact hk.2.2.2.2.1
  · rw [j_up_j (by decide), j_up_j (by decide)]; exact hk.2.2.2.2.2
/-- a field of the layout at hand is set, the class's side -/
theorem j_H_set (h : j_H m x z L) {f v : Int} (hf : 0 ≤ f ∧ f ≤ 5) : j_H (q_up m (m 29 x) f v) x z (j_up L x f v) ∧ (∀ c, c < 28 ∨ 50 < c → q_up m (m 29 x) f v c = m c) ∧ q_up m (m 29 x) f v 29 = m 29 := by
  have := h.2.2.1 x h.2.1.1 (by have := h.2.1; omega)
  exact ⟨j_H_up h hf, fun c hc => q_up_f (by omega), q_up_f (by omega)⟩
theorem j_ok_act (hk : j_ok l x z L F X n T) {x' : Int} {L' : Int → Int → Int} (hx : 1 ≤ x' ∧ x' ≤ 20) (hL : ∀ i, 0 ≤ i → i ≤ x' → k_ok l (L' i)) : j_ok l x' x' L' F X n T := ⟨by omega, hL, hk.2.2⟩
theorem a_same {ec em : q_Mem → q_Res} {A : Int} (hk : j_ok l x z L F X n T) (hc : j_C l x z L F X n T ft pl m) (h1 : ec m = some (A, m)) (h2 : ∀ m1, j_M l x z L F X n T ft pl m1 → em m1 = some (A, m1)) : ∃ A l' x' z' L' F' X' n' T' ft' pl', j_ok l' x' z' L' F' X' n' T' ∧ q_ok (ec m) (fun r m' => q_w r = A ∧ (∀ c, 81 ≤ c → m' c = m c) ∧ j_C l' x' z' L' F' X' n' T' ft' pl' m') ∧ ∀ m1, j_M l x z L F X n T ft pl m1 → q_ok (em m1) (fun r m' => q_w r = A ∧ (∀ c, c < 81 → m' c = m1 c) ∧ j_M l' x' z' L' F' X' n' T' ft' pl' m') := by
  refine ⟨q_w A, l, x, z, L, F, X, n, T, ft, pl, hk, ?_, fun m1 hm => ?_⟩
  · rw [h1]; exact o_some ⟨rfl, fun _ _ => rfl, hc⟩
  · rw [h2 m1 hm]; exact o_some ⟨rfl, fun _ _ => rfl, hm⟩
theorem a_fire {p q : Int} (hp : q_32 p) (hq : q_32 q) : j_op (f_PG_fire p q) (f_Mod_fire p q) := by
  refine j_op_of fun l x z L F X n T ft pl m hk hc hm => ?_
  have hg := (j_now hk).1
  have hxr := j_x_rg hk.1
  have hL := j_L_ok hk.1 hk.2.1
  have hpw := c_isWithin hp (k := 9) (by decide)
  have hqw := c_isWithin hq (k := 9) (by decide)
  by_cases cp : -9 ≤ p ∧ p ≤ 9
  · by_cases cq : -9 ≤ q ∧ q ≤ 9
    · have k1 := k_ok_P (hL (j_x x) (by omega) (Int.le_refl _)) cp
      have k2 := k_ok_Q k1 cq
      refine ⟨q_w (g_law l p q), l, j_x x, j_x x, j_up (j_up (j_L x L) (j_x x) 0 p) (j_x x) 1 q, F, X, n, T, ft, pl, j_ok_act hk hxr (j_up_ok (j_up_ok hL k1) k2), ?_, fun m1 hm1 => ?_⟩
      · unfold f_PG_fire
        rw [hpw, x_bd, if_pos cp, x_w1, if_neg (by decide), hqw, x_bd, if_pos cq, x_w1, if_neg (by decide)]
        refine o_bd (j_open hc.2.1) fun r m6 ⟨f6, h6, er⟩ => ?_
        obtain ⟨h7, f7, e7⟩ := j_H_set h6 (f := 0) (v := p) (by decide)
        obtain ⟨h8, f8, e8⟩ := j_H_set h7 (f := 1) (v := q) (by decide)
        rw [e7] at h8 f8
        rw [er, x_one (q_Ly_in (h6.2.2.1 (j_x x) (by omega) (by omega))), x_pf, x_pf]
        refine o_bd (j_act hc h8 (fun c hc => by rw [f8 c hc, f7 c hc, f6 c hc]) k2) fun _ m9 ⟨f9, _, c9⟩ => ?_
        rw [x_lt, x_one c9.1.1.1, c_isLawful c9.1.1.2 hg cp cq, x_bd]
        rcases g_law_01 l p q with e | e
        · rw [e, x_w1, if_neg (by decide)]; exact o_rt ⟨rfl, f9, c9⟩
        · rw [e, x_w0, if_pos rfl]; exact o_rt ⟨rfl, f9, c9⟩
      · unfold f_Mod_fire
        rw [m_isIn hp (by decide) (by decide), x_bd, if_pos cp, x_w1, if_neg (by decide), m_isIn hq (by decide) (by decide), x_bd, if_pos cq, x_w1, if_neg (by decide)]
        refine o_bd (j_keep hk.1 hm1.1.2.2 hm1.2.1) fun _ m5 ⟨f5, g5, h5⟩ => ?_
        rw [x_wr (n := 69) (by decide) (by decide) (by decide), x_wr (n := 69) (by decide) (by decide) (by decide)]
        have r5 : r_ok (m5 115) (j_L x L (j_x x)) := by rw [f5 115 (by decide) (by decide), j_L_x (by have := hk.1; omega)]; exact hm1.1.2.2
        have r7 : r_ok (q_up (q_up m5 115 0 p) 115 1 q 115) (j_up (j_up (j_L x L) (j_x x) 0 p) (j_x x) 1 q (j_x x)) := by
          rw [q_up_fn, q_up_fn]; exact r_ok_up (r_ok_up r5 (by decide)) (by decide)
        have hM : j_M l (j_x x) (j_x x) (j_up (j_up (j_L x L) (j_x x) 0 p) (j_x x) 1 q) F X n T ft pl (q_up (q_up m5 115 0 p) 115 1 q) := by
          refine j_M_act hm1 (fun c c0 c1 c2 c3 => by rw [q_up_f c2, q_up_f c2]; exact f5 c c1 c3) (fun j j1 j2 => by rw [q_up_c (by decide), q_up_c (by decide)]; exact g5 j j1 j2) (j_HM_up (j_HM_up (j_HM_fr h5 ?_ ?_ ?_))) r7
          · rw [q_up_c (by decide), q_up_c (by decide)]
          · rw [q_up_c (by decide), q_up_c (by decide)]
          · rw [q_up_f (by decide), q_up_f (by decide)]
        rw [m_isLawful hM.1.1 hg cp cq, x_bd]
        have fr : ∀ c, c < 81 → q_up (q_up m5 115 0 p) 115 1 q c = m1 c := fun c hc => by rw [q_up_f (by omega), q_up_f (by omega)]; exact f5 c (by omega) (by omega)
        rcases g_law_01 l p q with e | e
        · rw [e, x_w1, if_neg (by decide)]; exact o_rt ⟨rfl, fr, hM⟩
        · rw [e, x_w0, if_pos rfl]; exact o_rt ⟨rfl, fr, hM⟩
    · refine a_same (A := -1) hk hc ?_ fun m1 hm1 => ?_
      · unfold f_PG_fire
        rw [hpw, x_bd, if_pos cp, x_w1, if_neg (by decide), hqw, x_bd, if_neg cq, x_w0, if_pos rfl, x_rt]
      · unfold f_Mod_fire
        rw [m_isIn hp (by decide) (by decide), x_bd, if_pos cp, x_w1, if_neg (by decide), m_isIn hq (by decide) (by decide), x_bd, if_neg cq, x_w0, if_pos rfl, x_rt]
  · refine a_same (A := -1) hk hc ?_ fun m1 hm1 => ?_
    · unfold f_PG_fire
      rw [hpw, x_bd, if_neg cp, x_w0, if_pos rfl, x_rt]
    · unfold f_Mod_fire
      rw [m_isIn hp (by decide) (by decide), x_bd, if_neg cp, x_w0, if_pos rfl, x_rt]
theorem a_onto {a b : Int} (ha : q_32 a) (hb : q_32 b) : j_op (f_PG_onto a b) (f_Mod_onto a b) := by
  refine j_op_of fun l x z L F X n T ft pl m hk hc hm => ?_
  have hg := (j_now hk).1
  have hxr := j_x_rg hk.1
  have hL := j_L_ok hk.1 hk.2.1
  have hw := c_isLine ha hb
  by_cases cl : g_line a b
  · have k1 := k_ok_AB (hL (j_x x) (by omega) (Int.le_refl _)) cl
    have k2 := k_ok_B (v := 0) k1
    have hLn : ∀ i, 0 ≤ i → i ≤ j_x x → k_ok l (j_up (j_up (j_up (j_L x L) (j_x x) 2 a) (j_x x) 3 b) (j_x x) 5 0 i) := by
      intro i i0 i1
      by_cases c : i = j_x x
      · rw [c]; exact k2
      · rw [j_up_ne c, j_up_ne c, j_up_ne c]; exact hL i i0 i1
    refine ⟨q_w (l 0 0 * l 0 1 - g_sh (l 0 0) (l 0 1) a b), l, j_x x, j_x x, j_up (j_up (j_up (j_L x L) (j_x x) 2 a) (j_x x) 3 b) (j_x x) 5 0, F, X, n, T, ft, pl, j_ok_act hk hxr hLn, ?_, fun m1 hm1 => ?_⟩
    · unfold f_PG_onto
      rw [hw, x_bd, if_pos cl, x_w1, if_neg (by decide)]
      refine o_bd (j_open hc.2.1) fun r m6 ⟨f6, h6, er⟩ => ?_
      obtain ⟨h7, f7, e7⟩ := j_H_set h6 (f := 2) (v := a) (by decide)
      obtain ⟨h8, f8, e8⟩ := j_H_set h7 (f := 3) (v := b) (by decide)
      obtain ⟨h9, f9, e9⟩ := j_H_set h8 (f := 5) (v := 0) (by decide)
      rw [e8, e7] at h9 f9
      rw [e7] at f8
      rw [er, x_one (q_Ly_in (h6.2.2.1 (j_x x) (by omega) (by omega))), x_pf, x_pf, x_pf]
      refine o_bd (j_act hc h9 (fun c hc => by rw [f9 c hc, f8 c hc, f7 c hc, f6 c hc]) k2) fun _ m9 ⟨f9, _, c9⟩ => ?_
      refine o_rt ⟨?_, f9, c9⟩
      have e := c9.1.2.2.2.1.2.2.2.2.2.2.2.1
      rw [e, j_up_j (by decide), j_up_j (by decide), j_up_s, j_up_j (by decide), j_up_s]
    · unfold f_Mod_onto
      rw [m_isLine ha hb, x_bd, if_pos cl, x_w1, if_neg (by decide)]
      refine o_bd (j_keep hk.1 hm1.1.2.2 hm1.2.1) fun _ m5 ⟨f5, g5, h5⟩ => ?_
      rw [x_wr (n := 69) (by decide) (by decide) (by decide), x_wr (n := 69) (by decide) (by decide) (by decide)]
      have r5 : r_ok (m5 115) (j_L x L (j_x x)) := by rw [f5 115 (by decide) (by decide), j_L_x (by have := hk.1; omega)]; exact hm1.1.2.2
      have r7 : r_ok (q_up (q_up m5 115 2 a) 115 3 b 115) (j_up (j_up (j_L x L) (j_x x) 2 a) (j_x x) 3 b (j_x x)) := by
        rw [q_up_fn, q_up_fn]; exact r_ok_up (r_ok_up r5 (by decide)) (by decide)
      refine o_upF (fun n' k (s : q_Mem) => f_Mod_onto_l30 n' k s) (fun k s => 0 ≤ k ∧ (∀ c, c ≠ 115 → s c = m5 c) ∧ (∀ i, 0 ≤ i → i ≤ 4 → s 115 i = q_up (q_up m5 115 2 a) 115 3 b 115 i) ∧ ∀ c, 0 ≤ c → c < k → s 115 (5 + c) = 0) _ (k := 0) (e := 64) (s := q_up (q_up m5 115 2 a) 115 3 b) (by omega) (by omega) ⟨by omega, fun c hc => by rw [q_up_f hc, q_up_f hc], fun _ _ _ => rfl, fun c c0 c1 => by omega⟩ ?_ ?_
      · intro n' k s hk1 ⟨k0, f1, s1, s2⟩ hn
        show q_ok (f_Mod_onto_b30 (f_Mod_onto_l30 n') k s) _
        unfold f_Mod_onto_b30
        rw [q_w_id (x := k) (by omega) (by omega), if_neg (by omega), x_wr (n := 69) (by omega) (by omega) (by decide)]
        refine hn _ ⟨by omega, fun c hc => by rw [q_up_f hc]; exact f1 c hc, fun i i0 i4 => by rw [q_up_i (by omega)]; exact s1 i i0 i4, fun c c0 c1 => ?_⟩
        by_cases cc : c = k
        · rw [cc, q_up_s]
        · rw [q_up_i (by omega)]; exact s2 c c0 (by omega)
      · intro n' s ⟨_, f1, s1, s2⟩
        show q_ok (f_Mod_onto_b30 (f_Mod_onto_l30 n') 64 s) _
        unfold f_Mod_onto_b30
        rw [if_pos (by decide)]
        have r8 : r_ok (s 115) (j_up (j_up (j_up (j_L x L) (j_x x) 2 a) (j_x x) 3 b) (j_x x) 5 0 (j_x x)) := by
          refine ⟨fun i i0 i4 => ?_, fun c c0 c1 => ?_⟩
          · rw [s1 i i0 i4, j_up_j (by omega)]; exact r7.1 i i0 i4
          · rw [j_up_s]
            exact ⟨fun _ => s2 c c0 c1, fun h => absurd (z_un0 c0 c1) h⟩
        have hM : j_M l (j_x x) (j_x x) (j_up (j_up (j_up (j_L x L) (j_x x) 2 a) (j_x x) 3 b) (j_x x) 5 0) F X n T ft pl s := by
          refine j_M_act hm1 (fun c c0 c1 c2 c3 => by rw [f1 c c2]; exact f5 c c1 c3) (fun j j1 j2 => by rw [f1 81 (by decide)]; exact g5 j j1 j2) (j_HM_up (j_HM_up (j_HM_up (j_HM_fr h5 ?_ ?_ ?_)))) r8
          · rw [f1 81 (by decide)]
          · rw [f1 81 (by decide)]
          · rw [f1 123 (by decide)]
        refine o_bd (s_layNow k2 hM.1) fun _ m8 ⟨f8, k8, p8, _⟩ => ?_
        refine o_rt ⟨?_, fun c hc => ?_, j_M_fm hM f8⟩
        · have e := p8.2.2.2.1
          rw [e, j_up_j (by decide), j_up_j (by decide), j_up_s, j_up_j (by decide), j_up_s]
        · rw [f8.2 c (by omega) (by omega), f1 c (by omega), f5 c (by omega) (by omega)]
  · refine a_same (A := -1) hk hc ?_ fun m1 hm1 => ?_
    · unfold f_PG_onto
      rw [hw, x_bd, if_neg cl, x_w0, if_pos rfl, x_rt]
    · unfold f_Mod_onto
      rw [m_isLine ha hb, x_bd, if_neg cl, x_w0, if_pos rfl, x_rt]
theorem k_C_W {o' : Int → Int} (h : k_C l o m) (e : ∀ c, c < 28 ∨ 50 < c → m' c = m c) (hH : (0 ≤ m' 28 1 ∧ m' 28 1 ≤ 20) ∧ m' 29 (m' 28 1) ∈ q_Ly ∧ ∀ i, 0 ≤ i → i ≤ 5 → m' (m' 29 (m' 28 1)) i = o' i) (eo : ∀ i, i ≠ 4 → o' i = o i) : k_C l o' m' := by
  obtain ⟨⟨h1, h2⟩, _, h6, h7, h8, h9⟩ := h
  have ht : m 0 1 = 3 ∨ m 0 1 = 14 := by simpa [q_Lp] using h1
  refine ⟨⟨by rw [e 0 (by omega)]; exact h1, ?_⟩, hH, k_web_fr h6 fun c _ _ => e c (by omega), ?_, by rw [e 54 (by omega), e 74 (by omega)]; exact h8, ?_⟩
  · rw [e 0 (by omega)]
    refine ⟨fun i => ?_, fun j i j1 j2 => ?_⟩
    · rw [e _ (by omega)]; exact h2.1 i
    · rw [e _ (by omega)]; exact h2.2 j i j1 j2
  · rw [eo 0 (by decide), eo 1 (by decide), eo 2 (by decide), eo 3 (by decide)]
    exact k_plac_fr h7 fun c _ _ => e c (by omega)
  · rw [e 0 (by omega), e 75 (by omega)]
    unfold k_run at *
    rw [eo 0 (by decide), eo 1 (by decide), eo 2 (by decide), eo 3 (by decide), eo 5 (by decide)]
    exact h9
theorem a_workers {v : Int} (hv : q_32 v) : j_op (f_PG_workers v) (f_Mod_workers v) := by
  refine j_op_of fun l x z L F X n T ft pl m hk hc hm => ?_
  have hxr := j_x_rg hk.1
  have hL := j_L_ok hk.1 hk.2.1
  have hv' : q_w v = v := q_w_id hv.1 hv.2
  have hx20 : x ≤ 20 := by have := hk.1; omega
  by_cases c : 1 ≤ v ∧ v ≤ 12
  · have k1 := k_ok_W (hL (j_x x) (by omega) (Int.le_refl _)) c
    refine ⟨q_w (L x 4), l, j_x x, j_x x, j_up (j_L x L) (j_x x) 4 v, F, X, n, T, ft, pl, j_ok_act hk hxr (j_up_ok hL k1), ?_, fun m1 hm1 => ?_⟩
    · unfold f_PG_workers
      rw [hv', if_neg (show ¬ v < 1 by omega), if_pos (show v ≤ 12 by omega)]
      refine o_bd (j_open hc.2.1) fun r m6 ⟨f6, h6, er⟩ => ?_
      obtain ⟨h7, f7, e7⟩ := j_H_set h6 (f := 4) (v := v) (by decide)
      have e4 := h6.2.2.2.2 (j_x x) 4 (by omega) (Int.le_refl _) (by decide) (by decide)
      rw [er, x_one (q_Ly_in (h6.2.2.1 (j_x x) (by omega) (by omega))), x_pf]
      have f7' : ∀ c, c < 28 ∨ 50 < c → q_up m6 (m6 29 (j_x x)) 4 v c = m c := fun c hc => by rw [f7 c hc, f6 c hc]
      refine o_rt ⟨by rw [e4, j_L_x hx20], fun c hc => f7' c (by omega), ?_⟩
      obtain ⟨h1, h2, h3, h4, h5⟩ := hc
      refine ⟨k_C_W h1 f7' (j_H_now h7) fun i hi => ?_, h7, j_B_fr h3 fun c hc => f7' c (by omega), by rw [f7' 0 (by omega)]; exact h4, j_T_fr h5 fun c hc => f7' c (by omega)⟩
      rw [j_up_j hi, j_L_x hx20]
    · unfold f_Mod_workers
      rw [m_isIn hv (by decide) (by decide), x_bd, if_pos c, x_w1, if_neg (by decide)]
      refine o_bd (j_keep hk.1 hm1.1.2.2 hm1.2.1) fun _ m5 ⟨f5, g5, h5⟩ => ?_
      rw [x_rd (n := 69) (by decide) (by decide) (by decide), x_wr (n := 69) (by decide) (by decide) (by decide)]
      have r5 : r_ok (m5 115) (j_L x L (j_x x)) := by rw [f5 115 (by decide) (by decide), j_L_x hx20]; exact hm1.1.2.2
      have r7 : r_ok (q_up m5 115 4 v 115) (j_up (j_L x L) (j_x x) 4 v (j_x x)) := by
        rw [q_up_fn]; exact r_ok_up r5 (by decide)
      refine o_rt ⟨by rw [r5.1 4 (by decide) (by decide), j_L_x hx20], fun c hc => by rw [q_up_f (by omega)]; exact f5 c (by omega) (by omega), ?_⟩
      refine j_M_act hm1 (fun c c0 c1 c2 c3 => by rw [q_up_f c2]; exact f5 c c1 c3) (fun j j1 j2 => by rw [q_up_c (by decide)]; exact g5 j j1 j2) (j_HM_up (j_HM_fr h5 ?_ ?_ ?_)) r7
      · rw [q_up_c (by decide)]
      · rw [q_up_c (by decide)]
      · rw [q_up_f (by decide)]
  · refine a_same (A := -1) hk hc ?_ fun m1 hm1 => ?_
    · unfold f_PG_workers
      rw [hv']
      by_cases c1 : v < 1
      · rw [if_pos c1, x_rt]
      · rw [if_neg c1, if_neg (by omega), x_rt]
    · unfold f_Mod_workers
      rw [m_isIn hv (by decide) (by decide), x_bd, if_neg c, x_w0, if_pos rfl, x_rt]
theorem a_undo : j_op f_PG_undo f_Mod_undo := by
  refine j_op_of fun l x z L F X n T ft pl m hk hc hm => ?_
  have hx := hk.1
  by_cases c : 0 < x
  · have k1 := hk.2.1 (x - 1) (by omega) (by omega)
    refine ⟨1, l, x - 1, z, L, F, X, n, T, ft, pl, ⟨by omega, hk.2⟩, ?_, fun m1 hm1 => ?_⟩
    · unfold f_PG_undo f_Hist_stepBack
      obtain ⟨h1, h2, h3, h4, h5⟩ := hc.2.1
      rw [h1.1, q_w_id (x := x) (by omega) (by omega), if_pos c, x_pf, x_rz1, x_bd, x_w1, if_neg (by decide)]
      have e29 : q_up m 28 1 (x - 1) 29 = m 29 := q_up_f (by decide)
      have hH : j_H (q_up m 28 1 (x - 1)) (x - 1) z L := by
        refine ⟨⟨q_up_s _ _ _ _, by rw [q_up_i (by decide)]; exact h1.2⟩, by omega, by rw [e29]; exact h3, by rw [e29]; exact h4, fun i j i0 iz j0 j5 => ?_⟩
        have := h3 i i0 (by omega)
        rw [e29, q_up_f (by omega)]
        exact h5 i j i0 iz j0 j5
      refine o_bd (j_act hc hH (fun c hc => q_up_f (by omega)) k1) fun _ m9 ⟨f9, _, c9⟩ => ?_
      rw [x_rz1]
      exact o_some ⟨rfl, f9, c9⟩
    · unfold f_Mod_undo
      obtain ⟨h1, h2, h3⟩ := hm1.2.1
      have e69 : q_up (q_up m1 81 69 (x - 1)) 81 70 (z - x + 1) 81 69 = x - 1 := by rw [q_up_i (by decide), q_up_s]
      rw [h1.1, q_w_id (x := x) (by omega) (by omega), if_neg (by omega), x_pf, x_pf, q_up_i (show (70 : Int) ≠ 69 by decide), h1.2]
      refine o_bd (m_swap (by omega) e69) fun _ m5 ⟨f5, s1, s2⟩ => ?_
      rw [x_rz1]
      have f5' : ∀ c, c ≠ 81 → c ≠ 115 → c ≠ 123 → m5 c = m1 c := fun c c1 c2 c3 => by rw [f5 c c2 c3, q_up_f c1, q_up_f c1]
      have e123 : q_up (q_up m1 81 69 (x - 1)) 81 70 (z - x + 1) 123 = m1 123 := by rw [q_up_f (by decide), q_up_f (by decide)]
      have e115 : q_up (q_up m1 81 69 (x - 1)) 81 70 (z - x + 1) 115 = m1 115 := by rw [q_up_f (by decide), q_up_f (by decide)]
      rw [e123, e115] at s1
      rw [e123] at s2
      refine o_some ⟨rfl, fun c hc => f5' c (by omega) (by omega) (by omega), j_M_act hm1 (fun c _ c1 c2 c3 => f5' c c1 c2 c3) (fun j j1 j2 => by rw [f5 81 (by decide) (by decide), q_up_i j2, q_up_i j1]) ⟨⟨by rw [f5 81 (by decide) (by decide)]; exact e69, by rw [f5 81 (by decide) (by decide), q_up_s]; omega⟩, fun i i0 i1 => ?_, fun i i0 i1 => ?_⟩ ?_⟩
      · exact r_ok_congr (h2 i i0 (by omega)) fun j j0 j1 => s2 _ (by omega)
      · by_cases ci : i = x - 1
        · rw [ci, show x - 1 + 1 = x by omega]
          exact r_ok_congr hm1.1.2.2 fun j j0 j1 => (s1 j j0 j1).1
        · exact r_ok_congr (h3 i (by omega) i1) fun j j0 j1 => s2 _ (by omega)
      · exact r_ok_congr (h2 (x - 1) (by omega) (by omega)) fun j j0 j1 => (s1 j j0 j1).2
  · have ex : x = 0 := by omega
    refine a_same (A := 0) hk hc ?_ fun m1 hm1 => ?_
    · unfold f_PG_undo f_Hist_stepBack
      rw [hc.2.1.1.1, ex, x_w0, if_neg (by decide), x_rz0, x_bd, x_w0, if_pos rfl, x_rz0]
    · unfold f_Mod_undo
      rw [hm1.2.1.1.1, ex, x_w0, if_pos rfl, x_rz0]
theorem a_redo : j_op f_PG_redo f_Mod_redo := by
  refine j_op_of fun l x z L F X n T ft pl m hk hc hm => ?_
  have hx := hk.1
  by_cases c : x < z
  · have k1 := hk.2.1 (x + 1) (by omega) (by omega)
    refine ⟨1, l, x + 1, z, L, F, X, n, T, ft, pl, ⟨by omega, hk.2⟩, ?_, fun m1 hm1 => ?_⟩
    · unfold f_PG_redo f_Hist_stepOn
      obtain ⟨h1, h2, h3, h4, h5⟩ := hc.2.1
      rw [h1.1, h1.2, q_w_id (x := x) (by omega) (by omega), q_w_id (x := z) (by omega) (by omega), if_pos c, x_pf, x_rz1, x_bd, x_w1, if_neg (by decide)]
      have e29 : q_up m 28 1 (x + 1) 29 = m 29 := q_up_f (by decide)
      have hH : j_H (q_up m 28 1 (x + 1)) (x + 1) z L := by
        refine ⟨⟨q_up_s _ _ _ _, by rw [q_up_i (by decide)]; exact h1.2⟩, by omega, by rw [e29]; exact h3, by rw [e29]; exact h4, fun i j i0 iz j0 j5 => ?_⟩
        have := h3 i i0 (by omega)
        rw [e29, q_up_f (by omega)]
        exact h5 i j i0 iz j0 j5
      refine o_bd (j_act hc hH (fun c hc => q_up_f (by omega)) k1) fun _ m9 ⟨f9, _, c9⟩ => ?_
      rw [x_rz1]
      exact o_some ⟨rfl, f9, c9⟩
    · unfold f_Mod_redo
      obtain ⟨h1, h2, h3⟩ := hm1.2.1
      rw [h1.2, q_w_id (x := z - x) (by omega) (by omega), if_neg (by omega)]
      refine o_bd (m_swap (by omega) h1.1) fun _ m5 ⟨f5, s1, s2⟩ => ?_
      rw [x_pf, x_pf, x_rz1, f5 81 (by decide) (by decide), h1.1, q_up_i (show (70 : Int) ≠ 69 by decide), f5 81 (by decide) (by decide), h1.2]
      have e123 : q_up (q_up m5 81 69 (x + 1)) 81 70 (z - x - 1) 123 = m5 123 := by rw [q_up_f (by decide), q_up_f (by decide)]
      have e115 : q_up (q_up m5 81 69 (x + 1)) 81 70 (z - x - 1) 115 = m5 115 := by rw [q_up_f (by decide), q_up_f (by decide)]
      refine o_some ⟨rfl, fun c hc => by rw [q_up_f (by omega), q_up_f (by omega)]; exact f5 c (by omega) (by omega), j_M_act hm1 (fun c _ c1 c2 c3 => by rw [q_up_f c1, q_up_f c1]; exact f5 c c2 c3) (fun j j1 j2 => by rw [q_up_i j2, q_up_i j1, f5 81 (by decide) (by decide)]) ⟨⟨by rw [q_up_i (by decide), q_up_s], by rw [q_up_s]; omega⟩, fun i i0 i1 => ?_, fun i i0 i1 => ?_⟩ ?_⟩
      · rw [e123]
        by_cases ci : i = x
        · rw [ci]
          exact r_ok_congr hm1.1.2.2 fun j j0 j1 => (s1 j j0 j1).1
        · exact r_ok_congr (h2 i i0 (by omega)) fun j j0 j1 => s2 _ (by omega)
      · rw [e123]
        exact r_ok_congr (h3 i (by omega) i1) fun j j0 j1 => s2 _ (by omega)
      · rw [e115]
        exact r_ok_congr (h3 x (Int.le_refl _) c) fun j j0 j1 => (s1 j j0 j1).2
  · have ex : x = z := by omega
    refine a_same (A := 0) hk hc ?_ fun m1 hm1 => ?_
    · unfold f_PG_redo f_Hist_stepOn
      rw [hc.2.1.1.1, hc.2.1.1.2, ex, if_neg (by omega), x_rz0, x_bd, x_w0, if_pos rfl, x_rz0]
    · unfold f_Mod_redo
      rw [hm1.2.1.1.2, ex, Int.sub_self, x_w0, if_pos rfl, x_rz0]
end ops
