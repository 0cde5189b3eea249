/-! QUESTION: tiling, the model's side, and both -/
section tiling2
variable {l m : q_Mem} {r c r' c' : Int} {o : Int → Int}
theorem i_x_cong (hw : g_lw l) (hT : ∀ p, g_pt l p → i_T r c p = i_T r' c' p) {p u : Int} (hp : g_pt l p) : i_x l r c p u = i_x l r' c' p u := by
  unfold i_x
  by_cases ct : g_tg l p u = -1
  · rw [ct]; rfl
  · rw [hT p hp, hT _ (g_tg_pt hw ct)]
theorem i_H_cong (hw : g_lw l) (hT : ∀ p, g_pt l p → i_T r c p = i_T r' c' p) (t u : Int) : i_H l r c (fun _ _ => True) t u → i_H l r' c' (fun _ _ => True) t u := by
  rintro ⟨p, k, h1, hp, hk, hx, e1, e2⟩
  have hx' := hx
  unfold i_x at hx'
  simp at hx'
  exact ⟨p, k, h1, hp, hk, by rw [← i_x_cong hw hT hp]; exact hx, by rw [← hT p hp]; exact e1, by rw [← hT _ (g_tg_pt hw hx'.1)]; exact e2⟩
theorem i_S_cong (hT : ∀ p, g_pt l p → i_T r c p = i_T r' c' p) {t : Int} : i_S l r c t → i_S l r' c' t := by
  rintro ⟨p, hp, e⟩
  exact ⟨p, hp, by rw [← hT p hp]; exact e⟩
theorem i_ok_cong (hw : g_lw l) (hT : ∀ p, g_pt l p → i_T r c p = i_T r' c' p) : i_ok l r c → i_ok l r' c' := by
  have hT' : ∀ p, g_pt l p → i_T r' c' p = i_T r c p := fun p hp => (hT p hp).symm
  have hZ : i_Z l r c = i_Z l r' c' := by
    funext i
    unfold i_Z
    by_cases h : i_H l r c (fun _ _ => True) (i / 100) (i % 100)
    · rw [if_pos h, if_pos (i_H_cong hw hT _ _ h)]
    · rw [if_neg h, if_neg fun h' => h (i_H_cong hw hT' _ _ h')]
  rintro ⟨v, ⟨X, h1, h2⟩, hv⟩
  refine ⟨v, ⟨X, fun w hw' => ?_, ?_⟩, hv⟩
  · rw [← hZ]; exact h1 w (i_S_cong hT' hw')
  · rcases h2 with ⟨e, w, hw', hX⟩ | ⟨a, ⟨w, hw', e⟩, b⟩
    · exact Or.inl ⟨e, w, i_S_cong hT hw', hX⟩
    · exact Or.inr ⟨fun w hw' => a w (i_S_cong hT' hw'), ⟨w, i_S_cong hT hw', e⟩, fun w hw' => b w (i_S_cong hT' hw')⟩
theorem i_X_cong (hw : g_lw l) (hT : ∀ p, g_pt l p → i_T r c p = i_T r' c' p) : i_X l r c = i_X l r' c' := by
  unfold i_X
  exact g_sum_congr fun u _ _ => g_ca_congr fun p hp => i_x_cong hw hT hp
theorem i_clip {i x w : Int} (h0 : 0 ≤ i) (h1 : i < x) (hw : 1 ≤ w) : i / w = i / min w x := by
  by_cases h : w ≤ x
  · rw [show min w x = w by omega]
  · rw [show min w x = x by omega, Int.ediv_eq_zero_of_lt h0 h1, Int.ediv_eq_zero_of_lt h0 (by omega)]
theorem i_T_clip (hr : 1 ≤ r) (hc : 1 ≤ c) : ∀ p, g_pt l p → i_T r c p = i_T (min r (l 0 0)) (min c (l 0 1)) p := by
  intro p hp
  have p1 := hp.1
  have p2 := hp.2
  unfold g_th at p2
  unfold i_T
  rw [i_clip (i := p / 10) (x := l 0 0) (w := r) (by omega) (by omega) hr, i_clip (i := p % 10) (x := l 0 1) (w := c) (by omega) (by omega) hc]
theorem i_opt_u (hw : g_lw l) {most f x a b f' x' a' b' : Int} (h : i_opt l (i_V (l 0 0) (l 0 1) most (l 0 0 + 1) 1) f x a b) (h' : i_opt l (i_V 10 10 most 11 1) f' x' a' b') : (f = 0 ∧ f' = 0) ∨ (f ≠ 0 ∧ f' ≠ 0 ∧ x = x' ∧ a = a' ∧ b = b') := by
  have hR := hw.1
  have hC := hw.2.1
  have up : ∀ r c, i_V (l 0 0) (l 0 1) most (l 0 0 + 1) 1 r c → i_V 10 10 most 11 1 r c := by
    rintro r c ⟨h1, h2, h3, _⟩
    exact ⟨by omega, by omega, h3, Or.inl (by omega)⟩
  have down : ∀ r c, i_V 10 10 most 11 1 r c → i_V (l 0 0) (l 0 1) most (l 0 0 + 1) 1 (min r (l 0 0)) (min c (l 0 1)) := by
    rintro r c ⟨h1, h2, h3, _⟩
    have : min r (l 0 0) * min c (l 0 1) ≤ r * c := Int.mul_le_mul (by omega) (by omega) (by omega) (by omega)
    exact ⟨by omega, by omega, by omega, Or.inl (by omega)⟩
  have okd : ∀ r c, i_V 10 10 most 11 1 r c → i_ok l r c → i_ok l (min r (l 0 0)) (min c (l 0 1)) ∧ i_X l r c = i_X l (min r (l 0 0)) (min c (l 0 1)) := by
    rintro r c ⟨h1, h2, _⟩ hk
    have hT := i_T_clip (l := l) (r := r) (c := c) (by omega) (by omega)
    exact ⟨i_ok_cong hw hT hk, i_X_cong hw hT⟩
  rcases h with ⟨h1, h2⟩ | ⟨h1, h2, h3, h4, h5⟩
  · rcases h' with ⟨h1', _⟩ | ⟨_, h2', h3', _⟩
    · exact Or.inl ⟨h1, h1'⟩
    · exact absurd (okd _ _ h2' h3').1 (h2 _ _ (down _ _ h2'))
  · rcases h' with ⟨_, h2'⟩ | ⟨h1', h2', h3', h4', h5'⟩
    · exact absurd h3 (h2' _ _ (up _ _ h2))
    · have k1 := okd _ _ h2' h3'
      have m1 := h5' _ _ (up _ _ (down _ _ h2')) k1.1
      have m2 := h5 _ _ (down _ _ h2') k1.1
      have m3 := h5' _ _ (up _ _ h2) h3
      have v1 := h2.1
      have v2 := h2.2.1
      have v3 := h2'.1
      have v4 := h2'.2.1
      -- the model's choice lies within
      have e1 : a' = min a' (l 0 0) ∧ b' = min b' (l 0 1) := by
        refine Classical.byContradiction fun hn => ?_
        have : x' < i_X l (min a' (l 0 0)) (min b' (l 0 1)) := m1.2 (by omega)
        omega
      rw [← e1.1, ← e1.2] at m2
      have ex : x = x' := by omega
      refine Or.inr ⟨h1, h1', ex, ?_⟩
      refine Classical.byContradiction fun hn => ?_
      by_cases cl : i_lx a b a' b'
      · have := m3.2 cl
        omega
      · have := m2.2 (by omega)
        omega
theorem m_tiling (hm : g_ML m l) (hw : g_lw l) {most y : Int} (hmo : 1 ≤ most ∧ most ≤ 100) (hy : 0 ≤ y ∧ y ≤ 2) (h0 : m 81 57 = 0 ∧ m 81 58 = 1000000) : q_ok (f_Mod_tiling_l27 q_F most y 1 m) (fun v m' => k_fm m m' ∧ ∃ f x a b, i_opt l (i_V 10 10 most 11 1) f x a b ∧ v = if f = 0 then -1 else if y = 0 then a else if y = 1 then b else x) := by
  refine o_upF (fun n k (s : q_Mem) => f_Mod_tiling_l27 n most y k s) (fun k s => 1 ≤ k ∧ k_fm m s ∧ i_opt l (i_V 10 10 most k 1) (s 81 57) (s 81 58) (s 81 59) (s 81 60) ∧ (s 81 57 = 0 → s 81 58 = 1000000) ∧ (0 ≤ s 81 57 ∧ s 81 57 ≤ 20 * k)) _ (k := 1) (e := 11) (s := m) (by omega) (by omega) ⟨Int.le_refl _, k_fm_id _, Or.inl ⟨h0.1, fun r c h => by unfold i_V at h; omega⟩, fun _ => h0.2, by omega⟩ ?_ ?_
  · intro n k s hk ⟨k0, f1, h1, h58, hf⟩ hn
    show q_ok (f_Mod_tiling_b27 (f_Mod_tiling_l27 n) most y k s) _
    unfold f_Mod_tiling_b27
    rw [q_w_id (x := k) (by omega) (by omega), if_neg (show ¬ 10 < k by omega)]
    refine o_while (fun n' (z : Int × q_Mem) => f_Mod_tiling_l36 (f_Mod_tiling_l27 n) n' most y k z.1 z.2) (fun z => (1 ≤ z.1 ∧ z.1 ≤ 11) ∧ k_fm m z.2 ∧ i_opt l (i_V 10 10 most k z.1) (z.2 81 57) (z.2 81 58) (z.2 81 59) (z.2 81 60) ∧ (z.2 81 57 = 0 → z.2 81 58 = 1000000) ∧ (0 ≤ z.2 81 57 ∧ z.2 81 57 ≤ 20 * k + z.1)) (fun z => (11 - z.1).toNat) _ ?_ q_F (1, s) (by show (11 - (1 : Int)).toNat < 20000; omega) ⟨by show 1 ≤ (1 : Int) ∧ (1 : Int) ≤ 11; omega, f1, h1, h58, by show 0 ≤ s 81 57 ∧ s 81 57 ≤ 20 * k + 1; omega⟩
    intro n' z ⟨j0, f2, h2, g58, gf⟩ hn'
    obtain ⟨j, s2⟩ := z
    replace j0 : 1 ≤ j ∧ j ≤ 11 := j0
    replace f2 : k_fm m s2 := f2
    replace h2 : i_opt l (i_V 10 10 most k j) (s2 81 57) (s2 81 58) (s2 81 59) (s2 81 60) := h2
    replace g58 : s2 81 57 = 0 → s2 81 58 = 1000000 := g58
    replace gf : 0 ≤ s2 81 57 ∧ s2 81 57 ≤ 20 * k + j := gf
    have hm2 : g_ML s2 l := g_ML_of hm (f2.1 19 (by omega)) fun c _ _ => f2.2 c (by omega) (by omega)
    have kj := x_mulp (x := k) (z := j) (a := 10) (b := 11) (by omega) (by omega) (by omega) (by omega)
    show q_ok (f_Mod_tiling_b36 (f_Mod_tiling_l27 n) (f_Mod_tiling_l36 (f_Mod_tiling_l27 n) n') most y k j s2) _
    unfold f_Mod_tiling_b36 f_Mod_tiling_b87 f_Mod_tiling_b81
    rw [q_w_id (x := j) (by omega) (by omega), q_w_id (x := most) (by omega) (by omega), q_w_id (x := k * j) (by omega) (by omega)]
    by_cases cj : 10 < j
    · rw [if_pos cj]
      exact hn s2 ⟨by omega, f2, i_opt_V h2 (i_V_e (by omega) j0.1 (Or.inl cj)), g58, by omega⟩
    by_cases cm : most < k * j
    · rw [if_neg cj, if_pos cm]
      exact hn s2 ⟨by omega, f2, i_opt_V h2 (i_V_e (by omega) j0.1 (Or.inr cm)), g58, by omega⟩
    rw [if_neg cj, if_neg cm]
    have hVs := i_V_s (R := 10) (C := 10) (most := most) (r := k) (c := j) (by omega) (by omega) (by omega)
    have hlx : ∀ r' c', i_V 10 10 most k j r' c' → i_lx r' c' k j := fun r' c' h => h.2.2.2
    have hXr := i_X_rg hw k j
    refine m_len (K := fun v1 v3 m4 => if q_w v3 ≤ 0 then (f_Mod_tiling_l36 (f_Mod_tiling_l27 n) n' most y k (j + 1) m4) else (q_bd (f_Mod_weigh v1 k j 0 0 m4) fun _ m5 => f_Mod_tiling_l36 (f_Mod_tiling_l27 n) n' most y k (j + 1) m5)) hm2 hw (by omega) (by omega) fun v s3 f3 hlen hvr => ?_
    show q_ok (if q_w v ≤ 0 then _ else _) _
    have e81 : s3 81 = s2 81 := f3 81 (by decide) (by decide)
    have f3m : k_fm m s3 := k_fm_tr f2 (k_fm_121 f3)
    rw [← e81] at h2 g58 gf
    rw [q_w_id (x := v) (by omega) (by omega)]
    by_cases cv : v ≤ 0
    · rw [if_pos cv]
      refine hn' (j + 1, s3) ⟨by show 1 ≤ j + 1 ∧ j + 1 ≤ 11; omega, f3m, ?_, g58, by show 0 ≤ s3 81 57 ∧ s3 81 57 ≤ 20 * k + (j + 1); omega⟩ (by show (11 - (j + 1)).toNat < (11 - j).toNat; omega)
      refine i_opt_no h2 hVs ?_
      rintro ⟨v', hv', hp⟩
      have := i_len_u hw (by omega) (by omega) hv' hlen
      omega
    · rw [if_neg cv]
      have hx58 : 0 ≤ s3 81 58 ∧ s3 81 58 ≤ 1000000 := by
        by_cases cf : s3 81 57 = 0
        · have := g58 cf; omega
        · rcases h2 with ⟨h, _⟩ | ⟨_, _, _, h4, _⟩
          · exact absurd h cf
          · have := i_X_rg hw (s3 81 59) (s3 81 60)
            omega
      unfold f_Mod_weigh
      rw [x_pf, q_up_i (show (58 : Int) ≠ 57 by decide), q_w_id (x := i_X l k j) (by omega) (by omega), q_w_id (x := s3 81 58) (by omega) (by omega)]
      by_cases cx : i_X l k j < s3 81 58
      · rw [if_pos cx, x_pf, x_pf, x_pf, x_pf, x_pf, x_rt, x_bd]
        have hf4 : k_fm s3 (q_up (q_up (q_up (q_up (q_up (q_up s3 81 57 (s3 81 57 + 1)) 81 58 (i_X l k j)) 81 59 k) 81 60 j) 81 61 0) 81 62 0) := ⟨fun i hi => by rw [q_up_i (by omega), q_up_i (by omega), q_up_i (by omega), q_up_i (by omega), q_up_i (by omega), q_up_i (by omega)], fun c hc _ => by rw [q_up_f hc, q_up_f hc, q_up_f hc, q_up_f hc, q_up_f hc, q_up_f hc]⟩
        have e57 : q_up (q_up (q_up (q_up (q_up (q_up s3 81 57 (s3 81 57 + 1)) 81 58 (i_X l k j)) 81 59 k) 81 60 j) 81 61 0) 81 62 0 81 57 = s3 81 57 + 1 := by simp [q_up]
        have e58 : q_up (q_up (q_up (q_up (q_up (q_up s3 81 57 (s3 81 57 + 1)) 81 58 (i_X l k j)) 81 59 k) 81 60 j) 81 61 0) 81 62 0 81 58 = i_X l k j := by simp [q_up]
        have e59 : q_up (q_up (q_up (q_up (q_up (q_up s3 81 57 (s3 81 57 + 1)) 81 58 (i_X l k j)) 81 59 k) 81 60 j) 81 61 0) 81 62 0 81 59 = k := by simp [q_up]
        have e60 : q_up (q_up (q_up (q_up (q_up (q_up s3 81 57 (s3 81 57 + 1)) 81 58 (i_X l k j)) 81 59 k) 81 60 j) 81 61 0) 81 62 0 81 60 = j := by simp [q_up]
        revert hf4 e57 e58 e59 e60
        generalize q_up (q_up (q_up (q_up (q_up (q_up s3 81 57 (s3 81 57 + 1)) 81 58 (i_X l k j)) 81 59 k) 81 60 j) 81 61 0) 81 62 0 = s5
        intro hf4 e57 e58 e59 e60
        refine hn' (j + 1, s5) ⟨by show 1 ≤ j + 1 ∧ j + 1 ≤ 11; omega, k_fm_tr f3m hf4, ?_, fun hz => ?_, ?_⟩ (by show (11 - (j + 1)).toNat < (11 - j).toNat; omega)
        · show i_opt l (i_V 10 10 most k (j + 1)) (s5 81 57) (s5 81 58) (s5 81 59) (s5 81 60)
          rw [e57, e58, e59, e60]
          refine i_opt_new h2 hVs ⟨v, hlen, by omega⟩ ?_ (by omega)
          by_cases cf : s3 81 57 = 0
          · exact Or.inl cf
          · exact Or.inr cx
        · exfalso
          have hz' : s5 81 57 = 0 := hz
          omega
        · show 0 ≤ s5 81 57 ∧ s5 81 57 ≤ 20 * k + (j + 1)
          omega
      · rw [if_neg cx, x_rt, x_bd]
        have cf : s3 81 57 ≠ 0 := fun e => by have := g58 e; omega
        have hf4 : k_fm s3 (q_up s3 81 57 (s3 81 57 + 1)) := ⟨fun i hi => q_up_i (by omega), fun c hc _ => q_up_f hc⟩
        refine hn' (j + 1, _) ⟨by show 1 ≤ j + 1 ∧ j + 1 ≤ 11; omega, k_fm_tr f3m hf4, ?_, fun hz => ?_, ?_⟩ (by show (11 - (j + 1)).toNat < (11 - j).toNat; omega)
        · show i_opt l (i_V 10 10 most k (j + 1)) (q_up s3 81 57 (s3 81 57 + 1) 81 57) (q_up s3 81 57 (s3 81 57 + 1) 81 58) (q_up s3 81 57 (s3 81 57 + 1) 81 59) (q_up s3 81 57 (s3 81 57 + 1) 81 60)
          rw [q_up_s, q_up_i (by decide), q_up_i (by decide), q_up_i (by decide)]
          exact i_opt_keep h2 hVs hlx cf (by omega) (by omega)
        · exfalso
          have hz' : q_up s3 81 57 (s3 81 57 + 1) 81 57 = 0 := hz
          rw [q_up_s] at hz'
          omega
        · show 0 ≤ q_up s3 81 57 (s3 81 57 + 1) 81 57 ∧ q_up s3 81 57 (s3 81 57 + 1) 81 57 ≤ 20 * k + (j + 1)
          rw [q_up_s]
          omega
  · intro n s ⟨_, f1, h1, h58, hf⟩
    show q_ok (f_Mod_tiling_b27 (f_Mod_tiling_l27 n) most y 11 s) _
    unfold f_Mod_tiling_b27
    rw [if_pos (show 10 < q_w 11 by decide), q_w_id (x := s 81 57) (by omega) (by omega), q_w_id (x := y) (by omega) (by omega)]
    by_cases cf : s 81 57 = 0
    · rw [if_pos cf]
      exact o_rt ⟨f1, _, _, _, _, h1, by rw [if_pos cf]⟩
    rw [if_neg cf]
    by_cases y0 : y = 0
    · rw [if_pos y0]
      exact o_rt ⟨f1, _, _, _, _, h1, by rw [if_neg cf, if_pos y0]⟩
    rw [if_neg y0]
    by_cases y1 : y = 1
    · rw [if_pos y1]
      exact o_rt ⟨f1, _, _, _, _, h1, by rw [if_neg cf, if_neg y0, if_pos y1]⟩
    rw [if_neg y1]
    exact o_rt ⟨f1, _, _, _, _, h1, by rw [if_neg cf, if_neg y0, if_neg y1]⟩
theorem b_tiling (hk : k_ok l o) {most y : Int} (hm : q_32 most) (hy : q_32 y) : k_both l o (f_PG_tiling most y) (f_Mod_tiling most y) := by
  intro mc mm hC hM
  have hg := hk.1
  have hm' : q_w most = most := q_w_id hm.1 hm.2
  have hy' : q_w y = y := q_w_id hy.1 hy.2
  by_cases cm : 1 ≤ most ∧ most ≤ 100
  · obtain ⟨v, m3, e3, f3, h3, ev⟩ := c_choose hC.1.1 hC.1.2 hg cm
    have pre : f_PG_tiling most y mc = if m3 69 9 = -1 then (q_rt (-1) m3) else (if y = 0 then (q_rt (m3 69 9) m3) else if y = 1 then (q_rt (m3 69 10) m3) else if y = 2 then (q_rt (m3 69 11) m3) else (q_rt (-1) m3)) := by
      unfold f_PG_tiling
      rw [hm', hy', if_neg (show ¬ most < 1 by omega), if_neg (show ¬ 100 < most by omega), x_lt, x_one hC.1.1, e3, x_bd, ev]
      by_cases c9 : m3 69 9 = -1
      · rw [if_pos c9, if_pos c9, x_w0, if_pos rfl]
      · rw [if_neg c9, if_neg c9, x_w1, if_neg (by decide)]
    by_cases cy : 0 ≤ y ∧ y ≤ 2
    · have hmod : q_ok (f_Mod_tiling most y mm) (fun v m' => k_fm mm m' ∧ ∃ f x a b, i_opt l (i_V 10 10 most 11 1) f x a b ∧ v = if f = 0 then -1 else if y = 0 then a else if y = 1 then b else x) := by
        unfold f_Mod_tiling
        rw [m_isIn hm (by decide) (by decide), x_bd, if_pos cm, x_w1, if_neg (by decide), m_isIn hy (by decide) (by decide), x_bd, if_pos cy, x_w1, if_neg (by decide)]
        refine o_bd m_begin fun _ m1 ⟨f1, w1⟩ => ?_
        have hz := w1 fun _ => True
        refine o_mono (m_tiling (k_M_fr hM f1).1 hg cm cy ⟨hz.1, hz.2.1 rfl⟩) fun v m' ⟨f2, hv⟩ => ⟨k_fm_tr f1 f2, hv⟩
      obtain ⟨r', mm', em, hf, f, x, a, b, hopt, er⟩ := hmod
      rcases i_opt_u hg h3 hopt with ⟨u1, u2⟩ | ⟨u1, u2, u3, u4, u5⟩
      · rw [if_pos (show m3 69 9 = -1 by omega)] at pre
        rw [if_pos u2] at er
        exact ⟨_, r', m3, mm', pre, em, by rw [er], ⟨k_fc_69 f3, k_C_69 hC f3⟩, hf⟩
      · rw [if_neg (show ¬ m3 69 9 = -1 by omega)] at pre
        rw [if_neg u2] at er
        by_cases y0 : y = 0
        · rw [if_pos y0] at pre er
          exact ⟨_, r', m3, mm', pre, em, by rw [er, u4], ⟨k_fc_69 f3, k_C_69 hC f3⟩, hf⟩
        rw [if_neg y0] at pre er
        by_cases y1 : y = 1
        · rw [if_pos y1] at pre er
          exact ⟨_, r', m3, mm', pre, em, by rw [er, u5], ⟨k_fc_69 f3, k_C_69 hC f3⟩, hf⟩
        rw [if_neg y1] at pre er
        rw [if_pos (show y = 2 by omega)] at pre
        exact ⟨_, r', m3, mm', pre, em, by rw [er, u3], ⟨k_fc_69 f3, k_C_69 hC f3⟩, hf⟩
    · have hc1 : f_PG_tiling most y mc = some (-1, m3) := by
        rw [pre]
        by_cases c9 : m3 69 9 = -1
        · rw [if_pos c9, x_rt]
        · rw [if_neg c9, if_neg (by omega), if_neg (by omega), if_neg (by omega), x_rt]
      refine ⟨-1, -1, m3, mm, hc1, ?_, rfl, ⟨k_fc_69 f3, k_C_69 hC f3⟩, k_fm_id _⟩
      unfold f_Mod_tiling
      rw [m_isIn hm (by decide) (by decide), x_bd, if_pos cm, x_w1, if_neg (by decide), m_isIn hy (by decide) (by decide), x_bd, if_neg cy, x_w0, if_pos rfl, x_rt]
  · refine ⟨-1, -1, mc, mm, ?_, ?_, rfl, ⟨k_fc_id _, hC⟩, k_fm_id _⟩
    · unfold f_PG_tiling
      rw [hm']
      by_cases c1 : most < 1
      · rw [if_pos c1, x_rt]
      · rw [if_neg c1, if_pos (by omega), x_rt]
    · unfold f_Mod_tiling
      rw [m_isIn hm (by decide) (by decide), x_bd, if_neg cm, x_w0, if_pos rfl, x_rt]
end tiling2
