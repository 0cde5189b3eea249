/-! TILES: a tile is released whole -/
section tiles6
variable {l m : q_Mem} {r c t : Int}
theorem i_fr_CL {k : Int} {s s' : q_Mem} (ht : t ∈ q_Lp) (hl : g_CL s t l) (h : i_fr k s s') : g_CL s' t l := g_CL_of ht hl fun c' hc' => h.1 c' (by omega) (by omega) (by omega) (by omega)
theorem c_relReaders (ht : t ∈ q_Lp) (hw : g_lw l) (hr : 1 ≤ r ∧ r ≤ 10) (hc : 1 ≤ c ∧ c ≤ 10) {k u P : Int} {s : q_Mem} {R : Int → Bool} (hl : g_CL s t l) (e3 : s 69 3 = r) (e4 : s 69 4 = c) (e5 : s 69 5 = i_A l c) (h : i_I l r c k u P 0 (k + 2) s R) (hk : 0 ≤ k ∧ k < s 69 8 ∧ s 72 k = u) (hu : s 71 u ≤ k + 1) (hP : g_pt l P) (hPu : i_K r c (i_A l c) P = u) : q_ok (f_Tile_releaseReaders t P u s) (fun _ s' => i_fr k s s' ∧ ∃ R', i_I l r c k u P (l 0 5) (k + 2) s' R') := by
  have h5 := hw.2.2.2.2.1
  have hKP := i_K_rg hw hr hc hP
  have hNr := i_N_rg hw hr hc
  rw [hPu] at hKP
  unfold f_Tile_releaseReaders
  refine o_upF (fun n O (z : q_Mem × (Int → Bool)) => f_Tile_releaseReaders_l3 n t P u O z.1) (fun O z => 0 ≤ O ∧ i_fr k s z.1 ∧ i_I l r c k u P O (k + 2) z.1 z.2) _ (k := 0) (e := l 0 5) (s := (s, R)) (by omega) (by omega) ⟨by omega, i_fr_id k s, h⟩ ?_ ?_
  · intro n O z hO ⟨O0, f1, h1⟩ hn
    obtain ⟨z, R1⟩ := z
    replace f1 : i_fr k s z := f1
    replace h1 : i_I l r c k u P O (k + 2) z R1 := h1
    have hl1 := i_fr_CL ht hl f1
    have hzk := f1.2.2.2 k hk.1 (Int.le_refl _)
    have hk1 : 0 ≤ k ∧ k < z 69 8 ∧ z 72 k = u := ⟨hk.1, by have := f1.2.2.1; omega, by rw [hzk.1]; exact hk.2.2⟩
    have hu1 : z 71 u ≤ k + 1 := by have := hzk.2; rw [hk.2.2] at this; omega
    have hrg : -1 ≤ g_rr l P O ∧ g_rr l P O < 100 := g_mv_rg _ _ _ _ _ hw.1.2 hw.2.1.2
    show q_ok (f_Tile_releaseReaders_b3 (f_Tile_releaseReaders_l3 n) t P u O z) _
    unfold f_Tile_releaseReaders_b3 f_Tile_releaseReaders_b37 f_Tile_releaseReaders_b100
    rw [hl1.1, q_w_id (x := l 0 5) (by omega) (by omega), q_w_id (x := O) (by omega) (by omega), if_neg (show ¬ l 0 5 ≤ O by omega), c_reader hl1 hw hP.1 ⟨O0, hO⟩, x_bd, q_w_id (x := g_rr l P O) (by omega) (by omega)]
    have skip : (g_rr l P O = -1 ∨ i_K r c (i_A l c) (g_rr l P O) = u) → q_ok (f_Tile_releaseReaders_l3 n t P u (O + 1) z) (fun _ s' => i_fr k s s' ∧ ∃ R', i_I l r c k u P (l 0 5) (k + 2) s' R') := by
      intro hh
      refine hn (z, R1) ⟨by omega, f1, i_I_vis h1 fun e e0 e1 hE hs => ?_⟩
      have hEo := i_E_of hw e0 e1 hE
      unfold i_vis
      constructor
      · rintro (h | ⟨h1, h2⟩)
        · exact Or.inl h
        · exact Or.inr ⟨h1, by omega⟩
      · rintro (h | ⟨h1, h2⟩)
        · exact Or.inl h
        · by_cases e2 : e % 12 = O
          · exfalso
            rw [e2] at h1
            have h3 := (g_tg_rr hw hEo.1 hP).mp h1
            have hEpt := hEo.1
            have hx := hEo.2.2.1
            rw [e2] at hx
            unfold i_x at hx
            rw [h1] at hx
            rw [← h3] at hx hEpt
            rcases hh with hh | hh
            · have := hEpt.1; omega
            · simp at hx
              rw [← hPu] at hh
              exact hx.2 ((i_K_iff hw hr hc hEpt hP).mp hh)
          · exact Or.inr ⟨h1, by omega⟩
    by_cases cq : g_rr l P O = -1
    · rw [if_pos cq, if_pos rfl]
      exact skip (Or.inl cq)
    · have hq := g_rr_pt hw cq
      have hKq := i_K_rg hw hr hc hq
      rw [if_neg cq, c_tileOf (l := l) hr hc (by rw [f1.2.1 3 (by decide)]; exact e3) (by rw [f1.2.1 4 (by decide)]; exact e4) (by rw [f1.2.1 5 (by decide)]; exact e5) hq.1, x_bd, q_w_id (x := i_K r c (i_A l c) (g_rr l P O)) (by omega) (by omega), q_w_id (x := u) (by omega) (by omega)]
      by_cases ce : i_K r c (i_A l c) (g_rr l P O) = u
      · rw [if_pos ce]
        exact skip (Or.inr ce)
      · rw [if_neg ce]
        exact i_step hw hr hc h1 hk1 hu1 hP hPu ⟨O0, hO⟩ cq ce fun s' R' hf hI => hn (s', R') ⟨by omega, i_fr_tr f1 hf, hI⟩
  · intro n z ⟨_, f1, h1⟩
    have hl1 := i_fr_CL ht hl f1
    show q_ok (f_Tile_releaseReaders_b3 (f_Tile_releaseReaders_l3 n) t P u (l 0 5) z.1) _
    unfold f_Tile_releaseReaders_b3
    rw [hl1.1, if_pos (Int.le_refl _)]
    exact o_rt ⟨f1, z.2, h1⟩
theorem i_ediv {x w y : Int} (hw : 0 < w) : x / w = y ↔ y * w ≤ x ∧ x < y * w + w := by
  constructor
  · intro h
    rw [← h]
    have a := Int.ediv_mul_le x (show w ≠ 0 by omega)
    have b := Int.lt_ediv_add_one_mul_self x hw
    rw [Int.add_mul, Int.one_mul] at b
    exact ⟨a, b⟩
  · rintro ⟨h1, h2⟩
    have a : y ≤ x / w := (Int.le_ediv_iff_mul_le hw).mpr h1
    have b : x / w < y + 1 := (Int.ediv_lt_iff_lt_mul hw).mpr (by rw [Int.add_mul, Int.one_mul]; exact h2)
    omega
/-- where a tile lies -/
theorem i_at (hw : g_lw l) (hr : 1 ≤ r ∧ r ≤ 10) (hc : 1 ≤ c ∧ c ≤ 10) {u : Int} (hu : 0 ≤ u ∧ u < i_N l r c) : (0 ≤ u / i_A l c * r ∧ u / i_A l c * r < l 0 0) ∧ (0 ≤ u % i_A l c * c ∧ u % i_A l c * c < l 0 1) ∧ ∀ p, 0 ≤ p → p < 100 → p / 10 < l 0 0 → p % 10 < l 0 1 → (i_K r c (i_A l c) p = u ↔ (u / i_A l c * r ≤ p / 10 ∧ p / 10 < u / i_A l c * r + r) ∧ (u % i_A l c * c ≤ p % 10 ∧ p % 10 < u % i_A l c * c + c)) := by
  have dA := i_up hw.2.1 hc
  have hA : 1 ≤ i_A l c ∧ i_A l c ≤ 10 := dA
  have m1 := Int.emod_nonneg u (show i_A l c ≠ 0 by omega)
  have m2 := Int.emod_lt_of_pos u (show 0 < i_A l c by omega)
  have q1 : 0 ≤ u / i_A l c := Int.ediv_nonneg hu.1 (by omega)
  have q2 : u / i_A l c < (l 0 0 + r - 1) / r := (Int.ediv_lt_iff_lt_mul (by omega)).mpr hu.2
  have f1 := Int.ediv_mul_le (l 0 0 + r - 1) (show r ≠ 0 by omega)
  have f2 := Int.ediv_mul_le (l 0 1 + c - 1) (show c ≠ 0 by omega)
  have t1 : u / i_A l c * r ≤ ((l 0 0 + r - 1) / r - 1) * r := Int.mul_le_mul_of_nonneg_right (by omega) (by omega)
  have t2 : u % i_A l c * c ≤ ((l 0 1 + c - 1) / c - 1) * c := Int.mul_le_mul_of_nonneg_right (by unfold i_A at m2 ⊢; omega) (by omega)
  rw [Int.sub_mul, Int.one_mul] at t1 t2
  refine ⟨⟨Int.mul_nonneg q1 (by omega), by omega⟩, ⟨Int.mul_nonneg m1 (by omega), by omega⟩, fun p p0 p1 pR pC => ?_⟩
  rw [← i_ediv (x := p / 10) (w := r) (y := u / i_A l c) (by omega), ← i_ediv (x := p % 10) (w := c) (y := u % i_A l c) (by omega)]
  have b := i_ceil (x := l 0 1) (w := c) (i := p % 10) hc.1 (by omega) pC
  unfold i_K
  constructor
  · intro h
    have e1 : u / i_A l c = p / 10 / r := by
      rw [← h, Int.add_comm, Int.add_mul_ediv_right _ _ (by omega), show p % 10 / c / i_A l c = 0 from Int.ediv_eq_zero_of_lt b.1 b.2, Int.zero_add]
    have e2 : u % i_A l c = p % 10 / c := by
      rw [← h, Int.add_comm, Int.add_mul_emod_self_right]
      exact Int.emod_eq_of_lt b.1 b.2
    exact ⟨e1.symm, e2.symm⟩
  · rintro ⟨h1, h2⟩
    rw [h1, h2]
    have := Int.mul_ediv_add_emod u (i_A l c)
    rw [Int.mul_comm] at this
    exact this
theorem c_release (ht : t ∈ q_Lp) (hw : g_lw l) (hr : 1 ≤ r ∧ r ≤ 10) (hc : 1 ≤ c ∧ c ≤ 10) {k u : Int} {s : q_Mem} {R : Int → Bool} (hl : g_CL s t l) (e3 : s 69 3 = r) (e4 : s 69 4 = c) (e5 : s 69 5 = i_A l c) (h : i_I l r c k u 0 0 (k + 2) s R) (hk : 0 ≤ k ∧ k < s 69 8 ∧ s 72 k = u) (hu : s 71 u ≤ k + 1) (hun : 0 ≤ u ∧ u < i_N l r c) : q_ok (f_Tile_release t u s) (fun _ s' => i_fr k s s' ∧ ∃ R', i_I l r c k u 100 0 (k + 2) s' R') := by
  have hNr := i_N_rg hw hr hc
  have dA := i_up hw.2.1 hc
  have hA : 1 ≤ i_A l c ∧ i_A l c ≤ 10 := dA
  have hR := hw.1
  have hC := hw.2.1
  obtain ⟨a1, a2, a3⟩ := i_at hw hr hc hun
  have qr : 0 ≤ u / i_A l c ∧ u / i_A l c ≤ 100 := by
    have h1 : 0 ≤ u / i_A l c := Int.ediv_nonneg hun.1 (by omega)
    have h2 := Int.ediv_le_self (i_A l c) hun.1
    omega
  unfold f_Tile_release
  rw [e5, x_dv hun.1 (by omega) (by omega) (by omega), x_md hun.1 (by omega) (by omega) (by omega), e3, e4]
  -- the targets of the edges that start here
  have inT : ∀ e, 0 ≤ e → e < 1200 → i_E l r c e = true → i_sr l r c e = u → (0 ≤ g_tg l (e / 12) (e % 12) ∧ g_tg l (e / 12) (e % 12) < 100) ∧ (u / i_A l c * r ≤ g_tg l (e / 12) (e % 12) / 10 ∧ g_tg l (e / 12) (e % 12) / 10 < u / i_A l c * r + r) ∧ (u % i_A l c * c ≤ g_tg l (e / 12) (e % 12) % 10 ∧ g_tg l (e / 12) (e % 12) % 10 < u % i_A l c * c + c) ∧ g_tg l (e / 12) (e % 12) / 10 < l 0 0 ∧ g_tg l (e / 12) (e % 12) % 10 < l 0 1 := by
    intro e e0 e1 hE hs
    have hp := (i_E_of hw e0 e1 hE).2.2.2.2
    have hp1 := hp.1
    have hp2 := hp.2
    unfold g_th at hp2
    have := (a3 _ hp1.1 hp1.2 hp2.1 hp2.2).mp hs
    exact ⟨hp1, this.1, this.2, hp2⟩
  generalize u / i_A l c * r = tp at *
  generalize u % i_A l c * c = st at *
  have hh0 : i_I l r c k u (10 * tp + st) 0 (k + 2) s R := i_I_vis h fun e e0 e1 hE hs => by
    have := inT e e0 e1 hE hs
    unfold i_vis
    omega
  have fc : ∀ z : q_Mem, i_fr k s z → (z 69 3 = r ∧ z 69 4 = c ∧ z 69 5 = i_A l c) ∧ (0 ≤ k ∧ k < z 69 8 ∧ z 72 k = u) ∧ z 71 u ≤ k + 1 := by
    intro z f1
    have hzk := f1.2.2.2 k hk.1 (Int.le_refl _)
    refine ⟨⟨by rw [f1.2.1 3 (by decide)]; exact e3, by rw [f1.2.1 4 (by decide)]; exact e4, by rw [f1.2.1 5 (by decide)]; exact e5⟩, ⟨hk.1, by have := f1.2.2.1; omega, by rw [hzk.1]; exact hk.2.2⟩, ?_⟩
    have := hzk.2
    rw [hk.2.2] at this
    omega
  refine o_upF (fun n i (z : q_Mem × (Int → Bool)) => f_Tile_release_l28 n t u tp st i z.1) (fun i z => tp ≤ i ∧ i_fr k s z.1 ∧ i_I l r c k u (10 * i + st) 0 (k + 2) z.1 z.2) _ (k := tp) (e := min (l 0 0) (tp + r)) (s := (s, R)) (by omega) (by omega) ⟨Int.le_refl _, i_fr_id k s, hh0⟩ ?_ ?_
  · intro n i z hi ⟨i0, f1, h1⟩ hn
    have hl1 := i_fr_CL ht hl f1
    have fz := fc z.1 f1
    show q_ok (f_Tile_release_b28 (f_Tile_release_l28 n) t u tp st i z.1) _
    unfold f_Tile_release_b28
    rw [hl1.1, fz.1.1, x_min (by omega) (by omega) (by omega) (by omega), q_w_id (x := min (l 0 0) (tp + r)) (by omega) (by omega), q_w_id (x := i) (by omega) (by omega), if_neg (by omega)]
    refine o_upF (fun n' j (z : q_Mem × (Int → Bool)) => f_Tile_release_l50 (f_Tile_release_l28 n) n' t u tp st i j z.1) (fun j z => st ≤ j ∧ i_fr k s z.1 ∧ i_I l r c k u (10 * i + j) 0 (k + 2) z.1 z.2) _ (k := st) (e := min (l 0 1) (st + c)) (s := z) (by omega) (by omega) ⟨Int.le_refl _, f1, h1⟩ ?_ ?_
    · intro n' j z2 hj ⟨j0, f2, h2⟩ hn'
      have hl2 := i_fr_CL ht hl f2
      have fz2 := fc z2.1 f2
      have hP : g_pt l (10 * i + j) := ⟨by omega, by unfold g_th; omega⟩
      have hPK : i_K r c (i_A l c) (10 * i + j) = u := (a3 _ (by omega) (by omega) (by omega) (by omega)).mpr (by omega)
      show q_ok (f_Tile_release_b50 (f_Tile_release_l28 n) (f_Tile_release_l50 (f_Tile_release_l28 n) n') t u tp st i j z2.1) _
      unfold f_Tile_release_b50
      rw [hl2.1, fz2.1.2.1, x_min (by omega) (by omega) (by omega) (by omega), q_w_id (x := min (l 0 1) (st + c)) (by omega) (by omega), q_w_id (x := j) (by omega) (by omega), if_neg (by omega), show i * 10 + j = 10 * i + j by omega]
      refine o_bd (c_relReaders ht hw hr hc hl2 fz2.1.1 fz2.1.2.1 fz2.1.2.2 h2 fz2.2.1 fz2.2.2 hP hPK) fun _ s3 ⟨f3, R3, h3⟩ => ?_
      refine hn' (s3, R3) ⟨by omega, i_fr_tr f2 f3, i_I_vis h3 fun e e0 e1 hE hs => ?_⟩
      have := (i_E_of hw e0 e1 hE).2.1
      unfold i_vis
      omega
    · intro n' z2 ⟨_, f2, h2⟩
      have hl2 := i_fr_CL ht hl f2
      have fz2 := fc z2.1 f2
      show q_ok (f_Tile_release_b50 (f_Tile_release_l28 n) (f_Tile_release_l50 (f_Tile_release_l28 n) n') t u tp st i (min (l 0 1) (st + c)) z2.1) _
      unfold f_Tile_release_b50
      rw [hl2.1, fz2.1.2.1, x_min (by omega) (by omega) (by omega) (by omega), if_pos (Int.le_refl _)]
      refine hn (z2.1, z2.2) ⟨by omega, f2, i_I_vis h2 fun e e0 e1 hE hs => ?_⟩
      have := inT e e0 e1 hE hs
      unfold i_vis
      omega
  · intro n z ⟨_, f1, h1⟩
    have hl1 := i_fr_CL ht hl f1
    have fz := fc z.1 f1
    show q_ok (f_Tile_release_b28 (f_Tile_release_l28 n) t u tp st (min (l 0 0) (tp + r)) z.1) _
    unfold f_Tile_release_b28
    rw [hl1.1, fz.1.1, x_min (by omega) (by omega) (by omega) (by omega), if_pos (Int.le_refl _)]
    refine o_rt ⟨f1, z.2, i_I_vis h1 fun e e0 e1 hE hs => ?_⟩
    have := inT e e0 e1 hE hs
    unfold i_vis
    omega
end tiles6
