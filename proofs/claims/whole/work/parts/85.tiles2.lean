/-! TILES: the class cuts, the model lays who hangs on whom -/
def i_H (l : q_Mem) (r c : Int) (B : Int → Int → Prop) (t u : Int) : Prop := ∃ p o, B p o ∧ g_pt l p ∧ (0 ≤ o ∧ o < l 0 5) ∧ i_x l r c p o = true ∧ i_T r c p = t ∧ i_T r c (g_tg l p o) = u
def i_Tab (l : q_Mem) (r c : Int) (B : Int → Int → Prop) (Z : Int → Int) : Prop := ∀ t u, 0 ≤ t → t < 100 → 0 ≤ u → u < 100 → (Z (100 * t + u) = 1 ∧ i_H l r c B t u) ∨ (Z (100 * t + u) = 0 ∧ ¬ i_H l r c B t u)
def i_bf (p o : Int) : Int → Int → Prop := fun p' o' => p' < p ∨ (p' = p ∧ o' < o)
section tiles2
variable {l m : q_Mem} {t : Int}
theorem i_up {x w : Int} (hx : 1 ≤ x ∧ x ≤ 10) (hw : 1 ≤ w ∧ w ≤ 10) : 1 ≤ (x + w - 1) / w ∧ (x + w - 1) / w ≤ 10 := by
  have d1 : 1 ≤ (x + w - 1) / w := (Int.le_ediv_iff_mul_le (show 0 < w by omega)).mpr (by omega)
  have d2 : (x + w - 1) / w < 11 := Int.ediv_lt_of_lt_mul (by omega) (by omega)
  omega
theorem c_cut (ht : t ∈ q_Lp) (hl : g_CL m t l) (hw : g_lw l) {r c : Int} (hr : 1 ≤ r ∧ r ≤ 10) (hc : 1 ≤ c ∧ c ≤ 10) : q_ok (f_Tile_cut t r c m) (fun _ m' => (∀ c', c' ≠ 69 → m' c' = m c') ∧ (m' 69 3 = r ∧ m' 69 4 = c ∧ m' 69 5 = (l 0 1 + c - 1) / c ∧ m' 69 6 = (l 0 0 + r - 1) / r * ((l 0 1 + c - 1) / c) ∧ m' 69 7 = i_X l r c) ∧ ∀ j, 9 ≤ j → m' 69 j = m 69 j) := by
  have h5 := hw.2.2.2.2.1
  have hR := hw.1
  have hC := hw.2.1
  have ht' : t = 3 ∨ t = 14 := by simpa [q_Lp] using ht
  have d1 := i_up hC hc
  have d2 := i_up hR hr
  unfold f_Tile_cut
  rw [x_max (by omega) (by omega) (by omega) (by omega), x_max (by omega) (by omega) (by omega) (by omega), show max 1 r = r by omega, show max 1 c = c by omega, x_pf, x_pf]
  have e4 : q_up (q_up m 69 3 r) 69 4 c 69 4 = c := q_up_s _ _ _ _
  have et1 : ∀ j, q_up (q_up m 69 3 r) 69 4 c t j = l 0 j := fun j => by rw [q_up_c (by omega), q_up_c (by omega)]; exact hl.1 j
  rw [e4, et1, x_dv (by omega) (by omega) (by omega) (by omega), x_pf]
  have et2 : ∀ j, q_up (q_up (q_up m 69 3 r) 69 4 c) 69 5 ((l 0 1 + c - 1) / c) t j = l 0 j := fun j => by rw [q_up_c (by omega)]; exact et1 j
  have e3 : q_up (q_up (q_up m 69 3 r) 69 4 c) 69 5 ((l 0 1 + c - 1) / c) 69 3 = r := by simp [q_up]
  have e5 : q_up (q_up (q_up m 69 3 r) 69 4 c) 69 5 ((l 0 1 + c - 1) / c) 69 5 = (l 0 1 + c - 1) / c := q_up_s _ _ _ _
  rw [et2, e3, x_dv (by omega) (by omega) (by omega) (by omega), e5, x_pf, x_pf]
  refine o_upF (fun n o (s : q_Mem) => f_Tile_cut_l71 n t o s) (fun o s => 0 ≤ o ∧ (∀ c', c' ≠ 69 → s c' = m c') ∧ (s 69 3 = r ∧ s 69 4 = c ∧ s 69 5 = (l 0 1 + c - 1) / c ∧ s 69 6 = (l 0 0 + r - 1) / r * ((l 0 1 + c - 1) / c) ∧ s 69 7 = g_sum (fun o => g_ca l (fun p => i_x l r c p o)) o.toNat) ∧ ∀ j, 9 ≤ j → s 69 j = m 69 j) _ (k := 0) (e := l 0 5) (by omega) (by omega) ⟨by omega, fun c' hc' => by rw [q_up_f hc', q_up_f hc', q_up_f hc', q_up_f hc', q_up_f hc'], ⟨by simp [q_up], by simp [q_up], by simp [q_up], by simp [q_up], by simp [q_up]; rfl⟩, fun j hj => by rw [q_up_i (by omega), q_up_i (by omega), q_up_i (by omega), q_up_i (by omega), q_up_i (by omega)]⟩ ?_ ?_
  · intro n o s ho ⟨o0, f1, ⟨s3, s4, s5, s6, s7⟩, s9⟩ hn
    have h6 := hw.2.2.2.2.2.1 o o0 ho
    have hl1 : g_CL s t l := g_CL_of ht hl fun c hc => f1 c (by omega)
    show q_ok (f_Tile_cut_b71 (f_Tile_cut_l71 n) t o s) _
    unfold f_Tile_cut_b71
    rw [hl1.1, q_w_id (x := l 0 5) (by omega) (by omega), q_w_id (x := o) (by omega) (by omega), if_neg (by omega), x_rd (n := 12) o0 (by omega) (by decide), x_rd (n := 12) o0 (by omega) (by decide), hl1.2 2 o (by decide) (by decide), hl1.2 3 o (by decide) (by decide), c_shifted hl1 hw (by omega) (by omega), x_bd, hl1.1, s3, c_together hR (by omega) hr, x_bd, hl1.1, s4, c_together hC (by omega) hc, x_bd, x_pf, s7]
    refine hn _ ⟨by omega, fun c' hc' => by rw [q_up_f hc']; exact f1 c' hc', ⟨by rw [q_up_i (by decide)]; exact s3, by rw [q_up_i (by decide)]; exact s4, by rw [q_up_i (by decide)]; exact s5, by rw [q_up_i (by decide)]; exact s6, ?_⟩, fun j hj => by rw [q_up_i (by omega)]; exact s9 j hj⟩
    rw [q_up_s, g_sum_s _ o0, i_cross hw hr hc ⟨o0, ho⟩]
  · intro n s ⟨_, f1, h1, s9⟩
    have hl1 : g_CL s t l := g_CL_of ht hl fun c hc => f1 c (by omega)
    show q_ok (f_Tile_cut_b71 (f_Tile_cut_l71 n) t (l 0 5) s) _
    unfold f_Tile_cut_b71
    rw [hl1.1, if_pos (Int.le_refl _)]
    exact o_rt ⟨f1, h1, s9⟩
theorem m_tileOf {r c p : Int} (hr : 1 ≤ r ∧ r ≤ 10) (hc : 1 ≤ c ∧ c ≤ 10) (hp : 0 ≤ p ∧ p < 100) (m : q_Mem) : f_Mod_tileOf p r c m = some (i_T r c p, m) := by
  have a := i_div (x := p / 10) (r := r) (by omega) (by omega) hr.1
  unfold f_Mod_tileOf i_T
  rw [x_dv (by omega) (by omega) (by decide) (by decide), x_dv (by omega) (by omega) (by omega) (by omega), x_md (by omega) (by omega) (by decide) (by decide), x_dv (by omega) (by omega) (by omega) (by omega), x_rt]
theorem i_Tab_keep {r c : Int} {B B' : Int → Int → Prop} {Z : Int → Int} (h : i_Tab l r c B Z) (hB : ∀ p o, g_pt l p → (0 ≤ o ∧ o < l 0 5) → i_x l r c p o = true → (B p o ↔ B' p o)) : i_Tab l r c B' Z := by
  intro t u t0 t1 u0 u1
  have e : i_H l r c B t u ↔ i_H l r c B' t u := by
    constructor
    · rintro ⟨p, o, h1, h2, h3, h4, h5, h6⟩
      exact ⟨p, o, (hB p o h2 h3 h4).mp h1, h2, h3, h4, h5, h6⟩
    · rintro ⟨p, o, h1, h2, h3, h4, h5, h6⟩
      exact ⟨p, o, (hB p o h2 h3 h4).mpr h1, h2, h3, h4, h5, h6⟩
  rcases h t u t0 t1 u0 u1 with ⟨h1, h2⟩ | ⟨h1, h2⟩
  · exact Or.inl ⟨h1, e.mp h2⟩
  · exact Or.inr ⟨h1, fun hh => h2 (e.mpr hh)⟩
theorem i_Tab_set {r c p o : Int} (hr : 1 ≤ r) (hc : 1 ≤ c) {B B' : Int → Int → Prop} {Z : Int → Int} (h : i_Tab l r c B Z) (hp : g_pt l p) (ho : 0 ≤ o ∧ o < l 0 5) (hx : i_x l r c p o = true) (hq : 0 ≤ g_tg l p o ∧ g_tg l p o < 100) (hB : ∀ p' o', B' p' o' ↔ B p' o' ∨ (p' = p ∧ o' = o)) : i_Tab l r c B' (fun i => if i = 100 * i_T r c p + i_T r c (g_tg l p o) then 1 else Z i) := by
  have a1 := i_T_rg hr hc hp.1
  have a2 := i_T_rg hr hc hq
  intro t u t0 t1 u0 u1
  show ((if 100 * t + u = 100 * i_T r c p + i_T r c (g_tg l p o) then (1 : Int) else Z (100 * t + u)) = 1 ∧ _) ∨ ((if 100 * t + u = 100 * i_T r c p + i_T r c (g_tg l p o) then (1 : Int) else Z (100 * t + u)) = 0 ∧ _)
  by_cases e : 100 * t + u = 100 * i_T r c p + i_T r c (g_tg l p o)
  · rw [if_pos e]
    exact Or.inl ⟨rfl, p, o, (hB p o).mpr (Or.inr ⟨rfl, rfl⟩), hp, ho, hx, by omega, by omega⟩
  · rw [if_neg e]
    have e2 : i_H l r c B t u ↔ i_H l r c B' t u := by
      constructor
      · rintro ⟨p', o', h1, h2⟩
        exact ⟨p', o', (hB p' o').mpr (Or.inl h1), h2⟩
      · rintro ⟨p', o', h1, h2, h3, h4, h5, h6⟩
        rcases (hB p' o').mp h1 with h7 | ⟨h7, h8⟩
        · exact ⟨p', o', h7, h2, h3, h4, h5, h6⟩
        · subst h7
          subst h8
          exact absurd (by rw [h5, h6]) e
    rcases h t u t0 t1 u0 u1 with ⟨h1, h2⟩ | ⟨h1, h2⟩
    · exact Or.inl ⟨h1, e2.mp h2⟩
    · exact Or.inr ⟨h1, fun hh => h2 (e2.mpr hh)⟩
theorem i_X_eq (r c : Int) : i_X l r c = g_sum (fun p => if g_th (l 0 0) (l 0 1) p then g_cnt (fun o => i_x l r c p o) (l 0 5).toNat else 0) 100 := by
  unfold i_X g_ca
  rw [← g_sum_swap (fun p o => decide (g_th (l 0 0) (l 0 1) p) && i_x l r c p o)]
  refine g_sum_congr fun p _ _ => ?_
  by_cases ct : g_th (l 0 0) (l 0 1) p
  · rw [if_pos ct]
    exact g_cnt_congr fun o _ _ => by simp [ct]
  · rw [if_neg ct]
    exact g_cnt_zero.mpr fun o _ _ => by simp [ct]
theorem m_layTiles (h : g_ML m l) (hw : g_lw l) {r c : Int} (hr : 1 ≤ r ∧ r ≤ 10) (hc : 1 ≤ c ∧ c ≤ 10) : q_ok (f_Mod_layTiles r c m) (fun v m' => v = i_X l r c ∧ (∀ c', c' ≠ 122 → m' c' = m c') ∧ i_Tab l r c (fun _ _ => True) (m' 122)) := by
  have h5 := hw.2.2.2.2.1
  unfold f_Mod_layTiles
  refine o_upF (fun n k (s : q_Mem) => f_Mod_layTiles_l2 n r c k s) (fun k s => 0 ≤ k ∧ (∀ c', c' ≠ 122 → s c' = m c') ∧ ∀ i, 0 ≤ i → i < k → s 122 i = 0) _ (k := 0) (e := 10000) (s := m) (by omega) (by omega) ⟨by omega, fun _ _ => rfl, fun i i0 i1 => by omega⟩ ?_ ?_
  · intro n k s hk ⟨k0, f1, s1⟩ hn
    show q_ok (f_Mod_layTiles_b2 (f_Mod_layTiles_l2 n) r c k s) _
    unfold f_Mod_layTiles_b2
    rw [q_w_id (x := k) (by omega) (by omega), if_neg (by omega), x_wrz (n := 10000) k0 (by omega) (by decide) (Or.inl rfl)]
    refine hn _ ⟨by omega, fun c' hc' => by rw [q_up_f hc']; exact f1 c' hc', fun i i0 i1 => ?_⟩
    by_cases ci : i = k
    · rw [ci, q_up_s]
    · rw [q_up_i ci]; exact s1 i i0 (by omega)
  · intro n s ⟨_, f0, s0⟩
    show q_ok (f_Mod_layTiles_b2 (f_Mod_layTiles_l2 n) r c 10000 s) _
    unfold f_Mod_layTiles_b2
    rw [if_pos (by decide)]
    have t0 : i_Tab l r c (i_bf 0 0) (s 122) := by
      intro t u t0 t1 u0 u1
      refine Or.inr ⟨s0 _ (by omega) (by omega), ?_⟩
      rintro ⟨p, o, hb, hp, ho, _⟩
      unfold i_bf at hb
      have := hp.1
      omega
    refine o_upF (fun n p (z : Int × q_Mem) => f_Mod_layTiles_l27 n r c z.1 p z.2) (fun p z => 0 ≤ p ∧ (∀ c', c' ≠ 122 → z.2 c' = m c') ∧ i_Tab l r c (i_bf p 0) (z.2 122) ∧ z.1 = g_sum (fun p => if g_th (l 0 0) (l 0 1) p then g_cnt (fun o => i_x l r c p o) (l 0 5).toNat else 0) p.toNat) _ (k := 0) (e := 100) (s := (0, s)) (by omega) (by omega) ⟨by omega, f0, t0, rfl⟩ ?_ ?_
    · intro n p z hp ⟨p0, f1, t1, a1⟩ hn
      obtain ⟨a, s⟩ := z
      replace f1 : ∀ c', c' ≠ 122 → s c' = m c' := f1
      replace t1 : i_Tab l r c (i_bf p 0) (s 122) := t1
      replace a1 : a = _ := a1
      show q_ok (f_Mod_layTiles_b27 (f_Mod_layTiles_l27 n) r c a p s) _
      unfold f_Mod_layTiles_b27
      rw [q_w_id (x := p) (by omega) (by omega), if_neg (by omega)]
      by_cases ct : g_th (l 0 0) (l 0 1) p
      · have hpt : g_pt l p := ⟨⟨p0, hp⟩, ct⟩
        refine o_upF (fun n' o (z : Int × q_Mem) => f_Mod_layTiles_l37 (f_Mod_layTiles_l27 n) n' r c z.1 p o z.2) (fun o z => 0 ≤ o ∧ (∀ c', c' ≠ 122 → z.2 c' = m c') ∧ i_Tab l r c (i_bf p o) (z.2 122) ∧ z.1 = a + g_cnt (fun o => i_x l r c p o) o.toNat) _ (k := 0) (e := l 0 5) (s := (a, s)) (by omega) (by omega) ⟨by omega, f1, t1, by show a = a + 0; omega⟩ ?_ ?_
        · intro n' o z ho ⟨o0, f2, t2, a2⟩ hn'
          obtain ⟨b, s2⟩ := z
          replace f2 : ∀ c', c' ≠ 122 → s2 c' = m c' := f2
          replace t2 : i_Tab l r c (i_bf p o) (s2 122) := t2
          replace a2 : b = _ := a2
          have hm2 : g_ML s2 l := g_ML_of h (by rw [f2 81 (by decide)]) fun c' _ _ => f2 c' (by omega)
          have hrg : -1 ≤ g_tg l p o ∧ g_tg l p o < 100 := g_mv_rg _ _ _ _ _ hw.1.2 hw.2.1.2
          have skip : i_x l r c p o = false → i_Tab l r c (i_bf p (o + 1)) (s2 122) ∧ b = a + g_cnt (fun o => i_x l r c p o) (o + 1).toNat := by
            intro hx
            refine ⟨i_Tab_keep t2 fun p' o' _ _ hx' => ?_, by rw [g_cnt_s _ o0, hx]; simp; exact a2⟩
            unfold i_bf
            constructor
            · intro h; omega
            · rintro (h | ⟨h1, h2⟩)
              · exact Or.inl h
              · by_cases e : o' = o
                · rw [h1, e, hx] at hx'; cases hx'
                · exact Or.inr ⟨h1, by omega⟩
          show q_ok (f_Mod_layTiles_b37 (f_Mod_layTiles_l27 n) (f_Mod_layTiles_l37 (f_Mod_layTiles_l27 n) n') r c b p o s2) _
          unfold f_Mod_layTiles_b37 f_Mod_layTiles_b117
          rw [m_offsets hm2, x_bd, q_w_id (x := l 0 5) (by omega) (by omega), q_w_id (x := o) (by omega) (by omega), if_neg (by omega), m_isThere hm2 hw ⟨p0, hp⟩, x_bd, if_pos ct, x_w1, if_neg (by decide), m_readBy hm2 hw ⟨p0, hp⟩ ⟨o0, ho⟩, x_bd, q_w_id (x := g_tg l p o) (by omega) (by omega)]
          by_cases cq : g_tg l p o < 0
          · rw [if_pos cq]
            have hx : i_x l r c p o = false := by unfold i_x; rw [show g_tg l p o = -1 by omega]; rfl
            exact hn' (b, s2) ⟨by omega, f2, skip hx⟩
          · have hq : 0 ≤ g_tg l p o ∧ g_tg l p o < 100 := by omega
            have b1 := i_T_rg hr.1 hc.1 hpt.1
            have b2 := i_T_rg hr.1 hc.1 hq
            rw [if_neg cq, m_tileOf hr hc hpt.1, x_bd, m_tileOf hr hc hq, x_bd, q_w_id (x := i_T r c p) (by omega) (by omega), q_w_id (x := i_T r c (g_tg l p o)) (by omega) (by omega)]
            by_cases ce : i_T r c p = i_T r c (g_tg l p o)
            · rw [if_pos ce]
              have hx : i_x l r c p o = false := by unfold i_x; rw [ce]; simp
              exact hn' (b, s2) ⟨by omega, f2, skip hx⟩
            · have hx : i_x l r c p o = true := by
                unfold i_x
                have : g_tg l p o ≠ -1 := by omega
                simp [this, ce]
              rw [if_neg ce, m_tileOf hr hc hpt.1, x_bd, m_tileOf hr hc hq, x_bd, x_wrz (n := 10000) (by omega) (by omega) (by decide) (Or.inr rfl)]
              refine hn' (b + 1, _) ⟨by omega, fun c' hc' => by show q_up s2 122 _ 1 c' = m c'; rw [q_up_f hc']; exact f2 c' hc', ?_, ?_⟩
              · show i_Tab l r c (i_bf p (o + 1)) (q_up s2 122 (100 * i_T r c p + i_T r c (g_tg l p o)) 1 122)
                rw [q_up_fn]
                refine i_Tab_set hr.1 hc.1 t2 hpt ⟨o0, ho⟩ hx hq fun p' o' => ?_
                unfold i_bf
                omega
              · show b + 1 = _
                rw [g_cnt_s _ o0, if_pos hx]
                omega
        · intro n' z ⟨_, f2, t2, a2⟩
          have hm2 : g_ML z.2 l := g_ML_of h (by rw [f2 81 (by decide)]) fun c' _ _ => f2 c' (by omega)
          show q_ok (f_Mod_layTiles_b37 (f_Mod_layTiles_l27 n) (f_Mod_layTiles_l37 (f_Mod_layTiles_l27 n) n') r c z.1 p (l 0 5) z.2) _
          unfold f_Mod_layTiles_b37 f_Mod_layTiles_b123
          rw [m_offsets hm2, x_bd, if_pos (Int.le_refl _)]
          refine hn (z.1, z.2) ⟨by omega, f2, i_Tab_keep t2 fun p' o' _ ho' _ => ?_, ?_⟩
          · unfold i_bf; omega
          · show z.1 = _
            rw [g_sum_s _ p0, if_pos ct, a2, a1]
      · have hm2 : g_ML s l := g_ML_of h (by rw [f1 81 (by decide)]) fun c' _ _ => f1 c' (by omega)
        have st : f_Mod_layTiles_l37 (f_Mod_layTiles_l27 n) q_F r c a p 0 s = f_Mod_layTiles_b37 (f_Mod_layTiles_l27 n) (f_Mod_layTiles_l37 (f_Mod_layTiles_l27 n) 19999) r c a p 0 s := rfl
        have go : q_ok (f_Mod_layTiles_l27 n r c a (p + 1) s) (fun v m' => v = i_X l r c ∧ (∀ c', c' ≠ 122 → m' c' = m c') ∧ i_Tab l r c (fun _ _ => True) (m' 122)) := by
          refine hn (a, s) ⟨by omega, f1, i_Tab_keep t1 fun p' o' hp' ho' _ => ?_, ?_⟩
          · unfold i_bf
            have : p' ≠ p := fun e => ct (e ▸ hp'.2)
            omega
          · show a = _
            rw [g_sum_s _ p0, if_neg ct, a1, Int.add_zero]
        rw [st]
        unfold f_Mod_layTiles_b37 f_Mod_layTiles_b123
        rw [m_offsets hm2, x_bd, m_isThere hm2 hw ⟨p0, hp⟩, x_bd, if_neg ct, x_w0]
        refine o_if (fun _ => go) fun _ => ?_
        rw [if_pos rfl]
        exact go
    · intro n z ⟨_, f1, t1, a1⟩
      show q_ok (f_Mod_layTiles_b27 (f_Mod_layTiles_l27 n) r c z.1 100 z.2) _
      unfold f_Mod_layTiles_b27
      rw [if_pos (by decide)]
      refine o_rt ⟨by rw [a1, i_X_eq]; rfl, f1, i_Tab_keep t1 fun p' o' hp' _ _ => ?_⟩
      unfold i_bf
      have := hp'.1
      exact ⟨fun _ => trivial, fun _ => Or.inl (by omega)⟩
theorem m_tileMany (h : g_ML m l) (hw : g_lw l) {r c : Int} (hr : 1 ≤ r ∧ r ≤ 10) (hc : 1 ≤ c ∧ c ≤ 10) : f_Mod_tileMany r c m = some ((l 0 0 + r - 1) / r * ((l 0 1 + c - 1) / c), m) := by
  have hR := hw.1
  have hC := hw.2.1
  unfold f_Mod_tileMany
  rw [m_rows h, x_bd, x_dv (by omega) (by omega) (by omega) (by omega), m_columns h, x_bd, x_dv (by omega) (by omega) (by omega) (by omega), x_rt]
end tiles2
