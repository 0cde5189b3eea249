/-! QUESTION: tiling -/
def i_ok (l : q_Mem) (r c : Int) : Prop := ∃ v, i_len l r c v ∧ 0 < v
abbrev i_lx (r c a b : Int) : Prop := r < a ∨ (r = a ∧ c < b)
/-- the first of the fewest crossings, among those that are tried -/
def i_opt (l : q_Mem) (V : Int → Int → Prop) (f x a b : Int) : Prop := (f = 0 ∧ ∀ r c, V r c → ¬ i_ok l r c) ∨ (f ≠ 0 ∧ V a b ∧ i_ok l a b ∧ x = i_X l a b ∧ ∀ r c, V r c → i_ok l r c → x ≤ i_X l r c ∧ (i_lx r c a b → x < i_X l r c))
/-- tried ahead of (r, c) -/
def i_V (R C most r c : Int) : Int → Int → Prop := fun r' c' => (1 ≤ r' ∧ r' ≤ R) ∧ (1 ≤ c' ∧ c' ≤ C) ∧ r' * c' ≤ most ∧ i_lx r' c' r c
section tiling
variable {l m : q_Mem} {r c t : Int} {o : Int → Int}
theorem i_opt_V {V V' : Int → Int → Prop} {f x a b : Int} (h : i_opt l V f x a b) (hV : ∀ r c, V r c ↔ V' r c) : i_opt l V' f x a b := by
  rcases h with ⟨h1, h2⟩ | ⟨h1, h2, h3, h4, h5⟩
  · exact Or.inl ⟨h1, fun r c hv => h2 r c ((hV r c).mpr hv)⟩
  · exact Or.inr ⟨h1, (hV a b).mp h2, h3, h4, fun r c hv => h5 r c ((hV r c).mpr hv)⟩
theorem i_opt_no {V V' : Int → Int → Prop} {f x a b r c : Int} (h : i_opt l V f x a b) (hV : ∀ r' c', V' r' c' ↔ V r' c' ∨ (r' = r ∧ c' = c)) (hn : ¬ i_ok l r c) : i_opt l V' f x a b := by
  rcases h with ⟨h1, h2⟩ | ⟨h1, h2, h3, h4, h5⟩
  · refine Or.inl ⟨h1, fun r' c' hv => ?_⟩
    rcases (hV r' c').mp hv with h | ⟨rfl, rfl⟩
    · exact h2 r' c' h
    · exact hn
  · refine Or.inr ⟨h1, (hV a b).mpr (Or.inl h2), h3, h4, fun r' c' hv hk => ?_⟩
    rcases (hV r' c').mp hv with h | ⟨rfl, rfl⟩
    · exact h5 r' c' h hk
    · exact absurd hk hn
theorem i_opt_keep {V V' : Int → Int → Prop} {f x a b r c : Int} (h : i_opt l V f x a b) (hV : ∀ r' c', V' r' c' ↔ V r' c' ∨ (r' = r ∧ c' = c)) (hlx : ∀ r' c', V r' c' → i_lx r' c' r c) (hf : f ≠ 0) (hx : x ≤ i_X l r c) {f' : Int} (hf' : f' ≠ 0) : i_opt l V' f' x a b := by
  rcases h with ⟨h1, h2⟩ | ⟨h1, h2, h3, h4, h5⟩
  · exact absurd h1 hf
  · refine Or.inr ⟨hf', (hV a b).mpr (Or.inl h2), h3, h4, fun r' c' hv hk => ?_⟩
    rcases (hV r' c').mp hv with h | ⟨rfl, rfl⟩
    · exact h5 r' c' h hk
    · have := hlx a b h2
      exact ⟨hx, fun hl => by omega⟩
theorem i_opt_new {V V' : Int → Int → Prop} {f x a b r c : Int} (h : i_opt l V f x a b) (hV : ∀ r' c', V' r' c' ↔ V r' c' ∨ (r' = r ∧ c' = c)) (hk : i_ok l r c) (hx : f = 0 ∨ i_X l r c < x) {f' : Int} (hf' : f' ≠ 0) : i_opt l V' f' (i_X l r c) r c := by
  refine Or.inr ⟨hf', (hV r c).mpr (Or.inr ⟨rfl, rfl⟩), hk, rfl, fun r' c' hv hk' => ?_⟩
  rcases (hV r' c').mp hv with hv' | ⟨rfl, rfl⟩
  · rcases h with ⟨h1, h2⟩ | ⟨h1, h2, h3, h4, h5⟩
    · exact absurd hk' (h2 r' c' hv')
    · have := (h5 r' c' hv' hk').1
      rcases hx with hx | hx
      · exact absurd hx h1
      · exact ⟨by omega, fun _ => by omega⟩
  · exact ⟨Int.le_refl _, fun hl => by omega⟩
theorem i_V_s {R C most r c : Int} (hr : 1 ≤ r ∧ r ≤ R) (hc : 1 ≤ c ∧ c ≤ C) (hm : r * c ≤ most) : ∀ r' c', i_V R C most r (c + 1) r' c' ↔ i_V R C most r c r' c' ∨ (r' = r ∧ c' = c) := by
  intro r' c'
  unfold i_V
  constructor
  · rintro ⟨h1, h2, h3, h4⟩
    by_cases e : r' = r ∧ c' = c
    · exact Or.inr e
    · exact Or.inl ⟨h1, h2, h3, by omega⟩
  · rintro (⟨h1, h2, h3, h4⟩ | ⟨rfl, rfl⟩)
    · exact ⟨h1, h2, h3, by omega⟩
    · exact ⟨hr, hc, hm, by omega⟩
/-- a row's end: none of those behind fits -/
theorem i_V_e {R C most r c : Int} (hr : 1 ≤ r) (hc : 1 ≤ c) (h : C < c ∨ most < r * c) : ∀ r' c', i_V R C most r c r' c' ↔ i_V R C most (r + 1) 1 r' c' := by
  intro r' c'
  unfold i_V
  constructor
  · rintro ⟨h1, h2, h3, h4⟩
    exact ⟨h1, h2, h3, by omega⟩
  · rintro ⟨h1, h2, h3, h4⟩
    refine ⟨h1, h2, h3, ?_⟩
    by_cases e : r' = r
    · right
      refine ⟨e, ?_⟩
      rcases h with h | h
      · omega
      · refine Classical.byContradiction fun hn => ?_
        have := Int.mul_le_mul_of_nonneg_left (show c ≤ c' by omega) (show 0 ≤ r by omega)
        rw [e] at h3
        omega
    · exact Or.inl (by omega)
theorem i_X_rg (hw : g_lw l) (r c : Int) : 0 ≤ i_X l r c ∧ i_X l r c < 100000 := by
  have h5 := hw.2.2.2.2.1
  have : ∀ n : Nat, 0 ≤ g_sum (fun o => g_ca l (fun p => i_x l r c p o)) n ∧ g_sum (fun o => g_ca l (fun p => i_x l r c p o)) n ≤ 100 * n := by
    intro n
    induction n with
    | zero => exact ⟨Int.le_refl _, Int.le_refl _⟩
    | succ n ih =>
      have := g_ca_rg l (fun p => i_x l r c p n)
      show 0 ≤ g_sum (fun o => g_ca l (fun p => i_x l r c p o)) n + g_ca l (fun p => i_x l r c p n) ∧ g_sum (fun o => g_ca l (fun p => i_x l r c p o)) n + g_ca l (fun p => i_x l r c p n) ≤ 100 * ((n + 1 : Nat) : Int)
      omega
  have := this (l 0 5).toNat
  unfold i_X
  omega
theorem c_choose (ht : t ∈ q_Lp) (hl : g_CL m t l) (hw : g_lw l) {most : Int} (hm : 1 ≤ most ∧ most ≤ 100) : q_ok (f_Tile_choose t most m) (fun v m' => (∀ c', c' ≠ 69 → c' ≠ 70 → c' ≠ 71 → c' ≠ 72 → m' c' = m c') ∧ i_opt l (i_V (l 0 0) (l 0 1) most (l 0 0 + 1) 1) (m' 69 9 + 1) (m' 69 11) (m' 69 9) (m' 69 10) ∧ v = if m' 69 9 = -1 then 0 else 1) := by
  have hR := hw.1
  have hC := hw.2.1
  unfold f_Tile_choose
  rw [x_pf]
  have hrg : ∀ {s : q_Mem} {V : Int → Int → Prop}, i_opt l V (s 69 9 + 1) (s 69 11) (s 69 9) (s 69 10) → (∀ r c, V r c → 1 ≤ r ∧ r ≤ 10) → (-1 ≤ s 69 9 ∧ s 69 9 ≤ 10) ∧ (s 69 9 ≠ -1 → 0 ≤ s 69 11 ∧ s 69 11 < 100000) := by
    intro s V h hV
    rcases h with ⟨h1, _⟩ | ⟨h1, h2, h3, h4, _⟩
    · exact ⟨by omega, fun hn => absurd (by omega) hn⟩
    · have := hV _ _ h2
      have := i_X_rg hw (s 69 9) (s 69 10)
      exact ⟨by omega, fun _ => by omega⟩
  have hVr : ∀ r c r' c', i_V (l 0 0) (l 0 1) most r c r' c' → 1 ≤ r' ∧ r' ≤ 10 := by
    intro r c r' c' h
    have := h.1
    omega
  refine o_upF (fun n k (s : q_Mem) => f_Tile_choose_l7 n t most k s) (fun k s => 1 ≤ k ∧ (∀ c', c' ≠ 69 → c' ≠ 70 → c' ≠ 71 → c' ≠ 72 → s c' = m c') ∧ i_opt l (i_V (l 0 0) (l 0 1) most k 1) (s 69 9 + 1) (s 69 11) (s 69 9) (s 69 10)) _ (k := 1) (e := l 0 0 + 1) (s := q_up m 69 9 (-1)) (by omega) (by omega) ⟨Int.le_refl _, fun c' c1 _ _ _ => q_up_f c1, Or.inl ⟨by rw [q_up_s]; rfl, fun r c h => by unfold i_V at h; omega⟩⟩ ?_ ?_
  · intro n k s hk ⟨k0, f1, h1⟩ hn
    have hl1 : g_CL s t l := g_CL_of ht hl fun c' hc' => f1 c' (by omega) (by omega) (by omega) (by omega)
    show q_ok (f_Tile_choose_b7 (f_Tile_choose_l7 n) t most k s) _
    unfold f_Tile_choose_b7
    rw [hl1.1, q_w_id (x := l 0 0) (by omega) (by omega), q_w_id (x := k) (by omega) (by omega), if_neg (by omega)]
    -- a row of tries, which may end early
    refine o_while (fun n' (z : Int × q_Mem) => f_Tile_choose_l18 (f_Tile_choose_l7 n) n' t most k z.1 z.2) (fun z => (1 ≤ z.1 ∧ z.1 ≤ l 0 1 + 1) ∧ (∀ c', c' ≠ 69 → c' ≠ 70 → c' ≠ 71 → c' ≠ 72 → z.2 c' = m c') ∧ i_opt l (i_V (l 0 0) (l 0 1) most k z.1) (z.2 69 9 + 1) (z.2 69 11) (z.2 69 9) (z.2 69 10)) (fun z => (l 0 1 + 1 - z.1).toNat) _ ?_ q_F (1, s) (by show (l 0 1 + 1 - 1).toNat < 20000; omega) ⟨by show 1 ≤ (1 : Int) ∧ (1 : Int) ≤ l 0 1 + 1; omega, f1, h1⟩
    intro n' z ⟨j0, f2, h2⟩ hn'
    obtain ⟨j, s2⟩ := z
    replace j0 : 1 ≤ j ∧ j ≤ l 0 1 + 1 := j0
    replace f2 : ∀ c', c' ≠ 69 → c' ≠ 70 → c' ≠ 71 → c' ≠ 72 → s2 c' = m c' := f2
    replace h2 : i_opt l (i_V (l 0 0) (l 0 1) most k j) (s2 69 9 + 1) (s2 69 11) (s2 69 9) (s2 69 10) := h2
    have hl2 : g_CL s2 t l := g_CL_of ht hl fun c' hc' => f2 c' (by omega) (by omega) (by omega) (by omega)
    have kj := x_mulp (x := k) (z := j) (a := 10) (b := 11) (by omega) (by omega) (by omega) (by omega)
    show q_ok (f_Tile_choose_b18 (f_Tile_choose_l7 n) (f_Tile_choose_l18 (f_Tile_choose_l7 n) n') t most k j s2) _
    unfold f_Tile_choose_b18 f_Tile_choose_b107
    rw [hl2.1, q_w_id (x := l 0 1) (by omega) (by omega), q_w_id (x := j) (by omega) (by omega), q_w_id (x := most) (by omega) (by omega), q_w_id (x := k * j) (by omega) (by omega)]
    by_cases cj : l 0 1 < j
    · rw [if_pos cj]
      exact hn s2 ⟨by omega, f2, i_opt_V h2 (i_V_e (by omega) j0.1 (Or.inl cj))⟩
    by_cases cm : most < k * j
    · rw [if_neg cj, if_pos cm]
      exact hn s2 ⟨by omega, f2, i_opt_V h2 (i_V_e (by omega) j0.1 (Or.inr cm))⟩
    rw [if_neg cj, if_neg cm]
    have hVs := i_V_s (R := l 0 0) (C := l 0 1) (most := most) (r := k) (c := j) (by omega) (by omega) (by omega)
    have hlx : ∀ r' c', i_V (l 0 0) (l 0 1) most k j r' c' → i_lx r' c' k j := fun r' c' h => h.2.2.2
    refine o_bd (c_cut ht hl2 hw (r := k) (c := j) (by omega) (by omega)) fun _ s3 ⟨f3, ⟨g3, g4, g5, g6, g7⟩, g9⟩ => ?_
    have f3' : ∀ c', c' ≠ 69 → c' ≠ 70 → c' ≠ 71 → c' ≠ 72 → s3 c' = m c' := fun c' c1 c2 c3 c4 => by rw [f3 c' c1, f2 c' c1 c2 c3 c4]
    rw [← g9 9 (by decide), ← g9 10 (by decide), ← g9 11 (by decide)] at h2
    have hr3 := hrg h2 (hVr k j)
    have hXr := i_X_rg hw k j
    have hl3 : g_CL s3 t l := g_CL_of ht hl fun c' hc' => f3' c' (by omega) (by omega) (by omega) (by omega)
    -- worth a look
    have look : (s3 69 9 = -1 ∨ i_X l k j < s3 69 11) → q_ok (f_Tile_choose_b67 (f_Tile_choose_l7 n) (f_Tile_choose_l18 (f_Tile_choose_l7 n) n') t most k j 1 s3) (fun v m' => (∀ c', c' ≠ 69 → c' ≠ 70 → c' ≠ 71 → c' ≠ 72 → m' c' = m c') ∧ i_opt l (i_V (l 0 0) (l 0 1) most (l 0 0 + 1) 1) (m' 69 9 + 1) (m' 69 11) (m' 69 9) (m' 69 10) ∧ v = if m' 69 9 = -1 then 0 else 1) := by
      intro hb
      unfold f_Tile_choose_b67 f_Tile_choose_b101
      rw [x_w1, if_neg (by decide)]
      refine o_bd (c_longestRow ht hl3 hw (r := k) (c := j) (by omega) (by omega) g3 g4 g5 g6) fun v s4 ⟨f4, hvr, X, hX1, hX2, hX3⟩ => ?_
      have hlen : i_len l k j v := ⟨X, hX1 _ (i_Z_tab l k j), hX3⟩
      have f4' : ∀ c', c' ≠ 69 → c' ≠ 70 → c' ≠ 71 → c' ≠ 72 → s4 c' = m c' := fun c' c1 c2 c3 c4 => by rw [f4.1 c' c1 c2 c3 c4, f3' c' c1 c2 c3 c4]
      rw [q_w_id (x := v) (by omega) (by omega)]
      by_cases cv : v ≤ 0
      · rw [if_pos cv]
        refine hn' (j + 1, s4) ⟨by show 1 ≤ j + 1 ∧ j + 1 ≤ l 0 1 + 1; omega, f4', ?_⟩ (by show (l 0 1 + 1 - (j + 1)).toNat < (l 0 1 + 1 - j).toNat; omega)
        show i_opt l (i_V (l 0 0) (l 0 1) most k (j + 1)) (s4 69 9 + 1) (s4 69 11) (s4 69 9) (s4 69 10)
        rw [f4.2 9 (by decide), f4.2 10 (by decide), f4.2 11 (by decide)]
        refine i_opt_no h2 hVs ?_
        rintro ⟨v', hv', hp⟩
        have := i_len_u hw (by omega) (by omega) hv' hlen
        omega
      · rw [if_neg cv, x_pf, x_pf, x_pf]
        have e7 : q_up (q_up s4 69 9 k) 69 10 j 69 7 = i_X l k j := by rw [q_up_i (by decide), q_up_i (by decide), f4.2 7 (by decide)]; exact g7
        rw [e7]
        refine hn' (j + 1, _) ⟨by show 1 ≤ j + 1 ∧ j + 1 ≤ l 0 1 + 1; omega, fun c' c1 c2 c3 c4 => by show q_up (q_up (q_up s4 69 9 k) 69 10 j) 69 11 (i_X l k j) c' = m c'; rw [q_up_f c1, q_up_f c1, q_up_f c1]; exact f4' c' c1 c2 c3 c4, ?_⟩ (by show (l 0 1 + 1 - (j + 1)).toNat < (l 0 1 + 1 - j).toNat; omega)
        show i_opt l (i_V (l 0 0) (l 0 1) most k (j + 1)) (q_up (q_up (q_up s4 69 9 k) 69 10 j) 69 11 (i_X l k j) 69 9 + 1) (q_up (q_up (q_up s4 69 9 k) 69 10 j) 69 11 (i_X l k j) 69 11) (q_up (q_up (q_up s4 69 9 k) 69 10 j) 69 11 (i_X l k j) 69 9) (q_up (q_up (q_up s4 69 9 k) 69 10 j) 69 11 (i_X l k j) 69 10)
        rw [q_up_s, q_up_i (by decide), q_up_i (by decide), q_up_s, q_up_i (show (10 : Int) ≠ 11 by decide), q_up_s]
        exact i_opt_new h2 hVs ⟨v, hlen, by omega⟩ (by omega) (by omega)
    rw [q_w_id (x := s3 69 9) (by omega) (by omega)]
    unfold f_Tile_choose_b62
    by_cases c9 : s3 69 9 = -1
    · rw [if_pos c9]
      exact look (Or.inl c9)
    · have hx := hr3.2 c9
      rw [if_neg c9, q_w_id (x := s3 69 11) (by omega) (by omega), g7, q_w_id (x := i_X l k j) (by omega) (by omega)]
      by_cases cx : s3 69 11 ≤ i_X l k j
      · rw [if_pos cx]
        unfold f_Tile_choose_b67 f_Tile_choose_b101
        rw [x_w0, if_pos rfl]
        exact hn' (j + 1, s3) ⟨by show 1 ≤ j + 1 ∧ j + 1 ≤ l 0 1 + 1; omega, f3', i_opt_keep h2 hVs hlx (by omega) cx (by show s3 69 9 + 1 ≠ 0; omega)⟩ (by show (l 0 1 + 1 - (j + 1)).toNat < (l 0 1 + 1 - j).toNat; omega)
      · rw [if_neg cx]
        exact look (Or.inr (by omega))
  · intro n s ⟨_, f1, h1⟩
    have hl1 : g_CL s t l := g_CL_of ht hl fun c' hc' => f1 c' (by omega) (by omega) (by omega) (by omega)
    have hr3 := hrg h1 (hVr _ _)
    show q_ok (f_Tile_choose_b7 (f_Tile_choose_l7 n) t most (l 0 0 + 1) s) _
    unfold f_Tile_choose_b7
    rw [hl1.1, q_w_id (x := l 0 0) (by omega) (by omega), q_w_id (x := l 0 0 + 1) (by omega) (by omega), if_pos (by omega), q_w_id (x := s 69 9) (by omega) (by omega)]
    by_cases c9 : s 69 9 = -1
    · rw [if_pos c9, x_rz0]
      exact o_some ⟨f1, h1, by rw [if_pos c9]⟩
    · rw [if_neg c9, x_rz1]
      exact o_some ⟨f1, h1, by rw [if_neg c9]⟩
end tiling
