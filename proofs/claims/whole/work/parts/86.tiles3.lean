/-! TILES: the model's rows of tiles -/
def i_S (l : q_Mem) (r c t : Int) : Prop := ∃ p, g_pt l p ∧ i_T r c p = t
def i_tg (Z : Int → Int) (t u : Int) : Int := if Z (100 * t + u) = 0 then -1 else u
/-- what the ranks make of a row's length -/
def i_row (l : q_Mem) (r c : Int) (X : Int → Int) (v : Int) : Prop := (v = 0 ∧ ∃ t, i_S l r c t ∧ X t < 0) ∨ ((∀ t, i_S l r c t → 0 ≤ X t) ∧ (∃ t, i_S l r c t ∧ X t + 1 = v) ∧ ∀ t, i_S l r c t → X t + 1 ≤ v)
def i_sol (l : q_Mem) (r c : Int) (Z X : Int → Int) : Prop := ∀ t, i_S l r c t → X t = g_db (i_tg Z t) X 100
theorem i_row_u {l : q_Mem} {r c v v' : Int} {X X' : Int → Int} (h : i_row l r c X v) (h' : i_row l r c X' v') (e : ∀ t, i_S l r c t → X t = X' t) : v = v' := by
  rcases h with ⟨h1, t, ht, h2⟩ | ⟨h1, ⟨t, ht, h2⟩, h3⟩ <;> rcases h' with ⟨h1', t', ht', h2'⟩ | ⟨h1', ⟨t', ht', h2'⟩, h3'⟩
  · omega
  · have := h1' t ht; have := e t ht; omega
  · have := h1 t' ht'; have := e t' ht'; omega
  · have a := h3 t' ht'; have b := h3' t ht; have := e t ht; have := e t' ht'; omega
theorem q_up_same {m : q_Mem} {c i v : Int} (h : m c i = v) : q_up m c i v = m := by
  funext c' i'
  by_cases e : c' = c
  · subst e
    by_cases e' : i' = i
    · subst e'; rw [q_up_s, h]
    · exact q_up_i e'
  · exact q_up_c e
section tiles3
variable {l m : q_Mem} {r c : Int}
theorem m_tileDepthBy {t : Int} (ht : 0 ≤ t ∧ t < 100) (hZ : ∀ u, 0 ≤ u → u < 100 → m 122 (100 * t + u) = 0 ∨ m 122 (100 * t + u) = 1) (hD : ∀ u, 0 ≤ u → u < 100 → 0 ≤ m 121 u ∧ m 121 u ≤ 200) : f_Mod_tileDepthBy t m = some (g_db (i_tg (m 122) t) (fun u => m 121 u - 1) 100 + 1, m) := by
  apply o_eq
  unfold f_Mod_tileDepthBy
  refine o_upF (fun n k (s : Int) => f_Mod_tileDepthBy_l4 n t s k m) (fun k s => 0 ≤ k ∧ s = g_db (i_tg (m 122) t) (fun u => m 121 u - 1) k.toNat + 1 ∧ 1 ≤ s ∧ s ≤ 300) _ (k := 0) (e := 100) (s := 1) (by omega) (by omega) ⟨by omega, rfl, by omega, by omega⟩ ?_ ?_
  · intro n k s hk ⟨k0, hs, s1, s2⟩ hn
    have hz := hZ k k0 hk
    have hd := hD k k0 hk
    have es := g_db_s (i_tg (m 122) t) (fun u => m 121 u - 1) k0
    rw [if_neg (by omega)] at es
    show q_ok (f_Mod_tileDepthBy_b4 (f_Mod_tileDepthBy_l4 n) t s k m) _
    unfold f_Mod_tileDepthBy_b4 f_Mod_tileDepthBy_b51
    rw [q_w_id (x := k) (by omega) (by omega), if_neg (by omega), x_rd (n := 10000) (by omega) (by omega) (by decide), q_w_id (x := m 122 (100 * t + k)) (by omega) (by omega)]
    by_cases cz : m 122 (100 * t + k) = 0
    · have e1 : i_tg (m 122) t k = -1 := if_pos cz
      rw [if_pos cz]
      rw [if_pos e1] at es
      exact hn s ⟨by omega, by rw [es]; exact hs, s1, s2⟩
    · have e1 : i_tg (m 122) t k = k := if_neg cz
      rw [e1, if_neg (by omega)] at es
      rw [if_neg cz, x_rd (n := 100) k0 hk (by decide), q_w_id (x := m 121 k) (by omega) (by omega)]
      by_cases cd : m 121 k = 0
      · rw [if_pos cd]
        refine o_rt ⟨?_, rfl⟩
        have hge := g_db_ge (i_tg (m 122) t) (fun u => m 121 u - 1) 100
        by_cases cg : 0 ≤ g_db (i_tg (m 122) t) (fun u => m 121 u - 1) 100
        · have := (g_db_nn cg k k0 hk (by rw [e1]; omega)).1
          rw [e1] at this
          have : 0 ≤ m 121 k - 1 := this
          omega
        · omega
      · rw [if_neg cd, x_rd (n := 100) k0 hk (by decide), m_more (by omega) (by omega), x_bd]
        have es' : g_db (i_tg (m 122) t) (fun u => m 121 u - 1) (k + 1).toNat = max (g_db (i_tg (m 122) t) (fun u => m 121 u - 1) k.toNat) (m 121 k - 1 + 1) := by
          rw [es]
          exact if_neg (by omega)
        refine hn _ ⟨by omega, ?_, by omega, by omega⟩
        rw [es']
        omega
  · intro n s ⟨_, hs, _⟩
    show q_ok (f_Mod_tileDepthBy_b4 (f_Mod_tileDepthBy_l4 n) t s 100 m) _
    unfold f_Mod_tileDepthBy_b4
    rw [if_pos (by decide)]
    exact o_rt ⟨hs, rfl⟩
/-- ranks that are settled so far -/
def i_part (l : q_Mem) (r c : Int) (Z D : Int → Int) (N : Int) : Prop := ∀ t, 0 ≤ t → t < 100 → D t = 0 ∨ (i_S l r c t ∧ 0 < D t ∧ D t ≤ N ∧ D t - 1 = g_db (i_tg Z t) (fun u => D u - 1) 100)
def i_set (D : Int → Int) : Int := g_cnt (fun t => decide (0 < D t)) 100
theorem i_S_rg (hr : 1 ≤ r) (hc : 1 ≤ c) {t : Int} (h : i_S l r c t) : 0 ≤ t ∧ t < 100 := by
  obtain ⟨p, hp, e⟩ := h
  rw [← e]
  exact i_T_rg hr hc hp.1
theorem i_tg_in {Z : Int → Int} {t u : Int} (h : i_tg Z t u ≠ -1) : i_tg Z t u = u := by
  unfold i_tg at *
  by_cases c : Z (100 * t + u) = 0
  · rw [if_pos c] at h; exact absurd rfl h
  · rw [if_neg c]
theorem i_part_up (hr : 1 ≤ r) (hc : 1 ≤ c) {Z D : Int → Int} {N t : Int} (hN : 0 ≤ N) (h : i_part l r c Z D N) (ht : i_S l r c t) (hd : D t = 0) (hg : 0 ≤ g_db (i_tg Z t) (fun u => D u - 1) 100) : i_part l r c Z (fun i => if i = t then g_db (i_tg Z t) (fun u => D u - 1) 100 + 1 else D i) (N + 1) := by
  have htr := i_S_rg hr hc ht
  -- none that is settled hangs on t
  have keep : ∀ u, 0 ≤ g_db (i_tg Z u) (fun u => D u - 1) 100 → g_db (i_tg Z u) (fun i => (if i = t then g_db (i_tg Z t) (fun u => D u - 1) 100 + 1 else D i) - 1) 100 = g_db (i_tg Z u) (fun u => D u - 1) 100 := by
    intro u hu
    refine g_db_congr fun k k0 k1 k2 => ?_
    have a := (g_db_nn hu k k0 k1 k2).1
    have hne : i_tg Z u k ≠ t := fun e => by rw [e] at a; have a' : 0 ≤ D t - 1 := a; omega
    show (if i_tg Z u k = t then _ else D (i_tg Z u k)) - 1 = D (i_tg Z u k) - 1
    rw [if_neg hne]
  intro u u0 u1
  · show (if u = t then g_db (i_tg Z t) (fun u => D u - 1) 100 + 1 else D u) = 0 ∨ (i_S l r c u ∧ 0 < (if u = t then g_db (i_tg Z t) (fun u => D u - 1) 100 + 1 else D u) ∧ (if u = t then g_db (i_tg Z t) (fun u => D u - 1) 100 + 1 else D u) ≤ N + 1 ∧ (if u = t then g_db (i_tg Z t) (fun u => D u - 1) 100 + 1 else D u) - 1 = g_db (i_tg Z u) (fun i => (if i = t then g_db (i_tg Z t) (fun u => D u - 1) 100 + 1 else D i) - 1) 100)
    by_cases e : u = t
    · rw [if_pos e, e]
      have hle := g_db_le (tg := i_tg Z t) (D := fun u => D u - 1) (B := N) hN (n := 100) (fun k k0 k1 k2 => by
        rw [i_tg_in k2]
        show D k - 1 < N
        rcases h k k0 k1 with h1 | h1 <;> omega)
      refine Or.inr ⟨ht, by omega, by omega, ?_⟩
      rw [keep t hg]
      omega
    · rw [if_neg e]
      rcases h u u0 u1 with h1 | ⟨h1, h2, h3, h4⟩
      · exact Or.inl h1
      · refine Or.inr ⟨h1, h2, by omega, ?_⟩
        rw [keep u (by omega)]
        exact h4
theorem m_tileRow (h : g_ML m l) (hw : g_lw l) (hr : 1 ≤ r ∧ r ≤ 10) (hc : 1 ≤ c ∧ c ≤ 10) (hZ : ∀ t u, 0 ≤ t → t < 100 → 0 ≤ u → u < 100 → m 122 (100 * t + u) = 0 ∨ m 122 (100 * t + u) = 1) : q_ok (f_Mod_tileRow r c m) (fun v m' => (∀ c', c' ≠ 121 → m' c' = m c') ∧ ∃ X, i_sol l r c (m 122) X ∧ (∀ t, i_S l r c t → -1 ≤ X t ∧ X t < 100) ∧ i_row l r c X v) := by
  have hpt0 := (g_corner hw 1 1).1
  unfold f_Mod_tileRow
  refine o_upF (fun n k (s : q_Mem) => f_Mod_tileRow_l2 n r c k s) (fun k s => 0 ≤ k ∧ (∀ c', c' ≠ 121 → s c' = m c') ∧ ∀ i, 0 ≤ i → i < k → s 121 i = 0) _ (k := 0) (e := 100) (s := m) (by omega) (by omega) ⟨by omega, fun _ _ => rfl, fun i i0 i1 => by omega⟩ ?_ ?_
  · intro n k s hk ⟨k0, f1, s1⟩ hn
    show q_ok (f_Mod_tileRow_b2 (f_Mod_tileRow_l2 n) r c k s) _
    unfold f_Mod_tileRow_b2
    rw [q_w_id (x := k) (by omega) (by omega), if_neg (by omega), x_wr (n := 100) k0 (by omega) (by decide)]
    refine hn _ ⟨by omega, fun c' hc' => by rw [q_up_f hc']; exact f1 c' hc', fun i i0 i1 => ?_⟩
    by_cases ci : i = k
    · rw [ci, q_up_s]
    · rw [q_up_i ci]; exact s1 i i0 (by omega)
  · intro n s ⟨_, f0, s0⟩
    show q_ok (f_Mod_tileRow_b2 (f_Mod_tileRow_l2 n) r c 100 s) _
    unfold f_Mod_tileRow_b2
    rw [if_pos (by decide)]
    refine o_while (fun n (z : Int × Int × q_Mem) => f_Mod_tileRow_l26 n r c z.1 z.2.1 z.2.2) (fun z => (∀ c', c' ≠ 121 → z.2.2 c' = m c') ∧ i_part l r c (m 122) (z.2.2 121) (i_set (z.2.2 121)) ∧ ((∀ t, 0 ≤ t → t < 100 → z.2.2 121 t ≤ z.2.1) ∧ (0 ≤ z.2.1 ∧ z.2.1 ≤ 100) ∧ (z.2.1 = 0 ∨ ∃ t, i_S l r c t ∧ z.2.2 121 t = z.2.1)) ∧ (z.1 = 0 ∨ z.1 = 1) ∧ (z.1 = 0 → i_sol l r c (m 122) (fun u => z.2.2 121 u - 1))) (fun z => (if z.1 = 0 then 0 else 1) + 2 * (100 - i_set (z.2.2 121)).toNat) _ ?_ q_F (1, 0, s) ?_ ?_
    · intro n z ⟨f1, hp, ⟨hb1, hb2, hb3⟩, hc0, hd⟩ hn
      obtain ⟨c0, b, s⟩ := z
      replace f1 : ∀ c', c' ≠ 121 → s c' = m c' := f1
      replace hp : i_part l r c (m 122) (s 121) (i_set (s 121)) := hp
      replace hb1 : ∀ t, 0 ≤ t → t < 100 → s 121 t ≤ b := hb1
      replace hb2 : 0 ≤ b ∧ b ≤ 100 := hb2
      replace hb3 : b = 0 ∨ ∃ t, i_S l r c t ∧ s 121 t = b := hb3
      replace hd : c0 = 0 → i_sol l r c (m 122) (fun u => s 121 u - 1) := hd
      have gs : 0 ≤ i_set (s 121) ∧ i_set (s 121) ≤ 100 := g_cnt_rg _ 100
      have prg : ∀ t, 0 ≤ t → t < 100 → 0 ≤ s 121 t ∧ s 121 t ≤ 100 := fun t t0 t1 => by rcases hp t t0 t1 with h1 | h1 <;> omega
      show q_ok (f_Mod_tileRow_b26 (f_Mod_tileRow_l26 n) r c c0 b s) _
      unfold f_Mod_tileRow_b26
      rcases hc0 with hc0 | hc0
      · replace hc0 : c0 = 0 := hc0
        rw [hc0, x_w0, if_pos rfl]
        have hsol := hd hc0
        refine o_upF (fun n' k (_ : Unit) => f_Mod_tileRow_l148 n' r c b k s) (fun k _ => 0 ≤ k ∧ ∀ p, g_pt l p → p < k → s 121 (i_T r c p) ≠ 0) _ (k := 0) (e := 100) (s := ()) (by omega) (by omega) ⟨by omega, fun p hp h => by have := hp.1; omega⟩ ?_ ?_
        · intro n' k _ hk ⟨k0, hs⟩ hn'
          have hm1 : g_ML s l := g_ML_of h (by rw [f1 81 (by decide)]) fun c' _ _ => f1 c' (by omega)
          have go : (g_pt l k → s 121 (i_T r c k) ≠ 0) → ∀ p, g_pt l p → p < k + 1 → s 121 (i_T r c p) ≠ 0 := by
            intro hh p hp hlt
            by_cases e : p = k
            · rw [e] at hp ⊢; exact hh hp
            · exact hs p hp (by omega)
          show q_ok (f_Mod_tileRow_b148 (f_Mod_tileRow_l148 n') r c b k s) _
          unfold f_Mod_tileRow_b148 f_Mod_tileRow_b181
          rw [q_w_id (x := k) (by omega) (by omega), if_neg (by omega), m_isThere hm1 hw ⟨k0, hk⟩, x_bd]
          by_cases ct : g_th (l 0 0) (l 0 1) k
          · have hpt : g_pt l k := ⟨⟨k0, hk⟩, ct⟩
            have b1 := i_T_rg hr.1 hc.1 hpt.1
            have b2 := prg _ b1.1 b1.2
            rw [if_pos ct, x_w1, if_neg (by decide), m_tileOf hr hc hpt.1, x_bd, x_rd (n := 100) b1.1 b1.2 (by decide), q_w_id (x := s 121 (i_T r c k)) (by omega) (by omega)]
            by_cases cz : s 121 (i_T r c k) = 0
            · rw [if_pos cz]
              refine o_rt ⟨f1, fun u => s 121 u - 1, hsol, fun t ht => ?_, Or.inl ⟨rfl, i_T r c k, ⟨k, hpt, rfl⟩, by show s 121 (i_T r c k) - 1 < 0; omega⟩⟩
              have := i_S_rg hr.1 hc.1 ht
              have := prg t this.1 this.2
              show -1 ≤ s 121 t - 1 ∧ s 121 t - 1 < 100
              omega
            · rw [if_neg cz]
              exact hn' () ⟨by omega, go fun _ => cz⟩
          · rw [if_neg ct, x_w0, if_pos rfl]
            exact hn' () ⟨by omega, go fun hh => absurd hh.2 ct⟩
        · intro n' _ ⟨_, hs⟩
          show q_ok (f_Mod_tileRow_b148 (f_Mod_tileRow_l148 n') r c b 100 s) _
          unfold f_Mod_tileRow_b148
          rw [if_pos (by decide)]
          have hall : ∀ t, i_S l r c t → 0 < s 121 t := by
            intro t ht
            have b1 := i_S_rg hr.1 hc.1 ht
            obtain ⟨p, hpp, e⟩ := ht
            have := hs p hpp hpp.1.2
            rw [e] at this
            have := prg t b1.1 b1.2
            omega
          obtain ⟨p, hpp, _⟩ := hpt0
          have hb0 := hall _ ⟨p, hpp, rfl⟩
          have b1 := i_T_rg hr.1 hc.1 hpp.1
          have hbb := hb1 _ b1.1 b1.2
          refine o_rt ⟨f1, fun u => s 121 u - 1, hsol, fun t ht => ?_, Or.inr ⟨fun t ht => ?_, ?_, fun t ht => ?_⟩⟩
          · have := i_S_rg hr.1 hc.1 ht
            have := prg t this.1 this.2
            show -1 ≤ s 121 t - 1 ∧ s 121 t - 1 < 100
            omega
          · have := hall t ht
            show 0 ≤ s 121 t - 1
            omega
          · rcases hb3 with e | ⟨t, ht, e⟩
            · omega
            · exact ⟨t, ht, by show s 121 t - 1 + 1 = b; omega⟩
          · have := i_S_rg hr.1 hc.1 ht
            have := hb1 t this.1 this.2
            show s 121 t - 1 + 1 ≤ b
            omega
      · replace hc0 : c0 = 1 := hc0
        rw [hc0, x_w1, if_neg (by decide)]
        refine o_upF (fun n' k (z : Int × Int × q_Mem) => f_Mod_tileRow_l35 (f_Mod_tileRow_l26 n) n' r c z.1 z.2.1 k z.2.2) (fun k z => 0 ≤ k ∧ (∀ c', c' ≠ 121 → z.2.2 c' = m c') ∧ i_part l r c (m 122) (z.2.2 121) (i_set (z.2.2 121)) ∧ ((∀ t, 0 ≤ t → t < 100 → z.2.2 121 t ≤ z.2.1) ∧ (0 ≤ z.2.1 ∧ z.2.1 ≤ 100) ∧ (z.2.1 = 0 ∨ ∃ t, i_S l r c t ∧ z.2.2 121 t = z.2.1)) ∧ ((z.1 = 0 ∧ z.2.2 = s ∧ ∀ p, g_pt l p → p < k → s 121 (i_T r c p) - 1 = g_db (i_tg (m 122) (i_T r c p)) (fun u => s 121 u - 1) 100) ∨ (z.1 = 1 ∧ i_set (s 121) + 1 ≤ i_set (z.2.2 121)))) _ (k := 0) (e := 100) (s := (0, b, s)) (by omega) (by omega) ⟨by omega, f1, hp, ⟨hb1, hb2, hb3⟩, Or.inl ⟨rfl, rfl, fun p hp h => by have := hp.1; omega⟩⟩ ?_ ?_
        · intro n' k z hk ⟨k0, f2, hp2, ⟨hc1, hc2, hc3⟩, hz⟩ hn'
          obtain ⟨c1, b1, s1⟩ := z
          replace f2 : ∀ c', c' ≠ 121 → s1 c' = m c' := f2
          replace hp2 : i_part l r c (m 122) (s1 121) (i_set (s1 121)) := hp2
          replace hc1 : ∀ t, 0 ≤ t → t < 100 → s1 121 t ≤ b1 := hc1
          replace hc2 : 0 ≤ b1 ∧ b1 ≤ 100 := hc2
          replace hc3 : b1 = 0 ∨ ∃ t, i_S l r c t ∧ s1 121 t = b1 := hc3
          replace hz : (c1 = 0 ∧ s1 = s ∧ ∀ p, g_pt l p → p < k → s 121 (i_T r c p) - 1 = g_db (i_tg (m 122) (i_T r c p)) (fun u => s 121 u - 1) 100) ∨ (c1 = 1 ∧ i_set (s 121) + 1 ≤ i_set (s1 121)) := hz
          have gs1 : 0 ≤ i_set (s1 121) ∧ i_set (s1 121) ≤ 100 := g_cnt_rg _ 100
          have prg1 : ∀ t, 0 ≤ t → t < 100 → 0 ≤ s1 121 t ∧ s1 121 t ≤ 100 := fun t t0 t1 => by rcases hp2 t t0 t1 with h1 | h1 <;> omega
          have hm1 : g_ML s1 l := g_ML_of h (by rw [f2 81 (by decide)]) fun c' _ _ => f2 c' (by omega)
          -- nothing happens at k
          have same : (g_pt l k → s1 = s → s 121 (i_T r c k) - 1 = g_db (i_tg (m 122) (i_T r c k)) (fun u => s 121 u - 1) 100) → q_ok (f_Mod_tileRow_l35 (f_Mod_tileRow_l26 n) n' r c c1 b1 (k + 1) s1) (fun v m' => (∀ c', c' ≠ 121 → m' c' = m c') ∧ ∃ X, i_sol l r c (m 122) X ∧ (∀ t, i_S l r c t → -1 ≤ X t ∧ X t < 100) ∧ i_row l r c X v) := by
            intro hh
            refine hn' (c1, b1, s1) ⟨by omega, f2, hp2, ⟨hc1, hc2, hc3⟩, ?_⟩
            rcases hz with ⟨z1, z2, z3⟩ | hz
            · refine Or.inl ⟨z1, z2, fun p hpp hlt => ?_⟩
              by_cases e : p = k
              · rw [e] at hpp ⊢; exact hh hpp z2
              · exact z3 p hpp (by omega)
            · exact Or.inr hz
          show q_ok (f_Mod_tileRow_b35 (f_Mod_tileRow_l26 n) (f_Mod_tileRow_l35 (f_Mod_tileRow_l26 n) n') r c c1 b1 k s1) _
          unfold f_Mod_tileRow_b35 f_Mod_tileRow_b111 f_Mod_tileRow_b116 f_Mod_tileRow_b136
          rw [q_w_id (x := k) (by omega) (by omega), if_neg (show ¬ 100 ≤ k by omega), m_isThere hm1 hw ⟨k0, hk⟩, x_bd]
          by_cases ct : g_th (l 0 0) (l 0 1) k
          · have hpt : g_pt l k := ⟨⟨k0, hk⟩, ct⟩
            have t1 := i_T_rg hr.1 hc.1 hpt.1
            have t2 := prg1 _ t1.1 t1.2
            have hTS : i_S l r c (i_T r c k) := ⟨k, hpt, rfl⟩
            have e122 : s1 122 = m 122 := f2 122 (by decide)
            have hTD := m_tileDepthBy (m := s1) (t := i_T r c k) t1 (fun u u0 u1 => by rw [e122]; exact hZ _ u t1.1 t1.2 u0 u1) (fun u u0 u1 => by have := prg1 u u0 u1; omega)
            rw [e122] at hTD
            rw [if_pos ct, x_w1, if_neg (show ¬ ((1 : Int) = 0) by decide), m_tileOf hr hc hpt.1, x_bd, x_rd (n := 100) t1.1 t1.2 (by decide), q_w_id (x := s1 121 (i_T r c k)) (by omega) (by omega)]
            by_cases cz : s1 121 (i_T r c k) ≤ 0
            · have cz0 : s1 121 (i_T r c k) = 0 := by omega
              have hge := g_db_ge (i_tg (m 122) (i_T r c k)) (fun u => s1 121 u - 1) 100
              have hle := g_db_le (tg := i_tg (m 122) (i_T r c k)) (D := fun u => s1 121 u - 1) (B := 100) (by omega) (n := 100) (fun u u0 u1 u2 => by
                rw [i_tg_in u2]
                show s1 121 u - 1 < 100
                have := prg1 u u0 u1
                omega)
              rw [if_pos cz, m_tileOf hr hc hpt.1, x_bd, m_tileOf hr hc hpt.1, x_bd, hTD, x_bd, x_wr (n := 100) t1.1 t1.2 (by decide)]
              by_cases cg : g_db (i_tg (m 122) (i_T r c k)) (fun u => s1 121 u - 1) 100 < 0
              · have eg : g_db (i_tg (m 122) (i_T r c k)) (fun u => s1 121 u - 1) 100 + 1 = 0 := by omega
                have esame : q_up s1 121 (i_T r c k) (g_db (i_tg (m 122) (i_T r c k)) (fun u => s1 121 u - 1) 100 + 1) = s1 := by
                  rw [eg]
                  exact q_up_same cz0
                have fin := same fun _ es => by rw [← es]; omega
                rw [esame]
                rcases hz with ⟨z1, z2, z3⟩ | ⟨z1, z2⟩
                · rw [z1] at fin ⊢
                  rw [x_w0, if_pos rfl, m_tileOf hr hc hpt.1, x_bd, x_rd (n := 100) t1.1 t1.2 (by decide), cz0, x_w0, if_pos (by decide), m_tileOf hr hc hpt.1, x_bd, x_rd (n := 100) t1.1 t1.2 (by decide), cz0, m_more (by omega) (by decide), x_bd, show max b1 0 = b1 by omega]
                  exact fin
                · rw [z1] at fin ⊢
                  rw [x_w1, if_neg (by decide), m_tileOf hr hc hpt.1, x_bd, x_rd (n := 100) t1.1 t1.2 (by decide), cz0, m_more (by omega) (by decide), x_bd, show max b1 0 = b1 by omega]
                  exact fin
              · have cg' : 0 ≤ g_db (i_tg (m 122) (i_T r c k)) (fun u => s1 121 u - 1) 100 := by omega
                have hup := i_part_up hr.1 hc.1 gs1.1 hp2 hTS cz0 cg'
                generalize hG : g_db (i_tg (m 122) (i_T r c k)) (fun u => s1 121 u - 1) 100 = G at *
                have efun : q_up s1 121 (i_T r c k) (G + 1) 121 = fun i => if i = i_T r c k then G + 1 else s1 121 i := q_up_fn _ _ _ _
                have hcnt : i_set (s1 121) + 1 ≤ i_set (q_up s1 121 (i_T r c k) (G + 1) 121) := by
                  refine g_cnt_lt (k := i_T r c k) (fun q q0 q1 hq => ?_) t1.1 t1.2 ?_ ?_
                  · simp only [decide_eq_true_eq] at hq ⊢
                    rw [efun]
                    show 0 < if q = i_T r c k then G + 1 else s1 121 q
                    split
                    · omega
                    · exact hq
                  · simp; omega
                  · simp only [decide_eq_true_eq]
                    rw [q_up_s]
                    omega
                have hpart : i_part l r c (m 122) (q_up s1 121 (i_T r c k) (G + 1) 121) (i_set (q_up s1 121 (i_T r c k) (G + 1) 121)) := by
                  intro u u0 u1
                  rw [efun] at hcnt ⊢
                  rcases hup u u0 u1 with h1 | ⟨h1, h2, h3, h4⟩
                  · exact Or.inl h1
                  · exact Or.inr ⟨h1, h2, by omega, h4⟩
                have hG100 : G + 1 ≤ 100 := by
                  have hrr : i_set (q_up s1 121 (i_T r c k) (G + 1) 121) ≤ 100 := (g_cnt_rg _ 100).2
                  rcases hpart _ t1.1 t1.2 with h1 | ⟨_, _, h3, _⟩
                  · rw [q_up_s] at h1; omega
                  · rw [q_up_s] at h3; omega
                have hge' : i_set (s 121) + 1 ≤ i_set (q_up s1 121 (i_T r c k) (G + 1) 121) := by
                  rcases hz with ⟨_, z2, _⟩ | ⟨_, z2⟩
                  · rw [← z2]; exact hcnt
                  · omega
                have fin : q_ok (f_Mod_tileRow_l35 (f_Mod_tileRow_l26 n) n' r c 1 (max b1 (G + 1)) (k + 1) (q_up s1 121 (i_T r c k) (G + 1))) (fun v m' => (∀ c', c' ≠ 121 → m' c' = m c') ∧ ∃ X, i_sol l r c (m 122) X ∧ (∀ t, i_S l r c t → -1 ≤ X t ∧ X t < 100) ∧ i_row l r c X v) := hn' (1, max b1 (G + 1), q_up s1 121 (i_T r c k) (G + 1)) ⟨by omega, fun c' hc' => by show q_up s1 121 _ _ c' = m c'; rw [q_up_f hc']; exact f2 c' hc', hpart, ⟨fun u u0 u1 => by
                    show q_up s1 121 (i_T r c k) (G + 1) 121 u ≤ max b1 (G + 1)
                    rw [efun]
                    show (if u = i_T r c k then G + 1 else s1 121 u) ≤ _
                    have := hc1 u u0 u1
                    split <;> omega, by show 0 ≤ max b1 (G + 1) ∧ max b1 (G + 1) ≤ 100; omega, by
                    show max b1 (G + 1) = 0 ∨ ∃ t, i_S l r c t ∧ q_up s1 121 (i_T r c k) (G + 1) 121 t = max b1 (G + 1)
                    right
                    by_cases cb : b1 ≤ G + 1
                    · exact ⟨i_T r c k, hTS, by rw [q_up_s]; omega⟩
                    · rcases hc3 with e | ⟨t, ht, e⟩
                      · omega
                      · have hne : t ≠ i_T r c k := fun e' => by rw [e', cz0] at e; omega
                        exact ⟨t, ht, by rw [q_up_i hne]; omega⟩⟩, Or.inr ⟨rfl, hge'⟩⟩
                rcases hz with ⟨z1, _, _⟩ | ⟨z1, _⟩
                · rw [z1, x_w0, if_pos rfl, m_tileOf hr hc hpt.1, x_bd, x_rd (n := 100) t1.1 t1.2 (by decide), q_up_s, q_w_id (x := G + 1) (by omega) (by omega), if_neg (by omega), m_tileOf hr hc hpt.1, x_bd, x_rd (n := 100) t1.1 t1.2 (by decide), q_up_s, m_more (by omega) (by omega), x_bd]
                  exact fin
                · rw [z1, x_w1, if_neg (by decide), m_tileOf hr hc hpt.1, x_bd, x_rd (n := 100) t1.1 t1.2 (by decide), q_up_s, m_more (by omega) (by omega), x_bd]
                  exact fin
            · rw [if_neg cz]
              refine same fun _ es => ?_
              rcases hp2 _ t1.1 t1.2 with h1 | ⟨_, _, _, h4⟩
              · omega
              · rw [← es]; exact h4
          · rw [if_neg ct, x_w0, if_pos rfl]
            exact same fun hh => absurd hh.2 ct
        · intro n' z ⟨_, f2, hp2, hb, hz⟩
          show q_ok (f_Mod_tileRow_b35 (f_Mod_tileRow_l26 n) (f_Mod_tileRow_l35 (f_Mod_tileRow_l26 n) n') r c z.1 z.2.1 100 z.2.2) _
          unfold f_Mod_tileRow_b35
          rw [if_pos (by decide)]
          have gs2 : 0 ≤ i_set (z.2.2 121) ∧ i_set (z.2.2 121) ≤ 100 := g_cnt_rg _ 100
          refine hn (z.1, z.2.1, z.2.2) ⟨f2, hp2, hb, ?_, ?_⟩ ?_
          · rcases hz with ⟨z1, _⟩ | ⟨z1, _⟩
            · exact Or.inl z1
            · exact Or.inr z1
          · intro e
            replace e : z.1 = 0 := e
            rcases hz with ⟨z1, z2, z3⟩ | ⟨z1, _⟩
            · intro t ht
              obtain ⟨p, hpp, ep⟩ := ht
              show z.2.2 121 t - 1 = _
              rw [z2, ← ep]
              exact z3 p hpp hpp.1.2
            · omega
          · show (if z.1 = 0 then 0 else 1) + 2 * (100 - i_set (z.2.2 121)).toNat < (if c0 = 0 then 0 else 1) + 2 * (100 - i_set (s 121)).toNat
            rw [if_neg (show ¬ c0 = 0 by omega)]
            rcases hz with ⟨z1, z2, _⟩ | ⟨z1, z2⟩
            · rw [if_pos z1, z2]; omega
            · rw [if_neg (by omega)]; omega
    · have : 0 ≤ i_set (s 121) ∧ i_set (s 121) ≤ 100 := g_cnt_rg _ 100
      show (if (1 : Int) = 0 then 0 else 1) + 2 * (100 - i_set (s 121)).toNat < q_F
      rw [show q_F = 20000 from rfl, if_neg (by decide)]
      omega
    · exact ⟨f0, fun t t0 t1 => Or.inl (s0 t t0 t1), ⟨fun t t0 t1 => by show s 121 t ≤ 0; rw [s0 t t0 t1]; exact Int.le_refl _, ⟨Int.le_refl _, by show (0 : Int) ≤ 100; decide⟩, Or.inl rfl⟩, Or.inr rfl, fun e => absurd (show (1 : Int) = 0 from e) (by decide)⟩
end tiles3
