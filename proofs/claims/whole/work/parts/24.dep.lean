/-! DEPTHS: what a point's depth is, by those of the points that it reads; there is one such way alone -/
def g_db (tg : Int → Int) (D : Int → Int) : Nat → Int
  | 0 => 0
  | n + 1 => if g_db tg D n < 0 then -1 else if tg n = -1 then g_db tg D n else if D (tg n) < 0 then -1 else max (g_db tg D n) (D (tg n) + 1)
theorem g_db_s (tg D : Int → Int) {k : Int} (h : 0 ≤ k) : g_db tg D (k + 1).toNat = if g_db tg D k.toNat < 0 then -1 else if tg k = -1 then g_db tg D k.toNat else if D (tg k) < 0 then -1 else max (g_db tg D k.toNat) (D (tg k) + 1) := by
  rw [show (k + 1).toNat = k.toNat + 1 by omega]
  show (if g_db tg D k.toNat < 0 then -1 else if tg (k.toNat : Int) = -1 then g_db tg D k.toNat else if D (tg (k.toNat : Int)) < 0 then -1 else max (g_db tg D k.toNat) (D (tg (k.toNat : Int)) + 1)) = _
  rw [Int.toNat_of_nonneg h]
theorem g_db_ge (tg D : Int → Int) (n : Nat) : -1 ≤ g_db tg D n := by
  induction n with
  | zero => show (-1 : Int) ≤ 0; omega
  | succ n ih =>
    show -1 ≤ if g_db tg D n < 0 then -1 else if tg n = -1 then g_db tg D n else if D (tg n) < 0 then -1 else max (g_db tg D n) (D (tg n) + 1)
    grind
theorem g_db_nn {tg D : Int → Int} {n : Nat} (h : 0 ≤ g_db tg D n) : ∀ k : Int, 0 ≤ k → k < n → tg k ≠ -1 → 0 ≤ D (tg k) ∧ D (tg k) + 1 ≤ g_db tg D n := by
  induction n with
  | zero => intro k h0 h1; omega
  | succ n ih =>
    have e : g_db tg D (n + 1) = if g_db tg D n < 0 then -1 else if tg n = -1 then g_db tg D n else if D (tg n) < 0 then -1 else max (g_db tg D n) (D (tg n) + 1) := rfl
    rw [e] at h ⊢
    intro k h0 h1 ht
    by_cases c1 : g_db tg D n < 0
    · rw [if_pos c1] at h; omega
    · rw [if_neg c1] at h ⊢
      by_cases hk : k = n
      · subst hk
        rw [if_neg ht] at h ⊢
        by_cases c2 : D (tg n) < 0
        · rw [if_pos c2] at h; omega
        · rw [if_neg c2]; omega
      · have := ih (by omega) k h0 (by omega) ht
        grind
theorem g_db_neg {tg D : Int → Int} {n : Nat} (h : g_db tg D n < 0) : ∃ k : Int, 0 ≤ k ∧ k < n ∧ tg k ≠ -1 ∧ D (tg k) < 0 := by
  induction n with
  | zero => exact absurd h (by show ¬ (0 : Int) < 0; omega)
  | succ n ih =>
    have e : g_db tg D (n + 1) = if g_db tg D n < 0 then -1 else if tg n = -1 then g_db tg D n else if D (tg n) < 0 then -1 else max (g_db tg D n) (D (tg n) + 1) := rfl
    rw [e] at h
    by_cases c1 : g_db tg D n < 0
    · obtain ⟨k, h0, h1, h2, h3⟩ := ih c1
      exact ⟨k, h0, by omega, h2, h3⟩
    · rw [if_neg c1] at h
      by_cases c2 : tg n = -1
      · rw [if_pos c2] at h; omega
      · rw [if_neg c2] at h
        by_cases c3 : D (tg n) < 0
        · exact ⟨n, by omega, by omega, c2, c3⟩
        · rw [if_neg c3] at h; omega
theorem g_db_congr {tg D D' : Int → Int} {n : Nat} (h : ∀ k : Int, 0 ≤ k → k < n → tg k ≠ -1 → D (tg k) = D' (tg k)) : g_db tg D n = g_db tg D' n := by
  induction n with
  | zero => rfl
  | succ n ih =>
    show (if g_db tg D n < 0 then -1 else if tg n = -1 then g_db tg D n else if D (tg n) < 0 then -1 else max (g_db tg D n) (D (tg n) + 1)) = (if g_db tg D' n < 0 then -1 else if tg n = -1 then g_db tg D' n else if D' (tg n) < 0 then -1 else max (g_db tg D' n) (D' (tg n) + 1))
    rw [ih (fun k h0 h1 => h k h0 (by omega))]
    by_cases c : tg n = -1
    · rw [if_pos c, if_pos c]
    · rw [h n (by omega) (by omega) c]
theorem g_db_le {tg D : Int → Int} {B : Int} (hB : 0 ≤ B) {n : Nat} (h : ∀ k : Int, 0 ≤ k → k < n → tg k ≠ -1 → D (tg k) < B) : g_db tg D n ≤ B := by
  induction n with
  | zero => exact hB
  | succ n ih =>
    have := ih (fun k h0 h1 => h k h0 (by omega))
    have h2 := h n (by omega) (by omega)
    show (if g_db tg D n < 0 then -1 else if tg n = -1 then g_db tg D n else if D (tg n) < 0 then -1 else max (g_db tg D n) (D (tg n) + 1)) ≤ B
    grind
theorem g_uniq0 {tg : Int → Int → Int} {n : Nat} {S Dom : Int → Prop} (hcl : ∀ p k : Int, S p → 0 ≤ k → k < n → tg p k ≠ -1 → Dom (tg p k)) {X X' : Int → Int} (hX : ∀ p, S p → X p = g_db (tg p) X n) (hX' : ∀ p, S p → X' p = g_db (tg p) X' n) (hn : ∀ p, Dom p → ¬ S p → X p = -1) :
    ∀ (B : Nat) (p : Int), Dom p → 0 ≤ X p → X p ≤ B → X' p = X p := by
  intro B
  induction B with
  | zero =>
    intro p hd h0 h1
    have hs : S p := Classical.byContradiction fun h => by have := hn p hd h; omega
    rw [hX' p hs, hX p hs]
    have e := hX p hs
    refine g_db_congr (fun k k0 k1 k2 => ?_)
    have := g_db_nn (by rw [← e]; exact h0) k k0 k1 k2
    omega
  | succ B ih =>
    intro p hd h0 h1
    have hs : S p := Classical.byContradiction fun h => by have := hn p hd h; omega
    rw [hX' p hs, hX p hs]
    have e := hX p hs
    refine g_db_congr (fun k k0 k1 k2 => ?_)
    have := g_db_nn (by rw [← e]; exact h0) k k0 k1 k2
    exact ih (tg p k) (hcl p k hs k0 k1 k2) this.1 (by omega)
theorem g_uniq {tg : Int → Int → Int} {n : Nat} {S Dom : Int → Prop} (hcl : ∀ p k : Int, S p → 0 ≤ k → k < n → tg p k ≠ -1 → Dom (tg p k)) {X X' : Int → Int} (hX : ∀ p, S p → X p = g_db (tg p) X n) (hX' : ∀ p, S p → X' p = g_db (tg p) X' n) (hn : ∀ p, Dom p → ¬ S p → X p = -1) (hn' : ∀ p, Dom p → ¬ S p → X' p = -1) :
    ∀ p : Int, Dom p → X p = X' p := by
  intro p hd
  have r1 : -1 ≤ X p := by
    by_cases hs : S p
    · rw [hX p hs]; exact g_db_ge _ _ _
    · rw [hn p hd hs]; exact Int.le_refl _
  have r2 : -1 ≤ X' p := by
    by_cases hs : S p
    · rw [hX' p hs]; exact g_db_ge _ _ _
    · rw [hn' p hd hs]; exact Int.le_refl _
  by_cases h : 0 ≤ X p
  · exact (g_uniq0 hcl hX hX' hn (X p).toNat p hd h (by omega)).symm
  · by_cases h' : 0 ≤ X' p
    · exact g_uniq0 hcl hX' hX hn' (X' p).toNat p hd h' (by omega)
    · omega
/-- a point of the loop -/
abbrev g_pt (l : q_Mem) (p : Int) : Prop := (0 ≤ p ∧ p < 100) ∧ g_th (l 0 0) (l 0 1) p
theorem g_mv_pt {R C p a b : Int} (hR : R ≤ 10) (hC : C ≤ 10) (h : g_mv R C p a b ≠ -1) : (0 ≤ g_mv R C p a b ∧ g_mv R C p a b < 100) ∧ g_th R C (g_mv R C p a b) := by
  unfold g_mv at h ⊢
  split
  · omega
  · rw [if_neg (by assumption)] at h; exact absurd rfl h
theorem g_tg_pt {l : q_Mem} (hw : g_lw l) {p o : Int} (h : g_tg l p o ≠ -1) : g_pt l (g_tg l p o) := g_mv_pt hw.1.2 hw.2.1.2 h
theorem g_rr_pt {l : q_Mem} (hw : g_lw l) {p o : Int} (h : g_rr l p o ≠ -1) : g_pt l (g_rr l p o) := g_mv_pt hw.1.2 hw.2.1.2 h
theorem g_mv_iff {R C p q a b : Int} (hp : (0 ≤ p ∧ p < 100) ∧ g_th R C p) (hq : (0 ≤ q ∧ q < 100) ∧ g_th R C q) (hR : R ≤ 10) (hC : C ≤ 10) : g_mv R C p a b = q ↔ g_mv R C q (-a) (-b) = p := by
  unfold g_mv
  grind
/-- reading and being read -/
theorem g_tg_rr {l : q_Mem} (hw : g_lw l) {p q o : Int} (hp : g_pt l p) (hq : g_pt l q) : g_tg l p o = q ↔ g_rr l q o = p := g_mv_iff hp hq hw.1.2 hw.2.1.2
theorem g_mv_in {R C p a b : Int} (h : g_mv R C p a b ≠ -1) : g_mv R C p a b = (p / 10 + a) * 10 + (p % 10 + b) ∧ g_in R C (p / 10 + a) (p % 10 + b) := by
  unfold g_mv at h ⊢
  split
  · exact ⟨rfl, by assumption⟩
  · rw [if_neg (by assumption)] at h; exact absurd rfl h
/-- two offsets lead to two points -/
theorem g_tg_inj {l : q_Mem} (hw : g_lw l) {p o o' : Int} (h0 : 0 ≤ o) (h1 : o < l 0 5) (h0' : 0 ≤ o') (h1' : o' < l 0 5) (hn : g_tg l p o ≠ -1) (he : g_tg l p o = g_tg l p o') : o = o' := by
  have a1 := g_mv_in hn
  have a2 := g_mv_in (R := l 0 0) (C := l 0 1) (p := p) (a := l 2 o') (b := l 3 o') (by rw [show g_mv (l 0 0) (l 0 1) p (l 2 o') (l 3 o') = g_tg l p o' from rfl, ← he]; exact hn)
  have e : (p / 10 + l 2 o) * 10 + (p % 10 + l 3 o) = (p / 10 + l 2 o') * 10 + (p % 10 + l 3 o') := by
    rw [← a1.1, ← a2.1]; exact he
  have b1 := hw.1
  have b2 := hw.2.1
  have e2 : l 2 o = l 2 o' ∧ l 3 o = l 3 o' := by
    have c1 := a1.2
    have c2 := a2.2
    omega
  have hd := hw.2.2.2.2.2.2.1
  rcases Int.lt_trichotomy o o' with h | h | h
  · exact absurd e2 (hd o o' h0 h h1')
  · exact h
  · exact absurd ⟨e2.1.symm, e2.2.symm⟩ (hd o' o h0' h h1)
theorem g_tg_self {l : q_Mem} (hw : g_lw l) {p o : Int} (hp : 0 ≤ p) (h0 : 0 ≤ o) (h1 : o < l 0 5) : g_tg l p o ≠ p := by
  intro he
  have a1 := g_mv_in (R := l 0 0) (C := l 0 1) (p := p) (a := l 2 o) (b := l 3 o) (by rw [show g_mv (l 0 0) (l 0 1) p (l 2 o) (l 3 o) = g_tg l p o from rfl, he]; omega)
  rw [show g_mv (l 0 0) (l 0 1) p (l 2 o) (l 3 o) = g_tg l p o from rfl, he] at a1
  have := (hw.2.2.2.2.2.1 o h0 h1).2.2
  have b2 := hw.2.1
  omega
def g_isD (l : q_Mem) (D : Int → Int) : Prop := ∀ p, g_pt l p → D p = g_db (g_tg l p) D (l 0 5).toNat
theorem g_D_uniq {l : q_Mem} (hw : g_lw l) {D D' : Int → Int} (h : g_isD l D) (h' : g_isD l D') : ∀ p, g_pt l p → D p = D' p :=
  g_uniq (tg := g_tg l) (n := (l 0 5).toNat) (S := g_pt l) (Dom := g_pt l) (fun _ _ _ _ _ h => g_tg_pt hw h) h h' (fun _ h hn => absurd h hn) (fun _ h hn => absurd h hn)
/-- a loop that runs while something falls -/
theorem o_while {σ : Type} (g : Nat → σ → q_Res) (I : σ → Prop) (μ : σ → Nat) (Q : Int → q_Mem → Prop) (hs : ∀ n s, I s → (∀ s', I s' → μ s' < μ s → q_ok (g n s') Q) → q_ok (g (n + 1) s) Q) : ∀ (n : Nat) (s : σ), μ s < n → I s → q_ok (g n s) Q := by
  intro n
  induction n with
  | zero => intro s h; omega
  | succ n ih =>
    intro s hm hi
    exact hs n s hi (fun s' hi' hm' => ih s' (by omega) hi')
theorem q_up_f {m : q_Mem} {c i v c' : Int} (h : c' ≠ c) : q_up m c i v c' = m c' := by
  funext i'
  exact q_up_c h
theorem g_ML_of {m m' l : q_Mem} (h : g_ML m l) (h19 : m' 81 19 = m 81 19) (hc : ∀ c, 82 ≤ c → c ≤ 97 → m' c = m c) : g_ML m' l := by
  obtain ⟨b, hb, e, ⟨h1, h2, h3, h4, h5, h6⟩, h7, h8⟩ := h
  refine ⟨b, hb, by rw [h19]; exact e, ⟨by rw [hc 82 (by omega) (by omega)]; exact h1, by rw [hc 83 (by omega) (by omega)]; exact h2, by rw [hc 84 (by omega) (by omega)]; exact h3, by rw [hc 85 (by omega) (by omega)]; exact h4, by rw [hc 86 (by omega) (by omega)]; exact h5, by rw [hc 87 (by omega) (by omega)]; exact h6⟩, ?_, ?_⟩
  · rw [hc 96 (by omega) (by omega), hc 97 (by omega) (by omega)]; exact h7
  · rw [hc 93 (by omega) (by omega), hc 94 (by omega) (by omega), hc 95 (by omega) (by omega)]; exact h8
