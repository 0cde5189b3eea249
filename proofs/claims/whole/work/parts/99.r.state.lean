/-! THE PARSER: the loop in the making, in both -/
/-- the class's loop as a value -/
def u_l (t : Int) (m : q_Mem) : q_Mem := fun j => if 0 ≤ j ∧ j ≤ 10 then m (t + j) else fun _ => 0
/-- what the class leaves alone; what the model does -/
def u_fc (t : Int) (m m' : q_Mem) : Prop := (∀ c, c ≠ 1 → c ≠ 25 → c < t ∨ t + 9 < c → m' c = m c) ∧ (∀ j, j < 2 ∨ 5 < j → m' 1 j = m 1 j) ∧ ∀ j, j < 4 ∨ (5 < j ∧ j < 9) ∨ 10 < j → m' 25 j = m 25 j
def u_ou (bk c i : Int) : Prop := c < 85 ∨ (87 < c ∧ c < 92) ∨ (97 < c ∧ c < 100) ∨ 100 < c ∨ (c < 93 ∧ i ≠ bk) ∨ (93 ≤ c ∧ c ≤ 97 ∧ (i < 12 * bk ∨ 12 * bk + 12 ≤ i)) ∨ (c = 100 ∧ (i < 100 * bk ∨ 100 * bk + 100 ≤ i))
def u_fm (bk : Int) (m m' : q_Mem) : Prop := (∀ c i, c ≠ 81 → c ≠ 105 → u_ou bk c i → m' c i = m c i) ∧ ∀ j, j < 23 ∨ (29 < j ∧ j < 38) ∨ 39 < j → m' 81 j = m 81 j
/-- what a loop in the making is -/
def u_W (V : Int) (l : q_Mem) : Prop := (0 ≤ l 0 3 ∧ l 0 3 ≤ 40) ∧ (0 ≤ l 0 4 ∧ l 0 4 ≤ 12) ∧ (0 ≤ l 0 5 ∧ l 0 5 ≤ l 0 4) ∧ (0 ≤ l 0 6 ∧ l 0 6 ≤ 2 * l 0 3) ∧
  (∀ k, 0 ≤ k → k < l 0 5 → (-3 ≤ l 2 k ∧ l 2 k ≤ 3) ∧ (-3 ≤ l 3 k ∧ l 3 k ≤ 3) ∧ ¬ (l 2 k = 0 ∧ l 3 k = 0)) ∧
  (∀ k k', 0 ≤ k → k < k' → k' < l 0 5 → ¬ (l 2 k = l 2 k' ∧ l 3 k = l 3 k')) ∧
  (∀ k, 0 ≤ k → k < l 0 4 → (0 ≤ l 4 k ∧ l 4 k < V) ∧ (-3 ≤ l 5 k ∧ l 5 k ≤ 3) ∧ (-3 ≤ l 6 k ∧ l 6 k ≤ 3)) ∧
  (∀ k, 0 ≤ k → k < l 0 4 → (l 5 k = 0 ∧ l 6 k = 0) ∨ ∃ o, 0 ≤ o ∧ o < l 0 5 ∧ l 2 o = l 5 k ∧ l 3 o = l 6 k)
def u_R (bk : Int) (mm l : q_Mem) : Prop := (mm 85 bk = l 0 3 ∧ mm 86 bk = l 0 4 ∧ mm 87 bk = l 0 5) ∧ (∀ k, 0 ≤ k → k < l 0 5 → mm 96 (12 * bk + k) = l 2 k ∧ mm 97 (12 * bk + k) = l 3 k) ∧ (∀ k, 0 ≤ k → k < l 0 4 → mm 93 (12 * bk + k) = l 4 k ∧ mm 94 (12 * bk + k) = l 5 k ∧ mm 95 (12 * bk + k) = l 6 k)
/-- one is the other and more -/
def u_ext (l l' : q_Mem) : Prop := (∀ i, i ≠ 3 → i ≠ 4 → i ≠ 5 → i ≠ 6 → l' 0 i = l 0 i) ∧ l' 1 = l 1 ∧ l' 10 = l 10 ∧ (l 0 3 ≤ l' 0 3 ∧ l 0 4 ≤ l' 0 4 ∧ l 0 5 ≤ l' 0 5 ∧ l 0 6 ≤ l' 0 6) ∧ (∀ k, k < l 0 6 → l' 7 k = l 7 k ∧ l' 8 k = l 8 k ∧ l' 9 k = l 9 k) ∧ (∀ k, k < l 0 4 → l' 4 k = l 4 k ∧ l' 5 k = l 5 k ∧ l' 6 k = l 6 k) ∧ (∀ k, k < l 0 5 → l' 2 k = l 2 k ∧ l' 3 k = l 3 k)
/-- the nodes of a formula -/
def u_nd (V s : Int) (l : q_Mem) : Prop := ∀ k, s ≤ k → k < l 0 6 → (l 7 k = 0 → 0 ≤ l 8 k ∧ l 8 k ≤ 999) ∧ (l 7 k = 3 → (0 ≤ l 8 k ∧ l 8 k < l 0 4) ∧ (l 5 (l 8 k) = 0 → l 6 (l 8 k) = 0 → l 4 (l 8 k) < V - 1))
/-- their codes -/
def u_cd (bk : Int) (mm l : q_Mem) (d s N : Int) : Prop := ∀ k, s ≤ k → k < N → mm 100 (100 * bk + (k + d)) = f_cd l k
/-- what stands fast -/
def u_st (t bk V ed mny : Int) (f e : Int → Int) : Prop := t ∈ q_Lp ∧ (bk = 0 ∨ bk = 1) ∧ (1 ≤ V ∧ V ≤ 3) ∧ ((ed = 1 ∧ mny = 0) ∨ (ed = 0 ∧ mny = V)) ∧ ∀ j, 0 ≤ j → j < V → 0 ≤ f j ∧ f j ≤ e j ∧ e j ≤ 800
/-- no fault is told -/
def u_ft (mc mm : q_Mem) : Prop := mc 25 4 = 0 ∧ mc 25 5 = -1 ∧ mm 81 29 = -1
/-- both stand at one token -/
def u_S (T : Int → Int) (n t bk V ed : Int) (f e : Int → Int) (l mc mm : q_Mem) (k a b w W : Int) : Prop :=
  (v_cs mc T n k a b ∧ v_ms mm T n k a b ∧ mm 81 28 = 0) ∧ (mc 25 3 = t ∧ mc 25 8 = ed ∧ u_l t mc = l) ∧ (∀ j, 0 ≤ j → j < V → (mc 26 j = f j ∧ mc 27 j = e j) ∧ mm 103 j = f j ∧ mm 104 j = e j - f j) ∧ u_R bk mm l ∧ u_W V l ∧ l 0 2 = V ∧ mm 81 39 = w ∧ mm 81 38 = W ∧ u_ft mc mm
section ulem
variable {m m' m1 m2 l l' l1 l2 : q_Mem} {t bk V : Int}
theorem u_l_0 (t : Int) (m : q_Mem) (i : Int) : u_l t m 0 i = m t i := by
  unfold u_l
  rw [if_pos (by decide), Int.add_zero]
theorem u_l_j (t : Int) (m : q_Mem) {j : Int} (h0 : 0 ≤ j) (h1 : j ≤ 10) (i : Int) : u_l t m j i = m (t + j) i := by
  unfold u_l
  rw [if_pos ⟨h0, h1⟩]
theorem u_l_fr (h : ∀ c, t ≤ c → c ≤ t + 10 → m' c = m c) : u_l t m' = u_l t m := by
  unfold u_l
  funext j
  by_cases c : 0 ≤ j ∧ j ≤ 10
  · rw [if_pos c, if_pos c, h _ (by omega) (by omega)]
  · rw [if_neg c, if_neg c]
theorem u_l_up {j i v : Int} (h0 : 0 ≤ j) (h1 : j ≤ 10) : u_l t (q_up m (t + j) i v) = q_up (u_l t m) j i v := by
  funext j' i'
  unfold u_l q_up
  by_cases c : 0 ≤ j' ∧ j' ≤ 10
  · by_cases cj : j' = j
    · subst cj
      simp [c]
    · have : ¬ (t + j' = t + j) := by omega
      simp [c, cj]
  · have cj : ¬ j' = j := by omega
    simp [c, cj]
theorem u_l_up0 {i v : Int} : u_l t (q_up m t i v) = q_up (u_l t m) 0 i v := by
  have := u_l_up (m := m) (t := t) (j := 0) (i := i) (v := v) (by decide) (by decide)
  rwa [Int.add_zero] at this
theorem u_l_CL (t : Int) (m : q_Mem) : g_CL m t (u_l t m) := ⟨fun i => (u_l_0 t m i).symm, fun j i j1 j2 => (u_l_j t m (by omega) j2 i).symm⟩
theorem u_fc_id (t : Int) (m : q_Mem) : u_fc t m m := ⟨fun _ _ _ _ => rfl, fun _ _ => rfl, fun _ _ => rfl⟩
theorem u_fc_tr (h : u_fc t m m1) (h' : u_fc t m1 m2) : u_fc t m m2 := ⟨fun c c1 c2 c3 => (h'.1 c c1 c2 c3).trans (h.1 c c1 c2 c3), fun j hj => (h'.2.1 j hj).trans (h.2.1 j hj), fun j hj => (h'.2.2 j hj).trans (h.2.2 j hj)⟩
theorem u_fc_fp (h : v_fp m m') : u_fc t m m' := ⟨fun c c1 c2 _ => h.1 c c1 c2, h.2.1, h.2.2⟩
theorem u_fc_fr (h : v_fr m m') : u_fc t m m' := u_fc_fp (v_fp_fr h)
theorem u_Lp (h : t ∈ q_Lp) : t = 3 ∨ t = 14 := by simpa [q_Lp] using h
theorem u_fc_up (h : t ∈ q_Lp) {c i v : Int} (hc : t ≤ c ∧ c ≤ t + 9) : u_fc t m (q_up m c i v) := by
  have := u_Lp h
  exact ⟨fun c' _ _ h3 => q_up_f (by omega), fun j _ => q_up_c (by omega), fun j _ => q_up_c (by omega)⟩
theorem u_fc_5 {i v : Int} (hi : i = 4 ∨ i = 5 ∨ i = 9 ∨ i = 10) : u_fc t m (q_up m 25 i v) := u_fc_fp (v_fp_up hi)
theorem u_fm_id (bk : Int) (m : q_Mem) : u_fm bk m m := ⟨fun _ _ _ _ _ => rfl, fun _ _ => rfl⟩
theorem u_fm_tr (h : u_fm bk m m1) (h' : u_fm bk m1 m2) : u_fm bk m m2 := ⟨fun c i c1 c2 c3 => (h'.1 c i c1 c2 c3).trans (h.1 c i c1 c2 c3), fun j hj => (h'.2 j hj).trans (h.2 j hj)⟩
theorem u_fm_fs (h : v_fs m m') : u_fm bk m m' := ⟨fun c i c1 _ _ => by rw [h.1 c c1], fun j hj => h.2 j (by omega)⟩
theorem u_fm_fm (h : v_fm m m') : u_fm bk m m' := u_fm_fs (v_fs_fm h)
theorem u_fm_up {c i v : Int} (hc : (c = 81 ∧ ((23 ≤ i ∧ i ≤ 29) ∨ i = 38 ∨ i = 39)) ∨ c = 105 ∨ (c ≠ 81 ∧ ¬ u_ou bk c i)) : u_fm bk m (q_up m c i v) := by
  refine ⟨fun c' i' c1 c2 c3 => ?_, fun j hj => ?_⟩
  · by_cases e : c' = c
    · subst e
      by_cases e2 : i' = i
      · subst e2
        rcases hc with hc | hc | hc
        · exact absurd hc.1 c1
        · exact absurd hc c2
        · exact absurd c3 hc.2
      · exact q_up_i e2
    · exact q_up_c e
  · by_cases e : (81 : Int) = c
    · subst e
      exact q_up_i (by omega)
    · exact q_up_c e
theorem u_fm_cell (h : u_fm bk m m') {c : Int} (hc : c < 81 ∨ (81 < c ∧ c < 85) ∨ (87 < c ∧ c < 92) ∨ (97 < c ∧ c < 100) ∨ (100 < c ∧ c ≠ 105)) : m' c = m c := by
  funext i
  exact h.1 c i (by omega) (by omega) (by unfold u_ou; omega)
theorem u_ext_id (l : q_Mem) : u_ext l l := ⟨fun _ _ _ _ _ => rfl, rfl, rfl, by omega, fun _ _ => ⟨rfl, rfl, rfl⟩, fun _ _ => ⟨rfl, rfl, rfl⟩, fun _ _ => ⟨rfl, rfl⟩⟩
theorem u_ext_tr (h : u_ext l l1) (h' : u_ext l1 l2) : u_ext l l2 := by
  obtain ⟨a1, a2, a3, a4, a5, a6, a7⟩ := h
  obtain ⟨b1, b2, b3, b4, b5, b6, b7⟩ := h'
  refine ⟨fun i i1 i2 i3 i4 => (b1 i i1 i2 i3 i4).trans (a1 i i1 i2 i3 i4), b2.trans a2, b3.trans a3, by omega, fun k hk => ?_, fun k hk => ?_, fun k hk => ?_⟩
  · have x := a5 k hk
    have y := b5 k (by omega)
    exact ⟨y.1.trans x.1, y.2.1.trans x.2.1, y.2.2.trans x.2.2⟩
  · have x := a6 k hk
    have y := b6 k (by omega)
    exact ⟨y.1.trans x.1, y.2.1.trans x.2.1, y.2.2.trans x.2.2⟩
  · have x := a7 k hk
    have y := b7 k (by omega)
    exact ⟨y.1.trans x.1, y.2.trans x.2⟩
theorem u_ext_cd (h : u_ext l l') {k : Int} (hk : k < l 0 6) : f_cd l' k = f_cd l k := by
  have := h.2.2.2.2.1 k hk
  unfold f_cd
  rw [this.1, this.2.1]
theorem u_ext_sp (h : u_ext l l') {k : Int} (hk : k < l 0 6) {a b : List Int} (hs : f_sp l k a b) : f_sp l' k a b := by
  have := h.2.2.2.2.1 k hk
  unfold f_sp at *
  rw [this.1, this.2.1, this.2.2]
  exact hs
theorem u_ext_stk (h : u_ext l l') {s : Int} : ∀ {N : Nat} {a : List Int}, s + N ≤ l 0 6 → f_stk l s N a → f_stk l' s N a := by
  intro N
  induction N with
  | zero => exact fun _ h => h
  | succ N ih =>
    intro a hN ⟨a', h1, h2⟩
    exact ⟨a', ih (by omega) h1, u_ext_sp h (by omega) h2⟩
theorem u_ext_nd (h : u_ext l l') {s : Int} (hW : u_W V l) {k : Int} (hk : s ≤ k ∧ k < l 0 6) (hn : u_nd V s l) : (l' 7 k = 0 → 0 ≤ l' 8 k ∧ l' 8 k ≤ 999) ∧ (l' 7 k = 3 → (0 ≤ l' 8 k ∧ l' 8 k < l' 0 4) ∧ (l' 5 (l' 8 k) = 0 → l' 6 (l' 8 k) = 0 → l' 4 (l' 8 k) < V - 1)) := by
  have e := h.2.2.2.2.1 k hk.2
  obtain ⟨h1, h2⟩ := hn k hk.1 hk.2
  rw [e.1, e.2.1]
  refine ⟨h1, fun h3 => ?_⟩
  obtain ⟨h4, h5⟩ := h2 h3
  have e6 := h.2.2.2.2.2.1 (l 8 k) h4.2
  rw [e6.1, e6.2.1, e6.2.2]
  have := h.2.2.2.1.2.1
  exact ⟨by omega, h5⟩
theorem u_cd_ext {mm mm' : q_Mem} {d s N : Int} (h : u_ext l l') (hN : N ≤ l 0 6) (hc : u_cd bk mm l d s N) (e : ∀ i, s + d ≤ i → i < N + d → mm' 100 (100 * bk + i) = mm 100 (100 * bk + i)) : u_cd bk mm' l' d s N := by
  intro k k0 k1
  rw [e _ (by omega) (by omega), u_ext_cd h (by omega)]
  exact hc k k0 k1
end ulem
