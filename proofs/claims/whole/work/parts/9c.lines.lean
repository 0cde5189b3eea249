/-! THE PARSER: between the lines -/
section lines
variable {T : Int → Int} {n t bk V ed ed' k a b w W : Int} {f e f' e' : Int → Int} {l l' mc mm mc' mm' : q_Mem}
/-- the class alone changes; the model alone does -/
theorem u_S_c (h : u_S T n t bk V ed f e l mc mm k a b w W) (e1 : mc' 1 = mc 1) (e2 : mc' 2 = mc 2) (e25 : mc' 25 3 = mc 25 3 ∧ mc' 25 8 = ed' ∧ mc' 25 4 = mc 25 4 ∧ mc' 25 5 = mc 25 5) (e26 : mc' 26 = mc 26) (e27 : mc' 27 = mc 27) (hl : u_l t mc' = l') (eL : ∀ i, 2 ≤ i → i ≤ 6 → l' 0 i = l 0 i) (eT : ∀ j, 2 ≤ j → j ≤ 6 → l' j = l j) : u_S T n t bk V ed' f e l' mc' mm k a b w W := by
  obtain ⟨⟨hcs, hms, hf0⟩, ⟨h253, h258, hl0⟩, hnm, hRR, hWW, hl2, e39, e38, hft⟩ := h
  refine ⟨⟨v_cs_fr hcs e1 e2, hms, hf0⟩, ⟨e25.1.trans h253, e25.2.1, hl⟩, fun i i0 i1 => by rw [e26, e27]; exact hnm i i0 i1, u_R_of hRR (by rw [eL 3 (by decide) (by decide)]; exact hRR.1.1) (eL 4 (by decide) (by decide)) (eL 5 (by decide) (by decide)) eT ⟨rfl, rfl⟩ (fun _ _ _ => rfl), u_W_of hWW (eL 4 (by decide) (by decide)) (eL 5 (by decide) (by decide)) eT (by rw [eL 3 (by decide) (by decide)]; exact hWW.1) (by rw [eL 3 (by decide) (by decide), eL 6 (by decide) (by decide)]; exact hWW.2.2.2.1), by rw [eL 2 (by decide) (by decide)]; exact hl2, e39, e38, e25.2.2.1.trans hft.1, e25.2.2.2.trans hft.2.1, hft.2.2⟩
theorem u_S_m (h : u_S T n t bk V ed f e l mc mm k a b w W) (e81 : ∀ i, (22 ≤ i ∧ i ≤ 29) ∨ i = 38 ∨ i = 39 → mm' 81 i = mm 81 i) (ec : ∀ c, (85 ≤ c ∧ c ≤ 87) ∨ (93 ≤ c ∧ c ≤ 97) ∨ (101 ≤ c ∧ c ≤ 104) → mm' c = mm c) : u_S T n t bk V ed f e l mc mm' k a b w W := by
  obtain ⟨⟨hcs, hms, hf0⟩, h25, hnm, hRR, hWW, hl2, e39, e38, hft⟩ := h
  refine ⟨⟨hcs, v_ms_fr hms (fun i i0 i1 => e81 i (by omega)) (ec 101 (by omega)) (ec 102 (by omega)), (e81 28 (by omega)).trans hf0⟩, h25, fun i i0 i1 => by rw [ec 103 (by omega), ec 104 (by omega)]; exact hnm i i0 i1, u_R_of hRR (by rw [ec 85 (by omega)]; exact hRR.1.1) rfl rfl (fun _ _ _ => rfl) ⟨ec 86 (by omega), ec 87 (by omega)⟩ (fun c c0 c1 => ec c (by omega)), hWW, hl2, (e81 39 (by omega)).trans e39, (e81 38 (by omega)).trans e38, hft.1, hft.2.1, (e81 29 (by omega)).trans hft.2.2⟩
/-- one token on, in both -/
theorem u_S_tok {k' a' b' : Int} (htL : t ∈ q_Lp) (h : u_S T n t bk V ed f e l mc mm k a b w W) (fc : v_fr mc mc') (fm : v_fm mm mm') (hcs : v_cs mc' T n k' a' b') (hms : v_ms mm' T n k' a' b') : u_S T n t bk V ed f e l mc' mm' k' a' b' w W := by
  obtain ⟨⟨_, _, hf0⟩, ⟨h253, h258, hl⟩, hnm, hRR, hWW, hl2, e39, e38, hft⟩ := h
  have ht := u_Lp htL
  have e25 : mc' 25 = mc 25 := fc.1 25 (by decide)
  exact ⟨⟨hcs, hms, (fm.2 28 (by omega)).trans hf0⟩, ⟨by rw [e25]; exact h253, by rw [e25]; exact h258, (u_l_fr fun c c0 c1 => fc.1 c (by omega)).trans hl⟩, fun i i0 i1 => by rw [fc.1 26 (by decide), fc.1 27 (by decide), fm.1 103 (by decide), fm.1 104 (by decide)]; exact hnm i i0 i1, u_R_fr hRR fun c _ _ _ => fm.1 c (by omega), hWW, hl2, (fm.2 39 (by omega)).trans e39, (fm.2 38 (by omega)).trans e38, by rw [e25]; exact hft.1, by rw [e25]; exact hft.2.1, (fm.2 29 (by omega)).trans hft.2.2⟩
theorem u_S_next (htL : t ∈ q_Lp) (h : u_S T n t bk V ed f e l mc mm k a b w W) : ∃ r mc' r' mm' k' a' b', f_Tape_step mc = some (r, mc') ∧ f_Mod_scan mm = some (r', mm') ∧ u_S T n t bk V ed f e l mc' mm' k' a' b' w W ∧ v_fr mc mc' ∧ v_fm mm mm' ∧ b ≤ a' := by
  obtain ⟨r1, mc1, en1, fc1, k1, a1, b1, ht1, hcs1⟩ := c_next h.1.1
  obtain ⟨r2, mm1, en2, fm1, k2, a2, b2, ht2, hms1⟩ := m_next h.1.2.1
  obtain ⟨q1, q2, q3⟩ := v_tok_u ht1 ht2
  subst q1 q2 q3
  exact ⟨r1, mc1, r2, mm1, k1, a1, b1, en1, en2, u_S_tok htL h fc1 fm1 hcs1 hms1, fc1, fm1, ht1.1.1⟩
theorem u_S_need (htL : t ∈ q_Lp) (h : u_S T n t bk V ed f e l mc mm k a b w W) {q : Int} (hq : v_sg q) : (k = q ∧ ∃ mc' r' mm' k' a' b', f_Pars_pass q mc = some (1, mc') ∧ f_Mod_need q mm = some (r', mm') ∧ u_S T n t bk V ed f e l mc' mm' k' a' b' w W ∧ v_fr mc mc' ∧ v_fm mm mm' ∧ b ≤ a') ∨ (k ≠ q ∧ f_Pars_pass q mc = some (0, q_up (q_up mc 25 4 1) 25 5 a) ∧ ∃ r', f_Mod_need q mm = some (r', q_up (q_up mm 81 28 1) 81 29 a)) := by
  obtain ⟨r1, mc1, en1, h1⟩ := c_pass h.1.1 hq
  obtain ⟨r2, mm1, en2, h2⟩ := m_need0 h.1.2.1 h.1.2.2 hq
  rcases h1 with ⟨hk, er, fc1, k1, a1, b1, ht1, hcs1⟩ | ⟨hk, er, ec⟩
  · rcases h2 with ⟨_, fm1, k2, a2, b2, ht2, hms1⟩ | ⟨hk', _⟩
    · obtain ⟨q1, q2, q3⟩ := v_tok_u ht1 ht2
      subst q1 q2 q3
      exact Or.inl ⟨hk, mc1, r2, mm1, k1, a1, b1, by rw [en1, er], en2, u_S_tok htL h fc1 fm1 hcs1 hms1, fc1, fm1, ht1.1.1⟩
    · exact absurd hk hk'
  · rcases h2 with ⟨hk', _⟩ | ⟨_, em⟩
    · exact absurd hk' hk
    · exact Or.inr ⟨hk, by rw [en1, er, ec], r2, by rw [en2, em]⟩
/-- formulas, V of them told -/
def u_wf (V : Int) (l : q_Mem) : Prop := l 10 0 = 0 ∧ (∀ i, 0 ≤ i → i < 2 * V → l 10 i ≤ l 10 (i + 1) ∧ l 10 (i + 1) ≤ 80) ∧
  (∀ v, 0 ≤ v → v < V → l 10 (2 * v) < l 10 (2 * v + 1) ∧ f_stk l (l 10 (2 * v)) (l 10 (2 * v + 1) - l 10 (2 * v)).toNat [l 10 (2 * v + 1) - 1]) ∧
  (∀ v, 0 ≤ v → v < V → l 10 (2 * v + 1) < l 10 (2 * v + 2) → f_stk l (l 10 (2 * v + 1)) (l 10 (2 * v + 2) - l 10 (2 * v + 1)).toNat [l 10 (2 * v + 2) - 1]) ∧
  (∀ v k, 0 ≤ v → v < V → l 10 (2 * v) ≤ k → k < l 10 (2 * v + 1) → l 7 k = 3 → (0 ≤ l 8 k ∧ l 8 k < l 0 4) ∧ (l 5 (l 8 k) = 0 → l 6 (l 8 k) = 0 → l 4 (l 8 k) < v)) ∧
  (∀ k, 0 ≤ k → k < l 10 (2 * V) → l 7 k = 0 → 0 ≤ l 8 k ∧ l 8 k ≤ 999) ∧ (∀ k, 0 ≤ k → k < l 10 (2 * V) → l 7 k = 3 → 0 ≤ l 8 k ∧ l 8 k < 12)
def u_sg (V bk : Int) (mm l : q_Mem) : Prop := ∀ v, 0 ≤ v → v < V → g_seg mm l bk (f_fs mm bk v) (mm 98 (3 * bk + v)) (l 10 (2 * v)) (l 10 (2 * v + 1)) ∧
  ((l 10 (2 * v + 1) < l 10 (2 * v + 2) ∧ g_seg mm l bk (mm 98 (3 * bk + v)) (mm 99 (3 * bk + v)) (l 10 (2 * v + 1)) (l 10 (2 * v + 2))) ∨ (l 10 (2 * v + 2) ≤ l 10 (2 * v + 1) ∧ (0 ≤ mm 98 (3 * bk + v) ∧ mm 99 (3 * bk + v) ≤ 100) ∧ mm 99 (3 * bk + v) = mm 98 (3 * bk + v) + 1 ∧ mm 100 (100 * bk + mm 98 (3 * bk + v)) = 0))
theorem u_wf_mono (h : u_wf V l) : ∀ (d : Nat) {i : Int}, 0 ≤ i → i + d ≤ 2 * V → l 10 i ≤ l 10 (i + d) := by
  intro d
  induction d with
  | zero => intro i _ _; rw [show i + ((0 : Nat) : Int) = i by omega]; exact Int.le_refl _
  | succ d ih =>
    intro i h0 h1
    have := ih (i := i) h0 (by omega)
    have h2 := (h.2.1 (i + d) (by omega) (by omega)).1
    rw [show i + ((d + 1 : Nat) : Int) = i + d + 1 by omega]
    omega
theorem u_wf_le (h : u_wf V l) {i j : Int} (h0 : 0 ≤ i) (h1 : i ≤ j) (h2 : j ≤ 2 * V) : l 10 i ≤ l 10 j := by
  have := u_wf_mono h (j - i).toNat h0 (i := i) (by omega)
  rwa [show i + ((j - i).toNat : Int) = j by omega] at this
theorem f_stk_c {s : Int} : ∀ {N : Nat} {a : List Int}, (∀ k, s ≤ k → k < s + N → l' 7 k = l 7 k ∧ l' 8 k = l 8 k ∧ l' 9 k = l 9 k) → f_stk l s N a → f_stk l' s N a := by
  intro N
  induction N with
  | zero => exact fun _ h => h
  | succ N ih =>
    intro a hk ⟨a', h1, h2⟩
    refine ⟨a', ih (fun k k0 k1 => hk k k0 (by omega)) h1, ?_⟩
    have := hk (s + N) (by omega) (by omega)
    unfold f_sp at *
    rw [this.1, this.2.1, this.2.2]
    exact h2
theorem u_wf_x (h : u_wf V l) (hV : 0 ≤ V) (e10 : ∀ i, 0 ≤ i → i ≤ 2 * V → l' 10 i = l 10 i) (e7 : ∀ k, k < l 10 (2 * V) → l' 7 k = l 7 k ∧ l' 8 k = l 8 k ∧ l' 9 k = l 9 k) (e4 : ∀ r, r < l 0 4 → l' 4 r = l 4 r ∧ l' 5 r = l 5 r ∧ l' 6 r = l 6 r) (h4 : l 0 4 ≤ l' 0 4) : u_wf V l' := by
  have le := fun {i j : Int} => u_wf_le h (i := i) (j := j)
  obtain ⟨h1, h2, h3, h5, h6, h7, h8⟩ := h
  refine ⟨by rw [e10 0 (by omega) (by omega)]; exact h1, fun i i0 i1 => by rw [e10 i i0 (by omega), e10 (i + 1) (by omega) (by omega)]; exact h2 i i0 i1, fun v v0 v1 => ?_, fun v v0 v1 => ?_, fun v k v0 v1 => ?_, fun k k0 => ?_, fun k k0 => ?_⟩
  · rw [e10 (2 * v) (by omega) (by omega), e10 (2 * v + 1) (by omega) (by omega)]
    obtain ⟨g1, g2⟩ := h3 v v0 v1
    have := le (i := 2 * v + 1) (j := 2 * V) (by omega) (by omega) (by omega)
    exact ⟨g1, f_stk_c (fun k k0 k1 => e7 k (by omega)) g2⟩
  · rw [e10 (2 * v + 2) (by omega) (by omega), e10 (2 * v + 1) (by omega) (by omega)]
    intro g1
    have := le (i := 2 * v + 2) (j := 2 * V) (by omega) (by omega) (by omega)
    exact f_stk_c (fun k k0 k1 => e7 k (by omega)) (h5 v v0 v1 g1)
  · rw [e10 (2 * v) (by omega) (by omega), e10 (2 * v + 1) (by omega) (by omega)]
    intro k0 k1
    have := le (i := 2 * v + 1) (j := 2 * V) (by omega) (by omega) (by omega)
    have e := e7 k (by omega)
    rw [e.1, e.2.1]
    intro g3
    obtain ⟨g4, g5⟩ := h6 v k v0 v1 k0 k1 g3
    have e' := e4 (l 8 k) g4.2
    rw [e'.1, e'.2.1, e'.2.2]
    exact ⟨by omega, g5⟩
  · rw [e10 (2 * V) (by omega) (by omega)]
    intro k1
    have e := e7 k k1
    rw [e.1, e.2.1]
    exact h7 k k0 k1
  · rw [e10 (2 * V) (by omega) (by omega)]
    intro k1
    have e := e7 k k1
    rw [e.1, e.2.1]
    exact h8 k k0 k1
theorem u_sg_x {C : Int} (h : u_sg V bk mm l) (hw : u_wf V l) (hb : ∀ v, 0 ≤ v → v < V → mm 98 (3 * bk + v) ≤ C ∧ mm 99 (3 * bk + v) ≤ C) (e10 : ∀ i, 0 ≤ i → i ≤ 2 * V → l' 10 i = l 10 i) (e7 : ∀ k, k < l 10 (2 * V) → l' 7 k = l 7 k ∧ l' 8 k = l 8 k ∧ l' 9 k = l 9 k) (e98 : ∀ v, 0 ≤ v → v < V → mm' 98 (3 * bk + v) = mm 98 (3 * bk + v) ∧ mm' 99 (3 * bk + v) = mm 99 (3 * bk + v)) (e100 : ∀ i, i < C → mm' 100 (100 * bk + i) = mm 100 (100 * bk + i)) : u_sg V bk mm' l' := by
  have le := fun {i j : Int} => u_wf_le hw (i := i) (j := j)
  intro v v0 v1
  have hc := h v v0 v1
  obtain ⟨b1, b2⟩ := hb v v0 v1
  have r1 := le (i := 2 * v + 1) (j := 2 * V) (by omega) (by omega) (by omega)
  have r2 := le (i := 2 * v + 2) (j := 2 * V) (by omega) (by omega) (by omega)
  have ef : f_fs mm' bk v = f_fs mm bk v := by
    unfold f_fs
    by_cases c : v = 0
    · rw [if_pos c, if_pos c]
    · have := (e98 (v - 1) (by omega) (by omega)).2
      rw [if_neg c, if_neg c, show 3 * bk + v - 1 = 3 * bk + (v - 1) by omega, this]
  have sg : ∀ x y s z, y ≤ C → z ≤ l 10 (2 * V) → g_seg mm l bk x y s z → g_seg mm' l' bk x y s z := by
    intro x y s z hy hz ⟨g1, g2, g3⟩
    refine ⟨g1, g2, fun i i0 i1 => ?_⟩
    have e := e7 (s + i) (by omega)
    rw [e100 _ (by omega), g3 i i0 i1]
    unfold f_cd
    rw [e.1, e.2.1]
  rw [ef, (e98 v v0 v1).1, (e98 v v0 v1).2, e10 (2 * v) (by omega) (by omega), e10 (2 * v + 1) (by omega) (by omega), e10 (2 * v + 2) (by omega) (by omega)]
  refine ⟨sg _ _ _ _ b1 (by omega) hc.1, ?_⟩
  rcases hc.2 with ⟨g1, g2⟩ | ⟨g1, g2, g3, g4⟩
  · exact Or.inl ⟨g1, sg _ _ _ _ b2 (by omega) g2⟩
  · exact Or.inr ⟨g1, g2, g3, by rw [e100 _ (by omega)]; exact g4⟩
/-- one more -/
theorem u_wf_1 (h : u_wf V l) (hV : 0 ≤ V) {s1 s2 : Int} (e1 : l 10 (2 * V + 1) = s1) (e2 : l 10 (2 * V + 2) = s2) (h01 : l 10 (2 * V) < s1) (h12 : s1 ≤ s2) (h80 : s2 ≤ 80) (hk1 : f_stk l (l 10 (2 * V)) (s1 - l 10 (2 * V)).toNat [s1 - 1]) (hk2 : s1 < s2 → f_stk l s1 (s2 - s1).toNat [s2 - 1]) (h3 : ∀ k, l 10 (2 * V) ≤ k → k < s1 → l 7 k = 3 → (0 ≤ l 8 k ∧ l 8 k < l 0 4) ∧ (l 5 (l 8 k) = 0 → l 6 (l 8 k) = 0 → l 4 (l 8 k) < V)) (h0 : ∀ k, l 10 (2 * V) ≤ k → k < s2 → l 7 k = 0 → 0 ≤ l 8 k ∧ l 8 k ≤ 999) (h3' : ∀ k, l 10 (2 * V) ≤ k → k < s2 → l 7 k = 3 → 0 ≤ l 8 k ∧ l 8 k < 12) : u_wf (V + 1) l := by
  obtain ⟨a1, a2, a3, a4, a5, a6, a7⟩ := h
  have e22 : l 10 (2 * (V + 1)) = s2 := by rw [show 2 * (V + 1) = 2 * V + 2 by omega]; exact e2
  refine ⟨a1, fun i i0 i1 => ?_, fun v v0 v1 => ?_, fun v v0 v1 => ?_, fun v k v0 v1 => ?_, fun k k0 => ?_, fun k k0 => ?_⟩
  · by_cases c : i < 2 * V
    · exact a2 i i0 c
    · by_cases c1 : i = 2 * V
      · rw [c1, e1]; omega
      · rw [show i = 2 * V + 1 by omega, e1, show 2 * V + 1 + 1 = 2 * V + 2 by omega, e2]; omega
  · by_cases c : v < V
    · exact a3 v v0 c
    · rw [show v = V by omega, e1]; exact ⟨h01, hk1⟩
  · by_cases c : v < V
    · exact a4 v v0 c
    · rw [show v = V by omega, e1, e2]; exact hk2
  · by_cases c : v < V
    · exact a5 v k v0 c
    · rw [show v = V by omega, e1]; exact h3 k
  · rw [e22]
    intro k1
    by_cases c : k < l 10 (2 * V)
    · exact a6 k k0 c
    · exact h0 k (by omega) k1
  · rw [e22]
    intro k1
    by_cases c : k < l 10 (2 * V)
    · exact a7 k k0 c
    · exact h3' k (by omega) k1
end lines
