/-! THE PARSER: a let line: the formulas told -/
def u_Y (bk : Int) (l mc mm : q_Mem) : Prop := (mm 82 bk = l 0 0 ∧ mm 83 bk = l 0 1 ∧ (1 ≤ l 0 0 ∧ l 0 0 ≤ 10) ∧ (1 ≤ l 0 1 ∧ l 0 1 ≤ 10)) ∧ (mm 88 bk = l 1 0 ∧ mm 89 bk = l 1 1 ∧ mm 90 bk = l 1 2 ∧ mm 91 bk = l 1 3) ∧ ((-9 ≤ l 1 0 ∧ l 1 0 ≤ 9) ∧ (-9 ≤ l 1 1 ∧ l 1 1 ≤ 9) ∧ g_line (l 1 2) (l 1 3) ∧ l 1 4 = 1 ∧ l 1 5 = 0) ∧ (mc 25 6 = mm 81 35 ∧ mc 25 7 = mm 81 36 ∧ (mc 25 6 = 0 ∨ mc 25 6 = 1) ∧ (mc 25 7 = 0 ∨ mc 25 7 = 1))
def u_Z (V d bk : Int) (l mm : q_Mem) : Prop := u_wf V l ∧ (l 0 7 = 2 * V ∧ l 10 (2 * V) = l 0 6) ∧ u_sg V bk mm l ∧ (∀ v, 0 ≤ v → v < V → mm 98 (3 * bk + v) ≤ mm 92 bk ∧ mm 99 (3 * bk + v) ≤ mm 92 bk) ∧ mm 92 bk = l 0 6 + d ∧ (0 ≤ d ∧ d ≤ V) ∧ f_fs mm bk V = mm 92 bk ∧ mm 84 bk = V
def n_cf (l : q_Mem) : q_Mem := q_up (q_up l 0 7 (l 0 7 + 1)) 10 (l 0 7 + 1) (l 0 6)
section let2
variable {T : Int → Int} {n t bk V ed d k a b w W : Int} {f e : Int → Int} {l mc mm : q_Mem}
theorem u_Zfin {s0 s1 s2 : Int} (hV : 0 ≤ V ∧ V ≤ 2) (hd : 0 ≤ d ∧ d ≤ V) (hw : u_wf V l) (hW : l 0 4 ≤ 12) (e7 : l 0 7 = 2 * V + 2) (e0 : l 10 (2 * V) = s0) (e1 : l 10 (2 * V + 1) = s1) (e2 : l 10 (2 * V + 2) = s2) (e6 : l 0 6 = s2) (h00 : 0 ≤ s0) (h01 : s0 < s1) (h12 : s1 ≤ s2) (h80 : s2 ≤ 80) (hk1 : f_stk l s0 (s1 - s0).toNat [s1 - 1]) (hk2 : s1 < s2 → f_stk l s1 (s2 - s1).toNat [s2 - 1]) (hnd : u_nd (V + 1) s0 l) (hsg : u_sg V bk mm l) (hbd : ∀ v, 0 ≤ v → v < V → mm 98 (3 * bk + v) ≤ s0 + d ∧ mm 99 (3 * bk + v) ≤ s0 + d) (e98 : mm 98 (3 * bk + V) = s1 + d) (e99 : mm 99 (3 * bk + V) = mm 92 bk) (hfs : f_fs mm bk V = s0 + d) (hcd : u_cd bk mm l d s0 s1) (hed : (s1 < s2 ∧ mm 92 bk = s2 + d ∧ u_cd bk mm l d s1 s2) ∨ (s2 = s1 ∧ mm 92 bk = s1 + d + 1 ∧ mm 100 (100 * bk + (s1 + d)) = 0)) (e84 : mm 84 bk = V + 1) : ∃ d', u_Z (V + 1) d' bk l mm := by
  have hC : s1 + d ≤ mm 92 bk ∧ mm 92 bk ≤ 84 := by rcases hed with ⟨h1, h2, _⟩ | ⟨h1, h2, _⟩ <;> omega
  have e2' : l 10 (2 * (V + 1)) = s2 := by rw [show 2 * (V + 1) = 2 * V + 2 by omega]; exact e2
  have segs : ∀ x y : Int, 0 ≤ x → x ≤ y → y ≤ 80 → u_cd bk mm l d x y → g_seg mm l bk (x + d) (y + d) x y := by
    intro x y x0 xy y8 hc
    refine ⟨by omega, by omega, fun i i0 i1 => ?_⟩
    have := hc (x + i) (by omega) (by omega)
    rw [show x + d + i = x + i + d by omega]
    exact this
  have hsg1 : u_sg (V + 1) bk mm l := by
    intro v v0 v1
    by_cases c : v < V
    · exact hsg v v0 c
    · rw [show v = V by omega, hfs, e98, e99, e0, e1, e2]
      refine ⟨segs s0 s1 h00 (by omega) (by omega) hcd, ?_⟩
      rcases hed with ⟨h1, h2, h3⟩ | ⟨h1, h2, h3⟩
      · refine Or.inl ⟨h1, ?_⟩
        rw [h2]
        exact segs s1 s2 (by omega) h12 h80 h3
      · exact Or.inr ⟨by omega, by omega, h2, h3⟩
  have hbd1 : ∀ v, 0 ≤ v → v < V + 1 → mm 98 (3 * bk + v) ≤ mm 92 bk ∧ mm 99 (3 * bk + v) ≤ mm 92 bk := by
    intro v v0 v1
    by_cases c : v < V
    · have := hbd v v0 c; omega
    · rw [show v = V by omega]; omega
  have hfs1 : f_fs mm bk (V + 1) = mm 92 bk := by
    unfold f_fs
    rw [if_neg (by omega), show 3 * bk + (V + 1) - 1 = 3 * bk + V by omega]
    exact e99
  have hwf : u_wf (V + 1) l := by
    refine u_wf_1 hw hV.1 e1 e2 (by omega) h12 h80 (by rw [e0]; exact hk1) hk2 (fun k k0 k1 k3 => ?_) (fun k k0 k1 => ?_) (fun k k0 k1 k3 => ?_)
    · have := (hnd k (by omega) (by omega)).2 k3
      refine ⟨this.1, fun q1 q2 => ?_⟩
      have := this.2 q1 q2
      omega
    · exact (hnd k (by omega) (by omega)).1
    · have := ((hnd k (by omega) (by omega)).2 k3).1
      omega
  rcases hed with ⟨h1, h2, _⟩ | ⟨h1, h2, _⟩
  · exact ⟨d, hwf, ⟨by omega, by rw [e2', e6]⟩, hsg1, hbd1, by omega, by omega, hfs1, e84⟩
  · exact ⟨d + 1, hwf, ⟨by omega, by rw [e2', e6]⟩, hsg1, hbd1, by omega, by omega, hfs1, e84⟩
theorem n_cf_e (l : q_Mem) : (∀ i, i ≠ 7 → n_cf l 0 i = l 0 i) ∧ n_cf l 0 7 = l 0 7 + 1 ∧ (∀ j, j ≠ 0 → j ≠ 10 → n_cf l j = l j) ∧ (∀ i, i ≠ l 0 7 + 1 → n_cf l 10 i = l 10 i) ∧ n_cf l 10 (l 0 7 + 1) = l 0 6 := by
  unfold n_cf
  refine ⟨fun i hi => ?_, ?_, fun j j0 j1 => ?_, fun i hi => ?_, q_up_s _ _ _ _⟩
  · rw [q_up_c (by decide), q_up_i hi]
  · rw [q_up_c (by decide), q_up_s]
  · rw [q_up_f j1, q_up_f j0]
  · rw [q_up_i hi, q_up_c (by decide)]
theorem u_S_cf (htL : t ∈ q_Lp) (h : u_S T n t bk V ed f e l mc mm k a b w W) (hF : 0 ≤ l 0 7 ∧ l 0 7 < 6) : ∃ mc', f_Loop_closeFormula t mc = some (0, mc') ∧ u_S T n t bk V ed f e (n_cf l) mc' mm k a b w W ∧ u_fC t mc mc' ∧ mc' 25 = mc 25 ∧ mc' 1 = mc 1 := by
  have ht := u_Lp htL
  have hl := h.2.1.2.2
  have e7 : mc t 7 = l 0 7 := by rw [← u_l_0 t mc, hl]
  have e6 : mc t 6 = l 0 6 := by rw [← u_l_0 t mc, hl]
  obtain ⟨n1, n2, n3, n4, n5⟩ := n_cf_e l
  have cc : ∀ c, c ≠ t → c ≠ t + 10 → q_up (q_up mc t 7 (l 0 7 + 1)) (t + 10) (l 0 7 + 1) (l 0 6) c = mc c := fun c c1 c2 => by rw [q_up_f c2, q_up_f c1]
  refine ⟨_, c_closeFormula htL hF e7 e6, u_S_c h (cc 1 (by omega) (by omega)) (cc 2 (by omega) (by omega)) ?_ (cc 26 (by omega) (by omega)) (cc 27 (by omega) (by omega)) ?_ (fun i i0 i1 => n1 i (by omega)) (fun j j0 j1 => n3 j (by omega) (by omega)), u_fC_tr (u_fC_up htL (by omega)) (u_fC_up htL (by omega)), cc 25 (by omega) (by omega), cc 1 (by omega) (by omega)⟩
  · rw [cc 25 (by omega) (by omega)]; exact ⟨rfl, h.2.1.2.1, rfl, rfl⟩
  · rw [u_l_up (by decide) (by decide), u_l_up0, hl]; rfl
end let2
