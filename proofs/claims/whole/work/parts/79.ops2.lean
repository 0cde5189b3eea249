/-! CALLS: image, back, broken, about, fault, end -/
section ops2
variable {l m m' : q_Mem} {o : Int → Int} {x z n ft pl : Int} {L X : Int → Int → Int} {F T : Int → Int}
theorem r_ok_cnt {R : Int → Int} (h : r_ok R o) : g_cnt (fun c => R (5 + c) == 1) 64 = q_bc (o 5) := by
  rw [z_bc]
  refine g_cnt_congr fun c c0 c1 => ?_
  have hz := z_un (o 5) c0 c1
  have hr := h.2 c c0 c1
  by_cases cc : f_un (o 5) c
  · rw [hr.1 cc, hz.mp cc]; rfl
  · rw [hr.2 cc]
    have : (BitVec.ofInt 64 (o 5)).getLsbD c.toNat = true := by
      cases hb : (BitVec.ofInt 64 (o 5)).getLsbD c.toNat with
      | true => rfl
      | false => exact absurd (hz.mpr hb) cc
    rw [this]
    rfl
theorem a_fault {v : Int} (hv : q_32 v) : j_op (f_PG_fault v) (f_Mod_fault v) := by
  refine j_op_of fun l x z L F X n T ft pl m hk hc hm => ?_
  obtain ⟨_, _, t3, t4⟩ := hc.2.2.2.2
  by_cases c0 : q_w v = 0
  · refine a_same (A := ft) hk hc (by unfold f_PG_fault; rw [if_pos c0, t3, x_rt]) fun m1 hm1 => by unfold f_Mod_fault; rw [if_pos c0, hm1.2.2.2.2.2.2.1, x_rt]
  · by_cases c1 : q_w v = 1
    · refine a_same (A := pl) hk hc (by unfold f_PG_fault; rw [if_neg c0, if_pos c1, t4.1, x_rt]) fun m1 hm1 => by unfold f_Mod_fault; rw [if_neg c0, if_pos c1, hm1.2.2.2.2.2.2.2.1, x_rt]
    · exact a_same (A := -1) hk hc (by unfold f_PG_fault; rw [if_neg c0, if_neg c1, x_rt]) fun m1 hm1 => by unfold f_Mod_fault; rw [if_neg c0, if_neg c1, x_rt]
theorem a_end {v : Int} (hv : q_32 v) : j_op (f_PG_end v) (f_Mod_end v) := by
  refine j_op_of fun l x z L F X n T ft pl m hk hc hm => ?_
  obtain ⟨t1, t2, t3, t4⟩ := hc.2.2.2.2
  have hn := hk.2.2.2.1
  have hv' : q_w v = v := q_w_id hv.1 hv.2
  by_cases c0 : v < 0
  · exact a_same (A := -1) hk hc (by unfold f_PG_end; rw [hv', if_pos c0, x_rt]) fun m1 hm1 => by unfold f_Mod_end; rw [hv', if_pos c0, x_rt]
  · by_cases c1 : v ≤ n
    · refine ⟨v, l, x, z, L, F, X, v, T, ft, pl, ⟨hk.1, hk.2.1, hk.2.2.1, by omega, hk.2.2.2.2⟩, ?_, fun m1 hm1 => ?_⟩
      · unfold f_PG_end
        rw [hv', if_neg c0, t1, q_w_id (x := n) (by omega) (by omega), if_pos c1, x_pf]
        have f1 : ∀ c, c ≠ 1 → q_up m 1 1 v c = m c := fun c hc => q_up_f hc
        refine o_rt ⟨hv', fun c hc => f1 c (by omega), ?_⟩
        obtain ⟨h1, h2, h3, h4, h5⟩ := hc
        have fc : k_C l (L x) (q_up m 1 1 v) := by
          obtain ⟨⟨g1, g2⟩, ⟨g3, g4, g5⟩, g6, g7, g8, g9⟩ := h1
          have hy := k_Ly_rg g4
          have ht : m 0 1 = 3 ∨ m 0 1 = 14 := by simpa [q_Lp] using g1
          have e0 := f1 0 (by decide)
          have e28 := f1 28 (by decide)
          have e29 := f1 29 (by decide)
          refine ⟨⟨by rw [e0]; exact g1, ?_⟩, ⟨by rw [e28]; exact g3, by rw [e28, e29]; exact g4, ?_⟩, k_web_fr g6 fun c _ _ => f1 c (by omega), k_plac_fr g7 fun c _ _ => f1 c (by omega), by rw [f1 54 (by decide), f1 74 (by decide)]; exact g8, by rw [e0, f1 75 (by decide)]; exact g9⟩
          · rw [e0]
            refine ⟨fun i => ?_, fun j i j1 j2 => ?_⟩
            · rw [f1 _ (by omega)]; exact g2.1 i
            · rw [f1 _ (by omega)]; exact g2.2 j i j1 j2
          · intro i i0 i1
            rw [e28, e29, f1 _ (by omega)]
            exact g5 i i0 i1
        exact ⟨fc, j_H_fr h2 fun c _ _ => f1 c (by omega), j_B_fr h3 fun c hc => f1 c (by omega), by rw [f1 0 (by decide)]; exact h4, q_up_s _ _ _ _, by rw [f1 2 (by decide)]; exact t2, by rw [f1 25 (by decide)]; exact t3, by rw [f1 25 (by decide)]; exact t4⟩
      · obtain ⟨h1, h2, h3, h4, s1, s2, s3, s4⟩ := hm1
        unfold f_Mod_end
        rw [hv', if_neg c0, s1, q_w_id (x := n) (by omega) (by omega), if_pos c1, x_pf]
        have f1 : ∀ c, c ≠ 81 → q_up m1 81 21 v c = m1 c := fun c hc => q_up_f hc
        refine o_rt ⟨hv', fun c hc => f1 c (by omega), k_M_115 h1 (fun c _ _ c2 => f1 c c2) (q_up_i (by decide)) (by rw [f1 115 (by decide)]; exact h1.2.2), j_HM_fr h2 (q_up_i (by decide)) (q_up_i (by decide)) (f1 123 (by decide)), j_BM_fr h3 (f1 124 (by decide)) (f1 125 (by decide)), j_W_fr h4 (f1 102 (by decide)), q_up_s _ _ _ _, by rw [f1 101 (by decide)]; exact s2, by rw [q_up_i (by decide)]; exact s3, by rw [q_up_i (by decide)]; exact s4⟩
    · exact a_same (A := -1) hk hc (by unfold f_PG_end; rw [hv', if_neg c0, t1, q_w_id (x := n) (by omega) (by omega), if_neg c1, x_rt]) fun m1 hm1 => by unfold f_Mod_end; rw [hv', if_neg c0, hm1.2.2.2.2.1, q_w_id (x := n) (by omega) (by omega), if_neg c1, x_rt]
theorem a_about {v : Int} (hv : q_32 v) : j_op (f_PG_about v) (f_Mod_about v) := by
  refine j_op_of fun l x z L F X n T ft pl m hk hc hm => ?_
  have hv' : q_w v = v := q_w_id hv.1 hv.2
  have hC := hc.1
  obtain ⟨t1, t2, t3, t4⟩ := hc.2.2.2.2
  have hl := hC.1.2.1
  have ho := hC.2.1.2.2
  have hcell : ∀ m1, j_M l x z L F X n T ft pl m1 → ∀ i, 0 ≤ i → i ≤ 4 → f_Mod_about_b106 (i + 5) m1 = some (L x i, m1) := by
    intro m1 hm1 i i0 i4
    unfold f_Mod_about_b106
    rw [show i + 5 - 5 = i by omega, x_rd (n := 69) i0 (by omega) (by decide), hm1.1.2.2.1 i i0 i4, x_rt]
  have cur := s_current hC
  by_cases c0 : v = 0
  · subst c0
    exact a_same (A := l 0 0) hk hc (by unfold f_PG_about; rw [cur, x_bd, x_one hC.2.1.2.1, if_pos hv', x_lt, x_one hC.1.1, hl, x_rt]) fun m1 hm1 => by unfold f_Mod_about; rw [if_pos hv', m_rows hm1.1.1, x_bd, x_rt]
  by_cases c1 : v = 1
  · subst c1
    exact a_same (A := l 0 1) hk hc (by unfold f_PG_about; rw [cur, x_bd, x_one hC.2.1.2.1, if_neg (by decide), if_pos hv', x_lt, x_one hC.1.1, hl, x_rt]) fun m1 hm1 => by unfold f_Mod_about; rw [if_neg (by decide), if_pos hv', m_columns hm1.1.1, x_bd, x_rt]
  by_cases c2 : v = 2
  · subst c2
    exact a_same (A := l 0 2) hk hc (by unfold f_PG_about; rw [cur, x_bd, x_one hC.2.1.2.1, if_neg (by decide), if_neg (by decide), if_pos hv', x_lt, x_one hC.1.1, hl, x_rt]) fun m1 hm1 => by unfold f_Mod_about; rw [if_neg (by decide), if_neg (by decide), if_pos hv', m_many hm1.1.1, x_bd, x_rt]
  by_cases c3 : v = 3
  · subst c3
    exact a_same (A := l 0 5) hk hc (by unfold f_PG_about; rw [cur, x_bd, x_one hC.2.1.2.1, if_neg (by decide), if_neg (by decide), if_neg (by decide), if_pos hv', x_lt, x_one hC.1.1, hl, x_rt]) fun m1 hm1 => by unfold f_Mod_about; rw [if_neg (by decide), if_neg (by decide), if_neg (by decide), if_pos hv', m_offsets hm1.1.1, x_bd, x_rt]
  by_cases c4 : v = 4
  · subst c4
    refine a_same (A := l 0 4) hk hc (by unfold f_PG_about; rw [cur, x_bd, x_one hC.2.1.2.1, if_neg (by decide), if_neg (by decide), if_neg (by decide), if_neg (by decide), if_pos hv', x_lt, x_one hC.1.1, hl, x_rt]) fun m1 hm1 => ?_
    obtain ⟨b, hb, h19, ⟨g1, g2, g3, g4, g5, g6⟩, _⟩ := hm1.1.1
    unfold f_Mod_about
    rw [if_neg (by decide), if_neg (by decide), if_neg (by decide), if_neg (by decide), if_pos hv', h19, x_rd (n := 2) (by omega) (by omega) (by decide), g5, x_rt]
  have n0 : ¬ q_w v = 0 := by rw [hv']; exact c0
  have n1 : ¬ q_w v = 1 := by rw [hv']; exact c1
  have n2 : ¬ q_w v = 2 := by rw [hv']; exact c2
  have n3 : ¬ q_w v = 3 := by rw [hv']; exact c3
  have n4 : ¬ q_w v = 4 := by rw [hv']; exact c4
  by_cases c5 : v = 5
  · subst c5
    exact a_same (A := L x 0) hk hc (by unfold f_PG_about; rw [cur, x_bd, x_one hC.2.1.2.1, if_neg n0, if_neg n1, if_neg n2, if_neg n3, if_neg n4, if_pos hv', ho 0 (by decide) (by decide), x_rt]) fun m1 hm1 => by unfold f_Mod_about; rw [if_neg n0, if_neg n1, if_neg n2, if_neg n3, if_neg n4, if_pos hv']; exact hcell m1 hm1 0 (by decide) (by decide)
  by_cases c6 : v = 6
  · subst c6
    exact a_same (A := L x 1) hk hc (by unfold f_PG_about; rw [cur, x_bd, x_one hC.2.1.2.1, if_neg n0, if_neg n1, if_neg n2, if_neg n3, if_neg n4, if_neg (by decide), if_pos hv', ho 1 (by decide) (by decide), x_rt]) fun m1 hm1 => by unfold f_Mod_about; rw [if_neg n0, if_neg n1, if_neg n2, if_neg n3, if_neg n4, if_neg (by decide), if_pos hv']; exact hcell m1 hm1 1 (by decide) (by decide)
  by_cases c7 : v = 7
  · subst c7
    exact a_same (A := L x 2) hk hc (by unfold f_PG_about; rw [cur, x_bd, x_one hC.2.1.2.1, if_neg n0, if_neg n1, if_neg n2, if_neg n3, if_neg n4, if_neg (by decide), if_neg (by decide), if_pos hv', ho 2 (by decide) (by decide), x_rt]) fun m1 hm1 => by unfold f_Mod_about; rw [if_neg n0, if_neg n1, if_neg n2, if_neg n3, if_neg n4, if_neg (by decide), if_neg (by decide), if_pos hv']; exact hcell m1 hm1 2 (by decide) (by decide)
  by_cases c8 : v = 8
  · subst c8
    exact a_same (A := L x 3) hk hc (by unfold f_PG_about; rw [cur, x_bd, x_one hC.2.1.2.1, if_neg n0, if_neg n1, if_neg n2, if_neg n3, if_neg n4, if_neg (by decide), if_neg (by decide), if_neg (by decide), if_pos hv', ho 3 (by decide) (by decide), x_rt]) fun m1 hm1 => by unfold f_Mod_about; rw [if_neg n0, if_neg n1, if_neg n2, if_neg n3, if_neg n4, if_neg (by decide), if_neg (by decide), if_neg (by decide), if_pos hv']; exact hcell m1 hm1 3 (by decide) (by decide)
  by_cases c9 : v = 9
  · subst c9
    exact a_same (A := L x 4) hk hc (by unfold f_PG_about; rw [cur, x_bd, x_one hC.2.1.2.1, if_neg n0, if_neg n1, if_neg n2, if_neg n3, if_neg n4, if_neg (by decide), if_neg (by decide), if_neg (by decide), if_neg (by decide), if_pos hv', ho 4 (by decide) (by decide), x_rt]) fun m1 hm1 => by unfold f_Mod_about; rw [if_neg n0, if_neg n1, if_neg n2, if_neg n3, if_neg n4, if_neg (by decide), if_neg (by decide), if_neg (by decide), if_neg (by decide), if_pos hv']; exact hcell m1 hm1 4 (by decide) (by decide)
  have n5 : ¬ q_w v = 5 := by rw [hv']; exact c5
  have n6 : ¬ q_w v = 6 := by rw [hv']; exact c6
  have n7 : ¬ q_w v = 7 := by rw [hv']; exact c7
  have n8 : ¬ q_w v = 8 := by rw [hv']; exact c8
  have n9 : ¬ q_w v = 9 := by rw [hv']; exact c9
  by_cases c10 : v = 10
  · subst c10
    exact a_same (A := q_bc (L x 5)) hk hc (by unfold f_PG_about; rw [cur, x_bd, x_one hC.2.1.2.1, if_neg n0, if_neg n1, if_neg n2, if_neg n3, if_neg n4, if_neg n5, if_neg n6, if_neg n7, if_neg n8, if_neg n9, if_pos hv', ho 5 (by decide) (by decide), x_rt]) fun m1 hm1 => by unfold f_Mod_about; rw [if_neg n0, if_neg n1, if_neg n2, if_neg n3, if_neg n4, if_neg n5, if_neg n6, if_neg n7, if_neg n8, if_neg n9, if_pos hv', m_brokenMany hm1.1, x_bd, x_rt, r_ok_cnt hm1.1.2.2]
  have n10 : ¬ q_w v = 10 := by rw [hv']; exact c10
  by_cases c11 : v = 11
  · subst c11
    refine a_same (A := l 0 3) hk hc (by unfold f_PG_about; rw [cur, x_bd, x_one hC.2.1.2.1, if_neg n0, if_neg n1, if_neg n2, if_neg n3, if_neg n4, if_neg n5, if_neg n6, if_neg n7, if_neg n8, if_neg n9, if_neg n10, if_pos hv', x_lt, x_one hC.1.1, hl, x_rt]) fun m1 hm1 => ?_
    obtain ⟨b, hb, h19, ⟨g1, g2, g3, g4, g5, g6⟩, _⟩ := hm1.1.1
    unfold f_Mod_about
    rw [if_neg n0, if_neg n1, if_neg n2, if_neg n3, if_neg n4, if_neg n5, if_neg n6, if_neg n7, if_neg n8, if_neg n9, if_neg n10, if_pos hv', h19, x_rd (n := 2) (by omega) (by omega) (by decide), g4, x_rt]
  have n11 : ¬ q_w v = 11 := by rw [hv']; exact c11
  by_cases c12 : v = 12
  · subst c12
    exact a_same (A := x) hk hc (by unfold f_PG_about; rw [cur, x_bd, x_one hC.2.1.2.1, if_neg n0, if_neg n1, if_neg n2, if_neg n3, if_neg n4, if_neg n5, if_neg n6, if_neg n7, if_neg n8, if_neg n9, if_neg n10, if_neg n11, if_pos hv', hc.2.1.1.1, x_rt]) fun m1 hm1 => by unfold f_Mod_about; rw [if_neg n0, if_neg n1, if_neg n2, if_neg n3, if_neg n4, if_neg n5, if_neg n6, if_neg n7, if_neg n8, if_neg n9, if_neg n10, if_neg n11, if_pos hv', hm1.2.1.1.1, x_rt]
  have n12 : ¬ q_w v = 12 := by rw [hv']; exact c12
  by_cases c13 : v = 13
  · subst c13
    exact a_same (A := z - x) hk hc (by unfold f_PG_about; rw [cur, x_bd, x_one hC.2.1.2.1, if_neg n0, if_neg n1, if_neg n2, if_neg n3, if_neg n4, if_neg n5, if_neg n6, if_neg n7, if_neg n8, if_neg n9, if_neg n10, if_neg n11, if_neg n12, if_pos hv', hc.2.1.1.1, hc.2.1.1.2, x_rt]) fun m1 hm1 => by unfold f_Mod_about; rw [if_neg n0, if_neg n1, if_neg n2, if_neg n3, if_neg n4, if_neg n5, if_neg n6, if_neg n7, if_neg n8, if_neg n9, if_neg n10, if_neg n11, if_neg n12, if_pos hv', hm1.2.1.1.2, x_rt]
  have n13 : ¬ q_w v = 13 := by rw [hv']; exact c13
  by_cases c14 : v = 14
  · subst c14
    exact a_same (A := n) hk hc (by unfold f_PG_about; rw [cur, x_bd, x_one hC.2.1.2.1, if_neg n0, if_neg n1, if_neg n2, if_neg n3, if_neg n4, if_neg n5, if_neg n6, if_neg n7, if_neg n8, if_neg n9, if_neg n10, if_neg n11, if_neg n12, if_neg n13, if_pos hv', t1, x_rt]) fun m1 hm1 => by unfold f_Mod_about; rw [if_neg n0, if_neg n1, if_neg n2, if_neg n3, if_neg n4, if_neg n5, if_neg n6, if_neg n7, if_neg n8, if_neg n9, if_neg n10, if_neg n11, if_neg n12, if_neg n13, if_pos hv', hm1.2.2.2.2.1, x_rt]
  have n14 : ¬ q_w v = 14 := by rw [hv']; exact c14
  exact a_same (A := -1000) hk hc (by unfold f_PG_about; rw [cur, x_bd, x_one hC.2.1.2.1, if_neg n0, if_neg n1, if_neg n2, if_neg n3, if_neg n4, if_neg n5, if_neg n6, if_neg n7, if_neg n8, if_neg n9, if_neg n10, if_neg n11, if_neg n12, if_neg n13, if_neg n14, x_rt]) fun m1 hm1 => by unfold f_Mod_about; rw [if_neg n0, if_neg n1, if_neg n2, if_neg n3, if_neg n4, if_neg n5, if_neg n6, if_neg n7, if_neg n8, if_neg n9, if_neg n10, if_neg n11, if_neg n12, if_neg n13, if_neg n14, x_rt]
end ops2
