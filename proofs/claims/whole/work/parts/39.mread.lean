/-! THE MODEL RECKONS A POINT -/
section mread
variable {m l : q_Mem}
/-- which row a way of reading reads, and why it may -/
def f_way (l m : q_Mem) (T : Int → Int) (p way xc : Int) : Prop := ((way = 0 ∧ xc = 110 ∨ way = 2 ∧ xc = 112) ∧ ∀ o, 0 ≤ o → o < l 0 5 → g_tg l p o ≠ -1 → T (g_tg l p o) < T p) ∨ (way = 1 ∧ xc = 111 ∧ T = m 116 ∧ ∀ q, g_pt l q → -1 ≤ m 116 q ∧ m 116 q < 10000)
theorem m_readAt (h : g_ML m l) (hF : g_MF m l) (hg : g_lw l) (hw : f_wf l) {T : Int → Int} {p r way xc : Int} (hp : g_pt l p) (hr : 0 ≤ r ∧ r < l 0 4) (hy : f_way l m T p way xc) : q_ok (f_Mod_readAt r (p / 10) (p % 10) way m) (fun x m' => x = f_rd l T (m xc) p r ∧ ∀ c, c ≠ 114 → m' c = m c) := by
  have h2 := hg.2.2.1
  have h4 := hg.2.2.2.1
  have h6 := hg.2.2.2.2.2.2.2.1 r hr.1 hr.2
  have hp' := hp.1
  obtain ⟨b, hb, h19, hF⟩ := hF
  have hbk : m 93 (12 * b + r) = l 4 r ∧ m 94 (12 * b + r) = l 5 r ∧ m 95 (12 * b + r) = l 6 r := by
    obtain ⟨b', hb', h19', _, _, hh⟩ := h
    have : b' = b := by rw [← h19', h19]
    subst this
    exact hh r hr.1 hr.2
  unfold f_Mod_readAt
  simp only [h19]
  rw [x_rd (n := 24) (by omega) (by omega) (by decide), x_rd (n := 24) (by omega) (by omega) (by decide), x_rd (n := 24) (by omega) (by omega) (by decide), hbk.1, hbk.2.1, hbk.2.2, m_isPoint h hg (by omega) (by omega), x_bd]
  unfold f_rd
  dsimp only
  have emv : g_mv (l 0 0) (l 0 1) p (l 5 r) (l 6 r) = if g_in (l 0 0) (l 0 1) (p / 10 + l 5 r) (p % 10 + l 6 r) then (p / 10 + l 5 r) * 10 + (p % 10 + l 6 r) else -1 := rfl
  by_cases c : g_in (l 0 0) (l 0 1) (p / 10 + l 5 r) (p % 10 + l 6 r)
  · rw [if_pos c] at emv
    have cne : g_mv (l 0 0) (l 0 1) p (l 5 r) (l 6 r) ≠ -1 := by
      have := c.1
      have := c.2
      omega
    have hqp := (g_mv_pt hg.1.2 hg.2.1.2 cne)
    have hq' := hqp.1
    rw [if_pos c, x_w1, if_neg (by decide), if_neg cne, show 10 * (p / 10 + l 5 r) + (p % 10 + l 6 r) = g_mv (l 0 0) (l 0 1) p (l 5 r) (l 6 r) by omega]
    rcases hy with ⟨hy, hlt⟩ | ⟨rfl, rfl, rfl, hb2⟩
    · have hif : g_mv (l 0 0) (l 0 1) p (l 5 r) (l 6 r) = p ∨ T (g_mv (l 0 0) (l 0 1) p (l 5 r) (l 6 r)) < T p := by
        rcases hg.2.2.2.2.2.2.2.2 r hr.1 hr.2 with hz | ⟨o, o0, o1, e1, e2⟩
        · refine Or.inl ?_
          rw [emv, hz.1, hz.2]; omega
        · refine Or.inr ?_
          have := hlt o o0 o1
          unfold g_tg at this
          rw [e1, e2] at this
          exact this cne
      rw [if_pos hif]
      rcases hy with ⟨rfl, rfl⟩ | ⟨rfl, rfl⟩
      · rw [x_w0, if_pos rfl, x_rd (n := 300) (by omega) (by omega) (by decide)]
        exact o_rt ⟨rfl, fun _ _ => rfl⟩
      · rw [if_neg (by decide), if_pos (by decide), x_rd (n := 300) (by omega) (by omega) (by decide)]
        exact o_rt ⟨rfl, fun _ _ => rfl⟩
    · rw [x_w1, if_neg (by decide), if_neg (by decide)]
      have t1 := hb2 _ hqp
      have t2 := hb2 _ hp
      unfold f_Mod_readAt_b153 f_Mod_readAt_b172 f_Mod_readAt_b177 f_Mod_tickOf
      rw [show 10 * (p / 10) + p % 10 = p by omega, q_w_id (x := p / 10 + l 5 r) (by omega) (by omega), q_w_id (x := p / 10) (by omega) (by omega), q_w_id (x := p % 10 + l 6 r) (by omega) (by omega), q_w_id (x := p % 10) (by omega) (by omega)]
      simp only [x_w0, x_w1, if_true, if_neg (show ¬ (1 : Int) = 0 by decide)]
      have go1 : q_ok (q_rd m 111 300 (100 * l 4 r + g_mv (l 0 0) (l 0 1) p (l 5 r) (l 6 r)) fun v1 => q_rt v1 m) (fun x m' => x = m 111 (100 * l 4 r + g_mv (l 0 0) (l 0 1) p (l 5 r) (l 6 r)) ∧ ∀ c, c ≠ 114 → m' c = m c) := by
        rw [x_rd (n := 300) (by omega) (by omega) (by decide)]
        exact o_rt ⟨rfl, fun _ _ => rfl⟩
      by_cases c2 : g_mv (l 0 0) (l 0 1) p (l 5 r) (l 6 r) = p
      · have := g_mv_self c2 hg.2.1.2 hp'.1
        rw [if_pos (by omega), if_pos (by omega), if_pos (Or.inl c2)]
        exact go1
      · have go2 : q_ok (q_bd (q_rd m 116 100 (g_mv (l 0 0) (l 0 1) p (l 5 r) (l 6 r)) fun v1 => q_rt v1 m) fun v1 m2 => q_bd (q_rd m2 116 100 p fun v1 => q_rt v1 m2) fun v3 m4 => if q_w v3 ≤ q_w v1 then q_rt 0 m4 else q_rd m4 111 300 (100 * l 4 r + g_mv (l 0 0) (l 0 1) p (l 5 r) (l 6 r)) fun v1 => q_rt v1 m4) (fun x m' => (x = if g_mv (l 0 0) (l 0 1) p (l 5 r) (l 6 r) = p ∨ m 116 (g_mv (l 0 0) (l 0 1) p (l 5 r) (l 6 r)) < m 116 p then m 111 (100 * l 4 r + g_mv (l 0 0) (l 0 1) p (l 5 r) (l 6 r)) else 0) ∧ ∀ c, c ≠ 114 → m' c = m c) := by
          rw [x_rd (n := 100) (by omega) (by omega) (by decide), x_rt, x_bd, x_rd (n := 100) (by omega) (by omega) (by decide), x_rt, x_bd, q_w_id (by omega) (by omega), q_w_id (by omega) (by omega)]
          by_cases c3 : m 116 (g_mv (l 0 0) (l 0 1) p (l 5 r) (l 6 r)) < m 116 p
          · rw [if_neg (by omega), if_pos (Or.inr c3)]
            exact go1
          · rw [if_pos (by omega), if_neg (by omega)]
            exact o_rt ⟨rfl, fun _ _ => rfl⟩
        by_cases c4 : p / 10 + l 5 r = p / 10
        · rw [if_pos c4, if_neg (by omega)]
          exact go2
        · rw [if_neg c4]
          exact go2
  · rw [if_neg c] at emv
    rw [if_neg c, x_w0, if_pos rfl, if_pos emv]
    unfold f_Mod_edgeFrom
    simp only [h19]
    rw [x_rd (n := 6) (by omega) (by omega) (by decide), x_rt, x_bd]
    simp only [h19]
    rw [x_rd (n := 6) (by omega) (by omega) (by decide)]
    have r1 := f_wf_rg hw (i := 2 * l 4 r + 1) (by omega) (by omega)
    have r2 := f_wf_rg hw (i := 2 * l 4 r + 2) (by omega) (by omega)
    rcases (hF (l 4 r) h6.1.1 h6.1.2).2 with ⟨hlt, hsg⟩ | ⟨hle, hrg, e99, e100⟩
    · have r3 := f_wf_le hw (i := 2 * l 4 r + 2) (j := 2 * l 0 2) (by omega) (by omega) (by omega)
      have hst := hw.2.2.2.1 (l 4 r) h6.1.1 h6.1.2 hlt
      refine o_bd (m_formula hb h19 hsg hlt (by omega) hst (fun k k0 k1 => hw.2.2.2.2.2.1 k (by omega) (by omega)) (fun k k0 k1 => hw.2.2.2.2.2.2 k (by omega) (by omega))) fun x m' hx => o_rt ⟨hx.1, hx.2⟩
    · rw [e99]
      refine o_bd (m_formula0 hb h19 (by omega) e100) fun x m' hx => o_rt ⟨?_, hx.2⟩
      rw [hx.1]
      exact (if_pos hle).symm
theorem g_ML_fr {m m' l : q_Mem} (h : g_ML m l) (e : ∀ c, 81 ≤ c → c < 100 → m' c = m c) : g_ML m' l := by
  obtain ⟨b, hb, h19, ⟨a1, a2, a3, a4, a5, a6⟩, h1, h2⟩ := h
  refine ⟨b, hb, ?_, ⟨?_, ?_, ?_, ?_, ?_, ?_⟩, fun k k0 k1 => ?_, fun k k0 k1 => ?_⟩
  · rw [e 81 (by decide) (by decide)]; exact h19
  · rw [e 82 (by decide) (by decide)]; exact a1
  · rw [e 83 (by decide) (by decide)]; exact a2
  · rw [e 84 (by decide) (by decide)]; exact a3
  · rw [e 85 (by decide) (by decide)]; exact a4
  · rw [e 86 (by decide) (by decide)]; exact a5
  · rw [e 87 (by decide) (by decide)]; exact a6
  · rw [e 96 (by decide) (by decide), e 97 (by decide) (by decide)]; exact h1 k k0 k1
  · rw [e 93 (by decide) (by decide), e 94 (by decide) (by decide), e 95 (by decide) (by decide)]; exact h2 k k0 k1
theorem g_MF_of {m m' l : q_Mem} (h : g_MF m l) (e : ∀ c, 81 ≤ c → c < 101 → m' c = m c) : g_MF m' l := by
  obtain ⟨b, hb, h19, hv⟩ := h
  refine ⟨b, hb, ?_, ?_⟩
  · rw [e 81 (by decide) (by decide)]; exact h19
  · unfold g_seg f_fs at hv ⊢
    rw [e 98 (by decide) (by decide), e 99 (by decide) (by decide), e 100 (by decide) (by decide)]
    exact hv
theorem m_withReads (h : g_ML m l) (hF : g_MF m l) (hg : g_lw l) (hw : f_wf l) {T : Int → Int} {p v way xc : Int} (hp : g_pt l p) (hv : 0 ≤ v ∧ v < l 0 2) (hy : f_way l m T p way xc) : q_ok (f_Mod_withReads v (p / 10) (p % 10) way m) (fun x m' => x = f_E l T (m xc) v p ∧ ∀ c, c ≠ 113 → c ≠ 114 → m' c = m c) := by
  have h2 := hg.2.2.1
  have h4 := hg.2.2.2.1
  have hp' := hp.1
  have hyx : xc = 110 ∨ xc = 111 ∨ xc = 112 := by
    rcases hy with ⟨hy, _⟩ | ⟨_, hy, _⟩ <;> omega
  have hF' := hF
  obtain ⟨b, hb, h19, hF⟩ := hF
  obtain ⟨⟨g1, g2, g3⟩, -⟩ := hF v hv.1 hv.2
  have r1 := f_wf_rg hw (i := 2 * v) (by omega) (by omega)
  have r2 := f_wf_rg hw (i := 2 * v + 1) (by omega) (by omega)
  have r3 := f_wf_le hw (i := 2 * v + 1) (j := 2 * l 0 2) (by omega) (by omega) (by omega)
  obtain ⟨hlt, hst⟩ := hw.2.2.1 v hv.1 hv.2
  unfold f_Mod_withReads
  have hfrom : f_Mod_formulaFrom v m = some (f_fs m b v, m) := by
    unfold f_Mod_formulaFrom f_fs
    rw [q_w_id (by omega) (by omega), h19]
    by_cases c : v = 0
    · rw [if_pos c, if_pos c]; rfl
    · rw [if_neg c, if_neg c, x_rd (n := 6) (by omega) (by omega) (by decide)]; rfl
  rw [hfrom, x_bd]
  refine o_upF (fun n k (q : Int × q_Mem) => f_Mod_withReads_l10 n v (p / 10) (p % 10) way q.1 k q.2) (fun k q => f_fs m b v ≤ k ∧ (∀ c, c ≠ 113 → c ≠ 114 → q.2 c = m c) ∧ k_mst l (f_rd l T (m xc) p) (p / 10) (p % 10) (l 10 (2 * v)) (k - f_fs m b v).toNat (q.2 113) q.1) _ (k := f_fs m b v) (e := m 98 (3 * b + v)) (s := (0, m)) (by omega) (by omega) ?_ ?_ ?_
  · refine ⟨Int.le_refl _, fun _ _ _ => rfl, [], ?_, rfl, trivial⟩
    rw [show (f_fs m b v - f_fs m b v).toNat = 0 by omega]
    rfl
  · intro n k ⟨z, q⟩ hk ⟨ha, hf, hm⟩ hn
    dsimp only at hf hm
    show q_ok (f_Mod_withReads_b10 (f_Mod_withReads_l10 n) v (p / 10) (p % 10) way z k q) _
    unfold f_Mod_withReads_b10
    have en : ((k - f_fs m b v).toNat : Int) = k - f_fs m b v := by omega
    have e1 : m 100 (100 * b + k) = f_cd l (l 10 (2 * v) + ((k - f_fs m b v).toNat : Int)) := by
      have := g3 (k - f_fs m b v) (by omega) (by omega)
      rw [show f_fs m b v + (k - f_fs m b v) = k by omega] at this
      rw [this, en]
    have hnd := f_stk_node hst (k := l 10 (2 * v) + ((k - f_fs m b v).toNat : Int)) (by omega) (by omega)
    have hkb := hw.2.2.2.2.2.1 (l 10 (2 * v) + ((k - f_fs m b v).toNat : Int)) (by omega) (by omega)
    have hkc := hw.2.2.2.2.2.2 (l 10 (2 * v) + ((k - f_fs m b v).toNat : Int)) (by omega) (by omega)
    have hcd := f_cd_rg hnd.1 hkb hkc
    rw [hf 81 (by decide) (by decide), h19, x_rd (n := 6) (by omega) (by omega) (by decide), hf 98 (by decide) (by decide), q_w_id (by omega) (by omega), q_w_id (x := k) (by omega) (by omega), if_neg (by omega), x_rd (n := 200) (by omega) (by omega) (by decide), hf 100 (by decide) (by decide), e1, q_w_id (by omega) (by omega)]
    have fin : ∀ (x : Int) (q' : q_Mem), (∀ c, c ≠ 113 → c ≠ 114 → q' c = m c) → q' 113 = q 113 → (l 7 (l 10 (2 * v) + ((k - f_fs m b v).toNat : Int)) = 3 → x = f_rd l T (m xc) p (l 8 (l 10 (2 * v) + ((k - f_fs m b v).toNat : Int)))) → q_ok (f_Mod_withReads_b85 (f_Mod_withReads_l10 n) v (p / 10) (p % 10) way k (f_cd l (l 10 (2 * v) + ((k - f_fs m b v).toNat : Int))) z (p / 10) (p % 10) x q') (fun x m' => x = f_E l T (m xc) v p ∧ ∀ c, c ≠ 113 → c ≠ 114 → m' c = m c) := by
      intro x q' hf' e113 hx
      unfold f_Mod_withReads_b85
      rw [← e113] at hm
      refine o_bd (k_mst_step hst (by omega) (by omega) hm hkb fun c => ⟨(hkc c).1, (hkc c).2, hx c⟩) fun z' m' h => ?_
      refine hn (z', m') ⟨by omega, fun c c1 c2 => (h.1 c c1).trans (hf' c c1 c2), ?_⟩
      dsimp only
      rw [show (k + 1 - f_fs m b v).toNat = (k - f_fs m b v).toNat + 1 by omega]
      exact h.2
    by_cases c3 : l 7 (l 10 (2 * v) + ((k - f_fs m b v).toNat : Int)) = 3
    · have c3' := hcd.2.2.mpr c3
      rw [if_neg (by omega), if_neg (by omega)]
      have ecd : f_cd l (l 10 (2 * v) + ((k - f_fs m b v).toNat : Int)) - 1100 = l 8 (l 10 (2 * v) + ((k - f_fs m b v).toNat : Int)) := by
        unfold f_cd
        rw [if_neg (by omega), if_neg (by omega), if_neg (by omega), if_pos c3]
        omega
      rw [ecd]
      have hrd := hw.2.2.2.2.1 v (l 10 (2 * v) + ((k - f_fs m b v).toNat : Int)) hv.1 hv.2 (by omega) (by omega) c3
      have exc : q xc = m xc := hf xc (by omega) (by omega)
      refine o_bd (m_readAt (g_ML_fr h fun c _ _ => hf c (by omega) (by omega)) (g_MF_of hF' fun c _ _ => hf c (by omega) (by omega)) hg hw (T := T) (xc := xc) hp hrd.1 (by unfold f_way; rw [hf 116 (by decide) (by decide)]; exact hy)) fun x q' hx => ?_
      refine fin x q' (fun c c1 c2 => (hx.2 c c2).trans (hf c c1 c2)) (hx.2 113 (by decide)) fun _ => ?_
      rw [hx.1, exc]
    · have c3' := fun hh => c3 (hcd.2.2.mp hh)
      have := fin 0 q hf rfl (fun c => absurd c c3)
      unfold f_Mod_withReads_b84
      by_cases c5 : f_cd l (l 10 (2 * v) + ((k - f_fs m b v).toNat : Int)) < 1100
      · rw [if_pos c5]
        exact this
      · rw [if_neg c5, if_pos (by omega)]
        exact this
  · intro n ⟨z, q⟩ ⟨ha, hf, hm⟩
    dsimp only at hf hm
    show q_ok (f_Mod_withReads_b10 (f_Mod_withReads_l10 n) v (p / 10) (p % 10) way z (m 98 (3 * b + v)) q) _
    unfold f_Mod_withReads_b10
    rw [hf 81 (by decide) (by decide), h19, x_rd (n := 6) (by omega) (by omega) (by decide), hf 98 (by decide) (by decide), if_pos (Int.le_refl _), x_rd (n := 100) (by omega) (by omega) (by decide)]
    rw [show (m 98 (3 * b + v) - f_fs m b v).toNat = (l 10 (2 * v + 1) - l 10 (2 * v)).toNat by omega] at hm
    exact o_rt ⟨k_mst_end hm hst hlt, hf⟩
end mread
