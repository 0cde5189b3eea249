/-! THE MODEL's RUN -/
section mrun
variable {m l : q_Mem} {P Q a b : Int}
def f_act (l m : q_Mem) (P Q a b p : Int) : Prop := g_ck l P Q a b p = false ∧ ¬ q_w (m 115 (5 + g_ce l a b p)) = 1
theorem g_ce_55 (hg : g_lw l) (ha : -3 ≤ a ∧ a ≤ 3) (hb : -3 ≤ b ∧ b ≤ 3) {p : Int} (hp : g_pt l p) : 0 ≤ g_ce l a b p ∧ g_ce l a b p < 55 := by
  have h1 := g_ce_rg hg ha hb hp
  have h2 := k_cc hg ha hb
  have h3 := g_cnt_rg (fun k => g_oc l a b (k + g_ls (l 0 0) (l 0 1) b (-a))) 55
  omega
theorem m_layRun (h : g_ML m l) (hF : g_MF m l) (hg : g_lw l) (hw : f_wf l) (hpl : k_plan l m P Q a b) (ha : -3 ≤ a ∧ a ≤ 3) (hb : -3 ≤ b ∧ b ≤ 3) (hP : -9 ≤ P ∧ P ≤ 9) (hQ : -9 ≤ Q ∧ Q ≤ 9) : q_ok (f_Mod_layRun m) (fun _ m' => (∀ c, c ≠ 111 → c ≠ 113 → c ≠ 114 → m' c = m c) ∧ f_V l (g_tk l P Q) (f_act l m P Q a b) (-1) (-1) (m' 111)) := by
  obtain ⟨p1, p2, p3, _, p5, _⟩ := hpl
  have hlat := g_lat_rg hg hP hQ
  have htk : ∀ p, g_pt l p → 0 ≤ m 116 p ∧ m 116 p < g_lat (l 0 0) (l 0 1) P Q := fun p hp => by rw [p1 p hp]; exact g_tk_rg hg P Q hp
  unfold f_Mod_layRun
  refine o_upF (fun n k (s : q_Mem) => f_Mod_layRun_l2 n k s) (fun k s => 0 ≤ k ∧ (∀ c, c ≠ 111 → s c = m c) ∧ ∀ i, 0 ≤ i → i < k → s 111 i = 0) _ (k := 0) (e := 300) (s := m) (by omega) (by omega) ⟨by omega, fun _ _ => rfl, fun i i0 i1 => by omega⟩ ?_ ?_
  · intro n k s hk ⟨h0, hf, hz⟩ hn
    show q_ok (f_Mod_layRun_b2 (f_Mod_layRun_l2 n) k s) _
    unfold f_Mod_layRun_b2
    rw [q_w_id (by omega) (by omega), if_neg (by omega), x_wr (n := 300) h0 (by omega) (by decide)]
    refine hn (q_up s 111 k 0) ⟨by omega, fun c hc => by rw [q_up_f hc]; exact hf c hc, fun i i0 i1 => ?_⟩
    by_cases c : i = k
    · rw [c, q_up_s]
    · rw [q_up_i c]; exact hz i i0 (by omega)
  · intro n s1 ⟨h0, hf1, hz⟩
    show q_ok (f_Mod_layRun_b2 (f_Mod_layRun_l2 n) 300 s1) _
    unfold f_Mod_layRun_b2
    rw [if_pos (by decide)]
    refine o_upF (fun n k (s : q_Mem) => f_Mod_layRun_l24 n k s) (fun k s => 0 ≤ k ∧ (∀ c, c ≠ 111 → c ≠ 113 → c ≠ 114 → s c = m c) ∧ f_V l (m 116) (f_upto (m 116) (f_act l m P Q a b) k 0) (-1) (-1) (s 111)) _ (k := 0) (e := g_lat (l 0 0) (l 0 1) P Q) (s := s1) (by omega) (by omega) ?_ ?_ ?_
    · refine ⟨Int.le_refl _, fun c c1 _ _ => hf1 c c1, f_V_same (f_V_zero hg hz (A := fun _ => False) fun p h => h) fun p hp => ⟨fun h => h.elim, ?_⟩⟩
      rintro ⟨_, b⟩
      have := hp.1
      have := htk p hp
      omega
    · intro n r s hk ⟨h0, hf, hV⟩ hn
      show q_ok (f_Mod_layRun_b24 (f_Mod_layRun_l24 n) r s) _
      unfold f_Mod_layRun_b24
      rw [hf 81 (by decide) (by decide) (by decide), p2, q_w_id (by omega) (by omega), q_w_id (by omega) (by omega), if_neg (by omega)]
      refine o_upF (fun n' k (s : q_Mem) => f_Mod_layRun_l34 (f_Mod_layRun_l24 n) n' r k s) (fun k s => 0 ≤ k ∧ (∀ c, c ≠ 111 → c ≠ 113 → c ≠ 114 → s c = m c) ∧ f_V l (m 116) (f_upto (m 116) (f_act l m P Q a b) r k) (-1) (-1) (s 111)) _ (k := 0) (e := 100) (s := s) (by omega) (by omega) ⟨by omega, hf, hV⟩ ?_ ?_
      · intro n' k s hk ⟨h0', hf, hV⟩ hn'
        have hM : g_ML s l := g_ML_fr h fun c _ _ => hf c (by omega) (by omega) (by omega)
        have hMF : g_MF s l := g_MF_of hF fun c _ _ => hf c (by omega) (by omega) (by omega)
        show q_ok (f_Mod_layRun_b34 (f_Mod_layRun_l24 n) (f_Mod_layRun_l34 (f_Mod_layRun_l24 n) n') r k s) _
        unfold f_Mod_layRun_b34 f_Mod_layRun_b124
        rw [q_w_id (by omega) (by omega), if_neg (by omega), m_isThere hM hg ⟨h0', hk⟩, x_bd, x_wi]
        simp only [x_i0]
        have skip : ¬ (g_pt l k ∧ f_act l m P Q a b k ∧ m 116 k = r) → q_ok (f_Mod_layRun_l34 (f_Mod_layRun_l24 n) n' r (k + 1) s) (fun _ m' => (∀ c, c ≠ 111 → c ≠ 113 → c ≠ 114 → m' c = m c) ∧ f_V l (g_tk l P Q) (f_act l m P Q a b) (-1) (-1) (m' 111)) := fun hno => hn' s ⟨by omega, hf, f_V_same hV (f_upto_skip hno)⟩
        by_cases c : g_th (l 0 0) (l 0 1) k
        · have hp : g_pt l k := ⟨⟨h0', hk⟩, c⟩
          have hrk := htk k hp
          have hce := g_ce_55 hg ha hb hp
          rw [if_neg (fun h => h c), x_rd (n := 100) h0' (by omega) (by decide), hf 116 (by decide) (by decide) (by decide), q_w_id (by omega) (by omega), q_w_id (x := r) (by omega) (by omega)]
          by_cases c2 : m 116 k = r
          · rw [if_pos c2, x_rd (n := 100) h0' (by omega) (by decide), hf 118 (by decide) (by decide) (by decide), p5 k hp, x_wi]
            simp only [x_i0]
            by_cases c3 : g_ck l P Q a b k = true
            · rw [if_neg (fun h => h c3)]
              exact skip fun h => by rw [h.2.1.1] at c3; exact absurd c3 (by decide)
            · have c3' : g_ck l P Q a b k = false := by simpa using c3
              rw [if_pos c3, x_rd (n := 100) h0' (by omega) (by decide), hf 117 (by decide) (by decide) (by decide), p3 k hp]
              unfold f_Mod_isBroken
              rw [x_rd (n := 69) (by omega) (by omega) (by decide), hf 115 (by decide) (by decide) (by decide)]
              by_cases c4 : q_w (m 115 (5 + g_ce l a b k)) = 1
              · rw [if_pos c4, x_rz1, x_bd, x_w1, if_neg (by decide)]
                exact skip fun h => h.2.1.2 c4
              · rw [if_neg c4, x_rz0, x_bd, x_w0, if_pos rfl]
                refine m_at_run hM hMF hg hw (T := m 116) hp (Or.inr ⟨rfl, rfl, (hf 116 (by decide) (by decide) (by decide)).symm, fun q hq => ?_⟩) _ _ _ fun s' hs' hat => ?_
                · rw [hf 116 (by decide) (by decide) (by decide)]
                  have := htk q hq
                  omega
                refine hn' s' ⟨by omega, fun c c1 c2 c3 => (hs' c c1 c2 c3).trans (hf c c1 c2 c3), ?_⟩
                refine f_V_step hw hg hV hp (fun q _ => f_upto_take (act := f_act l m P Q a b) ⟨c3', c4⟩ c2 q) ?_ ?_ hat
                · rintro ⟨_, b⟩; omega
                · rintro q o hq ⟨_, b⟩ o0 o1 hto
                  omega
          · rw [if_neg c2]
            exact skip fun h => c2 h.2.2
        · rw [if_pos c]
          exact skip fun h => c h.1.2
      · intro n' s ⟨h0', hf, hV⟩
        show q_ok (f_Mod_layRun_b34 (f_Mod_layRun_l24 n) (f_Mod_layRun_l34 (f_Mod_layRun_l24 n) n') r 100 s) _
        unfold f_Mod_layRun_b34
        rw [if_pos (by decide)]
        exact hn s ⟨by omega, hf, f_V_same hV f_upto_row⟩
    · intro n s ⟨h0, hf, hV⟩
      show q_ok (f_Mod_layRun_b24 (f_Mod_layRun_l24 n) (g_lat (l 0 0) (l 0 1) P Q) s) _
      unfold f_Mod_layRun_b24
      rw [hf 81 (by decide) (by decide) (by decide), p2, if_pos (Int.le_refl _)]
      refine o_rt ⟨hf, f_V_T hw hg (f_V_same hV fun p hp => ⟨fun h => h.1, fun h => ⟨h, Or.inl (htk p hp).2⟩⟩) p1⟩
end mrun
