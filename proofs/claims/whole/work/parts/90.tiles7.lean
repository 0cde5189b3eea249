/-! TILES: the class's longest row of tiles -/
theorem g_db_eq {tg D : Int → Int} {n : Nat} {v : Int} (h0 : 0 ≤ v) (h1 : ∀ k : Int, 0 ≤ k → k < n → tg k ≠ -1 → 0 ≤ D (tg k) ∧ D (tg k) + 1 ≤ v) (h2 : v = 0 ∨ ∃ k : Int, 0 ≤ k ∧ k < n ∧ tg k ≠ -1 ∧ D (tg k) + 1 = v) : g_db tg D n = v := by
  have a : 0 ≤ g_db tg D n := by
    refine Classical.byContradiction fun hn => ?_
    obtain ⟨k, k0, k1, k2, k3⟩ := g_db_neg (show g_db tg D n < 0 by omega)
    have := (h1 k k0 k1 k2).1
    omega
  have b := g_db_le (tg := tg) (D := D) (B := v) h0 (n := n) fun k k0 k1 k2 => by have := (h1 k k0 k1 k2).2; omega
  rcases h2 with h2 | ⟨k, k0, k1, k2, k3⟩
  · omega
  · have := (g_db_nn a k k0 k1 k2).2
    omega
theorem g_db_m1 {tg D : Int → Int} {n : Nat} (h : ∃ k : Int, 0 ≤ k ∧ k < n ∧ tg k ≠ -1 ∧ D (tg k) < 0) : g_db tg D n = -1 := by
  obtain ⟨k, k0, k1, k2, k3⟩ := h
  have a := g_db_ge tg D n
  by_cases c : 0 ≤ g_db tg D n
  · have := (g_db_nn c k k0 k1 k2).1
    omega
  · omega
theorem g_cnt_below {N : Int} (h0 : 0 ≤ N) : ∀ n : Nat, g_cnt (fun p => decide (p < N)) n = min N n := by
  intro n
  induction n with
  | zero => show (0 : Int) = min N 0; omega
  | succ n ih =>
    show g_cnt (fun p => decide (p < N)) n + (if decide ((n : Int) < N) = true then 1 else 0) = min N ((n + 1 : Nat) : Int)
    rw [ih]
    by_cases c : (n : Int) < N
    · rw [if_pos (decide_eq_true c)]; omega
    · rw [if_neg (by simp [c])]; omega
section tiles7
variable {l m : q_Mem} {r c t : Int}
/-- at the end: ranks as the table wants them -/
theorem i_fin (hw : g_lw l) (hr : 1 ≤ r ∧ r ≤ 10) (hc : 1 ≤ c ∧ c ≤ 10) {b g : Int} {s : q_Mem} {R : Int → Bool} (h : i_I l r c (s 69 8) (-1) 0 0 b s R) (hg1 : ∀ i, 0 ≤ i → i < s 69 8 → s 71 (s 72 i) ≤ g) (hg2 : (s 69 8 = 0 ∧ g = 0) ∨ ∃ i, 0 ≤ i ∧ i < s 69 8 ∧ s 71 (s 72 i) = g) : ∃ X, (∀ Z, i_Tab l r c (fun _ _ => True) Z → i_sol l r c Z X) ∧ (∀ w, i_S l r c w → -1 ≤ X w) ∧ i_row l r c X (if s 69 8 = i_N l r c then g else 0) := by
  obtain ⟨ia, ib, ic, id, jf, ig⟩ := h
  have hNr := i_N_rg hw hr hc
  have hkey : ∀ w, i_S l r c w → ∃ p, g_pt l p ∧ i_T r c p = w ∧ i_K r c (i_A l c) p = i_cl l c w ∧ 0 ≤ i_cl l c w ∧ i_cl l c w < i_N l r c := by
    rintro w ⟨p, hp, e⟩
    have hk := i_K_eq (l := l) r c p hc.1 hp.1
    have hrg := i_K_rg hw hr hc hp
    rw [e] at hk
    rw [hk] at hrg
    exact ⟨p, hp, e, hk, hrg.1, hrg.2⟩
  have hqz : ∀ w, 0 ≤ w → w < i_N l r c → (s 70 w = 0 ↔ ∃ i, 0 ≤ i ∧ i < s 69 8 ∧ s 72 i = w) := by
    intro w w0 w1
    have := ib.2.2.2.1 w (i_F_pt.mpr (by omega))
    rw [← this]
    simp [w1]
  have hsrN : ∀ e, 0 ≤ e → e < 1200 → i_E l r c e = true → 0 ≤ i_sr l r c e ∧ i_sr l r c e < i_N l r c := fun e e0 e1 hE => i_K_rg hw hr hc (i_E_of hw e0 e1 hE).2.2.2.2
  have hRz : ∀ e, 0 ≤ e → e < 1200 → i_E l r c e = true → (R e = true ↔ s 70 (i_sr l r c e) = 0) := by
    intro e e0 e1 hE
    have hs := hsrN e e0 e1 hE
    rw [ig e e0 e1 hE, hqz _ hs.1 hs.2]
    constructor
    · rintro (h | ⟨h, _⟩)
      · exact h
      · omega
    · exact Or.inl
  refine ⟨fun w => if s 70 (i_cl l c w) = 0 then s 71 (i_cl l c w) - 1 else -1, fun Z hZ w hw' => ?_, fun w hw' => ?_, ?_⟩
  · obtain ⟨p, hp, eT, eK, k0, k1⟩ := hkey w hw'
    have hwr := i_S_rg hr.1 hc.1 hw'
    -- edges into w are what the table shows
    have hpred : ∀ u : Int, 0 ≤ u → u < 100 → (i_tg Z w u ≠ -1 ↔ ∃ e, (0 ≤ e ∧ e < 1200) ∧ i_E l r c e = true ∧ i_tl l r c e = i_cl l c w ∧ i_sr l r c e = i_cl l c u ∧ i_T r c (g_tg l (e / 12) (e % 12)) = u) := by
      intro u u0 u1
      constructor
      · intro hne
        have hz : Z (100 * w + u) ≠ 0 := fun hz => hne (if_pos hz)
        rcases hZ w u hwr.1 hwr.2 u0 u1 with ⟨_, q, o, _, hq, ho, hx, e1, e2⟩ | ⟨hz', _⟩
        · have h5 := hw.2.2.2.2.1
          have hq1 := hq.1
          have ee : (12 * q + o) / 12 = q ∧ (12 * q + o) % 12 = o := by omega
          have hE : i_E l r c (12 * q + o) = true := by
            unfold i_E
            rw [ee.1, ee.2]
            have := hq.2
            simp [this, ho.2, hx]
          have hE' := i_E_of hw (by omega) (by omega) hE
          refine ⟨12 * q + o, by omega, hE, ?_, ?_, by rw [ee.1, ee.2]; exact e2⟩
          · unfold i_tl; rw [ee.1, i_K_eq r c q hc.1 hq.1, e1]
          · unfold i_sr
            rw [ee.1, ee.2, i_K_eq r c _ hc.1 (by have := hE'.2.2.2.2.1; rw [ee.1, ee.2] at this; exact this), e2]
        · exact absurd hz' hz
      · rintro ⟨e, he, hE, h1, h2, h3⟩
        have hE' := i_E_of hw he.1 he.2 hE
        have hz : Z (100 * w + u) ≠ 0 := by
          rcases hZ w u hwr.1 hwr.2 u0 u1 with ⟨h4, _⟩ | ⟨_, h4⟩
          · omega
          · exfalso
            refine h4 ⟨e / 12, e % 12, trivial, hE'.1, hE'.2.1, hE'.2.2.1, ?_, h3⟩
            rw [← eT]
            refine (i_K_iff hw hr hc hE'.1 hp).mp ?_
            rw [eK]
            exact h1
        show i_tg Z w u ≠ -1
        unfold i_tg
        rw [if_neg hz]
        omega
    show (if s 70 (i_cl l c w) = 0 then s 71 (i_cl l c w) - 1 else -1) = _
    by_cases cz : s 70 (i_cl l c w) = 0
    · rw [if_pos cz]
      have hrk := ic _ k0 k1
      have hall : ∀ e, 0 ≤ e → e < 1200 → i_E l r c e = true → i_tl l r c e = i_cl l c w → R e = true := by
        intro e e0 e1 hE h1
        have hz := ia _ k0 k1
        rw [cz] at hz
        have := (g_cnt_zero.mp hz.symm) e e0 e1
        rw [hE, h1] at this
        simpa using this
      symm
      refine g_db_eq (by omega) (fun u u0 u1 hu => ?_) ?_
      · obtain ⟨e, he, hE, h1, h2, h3⟩ := (hpred u u0 u1).mp hu
        have hRe := hall e he.1 he.2 hE h1
        have hz := (hRz e he.1 he.2 hE).mp hRe
        have hd := id e he.1 he.2 hE hRe
        have hs := hsrN e he.1 he.2 hE
        have hrs := ic _ hs.1 hs.2
        rw [i_tg_in hu]
        show 0 ≤ (if s 70 (i_cl l c u) = 0 then s 71 (i_cl l c u) - 1 else -1) ∧ (if s 70 (i_cl l c u) = 0 then s 71 (i_cl l c u) - 1 else -1) + 1 ≤ _
        rw [← h2, if_pos hz]
        rw [h1] at hd
        omega
      · rcases jf _ k0 k1 with h1 | ⟨e, he, hE, hRe, h1, h2⟩
        · exact Or.inl (by omega)
        · have hE' := i_E_of hw he.1 he.2 hE
          have hz := (hRz e he.1 he.2 hE).mp hRe
          have hTr := i_T_rg hr.1 hc.1 hE'.2.2.2.2.1
          have hsr : i_sr l r c e = i_cl l c (i_T r c (g_tg l (e / 12) (e % 12))) := i_K_eq r c _ hc.1 hE'.2.2.2.2.1
          have hne := (hpred _ hTr.1 hTr.2).mpr ⟨e, he, hE, h1, hsr, rfl⟩
          refine Or.inr ⟨i_T r c (g_tg l (e / 12) (e % 12)), hTr.1, hTr.2, hne, ?_⟩
          rw [i_tg_in hne]
          show (if s 70 (i_cl l c (i_T r c (g_tg l (e / 12) (e % 12)))) = 0 then s 71 (i_cl l c (i_T r c (g_tg l (e / 12) (e % 12)))) - 1 else -1) + 1 = _
          rw [← hsr, if_pos hz]
          omega
    · rw [if_neg cz]
      symm
      have hz := ia _ k0 k1
      have hpos : i_W l r c R (i_cl l c w) ≠ 0 := by rw [← hz]; exact cz
      have hex : ∃ e : Int, (0 ≤ e ∧ e < 1200) ∧ (i_E l r c e && i_tl l r c e == i_cl l c w && !R e) = true := by
        refine Classical.byContradiction fun hn => hpos (g_cnt_zero.mpr fun e e0 e1 => ?_)
        cases hb : (i_E l r c e && i_tl l r c e == i_cl l c w && !R e) with
        | false => rfl
        | true => exact absurd ⟨e, ⟨e0, e1⟩, hb⟩ hn
      obtain ⟨e, he, hb⟩ := hex
      simp at hb
      have hE := hb.1.1
      have hE' := i_E_of hw he.1 he.2 hE
      have hTr := i_T_rg hr.1 hc.1 hE'.2.2.2.2.1
      have hsr : i_sr l r c e = i_cl l c (i_T r c (g_tg l (e / 12) (e % 12))) := i_K_eq r c _ hc.1 hE'.2.2.2.2.1
      have hne := (hpred _ hTr.1 hTr.2).mpr ⟨e, he, hE, hb.1.2, hsr, rfl⟩
      refine g_db_m1 ⟨i_T r c (g_tg l (e / 12) (e % 12)), hTr.1, hTr.2, hne, ?_⟩
      rw [i_tg_in hne]
      show (if s 70 (i_cl l c (i_T r c (g_tg l (e / 12) (e % 12)))) = 0 then s 71 (i_cl l c (i_T r c (g_tg l (e / 12) (e % 12)))) - 1 else -1) < 0
      rw [← hsr, if_neg fun h => by
        have := (hRz e he.1 he.2 hE).mpr h
        rw [this] at hb
        exact absurd hb.2 (by decide)]
      decide
  · obtain ⟨p, hp, eT, eK, k0, k1⟩ := hkey w hw'
    have := ic _ k0 k1
    show -1 ≤ (if s 70 (i_cl l c w) = 0 then s 71 (i_cl l c w) - 1 else -1)
    split <;> omega
  · have hcnt : s 69 8 = g_cnt (fun w => decide (g_th (i_F 0 0) (i_F 0 1) w) && (decide (w < i_N l r c) && s 70 w == 0)) 100 := ib.2.2.2.2
    have hth : ∀ w : Int, 0 ≤ w → w < 100 → decide (g_th (i_F 0 0) (i_F 0 1) w) = true := fun w w0 w1 => decide_eq_true (i_F_pt.mpr ⟨w0, w1⟩).2
    have hbel := g_cnt_below (N := i_N l r c) (by omega) 100
    -- a tile of every number
    have hev : ∀ w, 0 ≤ w → w < i_N l r c → ∃ v, i_S l r c v ∧ i_cl l c v = w := by
      intro w w0 w1
      obtain ⟨a1, a2, a3⟩ := i_at hw hr hc ⟨w0, w1⟩
      have hR := hw.1
      have hC := hw.2.1
      have e1 : (10 * (w / i_A l c * r) + w % i_A l c * c) / 10 = w / i_A l c * r := by omega
      have e2 : (10 * (w / i_A l c * r) + w % i_A l c * c) % 10 = w % i_A l c * c := by omega
      have hp : g_pt l (10 * (w / i_A l c * r) + w % i_A l c * c) := ⟨by omega, by unfold g_th; rw [e1, e2]; omega⟩
      have hK := (a3 _ hp.1.1 hp.1.2 (by rw [e1]; omega) (by rw [e2]; omega)).mpr (by rw [e1, e2]; omega)
      refine ⟨_, ⟨_, hp, rfl⟩, ?_⟩
      rw [← i_K_eq r c _ hc.1 hp.1]
      exact hK
    by_cases cN : s 69 8 = i_N l r c
    · rw [if_pos cN]
      have hz : ∀ w, 0 ≤ w → w < i_N l r c → s 70 w = 0 := by
        intro w w0 w1
        refine Classical.byContradiction fun hn => ?_
        have := g_cnt_lt (P := fun w => decide (g_th (i_F 0 0) (i_F 0 1) w) && (decide (w < i_N l r c) && s 70 w == 0)) (P' := fun w => decide (w < i_N l r c)) (n := 100) (fun k _ _ hk => by simp only [Bool.and_eq_true] at hk; exact hk.2.1) (k := w) w0 (by show w < 100; omega) (by simp [hn]) (by simp [w1])
        rw [← hcnt, hbel] at this
        omega
      refine Or.inr ⟨fun w hw' => ?_, ?_, fun w hw' => ?_⟩
      · obtain ⟨p, hp, eT, eK, k0, k1⟩ := hkey w hw'
        have := ic _ k0 k1
        show 0 ≤ (if s 70 (i_cl l c w) = 0 then s 71 (i_cl l c w) - 1 else -1)
        rw [if_pos (hz _ k0 k1)]
        omega
      · rcases hg2 with ⟨h1, _⟩ | ⟨i, i0, i1, ei⟩
        · omega
        · have hi : 0 ≤ s 72 i ∧ s 72 i < i_N l r c := by
            have h1 := (i_F_pt).mp (ib.2.1 i i0 i1)
            have h2 := (ib.2.2.2.1 (s 72 i) (ib.2.1 i i0 i1)).mpr ⟨i, i0, i1, rfl⟩
            simp at h2
            exact ⟨h1.1, h2.1⟩
          obtain ⟨v, hv, ev⟩ := hev _ hi.1 hi.2
          refine ⟨v, hv, ?_⟩
          show (if s 70 (i_cl l c v) = 0 then s 71 (i_cl l c v) - 1 else -1) + 1 = g
          rw [ev, if_pos (hz _ hi.1 hi.2)]
          omega
      · obtain ⟨p, hp, eT, eK, k0, k1⟩ := hkey w hw'
        obtain ⟨i, i0, i1, ei⟩ := (hqz _ k0 k1).mp (hz _ k0 k1)
        have := hg1 i i0 i1
        rw [ei] at this
        show (if s 70 (i_cl l c w) = 0 then s 71 (i_cl l c w) - 1 else -1) + 1 ≤ g
        rw [if_pos (hz _ k0 k1)]
        omega
    · rw [if_neg cN]
      refine Or.inl ⟨rfl, ?_⟩
      refine Classical.byContradiction fun hn => cN ?_
      have hz : ∀ w, 0 ≤ w → w < i_N l r c → s 70 w = 0 := by
        intro w w0 w1
        refine Classical.byContradiction fun hz => hn ?_
        obtain ⟨v, hv, ev⟩ := hev w w0 w1
        refine ⟨v, hv, ?_⟩
        show (if s 70 (i_cl l c v) = 0 then s 71 (i_cl l c v) - 1 else -1) < 0
        rw [ev, if_neg hz]
        decide
      rw [hcnt, g_cnt_congr (P' := fun p => decide (p < i_N l r c)) fun w w0 w1 => ?_, hbel]
      · omega
      · rw [hth w w0 w1, Bool.true_and]
        by_cases cw : w < i_N l r c
        · simp [cw, hz w w0 cw]
        · simp [cw]
end tiles7
