/-! THE SCANNERS: the model's scan -/
def v_tk (k : Int) : Int := if k = 0 then 0 else if k = 1 then 1 else if k = 3 then 2 else if k = 4 then 3 else 4
/-- the model's token at hand -/
def v_mt (m : q_Mem) (T : Int → Int) (n x : Int) : Prop := ∃ k a b, v_tok T n x k a b ∧ m 81 25 = v_tk k ∧ m 81 24 = a ∧ m 81 23 = b ∧ (k = 4 → v_nr (v_dec T a (b - a).toNat) (m 81 26)) ∧ (k = 3 → v_wd T a b (m 81 27))
section mscan2
variable {m : q_Mem} {T : Int → Int} {n x : Int}
theorem m_scanWord (h : v_M m T n) {a : Int} (ha : 0 ≤ a ∧ a < n) (e24 : m 81 24 = a) (hk : v_kd (T a) = 3) : q_ok (f_Mod_scanWord m) (fun _ m' => v_fm m m' ∧ m' 81 24 = a ∧ m' 81 25 = 2 ∧ m' 81 26 = m 81 26 ∧ ∃ b, m' 81 23 = b ∧ (a < b ∧ b ≤ n) ∧ (∀ i, a ≤ i → i < b → v_kd (T i) = 3) ∧ (b = n ∨ v_kd (T b) ≠ 3) ∧ v_wd T a b (m' 81 27)) := by
  have h2 := h.2.1
  have h4 := h.2.2.2.1
  unfold f_Mod_scanWord
  have g24 : q_up m 81 25 2 81 24 = a := by rw [q_up_i (by decide)]; exact e24
  rw [x_pf, x_pf, g24]
  refine o_while (fun n' (s : q_Mem) => f_Mod_scanWord_l13 n' s) (fun s => v_fm m s ∧ (s 81 24 = a ∧ s 81 25 = 2 ∧ s 81 26 = m 81 26) ∧ (a ≤ s 81 23 ∧ s 81 23 ≤ n) ∧ ∀ i, a ≤ i → i < s 81 23 → v_kd (T i) = 3) (fun s => (n - s 81 23).toNat) _ ?_ q_F _ (by rw [q_up_s]; show (n - a).toNat < 20000; omega) ⟨v_fm_tr (v_fm_up (by omega)) (v_fm_up (by omega)), ⟨by rw [q_up_i (by decide)]; exact g24, by rw [q_up_i (by decide), q_up_s], by rw [q_up_i (by decide), q_up_i (by decide)]⟩, by rw [q_up_s]; omega, fun i i0 i1 => by rw [q_up_s] at i1; omega⟩
  intro n' s ⟨f1, ⟨s24, s25, s26⟩, s23, hl⟩ hnx
  have hs := v_M_fr h f1
  show q_ok (f_Mod_scanWord_b13 (f_Mod_scanWord_l13 n') s) _
  unfold f_Mod_scanWord_b13
  have hTr : -128 ≤ (if s 81 23 < n then T (s 81 23) else 0) ∧ (if s 81 23 < n then T (s 81 23) else 0) ≤ 127 := by
    split
    · exact h4 _ (by omega) (by omega)
    · omega
  rw [m_signAt hs (by omega), x_bd, m_isLetter hTr, x_bd]
  by_cases cl : s 81 23 < n ∧ v_kd (T (s 81 23)) = 3
  · rw [if_pos cl.1, if_pos cl.2, x_w1, if_neg (by decide), x_pf]
    refine hnx _ ⟨v_fm_tr f1 (v_fm_up (by omega)), ⟨by rw [q_up_i (by decide)]; exact s24, by rw [q_up_i (by decide)]; exact s25, by rw [q_up_i (by decide)]; exact s26⟩, by rw [q_up_s]; omega, fun i i0 i1 => ?_⟩ (by rw [q_up_s]; omega)
    rw [q_up_s] at i1
    by_cases ci : i = s 81 23
    · rw [ci]; exact cl.2
    · exact hl i i0 (by omega)
  · have hz : v_kd (if s 81 23 < n then T (s 81 23) else 0) ≠ 3 := by
      by_cases c1 : s 81 23 < n
      · rw [if_pos c1]; exact fun e => cl ⟨c1, e⟩
      · rw [if_neg c1]; decide
    have hend : s 81 23 = n ∨ v_kd (T (s 81 23)) ≠ 3 := by
      by_cases c1 : s 81 23 < n
      · rw [if_pos c1] at hz; exact Or.inr hz
      · exact Or.inl (by omega)
    have hab : a < s 81 23 := by
      refine Classical.byContradiction fun hn => ?_
      have e : s 81 23 = a := by omega
      rcases hend with e1 | e1
      · omega
      · rw [e] at e1; exact e1 hk
    rw [if_neg hz, x_w0, if_pos rfl, x_pf]
    generalize hb : s 81 23 = b at *
    -- the seven words
    refine o_upF (fun n' w (z : Int × q_Mem) => f_Mod_scanWord_l49 n' z.1 w z.2) (fun w z => 0 ≤ w ∧ z.1 = v_F w ∧ v_fm m z.2 ∧ (z.2 81 24 = a ∧ z.2 81 25 = 2 ∧ z.2 81 26 = m 81 26 ∧ z.2 81 23 = b) ∧ (((0 ≤ z.2 81 27 ∧ z.2 81 27 < w) ∧ v_is T a b (z.2 81 27)) ∨ (z.2 81 27 = -1 ∧ ∀ j, 0 ≤ j → j < w → ¬ v_is T a b j))) _ (k := 0) (e := 7) (s := (0, q_up s 81 27 (-1))) (by omega) (by omega) ⟨Int.le_refl _, rfl, v_fm_tr f1 (v_fm_up (by omega)), ⟨by show q_up s 81 27 (-1) 81 24 = a; rw [q_up_i (by decide)]; exact s24, by show q_up s 81 27 (-1) 81 25 = 2; rw [q_up_i (by decide)]; exact s25, by show q_up s 81 27 (-1) 81 26 = m 81 26; rw [q_up_i (by decide)]; exact s26, by show q_up s 81 27 (-1) 81 23 = b; rw [q_up_i (by decide)]; exact hb⟩, Or.inr ⟨by show q_up s 81 27 (-1) 81 27 = -1; rw [q_up_s], fun j j0 j1 => by omega⟩⟩ ?_ ?_
    · intro n2 w z hw ⟨w0, hz1, fz, ⟨z24, z25, z26, z23⟩, hz2⟩ hn2
      obtain ⟨f, z⟩ := z
      replace hz1 : f = v_F w := hz1
      replace fz : v_fm m z := fz
      replace z24 : z 81 24 = a := z24
      replace z25 : z 81 25 = 2 := z25
      replace z26 : z 81 26 = m 81 26 := z26
      replace z23 : z 81 23 = b := z23
      replace hz2 : ((0 ≤ z 81 27 ∧ z 81 27 < w) ∧ v_is T a b (z 81 27)) ∨ (z 81 27 = -1 ∧ ∀ j, 0 ≤ j → j < w → ¬ v_is T a b j) := hz2
      have hF := v_F_rg w0 hw
      have hvz := v_M_fr h fz
      show q_ok (f_Mod_scanWord_b49 (f_Mod_scanWord_l49 n2) f w z) _
      unfold f_Mod_scanWord_b49
      rw [q_w_id (x := w) (by omega) (by omega), if_neg (by omega), hz1]
      refine o_upF (fun n3 k (_ : Unit) => f_Mod_scanWord_l57 (f_Mod_scanWord_l49 n2) n3 (v_F w) w k z) (fun k _ => v_F w ≤ k) _ (k := v_F w) (e := v_F (w + 1) - 1) (s := ()) (by omega) (by omega) (Int.le_refl _) ?_ ?_
      · intro n3 k _ hk1 k0 hn3
        have hL := v_L_rg k (by omega)
        have hL2 := hF.2.2.2.2 k k0 hk1
        show q_ok (f_Mod_scanWord_b57 (f_Mod_scanWord_l49 n2) (f_Mod_scanWord_l57 (f_Mod_scanWord_l49 n2) n3) (v_F w) w k z) _
        unfold f_Mod_scanWord_b57
        rw [x_rd (n := 28) (by omega) (by omega) (by decide), hvz.2.2.2.2 k (by omega) (by omega), q_w_id (x := v_L k) (by omega) (by omega), if_neg hL2]
        exact hn3 () (by omega)
      · intro n3 _ _
        show q_ok (f_Mod_scanWord_b57 (f_Mod_scanWord_l49 n2) (f_Mod_scanWord_l57 (f_Mod_scanWord_l49 n2) n3) (v_F w) w (v_F (w + 1) - 1) z) _
        unfold f_Mod_scanWord_b57 f_Mod_scanWord_b88
        rw [x_rd (n := 28) (by omega) (by omega) (by decide), hvz.2.2.2.2 _ (by omega) (by omega), hF.2.2.2.1, if_pos (by decide), show v_F (w + 1) - 1 + 1 = v_F (w + 1) by omega]
        refine o_bd (m_isSame hvz (a := a) (b := b) ⟨by omega, by omega, s23.2⟩ z24 z23 ⟨hF.1, by omega, by omega⟩) fun v m4 ⟨em, hv⟩ => ?_
        rw [em]
        rcases hv with ⟨ev, h1, h2⟩ | ⟨ev, hno⟩
        · rw [ev, x_w1, if_neg (by decide), x_pf]
          have his : v_is T a b w := ⟨h1, h2⟩
          refine hn2 (v_F (w + 1), q_up z 81 27 w) ⟨by omega, rfl, v_fm_tr fz (v_fm_up (by omega)), ⟨by show q_up z 81 27 w 81 24 = a; rw [q_up_i (by decide)]; exact z24, by show q_up z 81 27 w 81 25 = 2; rw [q_up_i (by decide)]; exact z25, by show q_up z 81 27 w 81 26 = m 81 26; rw [q_up_i (by decide)]; exact z26, by show q_up z 81 27 w 81 23 = b; rw [q_up_i (by decide)]; exact z23⟩, Or.inl ?_⟩
          show (0 ≤ q_up z 81 27 w 81 27 ∧ q_up z 81 27 w 81 27 < w + 1) ∧ v_is T a b (q_up z 81 27 w 81 27)
          rw [q_up_s]
          exact ⟨by omega, his⟩
        · rw [ev, x_w0, if_pos rfl]
          refine hn2 (v_F (w + 1), z) ⟨by omega, rfl, fz, ⟨z24, z25, z26, z23⟩, ?_⟩
          rcases hz2 with ⟨h1, h2⟩ | ⟨h1, h2⟩
          · exact Or.inl ⟨by show 0 ≤ z 81 27 ∧ z 81 27 < w + 1; omega, h2⟩
          · refine Or.inr ⟨h1, fun j j0 j1 => ?_⟩
            by_cases ej : j = w
            · rw [ej]; exact hno
            · exact h2 j j0 (by omega)
    · intro n2 z ⟨_, _, fz, ⟨z24, z25, z26, z23⟩, hz2⟩
      show q_ok (f_Mod_scanWord_b49 (f_Mod_scanWord_l49 n2) z.1 7 z.2) _
      unfold f_Mod_scanWord_b49
      rw [if_pos (by decide)]
      exact o_rt ⟨fz, z24, z25, z26, b, z23, ⟨hab, s23.2⟩, hl, hend, hz2⟩
theorem m_scanNumber (h : v_M m T n) {a : Int} (ha : 0 ≤ a ∧ a < n) (e24 : m 81 24 = a) (hk : v_kd (T a) = 4) : q_ok (f_Mod_scanNumber m) (fun _ m' => v_fm m m' ∧ m' 81 24 = a ∧ m' 81 25 = 3 ∧ (0 ≤ m' 81 26 ∧ m' 81 26 ≤ 9999) ∧ ∃ b, m' 81 23 = b ∧ (a < b ∧ b ≤ n) ∧ (∀ i, a ≤ i → i < b → v_kd (T i) = 4) ∧ (b = n ∨ v_kd (T b) ≠ 4) ∧ v_nr (v_dec T a (b - a).toNat) (m' 81 26)) := by
  have h2 := h.2.1
  have h4 := h.2.2.2.1
  unfold f_Mod_scanNumber
  have g24 : q_up (q_up m 81 25 3) 81 26 0 81 24 = a := by rw [q_up_i (by decide), q_up_i (by decide)]; exact e24
  rw [x_pf, x_pf, x_pf, g24]
  refine o_while (fun n' (s : q_Mem) => f_Mod_scanNumber_l18 n' s) (fun s => v_fm m s ∧ (s 81 24 = a ∧ s 81 25 = 3) ∧ (a ≤ s 81 23 ∧ s 81 23 ≤ n) ∧ (∀ i, a ≤ i → i < s 81 23 → v_kd (T i) = 4) ∧ v_nr (v_dec T a (s 81 23 - a).toNat) (s 81 26) ∧ (0 ≤ s 81 26 ∧ s 81 26 ≤ 9999) ∧ 0 ≤ v_dec T a (s 81 23 - a).toNat) (fun s => (n - s 81 23).toNat) _ ?_ q_F _ (by rw [q_up_s]; show (n - a).toNat < 20000; omega) ⟨v_fm_tr (v_fm_tr (v_fm_up (by omega)) (v_fm_up (by omega))) (v_fm_up (by omega)), ⟨by rw [q_up_i (by decide)]; exact g24, by simp [q_up]⟩, by rw [q_up_s]; omega, fun i i0 i1 => by rw [q_up_s] at i1; omega, ?_, by simp [q_up], ?_⟩
  · intro n' s ⟨f1, ⟨s24, s25⟩, s23, hl, hv, hr, hv0⟩ hnx
    have hs := v_M_fr h f1
    show q_ok (f_Mod_scanNumber_b18 (f_Mod_scanNumber_l18 n') s) _
    unfold f_Mod_scanNumber_b18 f_Mod_scanNumber_b69
    have hTr : -128 ≤ (if s 81 23 < n then T (s 81 23) else 0) ∧ (if s 81 23 < n then T (s 81 23) else 0) ≤ 127 := by
      split
      · exact h4 _ (by omega) (by omega)
      · omega
    rw [m_signAt hs (by omega), x_bd, m_isDigit hTr, x_bd]
    by_cases cl : s 81 23 < n ∧ v_kd (T (s 81 23)) = 4
    · have hd := v_kd_4.mp cl.2
      have es := v_dec_s T (a := a) (k := s 81 23) s23.1
      rw [if_pos cl.1, if_pos cl.2, x_w1, if_neg (by decide), q_w_id (x := s 81 26) (by omega) (by omega)]
      have next : ∀ v : Int, v_nr (v_dec T a (s 81 23 + 1 - a).toNat) v → (0 ≤ v ∧ v ≤ 9999) → q_ok (q_pf s 81 26 v fun m1 => q_pf m1 81 23 ((m1 81 23) + 1) fun m2 => f_Mod_scanNumber_l18 n' m2) (fun _ m' => v_fm m m' ∧ m' 81 24 = a ∧ m' 81 25 = 3 ∧ (0 ≤ m' 81 26 ∧ m' 81 26 ≤ 9999) ∧ ∃ b, m' 81 23 = b ∧ (a < b ∧ b ≤ n) ∧ (∀ i, a ≤ i → i < b → v_kd (T i) = 4) ∧ (b = n ∨ v_kd (T b) ≠ 4) ∧ v_nr (v_dec T a (b - a).toNat) (m' 81 26)) := by
        intro v hv1 hv2
        rw [x_pf, x_pf, q_up_i (show (23 : Int) ≠ 26 by decide)]
        refine hnx _ ⟨v_fm_tr f1 (v_fm_tr (v_fm_up (by omega)) (v_fm_up (by omega))), ⟨by rw [q_up_i (by decide), q_up_i (by decide)]; exact s24, by rw [q_up_i (by decide), q_up_i (by decide)]; exact s25⟩, by rw [q_up_s]; omega, fun i i0 i1 => ?_, by rw [q_up_s, q_up_i (by decide), q_up_s]; exact hv1, by rw [q_up_i (by decide), q_up_s]; exact hv2, by rw [q_up_s, es]; omega⟩ (by rw [q_up_s]; omega)
        rw [q_up_s] at i1
        by_cases ci : i = s 81 23
        · rw [ci]; exact cl.2
        · exact hl i i0 (by omega)
      by_cases c9 : s 81 26 ≤ 999
      · rw [if_pos c9, m_signAt hs (by omega), x_bd, if_pos cl.1]
        refine next _ ?_ (by omega)
        rw [es]
        unfold v_nr at *
        omega
      · rw [if_neg c9]
        refine next _ ?_ (by omega)
        rw [es]
        unfold v_nr at *
        omega
    · have hz : v_kd (if s 81 23 < n then T (s 81 23) else 0) ≠ 4 := by
        by_cases c1 : s 81 23 < n
        · rw [if_pos c1]; exact fun e => cl ⟨c1, e⟩
        · rw [if_neg c1]; decide
      have hend : s 81 23 = n ∨ v_kd (T (s 81 23)) ≠ 4 := by
        by_cases c1 : s 81 23 < n
        · rw [if_pos c1] at hz; exact Or.inr hz
        · exact Or.inl (by omega)
      have hab : a < s 81 23 := by
        refine Classical.byContradiction fun hn => ?_
        have e : s 81 23 = a := by omega
        rcases hend with e1 | e1
        · omega
        · rw [e] at e1; exact e1 hk
      rw [if_neg hz, x_w0, if_pos rfl]
      exact o_rt ⟨f1, s24, s25, hr, s 81 23, rfl, ⟨hab, s23.2⟩, hl, hend, hv⟩
  · rw [q_up_s, q_up_i (by decide), q_up_s, show (a - a).toNat = 0 by omega]
    exact Or.inl ⟨by show (0 : Int) ≤ 999; decide, rfl⟩
  · rw [q_up_s, show (a - a).toNat = 0 by omega]
    exact Int.le_refl _
end mscan2
