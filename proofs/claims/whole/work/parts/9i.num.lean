/-! THE PARSER: numbers of a line, in both -/
section numl
variable {T : Int → Int} {n t bk V ed k a b w W lo hi : Int} {f e : Int → Int} {l mc mm : q_Mem}
theorem u_num (h : u_S T n t bk V ed f e l mc mm k a b w W) (hlo : -10 ≤ lo ∧ lo < 0) (hhi : -10 ≤ hi ∧ hi ≤ 10) : ∃ v mc' r mm', f_Pars_passNumber lo hi mc = some (v, mc') ∧ f_Mod_signed lo hi mm = some (r, mm') ∧ (-9999 ≤ r ∧ r ≤ 9999) ∧ v_fp mc mc' ∧ v_fs mm mm' ∧ (0 ≤ mm' 81 26 ∧ mm' 81 26 ≤ 9999) ∧ ((v = 1 ∧ (lo ≤ r ∧ r ≤ hi) ∧ mc' 25 9 = r ∧ (mc' 25 4 = mc 25 4 ∧ mc' 25 5 = mc 25 5) ∧ mm' 81 28 = 0 ∧ mm' 81 29 = mm 81 29 ∧ ∃ k1 a1 b1 k' a' b', mc' 25 10 = a1 ∧ v_ms mm' T n k1 a1 b1 ∧ v_tok T n b1 k' a' b' ∧ v_cs mc' T n k' a' b' ∧ a ≤ a1 ∧ a1 ≤ b1) ∨ (v = 0 ∧ ∃ F P, (1 ≤ F ∧ F ≤ 4) ∧ (mc' 25 4 = F ∧ mc' 25 5 = P) ∧ mm' 81 28 = F ∧ mm' 81 29 = P)) := by
  have hsh := h.1.1.2.2.1.1
  obtain ⟨v, mc', ec, fp, k1, a1, b1, hp, hc⟩ := c_passNumber h.1.1 (lo := lo) (hi := hi) (by omega) hhi
  obtain ⟨r, mm', em, fs, k2, a2, b2, hp', hrg, hc'⟩ := m_signed h.1.2.1 h.1.2.2 (lo := lo) (hi := hi) hlo hhi
  obtain ⟨q1, q2, q3⟩ := v_pm_u hp hp'
  subst q1 q2 q3
  refine ⟨v, mc', r, mm', ec, em, hrg.1, fp, fs, hrg.2, ?_⟩
  rcases hc with ⟨n4, ev, eF, eP⟩ | ⟨y4, nin, ev, eF, eP⟩ | ⟨y4, yin, ev, e45, e9, e10, k4, a4, b4, ht4, hcs4⟩
  · rcases hc' with ⟨_, gF, gP⟩ | ⟨y4', _⟩ | ⟨y4', _⟩
    · exact Or.inr ⟨ev, 1, a1, by decide, ⟨eF, eP⟩, gF, gP⟩
    · exact absurd y4' n4
    · exact absurd y4' n4
  · rcases hc' with ⟨n4', _⟩ | ⟨_, _, gF, gP⟩ | ⟨_, yin', _⟩
    · exact absurd y4 n4'
    · exact Or.inr ⟨ev, 2, a1, by decide, ⟨eF, eP⟩, gF, gP⟩
    · exact absurd yin' nin
  · rcases hc' with ⟨n4', _⟩ | ⟨_, nin', _⟩ | ⟨_, _, gF, gz, hms, g29⟩
    · exact absurd y4 n4'
    · exact absurd yin nin'
    · exact Or.inl ⟨ev, by rw [gz]; exact yin, by rw [gz]; exact e9, e45, gF, g29, k1, a1, b1, k4, a4, b4, e10, hms, ht4, hcs4, u_pm_le hp (by omega), hms.2.2.1.1.2.1⟩
/-- a number is written down, and the next token looked at -/
theorem u_wrn {c i r k1 a1 b1 k' a' b' : Int} {mc' mm' : q_Mem} (htL : t ∈ q_Lp) (h : u_S T n t bk V ed f e l mc mm k a b w W) (hc : 88 ≤ c ∧ c ≤ 91) (fp : v_fp mc mc') (fs : v_fs mm mm') (e45 : mc' 25 4 = mc 25 4 ∧ mc' 25 5 = mc 25 5) (e28 : mm' 81 28 = 0) (e29 : mm' 81 29 = mm 81 29) (hms : v_ms mm' T n k1 a1 b1) (htk : v_tok T n b1 k' a' b') (hcs : v_cs mc' T n k' a' b') : ∃ r' mm'', f_Mod_scan (q_up mm' c bk r) = some (r', mm'') ∧ v_fm (q_up mm' c bk r) mm'' ∧ u_S T n t bk V ed f e (q_up l 1 i r) (q_up mc' (t + 1) i r) mm'' k' a' b' w W := by
  have ht := u_Lp htL
  obtain ⟨⟨_, _, hf0⟩, ⟨h253, h258, hl⟩, hnm, hRR, hWW, hl2, e39, e38, hft⟩ := h
  have hms' : v_ms (q_up mm' c bk r) T n k1 a1 b1 := v_ms_fr hms (fun j _ _ => q_up_c (by omega)) (q_up_f (by omega)) (q_up_f (by omega))
  obtain ⟨r', mm'', en, fm, k2, a2, b2, ht2, hms2⟩ := m_next hms'
  obtain ⟨q1, q2, q3⟩ := v_tok_u htk ht2
  subst q1 q2 q3
  have cm : ∀ d, d ≠ 81 → d ≠ c → mm'' d = mm d := fun d d1 d2 => by rw [fm.1 d d1, q_up_f d2, fs.1 d d1]
  have f81 : ∀ j, 27 < j → mm'' 81 j = mm' 81 j := fun j hj => by rw [fm.2 j (by omega), q_up_c (by omega)]
  have cc : ∀ d, d ≠ t + 1 → q_up mc' (t + 1) i r d = mc' d := fun d hd => q_up_f hd
  refine ⟨r', mm'', en, fm, ⟨v_cs_fr hcs (cc 1 (by omega)) (cc 2 (by omega)), hms2, (f81 28 (by decide)).trans e28⟩, ⟨by rw [cc 25 (by omega), fp.2.2 3 (by omega)]; exact h253, by rw [cc 25 (by omega), fp.2.2 8 (by omega)]; exact h258, ?_⟩, fun j j0 j1 => ?_, u_R_of hRR (by rw [cm 85 (by decide) (by omega), q_up_c (by decide)]; exact hRR.1.1) (q_up_c (by decide)) (q_up_c (by decide)) (fun j j0 j6 => q_up_f (by omega)) ⟨cm 86 (by decide) (by omega), cm 87 (by decide) (by omega)⟩ (fun d d0 d1 => cm d (by omega) (by omega)), u_W_of hWW (q_up_c (by decide)) (q_up_c (by decide)) (fun j j0 j6 => q_up_f (by omega)) (by rw [q_up_c (by decide)]; exact hWW.1) (by rw [q_up_c (by decide), q_up_c (by decide)]; exact hWW.2.2.2.1), by rw [q_up_c (by decide)]; exact hl2, ?_, ?_, by rw [cc 25 (by omega)]; exact e45.1.trans hft.1, by rw [cc 25 (by omega)]; exact e45.2.trans hft.2.1, ((f81 29 (by decide)).trans e29).trans hft.2.2⟩
  · rw [u_l_up (by decide) (by decide), u_l_fr (m := mc) (fun d d0 d1 => fp.1 d (by omega) (by omega)), hl]
  · rw [cc 26 (by omega), cc 27 (by omega), fp.1 26 (by decide) (by decide), fp.1 27 (by decide) (by decide), cm 103 (by decide) (by omega), cm 104 (by decide) (by omega)]
    exact hnm j j0 j1
  · rw [f81 39 (by decide), fs.2 39 (by omega)]; exact e39
  · rw [f81 38 (by decide), fs.2 38 (by omega)]; exact e38
end numl
