/-! THE PARSER: a line, in both -/
section linel
variable {T : Int → Int} {n t bk V d k a b w W : Int} {f e : Int → Int} {l l' mc mm mc' mm' : q_Mem}
theorem q_bd_as (A : q_Res) (g : q_Mem → q_Res) : q_bd (q_bd A fun _ m => q_rt 0 m) (fun _ m1 => g m1) = q_bd A (fun _ m1 => g m1) := by
  cases A with
  | none => rfl
  | some p => rfl
theorem u_line (htL : t ∈ q_Lp) (hb : bk = 0 ∨ bk = 1) (h : u_I T n t bk V f e l mc mm k a b w W) (hk0 : k ≠ 0) : q_2 (q_bd (f_Tape_isWord 1 mc) fun v1 m2 => if q_w v1 = 0 then (f_Pars_layoutLine m2) else (f_Pars_letLine m2)) (q_bd (f_Mod_readLine bk mm) fun _ m1 => f_Mod_need 59 m1) (u_O1 T n t bk mc mm b) := by
  have hS := h.1
  have hcs := hS.1.1
  have hms := hS.1.2.1
  have hf0 := hS.1.2.2
  have hab : a < b := (hcs.2.2.1.2.2.2.2 hk0).2.2
  have hY4 := h.2.1.2.2.2
  -- a line that returns what it returns
  have ret : ∀ (ec em : q_Res), q_2 ec em (u_O1 T n t bk mc mm b) → q_2 (q_bd ec fun v3 m4 => q_rz v3 m4) em (u_O1 T n t bk mc mm b) := by
    intro ec em ⟨v, mc', r, mm', e1, e2, hO⟩
    have hv : v = 0 ∨ v = 1 := by
      rcases hO with ⟨hv, _⟩ | ⟨hv, _⟩
      · exact Or.inr hv
      · exact Or.inl hv
    exact ⟨v, mc', r, mm', by rw [e1, x_bd, x_rz hv], e2, hO⟩
  have bad : q_2 (f_Pars_layoutLine_b48 mc) (q_bd (f_Mod_readLine_b192 mm) fun _ m1 => f_Mod_need 59 m1) (u_O1 T n t bk mc mm b) := by
    unfold f_Pars_layoutLine_b48 f_Mod_readLine_b192
    have h28 : q_up (q_up mm 81 28 1) 81 29 a 81 28 = 1 := by rw [q_up_i (by decide), q_up_s]
    rw [c_refuse, x_bd, x_rz0, m_fail0 hf0, x_bd, x_rt, x_bd, hcs.2.1.2.1, hms.2.1.2.1, m_need1 (by omega)]
    refine o2_d (Or.inr ⟨rfl, ⟨1, a, by decide, ⟨by rw [q_up_i (by decide), q_up_s], q_up_s _ _ _ _⟩, h28, q_up_s _ _ _ _⟩, u_fC_tr (u_fC_up htL (by omega)) (u_fC_up htL (by omega)), u_fM_tr (u_fM_up (Or.inl ⟨rfl, by omega⟩)) (u_fM_up (Or.inl ⟨rfl, by omega⟩)), ?_⟩)
    rw [q_up_i (by decide), q_up_i (by decide)]
    exact hms.2.2.2.2
  have b24 : q_2 (f_Pars_layoutLine_b24 mc) (q_bd (f_Mod_readLine_b93 bk mm) fun _ m1 => f_Mod_need 59 m1) (u_O1 T n t bk mc mm b) := by
    unfold f_Pars_layoutLine_b24 f_Mod_readLine_b93
    obtain ⟨v1, m2, e1, em2, hv1⟩ := c_isWord hcs.1 hcs.2.1 hcs.2.2.1 (s := 13) (by decide) (by decide)
    obtain ⟨v3, m4, e3, em4, hv3⟩ := m_isWord hms.2.2.1 hms.2.1 hf0 (w := 3) (by decide)
    rw [e1, em2, x_bd, e3, em4, x_bd]
    rcases hv1 with ⟨ev1, hy⟩ | ⟨ev1, hy⟩
    · rcases hv3 with ⟨ev3, _⟩ | ⟨_, hn⟩
      · rw [ev1, ev3, x_w1, if_neg (show ¬ ((1 : Int) = 0) by decide), if_neg (show ¬ ((1 : Int) = 0) by decide), ← hY4.2.1]
        rcases hY4.2.2.2 with h7 | h7
        · rw [h7, x_w0, if_pos rfl, if_pos rfl]
          exact ret _ _ (u_onto htL hb h hab)
        · rw [h7, x_w1, if_neg (by decide), if_neg (by decide)]
          exact bad
      · exact absurd hy hn
    · rcases hv3 with ⟨_, hn⟩ | ⟨ev3, _⟩
      · exact absurd hn hy
      · rw [ev1, x_w0, if_pos rfl, ev3, x_w0, if_pos rfl]
        exact bad
  unfold f_Mod_readLine
  obtain ⟨v1, m2, e1, em2, hv1⟩ := c_isWord hcs.1 hcs.2.1 hcs.2.2.1 (s := 1) (by decide) (by decide)
  obtain ⟨v3, m4, e3, em4, hv3⟩ := m_isWord hms.2.2.1 hms.2.1 hf0 (w := 1) (by decide)
  rw [e1, em2, x_bd, e3, em4, x_bd]
  rcases hv1 with ⟨ev1, hy⟩ | ⟨ev1, hy⟩
  · rcases hv3 with ⟨ev3, _⟩ | ⟨_, hn⟩
    · rw [ev1, x_w1, if_neg (by decide), ev3, x_w1, if_neg (by decide), q_bd_as]
      exact u_let htL hb h
    · exact absurd hy hn
  rcases hv3 with ⟨_, hn⟩ | ⟨ev3, _⟩
  · exact absurd hn hy
  rw [ev1, x_w0, if_pos rfl, ev3, x_w0, if_pos rfl]
  unfold f_Pars_layoutLine
  obtain ⟨v5, m6, e5, em6, hv5⟩ := c_isWord hcs.1 hcs.2.1 hcs.2.2.1 (s := 12) (by decide) (by decide)
  obtain ⟨v7, m8, e7, em8, hv7⟩ := m_isWord hms.2.2.1 hms.2.1 hf0 (w := 2) (by decide)
  rw [e5, em6, x_bd, e7, em8, x_bd]
  rcases hv5 with ⟨ev5, hy5⟩ | ⟨ev5, hy5⟩
  · rcases hv7 with ⟨ev7, _⟩ | ⟨_, hn⟩
    · rw [ev5, ev7, x_w1, if_neg (show ¬ ((1 : Int) = 0) by decide), if_neg (show ¬ ((1 : Int) = 0) by decide), ← hY4.1]
      rcases hY4.2.2.1 with h6 | h6
      · rw [h6, x_w0, if_pos rfl, if_pos rfl]
        exact ret _ _ (u_fire htL hb h hab)
      · rw [h6, x_w1, if_neg (by decide), if_neg (by decide)]
        exact b24
    · exact absurd hy5 hn
  · rcases hv7 with ⟨_, hn⟩ | ⟨ev7, _⟩
    · exact absurd hn hy5
    · rw [ev5, x_w0, if_pos rfl, ev7, x_w0, if_pos rfl]
      exact b24
end linel
