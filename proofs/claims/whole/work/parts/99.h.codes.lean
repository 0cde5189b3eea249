/-! THE PARSER: the model's codes and its waiting signs -/
def v_bd (v : Int) : Int := if v = 1200 then 1 else if v = 1201 then 1 else if v = 1202 then 2 else if v = 1203 then 2 else if v = 1204 then 3 else 0
def v_bt (k : Int) : Int := if k = 60 then 1200 else if k = 62 then 1201 else if k = 43 then 1202 else if k = 45 then 1203 else if k = 42 then 1204 else -1
/-- the class's sign of a level -/
def v_jn (lv k : Int) : Int := if k = 42 then (if lv = 2 then 9 else -1) else if k = 43 then (if lv = 1 then 7 else -1) else if k = 45 then (if lv = 1 then 8 else -1) else if k = 60 then (if lv = 0 then 5 else -1) else if k = 62 then (if lv = 0 then 6 else -1) else -1
section codes
variable {m : q_Mem} {T : Int → Int} {n k a b : Int}
theorem m_lay {bk C v : Int} (hb : bk = 0 ∨ bk = 1) (hC : 0 ≤ C ∧ C < 100) (e : m 92 bk = C) : f_Mod_lay bk v m = some (0, q_up (q_up m 100 (100 * bk + C) v) 92 bk (C + 1)) := by
  unfold f_Mod_lay
  have e2 : q_up m 100 (100 * bk + C) v 92 bk = C := by rw [q_up_c (by decide)]; exact e
  rw [x_rd (n := 2) (by omega) (by omega) (by decide), e, x_wr (n := 200) (by omega) (by omega) (by decide), x_rd (n := 2) (by omega) (by omega) (by decide), e2, x_wr (n := 2) (by omega) (by omega) (by decide), x_rt]
theorem m_push {W v : Int} (hW : 0 ≤ W ∧ W < 100) (e : m 81 38 = W) : f_Mod_push v m = some (0, q_up (q_up m 105 W v) 81 38 (W + 1)) := by
  unfold f_Mod_push
  have e2 : q_up m 105 W v 81 38 = W := by rw [q_up_c (by decide)]; exact e
  rw [e, x_wr (n := 100) hW.1 hW.2 (by decide), x_pf, e2, x_rt]
theorem m_layWaiting {bk C W : Int} (hb : bk = 0 ∨ bk = 1) (hC : 0 ≤ C ∧ C < 100) (e : m 92 bk = C) (hW : 1 ≤ W ∧ W ≤ 100) (e38 : m 81 38 = W) : f_Mod_layWaiting bk m = some (0, q_up (q_up (q_up m 81 38 (W - 1)) 100 (100 * bk + C) (m 105 (W - 1))) 92 bk (C + 1)) := by
  unfold f_Mod_layWaiting
  rw [e38, x_pf, q_up_s, x_rd (n := 100) (by omega) (by omega) (by decide), q_up_c (show (105 : Int) ≠ 81 by decide), m_lay hb hC (by rw [q_up_c (by decide)]; exact e), x_bd, x_rt]
theorem m_bindsBy {v : Int} (hv : 0 ≤ v ∧ v ≤ 2000) (m : q_Mem) : f_Mod_bindsBy v m = some (v_bd v, m) := by
  unfold f_Mod_bindsBy v_bd
  rw [q_w_id (x := v) (by omega) (by omega)]
  by_cases c0 : v = 1200
  · rw [if_pos c0, if_pos c0, x_rt]
  rw [if_neg c0, if_neg c0]
  by_cases c1 : v = 1201
  · rw [if_pos c1, if_pos c1, x_rt]
  rw [if_neg c1, if_neg c1]
  by_cases c2 : v = 1202
  · rw [if_pos c2, if_pos c2, x_rt]
  rw [if_neg c2, if_neg c2]
  by_cases c3 : v = 1203
  · rw [if_pos c3, if_pos c3, x_rt]
  rw [if_neg c3, if_neg c3]
  by_cases c4 : v = 1204
  · rw [if_pos c4, if_pos c4, x_rt]
  rw [if_neg c4, if_neg c4, x_rt]
theorem m_isAtE (h : v_ms m T n k a b) (hf : m 81 28 = 0) {q : Int} (hq : v_sg q) : f_Mod_isAt q m = some (if k = q then 1 else 0, m) := by
  obtain ⟨r, m2, e, em, hr⟩ := m_isAt h.1 h.2.2.1 h.2.1 hf hq
  rw [e, em]
  rcases hr with ⟨er, hk⟩ | ⟨er, hk⟩
  · rw [er, if_pos hk]
  · rw [er, if_neg hk]
theorem m_between (h : v_ms m T n k a b) (hf : m 81 28 = 0) : f_Mod_between m = some (v_bt k, m) := by
  unfold f_Mod_between v_bt
  rw [m_isAtE h hf (q := 60) (by unfold v_sg; omega), x_bd]
  by_cases c0 : k = 60
  · rw [if_pos c0, if_pos c0, x_w1, if_neg (by decide), x_rt]
  rw [if_neg c0, if_neg c0, x_w0, if_pos rfl, m_isAtE h hf (q := 62) (by unfold v_sg; omega), x_bd]
  by_cases c1 : k = 62
  · rw [if_pos c1, if_pos c1, x_w1, if_neg (by decide), x_rt]
  rw [if_neg c1, if_neg c1, x_w0, if_pos rfl, m_isAtE h hf (q := 43) (by unfold v_sg; omega), x_bd]
  by_cases c2 : k = 43
  · rw [if_pos c2, if_pos c2, x_w1, if_neg (by decide), x_rt]
  rw [if_neg c2, if_neg c2, x_w0, if_pos rfl, m_isAtE h hf (q := 45) (by unfold v_sg; omega), x_bd]
  by_cases c3 : k = 45
  · rw [if_pos c3, if_pos c3, x_w1, if_neg (by decide), x_rt]
  rw [if_neg c3, if_neg c3, x_w0, if_pos rfl, m_isAtE h hf (q := 42) (by unfold v_sg; omega), x_bd]
  by_cases c4 : k = 42
  · rw [if_pos c4, if_pos c4, x_w1, if_neg (by decide), x_rt]
  rw [if_neg c4, if_neg c4, x_w0, if_pos rfl, x_rt]
theorem c_joinAt (h : v_cs m T n k a b) {lv : Int} (hl : 0 ≤ lv ∧ lv ≤ 3) : f_Pars_joinAt lv m = some (v_jn lv k, m) := by
  have hk := h.2.2.1.2.1
  unfold f_Pars_joinAt v_jn
  rw [h.2.1.1, q_w_id (x := k) (by omega) (by omega), q_w_id (x := lv) (by omega) (by omega)]
  by_cases c0 : k = 42
  · rw [if_pos c0, if_pos c0]; split <;> rfl
  rw [if_neg c0, if_neg c0]
  by_cases c1 : k = 43
  · rw [if_pos c1, if_pos c1]; split <;> rfl
  rw [if_neg c1, if_neg c1]
  by_cases c2 : k = 45
  · rw [if_pos c2, if_pos c2]; split <;> rfl
  rw [if_neg c2, if_neg c2]
  by_cases c3 : k = 60
  · rw [if_pos c3, if_pos c3]; split <;> rfl
  rw [if_neg c3, if_neg c3]
  by_cases c4 : k = 62
  · rw [if_pos c4, if_pos c4]; split <;> rfl
  rw [if_neg c4, if_neg c4, x_rt]
end codes
