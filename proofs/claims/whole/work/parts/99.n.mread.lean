/-! THE PARSER: the model records a read -/
/-- the memory behind a read's writes, and behind an offset's -/
def v_rr (m : q_Mem) (bk R C vr a c : Int) : q_Mem := q_up (q_up (q_up (q_up (q_up (q_up m 93 (12 * bk + R) vr) 94 (12 * bk + R) a) 95 (12 * bk + R) c) 100 (100 * bk + C) (1100 + R)) 92 bk (C + 1)) 86 bk (R + 1)
def v_ow (m : q_Mem) (bk cnt a c : Int) : q_Mem := q_up (q_up (q_up m 96 (12 * bk + cnt) a) 97 (12 * bk + cnt) c) 87 bk (cnt + 1)
section mread
variable {m : q_Mem} {T : Int → Int} {n k a b bk : Int}
theorem v_rr_f {R C vr x y d : Int} (h1 : d ≠ 93) (h2 : d ≠ 94) (h3 : d ≠ 95) (h4 : d ≠ 100) (h5 : d ≠ 92) (h6 : d ≠ 86) : v_rr m bk R C vr x y d = m d := by
  unfold v_rr
  rw [q_up_f h6, q_up_f h5, q_up_f h4, q_up_f h3, q_up_f h2, q_up_f h1]
theorem m_record (hb : bk = 0 ∨ bk = 1) {R C cnt vr x y : Int} (hR : 0 ≤ R ∧ R < 12) (e86 : m 86 bk = R) (hC : 0 ≤ C ∧ C < 100) (e92 : m 92 bk = C) (hc : 0 ≤ cnt ∧ cnt < 12) (e87 : m 87 bk = cnt) (hx : -3 ≤ x ∧ x ≤ 3) (hy : -3 ≤ y ∧ y ≤ 3) (hA : ∀ o, 0 ≤ o → o < cnt → (-3 ≤ m 96 (12 * bk + o) ∧ m 96 (12 * bk + o) ≤ 3) ∧ (-3 ≤ m 97 (12 * bk + o) ∧ m 97 (12 * bk + o) ≤ 3)) : q_ok (q_rd m 86 2 bk fun v3 => q_wr m 93 24 ((12 * bk) + v3) vr fun m4 => q_wr m4 94 24 ((12 * bk) + v3) x fun m5 => q_wr m5 95 24 ((12 * bk) + v3) y fun m6 => q_rd m6 86 2 bk fun v7 => q_bd (f_Mod_lay bk (1100 + v7) m6) fun _ m8 => q_rd m8 86 2 bk fun v9 => q_wr m8 86 2 bk (v9 + 1) fun m10 => q_bd (f_Mod_addOffset bk x y m10) fun _ m11 => q_rt 0 m11) (fun _ m' => (v_kn cnt (fun o => m 96 (12 * bk + o)) (fun o => m 97 (12 * bk + o)) x y ∧ m' = v_rr m bk R C vr x y) ∨ (¬ v_kn cnt (fun o => m 96 (12 * bk + o)) (fun o => m 97 (12 * bk + o)) x y ∧ m' = v_ow (v_rr m bk R C vr x y) bk cnt x y)) := by
  have g86 : q_up (q_up (q_up m 93 (12 * bk + R) vr) 94 (12 * bk + R) x) 95 (12 * bk + R) y 86 bk = R := by rw [q_up_c (by decide), q_up_c (by decide), q_up_c (by decide)]; exact e86
  have g92 : q_up (q_up (q_up m 93 (12 * bk + R) vr) 94 (12 * bk + R) x) 95 (12 * bk + R) y 92 bk = C := by rw [q_up_c (by decide), q_up_c (by decide), q_up_c (by decide)]; exact e92
  have k86 : q_up (q_up (q_up (q_up (q_up m 93 (12 * bk + R) vr) 94 (12 * bk + R) x) 95 (12 * bk + R) y) 100 (100 * bk + C) (1100 + R)) 92 bk (C + 1) 86 bk = R := by rw [q_up_c (by decide), q_up_c (by decide)]; exact g86
  have f96 : v_rr m bk R C vr x y 96 = m 96 := v_rr_f (by decide) (by decide) (by decide) (by decide) (by decide) (by decide)
  have f97 : v_rr m bk R C vr x y 97 = m 97 := v_rr_f (by decide) (by decide) (by decide) (by decide) (by decide) (by decide)
  have f87 : v_rr m bk R C vr x y 87 = m 87 := v_rr_f (by decide) (by decide) (by decide) (by decide) (by decide) (by decide)
  have off := m_addOffset (m := v_rr m bk R C vr x y) hb hc (by rw [f87]; exact e87) hx hy (by rw [f96, f97]; exact hA)
  rw [f96, f97] at off
  rw [x_rd (n := 2) (by omega) (by omega) (by decide), e86, x_wr (n := 24) (by omega) (by omega) (by decide), x_wr (n := 24) (by omega) (by omega) (by decide), x_wr (n := 24) (by omega) (by omega) (by decide), x_rd (n := 2) (by omega) (by omega) (by decide), g86, m_lay hb hC g92, x_bd, x_rd (n := 2) (by omega) (by omega) (by decide), k86, x_wr (n := 2) (by omega) (by omega) (by decide)]
  exact o_bd off fun _ m' h => o_rt h
theorem m_rd65 (hb : bk = 0 ∨ bk = 1) (h : v_ms m T n k a b) (hf : m 81 28 = 0) {R C cnt vr x y : Int} (hR : 0 ≤ R ∧ R < 12) (e86 : m 86 bk = R) (hC : 0 ≤ C ∧ C < 100) (e92 : m 92 bk = C) (hc : 0 ≤ cnt ∧ cnt < 12) (e87 : m 87 bk = cnt) (hx : -3 ≤ x ∧ x ≤ 3) (hy : -3 ≤ y ∧ y ≤ 3) (hA : ∀ o, 0 ≤ o → o < cnt → (-3 ≤ m 96 (12 * bk + o) ∧ m 96 (12 * bk + o) ≤ 3) ∧ (-3 ≤ m 97 (12 * bk + o) ∧ m 97 (12 * bk + o) ≤ 3)) : q_ok (f_Mod_readRead_b65 bk vr x y m) (fun _ m' => ∃ m2 k1 a1 b1, v_fs m m2 ∧ v_tok T n b k1 a1 b1 ∧ ((k1 = 41 ∧ (m2 81 28 = 0 ∧ m2 81 29 = m 81 29) ∧ ∃ k2 a2 b2, v_tok T n b1 k2 a2 b2 ∧ v_ms m2 T n k2 a2 b2) ∨ (k1 ≠ 41 ∧ m2 81 28 = 1 ∧ m2 81 29 = a1 ∧ 0 ≤ m2 81 26 ∧ m2 81 26 ≤ 9999)) ∧ ((v_kn cnt (fun o => m 96 (12 * bk + o)) (fun o => m 97 (12 * bk + o)) x y ∧ m' = v_rr m2 bk R C vr x y) ∨ (¬ v_kn cnt (fun o => m 96 (12 * bk + o)) (fun o => m 97 (12 * bk + o)) x y ∧ m' = v_ow (v_rr m2 bk R C vr x y) bk cnt x y))) := by
  unfold f_Mod_readRead_b65
  rw [hf, if_pos (by decide)]
  refine o_bd (m_next h) fun _ m1 ⟨f1, k1, a1, b1, ht, hms⟩ => ?_
  have hf1 : m1 81 28 = 0 := (f1.2 28 (by omega)).trans hf
  have tail : ∀ m2, v_fs m m2 → ((k1 = 41 ∧ (m2 81 28 = 0 ∧ m2 81 29 = m 81 29) ∧ ∃ k2 a2 b2, v_tok T n b1 k2 a2 b2 ∧ v_ms m2 T n k2 a2 b2) ∨ (k1 ≠ 41 ∧ m2 81 28 = 1 ∧ m2 81 29 = a1 ∧ 0 ≤ m2 81 26 ∧ m2 81 26 ≤ 9999)) → q_ok (q_rd m2 86 2 bk fun v3 => q_wr m2 93 24 ((12 * bk) + v3) vr fun m4 => q_wr m4 94 24 ((12 * bk) + v3) x fun m5 => q_wr m5 95 24 ((12 * bk) + v3) y fun m6 => q_rd m6 86 2 bk fun v7 => q_bd (f_Mod_lay bk (1100 + v7) m6) fun _ m8 => q_rd m8 86 2 bk fun v9 => q_wr m8 86 2 bk (v9 + 1) fun m10 => q_bd (f_Mod_addOffset bk x y m10) fun _ m11 => q_rt 0 m11) (fun _ m' => ∃ m2 k1 a1 b1, v_fs m m2 ∧ v_tok T n b k1 a1 b1 ∧ ((k1 = 41 ∧ (m2 81 28 = 0 ∧ m2 81 29 = m 81 29) ∧ ∃ k2 a2 b2, v_tok T n b1 k2 a2 b2 ∧ v_ms m2 T n k2 a2 b2) ∨ (k1 ≠ 41 ∧ m2 81 28 = 1 ∧ m2 81 29 = a1 ∧ 0 ≤ m2 81 26 ∧ m2 81 26 ≤ 9999)) ∧ ((v_kn cnt (fun o => m 96 (12 * bk + o)) (fun o => m 97 (12 * bk + o)) x y ∧ m' = v_rr m2 bk R C vr x y) ∨ (¬ v_kn cnt (fun o => m 96 (12 * bk + o)) (fun o => m 97 (12 * bk + o)) x y ∧ m' = v_ow (v_rr m2 bk R C vr x y) bk cnt x y))) := by
    intro m2 f2 hp
    have r := m_record (m := m2) hb (vr := vr) hR (by rw [f2.1 86 (by decide)]; exact e86) hC (by rw [f2.1 92 (by decide)]; exact e92) hc (by rw [f2.1 87 (by decide)]; exact e87) hx hy (by rw [f2.1 96 (by decide), f2.1 97 (by decide)]; exact hA)
    rw [f2.1 96 (by decide), f2.1 97 (by decide)] at r
    exact o_mono r fun _ m' h' => ⟨m2, k1, a1, b1, f2, ht, hp, h'⟩
  refine o_bd (m_need0 hms hf1 (q := 41) (by unfold v_sg; omega)) fun _ m2 hn => ?_
  rcases hn with ⟨ek, f2, k2, a2, b2, ht2, hms2⟩ | ⟨ek, e2⟩
  · exact tail m2 (v_fs_tr (v_fs_fm f1) (v_fs_fm f2)) (Or.inl ⟨ek, ⟨(f2.2 28 (by omega)).trans hf1, (f2.2 29 (by omega)).trans (f1.2 29 (by omega))⟩, k2, a2, b2, ht2, hms2⟩)
  · refine tail m2 ?_ (Or.inr ⟨ek, ?_, ?_, ?_⟩)
    · rw [e2]; exact v_fs_tr (v_fs_fm f1) (v_fs_tr (v_fs_up (Or.inl rfl)) (v_fs_up (Or.inr rfl)))
    · rw [e2, q_up_i (by decide), q_up_s]
    · rw [e2, q_up_s]
    · rw [e2, q_up_i (by decide), q_up_i (by decide)]; exact hms.2.2.2.2
/-- where something was wrong before, nothing is recorded -/
theorem m_rd651 {vr x y : Int} (hf : 1 ≤ m 81 28 ∧ m 81 28 ≤ 4) : f_Mod_readRead_b65 bk vr x y m = some (0, m) := by
  unfold f_Mod_readRead_b65
  rw [q_w_id (x := m 81 28) (by omega) (by omega), if_neg (by omega), x_rt]
end mread
