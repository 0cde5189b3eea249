/-! THE PARSER: a read of the class -/
section read
variable {m : q_Mem} {t : Int}
/-- the memory behind a read's four writes -/
def v_rd (m : q_Mem) (t R vr a c : Int) : q_Mem := q_up (q_up (q_up (q_up m (t + 4) R vr) (t + 5) R a) (t + 6) R c) t 4 (R + 1)
/-- the memory behind an offset's three writes -/
def v_of (m : q_Mem) (t cnt a c : Int) : q_Mem := q_up (q_up (q_up m (t + 2) cnt a) (t + 3) cnt c) t 5 (cnt + 1)
/-- the memory behind a node's four writes -/
def v_no (m : q_Mem) (t N w x y : Int) : q_Mem := q_up (q_up (q_up (q_up m (t + 7) N w) (t + 8) N x) (t + 9) N y) t 6 (N + 1)
theorem v_rd_f {R vr a c d : Int} (h : d ≠ t) (h4 : d ≠ t + 4) (h5 : d ≠ t + 5) (h6 : d ≠ t + 6) : v_rd m t R vr a c d = m d := by
  unfold v_rd
  rw [q_up_f h, q_up_f h6, q_up_f h5, q_up_f h4]
theorem v_rd_t {R vr a c j : Int} (h : j ≠ 4) : v_rd m t R vr a c t j = m t j := by
  unfold v_rd
  rw [q_up_i h, q_up_c (by omega), q_up_c (by omega), q_up_c (by omega)]
theorem v_rd_4 {R vr a c : Int} : v_rd m t R vr a c t 4 = R + 1 := q_up_s _ _ _ _
theorem v_of_t {cnt a c j : Int} (h : j ≠ 5) : v_of m t cnt a c t j = m t j := by
  unfold v_of
  rw [q_up_i h, q_up_c (by omega), q_up_c (by omega)]
theorem c_addRead (ht : t ∈ q_Lp) {R cnt N vr a c : Int} (hR : 0 ≤ R ∧ R < 12) (e4 : m t 4 = R) (hc : 0 ≤ cnt ∧ cnt < 12) (e5 : m t 5 = cnt) (hN : 0 ≤ N ∧ N < 80) (e6 : m t 6 = N) (ha : -3 ≤ a ∧ a ≤ 3) (hcc : -3 ≤ c ∧ c ≤ 3) (hA : ∀ o, 0 ≤ o → o < cnt → (-3 ≤ m (t + 2) o ∧ m (t + 2) o ≤ 3) ∧ (-3 ≤ m (t + 3) o ∧ m (t + 3) o ≤ 3)) : q_ok (f_Loop_addRead t vr a c m) (fun v m' => v = N ∧ ((v_kn cnt (m (t + 2)) (m (t + 3)) a c ∧ m' = v_no (v_rd m t R vr a c) t N 3 R 0) ∨ (¬ v_kn cnt (m (t + 2)) (m (t + 3)) a c ∧ m' = v_no (v_of (v_rd m t R vr a c) t cnt a c) t N 3 R 0))) := by
  have g1 : q_up m (t + 4) R vr t 4 = R := by rw [q_up_c (by omega)]; exact e4
  have g2 : q_up (q_up m (t + 4) R vr) (t + 5) R a t 4 = R := by rw [q_up_c (by omega)]; exact g1
  have g3 : q_up (q_up (q_up m (t + 4) R vr) (t + 5) R a) (t + 6) R c t 4 = R := by rw [q_up_c (by omega)]; exact g2
  have k2 : v_rd m t R vr a c (t + 2) = m (t + 2) := v_rd_f (by omega) (by omega) (by omega) (by omega)
  have k3 : v_rd m t R vr a c (t + 3) = m (t + 3) := v_rd_f (by omega) (by omega) (by omega) (by omega)
  have n5 : v_rd m t R vr a c t 5 = cnt := (v_rd_t (by decide)).trans e5
  have n6 : v_rd m t R vr a c t 6 = N := (v_rd_t (by decide)).trans e6
  have off := c_noteOffset (m := v_rd m t R vr a c) ht (a := a) (c := c) hc n5 ha hcc (by rw [k2, k3]; exact hA)
  rw [k2, k3] at off
  unfold f_Loop_addRead
  rw [e4, q_w_id (x := R) (by omega) (by omega), if_pos hR.2, x_wr (n := 12) hR.1 hR.2 (by decide), g1, x_wr (n := 12) hR.1 hR.2 (by decide), g2, x_wr (n := 12) hR.1 hR.2 (by decide), g3, x_pf]
  refine o_bd off fun v m5 h5 => ?_
  have fin : m5 t 4 = R + 1 → m5 t 6 = N → q_bd (f_Loop_addNode t 3 (m5 t 4 - 1) 0 m5) (fun v6 m7 => q_rt v6 m7) = some (N, v_no m5 t N 3 R 0) := by
    intro h4 h6
    rw [h4, show R + 1 - 1 = R by omega, c_addNode ht hN h6]
    rfl
  rcases h5 with ⟨hk, h5⟩ | ⟨hk, h5⟩
  · rw [fin (by rw [h5]; exact v_rd_4) (by rw [h5]; exact n6), h5]
    exact o_some ⟨rfl, Or.inl ⟨hk, rfl⟩⟩
  · have h5' : m5 = v_of (v_rd m t R vr a c) t cnt a c := h5
    rw [fin (by rw [h5']; exact (v_of_t (by decide)).trans v_rd_4) (by rw [h5']; exact (v_of_t (by decide)).trans n6), h5']
    exact o_some ⟨rfl, Or.inr ⟨hk, rfl⟩⟩
end read
