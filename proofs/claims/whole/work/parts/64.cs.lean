/-! SEARCHES, the class's side -/
section csearch
variable {l m : q_Mem} {t : Int}
theorem w_sched (ht : t ∈ q_Lp) (hl : g_CL m t l) (hw : g_lw l) {r a b : Int} (hr : 1 ≤ r ∧ r ≤ 9) (ha : -3 ≤ a ∧ a ≤ 3) (hb : -3 ≤ b ∧ b ≤ 3) {s : Int → Int} (hs : w_C m s) (h0 : w_b s 0) : q_ok (f_Sear_trySchedules t r a b m) (fun _ m' => (∀ c, c ≠ 73 → m' c = m c) ∧ w_C m' (w_Ss l a b r s)) := by
  unfold f_Sear_trySchedules w_Ss
  refine o_upF (fun n k (s' : q_Mem) => f_Sear_trySchedules_l4 n t r a b k s') (fun k s' => -r ≤ k ∧ (∀ c, c ≠ 73 → s' c = m c) ∧ w_C s' (w_up (fun p s => w_S1 l a b r p s) (-r) s (k - -r).toNat)) _ (k := -r) (e := r + 1) (s := m) (by omega) (by omega) ⟨Int.le_refl _, fun _ _ => rfl, by rw [show (-r - -r).toNat = 0 by omega]; exact hs⟩ ?_ ?_
  · intro n k m1 hk ⟨k0, f1, c1⟩ hn
    have hb1 := w_b_Ss hw (a := a) (b := b) hr h0 (k - -r).toNat (by omega)
    show q_ok (f_Sear_trySchedules_b4 (f_Sear_trySchedules_l4 n) t r a b k m1) _
    unfold f_Sear_trySchedules_b4
    rw [q_w_id (x := r) (by omega) (by omega), q_w_id (x := k) (by omega) (by omega), if_neg (by omega)]
    refine o_upF (fun n' j (s' : q_Mem) => f_Sear_trySchedules_l14 (f_Sear_trySchedules_l4 n) n' t r a b k j s') (fun j s' => -r ≤ j ∧ (∀ c, c ≠ 73 → s' c = m c) ∧ w_C s' (w_up (fun q s => w_S l a b k q s) (-r) (w_up (fun p s => w_S1 l a b r p s) (-r) s (k - -r).toNat) (j - -r).toNat)) _ (k := -r) (e := r + 1) (s := m1) (by omega) (by omega) ⟨Int.le_refl _, f1, by rw [show (-r - -r).toNat = 0 by omega]; exact c1⟩ ?_ ?_
    · intro n' j m2 hj ⟨j0, f2, c2⟩ hn'
      have hb2 := w_b_S1 hw (a := a) (b := b) (p := k) hr (by omega) hb1 (j - -r).toNat (by omega)
      have hl2 : g_CL m2 t l := g_CL_of ht hl fun c hc => f2 c (by omega)
      have es := w_up_s (fun q s => w_S l a b k q s) (w_up (fun p s => w_S1 l a b r p s) (-r) s (k - -r).toNat) j0
      have hcl := w_cl_rg hw k j a b
      show q_ok (f_Sear_trySchedules_b14 (f_Sear_trySchedules_l4 n) (f_Sear_trySchedules_l14 (f_Sear_trySchedules_l4 n) n') t r a b k j m2) _
      unfold f_Sear_trySchedules_b14 f_Sear_trySchedules_b71
      rw [q_w_id (x := r) (by omega) (by omega), q_w_id (x := j) (by omega) (by omega), if_neg (show ¬ r < j by omega), c_isLawful hl2 hw (by omega) (by omega), x_bd]
      rcases g_law_01 l k j with cl | cl
      · rw [cl, x_w1, if_neg (show ¬ ((1 : Int) = 0) by decide), c_clashes hl2 hw (by omega) (by omega) (by omega) (by omega), x_bd]
        change w_C _ (w_up (fun q s => w_S l a b k q s) (-r) _ _) at c2
        rw [show (if k * a + j * b = 0 then g_sh (l 0 0) (l 0 1) a b else 0) = w_cl l k j a b from rfl, q_w_id (x := w_cl l k j a b) (by omega) (by omega)]
        by_cases cc : w_cl l k j a b = 0
        · have hlat := g_lat_rg hw (P := k) (Q := j) (by omega) (by omega)
          rw [if_pos cc, c_latency hl2 (by omega) (by omega), x_bd]
          refine w_C_step c2 hb2 (by omega) (by omega) fun m3 f3 c3 => ?_
          refine hn' m3 ⟨by omega, fun c hc => (f3 c hc).trans (f2 c hc), ?_⟩
          rw [es]
          show w_C m3 (w_S l a b k j _)
          unfold w_S
          rw [if_pos ⟨cl, cc⟩]
          exact c3
        · rw [if_neg cc]
          refine hn' m2 ⟨by omega, f2, ?_⟩
          rw [es]
          show w_C m2 (w_S l a b k j _)
          unfold w_S
          rw [if_neg fun h => cc h.2]
          exact c2
      · rw [cl, x_w0, if_pos rfl]
        refine hn' m2 ⟨by omega, f2, ?_⟩
        rw [es]
        show w_C m2 (w_S l a b k j _)
        unfold w_S
        rw [if_neg fun h => by have := h.1; omega]
        exact c2
    · intro n' m2 ⟨_, f2, c2⟩
      show q_ok (f_Sear_trySchedules_b14 (f_Sear_trySchedules_l4 n) (f_Sear_trySchedules_l14 (f_Sear_trySchedules_l4 n) n') t r a b k (r + 1) m2) _
      unfold f_Sear_trySchedules_b14
      rw [q_w_id (x := r) (by omega) (by omega), q_w_id (x := r + 1) (by omega) (by omega), if_pos (by omega)]
      refine hn m2 ⟨by omega, f2, ?_⟩
      rw [w_up_s _ _ k0]
      exact c2
  · intro n m1 ⟨_, f1, c1⟩
    show q_ok (f_Sear_trySchedules_b4 (f_Sear_trySchedules_l4 n) t r a b (r + 1) m1) _
    unfold f_Sear_trySchedules_b4
    rw [q_w_id (x := r) (by omega) (by omega), q_w_id (x := r + 1) (by omega) (by omega), if_pos (by omega)]
    exact o_rt ⟨f1, c1⟩
theorem w_lines (ht : t ∈ q_Lp) (hl : g_CL m t l) (hw : g_lw l) {P Q x N : Int} (hP : -9 ≤ P ∧ P ≤ 9) (hQ : -9 ≤ Q ∧ Q ≤ 9) (hx : 0 ≤ x ∧ x ≤ 163) {s : Int → Int} (hs : w_C m s) (h0 : w_b s N) (hN : N < 900000) : q_ok (f_Sear_tryLines t P Q x m) (fun _ m' => (∀ c, c ≠ 73 → m' c = m c) ∧ w_C m' (w_Ls l P Q x s)) := by
  unfold f_Sear_tryLines w_Ls
  refine o_upF (fun n k (s' : q_Mem) => f_Sear_tryLines_l4 n t P Q x k s') (fun k s' => -3 ≤ k ∧ (∀ c, c ≠ 73 → s' c = m c) ∧ w_C s' (w_up (fun a s => w_L1 l P Q x a s) (-3) s (k - -3).toNat)) _ (k := -3) (e := 4) (s := m) (by omega) (by omega) ⟨Int.le_refl _, fun _ _ => rfl, hs⟩ ?_ ?_
  · intro n k m1 hk ⟨k0, f1, c1⟩ hn
    have hb1 := w_b_Ls hw (P := P) (Q := Q) hx h0 (k - -3).toNat (by omega)
    show q_ok (f_Sear_tryLines_b4 (f_Sear_tryLines_l4 n) t P Q x k m1) _
    unfold f_Sear_tryLines_b4
    rw [q_w_id (x := k) (by omega) (by omega), if_neg (by omega)]
    refine o_upF (fun n' j (s' : q_Mem) => f_Sear_tryLines_l14 (f_Sear_tryLines_l4 n) n' t P Q x k j s') (fun j s' => -3 ≤ j ∧ (∀ c, c ≠ 73 → s' c = m c) ∧ w_C s' (w_up (fun b s => w_L l P Q x k b s) (-3) (w_up (fun a s => w_L1 l P Q x a s) (-3) s (k - -3).toNat) (j - -3).toNat)) _ (k := -3) (e := 4) (s := m1) (by omega) (by omega) ⟨Int.le_refl _, f1, c1⟩ ?_ ?_
    · intro n' j m2 hj ⟨j0, f2, c2⟩ hn'
      have hb2 := w_b_L1 hw (P := P) (Q := Q) (a := k) hx hb1 (j - -3).toNat (by omega)
      have hl2 : g_CL m2 t l := g_CL_of ht hl fun c hc => f2 c (by omega)
      have es := w_up_s (fun b s => w_L l P Q x k b s) (w_up (fun a s => w_L1 l P Q x a s) (-3) s (k - -3).toNat) j0
      have hcl := w_cl_rg hw P Q k j
      show q_ok (f_Sear_tryLines_b14 (f_Sear_tryLines_l4 n) (f_Sear_tryLines_l14 (f_Sear_tryLines_l4 n) n') t P Q x k j m2) _
      unfold f_Sear_tryLines_b14 f_Sear_tryLines_b71
      rw [q_w_id (x := j) (by omega) (by omega), if_neg (show ¬ 3 < j by omega), c_isLine (by omega) (by omega), x_bd]
      by_cases cl : g_line k j
      · rw [if_pos cl, x_w1, if_neg (show ¬ ((1 : Int) = 0) by decide), c_clashes hl2 hw (by omega) (by omega) (by omega) (by omega), x_bd]
        rw [show (if P * k + Q * j = 0 then g_sh (l 0 0) (l 0 1) k j else 0) = w_cl l P Q k j from rfl, q_w_id (x := w_cl l P Q k j) (by omega) (by omega)]
        by_cases cc : w_cl l P Q k j = 0
        · rw [if_pos cc, c_cells hl2 hw (by omega) (by omega), x_bd]
          refine w_C_step c2 hb2 (by omega) (w_cost hw hx) fun m3 f3 c3 => ?_
          refine hn' m3 ⟨by omega, fun c hc => (f3 c hc).trans (f2 c hc), ?_⟩
          rw [es]
          show w_C m3 (w_L l P Q x k j _)
          unfold w_L
          rw [if_pos ⟨cl, cc⟩]
          exact c3
        · rw [if_neg cc]
          refine hn' m2 ⟨by omega, f2, ?_⟩
          rw [es]
          show w_C m2 (w_L l P Q x k j _)
          unfold w_L
          rw [if_neg fun h => cc h.2]
          exact c2
      · rw [if_neg cl, x_w0, if_pos rfl]
        refine hn' m2 ⟨by omega, f2, ?_⟩
        rw [es]
        show w_C m2 (w_L l P Q x k j _)
        unfold w_L
        rw [if_neg fun h => cl h.1]
        exact c2
    · intro n' m2 ⟨_, f2, c2⟩
      show q_ok (f_Sear_tryLines_b14 (f_Sear_tryLines_l4 n) (f_Sear_tryLines_l14 (f_Sear_tryLines_l4 n) n') t P Q x k 4 m2) _
      unfold f_Sear_tryLines_b14
      rw [if_pos (by decide)]
      refine hn m2 ⟨by omega, f2, ?_⟩
      rw [w_up_s _ _ k0]
      exact c2
  · intro n m1 ⟨_, f1, c1⟩
    show q_ok (f_Sear_tryLines_b4 (f_Sear_tryLines_l4 n) t P Q x 4 m1) _
    unfold f_Sear_tryLines_b4
    rw [if_pos (by decide)]
    exact o_rt ⟨f1, c1⟩
theorem w_pairs (ht : t ∈ q_Lp) (hl : g_CL m t l) (hw : g_lw l) {r : Int} (hr : 1 ≤ r ∧ r ≤ 9) {s : Int → Int} (hs : w_C m s) (h0 : w_b s 0) : q_ok (f_Sear_tryPairs t r m) (fun _ m' => (∀ c, c ≠ 73 → m' c = m c) ∧ w_C m' (w_Ps l r s)) := by
  unfold f_Sear_tryPairs w_Ps
  refine o_upF (fun n k (s' : q_Mem) => f_Sear_tryPairs_l3 n t r k s') (fun k s' => -r ≤ k ∧ (∀ c, c ≠ 73 → s' c = m c) ∧ w_C s' (w_up (fun p s => w_P1 l r p s) (-r) s (k - -r).toNat)) _ (k := -r) (e := r + 1) (s := m) (by omega) (by omega) ⟨Int.le_refl _, fun _ _ => rfl, by rw [show (-r - -r).toNat = 0 by omega]; exact hs⟩ ?_ ?_
  · intro n k m1 hk ⟨k0, f1, c1⟩ hn
    have hb1 := w_b_Ps hw hr h0 (k - -r).toNat (by omega)
    show q_ok (f_Sear_tryPairs_b3 (f_Sear_tryPairs_l3 n) t r k m1) _
    unfold f_Sear_tryPairs_b3
    rw [q_w_id (x := r) (by omega) (by omega), q_w_id (x := k) (by omega) (by omega), if_neg (by omega)]
    refine o_upF (fun n' j (s' : q_Mem) => f_Sear_tryPairs_l12 (f_Sear_tryPairs_l3 n) n' t r k j s') (fun j s' => -r ≤ j ∧ (∀ c, c ≠ 73 → s' c = m c) ∧ w_C s' (w_up (fun q s => w_P l k q s) (-r) (w_up (fun p s => w_P1 l r p s) (-r) s (k - -r).toNat) (j - -r).toNat)) _ (k := -r) (e := r + 1) (s := m1) (by omega) (by omega) ⟨Int.le_refl _, f1, by rw [show (-r - -r).toNat = 0 by omega]; exact c1⟩ ?_ ?_
    · intro n' j m2 hj ⟨j0, f2, c2⟩ hn'
      have hb2 := w_b_P1 hw (p := k) hr (by omega) hb1 (j - -r).toNat (by omega)
      have hl2 : g_CL m2 t l := g_CL_of ht hl fun c hc => f2 c (by omega)
      have es := w_up_s (fun q s => w_P l k q s) (w_up (fun p s => w_P1 l r p s) (-r) s (k - -r).toNat) j0
      show q_ok (f_Sear_tryPairs_b12 (f_Sear_tryPairs_l3 n) (f_Sear_tryPairs_l12 (f_Sear_tryPairs_l3 n) n') t r k j m2) _
      unfold f_Sear_tryPairs_b12 f_Sear_tryPairs_b43
      rw [q_w_id (x := r) (by omega) (by omega), q_w_id (x := j) (by omega) (by omega), if_neg (show ¬ r < j by omega), c_isLawful hl2 hw (by omega) (by omega), x_bd]
      rcases g_law_01 l k j with cl | cl
      · have hlat := g_lat_rg hw (P := k) (Q := j) (by omega) (by omega)
        rw [cl, x_w1, if_neg (show ¬ ((1 : Int) = 0) by decide), c_latency hl2 (by omega) (by omega), x_bd]
        refine o_bd (w_lines ht hl2 hw (by omega) (by omega) (by omega) c2 hb2 (by omega)) fun _ m3 ⟨f3, c3⟩ => ?_
        refine hn' m3 ⟨by omega, fun c hc => (f3 c hc).trans (f2 c hc), ?_⟩
        rw [es]
        show w_C m3 (w_P l k j _)
        unfold w_P
        rw [if_pos cl]
        exact c3
      · rw [cl, x_w0, if_pos rfl]
        refine hn' m2 ⟨by omega, f2, ?_⟩
        rw [es]
        show w_C m2 (w_P l k j _)
        unfold w_P
        rw [if_neg (by omega)]
        exact c2
    · intro n' m2 ⟨_, f2, c2⟩
      show q_ok (f_Sear_tryPairs_b12 (f_Sear_tryPairs_l3 n) (f_Sear_tryPairs_l12 (f_Sear_tryPairs_l3 n) n') t r k (r + 1) m2) _
      unfold f_Sear_tryPairs_b12
      rw [q_w_id (x := r) (by omega) (by omega), q_w_id (x := r + 1) (by omega) (by omega), if_pos (by omega)]
      refine hn m2 ⟨by omega, f2, ?_⟩
      rw [w_up_s _ _ k0]
      exact c2
  · intro n m1 ⟨_, f1, c1⟩
    show q_ok (f_Sear_tryPairs_b3 (f_Sear_tryPairs_l3 n) t r (r + 1) m1) _
    unfold f_Sear_tryPairs_b3
    rw [q_w_id (x := r) (by omega) (by omega), q_w_id (x := r + 1) (by omega) (by omega), if_pos (by omega)]
    exact o_rt ⟨f1, c1⟩
end csearch
