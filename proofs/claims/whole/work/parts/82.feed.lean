/-! CALL: feed -/
theorem y_i2b (Y Z : Int32) (h : Y.toInt8 = Z.toInt8) : q_i2b Y.toInt = q_i2b Z.toInt := by
  unfold q_i2b
  rw [Int32.ofInt_toInt, Int32.ofInt_toInt, h]
theorem y_bits (V : BitVec 32) {s : Nat} (hs : s ≤ 24) : BitVec.signExtend 8 (V >>> s) = BitVec.signExtend 8 (V.sshiftRight s) := by
  rw [BitVec.signExtend_eq_setWidth_of_le _ (by decide), BitVec.signExtend_eq_setWidth_of_le _ (by decide)]
  apply BitVec.eq_of_getLsbD_eq
  intro i hi
  rw [BitVec.getLsbD_setWidth, BitVec.getLsbD_setWidth, BitVec.getLsbD_ushiftRight, BitVec.getLsbD_sshiftRight, if_pos (by omega)]
  have : ¬ 32 ≤ i := by omega
  simp [this]
theorem y_sh (v : Int) {s : Int} (hs : s = 0 ∨ s = 8 ∨ s = 16 ∨ s = 24) : q_i2b (q_ushr v s) = q_i2b (q_shr v s) := by
  unfold q_ushr q_shr
  refine y_i2b _ _ ?_
  apply Int8.toBitVec_inj.mp
  rcases hs with rfl | rfl | rfl | rfl
  · show BitVec.signExtend 8 ((Int32.ofInt v).toBitVec >>> (0 : Nat)) = BitVec.signExtend 8 ((Int32.ofInt v).toBitVec.sshiftRight 0)
    exact y_bits _ (by decide)
  · show BitVec.signExtend 8 ((Int32.ofInt v).toBitVec >>> (8 : Nat)) = BitVec.signExtend 8 ((Int32.ofInt v).toBitVec.sshiftRight 8)
    exact y_bits _ (by decide)
  · show BitVec.signExtend 8 ((Int32.ofInt v).toBitVec >>> (16 : Nat)) = BitVec.signExtend 8 ((Int32.ofInt v).toBitVec.sshiftRight 16)
    exact y_bits _ (by decide)
  · show BitVec.signExtend 8 ((Int32.ofInt v).toBitVec >>> (24 : Nat)) = BitVec.signExtend 8 ((Int32.ofInt v).toBitVec.sshiftRight 24)
    exact y_bits _ (by decide)
theorem y_rg (x : Int) : -128 ≤ q_i2b x ∧ q_i2b x ≤ 127 := by
  unfold q_i2b
  rw [Int8.toInt_toInt32]
  have a := Int8.le_toInt (Int32.ofInt x).toInt8
  have b := Int8.toInt_lt (Int32.ofInt x).toInt8
  omega
def y_by (v s : Int) : Int := q_i2b (q_i2b (q_ushr v s))
def y_v (a b c d e k : Int) : Int := if k < 4 then a else if k < 8 then b else if k < 12 then c else if k < 16 then d else e
/-- the twenty bytes of a feed -/
def y_T (n : Int) (T : Int → Int) (a b c d e : Int) : Int → Int := fun i => if n ≤ i ∧ i < n + 20 then y_by (y_v a b c d e (i - n)) (24 - 8 * ((i - n) % 4)) else T i
section feed
variable {l m m' : q_Mem} {o : Int → Int} {x z n ft pl : Int} {L X : Int → Int → Int} {F T : Int → Int}
theorem c_tput {v : Int} (hn : 0 ≤ n ∧ n ≤ 796) (h : m 1 1 = n) : q_ok (f_Tape_put v m) (fun _ m' => (∀ c, c ≠ 1 → c ≠ 2 → m' c = m c) ∧ (∀ j, j ≠ 1 → m' 1 j = m 1 j) ∧ m' 1 1 = n + 4 ∧ ∀ i, m' 2 i = if n ≤ i ∧ i < n + 4 then y_by v (24 - 8 * (i - n)) else m 2 i) := by
  unfold f_Tape_put
  rw [show f_Tape_put_l3 q_F v 24 m = f_Tape_put_l3 q_F v (24 - 8 * 0) m from congrArg (fun k => f_Tape_put_l3 q_F v k m) (by decide)]
  refine o_upF (fun n' k (s : q_Mem) => f_Tape_put_l3 n' v (24 - 8 * k) s) (fun k s => 0 ≤ k ∧ (∀ c, c ≠ 1 → c ≠ 2 → s c = m c) ∧ (∀ j, j ≠ 1 → s 1 j = m 1 j) ∧ s 1 1 = n + k ∧ ∀ i, s 2 i = if n ≤ i ∧ i < n + k then y_by v (24 - 8 * (i - n)) else m 2 i) _ (k := 0) (e := 4) (s := m) (by omega) (by omega) ⟨by omega, fun _ _ _ => rfl, fun _ _ => rfl, by omega, fun i => by rw [if_neg (by omega)]⟩ ?_ ?_
  · intro n' k s hk ⟨k0, f1, f2, e1, v1⟩ hnx
    show q_ok (f_Tape_put_b3 (f_Tape_put_l3 n') v (24 - 8 * k) s) _
    unfold f_Tape_put_b3
    have e2 : q_up s 2 (n + k) (q_i2b (q_i2b (q_ushr v (24 - 8 * k)))) 1 1 = n + k := by rw [q_up_c (by decide)]; exact e1
    rw [q_w_id (x := 24 - 8 * k) (by omega) (by omega), if_neg (by omega), e1, q_w_id (x := n + k) (by omega) (by omega), if_neg (by omega), x_wr (n := 800) (by omega) (by omega) (by decide), x_pf, e2, show 24 - 8 * k + -8 = 24 - 8 * (k + 1) by omega]
    refine hnx _ ⟨by omega, fun c c1 c2 => by rw [q_up_f c1, q_up_f c2]; exact f1 c c1 c2, fun j hj => by rw [q_up_i hj, q_up_c (by decide)]; exact f2 j hj, by rw [q_up_s]; omega, fun i => ?_⟩
    rw [q_up_c (by decide)]
    by_cases ci : i = n + k
    · rw [ci, q_up_s, if_pos (by omega), show n + k - n = k by omega]
      rfl
    · rw [q_up_i ci, v1 i]
      by_cases c2 : n ≤ i ∧ i < n + k
      · rw [if_pos c2, if_pos (by omega)]
      · rw [if_neg c2, if_neg (by omega)]
  · intro n' s ⟨_, f1, f2, e1, v1⟩
    show q_ok (f_Tape_put_b3 (f_Tape_put_l3 n') v (24 - 8 * 4) s) _
    unfold f_Tape_put_b3
    rw [if_pos (by decide)]
    exact o_rt ⟨f1, f2, e1, v1⟩
theorem c_feed {a b c d e : Int} (hn : 0 ≤ n ∧ n ≤ 780) (h : m 1 1 = n) (hT : ∀ i, 0 ≤ i → i < 800 → m 2 i = T i) : q_ok (f_PG_feed a b c d e m) (fun r m' => r = n + 20 ∧ (∀ c, c ≠ 1 → c ≠ 2 → m' c = m c) ∧ m' 1 1 = n + 20 ∧ ∀ i, 0 ≤ i → i < 800 → m' 2 i = y_T n T a b c d e i) := by
  unfold f_PG_feed
  rw [h, q_w_id (x := n + 20) (by omega) (by omega), if_pos (by omega)]
  refine o_bd (c_tput (n := n) (by omega) h) fun _ m1 ⟨f1, _, e1, v1⟩ => ?_
  refine o_bd (c_tput (n := n + 4) (by omega) e1) fun _ m2 ⟨f2, _, e2, v2⟩ => ?_
  refine o_bd (c_tput (n := n + 4 + 4) (by omega) e2) fun _ m3 ⟨f3, _, e3, v3⟩ => ?_
  refine o_bd (c_tput (n := n + 4 + 4 + 4) (by omega) e3) fun _ m4 ⟨f4, _, e4, v4⟩ => ?_
  refine o_bd (c_tput (n := n + 4 + 4 + 4 + 4) (by omega) e4) fun _ m5 ⟨f5, _, e5, v5⟩ => ?_
  refine o_rt ⟨by rw [e5]; omega, fun c c1 c2 => by rw [f5 c c1 c2, f4 c c1 c2, f3 c c1 c2, f2 c c1 c2, f1 c c1 c2], by rw [e5]; omega, fun i i0 i1 => ?_⟩
  unfold y_T
  rw [v5 i]
  by_cases c5 : n + 4 + 4 + 4 + 4 ≤ i ∧ i < n + 4 + 4 + 4 + 4 + 4
  · rw [if_pos c5, if_pos (by omega), show (i - n) % 4 = i - (n + 4 + 4 + 4 + 4) by omega]
    unfold y_v
    rw [if_neg (by omega), if_neg (by omega), if_neg (by omega), if_neg (by omega)]
  rw [if_neg c5, v4 i]
  by_cases c4 : n + 4 + 4 + 4 ≤ i ∧ i < n + 4 + 4 + 4 + 4
  · rw [if_pos c4, if_pos (by omega), show (i - n) % 4 = i - (n + 4 + 4 + 4) by omega]
    unfold y_v
    rw [if_neg (by omega), if_neg (by omega), if_neg (by omega), if_pos (by omega)]
  rw [if_neg c4, v3 i]
  by_cases c3 : n + 4 + 4 ≤ i ∧ i < n + 4 + 4 + 4
  · rw [if_pos c3, if_pos (by omega), show (i - n) % 4 = i - (n + 4 + 4) by omega]
    unfold y_v
    rw [if_neg (by omega), if_neg (by omega), if_pos (by omega)]
  rw [if_neg c3, v2 i]
  by_cases c2 : n + 4 ≤ i ∧ i < n + 4 + 4
  · rw [if_pos c2, if_pos (by omega), show (i - n) % 4 = i - (n + 4) by omega]
    unfold y_v
    rw [if_neg (by omega), if_pos (by omega)]
  rw [if_neg c2, v1 i]
  by_cases c1 : n ≤ i ∧ i < n + 4
  · rw [if_pos c1, if_pos (by omega), show (i - n) % 4 = i - n by omega]
    unfold y_v
    rw [if_pos (by omega)]
  rw [if_neg c1, if_neg (by omega)]
  exact hT i i0 i1
theorem y_and {k : Int} (h0 : 0 ≤ k) (h1 : k < 20) : q_and k 3 = k % 4 := by
  have : ∀ j : Fin 20, q_and (j.val : Int) 3 = (j.val : Int) % 4 := by decide
  have := this ⟨k.toNat, by omega⟩
  dsimp only at this
  rwa [show ((k.toNat : Nat) : Int) = k by omega] at this
theorem m_feed {a b c d e : Int} (hn : 0 ≤ n ∧ n ≤ 780) (h : m 81 21 = n) (hT : ∀ i, 0 ≤ i → i < 800 → m 101 i = T i) : q_ok (f_Mod_feed a b c d e m) (fun r m' => r = n + 20 ∧ (∀ c, c ≠ 81 → c ≠ 101 → m' c = m c) ∧ (∀ j, j ≠ 21 → m' 81 j = m 81 j) ∧ m' 81 21 = n + 20 ∧ ∀ i, 0 ≤ i → i < 800 → m' 101 i = y_T n T a b c d e i) := by
  unfold f_Mod_feed
  rw [h, q_w_id (x := n + 20) (by omega) (by omega), if_pos (by omega)]
  refine o_upF (fun n' k (s : q_Mem) => f_Mod_feed_l18 n' a b c d e k s) (fun k s => 0 ≤ k ∧ (∀ c, c ≠ 101 → s c = m c) ∧ ∀ i, s 101 i = if n ≤ i ∧ i < n + k then y_by (y_v a b c d e (i - n)) (24 - 8 * ((i - n) % 4)) else m 101 i) _ (k := 0) (e := 20) (s := m) (by omega) (by omega) ⟨by omega, fun _ _ => rfl, fun i => by rw [if_neg (by omega)]⟩ ?_ ?_
  · intro n' k s hk ⟨k0, f1, v1⟩ hnx
    have fin : q_ok (f_Mod_feed_b71 (f_Mod_feed_l18 n') a b c d e k (y_v a b c d e k) s) (fun r m' => r = n + 20 ∧ (∀ c, c ≠ 81 → c ≠ 101 → m' c = m c) ∧ (∀ j, j ≠ 21 → m' 81 j = m 81 j) ∧ m' 81 21 = n + 20 ∧ ∀ i, 0 ≤ i → i < 800 → m' 101 i = y_T n T a b c d e i) := by
      unfold f_Mod_feed_b71
      rw [f1 81 (by decide), h, x_wr (n := 800) (by omega) (by omega) (by decide), y_and k0 hk]
      refine hnx _ ⟨by omega, fun c hc => by rw [q_up_f hc]; exact f1 c hc, fun i => ?_⟩
      by_cases ci : i = n + k
      · rw [ci, q_up_s, if_pos (by omega), show n + k - n = k by omega]
        unfold y_by
        rw [y_sh (v := y_v a b c d e k) (s := 24 - 8 * (k % 4)) (by omega)]
      · rw [q_up_i ci, v1 i]
        by_cases c2 : n ≤ i ∧ i < n + k
        · rw [if_pos c2, if_pos (by omega)]
        · rw [if_neg c2, if_neg (by omega)]
    show q_ok (f_Mod_feed_b18 (f_Mod_feed_l18 n') a b c d e k s) _
    unfold f_Mod_feed_b18
    rw [q_w_id (x := k) (by omega) (by omega), if_neg (show ¬ 20 ≤ k by omega)]
    unfold y_v at fin
    by_cases k4 : 4 ≤ k
    · rw [if_pos k4]
      rw [if_neg (show ¬ k < 4 by omega)] at fin
      by_cases k8 : 8 ≤ k
      · rw [if_pos k8]
        rw [if_neg (show ¬ k < 8 by omega)] at fin
        by_cases k12 : 12 ≤ k
        · rw [if_pos k12]
          rw [if_neg (show ¬ k < 12 by omega)] at fin
          by_cases k16 : 16 ≤ k
          · rw [if_pos k16]
            rw [if_neg (show ¬ k < 16 by omega)] at fin
            exact fin
          · rw [if_neg k16]
            rw [if_pos (show k < 16 by omega)] at fin
            exact fin
        · rw [if_neg k12]
          rw [if_pos (show k < 12 by omega)] at fin
          exact fin
      · rw [if_neg k8]
        rw [if_pos (show k < 8 by omega)] at fin
        exact fin
    · rw [if_neg k4]
      rw [if_pos (show k < 4 by omega)] at fin
      exact fin
  · intro n' s ⟨_, f1, v1⟩
    show q_ok (f_Mod_feed_b18 (f_Mod_feed_l18 n') a b c d e 20 s) _
    unfold f_Mod_feed_b18
    rw [if_pos (by decide), x_pf, f1 81 (by decide), h]
    refine o_rt ⟨q_up_s _ _ _ _, fun c c1 c2 => by rw [q_up_f c1]; exact f1 c c2, fun j hj => by rw [q_up_i hj, f1 81 (by decide)], q_up_s _ _ _ _, fun i i0 i1 => ?_⟩
    rw [q_up_c (by decide), v1 i]
    unfold y_T
    by_cases c2 : n ≤ i ∧ i < n + 20
    · rw [if_pos c2, if_pos c2]
    · rw [if_neg c2, if_neg c2]; exact hT i i0 i1
theorem a_feed (a b c d e : Int) : j_op (f_PG_feed a b c d e) (f_Mod_feed a b c d e) := by
  refine j_op_of fun l x z L F X n T ft pl m hk hc hm => ?_
  have hn := hk.2.2.2.1
  have t1 := hc.2.2.2.2.1
  have t2 := hc.2.2.2.2.2.1
  by_cases cn : n ≤ 780
  · refine ⟨q_w (n + 20), l, x, z, L, F, X, n + 20, y_T n T a b c d e, ft, pl, ⟨hk.1, hk.2.1, hk.2.2.1, by omega, fun i i0 i1 => ?_⟩, ?_, fun m1 hm1 => ?_⟩
    · unfold y_T
      split
      · exact y_rg _
      · exact hk.2.2.2.2 i i0 i1
    · refine o_mono (c_feed (T := T) (by omega) t1 t2) fun r m1 ⟨er, f1, e1, v1⟩ => ⟨by rw [er], fun c hc => f1 c (by omega) (by omega), ?_⟩
      obtain ⟨h1, h2, h3, h4, h5⟩ := hc
      have fc : k_C l (L x) m1 := by
        obtain ⟨⟨g1, g2⟩, ⟨g3, g4, g5⟩, g6, g7, g8, g9⟩ := h1
        have hy := k_Ly_rg g4
        have ht : m 0 1 = 3 ∨ m 0 1 = 14 := by simpa [q_Lp] using g1
        have e0 := f1 0 (by decide) (by decide)
        have e28 := f1 28 (by decide) (by decide)
        have e29 := f1 29 (by decide) (by decide)
        refine ⟨⟨by rw [e0]; exact g1, ?_⟩, ⟨by rw [e28]; exact g3, by rw [e28, e29]; exact g4, ?_⟩, k_web_fr g6 fun c _ _ => f1 c (by omega) (by omega), k_plac_fr g7 fun c _ _ => f1 c (by omega) (by omega), by rw [f1 54 (by decide) (by decide), f1 74 (by decide) (by decide)]; exact g8, by rw [e0, f1 75 (by decide) (by decide)]; exact g9⟩
        · rw [e0]
          refine ⟨fun i => ?_, fun j i j1 j2 => ?_⟩
          · rw [f1 _ (by omega) (by omega)]; exact g2.1 i
          · rw [f1 _ (by omega) (by omega)]; exact g2.2 j i j1 j2
        · intro i i0 i1
          rw [e28, e29, f1 _ (by omega) (by omega)]
          exact g5 i i0 i1
      exact ⟨fc, j_H_fr h2 fun c _ _ => f1 c (by omega) (by omega), j_B_fr h3 fun c hc => f1 c (by omega) (by omega), by rw [f1 0 (by decide) (by decide)]; exact h4, e1, v1, by rw [f1 25 (by decide) (by decide)]; exact h5.2.2.1, by rw [f1 25 (by decide) (by decide), f1 13 (by decide) (by decide), f1 24 (by decide) (by decide)]; exact h5.2.2.2⟩
    · obtain ⟨h1, h2, h3, h4, s1, s2, s3, s4⟩ := hm1
      refine o_mono (m_feed (T := T) (by omega) s1 s2) fun r m2 ⟨er, f1, g1, e1, v1⟩ => ⟨by rw [er], fun c hc => f1 c (by omega) (by omega), ?_⟩
      exact ⟨k_M_115 h1 (fun c _ _ c2 => f1 c c2 (by omega)) (g1 19 (by decide)) (by rw [f1 115 (by decide) (by decide)]; exact h1.2.2), j_HM_fr h2 (g1 69 (by decide)) (g1 70 (by decide)) (f1 123 (by decide) (by decide)), j_BM_fr h3 (f1 124 (by decide) (by decide)) (f1 125 (by decide) (by decide)), j_W_fr h4 (f1 102 (by decide) (by decide)), e1, v1, by rw [g1 30 (by decide)]; exact s3, by rw [g1 31 (by decide), g1 26 (by decide)]; exact s4⟩
  · refine a_same (A := -1) hk hc ?_ fun m1 hm1 => ?_
    · unfold f_PG_feed
      rw [t1, q_w_id (x := n + 20) (by omega) (by omega), if_neg (by omega), x_rt]
    · unfold f_Mod_feed
      rw [hm1.2.2.2.2.1, q_w_id (x := n + 20) (by omega) (by omega), if_neg (by omega), x_rt]
end feed
