/-! Long.bitCount, closed -/
theorem n_fs_lt {f : Nat → Nat} {c q : Nat} (hc : c < q) (hf : ∀ v, v < q → f v ≤ c) : ∀ n N : Nat, n_fs q f N (n + 1) < (c + 1) * q ^ n := by
  intro n
  have hq : 0 < q := by omega
  induction n with
  | zero =>
    intro N
    have := hf (N % q) (Nat.mod_lt _ hq)
    show f (N % q) + q * 0 < (c + 1) * 1
    omega
  | succ n ih =>
    intro N
    have a := hf (N % q) (Nat.mod_lt _ hq)
    have b := ih (N / q)
    show f (N % q) + q * n_fs q f (N / q) (n + 1) < (c + 1) * q ^ (n + 1)
    have e : (c + 1) * q ^ (n + 1) = q * ((c + 1) * q ^ n) := by rw [Nat.pow_succ, Nat.mul_comm (q ^ n) q, Nat.mul_left_comm]
    rw [e]
    have h2 : q * (n_fs q f (N / q) (n + 1) + 1) ≤ q * ((c + 1) * q ^ n) := Nat.mul_le_mul_left q b
    rw [Nat.mul_add, Nat.mul_one] at h2
    omega
theorem z_u (x : Int64) {k : Int} (h0 : 0 ≤ k) (h1 : k < 64) : ((x.toUInt64 >>> ((Int32.ofInt k).toInt64.toUInt64 &&& Int64.toUInt64 63)).toInt64).toBitVec.toNat = x.toBitVec.toNat / 2 ^ k.toNat := by
  have e := z_sh h0 h1
  have e2 : ((x.toUInt64 >>> ((Int32.ofInt k).toInt64.toUInt64 &&& Int64.toUInt64 63)).toInt64).toBitVec = x.toBitVec >>> k.toNat := by
    show (x.toUInt64 >>> ((Int32.ofInt k).toInt64.toUInt64 &&& Int64.toUInt64 63)).toBitVec = _
    rw [UInt64.toBitVec_shiftRight, e]
    have : (BitVec.ofNat 64 k.toNat % 64 : BitVec 64).toNat = k.toNat := by
      rw [BitVec.toNat_umod, BitVec.toNat_ofNat]
      show k.toNat % 2 ^ 64 % 64 = k.toNat
      omega
    show x.toBitVec >>> (BitVec.ofNat 64 k.toNat % 64) = _
    rw [BitVec.ushiftRight_eq', this]
  rw [e2, BitVec.toNat_ushiftRight, Nat.shiftRight_eq_div_pow]
theorem z_sub {S P N : Nat} (h : S + P = N) (hN : N < 2 ^ 64) : (2 ^ 64 - S + N) % 2 ^ 64 = P := by
  rw [show 2 ^ 64 - S + N = P + 2 ^ 64 by omega, Nat.add_mod_right]
  exact Nat.mod_eq_of_lt (by omega)
theorem z_1 (x : Int64) : (x - ((x.toUInt64 >>> ((1 : Int32).toInt64.toUInt64 &&& Int64.toUInt64 63)).toInt64 &&& 6148914691236517205)).toBitVec.toNat = n_fs 4 n_p x.toBitVec.toNat 32 := by
  show (x.toBitVec - (((x.toUInt64 >>> ((Int32.ofInt 1).toInt64.toUInt64 &&& Int64.toUInt64 63)).toInt64).toBitVec &&& (6148914691236517205 : Int64).toBitVec)).toNat = _
  rw [BitVec.toNat_sub, BitVec.toNat_and, z_u x (by decide) (by decide), show (6148914691236517205 : Int64).toBitVec.toNat = n_rep (2 ^ 2) 1 32 by decide +kernel, n_and_rep 2 (by decide)]
  exact z_sub (n_s1 32 _ x.toBitVec.isLt) x.toBitVec.isLt
theorem z_2 (x : Int64) {N : Nat} (h : x.toBitVec.toNat = n_fs 4 n_p N 32) : ((x &&& 3689348814741910323) + ((x.toUInt64 >>> ((2 : Int32).toInt64.toUInt64 &&& Int64.toUInt64 63)).toInt64 &&& 3689348814741910323)).toBitVec.toNat = n_fs 16 n_g N 16 := by
  show ((x.toBitVec &&& (3689348814741910323 : Int64).toBitVec) + (((x.toUInt64 >>> ((Int32.ofInt 2).toInt64.toUInt64 &&& Int64.toUInt64 63)).toInt64).toBitVec &&& (3689348814741910323 : Int64).toBitVec)).toNat = _
  rw [BitVec.toNat_add, BitVec.toNat_and, BitVec.toNat_and, z_u x (by decide) (by decide), show (3689348814741910323 : Int64).toBitVec.toNat = n_rep (2 ^ 4) 3 16 by decide +kernel, n_and_rep 4 (by decide), n_and_rep 4 (by decide), h]
  have e := n_s2 16 N
  have b := n_fs_lt (f := n_g) (c := 4) (q := 16) (by decide) (fun v hv => n_g_le hv) 15 N
  rw [show n_fs (2 ^ 4) (fun v => v &&& 3) (n_fs 4 n_p N 32) 16 + n_fs (2 ^ 4) (fun v => v &&& 3) (n_fs 4 n_p N 32 / 2 ^ Int.toNat 2) 16 = n_fs 16 n_g N 16 from e]
  exact Nat.mod_eq_of_lt (Nat.lt_trans b (by decide))
theorem z_3 (x : Int64) {N : Nat} (h : x.toBitVec.toNat = n_fs 16 n_g N 16) : ((x + (x.toUInt64 >>> ((4 : Int32).toInt64.toUInt64 &&& Int64.toUInt64 63)).toInt64) &&& 1085102592571150095).toBitVec.toNat = n_fs 256 n_h N 8 := by
  show ((x.toBitVec + ((x.toUInt64 >>> ((Int32.ofInt 4).toInt64.toUInt64 &&& Int64.toUInt64 63)).toInt64).toBitVec) &&& (1085102592571150095 : Int64).toBitVec).toNat = _
  have b := n_fs_lt (f := n_g) (c := 4) (q := 16) (by decide) (fun v hv => n_g_le hv) 15 N
  have b' : n_fs 16 n_g N 16 < 2 ^ 63 := Nat.lt_trans b (by decide)
  have e := n_s3 8 N
  rw [BitVec.toNat_and, BitVec.toNat_add, z_u x (by decide) (by decide), show (1085102592571150095 : Int64).toBitVec.toNat = n_rep (2 ^ 8) 15 8 by decide +kernel, h]
  have hb : n_fs 16 n_g N 16 + n_fs 16 n_g N 16 / 2 ^ Int.toNat 4 < 2 ^ 64 := by
    have : n_fs 16 n_g N 16 / 2 ^ Int.toNat 4 ≤ n_fs 16 n_g N 16 := Nat.div_le_self _ _
    clear e b h
    omega
  rw [Nat.mod_eq_of_lt hb, n_and_rep 8 (by decide)]
  exact e
theorem z_a (x : Int64) {k : Int} {j X Z : Nat} (h0 : 0 ≤ k) (h1 : k < 64) (hj : 2 ^ k.toNat = j) (h : x.toBitVec.toNat = X) (hZ : X + X / j = Z) (hb : Z < 2 ^ 63) : (x + (x.toUInt64 >>> ((Int32.ofInt k).toInt64.toUInt64 &&& Int64.toUInt64 63)).toInt64).toBitVec.toNat = Z := by
  show (x.toBitVec + ((x.toUInt64 >>> ((Int32.ofInt k).toInt64.toUInt64 &&& Int64.toUInt64 63)).toInt64).toBitVec).toNat = _
  rw [BitVec.toNat_add, z_u x h0 h1, h, hj, hZ]
  exact Nat.mod_eq_of_lt (Nat.lt_trans hb (by decide))
theorem n_h8 (N : Nat) : n_fs 256 n_h N 8 = n_h (N % 256) + 256 * (n_h (N / 256 % 256) + 256 * (n_h (N / 256 / 256 % 256) + 256 * (n_h (N / 256 / 256 / 256 % 256) + 256 * (n_h (N / 256 / 256 / 256 / 256 % 256) + 256 * (n_h (N / 256 / 256 / 256 / 256 / 256 % 256) + 256 * (n_h (N / 256 / 256 / 256 / 256 / 256 / 256 % 256) + 256 * n_h (N / 256 / 256 / 256 / 256 / 256 / 256 / 256 % 256))))))) := rfl
theorem z_7 (x : Int64) {X : Nat} (h : x.toBitVec.toNat = X) : (x.toInt32 &&& 127).toInt = ((X % 128 : Nat) : Int) := by
  have e : (x.toInt32 &&& 127).toBitVec.toNat = X % 128 := by
    show ((x.toBitVec.signExtend 32) &&& (127 : Int32).toBitVec).toNat = _
    rw [BitVec.toNat_and, BitVec.signExtend_eq_setWidth_of_le _ (by decide), BitVec.toNat_setWidth, h, show (127 : Int32).toBitVec.toNat = 127 by decide, n_127]
    omega
  show (x.toInt32 &&& 127).toBitVec.toInt = _
  rw [BitVec.toInt_eq_toNat_of_lt (by rw [e]; omega), e]
theorem z_bcN (B : Int) : q_bc B = ((n_c (BitVec.ofInt 64 B).toNat 64 : Nat) : Int) := by
  obtain ⟨x4, x5, x6, e4, e5, e6, b4, b5, b6, er⟩ := n_sum (n_h_le (v := (BitVec.ofInt 64 B).toNat % 256) (Nat.mod_lt _ (by decide))) (n_h_le (v := (BitVec.ofInt 64 B).toNat / 256 % 256) (Nat.mod_lt _ (by decide))) (n_h_le (v := (BitVec.ofInt 64 B).toNat / 256 / 256 % 256) (Nat.mod_lt _ (by decide))) (n_h_le (v := (BitVec.ofInt 64 B).toNat / 256 / 256 / 256 % 256) (Nat.mod_lt _ (by decide))) (n_h_le (v := (BitVec.ofInt 64 B).toNat / 256 / 256 / 256 / 256 % 256) (Nat.mod_lt _ (by decide))) (n_h_le (v := (BitVec.ofInt 64 B).toNat / 256 / 256 / 256 / 256 / 256 % 256) (Nat.mod_lt _ (by decide))) (n_h_le (v := (BitVec.ofInt 64 B).toNat / 256 / 256 / 256 / 256 / 256 / 256 % 256) (Nat.mod_lt _ (by decide))) (n_h_le (v := (BitVec.ofInt 64 B).toNat / 256 / 256 / 256 / 256 / 256 / 256 / 256 % 256) (Nat.mod_lt _ (by decide)))
  have t1 := z_1 (Int64.ofInt B)
  have t2 := z_2 _ t1
  have t3 := z_3 _ t2
  rw [show (Int64.ofInt B).toBitVec = BitVec.ofInt 64 B from rfl] at t3
  have t4 := z_a _ (k := 8) (by decide) (by decide) rfl (t3.trans (n_h8 _)) e4 b4
  have t5 := z_a _ (k := 16) (by decide) (by decide) rfl t4 e5 b5
  have t6 := z_a _ (k := 32) (by decide) (by decide) rfl t5 e6 b6
  have t7 := z_7 _ t6
  rw [er, ← n_c_64] at t7
  exact t7
theorem n_c_s (N : Nat) : ∀ n : Nat, n_c N (n + 1) = n_c N n + N / 2 ^ n % 2 := by
  intro n
  rw [n_c_add N n 1]
  rfl
theorem z_cnt (w : BitVec 64) : ∀ n : Nat, g_cnt (fun c => w.getLsbD c.toNat) n = ((n_c w.toNat n : Nat) : Int) := by
  intro n
  induction n with
  | zero => rfl
  | succ n ih =>
    show g_cnt (fun c => w.getLsbD c.toNat) n + (if w.getLsbD (n : Int).toNat = true then 1 else 0) = _
    rw [ih, n_c_s, Int.toNat_natCast]
    have e : w.getLsbD n = decide (w.toNat / 2 ^ n % 2 = 1) := Nat.testBit_eq_decide_div_mod_eq
    rw [e]
    by_cases c : w.toNat / 2 ^ n % 2 = 1
    · rw [if_pos (decide_eq_true c), c]; omega
    · rw [if_neg (by simp [c]), show w.toNat / 2 ^ n % 2 = 0 by omega]; omega
theorem z_bc (B : Int) : q_bc B = g_cnt (fun c => (BitVec.ofInt 64 B).getLsbD c.toNat) 64 := by
  rw [z_bcN, z_cnt]
