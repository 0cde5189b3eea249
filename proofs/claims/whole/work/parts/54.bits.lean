/-! BITS -/
theorem z_sh {c : Int} (h0 : 0 ≤ c) (h1 : c < 64) : ((Int32.ofInt c).toInt64.toUInt64 &&& Int64.toUInt64 63).toBitVec = BitVec.ofNat 64 c.toNat := by
  have : ∀ k : Fin 64, ((Int32.ofInt (k.val : Int)).toInt64.toUInt64 &&& Int64.toUInt64 63).toBitVec = BitVec.ofNat 64 k.val := by decide
  have := this ⟨c.toNat, by omega⟩
  dsimp only at this
  rwa [show ((c.toNat : Nat) : Int) = c by omega] at this
theorem z_lushr (B : Int) {c : Int} (h0 : 0 ≤ c) (h1 : c < 64) : q_lushr B c = ((BitVec.ofInt 64 B) >>> c.toNat).toInt := by
  unfold q_lushr
  have e := z_sh h0 h1
  have e2 : (((Int64.ofInt B).toUInt64 >>> ((Int32.ofInt c).toInt64.toUInt64 &&& Int64.toUInt64 63)).toInt64).toBitVec = (BitVec.ofInt 64 B) >>> c.toNat := by
    show ((Int64.ofInt B).toUInt64 >>> ((Int32.ofInt c).toInt64.toUInt64 &&& Int64.toUInt64 63)).toBitVec = _
    rw [UInt64.toBitVec_shiftRight, e]
    have : (BitVec.ofNat 64 c.toNat % 64 : BitVec 64).toNat = c.toNat := by
      rw [BitVec.toNat_umod, BitVec.toNat_ofNat]
      show c.toNat % 2 ^ 64 % 64 = c.toNat
      omega
    show (BitVec.ofInt 64 B) >>> (BitVec.ofNat 64 c.toNat % 64) = _
    rw [BitVec.ushiftRight_eq', this]
  show BitVec.toInt _ = _
  rw [e2]
theorem z_of (w : BitVec 64) : Int64.ofInt w.toInt = Int64.ofBitVec w := by
  apply Int64.toBitVec_inj.mp
  show BitVec.ofInt 64 w.toInt = w
  exact BitVec.ofInt_toInt
theorem z_land (w : BitVec 64) (z : Int) : q_land w.toInt z = (w &&& BitVec.ofInt 64 z).toInt := by
  unfold q_land
  rw [z_of]
  rfl
theorem z_cmp0 (w : BitVec 64) : q_w (q_lcmp w.toInt 0) = 0 ↔ w = 0#64 := by
  unfold q_lcmp lg_cmp
  rw [z_of]
  by_cases c : w = 0#64
  · subst c
    exact ⟨fun _ => rfl, fun _ => by decide⟩
  · have hne : Int64.ofBitVec w ≠ Int64.ofInt 0 := fun h => c (by
      have := congrArg Int64.toBitVec h
      exact this)
    refine ⟨fun h => ?_, fun h => absurd h c⟩
    exfalso
    split at h
    · exact absurd h (by decide)
    · exact absurd h (by decide)
theorem z_un (B : Int) {c : Int} (h0 : 0 ≤ c) (h1 : c < 64) : f_un B c ↔ (BitVec.ofInt 64 B).getLsbD c.toNat = false := by
  unfold f_un
  rw [z_lushr B h0 h1, z_land, z_cmp0]
  have e1 : BitVec.ofInt 64 1 = 1#64 := by decide
  rw [e1]
  constructor
  · intro h
    have := congrArg (fun v => BitVec.getLsbD v 0) h
    simpa using this
  · intro h
    apply BitVec.eq_of_getLsbD_eq
    intro i hi
    rw [BitVec.getLsbD_and, BitVec.getLsbD_ushiftRight, BitVec.getLsbD_zero]
    by_cases ci : i = 0
    · subst ci
      rw [Nat.add_zero, h, Bool.false_and]
    · rw [BitVec.getLsbD_one]
      simp [ci]
theorem z_un0 {c : Int} (h0 : 0 ≤ c) (h1 : c < 64) : f_un 0 c := by
  rw [z_un 0 h0 h1, show BitVec.ofInt 64 0 = 0#64 by decide, BitVec.getLsbD_zero]
theorem z_shl {c : Int} (h0 : 0 ≤ c) (h1 : c < 64) : BitVec.ofInt 64 (q_lshl 1 c) = BitVec.twoPow 64 c.toNat := by
  have : ∀ k : Fin 64, BitVec.ofInt 64 (q_lshl 1 (k.val : Int)) = BitVec.twoPow 64 k.val := by decide
  have := this ⟨c.toNat, by omega⟩
  dsimp only at this
  rwa [show ((c.toNat : Nat) : Int) = c by omega] at this
theorem z_lor (B z : Int) : BitVec.ofInt 64 (q_lor B z) = BitVec.ofInt 64 B ||| BitVec.ofInt 64 z := by
  show BitVec.ofInt 64 ((BitVec.ofInt 64 B ||| BitVec.ofInt 64 z).toInt) = _
  exact BitVec.ofInt_toInt
theorem z_lxor (B z : Int) : BitVec.ofInt 64 (q_lxor B z) = BitVec.ofInt 64 B ^^^ BitVec.ofInt 64 z := by
  show BitVec.ofInt 64 ((BitVec.ofInt 64 B ^^^ BitVec.ofInt 64 z).toInt) = _
  exact BitVec.ofInt_toInt
theorem z_un_or (B : Int) {c d : Int} (h0 : 0 ≤ c) (h1 : c < 64) (d0 : 0 ≤ d) (d1 : d < 64) : f_un (q_lor B (q_lshl 1 c)) d ↔ f_un B d ∧ d ≠ c := by
  rw [z_un _ d0 d1, z_un _ d0 d1, z_lor, z_shl h0 h1, BitVec.getLsbD_or, BitVec.getLsbD_twoPow]
  have e : (c.toNat = d.toNat) ↔ (d = c) := by omega
  have e2 : c.toNat < 64 := by omega
  simp [e, e2]
theorem z_un_xor (B : Int) {c d : Int} (h0 : 0 ≤ c) (h1 : c < 64) (d0 : 0 ≤ d) (d1 : d < 64) : f_un (q_lxor B (q_lshl 1 c)) d ↔ (if d = c then ¬ f_un B d else f_un B d) := by
  rw [z_un _ d0 d1, z_un _ d0 d1, z_lxor, z_shl h0 h1, BitVec.getLsbD_xor, BitVec.getLsbD_twoPow]
  have e : (c.toNat = d.toNat) ↔ (d = c) := by omega
  have e2 : c.toNat < 64 := by omega
  by_cases cc : d = c
  · simp [cc, e2]
  · rw [if_neg cc]
    simp [e, cc]
