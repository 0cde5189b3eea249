/-! ROWS: an instruction each, over the abstract judgement -/
def q_w (x : Int) : Int := (Int32.ofInt x).toInt
def q_w64 (x : Int) : Int := (Int64.ofInt x).toInt
theorem q_w_id {x : Int} (h1 : -2147483648 ≤ x) (h2 : x < 2147483648) : q_w x = x := by
  rw [q_w, Int32.toInt_ofInt]
  have hs : (Int32.size : Int) = 4294967296 := rfl
  exact Int.bmod_eq_of_le (by omega) (by omega)
theorem q_w_ge (x : Int) : -2147483648 ≤ q_w x := by
  have := Int32.minValue_le_toInt (Int32.ofInt x)
  rw [q_w]; simpa using this
theorem q_w_lt (x : Int) : q_w x < 2147483648 := by
  have := Int32.toInt_lt (Int32.ofInt x)
  rw [q_w]; simpa using this
theorem q_ofw (x : Int) : Int32.ofInt (q_w x) = Int32.ofInt x := by rw [q_w, Int32.ofInt_toInt]
theorem q_inw {x : Int} {n : Nat} (h1 : 0 ≤ q_w x) (h2 : q_w x < n) : vp_in (Int32.ofInt x) n := vp_in_iff.mpr ⟨h1, h2⟩
theorem q_clw {x : Int} (h1 : 0 ≤ q_w x) : ((Int32.ofInt x).toNatClampNeg : Int) = q_w x := by
  show (((Int32.ofInt x).toInt.toNat : Nat) : Int) = q_w x
  exact Int.toNat_of_nonneg h1
theorem q_ltw {x z : Int} : Int32.ofInt x < Int32.ofInt z ↔ q_w x < q_w z := Int32.lt_iff_toInt_lt
theorem q_lew {x z : Int} : Int32.ofInt x ≤ Int32.ofInt z ↔ q_w x ≤ q_w z := Int32.le_iff_toInt_le
theorem q_eqw {x z : Int} : Int32.ofInt x = Int32.ofInt z ↔ q_w x = q_w z := Int32.toInt_inj.symm
theorem q_0w : (0 : Int32) = Int32.ofInt 0 := rfl
section q_rows
variable {M : q_M} {rm : Room} {mc ms : Nat} {y : Option q_V × q_G × q_Mem} {cu su : Nat} {g : q_G} {m : q_Mem} {pc : Nat} {ls st : List q_V}
theorem q_ls.at {b : Nat} {ad : Nat → Nat} {nL : Nat} {ls : List q_V} {ar : Array Slot} (h : q_ls b ad nL ls ar) {i : Nat} {v : q_V} (hi : ls[i]? = some v) (h9 : v.1 ≠ 9) : ar[i]? = some (.val (q_cv b ad v)) := by
  obtain ⟨l, h1, h2⟩ := h
  exact h1.2.2 _ (h2 i v hi h9)
theorem q_ls.size {b : Nat} {ad : Nat → Nat} {nL : Nat} {ls : List q_V} {ar : Array Slot} (h : q_ls b ad nL ls ar) : ar.size = nL := by
  obtain ⟨l, h1, -⟩ := h
  exact h1.1
/-- a local of one word is set: what stood there, and a long just ahead, is gone -/
theorem q_ls.set {b : Nat} {ad : Nat → Nat} {nL : Nat} {ls : List q_V} {i : Nat} {v : q_V} {l : List (Nat × Value)} {ar' : Array Slot} (h2 : ∀ i v, ls[i]? = some v → v.1 ≠ 9 → (i, q_cv b ad v) ∈ l) (hp : ∀ w, ls[i - 1]? = some w → w.1 ≠ 1)
    (h' : lv_has ar' nL ((i, q_cv b ad v) :: l.filter (fun q => !(q.1 == i) && !(q.1 + 1 == i && q.2.category == 2)))) : q_ls b ad nL (ls.set i v) ar' := by
  refine ⟨_, h', fun j w hj h9 => ?_⟩
  by_cases hji : j = i
  · subst hji
    have hlt := (List.getElem?_eq_some_iff.mp hj).1
    rw [List.length_set] at hlt
    rw [List.getElem?_set_self hlt] at hj
    cases hj
    exact List.mem_cons_self
  · rw [List.getElem?_set_ne (Ne.symm hji)] at hj
    refine List.mem_cons_of_mem _ (List.mem_filter.mpr ⟨h2 j w hj h9, ?_⟩)
    by_cases hj1 : j + 1 = i
    · have : w.1 ≠ 1 := hp w (by rw [← hj1]; exact hj)
      simp [hji, q_cat, this]
    · simp [hji, hj1]
theorem q_iconst {n : Int} (hd : decode M.2.1 pc = .ok (.iconst n, 1)) (k : q_R M rm mc ms y cu su g m (pc + 1) ls (q_I n :: st)) : q_R M rm mc ms y cu su g m pc ls st := by
  intro p l e s mi args below meth c H locs D cs b ad adV ar C hP hz hS hl
  exact lv_iconst C.1 C.2.1 hd rfl (k p l e s mi args below meth c H locs D cs b ad adV ar C hP hz hS hl)

theorem q_bipush {n x : Int} (hd : decode M.2.1 pc = .ok (.bipush n, 2)) (hx : (Int8.ofInt n).toInt32 = Int32.ofInt x) (k : q_R M rm mc ms y cu su g m (pc + 2) ls (q_I x :: st)) : q_R M rm mc ms y cu su g m pc ls st := by
  intro p l e s mi args below meth c H locs D cs b ad adV ar C hP hz hS hl
  exact lv_bipush C.1 C.2.1 hd hx (k p l e s mi args below meth c H locs D cs b ad adV ar C hP hz hS hl)

theorem q_sipush {n x : Int} (hd : decode M.2.1 pc = .ok (.sipush n, 3)) (hx : (Int16.ofInt n).toInt32 = Int32.ofInt x) (k : q_R M rm mc ms y cu su g m (pc + 3) ls (q_I x :: st)) : q_R M rm mc ms y cu su g m pc ls st := by
  intro p l e s mi args below meth c H locs D cs b ad adV ar C hP hz hS hl
  exact lv_sipush C.1 C.2.1 hd hx (k p l e s mi args below meth c H locs D cs b ad adV ar C hP hz hS hl)

theorem q_lconst {n : Fin 2} {x : Int} (hd : decode M.2.1 pc = .ok (.lconst n, 1)) (hx : Int64.ofNat (n : Nat) = Int64.ofInt x) (k : q_R M rm mc ms y cu su g m (pc + 1) ls (q_L x :: st)) : q_R M rm mc ms y cu su g m pc ls st := by
  intro p l e s mi args below meth c H locs D cs b ad adV ar C hP hz hS hl
  exact lv_lconst C.1 C.2.1 hd hx (k p l e s mi args below meth c H locs D cs b ad adV ar C hP hz hS hl)

theorem q_ldc {i : Nat} {v : Int32} {x : Int} (hd : decode M.2.1 pc = .ok (.ldc i, 2)) (hw : Cond.constant M.1.cls i v ∈ q_T) (hx : v = Int32.ofInt x) (k : q_R M rm mc ms y cu su g m (pc + 2) ls (q_I x :: st)) : q_R M rm mc ms y cu su g m pc ls st := by
  intro p l e s mi args below meth c H locs D cs b ad adV ar C hP hz hS hl
  subst hx
  exact lv_ldc C.1 C.2.1 C.2.2.2.2.1 (C.2.2.2.2.2.1 _ hw) hd (k p l e s mi args below meth c H locs D cs b ad adV ar C hP hz hS hl)

theorem q_iload_n {n : Fin 4} {x : Int} (hd : decode M.2.1 pc = .ok (.iload_n n, 1)) (hi : ls[(n : Nat)]? = some (q_I x)) (k : q_R M rm mc ms y cu su g m (pc + 1) ls (q_I x :: st)) : q_R M rm mc ms y cu su g m pc ls st := by
  intro p l e s mi args below meth c H locs D cs b ad adV ar C hP hz hS hl
  exact lv_iload_n C.1 C.2.1 hd rfl (hl.at hi (show (0 : Nat) ≠ 9 by decide)) (k p l e s mi args below meth c H locs D cs b ad adV ar C hP hz hS hl)

theorem q_iload {i : Nat} {x : Int} (hd : decode M.2.1 pc = .ok (.iload i, 2)) (hi : ls[i]? = some (q_I x)) (k : q_R M rm mc ms y cu su g m (pc + 2) ls (q_I x :: st)) : q_R M rm mc ms y cu su g m pc ls st := by
  intro p l e s mi args below meth c H locs D cs b ad adV ar C hP hz hS hl
  exact lv_iload C.1 C.2.1 hd (hl.at hi (show (0 : Nat) ≠ 9 by decide)) (k p l e s mi args below meth c H locs D cs b ad adV ar C hP hz hS hl)

theorem q_lload_n {n : Fin 4} {x : Int} (hd : decode M.2.1 pc = .ok (.lload_n n, 1)) (hi : ls[(n : Nat)]? = some (q_L x)) (k : q_R M rm mc ms y cu su g m (pc + 1) ls (q_L x :: st)) : q_R M rm mc ms y cu su g m pc ls st := by
  intro p l e s mi args below meth c H locs D cs b ad adV ar C hP hz hS hl
  exact lv_lload_n C.1 C.2.1 hd rfl (hl.at hi (show (1 : Nat) ≠ 9 by decide)) (k p l e s mi args below meth c H locs D cs b ad adV ar C hP hz hS hl)

theorem q_aload_n {n : Fin 4} {x : Int} (hd : decode M.2.1 pc = .ok (.aload_n n, 1)) (hi : ls[(n : Nat)]? = some (q_A x)) (hx : 0 ≤ x) (k : q_R M rm mc ms y cu su g m (pc + 1) ls (q_A x :: st)) : q_R M rm mc ms y cu su g m pc ls st := by
  intro p l e s mi args below meth c H locs D cs b ad adV ar C hP hz hS hl
  have e9 : q_cv b ad (q_A x) = .ref (b + x.toNat) := if_neg (Int.not_lt.mpr hx)
  have h1 := hl.at hi (show (2 : Nat) ≠ 9 by decide)
  rw [e9] at h1
  have h2 := k p l e s mi args below meth c H locs D cs b ad adV ar C hP hz hS hl
  rw [List.map_cons, e9] at h2
  exact lv_aload_n C.1 C.2.1 hd rfl h1 h2

theorem q_aload {i : Nat} {x : Int} (hd : decode M.2.1 pc = .ok (.aload i, 2)) (hi : ls[i]? = some (q_A x)) (hx : 0 ≤ x) (k : q_R M rm mc ms y cu su g m (pc + 2) ls (q_A x :: st)) : q_R M rm mc ms y cu su g m pc ls st := by
  intro p l e s mi args below meth c H locs D cs b ad adV ar C hP hz hS hl
  have e9 : q_cv b ad (q_A x) = .ref (b + x.toNat) := if_neg (Int.not_lt.mpr hx)
  have h1 := hl.at hi (show (2 : Nat) ≠ 9 by decide)
  rw [e9] at h1
  have h2 := k p l e s mi args below meth c H locs D cs b ad adV ar C hP hz hS hl
  rw [List.map_cons, e9] at h2
  exact lv_aload C.1 C.2.1 hd h1 h2

theorem q_aload_nS {n : Fin 4} {x : Int} (hd : decode M.2.1 pc = .ok (.aload_n n, 1)) (hi : ls[(n : Nat)]? = some (q_S x)) (k : q_R M rm mc ms y cu su g m (pc + 1) ls (q_S x :: st)) : q_R M rm mc ms y cu su g m pc ls st := by
  intro p l e s mi args below meth c H locs D cs b ad adV ar C hP hz hS hl
  exact lv_aload_n C.1 C.2.1 hd rfl (hl.at hi (show (3 : Nat) ≠ 9 by decide)) (k p l e s mi args below meth c H locs D cs b ad adV ar C hP hz hS hl)

theorem q_istore_n {n : Fin 4} {x : Int} (hd : decode M.2.1 pc = .ok (.istore_n n, 1)) (hn : (n : Nat) < M.2.2.1) (hp : ∀ w, ls[(n : Nat) - 1]? = some w → w.1 ≠ 1) (k : q_R M rm mc ms y cu su g m (pc + 1) (ls.set (n : Nat) (q_I x)) st) : q_R M rm mc ms y cu su g m pc ls (q_I x :: st) := by
  intro p l e s mi args below meth c H locs D cs b ad adV ar C hP hz hS hl
  obtain ⟨l0, h1, h2⟩ := hl
  refine lv_istore_n C.1 C.2.1 hd rfl h1 hn rfl (fun ar h' => ?_)
  exact k p l e s mi args below meth c H locs D cs b ad adV ar C hP hz hS (q_ls.set h2 hp h')

theorem q_istore {i : Nat} {x : Int} (hd : decode M.2.1 pc = .ok (.istore i, 2)) (hn : i < M.2.2.1) (hp : ∀ w, ls[i - 1]? = some w → w.1 ≠ 1) (k : q_R M rm mc ms y cu su g m (pc + 2) (ls.set i (q_I x)) st) : q_R M rm mc ms y cu su g m pc ls (q_I x :: st) := by
  intro p l e s mi args below meth c H locs D cs b ad adV ar C hP hz hS hl
  obtain ⟨l0, h1, h2⟩ := hl
  refine lv_istore C.1 C.2.1 hd h1 hn rfl (fun ar h' => ?_)
  exact k p l e s mi args below meth c H locs D cs b ad adV ar C hP hz hS (q_ls.set h2 hp h')

theorem q_astore_n {n : Fin 4} {x : Int} (hd : decode M.2.1 pc = .ok (.astore_n n, 1)) (hx : 0 ≤ x) (hn : (n : Nat) < M.2.2.1) (hp : ∀ w, ls[(n : Nat) - 1]? = some w → w.1 ≠ 1) (k : q_R M rm mc ms y cu su g m (pc + 1) (ls.set (n : Nat) (q_A x)) st) : q_R M rm mc ms y cu su g m pc ls (q_A x :: st) := by
  intro p l e0 s mi args below meth c H locs D cs b ad adV ar C hP hz hS hl
  obtain ⟨l0, h1, h2⟩ := hl
  have e : q_cv b ad (q_A x) = .ref (b + x.toNat) := if_neg (Int.not_lt.mpr hx)
  rw [List.map_cons, e]
  refine lv_astore_n C.1 C.2.1 hd rfl h1 hn rfl (fun ar h' => ?_)
  rw [← e] at h'
  exact k p l e0 s mi args below meth c H locs D cs b ad adV ar C hP hz hS (q_ls.set h2 hp h')

theorem q_astore {i : Nat} {x : Int} (hd : decode M.2.1 pc = .ok (.astore i, 2)) (hx : 0 ≤ x) (hn : i < M.2.2.1) (hp : ∀ w, ls[i - 1]? = some w → w.1 ≠ 1) (k : q_R M rm mc ms y cu su g m (pc + 2) (ls.set i (q_A x)) st) : q_R M rm mc ms y cu su g m pc ls (q_A x :: st) := by
  intro p l e0 s mi args below meth c H locs D cs b ad adV ar C hP hz hS hl
  obtain ⟨l0, h1, h2⟩ := hl
  have e : q_cv b ad (q_A x) = .ref (b + x.toNat) := if_neg (Int.not_lt.mpr hx)
  rw [List.map_cons, e]
  refine lv_astore C.1 C.2.1 hd h1 hn rfl (fun ar h' => ?_)
  rw [← e] at h'
  exact k p l e0 s mi args below meth c H locs D cs b ad adV ar C hP hz hS (q_ls.set h2 hp h')

theorem q_iinc {i : Nat} {n x : Int} (hd : decode M.2.1 pc = .ok (.iinc i n, 3)) (hi : ls[i]? = some (q_I x)) (hn : i < M.2.2.1) (hp : ∀ w, ls[i - 1]? = some w → w.1 ≠ 1) (k : q_R M rm mc ms y cu su g m (pc + 3) (ls.set i (q_I (x + n))) st) : q_R M rm mc ms y cu su g m pc ls st := by
  intro p l e s mi args below meth c H locs D cs b ad adV ar C hP hz hS hl
  obtain ⟨l0, h1, h2⟩ := hl
  obtain ⟨j, hj⟩ := List.getElem?_of_mem (h2 i _ hi (show (0 : Nat) ≠ 9 by decide))
  refine lv_iinc (v := Int32.ofInt (x + n)) C.1 C.2.1 hd h1 hj (by rw [Int32.ofInt_add]) hn rfl (fun ar h' => ?_)
  exact k p l e s mi args below meth c H locs D cs b ad adV ar C hP hz hS (q_ls.set (v := q_I (x + n)) h2 hp h')
theorem q_iadd {x z : Int} (hd : decode M.2.1 pc = .ok (.iadd, 1)) (k : q_R M rm mc ms y cu su g m (pc + 1) ls (q_I (x + z) :: st)) : q_R M rm mc ms y cu su g m pc ls (q_I z :: q_I x :: st) := by
  intro p l e s mi args below meth c H locs D cs b ad adV ar C hP hz hS hl
  have h := k p l e s mi args below meth c H locs D cs b ad adV ar C hP hz hS hl
  rw [List.map_cons, show q_cv b ad (q_I (x + z)) = .int (Int32.ofInt x + Int32.ofInt z) from congrArg Value.int (Int32.ofInt_add ..)] at h
  exact lv_iadd C.1 C.2.1 hd h

theorem q_isub {x z : Int} (hd : decode M.2.1 pc = .ok (.isub, 1)) (k : q_R M rm mc ms y cu su g m (pc + 1) ls (q_I (x - z) :: st)) : q_R M rm mc ms y cu su g m pc ls (q_I z :: q_I x :: st) := by
  intro p l e s mi args below meth c H locs D cs b ad adV ar C hP hz hS hl
  have h := k p l e s mi args below meth c H locs D cs b ad adV ar C hP hz hS hl
  rw [List.map_cons, show q_cv b ad (q_I (x - z)) = .int (Int32.ofInt x - Int32.ofInt z) from congrArg Value.int (Int32.ofInt_sub ..)] at h
  exact lv_isub C.1 C.2.1 hd h

theorem q_imul {x z : Int} (hd : decode M.2.1 pc = .ok (.imul, 1)) (k : q_R M rm mc ms y cu su g m (pc + 1) ls (q_I (x * z) :: st)) : q_R M rm mc ms y cu su g m pc ls (q_I z :: q_I x :: st) := by
  intro p l e s mi args below meth c H locs D cs b ad adV ar C hP hz hS hl
  have h := k p l e s mi args below meth c H locs D cs b ad adV ar C hP hz hS hl
  rw [List.map_cons, show q_cv b ad (q_I (x * z)) = .int (Int32.ofInt x * Int32.ofInt z) from congrArg Value.int (Int32.ofInt_mul ..)] at h
  exact lv_imul C.1 C.2.1 hd h

theorem q_ineg {x : Int} (hd : decode M.2.1 pc = .ok (.ineg, 1)) (k : q_R M rm mc ms y cu su g m (pc + 1) ls (q_I (-x) :: st)) : q_R M rm mc ms y cu su g m pc ls (q_I x :: st) := by
  intro p l e s mi args below meth c H locs D cs b ad adV ar C hP hz hS hl
  have h := k p l e s mi args below meth c H locs D cs b ad adV ar C hP hz hS hl
  rw [List.map_cons, show q_cv b ad (q_I (-x)) = .int (-Int32.ofInt x) from congrArg Value.int (Int32.ofInt_neg ..)] at h
  exact lv_ineg C.1 C.2.1 hd (by first | exact h | (rw [Int32.zero_sub]; exact h))

theorem q_divw {x z : Int} (hx : 0 ≤ q_w x) (hz : 0 < q_w z) : Int32.ofInt x / Int32.ofInt z = Int32.ofInt (q_w x / q_w z) := by
  apply Int32.toInt_inj.mp
  have h0 : (0 : Int) ≤ q_w x / q_w z := Int.ediv_nonneg hx (by omega)
  have h1 : q_w x / q_w z ≤ q_w x := Int.ediv_le_self _ hx
  have h2 := q_w_lt x
  rw [show (Int32.ofInt (q_w x / q_w z)).toInt = q_w (q_w x / q_w z) from rfl, q_w_id (by omega) (by omega)]
  rw [Int32.toInt_div]
  show ((q_w x).tdiv (q_w z)).bmod (2 ^ 32) = _
  rw [Int.tdiv_eq_ediv_of_nonneg hx]
  exact Int.bmod_eq_of_le (by omega) (by omega)
theorem q_idiv {x z : Int} (hd : decode M.2.1 pc = .ok (.idiv, 1)) (hx : 0 ≤ q_w x) (hz_ : 0 < q_w z) (k : q_R M rm mc ms y cu su g m (pc + 1) ls (q_I (q_w x / q_w z) :: st)) : q_R M rm mc ms y cu su g m pc ls (q_I z :: q_I x :: st) := by
  intro p l e s mi args below meth c H locs D cs b ad adV ar C hP hz hS hl
  have h := k p l e s mi args below meth c H locs D cs b ad adV ar C hP hz hS hl
  rw [List.map_cons, show q_cv b ad (q_I (q_w x / q_w z)) = .int (Int32.ofInt x / Int32.ofInt z) from congrArg Value.int (q_divw hx hz_).symm] at h
  exact lv_idiv C.1 C.2.1 hd (fun h0 => by rw [q_0w, q_eqw] at h0; rw [h0] at hz_; exact absurd hz_ (by decide)) h

theorem q_irem {x z : Int} (hd : decode M.2.1 pc = .ok (.irem, 1)) (hx : 0 ≤ q_w x) (hz_ : 0 < q_w z) (k : q_R M rm mc ms y cu su g m (pc + 1) ls (q_I (q_w x % q_w z) :: st)) : q_R M rm mc ms y cu su g m pc ls (q_I z :: q_I x :: st) := by
  intro p l e s mi args below meth c H locs D cs b ad adV ar C hP hz hS hl
  have h := k p l e s mi args below meth c H locs D cs b ad adV ar C hP hz hS hl
  have e9 : Int32.ofInt (q_w x % q_w z) = Int32.ofInt x - Int32.ofInt x / Int32.ofInt z * Int32.ofInt z := by
    rw [q_divw hx hz_, ← q_ofw x, ← q_ofw z, ← Int32.ofInt_mul, ← Int32.ofInt_sub]
    congr 1
    have := Int.emod_add_mul_ediv (q_w x) (q_w z)
    rw [Int.mul_comm] at this
    omega
  rw [List.map_cons, show q_cv b ad (q_I (q_w x % q_w z)) = .int (Int32.ofInt x - Int32.ofInt x / Int32.ofInt z * Int32.ofInt z) from congrArg Value.int e9] at h
  exact lv_irem C.1 C.2.1 hd (fun h0 => by rw [q_0w, q_eqw] at h0; rw [h0] at hz_; exact absurd hz_ (by decide)) h

def q_and (x z : Int) : Int := (Int32.ofInt x &&& Int32.ofInt z).toInt
def q_or (x z : Int) : Int := (Int32.ofInt x ||| Int32.ofInt z).toInt
def q_shr (x z : Int) : Int := (Int32.ofInt x >>> (Int32.ofInt z &&& 31)).toInt
def q_ushr (x z : Int) : Int := (((Int32.ofInt x).toUInt32 >>> ((Int32.ofInt z).toUInt32 &&& Int32.toUInt32 31)).toInt32).toInt
def q_i2b (x : Int) : Int := ((Int32.ofInt x).toInt8.toInt32).toInt
def q_lshl (x z : Int) : Int := (Int64.ofInt x <<< ((Int32.ofInt z).toInt64 &&& 63)).toInt
def q_lushr (x z : Int) : Int := (((Int64.ofInt x).toUInt64 >>> ((Int32.ofInt z).toInt64.toUInt64 &&& Int64.toUInt64 63)).toInt64).toInt
def q_land (x z : Int) : Int := (Int64.ofInt x &&& Int64.ofInt z).toInt
def q_lor (x z : Int) : Int := (Int64.ofInt x ||| Int64.ofInt z).toInt
def q_lxor (x z : Int) : Int := (Int64.ofInt x ^^^ Int64.ofInt z).toInt
def q_lcmp (x z : Int) : Int := (lg_cmp (Int64.ofInt x) (Int64.ofInt z)).toInt
theorem q_iand {x z : Int} (hd : decode M.2.1 pc = .ok (.iand, 1)) (k : q_R M rm mc ms y cu su g m (pc + 1) ls (q_I (q_and x z) :: st)) : q_R M rm mc ms y cu su g m pc ls (q_I z :: q_I x :: st) := by
  intro p l e s mi args below meth c H locs D cs b ad adV ar C hP hz hS hl
  have h := k p l e s mi args below meth c H locs D cs b ad adV ar C hP hz hS hl
  rw [List.map_cons, show q_cv b ad (q_I (q_and x z)) = .int (Int32.ofInt x &&& Int32.ofInt z) from congrArg Value.int (Int32.ofInt_toInt _)] at h
  exact lv_iand C.1 C.2.1 hd h

theorem q_ior {x z : Int} (hd : decode M.2.1 pc = .ok (.ior, 1)) (k : q_R M rm mc ms y cu su g m (pc + 1) ls (q_I (q_or x z) :: st)) : q_R M rm mc ms y cu su g m pc ls (q_I z :: q_I x :: st) := by
  intro p l e s mi args below meth c H locs D cs b ad adV ar C hP hz hS hl
  have h := k p l e s mi args below meth c H locs D cs b ad adV ar C hP hz hS hl
  rw [List.map_cons, show q_cv b ad (q_I (q_or x z)) = .int (Int32.ofInt x ||| Int32.ofInt z) from congrArg Value.int (Int32.ofInt_toInt _)] at h
  exact lv_ior C.1 C.2.1 hd h

theorem q_ishr {x z : Int} (hd : decode M.2.1 pc = .ok (.ishr, 1)) (k : q_R M rm mc ms y cu su g m (pc + 1) ls (q_I (q_shr x z) :: st)) : q_R M rm mc ms y cu su g m pc ls (q_I z :: q_I x :: st) := by
  intro p l e s mi args below meth c H locs D cs b ad adV ar C hP hz hS hl
  have h := k p l e s mi args below meth c H locs D cs b ad adV ar C hP hz hS hl
  rw [List.map_cons, show q_cv b ad (q_I (q_shr x z)) = .int (Int32.ofInt x >>> (Int32.ofInt z &&& 31)) from congrArg Value.int (Int32.ofInt_toInt _)] at h
  exact lv_ishr C.1 C.2.1 hd h

theorem q_iushr {x z : Int} (hd : decode M.2.1 pc = .ok (.iushr, 1)) (k : q_R M rm mc ms y cu su g m (pc + 1) ls (q_I (q_ushr x z) :: st)) : q_R M rm mc ms y cu su g m pc ls (q_I z :: q_I x :: st) := by
  intro p l e s mi args below meth c H locs D cs b ad adV ar C hP hz hS hl
  exact lv_iushr (v := Int32.ofInt (q_ushr x z)) C.1 C.2.1 hd (Int32.ofInt_toInt _).symm (k p l e s mi args below meth c H locs D cs b ad adV ar C hP hz hS hl)

theorem q_i2b_ {x : Int} (hd : decode M.2.1 pc = .ok (.i2b, 1)) (k : q_R M rm mc ms y cu su g m (pc + 1) ls (q_I (q_i2b x) :: st)) : q_R M rm mc ms y cu su g m pc ls (q_I x :: st) := by
  intro p l e s mi args below meth c H locs D cs b ad adV ar C hP hz hS hl
  exact lv_i2b (v := Int32.ofInt (q_i2b x)) C.1 C.2.1 hd (Int32.ofInt_toInt _).symm (k p l e s mi args below meth c H locs D cs b ad adV ar C hP hz hS hl)

theorem q_lshl_ {x z : Int} (hd : decode M.2.1 pc = .ok (.lshl, 1)) (k : q_R M rm mc ms y cu su g m (pc + 1) ls (q_L (q_lshl x z) :: st)) : q_R M rm mc ms y cu su g m pc ls (q_I z :: q_L x :: st) := by
  intro p l e s mi args below meth c H locs D cs b ad adV ar C hP hz hS hl
  exact lv_lshl (v := Int64.ofInt (q_lshl x z)) C.1 C.2.1 hd (Int64.ofInt_toInt _).symm (k p l e s mi args below meth c H locs D cs b ad adV ar C hP hz hS hl)

theorem q_lushr_ {x z : Int} (hd : decode M.2.1 pc = .ok (.lushr, 1)) (k : q_R M rm mc ms y cu su g m (pc + 1) ls (q_L (q_lushr x z) :: st)) : q_R M rm mc ms y cu su g m pc ls (q_I z :: q_L x :: st) := by
  intro p l e s mi args below meth c H locs D cs b ad adV ar C hP hz hS hl
  exact lv_lushr (v := Int64.ofInt (q_lushr x z)) C.1 C.2.1 hd (Int64.ofInt_toInt _).symm (k p l e s mi args below meth c H locs D cs b ad adV ar C hP hz hS hl)

theorem q_land_ {x z : Int} (hd : decode M.2.1 pc = .ok (.land, 1)) (k : q_R M rm mc ms y cu su g m (pc + 1) ls (q_L (q_land x z) :: st)) : q_R M rm mc ms y cu su g m pc ls (q_L z :: q_L x :: st) := by
  intro p l e s mi args below meth c H locs D cs b ad adV ar C hP hz hS hl
  have h := k p l e s mi args below meth c H locs D cs b ad adV ar C hP hz hS hl
  rw [List.map_cons, show q_cv b ad (q_L (q_land x z)) = .long (Int64.ofInt x &&& Int64.ofInt z) from congrArg Value.long (Int64.ofInt_toInt _)] at h
  exact lv_land C.1 C.2.1 hd h

theorem q_lor_ {x z : Int} (hd : decode M.2.1 pc = .ok (.lor, 1)) (k : q_R M rm mc ms y cu su g m (pc + 1) ls (q_L (q_lor x z) :: st)) : q_R M rm mc ms y cu su g m pc ls (q_L z :: q_L x :: st) := by
  intro p l e s mi args below meth c H locs D cs b ad adV ar C hP hz hS hl
  have h := k p l e s mi args below meth c H locs D cs b ad adV ar C hP hz hS hl
  rw [List.map_cons, show q_cv b ad (q_L (q_lor x z)) = .long (Int64.ofInt x ||| Int64.ofInt z) from congrArg Value.long (Int64.ofInt_toInt _)] at h
  exact lv_lor C.1 C.2.1 hd h

theorem q_lxor_ {x z : Int} (hd : decode M.2.1 pc = .ok (.lxor, 1)) (k : q_R M rm mc ms y cu su g m (pc + 1) ls (q_L (q_lxor x z) :: st)) : q_R M rm mc ms y cu su g m pc ls (q_L z :: q_L x :: st) := by
  intro p l e s mi args below meth c H locs D cs b ad adV ar C hP hz hS hl
  have h := k p l e s mi args below meth c H locs D cs b ad adV ar C hP hz hS hl
  rw [List.map_cons, show q_cv b ad (q_L (q_lxor x z)) = .long (Int64.ofInt x ^^^ Int64.ofInt z) from congrArg Value.long (Int64.ofInt_toInt _)] at h
  exact lv_lxor C.1 C.2.1 hd h

theorem q_lcmp_ {x z : Int} (hd : decode M.2.1 pc = .ok (.lcmp, 1)) (k : q_R M rm mc ms y cu su g m (pc + 1) ls (q_I (q_lcmp x z) :: st)) : q_R M rm mc ms y cu su g m pc ls (q_L z :: q_L x :: st) := by
  intro p l e s mi args below meth c H locs D cs b ad adV ar C hP hz hS hl
  have h := k p l e s mi args below meth c H locs D cs b ad adV ar C hP hz hS hl
  rw [List.map_cons, show q_cv b ad (q_I (q_lcmp x z)) = .int (lg_cmp (Int64.ofInt x) (Int64.ofInt z)) from congrArg Value.int (Int32.ofInt_toInt _)] at h
  exact W.lcmp C.1 C.2.1 hd h

theorem q_dup {v : q_V} (hd : decode M.2.1 pc = .ok (.dup, 1)) (hv : v.1 ≠ 1) (k : q_R M rm mc ms y cu su g m (pc + 1) ls (v :: v :: st)) : q_R M rm mc ms y cu su g m pc ls (v :: st) := by
  intro p l e s mi args below meth c H locs D cs b ad adV ar C hP hz hS hl
  exact lv_dup C.1 C.2.1 hd (by rw [q_cat, if_neg hv]) (k p l e s mi args below meth c H locs D cs b ad adV ar C hP hz hS hl)

theorem q_dup2 {v w : q_V} (hd : decode M.2.1 pc = .ok (.dup2, 1)) (hv : v.1 ≠ 1) (hw : w.1 ≠ 1) (k : q_R M rm mc ms y cu su g m (pc + 1) ls (v :: w :: v :: w :: st)) : q_R M rm mc ms y cu su g m pc ls (v :: w :: st) := by
  intro p l e s mi args below meth c H locs D cs b ad adV ar C hP hz hS hl
  exact lv_dup2_11 C.1 C.2.1 hd (by rw [q_cat, if_neg hv]) (by rw [q_cat, if_neg hw]) (k p l e s mi args below meth c H locs D cs b ad adV ar C hP hz hS hl)

theorem q_pop {v : q_V} (hd : decode M.2.1 pc = .ok (.pop, 1)) (hv : v.1 ≠ 1) (k : q_R M rm mc ms y cu su g m (pc + 1) ls st) : q_R M rm mc ms y cu su g m pc ls (v :: st) := by
  intro p l e s mi args below meth c H locs D cs b ad adV ar C hP hz hS hl
  exact lv_pop C.1 C.2.1 hd (by rw [q_cat, if_neg hv]) (k p l e s mi args below meth c H locs D cs b ad adV ar C hP hz hS hl)

theorem q_if_eq {x : Int} {off : Int} {tgt : Nat} (hd : decode M.2.1 pc = .ok (.ifCond .eq off, 3)) (ht : (pc : Int) + off = (tgt : Int)) (kt : q_w x = 0 → q_R M rm mc ms y cu su g m tgt ls st) (kf : ¬ (q_w x = 0) → q_R M rm mc ms y cu su g m (pc + 3) ls st) : q_R M rm mc ms y cu su g m pc ls (q_I x :: st) := by
  intro p l e s mi args below meth c H locs D cs b ad adV ar C hP hz hS hl
  have cv : (Int32.ofInt x = 0) ↔ (q_w x = 0) := by rw [q_0w]; exact q_eqw
  refine lv_if_eq C.1 C.2.1 hd ht (fun h => kt (cv.mp h) p l e s mi args below meth c H locs D cs b ad adV ar C hP hz hS hl) (fun h => kf (fun h2 => h (cv.mpr h2)) p l e s mi args below meth c H locs D cs b ad adV ar C hP hz hS hl)

theorem q_icmp_eq {x z : Int} {off : Int} {tgt : Nat} (hd : decode M.2.1 pc = .ok (.if_icmp .eq off, 3)) (ht : (pc : Int) + off = (tgt : Int)) (kt : q_w x = q_w z → q_R M rm mc ms y cu su g m tgt ls st) (kf : ¬ (q_w x = q_w z) → q_R M rm mc ms y cu su g m (pc + 3) ls st) : q_R M rm mc ms y cu su g m pc ls (q_I z :: q_I x :: st) := by
  intro p l e s mi args below meth c H locs D cs b ad adV ar C hP hz hS hl
  have cv : (Int32.ofInt x = Int32.ofInt z) ↔ (q_w x = q_w z) := q_eqw
  refine lv_icmp_eq C.1 C.2.1 hd ht (fun h => kt (cv.mp h) p l e s mi args below meth c H locs D cs b ad adV ar C hP hz hS hl) (fun h => kf (fun h2 => h (cv.mpr h2)) p l e s mi args below meth c H locs D cs b ad adV ar C hP hz hS hl)

theorem q_if_ne {x : Int} {off : Int} {tgt : Nat} (hd : decode M.2.1 pc = .ok (.ifCond .ne off, 3)) (ht : (pc : Int) + off = (tgt : Int)) (kt : ¬ (q_w x = 0) → q_R M rm mc ms y cu su g m tgt ls st) (kf : q_w x = 0 → q_R M rm mc ms y cu su g m (pc + 3) ls st) : q_R M rm mc ms y cu su g m pc ls (q_I x :: st) := by
  intro p l e s mi args below meth c H locs D cs b ad adV ar C hP hz hS hl
  have cv : (Int32.ofInt x = 0) ↔ (q_w x = 0) := by rw [q_0w]; exact q_eqw
  refine lv_if_ne C.1 C.2.1 hd ht (fun h => kt (fun h2 => h (cv.mpr h2)) p l e s mi args below meth c H locs D cs b ad adV ar C hP hz hS hl) (fun h => kf (cv.mp h) p l e s mi args below meth c H locs D cs b ad adV ar C hP hz hS hl)

theorem q_icmp_ne {x z : Int} {off : Int} {tgt : Nat} (hd : decode M.2.1 pc = .ok (.if_icmp .ne off, 3)) (ht : (pc : Int) + off = (tgt : Int)) (kt : ¬ (q_w x = q_w z) → q_R M rm mc ms y cu su g m tgt ls st) (kf : q_w x = q_w z → q_R M rm mc ms y cu su g m (pc + 3) ls st) : q_R M rm mc ms y cu su g m pc ls (q_I z :: q_I x :: st) := by
  intro p l e s mi args below meth c H locs D cs b ad adV ar C hP hz hS hl
  have cv : (Int32.ofInt x = Int32.ofInt z) ↔ (q_w x = q_w z) := q_eqw
  refine lv_icmp_ne C.1 C.2.1 hd ht (fun h => kt (fun h2 => h (cv.mpr h2)) p l e s mi args below meth c H locs D cs b ad adV ar C hP hz hS hl) (fun h => kf (cv.mp h) p l e s mi args below meth c H locs D cs b ad adV ar C hP hz hS hl)

theorem q_if_lt {x : Int} {off : Int} {tgt : Nat} (hd : decode M.2.1 pc = .ok (.ifCond .lt off, 3)) (ht : (pc : Int) + off = (tgt : Int)) (kt : q_w x < 0 → q_R M rm mc ms y cu su g m tgt ls st) (kf : ¬ (q_w x < 0) → q_R M rm mc ms y cu su g m (pc + 3) ls st) : q_R M rm mc ms y cu su g m pc ls (q_I x :: st) := by
  intro p l e s mi args below meth c H locs D cs b ad adV ar C hP hz hS hl
  have cv : (Int32.ofInt x < 0) ↔ (q_w x < 0) := by rw [q_0w]; exact q_ltw
  refine lv_if_lt C.1 C.2.1 hd ht (fun h => kt (cv.mp h) p l e s mi args below meth c H locs D cs b ad adV ar C hP hz hS hl) (fun h => kf (fun h2 => h (cv.mpr h2)) p l e s mi args below meth c H locs D cs b ad adV ar C hP hz hS hl)

theorem q_icmp_lt {x z : Int} {off : Int} {tgt : Nat} (hd : decode M.2.1 pc = .ok (.if_icmp .lt off, 3)) (ht : (pc : Int) + off = (tgt : Int)) (kt : q_w x < q_w z → q_R M rm mc ms y cu su g m tgt ls st) (kf : ¬ (q_w x < q_w z) → q_R M rm mc ms y cu su g m (pc + 3) ls st) : q_R M rm mc ms y cu su g m pc ls (q_I z :: q_I x :: st) := by
  intro p l e s mi args below meth c H locs D cs b ad adV ar C hP hz hS hl
  have cv : (Int32.ofInt x < Int32.ofInt z) ↔ (q_w x < q_w z) := q_ltw
  refine lv_icmp_lt C.1 C.2.1 hd ht (fun h => kt (cv.mp h) p l e s mi args below meth c H locs D cs b ad adV ar C hP hz hS hl) (fun h => kf (fun h2 => h (cv.mpr h2)) p l e s mi args below meth c H locs D cs b ad adV ar C hP hz hS hl)

theorem q_if_ge {x : Int} {off : Int} {tgt : Nat} (hd : decode M.2.1 pc = .ok (.ifCond .ge off, 3)) (ht : (pc : Int) + off = (tgt : Int)) (kt : 0 ≤ q_w x → q_R M rm mc ms y cu su g m tgt ls st) (kf : ¬ (0 ≤ q_w x) → q_R M rm mc ms y cu su g m (pc + 3) ls st) : q_R M rm mc ms y cu su g m pc ls (q_I x :: st) := by
  intro p l e s mi args below meth c H locs D cs b ad adV ar C hP hz hS hl
  have cv : (0 ≤ Int32.ofInt x) ↔ (0 ≤ q_w x) := by rw [q_0w]; exact q_lew
  refine lv_if_ge C.1 C.2.1 hd ht (fun h => kt (cv.mp h) p l e s mi args below meth c H locs D cs b ad adV ar C hP hz hS hl) (fun h => kf (fun h2 => h (cv.mpr h2)) p l e s mi args below meth c H locs D cs b ad adV ar C hP hz hS hl)

theorem q_icmp_ge {x z : Int} {off : Int} {tgt : Nat} (hd : decode M.2.1 pc = .ok (.if_icmp .ge off, 3)) (ht : (pc : Int) + off = (tgt : Int)) (kt : q_w z ≤ q_w x → q_R M rm mc ms y cu su g m tgt ls st) (kf : ¬ (q_w z ≤ q_w x) → q_R M rm mc ms y cu su g m (pc + 3) ls st) : q_R M rm mc ms y cu su g m pc ls (q_I z :: q_I x :: st) := by
  intro p l e s mi args below meth c H locs D cs b ad adV ar C hP hz hS hl
  have cv : (Int32.ofInt z ≤ Int32.ofInt x) ↔ (q_w z ≤ q_w x) := q_lew
  refine lv_icmp_ge C.1 C.2.1 hd ht (fun h => kt (cv.mp h) p l e s mi args below meth c H locs D cs b ad adV ar C hP hz hS hl) (fun h => kf (fun h2 => h (cv.mpr h2)) p l e s mi args below meth c H locs D cs b ad adV ar C hP hz hS hl)

theorem q_if_gt {x : Int} {off : Int} {tgt : Nat} (hd : decode M.2.1 pc = .ok (.ifCond .gt off, 3)) (ht : (pc : Int) + off = (tgt : Int)) (kt : 0 < q_w x → q_R M rm mc ms y cu su g m tgt ls st) (kf : ¬ (0 < q_w x) → q_R M rm mc ms y cu su g m (pc + 3) ls st) : q_R M rm mc ms y cu su g m pc ls (q_I x :: st) := by
  intro p l e s mi args below meth c H locs D cs b ad adV ar C hP hz hS hl
  have cv : (0 < Int32.ofInt x) ↔ (0 < q_w x) := by rw [q_0w]; exact q_ltw
  refine lv_if_gt C.1 C.2.1 hd ht (fun h => kt (cv.mp h) p l e s mi args below meth c H locs D cs b ad adV ar C hP hz hS hl) (fun h => kf (fun h2 => h (cv.mpr h2)) p l e s mi args below meth c H locs D cs b ad adV ar C hP hz hS hl)

theorem q_icmp_gt {x z : Int} {off : Int} {tgt : Nat} (hd : decode M.2.1 pc = .ok (.if_icmp .gt off, 3)) (ht : (pc : Int) + off = (tgt : Int)) (kt : q_w z < q_w x → q_R M rm mc ms y cu su g m tgt ls st) (kf : ¬ (q_w z < q_w x) → q_R M rm mc ms y cu su g m (pc + 3) ls st) : q_R M rm mc ms y cu su g m pc ls (q_I z :: q_I x :: st) := by
  intro p l e s mi args below meth c H locs D cs b ad adV ar C hP hz hS hl
  have cv : (Int32.ofInt z < Int32.ofInt x) ↔ (q_w z < q_w x) := q_ltw
  refine lv_icmp_gt C.1 C.2.1 hd ht (fun h => kt (cv.mp h) p l e s mi args below meth c H locs D cs b ad adV ar C hP hz hS hl) (fun h => kf (fun h2 => h (cv.mpr h2)) p l e s mi args below meth c H locs D cs b ad adV ar C hP hz hS hl)

theorem q_if_le {x : Int} {off : Int} {tgt : Nat} (hd : decode M.2.1 pc = .ok (.ifCond .le off, 3)) (ht : (pc : Int) + off = (tgt : Int)) (kt : q_w x ≤ 0 → q_R M rm mc ms y cu su g m tgt ls st) (kf : ¬ (q_w x ≤ 0) → q_R M rm mc ms y cu su g m (pc + 3) ls st) : q_R M rm mc ms y cu su g m pc ls (q_I x :: st) := by
  intro p l e s mi args below meth c H locs D cs b ad adV ar C hP hz hS hl
  have cv : (Int32.ofInt x ≤ 0) ↔ (q_w x ≤ 0) := by rw [q_0w]; exact q_lew
  refine lv_if_le C.1 C.2.1 hd ht (fun h => kt (cv.mp h) p l e s mi args below meth c H locs D cs b ad adV ar C hP hz hS hl) (fun h => kf (fun h2 => h (cv.mpr h2)) p l e s mi args below meth c H locs D cs b ad adV ar C hP hz hS hl)

theorem q_icmp_le {x z : Int} {off : Int} {tgt : Nat} (hd : decode M.2.1 pc = .ok (.if_icmp .le off, 3)) (ht : (pc : Int) + off = (tgt : Int)) (kt : q_w x ≤ q_w z → q_R M rm mc ms y cu su g m tgt ls st) (kf : ¬ (q_w x ≤ q_w z) → q_R M rm mc ms y cu su g m (pc + 3) ls st) : q_R M rm mc ms y cu su g m pc ls (q_I z :: q_I x :: st) := by
  intro p l e s mi args below meth c H locs D cs b ad adV ar C hP hz hS hl
  have cv : (Int32.ofInt x ≤ Int32.ofInt z) ↔ (q_w x ≤ q_w z) := q_lew
  refine lv_icmp_le C.1 C.2.1 hd ht (fun h => kt (cv.mp h) p l e s mi args below meth c H locs D cs b ad adV ar C hP hz hS hl) (fun h => kf (fun h2 => h (cv.mpr h2)) p l e s mi args below meth c H locs D cs b ad adV ar C hP hz hS hl)

theorem q_goto {off : Int} {tgt : Nat} (hd : decode M.2.1 pc = .ok (.goto off, 3)) (ht : (pc : Int) + off = (tgt : Int)) (k : q_R M rm mc ms y cu su g m tgt ls st) : q_R M rm mc ms y cu su g m pc ls st := by
  intro p l e s mi args below meth c H locs D cs b ad adV ar C hP hz hS hl
  exact lv_goto C.1 C.2.1 hd ht (k p l e s mi args below meth c H locs D cs b ad adV ar C hP hz hS hl)

theorem q_lookup {dflt : Int} {ps : Array (Int × Int)} {len : Nat} {x off : Int} {tgt : Nat} (hd : decode M.2.1 pc = .ok (.lookupswitch dflt ps, len)) (hp : (ps.toList.zip (ps.toList.drop 1)).all (fun (a, next) => a.1 < next.1) = true) (ho : Op.lookupswitch.offset ps.toList dflt (q_w x) = off) (ht : (pc : Int) + off = (tgt : Int)) (k : q_R M rm mc ms y cu su g m tgt ls st) : q_R M rm mc ms y cu su g m pc ls (q_I x :: st) := by
  intro p l e s mi args below meth c H locs D cs b ad adV ar C hP hz hS hl
  exact lv_lookup C.1 C.2.1 hd hp ho ht (k p l e s mi args below meth c H locs D cs b ad adV ar C hP hz hS hl)

theorem q_tabOut {dflt lo hi : Int} {offs : Array Int} {len : Nat} {x : Int} {tgt : Nat} (hd : decode M.2.1 pc = .ok (.tableswitch dflt lo hi offs, len)) (h : q_w x < lo ∨ hi < q_w x) (ht : (pc : Int) + dflt = (tgt : Int)) (k : q_R M rm mc ms y cu su g m tgt ls st) : q_R M rm mc ms y cu su g m pc ls (q_I x :: st) := by
  intro p l e s mi args below meth c H locs D cs b ad adV ar C hP hz hS hl
  exact lv_tableOut C.1 C.2.1 hd h ht (k p l e s mi args below meth c H locs D cs b ad adV ar C hP hz hS hl)

theorem q_tabIn {dflt lo hi : Int} {offs : Array Int} {len : Nat} {x off : Int} {tgt : Nat} (hd : decode M.2.1 pc = .ok (.tableswitch dflt lo hi offs, len)) (h1 : ¬ q_w x < lo) (h2 : ¬ hi < q_w x) (ho : offs[(q_w x - lo).toNat]? = some off) (ht : (pc : Int) + off = (tgt : Int)) (k : q_R M rm mc ms y cu su g m tgt ls st) : q_R M rm mc ms y cu su g m pc ls (q_I x :: st) := by
  intro p l e s mi args below meth c H locs D cs b ad adV ar C hP hz hS hl
  exact lv_tableIn C.1 C.2.1 hd h1 h2 ho ht (k p l e s mi args below meth c H locs D cs b ad adV ar C hP hz hS hl)

end q_rows
