/-! THE JDK's OWN METHODS that the classes call, by contract -/
def q_fi (m : q_Mem) (c : Int) (n : Nat) (v : Int) (K : q_Mem → q_Res) : q_Res := K (q_fill m c n v)
/-- Long.bitCount, as it is reckoned -/
def q_bc64 (x0 : Int64) : Int32 :=
  let u (x : Int64) (k : Int32) : Int64 := (x.toUInt64 >>> (k.toInt64.toUInt64 &&& Int64.toUInt64 63)).toInt64
  let x1 := x0 - (u x0 1 &&& 6148914691236517205)
  let x2 := (x1 &&& 3689348814741910323) + (u x1 2 &&& 3689348814741910323)
  let x3 := (x2 + u x2 4) &&& 1085102592571150095
  let x4 := x3 + u x3 8
  let x5 := x4 + u x4 16
  let x6 := x5 + u x5 32
  x6.toInt32 &&& 127
def q_bc (x : Int) : Int := (q_bc64 (Int64.ofInt x)).toInt
def q_sln (k : Int) : Nat := (q_sby.getD k.toNat []).length
def q_sch (k j : Int) : Int := ((q_sby.getD k.toNat []).getD j.toNat 0).toInt
def q_ch (k j : Int) (K : Int → q_Res) : q_Res := if 0 ≤ q_w j ∧ q_w j < q_sln k then K (q_sch k (q_w j)) else none
theorem q_pl {ls : List q_V} {i : Nat} (h : (match ls[i]? with | some w => w.1 != 1 | none => true) = true) : ∀ w, ls[i]? = some w → w.1 ≠ 1 := by
  intro w hw
  rw [hw] at h
  simpa using h
section q_jdk
variable {M : q_M} {d N : Nat} {t : Option Nat} {r : Int × q_Mem} {m : q_Mem} {pc : Nat} {ls st : List q_V}
theorem e_fill {idx n : Nat} {c v : Int} {K : q_Mem → q_Res} (h : q_fi m c n v K = some r) (hw : Cond.methodLink M.1.cls idx yJ7_fill_53178 ∈ q_T) (hd : decode M.2.1 pc = .ok (.invokestatic idx, 3)) (hr : q_ar (q_g N) c 20 n) (hdd : 2 ≤ d) (hst : q_words st ≤ 8) (kk : ∀ m', K m' = some r → q_E M d N t r m' (pc + 3) ls st) : q_E M d N t r m pc ls (q_I v :: q_A c :: st) := sorry
theorem e_bitc {idx : Nat} {x : Int} (hw : Cond.methodLink M.1.cls idx yJ13_bitCount_95d88 ∈ q_T) (hd : decode M.2.1 pc = .ok (.invokestatic idx, 3)) (hdd : 2 ≤ d) (hst : q_words st ≤ 8) (kk : q_E M d N t r m (pc + 3) ls (q_I (q_bc x) :: st)) : q_E M d N t r m pc ls (q_L x :: st) := sorry
theorem e_slen {idx : Nat} {k : Int} (hw : Cond.methodLink M.1.cls idx yJ0_length_8abf5 ∈ q_T) (hd : decode M.2.1 pc = .ok (.invokevirtual idx, 3)) (hk : 0 ≤ k ∧ k < 14) (hdd : 6 ≤ d) (hst : q_words st ≤ 8) (kk : q_E M d N t r m (pc + 3) ls (q_I (q_sln k) :: st)) : q_E M d N t r m pc ls (q_S k :: st) := sorry
theorem e_char {idx : Nat} {k j : Int} {K : Int → q_Res} (h : q_ch k j K = some r) (hw : Cond.methodLink M.1.cls idx yJ0_charAt_5068e ∈ q_T) (hd : decode M.2.1 pc = .ok (.invokevirtual idx, 3)) (hk : 0 ≤ k ∧ k < 14) (hdd : 6 ≤ d) (hst : q_words st ≤ 8) (kk : ∀ v, K v = some r → q_E M d N t r m (pc + 3) ls (q_I v :: st)) : q_E M d N t r m pc ls (q_I j :: q_S k :: st) := sorry
theorem e_ldcS {idx i : Nat} {tx : String} (hd : decode M.2.1 pc = .ok (.ldc idx, 2)) (hw : (M.1.cls, idx, tx, i) ∈ q_strs) (kk : q_E M d N t r m (pc + 2) ls (q_S i :: st)) : q_E M d N t r m pc ls st := by
  intro p l e s mi args below meth c H locs D cs b ad adV ar C hP hz hS hl
  exact va_ldcS C.1 C.2.1 C.2.2.2.2.1 (C.2.2.2.2.2.2.2.2.2.2.2.2.1 _ hw) hd (kk p l e s mi args below meth c H locs D cs b ad adV ar C hP hz hS hl)
theorem q_ldc_w {i : Nat} {v : Int32} {x : Int} (hd : decode M.2.1 pc = .ok (.ldc_w i, 3)) (hw : Cond.constant M.1.cls i v ∈ q_T) (hx : v = Int32.ofInt x) (k : q_E M d N t r m (pc + 3) ls (q_I x :: st)) : q_E M d N t r m pc ls st := by
  intro p l e s mi args below meth c H locs D cs b ad adV ar C hP hz hS hl
  subst hx
  intro T hT X
  obtain ⟨t9, a1, b1⟩ := k p l e s mi args below meth c H locs D cs b ad adV ar C hP hz hS hl T hT X
  exact ⟨t9, va_ldcwI X C.1 C.2.2.2.2.1 (C.2.2.2.2.2.1 _ hw) (g := F0 mi pc ar (st.map (q_cv b ad))) rfl (by rw [C.2.1]; exact hd) t9 a1, b1⟩
theorem e_ist_n {n : Fin 4} {x : Int} {ls' : List q_V} (hd : decode M.2.1 pc = .ok (.istore_n n, 1)) (hn : (n : Nat) < M.2.2.1) (hp : ∀ w, ls[(n : Nat) - 1]? = some w → w.1 ≠ 1) (hs : ls.set (n : Nat) (q_I x) = ls') (k : q_E M d N t r m (pc + 1) ls' st) : q_E M d N t r m pc ls (q_I x :: st) := by
  subst hs
  exact q_istore_n hd hn hp k
theorem e_ist {i : Nat} {x : Int} {ls' : List q_V} (hd : decode M.2.1 pc = .ok (.istore i, 2)) (hn : i < M.2.2.1) (hp : ∀ w, ls[i - 1]? = some w → w.1 ≠ 1) (hs : ls.set i (q_I x) = ls') (k : q_E M d N t r m (pc + 2) ls' st) : q_E M d N t r m pc ls (q_I x :: st) := by
  subst hs
  exact q_istore hd hn hp k
theorem e_ast_n {n : Fin 4} {x : Int} {ls' : List q_V} (hd : decode M.2.1 pc = .ok (.astore_n n, 1)) (hx : 0 ≤ x) (hn : (n : Nat) < M.2.2.1) (hp : ∀ w, ls[(n : Nat) - 1]? = some w → w.1 ≠ 1) (hs : ls.set (n : Nat) (q_A x) = ls') (k : q_E M d N t r m (pc + 1) ls' st) : q_E M d N t r m pc ls (q_A x :: st) := by
  subst hs
  exact q_astore_n hd hx hn hp k
theorem e_ast {i : Nat} {x : Int} {ls' : List q_V} (hd : decode M.2.1 pc = .ok (.astore i, 2)) (hx : 0 ≤ x) (hn : i < M.2.2.1) (hp : ∀ w, ls[i - 1]? = some w → w.1 ≠ 1) (hs : ls.set i (q_A x) = ls') (k : q_E M d N t r m (pc + 2) ls' st) : q_E M d N t r m pc ls (q_A x :: st) := by
  subst hs
  exact q_astore hd hx hn hp k
theorem e_inc {i : Nat} {n x : Int} {ls' : List q_V} (hd : decode M.2.1 pc = .ok (.iinc i n, 3)) (hi : ls[i]? = some (q_I x)) (hn : i < M.2.2.1) (hp : ∀ w, ls[i - 1]? = some w → w.1 ≠ 1) (hs : ls.set i (q_I (x + n)) = ls') (k : q_E M d N t r m (pc + 3) ls' st) : q_E M d N t r m pc ls st := by
  subst hs
  exact q_iinc hd hi hn hp k

theorem e_callVi {M' : q_M} {d' idx n k : Nat} {av : List q_V} {c : Int} {e : q_Res} {K : Int → q_Mem → q_Res} (h : q_bd e K = some r) (hw : q_cl M.1.cls idx M' n) (hin : Cond.instanceMethod M'.1 ∈ q_T) (hse : Cond.selects M'.1.cls M'.1 M'.1 ∈ q_T) (hd : decode M.2.1 pc = .ok (.invokevirtual idx, 3))
    (hC : ∀ v, e = some v → q_C M' (q_room d') 0 0 (q_A c :: av) (q_g N) m (some (q_I v.1), q_g N, v.2)) (hn : av.length = n) (hr : q_is (q_g N) c k) (hk : ∃ T N, vwCl[k]? = some (M'.1.cls, T, N)) (hk12 : k < 12) (hst : q_words st ≤ 8) (hrm : d' < d ∧ M'.2.2.1 ≤ 45) {s0 : List q_V} (hs : s0 = av.reverse ++ q_A c :: st)
    (kk : ∀ v m', K v m' = some r → q_E M d N t r m' (pc + 3) ls (q_I v :: st)) : q_E M d N t r m pc ls s0 := e_callV (t' := some 0) h hw hin hse hd hC hn hr hk hk12 hst hrm hs kk
theorem e_callVv {M' : q_M} {d' idx n k : Nat} {av : List q_V} {c : Int} {e : q_Res} {K : Int → q_Mem → q_Res} (h : q_bd e K = some r) (hw : q_cl M.1.cls idx M' n) (hin : Cond.instanceMethod M'.1 ∈ q_T) (hse : Cond.selects M'.1.cls M'.1 M'.1 ∈ q_T) (hd : decode M.2.1 pc = .ok (.invokevirtual idx, 3))
    (hC : ∀ v, e = some v → q_C M' (q_room d') 0 0 (q_A c :: av) (q_g N) m (none, q_g N, v.2)) (hn : av.length = n) (hr : q_is (q_g N) c k) (hk : ∃ T N, vwCl[k]? = some (M'.1.cls, T, N)) (hk12 : k < 12) (hst : q_words st ≤ 8) (hrm : d' < d ∧ M'.2.2.1 ≤ 45) {s0 : List q_V} (hs : s0 = av.reverse ++ q_A c :: st)
    (kk : ∀ v m', K v m' = some r → q_E M d N t r m' (pc + 3) ls st) : q_E M d N t r m pc ls s0 := e_callV (t' := none) h hw hin hse hd hC hn hr hk hk12 hst hrm hs kk
theorem e_callVr {M' : q_M} {d' idx n k : Nat} {av : List q_V} {c : Int} {e : q_Res} {K : Int → q_Mem → q_Res} (h : q_bd e K = some r) (hw : q_cl M.1.cls idx M' n) (hin : Cond.instanceMethod M'.1 ∈ q_T) (hse : Cond.selects M'.1.cls M'.1 M'.1 ∈ q_T) (hd : decode M.2.1 pc = .ok (.invokevirtual idx, 3))
    (hC : ∀ v, e = some v → q_C M' (q_room d') 0 0 (q_A c :: av) (q_g N) m (some (q_A v.1), q_g N, v.2)) (hn : av.length = n) (hr : q_is (q_g N) c k) (hk : ∃ T N, vwCl[k]? = some (M'.1.cls, T, N)) (hk12 : k < 12) (hst : q_words st ≤ 8) (hrm : d' < d ∧ M'.2.2.1 ≤ 45) {s0 : List q_V} (hs : s0 = av.reverse ++ q_A c :: st)
    (kk : ∀ v m', K v m' = some r → q_E M d N t r m' (pc + 3) ls (q_A v :: st)) : q_E M d N t r m pc ls s0 := e_callV (t' := some 2) h hw hin hse hd hC hn hr hk hk12 hst hrm hs kk
theorem e_callSi {M' : q_M} {d' idx n : Nat} {av : List q_V} {e : q_Res} {K : Int → q_Mem → q_Res} (h : q_bd e K = some r) (hw : q_cl M.1.cls idx M' n) (hsta : Cond.static M'.1 ∈ q_T) (hd : decode M.2.1 pc = .ok (.invokestatic idx, 3))
    (hC : ∀ v, e = some v → q_C M' (q_room d') 0 0 av (q_g N) m (some (q_I v.1), q_g N, v.2)) (hn : av.length = n) (hst : q_words st ≤ 8) (hrm : d' < d ∧ M'.2.2.1 ≤ 45) {s0 : List q_V} (hs : s0 = av.reverse ++ st)
    (kk : ∀ v m', K v m' = some r → q_E M d N t r m' (pc + 3) ls (q_I v :: st)) : q_E M d N t r m pc ls s0 := e_callS (t' := some 0) h hw hsta hd hC hn hst hrm hs kk
theorem e_callSv {M' : q_M} {d' idx n : Nat} {av : List q_V} {e : q_Res} {K : Int → q_Mem → q_Res} (h : q_bd e K = some r) (hw : q_cl M.1.cls idx M' n) (hsta : Cond.static M'.1 ∈ q_T) (hd : decode M.2.1 pc = .ok (.invokestatic idx, 3))
    (hC : ∀ v, e = some v → q_C M' (q_room d') 0 0 av (q_g N) m (none, q_g N, v.2)) (hn : av.length = n) (hst : q_words st ≤ 8) (hrm : d' < d ∧ M'.2.2.1 ≤ 45) {s0 : List q_V} (hs : s0 = av.reverse ++ st)
    (kk : ∀ v m', K v m' = some r → q_E M d N t r m' (pc + 3) ls st) : q_E M d N t r m pc ls s0 := e_callS (t' := none) h hw hsta hd hC hn hst hrm hs kk
theorem e_callSr {M' : q_M} {d' idx n : Nat} {av : List q_V} {e : q_Res} {K : Int → q_Mem → q_Res} (h : q_bd e K = some r) (hw : q_cl M.1.cls idx M' n) (hsta : Cond.static M'.1 ∈ q_T) (hd : decode M.2.1 pc = .ok (.invokestatic idx, 3))
    (hC : ∀ v, e = some v → q_C M' (q_room d') 0 0 av (q_g N) m (some (q_A v.1), q_g N, v.2)) (hn : av.length = n) (hst : q_words st ≤ 8) (hrm : d' < d ∧ M'.2.2.1 ≤ 45) {s0 : List q_V} (hs : s0 = av.reverse ++ st)
    (kk : ∀ v m', K v m' = some r → q_E M d N t r m' (pc + 3) ls (q_A v :: st)) : q_E M d N t r m pc ls s0 := e_callS (t' := some 2) h hw hsta hd hC hn hst hrm hs kk
theorem e_callSNi {M' : q_M} {d' idx n : Nat} {host : String} {av : List q_V} {e : q_Res} {K : Int → q_Mem → q_Res} (h : q_bd e K = some r) (hw : (M.1.cls, idx, M'.1, host) ∈ q_nest ∧ Cond.initialized M'.1.cls ∈ q_T ∧ Cond.code M'.1 M'.2.1 M'.2.2.1 M'.2.2.2 ∈ q_T ∧ M'.1.cls ≠ "java/lang/invoke/MethodHandle" ∧ M'.1.cls ≠ "java/lang/invoke/VarHandle" ∧ (parseMethodDescriptor M'.1.desc).map (fun d => d.parameters.length) = some n) (hsta : Cond.static M'.1 ∈ q_T) (hd : decode M.2.1 pc = .ok (.invokestatic idx, 3))
    (hC : ∀ v, e = some v → q_C M' (q_room d') 0 0 av (q_g N) m (some (q_I v.1), q_g N, v.2)) (hn : av.length = n) (hst : q_words st ≤ 8) (hrm : d' < d ∧ M'.2.2.1 ≤ 45) {s0 : List q_V} (hs : s0 = av.reverse ++ st)
    (kk : ∀ v m', K v m' = some r → q_E M d N t r m' (pc + 3) ls (q_I v :: st)) : q_E M d N t r m pc ls s0 := e_callSN (t' := some 0) h hw hsta hd hC hn hst hrm hs kk
theorem e_callSNv {M' : q_M} {d' idx n : Nat} {host : String} {av : List q_V} {e : q_Res} {K : Int → q_Mem → q_Res} (h : q_bd e K = some r) (hw : (M.1.cls, idx, M'.1, host) ∈ q_nest ∧ Cond.initialized M'.1.cls ∈ q_T ∧ Cond.code M'.1 M'.2.1 M'.2.2.1 M'.2.2.2 ∈ q_T ∧ M'.1.cls ≠ "java/lang/invoke/MethodHandle" ∧ M'.1.cls ≠ "java/lang/invoke/VarHandle" ∧ (parseMethodDescriptor M'.1.desc).map (fun d => d.parameters.length) = some n) (hsta : Cond.static M'.1 ∈ q_T) (hd : decode M.2.1 pc = .ok (.invokestatic idx, 3))
    (hC : ∀ v, e = some v → q_C M' (q_room d') 0 0 av (q_g N) m (none, q_g N, v.2)) (hn : av.length = n) (hst : q_words st ≤ 8) (hrm : d' < d ∧ M'.2.2.1 ≤ 45) {s0 : List q_V} (hs : s0 = av.reverse ++ st)
    (kk : ∀ v m', K v m' = some r → q_E M d N t r m' (pc + 3) ls st) : q_E M d N t r m pc ls s0 := e_callSN (t' := none) h hw hsta hd hC hn hst hrm hs kk
theorem e_callSNr {M' : q_M} {d' idx n : Nat} {host : String} {av : List q_V} {e : q_Res} {K : Int → q_Mem → q_Res} (h : q_bd e K = some r) (hw : (M.1.cls, idx, M'.1, host) ∈ q_nest ∧ Cond.initialized M'.1.cls ∈ q_T ∧ Cond.code M'.1 M'.2.1 M'.2.2.1 M'.2.2.2 ∈ q_T ∧ M'.1.cls ≠ "java/lang/invoke/MethodHandle" ∧ M'.1.cls ≠ "java/lang/invoke/VarHandle" ∧ (parseMethodDescriptor M'.1.desc).map (fun d => d.parameters.length) = some n) (hsta : Cond.static M'.1 ∈ q_T) (hd : decode M.2.1 pc = .ok (.invokestatic idx, 3))
    (hC : ∀ v, e = some v → q_C M' (q_room d') 0 0 av (q_g N) m (some (q_A v.1), q_g N, v.2)) (hn : av.length = n) (hst : q_words st ≤ 8) (hrm : d' < d ∧ M'.2.2.1 ≤ 45) {s0 : List q_V} (hs : s0 = av.reverse ++ st)
    (kk : ∀ v m', K v m' = some r → q_E M d N t r m' (pc + 3) ls (q_A v :: st)) : q_E M d N t r m pc ls s0 := e_callSN (t' := some 2) h hw hsta hd hC hn hst hrm hs kk
end q_jdk
