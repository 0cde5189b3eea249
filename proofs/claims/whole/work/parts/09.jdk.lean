/-! THE JDK's OWN METHODS that the classes call, by contract -/
def q_fi (m : q_Mem) (c : Int) (n : Nat) (v : Int) (K : q_Mem → q_Res) : q_Res := K (q_fill m c n v)
/-- Long.bitCount, as it is reckoned -/
def q_bc64 (x0 : Int64) : Int32 :=
  let u (x : Int64) (k : Int32) : Int64 := (x.toUInt64 >>> (k.toInt64.toUInt64 &&& Int64.toUInt64 63)).toInt64
  let x1 := x0 - (u x0 1 &&& 6148914691236517205)
  let x2 := (x1 &&& 3689348814741910323) + (u x1 2 &&& 3689348814741910323)
  let x3 := (x2 + u x2 4) &&& 1085102592571150095
  let x4 := x3 + u x3 8
  let x5 := x4 + u x4 16
  let x6 := x5 + u x5 32
  x6.toInt32 &&& 127
def q_bc (x : Int) : Int := (q_bc64 (Int64.ofInt x)).toInt
def q_sln (k : Int) : Nat := (q_sby.getD k.toNat []).length
def q_sch (k j : Int) : Int := ((q_sby.getD k.toNat []).getD j.toNat 0).toInt
def q_ch (k j : Int) (K : Int → q_Res) : q_Res := if 0 ≤ q_w j ∧ q_w j < q_sln k then K (q_sch k (q_w j)) else none
theorem q_pl {ls : List q_V} {i : Nat} (h : (match ls[i]? with | some w => w.1 != 1 | none => true) = true) : ∀ w, ls[i]? = some w → w.1 ≠ 1 := by
  intro w hw
  rw [hw] at h
  simpa using h
/-! rows that the JDK's methods need -/
theorem jw_iArr : Cond.initialized RJ7 ∈ q_T := q_in 155 (by decide +kernel) (by decide +kernel)
theorem jw_iStr : Cond.initialized RJ0 ∈ q_T := q_in 158 (by decide +kernel) (by decide +kernel)
theorem jw_iLat : Cond.initialized RJ1 ∈ q_T := q_in 159 (by decide +kernel) (by decide +kernel)
theorem jw_iPre : Cond.initialized RJ3 ∈ q_T := q_in 160 (by decide +kernel) (by decide +kernel)
theorem jw_iLon : Cond.initialized RJ13 ∈ q_T := q_in 162 (by decide +kernel) (by decide +kernel)
theorem jw_sFill : Cond.static yJ7_fill_53178 ∈ q_T := q_in 618 (by decide +kernel) (by decide +kernel)
theorem jw_cFill : Cond.code yJ7_fill_53178 cJ7_fill_53178 4 none ∈ q_T := q_in 619 (by decide +kernel) (by decide +kernel)
theorem jw_mLen : Cond.instanceMethod yJ0_length_8abf5 ∈ q_T := q_in 830 (by decide +kernel) (by decide +kernel)
theorem jw_eLen : Cond.selects RJ0 yJ0_length_8abf5 yJ0_length_8abf5 ∈ q_T := q_in 831 (by decide +kernel) (by decide +kernel)
theorem jw_cLen : Cond.code yJ0_length_8abf5 cJ0_length_8abf5 1 (some .int) ∈ q_T := q_in 832 (by decide +kernel) (by decide +kernel)
theorem jw_lCod : Cond.methodLink RJ0 335 yJ0_coder_7d493 ∈ q_T := q_in 833 (by decide +kernel) (by decide +kernel)
theorem jw_mCod : Cond.instanceMethod yJ0_coder_7d493 ∈ q_T := q_in 834 (by decide +kernel) (by decide +kernel)
theorem jw_eCod : Cond.selects RJ0 yJ0_coder_7d493 yJ0_coder_7d493 ∈ q_T := q_in 835 (by decide +kernel) (by decide +kernel)
theorem jw_cCod : Cond.code yJ0_coder_7d493 cJ0_coder_7d493 1 (some .byte) ∈ q_T := q_in 836 (by decide +kernel) (by decide +kernel)
theorem jw_fCom : Cond.fieldLink RJ0 38 "java/lang/String" "COMPACT_STRINGS" "Z" ∈ q_T := q_in 837 (by decide +kernel) (by decide +kernel)
theorem jw_mCha : Cond.instanceMethod yJ0_charAt_5068e ∈ q_T := q_in 840 (by decide +kernel) (by decide +kernel)
theorem jw_eCha : Cond.selects RJ0 yJ0_charAt_5068e yJ0_charAt_5068e ∈ q_T := q_in 841 (by decide +kernel) (by decide +kernel)
theorem jw_cCha : Cond.code yJ0_charAt_5068e cJ0_charAt_5068e 2 (some .char) ∈ q_T := q_in 842 (by decide +kernel) (by decide +kernel)
theorem jw_lLat : Cond.methodLink RJ0 492 yJ0_isLatin1_aae02 ∈ q_T := q_in 843 (by decide +kernel) (by decide +kernel)
theorem jw_mLat : Cond.instanceMethod yJ0_isLatin1_aae02 ∈ q_T := q_in 844 (by decide +kernel) (by decide +kernel)
theorem jw_eLat : Cond.selects RJ0 yJ0_isLatin1_aae02 yJ0_isLatin1_aae02 ∈ q_T := q_in 845 (by decide +kernel) (by decide +kernel)
theorem jw_cLat : Cond.code yJ0_isLatin1_aae02 cJ0_isLatin1_aae02 1 (some .boolean) ∈ q_T := q_in 846 (by decide +kernel) (by decide +kernel)
theorem jw_lCh1 : Cond.methodLink RJ0 495 yJ1_charAt_3b067 ∈ q_T := q_in 847 (by decide +kernel) (by decide +kernel)
theorem jw_sCh1 : Cond.static yJ1_charAt_3b067 ∈ q_T := q_in 848 (by decide +kernel) (by decide +kernel)
theorem jw_cCh1 : Cond.code yJ1_charAt_3b067 cJ1_charAt_3b067 2 (some .char) ∈ q_T := q_in 849 (by decide +kernel) (by decide +kernel)
theorem jw_lChk : Cond.methodLink RJ1 9 yJ0_checkIndex_df160 ∈ q_T := q_in 850 (by decide +kernel) (by decide +kernel)
theorem jw_sChk : Cond.static yJ0_checkIndex_df160 ∈ q_T := q_in 851 (by decide +kernel) (by decide +kernel)
theorem jw_cChk : Cond.code yJ0_checkIndex_df160 cJ0_checkIndex_df160 2 none ∈ q_T := q_in 852 (by decide +kernel) (by decide +kernel)
theorem jw_fSio : Cond.fieldLink RJ0 1053 "jdk/internal/util/Preconditions" "SIOOBE_FORMATTER" "Ljava/util/function/BiFunction;" ∈ q_T := q_in 853 (by decide +kernel) (by decide +kernel)
theorem jw_lPre : Cond.methodLink RJ0 1059 yJ3_checkIndex_8e157 ∈ q_T := q_in 855 (by decide +kernel) (by decide +kernel)
theorem jw_sPre : Cond.static yJ3_checkIndex_8e157 ∈ q_T := q_in 856 (by decide +kernel) (by decide +kernel)
theorem jw_cPre : Cond.code yJ3_checkIndex_8e157 cJ3_checkIndex_8e157 3 (some .int) ∈ q_T := q_in 857 (by decide +kernel) (by decide +kernel)
theorem jw_sBit : Cond.static yJ13_bitCount_95d88 ∈ q_T := q_in 1034 (by decide +kernel) (by decide +kernel)
theorem jw_cBit : Cond.code yJ13_bitCount_95d88 cJ13_bitCount_95d88 2 (some .int) ∈ q_T := q_in 1035 (by decide +kernel) (by decide +kernel)
theorem jw_314 : Cond.constantLong RJ13 314 6148914691236517205 ∈ q_T := q_in 1036 (by decide +kernel) (by decide +kernel)
theorem jw_316 : Cond.constantLong RJ13 316 3689348814741910323 ∈ q_T := q_in 1037 (by decide +kernel) (by decide +kernel)
theorem jw_318 : Cond.constantLong RJ13 318 1085102592571150095 ∈ q_T := q_in 1038 (by decide +kernel) (by decide +kernel)
theorem jw_fVal : Cond.fieldLink RJ0 9 "java/lang/String" "value" "[B" ∈ q_T := q_in 2187 (by decide +kernel) (by decide +kernel)
theorem jw_fCod : Cond.fieldLink RJ0 15 "java/lang/String" "coder" "B" ∈ q_T := q_in 2188 (by decide +kernel) (by decide +kernel)
abbrev md_J7_fill : q_M := (yJ7_fill_53178, cJ7_fill_53178, 4, none)
abbrev md_J13_bitc : q_M := (yJ13_bitCount_95d88, cJ13_bitCount_95d88, 2, some .int)
abbrev md_J0_len : q_M := (yJ0_length_8abf5, cJ0_length_8abf5, 1, some .int)
abbrev md_J0_cod : q_M := (yJ0_coder_7d493, cJ0_coder_7d493, 1, some .byte)
abbrev md_J0_cha : q_M := (yJ0_charAt_5068e, cJ0_charAt_5068e, 2, some .char)
abbrev md_J0_lat : q_M := (yJ0_isLatin1_aae02, cJ0_isLatin1_aae02, 1, some .boolean)
abbrev md_J1_cha : q_M := (yJ1_charAt_3b067, cJ1_charAt_3b067, 2, some .char)
abbrev md_J0_chk : q_M := (yJ0_checkIndex_df160, cJ0_checkIndex_df160, 2, none)
abbrev md_J3_chk : q_M := (yJ3_checkIndex_8e157, cJ3_checkIndex_8e157, 3, some .int)
def q_lsub (x z : Int) : Int := (Int64.ofInt x - Int64.ofInt z).toInt
def q_ladd (x z : Int) : Int := (Int64.ofInt x + Int64.ofInt z).toInt
def q_l2i (x : Int) : Int := ((Int64.ofInt x).toInt32).toInt
def q_i2c (x : Int) : Int := (((Int32.ofInt x).toUInt32 % 65536).toInt32).toInt
section q_str
variable {M : q_M} {rm : Room} {mc ms : Nat} {y : Option q_V × q_G × q_Mem} {cu su : Nat} {g : q_G} {m : q_Mem} {pc : Nat} {ls st : List q_V}
theorem q_lsub_ {x z : Int} (hd : decode M.2.1 pc = .ok (.lsub, 1)) (k : q_R M rm mc ms y cu su g m (pc + 1) ls (q_L (q_lsub x z) :: st)) : q_R M rm mc ms y cu su g m pc ls (q_L z :: q_L x :: st) := by
  intro p l e s mi args below meth c H locs D cs b ad adV ar C hP hz hS hl
  have h := k p l e s mi args below meth c H locs D cs b ad adV ar C hP hz hS hl
  rw [List.map_cons, show q_cv b ad (q_L (q_lsub x z)) = .long (Int64.ofInt x - Int64.ofInt z) from congrArg Value.long (Int64.ofInt_toInt _)] at h
  exact lv_lsub C.1 C.2.1 hd h
theorem q_ladd_ {x z : Int} (hd : decode M.2.1 pc = .ok (.ladd, 1)) (k : q_R M rm mc ms y cu su g m (pc + 1) ls (q_L (q_ladd x z) :: st)) : q_R M rm mc ms y cu su g m pc ls (q_L z :: q_L x :: st) := by
  intro p l e s mi args below meth c H locs D cs b ad adV ar C hP hz hS hl
  have h := k p l e s mi args below meth c H locs D cs b ad adV ar C hP hz hS hl
  rw [List.map_cons, show q_cv b ad (q_L (q_ladd x z)) = .long (Int64.ofInt x + Int64.ofInt z) from congrArg Value.long (Int64.ofInt_toInt _)] at h
  exact lv_ladd C.1 C.2.1 hd h
theorem q_ldc2 {i : Nat} {v : Int64} {x : Int} (hd : decode M.2.1 pc = .ok (.ldc2_w i, 3)) (hw : Cond.constantLong M.1.cls i v ∈ q_T) (hx : v = Int64.ofInt x) (k : q_R M rm mc ms y cu su g m (pc + 3) ls (q_L x :: st)) : q_R M rm mc ms y cu su g m pc ls st := by
  intro p l e s mi args below meth c H locs D cs b ad adV ar C hP hz hS hl
  subst hx
  exact lv_ldc2 C.1 C.2.1 C.2.2.2.2.1 (C.2.2.2.2.2.1 _ hw) hd (k p l e s mi args below meth c H locs D cs b ad adV ar C hP hz hS hl)
theorem q_l2i_ {x : Int} (hd : decode M.2.1 pc = .ok (.l2i, 1)) (k : q_R M rm mc ms y cu su g m (pc + 1) ls (q_I (q_l2i x) :: st)) : q_R M rm mc ms y cu su g m pc ls (q_L x :: st) := by
  intro p l e s mi args below meth c H locs D cs b ad adV ar C hP hz hS hl
  exact lv_l2i (v := Int32.ofInt (q_l2i x)) C.1 C.2.1 hd (Int32.ofInt_toInt _).symm (k p l e s mi args below meth c H locs D cs b ad adV ar C hP hz hS hl)
theorem q_i2c_ {x : Int} (hd : decode M.2.1 pc = .ok (.i2c, 1)) (k : q_R M rm mc ms y cu su g m (pc + 1) ls (q_I (q_i2c x) :: st)) : q_R M rm mc ms y cu su g m pc ls (q_I x :: st) := by
  intro p l e s mi args below meth c H locs D cs b ad adV ar C hP hz hS hl
  exact lv_i2c (v := Int32.ofInt (q_i2c x)) C.1 C.2.1 hd (Int32.ofInt_toInt _).symm (k p l e s mi args below meth c H locs D cs b ad adV ar C hP hz hS hl)
/-- a long into the first two locals -/
theorem q_lst0 {x : Int} {v : q_V} (hd : decode M.2.1 pc = .ok (.lstore_n 0, 1)) (hn : 1 < M.2.2.1) (k : q_R M rm mc ms y cu su g m (pc + 1) [q_L x, q_N] st) : q_R M rm mc ms y cu su g m pc [v, q_N] (q_L x :: st) := by
  intro p l e s mi args below meth c H locs D cs b ad adV ar C hP hz hS hl
  obtain ⟨l0, h1, h2⟩ := hl
  refine lv_lstore_n C.1 C.2.1 hd rfl h1 hn rfl (fun ar h' => ?_)
  refine k p l e s mi args below meth c H locs D cs b ad adV ar C hP hz hS ⟨_, h', fun j w hj h9 => ?_⟩
  match j, hj with
  | 0, hj => cases hj; exact List.mem_cons_self
  | 1, hj => cases hj; exact absurd rfl h9
  | j + 2, hj => simp at hj
theorem q_alen {n : Nat} {r : Int} (hd : decode M.2.1 pc = .ok (.arraylength, 1)) (hr : q_ar g r 20 n) (kk : q_R M rm mc ms y cu su g m (pc + 1) ls (q_I n :: st)) : q_R M rm mc ms y cu su g m pc ls (q_A r :: st) := by
  intro p l e s mi args below meth c H locs D cs b ad adV ar C hP hz hS hl
  obtain ⟨r0, r1, r2⟩ := hr
  have e9 : q_cv b ad (q_A r) = .ref (b + r.toNat) := if_neg (Int.not_lt.mpr r0)
  have hat := q_ws_at (b := b) (ad := ad) (cs := cs) (m := m) r1
  rw [q_cell_i (k := 0) r2 (by decide)] at hat
  rw [List.map_cons, e9]
  exact va_alen C.1 C.2.1 C.2.2.2.2.2.2.2.2.1 hP r.toNat 0 hat rfl (v := Int32.ofInt n) Int32.ofInt_eq_ofNat.symm hd (kk p l e s mi args below meth c H locs D cs b ad adV ar C hP hz hS hl)
theorem q_sgetV {idx : Nat} {k : Int} (hw : Cond.fieldLink M.1.cls idx "java/lang/String" "value" "[B" ∈ q_T) (hd : decode M.2.1 pc = .ok (.getfield idx, 3)) (hk : 0 ≤ k ∧ k < 14) (kk : q_R M rm mc ms y cu su g m (pc + 3) ls (q_S (14 + k) :: st)) : q_R M rm mc ms y cu su g m pc ls (q_S k :: st) := by
  intro p l e s mi args below meth c H locs D cs b ad adV ar C hP hz hS hl
  have hE := C.2.2.2.2.2.2.2.2.2.2
  have hv := (hE.2.2.2.1 k.toNat (by omega)).2.2.1
  have ea : adV k.toNat = ad (14 + k).toNat := by
    rw [show (14 + k).toNat = 14 + k.toNat by omega]
    exact hE.2.2.2.2.2.2 k.toNat (by omega)
  rw [ea] at hv
  exact vk_getf C.1 C.2.1 hv hS C.2.2.2.2.1 (C.2.2.2.2.2.1 _ hw) (fun x hx => hx) hd (kk p l e s mi args below meth c H locs D cs b ad adV ar C hP hz hS hl)
theorem q_sgetC {idx : Nat} {k : Int} (hw : Cond.fieldLink M.1.cls idx "java/lang/String" "coder" "B" ∈ q_T) (hd : decode M.2.1 pc = .ok (.getfield idx, 3)) (hk : 0 ≤ k ∧ k < 14) (kk : q_R M rm mc ms y cu su g m (pc + 3) ls (q_I 0 :: st)) : q_R M rm mc ms y cu su g m pc ls (q_S k :: st) := by
  intro p l e s mi args below meth c H locs D cs b ad adV ar C hP hz hS hl
  have hE := C.2.2.2.2.2.2.2.2.2.2
  exact vk_getf C.1 C.2.1 (hE.2.2.2.1 k.toNat (by omega)).2.1 hS C.2.2.2.2.1 (C.2.2.2.2.2.1 _ hw) (fun x hx => hx) hd (kk p l e s mi args below meth c H locs D cs b ad adV ar C hP hz hS hl)
theorem q_gcs {idx : Nat} (hw : Cond.fieldLink M.1.cls idx "java/lang/String" "COMPACT_STRINGS" "Z" ∈ q_T) (hd : decode M.2.1 pc = .ok (.getstatic idx, 3)) (kk : q_R M rm mc ms y cu su g m (pc + 3) ls (q_I 1 :: st)) : q_R M rm mc ms y cu su g m pc ls st := by
  intro p l e s mi args below meth c H locs D cs b ad adV ar C hP hz hS hl
  exact va_gets C.1 C.2.1 C.2.2.2.2.2.2.2.2.2.2.2.2.2.2.1 hS C.2.2.2.2.1 (C.2.2.2.2.2.1 _ hw) (fun x hx => hx) hd (kk p l e s mi args below meth c H locs D cs b ad adV ar C hP hz hS hl)
theorem q_siob {idx : Nat} (hw : Cond.fieldLink M.1.cls idx "jdk/internal/util/Preconditions" "SIOOBE_FORMATTER" "Ljava/util/function/BiFunction;" ∈ q_T) (hd : decode M.2.1 pc = .ok (.getstatic idx, 3)) (k1 : q_R M rm mc ms y cu su g m (pc + 3) ls (q_A (-1) :: st)) (k2 : q_R M rm mc ms y cu su g m (pc + 3) ls (q_S 28 :: st)) : q_R M rm mc ms y cu su g m pc ls st := by
  intro p l e s mi args below meth c H locs D cs b ad adV ar C hP hz hS hl
  rcases C.2.2.2.2.2.2.2.2.2.2.2.2.2.2.2.1 with hZ | hZ
  · exact va_gets C.1 C.2.1 hZ hS C.2.2.2.2.1 (C.2.2.2.2.2.1 _ hw) (fun x hx => hx) hd (k1 p l e s mi args below meth c H locs D cs b ad adV ar C hP hz hS hl)
  · exact va_gets C.1 C.2.1 hZ hS C.2.2.2.2.1 (C.2.2.2.2.2.1 _ hw) (fun x hx => hx) hd (k2 p l e s mi args below meth c H locs D cs b ad adV ar C hP hz hS hl)
theorem q_strlen {k : Int} (hd : decode M.2.1 pc = .ok (.arraylength, 1)) (hk : 0 ≤ k ∧ k < 14) (kk : q_R M rm mc ms y cu su g m (pc + 1) ls (q_I (q_sln k) :: st)) : q_R M rm mc ms y cu su g m pc ls (q_S (14 + k) :: st) := by
  intro p l e s mi args below meth c H locs D cs b ad adV ar C hP hz hS hl
  have hE := C.2.2.2.2.2.2.2.2.2.2
  have hv := (hE.2.2.2.1 k.toNat (by omega)).2.2.2
  have ea : adV k.toNat = ad (14 + k).toNat := by
    rw [show (14 + k).toNat = 14 + k.toNat by omega]
    exact hE.2.2.2.2.2.2 k.toNat (by omega)
  rw [ea] at hv
  exact va_tlen C.1 C.2.1 hv hS (v := Int32.ofInt (q_sln k)) Int32.ofInt_eq_ofNat.symm hd (kk p l e s mi args below meth c H locs D cs b ad adV ar C hP hz hS hl)
theorem q_sbald {k j : Int} (hd : decode M.2.1 pc = .ok (.baload, 1)) (hk : 0 ≤ k ∧ k < 14) (h1 : 0 ≤ q_w j) (h2 : q_w j < q_sln k) (kk : q_R M rm mc ms y cu su g m (pc + 1) ls (q_I (q_sch k (q_w j)) :: st)) : q_R M rm mc ms y cu su g m pc ls (q_I j :: q_S (14 + k) :: st) := by
  intro p l e s mi args below meth c H locs D cs b ad adV ar C hP hz hS hl
  have hE := C.2.2.2.2.2.2.2.2.2.2
  have hv := (hE.2.2.2.1 k.toNat (by omega)).2.2.2
  have ea : adV k.toNat = ad (14 + k).toNat := by
    rw [show (14 + k).toNat = 14 + k.toNat by omega]
    exact hE.2.2.2.2.2.2 k.toNat (by omega)
  rw [ea] at hv
  have h := kk p l e s mi args below meth c H locs D cs b ad adV ar C hP hz hS hl
  rw [List.map_cons, show q_cv b ad (q_I (q_sch k (q_w j))) = .int ((q_sby.getD k.toNat []).getD (q_w j).toNat 0) from congrArg Value.int (Int32.ofInt_toInt _)] at h
  exact va_tb C.1 C.2.1 hv hS (q_inw h1 h2) rfl hd h
theorem q_cret {x : Int} {ty : FieldType} (hr : M.2.2.2 = some ty) (hd : decode M.2.1 pc = .ok (.ireturn, 1)) (hn : narrow ty (.int (Int32.ofInt x)) = .int (Int32.ofInt x)) (hy : y = (some (q_I x), g, m)) (h1 : cu ≤ mc) (h2 : su ≤ ms) : q_R M rm mc ms y cu su g m pc ls [q_I x] := by
  intro p l e s mi args below meth c H locs D cs b ad adV ar C hP hz hS hl
  subst hy
  have hlocks := C.2.2.2.2.2.2.1
  refine W.widen h1 h2 ?_
  exact W.zret C.1 C.2.1 (C.2.2.1.trans hr) hn (fun t ht hW => ⟨⟨rfl, by rw [ht]; exact hP, by rw [ht]; exact hz⟩, hS.F ht⟩) hS.2.2 hd
/-- a method of a text constant -/
theorem q_callVS {M' : q_M} {rm' : Room} {idx n : Nat} {av : List q_V} {k : Int} {v : Option q_V} {g' : q_G} {m' : q_Mem} (hcls : M'.1.cls = "java/lang/String") (hw : q_cl M.1.cls idx M' n) (hin : Cond.instanceMethod M'.1 ∈ q_T) (hse : Cond.selects M'.1.cls M'.1 M'.1 ∈ q_T) (hd : decode M.2.1 pc = .ok (.invokevirtual idx, 3))
    (hC : q_C M' rm' 0 0 (q_S k :: av) g m (v, g', m')) (hn : av.length = n) (hk : 0 ≤ k ∧ k < 14) (hst : q_words st ≤ 8)
    (hrm : rm'.cells = 0 ∧ rm'.slots = 0 ∧ rm'.frames + 1 ≤ rm.frames ∧ 8 + (M'.2.2.1 + 11) + rm'.locals ≤ rm.locals ∧ cu + 0 ≤ rm.cells ∧ su + 0 ≤ rm.slots)
    (kk : q_R M rm mc ms y (cu + 0) (su + 0) g' m' (pc + 3) ls (v.toList ++ st)) : q_R M rm mc ms y cu su g m pc ls (av.reverse ++ q_S k :: st) := by
  intro p l e s mi args below meth c H locs D cs b ad adV ar C hP hz hS hl
  obtain ⟨w1, w2, w3, w4, w5, w6⟩ := hw
  obtain ⟨rc, rs, rf, rl, f1, f2⟩ := hrm
  have hts := C.2.2.2.2.2.1
  have hE := C.2.2.2.2.2.2.2.2.2.2
  obtain ⟨cell, z1, z2, z3, -⟩ := (hE.2.2.2.1 k.toNat (by omega)).1.kept hS.2.1
  rw [← hcls] at z3
  have hG : GoodIn q_T (wsV M.1.cls idx M'.1.cls M'.1 (Cond.code M'.1 M'.2.1 M'.2.2.1 M'.2.2.2 :: q_T)) := q_goodC w3 (fun w h => by
    simp only [List.mem_cons, List.not_mem_nil, or_false] at h
    rcases h with rfl | rfl | rfl | rfl
    · exact w1
    · exact hin
    · exact hse
    · exact w2)
  refine q_back C hS hl rfl (va_runV (b := ad k.toNat) (As := av.map (q_cv b ad)) (rest := st.map (q_cv b ad)) ⟨C.1, C.2.1, C.2.2.2.1, C.2.2.2.2.1, hts⟩ (hC l D cs b ad adV) (cwV n hts hG rfl rc rs ⟨rfl, w4, w5, w6⟩ ⟨rf, rl⟩)
    ⟨q_blind, ⟨cell, z1, z2, z3⟩, q_pre C hP hz hS rfl⟩ rfl (by rw [List.length_map]; exact hn) hl.size (by rw [List.map_append, List.map_cons, List.map_reverse]; rfl) (lv_room (by rw [q_words_eq]; exact hst)) hd ⟨f1, f2⟩) kk
end q_str
/-! the JDK's methods -/
section q_jm
variable {g : q_G} {m : q_Mem}
theorem q_w_nat {n : Nat} (h : n < 2147483648) : q_w n = n := q_w_id (by omega) (by omega)
theorem jc_fill {c v : Int} {n : Nat} (hr : q_ar g c 20 n) (hn : n < 2147483647) : q_C md_J7_fill (q_room 1) 0 0 [q_A c, q_I v] g m (none, g, q_fill m c n v) := by
  refine q_ofR (by decide) 2 (ls := [q_A c, q_I v, q_N, q_N]) rfl (Nat.le_of_ble_eq_true rfl) ?_
  have nn := hr.1
  refine q_iconst dJ7_fill_53178_0 ?_
  refine q_istore_n (n := 2) dJ7_fill_53178_1 (by decide) (q_pl rfl) ?_
  refine q_aload_n (n := 0) (x := c) dJ7_fill_53178_2 rfl nn ?_
  refine q_alen dJ7_fill_53178_3 hr ?_
  refine q_istore_n (n := 3) dJ7_fill_53178_4 (by decide) (q_pl rfl) ?_
  have loop : ∀ (d : Nat) (i : Int) (m' : q_Mem), i + d = n → 0 ≤ i → (∀ c' i', q_fill m c n v c' i' = if c' = c ∧ i ≤ i' ∧ i' < n then v else m' c' i') → q_R md_J7_fill (q_room 1) 0 0 (none, g, q_fill m c n v) 0 0 g m' 5 [q_A c, q_I v, q_I i, q_I n] [] := by
    intro d
    induction d with
    | zero =>
      intro i m' hi h0 hm
      refine q_iload_n (n := 2) (x := i) dJ7_fill_53178_5 rfl ?_
      refine q_iload_n (n := 3) (x := n) dJ7_fill_53178_6 rfl ?_
      refine q_icmp_ge (tgt := 20) dJ7_fill_53178_7 (by decide) (fun _ => ?_) (fun h => ?_)
      · refine q_vret rfl dJ7_fill_53178_20 ?_ (Nat.le_refl _) (Nat.le_refl _)
        have : q_fill m c n v = m' := by
          funext c' i'
          rw [hm, if_neg (by omega)]
        rw [this]
      · exact absurd (show q_w n ≤ q_w i by rw [show i = (n : Int) by omega]; exact Int.le_refl _) h
    | succ d ih =>
      intro i m' hi h0 hm
      refine q_iload_n (n := 2) (x := i) dJ7_fill_53178_5 rfl ?_
      refine q_iload_n (n := 3) (x := n) dJ7_fill_53178_6 rfl ?_
      refine q_icmp_ge (tgt := 20) dJ7_fill_53178_7 (by decide) (fun h => ?_) (fun _ => ?_)
      · rw [q_w_nat (by omega), q_w_id (x := i) (by omega) (by omega)] at h
        omega
      · have ei : q_w i = i := q_w_id (by omega) (by omega)
        refine q_aload_n (n := 0) (x := c) dJ7_fill_53178_10 rfl nn ?_
        refine q_iload_n (n := 2) (x := i) dJ7_fill_53178_11 rfl ?_
        refine q_iload_n (n := 1) (x := v) dJ7_fill_53178_12 rfl ?_
        refine q_iast dJ7_fill_53178_13 hr (by omega) (by omega) ?_
        refine q_iinc (i := 2) (x := i) dJ7_fill_53178_14 rfl (by decide) (q_pl rfl) ?_
        refine q_goto (tgt := 5) dJ7_fill_53178_17 (by decide) ?_
        refine ih (i + 1) _ (by omega) (by omega) fun c' i' => ?_
        rw [hm, ei]
        unfold q_up
        by_cases cc : c' = c
        · by_cases ii : i' = i
          · rw [if_pos (by omega), if_neg (by omega), if_pos cc, if_pos ii]
          · by_cases jj : i ≤ i' ∧ i' < n
            · rw [if_pos ⟨cc, jj⟩, if_pos (by omega)]
            · rw [if_neg (by omega), if_neg (by omega), if_pos cc, if_neg ii]
        · rw [if_neg (by omega), if_neg (by omega), if_neg cc]
  exact loop n 0 m (by omega) (Int.le_refl _) fun c' i' => rfl
theorem jc_bitc {x : Int} : q_C md_J13_bitc (q_room 1) 0 0 [q_L x] g m (some (q_I (q_bc x)), g, m) := by
  refine q_ofR (by decide) 0 (ls := [q_L x, q_N]) rfl (Nat.le_of_ble_eq_true rfl) ?_
  refine q_lload_n (n := 0) (x := x) dJ13_bitCount_95d88_0 rfl ?_
  refine q_lload_n (n := 0) (x := x) dJ13_bitCount_95d88_1 rfl ?_
  refine q_iconst dJ13_bitCount_95d88_2 ?_
  refine q_lushr_ dJ13_bitCount_95d88_3 ?_
  refine q_ldc2 (x := 6148914691236517205) dJ13_bitCount_95d88_4 jw_314 rfl ?_
  refine q_land_ dJ13_bitCount_95d88_7 ?_
  refine q_lsub_ dJ13_bitCount_95d88_8 ?_
  refine q_lst0 dJ13_bitCount_95d88_9 (by decide) ?_
  refine q_lload_n (n := 0) dJ13_bitCount_95d88_10 rfl ?_
  refine q_ldc2 (x := 3689348814741910323) dJ13_bitCount_95d88_11 jw_316 rfl ?_
  refine q_land_ dJ13_bitCount_95d88_14 ?_
  refine q_lload_n (n := 0) dJ13_bitCount_95d88_15 rfl ?_
  refine q_iconst dJ13_bitCount_95d88_16 ?_
  refine q_lushr_ dJ13_bitCount_95d88_17 ?_
  refine q_ldc2 (x := 3689348814741910323) dJ13_bitCount_95d88_18 jw_316 rfl ?_
  refine q_land_ dJ13_bitCount_95d88_21 ?_
  refine q_ladd_ dJ13_bitCount_95d88_22 ?_
  refine q_lst0 dJ13_bitCount_95d88_23 (by decide) ?_
  refine q_lload_n (n := 0) dJ13_bitCount_95d88_24 rfl ?_
  refine q_lload_n (n := 0) dJ13_bitCount_95d88_25 rfl ?_
  refine q_iconst dJ13_bitCount_95d88_26 ?_
  refine q_lushr_ dJ13_bitCount_95d88_27 ?_
  refine q_ladd_ dJ13_bitCount_95d88_28 ?_
  refine q_ldc2 (x := 1085102592571150095) dJ13_bitCount_95d88_29 jw_318 rfl ?_
  refine q_land_ dJ13_bitCount_95d88_32 ?_
  refine q_lst0 dJ13_bitCount_95d88_33 (by decide) ?_
  refine q_lload_n (n := 0) dJ13_bitCount_95d88_34 rfl ?_
  refine q_lload_n (n := 0) dJ13_bitCount_95d88_35 rfl ?_
  refine q_bipush (x := 8) dJ13_bitCount_95d88_36 (by decide) ?_
  refine q_lushr_ dJ13_bitCount_95d88_38 ?_
  refine q_ladd_ dJ13_bitCount_95d88_39 ?_
  refine q_lst0 dJ13_bitCount_95d88_40 (by decide) ?_
  refine q_lload_n (n := 0) dJ13_bitCount_95d88_41 rfl ?_
  refine q_lload_n (n := 0) dJ13_bitCount_95d88_42 rfl ?_
  refine q_bipush (x := 16) dJ13_bitCount_95d88_43 (by decide) ?_
  refine q_lushr_ dJ13_bitCount_95d88_45 ?_
  refine q_ladd_ dJ13_bitCount_95d88_46 ?_
  refine q_lst0 dJ13_bitCount_95d88_47 (by decide) ?_
  refine q_lload_n (n := 0) dJ13_bitCount_95d88_48 rfl ?_
  refine q_lload_n (n := 0) dJ13_bitCount_95d88_49 rfl ?_
  refine q_bipush (x := 32) dJ13_bitCount_95d88_50 (by decide) ?_
  refine q_lushr_ dJ13_bitCount_95d88_52 ?_
  refine q_ladd_ dJ13_bitCount_95d88_53 ?_
  refine q_lst0 dJ13_bitCount_95d88_54 (by decide) ?_
  refine q_lload_n (n := 0) dJ13_bitCount_95d88_55 rfl ?_
  refine q_l2i_ dJ13_bitCount_95d88_56 ?_
  refine q_bipush (x := 127) dJ13_bitCount_95d88_57 (by decide) ?_
  refine q_iand dJ13_bitCount_95d88_59 ?_
  refine q_iret rfl dJ13_bitCount_95d88_60 ?_ (Nat.le_refl _) (Nat.le_refl _)
  unfold q_bc q_bc64 q_and q_l2i q_ladd q_lsub q_land q_lushr
  simp only [Int64.ofInt_toInt, Int32.ofInt_toInt]
  rfl
theorem jc_chk3 {i n : Int} {v : q_V} (hv : v.1 ≠ 1) (h0 : 0 ≤ q_w i) (h1 : q_w i < q_w n) : q_C md_J3_chk (q_room 1) 0 0 [q_I i, q_I n, v] g m (some (q_I i), g, m) := by
  refine q_ofR (by decide) 0 (ls := [q_I i, q_I n, v]) ?_ ?_ ?_
  · unfold q_en
    simp [hv]
  · unfold q_en
    simp [hv]
  refine q_iload_n (n := 0) (x := i) dJ3_checkIndex_8e157_0 rfl ?_
  refine q_if_lt (tgt := 9) dJ3_checkIndex_8e157_1 (by decide) (fun h => absurd h (by omega)) (fun _ => ?_)
  refine q_iload_n (n := 0) (x := i) dJ3_checkIndex_8e157_4 rfl ?_
  refine q_iload_n (n := 1) (x := n) dJ3_checkIndex_8e157_5 rfl ?_
  refine q_icmp_lt (tgt := 16) dJ3_checkIndex_8e157_6 (by decide) (fun _ => ?_) (fun h => absurd h1 h)
  refine q_iload_n (n := 0) (x := i) dJ3_checkIndex_8e157_16 rfl ?_
  exact q_iret rfl dJ3_checkIndex_8e157_17 rfl (Nat.le_refl _) (Nat.le_refl _)
theorem jc_chk {i n : Int} (h0 : 0 ≤ q_w i) (h1 : q_w i < q_w n) : q_C md_J0_chk (q_room 2) 0 0 [q_I i, q_I n] g m (none, g, m) := by
  refine q_ofR (by decide) 0 (ls := [q_I i, q_I n]) rfl (Nat.le_of_ble_eq_true rfl) ?_
  refine q_iload_n (n := 0) (x := i) dJ0_checkIndex_df160_0 rfl ?_
  refine q_iload_n (n := 1) (x := n) dJ0_checkIndex_df160_1 rfl ?_
  have go : ∀ v : q_V, v.1 ≠ 1 → q_R md_J0_chk (q_room 2) 0 0 (none, g, m) 0 0 g m 5 [q_I i, q_I n] (v :: q_I n :: q_I i :: []) := by
    intro v hv
    refine q_callS (M' := md_J3_chk) (rm' := q_room 1) (n := 3) (av := [q_I i, q_I n, v]) (st := []) ⟨jw_lPre, jw_iPre, jw_cPre, by decide +kernel, by decide +kernel, by decide +kernel⟩ jw_sPre dJ0_checkIndex_df160_5 (jc_chk3 hv h0 h1) rfl (Nat.le_of_ble_eq_true rfl) ⟨rfl, rfl, by decide, by decide, by decide, by decide⟩ ?_
    refine q_pop (v := q_I i) dJ0_checkIndex_df160_8 (show (0 : Nat) ≠ 1 by decide) ?_
    exact q_vret rfl dJ0_checkIndex_df160_9 rfl (Nat.le_refl _) (Nat.le_refl _)
  exact q_siob jw_fSio dJ0_checkIndex_df160_2 (go _ (by decide)) (go _ (by decide))
theorem jc_cod {k : Int} (hk : 0 ≤ k ∧ k < 14) : q_C md_J0_cod (q_room 1) 0 0 [q_S k] g m (some (q_I 0), g, m) := by
  refine q_ofR (by decide) 0 (ls := [q_S k]) rfl (Nat.le_of_ble_eq_true rfl) ?_
  refine q_gcs jw_fCom dJ0_coder_7d493_0 ?_
  refine q_if_eq (tgt := 13) dJ0_coder_7d493_3 (by decide) (fun h => absurd h (by decide)) (fun _ => ?_)
  refine q_aload_nS (n := 0) (x := k) dJ0_coder_7d493_6 rfl ?_
  refine q_sgetC jw_fCod dJ0_coder_7d493_7 hk ?_
  refine q_goto (tgt := 14) dJ0_coder_7d493_10 (by decide) ?_
  exact q_cret (ty := .byte) rfl dJ0_coder_7d493_14 rfl rfl (Nat.le_refl _) (Nat.le_refl _)
theorem jc_lat {k : Int} (hk : 0 ≤ k ∧ k < 14) : q_C md_J0_lat (q_room 1) 0 0 [q_S k] g m (some (q_I 1), g, m) := by
  refine q_ofR (by decide) 0 (ls := [q_S k]) rfl (Nat.le_of_ble_eq_true rfl) ?_
  refine q_gcs jw_fCom dJ0_isLatin1_aae02_0 ?_
  refine q_if_eq (tgt := 17) dJ0_isLatin1_aae02_3 (by decide) (fun h => absurd h (by decide)) (fun _ => ?_)
  refine q_aload_nS (n := 0) (x := k) dJ0_isLatin1_aae02_6 rfl ?_
  refine q_sgetC jw_fCod dJ0_isLatin1_aae02_7 hk ?_
  refine q_if_ne (tgt := 17) dJ0_isLatin1_aae02_10 (by decide) (fun h => absurd rfl h) (fun _ => ?_)
  refine q_iconst dJ0_isLatin1_aae02_13 ?_
  refine q_goto (tgt := 18) dJ0_isLatin1_aae02_14 (by decide) ?_
  exact q_zret rfl dJ0_isLatin1_aae02_18 (Or.inr rfl) rfl (Nat.le_refl _) (Nat.le_refl _)
theorem jc_len {k : Int} (hk : 0 ≤ k ∧ k < 14) : q_C md_J0_len (q_room 2) 0 0 [q_S k] g m (some (q_I (q_sln k)), g, m) := by
  refine q_ofR (by decide) 0 (ls := [q_S k]) rfl (Nat.le_of_ble_eq_true rfl) ?_
  refine q_aload_nS (n := 0) (x := k) dJ0_length_8abf5_0 rfl ?_
  refine q_sgetV jw_fVal dJ0_length_8abf5_1 hk ?_
  refine q_strlen dJ0_length_8abf5_4 hk ?_
  refine q_aload_nS (n := 0) (x := k) dJ0_length_8abf5_5 rfl ?_
  refine q_callVS (M' := md_J0_cod) (rm' := q_room 1) (n := 0) (av := []) rfl ⟨jw_lCod, jw_iStr, jw_cCod, by decide +kernel, by decide +kernel, by decide +kernel⟩ jw_mCod jw_eCod dJ0_length_8abf5_6 (jc_cod hk) rfl hk (Nat.le_of_ble_eq_true rfl) ⟨rfl, rfl, by decide, by decide, by decide, by decide⟩ ?_
  refine q_ishr dJ0_length_8abf5_9 ?_
  refine q_iret rfl dJ0_length_8abf5_10 ?_ (Nat.le_refl _) (Nat.le_refl _)
  have h14 : ∀ j : Nat, j < 14 → ((q_sby.getD j []).length : Int) = q_shr ((q_sby.getD j []).length : Int) 0 := by decide +kernel
  have := h14 k.toNat (by omega)
  show (some (q_I (q_sln k)), g, m) = (some (q_I (q_shr (q_sln k) 0)), g, m)
  unfold q_sln
  rw [← this]
theorem q_sch_ok : ∀ k : Nat, k < 14 → ∀ j : Nat, j < (q_sby.getD k []).length → q_i2c (q_and (((q_sby.getD k []).getD j 0).toInt) 255) = ((q_sby.getD k []).getD j 0).toInt ∧ ((q_sby.getD k []).getD j 0).toUInt32.toUInt16.toUInt32.toInt32 = (q_sby.getD k []).getD j 0 := by decide +kernel
theorem jc_ch1 {k j : Int} (hk : 0 ≤ k ∧ k < 14) (h0 : 0 ≤ q_w j) (h1 : q_w j < q_sln k) : q_C md_J1_cha (q_room 3) 0 0 [q_S (14 + k), q_I j] g m (some (q_I (q_sch k (q_w j))), g, m) := by
  have hl : ∀ k : Nat, k < 14 → (q_sby.getD k []).length < 100 := by decide +kernel
  have hl9 : q_sln k < 100 := hl k.toNat (by omega)
  refine q_ofR (by decide) 0 (ls := [q_S (14 + k), q_I j]) rfl (Nat.le_of_ble_eq_true rfl) ?_
  refine q_iload_n (n := 1) (x := j) dJ1_charAt_3b067_0 rfl ?_
  refine q_aload_nS (n := 0) (x := 14 + k) dJ1_charAt_3b067_1 rfl ?_
  refine q_strlen dJ1_charAt_3b067_2 hk ?_
  refine q_callS (M' := md_J0_chk) (rm' := q_room 2) (n := 2) (av := [q_I j, q_I (q_sln k)]) (st := []) ⟨jw_lChk, jw_iStr, jw_cChk, by decide +kernel, by decide +kernel, by decide +kernel⟩ jw_sChk dJ1_charAt_3b067_3 (jc_chk h0 (by rw [q_w_nat (by omega)]; exact h1)) rfl (Nat.le_of_ble_eq_true rfl) ⟨rfl, rfl, by decide, by decide, by decide, by decide⟩ ?_
  refine q_aload_nS (n := 0) (x := 14 + k) dJ1_charAt_3b067_6 rfl ?_
  refine q_iload_n (n := 1) (x := j) dJ1_charAt_3b067_7 rfl ?_
  refine q_sbald dJ1_charAt_3b067_8 hk h0 h1 ?_
  refine q_sipush (x := 255) dJ1_charAt_3b067_9 (by decide) ?_
  refine q_iand dJ1_charAt_3b067_12 ?_
  refine q_i2c_ dJ1_charAt_3b067_13 ?_
  obtain ⟨e1, e2⟩ := q_sch_ok k.toNat (by omega) (q_w j).toNat (by have : ((q_sby.getD k.toNat []).length : Int) = q_sln k := rfl; omega)
  have e3 : q_i2c (q_and (q_sch k (q_w j)) 255) = q_sch k (q_w j) := e1
  rw [e3]
  refine q_cret (ty := .char) rfl dJ1_charAt_3b067_14 ?_ rfl (Nat.le_refl _) (Nat.le_refl _)
  unfold q_sch
  rw [Int32.ofInt_toInt]
  exact congrArg Value.int e2
theorem jc_cha {k j : Int} (hk : 0 ≤ k ∧ k < 14) (h0 : 0 ≤ q_w j) (h1 : q_w j < q_sln k) : q_C md_J0_cha (q_room 4) 0 0 [q_S k, q_I j] g m (some (q_I (q_sch k (q_w j))), g, m) := by
  refine q_ofR (by decide) 0 (ls := [q_S k, q_I j]) rfl (Nat.le_of_ble_eq_true rfl) ?_
  refine q_aload_nS (n := 0) (x := k) dJ0_charAt_5068e_0 rfl ?_
  refine q_callVS (M' := md_J0_lat) (rm' := q_room 1) (n := 0) (av := []) (st := []) rfl ⟨jw_lLat, jw_iStr, jw_cLat, by decide +kernel, by decide +kernel, by decide +kernel⟩ jw_mLat jw_eLat dJ0_charAt_5068e_1 (jc_lat hk) rfl hk (Nat.le_of_ble_eq_true rfl) ⟨rfl, rfl, by decide, by decide, by decide, by decide⟩ ?_
  refine q_if_eq (tgt := 16) dJ0_charAt_5068e_4 (by decide) (fun h => absurd h (by decide)) (fun _ => ?_)
  refine q_aload_nS (n := 0) (x := k) dJ0_charAt_5068e_7 rfl ?_
  refine q_sgetV jw_fVal dJ0_charAt_5068e_8 hk ?_
  refine q_iload_n (n := 1) (x := j) dJ0_charAt_5068e_11 rfl ?_
  refine q_callS (M' := md_J1_cha) (rm' := q_room 3) (n := 2) (av := [q_S (14 + k), q_I j]) (st := []) ⟨jw_lCh1, jw_iLat, jw_cCh1, by decide +kernel, by decide +kernel, by decide +kernel⟩ jw_sCh1 dJ0_charAt_5068e_12 (jc_ch1 hk h0 h1) rfl (Nat.le_of_ble_eq_true rfl) ⟨rfl, rfl, by decide, by decide, by decide, by decide⟩ ?_
  refine q_cret (ty := .char) rfl dJ0_charAt_5068e_15 ?_ rfl (Nat.le_refl _) (Nat.le_refl _)
  obtain ⟨e1, e2⟩ := q_sch_ok k.toNat (by omega) (q_w j).toNat (by have : ((q_sby.getD k.toNat []).length : Int) = q_sln k := rfl; omega)
  unfold q_sch
  rw [Int32.ofInt_toInt]
  exact congrArg Value.int e2
end q_jm
section q_jdk
variable {M : q_M} {d N : Nat} {t : Option Nat} {r : Int × q_Mem} {m : q_Mem} {pc : Nat} {ls st : List q_V}
theorem e_fill {idx n : Nat} {c v : Int} {K : q_Mem → q_Res} (h : q_fi m c n v K = some r) (hw : Cond.methodLink M.1.cls idx yJ7_fill_53178 ∈ q_T) (hd : decode M.2.1 pc = .ok (.invokestatic idx, 3)) (hr : q_ar (q_g N) c 20 n) (hdd : 2 ≤ d) (hst : q_words st ≤ 8) (kk : ∀ m', K m' = some r → q_E M d N t r m' (pc + 3) ls st) : q_E M d N t r m pc ls (q_I v :: q_A c :: st) := by
  have hl : ∀ j : Nat, j < 200 → (q_lay j).2 < 20000 := by decide +kernel
  have hn : n < 2147483647 := by
    have e : q_lay c.toNat = (20, n) := hr.2.2
    by_cases hc : c.toNat < 200
    · have := hl c.toNat hc
      rw [e] at this
      exact Nat.lt_trans this (by decide)
    · have e2 : q_lay c.toNat = (99, 0) := by
        unfold q_lay
        have hlen : q_layL.length ≤ 200 := by decide +kernel
        rw [List.getD_eq_getElem?_getD, List.getElem?_eq_none (by omega)]
        rfl
      rw [e2] at e
      cases e
  refine q_callS (M' := md_J7_fill) (rm' := q_room 1) (n := 2) (av := [q_A c, q_I v]) ⟨hw, jw_iArr, jw_cFill, by decide +kernel, by decide +kernel, by decide +kernel⟩ jw_sFill hd (jc_fill hr hn) rfl hst ⟨rfl, rfl, hdd, ?_, Nat.le_refl _, Nat.le_refl _⟩ (kk _ h)
  show 8 + (4 + 11) + 64 * 1 ≤ 64 * d
  omega
theorem e_bitc {idx : Nat} {x : Int} (hw : Cond.methodLink M.1.cls idx yJ13_bitCount_95d88 ∈ q_T) (hd : decode M.2.1 pc = .ok (.invokestatic idx, 3)) (hdd : 2 ≤ d) (hst : q_words st ≤ 8) (kk : q_E M d N t r m (pc + 3) ls (q_I (q_bc x) :: st)) : q_E M d N t r m pc ls (q_L x :: st) := by
  refine q_callS (M' := md_J13_bitc) (rm' := q_room 1) (n := 1) (av := [q_L x]) ⟨hw, jw_iLon, jw_cBit, by decide +kernel, by decide +kernel, by decide +kernel⟩ jw_sBit hd jc_bitc rfl hst ⟨rfl, rfl, hdd, ?_, Nat.le_refl _, Nat.le_refl _⟩ kk
  show 8 + (2 + 11) + 64 * 1 ≤ 64 * d
  omega
theorem e_slen {idx : Nat} {k : Int} (hw : Cond.methodLink M.1.cls idx yJ0_length_8abf5 ∈ q_T) (hd : decode M.2.1 pc = .ok (.invokevirtual idx, 3)) (hk : 0 ≤ k ∧ k < 14) (hdd : 6 ≤ d) (hst : q_words st ≤ 8) (kk : q_E M d N t r m (pc + 3) ls (q_I (q_sln k) :: st)) : q_E M d N t r m pc ls (q_S k :: st) := by
  refine q_callVS (M' := md_J0_len) (rm' := q_room 2) (n := 0) (av := []) rfl ⟨hw, jw_iStr, jw_cLen, by decide +kernel, by decide +kernel, by decide +kernel⟩ jw_mLen jw_eLen hd (jc_len hk) rfl hk hst ⟨rfl, rfl, ?_, ?_, Nat.le_refl _, Nat.le_refl _⟩ kk
  · show 2 + 1 ≤ d
    omega
  · show 8 + (1 + 11) + 64 * 2 ≤ 64 * d
    omega
theorem e_char {idx : Nat} {k j : Int} {K : Int → q_Res} (h : q_ch k j K = some r) (hw : Cond.methodLink M.1.cls idx yJ0_charAt_5068e ∈ q_T) (hd : decode M.2.1 pc = .ok (.invokevirtual idx, 3)) (hk : 0 ≤ k ∧ k < 14) (hdd : 6 ≤ d) (hst : q_words st ≤ 8) (kk : ∀ v, K v = some r → q_E M d N t r m (pc + 3) ls (q_I v :: st)) : q_E M d N t r m pc ls (q_I j :: q_S k :: st) := by
  unfold q_ch at h
  by_cases hc : 0 ≤ q_w j ∧ q_w j < q_sln k
  · rw [if_pos hc] at h
    refine q_callVS (M' := md_J0_cha) (rm' := q_room 4) (n := 1) (av := [q_I j]) rfl ⟨hw, jw_iStr, jw_cCha, by decide +kernel, by decide +kernel, by decide +kernel⟩ jw_mCha jw_eCha hd (jc_cha hk hc.1 hc.2) rfl hk hst ⟨rfl, rfl, ?_, ?_, Nat.le_refl _, Nat.le_refl _⟩ (kk _ h)
    · show 4 + 1 ≤ d
      omega
    · show 8 + (2 + 11) + 64 * 4 ≤ 64 * d
      omega
  · rw [if_neg hc] at h
    exact q_no h
theorem e_ldcS {idx i : Nat} {tx : String} (hd : decode M.2.1 pc = .ok (.ldc idx, 2)) (hw : (M.1.cls, idx, tx, i) ∈ q_strs) (kk : q_E M d N t r m (pc + 2) ls (q_S i :: st)) : q_E M d N t r m pc ls st := by
  intro p l e s mi args below meth c H locs D cs b ad adV ar C hP hz hS hl
  exact va_ldcS C.1 C.2.1 C.2.2.2.2.1 (C.2.2.2.2.2.2.2.2.2.2.2.2.1 _ hw) hd (kk p l e s mi args below meth c H locs D cs b ad adV ar C hP hz hS hl)
theorem q_ldc_w {i : Nat} {v : Int32} {x : Int} (hd : decode M.2.1 pc = .ok (.ldc_w i, 3)) (hw : Cond.constant M.1.cls i v ∈ q_T) (hx : v = Int32.ofInt x) (k : q_E M d N t r m (pc + 3) ls (q_I x :: st)) : q_E M d N t r m pc ls st := by
  intro p l e s mi args below meth c H locs D cs b ad adV ar C hP hz hS hl
  subst hx
  intro T hT X
  obtain ⟨t9, a1, b1⟩ := k p l e s mi args below meth c H locs D cs b ad adV ar C hP hz hS hl T hT X
  exact ⟨t9, va_ldcwI X C.1 C.2.2.2.2.1 (C.2.2.2.2.2.1 _ hw) (g := F0 mi pc ar (st.map (q_cv b ad))) rfl (by rw [C.2.1]; exact hd) t9 a1, b1⟩
theorem e_ist_n {n : Fin 4} {x : Int} {ls' : List q_V} (hd : decode M.2.1 pc = .ok (.istore_n n, 1)) (hn : (n : Nat) < M.2.2.1) (hp : ∀ w, ls[(n : Nat) - 1]? = some w → w.1 ≠ 1) (hs : ls.set (n : Nat) (q_I x) = ls') (k : q_E M d N t r m (pc + 1) ls' st) : q_E M d N t r m pc ls (q_I x :: st) := by
  subst hs
  exact q_istore_n hd hn hp k
theorem e_ist {i : Nat} {x : Int} {ls' : List q_V} (hd : decode M.2.1 pc = .ok (.istore i, 2)) (hn : i < M.2.2.1) (hp : ∀ w, ls[i - 1]? = some w → w.1 ≠ 1) (hs : ls.set i (q_I x) = ls') (k : q_E M d N t r m (pc + 2) ls' st) : q_E M d N t r m pc ls (q_I x :: st) := by
  subst hs
  exact q_istore hd hn hp k
theorem e_ast_n {n : Fin 4} {x : Int} {ls' : List q_V} (hd : decode M.2.1 pc = .ok (.astore_n n, 1)) (hx : 0 ≤ x) (hn : (n : Nat) < M.2.2.1) (hp : ∀ w, ls[(n : Nat) - 1]? = some w → w.1 ≠ 1) (hs : ls.set (n : Nat) (q_A x) = ls') (k : q_E M d N t r m (pc + 1) ls' st) : q_E M d N t r m pc ls (q_A x :: st) := by
  subst hs
  exact q_astore_n hd hx hn hp k
theorem e_ast {i : Nat} {x : Int} {ls' : List q_V} (hd : decode M.2.1 pc = .ok (.astore i, 2)) (hx : 0 ≤ x) (hn : i < M.2.2.1) (hp : ∀ w, ls[i - 1]? = some w → w.1 ≠ 1) (hs : ls.set i (q_A x) = ls') (k : q_E M d N t r m (pc + 2) ls' st) : q_E M d N t r m pc ls (q_A x :: st) := by
  subst hs
  exact q_astore hd hx hn hp k
theorem e_inc {i : Nat} {n x : Int} {ls' : List q_V} (hd : decode M.2.1 pc = .ok (.iinc i n, 3)) (hi : ls[i]? = some (q_I x)) (hn : i < M.2.2.1) (hp : ∀ w, ls[i - 1]? = some w → w.1 ≠ 1) (hs : ls.set i (q_I (x + n)) = ls') (k : q_E M d N t r m (pc + 3) ls' st) : q_E M d N t r m pc ls st := by
  subst hs
  exact q_iinc hd hi hn hp k

theorem e_callVi {M' : q_M} {d' idx n k : Nat} {av : List q_V} {c : Int} {e : q_Res} {K : Int → q_Mem → q_Res} (h : q_bd e K = some r) (hw : q_cl M.1.cls idx M' n) (hin : Cond.instanceMethod M'.1 ∈ q_T) (hse : Cond.selects M'.1.cls M'.1 M'.1 ∈ q_T) (hd : decode M.2.1 pc = .ok (.invokevirtual idx, 3))
    (hC : ∀ v, e = some v → q_C M' (q_room d') 0 0 (q_A c :: av) (q_g N) m (some (q_I v.1), q_g N, v.2)) (hn : av.length = n) (hr : q_is (q_g N) c k) (hk : ∃ T N, vwCl[k]? = some (M'.1.cls, T, N)) (hk12 : k < 12) (hst : q_words st ≤ 8) (hrm : d' < d ∧ M'.2.2.1 ≤ 45) {s0 : List q_V} (hs : s0 = av.reverse ++ q_A c :: st)
    (kk : ∀ v m', K v m' = some r → q_E M d N t r m' (pc + 3) ls (q_I v :: st)) : q_E M d N t r m pc ls s0 := e_callV (t' := some 0) h hw hin hse hd hC hn hr hk hk12 hst hrm hs kk
theorem e_callVv {M' : q_M} {d' idx n k : Nat} {av : List q_V} {c : Int} {e : q_Res} {K : Int → q_Mem → q_Res} (h : q_bd e K = some r) (hw : q_cl M.1.cls idx M' n) (hin : Cond.instanceMethod M'.1 ∈ q_T) (hse : Cond.selects M'.1.cls M'.1 M'.1 ∈ q_T) (hd : decode M.2.1 pc = .ok (.invokevirtual idx, 3))
    (hC : ∀ v, e = some v → q_C M' (q_room d') 0 0 (q_A c :: av) (q_g N) m (none, q_g N, v.2)) (hn : av.length = n) (hr : q_is (q_g N) c k) (hk : ∃ T N, vwCl[k]? = some (M'.1.cls, T, N)) (hk12 : k < 12) (hst : q_words st ≤ 8) (hrm : d' < d ∧ M'.2.2.1 ≤ 45) {s0 : List q_V} (hs : s0 = av.reverse ++ q_A c :: st)
    (kk : ∀ v m', K v m' = some r → q_E M d N t r m' (pc + 3) ls st) : q_E M d N t r m pc ls s0 := e_callV (t' := none) h hw hin hse hd hC hn hr hk hk12 hst hrm hs kk
theorem e_callVr {M' : q_M} {d' idx n k : Nat} {av : List q_V} {c : Int} {e : q_Res} {K : Int → q_Mem → q_Res} (h : q_bd e K = some r) (hw : q_cl M.1.cls idx M' n) (hin : Cond.instanceMethod M'.1 ∈ q_T) (hse : Cond.selects M'.1.cls M'.1 M'.1 ∈ q_T) (hd : decode M.2.1 pc = .ok (.invokevirtual idx, 3))
    (hC : ∀ v, e = some v → q_C M' (q_room d') 0 0 (q_A c :: av) (q_g N) m (some (q_A v.1), q_g N, v.2)) (hn : av.length = n) (hr : q_is (q_g N) c k) (hk : ∃ T N, vwCl[k]? = some (M'.1.cls, T, N)) (hk12 : k < 12) (hst : q_words st ≤ 8) (hrm : d' < d ∧ M'.2.2.1 ≤ 45) {s0 : List q_V} (hs : s0 = av.reverse ++ q_A c :: st)
    (kk : ∀ v m', K v m' = some r → q_E M d N t r m' (pc + 3) ls (q_A v :: st)) : q_E M d N t r m pc ls s0 := e_callV (t' := some 2) h hw hin hse hd hC hn hr hk hk12 hst hrm hs kk
theorem e_callSi {M' : q_M} {d' idx n : Nat} {av : List q_V} {e : q_Res} {K : Int → q_Mem → q_Res} (h : q_bd e K = some r) (hw : q_cl M.1.cls idx M' n) (hsta : Cond.static M'.1 ∈ q_T) (hd : decode M.2.1 pc = .ok (.invokestatic idx, 3))
    (hC : ∀ v, e = some v → q_C M' (q_room d') 0 0 av (q_g N) m (some (q_I v.1), q_g N, v.2)) (hn : av.length = n) (hst : q_words st ≤ 8) (hrm : d' < d ∧ M'.2.2.1 ≤ 45) {s0 : List q_V} (hs : s0 = av.reverse ++ st)
    (kk : ∀ v m', K v m' = some r → q_E M d N t r m' (pc + 3) ls (q_I v :: st)) : q_E M d N t r m pc ls s0 := e_callS (t' := some 0) h hw hsta hd hC hn hst hrm hs kk
theorem e_callSv {M' : q_M} {d' idx n : Nat} {av : List q_V} {e : q_Res} {K : Int → q_Mem → q_Res} (h : q_bd e K = some r) (hw : q_cl M.1.cls idx M' n) (hsta : Cond.static M'.1 ∈ q_T) (hd : decode M.2.1 pc = .ok (.invokestatic idx, 3))
    (hC : ∀ v, e = some v → q_C M' (q_room d') 0 0 av (q_g N) m (none, q_g N, v.2)) (hn : av.length = n) (hst : q_words st ≤ 8) (hrm : d' < d ∧ M'.2.2.1 ≤ 45) {s0 : List q_V} (hs : s0 = av.reverse ++ st)
    (kk : ∀ v m', K v m' = some r → q_E M d N t r m' (pc + 3) ls st) : q_E M d N t r m pc ls s0 := e_callS (t' := none) h hw hsta hd hC hn hst hrm hs kk
theorem e_callSr {M' : q_M} {d' idx n : Nat} {av : List q_V} {e : q_Res} {K : Int → q_Mem → q_Res} (h : q_bd e K = some r) (hw : q_cl M.1.cls idx M' n) (hsta : Cond.static M'.1 ∈ q_T) (hd : decode M.2.1 pc = .ok (.invokestatic idx, 3))
    (hC : ∀ v, e = some v → q_C M' (q_room d') 0 0 av (q_g N) m (some (q_A v.1), q_g N, v.2)) (hn : av.length = n) (hst : q_words st ≤ 8) (hrm : d' < d ∧ M'.2.2.1 ≤ 45) {s0 : List q_V} (hs : s0 = av.reverse ++ st)
    (kk : ∀ v m', K v m' = some r → q_E M d N t r m' (pc + 3) ls (q_A v :: st)) : q_E M d N t r m pc ls s0 := e_callS (t' := some 2) h hw hsta hd hC hn hst hrm hs kk
theorem e_callSNi {M' : q_M} {d' idx n : Nat} {host : String} {av : List q_V} {e : q_Res} {K : Int → q_Mem → q_Res} (h : q_bd e K = some r) (hw : (M.1.cls, idx, M'.1, host) ∈ q_nest ∧ Cond.initialized M'.1.cls ∈ q_T ∧ Cond.code M'.1 M'.2.1 M'.2.2.1 M'.2.2.2 ∈ q_T ∧ M'.1.cls ≠ "java/lang/invoke/MethodHandle" ∧ M'.1.cls ≠ "java/lang/invoke/VarHandle" ∧ (parseMethodDescriptor M'.1.desc).map (fun d => d.parameters.length) = some n) (hsta : Cond.static M'.1 ∈ q_T) (hd : decode M.2.1 pc = .ok (.invokestatic idx, 3))
    (hC : ∀ v, e = some v → q_C M' (q_room d') 0 0 av (q_g N) m (some (q_I v.1), q_g N, v.2)) (hn : av.length = n) (hst : q_words st ≤ 8) (hrm : d' < d ∧ M'.2.2.1 ≤ 45) {s0 : List q_V} (hs : s0 = av.reverse ++ st)
    (kk : ∀ v m', K v m' = some r → q_E M d N t r m' (pc + 3) ls (q_I v :: st)) : q_E M d N t r m pc ls s0 := e_callSN (t' := some 0) h hw hsta hd hC hn hst hrm hs kk
theorem e_callSNv {M' : q_M} {d' idx n : Nat} {host : String} {av : List q_V} {e : q_Res} {K : Int → q_Mem → q_Res} (h : q_bd e K = some r) (hw : (M.1.cls, idx, M'.1, host) ∈ q_nest ∧ Cond.initialized M'.1.cls ∈ q_T ∧ Cond.code M'.1 M'.2.1 M'.2.2.1 M'.2.2.2 ∈ q_T ∧ M'.1.cls ≠ "java/lang/invoke/MethodHandle" ∧ M'.1.cls ≠ "java/lang/invoke/VarHandle" ∧ (parseMethodDescriptor M'.1.desc).map (fun d => d.parameters.length) = some n) (hsta : Cond.static M'.1 ∈ q_T) (hd : decode M.2.1 pc = .ok (.invokestatic idx, 3))
    (hC : ∀ v, e = some v → q_C M' (q_room d') 0 0 av (q_g N) m (none, q_g N, v.2)) (hn : av.length = n) (hst : q_words st ≤ 8) (hrm : d' < d ∧ M'.2.2.1 ≤ 45) {s0 : List q_V} (hs : s0 = av.reverse ++ st)
    (kk : ∀ v m', K v m' = some r → q_E M d N t r m' (pc + 3) ls st) : q_E M d N t r m pc ls s0 := e_callSN (t' := none) h hw hsta hd hC hn hst hrm hs kk
theorem e_callSNr {M' : q_M} {d' idx n : Nat} {host : String} {av : List q_V} {e : q_Res} {K : Int → q_Mem → q_Res} (h : q_bd e K = some r) (hw : (M.1.cls, idx, M'.1, host) ∈ q_nest ∧ Cond.initialized M'.1.cls ∈ q_T ∧ Cond.code M'.1 M'.2.1 M'.2.2.1 M'.2.2.2 ∈ q_T ∧ M'.1.cls ≠ "java/lang/invoke/MethodHandle" ∧ M'.1.cls ≠ "java/lang/invoke/VarHandle" ∧ (parseMethodDescriptor M'.1.desc).map (fun d => d.parameters.length) = some n) (hsta : Cond.static M'.1 ∈ q_T) (hd : decode M.2.1 pc = .ok (.invokestatic idx, 3))
    (hC : ∀ v, e = some v → q_C M' (q_room d') 0 0 av (q_g N) m (some (q_A v.1), q_g N, v.2)) (hn : av.length = n) (hst : q_words st ≤ 8) (hrm : d' < d ∧ M'.2.2.1 ≤ 45) {s0 : List q_V} (hs : s0 = av.reverse ++ st)
    (kk : ∀ v m', K v m' = some r → q_E M d N t r m' (pc + 3) ls (q_A v :: st)) : q_E M d N t r m pc ls s0 := e_callSN (t' := some 2) h hw hsta hd hC hn hst hrm hs kk
end q_jdk
