/-! THE START: words by their places -/
theorem sw_str : ∀ t ∈ q_strs, Cond.stringRef t.1 t.2.1 t.2.2.1 ∈ lw_tbl := List.forall_mem_cons.mpr ⟨List.mem_of_getElem? (i := 824) (by decide +kernel), List.forall_mem_cons.mpr ⟨List.mem_of_getElem? (i := 890) (by decide +kernel), List.forall_mem_cons.mpr ⟨List.mem_of_getElem? (i := 899) (by decide +kernel), List.forall_mem_cons.mpr ⟨List.mem_of_getElem? (i := 901) (by decide +kernel), List.forall_mem_cons.mpr ⟨List.mem_of_getElem? (i := 902) (by decide +kernel), List.forall_mem_cons.mpr ⟨List.mem_of_getElem? (i := 903) (by decide +kernel), List.forall_mem_cons.mpr ⟨List.mem_of_getElem? (i := 904) (by decide +kernel), List.forall_mem_cons.mpr ⟨List.mem_of_getElem? (i := 905) (by decide +kernel), List.forall_mem_cons.mpr ⟨List.mem_of_getElem? (i := 906) (by decide +kernel), List.forall_mem_cons.mpr ⟨List.mem_of_getElem? (i := 927) (by decide +kernel), List.forall_mem_cons.mpr ⟨List.mem_of_getElem? (i := 928) (by decide +kernel), List.forall_mem_cons.mpr ⟨List.mem_of_getElem? (i := 966) (by decide +kernel), List.forall_mem_cons.mpr ⟨List.mem_of_getElem? (i := 971) (by decide +kernel), List.forall_mem_cons.mpr ⟨List.mem_of_getElem? (i := 976) (by decide +kernel), fun _ h => absurd h List.not_mem_nil⟩⟩⟩⟩⟩⟩⟩⟩⟩⟩⟩⟩⟩⟩
theorem sw_nest : ∀ t ∈ q_nest, Cond.methodLinkNest t.1 t.2.1 t.2.2.1 t.2.2.2 ∈ lw_tbl := List.forall_mem_cons.mpr ⟨List.mem_of_getElem? (i := 173) (by decide +kernel), List.forall_mem_cons.mpr ⟨List.mem_of_getElem? (i := 210) (by decide +kernel), List.forall_mem_cons.mpr ⟨List.mem_of_getElem? (i := 394) (by decide +kernel), List.forall_mem_cons.mpr ⟨List.mem_of_getElem? (i := 411) (by decide +kernel), List.forall_mem_cons.mpr ⟨List.mem_of_getElem? (i := 448) (by decide +kernel), List.forall_mem_cons.mpr ⟨List.mem_of_getElem? (i := 498) (by decide +kernel), List.forall_mem_cons.mpr ⟨List.mem_of_getElem? (i := 546) (by decide +kernel), List.forall_mem_cons.mpr ⟨List.mem_of_getElem? (i := 600) (by decide +kernel), List.forall_mem_cons.mpr ⟨List.mem_of_getElem? (i := 981) (by decide +kernel), List.forall_mem_cons.mpr ⟨List.mem_of_getElem? (i := 1207) (by decide +kernel), fun _ h => absurd h List.not_mem_nil⟩⟩⟩⟩⟩⟩⟩⟩⟩⟩
theorem sw_over : Cond.arrayOver (.object RX1) ∈ lw_tbl := List.mem_of_getElem? (i := 393) (by decide +kernel)
theorem sw_com : Cond.laysStatic "java/lang/String" "COMPACT_STRINGS" "Z" ∈ lw_tbl := List.mem_of_getElem? (i := 838) (by decide +kernel)
theorem sw_sio : Cond.laysStatic "jdk/internal/util/Preconditions" "SIOOBE_FORMATTER" "Ljava/util/function/BiFunction;" ∈ lw_tbl := List.mem_of_getElem? (i := 854) (by decide +kernel)
def q_tm (i : Nat) : Term := Term.string (q_strs.getD i ("", 0, "", 0)).1 (q_strs.getD i ("", 0, "", 0)).2.1
abbrev q_pre1 : Cond := Jvm.Cond.and given_1 narrow_1
theorem sn_ex : ∀ i, i < 14 → Cond.exactly (q_tm i) "java/lang/String" ∈ flatC q_pre1 := by decide +kernel
theorem sn_co : ∀ i, i < 14 → Cond.eq (.field (q_tm i) "java/lang/String" "coder" "B") (.int 0) ∈ flatC q_pre1 := by decide +kernel
theorem sn_ar : ∀ i, i < 14 → Cond.arrayOf (.field (q_tm i) "java/lang/String" "value" "[B") .byte ∈ flatC q_pre1 := by decide +kernel
theorem sn_le : ∀ i, i < 14 → Cond.eq (.length (.field (q_tm i) "java/lang/String" "value" "[B")) (.int (Int32.ofNat (q_sby.getD i []).length)) ∈ flatC q_pre1 := by decide +kernel
theorem sn_el : ∀ i, i < 14 → ∀ j, j < (q_sby.getD i []).length → Cond.eq (.elem (.field (q_tm i) "java/lang/String" "value" "[B") (.int (Int32.ofNat j))) (.int ((q_sby.getD i []).getD j 0)) ∈ flatC q_pre1 := by decide +kernel
theorem sn_cm : Cond.eq (.static "java/lang/String" "COMPACT_STRINGS" "Z") (.int 1) ∈ flatC q_pre1 := by decide +kernel
theorem sn_si : Cond.isRef (.static "jdk/internal/util/Preconditions" "SIOOBE_FORMATTER" "Ljava/util/function/BiFunction;") ∈ flatC q_pre1 := by decide +kernel
theorem sn_ix : ∀ t ∈ q_strs, t.2.2.2 < 14 ∧ q_strs.getD t.2.2.2 ("", 0, "", 0) = t := by decide +kernel
theorem sn_ln : ∀ i, i < 14 → (q_sby.getD i []).length < 2 ^ 31 := by decide +kernel
section q_start
variable {s : State} {args : Array Value}
theorem sk_one {k nf : Nat} {C0 : String} {T : u_T} {ty : Nat → FieldType} (hq : ∀ w ∈ q_T, w.before args s = true) (hcl : q_clok k C0 T nf ty) (hin : Cond.instantiable C0 nf ∈ q_T) : ∃ q : ClassId × (Nat → Nat), ∀ v, vwCl[k]? = some v → u_Kn s v.1 v.2.1 v.2.2 q.1 q.2 := by
  obtain ⟨h1, h2, _⟩ := hcl
  obtain ⟨cC, iS, hK⟩ := u_known hq h2 (hq _ hin)
  refine ⟨(cC, iS), fun v hv => ?_⟩
  cases Option.some.inj (h1.symm.trans hv)
  exact hK
theorem sk_all (hq : ∀ w ∈ q_T, w.before args s = true) : ∃ D : va_G, ∀ (k : Nat) (v : vw_C), vwCl[k]? = some v → u_Kn s v.1 v.2.1 v.2.2 (D.1 k) (D.2 k) := by
  have h : ∀ k : Nat, ∃ q : ClassId × (Nat → Nat), ∀ v, vwCl[k]? = some v → u_Kn s v.1 v.2.1 v.2.2 q.1 q.2 := by
    intro k
    match k with
    | 0 => exact sk_one hq cl_0 ins_0
    | 1 => exact sk_one hq cl_1 ins_1
    | 2 => exact sk_one hq cl_2 ins_2
    | 3 => exact sk_one hq cl_3 ins_3
    | 4 => exact sk_one hq cl_4 ins_4
    | 5 => exact sk_one hq cl_5 ins_5
    | 6 => exact sk_one hq cl_6 ins_6
    | 7 => exact sk_one hq cl_7 ins_7
    | 8 => exact sk_one hq cl_8 ins_8
    | 9 => exact sk_one hq cl_9 ins_9
    | 10 => exact sk_one hq cl_10 ins_10
    | 11 => exact sk_one hq cl_11 ins_11
    | k + 12 => exact ⟨(0, fun _ => 0), fun v hv => by simp [vwCl] at hv⟩
  obtain ⟨F, hF⟩ := Classical.axiomOfChoice h
  exact ⟨(fun k => (F k).1, fun k => (F k).2), fun k v hv => hF k v hv⟩
theorem sk_arr {ty : FieldType} (h : (Cond.arrayClass ty).before args s = true) (hty : ∀ n, ty ≠ .object n) : ∃ cA : ClassId, ArrOfT s cA ty ∧ va_RA s cA ty := by
  obtain ⟨cA, kA, comp, h1, h2, h3⟩ := Cond.arrayClass_spec h
  refine ⟨cA, fun n z => ⟨fun k h => (by cases h), kA, h2, comp, h3⟩, ?_⟩
  cases ty <;> first | exact h1 | exact absurd rfl (hty _)
theorem sk_K (hq : ∀ w ∈ q_T, w.before args s = true) (ho : (Cond.arrayOver (.object RX1)).before args s = true) : ∃ (D : va_G) (cs : Nat → ClassId), va_K D vwCl (q_tys cs) s := by
  obtain ⟨D, hD⟩ := sk_all hq
  obtain ⟨c0, a0⟩ := sk_arr (hq _ ac_int) (fun n h => by cases h)
  obtain ⟨c1, a1⟩ := sk_arr (hq _ ac_byte) (fun n h => by cases h)
  obtain ⟨c2, a2⟩ := sk_arr (hq _ ac_boolean) (fun n h => by cases h)
  obtain ⟨comp, c3, k3, g1, _, g3, g4, g5⟩ := Cond.arrayOver_spec ho
  refine ⟨D, fun i => if i = 0 then c0 else if i = 1 then c1 else if i = 2 then c2 else c3, hD, fun k q hk => ?_⟩
  match k, hk with
  | 0, hk => cases hk; exact a0
  | 1, hk => cases hk; exact a1
  | 2, hk => cases hk; exact a2
  | 3, hk => cases hk; exact ⟨fun n z => ⟨fun k h => (by cases h), k3, g3, comp, g4⟩, k3, comp, g3, g4, g1, g5⟩
  | k + 4, hk => simp [q_tys] at hk
theorem sk_str (hs : ∀ c ∈ flatC q_pre1, c.before args s = true) : ∃ adK adV : Nat → Nat, ∀ i, i < 14 → (q_tm i).eval args s none [] s = some (.ref (adK i)) ∧ va_O "java/lang/String" (adK i) (fun q => s.heap.size ≤ q) s s.heap ∧ va_OF "java/lang/String" "coder" "B" (.int 0) (adK i) (fun q => s.heap.size ≤ q) s s.heap ∧ va_OF "java/lang/String" "value" "[B" (.ref (adV i)) (adK i) (fun q => s.heap.size ≤ q) s s.heap ∧ va_T .byte (adV i) (q_sby.getD i []).length (fun j => .int ((q_sby.getD i []).getD j 0)) (fun q => s.heap.size ≤ q) s s.heap := by
  have hA : ∀ a : Nat, a < s.heap.size → ¬ (fun q => s.heap.size ≤ q) a := fun a ha => Nat.not_le.mpr ha
  have h0 : ∀ i : Nat, ∃ q : Nat × Nat, i < 14 → (q_tm i).eval args s none [] s = some (.ref q.1) ∧ va_O "java/lang/String" q.1 (fun q => s.heap.size ≤ q) s s.heap ∧ va_OF "java/lang/String" "coder" "B" (.int 0) q.1 (fun q => s.heap.size ≤ q) s s.heap ∧ va_OF "java/lang/String" "value" "[B" (.ref q.2) q.1 (fun q => s.heap.size ≤ q) s s.heap ∧ va_T .byte q.2 (q_sby.getD i []).length (fun j => .int ((q_sby.getD i []).getD j 0)) (fun q => s.heap.size ≤ q) s s.heap := by
    intro i
    by_cases hi : i < 14
    · obtain ⟨a, c, cA, kA, q1, q2, q3, q4, q5, q6, -⟩ := Cond.exactly_spec (args := args) (first := s) (o := none) (s := s) (idx := []) (t := q_tm i) (cls := "java/lang/String") (hs _ (sn_ex i hi))
      obtain ⟨t, ht, hT⟩ := va_Tof (f := fun j => .int ((q_sby.getD i []).getD j 0)) (A := fun q => s.heap.size ≤ q) (sn_ln i hi) (hs _ (sn_ar i hi)) (va_eqt (hs _ (sn_le i hi))) (fun j hj => va_eqt (hs _ (sn_el i hi j hj))) hA
      exact ⟨(a, t), fun _ => ⟨q1, ⟨cA, q3, q5, by rw [q6]; exact q2, hA a (Array.getElem?_eq_some_iff.mp q3).1⟩, vk_OFof q1 (va_eqt (hs _ (sn_co i hi))) hA, vk_OFof q1 ht hA, hT⟩⟩
    · exact ⟨(0, 0), fun h => absurd h hi⟩
  obtain ⟨F, hF⟩ := Classical.axiomOfChoice h0
  exact ⟨fun i => (F i).1, fun i => (F i).2, hF⟩
theorem sk_Ex (bs : Nat) (hts : ∀ w ∈ lw_tbl, w.before args s = true) (hgv : q_pre1.before args s = true) : ∃ ad adV : Nat → Nat, ad 29 = bs ∧ q_Ex s.heap.size ad adV s s.heap := by
  have hs := flat_of_before _ hgv
  have hA : ∀ a : Nat, a < s.heap.size → ¬ (fun q => s.heap.size ≤ q) a := fun a ha => Nat.not_le.mpr ha
  obtain ⟨adK, adV, hK⟩ := sk_str hs
  have hZ : va_Z "java/lang/String" "COMPACT_STRINGS" "Z" (.int 1) (fun q => s.heap.size ≤ q) s s.heap := va_Zof (hts _ sw_com) (hts _ (List.mem_filter.mp jw_iStr).1) (va_eqt (hs _ sn_cm)) hA
  have hq : va_Zq "jdk/internal/util/Preconditions" "SIOOBE_FORMATTER" "Ljava/util/function/BiFunction;" (fun q => s.heap.size ≤ q) s s.heap := va_Zqof (hts _ sw_sio) (hts _ (List.mem_filter.mp jw_iPre).1) (hs _ sn_si) hA
  obtain ⟨z, hz⟩ : ∃ z : Nat, va_Z "jdk/internal/util/Preconditions" "SIOOBE_FORMATTER" "Ljava/util/function/BiFunction;" .null (fun q => s.heap.size ≤ q) s s.heap ∨ va_Z "jdk/internal/util/Preconditions" "SIOOBE_FORMATTER" "Ljava/util/function/BiFunction;" (.ref z) (fun q => s.heap.size ≤ q) s s.heap := by
    rcases hq with h | ⟨z, h⟩
    · exact ⟨0, Or.inl h⟩
    · exact ⟨z, Or.inr h⟩
  refine ⟨fun i => if i < 14 then adK i else if i < 28 then adV (i - 14) else if i = 28 then z else bs, adV, rfl, ?_, va_AO.of (hts _ sw_over), ?_, ?_, hZ, hz, ?_⟩
  · intro t ht
    exact va_Nw.of rfl (hts _ (sw_nest t ht))
  · intro t ht
    obtain ⟨h1, h2⟩ := sn_ix t ht
    have h3 := (hK t.2.2.2 h1).1
    unfold q_tm at h3
    rw [h2] at h3
    have e : (if t.2.2.2 < 14 then adK t.2.2.2 else if t.2.2.2 < 28 then adV (t.2.2.2 - 14) else if t.2.2.2 = 28 then z else bs) = adK t.2.2.2 := if_pos h1
    show vk_R t.1 t.2.1 t.2.2.1 (if t.2.2.2 < 14 then adK t.2.2.2 else if t.2.2.2 < 28 then adV (t.2.2.2 - 14) else if t.2.2.2 = 28 then z else bs) s
    rw [e]
    exact vk_R.of (hts _ (sw_str t ht)) h3
  · intro i hi
    have h := (hK i hi).2
    have e : (if i < 14 then adK i else if i < 28 then adV (i - 14) else if i = 28 then z else bs) = adK i := if_pos hi
    show va_O _ (if i < 14 then adK i else if i < 28 then adV (i - 14) else if i = 28 then z else bs) _ _ _ ∧ va_OF _ _ _ _ (if i < 14 then adK i else if i < 28 then adV (i - 14) else if i = 28 then z else bs) _ _ _ ∧ va_OF _ _ _ _ (if i < 14 then adK i else if i < 28 then adV (i - 14) else if i = 28 then z else bs) _ _ _ ∧ _
    rw [e]
    exact h
  · intro i hi
    show adV i = (if 14 + i < 14 then adK (14 + i) else if 14 + i < 28 then adV (14 + i - 14) else if 14 + i = 28 then z else bs)
    rw [if_neg (by omega), if_pos (by omega), show 14 + i - 14 = i by omega]
end q_start
