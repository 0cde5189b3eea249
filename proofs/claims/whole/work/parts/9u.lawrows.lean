/-! THE LAW: rows, from a fixed state on, to any end -/
def q_K (p : Program) (l : Launch) (e : Env) (s : State) (mi : MethodId) (args : Array Value) (below : List Frame) (meth : Method) (c : Code) (D : va_G) (cs : Nat → ClassId) (b : Nat) (ad : Nat → Nat) (nL : Nat) (rm : Room) (Q : State → Prop) (cu su : Nat) (g : q_G) (m : q_Mem) (pc : Nat) (ls st : List q_V) : Prop :=
  ∀ (H : Heap) (locs : List Loc) (ar : Array Slot), va_P D vwCl (q_ws b ad cs g m) H → H.size = b + g.1 → va_S (fun q => b ≤ q) s.heap H locs → q_ls b ad nL ls ar → W p l e rm s mi args below meth c H locs cu su Q (F0 mi pc ar (st.map (q_cv b ad)))
section q_law
variable {M : q_M} {p : Program} {l : Launch} {e : Env} {s : State} {mi : MethodId} {args : Array Value} {below : List Frame} {meth : Method} {c : Code} {D : va_G} {cs : Nat → ClassId} {b : Nat} {ad adV : Nat → Nat} {Q : State → Prop}
variable {rm : Room} {cu su : Nat} {g : q_G} {m : q_Mem} {pc : Nat} {ls st : List q_V}

theorem z_iconst (C : q_Cx M p s mi args meth c D cs b ad adV) {n : Int} (hd : decode M.2.1 pc = .ok (.iconst n, 1)) (k : q_K p l e s mi args below meth c D cs b ad M.2.2.1 rm Q cu su g m (pc + 1) ls (q_I n :: st)) : q_K p l e s mi args below meth c D cs b ad M.2.2.1 rm Q cu su g m pc ls st := by
  intro H locs ar hP hz hS hl
  exact lv_iconst C.1 C.2.1 hd rfl (k H locs ar hP hz hS hl)

theorem z_bipush (C : q_Cx M p s mi args meth c D cs b ad adV) {n x : Int} (hd : decode M.2.1 pc = .ok (.bipush n, 2)) (hx : (Int8.ofInt n).toInt32 = Int32.ofInt x) (k : q_K p l e s mi args below meth c D cs b ad M.2.2.1 rm Q cu su g m (pc + 2) ls (q_I x :: st)) : q_K p l e s mi args below meth c D cs b ad M.2.2.1 rm Q cu su g m pc ls st := by
  intro H locs ar hP hz hS hl
  exact lv_bipush C.1 C.2.1 hd hx (k H locs ar hP hz hS hl)

theorem z_iload_n (C : q_Cx M p s mi args meth c D cs b ad adV) {n : Fin 4} {x : Int} (hd : decode M.2.1 pc = .ok (.iload_n n, 1)) (hi : ls[(n : Nat)]? = some (q_I x)) (k : q_K p l e s mi args below meth c D cs b ad M.2.2.1 rm Q cu su g m (pc + 1) ls (q_I x :: st)) : q_K p l e s mi args below meth c D cs b ad M.2.2.1 rm Q cu su g m pc ls st := by
  intro H locs ar hP hz hS hl
  exact lv_iload_n C.1 C.2.1 hd rfl (hl.at hi (show (0 : Nat) ≠ 9 by decide)) (k H locs ar hP hz hS hl)

theorem z_aload_n (C : q_Cx M p s mi args meth c D cs b ad adV) {n : Fin 4} {x : Int} (hd : decode M.2.1 pc = .ok (.aload_n n, 1)) (hi : ls[(n : Nat)]? = some (q_A x)) (hx : 0 ≤ x) (k : q_K p l e s mi args below meth c D cs b ad M.2.2.1 rm Q cu su g m (pc + 1) ls (q_A x :: st)) : q_K p l e s mi args below meth c D cs b ad M.2.2.1 rm Q cu su g m pc ls st := by
  intro H locs ar hP hz hS hl
  have e9 : q_cv b ad (q_A x) = .ref (b + x.toNat) := if_neg (Int.not_lt.mpr hx)
  have h1 := hl.at hi (show (2 : Nat) ≠ 9 by decide)
  rw [e9] at h1
  have h2 := k H locs ar hP hz hS hl
  rw [List.map_cons, e9] at h2
  exact lv_aload_n C.1 C.2.1 hd rfl h1 h2

theorem z_aload_nS (C : q_Cx M p s mi args meth c D cs b ad adV) {n : Fin 4} {x : Int} (hd : decode M.2.1 pc = .ok (.aload_n n, 1)) (hi : ls[(n : Nat)]? = some (q_S x)) (k : q_K p l e s mi args below meth c D cs b ad M.2.2.1 rm Q cu su g m (pc + 1) ls (q_S x :: st)) : q_K p l e s mi args below meth c D cs b ad M.2.2.1 rm Q cu su g m pc ls st := by
  intro H locs ar hP hz hS hl
  exact lv_aload_n C.1 C.2.1 hd rfl (hl.at hi (show (3 : Nat) ≠ 9 by decide)) (k H locs ar hP hz hS hl)

theorem z_istore_n (C : q_Cx M p s mi args meth c D cs b ad adV) {n : Fin 4} {x : Int} (hd : decode M.2.1 pc = .ok (.istore_n n, 1)) (hn : (n : Nat) < M.2.2.1) (hp : ∀ w, ls[(n : Nat) - 1]? = some w → w.1 ≠ 1) (k : q_K p l e s mi args below meth c D cs b ad M.2.2.1 rm Q cu su g m (pc + 1) (ls.set (n : Nat) (q_I x)) st) : q_K p l e s mi args below meth c D cs b ad M.2.2.1 rm Q cu su g m pc ls (q_I x :: st) := by
  intro H locs ar hP hz hS hl
  obtain ⟨l0, h1, h2⟩ := hl
  refine lv_istore_n C.1 C.2.1 hd rfl h1 hn rfl (fun ar h' => ?_)
  exact k H locs ar hP hz hS (q_ls.set h2 hp h')

theorem z_astore_n (C : q_Cx M p s mi args meth c D cs b ad adV) {n : Fin 4} {x : Int} (hd : decode M.2.1 pc = .ok (.astore_n n, 1)) (hx : 0 ≤ x) (hn : (n : Nat) < M.2.2.1) (hp : ∀ w, ls[(n : Nat) - 1]? = some w → w.1 ≠ 1) (k : q_K p l e s mi args below meth c D cs b ad M.2.2.1 rm Q cu su g m (pc + 1) (ls.set (n : Nat) (q_A x)) st) : q_K p l e s mi args below meth c D cs b ad M.2.2.1 rm Q cu su g m pc ls (q_A x :: st) := by
  intro H locs ar hP hz hS hl
  obtain ⟨l0, h1, h2⟩ := hl
  have e : q_cv b ad (q_A x) = .ref (b + x.toNat) := if_neg (Int.not_lt.mpr hx)
  rw [List.map_cons, e]
  refine lv_astore_n C.1 C.2.1 hd rfl h1 hn rfl (fun ar h' => ?_)
  rw [← e] at h'
  exact k H locs ar hP hz hS (q_ls.set h2 hp h')

theorem z_iinc (C : q_Cx M p s mi args meth c D cs b ad adV) {i : Nat} {n x : Int} (hd : decode M.2.1 pc = .ok (.iinc i n, 3)) (hi : ls[i]? = some (q_I x)) (hn : i < M.2.2.1) (hp : ∀ w, ls[i - 1]? = some w → w.1 ≠ 1) (k : q_K p l e s mi args below meth c D cs b ad M.2.2.1 rm Q cu su g m (pc + 3) (ls.set i (q_I (x + n))) st) : q_K p l e s mi args below meth c D cs b ad M.2.2.1 rm Q cu su g m pc ls st := by
  intro H locs ar hP hz hS hl
  obtain ⟨l0, h1, h2⟩ := hl
  obtain ⟨j, hj⟩ := List.getElem?_of_mem (h2 i _ hi (show (0 : Nat) ≠ 9 by decide))
  refine lv_iinc (v := Int32.ofInt (x + n)) C.1 C.2.1 hd h1 hj (by rw [Int32.ofInt_add]) hn rfl (fun ar h' => ?_)
  exact k H locs ar hP hz hS (q_ls.set (v := q_I (x + n)) h2 hp h')

theorem z_iadd (C : q_Cx M p s mi args meth c D cs b ad adV) {x z : Int} (hd : decode M.2.1 pc = .ok (.iadd, 1)) (k : q_K p l e s mi args below meth c D cs b ad M.2.2.1 rm Q cu su g m (pc + 1) ls (q_I (x + z) :: st)) : q_K p l e s mi args below meth c D cs b ad M.2.2.1 rm Q cu su g m pc ls (q_I z :: q_I x :: st) := by
  intro H locs ar hP hz hS hl
  have h := k H locs ar hP hz hS hl
  rw [List.map_cons, show q_cv b ad (q_I (x + z)) = .int (Int32.ofInt x + Int32.ofInt z) from congrArg Value.int (Int32.ofInt_add ..)] at h
  exact lv_iadd C.1 C.2.1 hd h

theorem z_isub (C : q_Cx M p s mi args meth c D cs b ad adV) {x z : Int} (hd : decode M.2.1 pc = .ok (.isub, 1)) (k : q_K p l e s mi args below meth c D cs b ad M.2.2.1 rm Q cu su g m (pc + 1) ls (q_I (x - z) :: st)) : q_K p l e s mi args below meth c D cs b ad M.2.2.1 rm Q cu su g m pc ls (q_I z :: q_I x :: st) := by
  intro H locs ar hP hz hS hl
  have h := k H locs ar hP hz hS hl
  rw [List.map_cons, show q_cv b ad (q_I (x - z)) = .int (Int32.ofInt x - Int32.ofInt z) from congrArg Value.int (Int32.ofInt_sub ..)] at h
  exact lv_isub C.1 C.2.1 hd h

theorem z_iand (C : q_Cx M p s mi args meth c D cs b ad adV) {x z : Int} (hd : decode M.2.1 pc = .ok (.iand, 1)) (k : q_K p l e s mi args below meth c D cs b ad M.2.2.1 rm Q cu su g m (pc + 1) ls (q_I (q_and x z) :: st)) : q_K p l e s mi args below meth c D cs b ad M.2.2.1 rm Q cu su g m pc ls (q_I z :: q_I x :: st) := by
  intro H locs ar hP hz hS hl
  have h := k H locs ar hP hz hS hl
  rw [List.map_cons, show q_cv b ad (q_I (q_and x z)) = .int (Int32.ofInt x &&& Int32.ofInt z) from congrArg Value.int (Int32.ofInt_toInt _)] at h
  exact lv_iand C.1 C.2.1 hd h

theorem z_dup (C : q_Cx M p s mi args meth c D cs b ad adV) {v : q_V} (hd : decode M.2.1 pc = .ok (.dup, 1)) (hv : v.1 ≠ 1) (k : q_K p l e s mi args below meth c D cs b ad M.2.2.1 rm Q cu su g m (pc + 1) ls (v :: v :: st)) : q_K p l e s mi args below meth c D cs b ad M.2.2.1 rm Q cu su g m pc ls (v :: st) := by
  intro H locs ar hP hz hS hl
  exact lv_dup C.1 C.2.1 hd (by rw [q_cat, if_neg hv]) (k H locs ar hP hz hS hl)

theorem z_if_eq (C : q_Cx M p s mi args meth c D cs b ad adV) {x : Int} {off : Int} {tgt : Nat} (hd : decode M.2.1 pc = .ok (.ifCond .eq off, 3)) (ht : (pc : Int) + off = (tgt : Int)) (kt : q_w x = 0 → q_K p l e s mi args below meth c D cs b ad M.2.2.1 rm Q cu su g m tgt ls st) (kf : ¬ (q_w x = 0) → q_K p l e s mi args below meth c D cs b ad M.2.2.1 rm Q cu su g m (pc + 3) ls st) : q_K p l e s mi args below meth c D cs b ad M.2.2.1 rm Q cu su g m pc ls (q_I x :: st) := by
  intro H locs ar hP hz hS hl
  have cv : (Int32.ofInt x = 0) ↔ (q_w x = 0) := by rw [q_0w]; exact q_eqw
  refine lv_if_eq C.1 C.2.1 hd ht (fun h => kt (cv.mp h) H locs ar hP hz hS hl) (fun h => kf (fun h2 => h (cv.mpr h2)) H locs ar hP hz hS hl)

theorem z_icmp_eq (C : q_Cx M p s mi args meth c D cs b ad adV) {x z : Int} {off : Int} {tgt : Nat} (hd : decode M.2.1 pc = .ok (.if_icmp .eq off, 3)) (ht : (pc : Int) + off = (tgt : Int)) (kt : q_w x = q_w z → q_K p l e s mi args below meth c D cs b ad M.2.2.1 rm Q cu su g m tgt ls st) (kf : ¬ (q_w x = q_w z) → q_K p l e s mi args below meth c D cs b ad M.2.2.1 rm Q cu su g m (pc + 3) ls st) : q_K p l e s mi args below meth c D cs b ad M.2.2.1 rm Q cu su g m pc ls (q_I z :: q_I x :: st) := by
  intro H locs ar hP hz hS hl
  have cv : (Int32.ofInt x = Int32.ofInt z) ↔ (q_w x = q_w z) := q_eqw
  refine lv_icmp_eq C.1 C.2.1 hd ht (fun h => kt (cv.mp h) H locs ar hP hz hS hl) (fun h => kf (fun h2 => h (cv.mpr h2)) H locs ar hP hz hS hl)

theorem z_icmp_gt (C : q_Cx M p s mi args meth c D cs b ad adV) {x z : Int} {off : Int} {tgt : Nat} (hd : decode M.2.1 pc = .ok (.if_icmp .gt off, 3)) (ht : (pc : Int) + off = (tgt : Int)) (kt : q_w z < q_w x → q_K p l e s mi args below meth c D cs b ad M.2.2.1 rm Q cu su g m tgt ls st) (kf : ¬ (q_w z < q_w x) → q_K p l e s mi args below meth c D cs b ad M.2.2.1 rm Q cu su g m (pc + 3) ls st) : q_K p l e s mi args below meth c D cs b ad M.2.2.1 rm Q cu su g m pc ls (q_I z :: q_I x :: st) := by
  intro H locs ar hP hz hS hl
  have cv : (Int32.ofInt z < Int32.ofInt x) ↔ (q_w z < q_w x) := q_ltw
  refine lv_icmp_gt C.1 C.2.1 hd ht (fun h => kt (cv.mp h) H locs ar hP hz hS hl) (fun h => kf (fun h2 => h (cv.mpr h2)) H locs ar hP hz hS hl)

theorem z_goto (C : q_Cx M p s mi args meth c D cs b ad adV) {off : Int} {tgt : Nat} (hd : decode M.2.1 pc = .ok (.goto off, 3)) (ht : (pc : Int) + off = (tgt : Int)) (k : q_K p l e s mi args below meth c D cs b ad M.2.2.1 rm Q cu su g m tgt ls st) : q_K p l e s mi args below meth c D cs b ad M.2.2.1 rm Q cu su g m pc ls st := by
  intro H locs ar hP hz hS hl
  exact lv_goto C.1 C.2.1 hd ht (k H locs ar hP hz hS hl)

theorem z_tabOut (C : q_Cx M p s mi args meth c D cs b ad adV) {dflt lo hi : Int} {offs : Array Int} {len : Nat} {x : Int} {tgt : Nat} (hd : decode M.2.1 pc = .ok (.tableswitch dflt lo hi offs, len)) (h : q_w x < lo ∨ hi < q_w x) (ht : (pc : Int) + dflt = (tgt : Int)) (k : q_K p l e s mi args below meth c D cs b ad M.2.2.1 rm Q cu su g m tgt ls st) : q_K p l e s mi args below meth c D cs b ad M.2.2.1 rm Q cu su g m pc ls (q_I x :: st) := by
  intro H locs ar hP hz hS hl
  exact lv_tableOut C.1 C.2.1 hd h ht (k H locs ar hP hz hS hl)

theorem z_tabIn (C : q_Cx M p s mi args meth c D cs b ad adV) {dflt lo hi : Int} {offs : Array Int} {len : Nat} {x off : Int} {tgt : Nat} (hd : decode M.2.1 pc = .ok (.tableswitch dflt lo hi offs, len)) (h1 : ¬ q_w x < lo) (h2 : ¬ hi < q_w x) (ho : offs[(q_w x - lo).toNat]? = some off) (ht : (pc : Int) + off = (tgt : Int)) (k : q_K p l e s mi args below meth c D cs b ad M.2.2.1 rm Q cu su g m tgt ls st) : q_K p l e s mi args below meth c D cs b ad M.2.2.1 rm Q cu su g m pc ls (q_I x :: st) := by
  intro H locs ar hP hz hS hl
  exact lv_tableIn C.1 C.2.1 hd h1 h2 ho ht (k H locs ar hP hz hS hl)

theorem z_back {mc' ms' : Nat} {v : Option q_V} {g' : q_G} {m' : q_Mem} {H : Heap} {locs : List Loc} {ar : Array Slot} {st0 rest : List Value} {a : Array Value}
    (C : q_Cx M p s mi args meth c D cs b ad adV) (hS : va_S (fun q => b ≤ q) s.heap H locs) (hl : q_ls b ad M.2.2.1 ls ar) (hrest : rest = st.map (q_cv b ad))
    (hr : va_Run p l e rm s mi args below meth c H locs cu su mc' ms' (F0 mi pc ar st0) rest (q_Qc b ad D cs (v, g', m') a) (fun q => b ≤ q))
    (kk : q_K p l e s mi args below meth c D cs b ad M.2.2.1 rm Q (cu + mc') (su + ms') g' m' (pc + 3) ls (v.toList ++ st)) :
    W p l e rm s mi args below meth c H locs cu su Q (F0 mi pc ar st0) := by
  intro T hT X
  obtain ⟨v', st₀, t, T', L, h0, X', hL, e1, e2, ⟨⟨hv, hP', hz'⟩, hzz, hk⟩, hst⟩ := hr T hT X
  cases hv
  rw [h0] at hzz hk
  have hS' : va_S (fun q => b ≤ q) s.heap T'.heap (locs ++ L) := ⟨Nat.le_trans hS.1 (by rw [e1]; exact hzz), fun q h1 h2 => by rw [e1, hk q (Nat.lt_of_lt_of_le h1 hS.1) h2]; exact hS.2.1 q h1 h2, fun q hq => by
      rcases List.mem_append.mp hq with h | h
      · exact hS.2.2 q h
      · exact hL q h⟩
  have hW := kk T'.heap (locs ++ L) ar (by rw [e1]; exact hP') (by rw [e1]; exact hz') hS' hl
  have heq : (v.toList ++ st).map (q_cv b ad) = (v.map (q_cv b ad)).toList ++ rest := by
    rw [hrest, List.map_append]
    cases v <;> rfl
  rw [heq] at hW
  obtain ⟨t2, a1, b1⟩ := hW T' rfl X'
  exact ⟨t2, hst t2 a1, b1⟩

theorem z_callV (C : q_Cx M p s mi args meth c D cs b ad adV) {M' : q_M} {rm' : Room} {mc' ms' idx n k : Nat} {av : List q_V} {r : Int} {v : Option q_V} {g' : q_G} {m' : q_Mem} (hw : q_cl M.1.cls idx M' n) (hin : Cond.instanceMethod M'.1 ∈ q_T) (hse : Cond.selects M'.1.cls M'.1 M'.1 ∈ q_T) (hd : decode M.2.1 pc = .ok (.invokevirtual idx, 3))
    (hC : q_C M' rm' mc' ms' (q_A r :: av) g m (v, g', m')) (hn : av.length = n) (hr : q_is g r k) (hk : ∃ T N, vwCl[k]? = some (M'.1.cls, T, N)) (hk12 : k < 12) (hst : q_words st ≤ 8)
    (hrm : rm'.cells = mc' ∧ rm'.slots = ms' ∧ rm'.frames + 1 ≤ rm.frames ∧ 8 + (M'.2.2.1 + 11) + rm'.locals ≤ rm.locals ∧ cu + mc' ≤ rm.cells ∧ su + ms' ≤ rm.slots)
    (kk : q_K p l e s mi args below meth c D cs b ad M.2.2.1 rm Q (cu + mc') (su + ms') g' m' (pc + 3) ls (v.toList ++ st)) : q_K p l e s mi args below meth c D cs b ad M.2.2.1 rm Q cu su g m pc ls (av.reverse ++ q_A r :: st) := by
  intro H locs ar hP hz hS hl
  obtain ⟨w1, w2, w3, w4, w5, w6⟩ := hw
  obtain ⟨rc, rs, rf, rl, f1, f2⟩ := hrm
  obtain ⟨T, N, hkk⟩ := hk
  obtain ⟨r0, r1, r2⟩ := hr
  have e9 : q_cv b ad (q_A r) = .ref (b + r.toNat) := if_neg (Int.not_lt.mpr r0)
  have hat := q_ws_at (b := b) (ad := ad) (cs := cs) (m := m) r1
  rw [q_cell_o r2 hk12] at hat
  have hts := C.2.2.2.2.2.1
  have hG : GoodIn q_T (wsV M.1.cls idx M'.1.cls M'.1 (Cond.code M'.1 M'.2.1 M'.2.2.1 M'.2.2.2 :: q_T)) := q_goodC w3 (fun w h => by
    simp only [List.mem_cons, List.not_mem_nil, or_false] at h
    rcases h with rfl | rfl | rfl | rfl
    · exact w1
    · exact hin
    · exact hse
    · exact w2)
  refine z_back C hS hl rfl (va_runV (b := b + r.toNat) (As := av.map (q_cv b ad)) (rest := st.map (q_cv b ad)) ⟨C.1, C.2.1, C.2.2.2.1, C.2.2.2.2.1, hts⟩ (hC l D cs b ad adV) (cwV n hts hG rfl rc rs ⟨rfl, w4, w5, w6⟩ ⟨rf, rl⟩)
    ⟨q_blind, va_recv C.2.2.2.2.2.2.2.2.1 hP hkk hat, q_pre C hP hz hS (by rw [List.map_cons, e9])⟩ rfl (by rw [List.length_map]; exact hn) hl.size (by rw [List.map_append, List.map_cons, e9, List.map_reverse]) (lv_room (by rw [q_words_eq]; exact hst)) hd ⟨f1, f2⟩) kk

theorem z_callI (C : q_Cx M p s mi args meth c D cs b ad adV) {M' : q_M} {rm' : Room} {mc' ms' idx n : Nat} {av : List q_V} {r : Int} {v : Option q_V} {g' : q_G} {m' : q_Mem} (hw : q_cl M.1.cls idx M' n) (hin : Cond.instanceMethod M'.1 ∈ q_T) (hi : M'.1.name = "<init>") (hret : M'.2.2.2 = none) (hd : decode M.2.1 pc = .ok (.invokespecial idx, 3))
    (hC : q_C M' rm' mc' ms' (q_A r :: av) g m (v, g', m')) (hn : av.length = n) (r0 : 0 ≤ r) (hst : q_words st ≤ 8)
    (hrm : rm'.cells = mc' ∧ rm'.slots = ms' ∧ rm'.frames + 1 ≤ rm.frames ∧ 8 + (M'.2.2.1 + 11) + rm'.locals ≤ rm.locals ∧ cu + mc' ≤ rm.cells ∧ su + ms' ≤ rm.slots)
    (kk : q_K p l e s mi args below meth c D cs b ad M.2.2.1 rm Q (cu + mc') (su + ms') g' m' (pc + 3) ls (v.toList ++ st)) : q_K p l e s mi args below meth c D cs b ad M.2.2.1 rm Q cu su g m pc ls (av.reverse ++ q_A r :: st) := by
  intro H locs ar hP hz hS hl
  obtain ⟨w1, w2, w3, w4, w5, w6⟩ := hw
  obtain ⟨rc, rs, rf, rl, f1, f2⟩ := hrm
  have e9 : q_cv b ad (q_A r) = .ref (b + r.toNat) := if_neg (Int.not_lt.mpr r0)
  have hts := C.2.2.2.2.2.1
  have hG : GoodIn q_T (Cond.code M'.1 M'.2.1 M'.2.2.1 M'.2.2.2 :: q_T) := q_goodC (ws0 := []) w3 (fun w h => by cases h)
  have hM := hC l D cs b ad adV
  rw [hret] at hM hG
  refine z_back C hS hl rfl (va_runI (b := b + r.toNat) (As := av.map (q_cv b ad)) (rest := st.map (q_cv b ad)) ⟨C.1, C.2.1, C.2.2.2.1, C.2.2.2.2.1, hts⟩ hM ⟨callB_of n hts hG rfl rc rs (hts _ w2) (hts _ w1) ⟨w4, w5, w6⟩ ⟨rf, rl⟩, hi, hts _ hin⟩
    ⟨q_blind, q_pre C hP hz hS (by rw [List.map_cons, e9])⟩ rfl (by rw [List.length_map]; exact hn) hl.size (by rw [List.map_append, List.map_cons, e9, List.map_reverse]) (lv_room (by rw [q_words_eq]; exact hst)) hd ⟨f1, f2⟩) kk

theorem z_newO (C : q_Cx M p s mi args meth c D cs b ad adV) {idx k nf N : Nat} {phi : Nat → Nat → Int} {C0 : String} {T : u_T} {ty : Nat → FieldType} (hcl : q_clok k C0 T nf ty) (hl : Cond.classLink M.1.cls idx C0 ∈ q_T) (hin : Cond.instantiable C0 nf ∈ q_T) (hini : Cond.initialized C0 ∈ q_T) (hd : decode M.2.1 pc = .ok (.new idx, 3)) (hk : (q_lay N).1 = k) (hphi : phi N = fun _ => -1) (hm : m N = q_m0 N) (hty : ∀ j, j < nf → q_tyok (ty j) (q_so k j) = true) (hc : cu + 1 ≤ rm.cells) (hs : su + nf ≤ rm.slots)
    (kk : q_K p l e s mi args below meth c D cs b ad M.2.2.1 rm Q (cu + 1) (su + nf) (N + 1, q_lay, phi) m (pc + 3) ls (q_A N :: st)) : q_K p l e s mi args below meth c D cs b ad M.2.2.1 rm Q cu su (N, q_lay, phi) m pc ls st := by
  intro H locs ar hP hz hS hl'
  obtain ⟨h1, h2, h3, h4, h5, h6⟩ := hcl
  have hts := C.2.2.2.2.2.1
  have hKn := C.2.2.2.2.2.2.2.2.1.1 k _ h1
  have hz' : H.size = b + N := hz
  refine W.newcK C.1 C.2.1 C.2.2.2.2.1 (hts _ hl) (hts _ hin) (hts _ hini) rfl hd hc hs hKn.2.1 hz' fun H1 kC hkC e1 z1 o1 => ?_
  have e9 : q_cv b ad (q_A (N : Int)) = .ref (b + N) := q_cvN
  have hW := kk H1 locs ar (q_P_1 hP hz' (fun q hq => o1 q (by omega)) ?_) (by rw [z1]; show b + N + 1 = b + (N + 1); omega) ⟨Nat.le_trans hS.1 (by omega), fun x g1 g2 => (o1 x (by have := hS.1; omega)).trans (hS.2.1 x g1 g2), hS.2.2⟩ hl'
  · rw [List.map_cons, e9] at hW
    exact hW
  · rw [q_cell_o (k := k) hk h6]
    refine ⟨_, h1, (u_born ty hts h2 hKn hkC e1 h3).to fun j hj => ?_⟩
    have hj' : j < q_nf k := by rw [h5]; exact hj
    unfold vp_V
    simp only [List.getD_eq_getElem?_getD, List.getElem?_map, List.getElem?_range hj', Option.map_some, Option.getD_some]
    have em : m (N : Int) (j : Int) = q_bk k j := by
      rw [hm, q_m0_at, hk]
    have ep : phi N j = -1 := by rw [hphi]
    rw [ep, em]
    unfold q_bk
    rw [if_neg (show ¬ k = 23 by omega)]
    rcases q_tyok_dv (hty j hj) with ⟨hso, hd⟩ | ⟨hso, hd⟩ | ⟨hso | hso, hd⟩
    · rw [hd, hso, if_neg (by decide), if_neg (by omega)]; rfl
    · rw [hd, hso, if_neg (by decide), if_neg (by omega)]; rfl
    · rw [hd, hso, if_neg (by decide), if_pos (by omega)]; rfl
    · rw [hd, hso, if_pos rfl]; rfl

theorem z_phi {N : Nat} {phi phi' : Nat → Nat → Int} (h : ∀ c, c < N → ∀ j, j < 71 → phi c j = phi' c j) (kk : q_K p l e s mi args below meth c D cs b ad M.2.2.1 rm Q cu su (N, q_lay, phi') m pc ls st) : q_K p l e s mi args below meth c D cs b ad M.2.2.1 rm Q cu su (N, q_lay, phi) m pc ls st := by
  intro H locs ar hP hz hS hl
  refine kk H locs ar ?_ hz hS hl
  rw [← q_ws_phi h]
  exact hP
/-- the script -/
theorem z_sld {L : Nat} {xs : Nat → Int32} {x : Int} {n : Nat} (C : q_Cx M p s mi args meth c D cs b ad adV) (hX : va_X (ad 29) L xs s s.heap) (hbl : ad 29 < s.heap.size) (hb : b = s.heap.size) (hd : decode M.2.1 pc = .ok (.iaload, 1)) (hx : q_w x = n) (hn : n < L)
    (kk : q_K p l e s mi args below meth c D cs b ad M.2.2.1 rm Q cu su g m (pc + 1) ls (q_I (xs n).toInt :: st)) : q_K p l e s mi args below meth c D cs b ad M.2.2.1 rm Q cu su g m pc ls (q_I x :: q_S 29 :: st) := by
  intro H locs ar hP hz hS hl
  have h := kk H locs ar hP hz hS hl
  have hcl : (Int32.ofInt x).toNatClampNeg = n := by
    have := q_clw (x := x) (by omega)
    omega
  rw [List.map_cons, show q_cv b ad (q_I (xs n).toInt) = .int (xs (Int32.ofInt x).toNatClampNeg) from by rw [hcl]; exact congrArg Value.int (Int32.ofInt_toInt _)] at h
  exact va_sld C.1 C.2.1 hX hbl (by show ¬ b ≤ ad 29; omega) hS (q_inw (by omega) (by omega)) hd h
theorem z_slen {L : Nat} {xs : Nat → Int32} (C : q_Cx M p s mi args meth c D cs b ad adV) (hX : va_X (ad 29) L xs s s.heap) (hbl : ad 29 < s.heap.size) (hb : b = s.heap.size) (hd : decode M.2.1 pc = .ok (.arraylength, 1))
    (kk : q_K p l e s mi args below meth c D cs b ad M.2.2.1 rm Q cu su g m (pc + 1) ls (q_I L :: st)) : q_K p l e s mi args below meth c D cs b ad M.2.2.1 rm Q cu su g m pc ls (q_S 29 :: st) := by
  intro H locs ar hP hz hS hl
  have h := kk H locs ar hP hz hS hl
  rw [List.map_cons, show q_cv b ad (q_I L) = .int (Int32.ofNat L) from congrArg Value.int Int32.ofInt_eq_ofNat] at h
  exact va_slen C.1 C.2.1 hX hbl (by show ¬ b ≤ ad 29; omega) hS hd h
end q_law
