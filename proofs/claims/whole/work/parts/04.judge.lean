/-! THE ABSTRACT JUDGEMENT: values are whole numbers with a tag, the heap is a memory of whole numbers (cell, place); a method's walk is said over these. -/
/-- a value: 0 an int, 1 a long, 2 a reference (its cell's number, below 0 null), 3 a text constant; 9 a local of which nothing is known -/
abbrev q_V : Type := Nat × Int
abbrev q_I (x : Int) : q_V := (0, x)
abbrev q_L (x : Int) : q_V := (1, x)
abbrev q_A (x : Int) : q_V := (2, x)
abbrev q_S (x : Int) : q_V := (3, x)
abbrev q_N : q_V := (9, 0)
abbrev q_Mem : Type := Int → Int → Int
/-- how many cells there are, each one's kind (below 12 a class of vwCl; 20 int[], 21 byte[], 22 boolean[], 23 Layout[]) and length, the references that stand in final fields -/
abbrev q_G : Type := Nat × (Nat → Nat × Nat) × (Nat → Nat → Int)
abbrev q_M : Type := MethodName × ByteArray × Nat × Option FieldType
def q_cv (b : Nat) (ad : Nat → Nat) : q_V → Value
  | (0, x) => .int (Int32.ofInt x)
  | (1, x) => .long (Int64.ofInt x)
  | (3, x) => .ref (ad x.toNat)
  | (_, x) => if x < 0 then .null else .ref (b + x.toNat)
/-- of each class's fields: 0 int or boolean, 1 long, 2 a reference that changes, 4 one that is final -/
def q_sos : List (List Nat) := [[4,0,0],[0,0,0,0,0,1],[0,0,0,0,0,0,0,0,4,4,4,4,4,4,4,4,4,4],[4,4,4,2,0,0,0,0,0,0,0],[4,4,4,4,4,4,4,4,0,0,0,0],[4,2,2,2,0,0],[0,0,0,0,0,0],[4,0,0,0,0,0],[4,4,4,0,0,0,0,0,0,0,0,0],[4,4,4,4,4,4,0,0],[4,2,2,4,4,4,4,4,4,4,4,4,4,4,4,0],[4,4,4,4,4,4,4,4,4,4,4,4,4,4,4,4,4,4,4,0,4,0,0,0,0,0,0,0,0,0,0,0,4,4,4,0,0,4,0,0,4,4,4,4,4,4,4,4,4,4,4,4,4,0,0,0,4,0,0,0,0,0,0,4,4,4,4,4,4,0,0]]
def q_so (k j : Nat) : Nat := (q_sos.getD k []).getD j 0
def q_nf (k : Nat) : Nat := (q_sos.getD k []).length
def q_cell (b : Nat) (ad : Nat → Nat) (cs : Nat → ClassId) (g : q_G) (m : q_Mem) (c : Nat) : va_E :=
  if (g.2.1 c).1 < 12 then .inr ((g.2.1 c).1, (List.range (q_nf (g.2.1 c).1)).map fun j => q_cv b ad (if q_so (g.2.1 c).1 j = 4 then (2, g.2.2 c j) else (q_so (g.2.1 c).1 j, m c j)))
  else if (g.2.1 c).1 = 23 then .inl (cs 3, (g.2.1 c).2, .inr (.inr (.inr (.inr fun j => if m c j < 0 then none else some (b + (m c j).toNat)))))
  else .inl (cs ((g.2.1 c).1 - 20), (g.2.1 c).2, .inl fun j => Int32.ofInt (m c j))
def q_ws (b : Nat) (ad : Nat → Nat) (cs : Nat → ClassId) (g : q_G) (m : q_Mem) : va_W := (List.range g.1).map fun c => (b + c, q_cell b ad cs g m c)
def q_tys (cs : Nat → ClassId) : List (ClassId × FieldType) := [(cs 0, .int), (cs 1, .byte), (cs 2, .boolean), (cs 3, .object RX1)]
/-- the tables' words that stay -/
def q_T : List Cond := lw_tbl.filter goodWord
theorem q_good {w : Cond} (h : w ∈ q_T) : (w.onTables && w.keeps) = true ∨ ∃ ty, w = .arrayClass ty := good_of_word (List.mem_filter.mp h).2
theorem q_in {w : Cond} (i : Nat) (h : lw_tbl[i]? = some w) (hg : goodWord w = true) : w ∈ q_T := List.mem_filter.mpr ⟨List.mem_of_getElem? h, hg⟩
/-- text constants: (own, entry, text, its number) -/
def q_strs : List (String × Nat × String × Nat) := [("PulseGrid$Parser", 80, "size", 0), ("PulseGrid$Parser", 60, "let", 1), ("PulseGrid$Tape", 49, "size", 2), ("PulseGrid$Tape", 55, "let", 3), ("PulseGrid$Tape", 57, "fire", 4), ("PulseGrid$Tape", 59, "onto", 5), ("PulseGrid$Tape", 61, "edge", 6), ("PulseGrid$Tape", 63, "i", 7), ("PulseGrid$Tape", 65, "j", 8), ("PulseGrid$Parser", 184, "i", 9), ("PulseGrid$Parser", 186, "j", 10), ("PulseGrid$Parser", 153, "edge", 11), ("PulseGrid$Parser", 98, "fire", 12), ("PulseGrid$Parser", 103, "onto", 13)]
def q_sby : List (List Int32) := [[115, 105, 122, 101], [108, 101, 116], [115, 105, 122, 101], [108, 101, 116], [102, 105, 114, 101], [111, 110, 116, 111], [101, 100, 103, 101], [105], [106], [105], [106], [101, 100, 103, 101], [102, 105, 114, 101], [111, 110, 116, 111]]
/-- nest mates' words -/
def q_nest : List (String × Nat × MethodName × String) := [("PulseGrid", 11, ⟨"PulseGrid$Tape", "<init>", "()V"⟩, "PulseGrid"), ("PulseGrid$Loop", 11, ⟨"PulseGrid$Layout", "<init>", "()V"⟩, "PulseGrid"), ("PulseGrid$History", 15, ⟨"PulseGrid$Layout", "<init>", "()V"⟩, "PulseGrid"), ("PulseGrid", 54, ⟨"PulseGrid$Web", "<init>", "()V"⟩, "PulseGrid"), ("PulseGrid", 61, ⟨"PulseGrid$Placement", "<init>", "()V"⟩, "PulseGrid"), ("PulseGrid", 68, ⟨"PulseGrid$Tiles", "<init>", "()V"⟩, "PulseGrid"), ("PulseGrid", 75, ⟨"PulseGrid$Search", "<init>", "()V"⟩, "PulseGrid"), ("PulseGrid", 102, ⟨"PulseGrid$Layout", "<init>", "()V"⟩, "PulseGrid"), ("PulseGrid$Parser", 126, ⟨"PulseGrid", "isLine", "(II)Z"⟩, "PulseGrid"), ("PulseGrid$Search", 37, ⟨"PulseGrid", "isLine", "(II)Z"⟩, "PulseGrid")]
/-- what stands beside the world: nest mates, text constants, two statics -/
def q_Ex (b : Nat) (ad adV : Nat → Nat) (U : State) (H : Heap) : Prop :=
  (∀ t ∈ q_nest, va_Nw (.methodLinkNest t.1 t.2.1 t.2.2.1 t.2.2.2) U) ∧ va_AO RX1 U ∧
  (∀ t ∈ q_strs, vk_R t.1 t.2.1 t.2.2.1 (ad t.2.2.2) U) ∧
  (∀ i, i < 14 → va_O "java/lang/String" (ad i) (fun q => b ≤ q) U H ∧ va_OF "java/lang/String" "coder" "B" (.int 0) (ad i) (fun q => b ≤ q) U H ∧ va_OF "java/lang/String" "value" "[B" (.ref (adV i)) (ad i) (fun q => b ≤ q) U H ∧ va_T .byte (adV i) (q_sby.getD i []).length (fun j => .int ((q_sby.getD i []).getD j 0)) (fun q => b ≤ q) U H) ∧
  va_Z "java/lang/String" "COMPACT_STRINGS" "Z" (.int 1) (fun q => b ≤ q) U H ∧
  (va_Z "jdk/internal/util/Preconditions" "SIOOBE_FORMATTER" "Ljava/util/function/BiFunction;" .null (fun q => b ≤ q) U H ∨ va_Z "jdk/internal/util/Preconditions" "SIOOBE_FORMATTER" "Ljava/util/function/BiFunction;" (.ref (ad 28)) (fun q => b ≤ q) U H) ∧
  ∀ i, i < 14 → adV i = ad (14 + i)
theorem q_Ex.same {b : Nat} {ad adV : Nat → Nat} {u U : State} {H : Heap} (hv : U.vm = u.vm) (h : q_Ex b ad adV u H) : q_Ex b ad adV U H := by
  have ha : u.vm.Alike U.vm := by rw [hv]; exact Vm.Alike.refl _
  obtain ⟨h1, h2, h3, h4, h5, h6, h7⟩ := h
  exact ⟨fun t ht => va_Nw.same rfl hv.symm (h1 t ht), va_AO.moved ha h2, fun t ht => vk_R.same hv (h3 t ht), fun i hi => ⟨va_O.moved ha (h4 i hi).1, va_OF.moved ha (h4 i hi).2.1, va_OF.moved ha (h4 i hi).2.2.1, va_T.moved ha (h4 i hi).2.2.2⟩, va_Z.moved ha h5, h6.imp (va_Z.moved ha) (va_Z.moved ha), h7⟩
theorem q_Ex.warm {b : Nat} {ad adV : Nat → Nat} {s U : State} {H : Heap} (hW : s.WarmedH U.vm) (h : q_Ex b ad adV s H) : q_Ex b ad adV U H := by
  have ha : s.vm.Alike U.vm := hW.alike
  obtain ⟨h1, h2, h3, h4, h5, h6, h7⟩ := h
  exact ⟨fun t ht => va_Nw.warmM hW (h1 t ht), va_AO.moved ha h2, fun t ht => vk_R.warm hW (h3 t ht), fun i hi => ⟨va_O.moved ha (h4 i hi).1, va_OF.moved ha (h4 i hi).2.1, va_OF.moved ha (h4 i hi).2.2.1, va_T.moved ha (h4 i hi).2.2.2⟩, va_Z.moved ha h5, h6.imp (va_Z.moved ha) (va_Z.moved ha), h7⟩
theorem q_Ex.kept {b : Nat} {ad adV : Nat → Nat} {U : State} {H H1 : Heap} (h : q_Ex b ad adV U H) (hq : ∀ a : Nat, a < H.size → ¬ (b ≤ a) → H1[a]? = H[a]?) : q_Ex b ad adV U H1 := by
  obtain ⟨h1, h2, h3, h4, h5, h6, h7⟩ := h
  exact ⟨h1, h2, h3, fun i hi => ⟨(h4 i hi).1.kept hq, (h4 i hi).2.1.kept hq, (h4 i hi).2.2.1.kept hq, (h4 i hi).2.2.2.kept hq⟩, h5.kept hq, h6.imp (fun h => h.kept hq) (fun h => h.kept hq), h7⟩
def q_Cx (M : q_M) (p : Program) (s : State) (mi : MethodId) (args : Array Value) (meth : Method) (c : Code) (D : va_G) (cs : Nat → ClassId) (b : Nat) (ad adV : Nat → Nat) : Prop :=
  p.tables.exec = Jvm.exec ∧ c.code = M.2.1 ∧ meth.sig.returnType = M.2.2.2 ∧ c.maxLocals = M.2.2.1 ∧ s.vm.findClass M.1.cls = some mi.cls ∧ (∀ w ∈ q_T, w.before args s = true) ∧ meth.locks = false ∧ meth.name = M.1.name ∧ va_K D vwCl (q_tys cs) s ∧ b ≤ s.heap.size ∧ q_Ex b ad adV s s.heap
def q_Qc (b : Nat) (ad : Nat → Nat) (D : va_G) (cs : Nat → ClassId) (y : Option q_V × q_G × q_Mem) : Array Value → State → Outcome → State → Prop := fun _ st o t =>
  (o = .returned (y.1.map (q_cv b ad)) ∧ va_P D vwCl (q_ws b ad cs y.2.1 y.2.2) t.heap ∧ t.heap.size = b + y.2.1.1) ∧ va_F (fun q => b ≤ q) st t
def q_Pc (b : Nat) (ad adV : Nat → Nat) (D : va_G) (cs : Nat → ClassId) (av : List q_V) (g : q_G) (m : q_Mem) : Array Value → State → Prop :=
  va_Pc (av.map (q_cv b ad)) (fun U => va_K D vwCl (q_tys cs) U ∧ va_P D vwCl (q_ws b ad cs g m) U.heap ∧ U.heap.size = b + g.1 ∧ q_Ex b ad adV U U.heap)
def q_ls (b : Nat) (ad : Nat → Nat) (nL : Nat) (ls : List q_V) (ar : Array Slot) : Prop := ∃ l, lv_has ar nL l ∧ ∀ i v, ls[i]? = some v → v.1 ≠ 9 → (i, q_cv b ad v) ∈ l
/-- at pc, with these locals, this stack and this memory, the method comes to its end with y -/
def q_R (M : q_M) (rm : Room) (mc ms : Nat) (y : Option q_V × q_G × q_Mem) (cu su : Nat) (g : q_G) (m : q_Mem) (pc : Nat) (ls st : List q_V) : Prop :=
  ∀ (p : Program) (l : Launch) (e : Env) (s : State) (mi : MethodId) (args : Array Value) (below : List Frame) (meth : Method) (c : Code) (H : Heap) (locs : List Loc) (D : va_G) (cs : Nat → ClassId) (b : Nat) (ad adV : Nat → Nat) (ar : Array Slot),
    q_Cx M p s mi args meth c D cs b ad adV → va_P D vwCl (q_ws b ad cs g m) H → H.size = b + g.1 → va_S (fun q => b ≤ q) s.heap H locs → q_ls b ad M.2.2.1 ls ar →
    W p l e rm s mi args below meth c H locs cu su (MQ below (q_Qc b ad D cs y) args s mc ms (fun q => b ≤ q)) (F0 mi pc ar (st.map (q_cv b ad)))
/-- a method's contract -/
def q_C (M : q_M) (rm : Room) (mc ms : Nat) (av : List q_V) (g : q_G) (m : q_Mem) (y : Option q_V × q_G × q_Mem) : Prop :=
  ∀ (l : Launch) (D : va_G) (cs : Nat → ClassId) (b : Nat) (ad adV : Nat → Nat), Met l M.1 (Cond.code M.1 M.2.1 M.2.2.1 M.2.2.2 :: q_T) rm (q_Pc b ad adV D cs av g m) (q_Qc b ad D cs y) mc ms (fun q => b ≤ q)
def q_en (av : List q_V) : List q_V := av.flatMap fun v => if v.1 = 1 then [v, q_N] else [v]
theorem q_cat (b : Nat) (ad : Nat → Nat) (v : q_V) : (q_cv b ad v).category = if v.1 = 1 then 2 else 1 := by
  obtain ⟨t, x⟩ := v
  match t with
  | 0 => rfl
  | 1 => rfl
  | 3 => rfl
  | 2 =>
    show (if x < 0 then Value.null else .ref (b + x.toNat)).category = 1
    split <;> rfl
  | n + 4 =>
    rw [if_neg (by show ¬ n + 4 = 1; omega)]
    show (if x < 0 then Value.null else .ref (b + x.toNat)).category = 1
    split <;> rfl
theorem q_en_args (b : Nat) (ad : Nat → Nat) (av : List q_V) : ∀ (n i : Nat) (v : q_V), (q_en av)[i]? = some v → v.1 ≠ 9 → (n + i, q_cv b ad v) ∈ lv_args n (av.map (q_cv b ad)) := by
  induction av with
  | nil => intro n i v h; simp [q_en] at h
  | cons a r ih =>
    intro n i v h h9
    have hq : q_en (a :: r) = (if a.1 = 1 then [a, q_N] else [a]) ++ q_en r := by simp [q_en]
    rw [hq] at h
    rw [List.map_cons, lv_args, q_cat]
    by_cases h1 : a.1 = 1
    · rw [if_pos h1] at h
      rw [if_pos h1, if_pos rfl]
      match i, h with
      | 0, h => simp at h; subst h; exact List.mem_cons_self
      | 1, h => simp at h; subst h; exact absurd rfl h9
      | i + 2, h =>
        have h' : (q_en r)[i]? = some v := by simpa using h
        have := ih (n + 2) i v h' h9
        rw [show n + (i + 2) = n + 2 + i by omega]
        exact List.mem_cons_of_mem _ this
    · rw [if_neg h1] at h
      rw [if_neg h1, if_neg (by decide)]
      match i, h with
      | 0, h => simp at h; subst h; exact List.mem_cons_self
      | i + 1, h =>
        have h' : (q_en r)[i]? = some v := by simpa using h
        have := ih (n + 1) i v h' h9
        rw [show n + (i + 1) = n + 1 + i by omega]
        exact List.mem_cons_of_mem _ this
theorem q_en_len (b : Nat) (ad : Nat → Nat) (av : List q_V) : (lg_sl (av.map (q_cv b ad))).length = (q_en av).length := by
  induction av with
  | nil => rfl
  | cons a r ih =>
    have e1 : lg_sl ((a :: r).map (q_cv b ad)) = (if (q_cv b ad a).category = 2 then [Slot.val (q_cv b ad a), .second] else [.val (q_cv b ad a)]) ++ lg_sl (r.map (q_cv b ad)) := by simp [lg_sl]
    have e2 : q_en (a :: r) = (if a.1 = 1 then [a, q_N] else [a]) ++ q_en r := by simp [q_en]
    rw [e1, e2, List.length_append, List.length_append, ih, q_cat]
    by_cases h1 : a.1 = 1 <;> simp [h1]
/-- a method's contract out of the walk from its entry -/
theorem q_ofR {M : q_M} {rm : Room} {mc ms : Nat} {av ls : List q_V} {g : q_G} {m : q_Mem} {y : Option q_V × q_G × q_Mem} (hy : plainName M.1.cls = true) (k : Nat) (hls : ls = q_en av ++ List.replicate k q_N) (hn : (q_en av).length ≤ M.2.2.1)
    (h : q_R M rm mc ms y 0 0 g m 0 ls []) : q_C M rm mc ms av g m y := by
  intro l D cs b ad adV
  refine Met.ofW (cc := M.2.1) (maxL := M.2.2.1) (ret := M.2.2.2) hy rfl ?_
  intro p e s mi args below meth c s₁ B hml hv
  obtain ⟨rfl, hK, hP, hz, hE⟩ := hv
  have hts := atoms_spec (ws := Cond.code M.1 M.2.1 M.2.2.1 M.2.2.2 :: q_T) B.pre
  rw [lg_entry_eq]
  refine h p l e s mi _ below meth c s.heap [] D cs b ad adV _ ⟨B.exec, B.bytes, B.returns, hml, findClass_of_methodNamed B.named, fun w hw => hts w (List.mem_cons_of_mem _ hw), B.notSynchronized, (name_of_methodNamed B.named B.method).1, hK, by omega, hE⟩ hP hz va_S.rf ?_
  have hle : (lg_sl (av.map (q_cv b ad))).length ≤ M.2.2.1 := by rw [q_en_len]; exact hn
  refine ⟨_, lv_entry (av.map (q_cv b ad)) hle, fun i v hi h9 => ?_⟩
  rw [hls] at hi
  by_cases hl : i < (q_en av).length
  · rw [List.getElem?_append_left hl] at hi
    have := q_en_args b ad av 0 i v hi h9
    rwa [Nat.zero_add] at this
  · rw [List.getElem?_append_right (by omega)] at hi
    have := List.mem_of_getElem? hi
    rw [List.mem_replicate] at this
    rw [this.2] at h9
    exact absurd rfl h9
