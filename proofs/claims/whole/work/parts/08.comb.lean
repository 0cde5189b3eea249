/-! THE FUNCTIONAL CODE's WORDS, and rows that walk it beside the bytecode -/
abbrev q_Res : Type := Option (Int × q_Mem)
def q_rd (m : q_Mem) (c : Int) (n : Nat) (k : Int) (K : Int → q_Res) : q_Res := if 0 ≤ q_w k ∧ q_w k < n then K (m c (q_w k)) else none
def q_wr (m : q_Mem) (c : Int) (n : Nat) (k v : Int) (K : q_Mem → q_Res) : q_Res := if 0 ≤ q_w k ∧ q_w k < n then K (q_up m c (q_w k) v) else none
def q_wrz (m : q_Mem) (c : Int) (n : Nat) (k v : Int) (K : q_Mem → q_Res) : q_Res := if (0 ≤ q_w k ∧ q_w k < n) ∧ (v = 0 ∨ v = 1) then K (q_up m c (q_w k) v) else none
def q_pf (m : q_Mem) (r j v : Int) (K : q_Mem → q_Res) : q_Res := K (q_up m r j v)
def q_pz (m : q_Mem) (r j v : Int) (K : q_Mem → q_Res) : q_Res := if v = 0 ∨ v = 1 then K (q_up m r j v) else none
def q_dv (x z : Int) (K : Int → q_Res) : q_Res := if 0 ≤ q_w x ∧ 0 < q_w z then K (q_w x / q_w z) else none
def q_md (x z : Int) (K : Int → q_Res) : q_Res := if 0 ≤ q_w x ∧ 0 < q_w z then K (q_w x % q_w z) else none
def q_lt (x : Int) (K : Int → q_Res) : q_Res := K x
def q_bd (e : q_Res) (K : Int → q_Mem → q_Res) : q_Res := match e with
  | some r => K r.1 r.2
  | none => none
def q_one (l : List Int) (r : Int) (x : q_Res) : q_Res := if r ∈ l then x else none
def q_rt (v : Int) (m : q_Mem) : q_Res := some (v, m)
def q_rz (v : Int) (m : q_Mem) : q_Res := if v = 0 ∨ v = 1 then some (v, m) else none
def q_fill (m : q_Mem) (c : Int) (n : Nat) (v : Int) : q_Mem := fun c' i' => if c' = c ∧ 0 ≤ i' ∧ i' < n then v else m c' i'
/-- loops are given so many turns -/
def q_F : Nat := 20000
def q_room (d : Nat) : Room := { frames := d, cells := 0, slots := 0, locals := 64 * d }
abbrev q_E (M : q_M) (d N : Nat) (t : Option Nat) (r : Int × q_Mem) (m : q_Mem) (pc : Nat) (ls st : List q_V) : Prop := q_R M (q_room d) 0 0 (t.map fun k => (k, r.1), q_g N, r.2) 0 0 (q_g N) m pc ls st
theorem q_wlit {x : Int} (h : (decide (-2147483648 ≤ x) && decide (x < 2147483648)) = true) : q_w x = x := by
  rw [Bool.and_eq_true, decide_eq_true_eq, decide_eq_true_eq] at h
  exact q_w_id h.1 h.2
theorem q_no {α : Type} {P : Prop} {r : α} (h : (none : Option α) = some r) : P := by cases h
/-- fewer locals known -/
def q_le : List q_V → List q_V → Prop
  | [], _ => True
  | _ :: _, [] => False
  | v :: r, w :: s => (v.1 = 9 ∨ v = w) ∧ q_le r s
theorem q_le_at : ∀ (a b : List q_V), q_le a b → ∀ (i : Nat) (v : q_V), a[i]? = some v → v.1 ≠ 9 → b[i]? = some v := by
  intro a
  induction a with
  | nil => intro b _ i v h; simp at h
  | cons x r ih =>
    intro b hb i v h h9
    cases b with
    | nil => exact hb.elim
    | cons z s =>
      cases i with
      | zero =>
        simp at h
        subst h
        rcases hb.1 with h1 | h1
        · exact absurd h1 h9
        · rw [h1]; rfl
      | succ i =>
        simp only [List.getElem?_cons_succ] at h ⊢
        exact ih s hb.2 i v h h9
theorem q_weak {M : q_M} {rm : Room} {mc ms : Nat} {y : Option q_V × q_G × q_Mem} {cu su : Nat} {g : q_G} {m : q_Mem} {pc : Nat} {ls ls' st : List q_V} (h : q_R M rm mc ms y cu su g m pc ls' st) (hl : q_le ls' ls) : q_R M rm mc ms y cu su g m pc ls st := by
  intro p l e s mi args below meth c H locs D cs b ad adV ar C hP hz hS h9
  obtain ⟨l0, h1, h2⟩ := h9
  exact h p l e s mi args below meth c H locs D cs b ad adV ar C hP hz hS ⟨l0, h1, fun i v hi h9 => h2 i v (q_le_at _ _ hl i v hi h9) h9⟩
section q_comb
variable {M : q_M} {d N : Nat} {t : Option Nat} {r : Int × q_Mem} {m : q_Mem} {pc : Nat} {ls st : List q_V}
theorem e_rd {c k : Int} {n : Nat} {K : Int → q_Res} (h : q_rd m c n k K = some r) (hd : decode M.2.1 pc = .ok (.iaload, 1)) (hr : q_ar (q_g N) c 20 n) (kk : ∀ v, K v = some r → q_E M d N t r m (pc + 1) ls (q_I v :: st)) : q_E M d N t r m pc ls (q_I k :: q_A c :: st) := by
  unfold q_rd at h
  by_cases hc : 0 ≤ q_w k ∧ q_w k < n
  · rw [if_pos hc] at h
    exact q_iald hd hr hc.1 hc.2 (kk _ h)
  · rw [if_neg hc] at h
    exact q_no h
theorem e_rdb {c k : Int} {n : Nat} {K : Int → q_Res} (h : q_rd m c n k K = some r) (hd : decode M.2.1 pc = .ok (.baload, 1)) (hr : q_ar (q_g N) c 21 n) (kk : ∀ v, K v = some r → q_E M d N t r m (pc + 1) ls (q_I v :: st)) : q_E M d N t r m pc ls (q_I k :: q_A c :: st) := by
  unfold q_rd at h
  by_cases hc : 0 ≤ q_w k ∧ q_w k < n
  · rw [if_pos hc] at h
    exact q_bald hd hr hc.1 hc.2 (kk _ h)
  · rw [if_neg hc] at h
    exact q_no h
theorem e_rdz {c k : Int} {n : Nat} {K : Int → q_Res} (h : q_rd m c n k K = some r) (hd : decode M.2.1 pc = .ok (.baload, 1)) (hr : q_ar (q_g N) c 22 n) (kk : ∀ v, K v = some r → q_E M d N t r m (pc + 1) ls (q_I v :: st)) : q_E M d N t r m pc ls (q_I k :: q_A c :: st) := by
  unfold q_rd at h
  by_cases hc : 0 ≤ q_w k ∧ q_w k < n
  · rw [if_pos hc] at h
    exact q_zald hd hr hc.1 hc.2 (kk _ h)
  · rw [if_neg hc] at h
    exact q_no h
theorem e_rda {c k : Int} {n : Nat} {K : Int → q_Res} (h : q_rd m c n k K = some r) (hd : decode M.2.1 pc = .ok (.aaload, 1)) (hr : q_ar (q_g N) c 23 n) (kk : ∀ v, K v = some r → q_E M d N t r m (pc + 1) ls (q_A v :: st)) : q_E M d N t r m pc ls (q_I k :: q_A c :: st) := by
  unfold q_rd at h
  by_cases hc : 0 ≤ q_w k ∧ q_w k < n
  · rw [if_pos hc] at h
    exact q_aald hd hr hc.1 hc.2 (kk _ h)
  · rw [if_neg hc] at h
    exact q_no h
theorem e_wr {c k v : Int} {n : Nat} {K : q_Mem → q_Res} (h : q_wr m c n k v K = some r) (hd : decode M.2.1 pc = .ok (.iastore, 1)) (hr : q_ar (q_g N) c 20 n) (kk : ∀ m', K m' = some r → q_E M d N t r m' (pc + 1) ls st) : q_E M d N t r m pc ls (q_I v :: q_I k :: q_A c :: st) := by
  unfold q_wr at h
  by_cases hc : 0 ≤ q_w k ∧ q_w k < n
  · rw [if_pos hc] at h
    exact q_iast hd hr hc.1 hc.2 (kk _ h)
  · rw [if_neg hc] at h
    exact q_no h
theorem e_wrb {c k v : Int} {n : Nat} {K : q_Mem → q_Res} (h : q_wr m c n k (q_i2b v) K = some r) (hd : decode M.2.1 pc = .ok (.bastore, 1)) (hr : q_ar (q_g N) c 21 n) (kk : ∀ m', K m' = some r → q_E M d N t r m' (pc + 1) ls st) : q_E M d N t r m pc ls (q_I v :: q_I k :: q_A c :: st) := by
  unfold q_wr at h
  by_cases hc : 0 ≤ q_w k ∧ q_w k < n
  · rw [if_pos hc] at h
    exact q_bast hd hr hc.1 hc.2 (kk _ h)
  · rw [if_neg hc] at h
    exact q_no h
theorem e_wrz {c k v : Int} {n : Nat} {K : q_Mem → q_Res} (h : q_wrz m c n k v K = some r) (hd : decode M.2.1 pc = .ok (.bastore, 1)) (hr : q_ar (q_g N) c 22 n) (kk : ∀ m', K m' = some r → q_E M d N t r m' (pc + 1) ls st) : q_E M d N t r m pc ls (q_I v :: q_I k :: q_A c :: st) := by
  unfold q_wrz at h
  by_cases hc : (0 ≤ q_w k ∧ q_w k < n) ∧ (v = 0 ∨ v = 1)
  · rw [if_pos hc] at h
    exact q_zast hd hr hc.1.1 hc.1.2 hc.2 (kk _ h)
  · rw [if_neg hc] at h
    exact q_no h
theorem e_wra {c k v : Int} {n : Nat} {K : q_Mem → q_Res} (h : q_wr m c n k v K = some r) (hd : decode M.2.1 pc = .ok (.aastore, 1)) (hr : q_ar (q_g N) c 23 n) (hv : q_is (q_g N) v 1) (kk : ∀ m', K m' = some r → q_E M d N t r m' (pc + 1) ls st) : q_E M d N t r m pc ls (q_A v :: q_I k :: q_A c :: st) := by
  unfold q_wr at h
  by_cases hc : 0 ≤ q_w k ∧ q_w k < n
  · rw [if_pos hc] at h
    exact q_aast hd hr hc.1 hc.2 hv (kk _ h)
  · rw [if_neg hc] at h
    exact q_no h
theorem e_pfI {c j v : Int} {K : q_Mem → q_Res} {idx k i : Nat} (h : q_pf m c j v K = some r) (hf : q_fl M.1.cls idx k i 0 false .int) (hd : decode M.2.1 pc = .ok (.putfield idx, 3)) (hr : q_is (q_g N) c k) (hj : (i : Int) = j) (kk : ∀ m', K m' = some r → q_E M d N t r m' (pc + 3) ls st) : q_E M d N t r m pc ls (q_I v :: q_A c :: st) := by
  subst hj
  exact q_putI hf hd hr (kk _ h)
theorem e_pfL {c j v : Int} {K : q_Mem → q_Res} {idx k i : Nat} (h : q_pf m c j v K = some r) (hf : q_fl M.1.cls idx k i 1 false .long) (hd : decode M.2.1 pc = .ok (.putfield idx, 3)) (hr : q_is (q_g N) c k) (hj : (i : Int) = j) (kk : ∀ m', K m' = some r → q_E M d N t r m' (pc + 3) ls st) : q_E M d N t r m pc ls (q_L v :: q_A c :: st) := by
  subst hj
  exact q_putL hf hd hr (kk _ h)
theorem e_pfR {c j v : Int} {K : q_Mem → q_Res} {idx k i : Nat} {tt : FieldType} (h : q_pf m c j v K = some r) (hf : q_fl M.1.cls idx k i 2 false tt) (ht : (∃ n, tt = .object n) ∨ ∃ x, tt = .array x) (hd : decode M.2.1 pc = .ok (.putfield idx, 3)) (hr : q_is (q_g N) c k) (hv : 0 ≤ v) (hj : (i : Int) = j) (kk : ∀ m', K m' = some r → q_E M d N t r m' (pc + 3) ls st) : q_E M d N t r m pc ls (q_A v :: q_A c :: st) := by
  subst hj
  exact q_putR hf ht hd hr hv (kk _ h)
theorem e_pfZ {c j v : Int} {K : q_Mem → q_Res} {idx k i : Nat} (h : q_pz m c j v K = some r) (hf : q_fl M.1.cls idx k i 0 false .boolean) (hd : decode M.2.1 pc = .ok (.putfield idx, 3)) (hr : q_is (q_g N) c k) (hj : (i : Int) = j) (kk : ∀ m', K m' = some r → q_E M d N t r m' (pc + 3) ls st) : q_E M d N t r m pc ls (q_I v :: q_A c :: st) := by
  subst hj
  unfold q_pz at h
  by_cases hc : v = 0 ∨ v = 1
  · rw [if_pos hc] at h
    exact q_putZ hf hd hr hc (kk _ h)
  · rw [if_neg hc] at h
    exact q_no h
theorem e_gI {idx k i : Nat} {fin : Bool} {tt : FieldType} {c v : Int} (hf : q_fl M.1.cls idx k i 0 fin tt) (hd : decode M.2.1 pc = .ok (.getfield idx, 3)) (hr : q_is (q_g N) c k) (hv : m c i = v) (kk : q_E M d N t r m (pc + 3) ls (q_I v :: st)) : q_E M d N t r m pc ls (q_A c :: st) := by
  subst hv
  exact q_getI hf hd hr kk
theorem e_gL {idx k i : Nat} {fin : Bool} {tt : FieldType} {c v : Int} (hf : q_fl M.1.cls idx k i 1 fin tt) (hd : decode M.2.1 pc = .ok (.getfield idx, 3)) (hr : q_is (q_g N) c k) (hv : m c i = v) (kk : q_E M d N t r m (pc + 3) ls (q_L v :: st)) : q_E M d N t r m pc ls (q_A c :: st) := by
  subst hv
  exact q_getL hf hd hr kk
/-- a reference that may be another one: looked at, named -/
theorem e_gR {v0 : Int} {idx k i : Nat} {fin : Bool} {tt : FieldType} {c : Int} {l : List Int} {K : Int → q_Res} (h : q_lt v0 (fun v => q_one l v (K v)) = some r) (hf : q_fl M.1.cls idx k i 2 fin tt) (hd : decode M.2.1 pc = .ok (.getfield idx, 3)) (hr : q_is (q_g N) c k) (hv : m c i = v0) (kk : ∀ v, v ∈ l → K v = some r → q_E M d N t r m (pc + 3) ls (q_A v :: st)) : q_E M d N t r m pc ls (q_A c :: st) := by
  subst hv
  refine q_getR hf hd hr ?_
  change (if m c i ∈ l then K (m c i) else none) = some r at h
  by_cases hc : m c i ∈ l
  · rw [if_pos hc] at h
    exact kk _ hc h
  · rw [if_neg hc] at h
    exact q_no h
theorem e_one {l : List Int} {v : Int} {X : q_Res} (h : q_one l v X = some r) : v ∈ l ∧ X = some r := by
  unfold q_one at h
  by_cases hc : v ∈ l
  · rw [if_pos hc] at h
    exact ⟨hc, h⟩
  · rw [if_neg hc] at h
    exact q_no h
theorem e_dv {x z : Int} {K : Int → q_Res} (h : q_dv x z K = some r) (hd : decode M.2.1 pc = .ok (.idiv, 1)) (kk : ∀ v, K v = some r → q_E M d N t r m (pc + 1) ls (q_I v :: st)) : q_E M d N t r m pc ls (q_I z :: q_I x :: st) := by
  unfold q_dv at h
  by_cases hc : 0 ≤ q_w x ∧ 0 < q_w z
  · rw [if_pos hc] at h
    exact q_idiv hd hc.1 hc.2 (kk _ h)
  · rw [if_neg hc] at h
    exact q_no h
theorem e_md {x z : Int} {K : Int → q_Res} (h : q_md x z K = some r) (hd : decode M.2.1 pc = .ok (.irem, 1)) (kk : ∀ v, K v = some r → q_E M d N t r m (pc + 1) ls (q_I v :: st)) : q_E M d N t r m pc ls (q_I z :: q_I x :: st) := by
  unfold q_md at h
  by_cases hc : 0 ≤ q_w x ∧ 0 < q_w z
  · rw [if_pos hc] at h
    exact q_irem hd hc.1 hc.2 (kk _ h)
  · rw [if_neg hc] at h
    exact q_no h
theorem e_if_eq {x x' : Int} {off : Int} {tgt : Nat} {A B : q_Res} (h : (if x' = 0 then A else B) = some r) (hx : q_w x = x') (hd : decode M.2.1 pc = .ok (.ifCond .eq off, 3)) (ht : (pc : Int) + off = (tgt : Int)) (kt : A = some r → q_E M d N t r m tgt ls st) (kf : B = some r → q_E M d N t r m (pc + 3) ls st) : q_E M d N t r m pc ls (q_I x :: st) := by
  subst hx
  refine q_if_eq hd ht (fun c => kt ?_) (fun c => kf ?_)
  · rw [if_pos c] at h; exact h
  · rw [if_neg c] at h; exact h
theorem e_icmp_eq {x x' z z' : Int} {off : Int} {tgt : Nat} {A B : q_Res} (h : (if x' = z' then A else B) = some r) (hx : q_w x = x') (hz : q_w z = z') (hd : decode M.2.1 pc = .ok (.if_icmp .eq off, 3)) (ht : (pc : Int) + off = (tgt : Int)) (kt : A = some r → q_E M d N t r m tgt ls st) (kf : B = some r → q_E M d N t r m (pc + 3) ls st) : q_E M d N t r m pc ls (q_I z :: q_I x :: st) := by
  subst hx hz
  refine q_icmp_eq hd ht (fun c => kt ?_) (fun c => kf ?_)
  · rw [if_pos c] at h; exact h
  · rw [if_neg c] at h; exact h
theorem e_if_ne {x x' : Int} {off : Int} {tgt : Nat} {A B : q_Res} (h : (if x' = 0 then A else B) = some r) (hx : q_w x = x') (hd : decode M.2.1 pc = .ok (.ifCond .ne off, 3)) (ht : (pc : Int) + off = (tgt : Int)) (kt : B = some r → q_E M d N t r m tgt ls st) (kf : A = some r → q_E M d N t r m (pc + 3) ls st) : q_E M d N t r m pc ls (q_I x :: st) := by
  subst hx
  refine q_if_ne hd ht (fun c => kt ?_) (fun c => kf ?_)
  · rw [if_neg c] at h; exact h
  · rw [if_pos c] at h; exact h
theorem e_icmp_ne {x x' z z' : Int} {off : Int} {tgt : Nat} {A B : q_Res} (h : (if x' = z' then A else B) = some r) (hx : q_w x = x') (hz : q_w z = z') (hd : decode M.2.1 pc = .ok (.if_icmp .ne off, 3)) (ht : (pc : Int) + off = (tgt : Int)) (kt : B = some r → q_E M d N t r m tgt ls st) (kf : A = some r → q_E M d N t r m (pc + 3) ls st) : q_E M d N t r m pc ls (q_I z :: q_I x :: st) := by
  subst hx hz
  refine q_icmp_ne hd ht (fun c => kt ?_) (fun c => kf ?_)
  · rw [if_neg c] at h; exact h
  · rw [if_pos c] at h; exact h
theorem e_if_lt {x x' : Int} {off : Int} {tgt : Nat} {A B : q_Res} (h : (if x' < 0 then A else B) = some r) (hx : q_w x = x') (hd : decode M.2.1 pc = .ok (.ifCond .lt off, 3)) (ht : (pc : Int) + off = (tgt : Int)) (kt : A = some r → q_E M d N t r m tgt ls st) (kf : B = some r → q_E M d N t r m (pc + 3) ls st) : q_E M d N t r m pc ls (q_I x :: st) := by
  subst hx
  refine q_if_lt hd ht (fun c => kt ?_) (fun c => kf ?_)
  · rw [if_pos c] at h; exact h
  · rw [if_neg c] at h; exact h
theorem e_icmp_lt {x x' z z' : Int} {off : Int} {tgt : Nat} {A B : q_Res} (h : (if x' < z' then A else B) = some r) (hx : q_w x = x') (hz : q_w z = z') (hd : decode M.2.1 pc = .ok (.if_icmp .lt off, 3)) (ht : (pc : Int) + off = (tgt : Int)) (kt : A = some r → q_E M d N t r m tgt ls st) (kf : B = some r → q_E M d N t r m (pc + 3) ls st) : q_E M d N t r m pc ls (q_I z :: q_I x :: st) := by
  subst hx hz
  refine q_icmp_lt hd ht (fun c => kt ?_) (fun c => kf ?_)
  · rw [if_pos c] at h; exact h
  · rw [if_neg c] at h; exact h
theorem e_if_ge {x x' : Int} {off : Int} {tgt : Nat} {A B : q_Res} (h : (if 0 ≤ x' then A else B) = some r) (hx : q_w x = x') (hd : decode M.2.1 pc = .ok (.ifCond .ge off, 3)) (ht : (pc : Int) + off = (tgt : Int)) (kt : A = some r → q_E M d N t r m tgt ls st) (kf : B = some r → q_E M d N t r m (pc + 3) ls st) : q_E M d N t r m pc ls (q_I x :: st) := by
  subst hx
  refine q_if_ge hd ht (fun c => kt ?_) (fun c => kf ?_)
  · rw [if_pos c] at h; exact h
  · rw [if_neg c] at h; exact h
theorem e_icmp_ge {x x' z z' : Int} {off : Int} {tgt : Nat} {A B : q_Res} (h : (if z' ≤ x' then A else B) = some r) (hx : q_w x = x') (hz : q_w z = z') (hd : decode M.2.1 pc = .ok (.if_icmp .ge off, 3)) (ht : (pc : Int) + off = (tgt : Int)) (kt : A = some r → q_E M d N t r m tgt ls st) (kf : B = some r → q_E M d N t r m (pc + 3) ls st) : q_E M d N t r m pc ls (q_I z :: q_I x :: st) := by
  subst hx hz
  refine q_icmp_ge hd ht (fun c => kt ?_) (fun c => kf ?_)
  · rw [if_pos c] at h; exact h
  · rw [if_neg c] at h; exact h
theorem e_if_gt {x x' : Int} {off : Int} {tgt : Nat} {A B : q_Res} (h : (if 0 < x' then A else B) = some r) (hx : q_w x = x') (hd : decode M.2.1 pc = .ok (.ifCond .gt off, 3)) (ht : (pc : Int) + off = (tgt : Int)) (kt : A = some r → q_E M d N t r m tgt ls st) (kf : B = some r → q_E M d N t r m (pc + 3) ls st) : q_E M d N t r m pc ls (q_I x :: st) := by
  subst hx
  refine q_if_gt hd ht (fun c => kt ?_) (fun c => kf ?_)
  · rw [if_pos c] at h; exact h
  · rw [if_neg c] at h; exact h
theorem e_icmp_gt {x x' z z' : Int} {off : Int} {tgt : Nat} {A B : q_Res} (h : (if z' < x' then A else B) = some r) (hx : q_w x = x') (hz : q_w z = z') (hd : decode M.2.1 pc = .ok (.if_icmp .gt off, 3)) (ht : (pc : Int) + off = (tgt : Int)) (kt : A = some r → q_E M d N t r m tgt ls st) (kf : B = some r → q_E M d N t r m (pc + 3) ls st) : q_E M d N t r m pc ls (q_I z :: q_I x :: st) := by
  subst hx hz
  refine q_icmp_gt hd ht (fun c => kt ?_) (fun c => kf ?_)
  · rw [if_pos c] at h; exact h
  · rw [if_neg c] at h; exact h
theorem e_if_le {x x' : Int} {off : Int} {tgt : Nat} {A B : q_Res} (h : (if x' ≤ 0 then A else B) = some r) (hx : q_w x = x') (hd : decode M.2.1 pc = .ok (.ifCond .le off, 3)) (ht : (pc : Int) + off = (tgt : Int)) (kt : A = some r → q_E M d N t r m tgt ls st) (kf : B = some r → q_E M d N t r m (pc + 3) ls st) : q_E M d N t r m pc ls (q_I x :: st) := by
  subst hx
  refine q_if_le hd ht (fun c => kt ?_) (fun c => kf ?_)
  · rw [if_pos c] at h; exact h
  · rw [if_neg c] at h; exact h
theorem e_icmp_le {x x' z z' : Int} {off : Int} {tgt : Nat} {A B : q_Res} (h : (if x' ≤ z' then A else B) = some r) (hx : q_w x = x') (hz : q_w z = z') (hd : decode M.2.1 pc = .ok (.if_icmp .le off, 3)) (ht : (pc : Int) + off = (tgt : Int)) (kt : A = some r → q_E M d N t r m tgt ls st) (kf : B = some r → q_E M d N t r m (pc + 3) ls st) : q_E M d N t r m pc ls (q_I z :: q_I x :: st) := by
  subst hx hz
  refine q_icmp_le hd ht (fun c => kt ?_) (fun c => kf ?_)
  · rw [if_pos c] at h; exact h
  · rw [if_neg c] at h; exact h
/-! calls: e is what the callee's functional code gives -/
theorem q_bd_some {e : q_Res} {K : Int → q_Mem → q_Res} (h : q_bd e K = some r) : ∃ v, e = some v ∧ K v.1 v.2 = some r := by
  cases e with
  | none => exact q_no h
  | some v => exact ⟨v, rfl, h⟩
theorem e_callV {M' : q_M} {d' idx n k : Nat} {t' : Option Nat} {av : List q_V} {c : Int} {e : q_Res} {K : Int → q_Mem → q_Res} (h : q_bd e K = some r) (hw : q_cl M.1.cls idx M' n) (hin : Cond.instanceMethod M'.1 ∈ q_T) (hse : Cond.selects M'.1.cls M'.1 M'.1 ∈ q_T) (hd : decode M.2.1 pc = .ok (.invokevirtual idx, 3))
    (hC : ∀ v, e = some v → q_C M' (q_room d') 0 0 (q_A c :: av) (q_g N) m (t'.map fun k => (k, v.1), q_g N, v.2)) (hn : av.length = n) (hr : q_is (q_g N) c k) (hk : ∃ T N, vwCl[k]? = some (M'.1.cls, T, N)) (hk12 : k < 12) (hst : q_words st ≤ 8) (hrm : d' < d ∧ M'.2.2.1 ≤ 45) {s0 : List q_V} (hs : s0 = av.reverse ++ q_A c :: st)
    (kk : ∀ v m', K v m' = some r → q_E M d N t r m' (pc + 3) ls ((t'.map fun k => (k, v)).toList ++ st)) : q_E M d N t r m pc ls s0 := by
  subst hs
  obtain ⟨v, he, hK⟩ := q_bd_some h
  refine q_callV hw hin hse hd (hC v he) hn hr hk hk12 hst ⟨rfl, rfl, ?_, ?_, Nat.le_refl _, Nat.le_refl _⟩ (kk v.1 v.2 hK)
  · show d' + 1 ≤ d
    omega
  · show 8 + (M'.2.2.1 + 11) + 64 * d' ≤ 64 * d
    omega
theorem e_callS {M' : q_M} {d' idx n : Nat} {t' : Option Nat} {av : List q_V} {e : q_Res} {K : Int → q_Mem → q_Res} (h : q_bd e K = some r) (hw : q_cl M.1.cls idx M' n) (hsta : Cond.static M'.1 ∈ q_T) (hd : decode M.2.1 pc = .ok (.invokestatic idx, 3))
    (hC : ∀ v, e = some v → q_C M' (q_room d') 0 0 av (q_g N) m (t'.map fun k => (k, v.1), q_g N, v.2)) (hn : av.length = n) (hst : q_words st ≤ 8) (hrm : d' < d ∧ M'.2.2.1 ≤ 45) {s0 : List q_V} (hs : s0 = av.reverse ++ st)
    (kk : ∀ v m', K v m' = some r → q_E M d N t r m' (pc + 3) ls ((t'.map fun k => (k, v)).toList ++ st)) : q_E M d N t r m pc ls s0 := by
  subst hs
  obtain ⟨v, he, hK⟩ := q_bd_some h
  refine q_callS hw hsta hd (hC v he) hn hst ⟨rfl, rfl, ?_, ?_, Nat.le_refl _, Nat.le_refl _⟩ (kk v.1 v.2 hK)
  · show d' + 1 ≤ d
    omega
  · show 8 + (M'.2.2.1 + 11) + 64 * d' ≤ 64 * d
    omega
theorem e_callSN {M' : q_M} {d' idx n : Nat} {host : String} {t' : Option Nat} {av : List q_V} {e : q_Res} {K : Int → q_Mem → q_Res} (h : q_bd e K = some r) (hw : (M.1.cls, idx, M'.1, host) ∈ q_nest ∧ Cond.initialized M'.1.cls ∈ q_T ∧ Cond.code M'.1 M'.2.1 M'.2.2.1 M'.2.2.2 ∈ q_T ∧ M'.1.cls ≠ "java/lang/invoke/MethodHandle" ∧ M'.1.cls ≠ "java/lang/invoke/VarHandle" ∧ (parseMethodDescriptor M'.1.desc).map (fun d => d.parameters.length) = some n) (hsta : Cond.static M'.1 ∈ q_T) (hd : decode M.2.1 pc = .ok (.invokestatic idx, 3))
    (hC : ∀ v, e = some v → q_C M' (q_room d') 0 0 av (q_g N) m (t'.map fun k => (k, v.1), q_g N, v.2)) (hn : av.length = n) (hst : q_words st ≤ 8) (hrm : d' < d ∧ M'.2.2.1 ≤ 45) {s0 : List q_V} (hs : s0 = av.reverse ++ st)
    (kk : ∀ v m', K v m' = some r → q_E M d N t r m' (pc + 3) ls ((t'.map fun k => (k, v)).toList ++ st)) : q_E M d N t r m pc ls s0 := by
  subst hs
  obtain ⟨v, he, hK⟩ := q_bd_some h
  refine q_callSN hw hsta hd (hC v he) hn hst ⟨rfl, rfl, ?_, ?_, Nat.le_refl _, Nat.le_refl _⟩ (kk v.1 v.2 hK)
  · show d' + 1 ≤ d
    omega
  · show 8 + (M'.2.2.1 + 11) + 64 * d' ≤ 64 * d
    omega
theorem e_iret {v : Int} (h : q_rt v m = some r) (hr : M.2.2.2 = some .int) (hd : decode M.2.1 pc = .ok (.ireturn, 1)) : q_E M d N (some 0) r m pc ls [q_I v] := by
  cases h
  exact q_iret hr hd rfl (Nat.le_refl _) (Nat.le_refl _)
theorem e_zret {v : Int} (h : q_rz v m = some r) (hr : M.2.2.2 = some .boolean) (hd : decode M.2.1 pc = .ok (.ireturn, 1)) : q_E M d N (some 0) r m pc ls [q_I v] := by
  unfold q_rz at h
  by_cases hc : v = 0 ∨ v = 1
  · rw [if_pos hc] at h
    cases h
    exact q_zret hr hd hc rfl (Nat.le_refl _) (Nat.le_refl _)
  · rw [if_neg hc] at h
    exact q_no h
theorem e_aret {v : Int} {rt : FieldType} (h : q_rt v m = some r) (hr : M.2.2.2 = some rt) (hrt : (∃ n, rt = .object n) ∨ ∃ x, rt = .array x) (hv : 0 ≤ v) (hd : decode M.2.1 pc = .ok (.areturn, 1)) : q_E M d N (some 2) r m pc ls [q_A v] := by
  cases h
  exact q_aret hr hrt hv hd rfl (Nat.le_refl _) (Nat.le_refl _)
theorem e_vret (h : q_rt 0 m = some r) (hr : M.2.2.2 = none) (hd : decode M.2.1 pc = .ok (.return_, 1)) : q_E M d N none r m pc ls [] := by
  cases h
  exact q_vret hr hd rfl (Nat.le_refl _) (Nat.le_refl _)
theorem e_max {idx : Nat} {x z : Int} (hw : Cond.methodLink M.1.cls idx Lib.Math.max.name ∈ q_T) (hd : decode M.2.1 pc = .ok (.invokestatic idx, 3)) (hdd : 1 ≤ d) (hst : q_words st ≤ 8) (kk : q_E M d N t r m (pc + 3) ls (q_I (q_max x z) :: st)) : q_E M d N t r m pc ls (q_I z :: q_I x :: st) :=
  q_mmax hd hw js_max ji_Math jc_max hdd (by show _ ≤ 64 * d; omega) (Nat.le_refl _) (Nat.le_refl _) kk
theorem e_min {idx : Nat} {x z : Int} (hw : Cond.methodLink M.1.cls idx Lib.Math.min.name ∈ q_T) (hd : decode M.2.1 pc = .ok (.invokestatic idx, 3)) (hdd : 1 ≤ d) (hst : q_words st ≤ 8) (kk : q_E M d N t r m (pc + 3) ls (q_I (q_min x z) :: st)) : q_E M d N t r m pc ls (q_I z :: q_I x :: st) :=
  q_mmin hd hw js_min ji_Math jc_min hdd (by show _ ≤ 64 * d; omega) (Nat.le_refl _) (Nat.le_refl _) kk
theorem e_abs {idx : Nat} {x : Int} (hw : Cond.methodLink M.1.cls idx Lib.Math.abs.name ∈ q_T) (hd : decode M.2.1 pc = .ok (.invokestatic idx, 3)) (hdd : 1 ≤ d) (hst : q_words st ≤ 8) (kk : q_E M d N t r m (pc + 3) ls (q_I (q_abs x) :: st)) : q_E M d N t r m pc ls (q_I x :: st) :=
  q_mabs hd hw js_abs ji_Math jc_abs hdd (by show _ ≤ 64 * d; omega) (Nat.le_refl _) (Nat.le_refl _) kk
end q_comb
theorem q_nn {l : List Int} {v : Int} (h : v ∈ l) (hl : (l.all fun x => decide (0 ≤ x)) = true) : 0 ≤ v := of_decide_eq_true (List.all_eq_true.mp hl v h)
def q_Lp : List Int := [3, 14]
def q_Ly : List Int := [4, 15, 30, 31, 32, 33, 34, 35, 36, 37, 38, 39, 40, 41, 42, 43, 44, 45, 46, 47, 48, 49, 50, 79, 80]
theorem is_0 {N : Nat} (hN : 81 ≤ N) : q_is (q_g N) 0 10 := ⟨by decide, Nat.lt_of_lt_of_le (by decide) hN, rfl⟩
theorem is_1 {N : Nat} (hN : 81 ≤ N) : q_is (q_g N) 1 7 := ⟨by decide, Nat.lt_of_lt_of_le (by decide) hN, rfl⟩
theorem ar_2 {N : Nat} (hN : 81 ≤ N) : q_ar (q_g N) 2 21 800 := ⟨by decide, Nat.lt_of_lt_of_le (by decide) hN, rfl⟩
theorem is_3 {N : Nat} (hN : 81 ≤ N) : q_is (q_g N) 3 2 := ⟨by decide, Nat.lt_of_lt_of_le (by decide) hN, rfl⟩
theorem is_4 {N : Nat} (hN : 81 ≤ N) : q_is (q_g N) 4 1 := ⟨by decide, Nat.lt_of_lt_of_le (by decide) hN, rfl⟩
theorem ar_5 {N : Nat} (hN : 81 ≤ N) : q_ar (q_g N) 5 20 12 := ⟨by decide, Nat.lt_of_lt_of_le (by decide) hN, rfl⟩
theorem ar_6 {N : Nat} (hN : 81 ≤ N) : q_ar (q_g N) 6 20 12 := ⟨by decide, Nat.lt_of_lt_of_le (by decide) hN, rfl⟩
theorem ar_7 {N : Nat} (hN : 81 ≤ N) : q_ar (q_g N) 7 20 12 := ⟨by decide, Nat.lt_of_lt_of_le (by decide) hN, rfl⟩
theorem ar_8 {N : Nat} (hN : 81 ≤ N) : q_ar (q_g N) 8 20 12 := ⟨by decide, Nat.lt_of_lt_of_le (by decide) hN, rfl⟩
theorem ar_9 {N : Nat} (hN : 81 ≤ N) : q_ar (q_g N) 9 20 12 := ⟨by decide, Nat.lt_of_lt_of_le (by decide) hN, rfl⟩
theorem ar_10 {N : Nat} (hN : 81 ≤ N) : q_ar (q_g N) 10 20 80 := ⟨by decide, Nat.lt_of_lt_of_le (by decide) hN, rfl⟩
theorem ar_11 {N : Nat} (hN : 81 ≤ N) : q_ar (q_g N) 11 20 80 := ⟨by decide, Nat.lt_of_lt_of_le (by decide) hN, rfl⟩
theorem ar_12 {N : Nat} (hN : 81 ≤ N) : q_ar (q_g N) 12 20 80 := ⟨by decide, Nat.lt_of_lt_of_le (by decide) hN, rfl⟩
theorem ar_13 {N : Nat} (hN : 81 ≤ N) : q_ar (q_g N) 13 20 7 := ⟨by decide, Nat.lt_of_lt_of_le (by decide) hN, rfl⟩
theorem is_14 {N : Nat} (hN : 81 ≤ N) : q_is (q_g N) 14 2 := ⟨by decide, Nat.lt_of_lt_of_le (by decide) hN, rfl⟩
theorem is_15 {N : Nat} (hN : 81 ≤ N) : q_is (q_g N) 15 1 := ⟨by decide, Nat.lt_of_lt_of_le (by decide) hN, rfl⟩
theorem ar_16 {N : Nat} (hN : 81 ≤ N) : q_ar (q_g N) 16 20 12 := ⟨by decide, Nat.lt_of_lt_of_le (by decide) hN, rfl⟩
theorem ar_17 {N : Nat} (hN : 81 ≤ N) : q_ar (q_g N) 17 20 12 := ⟨by decide, Nat.lt_of_lt_of_le (by decide) hN, rfl⟩
theorem ar_18 {N : Nat} (hN : 81 ≤ N) : q_ar (q_g N) 18 20 12 := ⟨by decide, Nat.lt_of_lt_of_le (by decide) hN, rfl⟩
theorem ar_19 {N : Nat} (hN : 81 ≤ N) : q_ar (q_g N) 19 20 12 := ⟨by decide, Nat.lt_of_lt_of_le (by decide) hN, rfl⟩
theorem ar_20 {N : Nat} (hN : 81 ≤ N) : q_ar (q_g N) 20 20 12 := ⟨by decide, Nat.lt_of_lt_of_le (by decide) hN, rfl⟩
theorem ar_21 {N : Nat} (hN : 81 ≤ N) : q_ar (q_g N) 21 20 80 := ⟨by decide, Nat.lt_of_lt_of_le (by decide) hN, rfl⟩
theorem ar_22 {N : Nat} (hN : 81 ≤ N) : q_ar (q_g N) 22 20 80 := ⟨by decide, Nat.lt_of_lt_of_le (by decide) hN, rfl⟩
theorem ar_23 {N : Nat} (hN : 81 ≤ N) : q_ar (q_g N) 23 20 80 := ⟨by decide, Nat.lt_of_lt_of_le (by decide) hN, rfl⟩
theorem ar_24 {N : Nat} (hN : 81 ≤ N) : q_ar (q_g N) 24 20 7 := ⟨by decide, Nat.lt_of_lt_of_le (by decide) hN, rfl⟩
theorem is_25 {N : Nat} (hN : 81 ≤ N) : q_is (q_g N) 25 3 := ⟨by decide, Nat.lt_of_lt_of_le (by decide) hN, rfl⟩
theorem ar_26 {N : Nat} (hN : 81 ≤ N) : q_ar (q_g N) 26 20 3 := ⟨by decide, Nat.lt_of_lt_of_le (by decide) hN, rfl⟩
theorem ar_27 {N : Nat} (hN : 81 ≤ N) : q_ar (q_g N) 27 20 3 := ⟨by decide, Nat.lt_of_lt_of_le (by decide) hN, rfl⟩
theorem is_28 {N : Nat} (hN : 81 ≤ N) : q_is (q_g N) 28 0 := ⟨by decide, Nat.lt_of_lt_of_le (by decide) hN, rfl⟩
theorem ar_29 {N : Nat} (hN : 81 ≤ N) : q_ar (q_g N) 29 23 21 := ⟨by decide, Nat.lt_of_lt_of_le (by decide) hN, rfl⟩
theorem is_30 {N : Nat} (hN : 81 ≤ N) : q_is (q_g N) 30 1 := ⟨by decide, Nat.lt_of_lt_of_le (by decide) hN, rfl⟩
theorem is_31 {N : Nat} (hN : 81 ≤ N) : q_is (q_g N) 31 1 := ⟨by decide, Nat.lt_of_lt_of_le (by decide) hN, rfl⟩
theorem is_32 {N : Nat} (hN : 81 ≤ N) : q_is (q_g N) 32 1 := ⟨by decide, Nat.lt_of_lt_of_le (by decide) hN, rfl⟩
theorem is_33 {N : Nat} (hN : 81 ≤ N) : q_is (q_g N) 33 1 := ⟨by decide, Nat.lt_of_lt_of_le (by decide) hN, rfl⟩
theorem is_34 {N : Nat} (hN : 81 ≤ N) : q_is (q_g N) 34 1 := ⟨by decide, Nat.lt_of_lt_of_le (by decide) hN, rfl⟩
theorem is_35 {N : Nat} (hN : 81 ≤ N) : q_is (q_g N) 35 1 := ⟨by decide, Nat.lt_of_lt_of_le (by decide) hN, rfl⟩
theorem is_36 {N : Nat} (hN : 81 ≤ N) : q_is (q_g N) 36 1 := ⟨by decide, Nat.lt_of_lt_of_le (by decide) hN, rfl⟩
theorem is_37 {N : Nat} (hN : 81 ≤ N) : q_is (q_g N) 37 1 := ⟨by decide, Nat.lt_of_lt_of_le (by decide) hN, rfl⟩
theorem is_38 {N : Nat} (hN : 81 ≤ N) : q_is (q_g N) 38 1 := ⟨by decide, Nat.lt_of_lt_of_le (by decide) hN, rfl⟩
theorem is_39 {N : Nat} (hN : 81 ≤ N) : q_is (q_g N) 39 1 := ⟨by decide, Nat.lt_of_lt_of_le (by decide) hN, rfl⟩
theorem is_40 {N : Nat} (hN : 81 ≤ N) : q_is (q_g N) 40 1 := ⟨by decide, Nat.lt_of_lt_of_le (by decide) hN, rfl⟩
theorem is_41 {N : Nat} (hN : 81 ≤ N) : q_is (q_g N) 41 1 := ⟨by decide, Nat.lt_of_lt_of_le (by decide) hN, rfl⟩
theorem is_42 {N : Nat} (hN : 81 ≤ N) : q_is (q_g N) 42 1 := ⟨by decide, Nat.lt_of_lt_of_le (by decide) hN, rfl⟩
theorem is_43 {N : Nat} (hN : 81 ≤ N) : q_is (q_g N) 43 1 := ⟨by decide, Nat.lt_of_lt_of_le (by decide) hN, rfl⟩
theorem is_44 {N : Nat} (hN : 81 ≤ N) : q_is (q_g N) 44 1 := ⟨by decide, Nat.lt_of_lt_of_le (by decide) hN, rfl⟩
theorem is_45 {N : Nat} (hN : 81 ≤ N) : q_is (q_g N) 45 1 := ⟨by decide, Nat.lt_of_lt_of_le (by decide) hN, rfl⟩
theorem is_46 {N : Nat} (hN : 81 ≤ N) : q_is (q_g N) 46 1 := ⟨by decide, Nat.lt_of_lt_of_le (by decide) hN, rfl⟩
theorem is_47 {N : Nat} (hN : 81 ≤ N) : q_is (q_g N) 47 1 := ⟨by decide, Nat.lt_of_lt_of_le (by decide) hN, rfl⟩
theorem is_48 {N : Nat} (hN : 81 ≤ N) : q_is (q_g N) 48 1 := ⟨by decide, Nat.lt_of_lt_of_le (by decide) hN, rfl⟩
theorem is_49 {N : Nat} (hN : 81 ≤ N) : q_is (q_g N) 49 1 := ⟨by decide, Nat.lt_of_lt_of_le (by decide) hN, rfl⟩
theorem is_50 {N : Nat} (hN : 81 ≤ N) : q_is (q_g N) 50 1 := ⟨by decide, Nat.lt_of_lt_of_le (by decide) hN, rfl⟩
theorem ar_51 {N : Nat} (hN : 81 ≤ N) : q_ar (q_g N) 51 23 2 := ⟨by decide, Nat.lt_of_lt_of_le (by decide) hN, rfl⟩
theorem ar_52 {N : Nat} (hN : 81 ≤ N) : q_ar (q_g N) 52 22 2 := ⟨by decide, Nat.lt_of_lt_of_le (by decide) hN, rfl⟩
theorem is_53 {N : Nat} (hN : 81 ≤ N) : q_is (q_g N) 53 9 := ⟨by decide, Nat.lt_of_lt_of_le (by decide) hN, rfl⟩
theorem ar_54 {N : Nat} (hN : 81 ≤ N) : q_ar (q_g N) 54 20 100 := ⟨by decide, Nat.lt_of_lt_of_le (by decide) hN, rfl⟩
theorem ar_55 {N : Nat} (hN : 81 ≤ N) : q_ar (q_g N) 55 20 100 := ⟨by decide, Nat.lt_of_lt_of_le (by decide) hN, rfl⟩
theorem ar_56 {N : Nat} (hN : 81 ≤ N) : q_ar (q_g N) 56 20 100 := ⟨by decide, Nat.lt_of_lt_of_le (by decide) hN, rfl⟩
theorem ar_57 {N : Nat} (hN : 81 ≤ N) : q_ar (q_g N) 57 20 100 := ⟨by decide, Nat.lt_of_lt_of_le (by decide) hN, rfl⟩
theorem ar_58 {N : Nat} (hN : 81 ≤ N) : q_ar (q_g N) 58 20 100 := ⟨by decide, Nat.lt_of_lt_of_le (by decide) hN, rfl⟩
theorem ar_59 {N : Nat} (hN : 81 ≤ N) : q_ar (q_g N) 59 20 100 := ⟨by decide, Nat.lt_of_lt_of_le (by decide) hN, rfl⟩
theorem is_60 {N : Nat} (hN : 81 ≤ N) : q_is (q_g N) 60 4 := ⟨by decide, Nat.lt_of_lt_of_le (by decide) hN, rfl⟩
theorem ar_61 {N : Nat} (hN : 81 ≤ N) : q_ar (q_g N) 61 20 100 := ⟨by decide, Nat.lt_of_lt_of_le (by decide) hN, rfl⟩
theorem ar_62 {N : Nat} (hN : 81 ≤ N) : q_ar (q_g N) 62 20 100 := ⟨by decide, Nat.lt_of_lt_of_le (by decide) hN, rfl⟩
theorem ar_63 {N : Nat} (hN : 81 ≤ N) : q_ar (q_g N) 63 22 100 := ⟨by decide, Nat.lt_of_lt_of_le (by decide) hN, rfl⟩
theorem ar_64 {N : Nat} (hN : 81 ≤ N) : q_ar (q_g N) 64 20 100 := ⟨by decide, Nat.lt_of_lt_of_le (by decide) hN, rfl⟩
theorem ar_65 {N : Nat} (hN : 81 ≤ N) : q_ar (q_g N) 65 20 163 := ⟨by decide, Nat.lt_of_lt_of_le (by decide) hN, rfl⟩
theorem ar_66 {N : Nat} (hN : 81 ≤ N) : q_ar (q_g N) 66 20 163 := ⟨by decide, Nat.lt_of_lt_of_le (by decide) hN, rfl⟩
theorem ar_67 {N : Nat} (hN : 81 ≤ N) : q_ar (q_g N) 67 20 55 := ⟨by decide, Nat.lt_of_lt_of_le (by decide) hN, rfl⟩
theorem ar_68 {N : Nat} (hN : 81 ≤ N) : q_ar (q_g N) 68 20 12 := ⟨by decide, Nat.lt_of_lt_of_le (by decide) hN, rfl⟩
theorem is_69 {N : Nat} (hN : 81 ≤ N) : q_is (q_g N) 69 8 := ⟨by decide, Nat.lt_of_lt_of_le (by decide) hN, rfl⟩
theorem ar_70 {N : Nat} (hN : 81 ≤ N) : q_ar (q_g N) 70 20 100 := ⟨by decide, Nat.lt_of_lt_of_le (by decide) hN, rfl⟩
theorem ar_71 {N : Nat} (hN : 81 ≤ N) : q_ar (q_g N) 71 20 100 := ⟨by decide, Nat.lt_of_lt_of_le (by decide) hN, rfl⟩
theorem ar_72 {N : Nat} (hN : 81 ≤ N) : q_ar (q_g N) 72 20 100 := ⟨by decide, Nat.lt_of_lt_of_le (by decide) hN, rfl⟩
theorem is_73 {N : Nat} (hN : 81 ≤ N) : q_is (q_g N) 73 6 := ⟨by decide, Nat.lt_of_lt_of_le (by decide) hN, rfl⟩
theorem ar_74 {N : Nat} (hN : 81 ≤ N) : q_ar (q_g N) 74 20 300 := ⟨by decide, Nat.lt_of_lt_of_le (by decide) hN, rfl⟩
theorem ar_75 {N : Nat} (hN : 81 ≤ N) : q_ar (q_g N) 75 20 300 := ⟨by decide, Nat.lt_of_lt_of_le (by decide) hN, rfl⟩
theorem ar_76 {N : Nat} (hN : 81 ≤ N) : q_ar (q_g N) 76 20 300 := ⟨by decide, Nat.lt_of_lt_of_le (by decide) hN, rfl⟩
theorem is_77 {N : Nat} (hN : 81 ≤ N) : q_is (q_g N) 77 5 := ⟨by decide, Nat.lt_of_lt_of_le (by decide) hN, rfl⟩
theorem ar_78 {N : Nat} (hN : 81 ≤ N) : q_ar (q_g N) 78 20 80 := ⟨by decide, Nat.lt_of_lt_of_le (by decide) hN, rfl⟩
theorem is_79 {N : Nat} (hN : 81 ≤ N) : q_is (q_g N) 79 1 := ⟨by decide, Nat.lt_of_lt_of_le (by decide) hN, rfl⟩
theorem is_80 {N : Nat} (hN : 81 ≤ N) : q_is (q_g N) 80 1 := ⟨by decide, Nat.lt_of_lt_of_le (by decide) hN, rfl⟩
theorem is_81 {N : Nat} (hN : 126 ≤ N) : q_is (q_g N) 81 11 := ⟨by decide, Nat.lt_of_lt_of_le (by decide) hN, rfl⟩
theorem ar_82 {N : Nat} (hN : 126 ≤ N) : q_ar (q_g N) 82 20 2 := ⟨by decide, Nat.lt_of_lt_of_le (by decide) hN, rfl⟩
theorem ar_83 {N : Nat} (hN : 126 ≤ N) : q_ar (q_g N) 83 20 2 := ⟨by decide, Nat.lt_of_lt_of_le (by decide) hN, rfl⟩
theorem ar_84 {N : Nat} (hN : 126 ≤ N) : q_ar (q_g N) 84 20 2 := ⟨by decide, Nat.lt_of_lt_of_le (by decide) hN, rfl⟩
theorem ar_85 {N : Nat} (hN : 126 ≤ N) : q_ar (q_g N) 85 20 2 := ⟨by decide, Nat.lt_of_lt_of_le (by decide) hN, rfl⟩
theorem ar_86 {N : Nat} (hN : 126 ≤ N) : q_ar (q_g N) 86 20 2 := ⟨by decide, Nat.lt_of_lt_of_le (by decide) hN, rfl⟩
theorem ar_87 {N : Nat} (hN : 126 ≤ N) : q_ar (q_g N) 87 20 2 := ⟨by decide, Nat.lt_of_lt_of_le (by decide) hN, rfl⟩
theorem ar_88 {N : Nat} (hN : 126 ≤ N) : q_ar (q_g N) 88 20 2 := ⟨by decide, Nat.lt_of_lt_of_le (by decide) hN, rfl⟩
theorem ar_89 {N : Nat} (hN : 126 ≤ N) : q_ar (q_g N) 89 20 2 := ⟨by decide, Nat.lt_of_lt_of_le (by decide) hN, rfl⟩
theorem ar_90 {N : Nat} (hN : 126 ≤ N) : q_ar (q_g N) 90 20 2 := ⟨by decide, Nat.lt_of_lt_of_le (by decide) hN, rfl⟩
theorem ar_91 {N : Nat} (hN : 126 ≤ N) : q_ar (q_g N) 91 20 2 := ⟨by decide, Nat.lt_of_lt_of_le (by decide) hN, rfl⟩
theorem ar_92 {N : Nat} (hN : 126 ≤ N) : q_ar (q_g N) 92 20 2 := ⟨by decide, Nat.lt_of_lt_of_le (by decide) hN, rfl⟩
theorem ar_93 {N : Nat} (hN : 126 ≤ N) : q_ar (q_g N) 93 20 24 := ⟨by decide, Nat.lt_of_lt_of_le (by decide) hN, rfl⟩
theorem ar_94 {N : Nat} (hN : 126 ≤ N) : q_ar (q_g N) 94 20 24 := ⟨by decide, Nat.lt_of_lt_of_le (by decide) hN, rfl⟩
theorem ar_95 {N : Nat} (hN : 126 ≤ N) : q_ar (q_g N) 95 20 24 := ⟨by decide, Nat.lt_of_lt_of_le (by decide) hN, rfl⟩
theorem ar_96 {N : Nat} (hN : 126 ≤ N) : q_ar (q_g N) 96 20 24 := ⟨by decide, Nat.lt_of_lt_of_le (by decide) hN, rfl⟩
theorem ar_97 {N : Nat} (hN : 126 ≤ N) : q_ar (q_g N) 97 20 24 := ⟨by decide, Nat.lt_of_lt_of_le (by decide) hN, rfl⟩
theorem ar_98 {N : Nat} (hN : 126 ≤ N) : q_ar (q_g N) 98 20 6 := ⟨by decide, Nat.lt_of_lt_of_le (by decide) hN, rfl⟩
theorem ar_99 {N : Nat} (hN : 126 ≤ N) : q_ar (q_g N) 99 20 6 := ⟨by decide, Nat.lt_of_lt_of_le (by decide) hN, rfl⟩
theorem ar_100 {N : Nat} (hN : 126 ≤ N) : q_ar (q_g N) 100 20 200 := ⟨by decide, Nat.lt_of_lt_of_le (by decide) hN, rfl⟩
theorem ar_101 {N : Nat} (hN : 126 ≤ N) : q_ar (q_g N) 101 21 800 := ⟨by decide, Nat.lt_of_lt_of_le (by decide) hN, rfl⟩
theorem ar_102 {N : Nat} (hN : 126 ≤ N) : q_ar (q_g N) 102 21 28 := ⟨by decide, Nat.lt_of_lt_of_le (by decide) hN, rfl⟩
theorem ar_103 {N : Nat} (hN : 126 ≤ N) : q_ar (q_g N) 103 20 3 := ⟨by decide, Nat.lt_of_lt_of_le (by decide) hN, rfl⟩
theorem ar_104 {N : Nat} (hN : 126 ≤ N) : q_ar (q_g N) 104 20 3 := ⟨by decide, Nat.lt_of_lt_of_le (by decide) hN, rfl⟩
theorem ar_105 {N : Nat} (hN : 126 ≤ N) : q_ar (q_g N) 105 20 100 := ⟨by decide, Nat.lt_of_lt_of_le (by decide) hN, rfl⟩
theorem ar_106 {N : Nat} (hN : 126 ≤ N) : q_ar (q_g N) 106 20 100 := ⟨by decide, Nat.lt_of_lt_of_le (by decide) hN, rfl⟩
theorem ar_107 {N : Nat} (hN : 126 ≤ N) : q_ar (q_g N) 107 20 100 := ⟨by decide, Nat.lt_of_lt_of_le (by decide) hN, rfl⟩
theorem ar_108 {N : Nat} (hN : 126 ≤ N) : q_ar (q_g N) 108 22 100 := ⟨by decide, Nat.lt_of_lt_of_le (by decide) hN, rfl⟩
theorem ar_109 {N : Nat} (hN : 126 ≤ N) : q_ar (q_g N) 109 20 100 := ⟨by decide, Nat.lt_of_lt_of_le (by decide) hN, rfl⟩
theorem ar_110 {N : Nat} (hN : 126 ≤ N) : q_ar (q_g N) 110 20 300 := ⟨by decide, Nat.lt_of_lt_of_le (by decide) hN, rfl⟩
theorem ar_111 {N : Nat} (hN : 126 ≤ N) : q_ar (q_g N) 111 20 300 := ⟨by decide, Nat.lt_of_lt_of_le (by decide) hN, rfl⟩
theorem ar_112 {N : Nat} (hN : 126 ≤ N) : q_ar (q_g N) 112 20 300 := ⟨by decide, Nat.lt_of_lt_of_le (by decide) hN, rfl⟩
theorem ar_113 {N : Nat} (hN : 126 ≤ N) : q_ar (q_g N) 113 20 100 := ⟨by decide, Nat.lt_of_lt_of_le (by decide) hN, rfl⟩
theorem ar_114 {N : Nat} (hN : 126 ≤ N) : q_ar (q_g N) 114 20 100 := ⟨by decide, Nat.lt_of_lt_of_le (by decide) hN, rfl⟩
theorem ar_115 {N : Nat} (hN : 126 ≤ N) : q_ar (q_g N) 115 20 69 := ⟨by decide, Nat.lt_of_lt_of_le (by decide) hN, rfl⟩
theorem ar_116 {N : Nat} (hN : 126 ≤ N) : q_ar (q_g N) 116 20 100 := ⟨by decide, Nat.lt_of_lt_of_le (by decide) hN, rfl⟩
theorem ar_117 {N : Nat} (hN : 126 ≤ N) : q_ar (q_g N) 117 20 100 := ⟨by decide, Nat.lt_of_lt_of_le (by decide) hN, rfl⟩
theorem ar_118 {N : Nat} (hN : 126 ≤ N) : q_ar (q_g N) 118 22 100 := ⟨by decide, Nat.lt_of_lt_of_le (by decide) hN, rfl⟩
theorem ar_119 {N : Nat} (hN : 126 ≤ N) : q_ar (q_g N) 119 20 128 := ⟨by decide, Nat.lt_of_lt_of_le (by decide) hN, rfl⟩
theorem ar_120 {N : Nat} (hN : 126 ≤ N) : q_ar (q_g N) 120 20 12 := ⟨by decide, Nat.lt_of_lt_of_le (by decide) hN, rfl⟩
theorem ar_121 {N : Nat} (hN : 126 ≤ N) : q_ar (q_g N) 121 20 100 := ⟨by decide, Nat.lt_of_lt_of_le (by decide) hN, rfl⟩
theorem ar_122 {N : Nat} (hN : 126 ≤ N) : q_ar (q_g N) 122 22 10000 := ⟨by decide, Nat.lt_of_lt_of_le (by decide) hN, rfl⟩
theorem ar_123 {N : Nat} (hN : 126 ≤ N) : q_ar (q_g N) 123 20 1449 := ⟨by decide, Nat.lt_of_lt_of_le (by decide) hN, rfl⟩
theorem ar_124 {N : Nat} (hN : 126 ≤ N) : q_ar (q_g N) 124 20 138 := ⟨by decide, Nat.lt_of_lt_of_le (by decide) hN, rfl⟩
theorem ar_125 {N : Nat} (hN : 126 ≤ N) : q_ar (q_g N) 125 22 2 := ⟨by decide, Nat.lt_of_lt_of_le (by decide) hN, rfl⟩
theorem is_Lp {N : Nat} (hN : 81 ≤ N) {v : Int} (h : v ∈ q_Lp) : q_is (q_g N) v 2 := by
  simp only [q_Lp, List.mem_cons, List.not_mem_nil, or_false] at h
  rcases h with rfl | rfl
  · exact is_3 hN
  · exact is_14 hN
theorem is_Ly {N : Nat} (hN : 81 ≤ N) {v : Int} (h : v ∈ q_Ly) : q_is (q_g N) v 1 := by
  simp only [q_Ly, List.mem_cons, List.not_mem_nil, or_false] at h
  rcases h with rfl | rfl | rfl | rfl | rfl | rfl | rfl | rfl | rfl | rfl | rfl | rfl | rfl | rfl | rfl | rfl | rfl | rfl | rfl | rfl | rfl | rfl | rfl | rfl | rfl
  · exact is_4 hN
  · exact is_15 hN
  · exact is_30 hN
  · exact is_31 hN
  · exact is_32 hN
  · exact is_33 hN
  · exact is_34 hN
  · exact is_35 hN
  · exact is_36 hN
  · exact is_37 hN
  · exact is_38 hN
  · exact is_39 hN
  · exact is_40 hN
  · exact is_41 hN
  · exact is_42 hN
  · exact is_43 hN
  · exact is_44 hN
  · exact is_45 hN
  · exact is_46 hN
  · exact is_47 hN
  · exact is_48 hN
  · exact is_49 hN
  · exact is_50 hN
  · exact is_79 hN
  · exact is_80 hN
theorem ar_made {N : Nat} (hN : 81 ≤ N) {v : Int} (h : v ∈ ([74, 75, 76] : List Int)) : q_ar (q_g N) v 20 300 := by
  simp only [List.mem_cons, List.not_mem_nil, or_false] at h
  rcases h with rfl | rfl | rfl
  · exact ar_74 hN
  · exact ar_75 hN
  · exact ar_76 hN
theorem ar_when {N : Nat} (hN : 81 ≤ N) {v : Int} (h : v ∈ ([54, 61] : List Int)) : q_ar (q_g N) v 20 100 := by
  simp only [List.mem_cons, List.not_mem_nil, or_false] at h
  rcases h with rfl | rfl
  · exact ar_54 hN
  · exact ar_61 hN
theorem ar_to {N : Nat} (hN : 126 ≤ N) {v : Int} (h : v ∈ ([113, 114] : List Int)) : q_ar (q_g N) v 20 100 := by
  simp only [List.mem_cons, List.not_mem_nil, or_false] at h
  rcases h with rfl | rfl
  · exact ar_113 hN
  · exact ar_114 hN
theorem ph_Lp_8 {v : Int} (h : v ∈ q_Lp) : q_phi v.toNat 8 = v + 1 := by
  simp only [q_Lp, List.mem_cons, List.not_mem_nil, or_false] at h
  rcases h with rfl | rfl <;> rfl
theorem ph_Lp_9 {v : Int} (h : v ∈ q_Lp) : q_phi v.toNat 9 = v + 2 := by
  simp only [q_Lp, List.mem_cons, List.not_mem_nil, or_false] at h
  rcases h with rfl | rfl <;> rfl
theorem ar_Lp_9 {N : Nat} (hN : 81 ≤ N) {v : Int} (h : v ∈ q_Lp) : q_ar (q_g N) (v + 2) 20 12 := by
  simp only [q_Lp, List.mem_cons, List.not_mem_nil, or_false] at h
  rcases h with rfl | rfl
  · exact ar_5 hN
  · exact ar_16 hN
theorem ph_Lp_10 {v : Int} (h : v ∈ q_Lp) : q_phi v.toNat 10 = v + 3 := by
  simp only [q_Lp, List.mem_cons, List.not_mem_nil, or_false] at h
  rcases h with rfl | rfl <;> rfl
theorem ar_Lp_10 {N : Nat} (hN : 81 ≤ N) {v : Int} (h : v ∈ q_Lp) : q_ar (q_g N) (v + 3) 20 12 := by
  simp only [q_Lp, List.mem_cons, List.not_mem_nil, or_false] at h
  rcases h with rfl | rfl
  · exact ar_6 hN
  · exact ar_17 hN
theorem ph_Lp_11 {v : Int} (h : v ∈ q_Lp) : q_phi v.toNat 11 = v + 4 := by
  simp only [q_Lp, List.mem_cons, List.not_mem_nil, or_false] at h
  rcases h with rfl | rfl <;> rfl
theorem ar_Lp_11 {N : Nat} (hN : 81 ≤ N) {v : Int} (h : v ∈ q_Lp) : q_ar (q_g N) (v + 4) 20 12 := by
  simp only [q_Lp, List.mem_cons, List.not_mem_nil, or_false] at h
  rcases h with rfl | rfl
  · exact ar_7 hN
  · exact ar_18 hN
theorem ph_Lp_12 {v : Int} (h : v ∈ q_Lp) : q_phi v.toNat 12 = v + 5 := by
  simp only [q_Lp, List.mem_cons, List.not_mem_nil, or_false] at h
  rcases h with rfl | rfl <;> rfl
theorem ar_Lp_12 {N : Nat} (hN : 81 ≤ N) {v : Int} (h : v ∈ q_Lp) : q_ar (q_g N) (v + 5) 20 12 := by
  simp only [q_Lp, List.mem_cons, List.not_mem_nil, or_false] at h
  rcases h with rfl | rfl
  · exact ar_8 hN
  · exact ar_19 hN
theorem ph_Lp_13 {v : Int} (h : v ∈ q_Lp) : q_phi v.toNat 13 = v + 6 := by
  simp only [q_Lp, List.mem_cons, List.not_mem_nil, or_false] at h
  rcases h with rfl | rfl <;> rfl
theorem ar_Lp_13 {N : Nat} (hN : 81 ≤ N) {v : Int} (h : v ∈ q_Lp) : q_ar (q_g N) (v + 6) 20 12 := by
  simp only [q_Lp, List.mem_cons, List.not_mem_nil, or_false] at h
  rcases h with rfl | rfl
  · exact ar_9 hN
  · exact ar_20 hN
theorem ph_Lp_14 {v : Int} (h : v ∈ q_Lp) : q_phi v.toNat 14 = v + 7 := by
  simp only [q_Lp, List.mem_cons, List.not_mem_nil, or_false] at h
  rcases h with rfl | rfl <;> rfl
theorem ar_Lp_14 {N : Nat} (hN : 81 ≤ N) {v : Int} (h : v ∈ q_Lp) : q_ar (q_g N) (v + 7) 20 80 := by
  simp only [q_Lp, List.mem_cons, List.not_mem_nil, or_false] at h
  rcases h with rfl | rfl
  · exact ar_10 hN
  · exact ar_21 hN
theorem ph_Lp_15 {v : Int} (h : v ∈ q_Lp) : q_phi v.toNat 15 = v + 8 := by
  simp only [q_Lp, List.mem_cons, List.not_mem_nil, or_false] at h
  rcases h with rfl | rfl <;> rfl
theorem ar_Lp_15 {N : Nat} (hN : 81 ≤ N) {v : Int} (h : v ∈ q_Lp) : q_ar (q_g N) (v + 8) 20 80 := by
  simp only [q_Lp, List.mem_cons, List.not_mem_nil, or_false] at h
  rcases h with rfl | rfl
  · exact ar_11 hN
  · exact ar_22 hN
theorem ph_Lp_16 {v : Int} (h : v ∈ q_Lp) : q_phi v.toNat 16 = v + 9 := by
  simp only [q_Lp, List.mem_cons, List.not_mem_nil, or_false] at h
  rcases h with rfl | rfl <;> rfl
theorem ar_Lp_16 {N : Nat} (hN : 81 ≤ N) {v : Int} (h : v ∈ q_Lp) : q_ar (q_g N) (v + 9) 20 80 := by
  simp only [q_Lp, List.mem_cons, List.not_mem_nil, or_false] at h
  rcases h with rfl | rfl
  · exact ar_12 hN
  · exact ar_23 hN
theorem ph_Lp_17 {v : Int} (h : v ∈ q_Lp) : q_phi v.toNat 17 = v + 10 := by
  simp only [q_Lp, List.mem_cons, List.not_mem_nil, or_false] at h
  rcases h with rfl | rfl <;> rfl
theorem ar_Lp_17 {N : Nat} (hN : 81 ≤ N) {v : Int} (h : v ∈ q_Lp) : q_ar (q_g N) (v + 10) 20 7 := by
  simp only [q_Lp, List.mem_cons, List.not_mem_nil, or_false] at h
  rcases h with rfl | rfl
  · exact ar_13 hN
  · exact ar_24 hN
theorem ly_Lp {v : Int} (h : v ∈ q_Lp) : v + 1 ∈ q_Ly := by
  simp only [q_Lp, List.mem_cons, List.not_mem_nil, or_false] at h
  rcases h with rfl | rfl <;> decide
theorem nn_Lp {v : Int} (h : v ∈ q_Lp) : 0 ≤ v := q_nn h (by decide)
theorem nn_Ly {v : Int} (h : v ∈ q_Ly) : 0 ≤ v := q_nn h (by decide)
