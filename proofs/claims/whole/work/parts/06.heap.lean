/-! ROWS of the heap: fields, arrays, calls, returns -/
def q_up (m : q_Mem) (c i v : Int) : q_Mem := fun c' i' => if c' = c then (if i' = i then v else m c' i') else m c' i'
theorem q_up_s (m : q_Mem) (c i v : Int) : q_up m c i v c i = v := by simp [q_up]
theorem q_up_c {m : q_Mem} {c i v c' i' : Int} (h : c' ≠ c) : q_up m c i v c' i' = m c' i' := by simp [q_up, h]
theorem q_up_i {m : q_Mem} {c i v i' : Int} (h : i' ≠ i) : q_up m c i v c i' = m c i' := by simp [q_up, h]
def q_clok (k : Nat) (C : String) (T : u_T) (N : Nat) (ty : Nat → FieldType) : Prop := vwCl[k]? = some (C, T, N) ∧ (∀ w ∈ u_ws C T N, w ∈ q_T) ∧ (∀ j, j < N → parseFieldDescriptor (T j).2.2.1 = some (ty j)) ∧ (∀ a, a < N → ∀ b, b < N → a ≠ b → (T a).2.1 ≠ (T b).2.1) ∧ q_nf k = N ∧ k < 12
theorem q_ins (ws : List Cond) (ps : List Nat) (h : ws = ps.filterMap (fun i => lw_tbl[i]?)) (hg : ws.all goodWord = true) : ∀ w ∈ ws, w ∈ q_T := by
  intro w hw
  have h1 := List.all_eq_true.mp hg w hw
  rw [h] at hw
  obtain ⟨i, -, hi⟩ := List.mem_filterMap.mp hw
  exact q_in i hi h1
/-- a field's link: own class, entry, class number, place, sort, final, type -/
def q_fl (own : String) (idx k j so : Nat) (fin : Bool) (tt : FieldType) : Prop := ∃ C T N ty, q_clok k C T N ty ∧ j < N ∧ Cond.fieldLink own idx C (T j).2.1 (T j).2.2.1 ∈ q_T ∧ (T j).1 = C ∧ q_so k j = so ∧ (T j).2.2.2 = fin ∧ parseFieldDescriptor (T j).2.2.1 = some tt
def q_is (g : q_G) (r : Int) (k : Nat) : Prop := 0 ≤ r ∧ r.toNat < g.1 ∧ (g.2.1 r.toNat).1 = k
def q_ar (g : q_G) (r : Int) (k n : Nat) : Prop := 0 ≤ r ∧ r.toNat < g.1 ∧ g.2.1 r.toNat = (k, n)
theorem q_ws_at {b : Nat} {ad : Nat → Nat} {cs : Nat → ClassId} {g : q_G} {m : q_Mem} {c : Nat} (h : c < g.1) : (q_ws b ad cs g m)[c]? = some (b + c, q_cell b ad cs g m c) := by
  simp [q_ws, List.getElem?_range, h]
theorem q_ws_set {b : Nat} {ad : Nat → Nat} {cs : Nat → ClassId} {g : q_G} {m m' : q_Mem} {c : Nat} {e : va_E} (he : q_cell b ad cs g m' c = e) (ho : ∀ c', c' ≠ c → q_cell b ad cs g m' c' = q_cell b ad cs g m c') : (q_ws b ad cs g m).set c (b + c, e) = q_ws b ad cs g m' := by
  apply List.ext_getElem?
  intro i
  by_cases hi : i < g.1
  · by_cases hc : i = c
    · subst hc
      rw [List.getElem?_set_self (by simp [q_ws, hi]), q_ws_at hi, he]
    · rw [List.getElem?_set_ne (Ne.symm hc), q_ws_at hi, q_ws_at hi, ho i hc]
  · rw [List.getElem?_eq_none (by simp [q_ws]; omega), List.getElem?_eq_none (by simp [q_ws]; omega)]
theorem q_D {b : Nat} {ad : Nat → Nat} {cs : Nat → ClassId} {g : q_G} {m : q_Mem} : va_D (fun q => b ≤ q) (q_ws b ad cs g m) := by
  have key : ∀ (i : Nat) (p : Nat × va_E), (q_ws b ad cs g m)[i]? = some p → p.1 = b + i := by
    intro i p h
    have hi : i < g.1 := by
      have := (List.getElem?_eq_some_iff.mp h).1
      simpa [q_ws] using this
    rw [q_ws_at hi] at h
    cases h
    rfl
  refine ⟨fun i j p q hp hq h => ?_, fun k q hk => ?_⟩
  · have h1 := key i p hp
    have h2 := key j q hq
    omega
  · show b ≤ q.1
    rw [key k q hk]
    omega
theorem q_cell_o {b : Nat} {ad : Nat → Nat} {cs : Nat → ClassId} {g : q_G} {m : q_Mem} {c k : Nat} (h : (g.2.1 c).1 = k) (hk : k < 12) : q_cell b ad cs g m c = .inr (k, (List.range (q_nf k)).map fun j => q_cv b ad (if q_so k j = 4 then (2, g.2.2 c j) else (q_so k j, m c j))) := by
  rw [q_cell, h, if_pos hk]
theorem q_cell_i {b : Nat} {ad : Nat → Nat} {cs : Nat → ClassId} {g : q_G} {m : q_Mem} {c k n : Nat} (h : g.2.1 c = (20 + k, n)) (hk : k < 3) : q_cell b ad cs g m c = .inl (cs k, n, .inl fun j => Int32.ofInt (m c j)) := by
  rw [q_cell, h, if_neg (by show ¬ 20 + k < 12; omega), if_neg (by show ¬ 20 + k = 23; omega), show 20 + k - 20 = k by omega]
theorem q_cell_r {b : Nat} {ad : Nat → Nat} {cs : Nat → ClassId} {g : q_G} {m : q_Mem} {c n : Nat} (h : g.2.1 c = (23, n)) : q_cell b ad cs g m c = .inl (cs 3, n, .inr (.inr (.inr (.inr fun j => if m c j < 0 then none else some (b + (m c j).toNat))))) := by
  rw [q_cell, h, if_neg (show ¬ (23 : Nat) < 12 by decide), if_pos rfl]
theorem q_cell_ne {b : Nat} {ad : Nat → Nat} {cs : Nat → ClassId} {g : q_G} {m : q_Mem} {c c' : Nat} {i v : Int} (h : c' ≠ c) : q_cell b ad cs g (q_up m c i v) c' = q_cell b ad cs g m c' := by
  have e : q_up m c i v (c' : Int) = m (c' : Int) := by
    funext j
    exact q_up_c (by omega)
  unfold q_cell
  rw [e]
/-- one cell's new content, all else as it was -/
theorem q_P_set {D : va_G} {b : Nat} {ad : Nat → Nat} {cs : Nat → ClassId} {g g' : q_G} {m m' : q_Mem} {H H1 : Heap} {c : Nat} (hg : g'.1 = g.1) (hP : va_P D vwCl (q_ws b ad cs g m) H) (hnew : va_at D vwCl (b + c, q_cell b ad cs g' m' c) H1) (ho : ∀ c', c' < g.1 → c' ≠ c → q_cell b ad cs g' m' c' = q_cell b ad cs g m c')
    (oq : ∀ q, q ≠ b + c → H1[q]? = H[q]?) : va_P D vwCl (q_ws b ad cs g' m') H1 := by
  intro i q hi
  have hlt : i < g'.1 := by
    have := (List.getElem?_eq_some_iff.mp hi).1
    simpa [q_ws] using this
  rw [q_ws_at hlt] at hi
  cases hi
  by_cases hc : i = c
  · subst hc
    exact hnew
  · rw [ho i (by omega) hc]
    exact (hP i _ (q_ws_at (by omega))).kept (oq (b + i) (by omega))
theorem q_S_put {b : Nat} {H0 H H1 : Heap} {locs : List Loc} {a k : Nat} (h : va_S (fun q => b ≤ q) H0 H locs) (z : H1.size = H.size) (oq : ∀ q, q ≠ a → H1[q]? = H[q]?) (ha : b ≤ a) : va_S (fun q => b ≤ q) H0 H1 (locs ++ [⟨a, k⟩]) := va_S.put h z oq ha
section q_heap
variable {M : q_M} {rm : Room} {mc ms : Nat} {y : Option q_V × q_G × q_Mem} {cu su : Nat} {g : q_G} {m : q_Mem} {pc : Nat} {ls st : List q_V}
theorem q_getf {idx k j so : Nat} {fin : Bool} {tt : FieldType} (hf : q_fl M.1.cls idx k j so fin tt) (hd : decode M.2.1 pc = .ok (.getfield idx, 3)) {r : Int} (hr : q_is g r k) {v : q_V} (hv : (if q_so k j = 4 then ((2 : Nat), g.2.2 r.toNat j) else (q_so k j, m r j)) = v)
    (kk : q_R M rm mc ms y cu su g m (pc + 3) ls (v :: st)) : q_R M rm mc ms y cu su g m pc ls (q_A r :: st) := by
  intro p l e s mi args below meth c H locs D cs b ad adV ar C hP hz hS hl
  obtain ⟨Cn, T, N, ty, ⟨h1, h2, h3, h4, h5, h6⟩, hj, hw, hC, hs, hfin, htt⟩ := hf
  obtain ⟨r0, r1, r2⟩ := hr
  have e9 : q_cv b ad (q_A r) = .ref (b + r.toNat) := if_neg (Int.not_lt.mpr r0)
  rw [List.map_cons, e9]
  have hat := q_ws_at (b := b) (ad := ad) (cs := cs) (m := m) r1
  rw [q_cell_o r2 h6] at hat
  refine va_get (D := D) (ci := k) (v := q_cv b ad v) C.1 C.2.1 C.2.2.2.2.2.1 h2 C.2.2.2.2.1 C.2.2.2.2.2.2.2.2.1 hP r.toNat hat h1 j hj (C.2.2.2.2.2.1 _ hw) (fun x hx => by rw [hC] at hx; exact hx) ?_ hd (kk p l e s mi args below meth c H locs D cs b ad adV ar C hP hz hS hl)
  rw [List.getElem?_map, List.getElem?_range (by rw [h5]; exact hj), Int.toNat_of_nonneg r0]
  rw [← hv]
  rfl
theorem q_getI {idx k j : Nat} {fin : Bool} {tt : FieldType} (hf : q_fl M.1.cls idx k j 0 fin tt) (hd : decode M.2.1 pc = .ok (.getfield idx, 3)) {r : Int} (hr : q_is g r k)
    (kk : q_R M rm mc ms y cu su g m (pc + 3) ls (q_I (m r j) :: st)) : q_R M rm mc ms y cu su g m pc ls (q_A r :: st) := by
  have hs : q_so k j = 0 := by obtain ⟨_, _, _, _, _, _, _, _, hs, _⟩ := hf; exact hs
  exact q_getf hf hd hr (by rw [hs]; rfl) kk
theorem q_getL {idx k j : Nat} {fin : Bool} {tt : FieldType} (hf : q_fl M.1.cls idx k j 1 fin tt) (hd : decode M.2.1 pc = .ok (.getfield idx, 3)) {r : Int} (hr : q_is g r k)
    (kk : q_R M rm mc ms y cu su g m (pc + 3) ls (q_L (m r j) :: st)) : q_R M rm mc ms y cu su g m pc ls (q_A r :: st) := by
  have hs : q_so k j = 1 := by obtain ⟨_, _, _, _, _, _, _, _, hs, _⟩ := hf; exact hs
  exact q_getf hf hd hr (by rw [hs]; rfl) kk
theorem q_getR {idx k j : Nat} {fin : Bool} {tt : FieldType} (hf : q_fl M.1.cls idx k j 2 fin tt) (hd : decode M.2.1 pc = .ok (.getfield idx, 3)) {r : Int} (hr : q_is g r k)
    (kk : q_R M rm mc ms y cu su g m (pc + 3) ls (q_A (m r j) :: st)) : q_R M rm mc ms y cu su g m pc ls (q_A r :: st) := by
  have hs : q_so k j = 2 := by obtain ⟨_, _, _, _, _, _, _, _, hs, _⟩ := hf; exact hs
  exact q_getf hf hd hr (by rw [hs]; rfl) kk
theorem q_getP {idx k j : Nat} {fin : Bool} {tt : FieldType} (hf : q_fl M.1.cls idx k j 4 fin tt) (hd : decode M.2.1 pc = .ok (.getfield idx, 3)) {r : Int} (hr : q_is g r k) {v : Int} (hv : g.2.2 r.toNat j = v)
    (kk : q_R M rm mc ms y cu su g m (pc + 3) ls (q_A v :: st)) : q_R M rm mc ms y cu su g m pc ls (q_A r :: st) := by
  have hs : q_so k j = 4 := by obtain ⟨_, _, _, _, _, _, _, _, hs, _⟩ := hf; exact hs
  exact q_getf hf hd hr (by rw [hs, hv]; rfl) kk
theorem q_put {idx k j so : Nat} {tt : FieldType} (hf : q_fl M.1.cls idx k j so false tt) (hd : decode M.2.1 pc = .ok (.putfield idx, 3)) {r : Int} (hr : q_is g r k) (hso : so ≠ 4) {x : Int}
    (hn : ∀ b ad, narrow tt (q_cv b ad (so, x)) = q_cv b ad (so, x)) (hfit : ∀ b ad, fits tt (q_cv b ad (so, x)) = true)
    (kk : q_R M rm mc ms y cu su g (q_up m r j x) (pc + 3) ls st) : q_R M rm mc ms y cu su g m pc ls ((so, x) :: q_A r :: st) := by
  intro p l e s mi args below meth c H locs D cs b ad adV ar C hP hz hS hl
  obtain ⟨Cn, T, N, ty, ⟨h1, h2, h3, h4, h5, h6⟩, hj, hw, hC, hs, hfin, htt⟩ := hf
  obtain ⟨r0, r1, r2⟩ := hr
  have hts := C.2.2.2.2.2.1
  have hK := C.2.2.2.2.2.2.2.2.1
  have e9 : q_cv b ad (q_A r) = .ref (b + r.toNat) := if_neg (Int.not_lt.mpr r0)
  have hrr : ((r.toNat : Nat) : Int) = r := Int.toNat_of_nonneg r0
  rw [List.map_cons, List.map_cons, e9]
  have hat := q_ws_at (b := b) (ad := ad) (cs := cs) (m := m) r1
  rw [q_cell_o r2 h6] at hat
  have hap := va_apart (own := Cn) hts h2 ty h3 h4 hK h1
  obtain ⟨r', g1, cell, q1, q2, q3, q4⟩ := hP _ _ hat
  cases Option.some.inj (g1.symm.trans h1)
  obtain ⟨hSl, hfc, kC, hkC, hkind⟩ := hK.1 k _ h1
  obtain ⟨cf, kf, fi, f, hi, hsl⟩ := hSl j hj
  have hlay := hts _ (h2 _ (u_in_lay hj))
  unfold u_lay at hlay
  rw [hfin, if_neg (by decide)] at hlay
  refine W.putK C.1 C.2.1 (f := f) ⟨C.2.2.2.2.1, hts _ hw, ⟨cf, kf, fi, by rw [hC] at hi; exact hi⟩, (u_facts hfc hkC (u_lays hts h2 hj) hi).1⟩ (by rw [q2]; exact u_store hfc hkC hkind hlay hi htt (hn b ad) (hfit b ad)) q1 q3 (by rw [hsl]; exact k2_hasslot (q4 j hj)) rfl rfl hd fun H' e1 e2 e3 => ?_
  rw [hsl] at e1
  have hP1 : va_P D vwCl (q_ws b ad cs g (q_up m r j x)) H' := by
    refine q_P_set (c := r.toNat) rfl hP ?_ (fun c' _ hc' => by rw [← hrr]; exact q_cell_ne hc') e3
    rw [q_cell_o r2 h6]
    refine ⟨_, h1, t_OB.to (V := updV (vp_V ((List.range (q_nf k)).map fun j => q_cv b ad (if q_so k j = 4 then (2, g.2.2 r.toNat j) else (q_so k j, m r.toNat j)))) j (q_cv b ad (so, x))) ⟨_, e1, q2, q3, t_set q4 hap hj _⟩ (fun i hi => ?_)⟩
    have hi' : i < q_nf k := by rw [h5]; exact hi
    unfold updV vp_V
    simp only [List.getD_eq_getElem?_getD, List.getElem?_map, List.getElem?_range hi', Option.map_some, Option.getD_some]
    by_cases hij : i = j
    · subst hij
      rw [if_pos rfl, hs, if_neg hso, hrr, q_up_s]
    · rw [if_neg hij, hrr, q_up_i (by omega)]
  exact kk p l e s mi args below meth c H' _ D cs b ad adV ar C hP1 (by rw [e2]; exact hz) (q_S_put hS e2 e3 (Nat.le_add_right b _)) hl
theorem q_putI {idx k j : Nat} (hf : q_fl M.1.cls idx k j 0 false .int) (hd : decode M.2.1 pc = .ok (.putfield idx, 3)) {r : Int} (hr : q_is g r k) {x : Int}
    (kk : q_R M rm mc ms y cu su g (q_up m r j x) (pc + 3) ls st) : q_R M rm mc ms y cu su g m pc ls (q_I x :: q_A r :: st) := q_put hf hd hr (by decide) (fun _ _ => rfl) (fun _ _ => rfl) kk
theorem q_putL {idx k j : Nat} (hf : q_fl M.1.cls idx k j 1 false .long) (hd : decode M.2.1 pc = .ok (.putfield idx, 3)) {r : Int} (hr : q_is g r k) {x : Int}
    (kk : q_R M rm mc ms y cu su g (q_up m r j x) (pc + 3) ls st) : q_R M rm mc ms y cu su g m pc ls (q_L x :: q_A r :: st) := q_put hf hd hr (by decide) (fun _ _ => rfl) (fun _ _ => rfl) kk
theorem q_putZ {idx k j : Nat} (hf : q_fl M.1.cls idx k j 0 false .boolean) (hd : decode M.2.1 pc = .ok (.putfield idx, 3)) {r : Int} (hr : q_is g r k) {x : Int} (hx : x = 0 ∨ x = 1)
    (kk : q_R M rm mc ms y cu su g (q_up m r j x) (pc + 3) ls st) : q_R M rm mc ms y cu su g m pc ls (q_I x :: q_A r :: st) := by
  refine q_put hf hd hr (by decide) (fun _ _ => ?_) (fun _ _ => ?_) kk
  · rcases hx with rfl | rfl <;> rfl
  · rcases hx with rfl | rfl <;> rfl
theorem q_putR {idx k j : Nat} {tt : FieldType} (hf : q_fl M.1.cls idx k j 2 false tt) (ht : (∃ n, tt = .object n) ∨ ∃ t, tt = .array t) (hd : decode M.2.1 pc = .ok (.putfield idx, 3)) {r : Int} (hr : q_is g r k) {x : Int} (hx : 0 ≤ x)
    (kk : q_R M rm mc ms y cu su g (q_up m r j x) (pc + 3) ls st) : q_R M rm mc ms y cu su g m pc ls (q_A x :: q_A r :: st) := by
  have e9 : ∀ b ad, q_cv b ad (2, x) = .ref (b + x.toNat) := fun _ _ => if_neg (Int.not_lt.mpr hx)
  refine q_put hf hd hr (by decide) (fun b ad => ?_) (fun b ad => ?_) kk
  · rw [e9]
    rcases ht with ⟨n, rfl⟩ | ⟨t, rfl⟩ <;> rfl
  · rw [e9]
    rcases ht with ⟨n, rfl⟩ | ⟨t, rfl⟩ <;> rfl
theorem q_iald {n : Nat} {r x : Int} (hd : decode M.2.1 pc = .ok (.iaload, 1)) (hr : q_ar g r 20 n) (h1 : 0 ≤ q_w x) (h2 : q_w x < n) (kk : q_R M rm mc ms y cu su g m (pc + 1) ls (q_I (m r (q_w x)) :: st)) : q_R M rm mc ms y cu su g m pc ls (q_I x :: q_A r :: st) := by
  intro p l e s mi args below meth c H locs D cs b ad adV ar C hP hz hS hl
  obtain ⟨r0, r1, r2⟩ := hr
  have e9 : q_cv b ad (q_A r) = .ref (b + r.toNat) := if_neg (Int.not_lt.mpr r0)
  have hat := q_ws_at (b := b) (ad := ad) (cs := cs) (m := m) r1
  rw [q_cell_i (k := 0) r2 (by decide), Int.toNat_of_nonneg r0] at hat
  rw [List.map_cons, List.map_cons, e9]
  have h := kk p l e s mi args below meth c H locs D cs b ad adV ar C hP hz hS hl
  rw [← q_clw h1] at h
  exact va_iald C.1 C.2.1 C.2.2.2.2.2.2.2.2.1 hP r.toNat 0 hat rfl (q_inw h1 h2) hd h
theorem q_bald {n : Nat} {r x : Int} (hd : decode M.2.1 pc = .ok (.baload, 1)) (hr : q_ar g r 21 n) (h1 : 0 ≤ q_w x) (h2 : q_w x < n) (kk : q_R M rm mc ms y cu su g m (pc + 1) ls (q_I (m r (q_w x)) :: st)) : q_R M rm mc ms y cu su g m pc ls (q_I x :: q_A r :: st) := by
  intro p l e s mi args below meth c H locs D cs b ad adV ar C hP hz hS hl
  obtain ⟨r0, r1, r2⟩ := hr
  have e9 : q_cv b ad (q_A r) = .ref (b + r.toNat) := if_neg (Int.not_lt.mpr r0)
  have hat := q_ws_at (b := b) (ad := ad) (cs := cs) (m := m) r1
  rw [q_cell_i (k := 1) r2 (by decide), Int.toNat_of_nonneg r0] at hat
  rw [List.map_cons, List.map_cons, e9]
  have h := kk p l e s mi args below meth c H locs D cs b ad adV ar C hP hz hS hl
  rw [← q_clw h1] at h
  exact va_bald C.1 C.2.1 C.2.2.2.2.2.2.2.2.1 hP r.toNat 1 hat rfl (q_inw h1 h2) hd h
theorem q_zald {n : Nat} {r x : Int} (hd : decode M.2.1 pc = .ok (.baload, 1)) (hr : q_ar g r 22 n) (h1 : 0 ≤ q_w x) (h2 : q_w x < n) (kk : q_R M rm mc ms y cu su g m (pc + 1) ls (q_I (m r (q_w x)) :: st)) : q_R M rm mc ms y cu su g m pc ls (q_I x :: q_A r :: st) := by
  intro p l e s mi args below meth c H locs D cs b ad adV ar C hP hz hS hl
  obtain ⟨r0, r1, r2⟩ := hr
  have e9 : q_cv b ad (q_A r) = .ref (b + r.toNat) := if_neg (Int.not_lt.mpr r0)
  have hat := q_ws_at (b := b) (ad := ad) (cs := cs) (m := m) r1
  rw [q_cell_i (k := 2) r2 (by decide), Int.toNat_of_nonneg r0] at hat
  rw [List.map_cons, List.map_cons, e9]
  have h := kk p l e s mi args below meth c H locs D cs b ad adV ar C hP hz hS hl
  rw [← q_clw h1] at h
  exact va_zald C.1 C.2.1 C.2.2.2.2.2.2.2.2.1 hP r.toNat 2 hat rfl (q_inw h1 h2) hd h
theorem q_aald {n : Nat} {r x : Int} (hd : decode M.2.1 pc = .ok (.aaload, 1)) (hr : q_ar g r 23 n) (h1 : 0 ≤ q_w x) (h2 : q_w x < n) (kk : q_R M rm mc ms y cu su g m (pc + 1) ls (q_A (m r (q_w x)) :: st)) : q_R M rm mc ms y cu su g m pc ls (q_I x :: q_A r :: st) := by
  intro p l e s mi args below meth c H locs D cs b ad adV ar C hP hz hS hl
  obtain ⟨r0, r1, r2⟩ := hr
  have e9 : q_cv b ad (q_A r) = .ref (b + r.toNat) := if_neg (Int.not_lt.mpr r0)
  have hat := q_ws_at (b := b) (ad := ad) (cs := cs) (m := m) r1
  rw [q_cell_r r2, Int.toNat_of_nonneg r0] at hat
  rw [List.map_cons, List.map_cons, e9]
  have h := kk p l e s mi args below meth c H locs D cs b ad adV ar C hP hz hS hl
  rw [← q_clw h1, List.map_cons] at h
  refine va_aldq (C := RX1) C.1 C.2.1 C.2.2.2.2.2.2.2.2.1 hP r.toNat 3 hat rfl (q_inw h1 h2) hd ?_
  have e8 : va_rf (if m r ((Int32.ofInt x).toNatClampNeg : Int) < 0 then none else some (b + (m r ((Int32.ofInt x).toNatClampNeg : Int)).toNat)) = q_cv b ad (q_A (m r ((Int32.ofInt x).toNatClampNeg : Int))) := by
    show _ = if m r ((Int32.ofInt x).toNatClampNeg : Int) < 0 then Value.null else .ref (b + (m r ((Int32.ofInt x).toNatClampNeg : Int)).toNat)
    split <;> rfl
  rw [e8]
  exact h
theorem q_iast {n : Nat} {r x z : Int} (hd : decode M.2.1 pc = .ok (.iastore, 1)) (hr : q_ar g r 20 n) (h1 : 0 ≤ q_w x) (h2 : q_w x < n) (kk : q_R M rm mc ms y cu su g (q_up m r (q_w x) z) (pc + 1) ls st) : q_R M rm mc ms y cu su g m pc ls (q_I z :: q_I x :: q_A r :: st) := by
  intro p l e s mi args below meth c H locs D cs b ad adV ar C hP hz hS hl
  obtain ⟨r0, r1, r2⟩ := hr
  have e9 : q_cv b ad (q_A r) = .ref (b + r.toNat) := if_neg (Int.not_lt.mpr r0)
  have hrr : ((r.toNat : Nat) : Int) = r := Int.toNat_of_nonneg r0
  have hat := q_ws_at (b := b) (ad := ad) (cs := cs) (m := m) r1
  rw [q_cell_i (k := 0) r2 (by decide), hrr] at hat
  rw [List.map_cons, List.map_cons, List.map_cons, e9]
  refine W.iast C.1 C.2.1 (hP _ _ hat) ((C.2.2.2.2.2.2.2.2.1.2 0 _ rfl).1 n (fun j => .int (Int32.ofInt (m r j)))) (fun q => by cases q) (by show ¬ (_ ∨ (arrV _ _ _).slots.size ≤ _); rw [arrV_size]; exact q_inw h1 h2) rfl rfl hd fun H1 e1 z1 oq => ?_
  have hP1 : va_P D vwCl (q_ws b ad cs g (q_up m r (q_w x) z)) H1 := by
    refine q_P_set (c := r.toNat) rfl hP ?_ (fun c' _ hc' => by rw [← hrr]; exact q_cell_ne hc') oq
    rw [q_cell_i (k := 0) r2 (by decide)]
    show H1[b + r.toNat]? = some (vp_cell _ _)
    rw [e1, vp_cell_i, vp_cell_i, arrV_store]
    congr 2
    funext q
    rw [hrr]
    by_cases hq : q = (Int32.ofInt x).toNatClampNeg
    · subst hq
      rw [q_clw h1, q_up_s]
      simp [updV]
    · have : (q : Int) ≠ q_w x := fun h0 => hq (by have := q_clw h1; omega)
      rw [q_up_i this]
      simp [updV, hq]
  exact kk p l e s mi args below meth c H1 _ D cs b ad adV ar C hP1 (by rw [z1]; exact hz) (q_S_put hS z1 oq (Nat.le_add_right b _)) hl
theorem q_bast {n : Nat} {r x z : Int} (hd : decode M.2.1 pc = .ok (.bastore, 1)) (hr : q_ar g r 21 n) (h1 : 0 ≤ q_w x) (h2 : q_w x < n) (kk : q_R M rm mc ms y cu su g (q_up m r (q_w x) (q_i2b z)) (pc + 1) ls st) : q_R M rm mc ms y cu su g m pc ls (q_I z :: q_I x :: q_A r :: st) := by
  intro p l e s mi args below meth c H locs D cs b ad adV ar C hP hz hS hl
  obtain ⟨r0, r1, r2⟩ := hr
  have e9 : q_cv b ad (q_A r) = .ref (b + r.toNat) := if_neg (Int.not_lt.mpr r0)
  have hrr : ((r.toNat : Nat) : Int) = r := Int.toNat_of_nonneg r0
  have hat := q_ws_at (b := b) (ad := ad) (cs := cs) (m := m) r1
  rw [q_cell_i (k := 1) r2 (by decide), hrr] at hat
  rw [List.map_cons, List.map_cons, List.map_cons, e9]
  refine W.bast C.1 C.2.1 (hP _ _ hat) ((C.2.2.2.2.2.2.2.2.1.2 1 _ rfl).1 n (fun j => .int (Int32.ofInt (m r j)))) (fun q => by cases q) (by show ¬ (_ ∨ (arrV _ _ _).slots.size ≤ _); rw [arrV_size]; exact q_inw h1 h2) rfl rfl hd fun H1 e1 z1 oq => ?_
  have hP1 : va_P D vwCl (q_ws b ad cs g (q_up m r (q_w x) (q_i2b z))) H1 := by
    refine q_P_set (c := r.toNat) rfl hP ?_ (fun c' _ hc' => by rw [← hrr]; exact q_cell_ne hc') oq
    rw [q_cell_i (k := 1) r2 (by decide)]
    show H1[b + r.toNat]? = some (vp_cell _ _)
    rw [e1, vp_cell_i, vp_cell_i, arrV_store]
    congr 2
    funext q
    rw [hrr]
    by_cases hq : q = (Int32.ofInt x).toNatClampNeg
    · subst hq
      rw [q_clw h1, q_up_s]
      unfold updV
      rw [if_pos rfl]
      show Value.int ((Int32.ofInt z).toInt8.toInt32) = Value.int (Int32.ofInt (q_i2b z))
      rw [q_i2b, Int32.ofInt_toInt]
    · have : (q : Int) ≠ q_w x := fun h0 => hq (by have := q_clw h1; omega)
      rw [q_up_i this]
      simp [updV, hq]
  exact kk p l e s mi args below meth c H1 _ D cs b ad adV ar C hP1 (by rw [z1]; exact hz) (q_S_put hS z1 oq (Nat.le_add_right b _)) hl
theorem q_zast {n : Nat} {r x z : Int} (hd : decode M.2.1 pc = .ok (.bastore, 1)) (hr : q_ar g r 22 n) (h1 : 0 ≤ q_w x) (h2 : q_w x < n) (hz9 : z = 0 ∨ z = 1) (kk : q_R M rm mc ms y cu su g (q_up m r (q_w x) z) (pc + 1) ls st) : q_R M rm mc ms y cu su g m pc ls (q_I z :: q_I x :: q_A r :: st) := by
  intro p l e s mi args below meth c H locs D cs b ad adV ar C hP hz hS hl
  obtain ⟨r0, r1, r2⟩ := hr
  have e9 : q_cv b ad (q_A r) = .ref (b + r.toNat) := if_neg (Int.not_lt.mpr r0)
  have hrr : ((r.toNat : Nat) : Int) = r := Int.toNat_of_nonneg r0
  have hat := q_ws_at (b := b) (ad := ad) (cs := cs) (m := m) r1
  rw [q_cell_i (k := 2) r2 (by decide), hrr] at hat
  rw [List.map_cons, List.map_cons, List.map_cons, e9]
  refine W.zast C.1 C.2.1 (hP _ _ hat) ((C.2.2.2.2.2.2.2.2.1.2 2 _ rfl).1 n (fun j => .int (Int32.ofInt (m r j)))) (fun q => by cases q) (by show ¬ (_ ∨ (arrV _ _ _).slots.size ≤ _); rw [arrV_size]; exact q_inw h1 h2) rfl rfl hd fun H1 e1 z1 oq => ?_
  have hP1 : va_P D vwCl (q_ws b ad cs g (q_up m r (q_w x) z)) H1 := by
    refine q_P_set (c := r.toNat) rfl hP ?_ (fun c' _ hc' => by rw [← hrr]; exact q_cell_ne hc') oq
    rw [q_cell_i (k := 2) r2 (by decide)]
    show H1[b + r.toNat]? = some (vp_cell _ _)
    rw [e1, vp_cell_i, vp_cell_i, arrV_store]
    congr 2
    funext q
    rw [hrr]
    by_cases hq : q = (Int32.ofInt x).toNatClampNeg
    · subst hq
      rw [q_clw h1, q_up_s]
      rcases hz9 with rfl | rfl <;> simp [updV, narrow] <;> rfl
    · have : (q : Int) ≠ q_w x := fun h0 => hq (by have := q_clw h1; omega)
      rw [q_up_i this]
      simp [updV, hq]
  exact kk p l e s mi args below meth c H1 _ D cs b ad adV ar C hP1 (by rw [z1]; exact hz) (q_S_put hS z1 oq (Nat.le_add_right b _)) hl
theorem q_aast {n : Nat} {r x z : Int} (hd : decode M.2.1 pc = .ok (.aastore, 1)) (hr : q_ar g r 23 n) (h1 : 0 ≤ q_w x) (h2 : q_w x < n) (hq : q_is g z 1) (kk : q_R M rm mc ms y cu su g (q_up m r (q_w x) z) (pc + 1) ls st) : q_R M rm mc ms y cu su g m pc ls (q_A z :: q_I x :: q_A r :: st) := by
  intro p l e s mi args below meth c H locs D cs b ad adV ar C hP hz hS hl
  obtain ⟨r0, r1, r2⟩ := hr
  obtain ⟨z0, zl, z2⟩ := hq
  have hK := C.2.2.2.2.2.2.2.2.1
  have e9 : q_cv b ad (q_A r) = .ref (b + r.toNat) := if_neg (Int.not_lt.mpr r0)
  have e8 : q_cv b ad (q_A z) = .ref (b + z.toNat) := if_neg (Int.not_lt.mpr z0)
  have hrr : ((r.toNat : Nat) : Int) = r := Int.toNat_of_nonneg r0
  have hat := q_ws_at (b := b) (ad := ad) (cs := cs) (m := m) r1
  rw [q_cell_r r2, hrr] at hat
  have haz := q_ws_at (b := b) (ad := ad) (cs := cs) (m := m) zl
  rw [q_cell_o z2 (by decide)] at haz
  rw [List.map_cons, List.map_cons, List.map_cons, e9, e8]
  obtain ⟨r', hr', cellV, g1, g2, g3, -⟩ := hP _ _ haz
  have hcls := (hK.1 1 _ rfl).2
  obtain ⟨kA, comp, k1, k2, k3, -⟩ := (hK.2 3 _ rfl).2
  have hcomp : comp = D.1 1 := Option.some.inj (k3.symm.trans hcls.1)
  subst hcomp
  obtain ⟨kC, hkC, -⟩ := hcls.2
  have hin := q_inw h1 h2
  refine W.aast C.1 C.2.1 (hP _ _ hat) (fun q h => by cases h) (fun h => by cases h) k1 k2 rfl hkC ⟨fun q => hin (Or.inl q), by show _ < (arrV _ _ _).slots.size; rw [arrV_size]; exact Nat.not_le.mp fun q => hin (Or.inr q)⟩ g1 (fun q h => by rw [g3] at h; cases h) (by rw [g2]; exact hkC) (by rw [g2]; exact va_assign hcls) rfl rfl hd fun H1 e1 z1 oq => ?_
  have hP1 : va_P D vwCl (q_ws b ad cs g (q_up m r (q_w x) z)) H1 := by
    refine q_P_set (c := r.toNat) rfl hP ?_ (fun c' _ hc' => by rw [← hrr]; exact q_cell_ne hc') oq
    rw [q_cell_r r2]
    show H1[b + r.toNat]? = some (vp_cell _ _)
    rw [e1, vp_cell_q, vp_cell_q, arrV_store]
    congr 2
    funext q
    rw [hrr]
    by_cases hq : q = (Int32.ofInt x).toNatClampNeg
    · subst hq
      rw [q_clw h1, q_up_s, if_neg (Int.not_lt.mpr z0)]
      simp [updV, va_rf]
    · have : (q : Int) ≠ q_w x := fun h0 => hq (by have := q_clw h1; omega)
      rw [q_up_i this]
      simp [updV, hq]
  exact kk p l e s mi args below meth c H1 _ D cs b ad adV ar C hP1 (by rw [z1]; exact hz) (q_S_put hS z1 oq (Nat.le_add_right b _)) hl
/-! returns -/
theorem q_iret {x : Int} (hr : M.2.2.2 = some .int) (hd : decode M.2.1 pc = .ok (.ireturn, 1)) (hy : y = (some (q_I x), g, m)) (h1 : cu ≤ mc) (h2 : su ≤ ms) : q_R M rm mc ms y cu su g m pc ls [q_I x] := by
  intro p l e s mi args below meth c H locs D cs b ad adV ar C hP hz hS hl
  subst hy
  have hlocks := C.2.2.2.2.2.2.1
  refine W.widen h1 h2 ?_
  exact W.iret C.1 C.2.1 (C.2.2.1.trans hr) (fun t ht hW => ⟨⟨rfl, by rw [ht]; exact hP, by rw [ht]; exact hz⟩, hS.F ht⟩) hS.2.2 hd
theorem q_zret {x : Int} (hr : M.2.2.2 = some .boolean) (hd : decode M.2.1 pc = .ok (.ireturn, 1)) (hx : x = 0 ∨ x = 1) (hy : y = (some (q_I x), g, m)) (h1 : cu ≤ mc) (h2 : su ≤ ms) : q_R M rm mc ms y cu su g m pc ls [q_I x] := by
  intro p l e s mi args below meth c H locs D cs b ad adV ar C hP hz hS hl
  subst hy
  have hlocks := C.2.2.2.2.2.2.1
  refine W.widen h1 h2 ?_
  refine W.zret C.1 C.2.1 (C.2.2.1.trans hr) ?_ (fun t ht hW => ⟨⟨rfl, by rw [ht]; exact hP, by rw [ht]; exact hz⟩, hS.F ht⟩) hS.2.2 hd
  rcases hx with rfl | rfl <;> rfl
theorem q_vret (hr : M.2.2.2 = none) (hd : decode M.2.1 pc = .ok (.return_, 1)) (hy : y = (none, g, m)) (h1 : cu ≤ mc) (h2 : su ≤ ms) : q_R M rm mc ms y cu su g m pc ls [] := by
  intro p l e s mi args below meth c H locs D cs b ad adV ar C hP hz hS hl
  subst hy
  have hlocks := C.2.2.2.2.2.2.1
  refine W.widen h1 h2 ?_
  exact W.vret C.1 C.2.1 (C.2.2.1.trans hr) (fun t ht hW => ⟨⟨rfl, by rw [ht]; exact hP, by rw [ht]; exact hz⟩, hS.F ht⟩) hS.2.2 hd
theorem q_aret {x : Int} {rt : FieldType} (hr : M.2.2.2 = some rt) (hrt : (∃ n, rt = .object n) ∨ ∃ t, rt = .array t) (hx : 0 ≤ x) (hd : decode M.2.1 pc = .ok (.areturn, 1)) (hy : y = (some (q_A x), g, m)) (h1 : cu ≤ mc) (h2 : su ≤ ms) : q_R M rm mc ms y cu su g m pc ls [q_A x] := by
  intro p l e s mi args below meth c H locs D cs b ad adV ar C hP hz hS hl
  subst hy
  have hlocks := C.2.2.2.2.2.2.1
  have e9 : q_cv b ad (q_A x) = .ref (b + x.toNat) := if_neg (Int.not_lt.mpr hx)
  refine W.widen h1 h2 ?_
  exact W.aret C.1 C.2.1 (C.2.2.1.trans hr) hrt (Or.inr ⟨_, e9⟩) (fun t ht hW => ⟨⟨rfl, by rw [ht]; exact hP, by rw [ht]; exact hz⟩, hS.F ht⟩) hS.2.2 hd
/-! calls -/
theorem q_blind {b : Nat} {ad adV : Nat → Nat} {D : va_G} {cs : Nat → ClassId} {av : List q_V} {g : q_G} {m : q_Mem} : FrameBlind (q_Pc b ad adV D cs av g m) := by
  intro a U fr mk h
  obtain ⟨h0, h1, h2, h3, h4⟩ := h
  exact ⟨h0, va_K.moved (u := U) (U := U.calling fr mk a) (Vm.Alike.refl U.vm) h1, h2, h3, q_Ex.same (u := U) rfl h4⟩
/-- what comes back from a call -/
theorem q_back {mc' ms' : Nat} {v : Option q_V} {g' : q_G} {m' : q_Mem} {p : Program} {l : Launch} {e : Env} {s : State} {mi : MethodId} {args : Array Value} {below : List Frame} {meth : Method} {c : Code} {H : Heap} {locs : List Loc} {D : va_G} {cs : Nat → ClassId} {b : Nat} {ad adV : Nat → Nat} {ar : Array Slot} {st0 rest : List Value} {a : Array Value}
    (C : q_Cx M p s mi args meth c D cs b ad adV) (hS : va_S (fun q => b ≤ q) s.heap H locs) (hl : q_ls b ad M.2.2.1 ls ar) (hrest : rest = st.map (q_cv b ad))
    (hr : va_Run p l e rm s mi args below meth c H locs cu su mc' ms' (F0 mi pc ar st0) rest (q_Qc b ad D cs (v, g', m') a) (fun q => b ≤ q))
    (kk : q_R M rm mc ms y (cu + mc') (su + ms') g' m' (pc + 3) ls (v.toList ++ st)) :
    W p l e rm s mi args below meth c H locs cu su (MQ below (q_Qc b ad D cs y) args s mc ms (fun q => b ≤ q)) (F0 mi pc ar st0) := by
  intro T hT X
  obtain ⟨v', st₀, t, T', L, h0, X', hL, e1, e2, ⟨⟨hv, hP', hz'⟩, hzz, hk⟩, hst⟩ := hr T hT X
  cases hv
  rw [h0] at hzz hk
  have hS' : va_S (fun q => b ≤ q) s.heap T'.heap (locs ++ L) := ⟨Nat.le_trans hS.1 (by rw [e1]; exact hzz), fun q h1 h2 => by rw [e1, hk q (Nat.lt_of_lt_of_le h1 hS.1) h2]; exact hS.2.1 q h1 h2, fun q hq => by
      rcases List.mem_append.mp hq with h | h
      · exact hS.2.2 q h
      · exact hL q h⟩
  have hW := kk p l e s mi args below meth c T'.heap (locs ++ L) D cs b ad adV ar C (by rw [e1]; exact hP') (by rw [e1]; exact hz') hS' hl
  have heq : (v.toList ++ st).map (q_cv b ad) = (v.map (q_cv b ad)).toList ++ rest := by
    rw [hrest, List.map_append]
    cases v <;> rfl
  rw [heq] at hW
  obtain ⟨t2, a1, b1⟩ := hW T' rfl X'
  exact ⟨t2, hst t2 a1, b1⟩
def q_words (st : List q_V) : Nat := (st.map fun v => if v.1 = 1 then 2 else 1).sum
theorem q_words_eq (b : Nat) (ad : Nat → Nat) (st : List q_V) : ((st.map (q_cv b ad)).map fun v => v.category).sum = q_words st := by
  rw [q_words, List.map_map]
  congr 2
  funext v
  exact q_cat b ad v
theorem q_goodC {M' : q_M} {ws0 : List Cond} (hc : Cond.code M'.1 M'.2.1 M'.2.2.1 M'.2.2.2 ∈ q_T) (h0 : ∀ w ∈ ws0, w ∈ q_T) : GoodIn q_T (ws0 ++ (Cond.code M'.1 M'.2.1 M'.2.2.1 M'.2.2.2 :: q_T)) := by
  intro w hw
  have : w ∈ q_T := by
    rcases List.mem_append.mp hw with h | h
    · exact h0 w h
    · rcases List.mem_cons.mp h with h | h
      · rw [h]; exact hc
      · exact h
  exact ⟨this, q_good this⟩
theorem q_pre {b : Nat} {ad adV : Nat → Nat} {D : va_G} {cs : Nat → ClassId} {av : List q_V} {p : Program} {s : State} {mi : MethodId} {args : Array Value} {meth : Method} {c : Code} {H : Heap} {locs : List Loc} (C : q_Cx M p s mi args meth c D cs b ad adV) (hP : va_P D vwCl (q_ws b ad cs g m) H) (hz : H.size = b + g.1) (hS : va_S (fun q => b ≤ q) s.heap H locs) {As : List Value} (hA : As = av.map (q_cv b ad)) :
    ∀ U : State, U.heap = H → s.WarmedH U.vm → q_Pc b ad adV D cs av g m As.toArray U := by
  intro U hU hW
  refine ⟨by rw [hA], va_K.moved hW.alike C.2.2.2.2.2.2.2.2.1, by rw [hU]; exact hP, by rw [hU]; exact hz, ?_⟩
  rw [hU]
  exact (q_Ex.warm hW C.2.2.2.2.2.2.2.2.2.2).kept hS.2.1
/-- a call's words: own class, entry, the method called -/
def q_cl (own : String) (idx : Nat) (M' : q_M) (n : Nat) : Prop := Cond.methodLink own idx M'.1 ∈ q_T ∧ Cond.initialized M'.1.cls ∈ q_T ∧ Cond.code M'.1 M'.2.1 M'.2.2.1 M'.2.2.2 ∈ q_T ∧ M'.1.cls ≠ "java/lang/invoke/MethodHandle" ∧ M'.1.cls ≠ "java/lang/invoke/VarHandle" ∧ (parseMethodDescriptor M'.1.desc).map (fun d => d.parameters.length) = some n
theorem q_callV {M' : q_M} {rm' : Room} {mc' ms' idx n k : Nat} {av : List q_V} {r : Int} {v : Option q_V} {g' : q_G} {m' : q_Mem} (hw : q_cl M.1.cls idx M' n) (hin : Cond.instanceMethod M'.1 ∈ q_T) (hse : Cond.selects M'.1.cls M'.1 M'.1 ∈ q_T) (hd : decode M.2.1 pc = .ok (.invokevirtual idx, 3))
    (hC : q_C M' rm' mc' ms' (q_A r :: av) g m (v, g', m')) (hn : av.length = n) (hr : q_is g r k) (hk : ∃ T N, vwCl[k]? = some (M'.1.cls, T, N)) (hk12 : k < 12) (hst : q_words st ≤ 8)
    (hrm : rm'.cells = mc' ∧ rm'.slots = ms' ∧ rm'.frames + 1 ≤ rm.frames ∧ 8 + (M'.2.2.1 + 11) + rm'.locals ≤ rm.locals ∧ cu + mc' ≤ rm.cells ∧ su + ms' ≤ rm.slots)
    (kk : q_R M rm mc ms y (cu + mc') (su + ms') g' m' (pc + 3) ls (v.toList ++ st)) : q_R M rm mc ms y cu su g m pc ls (av.reverse ++ q_A r :: st) := by
  intro p l e s mi args below meth c H locs D cs b ad adV ar C hP hz hS hl
  obtain ⟨w1, w2, w3, w4, w5, w6⟩ := hw
  obtain ⟨rc, rs, rf, rl, f1, f2⟩ := hrm
  obtain ⟨T, N, hkk⟩ := hk
  obtain ⟨r0, r1, r2⟩ := hr
  have e9 : q_cv b ad (q_A r) = .ref (b + r.toNat) := if_neg (Int.not_lt.mpr r0)
  have hat := q_ws_at (b := b) (ad := ad) (cs := cs) (m := m) r1
  rw [q_cell_o r2 hk12] at hat
  have hts := C.2.2.2.2.2.1
  have hG : GoodIn q_T (wsV M.1.cls idx M'.1.cls M'.1 (Cond.code M'.1 M'.2.1 M'.2.2.1 M'.2.2.2 :: q_T)) := q_goodC w3 (fun w h => by
    simp only [List.mem_cons, List.not_mem_nil, or_false] at h
    rcases h with rfl | rfl | rfl | rfl
    · exact w1
    · exact hin
    · exact hse
    · exact w2)
  refine q_back C hS hl rfl (va_runV (b := b + r.toNat) (As := av.map (q_cv b ad)) (rest := st.map (q_cv b ad)) ⟨C.1, C.2.1, C.2.2.2.1, C.2.2.2.2.1, hts⟩ (hC l D cs b ad adV) (cwV n hts hG rfl rc rs ⟨rfl, w4, w5, w6⟩ ⟨rf, rl⟩)
    ⟨q_blind, va_recv C.2.2.2.2.2.2.2.2.1 hP hkk hat, q_pre C hP hz hS (by rw [List.map_cons, e9])⟩ rfl (by rw [List.length_map]; exact hn) hl.size (by rw [List.map_append, List.map_cons, e9, List.map_reverse]) (lv_room (by rw [q_words_eq]; exact hst)) hd ⟨f1, f2⟩) kk
theorem q_callS {M' : q_M} {rm' : Room} {mc' ms' idx n : Nat} {av : List q_V} {v : Option q_V} {g' : q_G} {m' : q_Mem} (hw : q_cl M.1.cls idx M' n) (hsta : Cond.static M'.1 ∈ q_T) (hd : decode M.2.1 pc = .ok (.invokestatic idx, 3))
    (hC : q_C M' rm' mc' ms' av g m (v, g', m')) (hn : av.length = n) (hst : q_words st ≤ 8)
    (hrm : rm'.cells = mc' ∧ rm'.slots = ms' ∧ rm'.frames + 1 ≤ rm.frames ∧ 8 + (M'.2.2.1 + 11) + rm'.locals ≤ rm.locals ∧ cu + mc' ≤ rm.cells ∧ su + ms' ≤ rm.slots)
    (kk : q_R M rm mc ms y (cu + mc') (su + ms') g' m' (pc + 3) ls (v.toList ++ st)) : q_R M rm mc ms y cu su g m pc ls (av.reverse ++ st) := by
  intro p l e s mi args below meth c H locs D cs b ad adV ar C hP hz hS hl
  obtain ⟨w1, w2, w3, w4, w5, w6⟩ := hw
  obtain ⟨rc, rs, rf, rl, f1, f2⟩ := hrm
  have hts := C.2.2.2.2.2.1
  have hG : GoodIn q_T (Cond.code M'.1 M'.2.1 M'.2.2.1 M'.2.2.2 :: q_T) := q_goodC (ws0 := []) w3 (fun w h => by cases h)
  refine q_back C hS hl rfl (va_runS (As := av.map (q_cv b ad)) (rest := st.map (q_cv b ad)) ⟨C.1, C.2.1, C.2.2.2.1, C.2.2.2.2.1, hts⟩ (hC l D cs b ad adV) ⟨callB_of n hts hG rfl rc rs (hts _ w2) (hts _ w1) ⟨w4, w5, w6⟩ ⟨rf, rl⟩, hts _ hsta⟩
    ⟨q_blind, q_pre C hP hz hS rfl⟩ rfl (by rw [List.length_map]; exact hn) hl.size (by rw [List.map_append, List.map_reverse]) (lv_room (by rw [q_words_eq]; exact hst)) hd ⟨f1, f2⟩) kk
/-- a static method of a nest mate -/
theorem q_callSN {M' : q_M} {rm' : Room} {mc' ms' idx n : Nat} {host : String} {av : List q_V} {v : Option q_V} {g' : q_G} {m' : q_Mem} (hw : (M.1.cls, idx, M'.1, host) ∈ q_nest ∧ Cond.initialized M'.1.cls ∈ q_T ∧ Cond.code M'.1 M'.2.1 M'.2.2.1 M'.2.2.2 ∈ q_T ∧ M'.1.cls ≠ "java/lang/invoke/MethodHandle" ∧ M'.1.cls ≠ "java/lang/invoke/VarHandle" ∧ (parseMethodDescriptor M'.1.desc).map (fun d => d.parameters.length) = some n) (hsta : Cond.static M'.1 ∈ q_T) (hd : decode M.2.1 pc = .ok (.invokestatic idx, 3))
    (hC : q_C M' rm' mc' ms' av g m (v, g', m')) (hn : av.length = n) (hst : q_words st ≤ 8)
    (hrm : rm'.cells = mc' ∧ rm'.slots = ms' ∧ rm'.frames + 1 ≤ rm.frames ∧ 8 + (M'.2.2.1 + 11) + rm'.locals ≤ rm.locals ∧ cu + mc' ≤ rm.cells ∧ su + ms' ≤ rm.slots)
    (kk : q_R M rm mc ms y (cu + mc') (su + ms') g' m' (pc + 3) ls (v.toList ++ st)) : q_R M rm mc ms y cu su g m pc ls (av.reverse ++ st) := by
  intro p l e s mi args below meth c H locs D cs b ad adV ar C hP hz hS hl
  obtain ⟨w1, w2, w3, w4, w5, w6⟩ := hw
  obtain ⟨rc, rs, rf, rl, f1, f2⟩ := hrm
  have hts := C.2.2.2.2.2.1
  have hG : GoodIn q_T (Cond.code M'.1 M'.2.1 M'.2.2.1 M'.2.2.2 :: q_T) := q_goodC (ws0 := []) w3 (fun w h => by cases h)
  refine q_back C hS hl rfl (va_runSN (As := av.map (q_cv b ad)) (rest := st.map (q_cv b ad)) ⟨C.1, C.2.1, C.2.2.2.1, C.2.2.2.2.1, hts⟩ (hC l D cs b ad adV) ⟨va_cnB n hts hG rfl rc rs (C.2.2.2.2.2.2.2.2.2.2.1 _ w1) (hts _ w2) ⟨w4, w5, w6⟩ ⟨rf, rl⟩, hts _ hsta, trivial⟩
    ⟨q_blind, q_pre C hP hz hS rfl⟩ rfl (by rw [List.length_map]; exact hn) hl.size (by rw [List.map_append, List.map_reverse]) (lv_room (by rw [q_words_eq]; exact hst)) hd ⟨f1, f2⟩) kk
/-- a constructor: of a nest mate, or by an ordinary link -/
theorem q_callI {M' : q_M} {rm' : Room} {mc' ms' idx n : Nat} {av : List q_V} {r : Int} {v : Option q_V} {g' : q_G} {m' : q_Mem} (hw : q_cl M.1.cls idx M' n) (hin : Cond.instanceMethod M'.1 ∈ q_T) (hi : M'.1.name = "<init>") (hret : M'.2.2.2 = none) (hd : decode M.2.1 pc = .ok (.invokespecial idx, 3))
    (hC : q_C M' rm' mc' ms' (q_A r :: av) g m (v, g', m')) (hn : av.length = n) (r0 : 0 ≤ r) (hst : q_words st ≤ 8)
    (hrm : rm'.cells = mc' ∧ rm'.slots = ms' ∧ rm'.frames + 1 ≤ rm.frames ∧ 8 + (M'.2.2.1 + 11) + rm'.locals ≤ rm.locals ∧ cu + mc' ≤ rm.cells ∧ su + ms' ≤ rm.slots)
    (kk : q_R M rm mc ms y (cu + mc') (su + ms') g' m' (pc + 3) ls (v.toList ++ st)) : q_R M rm mc ms y cu su g m pc ls (av.reverse ++ q_A r :: st) := by
  intro p l e s mi args below meth c H locs D cs b ad adV ar C hP hz hS hl
  obtain ⟨w1, w2, w3, w4, w5, w6⟩ := hw
  obtain ⟨rc, rs, rf, rl, f1, f2⟩ := hrm
  have e9 : q_cv b ad (q_A r) = .ref (b + r.toNat) := if_neg (Int.not_lt.mpr r0)
  have hts := C.2.2.2.2.2.1
  have hG : GoodIn q_T (Cond.code M'.1 M'.2.1 M'.2.2.1 M'.2.2.2 :: q_T) := q_goodC (ws0 := []) w3 (fun w h => by cases h)
  have hM := hC l D cs b ad adV
  rw [hret] at hM hG
  refine q_back C hS hl rfl (va_runI (b := b + r.toNat) (As := av.map (q_cv b ad)) (rest := st.map (q_cv b ad)) ⟨C.1, C.2.1, C.2.2.2.1, C.2.2.2.2.1, hts⟩ hM ⟨callB_of n hts hG rfl rc rs (hts _ w2) (hts _ w1) ⟨w4, w5, w6⟩ ⟨rf, rl⟩, hi, hts _ hin⟩
    ⟨q_blind, q_pre C hP hz hS (by rw [List.map_cons, e9])⟩ rfl (by rw [List.length_map]; exact hn) hl.size (by rw [List.map_append, List.map_cons, e9, List.map_reverse]) (lv_room (by rw [q_words_eq]; exact hst)) hd ⟨f1, f2⟩) kk
theorem q_callIN {M' : q_M} {rm' : Room} {mc' ms' idx n : Nat} {host : String} {av : List q_V} {r : Int} {v : Option q_V} {g' : q_G} {m' : q_Mem} (hw : (M.1.cls, idx, M'.1, host) ∈ q_nest ∧ Cond.initialized M'.1.cls ∈ q_T ∧ Cond.code M'.1 M'.2.1 M'.2.2.1 M'.2.2.2 ∈ q_T ∧ M'.1.cls ≠ "java/lang/invoke/MethodHandle" ∧ M'.1.cls ≠ "java/lang/invoke/VarHandle" ∧ (parseMethodDescriptor M'.1.desc).map (fun d => d.parameters.length) = some n) (hin : Cond.instanceMethod M'.1 ∈ q_T) (hi : M'.1.name = "<init>") (hret : M'.2.2.2 = none) (hd : decode M.2.1 pc = .ok (.invokespecial idx, 3))
    (hC : q_C M' rm' mc' ms' (q_A r :: av) g m (v, g', m')) (hn : av.length = n) (r0 : 0 ≤ r) (hst : q_words st ≤ 8)
    (hrm : rm'.cells = mc' ∧ rm'.slots = ms' ∧ rm'.frames + 1 ≤ rm.frames ∧ 8 + (M'.2.2.1 + 11) + rm'.locals ≤ rm.locals ∧ cu + mc' ≤ rm.cells ∧ su + ms' ≤ rm.slots)
    (kk : q_R M rm mc ms y (cu + mc') (su + ms') g' m' (pc + 3) ls (v.toList ++ st)) : q_R M rm mc ms y cu su g m pc ls (av.reverse ++ q_A r :: st) := by
  intro p l e s mi args below meth c H locs D cs b ad adV ar C hP hz hS hl
  obtain ⟨w1, w2, w3, w4, w5, w6⟩ := hw
  obtain ⟨rc, rs, rf, rl, f1, f2⟩ := hrm
  have e9 : q_cv b ad (q_A r) = .ref (b + r.toNat) := if_neg (Int.not_lt.mpr r0)
  have hts := C.2.2.2.2.2.1
  have hG : GoodIn q_T (Cond.code M'.1 M'.2.1 M'.2.2.1 M'.2.2.2 :: q_T) := q_goodC (ws0 := []) w3 (fun w h => by cases h)
  have hM := hC l D cs b ad adV
  rw [hret] at hM hG
  refine q_back C hS hl rfl (va_runIN (b := b + r.toNat) (As := av.map (q_cv b ad)) (rest := st.map (q_cv b ad)) ⟨C.1, C.2.1, C.2.2.2.1, C.2.2.2.2.1, hts⟩ hM ⟨va_cnB n hts hG rfl rc rs (C.2.2.2.2.2.2.2.2.2.2.1 _ w1) (hts _ w2) ⟨w4, w5, w6⟩ ⟨rf, rl⟩, hi, hts _ hin⟩
    ⟨q_blind, q_pre C hP hz hS (by rw [List.map_cons, e9])⟩ rfl (by rw [List.length_map]; exact hn) hl.size (by rw [List.map_append, List.map_cons, e9, List.map_reverse]) (lv_room (by rw [q_words_eq]; exact hst)) hd ⟨f1, f2⟩) kk
/-- Object's constructor -/
theorem q_obj {idx : Nat} {r : Int} (hd : decode M.2.1 pc = .ok (.invokespecial idx, 3)) (hw : Cond.methodLink M.1.cls idx Lib.objectInit ∈ q_T) (hin : Cond.instanceMethod Lib.objectInit ∈ q_T) (hco : Cond.code Lib.objectInit ⟨#[0xb1]⟩ 1 none ∈ q_T) (r0 : 0 ≤ r) (hfr : 1 ≤ rm.frames) (hlo : q_words st + 12 ≤ rm.locals)
    (kk : q_R M rm mc ms y cu su g m (pc + 3) ls st) : q_R M rm mc ms y cu su g m pc ls (q_A r :: st) := by
  intro p l e s mi args below meth c H locs D cs b ad adV ar C hP hz hS hl
  have e9 : q_cv b ad (q_A r) = .ref (b + r.toNat) := if_neg (Int.not_lt.mpr r0)
  have hts := C.2.2.2.2.2.1
  rw [List.map_cons, e9]
  refine W.objInit C.1 C.2.1 C.2.2.2.2.1 (hts _ hw) (hts _ hin) (hts _ hco) rfl (hl.size.trans C.2.2.2.1.symm) rfl hd hfr ?_ (kk p l e s mi args below meth c H locs D cs b ad adV ar C hP hz hS hl)
  show 2 * 0 + ((st.map (q_cv b ad)).map fun v => v.category).sum + 12 ≤ rm.locals
  rw [q_words_eq]
  omega
/-! Math -/
def q_max (x z : Int) : Int := if q_w x < q_w z then z else x
def q_min (x z : Int) : Int := if q_w z < q_w x then z else x
def q_abs (x : Int) : Int := if 0 ≤ q_w x then x else 0 - x
theorem q_mmax {idx : Nat} {x z : Int} (hd : decode M.2.1 pc = .ok (.invokestatic idx, 3)) (hw : Cond.methodLink M.1.cls idx Lib.Math.max.name ∈ q_T) (hsta : Cond.static Lib.Math.max.name ∈ q_T) (hini : Cond.initialized "java/lang/Math" ∈ q_T) (hco : Cond.code Lib.Math.max.name Lib.Math.max.code 2 (some .int) ∈ q_T) (hfr : 1 ≤ rm.frames) (hlo : q_words st + 13 ≤ rm.locals) (hc : cu ≤ rm.cells) (hs : su ≤ rm.slots)
    (kk : q_R M rm mc ms y cu su g m (pc + 3) ls (q_I (q_max x z) :: st)) : q_R M rm mc ms y cu su g m pc ls (q_I z :: q_I x :: st) := by
  intro p l e s mi args below meth c H locs D cs b ad adV ar C hP hz hS hl
  have hts := C.2.2.2.2.2.1
  refine va_mmax C.1 C.2.1 (C.2.2.2.1.trans hl.size.symm) C.2.2.2.2.1 (hts _ hw) (hts _ hsta) (hts _ hini) (hts _ hco) hfr (by rw [q_words_eq]; exact hlo) hc hs hd ?_
  have h := kk p l e s mi args below meth c H locs D cs b ad adV ar C hP hz hS hl
  have e9 : q_cv b ad (q_I (q_max x z)) = .int (if Int32.ofInt x < Int32.ofInt z then Int32.ofInt z else Int32.ofInt x) := by
    show Value.int (Int32.ofInt (q_max x z)) = _
    rw [q_max]
    by_cases h0 : q_w x < q_w z
    · rw [if_pos h0, if_pos (q_ltw.mpr h0)]
    · rw [if_neg h0, if_neg (fun h1 => h0 (q_ltw.mp h1))]
  rw [List.map_cons, e9] at h
  exact h
theorem q_mmin {idx : Nat} {x z : Int} (hd : decode M.2.1 pc = .ok (.invokestatic idx, 3)) (hw : Cond.methodLink M.1.cls idx Lib.Math.min.name ∈ q_T) (hsta : Cond.static Lib.Math.min.name ∈ q_T) (hini : Cond.initialized "java/lang/Math" ∈ q_T) (hco : Cond.code Lib.Math.min.name Lib.Math.min.code 2 (some .int) ∈ q_T) (hfr : 1 ≤ rm.frames) (hlo : q_words st + 13 ≤ rm.locals) (hc : cu ≤ rm.cells) (hs : su ≤ rm.slots)
    (kk : q_R M rm mc ms y cu su g m (pc + 3) ls (q_I (q_min x z) :: st)) : q_R M rm mc ms y cu su g m pc ls (q_I z :: q_I x :: st) := by
  intro p l e s mi args below meth c H locs D cs b ad adV ar C hP hz hS hl
  have hts := C.2.2.2.2.2.1
  refine va_mmin C.1 C.2.1 (C.2.2.2.1.trans hl.size.symm) C.2.2.2.2.1 (hts _ hw) (hts _ hsta) (hts _ hini) (hts _ hco) hfr (by rw [q_words_eq]; exact hlo) hc hs hd ?_
  have h := kk p l e s mi args below meth c H locs D cs b ad adV ar C hP hz hS hl
  have e9 : q_cv b ad (q_I (q_min x z)) = .int (if Int32.ofInt z < Int32.ofInt x then Int32.ofInt z else Int32.ofInt x) := by
    show Value.int (Int32.ofInt (q_min x z)) = _
    rw [q_min]
    by_cases h0 : q_w z < q_w x
    · rw [if_pos h0, if_pos (q_ltw.mpr h0)]
    · rw [if_neg h0, if_neg (fun h1 => h0 (q_ltw.mp h1))]
  rw [List.map_cons, e9] at h
  exact h
theorem q_mabs {idx : Nat} {x : Int} (hd : decode M.2.1 pc = .ok (.invokestatic idx, 3)) (hw : Cond.methodLink M.1.cls idx Lib.Math.abs.name ∈ q_T) (hsta : Cond.static Lib.Math.abs.name ∈ q_T) (hini : Cond.initialized "java/lang/Math" ∈ q_T) (hco : Cond.code Lib.Math.abs.name Lib.Math.abs.code 1 (some .int) ∈ q_T) (hfr : 1 ≤ rm.frames) (hlo : q_words st + 13 ≤ rm.locals) (hc : cu ≤ rm.cells) (hs : su ≤ rm.slots)
    (kk : q_R M rm mc ms y cu su g m (pc + 3) ls (q_I (q_abs x) :: st)) : q_R M rm mc ms y cu su g m pc ls (q_I x :: st) := by
  intro p l e s mi args below meth c H locs D cs b ad adV ar C hP hz hS hl
  have hts := C.2.2.2.2.2.1
  refine va_mabs C.1 C.2.1 (C.2.2.2.1.trans hl.size.symm) C.2.2.2.2.1 (hts _ hw) (hts _ hsta) (hts _ hini) (hts _ hco) hfr (by rw [q_words_eq]; exact hlo) hc hs hd ?_
  have h := kk p l e s mi args below meth c H locs D cs b ad adV ar C hP hz hS hl
  have e9 : q_cv b ad (q_I (q_abs x)) = .int (if 0 ≤ Int32.ofInt x then Int32.ofInt x else 0 - Int32.ofInt x) := by
    show Value.int (Int32.ofInt (q_abs x)) = _
    have cv : (0 : Int32) ≤ Int32.ofInt x ↔ 0 ≤ q_w x := by rw [q_0w]; exact q_lew
    rw [q_abs]
    by_cases h0 : 0 ≤ q_w x
    · rw [if_pos h0, if_pos (cv.mpr h0)]
    · rw [if_neg h0, if_neg (fun h1 => h0 (cv.mp h1)), Int32.ofInt_sub]
      rfl
  rw [List.map_cons, e9] at h
  exact h
end q_heap
