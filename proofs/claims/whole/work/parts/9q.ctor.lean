/-! THE CONSTRUCTORS: rows -/
/-- a field's, an element's first value -/
def q_bk (k j : Nat) : Int := if k = 23 then -1 else if k < 12 ∧ q_so k j = 2 then -1 else 0
def q_m0 : q_Mem := fun c j => if 0 ≤ c ∧ 0 ≤ j then q_bk (q_lay c.toNat).1 j.toNat else 0
def q_pu (phi : Nat → Nat → Int) (c j : Nat) (v : Int) : Nat → Nat → Int := fun c' j' => if c' = c ∧ j' = j then v else phi c' j'
def q_tyok (t : FieldType) (so : Nat) : Bool := match t with
  | .int => so == 0
  | .boolean => so == 0
  | .long => so == 1
  | .object _ => so == 2 || so == 4
  | .array _ => so == 2 || so == 4
  | _ => false
theorem q_tyok_dv {t : FieldType} {so : Nat} (h : q_tyok t so = true) : (so = 0 ∧ defaultValue t = .int 0) ∨ (so = 1 ∧ defaultValue t = .long 0) ∨ ((so = 2 ∨ so = 4) ∧ defaultValue t = .null) := by
  cases t <;> simp [q_tyok] at h
  · exact Or.inl ⟨h, rfl⟩
  · exact Or.inr (Or.inl ⟨h, rfl⟩)
  · exact Or.inl ⟨h, rfl⟩
  · exact Or.inr (Or.inr ⟨h, rfl⟩)
  · exact Or.inr (Or.inr ⟨h, rfl⟩)
theorem q_ws_1 {b : Nat} {ad : Nat → Nat} {cs : Nat → ClassId} {m : q_Mem} {N : Nat} {lay : Nat → Nat × Nat} {phi : Nat → Nat → Int} : q_ws b ad cs (N + 1, lay, phi) m = q_ws b ad cs (N, lay, phi) m ++ [(b + N, q_cell b ad cs (N, lay, phi) m N)] := by
  unfold q_ws
  rw [show (N + 1, lay, phi).1 = N + 1 from rfl, List.range_succ, List.map_append]
  rfl
theorem q_cvN {b N : Nat} {ad : Nat → Nat} : q_cv b ad (q_A (N : Int)) = .ref (b + N) := by
  show (if (N : Int) < 0 then Value.null else .ref (b + (N : Int).toNat)) = _
  rw [if_neg (by omega), Int.toNat_natCast]
theorem q_m0_at {c j : Nat} : q_m0 (c : Int) (j : Int) = q_bk (q_lay c).1 j := by
  unfold q_m0
  rw [if_pos (by omega), Int.toNat_natCast, Int.toNat_natCast]
section q_ctor
variable {M : q_M} {rm : Room} {mc ms : Nat} {y : Option q_V × q_G × q_Mem} {cu su : Nat} {m : q_Mem} {pc : Nat} {ls st : List q_V} {N : Nat} {phi : Nat → Nat → Int}
/-- one more cell stands behind the others -/
theorem q_P_1 {D : va_G} {b : Nat} {ad : Nat → Nat} {cs : Nat → ClassId} {H H1 : Heap} (hP : va_P D vwCl (q_ws b ad cs (N, q_lay, phi) m) H) (hz : H.size = b + N) (o1 : ∀ q, q < H.size → H1[q]? = H[q]?) (hnew : va_at D vwCl (b + N, q_cell b ad cs (N, q_lay, phi) m N) H1) : va_P D vwCl (q_ws b ad cs (N + 1, q_lay, phi) m) H1 := by
  rw [q_ws_1]
  refine (hP.kept fun k x hx => o1 x.1 ((hP k x hx).lt)).app fun k x hx => ?_
  have hk : k < 1 := (List.getElem?_eq_some_iff.mp hx).1
  rw [show k = 0 by omega] at hx
  cases hx
  exact hnew
theorem q_newO {idx k nf : Nat} {C0 : String} {T : u_T} {ty : Nat → FieldType} (hcl : q_clok k C0 T nf ty) (hl : Cond.classLink M.1.cls idx C0 ∈ q_T) (hin : Cond.instantiable C0 nf ∈ q_T) (hini : Cond.initialized C0 ∈ q_T) (hd : decode M.2.1 pc = .ok (.new idx, 3)) (hk : (q_lay N).1 = k) (hphi : phi N = fun _ => -1) (hm : m N = q_m0 N) (hty : ∀ j, j < nf → q_tyok (ty j) (q_so k j) = true) (hc : cu + 1 ≤ rm.cells) (hs : su + nf ≤ rm.slots)
    (kk : q_R M rm mc ms y (cu + 1) (su + nf) (N + 1, q_lay, phi) m (pc + 3) ls (q_A N :: st)) : q_R M rm mc ms y cu su (N, q_lay, phi) m pc ls st := by
  intro p l e s mi args below meth c H locs D cs b ad adV ar C hP hz hS hl'
  obtain ⟨h1, h2, h3, h4, h5, h6⟩ := hcl
  have hts := C.2.2.2.2.2.1
  have hKn := C.2.2.2.2.2.2.2.2.1.1 k _ h1
  have hz' : H.size = b + N := hz
  refine W.newcK C.1 C.2.1 C.2.2.2.2.1 (hts _ hl) (hts _ hin) (hts _ hini) rfl hd hc hs hKn.2.1 hz' fun H1 kC hkC e1 z1 o1 => ?_
  have e9 : q_cv b ad (q_A (N : Int)) = .ref (b + N) := q_cvN
  have hW := kk p l e s mi args below meth c H1 locs D cs b ad adV ar C (q_P_1 hP hz' (fun q hq => o1 q (by omega)) ?_) (by rw [z1]; show b + N + 1 = b + (N + 1); omega) ⟨Nat.le_trans hS.1 (by omega), fun x g1 g2 => (o1 x (by have := hS.1; omega)).trans (hS.2.1 x g1 g2), hS.2.2⟩ hl'
  · rw [List.map_cons, e9] at hW
    exact hW
  · rw [q_cell_o (k := k) hk h6]
    refine ⟨_, h1, (u_born ty hts h2 hKn hkC e1 h3).to fun j hj => ?_⟩
    have hj' : j < q_nf k := by rw [h5]; exact hj
    unfold vp_V
    simp only [List.getD_eq_getElem?_getD, List.getElem?_map, List.getElem?_range hj', Option.map_some, Option.getD_some]
    have em : m (N : Int) (j : Int) = q_bk k j := by
      rw [hm, q_m0_at, hk]
    have ep : phi N j = -1 := by rw [hphi]
    rw [ep, em]
    unfold q_bk
    rw [if_neg (show ¬ k = 23 by omega)]
    rcases q_tyok_dv (hty j hj) with ⟨hso, hd⟩ | ⟨hso, hd⟩ | ⟨hso | hso, hd⟩
    · rw [hd, hso, if_neg (by decide), if_neg (by omega)]; rfl
    · rw [hd, hso, if_neg (by decide), if_neg (by omega)]; rfl
    · rw [hd, hso, if_neg (by decide), if_pos (by omega)]; rfl
    · rw [hd, hso, if_pos rfl]; rfl
theorem q_newA {k n : Nat} {x : Int} {atype : ArrayType} {ty : FieldType} (hty : newarray.typeOf atype = ty) (hk : (k = 0 ∧ ty = .int) ∨ (k = 1 ∧ ty = .byte) ∨ (k = 2 ∧ ty = .boolean)) (har : Cond.arrayClass ty ∈ q_T) (hd : decode M.2.1 pc = .ok (.newarray atype, 2)) (hl : q_lay N = (20 + k, n)) (hx : q_w x = n) (hn : n ≤ 20000) (hm : m N = q_m0 N) (hc : cu + 1 ≤ rm.cells) (hs : su + n ≤ rm.slots)
    (kk : q_R M rm mc ms y (cu + 1) (su + n) (N + 1, q_lay, phi) m (pc + 2) ls (q_A N :: st)) : q_R M rm mc ms y cu su (N, q_lay, phi) m pc ls (q_I x :: st) := by
  intro p l e s mi args below meth c H locs D cs b ad adV ar C hP hz hS hl'
  subst hty
  have hts := C.2.2.2.2.2.1
  have hz' : H.size = b + N := hz
  have hk3 : k < 3 := by omega
  have hcb : componentBytes (newarray.typeOf atype) ≤ 4 := by
    rcases hk with ⟨_, e⟩ | ⟨_, e⟩ | ⟨_, e⟩ <;> rw [e] <;> decide
  have hdv : defaultValue (newarray.typeOf atype) = .int 0 := by
    rcases hk with ⟨_, e⟩ | ⟨_, e⟩ | ⟨_, e⟩ <;> rw [e] <;> rfl
  have hnn : ¬ Int32.ofInt x < 0 := by
    rw [q_0w, q_ltw, hx]
    show ¬ (n : Int) < 0
    omega
  have hcl : (Int32.ofInt x).toNatClampNeg = n := by
    have := q_clw (x := x) (by omega)
    omega
  refine va_newaK C.1 C.2.1 (hts _ har) rfl hd rfl hnn hcl (Nat.le_trans (Nat.mul_le_mul hn hcb) (by decide)) hc hs hz' fun H1 cA e1 z1 o1 hAr hNm => ?_
  have hcA : cs k = cA := by
    have hK := C.2.2.2.2.2.2.2.2.1.2
    rcases hk with ⟨rfl, e⟩ | ⟨rfl, e⟩ | ⟨rfl, e⟩
    · have := (hK 0 _ rfl).2
      rw [e] at hNm
      exact Option.some.inj (this.symm.trans hNm)
    · have := (hK 1 _ rfl).2
      rw [e] at hNm
      exact Option.some.inj (this.symm.trans hNm)
    · have := (hK 2 _ rfl).2
      rw [e] at hNm
      exact Option.some.inj (this.symm.trans hNm)
  have e9 : q_cv b ad (q_A (N : Int)) = .ref (b + N) := q_cvN
  have hW := kk p l e s mi args below meth c H1 locs D cs b ad adV ar C (q_P_1 hP hz' (fun q hq => o1 q (by omega)) ?_) (by rw [z1]; show b + N + 1 = b + (N + 1); omega) ⟨Nat.le_trans hS.1 (by omega), fun x g1 g2 => (o1 x (by have := hS.1; omega)).trans (hS.2.1 x g1 g2), hS.2.2⟩ hl'
  · rw [List.map_cons, e9] at hW
    exact hW
  · rw [q_cell_i (k := k) hl hk3]
    show H1[b + N]? = some (vp_cell _ _)
    rw [vp_cell_i, hcA, e1, hdv]
    congr 2
    funext j
    have ej : q_bk (20 + k) j = 0 := by
      unfold q_bk
      rw [if_neg (by omega), if_neg (by omega)]
    rw [hm, q_m0_at, hl, ej]
    rfl
theorem q_newQ {idx n : Nat} {x : Int} (hw : Cond.classLink M.1.cls idx RX1 ∈ q_T) (hd : decode M.2.1 pc = .ok (.anewarray idx, 3)) (hl : q_lay N = (23, n)) (hx : q_w x = n) (hn : n ≤ 20000) (hm : m N = q_m0 N) (hc : cu + 1 ≤ rm.cells) (hs : su + n ≤ rm.slots)
    (kk : q_R M rm mc ms y (cu + 1) (su + n) (N + 1, q_lay, phi) m (pc + 3) ls (q_A N :: st)) : q_R M rm mc ms y cu su (N, q_lay, phi) m pc ls (q_I x :: st) := by
  intro p l e s mi args below meth c H locs D cs b ad adV ar C hP hz hS hl'
  have hts := C.2.2.2.2.2.1
  have hz' : H.size = b + N := hz
  have hnn : ¬ Int32.ofInt x < 0 := by
    rw [q_0w, q_ltw, hx]
    show ¬ (n : Int) < 0
    omega
  have hcl : (Int32.ofInt x).toNatClampNeg = n := by
    have := q_clw (x := x) (by omega)
    omega
  refine W.anew C.1 C.2.1 C.2.2.2.2.1 (hts _ hw) (va_AO.use C.2.2.2.2.2.2.2.2.2.2.2.1) rfl hd rfl hnn (by rw [hcl]; omega) hc (by rw [hcl]; exact hs) fun cA kA comp f1 f2 f3 f4 => ?_
  rw [hcl]
  generalize hH1 : H.push ({ cls := cA, slots := Array.replicate n .null, vm := .none } : Cell) = H1
  have z1 : H1.size = H.size + 1 := by rw [← hH1, Array.size_push]
  have e1 : H1[b + N]? = some (arrV cA n (fun _ => .null)) := by rw [← hz', ← hH1, Array.getElem?_push_size, ← arrV_new]
  have o1 : ∀ q : Nat, q < H.size → H1[q]? = H[q]? := fun q hq => by rw [← hH1, Array.getElem?_push, if_neg (Nat.ne_of_lt hq)]
  have hcA : cs 3 = cA := by
    obtain ⟨kA', comp', g1, g2, g3, g4⟩ := (C.2.2.2.2.2.2.2.2.1.2 3 _ rfl).2
    exact Option.some.inj (g4.symm.trans f1)
  have e9 : q_cv b ad (q_A (N : Int)) = .ref (b + N) := q_cvN
  have hW := kk p l e s mi args below meth c H1 locs D cs b ad adV ar C (q_P_1 hP hz' o1 ?_) (by rw [z1, hz']; show b + N + 1 = b + (N + 1); omega) ⟨Nat.le_trans hS.1 (by omega), fun x g1 g2 => (o1 x (by have := hS.1; omega)).trans (hS.2.1 x g1 g2), hS.2.2⟩ hl'
  · rw [List.map_cons, e9, ← hz'] at hW
    exact hW
  · rw [q_cell_r hl]
    show H1[b + N]? = some (vp_cell _ _)
    rw [vp_cell_q, hcA, e1]
    congr 2
    funext j
    have ej : q_bk 23 j = -1 := rfl
    rw [hm, q_m0_at, hl, ej, if_pos (by decide)]
    rfl
/-- a final field, in a constructor -/
theorem q_putF {idx k j r : Nat} {tt : FieldType} {lay : Nat → Nat × Nat} (hf : q_fl M.1.cls idx k j 4 true tt) (hk : ∃ T nf, vwCl[k]? = some (M.1.cls, T, nf)) (ht : (∃ n, tt = .object n) ∨ ∃ t, tt = .array t) (hin : M.1.name = "<init>") (hd : decode M.2.1 pc = .ok (.putfield idx, 3)) (hr : q_is (N, lay, phi) r k) {x : Int} (hx : 0 ≤ x)
    (kk : q_R M rm mc ms y cu su (N, lay, q_pu phi r j x) m (pc + 3) ls st) : q_R M rm mc ms y cu su (N, lay, phi) m pc ls (q_A x :: q_A r :: st) := by
  intro p l e s mi args below meth c H locs D cs b ad adV ar C hP hz hS hl
  obtain ⟨Cn, T, nf, ty, ⟨h1, h2, h3, h4, h5, h6⟩, hj, hw, hC, hs, hfin, htt⟩ := hf
  obtain ⟨T', nf', hk'⟩ := hk
  have hCn : Cn = M.1.cls := congrArg Prod.fst (Option.some.inj (h1.symm.trans hk'))
  obtain ⟨r0, r1, r2⟩ := hr
  rw [Int.toNat_natCast] at r1 r2
  have hts := C.2.2.2.2.2.1
  have hK := C.2.2.2.2.2.2.2.2.1
  have e9 : q_cv b ad (q_A (r : Int)) = .ref (b + r) := q_cvN
  have ex : q_cv b ad (q_A x) = .ref (b + x.toNat) := if_neg (Int.not_lt.mpr hx)
  rw [List.map_cons, List.map_cons, e9, ex]
  have hat := q_ws_at (b := b) (ad := ad) (cs := cs) (m := m) r1
  rw [q_cell_o r2 h6] at hat
  have hap := va_apart (own := Cn) hts h2 ty h3 h4 hK h1
  obtain ⟨r', g1, cell, q1, q2, q3, q4⟩ := hP _ _ hat
  cases Option.some.inj (g1.symm.trans h1)
  obtain ⟨hSl, hfc, kC, hkC, hkind⟩ := hK.1 k _ h1
  obtain ⟨cf, kf, fi, f, hi, hsl⟩ := hSl j hj
  have hlay := hts _ (h2 _ (u_in_lay hj))
  unfold u_lay at hlay
  rw [if_pos hfin] at hlay
  have hst := (u_facts hfc hkC (u_lays hts h2 hj) hi).1
  have hown := C.2.2.2.2.1
  have hcf : mi.cls = cf := by
    obtain ⟨_, _, c', _, _, _, -, -, hf', -, -, -, hown2, -⟩ := Cond.laysFinal_spec hlay
    have e1 : c' = cf := by have := hi.symm.trans hf'; simp at this; exact this.1.symm
    rw [hC, hCn] at hown2
    rw [← e1]; exact Option.some.inj (hown.symm.trans hown2)
  have hn : narrow tt (.ref (b + x.toNat)) = .ref (b + x.toNat) := by
    rcases ht with ⟨n, rfl⟩ | ⟨t, rfl⟩ <;> rfl
  have hfit : fits tt (.ref (b + x.toNat)) = true := by
    rcases ht with ⟨n, rfl⟩ | ⟨t, rfl⟩ <;> rfl
  have h6' := u_fits hfc hkC hkind (Or.inr hlay) hi htt hn hfit
  refine W.putFinK C.1 C.2.1 (f := f) hown (hts _ hw) (by rw [hC] at hi; exact hi) hst hcf (C.2.2.2.2.2.2.2.1.trans hin) (by rw [q2]; exact h6') q1 q3 (by rw [hsl]; exact k2_hasslot (q4 j hj)) rfl rfl hd fun H' e1 e2 e3 => ?_
  rw [hsl] at e1
  have hP1 : va_P D vwCl (q_ws b ad cs (N, lay, q_pu phi r j x) m) H' := by
    refine q_P_set (g := (N, lay, phi)) (m := m) (c := r) rfl hP ?_ (fun c' _ hc' => ?_) e3
    · rw [q_cell_o (g := (N, lay, q_pu phi r j x)) (k := k) r2 h6]
      refine ⟨_, h1, t_OB.to (V := updV (vp_V ((List.range (q_nf k)).map fun j => q_cv b ad (if q_so k j = 4 then (2, phi r j) else (q_so k j, m r j)))) j (.ref (b + x.toNat))) ⟨_, e1, q2, q3, t_set q4 hap hj _⟩ (fun i hi => ?_)⟩
      have hi' : i < q_nf k := by rw [h5]; exact hi
      unfold updV vp_V
      simp only [List.getD_eq_getElem?_getD, List.getElem?_map, List.getElem?_range hi', Option.map_some, Option.getD_some]
      show _ = q_cv b ad (if q_so k i = 4 then (2, q_pu phi r j x r i) else (q_so k i, m r i))
      by_cases hij : i = j
      · subst hij
        rw [if_pos rfl, hs, if_pos rfl]
        unfold q_pu
        rw [if_pos ⟨rfl, rfl⟩]
        exact ex.symm
      · have eq : q_pu phi r j x r i = phi r i := if_neg (fun h => hij h.2)
        rw [if_neg hij, eq]
    · have e : ∀ i, q_pu phi r j x c' i = phi c' i := fun i => if_neg (fun h => hc' h.1)
      unfold q_cell
      simp only [e]
  exact kk p l e s mi args below meth c H' _ D cs b ad adV ar C hP1 (by rw [e2]; exact hz) (q_S_put hS e2 e3 (Nat.le_add_right b _)) hl
end q_ctor
