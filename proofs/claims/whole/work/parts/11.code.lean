/-! THE PARSER: chain, unit, bracket and negated call one another -/
def f_Pars_chain_b89 (kc : Int → Int → q_Mem → q_Res) (ku : Int → q_Mem → q_Res) (kb : Int → q_Mem → q_Res) (kn : Int → q_Mem → q_Res) (k23 : Int → Int → Int → Int → q_Mem → q_Res) (l1 l2 l4 s0 : Int) (m : q_Mem) : q_Res :=
  k23 l1 l2 s0 (l4 + 1) m
set_option maxRecDepth 20000 in
theorem w_Pars_chain_b89 {kc : Int → Int → q_Mem → q_Res} {ku : Int → q_Mem → q_Res} {kb : Int → q_Mem → q_Res} {kn : Int → q_Mem → q_Res} {k23 : Int → Int → Int → Int → q_Mem → q_Res} {l1 l2 l4 s0 : Int} {r : Int × q_Mem} {m : q_Mem} {D : Nat} {N : Nat} (hN : 81 ≤ N) (hD : 20 ≤ D) (hkc : ∀ (a b : Int) (m : q_Mem) (v : Int × q_Mem), kc a b m = some v → q_C md_X3_chain (q_room D) 0 0 [q_A 25, q_I a, q_I b] (q_g N) m (some (q_I v.1), q_g N, v.2)) (hku : ∀ (a : Int) (m : q_Mem) (v : Int × q_Mem), ku a m = some v → q_C md_X3_unit (q_room D) 0 0 [q_A 25, q_I a] (q_g N) m (some (q_I v.1), q_g N, v.2)) (hkb : ∀ (a : Int) (m : q_Mem) (v : Int × q_Mem), kb a m = some v → q_C md_X3_bracket (q_room D) 0 0 [q_A 25, q_I a] (q_g N) m (some (q_I v.1), q_g N, v.2)) (hkn : ∀ (a : Int) (m : q_Mem) (v : Int × q_Mem), kn a m = some v → q_C md_X3_negated (q_room D) 0 0 [q_A 25, q_I a] (q_g N) m (some (q_I v.1), q_g N, v.2)) (hk23 : ∀ (l1 l2 l3 l4 : Int) (m : q_Mem), k23 l1 l2 l3 l4 m = some r → q_E md_X3_chain (D + 1) N (some 0) r m 23 [q_A 25, q_I l1, q_I l2, q_I l3, q_I l4, q_N, q_N] []) (h : f_Pars_chain_b89 kc ku kb kn k23 l1 l2 l4 s0 m = some r) : q_E md_X3_chain (D + 1) N (some 0) r m 89 [q_A 25, q_I l1, q_I l2, q_N, q_I l4, q_N, q_N] [q_I s0] := by
  unfold f_Pars_chain_b89 at h
  refine e_ist_n (M := md_X3_chain) (pc := 89) (ls' := [q_A 25, q_I l1, q_I l2, q_I s0, q_I l4, q_N, q_N]) dX3_chain_89 (by decide) (q_pl rfl) rfl ?_
  refine e_inc (M := md_X3_chain) (pc := 90) (x := l4) (ls' := [q_A 25, q_I l1, q_I l2, q_I s0, q_I (l4 + 1), q_N, q_N]) dX3_chain_90 rfl (by decide) (q_pl rfl) rfl ?_
  refine q_goto (M := md_X3_chain) (pc := 93) (tgt := 23) dX3_chain_93 (by decide) ?_
  exact q_weak (hk23 _ _ _ _ _  h) ⟨Or.inr rfl, Or.inr rfl, Or.inr rfl, Or.inr rfl, Or.inr rfl, Or.inl rfl, Or.inl rfl, trivial⟩
def f_Pars_chain_b23 (kc : Int → Int → q_Mem → q_Res) (ku : Int → q_Mem → q_Res) (kb : Int → q_Mem → q_Res) (kn : Int → q_Mem → q_Res) (k23 : Int → Int → Int → Int → q_Mem → q_Res) (l1 l2 l3 l4 : Int) (m : q_Mem) : q_Res :=
  if 40 ≤ q_w l4 then (q_rt l3 m)
  else (if q_w l3 = (-1) then (q_rt l3 m)
  else (q_bd (f_Pars_joinAt l1 m) fun v1 m2 =>
  if q_w v1 = (-1) then (q_rt l3 m2)
  else (q_bd (f_Tape_step m2) fun _ m3 =>
  q_bd (kc (l1 + 1) l2 m3) fun v4 m5 =>
  if q_w v4 = (-1) then (f_Pars_chain_b89 kc ku kb kn k23 l1 l2 l4 (-1) m5)
  else (q_lt (m5 25 3) fun v6 => q_one q_Lp v6 <|
  q_bd (f_Loop_addNode v6 v1 l3 v4 m5) fun v7 m8 =>
  f_Pars_chain_b89 kc ku kb kn k23 l1 l2 l4 v7 m8))))
set_option maxRecDepth 20000 in
theorem w_Pars_chain_b23 {kc : Int → Int → q_Mem → q_Res} {ku : Int → q_Mem → q_Res} {kb : Int → q_Mem → q_Res} {kn : Int → q_Mem → q_Res} {k23 : Int → Int → Int → Int → q_Mem → q_Res} {l1 l2 l3 l4 : Int} {r : Int × q_Mem} {m : q_Mem} {D : Nat} {N : Nat} (hN : 81 ≤ N) (hD : 20 ≤ D) (hkc : ∀ (a b : Int) (m : q_Mem) (v : Int × q_Mem), kc a b m = some v → q_C md_X3_chain (q_room D) 0 0 [q_A 25, q_I a, q_I b] (q_g N) m (some (q_I v.1), q_g N, v.2)) (hku : ∀ (a : Int) (m : q_Mem) (v : Int × q_Mem), ku a m = some v → q_C md_X3_unit (q_room D) 0 0 [q_A 25, q_I a] (q_g N) m (some (q_I v.1), q_g N, v.2)) (hkb : ∀ (a : Int) (m : q_Mem) (v : Int × q_Mem), kb a m = some v → q_C md_X3_bracket (q_room D) 0 0 [q_A 25, q_I a] (q_g N) m (some (q_I v.1), q_g N, v.2)) (hkn : ∀ (a : Int) (m : q_Mem) (v : Int × q_Mem), kn a m = some v → q_C md_X3_negated (q_room D) 0 0 [q_A 25, q_I a] (q_g N) m (some (q_I v.1), q_g N, v.2)) (hk23 : ∀ (l1 l2 l3 l4 : Int) (m : q_Mem), k23 l1 l2 l3 l4 m = some r → q_E md_X3_chain (D + 1) N (some 0) r m 23 [q_A 25, q_I l1, q_I l2, q_I l3, q_I l4, q_N, q_N] []) (h : f_Pars_chain_b23 kc ku kb kn k23 l1 l2 l3 l4 m = some r) : q_E md_X3_chain (D + 1) N (some 0) r m 23 [q_A 25, q_I l1, q_I l2, q_I l3, q_I l4, q_N, q_N] [] := by
  unfold f_Pars_chain_b23 at h
  refine q_iload (M := md_X3_chain) (pc := 23) dX3_chain_23 rfl ?_
  refine q_bipush (M := md_X3_chain) (pc := 25) (x := 40) dX3_chain_25 (by decide) ?_
  refine e_icmp_ge (M := md_X3_chain) (pc := 27) (tgt := 96) h rfl (q_wlit rfl) dX3_chain_27 (by decide) (fun h => ?_) (fun h => ?_)
  · refine q_iload_n (M := md_X3_chain) (pc := 96) dX3_chain_96 rfl ?_
    exact e_iret (M := md_X3_chain) (pc := 97) h rfl dX3_chain_97
  · refine q_iload_n (M := md_X3_chain) (pc := 30) dX3_chain_30 rfl ?_
    refine q_iconst (M := md_X3_chain) (pc := 31) dX3_chain_31 ?_
    refine e_icmp_eq (M := md_X3_chain) (pc := 32) (tgt := 96) h rfl (q_wlit rfl) dX3_chain_32 (by decide) (fun h => ?_) (fun h => ?_)
    · refine q_iload_n (M := md_X3_chain) (pc := 96) dX3_chain_96 rfl ?_
      exact e_iret (M := md_X3_chain) (pc := 97) h rfl dX3_chain_97
    · refine q_aload_n (M := md_X3_chain) (pc := 35) dX3_chain_35 rfl (by decide) ?_
      refine q_iload_n (M := md_X3_chain) (pc := 36) dX3_chain_36 rfl ?_
      refine e_callVi (M := md_X3_chain) (pc := 37) (d' := 1) (av := [q_I l1]) (c := 25) h ml_3_162 im_X3_joinAt se_X3_joinAt dX3_chain_37 (fun v he => ok_X3_joinAt hN  he) rfl (is_25 hN) ⟨_, _, rfl⟩ (by decide) (Nat.le_of_ble_eq_true rfl) ⟨by omega, by decide⟩ rfl (fun v1 m2 h => ?_)
      refine e_ist (M := md_X3_chain) (pc := 40) (ls' := [q_A 25, q_I l1, q_I l2, q_I l3, q_I l4, q_I v1, q_N]) dX3_chain_40 (by decide) (q_pl rfl) rfl ?_
      refine q_iload (M := md_X3_chain) (pc := 42) dX3_chain_42 rfl ?_
      refine q_iconst (M := md_X3_chain) (pc := 44) dX3_chain_44 ?_
      refine e_icmp_ne (M := md_X3_chain) (pc := 45) (tgt := 50) h rfl (q_wlit rfl) dX3_chain_45 (by decide) (fun h => ?_) (fun h => ?_)
      · refine q_aload_n (M := md_X3_chain) (pc := 50) dX3_chain_50 rfl (by decide) ?_
        refine q_getP (M := md_X3_chain) (pc := 51) (v := 1) fl_3_22 dX3_chain_51 (is_25 hN) rfl ?_
        refine e_callVv (M := md_X3_chain) (pc := 54) (d' := 2) (av := []) (c := 1) h ml_3_77 im_X7_step se_X7_step dX3_chain_54 (fun v he => ok_X7_step hN  he) rfl (is_1 hN) ⟨_, _, rfl⟩ (by decide) (Nat.le_of_ble_eq_true rfl) ⟨by omega, by decide⟩ rfl (fun _ m3 h => ?_)
        refine q_aload_n (M := md_X3_chain) (pc := 57) dX3_chain_57 rfl (by decide) ?_
        refine q_iload_n (M := md_X3_chain) (pc := 58) dX3_chain_58 rfl ?_
        refine q_iconst (M := md_X3_chain) (pc := 59) dX3_chain_59 ?_
        refine q_iadd (M := md_X3_chain) (pc := 60) dX3_chain_60 ?_
        refine q_iload_n (M := md_X3_chain) (pc := 61) dX3_chain_61 rfl ?_
        refine e_callVi (M := md_X3_chain) (pc := 62) (d' := D) (av := [q_I (l1 + 1), q_I l2]) (c := 25) h ml_3_146 im_X3_chain se_X3_chain dX3_chain_62 (fun v he => hkc _ _ _ v he) rfl (is_25 hN) ⟨_, _, rfl⟩ (by decide) (Nat.le_of_ble_eq_true rfl) ⟨Nat.lt_succ_self D, by decide⟩ rfl (fun v4 m5 h => ?_)
        refine e_ist (M := md_X3_chain) (pc := 65) (ls' := [q_A 25, q_I l1, q_I l2, q_I l3, q_I l4, q_I v1, q_I v4]) dX3_chain_65 (by decide) (q_pl rfl) rfl ?_
        refine q_iload (M := md_X3_chain) (pc := 67) dX3_chain_67 rfl ?_
        refine q_iconst (M := md_X3_chain) (pc := 69) dX3_chain_69 ?_
        refine e_icmp_ne (M := md_X3_chain) (pc := 70) (tgt := 77) h rfl (q_wlit rfl) dX3_chain_70 (by decide) (fun h => ?_) (fun h => ?_)
        · refine q_aload_n (M := md_X3_chain) (pc := 77) dX3_chain_77 rfl (by decide) ?_
          refine e_gR (M := md_X3_chain) (pc := 78) h fl_3_26 dX3_chain_78 (is_25 hN) rfl (fun v6 hv6 h => ?_)
          refine q_iload (M := md_X3_chain) (pc := 81) dX3_chain_81 rfl ?_
          refine q_iload_n (M := md_X3_chain) (pc := 83) dX3_chain_83 rfl ?_
          refine q_iload (M := md_X3_chain) (pc := 84) dX3_chain_84 rfl ?_
          refine e_callVi (M := md_X3_chain) (pc := 86) (d' := 1) (av := [q_I v1, q_I l3, q_I v4]) (c := v6) h ml_3_165 im_X2_addNode se_X2_addNode dX3_chain_86 (fun v he => ok_X2_addNode hN hv6 he) rfl (is_Lp hN hv6) ⟨_, _, rfl⟩ (by decide) (Nat.le_of_ble_eq_true rfl) ⟨by omega, by decide⟩ rfl (fun v7 m8 h => ?_)
          exact q_weak (w_Pars_chain_b89 hN hD hkc hku hkb hkn hk23  h) ⟨Or.inr rfl, Or.inr rfl, Or.inr rfl, Or.inl rfl, Or.inr rfl, Or.inl rfl, Or.inl rfl, trivial⟩
        · refine q_iconst (M := md_X3_chain) (pc := 73) dX3_chain_73 ?_
          refine q_goto (M := md_X3_chain) (pc := 74) (tgt := 89) dX3_chain_74 (by decide) ?_
          exact q_weak (w_Pars_chain_b89 hN hD hkc hku hkb hkn hk23  h) ⟨Or.inr rfl, Or.inr rfl, Or.inr rfl, Or.inl rfl, Or.inr rfl, Or.inl rfl, Or.inl rfl, trivial⟩
      · refine q_iload_n (M := md_X3_chain) (pc := 48) dX3_chain_48 rfl ?_
        exact e_iret (M := md_X3_chain) (pc := 49) h rfl dX3_chain_49
def f_Pars_chain_l23 (kc : Int → Int → q_Mem → q_Res) (ku : Int → q_Mem → q_Res) (kb : Int → q_Mem → q_Res) (kn : Int → q_Mem → q_Res) : Nat → Int → Int → Int → Int → q_Mem → q_Res
  | 0 => fun _ _ _ _ _ => none
  | n + 1 => fun l1 l2 l3 l4 m => f_Pars_chain_b23 kc ku kb kn (f_Pars_chain_l23 kc ku kb kn n) l1 l2 l3 l4 m
theorem w_Pars_chain_l23 {kc : Int → Int → q_Mem → q_Res} {ku : Int → q_Mem → q_Res} {kb : Int → q_Mem → q_Res} {kn : Int → q_Mem → q_Res} {r : Int × q_Mem} {D : Nat} {N : Nat} (hN : 81 ≤ N) (hD : 20 ≤ D) (hkc : ∀ (a b : Int) (m : q_Mem) (v : Int × q_Mem), kc a b m = some v → q_C md_X3_chain (q_room D) 0 0 [q_A 25, q_I a, q_I b] (q_g N) m (some (q_I v.1), q_g N, v.2)) (hku : ∀ (a : Int) (m : q_Mem) (v : Int × q_Mem), ku a m = some v → q_C md_X3_unit (q_room D) 0 0 [q_A 25, q_I a] (q_g N) m (some (q_I v.1), q_g N, v.2)) (hkb : ∀ (a : Int) (m : q_Mem) (v : Int × q_Mem), kb a m = some v → q_C md_X3_bracket (q_room D) 0 0 [q_A 25, q_I a] (q_g N) m (some (q_I v.1), q_g N, v.2)) (hkn : ∀ (a : Int) (m : q_Mem) (v : Int × q_Mem), kn a m = some v → q_C md_X3_negated (q_room D) 0 0 [q_A 25, q_I a] (q_g N) m (some (q_I v.1), q_g N, v.2)) : ∀ (n : Nat) (l1 l2 l3 l4 : Int) (m : q_Mem), f_Pars_chain_l23 kc ku kb kn n l1 l2 l3 l4 m = some r → q_E md_X3_chain (D + 1) N (some 0) r m 23 [q_A 25, q_I l1, q_I l2, q_I l3, q_I l4, q_N, q_N] [] := by
  intro n
  induction n with
  | zero => intro l1 l2 l3 l4 m h; exact q_no h
  | succ n ih =>
    intro l1 l2 l3 l4 m h
    exact w_Pars_chain_b23 hN hD hkc hku hkb hkn (fun l1 l2 l3 l4 m h => ih l1 l2 l3 l4 m h) h
def f_Pars_chain_e (kc : Int → Int → q_Mem → q_Res) (ku : Int → q_Mem → q_Res) (kb : Int → q_Mem → q_Res) (kn : Int → q_Mem → q_Res) (l1 l2 : Int) (m : q_Mem) : q_Res :=
  if q_w l1 < 3 then (q_bd (kc (l1 + 1) l2 m) fun v1 m2 =>
  f_Pars_chain_l23 kc ku kb kn q_F l1 l2 v1 0 m2)
  else (q_bd (ku l2 m) fun v3 m4 =>
  q_rt v3 m4)
set_option maxRecDepth 20000 in
theorem ok_X3_chain_e {kc : Int → Int → q_Mem → q_Res} {ku : Int → q_Mem → q_Res} {kb : Int → q_Mem → q_Res} {kn : Int → q_Mem → q_Res} {l1 l2 : Int} {r : Int × q_Mem} {m : q_Mem} {D : Nat} {N : Nat} (hN : 81 ≤ N) (hD : 20 ≤ D) (hkc : ∀ (a b : Int) (m : q_Mem) (v : Int × q_Mem), kc a b m = some v → q_C md_X3_chain (q_room D) 0 0 [q_A 25, q_I a, q_I b] (q_g N) m (some (q_I v.1), q_g N, v.2)) (hku : ∀ (a : Int) (m : q_Mem) (v : Int × q_Mem), ku a m = some v → q_C md_X3_unit (q_room D) 0 0 [q_A 25, q_I a] (q_g N) m (some (q_I v.1), q_g N, v.2)) (hkb : ∀ (a : Int) (m : q_Mem) (v : Int × q_Mem), kb a m = some v → q_C md_X3_bracket (q_room D) 0 0 [q_A 25, q_I a] (q_g N) m (some (q_I v.1), q_g N, v.2)) (hkn : ∀ (a : Int) (m : q_Mem) (v : Int × q_Mem), kn a m = some v → q_C md_X3_negated (q_room D) 0 0 [q_A 25, q_I a] (q_g N) m (some (q_I v.1), q_g N, v.2)) (h : f_Pars_chain_e kc ku kb kn l1 l2 m = some r) : q_C md_X3_chain (q_room (D + 1)) 0 0 [q_A 25, q_I l1, q_I l2] (q_g N) m (some (q_I r.1), q_g N, r.2) := by
  refine q_ofR (by decide) 4 (ls := [q_A 25, q_I l1, q_I l2, q_N, q_N, q_N, q_N]) rfl (Nat.le_of_ble_eq_true rfl) ?_
  change q_E md_X3_chain (D + 1) N (some 0) r m 0 [q_A 25, q_I l1, q_I l2, q_N, q_N, q_N, q_N] []
  unfold f_Pars_chain_e at h
  refine q_iload_n (M := md_X3_chain) (pc := 0) dX3_chain_0 rfl ?_
  refine q_iconst (M := md_X3_chain) (pc := 1) dX3_chain_1 ?_
  refine e_icmp_lt (M := md_X3_chain) (pc := 2) (tgt := 11) h rfl (q_wlit rfl) dX3_chain_2 (by decide) (fun h => ?_) (fun h => ?_)
  · refine q_aload_n (M := md_X3_chain) (pc := 11) dX3_chain_11 rfl (by decide) ?_
    refine q_iload_n (M := md_X3_chain) (pc := 12) dX3_chain_12 rfl ?_
    refine q_iconst (M := md_X3_chain) (pc := 13) dX3_chain_13 ?_
    refine q_iadd (M := md_X3_chain) (pc := 14) dX3_chain_14 ?_
    refine q_iload_n (M := md_X3_chain) (pc := 15) dX3_chain_15 rfl ?_
    refine e_callVi (M := md_X3_chain) (pc := 16) (d' := D) (av := [q_I (l1 + 1), q_I l2]) (c := 25) h ml_3_146 im_X3_chain se_X3_chain dX3_chain_16 (fun v he => hkc _ _ _ v he) rfl (is_25 hN) ⟨_, _, rfl⟩ (by decide) (Nat.le_of_ble_eq_true rfl) ⟨Nat.lt_succ_self D, by decide⟩ rfl (fun v1 m2 h => ?_)
    refine e_ist_n (M := md_X3_chain) (pc := 19) (ls' := [q_A 25, q_I l1, q_I l2, q_I v1, q_N, q_N, q_N]) dX3_chain_19 (by decide) (q_pl rfl) rfl ?_
    refine q_iconst (M := md_X3_chain) (pc := 20) dX3_chain_20 ?_
    refine e_ist (M := md_X3_chain) (pc := 21) (ls' := [q_A 25, q_I l1, q_I l2, q_I v1, q_I 0, q_N, q_N]) dX3_chain_21 (by decide) (q_pl rfl) rfl ?_
    exact q_weak (w_Pars_chain_l23 hN hD hkc hku hkb hkn q_F _ _ _ _ _  h) ⟨Or.inr rfl, Or.inr rfl, Or.inr rfl, Or.inr rfl, Or.inr rfl, Or.inl rfl, Or.inl rfl, trivial⟩
  · refine q_aload_n (M := md_X3_chain) (pc := 5) dX3_chain_5 rfl (by decide) ?_
    refine q_iload_n (M := md_X3_chain) (pc := 6) dX3_chain_6 rfl ?_
    refine e_callVi (M := md_X3_chain) (pc := 7) (d' := D) (av := [q_I l2]) (c := 25) h ml_3_158 im_X3_unit se_X3_unit dX3_chain_7 (fun v he => hku _ _ v he) rfl (is_25 hN) ⟨_, _, rfl⟩ (by decide) (Nat.le_of_ble_eq_true rfl) ⟨Nat.lt_succ_self D, by decide⟩ rfl (fun v3 m4 h => ?_)
    exact e_iret (M := md_X3_chain) (pc := 10) h rfl dX3_chain_10
def f_Pars_unit_e (kc : Int → Int → q_Mem → q_Res) (ku : Int → q_Mem → q_Res) (kb : Int → q_Mem → q_Res) (kn : Int → q_Mem → q_Res) (l1 : Int) (m : q_Mem) : q_Res :=
  q_bd (f_Pars_unitFault l1 m) fun v1 m2 =>
  if q_w v1 = 0 then (q_lt (m2 25 3) fun v3 => q_one q_Lp v3 <|
  q_pf m2 v3 3 ((m2 v3 3) + 1) fun m4 =>
  if q_w (m4 1 2) = 4 then (q_bd (f_Pars_leaf 0 (m4 1 5) m4) fun v6 m7 =>
  q_rt v6 m7)
  else if q_w (m4 1 2) = 40 then (q_bd (kb l1 m4) fun v9 m10 =>
  q_rt v9 m10)
  else if q_w (m4 1 2) = 45 then (q_bd (kn l1 m4) fun v12 m13 =>
  q_rt v12 m13)
  else (q_bd (f_Tape_isWord 9 m4) fun v14 m15 =>
  if q_w v14 = 0 then (q_bd (f_Tape_isWord 10 m15) fun v16 m17 =>
  if q_w v16 = 0 then (q_bd (f_Pars_readUnit m17) fun v18 m19 =>
  q_rt v18 m19)
  else (q_bd (f_Pars_leaf 2 0 m17) fun v20 m21 =>
  q_rt v20 m21))
  else (q_bd (f_Pars_leaf 1 0 m15) fun v22 m23 =>
  q_rt v22 m23)))
  else (q_bd (f_Pars_refuse v1 (m2 1 3) m2) fun v24 m25 =>
  q_rt (-1) m25)
set_option maxRecDepth 20000 in
theorem ok_X3_unit_e {kc : Int → Int → q_Mem → q_Res} {ku : Int → q_Mem → q_Res} {kb : Int → q_Mem → q_Res} {kn : Int → q_Mem → q_Res} {l1 : Int} {r : Int × q_Mem} {m : q_Mem} {D : Nat} {N : Nat} (hN : 81 ≤ N) (hD : 20 ≤ D) (hkc : ∀ (a b : Int) (m : q_Mem) (v : Int × q_Mem), kc a b m = some v → q_C md_X3_chain (q_room D) 0 0 [q_A 25, q_I a, q_I b] (q_g N) m (some (q_I v.1), q_g N, v.2)) (hku : ∀ (a : Int) (m : q_Mem) (v : Int × q_Mem), ku a m = some v → q_C md_X3_unit (q_room D) 0 0 [q_A 25, q_I a] (q_g N) m (some (q_I v.1), q_g N, v.2)) (hkb : ∀ (a : Int) (m : q_Mem) (v : Int × q_Mem), kb a m = some v → q_C md_X3_bracket (q_room D) 0 0 [q_A 25, q_I a] (q_g N) m (some (q_I v.1), q_g N, v.2)) (hkn : ∀ (a : Int) (m : q_Mem) (v : Int × q_Mem), kn a m = some v → q_C md_X3_negated (q_room D) 0 0 [q_A 25, q_I a] (q_g N) m (some (q_I v.1), q_g N, v.2)) (h : f_Pars_unit_e kc ku kb kn l1 m = some r) : q_C md_X3_unit (q_room (D + 1)) 0 0 [q_A 25, q_I l1] (q_g N) m (some (q_I r.1), q_g N, r.2) := by
  refine q_ofR (by decide) 1 (ls := [q_A 25, q_I l1, q_N]) rfl (Nat.le_of_ble_eq_true rfl) ?_
  change q_E md_X3_unit (D + 1) N (some 0) r m 0 [q_A 25, q_I l1, q_N] []
  unfold f_Pars_unit_e at h
  refine q_aload_n (M := md_X3_unit) (pc := 0) dX3_unit_0 rfl (by decide) ?_
  refine q_iload_n (M := md_X3_unit) (pc := 1) dX3_unit_1 rfl ?_
  refine e_callVi (M := md_X3_unit) (pc := 2) (d' := 8) (av := [q_I l1]) (c := 25) h ml_3_169 im_X3_unitFault se_X3_unitFault dX3_unit_2 (fun v he => ok_X3_unitFault hN  he) rfl (is_25 hN) ⟨_, _, rfl⟩ (by decide) (Nat.le_of_ble_eq_true rfl) ⟨by omega, by decide⟩ rfl (fun v1 m2 h => ?_)
  refine e_ist_n (M := md_X3_unit) (pc := 5) (ls' := [q_A 25, q_I l1, q_I v1]) dX3_unit_5 (by decide) (q_pl rfl) rfl ?_
  refine q_iload_n (M := md_X3_unit) (pc := 6) dX3_unit_6 rfl ?_
  refine e_if_eq (M := md_X3_unit) (pc := 7) (tgt := 25) h rfl dX3_unit_7 (by decide) (fun h => ?_) (fun h => ?_)
  · refine q_aload_n (M := md_X3_unit) (pc := 25) dX3_unit_25 rfl (by decide) ?_
    refine e_gR (M := md_X3_unit) (pc := 26) h fl_3_26 dX3_unit_26 (is_25 hN) rfl (fun v3 hv3 h => ?_)
    refine q_dup (M := md_X3_unit) (pc := 29) dX3_unit_29 (show (2 : Nat) ≠ 1 by decide) ?_
    refine e_gI (M := md_X3_unit) (pc := 30) (v := m2 v3 3) fl_3_172 dX3_unit_30 (is_Lp hN hv3) rfl ?_
    refine q_iconst (M := md_X3_unit) (pc := 33) dX3_unit_33 ?_
    refine q_iadd (M := md_X3_unit) (pc := 34) dX3_unit_34 ?_
    refine e_pfI (M := md_X3_unit) (pc := 35) h fl_3_172 dX3_unit_35 (is_Lp hN hv3) rfl (fun m4 h => ?_)
    refine q_aload_n (M := md_X3_unit) (pc := 38) dX3_unit_38 rfl (by decide) ?_
    refine q_getP (M := md_X3_unit) (pc := 39) (v := 1) fl_3_22 dX3_unit_39 (is_25 hN) rfl ?_
    refine e_gI (M := md_X3_unit) (pc := 42) (v := m4 1 2) fl_3_53 dX3_unit_42 (is_1 hN) rfl ?_
    by_cases c5 : q_w (m4 1 2) = 4
    · rw [if_pos c5] at h
      refine q_lookup (M := md_X3_unit) (pc := 45) (tgt := 80) dX3_unit_45 (by decide) (by rw [c5] <;> decide) (by decide) ?_
      refine q_aload_n (M := md_X3_unit) (pc := 80) dX3_unit_80 rfl (by decide) ?_
      refine q_iconst (M := md_X3_unit) (pc := 81) dX3_unit_81 ?_
      refine q_aload_n (M := md_X3_unit) (pc := 82) dX3_unit_82 rfl (by decide) ?_
      refine q_getP (M := md_X3_unit) (pc := 83) (v := 1) fl_3_22 dX3_unit_83 (is_25 hN) rfl ?_
      refine e_gI (M := md_X3_unit) (pc := 86) (v := m4 1 5) fl_3_132 dX3_unit_86 (is_1 hN) rfl ?_
      refine e_callVi (M := md_X3_unit) (pc := 89) (d' := 3) (av := [q_I 0, q_I (m4 1 5)]) (c := 25) h ml_3_175 im_X3_leaf se_X3_leaf dX3_unit_89 (fun v he => ok_X3_leaf hN  he) rfl (is_25 hN) ⟨_, _, rfl⟩ (by decide) (Nat.le_of_ble_eq_true rfl) ⟨by omega, by decide⟩ rfl (fun v6 m7 h => ?_)
      exact e_iret (M := md_X3_unit) (pc := 92) h rfl dX3_unit_92
    rw [if_neg c5] at h
    by_cases c8 : q_w (m4 1 2) = 40
    · rw [if_pos c8] at h
      refine q_lookup (M := md_X3_unit) (pc := 45) (tgt := 93) dX3_unit_45 (by decide) (by rw [c8] <;> decide) (by decide) ?_
      refine q_aload_n (M := md_X3_unit) (pc := 93) dX3_unit_93 rfl (by decide) ?_
      refine q_iload_n (M := md_X3_unit) (pc := 94) dX3_unit_94 rfl ?_
      refine e_callVi (M := md_X3_unit) (pc := 95) (d' := D) (av := [q_I l1]) (c := 25) h ml_3_178 im_X3_bracket se_X3_bracket dX3_unit_95 (fun v he => hkb _ _ v he) rfl (is_25 hN) ⟨_, _, rfl⟩ (by decide) (Nat.le_of_ble_eq_true rfl) ⟨Nat.lt_succ_self D, by decide⟩ rfl (fun v9 m10 h => ?_)
      exact e_iret (M := md_X3_unit) (pc := 98) h rfl dX3_unit_98
    rw [if_neg c8] at h
    by_cases c11 : q_w (m4 1 2) = 45
    · rw [if_pos c11] at h
      refine q_lookup (M := md_X3_unit) (pc := 45) (tgt := 99) dX3_unit_45 (by decide) (by rw [c11] <;> decide) (by decide) ?_
      refine q_aload_n (M := md_X3_unit) (pc := 99) dX3_unit_99 rfl (by decide) ?_
      refine q_iload_n (M := md_X3_unit) (pc := 100) dX3_unit_100 rfl ?_
      refine e_callVi (M := md_X3_unit) (pc := 101) (d' := D) (av := [q_I l1]) (c := 25) h ml_3_181 im_X3_negated se_X3_negated dX3_unit_101 (fun v he => hkn _ _ v he) rfl (is_25 hN) ⟨_, _, rfl⟩ (by decide) (Nat.le_of_ble_eq_true rfl) ⟨Nat.lt_succ_self D, by decide⟩ rfl (fun v12 m13 h => ?_)
      exact e_iret (M := md_X3_unit) (pc := 104) h rfl dX3_unit_104
    rw [if_neg c11] at h
    refine q_lookup (M := md_X3_unit) (pc := 45) (tgt := 105) (off := 60) dX3_unit_45 (by decide) (by simp [Op.lookupswitch.offset, Ne.symm c5, Ne.symm c8, Ne.symm c11]) (by decide) ?_
    refine q_aload_n (M := md_X3_unit) (pc := 105) dX3_unit_105 rfl (by decide) ?_
    refine q_getP (M := md_X3_unit) (pc := 106) (v := 1) fl_3_22 dX3_unit_106 (is_25 hN) rfl ?_
    refine e_ldcS (M := md_X3_unit) (pc := 109) (i := 9) (tx := "i") dX3_unit_109 (by decide) ?_
    refine e_callVi (M := md_X3_unit) (pc := 111) (d' := 6) (av := [q_S 9]) (c := 1) h ml_3_62 im_X7_isWord se_X7_isWord dX3_unit_111 (fun v he => ok_X7_isWord hN (by decide) he) rfl (is_1 hN) ⟨_, _, rfl⟩ (by decide) (Nat.le_of_ble_eq_true rfl) ⟨by omega, by decide⟩ rfl (fun v14 m15 h => ?_)
    refine e_if_eq (M := md_X3_unit) (pc := 114) (tgt := 124) h rfl dX3_unit_114 (by decide) (fun h => ?_) (fun h => ?_)
    · refine q_aload_n (M := md_X3_unit) (pc := 124) dX3_unit_124 rfl (by decide) ?_
      refine q_getP (M := md_X3_unit) (pc := 125) (v := 1) fl_3_22 dX3_unit_125 (is_25 hN) rfl ?_
      refine e_ldcS (M := md_X3_unit) (pc := 128) (i := 10) (tx := "j") dX3_unit_128 (by decide) ?_
      refine e_callVi (M := md_X3_unit) (pc := 130) (d' := 6) (av := [q_S 10]) (c := 1) h ml_3_62 im_X7_isWord se_X7_isWord dX3_unit_130 (fun v he => ok_X7_isWord hN (by decide) he) rfl (is_1 hN) ⟨_, _, rfl⟩ (by decide) (Nat.le_of_ble_eq_true rfl) ⟨by omega, by decide⟩ rfl (fun v16 m17 h => ?_)
      refine e_if_eq (M := md_X3_unit) (pc := 133) (tgt := 145) h rfl dX3_unit_133 (by decide) (fun h => ?_) (fun h => ?_)
      · refine q_aload_n (M := md_X3_unit) (pc := 145) dX3_unit_145 rfl (by decide) ?_
        refine e_callVi (M := md_X3_unit) (pc := 146) (d' := 4) (av := []) (c := 25) h ml_3_188 im_X3_readUnit se_X3_readUnit dX3_unit_146 (fun v he => ok_X3_readUnit hN  he) rfl (is_25 hN) ⟨_, _, rfl⟩ (by decide) (Nat.le_of_ble_eq_true rfl) ⟨by omega, by decide⟩ rfl (fun v18 m19 h => ?_)
        exact e_iret (M := md_X3_unit) (pc := 149) h rfl dX3_unit_149
      · refine q_aload_n (M := md_X3_unit) (pc := 136) dX3_unit_136 rfl (by decide) ?_
        refine q_iconst (M := md_X3_unit) (pc := 137) dX3_unit_137 ?_
        refine q_iconst (M := md_X3_unit) (pc := 138) dX3_unit_138 ?_
        refine e_callVi (M := md_X3_unit) (pc := 139) (d' := 3) (av := [q_I 2, q_I 0]) (c := 25) h ml_3_175 im_X3_leaf se_X3_leaf dX3_unit_139 (fun v he => ok_X3_leaf hN  he) rfl (is_25 hN) ⟨_, _, rfl⟩ (by decide) (Nat.le_of_ble_eq_true rfl) ⟨by omega, by decide⟩ rfl (fun v20 m21 h => ?_)
        refine q_goto (M := md_X3_unit) (pc := 142) (tgt := 149) dX3_unit_142 (by decide) ?_
        exact e_iret (M := md_X3_unit) (pc := 149) h rfl dX3_unit_149
    · refine q_aload_n (M := md_X3_unit) (pc := 117) dX3_unit_117 rfl (by decide) ?_
      refine q_iconst (M := md_X3_unit) (pc := 118) dX3_unit_118 ?_
      refine q_iconst (M := md_X3_unit) (pc := 119) dX3_unit_119 ?_
      refine e_callVi (M := md_X3_unit) (pc := 120) (d' := 3) (av := [q_I 1, q_I 0]) (c := 25) h ml_3_175 im_X3_leaf se_X3_leaf dX3_unit_120 (fun v he => ok_X3_leaf hN  he) rfl (is_25 hN) ⟨_, _, rfl⟩ (by decide) (Nat.le_of_ble_eq_true rfl) ⟨by omega, by decide⟩ rfl (fun v22 m23 h => ?_)
      exact e_iret (M := md_X3_unit) (pc := 123) h rfl dX3_unit_123
  · refine q_aload_n (M := md_X3_unit) (pc := 10) dX3_unit_10 rfl (by decide) ?_
    refine q_iload_n (M := md_X3_unit) (pc := 11) dX3_unit_11 rfl ?_
    refine q_aload_n (M := md_X3_unit) (pc := 12) dX3_unit_12 rfl (by decide) ?_
    refine q_getP (M := md_X3_unit) (pc := 13) (v := 1) fl_3_22 dX3_unit_13 (is_25 hN) rfl ?_
    refine e_gI (M := md_X3_unit) (pc := 16) (v := m2 1 3) fl_3_72 dX3_unit_16 (is_1 hN) rfl ?_
    refine e_callVi (M := md_X3_unit) (pc := 19) (d' := 1) (av := [q_I v1, q_I (m2 1 3)]) (c := 25) h ml_3_73 im_X3_refuse se_X3_refuse dX3_unit_19 (fun v he => ok_X3_refuse hN  he) rfl (is_25 hN) ⟨_, _, rfl⟩ (by decide) (Nat.le_of_ble_eq_true rfl) ⟨by omega, by decide⟩ rfl (fun v24 m25 h => ?_)
    refine q_pop (M := md_X3_unit) (pc := 22) dX3_unit_22 (show (0 : Nat) ≠ 1 by decide) ?_
    refine q_iconst (M := md_X3_unit) (pc := 23) dX3_unit_23 ?_
    exact e_iret (M := md_X3_unit) (pc := 24) h rfl dX3_unit_24
def f_Pars_bracket_e (kc : Int → Int → q_Mem → q_Res) (ku : Int → q_Mem → q_Res) (kb : Int → q_Mem → q_Res) (kn : Int → q_Mem → q_Res) (l1 : Int) (m : q_Mem) : q_Res :=
  q_bd (f_Tape_step m) fun _ m1 =>
  q_bd (kc 0 (l1 + 1) m1) fun v2 m3 =>
  if q_w v2 = (-1) then (q_rt (-1) m3)
  else (q_bd (f_Pars_pass 41 m3) fun v4 m5 =>
  if q_w v4 = 0 then (q_rt (-1) m5)
  else (q_rt v2 m5))
set_option maxRecDepth 20000 in
theorem ok_X3_bracket_e {kc : Int → Int → q_Mem → q_Res} {ku : Int → q_Mem → q_Res} {kb : Int → q_Mem → q_Res} {kn : Int → q_Mem → q_Res} {l1 : Int} {r : Int × q_Mem} {m : q_Mem} {D : Nat} {N : Nat} (hN : 81 ≤ N) (hD : 20 ≤ D) (hkc : ∀ (a b : Int) (m : q_Mem) (v : Int × q_Mem), kc a b m = some v → q_C md_X3_chain (q_room D) 0 0 [q_A 25, q_I a, q_I b] (q_g N) m (some (q_I v.1), q_g N, v.2)) (hku : ∀ (a : Int) (m : q_Mem) (v : Int × q_Mem), ku a m = some v → q_C md_X3_unit (q_room D) 0 0 [q_A 25, q_I a] (q_g N) m (some (q_I v.1), q_g N, v.2)) (hkb : ∀ (a : Int) (m : q_Mem) (v : Int × q_Mem), kb a m = some v → q_C md_X3_bracket (q_room D) 0 0 [q_A 25, q_I a] (q_g N) m (some (q_I v.1), q_g N, v.2)) (hkn : ∀ (a : Int) (m : q_Mem) (v : Int × q_Mem), kn a m = some v → q_C md_X3_negated (q_room D) 0 0 [q_A 25, q_I a] (q_g N) m (some (q_I v.1), q_g N, v.2)) (h : f_Pars_bracket_e kc ku kb kn l1 m = some r) : q_C md_X3_bracket (q_room (D + 1)) 0 0 [q_A 25, q_I l1] (q_g N) m (some (q_I r.1), q_g N, r.2) := by
  refine q_ofR (by decide) 1 (ls := [q_A 25, q_I l1, q_N]) rfl (Nat.le_of_ble_eq_true rfl) ?_
  change q_E md_X3_bracket (D + 1) N (some 0) r m 0 [q_A 25, q_I l1, q_N] []
  unfold f_Pars_bracket_e at h
  refine q_aload_n (M := md_X3_bracket) (pc := 0) dX3_bracket_0 rfl (by decide) ?_
  refine q_getP (M := md_X3_bracket) (pc := 1) (v := 1) fl_3_22 dX3_bracket_1 (is_25 hN) rfl ?_
  refine e_callVv (M := md_X3_bracket) (pc := 4) (d' := 2) (av := []) (c := 1) h ml_3_77 im_X7_step se_X7_step dX3_bracket_4 (fun v he => ok_X7_step hN  he) rfl (is_1 hN) ⟨_, _, rfl⟩ (by decide) (Nat.le_of_ble_eq_true rfl) ⟨by omega, by decide⟩ rfl (fun _ m1 h => ?_)
  refine q_aload_n (M := md_X3_bracket) (pc := 7) dX3_bracket_7 rfl (by decide) ?_
  refine q_iconst (M := md_X3_bracket) (pc := 8) dX3_bracket_8 ?_
  refine q_iload_n (M := md_X3_bracket) (pc := 9) dX3_bracket_9 rfl ?_
  refine q_iconst (M := md_X3_bracket) (pc := 10) dX3_bracket_10 ?_
  refine q_iadd (M := md_X3_bracket) (pc := 11) dX3_bracket_11 ?_
  refine e_callVi (M := md_X3_bracket) (pc := 12) (d' := D) (av := [q_I 0, q_I (l1 + 1)]) (c := 25) h ml_3_146 im_X3_chain se_X3_chain dX3_bracket_12 (fun v he => hkc _ _ _ v he) rfl (is_25 hN) ⟨_, _, rfl⟩ (by decide) (Nat.le_of_ble_eq_true rfl) ⟨Nat.lt_succ_self D, by decide⟩ rfl (fun v2 m3 h => ?_)
  refine e_ist_n (M := md_X3_bracket) (pc := 15) (ls' := [q_A 25, q_I l1, q_I v2]) dX3_bracket_15 (by decide) (q_pl rfl) rfl ?_
  refine q_iload_n (M := md_X3_bracket) (pc := 16) dX3_bracket_16 rfl ?_
  refine q_iconst (M := md_X3_bracket) (pc := 17) dX3_bracket_17 ?_
  refine e_icmp_eq (M := md_X3_bracket) (pc := 18) (tgt := 34) h rfl (q_wlit rfl) dX3_bracket_18 (by decide) (fun h => ?_) (fun h => ?_)
  · refine q_iconst (M := md_X3_bracket) (pc := 34) dX3_bracket_34 ?_
    exact e_iret (M := md_X3_bracket) (pc := 35) h rfl dX3_bracket_35
  · refine q_aload_n (M := md_X3_bracket) (pc := 21) dX3_bracket_21 rfl (by decide) ?_
    refine q_bipush (M := md_X3_bracket) (pc := 22) (x := 41) dX3_bracket_22 (by decide) ?_
    refine e_callVi (M := md_X3_bracket) (pc := 24) (d' := 3) (av := [q_I 41]) (c := 25) h ml_3_94 im_X3_pass se_X3_pass dX3_bracket_24 (fun v he => ok_X3_pass hN  he) rfl (is_25 hN) ⟨_, _, rfl⟩ (by decide) (Nat.le_of_ble_eq_true rfl) ⟨by omega, by decide⟩ rfl (fun v4 m5 h => ?_)
    refine e_if_eq (M := md_X3_bracket) (pc := 27) (tgt := 34) h rfl dX3_bracket_27 (by decide) (fun h => ?_) (fun h => ?_)
    · refine q_iconst (M := md_X3_bracket) (pc := 34) dX3_bracket_34 ?_
      exact e_iret (M := md_X3_bracket) (pc := 35) h rfl dX3_bracket_35
    · refine q_iload_n (M := md_X3_bracket) (pc := 30) dX3_bracket_30 rfl ?_
      refine q_goto (M := md_X3_bracket) (pc := 31) (tgt := 35) dX3_bracket_31 (by decide) ?_
      exact e_iret (M := md_X3_bracket) (pc := 35) h rfl dX3_bracket_35
def f_Pars_negated_e (kc : Int → Int → q_Mem → q_Res) (ku : Int → q_Mem → q_Res) (kb : Int → q_Mem → q_Res) (kn : Int → q_Mem → q_Res) (l1 : Int) (m : q_Mem) : q_Res :=
  q_bd (f_Tape_step m) fun _ m1 =>
  q_bd (ku (l1 + 1) m1) fun v2 m3 =>
  if q_w v2 = (-1) then (q_rt (-1) m3)
  else (q_lt (m3 25 3) fun v4 => q_one q_Lp v4 <|
  q_bd (f_Loop_addNode v4 4 v2 0 m3) fun v5 m6 =>
  q_rt v5 m6)
set_option maxRecDepth 20000 in
theorem ok_X3_negated_e {kc : Int → Int → q_Mem → q_Res} {ku : Int → q_Mem → q_Res} {kb : Int → q_Mem → q_Res} {kn : Int → q_Mem → q_Res} {l1 : Int} {r : Int × q_Mem} {m : q_Mem} {D : Nat} {N : Nat} (hN : 81 ≤ N) (hD : 20 ≤ D) (hkc : ∀ (a b : Int) (m : q_Mem) (v : Int × q_Mem), kc a b m = some v → q_C md_X3_chain (q_room D) 0 0 [q_A 25, q_I a, q_I b] (q_g N) m (some (q_I v.1), q_g N, v.2)) (hku : ∀ (a : Int) (m : q_Mem) (v : Int × q_Mem), ku a m = some v → q_C md_X3_unit (q_room D) 0 0 [q_A 25, q_I a] (q_g N) m (some (q_I v.1), q_g N, v.2)) (hkb : ∀ (a : Int) (m : q_Mem) (v : Int × q_Mem), kb a m = some v → q_C md_X3_bracket (q_room D) 0 0 [q_A 25, q_I a] (q_g N) m (some (q_I v.1), q_g N, v.2)) (hkn : ∀ (a : Int) (m : q_Mem) (v : Int × q_Mem), kn a m = some v → q_C md_X3_negated (q_room D) 0 0 [q_A 25, q_I a] (q_g N) m (some (q_I v.1), q_g N, v.2)) (h : f_Pars_negated_e kc ku kb kn l1 m = some r) : q_C md_X3_negated (q_room (D + 1)) 0 0 [q_A 25, q_I l1] (q_g N) m (some (q_I r.1), q_g N, r.2) := by
  refine q_ofR (by decide) 1 (ls := [q_A 25, q_I l1, q_N]) rfl (Nat.le_of_ble_eq_true rfl) ?_
  change q_E md_X3_negated (D + 1) N (some 0) r m 0 [q_A 25, q_I l1, q_N] []
  unfold f_Pars_negated_e at h
  refine q_aload_n (M := md_X3_negated) (pc := 0) dX3_negated_0 rfl (by decide) ?_
  refine q_getP (M := md_X3_negated) (pc := 1) (v := 1) fl_3_22 dX3_negated_1 (is_25 hN) rfl ?_
  refine e_callVv (M := md_X3_negated) (pc := 4) (d' := 2) (av := []) (c := 1) h ml_3_77 im_X7_step se_X7_step dX3_negated_4 (fun v he => ok_X7_step hN  he) rfl (is_1 hN) ⟨_, _, rfl⟩ (by decide) (Nat.le_of_ble_eq_true rfl) ⟨by omega, by decide⟩ rfl (fun _ m1 h => ?_)
  refine q_aload_n (M := md_X3_negated) (pc := 7) dX3_negated_7 rfl (by decide) ?_
  refine q_iload_n (M := md_X3_negated) (pc := 8) dX3_negated_8 rfl ?_
  refine q_iconst (M := md_X3_negated) (pc := 9) dX3_negated_9 ?_
  refine q_iadd (M := md_X3_negated) (pc := 10) dX3_negated_10 ?_
  refine e_callVi (M := md_X3_negated) (pc := 11) (d' := D) (av := [q_I (l1 + 1)]) (c := 25) h ml_3_158 im_X3_unit se_X3_unit dX3_negated_11 (fun v he => hku _ _ v he) rfl (is_25 hN) ⟨_, _, rfl⟩ (by decide) (Nat.le_of_ble_eq_true rfl) ⟨Nat.lt_succ_self D, by decide⟩ rfl (fun v2 m3 h => ?_)
  refine e_ist_n (M := md_X3_negated) (pc := 14) (ls' := [q_A 25, q_I l1, q_I v2]) dX3_negated_14 (by decide) (q_pl rfl) rfl ?_
  refine q_iload_n (M := md_X3_negated) (pc := 15) dX3_negated_15 rfl ?_
  refine q_iconst (M := md_X3_negated) (pc := 16) dX3_negated_16 ?_
  refine e_icmp_ne (M := md_X3_negated) (pc := 17) (tgt := 24) h rfl (q_wlit rfl) dX3_negated_17 (by decide) (fun h => ?_) (fun h => ?_)
  · refine q_aload_n (M := md_X3_negated) (pc := 24) dX3_negated_24 rfl (by decide) ?_
    refine e_gR (M := md_X3_negated) (pc := 25) h fl_3_26 dX3_negated_25 (is_25 hN) rfl (fun v4 hv4 h => ?_)
    refine q_iconst (M := md_X3_negated) (pc := 28) dX3_negated_28 ?_
    refine q_iload_n (M := md_X3_negated) (pc := 29) dX3_negated_29 rfl ?_
    refine q_iconst (M := md_X3_negated) (pc := 30) dX3_negated_30 ?_
    refine e_callVi (M := md_X3_negated) (pc := 31) (d' := 1) (av := [q_I 4, q_I v2, q_I 0]) (c := v4) h ml_3_165 im_X2_addNode se_X2_addNode dX3_negated_31 (fun v he => ok_X2_addNode hN hv4 he) rfl (is_Lp hN hv4) ⟨_, _, rfl⟩ (by decide) (Nat.le_of_ble_eq_true rfl) ⟨by omega, by decide⟩ rfl (fun v5 m6 h => ?_)
    exact e_iret (M := md_X3_negated) (pc := 34) h rfl dX3_negated_34
  · refine q_iconst (M := md_X3_negated) (pc := 20) dX3_negated_20 ?_
    refine q_goto (M := md_X3_negated) (pc := 21) (tgt := 34) dX3_negated_21 (by decide) ?_
    exact e_iret (M := md_X3_negated) (pc := 34) h rfl dX3_negated_34
def f_Pars_rec : Nat → (Int → Int → q_Mem → q_Res) × (Int → q_Mem → q_Res) × (Int → q_Mem → q_Res) × (Int → q_Mem → q_Res)
  | 0 => (fun _ _ _ => none, fun _ _ => none, fun _ _ => none, fun _ _ => none)
  | n + 1 => (f_Pars_chain_e (f_Pars_rec n).1 (f_Pars_rec n).2.1 (f_Pars_rec n).2.2.1 (f_Pars_rec n).2.2.2, f_Pars_unit_e (f_Pars_rec n).1 (f_Pars_rec n).2.1 (f_Pars_rec n).2.2.1 (f_Pars_rec n).2.2.2, f_Pars_bracket_e (f_Pars_rec n).1 (f_Pars_rec n).2.1 (f_Pars_rec n).2.2.1 (f_Pars_rec n).2.2.2, f_Pars_negated_e (f_Pars_rec n).1 (f_Pars_rec n).2.1 (f_Pars_rec n).2.2.1 (f_Pars_rec n).2.2.2)
theorem ok_rec {N : Nat} (hN : 81 ≤ N) : ∀ n, (∀ (a b : Int) (m : q_Mem) (v : Int × q_Mem), (f_Pars_rec n).1 a b m = some v → q_C md_X3_chain (q_room (20 + n)) 0 0 [q_A 25, q_I a, q_I b] (q_g N) m (some (q_I v.1), q_g N, v.2)) ∧ (∀ (a : Int) (m : q_Mem) (v : Int × q_Mem), (f_Pars_rec n).2.1 a m = some v → q_C md_X3_unit (q_room (20 + n)) 0 0 [q_A 25, q_I a] (q_g N) m (some (q_I v.1), q_g N, v.2)) ∧ (∀ (a : Int) (m : q_Mem) (v : Int × q_Mem), (f_Pars_rec n).2.2.1 a m = some v → q_C md_X3_bracket (q_room (20 + n)) 0 0 [q_A 25, q_I a] (q_g N) m (some (q_I v.1), q_g N, v.2)) ∧ (∀ (a : Int) (m : q_Mem) (v : Int × q_Mem), (f_Pars_rec n).2.2.2 a m = some v → q_C md_X3_negated (q_room (20 + n)) 0 0 [q_A 25, q_I a] (q_g N) m (some (q_I v.1), q_g N, v.2)) := by
  intro n
  induction n with
  | zero => exact ⟨fun _ _ _ _ h => q_no h, fun _ _ _ h => q_no h, fun _ _ _ h => q_no h, fun _ _ _ h => q_no h⟩
  | succ n ih =>
    obtain ⟨h1, h2, h3, h4⟩ := ih
    have hD : 20 ≤ 20 + n := Nat.le_add_right 20 n
    exact ⟨fun a b m v h => ok_X3_chain_e hN hD h1 h2 h3 h4 h, fun a m v h => ok_X3_unit_e hN hD h1 h2 h3 h4 h, fun a m v h => ok_X3_bracket_e hN hD h1 h2 h3 h4 h, fun a m v h => ok_X3_negated_e hN hD h1 h2 h3 h4 h⟩
def f_Pars_chain (a b : Int) (m : q_Mem) : q_Res := (f_Pars_rec 40).1 a b m
theorem ok_X3_chain {l1 l2 : Int} {r : Int × q_Mem} {m : q_Mem} {N : Nat} (hN : 81 ≤ N) (h : f_Pars_chain l1 l2 m = some r) : q_C md_X3_chain (q_room 60) 0 0 [q_A 25, q_I l1, q_I l2] (q_g N) m (some (q_I r.1), q_g N, r.2) := (ok_rec hN 40).1 l1 l2 m r h
def f_Pars_letLine_b200 (m : q_Mem) : q_Res :=
  q_lt (m 25 3) fun v1 => q_one q_Lp v1 <|
  q_bd (f_Loop_closeFormula v1 m) fun _ m2 =>
  q_pz m2 25 8 0 fun m3 =>
  q_bd (f_Pars_pass 59 m3) fun v4 m5 =>
  q_rz v4 m5
set_option maxRecDepth 20000 in
theorem w_Pars_letLine_b200 {r : Int × q_Mem} {m : q_Mem} {N : Nat} (hN : 81 ≤ N) (h : f_Pars_letLine_b200 m = some r) : q_E md_X3_letLine 61 N (some 0) r m 200 [q_A 25] [] := by
  unfold f_Pars_letLine_b200 at h
  refine q_aload_n (M := md_X3_letLine) (pc := 200) dX3_letLine_200 rfl (by decide) ?_
  refine e_gR (M := md_X3_letLine) (pc := 201) h fl_3_26 dX3_letLine_201 (is_25 hN) rfl (fun v1 hv1 h => ?_)
  refine e_callVv (M := md_X3_letLine) (pc := 204) (d' := 1) (av := []) (c := v1) h ml_3_150 im_X2_closeFormula se_X2_closeFormula dX3_letLine_204 (fun v he => ok_X2_closeFormula hN hv1 he) rfl (is_Lp hN hv1) ⟨_, _, rfl⟩ (by decide) (Nat.le_of_ble_eq_true rfl) ⟨by decide, by decide⟩ rfl (fun _ m2 h => ?_)
  refine q_aload_n (M := md_X3_letLine) (pc := 207) dX3_letLine_207 rfl (by decide) ?_
  refine q_iconst (M := md_X3_letLine) (pc := 208) dX3_letLine_208 ?_
  refine e_pfZ (M := md_X3_letLine) (pc := 209) h fl_3_45 dX3_letLine_209 (is_25 hN) rfl (fun m3 h => ?_)
  refine q_aload_n (M := md_X3_letLine) (pc := 212) dX3_letLine_212 rfl (by decide) ?_
  refine q_bipush (M := md_X3_letLine) (pc := 213) (x := 59) dX3_letLine_213 (by decide) ?_
  refine e_callVi (M := md_X3_letLine) (pc := 215) (d' := 3) (av := [q_I 59]) (c := 25) h ml_3_94 im_X3_pass se_X3_pass dX3_letLine_215 (fun v he => ok_X3_pass hN  he) rfl (is_25 hN) ⟨_, _, rfl⟩ (by decide) (Nat.le_of_ble_eq_true rfl) ⟨by decide, by decide⟩ rfl (fun v4 m5 h => ?_)
  exact e_zret (M := md_X3_letLine) (pc := 218) h rfl dX3_letLine_218
def f_Pars_letLine (m : q_Mem) : q_Res :=
  q_lt (m 25 3) fun v1 => q_one q_Lp v1 <|
  if q_w (m v1 2) < 3 then (q_bd (f_Tape_step m) fun _ m2 =>
  q_bd (f_Tape_isName m2) fun v3 m4 =>
  if q_w v3 = 0 then (q_bd (f_Pars_refuse 1 (m4 1 3) m4) fun v28 m29 =>
  q_rz v28 m29)
  else (q_bd (f_Pars_named m4) fun v5 m6 =>
  if q_w v5 = (-1) then (q_lt (m6 25 3) fun v7 => q_one q_Lp v7 <|
  q_wr m6 26 3 (m6 v7 2) (m6 1 3) fun m8 =>
  q_lt (m8 25 3) fun v9 => q_one q_Lp v9 <|
  q_wr m8 27 3 (m8 v9 2) (m8 1 4) fun m10 =>
  q_lt (m10 25 3) fun v11 => q_one q_Lp v11 <|
  q_pf m10 v11 2 ((m10 v11 2) + 1) fun m12 =>
  q_bd (f_Tape_step m12) fun _ m13 =>
  q_bd (f_Pars_pass 61 m13) fun v14 m15 =>
  if q_w v14 = 0 then (q_rz 0 m15)
  else (q_bd (f_Pars_chain 0 0 m15) fun v16 m17 =>
  if q_w v16 = (-1) then (q_rz 0 m17)
  else (q_lt (m17 25 3) fun v18 => q_one q_Lp v18 <|
  q_bd (f_Loop_closeFormula v18 m17) fun _ m19 =>
  q_bd (f_Tape_isWord 11 m19) fun v20 m21 =>
  q_pz m21 25 8 v20 fun m22 =>
  if q_w (m22 25 8) = 0 then (f_Pars_letLine_b200 m22)
  else (q_bd (f_Tape_step m22) fun _ m23 =>
  q_bd (f_Pars_chain 0 0 m23) fun v24 m25 =>
  if q_w v24 = (-1) then (q_rz 0 m25)
  else (f_Pars_letLine_b200 m25)))))
  else (q_bd (f_Pars_refuse 3 (m6 1 3) m6) fun v26 m27 =>
  q_rz v26 m27)))
  else (q_bd (f_Pars_refuse 4 (m 1 3) m) fun v30 m31 =>
  q_rz v30 m31)
set_option maxRecDepth 20000 in
theorem ok_X3_letLine {r : Int × q_Mem} {m : q_Mem} {N : Nat} (hN : 81 ≤ N) (h : f_Pars_letLine m = some r) : q_C md_X3_letLine (q_room 61) 0 0 [q_A 25] (q_g N) m (some (q_I r.1), q_g N, r.2) := by
  refine q_ofR (by decide) 0 (ls := [q_A 25]) rfl (Nat.le_of_ble_eq_true rfl) ?_
  change q_E md_X3_letLine 61 N (some 0) r m 0 [q_A 25] []
  unfold f_Pars_letLine at h
  refine q_aload_n (M := md_X3_letLine) (pc := 0) dX3_letLine_0 rfl (by decide) ?_
  refine e_gR (M := md_X3_letLine) (pc := 1) h fl_3_26 dX3_letLine_1 (is_25 hN) rfl (fun v1 hv1 h => ?_)
  refine e_gI (M := md_X3_letLine) (pc := 4) (v := m v1 2) fl_3_133 dX3_letLine_4 (is_Lp hN hv1) rfl ?_
  refine q_iconst (M := md_X3_letLine) (pc := 7) dX3_letLine_7 ?_
  refine e_icmp_lt (M := md_X3_letLine) (pc := 8) (tgt := 24) h rfl (q_wlit rfl) dX3_letLine_8 (by decide) (fun h => ?_) (fun h => ?_)
  · refine q_aload_n (M := md_X3_letLine) (pc := 24) dX3_letLine_24 rfl (by decide) ?_
    refine q_getP (M := md_X3_letLine) (pc := 25) (v := 1) fl_3_22 dX3_letLine_25 (is_25 hN) rfl ?_
    refine e_callVv (M := md_X3_letLine) (pc := 28) (d' := 2) (av := []) (c := 1) h ml_3_77 im_X7_step se_X7_step dX3_letLine_28 (fun v he => ok_X7_step hN  he) rfl (is_1 hN) ⟨_, _, rfl⟩ (by decide) (Nat.le_of_ble_eq_true rfl) ⟨by decide, by decide⟩ rfl (fun _ m2 h => ?_)
    refine q_aload_n (M := md_X3_letLine) (pc := 31) dX3_letLine_31 rfl (by decide) ?_
    refine q_getP (M := md_X3_letLine) (pc := 32) (v := 1) fl_3_22 dX3_letLine_32 (is_25 hN) rfl ?_
    refine e_callVi (M := md_X3_letLine) (pc := 35) (d' := 7) (av := []) (c := 1) h ml_3_136 im_X7_isName se_X7_isName dX3_letLine_35 (fun v he => ok_X7_isName hN  he) rfl (is_1 hN) ⟨_, _, rfl⟩ (by decide) (Nat.le_of_ble_eq_true rfl) ⟨by decide, by decide⟩ rfl (fun v3 m4 h => ?_)
    refine e_if_ne (M := md_X3_letLine) (pc := 38) (tgt := 54) h rfl dX3_letLine_38 (by decide) (fun h => ?_) (fun h => ?_)
    · refine q_aload_n (M := md_X3_letLine) (pc := 54) dX3_letLine_54 rfl (by decide) ?_
      refine e_callVi (M := md_X3_letLine) (pc := 55) (d' := 2) (av := []) (c := 25) h ml_3_139 im_X3_named se_X3_named dX3_letLine_55 (fun v he => ok_X3_named hN  he) rfl (is_25 hN) ⟨_, _, rfl⟩ (by decide) (Nat.le_of_ble_eq_true rfl) ⟨by decide, by decide⟩ rfl (fun v5 m6 h => ?_)
      refine q_iconst (M := md_X3_letLine) (pc := 58) dX3_letLine_58 ?_
      refine e_icmp_eq (M := md_X3_letLine) (pc := 59) (tgt := 75) h rfl (q_wlit rfl) dX3_letLine_59 (by decide) (fun h => ?_) (fun h => ?_)
      · refine q_aload_n (M := md_X3_letLine) (pc := 75) dX3_letLine_75 rfl (by decide) ?_
        refine q_getP (M := md_X3_letLine) (pc := 76) (v := 26) fl_3_9 dX3_letLine_76 (is_25 hN) rfl ?_
        refine q_aload_n (M := md_X3_letLine) (pc := 79) dX3_letLine_79 rfl (by decide) ?_
        refine e_gR (M := md_X3_letLine) (pc := 80) h fl_3_26 dX3_letLine_80 (is_25 hN) rfl (fun v7 hv7 h => ?_)
        refine e_gI (M := md_X3_letLine) (pc := 83) (v := m6 v7 2) fl_3_133 dX3_letLine_83 (is_Lp hN hv7) rfl ?_
        refine q_aload_n (M := md_X3_letLine) (pc := 86) dX3_letLine_86 rfl (by decide) ?_
        refine q_getP (M := md_X3_letLine) (pc := 87) (v := 1) fl_3_22 dX3_letLine_87 (is_25 hN) rfl ?_
        refine e_gI (M := md_X3_letLine) (pc := 90) (v := m6 1 3) fl_3_72 dX3_letLine_90 (is_1 hN) rfl ?_
        refine e_wr (M := md_X3_letLine) (pc := 93) h dX3_letLine_93 (ar_26 hN) (fun m8 h => ?_)
        refine q_aload_n (M := md_X3_letLine) (pc := 94) dX3_letLine_94 rfl (by decide) ?_
        refine q_getP (M := md_X3_letLine) (pc := 95) (v := 27) fl_3_15 dX3_letLine_95 (is_25 hN) rfl ?_
        refine q_aload_n (M := md_X3_letLine) (pc := 98) dX3_letLine_98 rfl (by decide) ?_
        refine e_gR (M := md_X3_letLine) (pc := 99) h fl_3_26 dX3_letLine_99 (is_25 hN) rfl (fun v9 hv9 h => ?_)
        refine e_gI (M := md_X3_letLine) (pc := 102) (v := m8 v9 2) fl_3_133 dX3_letLine_102 (is_Lp hN hv9) rfl ?_
        refine q_aload_n (M := md_X3_letLine) (pc := 105) dX3_letLine_105 rfl (by decide) ?_
        refine q_getP (M := md_X3_letLine) (pc := 106) (v := 1) fl_3_22 dX3_letLine_106 (is_25 hN) rfl ?_
        refine e_gI (M := md_X3_letLine) (pc := 109) (v := m8 1 4) fl_3_143 dX3_letLine_109 (is_1 hN) rfl ?_
        refine e_wr (M := md_X3_letLine) (pc := 112) h dX3_letLine_112 (ar_27 hN) (fun m10 h => ?_)
        refine q_aload_n (M := md_X3_letLine) (pc := 113) dX3_letLine_113 rfl (by decide) ?_
        refine e_gR (M := md_X3_letLine) (pc := 114) h fl_3_26 dX3_letLine_114 (is_25 hN) rfl (fun v11 hv11 h => ?_)
        refine q_dup (M := md_X3_letLine) (pc := 117) dX3_letLine_117 (show (2 : Nat) ≠ 1 by decide) ?_
        refine e_gI (M := md_X3_letLine) (pc := 118) (v := m10 v11 2) fl_3_133 dX3_letLine_118 (is_Lp hN hv11) rfl ?_
        refine q_iconst (M := md_X3_letLine) (pc := 121) dX3_letLine_121 ?_
        refine q_iadd (M := md_X3_letLine) (pc := 122) dX3_letLine_122 ?_
        refine e_pfI (M := md_X3_letLine) (pc := 123) h fl_3_133 dX3_letLine_123 (is_Lp hN hv11) rfl (fun m12 h => ?_)
        refine q_aload_n (M := md_X3_letLine) (pc := 126) dX3_letLine_126 rfl (by decide) ?_
        refine q_getP (M := md_X3_letLine) (pc := 127) (v := 1) fl_3_22 dX3_letLine_127 (is_25 hN) rfl ?_
        refine e_callVv (M := md_X3_letLine) (pc := 130) (d' := 2) (av := []) (c := 1) h ml_3_77 im_X7_step se_X7_step dX3_letLine_130 (fun v he => ok_X7_step hN  he) rfl (is_1 hN) ⟨_, _, rfl⟩ (by decide) (Nat.le_of_ble_eq_true rfl) ⟨by decide, by decide⟩ rfl (fun _ m13 h => ?_)
        refine q_aload_n (M := md_X3_letLine) (pc := 133) dX3_letLine_133 rfl (by decide) ?_
        refine q_bipush (M := md_X3_letLine) (pc := 134) (x := 61) dX3_letLine_134 (by decide) ?_
        refine e_callVi (M := md_X3_letLine) (pc := 136) (d' := 3) (av := [q_I 61]) (c := 25) h ml_3_94 im_X3_pass se_X3_pass dX3_letLine_136 (fun v he => ok_X3_pass hN  he) rfl (is_25 hN) ⟨_, _, rfl⟩ (by decide) (Nat.le_of_ble_eq_true rfl) ⟨by decide, by decide⟩ rfl (fun v14 m15 h => ?_)
        refine e_if_eq (M := md_X3_letLine) (pc := 139) (tgt := 152) h rfl dX3_letLine_139 (by decide) (fun h => ?_) (fun h => ?_)
        · refine q_iconst (M := md_X3_letLine) (pc := 152) dX3_letLine_152 ?_
          exact e_zret (M := md_X3_letLine) (pc := 153) h rfl dX3_letLine_153
        · refine q_aload_n (M := md_X3_letLine) (pc := 142) dX3_letLine_142 rfl (by decide) ?_
          refine q_iconst (M := md_X3_letLine) (pc := 143) dX3_letLine_143 ?_
          refine q_iconst (M := md_X3_letLine) (pc := 144) dX3_letLine_144 ?_
          refine e_callVi (M := md_X3_letLine) (pc := 145) (d' := 60) (av := [q_I 0, q_I 0]) (c := 25) h ml_3_146 im_X3_chain se_X3_chain dX3_letLine_145 (fun v he => ok_X3_chain hN  he) rfl (is_25 hN) ⟨_, _, rfl⟩ (by decide) (Nat.le_of_ble_eq_true rfl) ⟨by decide, by decide⟩ rfl (fun v16 m17 h => ?_)
          refine q_iconst (M := md_X3_letLine) (pc := 148) dX3_letLine_148 ?_
          refine e_icmp_ne (M := md_X3_letLine) (pc := 149) (tgt := 154) h rfl (q_wlit rfl) dX3_letLine_149 (by decide) (fun h => ?_) (fun h => ?_)
          · refine q_aload_n (M := md_X3_letLine) (pc := 154) dX3_letLine_154 rfl (by decide) ?_
            refine e_gR (M := md_X3_letLine) (pc := 155) h fl_3_26 dX3_letLine_155 (is_25 hN) rfl (fun v18 hv18 h => ?_)
            refine e_callVv (M := md_X3_letLine) (pc := 158) (d' := 1) (av := []) (c := v18) h ml_3_150 im_X2_closeFormula se_X2_closeFormula dX3_letLine_158 (fun v he => ok_X2_closeFormula hN hv18 he) rfl (is_Lp hN hv18) ⟨_, _, rfl⟩ (by decide) (Nat.le_of_ble_eq_true rfl) ⟨by decide, by decide⟩ rfl (fun _ m19 h => ?_)
            refine q_aload_n (M := md_X3_letLine) (pc := 161) dX3_letLine_161 rfl (by decide) ?_
            refine q_aload_n (M := md_X3_letLine) (pc := 162) dX3_letLine_162 rfl (by decide) ?_
            refine q_getP (M := md_X3_letLine) (pc := 163) (v := 1) fl_3_22 dX3_letLine_163 (is_25 hN) rfl ?_
            refine e_ldcS (M := md_X3_letLine) (pc := 166) (i := 11) (tx := "edge") dX3_letLine_166 (by decide) ?_
            refine e_callVi (M := md_X3_letLine) (pc := 168) (d' := 6) (av := [q_S 11]) (c := 1) h ml_3_62 im_X7_isWord se_X7_isWord dX3_letLine_168 (fun v he => ok_X7_isWord hN (by decide) he) rfl (is_1 hN) ⟨_, _, rfl⟩ (by decide) (Nat.le_of_ble_eq_true rfl) ⟨by decide, by decide⟩ rfl (fun v20 m21 h => ?_)
            refine e_pfZ (M := md_X3_letLine) (pc := 171) h fl_3_45 dX3_letLine_171 (is_25 hN) rfl (fun m22 h => ?_)
            refine q_aload_n (M := md_X3_letLine) (pc := 174) dX3_letLine_174 rfl (by decide) ?_
            refine e_gI (M := md_X3_letLine) (pc := 175) (v := m22 25 8) fl_3_45 dX3_letLine_175 (is_25 hN) rfl ?_
            refine e_if_eq (M := md_X3_letLine) (pc := 178) (tgt := 200) h rfl dX3_letLine_178 (by decide) (fun h => ?_) (fun h => ?_)
            · exact q_weak (w_Pars_letLine_b200 hN  h) ⟨Or.inr rfl, trivial⟩
            · refine q_aload_n (M := md_X3_letLine) (pc := 181) dX3_letLine_181 rfl (by decide) ?_
              refine q_getP (M := md_X3_letLine) (pc := 182) (v := 1) fl_3_22 dX3_letLine_182 (is_25 hN) rfl ?_
              refine e_callVv (M := md_X3_letLine) (pc := 185) (d' := 2) (av := []) (c := 1) h ml_3_77 im_X7_step se_X7_step dX3_letLine_185 (fun v he => ok_X7_step hN  he) rfl (is_1 hN) ⟨_, _, rfl⟩ (by decide) (Nat.le_of_ble_eq_true rfl) ⟨by decide, by decide⟩ rfl (fun _ m23 h => ?_)
              refine q_aload_n (M := md_X3_letLine) (pc := 188) dX3_letLine_188 rfl (by decide) ?_
              refine q_iconst (M := md_X3_letLine) (pc := 189) dX3_letLine_189 ?_
              refine q_iconst (M := md_X3_letLine) (pc := 190) dX3_letLine_190 ?_
              refine e_callVi (M := md_X3_letLine) (pc := 191) (d' := 60) (av := [q_I 0, q_I 0]) (c := 25) h ml_3_146 im_X3_chain se_X3_chain dX3_letLine_191 (fun v he => ok_X3_chain hN  he) rfl (is_25 hN) ⟨_, _, rfl⟩ (by decide) (Nat.le_of_ble_eq_true rfl) ⟨by decide, by decide⟩ rfl (fun v24 m25 h => ?_)
              refine q_iconst (M := md_X3_letLine) (pc := 194) dX3_letLine_194 ?_
              refine e_icmp_ne (M := md_X3_letLine) (pc := 195) (tgt := 200) h rfl (q_wlit rfl) dX3_letLine_195 (by decide) (fun h => ?_) (fun h => ?_)
              · exact q_weak (w_Pars_letLine_b200 hN  h) ⟨Or.inr rfl, trivial⟩
              · refine q_iconst (M := md_X3_letLine) (pc := 198) dX3_letLine_198 ?_
                exact e_zret (M := md_X3_letLine) (pc := 199) h rfl dX3_letLine_199
          · refine q_iconst (M := md_X3_letLine) (pc := 152) dX3_letLine_152 ?_
            exact e_zret (M := md_X3_letLine) (pc := 153) h rfl dX3_letLine_153
      · refine q_aload_n (M := md_X3_letLine) (pc := 62) dX3_letLine_62 rfl (by decide) ?_
        refine q_iconst (M := md_X3_letLine) (pc := 63) dX3_letLine_63 ?_
        refine q_aload_n (M := md_X3_letLine) (pc := 64) dX3_letLine_64 rfl (by decide) ?_
        refine q_getP (M := md_X3_letLine) (pc := 65) (v := 1) fl_3_22 dX3_letLine_65 (is_25 hN) rfl ?_
        refine e_gI (M := md_X3_letLine) (pc := 68) (v := m6 1 3) fl_3_72 dX3_letLine_68 (is_1 hN) rfl ?_
        refine e_callVi (M := md_X3_letLine) (pc := 71) (d' := 1) (av := [q_I 3, q_I (m6 1 3)]) (c := 25) h ml_3_73 im_X3_refuse se_X3_refuse dX3_letLine_71 (fun v he => ok_X3_refuse hN  he) rfl (is_25 hN) ⟨_, _, rfl⟩ (by decide) (Nat.le_of_ble_eq_true rfl) ⟨by decide, by decide⟩ rfl (fun v26 m27 h => ?_)
        exact e_zret (M := md_X3_letLine) (pc := 74) h rfl dX3_letLine_74
    · refine q_aload_n (M := md_X3_letLine) (pc := 41) dX3_letLine_41 rfl (by decide) ?_
      refine q_iconst (M := md_X3_letLine) (pc := 42) dX3_letLine_42 ?_
      refine q_aload_n (M := md_X3_letLine) (pc := 43) dX3_letLine_43 rfl (by decide) ?_
      refine q_getP (M := md_X3_letLine) (pc := 44) (v := 1) fl_3_22 dX3_letLine_44 (is_25 hN) rfl ?_
      refine e_gI (M := md_X3_letLine) (pc := 47) (v := m4 1 3) fl_3_72 dX3_letLine_47 (is_1 hN) rfl ?_
      refine e_callVi (M := md_X3_letLine) (pc := 50) (d' := 1) (av := [q_I 1, q_I (m4 1 3)]) (c := 25) h ml_3_73 im_X3_refuse se_X3_refuse dX3_letLine_50 (fun v he => ok_X3_refuse hN  he) rfl (is_25 hN) ⟨_, _, rfl⟩ (by decide) (Nat.le_of_ble_eq_true rfl) ⟨by decide, by decide⟩ rfl (fun v28 m29 h => ?_)
      exact e_zret (M := md_X3_letLine) (pc := 53) h rfl dX3_letLine_53
  · refine q_aload_n (M := md_X3_letLine) (pc := 11) dX3_letLine_11 rfl (by decide) ?_
    refine q_iconst (M := md_X3_letLine) (pc := 12) dX3_letLine_12 ?_
    refine q_aload_n (M := md_X3_letLine) (pc := 13) dX3_letLine_13 rfl (by decide) ?_
    refine q_getP (M := md_X3_letLine) (pc := 14) (v := 1) fl_3_22 dX3_letLine_14 (is_25 hN) rfl ?_
    refine e_gI (M := md_X3_letLine) (pc := 17) (v := m 1 3) fl_3_72 dX3_letLine_17 (is_1 hN) rfl ?_
    refine e_callVi (M := md_X3_letLine) (pc := 20) (d' := 1) (av := [q_I 4, q_I (m 1 3)]) (c := 25) h ml_3_73 im_X3_refuse se_X3_refuse dX3_letLine_20 (fun v he => ok_X3_refuse hN  he) rfl (is_25 hN) ⟨_, _, rfl⟩ (by decide) (Nat.le_of_ble_eq_true rfl) ⟨by decide, by decide⟩ rfl (fun v30 m31 h => ?_)
    exact e_zret (M := md_X3_letLine) (pc := 23) h rfl dX3_letLine_23
def f_Pars_parse_b113 (k69 : Int → Int → q_Mem → q_Res) (l3 s0 : Int) (m : q_Mem) : q_Res :=
  k69 s0 (l3 + 1) m
set_option maxRecDepth 20000 in
theorem w_Pars_parse_b113 {k69 : Int → Int → q_Mem → q_Res} {l3 s0 : Int} {r : Int × q_Mem} {m : q_Mem} {N : Nat} (hN : 81 ≤ N) (hk69 : ∀ (l2 l3 : Int) (m : q_Mem), k69 l2 l3 m = some r → q_E md_X3_parse 62 N (none) r m 69 [q_A 25, q_N, q_I l2, q_I l3] []) (h : f_Pars_parse_b113 k69 l3 s0 m = some r) : q_E md_X3_parse 62 N (none) r m 113 [q_A 25, q_N, q_N, q_I l3] [q_I s0] := by
  unfold f_Pars_parse_b113 at h
  refine e_ist_n (M := md_X3_parse) (pc := 113) (ls' := [q_A 25, q_N, q_I s0, q_I l3]) dX3_parse_113 (by decide) (q_pl rfl) rfl ?_
  refine e_inc (M := md_X3_parse) (pc := 114) (x := l3) (ls' := [q_A 25, q_N, q_I s0, q_I (l3 + 1)]) dX3_parse_114 rfl (by decide) (q_pl rfl) rfl ?_
  refine q_goto (M := md_X3_parse) (pc := 117) (tgt := 69) dX3_parse_117 (by decide) ?_
  exact q_weak (hk69 _ _ _  h) ⟨Or.inr rfl, Or.inl rfl, Or.inr rfl, Or.inr rfl, trivial⟩
def f_Pars_parse_b69 (k69 : Int → Int → q_Mem → q_Res) (l2 l3 : Int) (m : q_Mem) : q_Res :=
  if 800 ≤ q_w l3 then (q_rt 0 m)
  else (if q_w l2 = 0 then (q_rt 0 m)
  else (if q_w (m 1 2) = 0 then (q_rt 0 m)
  else (q_bd (f_Tape_isWord 1 m) fun v1 m2 =>
  if q_w v1 = 0 then (q_bd (f_Pars_layoutLine m2) fun v3 m4 =>
  f_Pars_parse_b113 k69 l3 v3 m4)
  else (q_bd (f_Pars_letLine m2) fun v5 m6 =>
  f_Pars_parse_b113 k69 l3 v5 m6))))
set_option maxRecDepth 20000 in
theorem w_Pars_parse_b69 {k69 : Int → Int → q_Mem → q_Res} {l2 l3 : Int} {r : Int × q_Mem} {m : q_Mem} {N : Nat} (hN : 81 ≤ N) (hk69 : ∀ (l2 l3 : Int) (m : q_Mem), k69 l2 l3 m = some r → q_E md_X3_parse 62 N (none) r m 69 [q_A 25, q_N, q_I l2, q_I l3] []) (h : f_Pars_parse_b69 k69 l2 l3 m = some r) : q_E md_X3_parse 62 N (none) r m 69 [q_A 25, q_N, q_I l2, q_I l3] [] := by
  unfold f_Pars_parse_b69 at h
  refine q_iload_n (M := md_X3_parse) (pc := 69) dX3_parse_69 rfl ?_
  refine q_sipush (M := md_X3_parse) (pc := 70) (x := 800) dX3_parse_70 (by decide) ?_
  refine e_icmp_ge (M := md_X3_parse) (pc := 73) (tgt := 120) h rfl (q_wlit rfl) dX3_parse_73 (by decide) (fun h => ?_) (fun h => ?_)
  · exact e_vret (M := md_X3_parse) (pc := 120) h rfl dX3_parse_120
  · refine q_iload_n (M := md_X3_parse) (pc := 76) dX3_parse_76 rfl ?_
    refine e_if_eq (M := md_X3_parse) (pc := 77) (tgt := 120) h rfl dX3_parse_77 (by decide) (fun h => ?_) (fun h => ?_)
    · exact e_vret (M := md_X3_parse) (pc := 120) h rfl dX3_parse_120
    · refine q_aload_n (M := md_X3_parse) (pc := 80) dX3_parse_80 rfl (by decide) ?_
      refine q_getP (M := md_X3_parse) (pc := 81) (v := 1) fl_3_22 dX3_parse_81 (is_25 hN) rfl ?_
      refine e_gI (M := md_X3_parse) (pc := 84) (v := m 1 2) fl_3_53 dX3_parse_84 (is_1 hN) rfl ?_
      refine e_if_eq (M := md_X3_parse) (pc := 87) (tgt := 120) h rfl dX3_parse_87 (by decide) (fun h => ?_) (fun h => ?_)
      · exact e_vret (M := md_X3_parse) (pc := 120) h rfl dX3_parse_120
      · refine q_aload_n (M := md_X3_parse) (pc := 90) dX3_parse_90 rfl (by decide) ?_
        refine q_getP (M := md_X3_parse) (pc := 91) (v := 1) fl_3_22 dX3_parse_91 (is_25 hN) rfl ?_
        refine e_ldcS (M := md_X3_parse) (pc := 94) (i := 1) (tx := "let") dX3_parse_94 (by decide) ?_
        refine e_callVi (M := md_X3_parse) (pc := 96) (d' := 6) (av := [q_S 1]) (c := 1) h ml_3_62 im_X7_isWord se_X7_isWord dX3_parse_96 (fun v he => ok_X7_isWord hN (by decide) he) rfl (is_1 hN) ⟨_, _, rfl⟩ (by decide) (Nat.le_of_ble_eq_true rfl) ⟨by decide, by decide⟩ rfl (fun v1 m2 h => ?_)
        refine e_if_eq (M := md_X3_parse) (pc := 99) (tgt := 109) h rfl dX3_parse_99 (by decide) (fun h => ?_) (fun h => ?_)
        · refine q_aload_n (M := md_X3_parse) (pc := 109) dX3_parse_109 rfl (by decide) ?_
          refine e_callVi (M := md_X3_parse) (pc := 110) (d' := 7) (av := []) (c := 25) h ml_3_69 im_X3_layoutLine se_X3_layoutLine dX3_parse_110 (fun v he => ok_X3_layoutLine hN  he) rfl (is_25 hN) ⟨_, _, rfl⟩ (by decide) (Nat.le_of_ble_eq_true rfl) ⟨by decide, by decide⟩ rfl (fun v3 m4 h => ?_)
          exact q_weak (w_Pars_parse_b113 hN hk69  h) ⟨Or.inr rfl, Or.inl rfl, Or.inl rfl, Or.inr rfl, trivial⟩
        · refine q_aload_n (M := md_X3_parse) (pc := 102) dX3_parse_102 rfl (by decide) ?_
          refine e_callVi (M := md_X3_parse) (pc := 103) (d' := 61) (av := []) (c := 25) h ml_3_66 im_X3_letLine se_X3_letLine dX3_parse_103 (fun v he => ok_X3_letLine hN  he) rfl (is_25 hN) ⟨_, _, rfl⟩ (by decide) (Nat.le_of_ble_eq_true rfl) ⟨by decide, by decide⟩ rfl (fun v5 m6 h => ?_)
          refine q_goto (M := md_X3_parse) (pc := 106) (tgt := 113) dX3_parse_106 (by decide) ?_
          exact q_weak (w_Pars_parse_b113 hN hk69  h) ⟨Or.inr rfl, Or.inl rfl, Or.inl rfl, Or.inr rfl, trivial⟩
def f_Pars_parse_l69 : Nat → Int → Int → q_Mem → q_Res
  | 0 => fun _ _ _ => none
  | n + 1 => fun l2 l3 m => f_Pars_parse_b69 (f_Pars_parse_l69 n) l2 l3 m
theorem w_Pars_parse_l69 {r : Int × q_Mem} {N : Nat} (hN : 81 ≤ N) : ∀ (n : Nat) (l2 l3 : Int) (m : q_Mem), f_Pars_parse_l69 n l2 l3 m = some r → q_E md_X3_parse 62 N (none) r m 69 [q_A 25, q_N, q_I l2, q_I l3] [] := by
  intro n
  induction n with
  | zero => intro l2 l3 m h; exact q_no h
  | succ n ih =>
    intro l2 l3 m h
    exact w_Pars_parse_b69 hN (fun l2 l3 m h => ih l2 l3 m h) h
def f_Pars_parse_b66 (s0 : Int) (m : q_Mem) : q_Res :=
  f_Pars_parse_l69 q_F s0 0 m
set_option maxRecDepth 20000 in
theorem w_Pars_parse_b66 {s0 : Int} {r : Int × q_Mem} {m : q_Mem} {N : Nat} (hN : 81 ≤ N) (h : f_Pars_parse_b66 s0 m = some r) : q_E md_X3_parse 62 N (none) r m 66 [q_A 25, q_N, q_N, q_N] [q_I s0] := by
  unfold f_Pars_parse_b66 at h
  refine e_ist_n (M := md_X3_parse) (pc := 66) (ls' := [q_A 25, q_N, q_I s0, q_N]) dX3_parse_66 (by decide) (q_pl rfl) rfl ?_
  refine q_iconst (M := md_X3_parse) (pc := 67) dX3_parse_67 ?_
  refine e_ist_n (M := md_X3_parse) (pc := 68) (ls' := [q_A 25, q_N, q_I s0, q_I 0]) dX3_parse_68 (by decide) (q_pl rfl) rfl ?_
  exact q_weak (w_Pars_parse_l69 hN q_F _ _ _  h) ⟨Or.inr rfl, Or.inl rfl, Or.inr rfl, Or.inr rfl, trivial⟩
def f_Pars_parse_b61 (m : q_Mem) : q_Res :=
  f_Pars_parse_b66 1 m
set_option maxRecDepth 20000 in
theorem w_Pars_parse_b61 {r : Int × q_Mem} {m : q_Mem} {N : Nat} (hN : 81 ≤ N) (h : f_Pars_parse_b61 m = some r) : q_E md_X3_parse 62 N (none) r m 61 [q_A 25, q_N, q_N, q_N] [] := by
  unfold f_Pars_parse_b61 at h
  refine q_iconst (M := md_X3_parse) (pc := 61) dX3_parse_61 ?_
  refine q_goto (M := md_X3_parse) (pc := 62) (tgt := 66) dX3_parse_62 (by decide) ?_
  exact q_weak (w_Pars_parse_b66 hN  h) ⟨Or.inr rfl, Or.inl rfl, Or.inl rfl, Or.inl rfl, trivial⟩
def f_Pars_parse (l1 : Int) (m : q_Mem) : q_Res :=
  q_pf m 25 3 l1 fun m1 =>
  q_lt (m1 25 3) fun v2 => q_one q_Lp v2 <|
  q_bd (f_Loop_clear v2 m1) fun _ m3 =>
  q_pf m3 25 4 0 fun m4 =>
  q_pf m4 25 5 (-1) fun m5 =>
  q_pz m5 25 6 0 fun m6 =>
  q_pz m6 25 7 0 fun m7 =>
  q_pz m7 25 8 0 fun m8 =>
  q_bd (f_Tape_rewind m8) fun _ m9 =>
  if q_w (m9 1 2) = 0 then (f_Pars_parse_b61 m9)
  else (q_bd (f_Pars_sizeLine m9) fun v10 m11 =>
  if q_w v10 = 0 then (f_Pars_parse_b66 0 m11)
  else (f_Pars_parse_b61 m11))
set_option maxRecDepth 20000 in
theorem ok_X3_parse {l1 : Int} {r : Int × q_Mem} {m : q_Mem} {N : Nat} (hN : 81 ≤ N) (hl1 : l1 ∈ (q_Lp : List Int)) (h : f_Pars_parse l1 m = some r) : q_C md_X3_parse (q_room 62) 0 0 [q_A 25, q_A l1] (q_g N) m (none, q_g N, r.2) := by
  refine q_ofR (by decide) 2 (ls := [q_A 25, q_A l1, q_N, q_N]) rfl (Nat.le_of_ble_eq_true rfl) ?_
  change q_E md_X3_parse 62 N (none) r m 0 [q_A 25, q_A l1, q_N, q_N] []
  unfold f_Pars_parse at h
  refine q_aload_n (M := md_X3_parse) (pc := 0) dX3_parse_0 rfl (by decide) ?_
  refine q_aload_n (M := md_X3_parse) (pc := 1) dX3_parse_1 rfl (nn_Lp hl1) ?_
  refine e_pfR (M := md_X3_parse) (pc := 2) h fl_3_26 (Or.inl ⟨_, rfl⟩) dX3_parse_2 (is_25 hN) (nn_Lp hl1) rfl (fun m1 h => ?_)
  refine q_aload_n (M := md_X3_parse) (pc := 5) dX3_parse_5 rfl (by decide) ?_
  refine e_gR (M := md_X3_parse) (pc := 6) h fl_3_26 dX3_parse_6 (is_25 hN) rfl (fun v2 hv2 h => ?_)
  refine e_callVv (M := md_X3_parse) (pc := 9) (d' := 1) (av := []) (c := v2) h ml_3_30 im_X2_clear se_X2_clear dX3_parse_9 (fun v he => ok_X2_clear hN hv2 he) rfl (is_Lp hN hv2) ⟨_, _, rfl⟩ (by decide) (Nat.le_of_ble_eq_true rfl) ⟨by decide, by decide⟩ rfl (fun _ m3 h => ?_)
  refine q_aload_n (M := md_X3_parse) (pc := 12) dX3_parse_12 rfl (by decide) ?_
  refine q_iconst (M := md_X3_parse) (pc := 13) dX3_parse_13 ?_
  refine e_pfI (M := md_X3_parse) (pc := 14) h fl_3_35 dX3_parse_14 (is_25 hN) rfl (fun m4 h => ?_)
  refine q_aload_n (M := md_X3_parse) (pc := 17) dX3_parse_17 rfl (by decide) ?_
  refine q_iconst (M := md_X3_parse) (pc := 18) dX3_parse_18 ?_
  refine e_pfI (M := md_X3_parse) (pc := 19) h fl_3_18 dX3_parse_19 (is_25 hN) rfl (fun m5 h => ?_)
  refine q_aload_n (M := md_X3_parse) (pc := 22) dX3_parse_22 rfl (by decide) ?_
  refine q_iconst (M := md_X3_parse) (pc := 23) dX3_parse_23 ?_
  refine e_pfZ (M := md_X3_parse) (pc := 24) h fl_3_38 dX3_parse_24 (is_25 hN) rfl (fun m6 h => ?_)
  refine q_aload_n (M := md_X3_parse) (pc := 27) dX3_parse_27 rfl (by decide) ?_
  refine q_iconst (M := md_X3_parse) (pc := 28) dX3_parse_28 ?_
  refine e_pfZ (M := md_X3_parse) (pc := 29) h fl_3_42 dX3_parse_29 (is_25 hN) rfl (fun m7 h => ?_)
  refine q_aload_n (M := md_X3_parse) (pc := 32) dX3_parse_32 rfl (by decide) ?_
  refine q_iconst (M := md_X3_parse) (pc := 33) dX3_parse_33 ?_
  refine e_pfZ (M := md_X3_parse) (pc := 34) h fl_3_45 dX3_parse_34 (is_25 hN) rfl (fun m8 h => ?_)
  refine q_aload_n (M := md_X3_parse) (pc := 37) dX3_parse_37 rfl (by decide) ?_
  refine q_getP (M := md_X3_parse) (pc := 38) (v := 1) fl_3_22 dX3_parse_38 (is_25 hN) rfl ?_
  refine e_callVv (M := md_X3_parse) (pc := 41) (d' := 3) (av := []) (c := 1) h ml_3_48 im_X7_rewind se_X7_rewind dX3_parse_41 (fun v he => ok_X7_rewind hN  he) rfl (is_1 hN) ⟨_, _, rfl⟩ (by decide) (Nat.le_of_ble_eq_true rfl) ⟨by decide, by decide⟩ rfl (fun _ m9 h => ?_)
  refine q_aload_n (M := md_X3_parse) (pc := 44) dX3_parse_44 rfl (by decide) ?_
  refine q_getP (M := md_X3_parse) (pc := 45) (v := 1) fl_3_22 dX3_parse_45 (is_25 hN) rfl ?_
  refine e_gI (M := md_X3_parse) (pc := 48) (v := m9 1 2) fl_3_53 dX3_parse_48 (is_1 hN) rfl ?_
  refine e_if_eq (M := md_X3_parse) (pc := 51) (tgt := 61) h rfl dX3_parse_51 (by decide) (fun h => ?_) (fun h => ?_)
  · exact q_weak (w_Pars_parse_b61 hN  h) ⟨Or.inr rfl, Or.inl rfl, Or.inl rfl, Or.inl rfl, trivial⟩
  · refine q_aload_n (M := md_X3_parse) (pc := 54) dX3_parse_54 rfl (by decide) ?_
    refine e_callVi (M := md_X3_parse) (pc := 55) (d' := 7) (av := []) (c := 25) h ml_3_56 im_X3_sizeLine se_X3_sizeLine dX3_parse_55 (fun v he => ok_X3_sizeLine hN  he) rfl (is_25 hN) ⟨_, _, rfl⟩ (by decide) (Nat.le_of_ble_eq_true rfl) ⟨by decide, by decide⟩ rfl (fun v10 m11 h => ?_)
    refine e_if_eq (M := md_X3_parse) (pc := 58) (tgt := 65) h rfl dX3_parse_58 (by decide) (fun h => ?_) (fun h => ?_)
    · refine q_iconst (M := md_X3_parse) (pc := 65) dX3_parse_65 ?_
      exact q_weak (w_Pars_parse_b66 hN  h) ⟨Or.inr rfl, Or.inl rfl, Or.inl rfl, Or.inl rfl, trivial⟩
    · exact q_weak (w_Pars_parse_b61 hN  h) ⟨Or.inr rfl, Or.inl rfl, Or.inl rfl, Or.inl rfl, trivial⟩
def f_PG_loop (m : q_Mem) : q_Res :=
  q_lt (m 0 2) fun v1 => q_one q_Lp v1 <|
  q_bd (f_Pars_parse v1 m) fun _ m2 =>
  q_pf m2 1 1 0 fun m3 =>
  if q_w (m3 25 4) = 0 then (q_lt (m3 0 2) fun v4 => q_one q_Lp v4 <|
  q_lt (m3 0 1) fun v5 => q_one q_Lp v5 <|
  q_pf m3 0 2 v5 fun m6 =>
  q_pf m6 0 1 v4 fun m7 =>
  q_bd (f_PG_takeUp m7) fun _ m8 =>
  q_lt (m8 0 1) fun v9 => q_one q_Lp v9 <|
  q_rt (m8 v9 2) m8)
  else (q_rt (-1) m3)
set_option maxRecDepth 20000 in
theorem ok_X10_loop {r : Int × q_Mem} {m : q_Mem} {N : Nat} (hN : 81 ≤ N) (h : f_PG_loop m = some r) : q_C md_X10_loop (q_room 63) 0 0 [q_A 0] (q_g N) m (some (q_I r.1), q_g N, r.2) := by
  refine q_ofR (by decide) 1 (ls := [q_A 0, q_N]) rfl (Nat.le_of_ble_eq_true rfl) ?_
  change q_E md_X10_loop 63 N (some 0) r m 0 [q_A 0, q_N] []
  unfold f_PG_loop at h
  refine q_aload_n (M := md_X10_loop) (pc := 0) dX10_loop_0 rfl (by decide) ?_
  refine q_getP (M := md_X10_loop) (pc := 1) (v := 25) fl_10_31 dX10_loop_1 (is_0 hN) rfl ?_
  refine q_aload_n (M := md_X10_loop) (pc := 4) dX10_loop_4 rfl (by decide) ?_
  refine e_gR (M := md_X10_loop) (pc := 5) h fl_10_23 dX10_loop_5 (is_0 hN) rfl (fun v1 hv1 h => ?_)
  refine e_callVv (M := md_X10_loop) (pc := 8) (d' := 62) (av := [q_A v1]) (c := 25) h ml_10_114 im_X3_parse se_X3_parse dX10_loop_8 (fun v he => ok_X3_parse hN hv1 he) rfl (is_25 hN) ⟨_, _, rfl⟩ (by decide) (Nat.le_of_ble_eq_true rfl) ⟨by decide, by decide⟩ rfl (fun _ m2 h => ?_)
  refine q_aload_n (M := md_X10_loop) (pc := 11) dX10_loop_11 rfl (by decide) ?_
  refine q_getP (M := md_X10_loop) (pc := 12) (v := 1) fl_10_12 dX10_loop_12 (is_0 hN) rfl ?_
  refine q_iconst (M := md_X10_loop) (pc := 15) dX10_loop_15 ?_
  refine e_pfI (M := md_X10_loop) (pc := 16) h fl_10_106 dX10_loop_16 (is_1 hN) rfl (fun m3 h => ?_)
  refine q_aload_n (M := md_X10_loop) (pc := 19) dX10_loop_19 rfl (by decide) ?_
  refine q_getP (M := md_X10_loop) (pc := 20) (v := 25) fl_10_31 dX10_loop_20 (is_0 hN) rfl ?_
  refine e_gI (M := md_X10_loop) (pc := 23) (v := m3 25 4) fl_10_118 dX10_loop_23 (is_25 hN) rfl ?_
  refine e_if_eq (M := md_X10_loop) (pc := 26) (tgt := 31) h rfl dX10_loop_26 (by decide) (fun h => ?_) (fun h => ?_)
  · refine q_aload_n (M := md_X10_loop) (pc := 31) dX10_loop_31 rfl (by decide) ?_
    refine e_gR (M := md_X10_loop) (pc := 32) h fl_10_23 dX10_loop_32 (is_0 hN) rfl (fun v4 hv4 h => ?_)
    refine e_ast_n (M := md_X10_loop) (pc := 35) (ls' := [q_A 0, q_A v4]) dX10_loop_35 (nn_Lp hv4) (by decide) (q_pl rfl) rfl ?_
    refine q_aload_n (M := md_X10_loop) (pc := 36) dX10_loop_36 rfl (by decide) ?_
    refine q_aload_n (M := md_X10_loop) (pc := 37) dX10_loop_37 rfl (by decide) ?_
    refine e_gR (M := md_X10_loop) (pc := 38) h fl_10_19 dX10_loop_38 (is_0 hN) rfl (fun v5 hv5 h => ?_)
    refine e_pfR (M := md_X10_loop) (pc := 41) h fl_10_23 (Or.inl ⟨_, rfl⟩) dX10_loop_41 (is_0 hN) (nn_Lp hv5) rfl (fun m6 h => ?_)
    refine q_aload_n (M := md_X10_loop) (pc := 44) dX10_loop_44 rfl (by decide) ?_
    refine q_aload_n (M := md_X10_loop) (pc := 45) dX10_loop_45 rfl (nn_Lp hv4) ?_
    refine e_pfR (M := md_X10_loop) (pc := 46) h fl_10_19 (Or.inl ⟨_, rfl⟩) dX10_loop_46 (is_0 hN) (nn_Lp hv4) rfl (fun m7 h => ?_)
    refine q_aload_n (M := md_X10_loop) (pc := 49) dX10_loop_49 rfl (by decide) ?_
    refine e_callVv (M := md_X10_loop) (pc := 50) (d' := 6) (av := []) (c := 0) h ml_10_103 im_X10_takeUp se_X10_takeUp dX10_loop_50 (fun v he => ok_X10_takeUp hN  he) rfl (is_0 hN) ⟨_, _, rfl⟩ (by decide) (Nat.le_of_ble_eq_true rfl) ⟨by decide, by decide⟩ rfl (fun _ m8 h => ?_)
    refine q_aload_n (M := md_X10_loop) (pc := 53) dX10_loop_53 rfl (by decide) ?_
    refine e_gR (M := md_X10_loop) (pc := 54) h fl_10_19 dX10_loop_54 (is_0 hN) rfl (fun v9 hv9 h => ?_)
    refine e_gI (M := md_X10_loop) (pc := 57) (v := m8 v9 2) fl_10_121 dX10_loop_57 (is_Lp hN hv9) rfl ?_
    exact e_iret (M := md_X10_loop) (pc := 60) h rfl dX10_loop_60
  · refine q_iconst (M := md_X10_loop) (pc := 29) dX10_loop_29 ?_
    exact e_iret (M := md_X10_loop) (pc := 30) h rfl dX10_loop_30
