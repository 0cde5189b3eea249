def f_Mod_run (l1 l2 l3 : Int) (m : q_Mem) : q_Res :=
  q_bd (f_Mod_isVariable l1 m) fun v1 m2 =>
  if q_w v1 = 0 then (q_rt 0 m2)
  else (q_bd (f_Mod_isPoint l2 l3 m2) fun v3 m4 =>
  if q_w v3 = 0 then (q_rt 0 m4)
  else (q_bd (f_Mod_layNow m4) fun _ m5 =>
  q_bd (f_Mod_layRun m5) fun _ m6 =>
  q_rd m6 111 300 (((100 * l1) + (10 * l2)) + l3) fun v7 =>
  q_rt v7 m6))
set_option maxRecDepth 20000 in
theorem ok_X11_run {l1 l2 l3 : Int} {r : Int × q_Mem} {m : q_Mem} {N : Nat} (hN : 126 ≤ N) (h : f_Mod_run l1 l2 l3 m = some r) : q_C md_X11_run (q_room 8) 0 0 [q_A 81, q_I l1, q_I l2, q_I l3] (q_g N) m (some (q_I r.1), q_g N, r.2) := by
  refine q_ofR (by decide) 0 (ls := [q_A 81, q_I l1, q_I l2, q_I l3]) rfl (Nat.le_of_ble_eq_true rfl) ?_
  change q_E md_X11_run 8 N (some 0) r m 0 [q_A 81, q_I l1, q_I l2, q_I l3] []
  unfold f_Mod_run at h
  refine q_aload_n (M := md_X11_run) (pc := 0) dX11_run_0 rfl (by decide) ?_
  refine q_iload_n (M := md_X11_run) (pc := 1) dX11_run_1 rfl ?_
  refine e_callVi (M := md_X11_run) (pc := 2) (d' := 2) (av := [q_I l1]) (c := 81) h ml_11_396 im_X11_isVariable se_X11_isVariable dX11_run_2 (fun v he => ok_X11_isVariable hN  he) rfl (is_81 hN) ⟨_, _, rfl⟩ (by decide) (Nat.le_of_ble_eq_true rfl) ⟨by decide, by decide⟩ rfl (fun v1 m2 h => ?_)
  refine e_if_eq (M := md_X11_run) (pc := 5) (tgt := 17) h rfl dX11_run_5 (by decide) (fun h => ?_) (fun h => ?_)
  · refine q_iconst (M := md_X11_run) (pc := 17) dX11_run_17 ?_
    exact e_iret (M := md_X11_run) (pc := 18) h rfl dX11_run_18
  · refine q_aload_n (M := md_X11_run) (pc := 8) dX11_run_8 rfl (by decide) ?_
    refine q_iload_n (M := md_X11_run) (pc := 9) dX11_run_9 rfl ?_
    refine q_iload_n (M := md_X11_run) (pc := 10) dX11_run_10 rfl ?_
    refine e_callVi (M := md_X11_run) (pc := 11) (d' := 2) (av := [q_I l2, q_I l3]) (c := 81) h ml_11_324 im_X11_isPoint se_X11_isPoint dX11_run_11 (fun v he => ok_X11_isPoint hN  he) rfl (is_81 hN) ⟨_, _, rfl⟩ (by decide) (Nat.le_of_ble_eq_true rfl) ⟨by decide, by decide⟩ rfl (fun v3 m4 h => ?_)
    refine e_if_ne (M := md_X11_run) (pc := 14) (tgt := 19) h rfl dX11_run_14 (by decide) (fun h => ?_) (fun h => ?_)
    · refine q_aload_n (M := md_X11_run) (pc := 19) dX11_run_19 rfl (by decide) ?_
      refine e_callVv (M := md_X11_run) (pc := 20) (d' := 6) (av := []) (c := 81) h ml_11_437 im_X11_layNow se_X11_layNow dX11_run_20 (fun v he => ok_X11_layNow hN  he) rfl (is_81 hN) ⟨_, _, rfl⟩ (by decide) (Nat.le_of_ble_eq_true rfl) ⟨by decide, by decide⟩ rfl (fun _ m5 h => ?_)
      refine q_aload_n (M := md_X11_run) (pc := 23) dX11_run_23 rfl (by decide) ?_
      refine e_callVv (M := md_X11_run) (pc := 24) (d' := 7) (av := []) (c := 81) h ml_11_458 im_X11_layRun se_X11_layRun dX11_run_24 (fun v he => ok_X11_layRun hN  he) rfl (is_81 hN) ⟨_, _, rfl⟩ (by decide) (Nat.le_of_ble_eq_true rfl) ⟨by decide, by decide⟩ rfl (fun _ m6 h => ?_)
      refine q_aload_n (M := md_X11_run) (pc := 27) dX11_run_27 rfl (by decide) ?_
      refine q_getP (M := md_X11_run) (pc := 28) (v := 111) fl_11_103 dX11_run_28 (is_81 hN) rfl ?_
      refine q_bipush (M := md_X11_run) (pc := 31) (x := 100) dX11_run_31 (by decide) ?_
      refine q_iload_n (M := md_X11_run) (pc := 33) dX11_run_33 rfl ?_
      refine q_imul (M := md_X11_run) (pc := 34) dX11_run_34 ?_
      refine q_bipush (M := md_X11_run) (pc := 35) (x := 10) dX11_run_35 (by decide) ?_
      refine q_iload_n (M := md_X11_run) (pc := 37) dX11_run_37 rfl ?_
      refine q_imul (M := md_X11_run) (pc := 38) dX11_run_38 ?_
      refine q_iadd (M := md_X11_run) (pc := 39) dX11_run_39 ?_
      refine q_iload_n (M := md_X11_run) (pc := 40) dX11_run_40 rfl ?_
      refine q_iadd (M := md_X11_run) (pc := 41) dX11_run_41 ?_
      refine e_rd (M := md_X11_run) (pc := 42) h dX11_run_42 (ar_111 hN) (fun v7 h => ?_)
      exact e_iret (M := md_X11_run) (pc := 43) h rfl dX11_run_43
    · refine q_iconst (M := md_X11_run) (pc := 17) dX11_run_17 ?_
      exact e_iret (M := md_X11_run) (pc := 18) h rfl dX11_run_18
def f_Mod_isWrong_b21 (k21 : Int → Int → q_Mem → q_Res) (l1 l2 : Int) (m : q_Mem) : q_Res :=
  q_bd (f_Mod_many m) fun v1 m2 =>
  if q_w v1 ≤ q_w l2 then (q_rz 0 m2)
  else (q_rd m2 111 300 ((100 * l2) + l1) fun v3 =>
  q_rd m2 110 300 ((100 * l2) + l1) fun v4 =>
  if q_w v3 = q_w v4 then (k21 l1 (l2 + 1) m2)
  else (q_rz 1 m2))
set_option maxRecDepth 20000 in
theorem w_Mod_isWrong_b21 {k21 : Int → Int → q_Mem → q_Res} {l1 l2 : Int} {r : Int × q_Mem} {m : q_Mem} {N : Nat} (hN : 126 ≤ N) (hk21 : ∀ (l1 l2 : Int) (m : q_Mem), k21 l1 l2 m = some r → q_E md_X11_isWrong 4 N (some 0) r m 21 [q_A 81, q_I l1, q_I l2] []) (h : f_Mod_isWrong_b21 k21 l1 l2 m = some r) : q_E md_X11_isWrong 4 N (some 0) r m 21 [q_A 81, q_I l1, q_I l2] [] := by
  unfold f_Mod_isWrong_b21 at h
  refine q_iload_n (M := md_X11_isWrong) (pc := 21) dX11_isWrong_21 rfl ?_
  refine q_aload_n (M := md_X11_isWrong) (pc := 22) dX11_isWrong_22 rfl (by decide) ?_
  refine e_callVi (M := md_X11_isWrong) (pc := 23) (d' := 1) (av := []) (c := 81) h ml_11_315 im_X11_many se_X11_many dX11_isWrong_23 (fun v he => ok_X11_many hN  he) rfl (is_81 hN) ⟨_, _, rfl⟩ (by decide) (Nat.le_of_ble_eq_true rfl) ⟨by decide, by decide⟩ rfl (fun v1 m2 h => ?_)
  refine e_icmp_ge (M := md_X11_isWrong) (pc := 26) (tgt := 62) h rfl rfl dX11_isWrong_26 (by decide) (fun h => ?_) (fun h => ?_)
  · refine q_iconst (M := md_X11_isWrong) (pc := 62) dX11_isWrong_62 ?_
    exact e_zret (M := md_X11_isWrong) (pc := 63) h rfl dX11_isWrong_63
  · refine q_aload_n (M := md_X11_isWrong) (pc := 29) dX11_isWrong_29 rfl (by decide) ?_
    refine q_getP (M := md_X11_isWrong) (pc := 30) (v := 111) fl_11_103 dX11_isWrong_30 (is_81 hN) rfl ?_
    refine q_bipush (M := md_X11_isWrong) (pc := 33) (x := 100) dX11_isWrong_33 (by decide) ?_
    refine q_iload_n (M := md_X11_isWrong) (pc := 35) dX11_isWrong_35 rfl ?_
    refine q_imul (M := md_X11_isWrong) (pc := 36) dX11_isWrong_36 ?_
    refine q_iload_n (M := md_X11_isWrong) (pc := 37) dX11_isWrong_37 rfl ?_
    refine q_iadd (M := md_X11_isWrong) (pc := 38) dX11_isWrong_38 ?_
    refine e_rd (M := md_X11_isWrong) (pc := 39) h dX11_isWrong_39 (ar_111 hN) (fun v3 h => ?_)
    refine q_aload_n (M := md_X11_isWrong) (pc := 40) dX11_isWrong_40 rfl (by decide) ?_
    refine q_getP (M := md_X11_isWrong) (pc := 41) (v := 110) fl_11_100 dX11_isWrong_41 (is_81 hN) rfl ?_
    refine q_bipush (M := md_X11_isWrong) (pc := 44) (x := 100) dX11_isWrong_44 (by decide) ?_
    refine q_iload_n (M := md_X11_isWrong) (pc := 46) dX11_isWrong_46 rfl ?_
    refine q_imul (M := md_X11_isWrong) (pc := 47) dX11_isWrong_47 ?_
    refine q_iload_n (M := md_X11_isWrong) (pc := 48) dX11_isWrong_48 rfl ?_
    refine q_iadd (M := md_X11_isWrong) (pc := 49) dX11_isWrong_49 ?_
    refine e_rd (M := md_X11_isWrong) (pc := 50) h dX11_isWrong_50 (ar_110 hN) (fun v4 h => ?_)
    refine e_icmp_eq (M := md_X11_isWrong) (pc := 51) (tgt := 56) h rfl rfl dX11_isWrong_51 (by decide) (fun h => ?_) (fun h => ?_)
    · refine e_inc (M := md_X11_isWrong) (pc := 56) (x := l2) (ls' := [q_A 81, q_I l1, q_I (l2 + 1)]) dX11_isWrong_56 rfl (by decide) (q_pl rfl) rfl ?_
      refine q_goto (M := md_X11_isWrong) (pc := 59) (tgt := 21) dX11_isWrong_59 (by decide) ?_
      exact q_weak (hk21 _ _ _  h) ⟨Or.inr rfl, Or.inr rfl, Or.inr rfl, trivial⟩
    · refine q_iconst (M := md_X11_isWrong) (pc := 54) dX11_isWrong_54 ?_
      exact e_zret (M := md_X11_isWrong) (pc := 55) h rfl dX11_isWrong_55
def f_Mod_isWrong_l21 : Nat → Int → Int → q_Mem → q_Res
  | 0 => fun _ _ _ => none
  | n + 1 => fun l1 l2 m => f_Mod_isWrong_b21 (f_Mod_isWrong_l21 n) l1 l2 m
theorem w_Mod_isWrong_l21 {r : Int × q_Mem} {N : Nat} (hN : 126 ≤ N) : ∀ (n : Nat) (l1 l2 : Int) (m : q_Mem), f_Mod_isWrong_l21 n l1 l2 m = some r → q_E md_X11_isWrong 4 N (some 0) r m 21 [q_A 81, q_I l1, q_I l2] [] := by
  intro n
  induction n with
  | zero => intro l1 l2 m h; exact q_no h
  | succ n ih =>
    intro l1 l2 m h
    exact w_Mod_isWrong_b21 hN (fun l1 l2 m h => ih l1 l2 m h) h
def f_Mod_isWrong (l1 : Int) (m : q_Mem) : q_Res :=
  q_bd (f_Mod_isThere l1 m) fun v1 m2 =>
  if q_w v1 = 0 then (q_rz 0 m2)
  else (q_rd m2 106 100 l1 fun v3 =>
  if 0 ≤ q_w v3 then (f_Mod_isWrong_l21 q_F l1 0 m2)
  else (q_rz 0 m2))
set_option maxRecDepth 20000 in
theorem ok_X11_isWrong {l1 : Int} {r : Int × q_Mem} {m : q_Mem} {N : Nat} (hN : 126 ≤ N) (h : f_Mod_isWrong l1 m = some r) : q_C md_X11_isWrong (q_room 4) 0 0 [q_A 81, q_I l1] (q_g N) m (some (q_I r.1), q_g N, r.2) := by
  refine q_ofR (by decide) 1 (ls := [q_A 81, q_I l1, q_N]) rfl (Nat.le_of_ble_eq_true rfl) ?_
  change q_E md_X11_isWrong 4 N (some 0) r m 0 [q_A 81, q_I l1, q_N] []
  unfold f_Mod_isWrong at h
  refine q_aload_n (M := md_X11_isWrong) (pc := 0) dX11_isWrong_0 rfl (by decide) ?_
  refine q_iload_n (M := md_X11_isWrong) (pc := 1) dX11_isWrong_1 rfl ?_
  refine e_callVi (M := md_X11_isWrong) (pc := 2) (d' := 3) (av := [q_I l1]) (c := 81) h ml_11_333 im_X11_isThere se_X11_isThere dX11_isWrong_2 (fun v he => ok_X11_isThere hN  he) rfl (is_81 hN) ⟨_, _, rfl⟩ (by decide) (Nat.le_of_ble_eq_true rfl) ⟨by decide, by decide⟩ rfl (fun v1 m2 h => ?_)
  refine e_if_eq (M := md_X11_isWrong) (pc := 5) (tgt := 17) h rfl dX11_isWrong_5 (by decide) (fun h => ?_) (fun h => ?_)
  · refine q_iconst (M := md_X11_isWrong) (pc := 17) dX11_isWrong_17 ?_
    exact e_zret (M := md_X11_isWrong) (pc := 18) h rfl dX11_isWrong_18
  · refine q_aload_n (M := md_X11_isWrong) (pc := 8) dX11_isWrong_8 rfl (by decide) ?_
    refine q_getP (M := md_X11_isWrong) (pc := 9) (v := 106) fl_11_87 dX11_isWrong_9 (is_81 hN) rfl ?_
    refine q_iload_n (M := md_X11_isWrong) (pc := 12) dX11_isWrong_12 rfl ?_
    refine e_rd (M := md_X11_isWrong) (pc := 13) h dX11_isWrong_13 (ar_106 hN) (fun v3 h => ?_)
    refine e_if_ge (M := md_X11_isWrong) (pc := 14) (tgt := 19) h rfl dX11_isWrong_14 (by decide) (fun h => ?_) (fun h => ?_)
    · refine q_iconst (M := md_X11_isWrong) (pc := 19) dX11_isWrong_19 ?_
      refine e_ist_n (M := md_X11_isWrong) (pc := 20) (ls' := [q_A 81, q_I l1, q_I 0]) dX11_isWrong_20 (by decide) (q_pl rfl) rfl ?_
      exact q_weak (w_Mod_isWrong_l21 hN q_F _ _ _  h) ⟨Or.inr rfl, Or.inr rfl, Or.inr rfl, trivial⟩
    · refine q_iconst (M := md_X11_isWrong) (pc := 17) dX11_isWrong_17 ?_
      exact e_zret (M := md_X11_isWrong) (pc := 18) h rfl dX11_isWrong_18
def f_Mod_wrongMany_b36 (k16 : Int → Int → q_Mem → q_Res) (l2 s0 s1 : Int) (m : q_Mem) : q_Res :=
  k16 (s0 + s1) (l2 + 1) m
set_option maxRecDepth 20000 in
theorem w_Mod_wrongMany_b36 {k16 : Int → Int → q_Mem → q_Res} {l2 s0 s1 : Int} {r : Int × q_Mem} {m : q_Mem} {N : Nat} (hN : 126 ≤ N) (hk16 : ∀ (l1 l2 : Int) (m : q_Mem), k16 l1 l2 m = some r → q_E md_X11_wrongMany 8 N (some 0) r m 16 [q_A 81, q_I l1, q_I l2] []) (h : f_Mod_wrongMany_b36 k16 l2 s0 s1 m = some r) : q_E md_X11_wrongMany 8 N (some 0) r m 36 [q_A 81, q_N, q_I l2] [q_I s1, q_I s0] := by
  unfold f_Mod_wrongMany_b36 at h
  refine q_iadd (M := md_X11_wrongMany) (pc := 36) dX11_wrongMany_36 ?_
  refine e_ist_n (M := md_X11_wrongMany) (pc := 37) (ls' := [q_A 81, q_I (s0 + s1), q_I l2]) dX11_wrongMany_37 (by decide) (q_pl rfl) rfl ?_
  refine e_inc (M := md_X11_wrongMany) (pc := 38) (x := l2) (ls' := [q_A 81, q_I (s0 + s1), q_I (l2 + 1)]) dX11_wrongMany_38 rfl (by decide) (q_pl rfl) rfl ?_
  refine q_goto (M := md_X11_wrongMany) (pc := 41) (tgt := 16) dX11_wrongMany_41 (by decide) ?_
  exact q_weak (hk16 _ _ _  h) ⟨Or.inr rfl, Or.inr rfl, Or.inr rfl, trivial⟩
def f_Mod_wrongMany_b16 (k16 : Int → Int → q_Mem → q_Res) (l1 l2 : Int) (m : q_Mem) : q_Res :=
  if 100 ≤ q_w l2 then (q_rt l1 m)
  else (q_bd (f_Mod_isWrong l2 m) fun v1 m2 =>
  if q_w v1 = 0 then (f_Mod_wrongMany_b36 k16 l2 l1 0 m2)
  else (f_Mod_wrongMany_b36 k16 l2 l1 1 m2))
set_option maxRecDepth 20000 in
theorem w_Mod_wrongMany_b16 {k16 : Int → Int → q_Mem → q_Res} {l1 l2 : Int} {r : Int × q_Mem} {m : q_Mem} {N : Nat} (hN : 126 ≤ N) (hk16 : ∀ (l1 l2 : Int) (m : q_Mem), k16 l1 l2 m = some r → q_E md_X11_wrongMany 8 N (some 0) r m 16 [q_A 81, q_I l1, q_I l2] []) (h : f_Mod_wrongMany_b16 k16 l1 l2 m = some r) : q_E md_X11_wrongMany 8 N (some 0) r m 16 [q_A 81, q_I l1, q_I l2] [] := by
  unfold f_Mod_wrongMany_b16 at h
  refine q_iload_n (M := md_X11_wrongMany) (pc := 16) dX11_wrongMany_16 rfl ?_
  refine q_bipush (M := md_X11_wrongMany) (pc := 17) (x := 100) dX11_wrongMany_17 (by decide) ?_
  refine e_icmp_ge (M := md_X11_wrongMany) (pc := 19) (tgt := 44) h rfl (q_wlit rfl) dX11_wrongMany_19 (by decide) (fun h => ?_) (fun h => ?_)
  · refine q_iload_n (M := md_X11_wrongMany) (pc := 44) dX11_wrongMany_44 rfl ?_
    exact e_iret (M := md_X11_wrongMany) (pc := 45) h rfl dX11_wrongMany_45
  · refine q_iload_n (M := md_X11_wrongMany) (pc := 22) dX11_wrongMany_22 rfl ?_
    refine q_aload_n (M := md_X11_wrongMany) (pc := 23) dX11_wrongMany_23 rfl (by decide) ?_
    refine q_iload_n (M := md_X11_wrongMany) (pc := 24) dX11_wrongMany_24 rfl ?_
    refine e_callVi (M := md_X11_wrongMany) (pc := 25) (d' := 4) (av := [q_I l2]) (c := 81) h ml_11_461 im_X11_isWrong se_X11_isWrong dX11_wrongMany_25 (fun v he => ok_X11_isWrong hN  he) rfl (is_81 hN) ⟨_, _, rfl⟩ (by decide) (Nat.le_of_ble_eq_true rfl) ⟨by decide, by decide⟩ rfl (fun v1 m2 h => ?_)
    refine e_if_eq (M := md_X11_wrongMany) (pc := 28) (tgt := 35) h rfl dX11_wrongMany_28 (by decide) (fun h => ?_) (fun h => ?_)
    · refine q_iconst (M := md_X11_wrongMany) (pc := 35) dX11_wrongMany_35 ?_
      exact q_weak (w_Mod_wrongMany_b36 hN hk16  h) ⟨Or.inr rfl, Or.inl rfl, Or.inr rfl, trivial⟩
    · refine q_iconst (M := md_X11_wrongMany) (pc := 31) dX11_wrongMany_31 ?_
      refine q_goto (M := md_X11_wrongMany) (pc := 32) (tgt := 36) dX11_wrongMany_32 (by decide) ?_
      exact q_weak (w_Mod_wrongMany_b36 hN hk16  h) ⟨Or.inr rfl, Or.inl rfl, Or.inr rfl, trivial⟩
def f_Mod_wrongMany_l16 : Nat → Int → Int → q_Mem → q_Res
  | 0 => fun _ _ _ => none
  | n + 1 => fun l1 l2 m => f_Mod_wrongMany_b16 (f_Mod_wrongMany_l16 n) l1 l2 m
theorem w_Mod_wrongMany_l16 {r : Int × q_Mem} {N : Nat} (hN : 126 ≤ N) : ∀ (n : Nat) (l1 l2 : Int) (m : q_Mem), f_Mod_wrongMany_l16 n l1 l2 m = some r → q_E md_X11_wrongMany 8 N (some 0) r m 16 [q_A 81, q_I l1, q_I l2] [] := by
  intro n
  induction n with
  | zero => intro l1 l2 m h; exact q_no h
  | succ n ih =>
    intro l1 l2 m h
    exact w_Mod_wrongMany_b16 hN (fun l1 l2 m h => ih l1 l2 m h) h
def f_Mod_wrongMany (m : q_Mem) : q_Res :=
  q_bd (f_Mod_layNow m) fun _ m1 =>
  q_bd (f_Mod_layRun m1) fun _ m2 =>
  q_bd (f_Mod_layValues m2) fun _ m3 =>
  f_Mod_wrongMany_l16 q_F 0 0 m3
set_option maxRecDepth 20000 in
theorem ok_X11_wrongMany {r : Int × q_Mem} {m : q_Mem} {N : Nat} (hN : 126 ≤ N) (h : f_Mod_wrongMany m = some r) : q_C md_X11_wrongMany (q_room 8) 0 0 [q_A 81] (q_g N) m (some (q_I r.1), q_g N, r.2) := by
  refine q_ofR (by decide) 2 (ls := [q_A 81, q_N, q_N]) rfl (Nat.le_of_ble_eq_true rfl) ?_
  change q_E md_X11_wrongMany 8 N (some 0) r m 0 [q_A 81, q_N, q_N] []
  unfold f_Mod_wrongMany at h
  refine q_aload_n (M := md_X11_wrongMany) (pc := 0) dX11_wrongMany_0 rfl (by decide) ?_
  refine e_callVv (M := md_X11_wrongMany) (pc := 1) (d' := 6) (av := []) (c := 81) h ml_11_437 im_X11_layNow se_X11_layNow dX11_wrongMany_1 (fun v he => ok_X11_layNow hN  he) rfl (is_81 hN) ⟨_, _, rfl⟩ (by decide) (Nat.le_of_ble_eq_true rfl) ⟨by decide, by decide⟩ rfl (fun _ m1 h => ?_)
  refine q_aload_n (M := md_X11_wrongMany) (pc := 4) dX11_wrongMany_4 rfl (by decide) ?_
  refine e_callVv (M := md_X11_wrongMany) (pc := 5) (d' := 7) (av := []) (c := 81) h ml_11_458 im_X11_layRun se_X11_layRun dX11_wrongMany_5 (fun v he => ok_X11_layRun hN  he) rfl (is_81 hN) ⟨_, _, rfl⟩ (by decide) (Nat.le_of_ble_eq_true rfl) ⟨by decide, by decide⟩ rfl (fun _ m2 h => ?_)
  refine q_aload_n (M := md_X11_wrongMany) (pc := 8) dX11_wrongMany_8 rfl (by decide) ?_
  refine e_callVv (M := md_X11_wrongMany) (pc := 9) (d' := 7) (av := []) (c := 81) h ml_11_399 im_X11_layValues se_X11_layValues dX11_wrongMany_9 (fun v he => ok_X11_layValues hN  he) rfl (is_81 hN) ⟨_, _, rfl⟩ (by decide) (Nat.le_of_ble_eq_true rfl) ⟨by decide, by decide⟩ rfl (fun _ m3 h => ?_)
  refine q_iconst (M := md_X11_wrongMany) (pc := 12) dX11_wrongMany_12 ?_
  refine e_ist_n (M := md_X11_wrongMany) (pc := 13) (ls' := [q_A 81, q_I 0, q_N]) dX11_wrongMany_13 (by decide) (q_pl rfl) rfl ?_
  refine q_iconst (M := md_X11_wrongMany) (pc := 14) dX11_wrongMany_14 ?_
  refine e_ist_n (M := md_X11_wrongMany) (pc := 15) (ls' := [q_A 81, q_I 0, q_I 0]) dX11_wrongMany_15 (by decide) (q_pl rfl) rfl ?_
  exact q_weak (w_Mod_wrongMany_l16 hN q_F _ _ _  h) ⟨Or.inr rfl, Or.inr rfl, Or.inr rfl, trivial⟩
def f_Mod_wrong (m : q_Mem) : q_Res :=
  q_bd (f_Mod_wrongMany m) fun v1 m2 =>
  q_rt v1 m2
set_option maxRecDepth 20000 in
theorem ok_X11_wrong {r : Int × q_Mem} {m : q_Mem} {N : Nat} (hN : 126 ≤ N) (h : f_Mod_wrong m = some r) : q_C md_X11_wrong (q_room 9) 0 0 [q_A 81] (q_g N) m (some (q_I r.1), q_g N, r.2) := by
  refine q_ofR (by decide) 0 (ls := [q_A 81]) rfl (Nat.le_of_ble_eq_true rfl) ?_
  change q_E md_X11_wrong 9 N (some 0) r m 0 [q_A 81] []
  unfold f_Mod_wrong at h
  refine q_aload_n (M := md_X11_wrong) (pc := 0) dX11_wrong_0 rfl (by decide) ?_
  refine e_callVi (M := md_X11_wrong) (pc := 1) (d' := 8) (av := []) (c := 81) h ml_11_464 im_X11_wrongMany se_X11_wrongMany dX11_wrong_1 (fun v he => ok_X11_wrongMany hN  he) rfl (is_81 hN) ⟨_, _, rfl⟩ (by decide) (Nat.le_of_ble_eq_true rfl) ⟨by decide, by decide⟩ rfl (fun v1 m2 h => ?_)
  exact e_iret (M := md_X11_wrong) (pc := 4) h rfl dX11_wrong_4
def f_Mod_wrongAt_b52 (k26 : Int → Int → q_Mem → q_Res) (l3 s0 s1 : Int) (m : q_Mem) : q_Res :=
  k26 (s0 - s1) (l3 + 1) m
set_option maxRecDepth 20000 in
theorem w_Mod_wrongAt_b52 {k26 : Int → Int → q_Mem → q_Res} {l3 s0 s1 : Int} {r : Int × q_Mem} {m : q_Mem} {N : Nat} (hN : 126 ≤ N) (hk26 : ∀ (l2 l3 : Int) (m : q_Mem), k26 l2 l3 m = some r → q_E md_X11_wrongAt 9 N (some 0) r m 26 [q_A 81, q_N, q_I l2, q_I l3] []) (h : f_Mod_wrongAt_b52 k26 l3 s0 s1 m = some r) : q_E md_X11_wrongAt 9 N (some 0) r m 52 [q_A 81, q_N, q_N, q_I l3] [q_I s1, q_I s0] := by
  unfold f_Mod_wrongAt_b52 at h
  refine q_isub (M := md_X11_wrongAt) (pc := 52) dX11_wrongAt_52 ?_
  refine e_ist_n (M := md_X11_wrongAt) (pc := 53) (ls' := [q_A 81, q_N, q_I (s0 - s1), q_I l3]) dX11_wrongAt_53 (by decide) (q_pl rfl) rfl ?_
  refine e_inc (M := md_X11_wrongAt) (pc := 54) (x := l3) (ls' := [q_A 81, q_N, q_I (s0 - s1), q_I (l3 + 1)]) dX11_wrongAt_54 rfl (by decide) (q_pl rfl) rfl ?_
  refine q_goto (M := md_X11_wrongAt) (pc := 57) (tgt := 26) dX11_wrongAt_57 (by decide) ?_
  exact q_weak (hk26 _ _ _  h) ⟨Or.inr rfl, Or.inl rfl, Or.inr rfl, Or.inr rfl, trivial⟩
def f_Mod_wrongAt_b38 (k26 : Int → Int → q_Mem → q_Res) (l2 l3 : Int) (m : q_Mem) : q_Res :=
  q_bd (f_Mod_isWrong l3 m) fun v1 m2 =>
  if q_w v1 = 0 then (f_Mod_wrongAt_b52 k26 l3 l2 0 m2)
  else (f_Mod_wrongAt_b52 k26 l3 l2 1 m2)
set_option maxRecDepth 20000 in
theorem w_Mod_wrongAt_b38 {k26 : Int → Int → q_Mem → q_Res} {l2 l3 : Int} {r : Int × q_Mem} {m : q_Mem} {N : Nat} (hN : 126 ≤ N) (hk26 : ∀ (l2 l3 : Int) (m : q_Mem), k26 l2 l3 m = some r → q_E md_X11_wrongAt 9 N (some 0) r m 26 [q_A 81, q_N, q_I l2, q_I l3] []) (h : f_Mod_wrongAt_b38 k26 l2 l3 m = some r) : q_E md_X11_wrongAt 9 N (some 0) r m 38 [q_A 81, q_N, q_I l2, q_I l3] [] := by
  unfold f_Mod_wrongAt_b38 at h
  refine q_iload_n (M := md_X11_wrongAt) (pc := 38) dX11_wrongAt_38 rfl ?_
  refine q_aload_n (M := md_X11_wrongAt) (pc := 39) dX11_wrongAt_39 rfl (by decide) ?_
  refine q_iload_n (M := md_X11_wrongAt) (pc := 40) dX11_wrongAt_40 rfl ?_
  refine e_callVi (M := md_X11_wrongAt) (pc := 41) (d' := 4) (av := [q_I l3]) (c := 81) h ml_11_461 im_X11_isWrong se_X11_isWrong dX11_wrongAt_41 (fun v he => ok_X11_isWrong hN  he) rfl (is_81 hN) ⟨_, _, rfl⟩ (by decide) (Nat.le_of_ble_eq_true rfl) ⟨by decide, by decide⟩ rfl (fun v1 m2 h => ?_)
  refine e_if_eq (M := md_X11_wrongAt) (pc := 44) (tgt := 51) h rfl dX11_wrongAt_44 (by decide) (fun h => ?_) (fun h => ?_)
  · refine q_iconst (M := md_X11_wrongAt) (pc := 51) dX11_wrongAt_51 ?_
    exact q_weak (w_Mod_wrongAt_b52 hN hk26  h) ⟨Or.inr rfl, Or.inl rfl, Or.inl rfl, Or.inr rfl, trivial⟩
  · refine q_iconst (M := md_X11_wrongAt) (pc := 47) dX11_wrongAt_47 ?_
    refine q_goto (M := md_X11_wrongAt) (pc := 48) (tgt := 52) dX11_wrongAt_48 (by decide) ?_
    exact q_weak (w_Mod_wrongAt_b52 hN hk26  h) ⟨Or.inr rfl, Or.inl rfl, Or.inl rfl, Or.inr rfl, trivial⟩
def f_Mod_wrongAt_b26 (k26 : Int → Int → q_Mem → q_Res) (l2 l3 : Int) (m : q_Mem) : q_Res :=
  q_bd (f_Mod_isWrong l3 m) fun v1 m2 =>
  if q_w v1 = 0 then (f_Mod_wrongAt_b38 k26 l2 l3 m2)
  else (if q_w l2 ≤ 0 then (q_rt l3 m2)
  else (f_Mod_wrongAt_b38 k26 l2 l3 m2))
set_option maxRecDepth 20000 in
theorem w_Mod_wrongAt_b26 {k26 : Int → Int → q_Mem → q_Res} {l2 l3 : Int} {r : Int × q_Mem} {m : q_Mem} {N : Nat} (hN : 126 ≤ N) (hk26 : ∀ (l2 l3 : Int) (m : q_Mem), k26 l2 l3 m = some r → q_E md_X11_wrongAt 9 N (some 0) r m 26 [q_A 81, q_N, q_I l2, q_I l3] []) (h : f_Mod_wrongAt_b26 k26 l2 l3 m = some r) : q_E md_X11_wrongAt 9 N (some 0) r m 26 [q_A 81, q_N, q_I l2, q_I l3] [] := by
  unfold f_Mod_wrongAt_b26 at h
  refine q_aload_n (M := md_X11_wrongAt) (pc := 26) dX11_wrongAt_26 rfl (by decide) ?_
  refine q_iload_n (M := md_X11_wrongAt) (pc := 27) dX11_wrongAt_27 rfl ?_
  refine e_callVi (M := md_X11_wrongAt) (pc := 28) (d' := 4) (av := [q_I l3]) (c := 81) h ml_11_461 im_X11_isWrong se_X11_isWrong dX11_wrongAt_28 (fun v he => ok_X11_isWrong hN  he) rfl (is_81 hN) ⟨_, _, rfl⟩ (by decide) (Nat.le_of_ble_eq_true rfl) ⟨by decide, by decide⟩ rfl (fun v1 m2 h => ?_)
  refine e_if_eq (M := md_X11_wrongAt) (pc := 31) (tgt := 38) h rfl dX11_wrongAt_31 (by decide) (fun h => ?_) (fun h => ?_)
  · exact q_weak (w_Mod_wrongAt_b38 hN hk26  h) ⟨Or.inr rfl, Or.inl rfl, Or.inr rfl, Or.inr rfl, trivial⟩
  · refine q_iload_n (M := md_X11_wrongAt) (pc := 34) dX11_wrongAt_34 rfl ?_
    refine e_if_le (M := md_X11_wrongAt) (pc := 35) (tgt := 60) h rfl dX11_wrongAt_35 (by decide) (fun h => ?_) (fun h => ?_)
    · refine q_iload_n (M := md_X11_wrongAt) (pc := 60) dX11_wrongAt_60 rfl ?_
      exact e_iret (M := md_X11_wrongAt) (pc := 61) h rfl dX11_wrongAt_61
    · exact q_weak (w_Mod_wrongAt_b38 hN hk26  h) ⟨Or.inr rfl, Or.inl rfl, Or.inr rfl, Or.inr rfl, trivial⟩
def f_Mod_wrongAt_l26 : Nat → Int → Int → q_Mem → q_Res
  | 0 => fun _ _ _ => none
  | n + 1 => fun l2 l3 m => f_Mod_wrongAt_b26 (f_Mod_wrongAt_l26 n) l2 l3 m
theorem w_Mod_wrongAt_l26 {r : Int × q_Mem} {N : Nat} (hN : 126 ≤ N) : ∀ (n : Nat) (l2 l3 : Int) (m : q_Mem), f_Mod_wrongAt_l26 n l2 l3 m = some r → q_E md_X11_wrongAt 9 N (some 0) r m 26 [q_A 81, q_N, q_I l2, q_I l3] [] := by
  intro n
  induction n with
  | zero => intro l2 l3 m h; exact q_no h
  | succ n ih =>
    intro l2 l3 m h
    exact w_Mod_wrongAt_b26 hN (fun l2 l3 m h => ih l2 l3 m h) h
def f_Mod_wrongAt_b17 (s0 : Int) (m : q_Mem) : q_Res :=
  if 0 ≤ q_w s0 then (f_Mod_wrongAt_l26 q_F s0 0 m)
  else (q_rt (-1) m)
set_option maxRecDepth 20000 in
theorem w_Mod_wrongAt_b17 {s0 : Int} {r : Int × q_Mem} {m : q_Mem} {N : Nat} (hN : 126 ≤ N) (h : f_Mod_wrongAt_b17 s0 m = some r) : q_E md_X11_wrongAt 9 N (some 0) r m 17 [q_A 81, q_N, q_N, q_N] [q_I s0] := by
  unfold f_Mod_wrongAt_b17 at h
  refine e_ist_n (M := md_X11_wrongAt) (pc := 17) (ls' := [q_A 81, q_N, q_I s0, q_N]) dX11_wrongAt_17 (by decide) (q_pl rfl) rfl ?_
  refine q_iload_n (M := md_X11_wrongAt) (pc := 18) dX11_wrongAt_18 rfl ?_
  refine e_if_ge (M := md_X11_wrongAt) (pc := 19) (tgt := 24) h rfl dX11_wrongAt_19 (by decide) (fun h => ?_) (fun h => ?_)
  · refine q_iconst (M := md_X11_wrongAt) (pc := 24) dX11_wrongAt_24 ?_
    refine e_ist_n (M := md_X11_wrongAt) (pc := 25) (ls' := [q_A 81, q_N, q_I s0, q_I 0]) dX11_wrongAt_25 (by decide) (q_pl rfl) rfl ?_
    exact q_weak (w_Mod_wrongAt_l26 hN q_F _ _ _  h) ⟨Or.inr rfl, Or.inl rfl, Or.inr rfl, Or.inr rfl, trivial⟩
  · refine q_iconst (M := md_X11_wrongAt) (pc := 22) dX11_wrongAt_22 ?_
    exact e_iret (M := md_X11_wrongAt) (pc := 23) h rfl dX11_wrongAt_23
def f_Mod_wrongAt_b16 (m : q_Mem) : q_Res :=
  f_Mod_wrongAt_b17 (-1) m
set_option maxRecDepth 20000 in
theorem w_Mod_wrongAt_b16 {r : Int × q_Mem} {m : q_Mem} {N : Nat} (hN : 126 ≤ N) (h : f_Mod_wrongAt_b16 m = some r) : q_E md_X11_wrongAt 9 N (some 0) r m 16 [q_A 81, q_N, q_N, q_N] [] := by
  unfold f_Mod_wrongAt_b16 at h
  refine q_iconst (M := md_X11_wrongAt) (pc := 16) dX11_wrongAt_16 ?_
  exact q_weak (w_Mod_wrongAt_b17 hN  h) ⟨Or.inr rfl, Or.inl rfl, Or.inl rfl, Or.inl rfl, trivial⟩
def f_Mod_wrongAt (l1 : Int) (m : q_Mem) : q_Res :=
  q_bd (f_Mod_wrongMany m) fun v1 m2 =>
  if q_w v1 ≤ q_w l1 then (f_Mod_wrongAt_b16 m2)
  else (if q_w l1 < 0 then (f_Mod_wrongAt_b16 m2)
  else (f_Mod_wrongAt_b17 l1 m2))
set_option maxRecDepth 20000 in
theorem ok_X11_wrongAt {l1 : Int} {r : Int × q_Mem} {m : q_Mem} {N : Nat} (hN : 126 ≤ N) (h : f_Mod_wrongAt l1 m = some r) : q_C md_X11_wrongAt (q_room 9) 0 0 [q_A 81, q_I l1] (q_g N) m (some (q_I r.1), q_g N, r.2) := by
  refine q_ofR (by decide) 2 (ls := [q_A 81, q_I l1, q_N, q_N]) rfl (Nat.le_of_ble_eq_true rfl) ?_
  change q_E md_X11_wrongAt 9 N (some 0) r m 0 [q_A 81, q_I l1, q_N, q_N] []
  unfold f_Mod_wrongAt at h
  refine q_aload_n (M := md_X11_wrongAt) (pc := 0) dX11_wrongAt_0 rfl (by decide) ?_
  refine e_callVi (M := md_X11_wrongAt) (pc := 1) (d' := 8) (av := []) (c := 81) h ml_11_464 im_X11_wrongMany se_X11_wrongMany dX11_wrongAt_1 (fun v he => ok_X11_wrongMany hN  he) rfl (is_81 hN) ⟨_, _, rfl⟩ (by decide) (Nat.le_of_ble_eq_true rfl) ⟨by decide, by decide⟩ rfl (fun v1 m2 h => ?_)
  refine q_iload_n (M := md_X11_wrongAt) (pc := 4) dX11_wrongAt_4 rfl ?_
  refine e_icmp_le (M := md_X11_wrongAt) (pc := 5) (tgt := 16) h rfl rfl dX11_wrongAt_5 (by decide) (fun h => ?_) (fun h => ?_)
  · exact q_weak (w_Mod_wrongAt_b16 hN  h) ⟨Or.inr rfl, Or.inl rfl, Or.inl rfl, Or.inl rfl, trivial⟩
  · refine q_iload_n (M := md_X11_wrongAt) (pc := 8) dX11_wrongAt_8 rfl ?_
    refine e_if_lt (M := md_X11_wrongAt) (pc := 9) (tgt := 16) h rfl dX11_wrongAt_9 (by decide) (fun h => ?_) (fun h => ?_)
    · exact q_weak (w_Mod_wrongAt_b16 hN  h) ⟨Or.inr rfl, Or.inl rfl, Or.inl rfl, Or.inl rfl, trivial⟩
    · refine q_iload_n (M := md_X11_wrongAt) (pc := 12) dX11_wrongAt_12 rfl ?_
      refine q_goto (M := md_X11_wrongAt) (pc := 13) (tgt := 17) dX11_wrongAt_13 (by decide) ?_
      exact q_weak (w_Mod_wrongAt_b17 hN  h) ⟨Or.inr rfl, Or.inl rfl, Or.inl rfl, Or.inl rfl, trivial⟩
def f_Mod_brokenMany_b4 (k4 : Int → Int → q_Mem → q_Res) (l1 l2 : Int) (m : q_Mem) : q_Res :=
  if 64 ≤ q_w l2 then (q_rt l1 m)
  else (q_rd m 115 69 (5 + l2) fun v1 =>
  k4 (l1 + v1) (l2 + 1) m)
set_option maxRecDepth 20000 in
theorem w_Mod_brokenMany_b4 {k4 : Int → Int → q_Mem → q_Res} {l1 l2 : Int} {r : Int × q_Mem} {m : q_Mem} {N : Nat} (hN : 126 ≤ N) (hk4 : ∀ (l1 l2 : Int) (m : q_Mem), k4 l1 l2 m = some r → q_E md_X11_brokenMany 1 N (some 0) r m 4 [q_A 81, q_I l1, q_I l2] []) (h : f_Mod_brokenMany_b4 k4 l1 l2 m = some r) : q_E md_X11_brokenMany 1 N (some 0) r m 4 [q_A 81, q_I l1, q_I l2] [] := by
  unfold f_Mod_brokenMany_b4 at h
  refine q_iload_n (M := md_X11_brokenMany) (pc := 4) dX11_brokenMany_4 rfl ?_
  refine q_bipush (M := md_X11_brokenMany) (pc := 5) (x := 64) dX11_brokenMany_5 (by decide) ?_
  refine e_icmp_ge (M := md_X11_brokenMany) (pc := 7) (tgt := 27) h rfl (q_wlit rfl) dX11_brokenMany_7 (by decide) (fun h => ?_) (fun h => ?_)
  · refine q_iload_n (M := md_X11_brokenMany) (pc := 27) dX11_brokenMany_27 rfl ?_
    exact e_iret (M := md_X11_brokenMany) (pc := 28) h rfl dX11_brokenMany_28
  · refine q_iload_n (M := md_X11_brokenMany) (pc := 10) dX11_brokenMany_10 rfl ?_
    refine q_aload_n (M := md_X11_brokenMany) (pc := 11) dX11_brokenMany_11 rfl (by decide) ?_
    refine q_getP (M := md_X11_brokenMany) (pc := 12) (v := 115) fl_11_115 dX11_brokenMany_12 (is_81 hN) rfl ?_
    refine q_iconst (M := md_X11_brokenMany) (pc := 15) dX11_brokenMany_15 ?_
    refine q_iload_n (M := md_X11_brokenMany) (pc := 16) dX11_brokenMany_16 rfl ?_
    refine q_iadd (M := md_X11_brokenMany) (pc := 17) dX11_brokenMany_17 ?_
    refine e_rd (M := md_X11_brokenMany) (pc := 18) h dX11_brokenMany_18 (ar_115 hN) (fun v1 h => ?_)
    refine q_iadd (M := md_X11_brokenMany) (pc := 19) dX11_brokenMany_19 ?_
    refine e_ist_n (M := md_X11_brokenMany) (pc := 20) (ls' := [q_A 81, q_I (l1 + v1), q_I l2]) dX11_brokenMany_20 (by decide) (q_pl rfl) rfl ?_
    refine e_inc (M := md_X11_brokenMany) (pc := 21) (x := l2) (ls' := [q_A 81, q_I (l1 + v1), q_I (l2 + 1)]) dX11_brokenMany_21 rfl (by decide) (q_pl rfl) rfl ?_
    refine q_goto (M := md_X11_brokenMany) (pc := 24) (tgt := 4) dX11_brokenMany_24 (by decide) ?_
    exact q_weak (hk4 _ _ _  h) ⟨Or.inr rfl, Or.inr rfl, Or.inr rfl, trivial⟩
def f_Mod_brokenMany_l4 : Nat → Int → Int → q_Mem → q_Res
  | 0 => fun _ _ _ => none
  | n + 1 => fun l1 l2 m => f_Mod_brokenMany_b4 (f_Mod_brokenMany_l4 n) l1 l2 m
theorem w_Mod_brokenMany_l4 {r : Int × q_Mem} {N : Nat} (hN : 126 ≤ N) : ∀ (n : Nat) (l1 l2 : Int) (m : q_Mem), f_Mod_brokenMany_l4 n l1 l2 m = some r → q_E md_X11_brokenMany 1 N (some 0) r m 4 [q_A 81, q_I l1, q_I l2] [] := by
  intro n
  induction n with
  | zero => intro l1 l2 m h; exact q_no h
  | succ n ih =>
    intro l1 l2 m h
    exact w_Mod_brokenMany_b4 hN (fun l1 l2 m h => ih l1 l2 m h) h
def f_Mod_brokenMany (m : q_Mem) : q_Res :=
  f_Mod_brokenMany_l4 q_F 0 0 m
set_option maxRecDepth 20000 in
theorem ok_X11_brokenMany {r : Int × q_Mem} {m : q_Mem} {N : Nat} (hN : 126 ≤ N) (h : f_Mod_brokenMany m = some r) : q_C md_X11_brokenMany (q_room 1) 0 0 [q_A 81] (q_g N) m (some (q_I r.1), q_g N, r.2) := by
  refine q_ofR (by decide) 2 (ls := [q_A 81, q_N, q_N]) rfl (Nat.le_of_ble_eq_true rfl) ?_
  change q_E md_X11_brokenMany 1 N (some 0) r m 0 [q_A 81, q_N, q_N] []
  unfold f_Mod_brokenMany at h
  refine q_iconst (M := md_X11_brokenMany) (pc := 0) dX11_brokenMany_0 ?_
  refine e_ist_n (M := md_X11_brokenMany) (pc := 1) (ls' := [q_A 81, q_I 0, q_N]) dX11_brokenMany_1 (by decide) (q_pl rfl) rfl ?_
  refine q_iconst (M := md_X11_brokenMany) (pc := 2) dX11_brokenMany_2 ?_
  refine e_ist_n (M := md_X11_brokenMany) (pc := 3) (ls' := [q_A 81, q_I 0, q_I 0]) dX11_brokenMany_3 (by decide) (q_pl rfl) rfl ?_
  exact q_weak (w_Mod_brokenMany_l4 hN q_F _ _ _  h) ⟨Or.inr rfl, Or.inr rfl, Or.inr rfl, trivial⟩
def f_Mod_law (m : q_Mem) : q_Res :=
  q_bd (f_Mod_layNow m) fun _ m1 =>
  q_rd m1 115 69 0 fun v2 =>
  q_rd m1 115 69 1 fun v3 =>
  q_bd (f_Mod_isLawful v2 v3 m1) fun v4 m5 =>
  if q_w v4 = 0 then (q_rt 0 m5)
  else (if 0 < q_w (m5 81 55) then (q_rt 0 m5)
  else (q_bd (f_Mod_brokenMany m5) fun v6 m7 =>
  if q_w v6 ≤ 0 then (q_bd (f_Mod_wrongMany m7) fun v8 m9 =>
  q_bd (f_Mod_unordered m9) fun v10 m11 =>
  q_rt (v8 + v10) m11)
  else (q_rt 0 m7)))
set_option maxRecDepth 20000 in
theorem ok_X11_law {r : Int × q_Mem} {m : q_Mem} {N : Nat} (hN : 126 ≤ N) (h : f_Mod_law m = some r) : q_C md_X11_law (q_room 9) 0 0 [q_A 81] (q_g N) m (some (q_I r.1), q_g N, r.2) := by
  refine q_ofR (by decide) 0 (ls := [q_A 81]) rfl (Nat.le_of_ble_eq_true rfl) ?_
  change q_E md_X11_law 9 N (some 0) r m 0 [q_A 81] []
  unfold f_Mod_law at h
  refine q_aload_n (M := md_X11_law) (pc := 0) dX11_law_0 rfl (by decide) ?_
  refine e_callVv (M := md_X11_law) (pc := 1) (d' := 6) (av := []) (c := 81) h ml_11_437 im_X11_layNow se_X11_layNow dX11_law_1 (fun v he => ok_X11_layNow hN  he) rfl (is_81 hN) ⟨_, _, rfl⟩ (by decide) (Nat.le_of_ble_eq_true rfl) ⟨by decide, by decide⟩ rfl (fun _ m1 h => ?_)
  refine q_aload_n (M := md_X11_law) (pc := 4) dX11_law_4 rfl (by decide) ?_
  refine q_aload_n (M := md_X11_law) (pc := 5) dX11_law_5 rfl (by decide) ?_
  refine q_getP (M := md_X11_law) (pc := 6) (v := 115) fl_11_115 dX11_law_6 (is_81 hN) rfl ?_
  refine q_iconst (M := md_X11_law) (pc := 9) dX11_law_9 ?_
  refine e_rd (M := md_X11_law) (pc := 10) h dX11_law_10 (ar_115 hN) (fun v2 h => ?_)
  refine q_aload_n (M := md_X11_law) (pc := 11) dX11_law_11 rfl (by decide) ?_
  refine q_getP (M := md_X11_law) (pc := 12) (v := 115) fl_11_115 dX11_law_12 (is_81 hN) rfl ?_
  refine q_iconst (M := md_X11_law) (pc := 15) dX11_law_15 ?_
  refine e_rd (M := md_X11_law) (pc := 16) h dX11_law_16 (ar_115 hN) (fun v3 h => ?_)
  refine e_callVi (M := md_X11_law) (pc := 17) (d' := 2) (av := [q_I v2, q_I v3]) (c := 81) h ml_11_440 im_X11_isLawful se_X11_isLawful dX11_law_17 (fun v he => ok_X11_isLawful hN  he) rfl (is_81 hN) ⟨_, _, rfl⟩ (by decide) (Nat.le_of_ble_eq_true rfl) ⟨by decide, by decide⟩ rfl (fun v4 m5 h => ?_)
  refine e_if_eq (M := md_X11_law) (pc := 20) (tgt := 37) h rfl dX11_law_20 (by decide) (fun h => ?_) (fun h => ?_)
  · refine q_iconst (M := md_X11_law) (pc := 37) dX11_law_37 ?_
    exact e_iret (M := md_X11_law) (pc := 38) h rfl dX11_law_38
  · refine q_aload_n (M := md_X11_law) (pc := 23) dX11_law_23 rfl (by decide) ?_
    refine e_gI (M := md_X11_law) (pc := 24) (v := m5 81 55) fl_11_421 dX11_law_24 (is_81 hN) rfl ?_
    refine e_if_gt (M := md_X11_law) (pc := 27) (tgt := 37) h rfl dX11_law_27 (by decide) (fun h => ?_) (fun h => ?_)
    · refine q_iconst (M := md_X11_law) (pc := 37) dX11_law_37 ?_
      exact e_iret (M := md_X11_law) (pc := 38) h rfl dX11_law_38
    · refine q_aload_n (M := md_X11_law) (pc := 30) dX11_law_30 rfl (by decide) ?_
      refine e_callVi (M := md_X11_law) (pc := 31) (d' := 1) (av := []) (c := 81) h ml_11_467 im_X11_brokenMany se_X11_brokenMany dX11_law_31 (fun v he => ok_X11_brokenMany hN  he) rfl (is_81 hN) ⟨_, _, rfl⟩ (by decide) (Nat.le_of_ble_eq_true rfl) ⟨by decide, by decide⟩ rfl (fun v6 m7 h => ?_)
      refine e_if_le (M := md_X11_law) (pc := 34) (tgt := 39) h rfl dX11_law_34 (by decide) (fun h => ?_) (fun h => ?_)
      · refine q_aload_n (M := md_X11_law) (pc := 39) dX11_law_39 rfl (by decide) ?_
        refine e_callVi (M := md_X11_law) (pc := 40) (d' := 8) (av := []) (c := 81) h ml_11_464 im_X11_wrongMany se_X11_wrongMany dX11_law_40 (fun v he => ok_X11_wrongMany hN  he) rfl (is_81 hN) ⟨_, _, rfl⟩ (by decide) (Nat.le_of_ble_eq_true rfl) ⟨by decide, by decide⟩ rfl (fun v8 m9 h => ?_)
        refine q_aload_n (M := md_X11_law) (pc := 43) dX11_law_43 rfl (by decide) ?_
        refine e_callVi (M := md_X11_law) (pc := 44) (d' := 6) (av := []) (c := 81) h ml_11_446 im_X11_unordered se_X11_unordered dX11_law_44 (fun v he => ok_X11_unordered hN  he) rfl (is_81 hN) ⟨_, _, rfl⟩ (by decide) (Nat.le_of_ble_eq_true rfl) ⟨by decide, by decide⟩ rfl (fun v10 m11 h => ?_)
        refine q_iadd (M := md_X11_law) (pc := 47) dX11_law_47 ?_
        exact e_iret (M := md_X11_law) (pc := 48) h rfl dX11_law_48
      · refine q_iconst (M := md_X11_law) (pc := 37) dX11_law_37 ?_
        exact e_iret (M := md_X11_law) (pc := 38) h rfl dX11_law_38
def f_Mod_isCell (l1 : Int) (m : q_Mem) : q_Res :=
  q_bd (f_Mod_layNow m) fun _ m1 =>
  q_bd (f_Mod_isIn l1 0 ((m1 81 54) - 1) m1) fun v2 m3 =>
  q_rz v2 m3
set_option maxRecDepth 20000 in
theorem ok_X11_isCell {l1 : Int} {r : Int × q_Mem} {m : q_Mem} {N : Nat} (hN : 126 ≤ N) (h : f_Mod_isCell l1 m = some r) : q_C md_X11_isCell (q_room 7) 0 0 [q_A 81, q_I l1] (q_g N) m (some (q_I r.1), q_g N, r.2) := by
  refine q_ofR (by decide) 0 (ls := [q_A 81, q_I l1]) rfl (Nat.le_of_ble_eq_true rfl) ?_
  change q_E md_X11_isCell 7 N (some 0) r m 0 [q_A 81, q_I l1] []
  unfold f_Mod_isCell at h
  refine q_aload_n (M := md_X11_isCell) (pc := 0) dX11_isCell_0 rfl (by decide) ?_
  refine e_callVv (M := md_X11_isCell) (pc := 1) (d' := 6) (av := []) (c := 81) h ml_11_437 im_X11_layNow se_X11_layNow dX11_isCell_1 (fun v he => ok_X11_layNow hN  he) rfl (is_81 hN) ⟨_, _, rfl⟩ (by decide) (Nat.le_of_ble_eq_true rfl) ⟨by decide, by decide⟩ rfl (fun _ m1 h => ?_)
  refine q_iload_n (M := md_X11_isCell) (pc := 4) dX11_isCell_4 rfl ?_
  refine q_iconst (M := md_X11_isCell) (pc := 5) dX11_isCell_5 ?_
  refine q_aload_n (M := md_X11_isCell) (pc := 6) dX11_isCell_6 rfl (by decide) ?_
  refine e_gI (M := md_X11_isCell) (pc := 7) (v := m1 81 54) fl_11_418 dX11_isCell_7 (is_81 hN) rfl ?_
  refine q_iconst (M := md_X11_isCell) (pc := 10) dX11_isCell_10 ?_
  refine q_isub (M := md_X11_isCell) (pc := 11) dX11_isCell_11 ?_
  refine e_callSi (M := md_X11_isCell) (pc := 12) (d' := 1) (M' := md_X11_isIn) (av := [q_I l1, q_I 0, q_I ((m1 81 54) - 1)]) h ml_11_221 sm_X11_isIn dX11_isCell_12 (fun v he => ok_X11_isIn hN  he) rfl (Nat.le_of_ble_eq_true rfl) ⟨by decide, by decide⟩ rfl (fun v2 m3 h => ?_)
  exact e_zret (M := md_X11_isCell) (pc := 15) h rfl dX11_isCell_15
def f_Mod_firstTick_b44 (k6 : Int → Int → Int → q_Mem → q_Res) (l1 l3 s0 : Int) (m : q_Mem) : q_Res :=
  k6 l1 s0 (l3 + 1) m
set_option maxRecDepth 20000 in
theorem w_Mod_firstTick_b44 {k6 : Int → Int → Int → q_Mem → q_Res} {l1 l3 s0 : Int} {r : Int × q_Mem} {m : q_Mem} {N : Nat} (hN : 126 ≤ N) (hk6 : ∀ (l1 l2 l3 : Int) (m : q_Mem), k6 l1 l2 l3 m = some r → q_E md_X11_firstTick 4 N (some 0) r m 6 [q_A 81, q_I l1, q_I l2, q_I l3] []) (h : f_Mod_firstTick_b44 k6 l1 l3 s0 m = some r) : q_E md_X11_firstTick 4 N (some 0) r m 44 [q_A 81, q_I l1, q_N, q_I l3] [q_I s0] := by
  unfold f_Mod_firstTick_b44 at h
  refine e_ist_n (M := md_X11_firstTick) (pc := 44) (ls' := [q_A 81, q_I l1, q_I s0, q_I l3]) dX11_firstTick_44 (by decide) (q_pl rfl) rfl ?_
  refine e_inc (M := md_X11_firstTick) (pc := 45) (x := l3) (ls' := [q_A 81, q_I l1, q_I s0, q_I (l3 + 1)]) dX11_firstTick_45 rfl (by decide) (q_pl rfl) rfl ?_
  refine q_goto (M := md_X11_firstTick) (pc := 48) (tgt := 6) dX11_firstTick_48 (by decide) ?_
  exact q_weak (hk6 _ _ _ _  h) ⟨Or.inr rfl, Or.inr rfl, Or.inr rfl, Or.inr rfl, trivial⟩
def f_Mod_firstTick_b43 (k6 : Int → Int → Int → q_Mem → q_Res) (l1 l2 l3 : Int) (m : q_Mem) : q_Res :=
  f_Mod_firstTick_b44 k6 l1 l3 l2 m
set_option maxRecDepth 20000 in
theorem w_Mod_firstTick_b43 {k6 : Int → Int → Int → q_Mem → q_Res} {l1 l2 l3 : Int} {r : Int × q_Mem} {m : q_Mem} {N : Nat} (hN : 126 ≤ N) (hk6 : ∀ (l1 l2 l3 : Int) (m : q_Mem), k6 l1 l2 l3 m = some r → q_E md_X11_firstTick 4 N (some 0) r m 6 [q_A 81, q_I l1, q_I l2, q_I l3] []) (h : f_Mod_firstTick_b43 k6 l1 l2 l3 m = some r) : q_E md_X11_firstTick 4 N (some 0) r m 43 [q_A 81, q_I l1, q_I l2, q_I l3] [] := by
  unfold f_Mod_firstTick_b43 at h
  refine q_iload_n (M := md_X11_firstTick) (pc := 43) dX11_firstTick_43 rfl ?_
  exact q_weak (w_Mod_firstTick_b44 hN hk6  h) ⟨Or.inr rfl, Or.inr rfl, Or.inl rfl, Or.inr rfl, trivial⟩
def f_Mod_firstTick_b6 (k6 : Int → Int → Int → q_Mem → q_Res) (l1 l2 l3 : Int) (m : q_Mem) : q_Res :=
  if 100 ≤ q_w l3 then (q_rt l2 m)
  else (q_bd (f_Mod_isThere l3 m) fun v1 m2 =>
  if q_w v1 = 0 then (f_Mod_firstTick_b43 k6 l1 l2 l3 m2)
  else (q_rd m2 117 100 l3 fun v3 =>
  if q_w v3 = q_w l1 then (q_rd m2 116 100 l3 fun v4 =>
  q_bd (f_Mod_less l2 v4 m2) fun v5 m6 =>
  f_Mod_firstTick_b44 k6 l1 l3 v5 m6)
  else (f_Mod_firstTick_b43 k6 l1 l2 l3 m2)))
set_option maxRecDepth 20000 in
theorem w_Mod_firstTick_b6 {k6 : Int → Int → Int → q_Mem → q_Res} {l1 l2 l3 : Int} {r : Int × q_Mem} {m : q_Mem} {N : Nat} (hN : 126 ≤ N) (hk6 : ∀ (l1 l2 l3 : Int) (m : q_Mem), k6 l1 l2 l3 m = some r → q_E md_X11_firstTick 4 N (some 0) r m 6 [q_A 81, q_I l1, q_I l2, q_I l3] []) (h : f_Mod_firstTick_b6 k6 l1 l2 l3 m = some r) : q_E md_X11_firstTick 4 N (some 0) r m 6 [q_A 81, q_I l1, q_I l2, q_I l3] [] := by
  unfold f_Mod_firstTick_b6 at h
  refine q_iload_n (M := md_X11_firstTick) (pc := 6) dX11_firstTick_6 rfl ?_
  refine q_bipush (M := md_X11_firstTick) (pc := 7) (x := 100) dX11_firstTick_7 (by decide) ?_
  refine e_icmp_ge (M := md_X11_firstTick) (pc := 9) (tgt := 51) h rfl (q_wlit rfl) dX11_firstTick_9 (by decide) (fun h => ?_) (fun h => ?_)
  · refine q_iload_n (M := md_X11_firstTick) (pc := 51) dX11_firstTick_51 rfl ?_
    exact e_iret (M := md_X11_firstTick) (pc := 52) h rfl dX11_firstTick_52
  · refine q_aload_n (M := md_X11_firstTick) (pc := 12) dX11_firstTick_12 rfl (by decide) ?_
    refine q_iload_n (M := md_X11_firstTick) (pc := 13) dX11_firstTick_13 rfl ?_
    refine e_callVi (M := md_X11_firstTick) (pc := 14) (d' := 3) (av := [q_I l3]) (c := 81) h ml_11_333 im_X11_isThere se_X11_isThere dX11_firstTick_14 (fun v he => ok_X11_isThere hN  he) rfl (is_81 hN) ⟨_, _, rfl⟩ (by decide) (Nat.le_of_ble_eq_true rfl) ⟨by decide, by decide⟩ rfl (fun v1 m2 h => ?_)
    refine e_if_eq (M := md_X11_firstTick) (pc := 17) (tgt := 43) h rfl dX11_firstTick_17 (by decide) (fun h => ?_) (fun h => ?_)
    · exact q_weak (w_Mod_firstTick_b43 hN hk6  h) ⟨Or.inr rfl, Or.inr rfl, Or.inr rfl, Or.inr rfl, trivial⟩
    · refine q_aload_n (M := md_X11_firstTick) (pc := 20) dX11_firstTick_20 rfl (by decide) ?_
      refine q_getP (M := md_X11_firstTick) (pc := 21) (v := 117) fl_11_121 dX11_firstTick_21 (is_81 hN) rfl ?_
      refine q_iload_n (M := md_X11_firstTick) (pc := 24) dX11_firstTick_24 rfl ?_
      refine e_rd (M := md_X11_firstTick) (pc := 25) h dX11_firstTick_25 (ar_117 hN) (fun v3 h => ?_)
      refine q_iload_n (M := md_X11_firstTick) (pc := 26) dX11_firstTick_26 rfl ?_
      refine e_icmp_ne (M := md_X11_firstTick) (pc := 27) (tgt := 43) h rfl rfl dX11_firstTick_27 (by decide) (fun h => ?_) (fun h => ?_)
      · exact q_weak (w_Mod_firstTick_b43 hN hk6  h) ⟨Or.inr rfl, Or.inr rfl, Or.inr rfl, Or.inr rfl, trivial⟩
      · refine q_iload_n (M := md_X11_firstTick) (pc := 30) dX11_firstTick_30 rfl ?_
        refine q_aload_n (M := md_X11_firstTick) (pc := 31) dX11_firstTick_31 rfl (by decide) ?_
        refine q_getP (M := md_X11_firstTick) (pc := 32) (v := 116) fl_11_118 dX11_firstTick_32 (is_81 hN) rfl ?_
        refine q_iload_n (M := md_X11_firstTick) (pc := 35) dX11_firstTick_35 rfl ?_
        refine e_rd (M := md_X11_firstTick) (pc := 36) h dX11_firstTick_36 (ar_116 hN) (fun v4 h => ?_)
        refine e_callSi (M := md_X11_firstTick) (pc := 37) (d' := 1) (M' := md_X11_less) (av := [q_I l2, q_I v4]) h ml_11_366 sm_X11_less dX11_firstTick_37 (fun v he => ok_X11_less hN  he) rfl (Nat.le_of_ble_eq_true rfl) ⟨by decide, by decide⟩ rfl (fun v5 m6 h => ?_)
        refine q_goto (M := md_X11_firstTick) (pc := 40) (tgt := 44) dX11_firstTick_40 (by decide) ?_
        exact q_weak (w_Mod_firstTick_b44 hN hk6  h) ⟨Or.inr rfl, Or.inr rfl, Or.inl rfl, Or.inr rfl, trivial⟩
def f_Mod_firstTick_l6 : Nat → Int → Int → Int → q_Mem → q_Res
  | 0 => fun _ _ _ _ => none
  | n + 1 => fun l1 l2 l3 m => f_Mod_firstTick_b6 (f_Mod_firstTick_l6 n) l1 l2 l3 m
theorem w_Mod_firstTick_l6 {r : Int × q_Mem} {N : Nat} (hN : 126 ≤ N) : ∀ (n : Nat) (l1 l2 l3 : Int) (m : q_Mem), f_Mod_firstTick_l6 n l1 l2 l3 m = some r → q_E md_X11_firstTick 4 N (some 0) r m 6 [q_A 81, q_I l1, q_I l2, q_I l3] [] := by
  intro n
  induction n with
  | zero => intro l1 l2 l3 m h; exact q_no h
  | succ n ih =>
    intro l1 l2 l3 m h
    exact w_Mod_firstTick_b6 hN (fun l1 l2 l3 m h => ih l1 l2 l3 m h) h
def f_Mod_firstTick (l1 : Int) (m : q_Mem) : q_Res :=
  f_Mod_firstTick_l6 q_F l1 1000000 0 m
set_option maxRecDepth 20000 in
theorem ok_X11_firstTick {l1 : Int} {r : Int × q_Mem} {m : q_Mem} {N : Nat} (hN : 126 ≤ N) (h : f_Mod_firstTick l1 m = some r) : q_C md_X11_firstTick (q_room 4) 0 0 [q_A 81, q_I l1] (q_g N) m (some (q_I r.1), q_g N, r.2) := by
  refine q_ofR (by decide) 2 (ls := [q_A 81, q_I l1, q_N, q_N]) rfl (Nat.le_of_ble_eq_true rfl) ?_
  change q_E md_X11_firstTick 4 N (some 0) r m 0 [q_A 81, q_I l1, q_N, q_N] []
  unfold f_Mod_firstTick at h
  refine q_ldc_w (M := md_X11_firstTick) (pc := 0) (x := 1000000) dX11_firstTick_0 co_11_414 (by decide) ?_
  refine e_ist_n (M := md_X11_firstTick) (pc := 3) (ls' := [q_A 81, q_I l1, q_I 1000000, q_N]) dX11_firstTick_3 (by decide) (q_pl rfl) rfl ?_
  refine q_iconst (M := md_X11_firstTick) (pc := 4) dX11_firstTick_4 ?_
  refine e_ist_n (M := md_X11_firstTick) (pc := 5) (ls' := [q_A 81, q_I l1, q_I 1000000, q_I 0]) dX11_firstTick_5 (by decide) (q_pl rfl) rfl ?_
  exact q_weak (w_Mod_firstTick_l6 hN q_F _ _ _ _  h) ⟨Or.inr rfl, Or.inr rfl, Or.inr rfl, Or.inr rfl, trivial⟩
def f_Mod_lastTick_b42 (k4 : Int → Int → Int → q_Mem → q_Res) (l1 l3 s0 : Int) (m : q_Mem) : q_Res :=
  k4 l1 s0 (l3 + 1) m
set_option maxRecDepth 20000 in
theorem w_Mod_lastTick_b42 {k4 : Int → Int → Int → q_Mem → q_Res} {l1 l3 s0 : Int} {r : Int × q_Mem} {m : q_Mem} {N : Nat} (hN : 126 ≤ N) (hk4 : ∀ (l1 l2 l3 : Int) (m : q_Mem), k4 l1 l2 l3 m = some r → q_E md_X11_lastTick 4 N (some 0) r m 4 [q_A 81, q_I l1, q_I l2, q_I l3] []) (h : f_Mod_lastTick_b42 k4 l1 l3 s0 m = some r) : q_E md_X11_lastTick 4 N (some 0) r m 42 [q_A 81, q_I l1, q_N, q_I l3] [q_I s0] := by
  unfold f_Mod_lastTick_b42 at h
  refine e_ist_n (M := md_X11_lastTick) (pc := 42) (ls' := [q_A 81, q_I l1, q_I s0, q_I l3]) dX11_lastTick_42 (by decide) (q_pl rfl) rfl ?_
  refine e_inc (M := md_X11_lastTick) (pc := 43) (x := l3) (ls' := [q_A 81, q_I l1, q_I s0, q_I (l3 + 1)]) dX11_lastTick_43 rfl (by decide) (q_pl rfl) rfl ?_
  refine q_goto (M := md_X11_lastTick) (pc := 46) (tgt := 4) dX11_lastTick_46 (by decide) ?_
  exact q_weak (hk4 _ _ _ _  h) ⟨Or.inr rfl, Or.inr rfl, Or.inr rfl, Or.inr rfl, trivial⟩
def f_Mod_lastTick_b41 (k4 : Int → Int → Int → q_Mem → q_Res) (l1 l2 l3 : Int) (m : q_Mem) : q_Res :=
  f_Mod_lastTick_b42 k4 l1 l3 l2 m
set_option maxRecDepth 20000 in
theorem w_Mod_lastTick_b41 {k4 : Int → Int → Int → q_Mem → q_Res} {l1 l2 l3 : Int} {r : Int × q_Mem} {m : q_Mem} {N : Nat} (hN : 126 ≤ N) (hk4 : ∀ (l1 l2 l3 : Int) (m : q_Mem), k4 l1 l2 l3 m = some r → q_E md_X11_lastTick 4 N (some 0) r m 4 [q_A 81, q_I l1, q_I l2, q_I l3] []) (h : f_Mod_lastTick_b41 k4 l1 l2 l3 m = some r) : q_E md_X11_lastTick 4 N (some 0) r m 41 [q_A 81, q_I l1, q_I l2, q_I l3] [] := by
  unfold f_Mod_lastTick_b41 at h
  refine q_iload_n (M := md_X11_lastTick) (pc := 41) dX11_lastTick_41 rfl ?_
  exact q_weak (w_Mod_lastTick_b42 hN hk4  h) ⟨Or.inr rfl, Or.inr rfl, Or.inl rfl, Or.inr rfl, trivial⟩
def f_Mod_lastTick_b4 (k4 : Int → Int → Int → q_Mem → q_Res) (l1 l2 l3 : Int) (m : q_Mem) : q_Res :=
  if 100 ≤ q_w l3 then (q_rt l2 m)
  else (q_bd (f_Mod_isThere l3 m) fun v1 m2 =>
  if q_w v1 = 0 then (f_Mod_lastTick_b41 k4 l1 l2 l3 m2)
  else (q_rd m2 117 100 l3 fun v3 =>
  if q_w v3 = q_w l1 then (q_rd m2 116 100 l3 fun v4 =>
  q_bd (f_Mod_more l2 v4 m2) fun v5 m6 =>
  f_Mod_lastTick_b42 k4 l1 l3 v5 m6)
  else (f_Mod_lastTick_b41 k4 l1 l2 l3 m2)))
set_option maxRecDepth 20000 in
theorem w_Mod_lastTick_b4 {k4 : Int → Int → Int → q_Mem → q_Res} {l1 l2 l3 : Int} {r : Int × q_Mem} {m : q_Mem} {N : Nat} (hN : 126 ≤ N) (hk4 : ∀ (l1 l2 l3 : Int) (m : q_Mem), k4 l1 l2 l3 m = some r → q_E md_X11_lastTick 4 N (some 0) r m 4 [q_A 81, q_I l1, q_I l2, q_I l3] []) (h : f_Mod_lastTick_b4 k4 l1 l2 l3 m = some r) : q_E md_X11_lastTick 4 N (some 0) r m 4 [q_A 81, q_I l1, q_I l2, q_I l3] [] := by
  unfold f_Mod_lastTick_b4 at h
  refine q_iload_n (M := md_X11_lastTick) (pc := 4) dX11_lastTick_4 rfl ?_
  refine q_bipush (M := md_X11_lastTick) (pc := 5) (x := 100) dX11_lastTick_5 (by decide) ?_
  refine e_icmp_ge (M := md_X11_lastTick) (pc := 7) (tgt := 49) h rfl (q_wlit rfl) dX11_lastTick_7 (by decide) (fun h => ?_) (fun h => ?_)
  · refine q_iload_n (M := md_X11_lastTick) (pc := 49) dX11_lastTick_49 rfl ?_
    exact e_iret (M := md_X11_lastTick) (pc := 50) h rfl dX11_lastTick_50
  · refine q_aload_n (M := md_X11_lastTick) (pc := 10) dX11_lastTick_10 rfl (by decide) ?_
    refine q_iload_n (M := md_X11_lastTick) (pc := 11) dX11_lastTick_11 rfl ?_
    refine e_callVi (M := md_X11_lastTick) (pc := 12) (d' := 3) (av := [q_I l3]) (c := 81) h ml_11_333 im_X11_isThere se_X11_isThere dX11_lastTick_12 (fun v he => ok_X11_isThere hN  he) rfl (is_81 hN) ⟨_, _, rfl⟩ (by decide) (Nat.le_of_ble_eq_true rfl) ⟨by decide, by decide⟩ rfl (fun v1 m2 h => ?_)
    refine e_if_eq (M := md_X11_lastTick) (pc := 15) (tgt := 41) h rfl dX11_lastTick_15 (by decide) (fun h => ?_) (fun h => ?_)
    · exact q_weak (w_Mod_lastTick_b41 hN hk4  h) ⟨Or.inr rfl, Or.inr rfl, Or.inr rfl, Or.inr rfl, trivial⟩
    · refine q_aload_n (M := md_X11_lastTick) (pc := 18) dX11_lastTick_18 rfl (by decide) ?_
      refine q_getP (M := md_X11_lastTick) (pc := 19) (v := 117) fl_11_121 dX11_lastTick_19 (is_81 hN) rfl ?_
      refine q_iload_n (M := md_X11_lastTick) (pc := 22) dX11_lastTick_22 rfl ?_
      refine e_rd (M := md_X11_lastTick) (pc := 23) h dX11_lastTick_23 (ar_117 hN) (fun v3 h => ?_)
      refine q_iload_n (M := md_X11_lastTick) (pc := 24) dX11_lastTick_24 rfl ?_
      refine e_icmp_ne (M := md_X11_lastTick) (pc := 25) (tgt := 41) h rfl rfl dX11_lastTick_25 (by decide) (fun h => ?_) (fun h => ?_)
      · exact q_weak (w_Mod_lastTick_b41 hN hk4  h) ⟨Or.inr rfl, Or.inr rfl, Or.inr rfl, Or.inr rfl, trivial⟩
      · refine q_iload_n (M := md_X11_lastTick) (pc := 28) dX11_lastTick_28 rfl ?_
        refine q_aload_n (M := md_X11_lastTick) (pc := 29) dX11_lastTick_29 rfl (by decide) ?_
        refine q_getP (M := md_X11_lastTick) (pc := 30) (v := 116) fl_11_118 dX11_lastTick_30 (is_81 hN) rfl ?_
        refine q_iload_n (M := md_X11_lastTick) (pc := 33) dX11_lastTick_33 rfl ?_
        refine e_rd (M := md_X11_lastTick) (pc := 34) h dX11_lastTick_34 (ar_116 hN) (fun v4 h => ?_)
        refine e_callSi (M := md_X11_lastTick) (pc := 35) (d' := 1) (M' := md_X11_more) (av := [q_I l2, q_I v4]) h ml_11_345 sm_X11_more dX11_lastTick_35 (fun v he => ok_X11_more hN  he) rfl (Nat.le_of_ble_eq_true rfl) ⟨by decide, by decide⟩ rfl (fun v5 m6 h => ?_)
        refine q_goto (M := md_X11_lastTick) (pc := 38) (tgt := 42) dX11_lastTick_38 (by decide) ?_
        exact q_weak (w_Mod_lastTick_b42 hN hk4  h) ⟨Or.inr rfl, Or.inr rfl, Or.inl rfl, Or.inr rfl, trivial⟩
def f_Mod_lastTick_l4 : Nat → Int → Int → Int → q_Mem → q_Res
  | 0 => fun _ _ _ _ => none
  | n + 1 => fun l1 l2 l3 m => f_Mod_lastTick_b4 (f_Mod_lastTick_l4 n) l1 l2 l3 m
theorem w_Mod_lastTick_l4 {r : Int × q_Mem} {N : Nat} (hN : 126 ≤ N) : ∀ (n : Nat) (l1 l2 l3 : Int) (m : q_Mem), f_Mod_lastTick_l4 n l1 l2 l3 m = some r → q_E md_X11_lastTick 4 N (some 0) r m 4 [q_A 81, q_I l1, q_I l2, q_I l3] [] := by
  intro n
  induction n with
  | zero => intro l1 l2 l3 m h; exact q_no h
  | succ n ih =>
    intro l1 l2 l3 m h
    exact w_Mod_lastTick_b4 hN (fun l1 l2 l3 m h => ih l1 l2 l3 m h) h
def f_Mod_lastTick (l1 : Int) (m : q_Mem) : q_Res :=
  f_Mod_lastTick_l4 q_F l1 (-1) 0 m
set_option maxRecDepth 20000 in
theorem ok_X11_lastTick {l1 : Int} {r : Int × q_Mem} {m : q_Mem} {N : Nat} (hN : 126 ≤ N) (h : f_Mod_lastTick l1 m = some r) : q_C md_X11_lastTick (q_room 4) 0 0 [q_A 81, q_I l1] (q_g N) m (some (q_I r.1), q_g N, r.2) := by
  refine q_ofR (by decide) 2 (ls := [q_A 81, q_I l1, q_N, q_N]) rfl (Nat.le_of_ble_eq_true rfl) ?_
  change q_E md_X11_lastTick 4 N (some 0) r m 0 [q_A 81, q_I l1, q_N, q_N] []
  unfold f_Mod_lastTick at h
  refine q_iconst (M := md_X11_lastTick) (pc := 0) dX11_lastTick_0 ?_
  refine e_ist_n (M := md_X11_lastTick) (pc := 1) (ls' := [q_A 81, q_I l1, q_I (-1), q_N]) dX11_lastTick_1 (by decide) (q_pl rfl) rfl ?_
  refine q_iconst (M := md_X11_lastTick) (pc := 2) dX11_lastTick_2 ?_
  refine e_ist_n (M := md_X11_lastTick) (pc := 3) (ls' := [q_A 81, q_I l1, q_I (-1), q_I 0]) dX11_lastTick_3 (by decide) (q_pl rfl) rfl ?_
  exact q_weak (w_Mod_lastTick_l4 hN q_F _ _ _ _  h) ⟨Or.inr rfl, Or.inr rfl, Or.inr rfl, Or.inr rfl, trivial⟩
def f_Mod_pointsOf_b34 (k4 : Int → Int → Int → q_Mem → q_Res) (l1 l3 s0 s1 : Int) (m : q_Mem) : q_Res :=
  k4 l1 (s0 + s1) (l3 + 1) m
set_option maxRecDepth 20000 in
theorem w_Mod_pointsOf_b34 {k4 : Int → Int → Int → q_Mem → q_Res} {l1 l3 s0 s1 : Int} {r : Int × q_Mem} {m : q_Mem} {N : Nat} (hN : 126 ≤ N) (hk4 : ∀ (l1 l2 l3 : Int) (m : q_Mem), k4 l1 l2 l3 m = some r → q_E md_X11_pointsOf 4 N (some 0) r m 4 [q_A 81, q_I l1, q_I l2, q_I l3] []) (h : f_Mod_pointsOf_b34 k4 l1 l3 s0 s1 m = some r) : q_E md_X11_pointsOf 4 N (some 0) r m 34 [q_A 81, q_I l1, q_N, q_I l3] [q_I s1, q_I s0] := by
  unfold f_Mod_pointsOf_b34 at h
  refine q_iadd (M := md_X11_pointsOf) (pc := 34) dX11_pointsOf_34 ?_
  refine e_ist_n (M := md_X11_pointsOf) (pc := 35) (ls' := [q_A 81, q_I l1, q_I (s0 + s1), q_I l3]) dX11_pointsOf_35 (by decide) (q_pl rfl) rfl ?_
  refine e_inc (M := md_X11_pointsOf) (pc := 36) (x := l3) (ls' := [q_A 81, q_I l1, q_I (s0 + s1), q_I (l3 + 1)]) dX11_pointsOf_36 rfl (by decide) (q_pl rfl) rfl ?_
  refine q_goto (M := md_X11_pointsOf) (pc := 39) (tgt := 4) dX11_pointsOf_39 (by decide) ?_
  exact q_weak (hk4 _ _ _ _  h) ⟨Or.inr rfl, Or.inr rfl, Or.inr rfl, Or.inr rfl, trivial⟩
def f_Mod_pointsOf_b33 (k4 : Int → Int → Int → q_Mem → q_Res) (l1 l3 s0 : Int) (m : q_Mem) : q_Res :=
  f_Mod_pointsOf_b34 k4 l1 l3 s0 0 m
set_option maxRecDepth 20000 in
theorem w_Mod_pointsOf_b33 {k4 : Int → Int → Int → q_Mem → q_Res} {l1 l3 s0 : Int} {r : Int × q_Mem} {m : q_Mem} {N : Nat} (hN : 126 ≤ N) (hk4 : ∀ (l1 l2 l3 : Int) (m : q_Mem), k4 l1 l2 l3 m = some r → q_E md_X11_pointsOf 4 N (some 0) r m 4 [q_A 81, q_I l1, q_I l2, q_I l3] []) (h : f_Mod_pointsOf_b33 k4 l1 l3 s0 m = some r) : q_E md_X11_pointsOf 4 N (some 0) r m 33 [q_A 81, q_I l1, q_N, q_I l3] [q_I s0] := by
  unfold f_Mod_pointsOf_b33 at h
  refine q_iconst (M := md_X11_pointsOf) (pc := 33) dX11_pointsOf_33 ?_
  exact q_weak (w_Mod_pointsOf_b34 hN hk4  h) ⟨Or.inr rfl, Or.inr rfl, Or.inl rfl, Or.inr rfl, trivial⟩
def f_Mod_pointsOf_b4 (k4 : Int → Int → Int → q_Mem → q_Res) (l1 l2 l3 : Int) (m : q_Mem) : q_Res :=
  if 100 ≤ q_w l3 then (q_rt l2 m)
  else (q_bd (f_Mod_isThere l3 m) fun v1 m2 =>
  if q_w v1 = 0 then (f_Mod_pointsOf_b33 k4 l1 l3 l2 m2)
  else (q_rd m2 117 100 l3 fun v3 =>
  if q_w v3 = q_w l1 then (f_Mod_pointsOf_b34 k4 l1 l3 l2 1 m2)
  else (f_Mod_pointsOf_b33 k4 l1 l3 l2 m2)))
set_option maxRecDepth 20000 in
theorem w_Mod_pointsOf_b4 {k4 : Int → Int → Int → q_Mem → q_Res} {l1 l2 l3 : Int} {r : Int × q_Mem} {m : q_Mem} {N : Nat} (hN : 126 ≤ N) (hk4 : ∀ (l1 l2 l3 : Int) (m : q_Mem), k4 l1 l2 l3 m = some r → q_E md_X11_pointsOf 4 N (some 0) r m 4 [q_A 81, q_I l1, q_I l2, q_I l3] []) (h : f_Mod_pointsOf_b4 k4 l1 l2 l3 m = some r) : q_E md_X11_pointsOf 4 N (some 0) r m 4 [q_A 81, q_I l1, q_I l2, q_I l3] [] := by
  unfold f_Mod_pointsOf_b4 at h
  refine q_iload_n (M := md_X11_pointsOf) (pc := 4) dX11_pointsOf_4 rfl ?_
  refine q_bipush (M := md_X11_pointsOf) (pc := 5) (x := 100) dX11_pointsOf_5 (by decide) ?_
  refine e_icmp_ge (M := md_X11_pointsOf) (pc := 7) (tgt := 42) h rfl (q_wlit rfl) dX11_pointsOf_7 (by decide) (fun h => ?_) (fun h => ?_)
  · refine q_iload_n (M := md_X11_pointsOf) (pc := 42) dX11_pointsOf_42 rfl ?_
    exact e_iret (M := md_X11_pointsOf) (pc := 43) h rfl dX11_pointsOf_43
  · refine q_iload_n (M := md_X11_pointsOf) (pc := 10) dX11_pointsOf_10 rfl ?_
    refine q_aload_n (M := md_X11_pointsOf) (pc := 11) dX11_pointsOf_11 rfl (by decide) ?_
    refine q_iload_n (M := md_X11_pointsOf) (pc := 12) dX11_pointsOf_12 rfl ?_
    refine e_callVi (M := md_X11_pointsOf) (pc := 13) (d' := 3) (av := [q_I l3]) (c := 81) h ml_11_333 im_X11_isThere se_X11_isThere dX11_pointsOf_13 (fun v he => ok_X11_isThere hN  he) rfl (is_81 hN) ⟨_, _, rfl⟩ (by decide) (Nat.le_of_ble_eq_true rfl) ⟨by decide, by decide⟩ rfl (fun v1 m2 h => ?_)
    refine e_if_eq (M := md_X11_pointsOf) (pc := 16) (tgt := 33) h rfl dX11_pointsOf_16 (by decide) (fun h => ?_) (fun h => ?_)
    · exact q_weak (w_Mod_pointsOf_b33 hN hk4  h) ⟨Or.inr rfl, Or.inr rfl, Or.inl rfl, Or.inr rfl, trivial⟩
    · refine q_aload_n (M := md_X11_pointsOf) (pc := 19) dX11_pointsOf_19 rfl (by decide) ?_
      refine q_getP (M := md_X11_pointsOf) (pc := 20) (v := 117) fl_11_121 dX11_pointsOf_20 (is_81 hN) rfl ?_
      refine q_iload_n (M := md_X11_pointsOf) (pc := 23) dX11_pointsOf_23 rfl ?_
      refine e_rd (M := md_X11_pointsOf) (pc := 24) h dX11_pointsOf_24 (ar_117 hN) (fun v3 h => ?_)
      refine q_iload_n (M := md_X11_pointsOf) (pc := 25) dX11_pointsOf_25 rfl ?_
      refine e_icmp_ne (M := md_X11_pointsOf) (pc := 26) (tgt := 33) h rfl rfl dX11_pointsOf_26 (by decide) (fun h => ?_) (fun h => ?_)
      · exact q_weak (w_Mod_pointsOf_b33 hN hk4  h) ⟨Or.inr rfl, Or.inr rfl, Or.inl rfl, Or.inr rfl, trivial⟩
      · refine q_iconst (M := md_X11_pointsOf) (pc := 29) dX11_pointsOf_29 ?_
        refine q_goto (M := md_X11_pointsOf) (pc := 30) (tgt := 34) dX11_pointsOf_30 (by decide) ?_
        exact q_weak (w_Mod_pointsOf_b34 hN hk4  h) ⟨Or.inr rfl, Or.inr rfl, Or.inl rfl, Or.inr rfl, trivial⟩
def f_Mod_pointsOf_l4 : Nat → Int → Int → Int → q_Mem → q_Res
  | 0 => fun _ _ _ _ => none
  | n + 1 => fun l1 l2 l3 m => f_Mod_pointsOf_b4 (f_Mod_pointsOf_l4 n) l1 l2 l3 m
theorem w_Mod_pointsOf_l4 {r : Int × q_Mem} {N : Nat} (hN : 126 ≤ N) : ∀ (n : Nat) (l1 l2 l3 : Int) (m : q_Mem), f_Mod_pointsOf_l4 n l1 l2 l3 m = some r → q_E md_X11_pointsOf 4 N (some 0) r m 4 [q_A 81, q_I l1, q_I l2, q_I l3] [] := by
  intro n
  induction n with
  | zero => intro l1 l2 l3 m h; exact q_no h
  | succ n ih =>
    intro l1 l2 l3 m h
    exact w_Mod_pointsOf_b4 hN (fun l1 l2 l3 m h => ih l1 l2 l3 m h) h
def f_Mod_pointsOf (l1 : Int) (m : q_Mem) : q_Res :=
  f_Mod_pointsOf_l4 q_F l1 0 0 m
set_option maxRecDepth 20000 in
theorem ok_X11_pointsOf {l1 : Int} {r : Int × q_Mem} {m : q_Mem} {N : Nat} (hN : 126 ≤ N) (h : f_Mod_pointsOf l1 m = some r) : q_C md_X11_pointsOf (q_room 4) 0 0 [q_A 81, q_I l1] (q_g N) m (some (q_I r.1), q_g N, r.2) := by
  refine q_ofR (by decide) 2 (ls := [q_A 81, q_I l1, q_N, q_N]) rfl (Nat.le_of_ble_eq_true rfl) ?_
  change q_E md_X11_pointsOf 4 N (some 0) r m 0 [q_A 81, q_I l1, q_N, q_N] []
  unfold f_Mod_pointsOf at h
  refine q_iconst (M := md_X11_pointsOf) (pc := 0) dX11_pointsOf_0 ?_
  refine e_ist_n (M := md_X11_pointsOf) (pc := 1) (ls' := [q_A 81, q_I l1, q_I 0, q_N]) dX11_pointsOf_1 (by decide) (q_pl rfl) rfl ?_
  refine q_iconst (M := md_X11_pointsOf) (pc := 2) dX11_pointsOf_2 ?_
  refine e_ist_n (M := md_X11_pointsOf) (pc := 3) (ls' := [q_A 81, q_I l1, q_I 0, q_I 0]) dX11_pointsOf_3 (by decide) (q_pl rfl) rfl ?_
  exact q_weak (w_Mod_pointsOf_l4 hN q_F _ _ _ _  h) ⟨Or.inr rfl, Or.inr rfl, Or.inr rfl, Or.inr rfl, trivial⟩
def f_Mod_moreWrong (l1 : Int) (m : q_Mem) : q_Res :=
  q_bd (f_Mod_wrongMany m) fun v1 m2 =>
  q_rd m2 115 69 (5 + l1) fun v3 =>
  q_wr m2 115 69 (5 + l1) 1 fun m4 =>
  q_bd (f_Mod_wrongMany m4) fun v5 m6 =>
  q_wr m6 115 69 (5 + l1) v3 fun m7 =>
  q_rt (v5 - v1) m7
set_option maxRecDepth 20000 in
theorem ok_X11_moreWrong {l1 : Int} {r : Int × q_Mem} {m : q_Mem} {N : Nat} (hN : 126 ≤ N) (h : f_Mod_moreWrong l1 m = some r) : q_C md_X11_moreWrong (q_room 9) 0 0 [q_A 81, q_I l1] (q_g N) m (some (q_I r.1), q_g N, r.2) := by
  refine q_ofR (by decide) 3 (ls := [q_A 81, q_I l1, q_N, q_N, q_N]) rfl (Nat.le_of_ble_eq_true rfl) ?_
  change q_E md_X11_moreWrong 9 N (some 0) r m 0 [q_A 81, q_I l1, q_N, q_N, q_N] []
  unfold f_Mod_moreWrong at h
  refine q_aload_n (M := md_X11_moreWrong) (pc := 0) dX11_moreWrong_0 rfl (by decide) ?_
  refine e_callVi (M := md_X11_moreWrong) (pc := 1) (d' := 8) (av := []) (c := 81) h ml_11_464 im_X11_wrongMany se_X11_wrongMany dX11_moreWrong_1 (fun v he => ok_X11_wrongMany hN  he) rfl (is_81 hN) ⟨_, _, rfl⟩ (by decide) (Nat.le_of_ble_eq_true rfl) ⟨by decide, by decide⟩ rfl (fun v1 m2 h => ?_)
  refine e_ist_n (M := md_X11_moreWrong) (pc := 4) (ls' := [q_A 81, q_I l1, q_I v1, q_N, q_N]) dX11_moreWrong_4 (by decide) (q_pl rfl) rfl ?_
  refine q_aload_n (M := md_X11_moreWrong) (pc := 5) dX11_moreWrong_5 rfl (by decide) ?_
  refine q_getP (M := md_X11_moreWrong) (pc := 6) (v := 115) fl_11_115 dX11_moreWrong_6 (is_81 hN) rfl ?_
  refine q_iconst (M := md_X11_moreWrong) (pc := 9) dX11_moreWrong_9 ?_
  refine q_iload_n (M := md_X11_moreWrong) (pc := 10) dX11_moreWrong_10 rfl ?_
  refine q_iadd (M := md_X11_moreWrong) (pc := 11) dX11_moreWrong_11 ?_
  refine e_rd (M := md_X11_moreWrong) (pc := 12) h dX11_moreWrong_12 (ar_115 hN) (fun v3 h => ?_)
  refine e_ist_n (M := md_X11_moreWrong) (pc := 13) (ls' := [q_A 81, q_I l1, q_I v1, q_I v3, q_N]) dX11_moreWrong_13 (by decide) (q_pl rfl) rfl ?_
  refine q_aload_n (M := md_X11_moreWrong) (pc := 14) dX11_moreWrong_14 rfl (by decide) ?_
  refine q_getP (M := md_X11_moreWrong) (pc := 15) (v := 115) fl_11_115 dX11_moreWrong_15 (is_81 hN) rfl ?_
  refine q_iconst (M := md_X11_moreWrong) (pc := 18) dX11_moreWrong_18 ?_
  refine q_iload_n (M := md_X11_moreWrong) (pc := 19) dX11_moreWrong_19 rfl ?_
  refine q_iadd (M := md_X11_moreWrong) (pc := 20) dX11_moreWrong_20 ?_
  refine q_iconst (M := md_X11_moreWrong) (pc := 21) dX11_moreWrong_21 ?_
  refine e_wr (M := md_X11_moreWrong) (pc := 22) h dX11_moreWrong_22 (ar_115 hN) (fun m4 h => ?_)
  refine q_aload_n (M := md_X11_moreWrong) (pc := 23) dX11_moreWrong_23 rfl (by decide) ?_
  refine e_callVi (M := md_X11_moreWrong) (pc := 24) (d' := 8) (av := []) (c := 81) h ml_11_464 im_X11_wrongMany se_X11_wrongMany dX11_moreWrong_24 (fun v he => ok_X11_wrongMany hN  he) rfl (is_81 hN) ⟨_, _, rfl⟩ (by decide) (Nat.le_of_ble_eq_true rfl) ⟨by decide, by decide⟩ rfl (fun v5 m6 h => ?_)
  refine e_ist (M := md_X11_moreWrong) (pc := 27) (ls' := [q_A 81, q_I l1, q_I v1, q_I v3, q_I v5]) dX11_moreWrong_27 (by decide) (q_pl rfl) rfl ?_
  refine q_aload_n (M := md_X11_moreWrong) (pc := 29) dX11_moreWrong_29 rfl (by decide) ?_
  refine q_getP (M := md_X11_moreWrong) (pc := 30) (v := 115) fl_11_115 dX11_moreWrong_30 (is_81 hN) rfl ?_
  refine q_iconst (M := md_X11_moreWrong) (pc := 33) dX11_moreWrong_33 ?_
  refine q_iload_n (M := md_X11_moreWrong) (pc := 34) dX11_moreWrong_34 rfl ?_
  refine q_iadd (M := md_X11_moreWrong) (pc := 35) dX11_moreWrong_35 ?_
  refine q_iload_n (M := md_X11_moreWrong) (pc := 36) dX11_moreWrong_36 rfl ?_
  refine e_wr (M := md_X11_moreWrong) (pc := 37) h dX11_moreWrong_37 (ar_115 hN) (fun m7 h => ?_)
  refine q_iload (M := md_X11_moreWrong) (pc := 38) dX11_moreWrong_38 rfl ?_
  refine q_iload_n (M := md_X11_moreWrong) (pc := 40) dX11_moreWrong_40 rfl ?_
  refine q_isub (M := md_X11_moreWrong) (pc := 41) dX11_moreWrong_41 ?_
  exact e_iret (M := md_X11_moreWrong) (pc := 42) h rfl dX11_moreWrong_42
def f_Mod_busy (l1 l2 : Int) (m : q_Mem) : q_Res :=
  q_bd (f_Mod_isCell l1 m) fun v1 m2 =>
  if q_w v1 = 0 then (q_rt (-1000) m2)
  else (if q_w l2 = 0 then (q_bd (f_Mod_pointsOf l1 m2) fun v4 m5 =>
  q_rt v4 m5)
  else if q_w l2 = 1 then (q_bd (f_Mod_firstTick l1 m2) fun v7 m8 =>
  q_rt v7 m8)
  else if q_w l2 = 2 then (q_bd (f_Mod_lastTick l1 m2) fun v10 m11 =>
  q_rt v10 m11)
  else if q_w l2 = 3 then (q_rd m2 115 69 (5 + l1) fun v13 =>
  q_rt v13 m2)
  else if q_w l2 = 4 then (q_bd (f_Mod_moreWrong l1 m2) fun v15 m16 =>
  q_rt v15 m16)
  else (q_rt (-1000) m2))
set_option maxRecDepth 20000 in
theorem ok_X11_busy {l1 l2 : Int} {r : Int × q_Mem} {m : q_Mem} {N : Nat} (hN : 126 ≤ N) (h : f_Mod_busy l1 l2 m = some r) : q_C md_X11_busy (q_room 10) 0 0 [q_A 81, q_I l1, q_I l2] (q_g N) m (some (q_I r.1), q_g N, r.2) := by
  refine q_ofR (by decide) 0 (ls := [q_A 81, q_I l1, q_I l2]) rfl (Nat.le_of_ble_eq_true rfl) ?_
  change q_E md_X11_busy 10 N (some 0) r m 0 [q_A 81, q_I l1, q_I l2] []
  unfold f_Mod_busy at h
  refine q_aload_n (M := md_X11_busy) (pc := 0) dX11_busy_0 rfl (by decide) ?_
  refine q_iload_n (M := md_X11_busy) (pc := 1) dX11_busy_1 rfl ?_
  refine e_callVi (M := md_X11_busy) (pc := 2) (d' := 7) (av := [q_I l1]) (c := 81) h ml_11_470 im_X11_isCell se_X11_isCell dX11_busy_2 (fun v he => ok_X11_isCell hN  he) rfl (is_81 hN) ⟨_, _, rfl⟩ (by decide) (Nat.le_of_ble_eq_true rfl) ⟨by decide, by decide⟩ rfl (fun v1 m2 h => ?_)
  refine e_if_ne (M := md_X11_busy) (pc := 5) (tgt := 12) h rfl dX11_busy_5 (by decide) (fun h => ?_) (fun h => ?_)
  · refine q_iload_n (M := md_X11_busy) (pc := 12) dX11_busy_12 rfl ?_
    by_cases c3 : q_w l2 = 0
    · rw [if_pos c3] at h
      refine q_tabIn (M := md_X11_busy) (pc := 13) (tgt := 48) dX11_busy_13 (by rw [c3] <;> decide) (by rw [c3] <;> decide) (by rw [c3] <;> rfl) (by decide) ?_
      refine q_aload_n (M := md_X11_busy) (pc := 48) dX11_busy_48 rfl (by decide) ?_
      refine q_iload_n (M := md_X11_busy) (pc := 49) dX11_busy_49 rfl ?_
      refine e_callVi (M := md_X11_busy) (pc := 50) (d' := 4) (av := [q_I l1]) (c := 81) h ml_11_473 im_X11_pointsOf se_X11_pointsOf dX11_busy_50 (fun v he => ok_X11_pointsOf hN  he) rfl (is_81 hN) ⟨_, _, rfl⟩ (by decide) (Nat.le_of_ble_eq_true rfl) ⟨by decide, by decide⟩ rfl (fun v4 m5 h => ?_)
      exact e_iret (M := md_X11_busy) (pc := 53) h rfl dX11_busy_53
    rw [if_neg c3] at h
    by_cases c6 : q_w l2 = 1
    · rw [if_pos c6] at h
      refine q_tabIn (M := md_X11_busy) (pc := 13) (tgt := 54) dX11_busy_13 (by rw [c6] <;> decide) (by rw [c6] <;> decide) (by rw [c6] <;> rfl) (by decide) ?_
      refine q_aload_n (M := md_X11_busy) (pc := 54) dX11_busy_54 rfl (by decide) ?_
      refine q_iload_n (M := md_X11_busy) (pc := 55) dX11_busy_55 rfl ?_
      refine e_callVi (M := md_X11_busy) (pc := 56) (d' := 4) (av := [q_I l1]) (c := 81) h ml_11_476 im_X11_firstTick se_X11_firstTick dX11_busy_56 (fun v he => ok_X11_firstTick hN  he) rfl (is_81 hN) ⟨_, _, rfl⟩ (by decide) (Nat.le_of_ble_eq_true rfl) ⟨by decide, by decide⟩ rfl (fun v7 m8 h => ?_)
      exact e_iret (M := md_X11_busy) (pc := 59) h rfl dX11_busy_59
    rw [if_neg c6] at h
    by_cases c9 : q_w l2 = 2
    · rw [if_pos c9] at h
      refine q_tabIn (M := md_X11_busy) (pc := 13) (tgt := 60) dX11_busy_13 (by rw [c9] <;> decide) (by rw [c9] <;> decide) (by rw [c9] <;> rfl) (by decide) ?_
      refine q_aload_n (M := md_X11_busy) (pc := 60) dX11_busy_60 rfl (by decide) ?_
      refine q_iload_n (M := md_X11_busy) (pc := 61) dX11_busy_61 rfl ?_
      refine e_callVi (M := md_X11_busy) (pc := 62) (d' := 4) (av := [q_I l1]) (c := 81) h ml_11_479 im_X11_lastTick se_X11_lastTick dX11_busy_62 (fun v he => ok_X11_lastTick hN  he) rfl (is_81 hN) ⟨_, _, rfl⟩ (by decide) (Nat.le_of_ble_eq_true rfl) ⟨by decide, by decide⟩ rfl (fun v10 m11 h => ?_)
      exact e_iret (M := md_X11_busy) (pc := 65) h rfl dX11_busy_65
    rw [if_neg c9] at h
    by_cases c12 : q_w l2 = 3
    · rw [if_pos c12] at h
      refine q_tabIn (M := md_X11_busy) (pc := 13) (tgt := 66) dX11_busy_13 (by rw [c12] <;> decide) (by rw [c12] <;> decide) (by rw [c12] <;> rfl) (by decide) ?_
      refine q_aload_n (M := md_X11_busy) (pc := 66) dX11_busy_66 rfl (by decide) ?_
      refine q_getP (M := md_X11_busy) (pc := 67) (v := 115) fl_11_115 dX11_busy_67 (is_81 hN) rfl ?_
      refine q_iconst (M := md_X11_busy) (pc := 70) dX11_busy_70 ?_
      refine q_iload_n (M := md_X11_busy) (pc := 71) dX11_busy_71 rfl ?_
      refine q_iadd (M := md_X11_busy) (pc := 72) dX11_busy_72 ?_
      refine e_rd (M := md_X11_busy) (pc := 73) h dX11_busy_73 (ar_115 hN) (fun v13 h => ?_)
      exact e_iret (M := md_X11_busy) (pc := 74) h rfl dX11_busy_74
    rw [if_neg c12] at h
    by_cases c14 : q_w l2 = 4
    · rw [if_pos c14] at h
      refine q_tabIn (M := md_X11_busy) (pc := 13) (tgt := 75) dX11_busy_13 (by rw [c14] <;> decide) (by rw [c14] <;> decide) (by rw [c14] <;> rfl) (by decide) ?_
      refine q_aload_n (M := md_X11_busy) (pc := 75) dX11_busy_75 rfl (by decide) ?_
      refine q_iload_n (M := md_X11_busy) (pc := 76) dX11_busy_76 rfl ?_
      refine e_callVi (M := md_X11_busy) (pc := 77) (d' := 9) (av := [q_I l1]) (c := 81) h ml_11_482 im_X11_moreWrong se_X11_moreWrong dX11_busy_77 (fun v he => ok_X11_moreWrong hN  he) rfl (is_81 hN) ⟨_, _, rfl⟩ (by decide) (Nat.le_of_ble_eq_true rfl) ⟨by decide, by decide⟩ rfl (fun v15 m16 h => ?_)
      exact e_iret (M := md_X11_busy) (pc := 80) h rfl dX11_busy_80
    rw [if_neg c14] at h
    refine q_tabOut (M := md_X11_busy) (pc := 13) (tgt := 81) dX11_busy_13 (by omega) (by decide) ?_
    refine q_sipush (M := md_X11_busy) (pc := 81) (x := -1000) dX11_busy_81 (by decide) ?_
    exact e_iret (M := md_X11_busy) (pc := 84) h rfl dX11_busy_84
  · refine q_sipush (M := md_X11_busy) (pc := 8) (x := -1000) dX11_busy_8 (by decide) ?_
    exact e_iret (M := md_X11_busy) (pc := 11) h rfl dX11_busy_11
def f_Mod_hasPoint_b38 (k2 : Int → Int → Int → q_Mem → q_Res) (l1 l2 l3 : Int) (m : q_Mem) : q_Res :=
  k2 l1 l2 (l3 + 1) m
set_option maxRecDepth 20000 in
theorem w_Mod_hasPoint_b38 {k2 : Int → Int → Int → q_Mem → q_Res} {l1 l2 l3 : Int} {r : Int × q_Mem} {m : q_Mem} {N : Nat} (hN : 126 ≤ N) (hk2 : ∀ (l1 l2 l3 : Int) (m : q_Mem), k2 l1 l2 l3 m = some r → q_E md_X11_hasPoint 4 N (some 0) r m 2 [q_A 81, q_I l1, q_I l2, q_I l3] []) (h : f_Mod_hasPoint_b38 k2 l1 l2 l3 m = some r) : q_E md_X11_hasPoint 4 N (some 0) r m 38 [q_A 81, q_I l1, q_I l2, q_I l3] [] := by
  unfold f_Mod_hasPoint_b38 at h
  refine e_inc (M := md_X11_hasPoint) (pc := 38) (x := l3) (ls' := [q_A 81, q_I l1, q_I l2, q_I (l3 + 1)]) dX11_hasPoint_38 rfl (by decide) (q_pl rfl) rfl ?_
  refine q_goto (M := md_X11_hasPoint) (pc := 41) (tgt := 2) dX11_hasPoint_41 (by decide) ?_
  exact q_weak (hk2 _ _ _ _  h) ⟨Or.inr rfl, Or.inr rfl, Or.inr rfl, Or.inr rfl, trivial⟩
def f_Mod_hasPoint_b2 (k2 : Int → Int → Int → q_Mem → q_Res) (l1 l2 l3 : Int) (m : q_Mem) : q_Res :=
  if 100 ≤ q_w l3 then (q_rz 0 m)
  else (q_bd (f_Mod_isThere l3 m) fun v1 m2 =>
  if q_w v1 = 0 then (f_Mod_hasPoint_b38 k2 l1 l2 l3 m2)
  else (q_rd m2 117 100 l3 fun v3 =>
  if q_w v3 = q_w l1 then (q_rd m2 116 100 l3 fun v4 =>
  if q_w v4 = q_w l2 then (q_rz 1 m2)
  else (f_Mod_hasPoint_b38 k2 l1 l2 l3 m2))
  else (f_Mod_hasPoint_b38 k2 l1 l2 l3 m2)))
set_option maxRecDepth 20000 in
theorem w_Mod_hasPoint_b2 {k2 : Int → Int → Int → q_Mem → q_Res} {l1 l2 l3 : Int} {r : Int × q_Mem} {m : q_Mem} {N : Nat} (hN : 126 ≤ N) (hk2 : ∀ (l1 l2 l3 : Int) (m : q_Mem), k2 l1 l2 l3 m = some r → q_E md_X11_hasPoint 4 N (some 0) r m 2 [q_A 81, q_I l1, q_I l2, q_I l3] []) (h : f_Mod_hasPoint_b2 k2 l1 l2 l3 m = some r) : q_E md_X11_hasPoint 4 N (some 0) r m 2 [q_A 81, q_I l1, q_I l2, q_I l3] [] := by
  unfold f_Mod_hasPoint_b2 at h
  refine q_iload_n (M := md_X11_hasPoint) (pc := 2) dX11_hasPoint_2 rfl ?_
  refine q_bipush (M := md_X11_hasPoint) (pc := 3) (x := 100) dX11_hasPoint_3 (by decide) ?_
  refine e_icmp_ge (M := md_X11_hasPoint) (pc := 5) (tgt := 44) h rfl (q_wlit rfl) dX11_hasPoint_5 (by decide) (fun h => ?_) (fun h => ?_)
  · refine q_iconst (M := md_X11_hasPoint) (pc := 44) dX11_hasPoint_44 ?_
    exact e_zret (M := md_X11_hasPoint) (pc := 45) h rfl dX11_hasPoint_45
  · refine q_aload_n (M := md_X11_hasPoint) (pc := 8) dX11_hasPoint_8 rfl (by decide) ?_
    refine q_iload_n (M := md_X11_hasPoint) (pc := 9) dX11_hasPoint_9 rfl ?_
    refine e_callVi (M := md_X11_hasPoint) (pc := 10) (d' := 3) (av := [q_I l3]) (c := 81) h ml_11_333 im_X11_isThere se_X11_isThere dX11_hasPoint_10 (fun v he => ok_X11_isThere hN  he) rfl (is_81 hN) ⟨_, _, rfl⟩ (by decide) (Nat.le_of_ble_eq_true rfl) ⟨by decide, by decide⟩ rfl (fun v1 m2 h => ?_)
    refine e_if_eq (M := md_X11_hasPoint) (pc := 13) (tgt := 38) h rfl dX11_hasPoint_13 (by decide) (fun h => ?_) (fun h => ?_)
    · exact q_weak (w_Mod_hasPoint_b38 hN hk2  h) ⟨Or.inr rfl, Or.inr rfl, Or.inr rfl, Or.inr rfl, trivial⟩
    · refine q_aload_n (M := md_X11_hasPoint) (pc := 16) dX11_hasPoint_16 rfl (by decide) ?_
      refine q_getP (M := md_X11_hasPoint) (pc := 17) (v := 117) fl_11_121 dX11_hasPoint_17 (is_81 hN) rfl ?_
      refine q_iload_n (M := md_X11_hasPoint) (pc := 20) dX11_hasPoint_20 rfl ?_
      refine e_rd (M := md_X11_hasPoint) (pc := 21) h dX11_hasPoint_21 (ar_117 hN) (fun v3 h => ?_)
      refine q_iload_n (M := md_X11_hasPoint) (pc := 22) dX11_hasPoint_22 rfl ?_
      refine e_icmp_ne (M := md_X11_hasPoint) (pc := 23) (tgt := 38) h rfl rfl dX11_hasPoint_23 (by decide) (fun h => ?_) (fun h => ?_)
      · exact q_weak (w_Mod_hasPoint_b38 hN hk2  h) ⟨Or.inr rfl, Or.inr rfl, Or.inr rfl, Or.inr rfl, trivial⟩
      · refine q_aload_n (M := md_X11_hasPoint) (pc := 26) dX11_hasPoint_26 rfl (by decide) ?_
        refine q_getP (M := md_X11_hasPoint) (pc := 27) (v := 116) fl_11_118 dX11_hasPoint_27 (is_81 hN) rfl ?_
        refine q_iload_n (M := md_X11_hasPoint) (pc := 30) dX11_hasPoint_30 rfl ?_
        refine e_rd (M := md_X11_hasPoint) (pc := 31) h dX11_hasPoint_31 (ar_116 hN) (fun v4 h => ?_)
        refine q_iload_n (M := md_X11_hasPoint) (pc := 32) dX11_hasPoint_32 rfl ?_
        refine e_icmp_ne (M := md_X11_hasPoint) (pc := 33) (tgt := 38) h rfl rfl dX11_hasPoint_33 (by decide) (fun h => ?_) (fun h => ?_)
        · exact q_weak (w_Mod_hasPoint_b38 hN hk2  h) ⟨Or.inr rfl, Or.inr rfl, Or.inr rfl, Or.inr rfl, trivial⟩
        · refine q_iconst (M := md_X11_hasPoint) (pc := 36) dX11_hasPoint_36 ?_
          exact e_zret (M := md_X11_hasPoint) (pc := 37) h rfl dX11_hasPoint_37
def f_Mod_hasPoint_l2 : Nat → Int → Int → Int → q_Mem → q_Res
  | 0 => fun _ _ _ _ => none
  | n + 1 => fun l1 l2 l3 m => f_Mod_hasPoint_b2 (f_Mod_hasPoint_l2 n) l1 l2 l3 m
theorem w_Mod_hasPoint_l2 {r : Int × q_Mem} {N : Nat} (hN : 126 ≤ N) : ∀ (n : Nat) (l1 l2 l3 : Int) (m : q_Mem), f_Mod_hasPoint_l2 n l1 l2 l3 m = some r → q_E md_X11_hasPoint 4 N (some 0) r m 2 [q_A 81, q_I l1, q_I l2, q_I l3] [] := by
  intro n
  induction n with
  | zero => intro l1 l2 l3 m h; exact q_no h
  | succ n ih =>
    intro l1 l2 l3 m h
    exact w_Mod_hasPoint_b2 hN (fun l1 l2 l3 m h => ih l1 l2 l3 m h) h
def f_Mod_hasPoint (l1 l2 : Int) (m : q_Mem) : q_Res :=
  f_Mod_hasPoint_l2 q_F l1 l2 0 m
set_option maxRecDepth 20000 in
theorem ok_X11_hasPoint {l1 l2 : Int} {r : Int × q_Mem} {m : q_Mem} {N : Nat} (hN : 126 ≤ N) (h : f_Mod_hasPoint l1 l2 m = some r) : q_C md_X11_hasPoint (q_room 4) 0 0 [q_A 81, q_I l1, q_I l2] (q_g N) m (some (q_I r.1), q_g N, r.2) := by
  refine q_ofR (by decide) 1 (ls := [q_A 81, q_I l1, q_I l2, q_N]) rfl (Nat.le_of_ble_eq_true rfl) ?_
  change q_E md_X11_hasPoint 4 N (some 0) r m 0 [q_A 81, q_I l1, q_I l2, q_N] []
  unfold f_Mod_hasPoint at h
  refine q_iconst (M := md_X11_hasPoint) (pc := 0) dX11_hasPoint_0 ?_
  refine e_ist_n (M := md_X11_hasPoint) (pc := 1) (ls' := [q_A 81, q_I l1, q_I l2, q_I 0]) dX11_hasPoint_1 (by decide) (q_pl rfl) rfl ?_
  exact q_weak (w_Mod_hasPoint_l2 hN q_F _ _ _ _  h) ⟨Or.inr rfl, Or.inr rfl, Or.inr rfl, Or.inr rfl, trivial⟩
def f_Mod_idle_b48 (k21 : Int → Int → Int → Int → q_Mem → q_Res) (l1 l2 l4 s0 : Int) (m : q_Mem) : q_Res :=
  q_bd (f_Mod_more l2 s0 m) fun v1 m2 =>
  k21 l1 v1 s0 (l4 + 1) m2
set_option maxRecDepth 20000 in
theorem w_Mod_idle_b48 {k21 : Int → Int → Int → Int → q_Mem → q_Res} {l1 l2 l4 s0 : Int} {r : Int × q_Mem} {m : q_Mem} {N : Nat} (hN : 126 ≤ N) (hk21 : ∀ (l1 l2 l3 l4 : Int) (m : q_Mem), k21 l1 l2 l3 l4 m = some r → q_E md_X11_idle 8 N (some 0) r m 21 [q_A 81, q_I l1, q_I l2, q_I l3, q_I l4] []) (h : f_Mod_idle_b48 k21 l1 l2 l4 s0 m = some r) : q_E md_X11_idle 8 N (some 0) r m 48 [q_A 81, q_I l1, q_I l2, q_N, q_I l4] [q_I s0] := by
  unfold f_Mod_idle_b48 at h
  refine e_ist_n (M := md_X11_idle) (pc := 48) (ls' := [q_A 81, q_I l1, q_I l2, q_I s0, q_I l4]) dX11_idle_48 (by decide) (q_pl rfl) rfl ?_
  refine q_iload_n (M := md_X11_idle) (pc := 49) dX11_idle_49 rfl ?_
  refine q_iload_n (M := md_X11_idle) (pc := 50) dX11_idle_50 rfl ?_
  refine e_callSi (M := md_X11_idle) (pc := 51) (d' := 1) (M' := md_X11_more) (av := [q_I l2, q_I s0]) h ml_11_345 sm_X11_more dX11_idle_51 (fun v he => ok_X11_more hN  he) rfl (Nat.le_of_ble_eq_true rfl) ⟨by decide, by decide⟩ rfl (fun v1 m2 h => ?_)
  refine e_ist_n (M := md_X11_idle) (pc := 54) (ls' := [q_A 81, q_I l1, q_I v1, q_I s0, q_I l4]) dX11_idle_54 (by decide) (q_pl rfl) rfl ?_
  refine e_inc (M := md_X11_idle) (pc := 55) (x := l4) (ls' := [q_A 81, q_I l1, q_I v1, q_I s0, q_I (l4 + 1)]) dX11_idle_55 rfl (by decide) (q_pl rfl) rfl ?_
  refine q_goto (M := md_X11_idle) (pc := 58) (tgt := 21) dX11_idle_58 (by decide) ?_
  exact q_weak (hk21 _ _ _ _ _  h) ⟨Or.inr rfl, Or.inr rfl, Or.inr rfl, Or.inr rfl, Or.inr rfl, trivial⟩
def f_Mod_idle_b21 (k21 : Int → Int → Int → Int → q_Mem → q_Res) (l1 l2 l3 l4 : Int) (m : q_Mem) : q_Res :=
  q_bd (f_Mod_lastTick l1 m) fun v1 m2 =>
  if q_w v1 < q_w l4 then (q_rt l2 m2)
  else (q_bd (f_Mod_hasPoint l1 l4 m2) fun v3 m4 =>
  if q_w v3 = 0 then (f_Mod_idle_b48 k21 l1 l2 l4 (l3 + 1) m4)
  else (f_Mod_idle_b48 k21 l1 l2 l4 0 m4))
set_option maxRecDepth 20000 in
theorem w_Mod_idle_b21 {k21 : Int → Int → Int → Int → q_Mem → q_Res} {l1 l2 l3 l4 : Int} {r : Int × q_Mem} {m : q_Mem} {N : Nat} (hN : 126 ≤ N) (hk21 : ∀ (l1 l2 l3 l4 : Int) (m : q_Mem), k21 l1 l2 l3 l4 m = some r → q_E md_X11_idle 8 N (some 0) r m 21 [q_A 81, q_I l1, q_I l2, q_I l3, q_I l4] []) (h : f_Mod_idle_b21 k21 l1 l2 l3 l4 m = some r) : q_E md_X11_idle 8 N (some 0) r m 21 [q_A 81, q_I l1, q_I l2, q_I l3, q_I l4] [] := by
  unfold f_Mod_idle_b21 at h
  refine q_iload (M := md_X11_idle) (pc := 21) dX11_idle_21 rfl ?_
  refine q_aload_n (M := md_X11_idle) (pc := 23) dX11_idle_23 rfl (by decide) ?_
  refine q_iload_n (M := md_X11_idle) (pc := 24) dX11_idle_24 rfl ?_
  refine e_callVi (M := md_X11_idle) (pc := 25) (d' := 4) (av := [q_I l1]) (c := 81) h ml_11_479 im_X11_lastTick se_X11_lastTick dX11_idle_25 (fun v he => ok_X11_lastTick hN  he) rfl (is_81 hN) ⟨_, _, rfl⟩ (by decide) (Nat.le_of_ble_eq_true rfl) ⟨by decide, by decide⟩ rfl (fun v1 m2 h => ?_)
  refine e_icmp_gt (M := md_X11_idle) (pc := 28) (tgt := 61) h rfl rfl dX11_idle_28 (by decide) (fun h => ?_) (fun h => ?_)
  · refine q_iload_n (M := md_X11_idle) (pc := 61) dX11_idle_61 rfl ?_
    exact e_iret (M := md_X11_idle) (pc := 62) h rfl dX11_idle_62
  · refine q_aload_n (M := md_X11_idle) (pc := 31) dX11_idle_31 rfl (by decide) ?_
    refine q_iload_n (M := md_X11_idle) (pc := 32) dX11_idle_32 rfl ?_
    refine q_iload (M := md_X11_idle) (pc := 33) dX11_idle_33 rfl ?_
    refine e_callVi (M := md_X11_idle) (pc := 35) (d' := 4) (av := [q_I l1, q_I l4]) (c := 81) h ml_11_485 im_X11_hasPoint se_X11_hasPoint dX11_idle_35 (fun v he => ok_X11_hasPoint hN  he) rfl (is_81 hN) ⟨_, _, rfl⟩ (by decide) (Nat.le_of_ble_eq_true rfl) ⟨by decide, by decide⟩ rfl (fun v3 m4 h => ?_)
    refine e_if_eq (M := md_X11_idle) (pc := 38) (tgt := 45) h rfl dX11_idle_38 (by decide) (fun h => ?_) (fun h => ?_)
    · refine q_iload_n (M := md_X11_idle) (pc := 45) dX11_idle_45 rfl ?_
      refine q_iconst (M := md_X11_idle) (pc := 46) dX11_idle_46 ?_
      refine q_iadd (M := md_X11_idle) (pc := 47) dX11_idle_47 ?_
      exact q_weak (w_Mod_idle_b48 hN hk21  h) ⟨Or.inr rfl, Or.inr rfl, Or.inr rfl, Or.inl rfl, Or.inr rfl, trivial⟩
    · refine q_iconst (M := md_X11_idle) (pc := 41) dX11_idle_41 ?_
      refine q_goto (M := md_X11_idle) (pc := 42) (tgt := 48) dX11_idle_42 (by decide) ?_
      exact q_weak (w_Mod_idle_b48 hN hk21  h) ⟨Or.inr rfl, Or.inr rfl, Or.inr rfl, Or.inl rfl, Or.inr rfl, trivial⟩
def f_Mod_idle_l21 : Nat → Int → Int → Int → Int → q_Mem → q_Res
  | 0 => fun _ _ _ _ _ => none
  | n + 1 => fun l1 l2 l3 l4 m => f_Mod_idle_b21 (f_Mod_idle_l21 n) l1 l2 l3 l4 m
theorem w_Mod_idle_l21 {r : Int × q_Mem} {N : Nat} (hN : 126 ≤ N) : ∀ (n : Nat) (l1 l2 l3 l4 : Int) (m : q_Mem), f_Mod_idle_l21 n l1 l2 l3 l4 m = some r → q_E md_X11_idle 8 N (some 0) r m 21 [q_A 81, q_I l1, q_I l2, q_I l3, q_I l4] [] := by
  intro n
  induction n with
  | zero => intro l1 l2 l3 l4 m h; exact q_no h
  | succ n ih =>
    intro l1 l2 l3 l4 m h
    exact w_Mod_idle_b21 hN (fun l1 l2 l3 l4 m h => ih l1 l2 l3 l4 m h) h
def f_Mod_idle (l1 : Int) (m : q_Mem) : q_Res :=
  q_bd (f_Mod_isCell l1 m) fun v1 m2 =>
  if q_w v1 = 0 then (q_rt (-1) m2)
  else (q_bd (f_Mod_firstTick l1 m2) fun v3 m4 =>
  f_Mod_idle_l21 q_F l1 0 0 v3 m4)
set_option maxRecDepth 20000 in
theorem ok_X11_idle {l1 : Int} {r : Int × q_Mem} {m : q_Mem} {N : Nat} (hN : 126 ≤ N) (h : f_Mod_idle l1 m = some r) : q_C md_X11_idle (q_room 8) 0 0 [q_A 81, q_I l1] (q_g N) m (some (q_I r.1), q_g N, r.2) := by
  refine q_ofR (by decide) 3 (ls := [q_A 81, q_I l1, q_N, q_N, q_N]) rfl (Nat.le_of_ble_eq_true rfl) ?_
  change q_E md_X11_idle 8 N (some 0) r m 0 [q_A 81, q_I l1, q_N, q_N, q_N] []
  unfold f_Mod_idle at h
  refine q_aload_n (M := md_X11_idle) (pc := 0) dX11_idle_0 rfl (by decide) ?_
  refine q_iload_n (M := md_X11_idle) (pc := 1) dX11_idle_1 rfl ?_
  refine e_callVi (M := md_X11_idle) (pc := 2) (d' := 7) (av := [q_I l1]) (c := 81) h ml_11_470 im_X11_isCell se_X11_isCell dX11_idle_2 (fun v he => ok_X11_isCell hN  he) rfl (is_81 hN) ⟨_, _, rfl⟩ (by decide) (Nat.le_of_ble_eq_true rfl) ⟨by decide, by decide⟩ rfl (fun v1 m2 h => ?_)
  refine e_if_ne (M := md_X11_idle) (pc := 5) (tgt := 10) h rfl dX11_idle_5 (by decide) (fun h => ?_) (fun h => ?_)
  · refine q_iconst (M := md_X11_idle) (pc := 10) dX11_idle_10 ?_
    refine e_ist_n (M := md_X11_idle) (pc := 11) (ls' := [q_A 81, q_I l1, q_I 0, q_N, q_N]) dX11_idle_11 (by decide) (q_pl rfl) rfl ?_
    refine q_iconst (M := md_X11_idle) (pc := 12) dX11_idle_12 ?_
    refine e_ist_n (M := md_X11_idle) (pc := 13) (ls' := [q_A 81, q_I l1, q_I 0, q_I 0, q_N]) dX11_idle_13 (by decide) (q_pl rfl) rfl ?_
    refine q_aload_n (M := md_X11_idle) (pc := 14) dX11_idle_14 rfl (by decide) ?_
    refine q_iload_n (M := md_X11_idle) (pc := 15) dX11_idle_15 rfl ?_
    refine e_callVi (M := md_X11_idle) (pc := 16) (d' := 4) (av := [q_I l1]) (c := 81) h ml_11_476 im_X11_firstTick se_X11_firstTick dX11_idle_16 (fun v he => ok_X11_firstTick hN  he) rfl (is_81 hN) ⟨_, _, rfl⟩ (by decide) (Nat.le_of_ble_eq_true rfl) ⟨by decide, by decide⟩ rfl (fun v3 m4 h => ?_)
    refine e_ist (M := md_X11_idle) (pc := 19) (ls' := [q_A 81, q_I l1, q_I 0, q_I 0, q_I v3]) dX11_idle_19 (by decide) (q_pl rfl) rfl ?_
    exact q_weak (w_Mod_idle_l21 hN q_F _ _ _ _ _  h) ⟨Or.inr rfl, Or.inr rfl, Or.inr rfl, Or.inr rfl, Or.inr rfl, trivial⟩
  · refine q_iconst (M := md_X11_idle) (pc := 8) dX11_idle_8 ?_
    exact e_iret (M := md_X11_idle) (pc := 9) h rfl dX11_idle_9
def f_Mod_edgesBy_b68 (k4 : Int → Int → Int → q_Mem → q_Res) (l1 l3 s0 s1 : Int) (m : q_Mem) : q_Res :=
  k4 l1 (s0 + s1) (l3 + 1) m
set_option maxRecDepth 20000 in
theorem w_Mod_edgesBy_b68 {k4 : Int → Int → Int → q_Mem → q_Res} {l1 l3 s0 s1 : Int} {r : Int × q_Mem} {m : q_Mem} {N : Nat} (hN : 126 ≤ N) (hk4 : ∀ (l1 l2 l3 : Int) (m : q_Mem), k4 l1 l2 l3 m = some r → q_E md_X11_edgesBy 3 N (some 0) r m 4 [q_A 81, q_I l1, q_I l2, q_I l3] []) (h : f_Mod_edgesBy_b68 k4 l1 l3 s0 s1 m = some r) : q_E md_X11_edgesBy 3 N (some 0) r m 68 [q_A 81, q_I l1, q_N, q_I l3] [q_I s1, q_I s0] := by
  unfold f_Mod_edgesBy_b68 at h
  refine q_iadd (M := md_X11_edgesBy) (pc := 68) dX11_edgesBy_68 ?_
  refine e_ist_n (M := md_X11_edgesBy) (pc := 69) (ls' := [q_A 81, q_I l1, q_I (s0 + s1), q_I l3]) dX11_edgesBy_69 (by decide) (q_pl rfl) rfl ?_
  refine e_inc (M := md_X11_edgesBy) (pc := 70) (x := l3) (ls' := [q_A 81, q_I l1, q_I (s0 + s1), q_I (l3 + 1)]) dX11_edgesBy_70 rfl (by decide) (q_pl rfl) rfl ?_
  refine q_goto (M := md_X11_edgesBy) (pc := 73) (tgt := 4) dX11_edgesBy_73 (by decide) ?_
  exact q_weak (hk4 _ _ _ _  h) ⟨Or.inr rfl, Or.inr rfl, Or.inr rfl, Or.inr rfl, trivial⟩
def f_Mod_edgesBy_b4 (k4 : Int → Int → Int → q_Mem → q_Res) (l1 l2 l3 : Int) (m : q_Mem) : q_Res :=
  q_rd m 86 2 (m 81 19) fun v1 =>
  if q_w v1 ≤ q_w l3 then (q_rt l2 m)
  else (q_dv l1 10 fun v2 =>
  q_rd m 94 24 ((12 * (m 81 19)) + l3) fun v3 =>
  q_md l1 10 fun v4 =>
  q_rd m 95 24 ((12 * (m 81 19)) + l3) fun v5 =>
  q_bd (f_Mod_isPoint (v2 + v3) (v4 + v5) m) fun v6 m7 =>
  if q_w v6 = 0 then (f_Mod_edgesBy_b68 k4 l1 l3 l2 1 m7)
  else (f_Mod_edgesBy_b68 k4 l1 l3 l2 0 m7))
set_option maxRecDepth 20000 in
theorem w_Mod_edgesBy_b4 {k4 : Int → Int → Int → q_Mem → q_Res} {l1 l2 l3 : Int} {r : Int × q_Mem} {m : q_Mem} {N : Nat} (hN : 126 ≤ N) (hk4 : ∀ (l1 l2 l3 : Int) (m : q_Mem), k4 l1 l2 l3 m = some r → q_E md_X11_edgesBy 3 N (some 0) r m 4 [q_A 81, q_I l1, q_I l2, q_I l3] []) (h : f_Mod_edgesBy_b4 k4 l1 l2 l3 m = some r) : q_E md_X11_edgesBy 3 N (some 0) r m 4 [q_A 81, q_I l1, q_I l2, q_I l3] [] := by
  unfold f_Mod_edgesBy_b4 at h
  refine q_iload_n (M := md_X11_edgesBy) (pc := 4) dX11_edgesBy_4 rfl ?_
  refine q_aload_n (M := md_X11_edgesBy) (pc := 5) dX11_edgesBy_5 rfl (by decide) ?_
  refine q_getP (M := md_X11_edgesBy) (pc := 6) (v := 86) fl_11_22 dX11_edgesBy_6 (is_81 hN) rfl ?_
  refine q_aload_n (M := md_X11_edgesBy) (pc := 9) dX11_edgesBy_9 rfl (by decide) ?_
  refine e_gI (M := md_X11_edgesBy) (pc := 10) (v := m 81 19) fl_11_306 dX11_edgesBy_10 (is_81 hN) rfl ?_
  refine e_rd (M := md_X11_edgesBy) (pc := 13) h dX11_edgesBy_13 (ar_86 hN) (fun v1 h => ?_)
  refine e_icmp_ge (M := md_X11_edgesBy) (pc := 14) (tgt := 76) h rfl rfl dX11_edgesBy_14 (by decide) (fun h => ?_) (fun h => ?_)
  · refine q_iload_n (M := md_X11_edgesBy) (pc := 76) dX11_edgesBy_76 rfl ?_
    exact e_iret (M := md_X11_edgesBy) (pc := 77) h rfl dX11_edgesBy_77
  · refine q_iload_n (M := md_X11_edgesBy) (pc := 17) dX11_edgesBy_17 rfl ?_
    refine q_aload_n (M := md_X11_edgesBy) (pc := 18) dX11_edgesBy_18 rfl (by decide) ?_
    refine q_iload_n (M := md_X11_edgesBy) (pc := 19) dX11_edgesBy_19 rfl ?_
    refine q_bipush (M := md_X11_edgesBy) (pc := 20) (x := 10) dX11_edgesBy_20 (by decide) ?_
    refine e_dv (M := md_X11_edgesBy) (pc := 22) h dX11_edgesBy_22 (fun v2 h => ?_)
    refine q_aload_n (M := md_X11_edgesBy) (pc := 23) dX11_edgesBy_23 rfl (by decide) ?_
    refine q_getP (M := md_X11_edgesBy) (pc := 24) (v := 94) fl_11_46 dX11_edgesBy_24 (is_81 hN) rfl ?_
    refine q_bipush (M := md_X11_edgesBy) (pc := 27) (x := 12) dX11_edgesBy_27 (by decide) ?_
    refine q_aload_n (M := md_X11_edgesBy) (pc := 29) dX11_edgesBy_29 rfl (by decide) ?_
    refine e_gI (M := md_X11_edgesBy) (pc := 30) (v := m 81 19) fl_11_306 dX11_edgesBy_30 (is_81 hN) rfl ?_
    refine q_imul (M := md_X11_edgesBy) (pc := 33) dX11_edgesBy_33 ?_
    refine q_iload_n (M := md_X11_edgesBy) (pc := 34) dX11_edgesBy_34 rfl ?_
    refine q_iadd (M := md_X11_edgesBy) (pc := 35) dX11_edgesBy_35 ?_
    refine e_rd (M := md_X11_edgesBy) (pc := 36) h dX11_edgesBy_36 (ar_94 hN) (fun v3 h => ?_)
    refine q_iadd (M := md_X11_edgesBy) (pc := 37) dX11_edgesBy_37 ?_
    refine q_iload_n (M := md_X11_edgesBy) (pc := 38) dX11_edgesBy_38 rfl ?_
    refine q_bipush (M := md_X11_edgesBy) (pc := 39) (x := 10) dX11_edgesBy_39 (by decide) ?_
    refine e_md (M := md_X11_edgesBy) (pc := 41) h dX11_edgesBy_41 (fun v4 h => ?_)
    refine q_aload_n (M := md_X11_edgesBy) (pc := 42) dX11_edgesBy_42 rfl (by decide) ?_
    refine q_getP (M := md_X11_edgesBy) (pc := 43) (v := 95) fl_11_49 dX11_edgesBy_43 (is_81 hN) rfl ?_
    refine q_bipush (M := md_X11_edgesBy) (pc := 46) (x := 12) dX11_edgesBy_46 (by decide) ?_
    refine q_aload_n (M := md_X11_edgesBy) (pc := 48) dX11_edgesBy_48 rfl (by decide) ?_
    refine e_gI (M := md_X11_edgesBy) (pc := 49) (v := m 81 19) fl_11_306 dX11_edgesBy_49 (is_81 hN) rfl ?_
    refine q_imul (M := md_X11_edgesBy) (pc := 52) dX11_edgesBy_52 ?_
    refine q_iload_n (M := md_X11_edgesBy) (pc := 53) dX11_edgesBy_53 rfl ?_
    refine q_iadd (M := md_X11_edgesBy) (pc := 54) dX11_edgesBy_54 ?_
    refine e_rd (M := md_X11_edgesBy) (pc := 55) h dX11_edgesBy_55 (ar_95 hN) (fun v5 h => ?_)
    refine q_iadd (M := md_X11_edgesBy) (pc := 56) dX11_edgesBy_56 ?_
    refine e_callVi (M := md_X11_edgesBy) (pc := 57) (d' := 2) (av := [q_I (v2 + v3), q_I (v4 + v5)]) (c := 81) h ml_11_324 im_X11_isPoint se_X11_isPoint dX11_edgesBy_57 (fun v he => ok_X11_isPoint hN  he) rfl (is_81 hN) ⟨_, _, rfl⟩ (by decide) (Nat.le_of_ble_eq_true rfl) ⟨by decide, by decide⟩ rfl (fun v6 m7 h => ?_)
    refine e_if_eq (M := md_X11_edgesBy) (pc := 60) (tgt := 67) h rfl dX11_edgesBy_60 (by decide) (fun h => ?_) (fun h => ?_)
    · refine q_iconst (M := md_X11_edgesBy) (pc := 67) dX11_edgesBy_67 ?_
      exact q_weak (w_Mod_edgesBy_b68 hN hk4  h) ⟨Or.inr rfl, Or.inr rfl, Or.inl rfl, Or.inr rfl, trivial⟩
    · refine q_iconst (M := md_X11_edgesBy) (pc := 63) dX11_edgesBy_63 ?_
      refine q_goto (M := md_X11_edgesBy) (pc := 64) (tgt := 68) dX11_edgesBy_64 (by decide) ?_
      exact q_weak (w_Mod_edgesBy_b68 hN hk4  h) ⟨Or.inr rfl, Or.inr rfl, Or.inl rfl, Or.inr rfl, trivial⟩
def f_Mod_edgesBy_l4 : Nat → Int → Int → Int → q_Mem → q_Res
  | 0 => fun _ _ _ _ => none
  | n + 1 => fun l1 l2 l3 m => f_Mod_edgesBy_b4 (f_Mod_edgesBy_l4 n) l1 l2 l3 m
theorem w_Mod_edgesBy_l4 {r : Int × q_Mem} {N : Nat} (hN : 126 ≤ N) : ∀ (n : Nat) (l1 l2 l3 : Int) (m : q_Mem), f_Mod_edgesBy_l4 n l1 l2 l3 m = some r → q_E md_X11_edgesBy 3 N (some 0) r m 4 [q_A 81, q_I l1, q_I l2, q_I l3] [] := by
  intro n
  induction n with
  | zero => intro l1 l2 l3 m h; exact q_no h
  | succ n ih =>
    intro l1 l2 l3 m h
    exact w_Mod_edgesBy_b4 hN (fun l1 l2 l3 m h => ih l1 l2 l3 m h) h
def f_Mod_edgesBy (l1 : Int) (m : q_Mem) : q_Res :=
  f_Mod_edgesBy_l4 q_F l1 0 0 m
set_option maxRecDepth 20000 in
theorem ok_X11_edgesBy {l1 : Int} {r : Int × q_Mem} {m : q_Mem} {N : Nat} (hN : 126 ≤ N) (h : f_Mod_edgesBy l1 m = some r) : q_C md_X11_edgesBy (q_room 3) 0 0 [q_A 81, q_I l1] (q_g N) m (some (q_I r.1), q_g N, r.2) := by
  refine q_ofR (by decide) 2 (ls := [q_A 81, q_I l1, q_N, q_N]) rfl (Nat.le_of_ble_eq_true rfl) ?_
  change q_E md_X11_edgesBy 3 N (some 0) r m 0 [q_A 81, q_I l1, q_N, q_N] []
  unfold f_Mod_edgesBy at h
  refine q_iconst (M := md_X11_edgesBy) (pc := 0) dX11_edgesBy_0 ?_
  refine e_ist_n (M := md_X11_edgesBy) (pc := 1) (ls' := [q_A 81, q_I l1, q_I 0, q_N]) dX11_edgesBy_1 (by decide) (q_pl rfl) rfl ?_
  refine q_iconst (M := md_X11_edgesBy) (pc := 2) dX11_edgesBy_2 ?_
  refine e_ist_n (M := md_X11_edgesBy) (pc := 3) (ls' := [q_A 81, q_I l1, q_I 0, q_I 0]) dX11_edgesBy_3 (by decide) (q_pl rfl) rfl ?_
  exact q_weak (w_Mod_edgesBy_l4 hN q_F _ _ _ _  h) ⟨Or.inr rfl, Or.inr rfl, Or.inr rfl, Or.inr rfl, trivial⟩
def f_Mod_hasReader_b2 (k2 : Int → Int → q_Mem → q_Res) (l1 l2 : Int) (m : q_Mem) : q_Res :=
  q_bd (f_Mod_offsetsNow m) fun v1 m2 =>
  if q_w v1 ≤ q_w l2 then (q_rz 0 m2)
  else (q_bd (f_Mod_readerBy l1 l2 m2) fun v3 m4 =>
  if q_w v3 < 0 then (k2 l1 (l2 + 1) m4)
  else (q_rz 1 m4))
set_option maxRecDepth 20000 in
theorem w_Mod_hasReader_b2 {k2 : Int → Int → q_Mem → q_Res} {l1 l2 : Int} {r : Int × q_Mem} {m : q_Mem} {N : Nat} (hN : 126 ≤ N) (hk2 : ∀ (l1 l2 : Int) (m : q_Mem), k2 l1 l2 m = some r → q_E md_X11_hasReader 4 N (some 0) r m 2 [q_A 81, q_I l1, q_I l2] []) (h : f_Mod_hasReader_b2 k2 l1 l2 m = some r) : q_E md_X11_hasReader 4 N (some 0) r m 2 [q_A 81, q_I l1, q_I l2] [] := by
  unfold f_Mod_hasReader_b2 at h
  refine q_iload_n (M := md_X11_hasReader) (pc := 2) dX11_hasReader_2 rfl ?_
  refine q_aload_n (M := md_X11_hasReader) (pc := 3) dX11_hasReader_3 rfl (by decide) ?_
  refine e_callVi (M := md_X11_hasReader) (pc := 4) (d' := 1) (av := []) (c := 81) h ml_11_339 im_X11_offsetsNow se_X11_offsetsNow dX11_hasReader_4 (fun v he => ok_X11_offsetsNow hN  he) rfl (is_81 hN) ⟨_, _, rfl⟩ (by decide) (Nat.le_of_ble_eq_true rfl) ⟨by decide, by decide⟩ rfl (fun v1 m2 h => ?_)
  refine e_icmp_ge (M := md_X11_hasReader) (pc := 7) (tgt := 27) h rfl rfl dX11_hasReader_7 (by decide) (fun h => ?_) (fun h => ?_)
  · refine q_iconst (M := md_X11_hasReader) (pc := 27) dX11_hasReader_27 ?_
    exact e_zret (M := md_X11_hasReader) (pc := 28) h rfl dX11_hasReader_28
  · refine q_aload_n (M := md_X11_hasReader) (pc := 10) dX11_hasReader_10 rfl (by decide) ?_
    refine q_iload_n (M := md_X11_hasReader) (pc := 11) dX11_hasReader_11 rfl ?_
    refine q_iload_n (M := md_X11_hasReader) (pc := 12) dX11_hasReader_12 rfl ?_
    refine e_callVi (M := md_X11_hasReader) (pc := 13) (d' := 3) (av := [q_I l1, q_I l2]) (c := 81) h ml_11_354 im_X11_readerBy se_X11_readerBy dX11_hasReader_13 (fun v he => ok_X11_readerBy hN  he) rfl (is_81 hN) ⟨_, _, rfl⟩ (by decide) (Nat.le_of_ble_eq_true rfl) ⟨by decide, by decide⟩ rfl (fun v3 m4 h => ?_)
    refine e_if_lt (M := md_X11_hasReader) (pc := 16) (tgt := 21) h rfl dX11_hasReader_16 (by decide) (fun h => ?_) (fun h => ?_)
    · refine e_inc (M := md_X11_hasReader) (pc := 21) (x := l2) (ls' := [q_A 81, q_I l1, q_I (l2 + 1)]) dX11_hasReader_21 rfl (by decide) (q_pl rfl) rfl ?_
      refine q_goto (M := md_X11_hasReader) (pc := 24) (tgt := 2) dX11_hasReader_24 (by decide) ?_
      exact q_weak (hk2 _ _ _  h) ⟨Or.inr rfl, Or.inr rfl, Or.inr rfl, trivial⟩
    · refine q_iconst (M := md_X11_hasReader) (pc := 19) dX11_hasReader_19 ?_
      exact e_zret (M := md_X11_hasReader) (pc := 20) h rfl dX11_hasReader_20
def f_Mod_hasReader_l2 : Nat → Int → Int → q_Mem → q_Res
  | 0 => fun _ _ _ => none
  | n + 1 => fun l1 l2 m => f_Mod_hasReader_b2 (f_Mod_hasReader_l2 n) l1 l2 m
theorem w_Mod_hasReader_l2 {r : Int × q_Mem} {N : Nat} (hN : 126 ≤ N) : ∀ (n : Nat) (l1 l2 : Int) (m : q_Mem), f_Mod_hasReader_l2 n l1 l2 m = some r → q_E md_X11_hasReader 4 N (some 0) r m 2 [q_A 81, q_I l1, q_I l2] [] := by
  intro n
  induction n with
  | zero => intro l1 l2 m h; exact q_no h
  | succ n ih =>
    intro l1 l2 m h
    exact w_Mod_hasReader_b2 hN (fun l1 l2 m h => ih l1 l2 m h) h
def f_Mod_hasReader (l1 : Int) (m : q_Mem) : q_Res :=
  f_Mod_hasReader_l2 q_F l1 0 m
set_option maxRecDepth 20000 in
theorem ok_X11_hasReader {l1 : Int} {r : Int × q_Mem} {m : q_Mem} {N : Nat} (hN : 126 ≤ N) (h : f_Mod_hasReader l1 m = some r) : q_C md_X11_hasReader (q_room 4) 0 0 [q_A 81, q_I l1] (q_g N) m (some (q_I r.1), q_g N, r.2) := by
  refine q_ofR (by decide) 1 (ls := [q_A 81, q_I l1, q_N]) rfl (Nat.le_of_ble_eq_true rfl) ?_
  change q_E md_X11_hasReader 4 N (some 0) r m 0 [q_A 81, q_I l1, q_N] []
  unfold f_Mod_hasReader at h
  refine q_iconst (M := md_X11_hasReader) (pc := 0) dX11_hasReader_0 ?_
  refine e_ist_n (M := md_X11_hasReader) (pc := 1) (ls' := [q_A 81, q_I l1, q_I 0]) dX11_hasReader_1 (by decide) (q_pl rfl) rfl ?_
  exact q_weak (w_Mod_hasReader_l2 hN q_F _ _ _  h) ⟨Or.inr rfl, Or.inr rfl, Or.inr rfl, trivial⟩
def f_Mod_flow_b94 (k24 : Int → Int → Int → Int → q_Mem → q_Res) (l1 l2 l3 l4 : Int) (m : q_Mem) : q_Res :=
  k24 l1 l2 l3 (l4 + 1) m
set_option maxRecDepth 20000 in
theorem w_Mod_flow_b94 {k24 : Int → Int → Int → Int → q_Mem → q_Res} {l1 l2 l3 l4 : Int} {r : Int × q_Mem} {m : q_Mem} {N : Nat} (hN : 126 ≤ N) (hk24 : ∀ (l1 l2 l3 l4 : Int) (m : q_Mem), k24 l1 l2 l3 l4 m = some r → q_E md_X11_flow 7 N (some 0) r m 24 [q_A 81, q_I l1, q_I l2, q_I l3, q_I l4] []) (h : f_Mod_flow_b94 k24 l1 l2 l3 l4 m = some r) : q_E md_X11_flow 7 N (some 0) r m 94 [q_A 81, q_I l1, q_I l2, q_I l3, q_I l4] [] := by
  unfold f_Mod_flow_b94 at h
  refine e_inc (M := md_X11_flow) (pc := 94) (x := l4) (ls' := [q_A 81, q_I l1, q_I l2, q_I l3, q_I (l4 + 1)]) dX11_flow_94 rfl (by decide) (q_pl rfl) rfl ?_
  refine q_goto (M := md_X11_flow) (pc := 97) (tgt := 24) dX11_flow_97 (by decide) ?_
  exact q_weak (hk24 _ _ _ _ _  h) ⟨Or.inr rfl, Or.inr rfl, Or.inr rfl, Or.inr rfl, Or.inr rfl, trivial⟩
def f_Mod_flow_b92 (k24 : Int → Int → Int → Int → q_Mem → q_Res) (l1 l2 l4 s0 s1 : Int) (m : q_Mem) : q_Res :=
  f_Mod_flow_b94 k24 l1 l2 (s0 + s1) l4 m
set_option maxRecDepth 20000 in
theorem w_Mod_flow_b92 {k24 : Int → Int → Int → Int → q_Mem → q_Res} {l1 l2 l4 s0 s1 : Int} {r : Int × q_Mem} {m : q_Mem} {N : Nat} (hN : 126 ≤ N) (hk24 : ∀ (l1 l2 l3 l4 : Int) (m : q_Mem), k24 l1 l2 l3 l4 m = some r → q_E md_X11_flow 7 N (some 0) r m 24 [q_A 81, q_I l1, q_I l2, q_I l3, q_I l4] []) (h : f_Mod_flow_b92 k24 l1 l2 l4 s0 s1 m = some r) : q_E md_X11_flow 7 N (some 0) r m 92 [q_A 81, q_I l1, q_I l2, q_N, q_I l4] [q_I s1, q_I s0] := by
  unfold f_Mod_flow_b92 at h
  refine q_iadd (M := md_X11_flow) (pc := 92) dX11_flow_92 ?_
  refine e_ist_n (M := md_X11_flow) (pc := 93) (ls' := [q_A 81, q_I l1, q_I l2, q_I (s0 + s1), q_I l4]) dX11_flow_93 (by decide) (q_pl rfl) rfl ?_
  exact q_weak (w_Mod_flow_b94 hN hk24  h) ⟨Or.inr rfl, Or.inr rfl, Or.inr rfl, Or.inr rfl, Or.inr rfl, trivial⟩
def f_Mod_flow_b24 (k24 : Int → Int → Int → Int → q_Mem → q_Res) (l1 l2 l3 l4 : Int) (m : q_Mem) : q_Res :=
  if 100 ≤ q_w l4 then (q_rt l3 m)
  else (q_bd (f_Mod_isThere l4 m) fun v1 m2 =>
  if q_w v1 = 0 then (f_Mod_flow_b94 k24 l1 l2 l3 l4 m2)
  else (q_rd m2 116 100 l4 fun v3 =>
  if q_w v3 = q_w l1 then (q_rd m2 118 100 l4 fun v4 =>
  if q_w v4 = 0 then (if q_w l2 = 0 then (q_bd (f_Mod_edgesBy l4 m2) fun v7 m8 =>
  f_Mod_flow_b92 k24 l1 l2 l4 l3 v7 m8)
  else (q_bd (f_Mod_hasReader l4 m2) fun v5 m6 =>
  if q_w v5 = 0 then (f_Mod_flow_b92 k24 l1 l2 l4 l3 1 m6)
  else (f_Mod_flow_b92 k24 l1 l2 l4 l3 0 m6)))
  else (f_Mod_flow_b94 k24 l1 l2 l3 l4 m2))
  else (f_Mod_flow_b94 k24 l1 l2 l3 l4 m2)))
set_option maxRecDepth 20000 in
theorem w_Mod_flow_b24 {k24 : Int → Int → Int → Int → q_Mem → q_Res} {l1 l2 l3 l4 : Int} {r : Int × q_Mem} {m : q_Mem} {N : Nat} (hN : 126 ≤ N) (hk24 : ∀ (l1 l2 l3 l4 : Int) (m : q_Mem), k24 l1 l2 l3 l4 m = some r → q_E md_X11_flow 7 N (some 0) r m 24 [q_A 81, q_I l1, q_I l2, q_I l3, q_I l4] []) (h : f_Mod_flow_b24 k24 l1 l2 l3 l4 m = some r) : q_E md_X11_flow 7 N (some 0) r m 24 [q_A 81, q_I l1, q_I l2, q_I l3, q_I l4] [] := by
  unfold f_Mod_flow_b24 at h
  refine q_iload (M := md_X11_flow) (pc := 24) dX11_flow_24 rfl ?_
  refine q_bipush (M := md_X11_flow) (pc := 26) (x := 100) dX11_flow_26 (by decide) ?_
  refine e_icmp_ge (M := md_X11_flow) (pc := 28) (tgt := 100) h rfl (q_wlit rfl) dX11_flow_28 (by decide) (fun h => ?_) (fun h => ?_)
  · refine q_iload_n (M := md_X11_flow) (pc := 100) dX11_flow_100 rfl ?_
    exact e_iret (M := md_X11_flow) (pc := 101) h rfl dX11_flow_101
  · refine q_aload_n (M := md_X11_flow) (pc := 31) dX11_flow_31 rfl (by decide) ?_
    refine q_iload (M := md_X11_flow) (pc := 32) dX11_flow_32 rfl ?_
    refine e_callVi (M := md_X11_flow) (pc := 34) (d' := 3) (av := [q_I l4]) (c := 81) h ml_11_333 im_X11_isThere se_X11_isThere dX11_flow_34 (fun v he => ok_X11_isThere hN  he) rfl (is_81 hN) ⟨_, _, rfl⟩ (by decide) (Nat.le_of_ble_eq_true rfl) ⟨by decide, by decide⟩ rfl (fun v1 m2 h => ?_)
    refine e_if_eq (M := md_X11_flow) (pc := 37) (tgt := 94) h rfl dX11_flow_37 (by decide) (fun h => ?_) (fun h => ?_)
    · exact q_weak (w_Mod_flow_b94 hN hk24  h) ⟨Or.inr rfl, Or.inr rfl, Or.inr rfl, Or.inr rfl, Or.inr rfl, trivial⟩
    · refine q_aload_n (M := md_X11_flow) (pc := 40) dX11_flow_40 rfl (by decide) ?_
      refine q_getP (M := md_X11_flow) (pc := 41) (v := 116) fl_11_118 dX11_flow_41 (is_81 hN) rfl ?_
      refine q_iload (M := md_X11_flow) (pc := 44) dX11_flow_44 rfl ?_
      refine e_rd (M := md_X11_flow) (pc := 46) h dX11_flow_46 (ar_116 hN) (fun v3 h => ?_)
      refine q_iload_n (M := md_X11_flow) (pc := 47) dX11_flow_47 rfl ?_
      refine e_icmp_ne (M := md_X11_flow) (pc := 48) (tgt := 94) h rfl rfl dX11_flow_48 (by decide) (fun h => ?_) (fun h => ?_)
      · exact q_weak (w_Mod_flow_b94 hN hk24  h) ⟨Or.inr rfl, Or.inr rfl, Or.inr rfl, Or.inr rfl, Or.inr rfl, trivial⟩
      · refine q_aload_n (M := md_X11_flow) (pc := 51) dX11_flow_51 rfl (by decide) ?_
        refine q_getP (M := md_X11_flow) (pc := 52) (v := 118) fl_11_124 dX11_flow_52 (is_81 hN) rfl ?_
        refine q_iload (M := md_X11_flow) (pc := 55) dX11_flow_55 rfl ?_
        refine e_rdz (M := md_X11_flow) (pc := 57) h dX11_flow_57 (ar_118 hN) (fun v4 h => ?_)
        refine e_if_eq (M := md_X11_flow) (pc := 58) (tgt := 64) h rfl dX11_flow_58 (by decide) (fun h => ?_) (fun h => ?_)
        · refine q_iload_n (M := md_X11_flow) (pc := 64) dX11_flow_64 rfl ?_
          refine q_iload_n (M := md_X11_flow) (pc := 65) dX11_flow_65 rfl ?_
          refine e_if_ne (M := md_X11_flow) (pc := 66) (tgt := 78) h rfl dX11_flow_66 (by decide) (fun h => ?_) (fun h => ?_)
          · refine q_aload_n (M := md_X11_flow) (pc := 78) dX11_flow_78 rfl (by decide) ?_
            refine q_iload (M := md_X11_flow) (pc := 79) dX11_flow_79 rfl ?_
            refine e_callVi (M := md_X11_flow) (pc := 81) (d' := 4) (av := [q_I l4]) (c := 81) h ml_11_491 im_X11_hasReader se_X11_hasReader dX11_flow_81 (fun v he => ok_X11_hasReader hN  he) rfl (is_81 hN) ⟨_, _, rfl⟩ (by decide) (Nat.le_of_ble_eq_true rfl) ⟨by decide, by decide⟩ rfl (fun v5 m6 h => ?_)
            refine e_if_eq (M := md_X11_flow) (pc := 84) (tgt := 91) h rfl dX11_flow_84 (by decide) (fun h => ?_) (fun h => ?_)
            · refine q_iconst (M := md_X11_flow) (pc := 91) dX11_flow_91 ?_
              exact q_weak (w_Mod_flow_b92 hN hk24  h) ⟨Or.inr rfl, Or.inr rfl, Or.inr rfl, Or.inl rfl, Or.inr rfl, trivial⟩
            · refine q_iconst (M := md_X11_flow) (pc := 87) dX11_flow_87 ?_
              refine q_goto (M := md_X11_flow) (pc := 88) (tgt := 92) dX11_flow_88 (by decide) ?_
              exact q_weak (w_Mod_flow_b92 hN hk24  h) ⟨Or.inr rfl, Or.inr rfl, Or.inr rfl, Or.inl rfl, Or.inr rfl, trivial⟩
          · refine q_aload_n (M := md_X11_flow) (pc := 69) dX11_flow_69 rfl (by decide) ?_
            refine q_iload (M := md_X11_flow) (pc := 70) dX11_flow_70 rfl ?_
            refine e_callVi (M := md_X11_flow) (pc := 72) (d' := 3) (av := [q_I l4]) (c := 81) h ml_11_488 im_X11_edgesBy se_X11_edgesBy dX11_flow_72 (fun v he => ok_X11_edgesBy hN  he) rfl (is_81 hN) ⟨_, _, rfl⟩ (by decide) (Nat.le_of_ble_eq_true rfl) ⟨by decide, by decide⟩ rfl (fun v7 m8 h => ?_)
            refine q_goto (M := md_X11_flow) (pc := 75) (tgt := 92) dX11_flow_75 (by decide) ?_
            exact q_weak (w_Mod_flow_b92 hN hk24  h) ⟨Or.inr rfl, Or.inr rfl, Or.inr rfl, Or.inl rfl, Or.inr rfl, trivial⟩
        · refine q_goto (M := md_X11_flow) (pc := 61) (tgt := 94) dX11_flow_61 (by decide) ?_
          exact q_weak (w_Mod_flow_b94 hN hk24  h) ⟨Or.inr rfl, Or.inr rfl, Or.inr rfl, Or.inr rfl, Or.inr rfl, trivial⟩
def f_Mod_flow_l24 : Nat → Int → Int → Int → Int → q_Mem → q_Res
  | 0 => fun _ _ _ _ _ => none
  | n + 1 => fun l1 l2 l3 l4 m => f_Mod_flow_b24 (f_Mod_flow_l24 n) l1 l2 l3 l4 m
theorem w_Mod_flow_l24 {r : Int × q_Mem} {N : Nat} (hN : 126 ≤ N) : ∀ (n : Nat) (l1 l2 l3 l4 : Int) (m : q_Mem), f_Mod_flow_l24 n l1 l2 l3 l4 m = some r → q_E md_X11_flow 7 N (some 0) r m 24 [q_A 81, q_I l1, q_I l2, q_I l3, q_I l4] [] := by
  intro n
  induction n with
  | zero => intro l1 l2 l3 l4 m h; exact q_no h
  | succ n ih =>
    intro l1 l2 l3 l4 m h
    exact w_Mod_flow_b24 hN (fun l1 l2 l3 l4 m h => ih l1 l2 l3 l4 m h) h
def f_Mod_flow (l1 l2 : Int) (m : q_Mem) : q_Res :=
  if q_w l1 < 0 then (q_rt (-1) m)
  else (q_bd (f_Mod_isIn l2 0 1 m) fun v1 m2 =>
  if q_w v1 = 0 then (q_rt (-1) m2)
  else (q_bd (f_Mod_layNow m2) fun _ m3 =>
  f_Mod_flow_l24 q_F l1 l2 0 0 m3))
set_option maxRecDepth 20000 in
theorem ok_X11_flow {l1 l2 : Int} {r : Int × q_Mem} {m : q_Mem} {N : Nat} (hN : 126 ≤ N) (h : f_Mod_flow l1 l2 m = some r) : q_C md_X11_flow (q_room 7) 0 0 [q_A 81, q_I l1, q_I l2] (q_g N) m (some (q_I r.1), q_g N, r.2) := by
  refine q_ofR (by decide) 2 (ls := [q_A 81, q_I l1, q_I l2, q_N, q_N]) rfl (Nat.le_of_ble_eq_true rfl) ?_
  change q_E md_X11_flow 7 N (some 0) r m 0 [q_A 81, q_I l1, q_I l2, q_N, q_N] []
  unfold f_Mod_flow at h
  refine q_iload_n (M := md_X11_flow) (pc := 0) dX11_flow_0 rfl ?_
  refine e_if_lt (M := md_X11_flow) (pc := 1) (tgt := 13) h rfl dX11_flow_1 (by decide) (fun h => ?_) (fun h => ?_)
  · refine q_iconst (M := md_X11_flow) (pc := 13) dX11_flow_13 ?_
    exact e_iret (M := md_X11_flow) (pc := 14) h rfl dX11_flow_14
  · refine q_iload_n (M := md_X11_flow) (pc := 4) dX11_flow_4 rfl ?_
    refine q_iconst (M := md_X11_flow) (pc := 5) dX11_flow_5 ?_
    refine q_iconst (M := md_X11_flow) (pc := 6) dX11_flow_6 ?_
    refine e_callSi (M := md_X11_flow) (pc := 7) (d' := 1) (M' := md_X11_isIn) (av := [q_I l2, q_I 0, q_I 1]) h ml_11_221 sm_X11_isIn dX11_flow_7 (fun v he => ok_X11_isIn hN  he) rfl (Nat.le_of_ble_eq_true rfl) ⟨by decide, by decide⟩ rfl (fun v1 m2 h => ?_)
    refine e_if_ne (M := md_X11_flow) (pc := 10) (tgt := 15) h rfl dX11_flow_10 (by decide) (fun h => ?_) (fun h => ?_)
    · refine q_aload_n (M := md_X11_flow) (pc := 15) dX11_flow_15 rfl (by decide) ?_
      refine e_callVv (M := md_X11_flow) (pc := 16) (d' := 6) (av := []) (c := 81) h ml_11_437 im_X11_layNow se_X11_layNow dX11_flow_16 (fun v he => ok_X11_layNow hN  he) rfl (is_81 hN) ⟨_, _, rfl⟩ (by decide) (Nat.le_of_ble_eq_true rfl) ⟨by decide, by decide⟩ rfl (fun _ m3 h => ?_)
      refine q_iconst (M := md_X11_flow) (pc := 19) dX11_flow_19 ?_
      refine e_ist_n (M := md_X11_flow) (pc := 20) (ls' := [q_A 81, q_I l1, q_I l2, q_I 0, q_N]) dX11_flow_20 (by decide) (q_pl rfl) rfl ?_
      refine q_iconst (M := md_X11_flow) (pc := 21) dX11_flow_21 ?_
      refine e_ist (M := md_X11_flow) (pc := 22) (ls' := [q_A 81, q_I l1, q_I l2, q_I 0, q_I 0]) dX11_flow_22 (by decide) (q_pl rfl) rfl ?_
      exact q_weak (w_Mod_flow_l24 hN q_F _ _ _ _ _  h) ⟨Or.inr rfl, Or.inr rfl, Or.inr rfl, Or.inr rfl, Or.inr rfl, trivial⟩
    · refine q_iconst (M := md_X11_flow) (pc := 13) dX11_flow_13 ?_
      exact e_iret (M := md_X11_flow) (pc := 14) h rfl dX11_flow_14
def f_Mod_beginBest (m : q_Mem) : q_Res :=
  q_pf m 81 57 0 fun m1 =>
  q_pf m1 81 58 1000000 fun m2 =>
  q_pf m2 81 59 0 fun m3 =>
  q_pf m3 81 60 0 fun m4 =>
  q_pf m4 81 61 0 fun m5 =>
  q_pf m5 81 62 0 fun m6 =>
  q_rt 0 m6
set_option maxRecDepth 20000 in
theorem ok_X11_beginBest {r : Int × q_Mem} {m : q_Mem} {N : Nat} (hN : 126 ≤ N) (h : f_Mod_beginBest m = some r) : q_C md_X11_beginBest (q_room 1) 0 0 [q_A 81] (q_g N) m (none, q_g N, r.2) := by
  refine q_ofR (by decide) 0 (ls := [q_A 81]) rfl (Nat.le_of_ble_eq_true rfl) ?_
  change q_E md_X11_beginBest 1 N (none) r m 0 [q_A 81] []
  unfold f_Mod_beginBest at h
  refine q_aload_n (M := md_X11_beginBest) (pc := 0) dX11_beginBest_0 rfl (by decide) ?_
  refine q_iconst (M := md_X11_beginBest) (pc := 1) dX11_beginBest_1 ?_
  refine e_pfI (M := md_X11_beginBest) (pc := 2) h fl_11_494 dX11_beginBest_2 (is_81 hN) rfl (fun m1 h => ?_)
  refine q_aload_n (M := md_X11_beginBest) (pc := 5) dX11_beginBest_5 rfl (by decide) ?_
  refine q_ldc_w (M := md_X11_beginBest) (pc := 6) (x := 1000000) dX11_beginBest_6 co_11_414 (by decide) ?_
  refine e_pfI (M := md_X11_beginBest) (pc := 9) h fl_11_497 dX11_beginBest_9 (is_81 hN) rfl (fun m2 h => ?_)
  refine q_aload_n (M := md_X11_beginBest) (pc := 12) dX11_beginBest_12 rfl (by decide) ?_
  refine q_iconst (M := md_X11_beginBest) (pc := 13) dX11_beginBest_13 ?_
  refine e_pfI (M := md_X11_beginBest) (pc := 14) h fl_11_500 dX11_beginBest_14 (is_81 hN) rfl (fun m3 h => ?_)
  refine q_aload_n (M := md_X11_beginBest) (pc := 17) dX11_beginBest_17 rfl (by decide) ?_
  refine q_iconst (M := md_X11_beginBest) (pc := 18) dX11_beginBest_18 ?_
  refine e_pfI (M := md_X11_beginBest) (pc := 19) h fl_11_503 dX11_beginBest_19 (is_81 hN) rfl (fun m4 h => ?_)
  refine q_aload_n (M := md_X11_beginBest) (pc := 22) dX11_beginBest_22 rfl (by decide) ?_
  refine q_iconst (M := md_X11_beginBest) (pc := 23) dX11_beginBest_23 ?_
  refine e_pfI (M := md_X11_beginBest) (pc := 24) h fl_11_506 dX11_beginBest_24 (is_81 hN) rfl (fun m5 h => ?_)
  refine q_aload_n (M := md_X11_beginBest) (pc := 27) dX11_beginBest_27 rfl (by decide) ?_
  refine q_iconst (M := md_X11_beginBest) (pc := 28) dX11_beginBest_28 ?_
  refine e_pfI (M := md_X11_beginBest) (pc := 29) h fl_11_509 dX11_beginBest_29 (is_81 hN) rfl (fun m6 h => ?_)
  exact e_vret (M := md_X11_beginBest) (pc := 32) h rfl dX11_beginBest_32
def f_Mod_weigh (l1 l2 l3 l4 l5 : Int) (m : q_Mem) : q_Res :=
  q_pf m 81 57 ((m 81 57) + 1) fun m1 =>
  if q_w l1 < q_w (m1 81 58) then (q_pf m1 81 58 l1 fun m2 =>
  q_pf m2 81 59 l2 fun m3 =>
  q_pf m3 81 60 l3 fun m4 =>
  q_pf m4 81 61 l4 fun m5 =>
  q_pf m5 81 62 l5 fun m6 =>
  q_rt 0 m6)
  else (q_rt 0 m1)
set_option maxRecDepth 20000 in
theorem ok_X11_weigh {l1 l2 l3 l4 l5 : Int} {r : Int × q_Mem} {m : q_Mem} {N : Nat} (hN : 126 ≤ N) (h : f_Mod_weigh l1 l2 l3 l4 l5 m = some r) : q_C md_X11_weigh (q_room 1) 0 0 [q_A 81, q_I l1, q_I l2, q_I l3, q_I l4, q_I l5] (q_g N) m (none, q_g N, r.2) := by
  refine q_ofR (by decide) 0 (ls := [q_A 81, q_I l1, q_I l2, q_I l3, q_I l4, q_I l5]) rfl (Nat.le_of_ble_eq_true rfl) ?_
  change q_E md_X11_weigh 1 N (none) r m 0 [q_A 81, q_I l1, q_I l2, q_I l3, q_I l4, q_I l5] []
  unfold f_Mod_weigh at h
  refine q_aload_n (M := md_X11_weigh) (pc := 0) dX11_weigh_0 rfl (by decide) ?_
  refine q_dup (M := md_X11_weigh) (pc := 1) dX11_weigh_1 (show (2 : Nat) ≠ 1 by decide) ?_
  refine e_gI (M := md_X11_weigh) (pc := 2) (v := m 81 57) fl_11_494 dX11_weigh_2 (is_81 hN) rfl ?_
  refine q_iconst (M := md_X11_weigh) (pc := 5) dX11_weigh_5 ?_
  refine q_iadd (M := md_X11_weigh) (pc := 6) dX11_weigh_6 ?_
  refine e_pfI (M := md_X11_weigh) (pc := 7) h fl_11_494 dX11_weigh_7 (is_81 hN) rfl (fun m1 h => ?_)
  refine q_iload_n (M := md_X11_weigh) (pc := 10) dX11_weigh_10 rfl ?_
  refine q_aload_n (M := md_X11_weigh) (pc := 11) dX11_weigh_11 rfl (by decide) ?_
  refine e_gI (M := md_X11_weigh) (pc := 12) (v := m1 81 58) fl_11_497 dX11_weigh_12 (is_81 hN) rfl ?_
  refine e_icmp_lt (M := md_X11_weigh) (pc := 15) (tgt := 19) h rfl rfl dX11_weigh_15 (by decide) (fun h => ?_) (fun h => ?_)
  · refine q_aload_n (M := md_X11_weigh) (pc := 19) dX11_weigh_19 rfl (by decide) ?_
    refine q_iload_n (M := md_X11_weigh) (pc := 20) dX11_weigh_20 rfl ?_
    refine e_pfI (M := md_X11_weigh) (pc := 21) h fl_11_497 dX11_weigh_21 (is_81 hN) rfl (fun m2 h => ?_)
    refine q_aload_n (M := md_X11_weigh) (pc := 24) dX11_weigh_24 rfl (by decide) ?_
    refine q_iload_n (M := md_X11_weigh) (pc := 25) dX11_weigh_25 rfl ?_
    refine e_pfI (M := md_X11_weigh) (pc := 26) h fl_11_500 dX11_weigh_26 (is_81 hN) rfl (fun m3 h => ?_)
    refine q_aload_n (M := md_X11_weigh) (pc := 29) dX11_weigh_29 rfl (by decide) ?_
    refine q_iload_n (M := md_X11_weigh) (pc := 30) dX11_weigh_30 rfl ?_
    refine e_pfI (M := md_X11_weigh) (pc := 31) h fl_11_503 dX11_weigh_31 (is_81 hN) rfl (fun m4 h => ?_)
    refine q_aload_n (M := md_X11_weigh) (pc := 34) dX11_weigh_34 rfl (by decide) ?_
    refine q_iload (M := md_X11_weigh) (pc := 35) dX11_weigh_35 rfl ?_
    refine e_pfI (M := md_X11_weigh) (pc := 37) h fl_11_506 dX11_weigh_37 (is_81 hN) rfl (fun m5 h => ?_)
    refine q_aload_n (M := md_X11_weigh) (pc := 40) dX11_weigh_40 rfl (by decide) ?_
    refine q_iload (M := md_X11_weigh) (pc := 41) dX11_weigh_41 rfl ?_
    refine e_pfI (M := md_X11_weigh) (pc := 43) h fl_11_509 dX11_weigh_43 (is_81 hN) rfl (fun m6 h => ?_)
    exact e_vret (M := md_X11_weigh) (pc := 46) h rfl dX11_weigh_46
  · exact e_vret (M := md_X11_weigh) (pc := 18) h rfl dX11_weigh_18
def f_Mod_best_b97 (k30 : Int → Int → Int → q_Mem → q_Res) (k39 : Int → Int → Int → Int → q_Mem → q_Res) (l1 l2 l3 l4 : Int) (m : q_Mem) : q_Res :=
  k39 l1 l2 l3 (l4 + 1) m
set_option maxRecDepth 20000 in
theorem w_Mod_best_b97 {k30 : Int → Int → Int → q_Mem → q_Res} {k39 : Int → Int → Int → Int → q_Mem → q_Res} {l1 l2 l3 l4 : Int} {r : Int × q_Mem} {m : q_Mem} {N : Nat} (hN : 126 ≤ N) (hk30 : ∀ (l1 l2 l3 : Int) (m : q_Mem), k30 l1 l2 l3 m = some r → q_E md_X11_best 6 N (some 0) r m 30 [q_A 81, q_I l1, q_I l2, q_I l3, q_N] []) (hk39 : ∀ (l1 l2 l3 l4 : Int) (m : q_Mem), k39 l1 l2 l3 l4 m = some r → q_E md_X11_best 6 N (some 0) r m 39 [q_A 81, q_I l1, q_I l2, q_I l3, q_I l4] []) (h : f_Mod_best_b97 k30 k39 l1 l2 l3 l4 m = some r) : q_E md_X11_best 6 N (some 0) r m 97 [q_A 81, q_I l1, q_I l2, q_I l3, q_I l4] [] := by
  unfold f_Mod_best_b97 at h
  refine e_inc (M := md_X11_best) (pc := 97) (x := l4) (ls' := [q_A 81, q_I l1, q_I l2, q_I l3, q_I (l4 + 1)]) dX11_best_97 rfl (by decide) (q_pl rfl) rfl ?_
  refine q_goto (M := md_X11_best) (pc := 100) (tgt := 39) dX11_best_100 (by decide) ?_
  exact q_weak (hk39 _ _ _ _ _  h) ⟨Or.inr rfl, Or.inr rfl, Or.inr rfl, Or.inr rfl, Or.inr rfl, trivial⟩
def f_Mod_best_b39 (k30 : Int → Int → Int → q_Mem → q_Res) (k39 : Int → Int → Int → Int → q_Mem → q_Res) (l1 l2 l3 l4 : Int) (m : q_Mem) : q_Res :=
  if q_w l1 < q_w l4 then (k30 l1 l2 (l3 + 1) m)
  else (q_bd (f_Mod_isLawful l3 l4 m) fun v1 m2 =>
  if q_w v1 = 0 then (f_Mod_best_b97 k30 k39 l1 l2 l3 l4 m2)
  else (q_rd m2 115 69 2 fun v3 =>
  q_rd m2 115 69 3 fun v4 =>
  q_bd (f_Mod_layPlan l3 l4 v3 v4 m2) fun _ m5 =>
  if q_w (m5 81 55) = 0 then (q_bd (f_Mod_weigh (m5 81 53) l3 l4 0 0 m5) fun _ m6 =>
  f_Mod_best_b97 k30 k39 l1 l2 l3 l4 m6)
  else (f_Mod_best_b97 k30 k39 l1 l2 l3 l4 m5)))
set_option maxRecDepth 20000 in
theorem w_Mod_best_b39 {k30 : Int → Int → Int → q_Mem → q_Res} {k39 : Int → Int → Int → Int → q_Mem → q_Res} {l1 l2 l3 l4 : Int} {r : Int × q_Mem} {m : q_Mem} {N : Nat} (hN : 126 ≤ N) (hk30 : ∀ (l1 l2 l3 : Int) (m : q_Mem), k30 l1 l2 l3 m = some r → q_E md_X11_best 6 N (some 0) r m 30 [q_A 81, q_I l1, q_I l2, q_I l3, q_N] []) (hk39 : ∀ (l1 l2 l3 l4 : Int) (m : q_Mem), k39 l1 l2 l3 l4 m = some r → q_E md_X11_best 6 N (some 0) r m 39 [q_A 81, q_I l1, q_I l2, q_I l3, q_I l4] []) (h : f_Mod_best_b39 k30 k39 l1 l2 l3 l4 m = some r) : q_E md_X11_best 6 N (some 0) r m 39 [q_A 81, q_I l1, q_I l2, q_I l3, q_I l4] [] := by
  unfold f_Mod_best_b39 at h
  refine q_iload (M := md_X11_best) (pc := 39) dX11_best_39 rfl ?_
  refine q_iload_n (M := md_X11_best) (pc := 41) dX11_best_41 rfl ?_
  refine e_icmp_gt (M := md_X11_best) (pc := 42) (tgt := 103) h rfl rfl dX11_best_42 (by decide) (fun h => ?_) (fun h => ?_)
  · refine e_inc (M := md_X11_best) (pc := 103) (x := l3) (ls' := [q_A 81, q_I l1, q_I l2, q_I (l3 + 1), q_I l4]) dX11_best_103 rfl (by decide) (q_pl rfl) rfl ?_
    refine q_goto (M := md_X11_best) (pc := 106) (tgt := 30) dX11_best_106 (by decide) ?_
    exact q_weak (hk30 _ _ _ _  h) ⟨Or.inr rfl, Or.inr rfl, Or.inr rfl, Or.inr rfl, Or.inl rfl, trivial⟩
  · refine q_aload_n (M := md_X11_best) (pc := 45) dX11_best_45 rfl (by decide) ?_
    refine q_iload_n (M := md_X11_best) (pc := 46) dX11_best_46 rfl ?_
    refine q_iload (M := md_X11_best) (pc := 47) dX11_best_47 rfl ?_
    refine e_callVi (M := md_X11_best) (pc := 49) (d' := 2) (av := [q_I l3, q_I l4]) (c := 81) h ml_11_440 im_X11_isLawful se_X11_isLawful dX11_best_49 (fun v he => ok_X11_isLawful hN  he) rfl (is_81 hN) ⟨_, _, rfl⟩ (by decide) (Nat.le_of_ble_eq_true rfl) ⟨by decide, by decide⟩ rfl (fun v1 m2 h => ?_)
    refine e_if_ne (M := md_X11_best) (pc := 52) (tgt := 58) h rfl dX11_best_52 (by decide) (fun h => ?_) (fun h => ?_)
    · refine q_aload_n (M := md_X11_best) (pc := 58) dX11_best_58 rfl (by decide) ?_
      refine q_iload_n (M := md_X11_best) (pc := 59) dX11_best_59 rfl ?_
      refine q_iload (M := md_X11_best) (pc := 60) dX11_best_60 rfl ?_
      refine q_aload_n (M := md_X11_best) (pc := 62) dX11_best_62 rfl (by decide) ?_
      refine q_getP (M := md_X11_best) (pc := 63) (v := 115) fl_11_115 dX11_best_63 (is_81 hN) rfl ?_
      refine q_iconst (M := md_X11_best) (pc := 66) dX11_best_66 ?_
      refine e_rd (M := md_X11_best) (pc := 67) h dX11_best_67 (ar_115 hN) (fun v3 h => ?_)
      refine q_aload_n (M := md_X11_best) (pc := 68) dX11_best_68 rfl (by decide) ?_
      refine q_getP (M := md_X11_best) (pc := 69) (v := 115) fl_11_115 dX11_best_69 (is_81 hN) rfl ?_
      refine q_iconst (M := md_X11_best) (pc := 72) dX11_best_72 ?_
      refine e_rd (M := md_X11_best) (pc := 73) h dX11_best_73 (ar_115 hN) (fun v4 h => ?_)
      refine e_callVv (M := md_X11_best) (pc := 74) (d' := 5) (av := [q_I l3, q_I l4, q_I v3, q_I v4]) (c := 81) h ml_11_433 im_X11_layPlan se_X11_layPlan dX11_best_74 (fun v he => ok_X11_layPlan hN  he) rfl (is_81 hN) ⟨_, _, rfl⟩ (by decide) (Nat.le_of_ble_eq_true rfl) ⟨by decide, by decide⟩ rfl (fun _ m5 h => ?_)
      refine q_aload_n (M := md_X11_best) (pc := 77) dX11_best_77 rfl (by decide) ?_
      refine e_gI (M := md_X11_best) (pc := 78) (v := m5 81 55) fl_11_421 dX11_best_78 (is_81 hN) rfl ?_
      refine e_if_ne (M := md_X11_best) (pc := 81) (tgt := 97) h rfl dX11_best_81 (by decide) (fun h => ?_) (fun h => ?_)
      · exact q_weak (w_Mod_best_b97 hN hk30 hk39  h) ⟨Or.inr rfl, Or.inr rfl, Or.inr rfl, Or.inr rfl, Or.inr rfl, trivial⟩
      · refine q_aload_n (M := md_X11_best) (pc := 84) dX11_best_84 rfl (by decide) ?_
        refine q_aload_n (M := md_X11_best) (pc := 85) dX11_best_85 rfl (by decide) ?_
        refine e_gI (M := md_X11_best) (pc := 86) (v := m5 81 53) fl_11_415 dX11_best_86 (is_81 hN) rfl ?_
        refine q_iload_n (M := md_X11_best) (pc := 89) dX11_best_89 rfl ?_
        refine q_iload (M := md_X11_best) (pc := 90) dX11_best_90 rfl ?_
        refine q_iconst (M := md_X11_best) (pc := 92) dX11_best_92 ?_
        refine q_iconst (M := md_X11_best) (pc := 93) dX11_best_93 ?_
        refine e_callVv (M := md_X11_best) (pc := 94) (d' := 1) (av := [q_I (m5 81 53), q_I l3, q_I l4, q_I 0, q_I 0]) (c := 81) h ml_11_515 im_X11_weigh se_X11_weigh dX11_best_94 (fun v he => ok_X11_weigh hN  he) rfl (is_81 hN) ⟨_, _, rfl⟩ (by decide) (Nat.le_of_ble_eq_true rfl) ⟨by decide, by decide⟩ rfl (fun _ m6 h => ?_)
        exact q_weak (w_Mod_best_b97 hN hk30 hk39  h) ⟨Or.inr rfl, Or.inr rfl, Or.inr rfl, Or.inr rfl, Or.inr rfl, trivial⟩
    · refine q_goto (M := md_X11_best) (pc := 55) (tgt := 97) dX11_best_55 (by decide) ?_
      exact q_weak (w_Mod_best_b97 hN hk30 hk39  h) ⟨Or.inr rfl, Or.inr rfl, Or.inr rfl, Or.inr rfl, Or.inr rfl, trivial⟩
def f_Mod_best_l39 (k30 : Int → Int → Int → q_Mem → q_Res) : Nat → Int → Int → Int → Int → q_Mem → q_Res
  | 0 => fun _ _ _ _ _ => none
  | n + 1 => fun l1 l2 l3 l4 m => f_Mod_best_b39 k30 (f_Mod_best_l39 k30 n) l1 l2 l3 l4 m
theorem w_Mod_best_l39 {k30 : Int → Int → Int → q_Mem → q_Res} {r : Int × q_Mem} {N : Nat} (hN : 126 ≤ N) (hk30 : ∀ (l1 l2 l3 : Int) (m : q_Mem), k30 l1 l2 l3 m = some r → q_E md_X11_best 6 N (some 0) r m 30 [q_A 81, q_I l1, q_I l2, q_I l3, q_N] []) : ∀ (n : Nat) (l1 l2 l3 l4 : Int) (m : q_Mem), f_Mod_best_l39 k30 n l1 l2 l3 l4 m = some r → q_E md_X11_best 6 N (some 0) r m 39 [q_A 81, q_I l1, q_I l2, q_I l3, q_I l4] [] := by
  intro n
  induction n with
  | zero => intro l1 l2 l3 l4 m h; exact q_no h
  | succ n ih =>
    intro l1 l2 l3 l4 m h
    exact w_Mod_best_b39 hN hk30 (fun l1 l2 l3 l4 m h => ih l1 l2 l3 l4 m h) h
def f_Mod_best_b30 (k30 : Int → Int → Int → q_Mem → q_Res) (l1 l2 l3 : Int) (m : q_Mem) : q_Res :=
  if q_w l1 < q_w l3 then (if q_w l2 = 0 then (q_rt (m 81 57) m)
  else (if q_w (m 81 57) = 0 then (q_rt (-1000) m)
  else (if q_w l2 = 1 then (q_rt (m 81 58) m)
  else (if q_w l2 = 2 then (q_rt (m 81 59) m)
  else (q_rt (m 81 60) m)))))
  else (f_Mod_best_l39 k30 q_F l1 l2 l3 (-l1) m)
set_option maxRecDepth 20000 in
theorem w_Mod_best_b30 {k30 : Int → Int → Int → q_Mem → q_Res} {l1 l2 l3 : Int} {r : Int × q_Mem} {m : q_Mem} {N : Nat} (hN : 126 ≤ N) (hk30 : ∀ (l1 l2 l3 : Int) (m : q_Mem), k30 l1 l2 l3 m = some r → q_E md_X11_best 6 N (some 0) r m 30 [q_A 81, q_I l1, q_I l2, q_I l3, q_N] []) (h : f_Mod_best_b30 k30 l1 l2 l3 m = some r) : q_E md_X11_best 6 N (some 0) r m 30 [q_A 81, q_I l1, q_I l2, q_I l3, q_N] [] := by
  unfold f_Mod_best_b30 at h
  refine q_iload_n (M := md_X11_best) (pc := 30) dX11_best_30 rfl ?_
  refine q_iload_n (M := md_X11_best) (pc := 31) dX11_best_31 rfl ?_
  refine e_icmp_gt (M := md_X11_best) (pc := 32) (tgt := 109) h rfl rfl dX11_best_32 (by decide) (fun h => ?_) (fun h => ?_)
  · refine q_iload_n (M := md_X11_best) (pc := 109) dX11_best_109 rfl ?_
    refine e_if_ne (M := md_X11_best) (pc := 110) (tgt := 118) h rfl dX11_best_110 (by decide) (fun h => ?_) (fun h => ?_)
    · refine q_aload_n (M := md_X11_best) (pc := 118) dX11_best_118 rfl (by decide) ?_
      refine e_gI (M := md_X11_best) (pc := 119) (v := m 81 57) fl_11_494 dX11_best_119 (is_81 hN) rfl ?_
      refine e_if_ne (M := md_X11_best) (pc := 122) (tgt := 131) h rfl dX11_best_122 (by decide) (fun h => ?_) (fun h => ?_)
      · refine q_iload_n (M := md_X11_best) (pc := 131) dX11_best_131 rfl ?_
        refine q_iconst (M := md_X11_best) (pc := 132) dX11_best_132 ?_
        refine e_icmp_ne (M := md_X11_best) (pc := 133) (tgt := 143) h rfl (q_wlit rfl) dX11_best_133 (by decide) (fun h => ?_) (fun h => ?_)
        · refine q_iload_n (M := md_X11_best) (pc := 143) dX11_best_143 rfl ?_
          refine q_iconst (M := md_X11_best) (pc := 144) dX11_best_144 ?_
          refine e_icmp_ne (M := md_X11_best) (pc := 145) (tgt := 155) h rfl (q_wlit rfl) dX11_best_145 (by decide) (fun h => ?_) (fun h => ?_)
          · refine q_aload_n (M := md_X11_best) (pc := 155) dX11_best_155 rfl (by decide) ?_
            refine e_gI (M := md_X11_best) (pc := 156) (v := m 81 60) fl_11_503 dX11_best_156 (is_81 hN) rfl ?_
            exact e_iret (M := md_X11_best) (pc := 159) h rfl dX11_best_159
          · refine q_aload_n (M := md_X11_best) (pc := 148) dX11_best_148 rfl (by decide) ?_
            refine e_gI (M := md_X11_best) (pc := 149) (v := m 81 59) fl_11_500 dX11_best_149 (is_81 hN) rfl ?_
            refine q_goto (M := md_X11_best) (pc := 152) (tgt := 159) dX11_best_152 (by decide) ?_
            exact e_iret (M := md_X11_best) (pc := 159) h rfl dX11_best_159
        · refine q_aload_n (M := md_X11_best) (pc := 136) dX11_best_136 rfl (by decide) ?_
          refine e_gI (M := md_X11_best) (pc := 137) (v := m 81 58) fl_11_497 dX11_best_137 (is_81 hN) rfl ?_
          refine q_goto (M := md_X11_best) (pc := 140) (tgt := 159) dX11_best_140 (by decide) ?_
          exact e_iret (M := md_X11_best) (pc := 159) h rfl dX11_best_159
      · refine q_sipush (M := md_X11_best) (pc := 125) (x := -1000) dX11_best_125 (by decide) ?_
        refine q_goto (M := md_X11_best) (pc := 128) (tgt := 159) dX11_best_128 (by decide) ?_
        exact e_iret (M := md_X11_best) (pc := 159) h rfl dX11_best_159
    · refine q_aload_n (M := md_X11_best) (pc := 113) dX11_best_113 rfl (by decide) ?_
      refine e_gI (M := md_X11_best) (pc := 114) (v := m 81 57) fl_11_494 dX11_best_114 (is_81 hN) rfl ?_
      exact e_iret (M := md_X11_best) (pc := 117) h rfl dX11_best_117
  · refine q_iload_n (M := md_X11_best) (pc := 35) dX11_best_35 rfl ?_
    refine q_ineg (M := md_X11_best) (pc := 36) dX11_best_36 ?_
    refine e_ist (M := md_X11_best) (pc := 37) (ls' := [q_A 81, q_I l1, q_I l2, q_I l3, q_I (-l1)]) dX11_best_37 (by decide) (q_pl rfl) rfl ?_
    exact q_weak (w_Mod_best_l39 hN hk30 q_F _ _ _ _ _  h) ⟨Or.inr rfl, Or.inr rfl, Or.inr rfl, Or.inr rfl, Or.inr rfl, trivial⟩
def f_Mod_best_l30 : Nat → Int → Int → Int → q_Mem → q_Res
  | 0 => fun _ _ _ _ => none
  | n + 1 => fun l1 l2 l3 m => f_Mod_best_b30 (f_Mod_best_l30 n) l1 l2 l3 m
theorem w_Mod_best_l30 {r : Int × q_Mem} {N : Nat} (hN : 126 ≤ N) : ∀ (n : Nat) (l1 l2 l3 : Int) (m : q_Mem), f_Mod_best_l30 n l1 l2 l3 m = some r → q_E md_X11_best 6 N (some 0) r m 30 [q_A 81, q_I l1, q_I l2, q_I l3, q_N] [] := by
  intro n
  induction n with
  | zero => intro l1 l2 l3 m h; exact q_no h
  | succ n ih =>
    intro l1 l2 l3 m h
    exact w_Mod_best_b30 hN (fun l1 l2 l3 m h => ih l1 l2 l3 m h) h
def f_Mod_best (l1 l2 : Int) (m : q_Mem) : q_Res :=
  q_bd (f_Mod_isIn l1 1 9 m) fun v1 m2 =>
  if q_w v1 = 0 then (q_rt (-1000) m2)
  else (q_bd (f_Mod_isIn l2 0 3 m2) fun v3 m4 =>
  if q_w v3 = 0 then (q_rt (-1000) m4)
  else (q_bd (f_Mod_beginBest m4) fun _ m5 =>
  f_Mod_best_l30 q_F l1 l2 (-l1) m5))
set_option maxRecDepth 20000 in
theorem ok_X11_best {l1 l2 : Int} {r : Int × q_Mem} {m : q_Mem} {N : Nat} (hN : 126 ≤ N) (h : f_Mod_best l1 l2 m = some r) : q_C md_X11_best (q_room 6) 0 0 [q_A 81, q_I l1, q_I l2] (q_g N) m (some (q_I r.1), q_g N, r.2) := by
  refine q_ofR (by decide) 2 (ls := [q_A 81, q_I l1, q_I l2, q_N, q_N]) rfl (Nat.le_of_ble_eq_true rfl) ?_
  change q_E md_X11_best 6 N (some 0) r m 0 [q_A 81, q_I l1, q_I l2, q_N, q_N] []
  unfold f_Mod_best at h
  refine q_iload_n (M := md_X11_best) (pc := 0) dX11_best_0 rfl ?_
  refine q_iconst (M := md_X11_best) (pc := 1) dX11_best_1 ?_
  refine q_bipush (M := md_X11_best) (pc := 2) (x := 9) dX11_best_2 (by decide) ?_
  refine e_callSi (M := md_X11_best) (pc := 4) (d' := 1) (M' := md_X11_isIn) (av := [q_I l1, q_I 1, q_I 9]) h ml_11_221 sm_X11_isIn dX11_best_4 (fun v he => ok_X11_isIn hN  he) rfl (Nat.le_of_ble_eq_true rfl) ⟨by decide, by decide⟩ rfl (fun v1 m2 h => ?_)
  refine e_if_eq (M := md_X11_best) (pc := 7) (tgt := 19) h rfl dX11_best_7 (by decide) (fun h => ?_) (fun h => ?_)
  · refine q_sipush (M := md_X11_best) (pc := 19) (x := -1000) dX11_best_19 (by decide) ?_
    exact e_iret (M := md_X11_best) (pc := 22) h rfl dX11_best_22
  · refine q_iload_n (M := md_X11_best) (pc := 10) dX11_best_10 rfl ?_
    refine q_iconst (M := md_X11_best) (pc := 11) dX11_best_11 ?_
    refine q_iconst (M := md_X11_best) (pc := 12) dX11_best_12 ?_
    refine e_callSi (M := md_X11_best) (pc := 13) (d' := 1) (M' := md_X11_isIn) (av := [q_I l2, q_I 0, q_I 3]) h ml_11_221 sm_X11_isIn dX11_best_13 (fun v he => ok_X11_isIn hN  he) rfl (Nat.le_of_ble_eq_true rfl) ⟨by decide, by decide⟩ rfl (fun v3 m4 h => ?_)
    refine e_if_ne (M := md_X11_best) (pc := 16) (tgt := 23) h rfl dX11_best_16 (by decide) (fun h => ?_) (fun h => ?_)
    · refine q_aload_n (M := md_X11_best) (pc := 23) dX11_best_23 rfl (by decide) ?_
      refine e_callVv (M := md_X11_best) (pc := 24) (d' := 1) (av := []) (c := 81) h ml_11_512 im_X11_beginBest se_X11_beginBest dX11_best_24 (fun v he => ok_X11_beginBest hN  he) rfl (is_81 hN) ⟨_, _, rfl⟩ (by decide) (Nat.le_of_ble_eq_true rfl) ⟨by decide, by decide⟩ rfl (fun _ m5 h => ?_)
      refine q_iload_n (M := md_X11_best) (pc := 27) dX11_best_27 rfl ?_
      refine q_ineg (M := md_X11_best) (pc := 28) dX11_best_28 ?_
      refine e_ist_n (M := md_X11_best) (pc := 29) (ls' := [q_A 81, q_I l1, q_I l2, q_I (-l1), q_N]) dX11_best_29 (by decide) (q_pl rfl) rfl ?_
      exact q_weak (w_Mod_best_l30 hN q_F _ _ _ _  h) ⟨Or.inr rfl, Or.inr rfl, Or.inr rfl, Or.inr rfl, Or.inl rfl, trivial⟩
    · refine q_sipush (M := md_X11_best) (pc := 19) (x := -1000) dX11_best_19 (by decide) ?_
      exact e_iret (M := md_X11_best) (pc := 22) h rfl dX11_best_22
def f_Mod_line_b81 (k20 : Int → Int → q_Mem → q_Res) (k28 : Int → Int → Int → q_Mem → q_Res) (l1 l2 l3 : Int) (m : q_Mem) : q_Res :=
  k28 l1 l2 (l3 + 1) m
set_option maxRecDepth 20000 in
theorem w_Mod_line_b81 {k20 : Int → Int → q_Mem → q_Res} {k28 : Int → Int → Int → q_Mem → q_Res} {l1 l2 l3 : Int} {r : Int × q_Mem} {m : q_Mem} {N : Nat} (hN : 126 ≤ N) (hk20 : ∀ (l1 l2 : Int) (m : q_Mem), k20 l1 l2 m = some r → q_E md_X11_line 6 N (some 0) r m 20 [q_A 81, q_I l1, q_I l2, q_N] []) (hk28 : ∀ (l1 l2 l3 : Int) (m : q_Mem), k28 l1 l2 l3 m = some r → q_E md_X11_line 6 N (some 0) r m 28 [q_A 81, q_I l1, q_I l2, q_I l3] []) (h : f_Mod_line_b81 k20 k28 l1 l2 l3 m = some r) : q_E md_X11_line 6 N (some 0) r m 81 [q_A 81, q_I l1, q_I l2, q_I l3] [] := by
  unfold f_Mod_line_b81 at h
  refine e_inc (M := md_X11_line) (pc := 81) (x := l3) (ls' := [q_A 81, q_I l1, q_I l2, q_I (l3 + 1)]) dX11_line_81 rfl (by decide) (q_pl rfl) rfl ?_
  refine q_goto (M := md_X11_line) (pc := 84) (tgt := 28) dX11_line_84 (by decide) ?_
  exact q_weak (hk28 _ _ _ _  h) ⟨Or.inr rfl, Or.inr rfl, Or.inr rfl, Or.inr rfl, trivial⟩
def f_Mod_line_b28 (k20 : Int → Int → q_Mem → q_Res) (k28 : Int → Int → Int → q_Mem → q_Res) (l1 l2 l3 : Int) (m : q_Mem) : q_Res :=
  if 3 < q_w l3 then (k20 l1 (l2 + 1) m)
  else (q_bd (f_Mod_isLine l2 l3 m) fun v1 m2 =>
  if q_w v1 = 0 then (f_Mod_line_b81 k20 k28 l1 l2 l3 m2)
  else (q_rd m2 115 69 0 fun v3 =>
  q_rd m2 115 69 1 fun v4 =>
  q_bd (f_Mod_layPlan v3 v4 l2 l3 m2) fun _ m5 =>
  if q_w (m5 81 55) = 0 then (q_bd (f_Mod_weigh (m5 81 54) 0 0 l2 l3 m5) fun _ m6 =>
  f_Mod_line_b81 k20 k28 l1 l2 l3 m6)
  else (f_Mod_line_b81 k20 k28 l1 l2 l3 m5)))
set_option maxRecDepth 20000 in
theorem w_Mod_line_b28 {k20 : Int → Int → q_Mem → q_Res} {k28 : Int → Int → Int → q_Mem → q_Res} {l1 l2 l3 : Int} {r : Int × q_Mem} {m : q_Mem} {N : Nat} (hN : 126 ≤ N) (hk20 : ∀ (l1 l2 : Int) (m : q_Mem), k20 l1 l2 m = some r → q_E md_X11_line 6 N (some 0) r m 20 [q_A 81, q_I l1, q_I l2, q_N] []) (hk28 : ∀ (l1 l2 l3 : Int) (m : q_Mem), k28 l1 l2 l3 m = some r → q_E md_X11_line 6 N (some 0) r m 28 [q_A 81, q_I l1, q_I l2, q_I l3] []) (h : f_Mod_line_b28 k20 k28 l1 l2 l3 m = some r) : q_E md_X11_line 6 N (some 0) r m 28 [q_A 81, q_I l1, q_I l2, q_I l3] [] := by
  unfold f_Mod_line_b28 at h
  refine q_iload_n (M := md_X11_line) (pc := 28) dX11_line_28 rfl ?_
  refine q_iconst (M := md_X11_line) (pc := 29) dX11_line_29 ?_
  refine e_icmp_gt (M := md_X11_line) (pc := 30) (tgt := 87) h rfl (q_wlit rfl) dX11_line_30 (by decide) (fun h => ?_) (fun h => ?_)
  · refine e_inc (M := md_X11_line) (pc := 87) (x := l2) (ls' := [q_A 81, q_I l1, q_I (l2 + 1), q_I l3]) dX11_line_87 rfl (by decide) (q_pl rfl) rfl ?_
    refine q_goto (M := md_X11_line) (pc := 90) (tgt := 20) dX11_line_90 (by decide) ?_
    exact q_weak (hk20 _ _ _  h) ⟨Or.inr rfl, Or.inr rfl, Or.inr rfl, Or.inl rfl, trivial⟩
  · refine q_iload_n (M := md_X11_line) (pc := 33) dX11_line_33 rfl ?_
    refine q_iload_n (M := md_X11_line) (pc := 34) dX11_line_34 rfl ?_
    refine e_callSi (M := md_X11_line) (pc := 35) (d' := 3) (M' := md_X11_isLine) (av := [q_I l2, q_I l3]) h ml_11_519 sm_X11_isLine dX11_line_35 (fun v he => ok_X11_isLine hN  he) rfl (Nat.le_of_ble_eq_true rfl) ⟨by decide, by decide⟩ rfl (fun v1 m2 h => ?_)
    refine e_if_ne (M := md_X11_line) (pc := 38) (tgt := 44) h rfl dX11_line_38 (by decide) (fun h => ?_) (fun h => ?_)
    · refine q_aload_n (M := md_X11_line) (pc := 44) dX11_line_44 rfl (by decide) ?_
      refine q_aload_n (M := md_X11_line) (pc := 45) dX11_line_45 rfl (by decide) ?_
      refine q_getP (M := md_X11_line) (pc := 46) (v := 115) fl_11_115 dX11_line_46 (is_81 hN) rfl ?_
      refine q_iconst (M := md_X11_line) (pc := 49) dX11_line_49 ?_
      refine e_rd (M := md_X11_line) (pc := 50) h dX11_line_50 (ar_115 hN) (fun v3 h => ?_)
      refine q_aload_n (M := md_X11_line) (pc := 51) dX11_line_51 rfl (by decide) ?_
      refine q_getP (M := md_X11_line) (pc := 52) (v := 115) fl_11_115 dX11_line_52 (is_81 hN) rfl ?_
      refine q_iconst (M := md_X11_line) (pc := 55) dX11_line_55 ?_
      refine e_rd (M := md_X11_line) (pc := 56) h dX11_line_56 (ar_115 hN) (fun v4 h => ?_)
      refine q_iload_n (M := md_X11_line) (pc := 57) dX11_line_57 rfl ?_
      refine q_iload_n (M := md_X11_line) (pc := 58) dX11_line_58 rfl ?_
      refine e_callVv (M := md_X11_line) (pc := 59) (d' := 5) (av := [q_I v3, q_I v4, q_I l2, q_I l3]) (c := 81) h ml_11_433 im_X11_layPlan se_X11_layPlan dX11_line_59 (fun v he => ok_X11_layPlan hN  he) rfl (is_81 hN) ⟨_, _, rfl⟩ (by decide) (Nat.le_of_ble_eq_true rfl) ⟨by decide, by decide⟩ rfl (fun _ m5 h => ?_)
      refine q_aload_n (M := md_X11_line) (pc := 62) dX11_line_62 rfl (by decide) ?_
      refine e_gI (M := md_X11_line) (pc := 63) (v := m5 81 55) fl_11_421 dX11_line_63 (is_81 hN) rfl ?_
      refine e_if_ne (M := md_X11_line) (pc := 66) (tgt := 81) h rfl dX11_line_66 (by decide) (fun h => ?_) (fun h => ?_)
      · exact q_weak (w_Mod_line_b81 hN hk20 hk28  h) ⟨Or.inr rfl, Or.inr rfl, Or.inr rfl, Or.inr rfl, trivial⟩
      · refine q_aload_n (M := md_X11_line) (pc := 69) dX11_line_69 rfl (by decide) ?_
        refine q_aload_n (M := md_X11_line) (pc := 70) dX11_line_70 rfl (by decide) ?_
        refine e_gI (M := md_X11_line) (pc := 71) (v := m5 81 54) fl_11_418 dX11_line_71 (is_81 hN) rfl ?_
        refine q_iconst (M := md_X11_line) (pc := 74) dX11_line_74 ?_
        refine q_iconst (M := md_X11_line) (pc := 75) dX11_line_75 ?_
        refine q_iload_n (M := md_X11_line) (pc := 76) dX11_line_76 rfl ?_
        refine q_iload_n (M := md_X11_line) (pc := 77) dX11_line_77 rfl ?_
        refine e_callVv (M := md_X11_line) (pc := 78) (d' := 1) (av := [q_I (m5 81 54), q_I 0, q_I 0, q_I l2, q_I l3]) (c := 81) h ml_11_515 im_X11_weigh se_X11_weigh dX11_line_78 (fun v he => ok_X11_weigh hN  he) rfl (is_81 hN) ⟨_, _, rfl⟩ (by decide) (Nat.le_of_ble_eq_true rfl) ⟨by decide, by decide⟩ rfl (fun _ m6 h => ?_)
        exact q_weak (w_Mod_line_b81 hN hk20 hk28  h) ⟨Or.inr rfl, Or.inr rfl, Or.inr rfl, Or.inr rfl, trivial⟩
    · refine q_goto (M := md_X11_line) (pc := 41) (tgt := 81) dX11_line_41 (by decide) ?_
      exact q_weak (w_Mod_line_b81 hN hk20 hk28  h) ⟨Or.inr rfl, Or.inr rfl, Or.inr rfl, Or.inr rfl, trivial⟩
def f_Mod_line_l28 (k20 : Int → Int → q_Mem → q_Res) : Nat → Int → Int → Int → q_Mem → q_Res
  | 0 => fun _ _ _ _ => none
  | n + 1 => fun l1 l2 l3 m => f_Mod_line_b28 k20 (f_Mod_line_l28 k20 n) l1 l2 l3 m
theorem w_Mod_line_l28 {k20 : Int → Int → q_Mem → q_Res} {r : Int × q_Mem} {N : Nat} (hN : 126 ≤ N) (hk20 : ∀ (l1 l2 : Int) (m : q_Mem), k20 l1 l2 m = some r → q_E md_X11_line 6 N (some 0) r m 20 [q_A 81, q_I l1, q_I l2, q_N] []) : ∀ (n : Nat) (l1 l2 l3 : Int) (m : q_Mem), f_Mod_line_l28 k20 n l1 l2 l3 m = some r → q_E md_X11_line 6 N (some 0) r m 28 [q_A 81, q_I l1, q_I l2, q_I l3] [] := by
  intro n
  induction n with
  | zero => intro l1 l2 l3 m h; exact q_no h
  | succ n ih =>
    intro l1 l2 l3 m h
    exact w_Mod_line_b28 hN hk20 (fun l1 l2 l3 m h => ih l1 l2 l3 m h) h
def f_Mod_line_b20 (k20 : Int → Int → q_Mem → q_Res) (l1 l2 : Int) (m : q_Mem) : q_Res :=
  if 3 < q_w l2 then (if q_w l1 = 0 then (q_rt (m 81 57) m)
  else (if q_w (m 81 57) = 0 then (q_rt (-1000) m)
  else (if q_w l1 = 1 then (q_rt (m 81 58) m)
  else (if q_w l1 = 2 then (q_rt (m 81 61) m)
  else (q_rt (m 81 62) m)))))
  else (f_Mod_line_l28 k20 q_F l1 l2 (-3) m)
set_option maxRecDepth 20000 in
theorem w_Mod_line_b20 {k20 : Int → Int → q_Mem → q_Res} {l1 l2 : Int} {r : Int × q_Mem} {m : q_Mem} {N : Nat} (hN : 126 ≤ N) (hk20 : ∀ (l1 l2 : Int) (m : q_Mem), k20 l1 l2 m = some r → q_E md_X11_line 6 N (some 0) r m 20 [q_A 81, q_I l1, q_I l2, q_N] []) (h : f_Mod_line_b20 k20 l1 l2 m = some r) : q_E md_X11_line 6 N (some 0) r m 20 [q_A 81, q_I l1, q_I l2, q_N] [] := by
  unfold f_Mod_line_b20 at h
  refine q_iload_n (M := md_X11_line) (pc := 20) dX11_line_20 rfl ?_
  refine q_iconst (M := md_X11_line) (pc := 21) dX11_line_21 ?_
  refine e_icmp_gt (M := md_X11_line) (pc := 22) (tgt := 93) h rfl (q_wlit rfl) dX11_line_22 (by decide) (fun h => ?_) (fun h => ?_)
  · refine q_iload_n (M := md_X11_line) (pc := 93) dX11_line_93 rfl ?_
    refine e_if_ne (M := md_X11_line) (pc := 94) (tgt := 102) h rfl dX11_line_94 (by decide) (fun h => ?_) (fun h => ?_)
    · refine q_aload_n (M := md_X11_line) (pc := 102) dX11_line_102 rfl (by decide) ?_
      refine e_gI (M := md_X11_line) (pc := 103) (v := m 81 57) fl_11_494 dX11_line_103 (is_81 hN) rfl ?_
      refine e_if_ne (M := md_X11_line) (pc := 106) (tgt := 115) h rfl dX11_line_106 (by decide) (fun h => ?_) (fun h => ?_)
      · refine q_iload_n (M := md_X11_line) (pc := 115) dX11_line_115 rfl ?_
        refine q_iconst (M := md_X11_line) (pc := 116) dX11_line_116 ?_
        refine e_icmp_ne (M := md_X11_line) (pc := 117) (tgt := 127) h rfl (q_wlit rfl) dX11_line_117 (by decide) (fun h => ?_) (fun h => ?_)
        · refine q_iload_n (M := md_X11_line) (pc := 127) dX11_line_127 rfl ?_
          refine q_iconst (M := md_X11_line) (pc := 128) dX11_line_128 ?_
          refine e_icmp_ne (M := md_X11_line) (pc := 129) (tgt := 139) h rfl (q_wlit rfl) dX11_line_129 (by decide) (fun h => ?_) (fun h => ?_)
          · refine q_aload_n (M := md_X11_line) (pc := 139) dX11_line_139 rfl (by decide) ?_
            refine e_gI (M := md_X11_line) (pc := 140) (v := m 81 62) fl_11_509 dX11_line_140 (is_81 hN) rfl ?_
            exact e_iret (M := md_X11_line) (pc := 143) h rfl dX11_line_143
          · refine q_aload_n (M := md_X11_line) (pc := 132) dX11_line_132 rfl (by decide) ?_
            refine e_gI (M := md_X11_line) (pc := 133) (v := m 81 61) fl_11_506 dX11_line_133 (is_81 hN) rfl ?_
            refine q_goto (M := md_X11_line) (pc := 136) (tgt := 143) dX11_line_136 (by decide) ?_
            exact e_iret (M := md_X11_line) (pc := 143) h rfl dX11_line_143
        · refine q_aload_n (M := md_X11_line) (pc := 120) dX11_line_120 rfl (by decide) ?_
          refine e_gI (M := md_X11_line) (pc := 121) (v := m 81 58) fl_11_497 dX11_line_121 (is_81 hN) rfl ?_
          refine q_goto (M := md_X11_line) (pc := 124) (tgt := 143) dX11_line_124 (by decide) ?_
          exact e_iret (M := md_X11_line) (pc := 143) h rfl dX11_line_143
      · refine q_sipush (M := md_X11_line) (pc := 109) (x := -1000) dX11_line_109 (by decide) ?_
        refine q_goto (M := md_X11_line) (pc := 112) (tgt := 143) dX11_line_112 (by decide) ?_
        exact e_iret (M := md_X11_line) (pc := 143) h rfl dX11_line_143
    · refine q_aload_n (M := md_X11_line) (pc := 97) dX11_line_97 rfl (by decide) ?_
      refine e_gI (M := md_X11_line) (pc := 98) (v := m 81 57) fl_11_494 dX11_line_98 (is_81 hN) rfl ?_
      exact e_iret (M := md_X11_line) (pc := 101) h rfl dX11_line_101
  · refine q_bipush (M := md_X11_line) (pc := 25) (x := -3) dX11_line_25 (by decide) ?_
    refine e_ist_n (M := md_X11_line) (pc := 27) (ls' := [q_A 81, q_I l1, q_I l2, q_I (-3)]) dX11_line_27 (by decide) (q_pl rfl) rfl ?_
    exact q_weak (w_Mod_line_l28 hN hk20 q_F _ _ _ _  h) ⟨Or.inr rfl, Or.inr rfl, Or.inr rfl, Or.inr rfl, trivial⟩
def f_Mod_line_l20 : Nat → Int → Int → q_Mem → q_Res
  | 0 => fun _ _ _ => none
  | n + 1 => fun l1 l2 m => f_Mod_line_b20 (f_Mod_line_l20 n) l1 l2 m
theorem w_Mod_line_l20 {r : Int × q_Mem} {N : Nat} (hN : 126 ≤ N) : ∀ (n : Nat) (l1 l2 : Int) (m : q_Mem), f_Mod_line_l20 n l1 l2 m = some r → q_E md_X11_line 6 N (some 0) r m 20 [q_A 81, q_I l1, q_I l2, q_N] [] := by
  intro n
  induction n with
  | zero => intro l1 l2 m h; exact q_no h
  | succ n ih =>
    intro l1 l2 m h
    exact w_Mod_line_b20 hN (fun l1 l2 m h => ih l1 l2 m h) h
def f_Mod_line (l1 : Int) (m : q_Mem) : q_Res :=
  q_bd (f_Mod_isIn l1 0 3 m) fun v1 m2 =>
  if q_w v1 = 0 then (q_rt (-1000) m2)
  else (q_bd (f_Mod_beginBest m2) fun _ m3 =>
  f_Mod_line_l20 q_F l1 (-3) m3)
set_option maxRecDepth 20000 in
theorem ok_X11_line {l1 : Int} {r : Int × q_Mem} {m : q_Mem} {N : Nat} (hN : 126 ≤ N) (h : f_Mod_line l1 m = some r) : q_C md_X11_line (q_room 6) 0 0 [q_A 81, q_I l1] (q_g N) m (some (q_I r.1), q_g N, r.2) := by
  refine q_ofR (by decide) 2 (ls := [q_A 81, q_I l1, q_N, q_N]) rfl (Nat.le_of_ble_eq_true rfl) ?_
  change q_E md_X11_line 6 N (some 0) r m 0 [q_A 81, q_I l1, q_N, q_N] []
  unfold f_Mod_line at h
  refine q_iload_n (M := md_X11_line) (pc := 0) dX11_line_0 rfl ?_
  refine q_iconst (M := md_X11_line) (pc := 1) dX11_line_1 ?_
  refine q_iconst (M := md_X11_line) (pc := 2) dX11_line_2 ?_
  refine e_callSi (M := md_X11_line) (pc := 3) (d' := 1) (M' := md_X11_isIn) (av := [q_I l1, q_I 0, q_I 3]) h ml_11_221 sm_X11_isIn dX11_line_3 (fun v he => ok_X11_isIn hN  he) rfl (Nat.le_of_ble_eq_true rfl) ⟨by decide, by decide⟩ rfl (fun v1 m2 h => ?_)
  refine e_if_ne (M := md_X11_line) (pc := 6) (tgt := 13) h rfl dX11_line_6 (by decide) (fun h => ?_) (fun h => ?_)
  · refine q_aload_n (M := md_X11_line) (pc := 13) dX11_line_13 rfl (by decide) ?_
    refine e_callVv (M := md_X11_line) (pc := 14) (d' := 1) (av := []) (c := 81) h ml_11_512 im_X11_beginBest se_X11_beginBest dX11_line_14 (fun v he => ok_X11_beginBest hN  he) rfl (is_81 hN) ⟨_, _, rfl⟩ (by decide) (Nat.le_of_ble_eq_true rfl) ⟨by decide, by decide⟩ rfl (fun _ m3 h => ?_)
    refine q_bipush (M := md_X11_line) (pc := 17) (x := -3) dX11_line_17 (by decide) ?_
    refine e_ist_n (M := md_X11_line) (pc := 19) (ls' := [q_A 81, q_I l1, q_I (-3), q_N]) dX11_line_19 (by decide) (q_pl rfl) rfl ?_
    exact q_weak (w_Mod_line_l20 hN q_F _ _ _  h) ⟨Or.inr rfl, Or.inr rfl, Or.inr rfl, Or.inl rfl, trivial⟩
  · refine q_sipush (M := md_X11_line) (pc := 9) (x := -1000) dX11_line_9 (by decide) ?_
    exact e_iret (M := md_X11_line) (pc := 12) h rfl dX11_line_12
def f_Mod_tryLines_b64 (k3 : Int → Int → Int → q_Mem → q_Res) (k12 : Int → Int → Int → Int → q_Mem → q_Res) (l1 l2 l3 l4 : Int) (m : q_Mem) : q_Res :=
  k12 l1 l2 l3 (l4 + 1) m
set_option maxRecDepth 20000 in
theorem w_Mod_tryLines_b64 {k3 : Int → Int → Int → q_Mem → q_Res} {k12 : Int → Int → Int → Int → q_Mem → q_Res} {l1 l2 l3 l4 : Int} {r : Int × q_Mem} {m : q_Mem} {N : Nat} (hN : 126 ≤ N) (hk3 : ∀ (l1 l2 l3 : Int) (m : q_Mem), k3 l1 l2 l3 m = some r → q_E md_X11_tryLines 6 N (none) r m 3 [q_A 81, q_I l1, q_I l2, q_I l3, q_N] []) (hk12 : ∀ (l1 l2 l3 l4 : Int) (m : q_Mem), k12 l1 l2 l3 l4 m = some r → q_E md_X11_tryLines 6 N (none) r m 12 [q_A 81, q_I l1, q_I l2, q_I l3, q_I l4] []) (h : f_Mod_tryLines_b64 k3 k12 l1 l2 l3 l4 m = some r) : q_E md_X11_tryLines 6 N (none) r m 64 [q_A 81, q_I l1, q_I l2, q_I l3, q_I l4] [] := by
  unfold f_Mod_tryLines_b64 at h
  refine e_inc (M := md_X11_tryLines) (pc := 64) (x := l4) (ls' := [q_A 81, q_I l1, q_I l2, q_I l3, q_I (l4 + 1)]) dX11_tryLines_64 rfl (by decide) (q_pl rfl) rfl ?_
  refine q_goto (M := md_X11_tryLines) (pc := 67) (tgt := 12) dX11_tryLines_67 (by decide) ?_
  exact q_weak (hk12 _ _ _ _ _  h) ⟨Or.inr rfl, Or.inr rfl, Or.inr rfl, Or.inr rfl, Or.inr rfl, trivial⟩
def f_Mod_tryLines_b12 (k3 : Int → Int → Int → q_Mem → q_Res) (k12 : Int → Int → Int → Int → q_Mem → q_Res) (l1 l2 l3 l4 : Int) (m : q_Mem) : q_Res :=
  if 3 < q_w l4 then (k3 l1 l2 (l3 + 1) m)
  else (q_bd (f_Mod_isLine l3 l4 m) fun v1 m2 =>
  if q_w v1 = 0 then (f_Mod_tryLines_b64 k3 k12 l1 l2 l3 l4 m2)
  else (q_bd (f_Mod_layPlan l1 l2 l3 l4 m2) fun _ m3 =>
  if q_w (m3 81 55) = 0 then (q_bd (f_Mod_weigh ((m3 81 53) * (m3 81 54)) l1 l2 l3 l4 m3) fun _ m4 =>
  f_Mod_tryLines_b64 k3 k12 l1 l2 l3 l4 m4)
  else (f_Mod_tryLines_b64 k3 k12 l1 l2 l3 l4 m3)))
set_option maxRecDepth 20000 in
theorem w_Mod_tryLines_b12 {k3 : Int → Int → Int → q_Mem → q_Res} {k12 : Int → Int → Int → Int → q_Mem → q_Res} {l1 l2 l3 l4 : Int} {r : Int × q_Mem} {m : q_Mem} {N : Nat} (hN : 126 ≤ N) (hk3 : ∀ (l1 l2 l3 : Int) (m : q_Mem), k3 l1 l2 l3 m = some r → q_E md_X11_tryLines 6 N (none) r m 3 [q_A 81, q_I l1, q_I l2, q_I l3, q_N] []) (hk12 : ∀ (l1 l2 l3 l4 : Int) (m : q_Mem), k12 l1 l2 l3 l4 m = some r → q_E md_X11_tryLines 6 N (none) r m 12 [q_A 81, q_I l1, q_I l2, q_I l3, q_I l4] []) (h : f_Mod_tryLines_b12 k3 k12 l1 l2 l3 l4 m = some r) : q_E md_X11_tryLines 6 N (none) r m 12 [q_A 81, q_I l1, q_I l2, q_I l3, q_I l4] [] := by
  unfold f_Mod_tryLines_b12 at h
  refine q_iload (M := md_X11_tryLines) (pc := 12) dX11_tryLines_12 rfl ?_
  refine q_iconst (M := md_X11_tryLines) (pc := 14) dX11_tryLines_14 ?_
  refine e_icmp_gt (M := md_X11_tryLines) (pc := 15) (tgt := 70) h rfl (q_wlit rfl) dX11_tryLines_15 (by decide) (fun h => ?_) (fun h => ?_)
  · refine e_inc (M := md_X11_tryLines) (pc := 70) (x := l3) (ls' := [q_A 81, q_I l1, q_I l2, q_I (l3 + 1), q_I l4]) dX11_tryLines_70 rfl (by decide) (q_pl rfl) rfl ?_
    refine q_goto (M := md_X11_tryLines) (pc := 73) (tgt := 3) dX11_tryLines_73 (by decide) ?_
    exact q_weak (hk3 _ _ _ _  h) ⟨Or.inr rfl, Or.inr rfl, Or.inr rfl, Or.inr rfl, Or.inl rfl, trivial⟩
  · refine q_iload_n (M := md_X11_tryLines) (pc := 18) dX11_tryLines_18 rfl ?_
    refine q_iload (M := md_X11_tryLines) (pc := 19) dX11_tryLines_19 rfl ?_
    refine e_callSi (M := md_X11_tryLines) (pc := 21) (d' := 3) (M' := md_X11_isLine) (av := [q_I l3, q_I l4]) h ml_11_519 sm_X11_isLine dX11_tryLines_21 (fun v he => ok_X11_isLine hN  he) rfl (Nat.le_of_ble_eq_true rfl) ⟨by decide, by decide⟩ rfl (fun v1 m2 h => ?_)
    refine e_if_ne (M := md_X11_tryLines) (pc := 24) (tgt := 30) h rfl dX11_tryLines_24 (by decide) (fun h => ?_) (fun h => ?_)
    · refine q_aload_n (M := md_X11_tryLines) (pc := 30) dX11_tryLines_30 rfl (by decide) ?_
      refine q_iload_n (M := md_X11_tryLines) (pc := 31) dX11_tryLines_31 rfl ?_
      refine q_iload_n (M := md_X11_tryLines) (pc := 32) dX11_tryLines_32 rfl ?_
      refine q_iload_n (M := md_X11_tryLines) (pc := 33) dX11_tryLines_33 rfl ?_
      refine q_iload (M := md_X11_tryLines) (pc := 34) dX11_tryLines_34 rfl ?_
      refine e_callVv (M := md_X11_tryLines) (pc := 36) (d' := 5) (av := [q_I l1, q_I l2, q_I l3, q_I l4]) (c := 81) h ml_11_433 im_X11_layPlan se_X11_layPlan dX11_tryLines_36 (fun v he => ok_X11_layPlan hN  he) rfl (is_81 hN) ⟨_, _, rfl⟩ (by decide) (Nat.le_of_ble_eq_true rfl) ⟨by decide, by decide⟩ rfl (fun _ m3 h => ?_)
      refine q_aload_n (M := md_X11_tryLines) (pc := 39) dX11_tryLines_39 rfl (by decide) ?_
      refine e_gI (M := md_X11_tryLines) (pc := 40) (v := m3 81 55) fl_11_421 dX11_tryLines_40 (is_81 hN) rfl ?_
      refine e_if_ne (M := md_X11_tryLines) (pc := 43) (tgt := 64) h rfl dX11_tryLines_43 (by decide) (fun h => ?_) (fun h => ?_)
      · exact q_weak (w_Mod_tryLines_b64 hN hk3 hk12  h) ⟨Or.inr rfl, Or.inr rfl, Or.inr rfl, Or.inr rfl, Or.inr rfl, trivial⟩
      · refine q_aload_n (M := md_X11_tryLines) (pc := 46) dX11_tryLines_46 rfl (by decide) ?_
        refine q_aload_n (M := md_X11_tryLines) (pc := 47) dX11_tryLines_47 rfl (by decide) ?_
        refine e_gI (M := md_X11_tryLines) (pc := 48) (v := m3 81 53) fl_11_415 dX11_tryLines_48 (is_81 hN) rfl ?_
        refine q_aload_n (M := md_X11_tryLines) (pc := 51) dX11_tryLines_51 rfl (by decide) ?_
        refine e_gI (M := md_X11_tryLines) (pc := 52) (v := m3 81 54) fl_11_418 dX11_tryLines_52 (is_81 hN) rfl ?_
        refine q_imul (M := md_X11_tryLines) (pc := 55) dX11_tryLines_55 ?_
        refine q_iload_n (M := md_X11_tryLines) (pc := 56) dX11_tryLines_56 rfl ?_
        refine q_iload_n (M := md_X11_tryLines) (pc := 57) dX11_tryLines_57 rfl ?_
        refine q_iload_n (M := md_X11_tryLines) (pc := 58) dX11_tryLines_58 rfl ?_
        refine q_iload (M := md_X11_tryLines) (pc := 59) dX11_tryLines_59 rfl ?_
        refine e_callVv (M := md_X11_tryLines) (pc := 61) (d' := 1) (av := [q_I ((m3 81 53) * (m3 81 54)), q_I l1, q_I l2, q_I l3, q_I l4]) (c := 81) h ml_11_515 im_X11_weigh se_X11_weigh dX11_tryLines_61 (fun v he => ok_X11_weigh hN  he) rfl (is_81 hN) ⟨_, _, rfl⟩ (by decide) (Nat.le_of_ble_eq_true rfl) ⟨by decide, by decide⟩ rfl (fun _ m4 h => ?_)
        exact q_weak (w_Mod_tryLines_b64 hN hk3 hk12  h) ⟨Or.inr rfl, Or.inr rfl, Or.inr rfl, Or.inr rfl, Or.inr rfl, trivial⟩
    · refine q_goto (M := md_X11_tryLines) (pc := 27) (tgt := 64) dX11_tryLines_27 (by decide) ?_
      exact q_weak (w_Mod_tryLines_b64 hN hk3 hk12  h) ⟨Or.inr rfl, Or.inr rfl, Or.inr rfl, Or.inr rfl, Or.inr rfl, trivial⟩
def f_Mod_tryLines_l12 (k3 : Int → Int → Int → q_Mem → q_Res) : Nat → Int → Int → Int → Int → q_Mem → q_Res
  | 0 => fun _ _ _ _ _ => none
  | n + 1 => fun l1 l2 l3 l4 m => f_Mod_tryLines_b12 k3 (f_Mod_tryLines_l12 k3 n) l1 l2 l3 l4 m
theorem w_Mod_tryLines_l12 {k3 : Int → Int → Int → q_Mem → q_Res} {r : Int × q_Mem} {N : Nat} (hN : 126 ≤ N) (hk3 : ∀ (l1 l2 l3 : Int) (m : q_Mem), k3 l1 l2 l3 m = some r → q_E md_X11_tryLines 6 N (none) r m 3 [q_A 81, q_I l1, q_I l2, q_I l3, q_N] []) : ∀ (n : Nat) (l1 l2 l3 l4 : Int) (m : q_Mem), f_Mod_tryLines_l12 k3 n l1 l2 l3 l4 m = some r → q_E md_X11_tryLines 6 N (none) r m 12 [q_A 81, q_I l1, q_I l2, q_I l3, q_I l4] [] := by
  intro n
  induction n with
  | zero => intro l1 l2 l3 l4 m h; exact q_no h
  | succ n ih =>
    intro l1 l2 l3 l4 m h
    exact w_Mod_tryLines_b12 hN hk3 (fun l1 l2 l3 l4 m h => ih l1 l2 l3 l4 m h) h
def f_Mod_tryLines_b3 (k3 : Int → Int → Int → q_Mem → q_Res) (l1 l2 l3 : Int) (m : q_Mem) : q_Res :=
  if 3 < q_w l3 then (q_rt 0 m)
  else (f_Mod_tryLines_l12 k3 q_F l1 l2 l3 (-3) m)
set_option maxRecDepth 20000 in
theorem w_Mod_tryLines_b3 {k3 : Int → Int → Int → q_Mem → q_Res} {l1 l2 l3 : Int} {r : Int × q_Mem} {m : q_Mem} {N : Nat} (hN : 126 ≤ N) (hk3 : ∀ (l1 l2 l3 : Int) (m : q_Mem), k3 l1 l2 l3 m = some r → q_E md_X11_tryLines 6 N (none) r m 3 [q_A 81, q_I l1, q_I l2, q_I l3, q_N] []) (h : f_Mod_tryLines_b3 k3 l1 l2 l3 m = some r) : q_E md_X11_tryLines 6 N (none) r m 3 [q_A 81, q_I l1, q_I l2, q_I l3, q_N] [] := by
  unfold f_Mod_tryLines_b3 at h
  refine q_iload_n (M := md_X11_tryLines) (pc := 3) dX11_tryLines_3 rfl ?_
  refine q_iconst (M := md_X11_tryLines) (pc := 4) dX11_tryLines_4 ?_
  refine e_icmp_gt (M := md_X11_tryLines) (pc := 5) (tgt := 76) h rfl (q_wlit rfl) dX11_tryLines_5 (by decide) (fun h => ?_) (fun h => ?_)
  · exact e_vret (M := md_X11_tryLines) (pc := 76) h rfl dX11_tryLines_76
  · refine q_bipush (M := md_X11_tryLines) (pc := 8) (x := -3) dX11_tryLines_8 (by decide) ?_
    refine e_ist (M := md_X11_tryLines) (pc := 10) (ls' := [q_A 81, q_I l1, q_I l2, q_I l3, q_I (-3)]) dX11_tryLines_10 (by decide) (q_pl rfl) rfl ?_
    exact q_weak (w_Mod_tryLines_l12 hN hk3 q_F _ _ _ _ _  h) ⟨Or.inr rfl, Or.inr rfl, Or.inr rfl, Or.inr rfl, Or.inr rfl, trivial⟩
def f_Mod_tryLines_l3 : Nat → Int → Int → Int → q_Mem → q_Res
  | 0 => fun _ _ _ _ => none
  | n + 1 => fun l1 l2 l3 m => f_Mod_tryLines_b3 (f_Mod_tryLines_l3 n) l1 l2 l3 m
theorem w_Mod_tryLines_l3 {r : Int × q_Mem} {N : Nat} (hN : 126 ≤ N) : ∀ (n : Nat) (l1 l2 l3 : Int) (m : q_Mem), f_Mod_tryLines_l3 n l1 l2 l3 m = some r → q_E md_X11_tryLines 6 N (none) r m 3 [q_A 81, q_I l1, q_I l2, q_I l3, q_N] [] := by
  intro n
  induction n with
  | zero => intro l1 l2 l3 m h; exact q_no h
  | succ n ih =>
    intro l1 l2 l3 m h
    exact w_Mod_tryLines_b3 hN (fun l1 l2 l3 m h => ih l1 l2 l3 m h) h
def f_Mod_tryLines (l1 l2 : Int) (m : q_Mem) : q_Res :=
  f_Mod_tryLines_l3 q_F l1 l2 (-3) m
set_option maxRecDepth 20000 in
theorem ok_X11_tryLines {l1 l2 : Int} {r : Int × q_Mem} {m : q_Mem} {N : Nat} (hN : 126 ≤ N) (h : f_Mod_tryLines l1 l2 m = some r) : q_C md_X11_tryLines (q_room 6) 0 0 [q_A 81, q_I l1, q_I l2] (q_g N) m (none, q_g N, r.2) := by
  refine q_ofR (by decide) 2 (ls := [q_A 81, q_I l1, q_I l2, q_N, q_N]) rfl (Nat.le_of_ble_eq_true rfl) ?_
  change q_E md_X11_tryLines 6 N (none) r m 0 [q_A 81, q_I l1, q_I l2, q_N, q_N] []
  unfold f_Mod_tryLines at h
  refine q_bipush (M := md_X11_tryLines) (pc := 0) (x := -3) dX11_tryLines_0 (by decide) ?_
  refine e_ist_n (M := md_X11_tryLines) (pc := 2) (ls' := [q_A 81, q_I l1, q_I l2, q_I (-3), q_N]) dX11_tryLines_2 (by decide) (q_pl rfl) rfl ?_
  exact q_weak (w_Mod_tryLines_l3 hN q_F _ _ _ _  h) ⟨Or.inr rfl, Or.inr rfl, Or.inr rfl, Or.inr rfl, Or.inl rfl, trivial⟩
def f_Mod_pair_b61 (k29 : Int → Int → Int → q_Mem → q_Res) (k38 : Int → Int → Int → Int → q_Mem → q_Res) (l1 l2 l3 l4 : Int) (m : q_Mem) : q_Res :=
  k38 l1 l2 l3 (l4 + 1) m
set_option maxRecDepth 20000 in
theorem w_Mod_pair_b61 {k29 : Int → Int → Int → q_Mem → q_Res} {k38 : Int → Int → Int → Int → q_Mem → q_Res} {l1 l2 l3 l4 : Int} {r : Int × q_Mem} {m : q_Mem} {N : Nat} (hN : 126 ≤ N) (hk29 : ∀ (l1 l2 l3 : Int) (m : q_Mem), k29 l1 l2 l3 m = some r → q_E md_X11_pair 7 N (some 0) r m 29 [q_A 81, q_I l1, q_I l2, q_I l3, q_N] []) (hk38 : ∀ (l1 l2 l3 l4 : Int) (m : q_Mem), k38 l1 l2 l3 l4 m = some r → q_E md_X11_pair 7 N (some 0) r m 38 [q_A 81, q_I l1, q_I l2, q_I l3, q_I l4] []) (h : f_Mod_pair_b61 k29 k38 l1 l2 l3 l4 m = some r) : q_E md_X11_pair 7 N (some 0) r m 61 [q_A 81, q_I l1, q_I l2, q_I l3, q_I l4] [] := by
  unfold f_Mod_pair_b61 at h
  refine e_inc (M := md_X11_pair) (pc := 61) (x := l4) (ls' := [q_A 81, q_I l1, q_I l2, q_I l3, q_I (l4 + 1)]) dX11_pair_61 rfl (by decide) (q_pl rfl) rfl ?_
  refine q_goto (M := md_X11_pair) (pc := 64) (tgt := 38) dX11_pair_64 (by decide) ?_
  exact q_weak (hk38 _ _ _ _ _  h) ⟨Or.inr rfl, Or.inr rfl, Or.inr rfl, Or.inr rfl, Or.inr rfl, trivial⟩
def f_Mod_pair_b38 (k29 : Int → Int → Int → q_Mem → q_Res) (k38 : Int → Int → Int → Int → q_Mem → q_Res) (l1 l2 l3 l4 : Int) (m : q_Mem) : q_Res :=
  if q_w l1 < q_w l4 then (k29 l1 l2 (l3 + 1) m)
  else (q_bd (f_Mod_isLawful l3 l4 m) fun v1 m2 =>
  if q_w v1 = 0 then (f_Mod_pair_b61 k29 k38 l1 l2 l3 l4 m2)
  else (q_bd (f_Mod_tryLines l3 l4 m2) fun _ m3 =>
  f_Mod_pair_b61 k29 k38 l1 l2 l3 l4 m3))
set_option maxRecDepth 20000 in
theorem w_Mod_pair_b38 {k29 : Int → Int → Int → q_Mem → q_Res} {k38 : Int → Int → Int → Int → q_Mem → q_Res} {l1 l2 l3 l4 : Int} {r : Int × q_Mem} {m : q_Mem} {N : Nat} (hN : 126 ≤ N) (hk29 : ∀ (l1 l2 l3 : Int) (m : q_Mem), k29 l1 l2 l3 m = some r → q_E md_X11_pair 7 N (some 0) r m 29 [q_A 81, q_I l1, q_I l2, q_I l3, q_N] []) (hk38 : ∀ (l1 l2 l3 l4 : Int) (m : q_Mem), k38 l1 l2 l3 l4 m = some r → q_E md_X11_pair 7 N (some 0) r m 38 [q_A 81, q_I l1, q_I l2, q_I l3, q_I l4] []) (h : f_Mod_pair_b38 k29 k38 l1 l2 l3 l4 m = some r) : q_E md_X11_pair 7 N (some 0) r m 38 [q_A 81, q_I l1, q_I l2, q_I l3, q_I l4] [] := by
  unfold f_Mod_pair_b38 at h
  refine q_iload (M := md_X11_pair) (pc := 38) dX11_pair_38 rfl ?_
  refine q_iload_n (M := md_X11_pair) (pc := 40) dX11_pair_40 rfl ?_
  refine e_icmp_gt (M := md_X11_pair) (pc := 41) (tgt := 67) h rfl rfl dX11_pair_41 (by decide) (fun h => ?_) (fun h => ?_)
  · refine e_inc (M := md_X11_pair) (pc := 67) (x := l3) (ls' := [q_A 81, q_I l1, q_I l2, q_I (l3 + 1), q_I l4]) dX11_pair_67 rfl (by decide) (q_pl rfl) rfl ?_
    refine q_goto (M := md_X11_pair) (pc := 70) (tgt := 29) dX11_pair_70 (by decide) ?_
    exact q_weak (hk29 _ _ _ _  h) ⟨Or.inr rfl, Or.inr rfl, Or.inr rfl, Or.inr rfl, Or.inl rfl, trivial⟩
  · refine q_aload_n (M := md_X11_pair) (pc := 44) dX11_pair_44 rfl (by decide) ?_
    refine q_iload_n (M := md_X11_pair) (pc := 45) dX11_pair_45 rfl ?_
    refine q_iload (M := md_X11_pair) (pc := 46) dX11_pair_46 rfl ?_
    refine e_callVi (M := md_X11_pair) (pc := 48) (d' := 2) (av := [q_I l3, q_I l4]) (c := 81) h ml_11_440 im_X11_isLawful se_X11_isLawful dX11_pair_48 (fun v he => ok_X11_isLawful hN  he) rfl (is_81 hN) ⟨_, _, rfl⟩ (by decide) (Nat.le_of_ble_eq_true rfl) ⟨by decide, by decide⟩ rfl (fun v1 m2 h => ?_)
    refine e_if_eq (M := md_X11_pair) (pc := 51) (tgt := 61) h rfl dX11_pair_51 (by decide) (fun h => ?_) (fun h => ?_)
    · exact q_weak (w_Mod_pair_b61 hN hk29 hk38  h) ⟨Or.inr rfl, Or.inr rfl, Or.inr rfl, Or.inr rfl, Or.inr rfl, trivial⟩
    · refine q_aload_n (M := md_X11_pair) (pc := 54) dX11_pair_54 rfl (by decide) ?_
      refine q_iload_n (M := md_X11_pair) (pc := 55) dX11_pair_55 rfl ?_
      refine q_iload (M := md_X11_pair) (pc := 56) dX11_pair_56 rfl ?_
      refine e_callVv (M := md_X11_pair) (pc := 58) (d' := 6) (av := [q_I l3, q_I l4]) (c := 81) h ml_11_522 im_X11_tryLines se_X11_tryLines dX11_pair_58 (fun v he => ok_X11_tryLines hN  he) rfl (is_81 hN) ⟨_, _, rfl⟩ (by decide) (Nat.le_of_ble_eq_true rfl) ⟨by decide, by decide⟩ rfl (fun _ m3 h => ?_)
      exact q_weak (w_Mod_pair_b61 hN hk29 hk38  h) ⟨Or.inr rfl, Or.inr rfl, Or.inr rfl, Or.inr rfl, Or.inr rfl, trivial⟩
def f_Mod_pair_l38 (k29 : Int → Int → Int → q_Mem → q_Res) : Nat → Int → Int → Int → Int → q_Mem → q_Res
  | 0 => fun _ _ _ _ _ => none
  | n + 1 => fun l1 l2 l3 l4 m => f_Mod_pair_b38 k29 (f_Mod_pair_l38 k29 n) l1 l2 l3 l4 m
theorem w_Mod_pair_l38 {k29 : Int → Int → Int → q_Mem → q_Res} {r : Int × q_Mem} {N : Nat} (hN : 126 ≤ N) (hk29 : ∀ (l1 l2 l3 : Int) (m : q_Mem), k29 l1 l2 l3 m = some r → q_E md_X11_pair 7 N (some 0) r m 29 [q_A 81, q_I l1, q_I l2, q_I l3, q_N] []) : ∀ (n : Nat) (l1 l2 l3 l4 : Int) (m : q_Mem), f_Mod_pair_l38 k29 n l1 l2 l3 l4 m = some r → q_E md_X11_pair 7 N (some 0) r m 38 [q_A 81, q_I l1, q_I l2, q_I l3, q_I l4] [] := by
  intro n
  induction n with
  | zero => intro l1 l2 l3 l4 m h; exact q_no h
  | succ n ih =>
    intro l1 l2 l3 l4 m h
    exact w_Mod_pair_b38 hN hk29 (fun l1 l2 l3 l4 m h => ih l1 l2 l3 l4 m h) h
def f_Mod_pair_b29 (k29 : Int → Int → Int → q_Mem → q_Res) (l1 l2 l3 : Int) (m : q_Mem) : q_Res :=
  if q_w l1 < q_w l3 then (if q_w (m 81 57) = 0 then (q_rt (-1000) m)
  else (if q_w l2 = 0 then (q_rt (m 81 58) m)
  else (if q_w l2 = 1 then (q_rt (m 81 59) m)
  else (if q_w l2 = 2 then (q_rt (m 81 60) m)
  else (if q_w l2 = 3 then (q_rt (m 81 61) m)
  else (q_rt (m 81 62) m))))))
  else (f_Mod_pair_l38 k29 q_F l1 l2 l3 (-l1) m)
set_option maxRecDepth 20000 in
theorem w_Mod_pair_b29 {k29 : Int → Int → Int → q_Mem → q_Res} {l1 l2 l3 : Int} {r : Int × q_Mem} {m : q_Mem} {N : Nat} (hN : 126 ≤ N) (hk29 : ∀ (l1 l2 l3 : Int) (m : q_Mem), k29 l1 l2 l3 m = some r → q_E md_X11_pair 7 N (some 0) r m 29 [q_A 81, q_I l1, q_I l2, q_I l3, q_N] []) (h : f_Mod_pair_b29 k29 l1 l2 l3 m = some r) : q_E md_X11_pair 7 N (some 0) r m 29 [q_A 81, q_I l1, q_I l2, q_I l3, q_N] [] := by
  unfold f_Mod_pair_b29 at h
  refine q_iload_n (M := md_X11_pair) (pc := 29) dX11_pair_29 rfl ?_
  refine q_iload_n (M := md_X11_pair) (pc := 30) dX11_pair_30 rfl ?_
  refine e_icmp_gt (M := md_X11_pair) (pc := 31) (tgt := 73) h rfl rfl dX11_pair_31 (by decide) (fun h => ?_) (fun h => ?_)
  · refine q_aload_n (M := md_X11_pair) (pc := 73) dX11_pair_73 rfl (by decide) ?_
    refine e_gI (M := md_X11_pair) (pc := 74) (v := m 81 57) fl_11_494 dX11_pair_74 (is_81 hN) rfl ?_
    refine e_if_ne (M := md_X11_pair) (pc := 77) (tgt := 84) h rfl dX11_pair_77 (by decide) (fun h => ?_) (fun h => ?_)
    · refine q_iload_n (M := md_X11_pair) (pc := 84) dX11_pair_84 rfl ?_
      refine e_if_ne (M := md_X11_pair) (pc := 85) (tgt := 95) h rfl dX11_pair_85 (by decide) (fun h => ?_) (fun h => ?_)
      · refine q_iload_n (M := md_X11_pair) (pc := 95) dX11_pair_95 rfl ?_
        refine q_iconst (M := md_X11_pair) (pc := 96) dX11_pair_96 ?_
        refine e_icmp_ne (M := md_X11_pair) (pc := 97) (tgt := 107) h rfl (q_wlit rfl) dX11_pair_97 (by decide) (fun h => ?_) (fun h => ?_)
        · refine q_iload_n (M := md_X11_pair) (pc := 107) dX11_pair_107 rfl ?_
          refine q_iconst (M := md_X11_pair) (pc := 108) dX11_pair_108 ?_
          refine e_icmp_ne (M := md_X11_pair) (pc := 109) (tgt := 119) h rfl (q_wlit rfl) dX11_pair_109 (by decide) (fun h => ?_) (fun h => ?_)
          · refine q_iload_n (M := md_X11_pair) (pc := 119) dX11_pair_119 rfl ?_
            refine q_iconst (M := md_X11_pair) (pc := 120) dX11_pair_120 ?_
            refine e_icmp_ne (M := md_X11_pair) (pc := 121) (tgt := 131) h rfl (q_wlit rfl) dX11_pair_121 (by decide) (fun h => ?_) (fun h => ?_)
            · refine q_aload_n (M := md_X11_pair) (pc := 131) dX11_pair_131 rfl (by decide) ?_
              refine e_gI (M := md_X11_pair) (pc := 132) (v := m 81 62) fl_11_509 dX11_pair_132 (is_81 hN) rfl ?_
              exact e_iret (M := md_X11_pair) (pc := 135) h rfl dX11_pair_135
            · refine q_aload_n (M := md_X11_pair) (pc := 124) dX11_pair_124 rfl (by decide) ?_
              refine e_gI (M := md_X11_pair) (pc := 125) (v := m 81 61) fl_11_506 dX11_pair_125 (is_81 hN) rfl ?_
              refine q_goto (M := md_X11_pair) (pc := 128) (tgt := 135) dX11_pair_128 (by decide) ?_
              exact e_iret (M := md_X11_pair) (pc := 135) h rfl dX11_pair_135
          · refine q_aload_n (M := md_X11_pair) (pc := 112) dX11_pair_112 rfl (by decide) ?_
            refine e_gI (M := md_X11_pair) (pc := 113) (v := m 81 60) fl_11_503 dX11_pair_113 (is_81 hN) rfl ?_
            refine q_goto (M := md_X11_pair) (pc := 116) (tgt := 135) dX11_pair_116 (by decide) ?_
            exact e_iret (M := md_X11_pair) (pc := 135) h rfl dX11_pair_135
        · refine q_aload_n (M := md_X11_pair) (pc := 100) dX11_pair_100 rfl (by decide) ?_
          refine e_gI (M := md_X11_pair) (pc := 101) (v := m 81 59) fl_11_500 dX11_pair_101 (is_81 hN) rfl ?_
          refine q_goto (M := md_X11_pair) (pc := 104) (tgt := 135) dX11_pair_104 (by decide) ?_
          exact e_iret (M := md_X11_pair) (pc := 135) h rfl dX11_pair_135
      · refine q_aload_n (M := md_X11_pair) (pc := 88) dX11_pair_88 rfl (by decide) ?_
        refine e_gI (M := md_X11_pair) (pc := 89) (v := m 81 58) fl_11_497 dX11_pair_89 (is_81 hN) rfl ?_
        refine q_goto (M := md_X11_pair) (pc := 92) (tgt := 135) dX11_pair_92 (by decide) ?_
        exact e_iret (M := md_X11_pair) (pc := 135) h rfl dX11_pair_135
    · refine q_sipush (M := md_X11_pair) (pc := 80) (x := -1000) dX11_pair_80 (by decide) ?_
      exact e_iret (M := md_X11_pair) (pc := 83) h rfl dX11_pair_83
  · refine q_iload_n (M := md_X11_pair) (pc := 34) dX11_pair_34 rfl ?_
    refine q_ineg (M := md_X11_pair) (pc := 35) dX11_pair_35 ?_
    refine e_ist (M := md_X11_pair) (pc := 36) (ls' := [q_A 81, q_I l1, q_I l2, q_I l3, q_I (-l1)]) dX11_pair_36 (by decide) (q_pl rfl) rfl ?_
    exact q_weak (w_Mod_pair_l38 hN hk29 q_F _ _ _ _ _  h) ⟨Or.inr rfl, Or.inr rfl, Or.inr rfl, Or.inr rfl, Or.inr rfl, trivial⟩
def f_Mod_pair_l29 : Nat → Int → Int → Int → q_Mem → q_Res
  | 0 => fun _ _ _ _ => none
  | n + 1 => fun l1 l2 l3 m => f_Mod_pair_b29 (f_Mod_pair_l29 n) l1 l2 l3 m
theorem w_Mod_pair_l29 {r : Int × q_Mem} {N : Nat} (hN : 126 ≤ N) : ∀ (n : Nat) (l1 l2 l3 : Int) (m : q_Mem), f_Mod_pair_l29 n l1 l2 l3 m = some r → q_E md_X11_pair 7 N (some 0) r m 29 [q_A 81, q_I l1, q_I l2, q_I l3, q_N] [] := by
  intro n
  induction n with
  | zero => intro l1 l2 l3 m h; exact q_no h
  | succ n ih =>
    intro l1 l2 l3 m h
    exact w_Mod_pair_b29 hN (fun l1 l2 l3 m h => ih l1 l2 l3 m h) h
def f_Mod_pair (l1 l2 : Int) (m : q_Mem) : q_Res :=
  q_bd (f_Mod_isIn l1 1 4 m) fun v1 m2 =>
  if q_w v1 = 0 then (q_rt (-1000) m2)
  else (q_bd (f_Mod_isIn l2 0 4 m2) fun v3 m4 =>
  if q_w v3 = 0 then (q_rt (-1000) m4)
  else (q_bd (f_Mod_beginBest m4) fun _ m5 =>
  f_Mod_pair_l29 q_F l1 l2 (-l1) m5))
set_option maxRecDepth 20000 in
theorem ok_X11_pair {l1 l2 : Int} {r : Int × q_Mem} {m : q_Mem} {N : Nat} (hN : 126 ≤ N) (h : f_Mod_pair l1 l2 m = some r) : q_C md_X11_pair (q_room 7) 0 0 [q_A 81, q_I l1, q_I l2] (q_g N) m (some (q_I r.1), q_g N, r.2) := by
  refine q_ofR (by decide) 2 (ls := [q_A 81, q_I l1, q_I l2, q_N, q_N]) rfl (Nat.le_of_ble_eq_true rfl) ?_
  change q_E md_X11_pair 7 N (some 0) r m 0 [q_A 81, q_I l1, q_I l2, q_N, q_N] []
  unfold f_Mod_pair at h
  refine q_iload_n (M := md_X11_pair) (pc := 0) dX11_pair_0 rfl ?_
  refine q_iconst (M := md_X11_pair) (pc := 1) dX11_pair_1 ?_
  refine q_iconst (M := md_X11_pair) (pc := 2) dX11_pair_2 ?_
  refine e_callSi (M := md_X11_pair) (pc := 3) (d' := 1) (M' := md_X11_isIn) (av := [q_I l1, q_I 1, q_I 4]) h ml_11_221 sm_X11_isIn dX11_pair_3 (fun v he => ok_X11_isIn hN  he) rfl (Nat.le_of_ble_eq_true rfl) ⟨by decide, by decide⟩ rfl (fun v1 m2 h => ?_)
  refine e_if_eq (M := md_X11_pair) (pc := 6) (tgt := 18) h rfl dX11_pair_6 (by decide) (fun h => ?_) (fun h => ?_)
  · refine q_sipush (M := md_X11_pair) (pc := 18) (x := -1000) dX11_pair_18 (by decide) ?_
    exact e_iret (M := md_X11_pair) (pc := 21) h rfl dX11_pair_21
  · refine q_iload_n (M := md_X11_pair) (pc := 9) dX11_pair_9 rfl ?_
    refine q_iconst (M := md_X11_pair) (pc := 10) dX11_pair_10 ?_
    refine q_iconst (M := md_X11_pair) (pc := 11) dX11_pair_11 ?_
    refine e_callSi (M := md_X11_pair) (pc := 12) (d' := 1) (M' := md_X11_isIn) (av := [q_I l2, q_I 0, q_I 4]) h ml_11_221 sm_X11_isIn dX11_pair_12 (fun v he => ok_X11_isIn hN  he) rfl (Nat.le_of_ble_eq_true rfl) ⟨by decide, by decide⟩ rfl (fun v3 m4 h => ?_)
    refine e_if_ne (M := md_X11_pair) (pc := 15) (tgt := 22) h rfl dX11_pair_15 (by decide) (fun h => ?_) (fun h => ?_)
    · refine q_aload_n (M := md_X11_pair) (pc := 22) dX11_pair_22 rfl (by decide) ?_
      refine e_callVv (M := md_X11_pair) (pc := 23) (d' := 1) (av := []) (c := 81) h ml_11_512 im_X11_beginBest se_X11_beginBest dX11_pair_23 (fun v he => ok_X11_beginBest hN  he) rfl (is_81 hN) ⟨_, _, rfl⟩ (by decide) (Nat.le_of_ble_eq_true rfl) ⟨by decide, by decide⟩ rfl (fun _ m5 h => ?_)
      refine q_iload_n (M := md_X11_pair) (pc := 26) dX11_pair_26 rfl ?_
      refine q_ineg (M := md_X11_pair) (pc := 27) dX11_pair_27 ?_
      refine e_ist_n (M := md_X11_pair) (pc := 28) (ls' := [q_A 81, q_I l1, q_I l2, q_I (-l1), q_N]) dX11_pair_28 (by decide) (q_pl rfl) rfl ?_
      exact q_weak (w_Mod_pair_l29 hN q_F _ _ _ _  h) ⟨Or.inr rfl, Or.inr rfl, Or.inr rfl, Or.inr rfl, Or.inl rfl, trivial⟩
    · refine q_sipush (M := md_X11_pair) (pc := 18) (x := -1000) dX11_pair_18 (by decide) ?_
      exact e_iret (M := md_X11_pair) (pc := 21) h rfl dX11_pair_21
def f_Mod_beatsBy_b119 (k21 : Int → Int → Int → Int → Int → q_Mem → q_Res) (k57 : Int → Int → Int → Int → Int → Int → q_Mem → q_Res) (l1 l2 l3 l4 l5 l6 : Int) (m : q_Mem) : q_Res :=
  k57 l1 l2 l3 l4 l5 (l6 + 1) m
set_option maxRecDepth 20000 in
theorem w_Mod_beatsBy_b119 {k21 : Int → Int → Int → Int → Int → q_Mem → q_Res} {k57 : Int → Int → Int → Int → Int → Int → q_Mem → q_Res} {l1 l2 l3 l4 l5 l6 : Int} {r : Int × q_Mem} {m : q_Mem} {N : Nat} (hN : 126 ≤ N) (hk21 : ∀ (l1 l2 l3 l4 l5 : Int) (m : q_Mem), k21 l1 l2 l3 l4 l5 m = some r → q_E md_X11_beatsBy 7 N (some 0) r m 21 [q_A 81, q_I l1, q_I l2, q_I l3, q_I l4, q_I l5, q_N, q_N] []) (hk57 : ∀ (l1 l2 l3 l4 l5 l6 : Int) (m : q_Mem), k57 l1 l2 l3 l4 l5 l6 m = some r → q_E md_X11_beatsBy 7 N (some 0) r m 57 [q_A 81, q_I l1, q_I l2, q_I l3, q_I l4, q_I l5, q_I l6, q_N] []) (h : f_Mod_beatsBy_b119 k21 k57 l1 l2 l3 l4 l5 l6 m = some r) : q_E md_X11_beatsBy 7 N (some 0) r m 119 [q_A 81, q_I l1, q_I l2, q_I l3, q_I l4, q_I l5, q_I l6, q_N] [] := by
  unfold f_Mod_beatsBy_b119 at h
  refine e_inc (M := md_X11_beatsBy) (pc := 119) (x := l6) (ls' := [q_A 81, q_I l1, q_I l2, q_I l3, q_I l4, q_I l5, q_I (l6 + 1), q_N]) dX11_beatsBy_119 rfl (by decide) (q_pl rfl) rfl ?_
  refine q_goto (M := md_X11_beatsBy) (pc := 122) (tgt := 57) dX11_beatsBy_122 (by decide) ?_
  exact q_weak (hk57 _ _ _ _ _ _ _  h) ⟨Or.inr rfl, Or.inr rfl, Or.inr rfl, Or.inr rfl, Or.inr rfl, Or.inr rfl, Or.inr rfl, Or.inl rfl, trivial⟩
def f_Mod_beatsBy_b114 (k21 : Int → Int → Int → Int → Int → q_Mem → q_Res) (k57 : Int → Int → Int → Int → Int → Int → q_Mem → q_Res) (l1 l2 l3 l4 l5 l6 s1 : Int) (m : q_Mem) : q_Res :=
  q_rd m 120 12 s1 fun v1 =>
  q_wr m 120 12 s1 (v1 + 1) fun m2 =>
  f_Mod_beatsBy_b119 k21 k57 l1 l2 l3 l4 l5 l6 m2
set_option maxRecDepth 20000 in
theorem w_Mod_beatsBy_b114 {k21 : Int → Int → Int → Int → Int → q_Mem → q_Res} {k57 : Int → Int → Int → Int → Int → Int → q_Mem → q_Res} {l1 l2 l3 l4 l5 l6 s1 : Int} {r : Int × q_Mem} {m : q_Mem} {N : Nat} (hN : 126 ≤ N) (hk21 : ∀ (l1 l2 l3 l4 l5 : Int) (m : q_Mem), k21 l1 l2 l3 l4 l5 m = some r → q_E md_X11_beatsBy 7 N (some 0) r m 21 [q_A 81, q_I l1, q_I l2, q_I l3, q_I l4, q_I l5, q_N, q_N] []) (hk57 : ∀ (l1 l2 l3 l4 l5 l6 : Int) (m : q_Mem), k57 l1 l2 l3 l4 l5 l6 m = some r → q_E md_X11_beatsBy 7 N (some 0) r m 57 [q_A 81, q_I l1, q_I l2, q_I l3, q_I l4, q_I l5, q_I l6, q_N] []) (h : f_Mod_beatsBy_b114 k21 k57 l1 l2 l3 l4 l5 l6 s1 m = some r) : q_E md_X11_beatsBy 7 N (some 0) r m 114 [q_A 81, q_I l1, q_I l2, q_I l3, q_I l4, q_I l5, q_I l6, q_N] [q_I s1, q_A 120] := by
  unfold f_Mod_beatsBy_b114 at h
  refine q_dup2 (M := md_X11_beatsBy) (pc := 114) dX11_beatsBy_114 (show (0 : Nat) ≠ 1 by decide) (show (2 : Nat) ≠ 1 by decide) ?_
  refine e_rd (M := md_X11_beatsBy) (pc := 115) h dX11_beatsBy_115 (ar_120 hN) (fun v1 h => ?_)
  refine q_iconst (M := md_X11_beatsBy) (pc := 116) dX11_beatsBy_116 ?_
  refine q_iadd (M := md_X11_beatsBy) (pc := 117) dX11_beatsBy_117 ?_
  refine e_wr (M := md_X11_beatsBy) (pc := 118) h dX11_beatsBy_118 (ar_120 hN) (fun m2 h => ?_)
  exact q_weak (w_Mod_beatsBy_b119 hN hk21 hk57  h) ⟨Or.inr rfl, Or.inr rfl, Or.inr rfl, Or.inr rfl, Or.inr rfl, Or.inr rfl, Or.inr rfl, Or.inl rfl, trivial⟩
def f_Mod_beatsBy_b131 (k21 : Int → Int → Int → Int → Int → q_Mem → q_Res) (k131 : Int → Int → Int → Int → Int → Int → Int → q_Mem → q_Res) (l1 l2 l3 l4 l5 l6 l7 : Int) (m : q_Mem) : q_Res :=
  if 12 ≤ q_w l7 then (k21 l1 l2 l3 (l4 + l6) (l5 + 1) m)
  else (q_rd m 120 12 l7 fun v1 =>
  q_bd (f_Mod_more l6 v1 m) fun v2 m3 =>
  k131 l1 l2 l3 l4 l5 v2 (l7 + 1) m3)
set_option maxRecDepth 20000 in
theorem w_Mod_beatsBy_b131 {k21 : Int → Int → Int → Int → Int → q_Mem → q_Res} {k131 : Int → Int → Int → Int → Int → Int → Int → q_Mem → q_Res} {l1 l2 l3 l4 l5 l6 l7 : Int} {r : Int × q_Mem} {m : q_Mem} {N : Nat} (hN : 126 ≤ N) (hk21 : ∀ (l1 l2 l3 l4 l5 : Int) (m : q_Mem), k21 l1 l2 l3 l4 l5 m = some r → q_E md_X11_beatsBy 7 N (some 0) r m 21 [q_A 81, q_I l1, q_I l2, q_I l3, q_I l4, q_I l5, q_N, q_N] []) (hk131 : ∀ (l1 l2 l3 l4 l5 l6 l7 : Int) (m : q_Mem), k131 l1 l2 l3 l4 l5 l6 l7 m = some r → q_E md_X11_beatsBy 7 N (some 0) r m 131 [q_A 81, q_I l1, q_I l2, q_I l3, q_I l4, q_I l5, q_I l6, q_I l7] []) (h : f_Mod_beatsBy_b131 k21 k131 l1 l2 l3 l4 l5 l6 l7 m = some r) : q_E md_X11_beatsBy 7 N (some 0) r m 131 [q_A 81, q_I l1, q_I l2, q_I l3, q_I l4, q_I l5, q_I l6, q_I l7] [] := by
  unfold f_Mod_beatsBy_b131 at h
  refine q_iload (M := md_X11_beatsBy) (pc := 131) dX11_beatsBy_131 rfl ?_
  refine q_bipush (M := md_X11_beatsBy) (pc := 133) (x := 12) dX11_beatsBy_133 (by decide) ?_
  refine e_icmp_ge (M := md_X11_beatsBy) (pc := 135) (tgt := 158) h rfl (q_wlit rfl) dX11_beatsBy_135 (by decide) (fun h => ?_) (fun h => ?_)
  · refine q_iload (M := md_X11_beatsBy) (pc := 158) dX11_beatsBy_158 rfl ?_
    refine q_iload (M := md_X11_beatsBy) (pc := 160) dX11_beatsBy_160 rfl ?_
    refine q_iadd (M := md_X11_beatsBy) (pc := 162) dX11_beatsBy_162 ?_
    refine e_ist (M := md_X11_beatsBy) (pc := 163) (ls' := [q_A 81, q_I l1, q_I l2, q_I l3, q_I (l4 + l6), q_I l5, q_I l6, q_I l7]) dX11_beatsBy_163 (by decide) (q_pl rfl) rfl ?_
    refine e_inc (M := md_X11_beatsBy) (pc := 165) (x := l5) (ls' := [q_A 81, q_I l1, q_I l2, q_I l3, q_I (l4 + l6), q_I (l5 + 1), q_I l6, q_I l7]) dX11_beatsBy_165 rfl (by decide) (q_pl rfl) rfl ?_
    refine q_goto (M := md_X11_beatsBy) (pc := 168) (tgt := 21) dX11_beatsBy_168 (by decide) ?_
    exact q_weak (hk21 _ _ _ _ _ _  h) ⟨Or.inr rfl, Or.inr rfl, Or.inr rfl, Or.inr rfl, Or.inr rfl, Or.inr rfl, Or.inl rfl, Or.inl rfl, trivial⟩
  · refine q_iload (M := md_X11_beatsBy) (pc := 138) dX11_beatsBy_138 rfl ?_
    refine q_aload_n (M := md_X11_beatsBy) (pc := 140) dX11_beatsBy_140 rfl (by decide) ?_
    refine q_getP (M := md_X11_beatsBy) (pc := 141) (v := 120) fl_11_130 dX11_beatsBy_141 (is_81 hN) rfl ?_
    refine q_iload (M := md_X11_beatsBy) (pc := 144) dX11_beatsBy_144 rfl ?_
    refine e_rd (M := md_X11_beatsBy) (pc := 146) h dX11_beatsBy_146 (ar_120 hN) (fun v1 h => ?_)
    refine e_callSi (M := md_X11_beatsBy) (pc := 147) (d' := 1) (M' := md_X11_more) (av := [q_I l6, q_I v1]) h ml_11_345 sm_X11_more dX11_beatsBy_147 (fun v he => ok_X11_more hN  he) rfl (Nat.le_of_ble_eq_true rfl) ⟨by decide, by decide⟩ rfl (fun v2 m3 h => ?_)
    refine e_ist (M := md_X11_beatsBy) (pc := 150) (ls' := [q_A 81, q_I l1, q_I l2, q_I l3, q_I l4, q_I l5, q_I v2, q_I l7]) dX11_beatsBy_150 (by decide) (q_pl rfl) rfl ?_
    refine e_inc (M := md_X11_beatsBy) (pc := 152) (x := l7) (ls' := [q_A 81, q_I l1, q_I l2, q_I l3, q_I l4, q_I l5, q_I v2, q_I (l7 + 1)]) dX11_beatsBy_152 rfl (by decide) (q_pl rfl) rfl ?_
    refine q_goto (M := md_X11_beatsBy) (pc := 155) (tgt := 131) dX11_beatsBy_155 (by decide) ?_
    exact q_weak (hk131 _ _ _ _ _ _ _ _  h) ⟨Or.inr rfl, Or.inr rfl, Or.inr rfl, Or.inr rfl, Or.inr rfl, Or.inr rfl, Or.inr rfl, Or.inr rfl, trivial⟩
def f_Mod_beatsBy_l131 (k21 : Int → Int → Int → Int → Int → q_Mem → q_Res) : Nat → Int → Int → Int → Int → Int → Int → Int → q_Mem → q_Res
  | 0 => fun _ _ _ _ _ _ _ _ => none
  | n + 1 => fun l1 l2 l3 l4 l5 l6 l7 m => f_Mod_beatsBy_b131 k21 (f_Mod_beatsBy_l131 k21 n) l1 l2 l3 l4 l5 l6 l7 m
theorem w_Mod_beatsBy_l131 {k21 : Int → Int → Int → Int → Int → q_Mem → q_Res} {r : Int × q_Mem} {N : Nat} (hN : 126 ≤ N) (hk21 : ∀ (l1 l2 l3 l4 l5 : Int) (m : q_Mem), k21 l1 l2 l3 l4 l5 m = some r → q_E md_X11_beatsBy 7 N (some 0) r m 21 [q_A 81, q_I l1, q_I l2, q_I l3, q_I l4, q_I l5, q_N, q_N] []) : ∀ (n : Nat) (l1 l2 l3 l4 l5 l6 l7 : Int) (m : q_Mem), f_Mod_beatsBy_l131 k21 n l1 l2 l3 l4 l5 l6 l7 m = some r → q_E md_X11_beatsBy 7 N (some 0) r m 131 [q_A 81, q_I l1, q_I l2, q_I l3, q_I l4, q_I l5, q_I l6, q_I l7] [] := by
  intro n
  induction n with
  | zero => intro l1 l2 l3 l4 l5 l6 l7 m h; exact q_no h
  | succ n ih =>
    intro l1 l2 l3 l4 l5 l6 l7 m h
    exact w_Mod_beatsBy_b131 hN hk21 (fun l1 l2 l3 l4 l5 l6 l7 m h => ih l1 l2 l3 l4 l5 l6 l7 m h) h
def f_Mod_beatsBy_b57 (k21 : Int → Int → Int → Int → Int → q_Mem → q_Res) (k57 : Int → Int → Int → Int → Int → Int → q_Mem → q_Res) (l1 l2 l3 l4 l5 l6 : Int) (m : q_Mem) : q_Res :=
  if 100 ≤ q_w l6 then (f_Mod_beatsBy_l131 k21 q_F l1 l2 l3 l4 l5 0 0 m)
  else (q_bd (f_Mod_isThere l6 m) fun v1 m2 =>
  if q_w v1 = 0 then (f_Mod_beatsBy_b119 k21 k57 l1 l2 l3 l4 l5 l6 m2)
  else (q_rd m2 116 100 l6 fun v3 =>
  if q_w v3 = q_w l5 then (if q_w l2 = 0 then (q_rd m2 117 100 l6 fun v4 =>
  q_dv v4 l3 fun v5 =>
  f_Mod_beatsBy_b114 k21 k57 l1 l2 l3 l4 l5 l6 v5 m2)
  else (q_rd m2 117 100 l6 fun v6 =>
  q_md v6 l1 fun v7 =>
  f_Mod_beatsBy_b114 k21 k57 l1 l2 l3 l4 l5 l6 v7 m2))
  else (f_Mod_beatsBy_b119 k21 k57 l1 l2 l3 l4 l5 l6 m2)))
set_option maxRecDepth 20000 in
theorem w_Mod_beatsBy_b57 {k21 : Int → Int → Int → Int → Int → q_Mem → q_Res} {k57 : Int → Int → Int → Int → Int → Int → q_Mem → q_Res} {l1 l2 l3 l4 l5 l6 : Int} {r : Int × q_Mem} {m : q_Mem} {N : Nat} (hN : 126 ≤ N) (hk21 : ∀ (l1 l2 l3 l4 l5 : Int) (m : q_Mem), k21 l1 l2 l3 l4 l5 m = some r → q_E md_X11_beatsBy 7 N (some 0) r m 21 [q_A 81, q_I l1, q_I l2, q_I l3, q_I l4, q_I l5, q_N, q_N] []) (hk57 : ∀ (l1 l2 l3 l4 l5 l6 : Int) (m : q_Mem), k57 l1 l2 l3 l4 l5 l6 m = some r → q_E md_X11_beatsBy 7 N (some 0) r m 57 [q_A 81, q_I l1, q_I l2, q_I l3, q_I l4, q_I l5, q_I l6, q_N] []) (h : f_Mod_beatsBy_b57 k21 k57 l1 l2 l3 l4 l5 l6 m = some r) : q_E md_X11_beatsBy 7 N (some 0) r m 57 [q_A 81, q_I l1, q_I l2, q_I l3, q_I l4, q_I l5, q_I l6, q_N] [] := by
  unfold f_Mod_beatsBy_b57 at h
  refine q_iload (M := md_X11_beatsBy) (pc := 57) dX11_beatsBy_57 rfl ?_
  refine q_bipush (M := md_X11_beatsBy) (pc := 59) (x := 100) dX11_beatsBy_59 (by decide) ?_
  refine e_icmp_ge (M := md_X11_beatsBy) (pc := 61) (tgt := 125) h rfl (q_wlit rfl) dX11_beatsBy_61 (by decide) (fun h => ?_) (fun h => ?_)
  · refine q_iconst (M := md_X11_beatsBy) (pc := 125) dX11_beatsBy_125 ?_
    refine e_ist (M := md_X11_beatsBy) (pc := 126) (ls' := [q_A 81, q_I l1, q_I l2, q_I l3, q_I l4, q_I l5, q_I 0, q_N]) dX11_beatsBy_126 (by decide) (q_pl rfl) rfl ?_
    refine q_iconst (M := md_X11_beatsBy) (pc := 128) dX11_beatsBy_128 ?_
    refine e_ist (M := md_X11_beatsBy) (pc := 129) (ls' := [q_A 81, q_I l1, q_I l2, q_I l3, q_I l4, q_I l5, q_I 0, q_I 0]) dX11_beatsBy_129 (by decide) (q_pl rfl) rfl ?_
    exact q_weak (w_Mod_beatsBy_l131 hN hk21 q_F _ _ _ _ _ _ _ _  h) ⟨Or.inr rfl, Or.inr rfl, Or.inr rfl, Or.inr rfl, Or.inr rfl, Or.inr rfl, Or.inr rfl, Or.inr rfl, trivial⟩
  · refine q_aload_n (M := md_X11_beatsBy) (pc := 64) dX11_beatsBy_64 rfl (by decide) ?_
    refine q_iload (M := md_X11_beatsBy) (pc := 65) dX11_beatsBy_65 rfl ?_
    refine e_callVi (M := md_X11_beatsBy) (pc := 67) (d' := 3) (av := [q_I l6]) (c := 81) h ml_11_333 im_X11_isThere se_X11_isThere dX11_beatsBy_67 (fun v he => ok_X11_isThere hN  he) rfl (is_81 hN) ⟨_, _, rfl⟩ (by decide) (Nat.le_of_ble_eq_true rfl) ⟨by decide, by decide⟩ rfl (fun v1 m2 h => ?_)
    refine e_if_eq (M := md_X11_beatsBy) (pc := 70) (tgt := 119) h rfl dX11_beatsBy_70 (by decide) (fun h => ?_) (fun h => ?_)
    · exact q_weak (w_Mod_beatsBy_b119 hN hk21 hk57  h) ⟨Or.inr rfl, Or.inr rfl, Or.inr rfl, Or.inr rfl, Or.inr rfl, Or.inr rfl, Or.inr rfl, Or.inl rfl, trivial⟩
    · refine q_aload_n (M := md_X11_beatsBy) (pc := 73) dX11_beatsBy_73 rfl (by decide) ?_
      refine q_getP (M := md_X11_beatsBy) (pc := 74) (v := 116) fl_11_118 dX11_beatsBy_74 (is_81 hN) rfl ?_
      refine q_iload (M := md_X11_beatsBy) (pc := 77) dX11_beatsBy_77 rfl ?_
      refine e_rd (M := md_X11_beatsBy) (pc := 79) h dX11_beatsBy_79 (ar_116 hN) (fun v3 h => ?_)
      refine q_iload (M := md_X11_beatsBy) (pc := 80) dX11_beatsBy_80 rfl ?_
      refine e_icmp_ne (M := md_X11_beatsBy) (pc := 82) (tgt := 119) h rfl rfl dX11_beatsBy_82 (by decide) (fun h => ?_) (fun h => ?_)
      · exact q_weak (w_Mod_beatsBy_b119 hN hk21 hk57  h) ⟨Or.inr rfl, Or.inr rfl, Or.inr rfl, Or.inr rfl, Or.inr rfl, Or.inr rfl, Or.inr rfl, Or.inl rfl, trivial⟩
      · refine q_aload_n (M := md_X11_beatsBy) (pc := 85) dX11_beatsBy_85 rfl (by decide) ?_
        refine q_getP (M := md_X11_beatsBy) (pc := 86) (v := 120) fl_11_130 dX11_beatsBy_86 (is_81 hN) rfl ?_
        refine q_iload_n (M := md_X11_beatsBy) (pc := 89) dX11_beatsBy_89 rfl ?_
        refine e_if_eq (M := md_X11_beatsBy) (pc := 90) (tgt := 105) h rfl dX11_beatsBy_90 (by decide) (fun h => ?_) (fun h => ?_)
        · refine q_aload_n (M := md_X11_beatsBy) (pc := 105) dX11_beatsBy_105 rfl (by decide) ?_
          refine q_getP (M := md_X11_beatsBy) (pc := 106) (v := 117) fl_11_121 dX11_beatsBy_106 (is_81 hN) rfl ?_
          refine q_iload (M := md_X11_beatsBy) (pc := 109) dX11_beatsBy_109 rfl ?_
          refine e_rd (M := md_X11_beatsBy) (pc := 111) h dX11_beatsBy_111 (ar_117 hN) (fun v4 h => ?_)
          refine q_iload_n (M := md_X11_beatsBy) (pc := 112) dX11_beatsBy_112 rfl ?_
          refine e_dv (M := md_X11_beatsBy) (pc := 113) h dX11_beatsBy_113 (fun v5 h => ?_)
          exact q_weak (w_Mod_beatsBy_b114 hN hk21 hk57  h) ⟨Or.inr rfl, Or.inr rfl, Or.inr rfl, Or.inr rfl, Or.inr rfl, Or.inr rfl, Or.inr rfl, Or.inl rfl, trivial⟩
        · refine q_aload_n (M := md_X11_beatsBy) (pc := 93) dX11_beatsBy_93 rfl (by decide) ?_
          refine q_getP (M := md_X11_beatsBy) (pc := 94) (v := 117) fl_11_121 dX11_beatsBy_94 (is_81 hN) rfl ?_
          refine q_iload (M := md_X11_beatsBy) (pc := 97) dX11_beatsBy_97 rfl ?_
          refine e_rd (M := md_X11_beatsBy) (pc := 99) h dX11_beatsBy_99 (ar_117 hN) (fun v6 h => ?_)
          refine q_iload_n (M := md_X11_beatsBy) (pc := 100) dX11_beatsBy_100 rfl ?_
          refine e_md (M := md_X11_beatsBy) (pc := 101) h dX11_beatsBy_101 (fun v7 h => ?_)
          refine q_goto (M := md_X11_beatsBy) (pc := 102) (tgt := 114) dX11_beatsBy_102 (by decide) ?_
          exact q_weak (w_Mod_beatsBy_b114 hN hk21 hk57  h) ⟨Or.inr rfl, Or.inr rfl, Or.inr rfl, Or.inr rfl, Or.inr rfl, Or.inr rfl, Or.inr rfl, Or.inl rfl, trivial⟩
def f_Mod_beatsBy_l57 (k21 : Int → Int → Int → Int → Int → q_Mem → q_Res) : Nat → Int → Int → Int → Int → Int → Int → q_Mem → q_Res
  | 0 => fun _ _ _ _ _ _ _ => none
  | n + 1 => fun l1 l2 l3 l4 l5 l6 m => f_Mod_beatsBy_b57 k21 (f_Mod_beatsBy_l57 k21 n) l1 l2 l3 l4 l5 l6 m
theorem w_Mod_beatsBy_l57 {k21 : Int → Int → Int → Int → Int → q_Mem → q_Res} {r : Int × q_Mem} {N : Nat} (hN : 126 ≤ N) (hk21 : ∀ (l1 l2 l3 l4 l5 : Int) (m : q_Mem), k21 l1 l2 l3 l4 l5 m = some r → q_E md_X11_beatsBy 7 N (some 0) r m 21 [q_A 81, q_I l1, q_I l2, q_I l3, q_I l4, q_I l5, q_N, q_N] []) : ∀ (n : Nat) (l1 l2 l3 l4 l5 l6 : Int) (m : q_Mem), f_Mod_beatsBy_l57 k21 n l1 l2 l3 l4 l5 l6 m = some r → q_E md_X11_beatsBy 7 N (some 0) r m 57 [q_A 81, q_I l1, q_I l2, q_I l3, q_I l4, q_I l5, q_I l6, q_N] [] := by
  intro n
  induction n with
  | zero => intro l1 l2 l3 l4 l5 l6 m h; exact q_no h
  | succ n ih =>
    intro l1 l2 l3 l4 l5 l6 m h
    exact w_Mod_beatsBy_b57 hN hk21 (fun l1 l2 l3 l4 l5 l6 m h => ih l1 l2 l3 l4 l5 l6 m h) h
def f_Mod_beatsBy_b33 (k21 : Int → Int → Int → Int → Int → q_Mem → q_Res) (k33 : Int → Int → Int → Int → Int → Int → q_Mem → q_Res) (l1 l2 l3 l4 l5 l6 : Int) (m : q_Mem) : q_Res :=
  if 12 ≤ q_w l6 then (f_Mod_beatsBy_l57 k21 q_F l1 l2 l3 l4 l5 0 m)
  else (q_wr m 120 12 l6 0 fun m1 =>
  k33 l1 l2 l3 l4 l5 (l6 + 1) m1)
set_option maxRecDepth 20000 in
theorem w_Mod_beatsBy_b33 {k21 : Int → Int → Int → Int → Int → q_Mem → q_Res} {k33 : Int → Int → Int → Int → Int → Int → q_Mem → q_Res} {l1 l2 l3 l4 l5 l6 : Int} {r : Int × q_Mem} {m : q_Mem} {N : Nat} (hN : 126 ≤ N) (hk21 : ∀ (l1 l2 l3 l4 l5 : Int) (m : q_Mem), k21 l1 l2 l3 l4 l5 m = some r → q_E md_X11_beatsBy 7 N (some 0) r m 21 [q_A 81, q_I l1, q_I l2, q_I l3, q_I l4, q_I l5, q_N, q_N] []) (hk33 : ∀ (l1 l2 l3 l4 l5 l6 : Int) (m : q_Mem), k33 l1 l2 l3 l4 l5 l6 m = some r → q_E md_X11_beatsBy 7 N (some 0) r m 33 [q_A 81, q_I l1, q_I l2, q_I l3, q_I l4, q_I l5, q_I l6, q_N] []) (h : f_Mod_beatsBy_b33 k21 k33 l1 l2 l3 l4 l5 l6 m = some r) : q_E md_X11_beatsBy 7 N (some 0) r m 33 [q_A 81, q_I l1, q_I l2, q_I l3, q_I l4, q_I l5, q_I l6, q_N] [] := by
  unfold f_Mod_beatsBy_b33 at h
  refine q_iload (M := md_X11_beatsBy) (pc := 33) dX11_beatsBy_33 rfl ?_
  refine q_bipush (M := md_X11_beatsBy) (pc := 35) (x := 12) dX11_beatsBy_35 (by decide) ?_
  refine e_icmp_ge (M := md_X11_beatsBy) (pc := 37) (tgt := 54) h rfl (q_wlit rfl) dX11_beatsBy_37 (by decide) (fun h => ?_) (fun h => ?_)
  · refine q_iconst (M := md_X11_beatsBy) (pc := 54) dX11_beatsBy_54 ?_
    refine e_ist (M := md_X11_beatsBy) (pc := 55) (ls' := [q_A 81, q_I l1, q_I l2, q_I l3, q_I l4, q_I l5, q_I 0, q_N]) dX11_beatsBy_55 (by decide) (q_pl rfl) rfl ?_
    exact q_weak (w_Mod_beatsBy_l57 hN hk21 q_F _ _ _ _ _ _ _  h) ⟨Or.inr rfl, Or.inr rfl, Or.inr rfl, Or.inr rfl, Or.inr rfl, Or.inr rfl, Or.inr rfl, Or.inl rfl, trivial⟩
  · refine q_aload_n (M := md_X11_beatsBy) (pc := 40) dX11_beatsBy_40 rfl (by decide) ?_
    refine q_getP (M := md_X11_beatsBy) (pc := 41) (v := 120) fl_11_130 dX11_beatsBy_41 (is_81 hN) rfl ?_
    refine q_iload (M := md_X11_beatsBy) (pc := 44) dX11_beatsBy_44 rfl ?_
    refine q_iconst (M := md_X11_beatsBy) (pc := 46) dX11_beatsBy_46 ?_
    refine e_wr (M := md_X11_beatsBy) (pc := 47) h dX11_beatsBy_47 (ar_120 hN) (fun m1 h => ?_)
    refine e_inc (M := md_X11_beatsBy) (pc := 48) (x := l6) (ls' := [q_A 81, q_I l1, q_I l2, q_I l3, q_I l4, q_I l5, q_I (l6 + 1), q_N]) dX11_beatsBy_48 rfl (by decide) (q_pl rfl) rfl ?_
    refine q_goto (M := md_X11_beatsBy) (pc := 51) (tgt := 33) dX11_beatsBy_51 (by decide) ?_
    exact q_weak (hk33 _ _ _ _ _ _ _  h) ⟨Or.inr rfl, Or.inr rfl, Or.inr rfl, Or.inr rfl, Or.inr rfl, Or.inr rfl, Or.inr rfl, Or.inl rfl, trivial⟩
def f_Mod_beatsBy_l33 (k21 : Int → Int → Int → Int → Int → q_Mem → q_Res) : Nat → Int → Int → Int → Int → Int → Int → q_Mem → q_Res
  | 0 => fun _ _ _ _ _ _ _ => none
  | n + 1 => fun l1 l2 l3 l4 l5 l6 m => f_Mod_beatsBy_b33 k21 (f_Mod_beatsBy_l33 k21 n) l1 l2 l3 l4 l5 l6 m
theorem w_Mod_beatsBy_l33 {k21 : Int → Int → Int → Int → Int → q_Mem → q_Res} {r : Int × q_Mem} {N : Nat} (hN : 126 ≤ N) (hk21 : ∀ (l1 l2 l3 l4 l5 : Int) (m : q_Mem), k21 l1 l2 l3 l4 l5 m = some r → q_E md_X11_beatsBy 7 N (some 0) r m 21 [q_A 81, q_I l1, q_I l2, q_I l3, q_I l4, q_I l5, q_N, q_N] []) : ∀ (n : Nat) (l1 l2 l3 l4 l5 l6 : Int) (m : q_Mem), f_Mod_beatsBy_l33 k21 n l1 l2 l3 l4 l5 l6 m = some r → q_E md_X11_beatsBy 7 N (some 0) r m 33 [q_A 81, q_I l1, q_I l2, q_I l3, q_I l4, q_I l5, q_I l6, q_N] [] := by
  intro n
  induction n with
  | zero => intro l1 l2 l3 l4 l5 l6 m h; exact q_no h
  | succ n ih =>
    intro l1 l2 l3 l4 l5 l6 m h
    exact w_Mod_beatsBy_b33 hN hk21 (fun l1 l2 l3 l4 l5 l6 m h => ih l1 l2 l3 l4 l5 l6 m h) h
def f_Mod_beatsBy_b21 (k21 : Int → Int → Int → Int → Int → q_Mem → q_Res) (l1 l2 l3 l4 l5 : Int) (m : q_Mem) : q_Res :=
  if q_w (m 81 53) ≤ q_w l5 then (q_rt l4 m)
  else (f_Mod_beatsBy_l33 k21 q_F l1 l2 l3 l4 l5 0 m)
set_option maxRecDepth 20000 in
theorem w_Mod_beatsBy_b21 {k21 : Int → Int → Int → Int → Int → q_Mem → q_Res} {l1 l2 l3 l4 l5 : Int} {r : Int × q_Mem} {m : q_Mem} {N : Nat} (hN : 126 ≤ N) (hk21 : ∀ (l1 l2 l3 l4 l5 : Int) (m : q_Mem), k21 l1 l2 l3 l4 l5 m = some r → q_E md_X11_beatsBy 7 N (some 0) r m 21 [q_A 81, q_I l1, q_I l2, q_I l3, q_I l4, q_I l5, q_N, q_N] []) (h : f_Mod_beatsBy_b21 k21 l1 l2 l3 l4 l5 m = some r) : q_E md_X11_beatsBy 7 N (some 0) r m 21 [q_A 81, q_I l1, q_I l2, q_I l3, q_I l4, q_I l5, q_N, q_N] [] := by
  unfold f_Mod_beatsBy_b21 at h
  refine q_iload (M := md_X11_beatsBy) (pc := 21) dX11_beatsBy_21 rfl ?_
  refine q_aload_n (M := md_X11_beatsBy) (pc := 23) dX11_beatsBy_23 rfl (by decide) ?_
  refine e_gI (M := md_X11_beatsBy) (pc := 24) (v := m 81 53) fl_11_415 dX11_beatsBy_24 (is_81 hN) rfl ?_
  refine e_icmp_ge (M := md_X11_beatsBy) (pc := 27) (tgt := 171) h rfl rfl dX11_beatsBy_27 (by decide) (fun h => ?_) (fun h => ?_)
  · refine q_iload (M := md_X11_beatsBy) (pc := 171) dX11_beatsBy_171 rfl ?_
    exact e_iret (M := md_X11_beatsBy) (pc := 173) h rfl dX11_beatsBy_173
  · refine q_iconst (M := md_X11_beatsBy) (pc := 30) dX11_beatsBy_30 ?_
    refine e_ist (M := md_X11_beatsBy) (pc := 31) (ls' := [q_A 81, q_I l1, q_I l2, q_I l3, q_I l4, q_I l5, q_I 0, q_N]) dX11_beatsBy_31 (by decide) (q_pl rfl) rfl ?_
    exact q_weak (w_Mod_beatsBy_l33 hN hk21 q_F _ _ _ _ _ _ _  h) ⟨Or.inr rfl, Or.inr rfl, Or.inr rfl, Or.inr rfl, Or.inr rfl, Or.inr rfl, Or.inr rfl, Or.inl rfl, trivial⟩
def f_Mod_beatsBy_l21 : Nat → Int → Int → Int → Int → Int → q_Mem → q_Res
  | 0 => fun _ _ _ _ _ _ => none
  | n + 1 => fun l1 l2 l3 l4 l5 m => f_Mod_beatsBy_b21 (f_Mod_beatsBy_l21 n) l1 l2 l3 l4 l5 m
theorem w_Mod_beatsBy_l21 {r : Int × q_Mem} {N : Nat} (hN : 126 ≤ N) : ∀ (n : Nat) (l1 l2 l3 l4 l5 : Int) (m : q_Mem), f_Mod_beatsBy_l21 n l1 l2 l3 l4 l5 m = some r → q_E md_X11_beatsBy 7 N (some 0) r m 21 [q_A 81, q_I l1, q_I l2, q_I l3, q_I l4, q_I l5, q_N, q_N] [] := by
  intro n
  induction n with
  | zero => intro l1 l2 l3 l4 l5 m h; exact q_no h
  | succ n ih =>
    intro l1 l2 l3 l4 l5 m h
    exact w_Mod_beatsBy_b21 hN (fun l1 l2 l3 l4 l5 m h => ih l1 l2 l3 l4 l5 m h) h
def f_Mod_beatsBy (l1 l2 : Int) (m : q_Mem) : q_Res :=
  q_bd (f_Mod_layNow m) fun _ m1 =>
  q_dv (((m1 81 54) + l1) - 1) l1 fun v2 =>
  f_Mod_beatsBy_l21 q_F l1 l2 v2 0 0 m1
set_option maxRecDepth 20000 in
theorem ok_X11_beatsBy {l1 l2 : Int} {r : Int × q_Mem} {m : q_Mem} {N : Nat} (hN : 126 ≤ N) (h : f_Mod_beatsBy l1 l2 m = some r) : q_C md_X11_beatsBy (q_room 7) 0 0 [q_A 81, q_I l1, q_I l2] (q_g N) m (some (q_I r.1), q_g N, r.2) := by
  refine q_ofR (by decide) 5 (ls := [q_A 81, q_I l1, q_I l2, q_N, q_N, q_N, q_N, q_N]) rfl (Nat.le_of_ble_eq_true rfl) ?_
  change q_E md_X11_beatsBy 7 N (some 0) r m 0 [q_A 81, q_I l1, q_I l2, q_N, q_N, q_N, q_N, q_N] []
  unfold f_Mod_beatsBy at h
  refine q_aload_n (M := md_X11_beatsBy) (pc := 0) dX11_beatsBy_0 rfl (by decide) ?_
  refine e_callVv (M := md_X11_beatsBy) (pc := 1) (d' := 6) (av := []) (c := 81) h ml_11_437 im_X11_layNow se_X11_layNow dX11_beatsBy_1 (fun v he => ok_X11_layNow hN  he) rfl (is_81 hN) ⟨_, _, rfl⟩ (by decide) (Nat.le_of_ble_eq_true rfl) ⟨by decide, by decide⟩ rfl (fun _ m1 h => ?_)
  refine q_aload_n (M := md_X11_beatsBy) (pc := 4) dX11_beatsBy_4 rfl (by decide) ?_
  refine e_gI (M := md_X11_beatsBy) (pc := 5) (v := m1 81 54) fl_11_418 dX11_beatsBy_5 (is_81 hN) rfl ?_
  refine q_iload_n (M := md_X11_beatsBy) (pc := 8) dX11_beatsBy_8 rfl ?_
  refine q_iadd (M := md_X11_beatsBy) (pc := 9) dX11_beatsBy_9 ?_
  refine q_iconst (M := md_X11_beatsBy) (pc := 10) dX11_beatsBy_10 ?_
  refine q_isub (M := md_X11_beatsBy) (pc := 11) dX11_beatsBy_11 ?_
  refine q_iload_n (M := md_X11_beatsBy) (pc := 12) dX11_beatsBy_12 rfl ?_
  refine e_dv (M := md_X11_beatsBy) (pc := 13) h dX11_beatsBy_13 (fun v2 h => ?_)
  refine e_ist_n (M := md_X11_beatsBy) (pc := 14) (ls' := [q_A 81, q_I l1, q_I l2, q_I v2, q_N, q_N, q_N, q_N]) dX11_beatsBy_14 (by decide) (q_pl rfl) rfl ?_
  refine q_iconst (M := md_X11_beatsBy) (pc := 15) dX11_beatsBy_15 ?_
  refine e_ist (M := md_X11_beatsBy) (pc := 16) (ls' := [q_A 81, q_I l1, q_I l2, q_I v2, q_I 0, q_N, q_N, q_N]) dX11_beatsBy_16 (by decide) (q_pl rfl) rfl ?_
  refine q_iconst (M := md_X11_beatsBy) (pc := 18) dX11_beatsBy_18 ?_
  refine e_ist (M := md_X11_beatsBy) (pc := 19) (ls' := [q_A 81, q_I l1, q_I l2, q_I v2, q_I 0, q_I 0, q_N, q_N]) dX11_beatsBy_19 (by decide) (q_pl rfl) rfl ?_
  exact q_weak (w_Mod_beatsBy_l21 hN q_F _ _ _ _ _ _  h) ⟨Or.inr rfl, Or.inr rfl, Or.inr rfl, Or.inr rfl, Or.inr rfl, Or.inr rfl, Or.inl rfl, Or.inl rfl, trivial⟩
def f_Mod_beats (l1 l2 : Int) (m : q_Mem) : q_Res :=
  q_bd (f_Mod_isIn l1 1 12 m) fun v1 m2 =>
  if q_w v1 = 0 then (q_rt (-1) m2)
  else (q_bd (f_Mod_beatsBy l1 l2 m2) fun v3 m4 =>
  q_rt v3 m4)
set_option maxRecDepth 20000 in
theorem ok_X11_beats {l1 l2 : Int} {r : Int × q_Mem} {m : q_Mem} {N : Nat} (hN : 126 ≤ N) (h : f_Mod_beats l1 l2 m = some r) : q_C md_X11_beats (q_room 8) 0 0 [q_A 81, q_I l1, q_I l2] (q_g N) m (some (q_I r.1), q_g N, r.2) := by
  refine q_ofR (by decide) 0 (ls := [q_A 81, q_I l1, q_I l2]) rfl (Nat.le_of_ble_eq_true rfl) ?_
  change q_E md_X11_beats 8 N (some 0) r m 0 [q_A 81, q_I l1, q_I l2] []
  unfold f_Mod_beats at h
  refine q_iload_n (M := md_X11_beats) (pc := 0) dX11_beats_0 rfl ?_
  refine q_iconst (M := md_X11_beats) (pc := 1) dX11_beats_1 ?_
  refine q_bipush (M := md_X11_beats) (pc := 2) (x := 12) dX11_beats_2 (by decide) ?_
  refine e_callSi (M := md_X11_beats) (pc := 4) (d' := 1) (M' := md_X11_isIn) (av := [q_I l1, q_I 1, q_I 12]) h ml_11_221 sm_X11_isIn dX11_beats_4 (fun v he => ok_X11_isIn hN  he) rfl (Nat.le_of_ble_eq_true rfl) ⟨by decide, by decide⟩ rfl (fun v1 m2 h => ?_)
  refine e_if_eq (M := md_X11_beats) (pc := 7) (tgt := 19) h rfl dX11_beats_7 (by decide) (fun h => ?_) (fun h => ?_)
  · refine q_iconst (M := md_X11_beats) (pc := 19) dX11_beats_19 ?_
    exact e_iret (M := md_X11_beats) (pc := 20) h rfl dX11_beats_20
  · refine q_aload_n (M := md_X11_beats) (pc := 10) dX11_beats_10 rfl (by decide) ?_
    refine q_iload_n (M := md_X11_beats) (pc := 11) dX11_beats_11 rfl ?_
    refine q_iload_n (M := md_X11_beats) (pc := 12) dX11_beats_12 rfl ?_
    refine e_callVi (M := md_X11_beats) (pc := 13) (d' := 7) (av := [q_I l1, q_I l2]) (c := 81) h ml_11_525 im_X11_beatsBy se_X11_beatsBy dX11_beats_13 (fun v he => ok_X11_beatsBy hN  he) rfl (is_81 hN) ⟨_, _, rfl⟩ (by decide) (Nat.le_of_ble_eq_true rfl) ⟨by decide, by decide⟩ rfl (fun v3 m4 h => ?_)
    refine q_goto (M := md_X11_beats) (pc := 16) (tgt := 20) dX11_beats_16 (by decide) ?_
    exact e_iret (M := md_X11_beats) (pc := 20) h rfl dX11_beats_20
def f_Mod_fewest_b2 (k2 : Int → Int → Int → q_Mem → q_Res) (l1 l2 l3 : Int) (m : q_Mem) : q_Res :=
  if 12 < q_w l3 then (q_rt (-1) m)
  else (q_bd (f_Mod_beatsBy l3 l2 m) fun v1 m2 =>
  if q_w l1 < q_w v1 then (k2 l1 l2 (l3 + 1) m2)
  else (q_rt l3 m2))
set_option maxRecDepth 20000 in
theorem w_Mod_fewest_b2 {k2 : Int → Int → Int → q_Mem → q_Res} {l1 l2 l3 : Int} {r : Int × q_Mem} {m : q_Mem} {N : Nat} (hN : 126 ≤ N) (hk2 : ∀ (l1 l2 l3 : Int) (m : q_Mem), k2 l1 l2 l3 m = some r → q_E md_X11_fewest 8 N (some 0) r m 2 [q_A 81, q_I l1, q_I l2, q_I l3] []) (h : f_Mod_fewest_b2 k2 l1 l2 l3 m = some r) : q_E md_X11_fewest 8 N (some 0) r m 2 [q_A 81, q_I l1, q_I l2, q_I l3] [] := by
  unfold f_Mod_fewest_b2 at h
  refine q_iload_n (M := md_X11_fewest) (pc := 2) dX11_fewest_2 rfl ?_
  refine q_bipush (M := md_X11_fewest) (pc := 3) (x := 12) dX11_fewest_3 (by decide) ?_
  refine e_icmp_gt (M := md_X11_fewest) (pc := 5) (tgt := 26) h rfl (q_wlit rfl) dX11_fewest_5 (by decide) (fun h => ?_) (fun h => ?_)
  · refine q_iconst (M := md_X11_fewest) (pc := 26) dX11_fewest_26 ?_
    exact e_iret (M := md_X11_fewest) (pc := 27) h rfl dX11_fewest_27
  · refine q_aload_n (M := md_X11_fewest) (pc := 8) dX11_fewest_8 rfl (by decide) ?_
    refine q_iload_n (M := md_X11_fewest) (pc := 9) dX11_fewest_9 rfl ?_
    refine q_iload_n (M := md_X11_fewest) (pc := 10) dX11_fewest_10 rfl ?_
    refine e_callVi (M := md_X11_fewest) (pc := 11) (d' := 7) (av := [q_I l3, q_I l2]) (c := 81) h ml_11_525 im_X11_beatsBy se_X11_beatsBy dX11_fewest_11 (fun v he => ok_X11_beatsBy hN  he) rfl (is_81 hN) ⟨_, _, rfl⟩ (by decide) (Nat.le_of_ble_eq_true rfl) ⟨by decide, by decide⟩ rfl (fun v1 m2 h => ?_)
    refine q_iload_n (M := md_X11_fewest) (pc := 14) dX11_fewest_14 rfl ?_
    refine e_icmp_gt (M := md_X11_fewest) (pc := 15) (tgt := 20) h rfl rfl dX11_fewest_15 (by decide) (fun h => ?_) (fun h => ?_)
    · refine e_inc (M := md_X11_fewest) (pc := 20) (x := l3) (ls' := [q_A 81, q_I l1, q_I l2, q_I (l3 + 1)]) dX11_fewest_20 rfl (by decide) (q_pl rfl) rfl ?_
      refine q_goto (M := md_X11_fewest) (pc := 23) (tgt := 2) dX11_fewest_23 (by decide) ?_
      exact q_weak (hk2 _ _ _ _  h) ⟨Or.inr rfl, Or.inr rfl, Or.inr rfl, Or.inr rfl, trivial⟩
    · refine q_iload_n (M := md_X11_fewest) (pc := 18) dX11_fewest_18 rfl ?_
      exact e_iret (M := md_X11_fewest) (pc := 19) h rfl dX11_fewest_19
def f_Mod_fewest_l2 : Nat → Int → Int → Int → q_Mem → q_Res
  | 0 => fun _ _ _ _ => none
  | n + 1 => fun l1 l2 l3 m => f_Mod_fewest_b2 (f_Mod_fewest_l2 n) l1 l2 l3 m
theorem w_Mod_fewest_l2 {r : Int × q_Mem} {N : Nat} (hN : 126 ≤ N) : ∀ (n : Nat) (l1 l2 l3 : Int) (m : q_Mem), f_Mod_fewest_l2 n l1 l2 l3 m = some r → q_E md_X11_fewest 8 N (some 0) r m 2 [q_A 81, q_I l1, q_I l2, q_I l3] [] := by
  intro n
  induction n with
  | zero => intro l1 l2 l3 m h; exact q_no h
  | succ n ih =>
    intro l1 l2 l3 m h
    exact w_Mod_fewest_b2 hN (fun l1 l2 l3 m h => ih l1 l2 l3 m h) h
def f_Mod_fewest (l1 l2 : Int) (m : q_Mem) : q_Res :=
  f_Mod_fewest_l2 q_F l1 l2 1 m
set_option maxRecDepth 20000 in
theorem ok_X11_fewest {l1 l2 : Int} {r : Int × q_Mem} {m : q_Mem} {N : Nat} (hN : 126 ≤ N) (h : f_Mod_fewest l1 l2 m = some r) : q_C md_X11_fewest (q_room 8) 0 0 [q_A 81, q_I l1, q_I l2] (q_g N) m (some (q_I r.1), q_g N, r.2) := by
  refine q_ofR (by decide) 1 (ls := [q_A 81, q_I l1, q_I l2, q_N]) rfl (Nat.le_of_ble_eq_true rfl) ?_
  change q_E md_X11_fewest 8 N (some 0) r m 0 [q_A 81, q_I l1, q_I l2, q_N] []
  unfold f_Mod_fewest at h
  refine q_iconst (M := md_X11_fewest) (pc := 0) dX11_fewest_0 ?_
  refine e_ist_n (M := md_X11_fewest) (pc := 1) (ls' := [q_A 81, q_I l1, q_I l2, q_I 1]) dX11_fewest_1 (by decide) (q_pl rfl) rfl ?_
  exact q_weak (w_Mod_fewest_l2 hN q_F _ _ _ _  h) ⟨Or.inr rfl, Or.inr rfl, Or.inr rfl, Or.inr rfl, trivial⟩
def f_Mod_tileOf (l0 l1 l2 : Int) (m : q_Mem) : q_Res :=
  q_dv l0 10 fun v1 =>
  q_dv v1 l1 fun v2 =>
  q_md l0 10 fun v3 =>
  q_dv v3 l2 fun v4 =>
  q_rt ((10 * v2) + v4) m
set_option maxRecDepth 20000 in
theorem ok_X11_tileOf {l0 l1 l2 : Int} {r : Int × q_Mem} {m : q_Mem} {N : Nat} (hN : 126 ≤ N) (h : f_Mod_tileOf l0 l1 l2 m = some r) : q_C md_X11_tileOf (q_room 1) 0 0 [q_I l0, q_I l1, q_I l2] (q_g N) m (some (q_I r.1), q_g N, r.2) := by
  refine q_ofR (by decide) 0 (ls := [q_I l0, q_I l1, q_I l2]) rfl (Nat.le_of_ble_eq_true rfl) ?_
  change q_E md_X11_tileOf 1 N (some 0) r m 0 [q_I l0, q_I l1, q_I l2] []
  unfold f_Mod_tileOf at h
  refine q_bipush (M := md_X11_tileOf) (pc := 0) (x := 10) dX11_tileOf_0 (by decide) ?_
  refine q_iload_n (M := md_X11_tileOf) (pc := 2) dX11_tileOf_2 rfl ?_
  refine q_bipush (M := md_X11_tileOf) (pc := 3) (x := 10) dX11_tileOf_3 (by decide) ?_
  refine e_dv (M := md_X11_tileOf) (pc := 5) h dX11_tileOf_5 (fun v1 h => ?_)
  refine q_iload_n (M := md_X11_tileOf) (pc := 6) dX11_tileOf_6 rfl ?_
  refine e_dv (M := md_X11_tileOf) (pc := 7) h dX11_tileOf_7 (fun v2 h => ?_)
  refine q_imul (M := md_X11_tileOf) (pc := 8) dX11_tileOf_8 ?_
  refine q_iload_n (M := md_X11_tileOf) (pc := 9) dX11_tileOf_9 rfl ?_
  refine q_bipush (M := md_X11_tileOf) (pc := 10) (x := 10) dX11_tileOf_10 (by decide) ?_
  refine e_md (M := md_X11_tileOf) (pc := 12) h dX11_tileOf_12 (fun v3 h => ?_)
  refine q_iload_n (M := md_X11_tileOf) (pc := 13) dX11_tileOf_13 rfl ?_
  refine e_dv (M := md_X11_tileOf) (pc := 14) h dX11_tileOf_14 (fun v4 h => ?_)
  refine q_iadd (M := md_X11_tileOf) (pc := 15) dX11_tileOf_15 ?_
  exact e_iret (M := md_X11_tileOf) (pc := 16) h rfl dX11_tileOf_16
def f_Mod_tileMany (l1 l2 : Int) (m : q_Mem) : q_Res :=
  q_bd (f_Mod_rowsNow m) fun v1 m2 =>
  q_dv ((v1 + l1) - 1) l1 fun v3 =>
  q_bd (f_Mod_columnsNow m2) fun v4 m5 =>
  q_dv ((v4 + l2) - 1) l2 fun v6 =>
  q_rt (v3 * v6) m5
set_option maxRecDepth 20000 in
theorem ok_X11_tileMany {l1 l2 : Int} {r : Int × q_Mem} {m : q_Mem} {N : Nat} (hN : 126 ≤ N) (h : f_Mod_tileMany l1 l2 m = some r) : q_C md_X11_tileMany (q_room 2) 0 0 [q_A 81, q_I l1, q_I l2] (q_g N) m (some (q_I r.1), q_g N, r.2) := by
  refine q_ofR (by decide) 0 (ls := [q_A 81, q_I l1, q_I l2]) rfl (Nat.le_of_ble_eq_true rfl) ?_
  change q_E md_X11_tileMany 2 N (some 0) r m 0 [q_A 81, q_I l1, q_I l2] []
  unfold f_Mod_tileMany at h
  refine q_aload_n (M := md_X11_tileMany) (pc := 0) dX11_tileMany_0 rfl (by decide) ?_
  refine e_callVi (M := md_X11_tileMany) (pc := 1) (d' := 1) (av := []) (c := 81) h ml_11_318 im_X11_rowsNow se_X11_rowsNow dX11_tileMany_1 (fun v he => ok_X11_rowsNow hN  he) rfl (is_81 hN) ⟨_, _, rfl⟩ (by decide) (Nat.le_of_ble_eq_true rfl) ⟨by decide, by decide⟩ rfl (fun v1 m2 h => ?_)
  refine q_iload_n (M := md_X11_tileMany) (pc := 4) dX11_tileMany_4 rfl ?_
  refine q_iadd (M := md_X11_tileMany) (pc := 5) dX11_tileMany_5 ?_
  refine q_iconst (M := md_X11_tileMany) (pc := 6) dX11_tileMany_6 ?_
  refine q_isub (M := md_X11_tileMany) (pc := 7) dX11_tileMany_7 ?_
  refine q_iload_n (M := md_X11_tileMany) (pc := 8) dX11_tileMany_8 rfl ?_
  refine e_dv (M := md_X11_tileMany) (pc := 9) h dX11_tileMany_9 (fun v3 h => ?_)
  refine q_aload_n (M := md_X11_tileMany) (pc := 10) dX11_tileMany_10 rfl (by decide) ?_
  refine e_callVi (M := md_X11_tileMany) (pc := 11) (d' := 1) (av := []) (c := 81) h ml_11_321 im_X11_columnsNow se_X11_columnsNow dX11_tileMany_11 (fun v he => ok_X11_columnsNow hN  he) rfl (is_81 hN) ⟨_, _, rfl⟩ (by decide) (Nat.le_of_ble_eq_true rfl) ⟨by decide, by decide⟩ rfl (fun v4 m5 h => ?_)
  refine q_iload_n (M := md_X11_tileMany) (pc := 14) dX11_tileMany_14 rfl ?_
  refine q_iadd (M := md_X11_tileMany) (pc := 15) dX11_tileMany_15 ?_
  refine q_iconst (M := md_X11_tileMany) (pc := 16) dX11_tileMany_16 ?_
  refine q_isub (M := md_X11_tileMany) (pc := 17) dX11_tileMany_17 ?_
  refine q_iload_n (M := md_X11_tileMany) (pc := 18) dX11_tileMany_18 rfl ?_
  refine e_dv (M := md_X11_tileMany) (pc := 19) h dX11_tileMany_19 (fun v6 h => ?_)
  refine q_imul (M := md_X11_tileMany) (pc := 20) dX11_tileMany_20 ?_
  exact e_iret (M := md_X11_tileMany) (pc := 21) h rfl dX11_tileMany_21
def f_Mod_layTiles_b117 (k27 : Int → Int → Int → Int → q_Mem → q_Res) (k37 : Int → Int → Int → Int → Int → q_Mem → q_Res) (l1 l2 l3 l4 l5 : Int) (m : q_Mem) : q_Res :=
  k37 l1 l2 l3 l4 (l5 + 1) m
set_option maxRecDepth 20000 in
theorem w_Mod_layTiles_b117 {k27 : Int → Int → Int → Int → q_Mem → q_Res} {k37 : Int → Int → Int → Int → Int → q_Mem → q_Res} {l1 l2 l3 l4 l5 : Int} {r : Int × q_Mem} {m : q_Mem} {N : Nat} (hN : 126 ≤ N) (hk27 : ∀ (l1 l2 l3 l4 : Int) (m : q_Mem), k27 l1 l2 l3 l4 m = some r → q_E md_X11_layTiles 4 N (some 0) r m 27 [q_A 81, q_I l1, q_I l2, q_I l3, q_I l4, q_N, q_N] []) (hk37 : ∀ (l1 l2 l3 l4 l5 : Int) (m : q_Mem), k37 l1 l2 l3 l4 l5 m = some r → q_E md_X11_layTiles 4 N (some 0) r m 37 [q_A 81, q_I l1, q_I l2, q_I l3, q_I l4, q_I l5, q_N] []) (h : f_Mod_layTiles_b117 k27 k37 l1 l2 l3 l4 l5 m = some r) : q_E md_X11_layTiles 4 N (some 0) r m 117 [q_A 81, q_I l1, q_I l2, q_I l3, q_I l4, q_I l5, q_N] [] := by
  unfold f_Mod_layTiles_b117 at h
  refine e_inc (M := md_X11_layTiles) (pc := 117) (x := l5) (ls' := [q_A 81, q_I l1, q_I l2, q_I l3, q_I l4, q_I (l5 + 1), q_N]) dX11_layTiles_117 rfl (by decide) (q_pl rfl) rfl ?_
  refine q_goto (M := md_X11_layTiles) (pc := 120) (tgt := 37) dX11_layTiles_120 (by decide) ?_
  exact q_weak (hk37 _ _ _ _ _ _  h) ⟨Or.inr rfl, Or.inr rfl, Or.inr rfl, Or.inr rfl, Or.inr rfl, Or.inr rfl, Or.inl rfl, trivial⟩
def f_Mod_layTiles_b123 (k27 : Int → Int → Int → Int → q_Mem → q_Res) (l1 l2 l3 l4 : Int) (m : q_Mem) : q_Res :=
  k27 l1 l2 l3 (l4 + 1) m
set_option maxRecDepth 20000 in
theorem w_Mod_layTiles_b123 {k27 : Int → Int → Int → Int → q_Mem → q_Res} {l1 l2 l3 l4 : Int} {r : Int × q_Mem} {m : q_Mem} {N : Nat} (hN : 126 ≤ N) (hk27 : ∀ (l1 l2 l3 l4 : Int) (m : q_Mem), k27 l1 l2 l3 l4 m = some r → q_E md_X11_layTiles 4 N (some 0) r m 27 [q_A 81, q_I l1, q_I l2, q_I l3, q_I l4, q_N, q_N] []) (h : f_Mod_layTiles_b123 k27 l1 l2 l3 l4 m = some r) : q_E md_X11_layTiles 4 N (some 0) r m 123 [q_A 81, q_I l1, q_I l2, q_I l3, q_I l4, q_N, q_N] [] := by
  unfold f_Mod_layTiles_b123 at h
  refine e_inc (M := md_X11_layTiles) (pc := 123) (x := l4) (ls' := [q_A 81, q_I l1, q_I l2, q_I l3, q_I (l4 + 1), q_N, q_N]) dX11_layTiles_123 rfl (by decide) (q_pl rfl) rfl ?_
  refine q_goto (M := md_X11_layTiles) (pc := 126) (tgt := 27) dX11_layTiles_126 (by decide) ?_
  exact q_weak (hk27 _ _ _ _ _  h) ⟨Or.inr rfl, Or.inr rfl, Or.inr rfl, Or.inr rfl, Or.inr rfl, Or.inl rfl, Or.inl rfl, trivial⟩
def f_Mod_layTiles_b37 (k27 : Int → Int → Int → Int → q_Mem → q_Res) (k37 : Int → Int → Int → Int → Int → q_Mem → q_Res) (l1 l2 l3 l4 l5 : Int) (m : q_Mem) : q_Res :=
  q_bd (f_Mod_offsetsNow m) fun v1 m2 =>
  if q_w v1 ≤ q_w l5 then (f_Mod_layTiles_b123 k27 l1 l2 l3 l4 m2)
  else (q_bd (f_Mod_isThere l4 m2) fun v3 m4 =>
  if q_w v3 = 0 then (f_Mod_layTiles_b123 k27 l1 l2 l3 l4 m4)
  else (q_bd (f_Mod_readBy l4 l5 m4) fun v5 m6 =>
  if q_w v5 < 0 then (f_Mod_layTiles_b117 k27 k37 l1 l2 l3 l4 l5 m6)
  else (q_bd (f_Mod_tileOf l4 l1 l2 m6) fun v7 m8 =>
  q_bd (f_Mod_tileOf v5 l1 l2 m8) fun v9 m10 =>
  if q_w v7 = q_w v9 then (f_Mod_layTiles_b117 k27 k37 l1 l2 l3 l4 l5 m10)
  else (q_bd (f_Mod_tileOf l4 l1 l2 m10) fun v11 m12 =>
  q_bd (f_Mod_tileOf v5 l1 l2 m12) fun v13 m14 =>
  q_wrz m14 122 10000 ((100 * v11) + v13) 1 fun m15 =>
  f_Mod_layTiles_b117 k27 k37 l1 l2 (l3 + 1) l4 l5 m15))))
set_option maxRecDepth 20000 in
theorem w_Mod_layTiles_b37 {k27 : Int → Int → Int → Int → q_Mem → q_Res} {k37 : Int → Int → Int → Int → Int → q_Mem → q_Res} {l1 l2 l3 l4 l5 : Int} {r : Int × q_Mem} {m : q_Mem} {N : Nat} (hN : 126 ≤ N) (hk27 : ∀ (l1 l2 l3 l4 : Int) (m : q_Mem), k27 l1 l2 l3 l4 m = some r → q_E md_X11_layTiles 4 N (some 0) r m 27 [q_A 81, q_I l1, q_I l2, q_I l3, q_I l4, q_N, q_N] []) (hk37 : ∀ (l1 l2 l3 l4 l5 : Int) (m : q_Mem), k37 l1 l2 l3 l4 l5 m = some r → q_E md_X11_layTiles 4 N (some 0) r m 37 [q_A 81, q_I l1, q_I l2, q_I l3, q_I l4, q_I l5, q_N] []) (h : f_Mod_layTiles_b37 k27 k37 l1 l2 l3 l4 l5 m = some r) : q_E md_X11_layTiles 4 N (some 0) r m 37 [q_A 81, q_I l1, q_I l2, q_I l3, q_I l4, q_I l5, q_N] [] := by
  unfold f_Mod_layTiles_b37 at h
  refine q_iload (M := md_X11_layTiles) (pc := 37) dX11_layTiles_37 rfl ?_
  refine q_aload_n (M := md_X11_layTiles) (pc := 39) dX11_layTiles_39 rfl (by decide) ?_
  refine e_callVi (M := md_X11_layTiles) (pc := 40) (d' := 1) (av := []) (c := 81) h ml_11_339 im_X11_offsetsNow se_X11_offsetsNow dX11_layTiles_40 (fun v he => ok_X11_offsetsNow hN  he) rfl (is_81 hN) ⟨_, _, rfl⟩ (by decide) (Nat.le_of_ble_eq_true rfl) ⟨by decide, by decide⟩ rfl (fun v1 m2 h => ?_)
  refine e_icmp_ge (M := md_X11_layTiles) (pc := 43) (tgt := 123) h rfl rfl dX11_layTiles_43 (by decide) (fun h => ?_) (fun h => ?_)
  · exact q_weak (w_Mod_layTiles_b123 hN hk27  h) ⟨Or.inr rfl, Or.inr rfl, Or.inr rfl, Or.inr rfl, Or.inr rfl, Or.inl rfl, Or.inl rfl, trivial⟩
  · refine q_aload_n (M := md_X11_layTiles) (pc := 46) dX11_layTiles_46 rfl (by decide) ?_
    refine q_iload (M := md_X11_layTiles) (pc := 47) dX11_layTiles_47 rfl ?_
    refine e_callVi (M := md_X11_layTiles) (pc := 49) (d' := 3) (av := [q_I l4]) (c := 81) h ml_11_333 im_X11_isThere se_X11_isThere dX11_layTiles_49 (fun v he => ok_X11_isThere hN  he) rfl (is_81 hN) ⟨_, _, rfl⟩ (by decide) (Nat.le_of_ble_eq_true rfl) ⟨by decide, by decide⟩ rfl (fun v3 m4 h => ?_)
    refine e_if_eq (M := md_X11_layTiles) (pc := 52) (tgt := 123) h rfl dX11_layTiles_52 (by decide) (fun h => ?_) (fun h => ?_)
    · exact q_weak (w_Mod_layTiles_b123 hN hk27  h) ⟨Or.inr rfl, Or.inr rfl, Or.inr rfl, Or.inr rfl, Or.inr rfl, Or.inl rfl, Or.inl rfl, trivial⟩
    · refine q_aload_n (M := md_X11_layTiles) (pc := 55) dX11_layTiles_55 rfl (by decide) ?_
      refine q_iload (M := md_X11_layTiles) (pc := 56) dX11_layTiles_56 rfl ?_
      refine q_iload (M := md_X11_layTiles) (pc := 58) dX11_layTiles_58 rfl ?_
      refine e_callVi (M := md_X11_layTiles) (pc := 60) (d' := 3) (av := [q_I l4, q_I l5]) (c := 81) h ml_11_342 im_X11_readBy se_X11_readBy dX11_layTiles_60 (fun v he => ok_X11_readBy hN  he) rfl (is_81 hN) ⟨_, _, rfl⟩ (by decide) (Nat.le_of_ble_eq_true rfl) ⟨by decide, by decide⟩ rfl (fun v5 m6 h => ?_)
      refine e_ist (M := md_X11_layTiles) (pc := 63) (ls' := [q_A 81, q_I l1, q_I l2, q_I l3, q_I l4, q_I l5, q_I v5]) dX11_layTiles_63 (by decide) (q_pl rfl) rfl ?_
      refine q_iload (M := md_X11_layTiles) (pc := 65) dX11_layTiles_65 rfl ?_
      refine e_if_lt (M := md_X11_layTiles) (pc := 67) (tgt := 117) h rfl dX11_layTiles_67 (by decide) (fun h => ?_) (fun h => ?_)
      · exact q_weak (w_Mod_layTiles_b117 hN hk27 hk37  h) ⟨Or.inr rfl, Or.inr rfl, Or.inr rfl, Or.inr rfl, Or.inr rfl, Or.inr rfl, Or.inl rfl, trivial⟩
      · refine q_iload (M := md_X11_layTiles) (pc := 70) dX11_layTiles_70 rfl ?_
        refine q_iload_n (M := md_X11_layTiles) (pc := 72) dX11_layTiles_72 rfl ?_
        refine q_iload_n (M := md_X11_layTiles) (pc := 73) dX11_layTiles_73 rfl ?_
        refine e_callSi (M := md_X11_layTiles) (pc := 74) (d' := 1) (M' := md_X11_tileOf) (av := [q_I l4, q_I l1, q_I l2]) h ml_11_529 sm_X11_tileOf dX11_layTiles_74 (fun v he => ok_X11_tileOf hN  he) rfl (Nat.le_of_ble_eq_true rfl) ⟨by decide, by decide⟩ rfl (fun v7 m8 h => ?_)
        refine q_iload (M := md_X11_layTiles) (pc := 77) dX11_layTiles_77 rfl ?_
        refine q_iload_n (M := md_X11_layTiles) (pc := 79) dX11_layTiles_79 rfl ?_
        refine q_iload_n (M := md_X11_layTiles) (pc := 80) dX11_layTiles_80 rfl ?_
        refine e_callSi (M := md_X11_layTiles) (pc := 81) (d' := 1) (M' := md_X11_tileOf) (av := [q_I v5, q_I l1, q_I l2]) h ml_11_529 sm_X11_tileOf dX11_layTiles_81 (fun v he => ok_X11_tileOf hN  he) rfl (Nat.le_of_ble_eq_true rfl) ⟨by decide, by decide⟩ rfl (fun v9 m10 h => ?_)
        refine e_icmp_ne (M := md_X11_layTiles) (pc := 84) (tgt := 90) h rfl rfl dX11_layTiles_84 (by decide) (fun h => ?_) (fun h => ?_)
        · refine q_aload_n (M := md_X11_layTiles) (pc := 90) dX11_layTiles_90 rfl (by decide) ?_
          refine q_getP (M := md_X11_layTiles) (pc := 91) (v := 122) fl_11_136 dX11_layTiles_91 (is_81 hN) rfl ?_
          refine q_bipush (M := md_X11_layTiles) (pc := 94) (x := 100) dX11_layTiles_94 (by decide) ?_
          refine q_iload (M := md_X11_layTiles) (pc := 96) dX11_layTiles_96 rfl ?_
          refine q_iload_n (M := md_X11_layTiles) (pc := 98) dX11_layTiles_98 rfl ?_
          refine q_iload_n (M := md_X11_layTiles) (pc := 99) dX11_layTiles_99 rfl ?_
          refine e_callSi (M := md_X11_layTiles) (pc := 100) (d' := 1) (M' := md_X11_tileOf) (av := [q_I l4, q_I l1, q_I l2]) h ml_11_529 sm_X11_tileOf dX11_layTiles_100 (fun v he => ok_X11_tileOf hN  he) rfl (Nat.le_of_ble_eq_true rfl) ⟨by decide, by decide⟩ rfl (fun v11 m12 h => ?_)
          refine q_imul (M := md_X11_layTiles) (pc := 103) dX11_layTiles_103 ?_
          refine q_iload (M := md_X11_layTiles) (pc := 104) dX11_layTiles_104 rfl ?_
          refine q_iload_n (M := md_X11_layTiles) (pc := 106) dX11_layTiles_106 rfl ?_
          refine q_iload_n (M := md_X11_layTiles) (pc := 107) dX11_layTiles_107 rfl ?_
          refine e_callSi (M := md_X11_layTiles) (pc := 108) (d' := 1) (M' := md_X11_tileOf) (av := [q_I v5, q_I l1, q_I l2]) h ml_11_529 sm_X11_tileOf dX11_layTiles_108 (fun v he => ok_X11_tileOf hN  he) rfl (Nat.le_of_ble_eq_true rfl) ⟨by decide, by decide⟩ rfl (fun v13 m14 h => ?_)
          refine q_iadd (M := md_X11_layTiles) (pc := 111) dX11_layTiles_111 ?_
          refine q_iconst (M := md_X11_layTiles) (pc := 112) dX11_layTiles_112 ?_
          refine e_wrz (M := md_X11_layTiles) (pc := 113) h dX11_layTiles_113 (ar_122 hN) (fun m15 h => ?_)
          refine e_inc (M := md_X11_layTiles) (pc := 114) (x := l3) (ls' := [q_A 81, q_I l1, q_I l2, q_I (l3 + 1), q_I l4, q_I l5, q_I v5]) dX11_layTiles_114 rfl (by decide) (q_pl rfl) rfl ?_
          exact q_weak (w_Mod_layTiles_b117 hN hk27 hk37  h) ⟨Or.inr rfl, Or.inr rfl, Or.inr rfl, Or.inr rfl, Or.inr rfl, Or.inr rfl, Or.inl rfl, trivial⟩
        · refine q_goto (M := md_X11_layTiles) (pc := 87) (tgt := 117) dX11_layTiles_87 (by decide) ?_
          exact q_weak (w_Mod_layTiles_b117 hN hk27 hk37  h) ⟨Or.inr rfl, Or.inr rfl, Or.inr rfl, Or.inr rfl, Or.inr rfl, Or.inr rfl, Or.inl rfl, trivial⟩
def f_Mod_layTiles_l37 (k27 : Int → Int → Int → Int → q_Mem → q_Res) : Nat → Int → Int → Int → Int → Int → q_Mem → q_Res
  | 0 => fun _ _ _ _ _ _ => none
  | n + 1 => fun l1 l2 l3 l4 l5 m => f_Mod_layTiles_b37 k27 (f_Mod_layTiles_l37 k27 n) l1 l2 l3 l4 l5 m
theorem w_Mod_layTiles_l37 {k27 : Int → Int → Int → Int → q_Mem → q_Res} {r : Int × q_Mem} {N : Nat} (hN : 126 ≤ N) (hk27 : ∀ (l1 l2 l3 l4 : Int) (m : q_Mem), k27 l1 l2 l3 l4 m = some r → q_E md_X11_layTiles 4 N (some 0) r m 27 [q_A 81, q_I l1, q_I l2, q_I l3, q_I l4, q_N, q_N] []) : ∀ (n : Nat) (l1 l2 l3 l4 l5 : Int) (m : q_Mem), f_Mod_layTiles_l37 k27 n l1 l2 l3 l4 l5 m = some r → q_E md_X11_layTiles 4 N (some 0) r m 37 [q_A 81, q_I l1, q_I l2, q_I l3, q_I l4, q_I l5, q_N] [] := by
  intro n
  induction n with
  | zero => intro l1 l2 l3 l4 l5 m h; exact q_no h
  | succ n ih =>
    intro l1 l2 l3 l4 l5 m h
    exact w_Mod_layTiles_b37 hN hk27 (fun l1 l2 l3 l4 l5 m h => ih l1 l2 l3 l4 l5 m h) h
def f_Mod_layTiles_b27 (k27 : Int → Int → Int → Int → q_Mem → q_Res) (l1 l2 l3 l4 : Int) (m : q_Mem) : q_Res :=
  if 100 ≤ q_w l4 then (q_rt l3 m)
  else (f_Mod_layTiles_l37 k27 q_F l1 l2 l3 l4 0 m)
set_option maxRecDepth 20000 in
theorem w_Mod_layTiles_b27 {k27 : Int → Int → Int → Int → q_Mem → q_Res} {l1 l2 l3 l4 : Int} {r : Int × q_Mem} {m : q_Mem} {N : Nat} (hN : 126 ≤ N) (hk27 : ∀ (l1 l2 l3 l4 : Int) (m : q_Mem), k27 l1 l2 l3 l4 m = some r → q_E md_X11_layTiles 4 N (some 0) r m 27 [q_A 81, q_I l1, q_I l2, q_I l3, q_I l4, q_N, q_N] []) (h : f_Mod_layTiles_b27 k27 l1 l2 l3 l4 m = some r) : q_E md_X11_layTiles 4 N (some 0) r m 27 [q_A 81, q_I l1, q_I l2, q_I l3, q_I l4, q_N, q_N] [] := by
  unfold f_Mod_layTiles_b27 at h
  refine q_iload (M := md_X11_layTiles) (pc := 27) dX11_layTiles_27 rfl ?_
  refine q_bipush (M := md_X11_layTiles) (pc := 29) (x := 100) dX11_layTiles_29 (by decide) ?_
  refine e_icmp_ge (M := md_X11_layTiles) (pc := 31) (tgt := 129) h rfl (q_wlit rfl) dX11_layTiles_31 (by decide) (fun h => ?_) (fun h => ?_)
  · refine q_iload_n (M := md_X11_layTiles) (pc := 129) dX11_layTiles_129 rfl ?_
    exact e_iret (M := md_X11_layTiles) (pc := 130) h rfl dX11_layTiles_130
  · refine q_iconst (M := md_X11_layTiles) (pc := 34) dX11_layTiles_34 ?_
    refine e_ist (M := md_X11_layTiles) (pc := 35) (ls' := [q_A 81, q_I l1, q_I l2, q_I l3, q_I l4, q_I 0, q_N]) dX11_layTiles_35 (by decide) (q_pl rfl) rfl ?_
    exact q_weak (w_Mod_layTiles_l37 hN hk27 q_F _ _ _ _ _ _  h) ⟨Or.inr rfl, Or.inr rfl, Or.inr rfl, Or.inr rfl, Or.inr rfl, Or.inr rfl, Or.inl rfl, trivial⟩
def f_Mod_layTiles_l27 : Nat → Int → Int → Int → Int → q_Mem → q_Res
  | 0 => fun _ _ _ _ _ => none
  | n + 1 => fun l1 l2 l3 l4 m => f_Mod_layTiles_b27 (f_Mod_layTiles_l27 n) l1 l2 l3 l4 m
theorem w_Mod_layTiles_l27 {r : Int × q_Mem} {N : Nat} (hN : 126 ≤ N) : ∀ (n : Nat) (l1 l2 l3 l4 : Int) (m : q_Mem), f_Mod_layTiles_l27 n l1 l2 l3 l4 m = some r → q_E md_X11_layTiles 4 N (some 0) r m 27 [q_A 81, q_I l1, q_I l2, q_I l3, q_I l4, q_N, q_N] [] := by
  intro n
  induction n with
  | zero => intro l1 l2 l3 l4 m h; exact q_no h
  | succ n ih =>
    intro l1 l2 l3 l4 m h
    exact w_Mod_layTiles_b27 hN (fun l1 l2 l3 l4 m h => ih l1 l2 l3 l4 m h) h
def f_Mod_layTiles_b2 (k2 : Int → Int → Int → q_Mem → q_Res) (l1 l2 l3 : Int) (m : q_Mem) : q_Res :=
  if 10000 ≤ q_w l3 then (f_Mod_layTiles_l27 q_F l1 l2 0 0 m)
  else (q_wrz m 122 10000 l3 0 fun m1 =>
  k2 l1 l2 (l3 + 1) m1)
set_option maxRecDepth 20000 in
theorem w_Mod_layTiles_b2 {k2 : Int → Int → Int → q_Mem → q_Res} {l1 l2 l3 : Int} {r : Int × q_Mem} {m : q_Mem} {N : Nat} (hN : 126 ≤ N) (hk2 : ∀ (l1 l2 l3 : Int) (m : q_Mem), k2 l1 l2 l3 m = some r → q_E md_X11_layTiles 4 N (some 0) r m 2 [q_A 81, q_I l1, q_I l2, q_I l3, q_N, q_N, q_N] []) (h : f_Mod_layTiles_b2 k2 l1 l2 l3 m = some r) : q_E md_X11_layTiles 4 N (some 0) r m 2 [q_A 81, q_I l1, q_I l2, q_I l3, q_N, q_N, q_N] [] := by
  unfold f_Mod_layTiles_b2 at h
  refine q_iload_n (M := md_X11_layTiles) (pc := 2) dX11_layTiles_2 rfl ?_
  refine q_sipush (M := md_X11_layTiles) (pc := 3) (x := 10000) dX11_layTiles_3 (by decide) ?_
  refine e_icmp_ge (M := md_X11_layTiles) (pc := 6) (tgt := 22) h rfl (q_wlit rfl) dX11_layTiles_6 (by decide) (fun h => ?_) (fun h => ?_)
  · refine q_iconst (M := md_X11_layTiles) (pc := 22) dX11_layTiles_22 ?_
    refine e_ist_n (M := md_X11_layTiles) (pc := 23) (ls' := [q_A 81, q_I l1, q_I l2, q_I 0, q_N, q_N, q_N]) dX11_layTiles_23 (by decide) (q_pl rfl) rfl ?_
    refine q_iconst (M := md_X11_layTiles) (pc := 24) dX11_layTiles_24 ?_
    refine e_ist (M := md_X11_layTiles) (pc := 25) (ls' := [q_A 81, q_I l1, q_I l2, q_I 0, q_I 0, q_N, q_N]) dX11_layTiles_25 (by decide) (q_pl rfl) rfl ?_
    exact q_weak (w_Mod_layTiles_l27 hN q_F _ _ _ _ _  h) ⟨Or.inr rfl, Or.inr rfl, Or.inr rfl, Or.inr rfl, Or.inr rfl, Or.inl rfl, Or.inl rfl, trivial⟩
  · refine q_aload_n (M := md_X11_layTiles) (pc := 9) dX11_layTiles_9 rfl (by decide) ?_
    refine q_getP (M := md_X11_layTiles) (pc := 10) (v := 122) fl_11_136 dX11_layTiles_10 (is_81 hN) rfl ?_
    refine q_iload_n (M := md_X11_layTiles) (pc := 13) dX11_layTiles_13 rfl ?_
    refine q_iconst (M := md_X11_layTiles) (pc := 14) dX11_layTiles_14 ?_
    refine e_wrz (M := md_X11_layTiles) (pc := 15) h dX11_layTiles_15 (ar_122 hN) (fun m1 h => ?_)
    refine e_inc (M := md_X11_layTiles) (pc := 16) (x := l3) (ls' := [q_A 81, q_I l1, q_I l2, q_I (l3 + 1), q_N, q_N, q_N]) dX11_layTiles_16 rfl (by decide) (q_pl rfl) rfl ?_
    refine q_goto (M := md_X11_layTiles) (pc := 19) (tgt := 2) dX11_layTiles_19 (by decide) ?_
    exact q_weak (hk2 _ _ _ _  h) ⟨Or.inr rfl, Or.inr rfl, Or.inr rfl, Or.inr rfl, Or.inl rfl, Or.inl rfl, Or.inl rfl, trivial⟩
def f_Mod_layTiles_l2 : Nat → Int → Int → Int → q_Mem → q_Res
  | 0 => fun _ _ _ _ => none
  | n + 1 => fun l1 l2 l3 m => f_Mod_layTiles_b2 (f_Mod_layTiles_l2 n) l1 l2 l3 m
theorem w_Mod_layTiles_l2 {r : Int × q_Mem} {N : Nat} (hN : 126 ≤ N) : ∀ (n : Nat) (l1 l2 l3 : Int) (m : q_Mem), f_Mod_layTiles_l2 n l1 l2 l3 m = some r → q_E md_X11_layTiles 4 N (some 0) r m 2 [q_A 81, q_I l1, q_I l2, q_I l3, q_N, q_N, q_N] [] := by
  intro n
  induction n with
  | zero => intro l1 l2 l3 m h; exact q_no h
  | succ n ih =>
    intro l1 l2 l3 m h
    exact w_Mod_layTiles_b2 hN (fun l1 l2 l3 m h => ih l1 l2 l3 m h) h
def f_Mod_layTiles (l1 l2 : Int) (m : q_Mem) : q_Res :=
  f_Mod_layTiles_l2 q_F l1 l2 0 m
set_option maxRecDepth 20000 in
theorem ok_X11_layTiles {l1 l2 : Int} {r : Int × q_Mem} {m : q_Mem} {N : Nat} (hN : 126 ≤ N) (h : f_Mod_layTiles l1 l2 m = some r) : q_C md_X11_layTiles (q_room 4) 0 0 [q_A 81, q_I l1, q_I l2] (q_g N) m (some (q_I r.1), q_g N, r.2) := by
  refine q_ofR (by decide) 4 (ls := [q_A 81, q_I l1, q_I l2, q_N, q_N, q_N, q_N]) rfl (Nat.le_of_ble_eq_true rfl) ?_
  change q_E md_X11_layTiles 4 N (some 0) r m 0 [q_A 81, q_I l1, q_I l2, q_N, q_N, q_N, q_N] []
  unfold f_Mod_layTiles at h
  refine q_iconst (M := md_X11_layTiles) (pc := 0) dX11_layTiles_0 ?_
  refine e_ist_n (M := md_X11_layTiles) (pc := 1) (ls' := [q_A 81, q_I l1, q_I l2, q_I 0, q_N, q_N, q_N]) dX11_layTiles_1 (by decide) (q_pl rfl) rfl ?_
  exact q_weak (w_Mod_layTiles_l2 hN q_F _ _ _ _  h) ⟨Or.inr rfl, Or.inr rfl, Or.inr rfl, Or.inr rfl, Or.inl rfl, Or.inl rfl, Or.inl rfl, trivial⟩
def f_Mod_tileDepthBy_b51 (k4 : Int → Int → Int → q_Mem → q_Res) (l1 l2 l3 : Int) (m : q_Mem) : q_Res :=
  k4 l1 l2 (l3 + 1) m
set_option maxRecDepth 20000 in
theorem w_Mod_tileDepthBy_b51 {k4 : Int → Int → Int → q_Mem → q_Res} {l1 l2 l3 : Int} {r : Int × q_Mem} {m : q_Mem} {N : Nat} (hN : 126 ≤ N) (hk4 : ∀ (l1 l2 l3 : Int) (m : q_Mem), k4 l1 l2 l3 m = some r → q_E md_X11_tileDepthBy 2 N (some 0) r m 4 [q_A 81, q_I l1, q_I l2, q_I l3] []) (h : f_Mod_tileDepthBy_b51 k4 l1 l2 l3 m = some r) : q_E md_X11_tileDepthBy 2 N (some 0) r m 51 [q_A 81, q_I l1, q_I l2, q_I l3] [] := by
  unfold f_Mod_tileDepthBy_b51 at h
  refine e_inc (M := md_X11_tileDepthBy) (pc := 51) (x := l3) (ls' := [q_A 81, q_I l1, q_I l2, q_I (l3 + 1)]) dX11_tileDepthBy_51 rfl (by decide) (q_pl rfl) rfl ?_
  refine q_goto (M := md_X11_tileDepthBy) (pc := 54) (tgt := 4) dX11_tileDepthBy_54 (by decide) ?_
  exact q_weak (hk4 _ _ _ _  h) ⟨Or.inr rfl, Or.inr rfl, Or.inr rfl, Or.inr rfl, trivial⟩
def f_Mod_tileDepthBy_b4 (k4 : Int → Int → Int → q_Mem → q_Res) (l1 l2 l3 : Int) (m : q_Mem) : q_Res :=
  if 100 ≤ q_w l3 then (q_rt l2 m)
  else (q_rd m 122 10000 ((100 * l1) + l3) fun v1 =>
  if q_w v1 = 0 then (f_Mod_tileDepthBy_b51 k4 l1 l2 l3 m)
  else (q_rd m 121 100 l3 fun v2 =>
  if q_w v2 = 0 then (q_rt 0 m)
  else (q_rd m 121 100 l3 fun v3 =>
  q_bd (f_Mod_more l2 (v3 + 1) m) fun v4 m5 =>
  f_Mod_tileDepthBy_b51 k4 l1 v4 l3 m5)))
set_option maxRecDepth 20000 in
theorem w_Mod_tileDepthBy_b4 {k4 : Int → Int → Int → q_Mem → q_Res} {l1 l2 l3 : Int} {r : Int × q_Mem} {m : q_Mem} {N : Nat} (hN : 126 ≤ N) (hk4 : ∀ (l1 l2 l3 : Int) (m : q_Mem), k4 l1 l2 l3 m = some r → q_E md_X11_tileDepthBy 2 N (some 0) r m 4 [q_A 81, q_I l1, q_I l2, q_I l3] []) (h : f_Mod_tileDepthBy_b4 k4 l1 l2 l3 m = some r) : q_E md_X11_tileDepthBy 2 N (some 0) r m 4 [q_A 81, q_I l1, q_I l2, q_I l3] [] := by
  unfold f_Mod_tileDepthBy_b4 at h
  refine q_iload_n (M := md_X11_tileDepthBy) (pc := 4) dX11_tileDepthBy_4 rfl ?_
  refine q_bipush (M := md_X11_tileDepthBy) (pc := 5) (x := 100) dX11_tileDepthBy_5 (by decide) ?_
  refine e_icmp_ge (M := md_X11_tileDepthBy) (pc := 7) (tgt := 57) h rfl (q_wlit rfl) dX11_tileDepthBy_7 (by decide) (fun h => ?_) (fun h => ?_)
  · refine q_iload_n (M := md_X11_tileDepthBy) (pc := 57) dX11_tileDepthBy_57 rfl ?_
    exact e_iret (M := md_X11_tileDepthBy) (pc := 58) h rfl dX11_tileDepthBy_58
  · refine q_aload_n (M := md_X11_tileDepthBy) (pc := 10) dX11_tileDepthBy_10 rfl (by decide) ?_
    refine q_getP (M := md_X11_tileDepthBy) (pc := 11) (v := 122) fl_11_136 dX11_tileDepthBy_11 (is_81 hN) rfl ?_
    refine q_bipush (M := md_X11_tileDepthBy) (pc := 14) (x := 100) dX11_tileDepthBy_14 (by decide) ?_
    refine q_iload_n (M := md_X11_tileDepthBy) (pc := 16) dX11_tileDepthBy_16 rfl ?_
    refine q_imul (M := md_X11_tileDepthBy) (pc := 17) dX11_tileDepthBy_17 ?_
    refine q_iload_n (M := md_X11_tileDepthBy) (pc := 18) dX11_tileDepthBy_18 rfl ?_
    refine q_iadd (M := md_X11_tileDepthBy) (pc := 19) dX11_tileDepthBy_19 ?_
    refine e_rdz (M := md_X11_tileDepthBy) (pc := 20) h dX11_tileDepthBy_20 (ar_122 hN) (fun v1 h => ?_)
    refine e_if_ne (M := md_X11_tileDepthBy) (pc := 21) (tgt := 27) h rfl dX11_tileDepthBy_21 (by decide) (fun h => ?_) (fun h => ?_)
    · refine q_aload_n (M := md_X11_tileDepthBy) (pc := 27) dX11_tileDepthBy_27 rfl (by decide) ?_
      refine q_getP (M := md_X11_tileDepthBy) (pc := 28) (v := 121) fl_11_133 dX11_tileDepthBy_28 (is_81 hN) rfl ?_
      refine q_iload_n (M := md_X11_tileDepthBy) (pc := 31) dX11_tileDepthBy_31 rfl ?_
      refine e_rd (M := md_X11_tileDepthBy) (pc := 32) h dX11_tileDepthBy_32 (ar_121 hN) (fun v2 h => ?_)
      refine e_if_ne (M := md_X11_tileDepthBy) (pc := 33) (tgt := 38) h rfl dX11_tileDepthBy_33 (by decide) (fun h => ?_) (fun h => ?_)
      · refine q_iload_n (M := md_X11_tileDepthBy) (pc := 38) dX11_tileDepthBy_38 rfl ?_
        refine q_aload_n (M := md_X11_tileDepthBy) (pc := 39) dX11_tileDepthBy_39 rfl (by decide) ?_
        refine q_getP (M := md_X11_tileDepthBy) (pc := 40) (v := 121) fl_11_133 dX11_tileDepthBy_40 (is_81 hN) rfl ?_
        refine q_iload_n (M := md_X11_tileDepthBy) (pc := 43) dX11_tileDepthBy_43 rfl ?_
        refine e_rd (M := md_X11_tileDepthBy) (pc := 44) h dX11_tileDepthBy_44 (ar_121 hN) (fun v3 h => ?_)
        refine q_iconst (M := md_X11_tileDepthBy) (pc := 45) dX11_tileDepthBy_45 ?_
        refine q_iadd (M := md_X11_tileDepthBy) (pc := 46) dX11_tileDepthBy_46 ?_
        refine e_callSi (M := md_X11_tileDepthBy) (pc := 47) (d' := 1) (M' := md_X11_more) (av := [q_I l2, q_I (v3 + 1)]) h ml_11_345 sm_X11_more dX11_tileDepthBy_47 (fun v he => ok_X11_more hN  he) rfl (Nat.le_of_ble_eq_true rfl) ⟨by decide, by decide⟩ rfl (fun v4 m5 h => ?_)
        refine e_ist_n (M := md_X11_tileDepthBy) (pc := 50) (ls' := [q_A 81, q_I l1, q_I v4, q_I l3]) dX11_tileDepthBy_50 (by decide) (q_pl rfl) rfl ?_
        exact q_weak (w_Mod_tileDepthBy_b51 hN hk4  h) ⟨Or.inr rfl, Or.inr rfl, Or.inr rfl, Or.inr rfl, trivial⟩
      · refine q_iconst (M := md_X11_tileDepthBy) (pc := 36) dX11_tileDepthBy_36 ?_
        exact e_iret (M := md_X11_tileDepthBy) (pc := 37) h rfl dX11_tileDepthBy_37
    · refine q_goto (M := md_X11_tileDepthBy) (pc := 24) (tgt := 51) dX11_tileDepthBy_24 (by decide) ?_
      exact q_weak (w_Mod_tileDepthBy_b51 hN hk4  h) ⟨Or.inr rfl, Or.inr rfl, Or.inr rfl, Or.inr rfl, trivial⟩
def f_Mod_tileDepthBy_l4 : Nat → Int → Int → Int → q_Mem → q_Res
  | 0 => fun _ _ _ _ => none
  | n + 1 => fun l1 l2 l3 m => f_Mod_tileDepthBy_b4 (f_Mod_tileDepthBy_l4 n) l1 l2 l3 m
theorem w_Mod_tileDepthBy_l4 {r : Int × q_Mem} {N : Nat} (hN : 126 ≤ N) : ∀ (n : Nat) (l1 l2 l3 : Int) (m : q_Mem), f_Mod_tileDepthBy_l4 n l1 l2 l3 m = some r → q_E md_X11_tileDepthBy 2 N (some 0) r m 4 [q_A 81, q_I l1, q_I l2, q_I l3] [] := by
  intro n
  induction n with
  | zero => intro l1 l2 l3 m h; exact q_no h
  | succ n ih =>
    intro l1 l2 l3 m h
    exact w_Mod_tileDepthBy_b4 hN (fun l1 l2 l3 m h => ih l1 l2 l3 m h) h
def f_Mod_tileDepthBy (l1 : Int) (m : q_Mem) : q_Res :=
  f_Mod_tileDepthBy_l4 q_F l1 1 0 m
set_option maxRecDepth 20000 in
theorem ok_X11_tileDepthBy {l1 : Int} {r : Int × q_Mem} {m : q_Mem} {N : Nat} (hN : 126 ≤ N) (h : f_Mod_tileDepthBy l1 m = some r) : q_C md_X11_tileDepthBy (q_room 2) 0 0 [q_A 81, q_I l1] (q_g N) m (some (q_I r.1), q_g N, r.2) := by
  refine q_ofR (by decide) 2 (ls := [q_A 81, q_I l1, q_N, q_N]) rfl (Nat.le_of_ble_eq_true rfl) ?_
  change q_E md_X11_tileDepthBy 2 N (some 0) r m 0 [q_A 81, q_I l1, q_N, q_N] []
  unfold f_Mod_tileDepthBy at h
  refine q_iconst (M := md_X11_tileDepthBy) (pc := 0) dX11_tileDepthBy_0 ?_
  refine e_ist_n (M := md_X11_tileDepthBy) (pc := 1) (ls' := [q_A 81, q_I l1, q_I 1, q_N]) dX11_tileDepthBy_1 (by decide) (q_pl rfl) rfl ?_
  refine q_iconst (M := md_X11_tileDepthBy) (pc := 2) dX11_tileDepthBy_2 ?_
  refine e_ist_n (M := md_X11_tileDepthBy) (pc := 3) (ls' := [q_A 81, q_I l1, q_I 1, q_I 0]) dX11_tileDepthBy_3 (by decide) (q_pl rfl) rfl ?_
  exact q_weak (w_Mod_tileDepthBy_l4 hN q_F _ _ _ _  h) ⟨Or.inr rfl, Or.inr rfl, Or.inr rfl, Or.inr rfl, trivial⟩
def f_Mod_tileRow_b136 (k26 : Int → Int → Int → Int → q_Mem → q_Res) (k35 : Int → Int → Int → Int → Int → q_Mem → q_Res) (l1 l2 l3 l4 l5 : Int) (m : q_Mem) : q_Res :=
  k35 l1 l2 l3 l4 (l5 + 1) m
set_option maxRecDepth 20000 in
theorem w_Mod_tileRow_b136 {k26 : Int → Int → Int → Int → q_Mem → q_Res} {k35 : Int → Int → Int → Int → Int → q_Mem → q_Res} {l1 l2 l3 l4 l5 : Int} {r : Int × q_Mem} {m : q_Mem} {N : Nat} (hN : 126 ≤ N) (hk26 : ∀ (l1 l2 l3 l4 : Int) (m : q_Mem), k26 l1 l2 l3 l4 m = some r → q_E md_X11_tileRow 4 N (some 0) r m 26 [q_A 81, q_I l1, q_I l2, q_I l3, q_I l4, q_N] []) (hk35 : ∀ (l1 l2 l3 l4 l5 : Int) (m : q_Mem), k35 l1 l2 l3 l4 l5 m = some r → q_E md_X11_tileRow 4 N (some 0) r m 35 [q_A 81, q_I l1, q_I l2, q_I l3, q_I l4, q_I l5] []) (h : f_Mod_tileRow_b136 k26 k35 l1 l2 l3 l4 l5 m = some r) : q_E md_X11_tileRow 4 N (some 0) r m 136 [q_A 81, q_I l1, q_I l2, q_I l3, q_I l4, q_I l5] [] := by
  unfold f_Mod_tileRow_b136 at h
  refine e_inc (M := md_X11_tileRow) (pc := 136) (x := l5) (ls' := [q_A 81, q_I l1, q_I l2, q_I l3, q_I l4, q_I (l5 + 1)]) dX11_tileRow_136 rfl (by decide) (q_pl rfl) rfl ?_
  refine q_goto (M := md_X11_tileRow) (pc := 139) (tgt := 35) dX11_tileRow_139 (by decide) ?_
  exact q_weak (hk35 _ _ _ _ _ _  h) ⟨Or.inr rfl, Or.inr rfl, Or.inr rfl, Or.inr rfl, Or.inr rfl, Or.inr rfl, trivial⟩
def f_Mod_tileRow_b116 (k26 : Int → Int → Int → Int → q_Mem → q_Res) (k35 : Int → Int → Int → Int → Int → q_Mem → q_Res) (l1 l2 l4 l5 s0 : Int) (m : q_Mem) : q_Res :=
  q_bd (f_Mod_tileOf l5 l1 l2 m) fun v1 m2 =>
  q_rd m2 121 100 v1 fun v3 =>
  q_bd (f_Mod_more l4 v3 m2) fun v4 m5 =>
  f_Mod_tileRow_b136 k26 k35 l1 l2 s0 v4 l5 m5
set_option maxRecDepth 20000 in
theorem w_Mod_tileRow_b116 {k26 : Int → Int → Int → Int → q_Mem → q_Res} {k35 : Int → Int → Int → Int → Int → q_Mem → q_Res} {l1 l2 l4 l5 s0 : Int} {r : Int × q_Mem} {m : q_Mem} {N : Nat} (hN : 126 ≤ N) (hk26 : ∀ (l1 l2 l3 l4 : Int) (m : q_Mem), k26 l1 l2 l3 l4 m = some r → q_E md_X11_tileRow 4 N (some 0) r m 26 [q_A 81, q_I l1, q_I l2, q_I l3, q_I l4, q_N] []) (hk35 : ∀ (l1 l2 l3 l4 l5 : Int) (m : q_Mem), k35 l1 l2 l3 l4 l5 m = some r → q_E md_X11_tileRow 4 N (some 0) r m 35 [q_A 81, q_I l1, q_I l2, q_I l3, q_I l4, q_I l5] []) (h : f_Mod_tileRow_b116 k26 k35 l1 l2 l4 l5 s0 m = some r) : q_E md_X11_tileRow 4 N (some 0) r m 116 [q_A 81, q_I l1, q_I l2, q_N, q_I l4, q_I l5] [q_I s0] := by
  unfold f_Mod_tileRow_b116 at h
  refine e_ist_n (M := md_X11_tileRow) (pc := 116) (ls' := [q_A 81, q_I l1, q_I l2, q_I s0, q_I l4, q_I l5]) dX11_tileRow_116 (by decide) (q_pl rfl) rfl ?_
  refine q_iload (M := md_X11_tileRow) (pc := 117) dX11_tileRow_117 rfl ?_
  refine q_aload_n (M := md_X11_tileRow) (pc := 119) dX11_tileRow_119 rfl (by decide) ?_
  refine q_getP (M := md_X11_tileRow) (pc := 120) (v := 121) fl_11_133 dX11_tileRow_120 (is_81 hN) rfl ?_
  refine q_iload (M := md_X11_tileRow) (pc := 123) dX11_tileRow_123 rfl ?_
  refine q_iload_n (M := md_X11_tileRow) (pc := 125) dX11_tileRow_125 rfl ?_
  refine q_iload_n (M := md_X11_tileRow) (pc := 126) dX11_tileRow_126 rfl ?_
  refine e_callSi (M := md_X11_tileRow) (pc := 127) (d' := 1) (M' := md_X11_tileOf) (av := [q_I l5, q_I l1, q_I l2]) h ml_11_529 sm_X11_tileOf dX11_tileRow_127 (fun v he => ok_X11_tileOf hN  he) rfl (Nat.le_of_ble_eq_true rfl) ⟨by decide, by decide⟩ rfl (fun v1 m2 h => ?_)
  refine e_rd (M := md_X11_tileRow) (pc := 130) h dX11_tileRow_130 (ar_121 hN) (fun v3 h => ?_)
  refine e_callSi (M := md_X11_tileRow) (pc := 131) (d' := 1) (M' := md_X11_more) (av := [q_I l4, q_I v3]) h ml_11_345 sm_X11_more dX11_tileRow_131 (fun v he => ok_X11_more hN  he) rfl (Nat.le_of_ble_eq_true rfl) ⟨by decide, by decide⟩ rfl (fun v4 m5 h => ?_)
  refine e_ist (M := md_X11_tileRow) (pc := 134) (ls' := [q_A 81, q_I l1, q_I l2, q_I s0, q_I v4, q_I l5]) dX11_tileRow_134 (by decide) (q_pl rfl) rfl ?_
  exact q_weak (w_Mod_tileRow_b136 hN hk26 hk35  h) ⟨Or.inr rfl, Or.inr rfl, Or.inr rfl, Or.inr rfl, Or.inr rfl, Or.inr rfl, trivial⟩
def f_Mod_tileRow_b111 (k26 : Int → Int → Int → Int → q_Mem → q_Res) (k35 : Int → Int → Int → Int → Int → q_Mem → q_Res) (l1 l2 l4 l5 : Int) (m : q_Mem) : q_Res :=
  f_Mod_tileRow_b116 k26 k35 l1 l2 l4 l5 1 m
set_option maxRecDepth 20000 in
theorem w_Mod_tileRow_b111 {k26 : Int → Int → Int → Int → q_Mem → q_Res} {k35 : Int → Int → Int → Int → Int → q_Mem → q_Res} {l1 l2 l4 l5 : Int} {r : Int × q_Mem} {m : q_Mem} {N : Nat} (hN : 126 ≤ N) (hk26 : ∀ (l1 l2 l3 l4 : Int) (m : q_Mem), k26 l1 l2 l3 l4 m = some r → q_E md_X11_tileRow 4 N (some 0) r m 26 [q_A 81, q_I l1, q_I l2, q_I l3, q_I l4, q_N] []) (hk35 : ∀ (l1 l2 l3 l4 l5 : Int) (m : q_Mem), k35 l1 l2 l3 l4 l5 m = some r → q_E md_X11_tileRow 4 N (some 0) r m 35 [q_A 81, q_I l1, q_I l2, q_I l3, q_I l4, q_I l5] []) (h : f_Mod_tileRow_b111 k26 k35 l1 l2 l4 l5 m = some r) : q_E md_X11_tileRow 4 N (some 0) r m 111 [q_A 81, q_I l1, q_I l2, q_N, q_I l4, q_I l5] [] := by
  unfold f_Mod_tileRow_b111 at h
  refine q_iconst (M := md_X11_tileRow) (pc := 111) dX11_tileRow_111 ?_
  refine q_goto (M := md_X11_tileRow) (pc := 112) (tgt := 116) dX11_tileRow_112 (by decide) ?_
  exact q_weak (w_Mod_tileRow_b116 hN hk26 hk35  h) ⟨Or.inr rfl, Or.inr rfl, Or.inr rfl, Or.inl rfl, Or.inr rfl, Or.inr rfl, trivial⟩
def f_Mod_tileRow_b35 (k26 : Int → Int → Int → Int → q_Mem → q_Res) (k35 : Int → Int → Int → Int → Int → q_Mem → q_Res) (l1 l2 l3 l4 l5 : Int) (m : q_Mem) : q_Res :=
  if 100 ≤ q_w l5 then (k26 l1 l2 l3 l4 m)
  else (q_bd (f_Mod_isThere l5 m) fun v1 m2 =>
  if q_w v1 = 0 then (f_Mod_tileRow_b136 k26 k35 l1 l2 l3 l4 l5 m2)
  else (q_bd (f_Mod_tileOf l5 l1 l2 m2) fun v3 m4 =>
  q_rd m4 121 100 v3 fun v5 =>
  if q_w v5 ≤ 0 then (q_bd (f_Mod_tileOf l5 l1 l2 m4) fun v6 m7 =>
  q_bd (f_Mod_tileOf l5 l1 l2 m7) fun v8 m9 =>
  q_bd (f_Mod_tileDepthBy v8 m9) fun v10 m11 =>
  q_wr m11 121 100 v6 v10 fun m12 =>
  if q_w l3 = 0 then (q_bd (f_Mod_tileOf l5 l1 l2 m12) fun v13 m14 =>
  q_rd m14 121 100 v13 fun v15 =>
  if q_w v15 ≤ 0 then (f_Mod_tileRow_b116 k26 k35 l1 l2 l4 l5 0 m14)
  else (f_Mod_tileRow_b111 k26 k35 l1 l2 l4 l5 m14))
  else (f_Mod_tileRow_b111 k26 k35 l1 l2 l4 l5 m12))
  else (f_Mod_tileRow_b136 k26 k35 l1 l2 l3 l4 l5 m4)))
set_option maxRecDepth 20000 in
theorem w_Mod_tileRow_b35 {k26 : Int → Int → Int → Int → q_Mem → q_Res} {k35 : Int → Int → Int → Int → Int → q_Mem → q_Res} {l1 l2 l3 l4 l5 : Int} {r : Int × q_Mem} {m : q_Mem} {N : Nat} (hN : 126 ≤ N) (hk26 : ∀ (l1 l2 l3 l4 : Int) (m : q_Mem), k26 l1 l2 l3 l4 m = some r → q_E md_X11_tileRow 4 N (some 0) r m 26 [q_A 81, q_I l1, q_I l2, q_I l3, q_I l4, q_N] []) (hk35 : ∀ (l1 l2 l3 l4 l5 : Int) (m : q_Mem), k35 l1 l2 l3 l4 l5 m = some r → q_E md_X11_tileRow 4 N (some 0) r m 35 [q_A 81, q_I l1, q_I l2, q_I l3, q_I l4, q_I l5] []) (h : f_Mod_tileRow_b35 k26 k35 l1 l2 l3 l4 l5 m = some r) : q_E md_X11_tileRow 4 N (some 0) r m 35 [q_A 81, q_I l1, q_I l2, q_I l3, q_I l4, q_I l5] [] := by
  unfold f_Mod_tileRow_b35 at h
  refine q_iload (M := md_X11_tileRow) (pc := 35) dX11_tileRow_35 rfl ?_
  refine q_bipush (M := md_X11_tileRow) (pc := 37) (x := 100) dX11_tileRow_37 (by decide) ?_
  refine e_icmp_ge (M := md_X11_tileRow) (pc := 39) (tgt := 142) h rfl (q_wlit rfl) dX11_tileRow_39 (by decide) (fun h => ?_) (fun h => ?_)
  · refine q_goto (M := md_X11_tileRow) (pc := 142) (tgt := 26) dX11_tileRow_142 (by decide) ?_
    exact q_weak (hk26 _ _ _ _ _  h) ⟨Or.inr rfl, Or.inr rfl, Or.inr rfl, Or.inr rfl, Or.inr rfl, Or.inl rfl, trivial⟩
  · refine q_aload_n (M := md_X11_tileRow) (pc := 42) dX11_tileRow_42 rfl (by decide) ?_
    refine q_iload (M := md_X11_tileRow) (pc := 43) dX11_tileRow_43 rfl ?_
    refine e_callVi (M := md_X11_tileRow) (pc := 45) (d' := 3) (av := [q_I l5]) (c := 81) h ml_11_333 im_X11_isThere se_X11_isThere dX11_tileRow_45 (fun v he => ok_X11_isThere hN  he) rfl (is_81 hN) ⟨_, _, rfl⟩ (by decide) (Nat.le_of_ble_eq_true rfl) ⟨by decide, by decide⟩ rfl (fun v1 m2 h => ?_)
    refine e_if_eq (M := md_X11_tileRow) (pc := 48) (tgt := 136) h rfl dX11_tileRow_48 (by decide) (fun h => ?_) (fun h => ?_)
    · exact q_weak (w_Mod_tileRow_b136 hN hk26 hk35  h) ⟨Or.inr rfl, Or.inr rfl, Or.inr rfl, Or.inr rfl, Or.inr rfl, Or.inr rfl, trivial⟩
    · refine q_aload_n (M := md_X11_tileRow) (pc := 51) dX11_tileRow_51 rfl (by decide) ?_
      refine q_getP (M := md_X11_tileRow) (pc := 52) (v := 121) fl_11_133 dX11_tileRow_52 (is_81 hN) rfl ?_
      refine q_iload (M := md_X11_tileRow) (pc := 55) dX11_tileRow_55 rfl ?_
      refine q_iload_n (M := md_X11_tileRow) (pc := 57) dX11_tileRow_57 rfl ?_
      refine q_iload_n (M := md_X11_tileRow) (pc := 58) dX11_tileRow_58 rfl ?_
      refine e_callSi (M := md_X11_tileRow) (pc := 59) (d' := 1) (M' := md_X11_tileOf) (av := [q_I l5, q_I l1, q_I l2]) h ml_11_529 sm_X11_tileOf dX11_tileRow_59 (fun v he => ok_X11_tileOf hN  he) rfl (Nat.le_of_ble_eq_true rfl) ⟨by decide, by decide⟩ rfl (fun v3 m4 h => ?_)
      refine e_rd (M := md_X11_tileRow) (pc := 62) h dX11_tileRow_62 (ar_121 hN) (fun v5 h => ?_)
      refine e_if_le (M := md_X11_tileRow) (pc := 63) (tgt := 69) h rfl dX11_tileRow_63 (by decide) (fun h => ?_) (fun h => ?_)
      · refine q_aload_n (M := md_X11_tileRow) (pc := 69) dX11_tileRow_69 rfl (by decide) ?_
        refine q_getP (M := md_X11_tileRow) (pc := 70) (v := 121) fl_11_133 dX11_tileRow_70 (is_81 hN) rfl ?_
        refine q_iload (M := md_X11_tileRow) (pc := 73) dX11_tileRow_73 rfl ?_
        refine q_iload_n (M := md_X11_tileRow) (pc := 75) dX11_tileRow_75 rfl ?_
        refine q_iload_n (M := md_X11_tileRow) (pc := 76) dX11_tileRow_76 rfl ?_
        refine e_callSi (M := md_X11_tileRow) (pc := 77) (d' := 1) (M' := md_X11_tileOf) (av := [q_I l5, q_I l1, q_I l2]) h ml_11_529 sm_X11_tileOf dX11_tileRow_77 (fun v he => ok_X11_tileOf hN  he) rfl (Nat.le_of_ble_eq_true rfl) ⟨by decide, by decide⟩ rfl (fun v6 m7 h => ?_)
        refine q_aload_n (M := md_X11_tileRow) (pc := 80) dX11_tileRow_80 rfl (by decide) ?_
        refine q_iload (M := md_X11_tileRow) (pc := 81) dX11_tileRow_81 rfl ?_
        refine q_iload_n (M := md_X11_tileRow) (pc := 83) dX11_tileRow_83 rfl ?_
        refine q_iload_n (M := md_X11_tileRow) (pc := 84) dX11_tileRow_84 rfl ?_
        refine e_callSi (M := md_X11_tileRow) (pc := 85) (d' := 1) (M' := md_X11_tileOf) (av := [q_I l5, q_I l1, q_I l2]) h ml_11_529 sm_X11_tileOf dX11_tileRow_85 (fun v he => ok_X11_tileOf hN  he) rfl (Nat.le_of_ble_eq_true rfl) ⟨by decide, by decide⟩ rfl (fun v8 m9 h => ?_)
        refine e_callVi (M := md_X11_tileRow) (pc := 88) (d' := 2) (av := [q_I v8]) (c := 81) h ml_11_532 im_X11_tileDepthBy se_X11_tileDepthBy dX11_tileRow_88 (fun v he => ok_X11_tileDepthBy hN  he) rfl (is_81 hN) ⟨_, _, rfl⟩ (by decide) (Nat.le_of_ble_eq_true rfl) ⟨by decide, by decide⟩ rfl (fun v10 m11 h => ?_)
        refine e_wr (M := md_X11_tileRow) (pc := 91) h dX11_tileRow_91 (ar_121 hN) (fun m12 h => ?_)
        refine q_iload_n (M := md_X11_tileRow) (pc := 92) dX11_tileRow_92 rfl ?_
        refine e_if_ne (M := md_X11_tileRow) (pc := 93) (tgt := 111) h rfl dX11_tileRow_93 (by decide) (fun h => ?_) (fun h => ?_)
        · exact q_weak (w_Mod_tileRow_b111 hN hk26 hk35  h) ⟨Or.inr rfl, Or.inr rfl, Or.inr rfl, Or.inl rfl, Or.inr rfl, Or.inr rfl, trivial⟩
        · refine q_aload_n (M := md_X11_tileRow) (pc := 96) dX11_tileRow_96 rfl (by decide) ?_
          refine q_getP (M := md_X11_tileRow) (pc := 97) (v := 121) fl_11_133 dX11_tileRow_97 (is_81 hN) rfl ?_
          refine q_iload (M := md_X11_tileRow) (pc := 100) dX11_tileRow_100 rfl ?_
          refine q_iload_n (M := md_X11_tileRow) (pc := 102) dX11_tileRow_102 rfl ?_
          refine q_iload_n (M := md_X11_tileRow) (pc := 103) dX11_tileRow_103 rfl ?_
          refine e_callSi (M := md_X11_tileRow) (pc := 104) (d' := 1) (M' := md_X11_tileOf) (av := [q_I l5, q_I l1, q_I l2]) h ml_11_529 sm_X11_tileOf dX11_tileRow_104 (fun v he => ok_X11_tileOf hN  he) rfl (Nat.le_of_ble_eq_true rfl) ⟨by decide, by decide⟩ rfl (fun v13 m14 h => ?_)
          refine e_rd (M := md_X11_tileRow) (pc := 107) h dX11_tileRow_107 (ar_121 hN) (fun v15 h => ?_)
          refine e_if_le (M := md_X11_tileRow) (pc := 108) (tgt := 115) h rfl dX11_tileRow_108 (by decide) (fun h => ?_) (fun h => ?_)
          · refine q_iconst (M := md_X11_tileRow) (pc := 115) dX11_tileRow_115 ?_
            exact q_weak (w_Mod_tileRow_b116 hN hk26 hk35  h) ⟨Or.inr rfl, Or.inr rfl, Or.inr rfl, Or.inl rfl, Or.inr rfl, Or.inr rfl, trivial⟩
          · exact q_weak (w_Mod_tileRow_b111 hN hk26 hk35  h) ⟨Or.inr rfl, Or.inr rfl, Or.inr rfl, Or.inl rfl, Or.inr rfl, Or.inr rfl, trivial⟩
      · refine q_goto (M := md_X11_tileRow) (pc := 66) (tgt := 136) dX11_tileRow_66 (by decide) ?_
        exact q_weak (w_Mod_tileRow_b136 hN hk26 hk35  h) ⟨Or.inr rfl, Or.inr rfl, Or.inr rfl, Or.inr rfl, Or.inr rfl, Or.inr rfl, trivial⟩
def f_Mod_tileRow_l35 (k26 : Int → Int → Int → Int → q_Mem → q_Res) : Nat → Int → Int → Int → Int → Int → q_Mem → q_Res
  | 0 => fun _ _ _ _ _ _ => none
  | n + 1 => fun l1 l2 l3 l4 l5 m => f_Mod_tileRow_b35 k26 (f_Mod_tileRow_l35 k26 n) l1 l2 l3 l4 l5 m
theorem w_Mod_tileRow_l35 {k26 : Int → Int → Int → Int → q_Mem → q_Res} {r : Int × q_Mem} {N : Nat} (hN : 126 ≤ N) (hk26 : ∀ (l1 l2 l3 l4 : Int) (m : q_Mem), k26 l1 l2 l3 l4 m = some r → q_E md_X11_tileRow 4 N (some 0) r m 26 [q_A 81, q_I l1, q_I l2, q_I l3, q_I l4, q_N] []) : ∀ (n : Nat) (l1 l2 l3 l4 l5 : Int) (m : q_Mem), f_Mod_tileRow_l35 k26 n l1 l2 l3 l4 l5 m = some r → q_E md_X11_tileRow 4 N (some 0) r m 35 [q_A 81, q_I l1, q_I l2, q_I l3, q_I l4, q_I l5] [] := by
  intro n
  induction n with
  | zero => intro l1 l2 l3 l4 l5 m h; exact q_no h
  | succ n ih =>
    intro l1 l2 l3 l4 l5 m h
    exact w_Mod_tileRow_b35 hN hk26 (fun l1 l2 l3 l4 l5 m h => ih l1 l2 l3 l4 l5 m h) h
def f_Mod_tileRow_b181 (k148 : Int → Int → Int → Int → q_Mem → q_Res) (l1 l2 l4 l5 : Int) (m : q_Mem) : q_Res :=
  k148 l1 l2 l4 (l5 + 1) m
set_option maxRecDepth 20000 in
theorem w_Mod_tileRow_b181 {k148 : Int → Int → Int → Int → q_Mem → q_Res} {l1 l2 l4 l5 : Int} {r : Int × q_Mem} {m : q_Mem} {N : Nat} (hN : 126 ≤ N) (hk148 : ∀ (l1 l2 l4 l5 : Int) (m : q_Mem), k148 l1 l2 l4 l5 m = some r → q_E md_X11_tileRow 4 N (some 0) r m 148 [q_A 81, q_I l1, q_I l2, q_N, q_I l4, q_I l5] []) (h : f_Mod_tileRow_b181 k148 l1 l2 l4 l5 m = some r) : q_E md_X11_tileRow 4 N (some 0) r m 181 [q_A 81, q_I l1, q_I l2, q_N, q_I l4, q_I l5] [] := by
  unfold f_Mod_tileRow_b181 at h
  refine e_inc (M := md_X11_tileRow) (pc := 181) (x := l5) (ls' := [q_A 81, q_I l1, q_I l2, q_N, q_I l4, q_I (l5 + 1)]) dX11_tileRow_181 rfl (by decide) (q_pl rfl) rfl ?_
  refine q_goto (M := md_X11_tileRow) (pc := 184) (tgt := 148) dX11_tileRow_184 (by decide) ?_
  exact q_weak (hk148 _ _ _ _ _  h) ⟨Or.inr rfl, Or.inr rfl, Or.inr rfl, Or.inl rfl, Or.inr rfl, Or.inr rfl, trivial⟩
def f_Mod_tileRow_b148 (k148 : Int → Int → Int → Int → q_Mem → q_Res) (l1 l2 l4 l5 : Int) (m : q_Mem) : q_Res :=
  if 100 ≤ q_w l5 then (q_rt l4 m)
  else (q_bd (f_Mod_isThere l5 m) fun v1 m2 =>
  if q_w v1 = 0 then (f_Mod_tileRow_b181 k148 l1 l2 l4 l5 m2)
  else (q_bd (f_Mod_tileOf l5 l1 l2 m2) fun v3 m4 =>
  q_rd m4 121 100 v3 fun v5 =>
  if q_w v5 = 0 then (q_rt 0 m4)
  else (f_Mod_tileRow_b181 k148 l1 l2 l4 l5 m4)))
set_option maxRecDepth 20000 in
theorem w_Mod_tileRow_b148 {k148 : Int → Int → Int → Int → q_Mem → q_Res} {l1 l2 l4 l5 : Int} {r : Int × q_Mem} {m : q_Mem} {N : Nat} (hN : 126 ≤ N) (hk148 : ∀ (l1 l2 l4 l5 : Int) (m : q_Mem), k148 l1 l2 l4 l5 m = some r → q_E md_X11_tileRow 4 N (some 0) r m 148 [q_A 81, q_I l1, q_I l2, q_N, q_I l4, q_I l5] []) (h : f_Mod_tileRow_b148 k148 l1 l2 l4 l5 m = some r) : q_E md_X11_tileRow 4 N (some 0) r m 148 [q_A 81, q_I l1, q_I l2, q_N, q_I l4, q_I l5] [] := by
  unfold f_Mod_tileRow_b148 at h
  refine q_iload (M := md_X11_tileRow) (pc := 148) dX11_tileRow_148 rfl ?_
  refine q_bipush (M := md_X11_tileRow) (pc := 150) (x := 100) dX11_tileRow_150 (by decide) ?_
  refine e_icmp_ge (M := md_X11_tileRow) (pc := 152) (tgt := 187) h rfl (q_wlit rfl) dX11_tileRow_152 (by decide) (fun h => ?_) (fun h => ?_)
  · refine q_iload (M := md_X11_tileRow) (pc := 187) dX11_tileRow_187 rfl ?_
    exact e_iret (M := md_X11_tileRow) (pc := 189) h rfl dX11_tileRow_189
  · refine q_aload_n (M := md_X11_tileRow) (pc := 155) dX11_tileRow_155 rfl (by decide) ?_
    refine q_iload (M := md_X11_tileRow) (pc := 156) dX11_tileRow_156 rfl ?_
    refine e_callVi (M := md_X11_tileRow) (pc := 158) (d' := 3) (av := [q_I l5]) (c := 81) h ml_11_333 im_X11_isThere se_X11_isThere dX11_tileRow_158 (fun v he => ok_X11_isThere hN  he) rfl (is_81 hN) ⟨_, _, rfl⟩ (by decide) (Nat.le_of_ble_eq_true rfl) ⟨by decide, by decide⟩ rfl (fun v1 m2 h => ?_)
    refine e_if_eq (M := md_X11_tileRow) (pc := 161) (tgt := 181) h rfl dX11_tileRow_161 (by decide) (fun h => ?_) (fun h => ?_)
    · exact q_weak (w_Mod_tileRow_b181 hN hk148  h) ⟨Or.inr rfl, Or.inr rfl, Or.inr rfl, Or.inl rfl, Or.inr rfl, Or.inr rfl, trivial⟩
    · refine q_aload_n (M := md_X11_tileRow) (pc := 164) dX11_tileRow_164 rfl (by decide) ?_
      refine q_getP (M := md_X11_tileRow) (pc := 165) (v := 121) fl_11_133 dX11_tileRow_165 (is_81 hN) rfl ?_
      refine q_iload (M := md_X11_tileRow) (pc := 168) dX11_tileRow_168 rfl ?_
      refine q_iload_n (M := md_X11_tileRow) (pc := 170) dX11_tileRow_170 rfl ?_
      refine q_iload_n (M := md_X11_tileRow) (pc := 171) dX11_tileRow_171 rfl ?_
      refine e_callSi (M := md_X11_tileRow) (pc := 172) (d' := 1) (M' := md_X11_tileOf) (av := [q_I l5, q_I l1, q_I l2]) h ml_11_529 sm_X11_tileOf dX11_tileRow_172 (fun v he => ok_X11_tileOf hN  he) rfl (Nat.le_of_ble_eq_true rfl) ⟨by decide, by decide⟩ rfl (fun v3 m4 h => ?_)
      refine e_rd (M := md_X11_tileRow) (pc := 175) h dX11_tileRow_175 (ar_121 hN) (fun v5 h => ?_)
      refine e_if_ne (M := md_X11_tileRow) (pc := 176) (tgt := 181) h rfl dX11_tileRow_176 (by decide) (fun h => ?_) (fun h => ?_)
      · exact q_weak (w_Mod_tileRow_b181 hN hk148  h) ⟨Or.inr rfl, Or.inr rfl, Or.inr rfl, Or.inl rfl, Or.inr rfl, Or.inr rfl, trivial⟩
      · refine q_iconst (M := md_X11_tileRow) (pc := 179) dX11_tileRow_179 ?_
        exact e_iret (M := md_X11_tileRow) (pc := 180) h rfl dX11_tileRow_180
def f_Mod_tileRow_l148 : Nat → Int → Int → Int → Int → q_Mem → q_Res
  | 0 => fun _ _ _ _ _ => none
  | n + 1 => fun l1 l2 l4 l5 m => f_Mod_tileRow_b148 (f_Mod_tileRow_l148 n) l1 l2 l4 l5 m
theorem w_Mod_tileRow_l148 {r : Int × q_Mem} {N : Nat} (hN : 126 ≤ N) : ∀ (n : Nat) (l1 l2 l4 l5 : Int) (m : q_Mem), f_Mod_tileRow_l148 n l1 l2 l4 l5 m = some r → q_E md_X11_tileRow 4 N (some 0) r m 148 [q_A 81, q_I l1, q_I l2, q_N, q_I l4, q_I l5] [] := by
  intro n
  induction n with
  | zero => intro l1 l2 l4 l5 m h; exact q_no h
  | succ n ih =>
    intro l1 l2 l4 l5 m h
    exact w_Mod_tileRow_b148 hN (fun l1 l2 l4 l5 m h => ih l1 l2 l4 l5 m h) h
def f_Mod_tileRow_b26 (k26 : Int → Int → Int → Int → q_Mem → q_Res) (l1 l2 l3 l4 : Int) (m : q_Mem) : q_Res :=
  if q_w l3 = 0 then (f_Mod_tileRow_l148 q_F l1 l2 l4 0 m)
  else (f_Mod_tileRow_l35 k26 q_F l1 l2 0 l4 0 m)
set_option maxRecDepth 20000 in
theorem w_Mod_tileRow_b26 {k26 : Int → Int → Int → Int → q_Mem → q_Res} {l1 l2 l3 l4 : Int} {r : Int × q_Mem} {m : q_Mem} {N : Nat} (hN : 126 ≤ N) (hk26 : ∀ (l1 l2 l3 l4 : Int) (m : q_Mem), k26 l1 l2 l3 l4 m = some r → q_E md_X11_tileRow 4 N (some 0) r m 26 [q_A 81, q_I l1, q_I l2, q_I l3, q_I l4, q_N] []) (h : f_Mod_tileRow_b26 k26 l1 l2 l3 l4 m = some r) : q_E md_X11_tileRow 4 N (some 0) r m 26 [q_A 81, q_I l1, q_I l2, q_I l3, q_I l4, q_N] [] := by
  unfold f_Mod_tileRow_b26 at h
  refine q_iload_n (M := md_X11_tileRow) (pc := 26) dX11_tileRow_26 rfl ?_
  refine e_if_eq (M := md_X11_tileRow) (pc := 27) (tgt := 145) h rfl dX11_tileRow_27 (by decide) (fun h => ?_) (fun h => ?_)
  · refine q_iconst (M := md_X11_tileRow) (pc := 145) dX11_tileRow_145 ?_
    refine e_ist (M := md_X11_tileRow) (pc := 146) (ls' := [q_A 81, q_I l1, q_I l2, q_I l3, q_I l4, q_I 0]) dX11_tileRow_146 (by decide) (q_pl rfl) rfl ?_
    exact q_weak (w_Mod_tileRow_l148 hN q_F _ _ _ _ _  h) ⟨Or.inr rfl, Or.inr rfl, Or.inr rfl, Or.inl rfl, Or.inr rfl, Or.inr rfl, trivial⟩
  · refine q_iconst (M := md_X11_tileRow) (pc := 30) dX11_tileRow_30 ?_
    refine e_ist_n (M := md_X11_tileRow) (pc := 31) (ls' := [q_A 81, q_I l1, q_I l2, q_I 0, q_I l4, q_N]) dX11_tileRow_31 (by decide) (q_pl rfl) rfl ?_
    refine q_iconst (M := md_X11_tileRow) (pc := 32) dX11_tileRow_32 ?_
    refine e_ist (M := md_X11_tileRow) (pc := 33) (ls' := [q_A 81, q_I l1, q_I l2, q_I 0, q_I l4, q_I 0]) dX11_tileRow_33 (by decide) (q_pl rfl) rfl ?_
    exact q_weak (w_Mod_tileRow_l35 hN hk26 q_F _ _ _ _ _ _  h) ⟨Or.inr rfl, Or.inr rfl, Or.inr rfl, Or.inr rfl, Or.inr rfl, Or.inr rfl, trivial⟩
def f_Mod_tileRow_l26 : Nat → Int → Int → Int → Int → q_Mem → q_Res
  | 0 => fun _ _ _ _ _ => none
  | n + 1 => fun l1 l2 l3 l4 m => f_Mod_tileRow_b26 (f_Mod_tileRow_l26 n) l1 l2 l3 l4 m
theorem w_Mod_tileRow_l26 {r : Int × q_Mem} {N : Nat} (hN : 126 ≤ N) : ∀ (n : Nat) (l1 l2 l3 l4 : Int) (m : q_Mem), f_Mod_tileRow_l26 n l1 l2 l3 l4 m = some r → q_E md_X11_tileRow 4 N (some 0) r m 26 [q_A 81, q_I l1, q_I l2, q_I l3, q_I l4, q_N] [] := by
  intro n
  induction n with
  | zero => intro l1 l2 l3 l4 m h; exact q_no h
  | succ n ih =>
    intro l1 l2 l3 l4 m h
    exact w_Mod_tileRow_b26 hN (fun l1 l2 l3 l4 m h => ih l1 l2 l3 l4 m h) h
def f_Mod_tileRow_b2 (k2 : Int → Int → Int → q_Mem → q_Res) (l1 l2 l3 : Int) (m : q_Mem) : q_Res :=
  if 100 ≤ q_w l3 then (f_Mod_tileRow_l26 q_F l1 l2 1 0 m)
  else (q_wr m 121 100 l3 0 fun m1 =>
  k2 l1 l2 (l3 + 1) m1)
set_option maxRecDepth 20000 in
theorem w_Mod_tileRow_b2 {k2 : Int → Int → Int → q_Mem → q_Res} {l1 l2 l3 : Int} {r : Int × q_Mem} {m : q_Mem} {N : Nat} (hN : 126 ≤ N) (hk2 : ∀ (l1 l2 l3 : Int) (m : q_Mem), k2 l1 l2 l3 m = some r → q_E md_X11_tileRow 4 N (some 0) r m 2 [q_A 81, q_I l1, q_I l2, q_I l3, q_N, q_N] []) (h : f_Mod_tileRow_b2 k2 l1 l2 l3 m = some r) : q_E md_X11_tileRow 4 N (some 0) r m 2 [q_A 81, q_I l1, q_I l2, q_I l3, q_N, q_N] [] := by
  unfold f_Mod_tileRow_b2 at h
  refine q_iload_n (M := md_X11_tileRow) (pc := 2) dX11_tileRow_2 rfl ?_
  refine q_bipush (M := md_X11_tileRow) (pc := 3) (x := 100) dX11_tileRow_3 (by decide) ?_
  refine e_icmp_ge (M := md_X11_tileRow) (pc := 5) (tgt := 21) h rfl (q_wlit rfl) dX11_tileRow_5 (by decide) (fun h => ?_) (fun h => ?_)
  · refine q_iconst (M := md_X11_tileRow) (pc := 21) dX11_tileRow_21 ?_
    refine e_ist_n (M := md_X11_tileRow) (pc := 22) (ls' := [q_A 81, q_I l1, q_I l2, q_I 1, q_N, q_N]) dX11_tileRow_22 (by decide) (q_pl rfl) rfl ?_
    refine q_iconst (M := md_X11_tileRow) (pc := 23) dX11_tileRow_23 ?_
    refine e_ist (M := md_X11_tileRow) (pc := 24) (ls' := [q_A 81, q_I l1, q_I l2, q_I 1, q_I 0, q_N]) dX11_tileRow_24 (by decide) (q_pl rfl) rfl ?_
    exact q_weak (w_Mod_tileRow_l26 hN q_F _ _ _ _ _  h) ⟨Or.inr rfl, Or.inr rfl, Or.inr rfl, Or.inr rfl, Or.inr rfl, Or.inl rfl, trivial⟩
  · refine q_aload_n (M := md_X11_tileRow) (pc := 8) dX11_tileRow_8 rfl (by decide) ?_
    refine q_getP (M := md_X11_tileRow) (pc := 9) (v := 121) fl_11_133 dX11_tileRow_9 (is_81 hN) rfl ?_
    refine q_iload_n (M := md_X11_tileRow) (pc := 12) dX11_tileRow_12 rfl ?_
    refine q_iconst (M := md_X11_tileRow) (pc := 13) dX11_tileRow_13 ?_
    refine e_wr (M := md_X11_tileRow) (pc := 14) h dX11_tileRow_14 (ar_121 hN) (fun m1 h => ?_)
    refine e_inc (M := md_X11_tileRow) (pc := 15) (x := l3) (ls' := [q_A 81, q_I l1, q_I l2, q_I (l3 + 1), q_N, q_N]) dX11_tileRow_15 rfl (by decide) (q_pl rfl) rfl ?_
    refine q_goto (M := md_X11_tileRow) (pc := 18) (tgt := 2) dX11_tileRow_18 (by decide) ?_
    exact q_weak (hk2 _ _ _ _  h) ⟨Or.inr rfl, Or.inr rfl, Or.inr rfl, Or.inr rfl, Or.inl rfl, Or.inl rfl, trivial⟩
def f_Mod_tileRow_l2 : Nat → Int → Int → Int → q_Mem → q_Res
  | 0 => fun _ _ _ _ => none
  | n + 1 => fun l1 l2 l3 m => f_Mod_tileRow_b2 (f_Mod_tileRow_l2 n) l1 l2 l3 m
theorem w_Mod_tileRow_l2 {r : Int × q_Mem} {N : Nat} (hN : 126 ≤ N) : ∀ (n : Nat) (l1 l2 l3 : Int) (m : q_Mem), f_Mod_tileRow_l2 n l1 l2 l3 m = some r → q_E md_X11_tileRow 4 N (some 0) r m 2 [q_A 81, q_I l1, q_I l2, q_I l3, q_N, q_N] [] := by
  intro n
  induction n with
  | zero => intro l1 l2 l3 m h; exact q_no h
  | succ n ih =>
    intro l1 l2 l3 m h
    exact w_Mod_tileRow_b2 hN (fun l1 l2 l3 m h => ih l1 l2 l3 m h) h
def f_Mod_tileRow (l1 l2 : Int) (m : q_Mem) : q_Res :=
  f_Mod_tileRow_l2 q_F l1 l2 0 m
set_option maxRecDepth 20000 in
theorem ok_X11_tileRow {l1 l2 : Int} {r : Int × q_Mem} {m : q_Mem} {N : Nat} (hN : 126 ≤ N) (h : f_Mod_tileRow l1 l2 m = some r) : q_C md_X11_tileRow (q_room 4) 0 0 [q_A 81, q_I l1, q_I l2] (q_g N) m (some (q_I r.1), q_g N, r.2) := by
  refine q_ofR (by decide) 3 (ls := [q_A 81, q_I l1, q_I l2, q_N, q_N, q_N]) rfl (Nat.le_of_ble_eq_true rfl) ?_
  change q_E md_X11_tileRow 4 N (some 0) r m 0 [q_A 81, q_I l1, q_I l2, q_N, q_N, q_N] []
  unfold f_Mod_tileRow at h
  refine q_iconst (M := md_X11_tileRow) (pc := 0) dX11_tileRow_0 ?_
  refine e_ist_n (M := md_X11_tileRow) (pc := 1) (ls' := [q_A 81, q_I l1, q_I l2, q_I 0, q_N, q_N]) dX11_tileRow_1 (by decide) (q_pl rfl) rfl ?_
  exact q_weak (w_Mod_tileRow_l2 hN q_F _ _ _ _  h) ⟨Or.inr rfl, Or.inr rfl, Or.inr rfl, Or.inr rfl, Or.inl rfl, Or.inl rfl, trivial⟩
def f_Mod_tiles (l1 l2 l3 : Int) (m : q_Mem) : q_Res :=
  q_bd (f_Mod_isIn l1 1 10 m) fun v1 m2 =>
  if q_w v1 = 0 then (q_rt (-1) m2)
  else (q_bd (f_Mod_isIn l2 1 10 m2) fun v3 m4 =>
  if q_w v3 = 0 then (q_rt (-1) m4)
  else (q_bd (f_Mod_isIn l3 0 3 m4) fun v5 m6 =>
  if q_w v5 = 0 then (q_rt (-1) m6)
  else (q_bd (f_Mod_layTiles l1 l2 m6) fun v7 m8 =>
  q_bd (f_Mod_tileRow l1 l2 m8) fun v9 m10 =>
  if q_w l3 = 0 then (q_bd (f_Mod_tileMany l1 l2 m10) fun v11 m12 =>
  q_rt v11 m12)
  else (if q_w l3 = 1 then (q_rt v7 m10)
  else (if q_w l3 = 2 then (if q_w v9 ≤ 0 then (q_rt 0 m10)
  else (q_rt 1 m10))
  else (q_rt v9 m10))))))
set_option maxRecDepth 20000 in
theorem ok_X11_tiles {l1 l2 l3 : Int} {r : Int × q_Mem} {m : q_Mem} {N : Nat} (hN : 126 ≤ N) (h : f_Mod_tiles l1 l2 l3 m = some r) : q_C md_X11_tiles (q_room 5) 0 0 [q_A 81, q_I l1, q_I l2, q_I l3] (q_g N) m (some (q_I r.1), q_g N, r.2) := by
  refine q_ofR (by decide) 2 (ls := [q_A 81, q_I l1, q_I l2, q_I l3, q_N, q_N]) rfl (Nat.le_of_ble_eq_true rfl) ?_
  change q_E md_X11_tiles 5 N (some 0) r m 0 [q_A 81, q_I l1, q_I l2, q_I l3, q_N, q_N] []
  unfold f_Mod_tiles at h
  refine q_iload_n (M := md_X11_tiles) (pc := 0) dX11_tiles_0 rfl ?_
  refine q_iconst (M := md_X11_tiles) (pc := 1) dX11_tiles_1 ?_
  refine q_bipush (M := md_X11_tiles) (pc := 2) (x := 10) dX11_tiles_2 (by decide) ?_
  refine e_callSi (M := md_X11_tiles) (pc := 4) (d' := 1) (M' := md_X11_isIn) (av := [q_I l1, q_I 1, q_I 10]) h ml_11_221 sm_X11_isIn dX11_tiles_4 (fun v he => ok_X11_isIn hN  he) rfl (Nat.le_of_ble_eq_true rfl) ⟨by decide, by decide⟩ rfl (fun v1 m2 h => ?_)
  refine e_if_eq (M := md_X11_tiles) (pc := 7) (tgt := 29) h rfl dX11_tiles_7 (by decide) (fun h => ?_) (fun h => ?_)
  · refine q_iconst (M := md_X11_tiles) (pc := 29) dX11_tiles_29 ?_
    exact e_iret (M := md_X11_tiles) (pc := 30) h rfl dX11_tiles_30
  · refine q_iload_n (M := md_X11_tiles) (pc := 10) dX11_tiles_10 rfl ?_
    refine q_iconst (M := md_X11_tiles) (pc := 11) dX11_tiles_11 ?_
    refine q_bipush (M := md_X11_tiles) (pc := 12) (x := 10) dX11_tiles_12 (by decide) ?_
    refine e_callSi (M := md_X11_tiles) (pc := 14) (d' := 1) (M' := md_X11_isIn) (av := [q_I l2, q_I 1, q_I 10]) h ml_11_221 sm_X11_isIn dX11_tiles_14 (fun v he => ok_X11_isIn hN  he) rfl (Nat.le_of_ble_eq_true rfl) ⟨by decide, by decide⟩ rfl (fun v3 m4 h => ?_)
    refine e_if_eq (M := md_X11_tiles) (pc := 17) (tgt := 29) h rfl dX11_tiles_17 (by decide) (fun h => ?_) (fun h => ?_)
    · refine q_iconst (M := md_X11_tiles) (pc := 29) dX11_tiles_29 ?_
      exact e_iret (M := md_X11_tiles) (pc := 30) h rfl dX11_tiles_30
    · refine q_iload_n (M := md_X11_tiles) (pc := 20) dX11_tiles_20 rfl ?_
      refine q_iconst (M := md_X11_tiles) (pc := 21) dX11_tiles_21 ?_
      refine q_iconst (M := md_X11_tiles) (pc := 22) dX11_tiles_22 ?_
      refine e_callSi (M := md_X11_tiles) (pc := 23) (d' := 1) (M' := md_X11_isIn) (av := [q_I l3, q_I 0, q_I 3]) h ml_11_221 sm_X11_isIn dX11_tiles_23 (fun v he => ok_X11_isIn hN  he) rfl (Nat.le_of_ble_eq_true rfl) ⟨by decide, by decide⟩ rfl (fun v5 m6 h => ?_)
      refine e_if_ne (M := md_X11_tiles) (pc := 26) (tgt := 31) h rfl dX11_tiles_26 (by decide) (fun h => ?_) (fun h => ?_)
      · refine q_aload_n (M := md_X11_tiles) (pc := 31) dX11_tiles_31 rfl (by decide) ?_
        refine q_iload_n (M := md_X11_tiles) (pc := 32) dX11_tiles_32 rfl ?_
        refine q_iload_n (M := md_X11_tiles) (pc := 33) dX11_tiles_33 rfl ?_
        refine e_callVi (M := md_X11_tiles) (pc := 34) (d' := 4) (av := [q_I l1, q_I l2]) (c := 81) h ml_11_535 im_X11_layTiles se_X11_layTiles dX11_tiles_34 (fun v he => ok_X11_layTiles hN  he) rfl (is_81 hN) ⟨_, _, rfl⟩ (by decide) (Nat.le_of_ble_eq_true rfl) ⟨by decide, by decide⟩ rfl (fun v7 m8 h => ?_)
        refine e_ist (M := md_X11_tiles) (pc := 37) (ls' := [q_A 81, q_I l1, q_I l2, q_I l3, q_I v7, q_N]) dX11_tiles_37 (by decide) (q_pl rfl) rfl ?_
        refine q_aload_n (M := md_X11_tiles) (pc := 39) dX11_tiles_39 rfl (by decide) ?_
        refine q_iload_n (M := md_X11_tiles) (pc := 40) dX11_tiles_40 rfl ?_
        refine q_iload_n (M := md_X11_tiles) (pc := 41) dX11_tiles_41 rfl ?_
        refine e_callVi (M := md_X11_tiles) (pc := 42) (d' := 4) (av := [q_I l1, q_I l2]) (c := 81) h ml_11_538 im_X11_tileRow se_X11_tileRow dX11_tiles_42 (fun v he => ok_X11_tileRow hN  he) rfl (is_81 hN) ⟨_, _, rfl⟩ (by decide) (Nat.le_of_ble_eq_true rfl) ⟨by decide, by decide⟩ rfl (fun v9 m10 h => ?_)
        refine e_ist (M := md_X11_tiles) (pc := 45) (ls' := [q_A 81, q_I l1, q_I l2, q_I l3, q_I v7, q_I v9]) dX11_tiles_45 (by decide) (q_pl rfl) rfl ?_
        refine q_iload_n (M := md_X11_tiles) (pc := 47) dX11_tiles_47 rfl ?_
        refine e_if_ne (M := md_X11_tiles) (pc := 48) (tgt := 60) h rfl dX11_tiles_48 (by decide) (fun h => ?_) (fun h => ?_)
        · refine q_iload_n (M := md_X11_tiles) (pc := 60) dX11_tiles_60 rfl ?_
          refine q_iconst (M := md_X11_tiles) (pc := 61) dX11_tiles_61 ?_
          refine e_icmp_ne (M := md_X11_tiles) (pc := 62) (tgt := 70) h rfl (q_wlit rfl) dX11_tiles_62 (by decide) (fun h => ?_) (fun h => ?_)
          · refine q_iload_n (M := md_X11_tiles) (pc := 70) dX11_tiles_70 rfl ?_
            refine q_iconst (M := md_X11_tiles) (pc := 71) dX11_tiles_71 ?_
            refine e_icmp_ne (M := md_X11_tiles) (pc := 72) (tgt := 88) h rfl (q_wlit rfl) dX11_tiles_72 (by decide) (fun h => ?_) (fun h => ?_)
            · refine q_iload (M := md_X11_tiles) (pc := 88) dX11_tiles_88 rfl ?_
              exact e_iret (M := md_X11_tiles) (pc := 90) h rfl dX11_tiles_90
            · refine q_iload (M := md_X11_tiles) (pc := 75) dX11_tiles_75 rfl ?_
              refine e_if_le (M := md_X11_tiles) (pc := 77) (tgt := 84) h rfl dX11_tiles_77 (by decide) (fun h => ?_) (fun h => ?_)
              · refine q_iconst (M := md_X11_tiles) (pc := 84) dX11_tiles_84 ?_
                refine q_goto (M := md_X11_tiles) (pc := 85) (tgt := 90) dX11_tiles_85 (by decide) ?_
                exact e_iret (M := md_X11_tiles) (pc := 90) h rfl dX11_tiles_90
              · refine q_iconst (M := md_X11_tiles) (pc := 80) dX11_tiles_80 ?_
                refine q_goto (M := md_X11_tiles) (pc := 81) (tgt := 90) dX11_tiles_81 (by decide) ?_
                exact e_iret (M := md_X11_tiles) (pc := 90) h rfl dX11_tiles_90
          · refine q_iload (M := md_X11_tiles) (pc := 65) dX11_tiles_65 rfl ?_
            refine q_goto (M := md_X11_tiles) (pc := 67) (tgt := 90) dX11_tiles_67 (by decide) ?_
            exact e_iret (M := md_X11_tiles) (pc := 90) h rfl dX11_tiles_90
        · refine q_aload_n (M := md_X11_tiles) (pc := 51) dX11_tiles_51 rfl (by decide) ?_
          refine q_iload_n (M := md_X11_tiles) (pc := 52) dX11_tiles_52 rfl ?_
          refine q_iload_n (M := md_X11_tiles) (pc := 53) dX11_tiles_53 rfl ?_
          refine e_callVi (M := md_X11_tiles) (pc := 54) (d' := 2) (av := [q_I l1, q_I l2]) (c := 81) h ml_11_541 im_X11_tileMany se_X11_tileMany dX11_tiles_54 (fun v he => ok_X11_tileMany hN  he) rfl (is_81 hN) ⟨_, _, rfl⟩ (by decide) (Nat.le_of_ble_eq_true rfl) ⟨by decide, by decide⟩ rfl (fun v11 m12 h => ?_)
          refine q_goto (M := md_X11_tiles) (pc := 57) (tgt := 90) dX11_tiles_57 (by decide) ?_
          exact e_iret (M := md_X11_tiles) (pc := 90) h rfl dX11_tiles_90
      · refine q_iconst (M := md_X11_tiles) (pc := 29) dX11_tiles_29 ?_
        exact e_iret (M := md_X11_tiles) (pc := 30) h rfl dX11_tiles_30
def f_Mod_tiling_b81 (k27 : Int → Int → Int → q_Mem → q_Res) (k36 : Int → Int → Int → Int → q_Mem → q_Res) (l1 l2 l3 l4 : Int) (m : q_Mem) : q_Res :=
  k36 l1 l2 l3 (l4 + 1) m
set_option maxRecDepth 20000 in
theorem w_Mod_tiling_b81 {k27 : Int → Int → Int → q_Mem → q_Res} {k36 : Int → Int → Int → Int → q_Mem → q_Res} {l1 l2 l3 l4 : Int} {r : Int × q_Mem} {m : q_Mem} {N : Nat} (hN : 126 ≤ N) (hk27 : ∀ (l1 l2 l3 : Int) (m : q_Mem), k27 l1 l2 l3 m = some r → q_E md_X11_tiling 5 N (some 0) r m 27 [q_A 81, q_I l1, q_I l2, q_I l3, q_N, q_N] []) (hk36 : ∀ (l1 l2 l3 l4 : Int) (m : q_Mem), k36 l1 l2 l3 l4 m = some r → q_E md_X11_tiling 5 N (some 0) r m 36 [q_A 81, q_I l1, q_I l2, q_I l3, q_I l4, q_N] []) (h : f_Mod_tiling_b81 k27 k36 l1 l2 l3 l4 m = some r) : q_E md_X11_tiling 5 N (some 0) r m 81 [q_A 81, q_I l1, q_I l2, q_I l3, q_I l4, q_N] [] := by
  unfold f_Mod_tiling_b81 at h
  refine e_inc (M := md_X11_tiling) (pc := 81) (x := l4) (ls' := [q_A 81, q_I l1, q_I l2, q_I l3, q_I (l4 + 1), q_N]) dX11_tiling_81 rfl (by decide) (q_pl rfl) rfl ?_
  refine q_goto (M := md_X11_tiling) (pc := 84) (tgt := 36) dX11_tiling_84 (by decide) ?_
  exact q_weak (hk36 _ _ _ _ _  h) ⟨Or.inr rfl, Or.inr rfl, Or.inr rfl, Or.inr rfl, Or.inr rfl, Or.inl rfl, trivial⟩
def f_Mod_tiling_b87 (k27 : Int → Int → Int → q_Mem → q_Res) (l1 l2 l3 : Int) (m : q_Mem) : q_Res :=
  k27 l1 l2 (l3 + 1) m
set_option maxRecDepth 20000 in
theorem w_Mod_tiling_b87 {k27 : Int → Int → Int → q_Mem → q_Res} {l1 l2 l3 : Int} {r : Int × q_Mem} {m : q_Mem} {N : Nat} (hN : 126 ≤ N) (hk27 : ∀ (l1 l2 l3 : Int) (m : q_Mem), k27 l1 l2 l3 m = some r → q_E md_X11_tiling 5 N (some 0) r m 27 [q_A 81, q_I l1, q_I l2, q_I l3, q_N, q_N] []) (h : f_Mod_tiling_b87 k27 l1 l2 l3 m = some r) : q_E md_X11_tiling 5 N (some 0) r m 87 [q_A 81, q_I l1, q_I l2, q_I l3, q_N, q_N] [] := by
  unfold f_Mod_tiling_b87 at h
  refine e_inc (M := md_X11_tiling) (pc := 87) (x := l3) (ls' := [q_A 81, q_I l1, q_I l2, q_I (l3 + 1), q_N, q_N]) dX11_tiling_87 rfl (by decide) (q_pl rfl) rfl ?_
  refine q_goto (M := md_X11_tiling) (pc := 90) (tgt := 27) dX11_tiling_90 (by decide) ?_
  exact q_weak (hk27 _ _ _ _  h) ⟨Or.inr rfl, Or.inr rfl, Or.inr rfl, Or.inr rfl, Or.inl rfl, Or.inl rfl, trivial⟩
def f_Mod_tiling_b36 (k27 : Int → Int → Int → q_Mem → q_Res) (k36 : Int → Int → Int → Int → q_Mem → q_Res) (l1 l2 l3 l4 : Int) (m : q_Mem) : q_Res :=
  if 10 < q_w l4 then (f_Mod_tiling_b87 k27 l1 l2 l3 m)
  else (if q_w l1 < q_w (l3 * l4) then (f_Mod_tiling_b87 k27 l1 l2 l3 m)
  else (q_bd (f_Mod_layTiles l3 l4 m) fun v1 m2 =>
  q_bd (f_Mod_tileRow l3 l4 m2) fun v3 m4 =>
  if q_w v3 ≤ 0 then (f_Mod_tiling_b81 k27 k36 l1 l2 l3 l4 m4)
  else (q_bd (f_Mod_weigh v1 l3 l4 0 0 m4) fun _ m5 =>
  f_Mod_tiling_b81 k27 k36 l1 l2 l3 l4 m5)))
set_option maxRecDepth 20000 in
theorem w_Mod_tiling_b36 {k27 : Int → Int → Int → q_Mem → q_Res} {k36 : Int → Int → Int → Int → q_Mem → q_Res} {l1 l2 l3 l4 : Int} {r : Int × q_Mem} {m : q_Mem} {N : Nat} (hN : 126 ≤ N) (hk27 : ∀ (l1 l2 l3 : Int) (m : q_Mem), k27 l1 l2 l3 m = some r → q_E md_X11_tiling 5 N (some 0) r m 27 [q_A 81, q_I l1, q_I l2, q_I l3, q_N, q_N] []) (hk36 : ∀ (l1 l2 l3 l4 : Int) (m : q_Mem), k36 l1 l2 l3 l4 m = some r → q_E md_X11_tiling 5 N (some 0) r m 36 [q_A 81, q_I l1, q_I l2, q_I l3, q_I l4, q_N] []) (h : f_Mod_tiling_b36 k27 k36 l1 l2 l3 l4 m = some r) : q_E md_X11_tiling 5 N (some 0) r m 36 [q_A 81, q_I l1, q_I l2, q_I l3, q_I l4, q_N] [] := by
  unfold f_Mod_tiling_b36 at h
  refine q_iload (M := md_X11_tiling) (pc := 36) dX11_tiling_36 rfl ?_
  refine q_bipush (M := md_X11_tiling) (pc := 38) (x := 10) dX11_tiling_38 (by decide) ?_
  refine e_icmp_gt (M := md_X11_tiling) (pc := 40) (tgt := 87) h rfl (q_wlit rfl) dX11_tiling_40 (by decide) (fun h => ?_) (fun h => ?_)
  · exact q_weak (w_Mod_tiling_b87 hN hk27  h) ⟨Or.inr rfl, Or.inr rfl, Or.inr rfl, Or.inr rfl, Or.inl rfl, Or.inl rfl, trivial⟩
  · refine q_iload_n (M := md_X11_tiling) (pc := 43) dX11_tiling_43 rfl ?_
    refine q_iload (M := md_X11_tiling) (pc := 44) dX11_tiling_44 rfl ?_
    refine q_imul (M := md_X11_tiling) (pc := 46) dX11_tiling_46 ?_
    refine q_iload_n (M := md_X11_tiling) (pc := 47) dX11_tiling_47 rfl ?_
    refine e_icmp_gt (M := md_X11_tiling) (pc := 48) (tgt := 87) h rfl rfl dX11_tiling_48 (by decide) (fun h => ?_) (fun h => ?_)
    · exact q_weak (w_Mod_tiling_b87 hN hk27  h) ⟨Or.inr rfl, Or.inr rfl, Or.inr rfl, Or.inr rfl, Or.inl rfl, Or.inl rfl, trivial⟩
    · refine q_aload_n (M := md_X11_tiling) (pc := 51) dX11_tiling_51 rfl (by decide) ?_
      refine q_iload_n (M := md_X11_tiling) (pc := 52) dX11_tiling_52 rfl ?_
      refine q_iload (M := md_X11_tiling) (pc := 53) dX11_tiling_53 rfl ?_
      refine e_callVi (M := md_X11_tiling) (pc := 55) (d' := 4) (av := [q_I l3, q_I l4]) (c := 81) h ml_11_535 im_X11_layTiles se_X11_layTiles dX11_tiling_55 (fun v he => ok_X11_layTiles hN  he) rfl (is_81 hN) ⟨_, _, rfl⟩ (by decide) (Nat.le_of_ble_eq_true rfl) ⟨by decide, by decide⟩ rfl (fun v1 m2 h => ?_)
      refine e_ist (M := md_X11_tiling) (pc := 58) (ls' := [q_A 81, q_I l1, q_I l2, q_I l3, q_I l4, q_I v1]) dX11_tiling_58 (by decide) (q_pl rfl) rfl ?_
      refine q_aload_n (M := md_X11_tiling) (pc := 60) dX11_tiling_60 rfl (by decide) ?_
      refine q_iload_n (M := md_X11_tiling) (pc := 61) dX11_tiling_61 rfl ?_
      refine q_iload (M := md_X11_tiling) (pc := 62) dX11_tiling_62 rfl ?_
      refine e_callVi (M := md_X11_tiling) (pc := 64) (d' := 4) (av := [q_I l3, q_I l4]) (c := 81) h ml_11_538 im_X11_tileRow se_X11_tileRow dX11_tiling_64 (fun v he => ok_X11_tileRow hN  he) rfl (is_81 hN) ⟨_, _, rfl⟩ (by decide) (Nat.le_of_ble_eq_true rfl) ⟨by decide, by decide⟩ rfl (fun v3 m4 h => ?_)
      refine e_if_le (M := md_X11_tiling) (pc := 67) (tgt := 81) h rfl dX11_tiling_67 (by decide) (fun h => ?_) (fun h => ?_)
      · exact q_weak (w_Mod_tiling_b81 hN hk27 hk36  h) ⟨Or.inr rfl, Or.inr rfl, Or.inr rfl, Or.inr rfl, Or.inr rfl, Or.inl rfl, trivial⟩
      · refine q_aload_n (M := md_X11_tiling) (pc := 70) dX11_tiling_70 rfl (by decide) ?_
        refine q_iload (M := md_X11_tiling) (pc := 71) dX11_tiling_71 rfl ?_
        refine q_iload_n (M := md_X11_tiling) (pc := 73) dX11_tiling_73 rfl ?_
        refine q_iload (M := md_X11_tiling) (pc := 74) dX11_tiling_74 rfl ?_
        refine q_iconst (M := md_X11_tiling) (pc := 76) dX11_tiling_76 ?_
        refine q_iconst (M := md_X11_tiling) (pc := 77) dX11_tiling_77 ?_
        refine e_callVv (M := md_X11_tiling) (pc := 78) (d' := 1) (av := [q_I v1, q_I l3, q_I l4, q_I 0, q_I 0]) (c := 81) h ml_11_515 im_X11_weigh se_X11_weigh dX11_tiling_78 (fun v he => ok_X11_weigh hN  he) rfl (is_81 hN) ⟨_, _, rfl⟩ (by decide) (Nat.le_of_ble_eq_true rfl) ⟨by decide, by decide⟩ rfl (fun _ m5 h => ?_)
        exact q_weak (w_Mod_tiling_b81 hN hk27 hk36  h) ⟨Or.inr rfl, Or.inr rfl, Or.inr rfl, Or.inr rfl, Or.inr rfl, Or.inl rfl, trivial⟩
def f_Mod_tiling_l36 (k27 : Int → Int → Int → q_Mem → q_Res) : Nat → Int → Int → Int → Int → q_Mem → q_Res
  | 0 => fun _ _ _ _ _ => none
  | n + 1 => fun l1 l2 l3 l4 m => f_Mod_tiling_b36 k27 (f_Mod_tiling_l36 k27 n) l1 l2 l3 l4 m
theorem w_Mod_tiling_l36 {k27 : Int → Int → Int → q_Mem → q_Res} {r : Int × q_Mem} {N : Nat} (hN : 126 ≤ N) (hk27 : ∀ (l1 l2 l3 : Int) (m : q_Mem), k27 l1 l2 l3 m = some r → q_E md_X11_tiling 5 N (some 0) r m 27 [q_A 81, q_I l1, q_I l2, q_I l3, q_N, q_N] []) : ∀ (n : Nat) (l1 l2 l3 l4 : Int) (m : q_Mem), f_Mod_tiling_l36 k27 n l1 l2 l3 l4 m = some r → q_E md_X11_tiling 5 N (some 0) r m 36 [q_A 81, q_I l1, q_I l2, q_I l3, q_I l4, q_N] [] := by
  intro n
  induction n with
  | zero => intro l1 l2 l3 l4 m h; exact q_no h
  | succ n ih =>
    intro l1 l2 l3 l4 m h
    exact w_Mod_tiling_b36 hN hk27 (fun l1 l2 l3 l4 m h => ih l1 l2 l3 l4 m h) h
def f_Mod_tiling_b27 (k27 : Int → Int → Int → q_Mem → q_Res) (l1 l2 l3 : Int) (m : q_Mem) : q_Res :=
  if 10 < q_w l3 then (if q_w (m 81 57) = 0 then (q_rt (-1) m)
  else (if q_w l2 = 0 then (q_rt (m 81 59) m)
  else (if q_w l2 = 1 then (q_rt (m 81 60) m)
  else (q_rt (m 81 58) m))))
  else (f_Mod_tiling_l36 k27 q_F l1 l2 l3 1 m)
set_option maxRecDepth 20000 in
theorem w_Mod_tiling_b27 {k27 : Int → Int → Int → q_Mem → q_Res} {l1 l2 l3 : Int} {r : Int × q_Mem} {m : q_Mem} {N : Nat} (hN : 126 ≤ N) (hk27 : ∀ (l1 l2 l3 : Int) (m : q_Mem), k27 l1 l2 l3 m = some r → q_E md_X11_tiling 5 N (some 0) r m 27 [q_A 81, q_I l1, q_I l2, q_I l3, q_N, q_N] []) (h : f_Mod_tiling_b27 k27 l1 l2 l3 m = some r) : q_E md_X11_tiling 5 N (some 0) r m 27 [q_A 81, q_I l1, q_I l2, q_I l3, q_N, q_N] [] := by
  unfold f_Mod_tiling_b27 at h
  refine q_iload_n (M := md_X11_tiling) (pc := 27) dX11_tiling_27 rfl ?_
  refine q_bipush (M := md_X11_tiling) (pc := 28) (x := 10) dX11_tiling_28 (by decide) ?_
  refine e_icmp_gt (M := md_X11_tiling) (pc := 30) (tgt := 93) h rfl (q_wlit rfl) dX11_tiling_30 (by decide) (fun h => ?_) (fun h => ?_)
  · refine q_aload_n (M := md_X11_tiling) (pc := 93) dX11_tiling_93 rfl (by decide) ?_
    refine e_gI (M := md_X11_tiling) (pc := 94) (v := m 81 57) fl_11_494 dX11_tiling_94 (is_81 hN) rfl ?_
    refine e_if_ne (M := md_X11_tiling) (pc := 97) (tgt := 102) h rfl dX11_tiling_97 (by decide) (fun h => ?_) (fun h => ?_)
    · refine q_iload_n (M := md_X11_tiling) (pc := 102) dX11_tiling_102 rfl ?_
      refine e_if_ne (M := md_X11_tiling) (pc := 103) (tgt := 113) h rfl dX11_tiling_103 (by decide) (fun h => ?_) (fun h => ?_)
      · refine q_iload_n (M := md_X11_tiling) (pc := 113) dX11_tiling_113 rfl ?_
        refine q_iconst (M := md_X11_tiling) (pc := 114) dX11_tiling_114 ?_
        refine e_icmp_ne (M := md_X11_tiling) (pc := 115) (tgt := 125) h rfl (q_wlit rfl) dX11_tiling_115 (by decide) (fun h => ?_) (fun h => ?_)
        · refine q_aload_n (M := md_X11_tiling) (pc := 125) dX11_tiling_125 rfl (by decide) ?_
          refine e_gI (M := md_X11_tiling) (pc := 126) (v := m 81 58) fl_11_497 dX11_tiling_126 (is_81 hN) rfl ?_
          exact e_iret (M := md_X11_tiling) (pc := 129) h rfl dX11_tiling_129
        · refine q_aload_n (M := md_X11_tiling) (pc := 118) dX11_tiling_118 rfl (by decide) ?_
          refine e_gI (M := md_X11_tiling) (pc := 119) (v := m 81 60) fl_11_503 dX11_tiling_119 (is_81 hN) rfl ?_
          refine q_goto (M := md_X11_tiling) (pc := 122) (tgt := 129) dX11_tiling_122 (by decide) ?_
          exact e_iret (M := md_X11_tiling) (pc := 129) h rfl dX11_tiling_129
      · refine q_aload_n (M := md_X11_tiling) (pc := 106) dX11_tiling_106 rfl (by decide) ?_
        refine e_gI (M := md_X11_tiling) (pc := 107) (v := m 81 59) fl_11_500 dX11_tiling_107 (is_81 hN) rfl ?_
        refine q_goto (M := md_X11_tiling) (pc := 110) (tgt := 129) dX11_tiling_110 (by decide) ?_
        exact e_iret (M := md_X11_tiling) (pc := 129) h rfl dX11_tiling_129
    · refine q_iconst (M := md_X11_tiling) (pc := 100) dX11_tiling_100 ?_
      exact e_iret (M := md_X11_tiling) (pc := 101) h rfl dX11_tiling_101
  · refine q_iconst (M := md_X11_tiling) (pc := 33) dX11_tiling_33 ?_
    refine e_ist (M := md_X11_tiling) (pc := 34) (ls' := [q_A 81, q_I l1, q_I l2, q_I l3, q_I 1, q_N]) dX11_tiling_34 (by decide) (q_pl rfl) rfl ?_
    exact q_weak (w_Mod_tiling_l36 hN hk27 q_F _ _ _ _ _  h) ⟨Or.inr rfl, Or.inr rfl, Or.inr rfl, Or.inr rfl, Or.inr rfl, Or.inl rfl, trivial⟩
def f_Mod_tiling_l27 : Nat → Int → Int → Int → q_Mem → q_Res
  | 0 => fun _ _ _ _ => none
  | n + 1 => fun l1 l2 l3 m => f_Mod_tiling_b27 (f_Mod_tiling_l27 n) l1 l2 l3 m
theorem w_Mod_tiling_l27 {r : Int × q_Mem} {N : Nat} (hN : 126 ≤ N) : ∀ (n : Nat) (l1 l2 l3 : Int) (m : q_Mem), f_Mod_tiling_l27 n l1 l2 l3 m = some r → q_E md_X11_tiling 5 N (some 0) r m 27 [q_A 81, q_I l1, q_I l2, q_I l3, q_N, q_N] [] := by
  intro n
  induction n with
  | zero => intro l1 l2 l3 m h; exact q_no h
  | succ n ih =>
    intro l1 l2 l3 m h
    exact w_Mod_tiling_b27 hN (fun l1 l2 l3 m h => ih l1 l2 l3 m h) h
def f_Mod_tiling (l1 l2 : Int) (m : q_Mem) : q_Res :=
  q_bd (f_Mod_isIn l1 1 100 m) fun v1 m2 =>
  if q_w v1 = 0 then (q_rt (-1) m2)
  else (q_bd (f_Mod_isIn l2 0 2 m2) fun v3 m4 =>
  if q_w v3 = 0 then (q_rt (-1) m4)
  else (q_bd (f_Mod_beginBest m4) fun _ m5 =>
  f_Mod_tiling_l27 q_F l1 l2 1 m5))
set_option maxRecDepth 20000 in
theorem ok_X11_tiling {l1 l2 : Int} {r : Int × q_Mem} {m : q_Mem} {N : Nat} (hN : 126 ≤ N) (h : f_Mod_tiling l1 l2 m = some r) : q_C md_X11_tiling (q_room 5) 0 0 [q_A 81, q_I l1, q_I l2] (q_g N) m (some (q_I r.1), q_g N, r.2) := by
  refine q_ofR (by decide) 3 (ls := [q_A 81, q_I l1, q_I l2, q_N, q_N, q_N]) rfl (Nat.le_of_ble_eq_true rfl) ?_
  change q_E md_X11_tiling 5 N (some 0) r m 0 [q_A 81, q_I l1, q_I l2, q_N, q_N, q_N] []
  unfold f_Mod_tiling at h
  refine q_iload_n (M := md_X11_tiling) (pc := 0) dX11_tiling_0 rfl ?_
  refine q_iconst (M := md_X11_tiling) (pc := 1) dX11_tiling_1 ?_
  refine q_bipush (M := md_X11_tiling) (pc := 2) (x := 100) dX11_tiling_2 (by decide) ?_
  refine e_callSi (M := md_X11_tiling) (pc := 4) (d' := 1) (M' := md_X11_isIn) (av := [q_I l1, q_I 1, q_I 100]) h ml_11_221 sm_X11_isIn dX11_tiling_4 (fun v he => ok_X11_isIn hN  he) rfl (Nat.le_of_ble_eq_true rfl) ⟨by decide, by decide⟩ rfl (fun v1 m2 h => ?_)
  refine e_if_eq (M := md_X11_tiling) (pc := 7) (tgt := 19) h rfl dX11_tiling_7 (by decide) (fun h => ?_) (fun h => ?_)
  · refine q_iconst (M := md_X11_tiling) (pc := 19) dX11_tiling_19 ?_
    exact e_iret (M := md_X11_tiling) (pc := 20) h rfl dX11_tiling_20
  · refine q_iload_n (M := md_X11_tiling) (pc := 10) dX11_tiling_10 rfl ?_
    refine q_iconst (M := md_X11_tiling) (pc := 11) dX11_tiling_11 ?_
    refine q_iconst (M := md_X11_tiling) (pc := 12) dX11_tiling_12 ?_
    refine e_callSi (M := md_X11_tiling) (pc := 13) (d' := 1) (M' := md_X11_isIn) (av := [q_I l2, q_I 0, q_I 2]) h ml_11_221 sm_X11_isIn dX11_tiling_13 (fun v he => ok_X11_isIn hN  he) rfl (Nat.le_of_ble_eq_true rfl) ⟨by decide, by decide⟩ rfl (fun v3 m4 h => ?_)
    refine e_if_ne (M := md_X11_tiling) (pc := 16) (tgt := 21) h rfl dX11_tiling_16 (by decide) (fun h => ?_) (fun h => ?_)
    · refine q_aload_n (M := md_X11_tiling) (pc := 21) dX11_tiling_21 rfl (by decide) ?_
      refine e_callVv (M := md_X11_tiling) (pc := 22) (d' := 1) (av := []) (c := 81) h ml_11_512 im_X11_beginBest se_X11_beginBest dX11_tiling_22 (fun v he => ok_X11_beginBest hN  he) rfl (is_81 hN) ⟨_, _, rfl⟩ (by decide) (Nat.le_of_ble_eq_true rfl) ⟨by decide, by decide⟩ rfl (fun _ m5 h => ?_)
      refine q_iconst (M := md_X11_tiling) (pc := 25) dX11_tiling_25 ?_
      refine e_ist_n (M := md_X11_tiling) (pc := 26) (ls' := [q_A 81, q_I l1, q_I l2, q_I 1, q_N, q_N]) dX11_tiling_26 (by decide) (q_pl rfl) rfl ?_
      exact q_weak (w_Mod_tiling_l27 hN q_F _ _ _ _  h) ⟨Or.inr rfl, Or.inr rfl, Or.inr rfl, Or.inr rfl, Or.inl rfl, Or.inl rfl, trivial⟩
    · refine q_iconst (M := md_X11_tiling) (pc := 19) dX11_tiling_19 ?_
      exact e_iret (M := md_X11_tiling) (pc := 20) h rfl dX11_tiling_20
def f_Mod_keepAct_b51 (k51 : Int → q_Mem → q_Res) (l1 : Int) (m : q_Mem) : q_Res :=
  if 69 ≤ q_w l1 then (q_pf m 81 69 ((m 81 69) + 1) fun m1 =>
  q_pf m1 81 70 0 fun m2 =>
  q_rt 0 m2)
  else (q_rd m 115 69 l1 fun v3 =>
  q_wr m 123 1449 ((69 * (m 81 69)) + l1) v3 fun m4 =>
  k51 (l1 + 1) m4)
set_option maxRecDepth 20000 in
theorem w_Mod_keepAct_b51 {k51 : Int → q_Mem → q_Res} {l1 : Int} {r : Int × q_Mem} {m : q_Mem} {N : Nat} (hN : 126 ≤ N) (hk51 : ∀ (l1 : Int) (m : q_Mem), k51 l1 m = some r → q_E md_X11_keepAct 1 N (none) r m 51 [q_A 81, q_I l1] []) (h : f_Mod_keepAct_b51 k51 l1 m = some r) : q_E md_X11_keepAct 1 N (none) r m 51 [q_A 81, q_I l1] [] := by
  unfold f_Mod_keepAct_b51 at h
  refine q_iload_n (M := md_X11_keepAct) (pc := 51) dX11_keepAct_51 rfl ?_
  refine q_bipush (M := md_X11_keepAct) (pc := 52) (x := 69) dX11_keepAct_52 (by decide) ?_
  refine e_icmp_ge (M := md_X11_keepAct) (pc := 54) (tgt := 83) h rfl (q_wlit rfl) dX11_keepAct_54 (by decide) (fun h => ?_) (fun h => ?_)
  · refine q_aload_n (M := md_X11_keepAct) (pc := 83) dX11_keepAct_83 rfl (by decide) ?_
    refine q_dup (M := md_X11_keepAct) (pc := 84) dX11_keepAct_84 (show (2 : Nat) ≠ 1 by decide) ?_
    refine e_gI (M := md_X11_keepAct) (pc := 85) (v := m 81 69) fl_11_408 dX11_keepAct_85 (is_81 hN) rfl ?_
    refine q_iconst (M := md_X11_keepAct) (pc := 88) dX11_keepAct_88 ?_
    refine q_iadd (M := md_X11_keepAct) (pc := 89) dX11_keepAct_89 ?_
    refine e_pfI (M := md_X11_keepAct) (pc := 90) h fl_11_408 dX11_keepAct_90 (is_81 hN) rfl (fun m1 h => ?_)
    refine q_aload_n (M := md_X11_keepAct) (pc := 93) dX11_keepAct_93 rfl (by decide) ?_
    refine q_iconst (M := md_X11_keepAct) (pc := 94) dX11_keepAct_94 ?_
    refine e_pfI (M := md_X11_keepAct) (pc := 95) h fl_11_411 dX11_keepAct_95 (is_81 hN) rfl (fun m2 h => ?_)
    exact e_vret (M := md_X11_keepAct) (pc := 98) h rfl dX11_keepAct_98
  · refine q_aload_n (M := md_X11_keepAct) (pc := 57) dX11_keepAct_57 rfl (by decide) ?_
    refine q_getP (M := md_X11_keepAct) (pc := 58) (v := 123) fl_11_139 dX11_keepAct_58 (is_81 hN) rfl ?_
    refine q_bipush (M := md_X11_keepAct) (pc := 61) (x := 69) dX11_keepAct_61 (by decide) ?_
    refine q_aload_n (M := md_X11_keepAct) (pc := 63) dX11_keepAct_63 rfl (by decide) ?_
    refine e_gI (M := md_X11_keepAct) (pc := 64) (v := m 81 69) fl_11_408 dX11_keepAct_64 (is_81 hN) rfl ?_
    refine q_imul (M := md_X11_keepAct) (pc := 67) dX11_keepAct_67 ?_
    refine q_iload_n (M := md_X11_keepAct) (pc := 68) dX11_keepAct_68 rfl ?_
    refine q_iadd (M := md_X11_keepAct) (pc := 69) dX11_keepAct_69 ?_
    refine q_aload_n (M := md_X11_keepAct) (pc := 70) dX11_keepAct_70 rfl (by decide) ?_
    refine q_getP (M := md_X11_keepAct) (pc := 71) (v := 115) fl_11_115 dX11_keepAct_71 (is_81 hN) rfl ?_
    refine q_iload_n (M := md_X11_keepAct) (pc := 74) dX11_keepAct_74 rfl ?_
    refine e_rd (M := md_X11_keepAct) (pc := 75) h dX11_keepAct_75 (ar_115 hN) (fun v3 h => ?_)
    refine e_wr (M := md_X11_keepAct) (pc := 76) h dX11_keepAct_76 (ar_123 hN) (fun m4 h => ?_)
    refine e_inc (M := md_X11_keepAct) (pc := 77) (x := l1) (ls' := [q_A 81, q_I (l1 + 1)]) dX11_keepAct_77 rfl (by decide) (q_pl rfl) rfl ?_
    refine q_goto (M := md_X11_keepAct) (pc := 80) (tgt := 51) dX11_keepAct_80 (by decide) ?_
    exact q_weak (hk51 _ _  h) ⟨Or.inr rfl, Or.inr rfl, trivial⟩
def f_Mod_keepAct_l51 : Nat → Int → q_Mem → q_Res
  | 0 => fun _ _ => none
  | n + 1 => fun l1 m => f_Mod_keepAct_b51 (f_Mod_keepAct_l51 n) l1 m
theorem w_Mod_keepAct_l51 {r : Int × q_Mem} {N : Nat} (hN : 126 ≤ N) : ∀ (n : Nat) (l1 : Int) (m : q_Mem), f_Mod_keepAct_l51 n l1 m = some r → q_E md_X11_keepAct 1 N (none) r m 51 [q_A 81, q_I l1] [] := by
  intro n
  induction n with
  | zero => intro l1 m h; exact q_no h
  | succ n ih =>
    intro l1 m h
    exact w_Mod_keepAct_b51 hN (fun l1 m h => ih l1 m h) h
def f_Mod_keepAct_b49 (m : q_Mem) : q_Res :=
  f_Mod_keepAct_l51 q_F 0 m
set_option maxRecDepth 20000 in
theorem w_Mod_keepAct_b49 {r : Int × q_Mem} {m : q_Mem} {N : Nat} (hN : 126 ≤ N) (h : f_Mod_keepAct_b49 m = some r) : q_E md_X11_keepAct 1 N (none) r m 49 [q_A 81, q_N] [] := by
  unfold f_Mod_keepAct_b49 at h
  refine q_iconst (M := md_X11_keepAct) (pc := 49) dX11_keepAct_49 ?_
  refine e_ist_n (M := md_X11_keepAct) (pc := 50) (ls' := [q_A 81, q_I 0]) dX11_keepAct_50 (by decide) (q_pl rfl) rfl ?_
  exact q_weak (w_Mod_keepAct_l51 hN q_F _ _  h) ⟨Or.inr rfl, Or.inr rfl, trivial⟩
def f_Mod_keepAct_b11 (k11 : Int → q_Mem → q_Res) (l1 : Int) (m : q_Mem) : q_Res :=
  if 1380 ≤ q_w l1 then (q_pf m 81 69 ((m 81 69) - 1) fun m1 =>
  f_Mod_keepAct_b49 m1)
  else (q_rd m 123 1449 (l1 + 69) fun v2 =>
  q_wr m 123 1449 l1 v2 fun m3 =>
  k11 (l1 + 1) m3)
set_option maxRecDepth 20000 in
theorem w_Mod_keepAct_b11 {k11 : Int → q_Mem → q_Res} {l1 : Int} {r : Int × q_Mem} {m : q_Mem} {N : Nat} (hN : 126 ≤ N) (hk11 : ∀ (l1 : Int) (m : q_Mem), k11 l1 m = some r → q_E md_X11_keepAct 1 N (none) r m 11 [q_A 81, q_I l1] []) (h : f_Mod_keepAct_b11 k11 l1 m = some r) : q_E md_X11_keepAct 1 N (none) r m 11 [q_A 81, q_I l1] [] := by
  unfold f_Mod_keepAct_b11 at h
  refine q_iload_n (M := md_X11_keepAct) (pc := 11) dX11_keepAct_11 rfl ?_
  refine q_sipush (M := md_X11_keepAct) (pc := 12) (x := 1380) dX11_keepAct_12 (by decide) ?_
  refine e_icmp_ge (M := md_X11_keepAct) (pc := 15) (tgt := 39) h rfl (q_wlit rfl) dX11_keepAct_15 (by decide) (fun h => ?_) (fun h => ?_)
  · refine q_aload_n (M := md_X11_keepAct) (pc := 39) dX11_keepAct_39 rfl (by decide) ?_
    refine q_dup (M := md_X11_keepAct) (pc := 40) dX11_keepAct_40 (show (2 : Nat) ≠ 1 by decide) ?_
    refine e_gI (M := md_X11_keepAct) (pc := 41) (v := m 81 69) fl_11_408 dX11_keepAct_41 (is_81 hN) rfl ?_
    refine q_iconst (M := md_X11_keepAct) (pc := 44) dX11_keepAct_44 ?_
    refine q_isub (M := md_X11_keepAct) (pc := 45) dX11_keepAct_45 ?_
    refine e_pfI (M := md_X11_keepAct) (pc := 46) h fl_11_408 dX11_keepAct_46 (is_81 hN) rfl (fun m1 h => ?_)
    exact q_weak (w_Mod_keepAct_b49 hN  h) ⟨Or.inr rfl, Or.inl rfl, trivial⟩
  · refine q_aload_n (M := md_X11_keepAct) (pc := 18) dX11_keepAct_18 rfl (by decide) ?_
    refine q_getP (M := md_X11_keepAct) (pc := 19) (v := 123) fl_11_139 dX11_keepAct_19 (is_81 hN) rfl ?_
    refine q_iload_n (M := md_X11_keepAct) (pc := 22) dX11_keepAct_22 rfl ?_
    refine q_aload_n (M := md_X11_keepAct) (pc := 23) dX11_keepAct_23 rfl (by decide) ?_
    refine q_getP (M := md_X11_keepAct) (pc := 24) (v := 123) fl_11_139 dX11_keepAct_24 (is_81 hN) rfl ?_
    refine q_iload_n (M := md_X11_keepAct) (pc := 27) dX11_keepAct_27 rfl ?_
    refine q_bipush (M := md_X11_keepAct) (pc := 28) (x := 69) dX11_keepAct_28 (by decide) ?_
    refine q_iadd (M := md_X11_keepAct) (pc := 30) dX11_keepAct_30 ?_
    refine e_rd (M := md_X11_keepAct) (pc := 31) h dX11_keepAct_31 (ar_123 hN) (fun v2 h => ?_)
    refine e_wr (M := md_X11_keepAct) (pc := 32) h dX11_keepAct_32 (ar_123 hN) (fun m3 h => ?_)
    refine e_inc (M := md_X11_keepAct) (pc := 33) (x := l1) (ls' := [q_A 81, q_I (l1 + 1)]) dX11_keepAct_33 rfl (by decide) (q_pl rfl) rfl ?_
    refine q_goto (M := md_X11_keepAct) (pc := 36) (tgt := 11) dX11_keepAct_36 (by decide) ?_
    exact q_weak (hk11 _ _  h) ⟨Or.inr rfl, Or.inr rfl, trivial⟩
def f_Mod_keepAct_l11 : Nat → Int → q_Mem → q_Res
  | 0 => fun _ _ => none
  | n + 1 => fun l1 m => f_Mod_keepAct_b11 (f_Mod_keepAct_l11 n) l1 m
theorem w_Mod_keepAct_l11 {r : Int × q_Mem} {N : Nat} (hN : 126 ≤ N) : ∀ (n : Nat) (l1 : Int) (m : q_Mem), f_Mod_keepAct_l11 n l1 m = some r → q_E md_X11_keepAct 1 N (none) r m 11 [q_A 81, q_I l1] [] := by
  intro n
  induction n with
  | zero => intro l1 m h; exact q_no h
  | succ n ih =>
    intro l1 m h
    exact w_Mod_keepAct_b11 hN (fun l1 m h => ih l1 m h) h
def f_Mod_keepAct (m : q_Mem) : q_Res :=
  if q_w (m 81 69) = 20 then (f_Mod_keepAct_l11 q_F 0 m)
  else (f_Mod_keepAct_b49 m)
set_option maxRecDepth 20000 in
theorem ok_X11_keepAct {r : Int × q_Mem} {m : q_Mem} {N : Nat} (hN : 126 ≤ N) (h : f_Mod_keepAct m = some r) : q_C md_X11_keepAct (q_room 1) 0 0 [q_A 81] (q_g N) m (none, q_g N, r.2) := by
  refine q_ofR (by decide) 1 (ls := [q_A 81, q_N]) rfl (Nat.le_of_ble_eq_true rfl) ?_
  change q_E md_X11_keepAct 1 N (none) r m 0 [q_A 81, q_N] []
  unfold f_Mod_keepAct at h
  refine q_aload_n (M := md_X11_keepAct) (pc := 0) dX11_keepAct_0 rfl (by decide) ?_
  refine e_gI (M := md_X11_keepAct) (pc := 1) (v := m 81 69) fl_11_408 dX11_keepAct_1 (is_81 hN) rfl ?_
  refine q_bipush (M := md_X11_keepAct) (pc := 4) (x := 20) dX11_keepAct_4 (by decide) ?_
  refine e_icmp_ne (M := md_X11_keepAct) (pc := 6) (tgt := 49) h rfl (q_wlit rfl) dX11_keepAct_6 (by decide) (fun h => ?_) (fun h => ?_)
  · exact q_weak (w_Mod_keepAct_b49 hN  h) ⟨Or.inr rfl, Or.inl rfl, trivial⟩
  · refine q_iconst (M := md_X11_keepAct) (pc := 9) dX11_keepAct_9 ?_
    refine e_ist_n (M := md_X11_keepAct) (pc := 10) (ls' := [q_A 81, q_I 0]) dX11_keepAct_10 (by decide) (q_pl rfl) rfl ?_
    exact q_weak (w_Mod_keepAct_l11 hN q_F _ _  h) ⟨Or.inr rfl, Or.inr rfl, trivial⟩
def f_Mod_fire (l1 l2 : Int) (m : q_Mem) : q_Res :=
  q_bd (f_Mod_isIn l1 (-9) 9 m) fun v1 m2 =>
  if q_w v1 = 0 then (q_rt (-1) m2)
  else (q_bd (f_Mod_isIn l2 (-9) 9 m2) fun v3 m4 =>
  if q_w v3 = 0 then (q_rt (-1) m4)
  else (q_bd (f_Mod_keepAct m4) fun _ m5 =>
  q_wr m5 115 69 0 l1 fun m6 =>
  q_wr m6 115 69 1 l2 fun m7 =>
  q_bd (f_Mod_isLawful l1 l2 m7) fun v8 m9 =>
  if q_w v8 = 0 then (q_rt 0 m9)
  else (q_rt 1 m9)))
set_option maxRecDepth 20000 in
theorem ok_X11_fire {l1 l2 : Int} {r : Int × q_Mem} {m : q_Mem} {N : Nat} (hN : 126 ≤ N) (h : f_Mod_fire l1 l2 m = some r) : q_C md_X11_fire (q_room 3) 0 0 [q_A 81, q_I l1, q_I l2] (q_g N) m (some (q_I r.1), q_g N, r.2) := by
  refine q_ofR (by decide) 0 (ls := [q_A 81, q_I l1, q_I l2]) rfl (Nat.le_of_ble_eq_true rfl) ?_
  change q_E md_X11_fire 3 N (some 0) r m 0 [q_A 81, q_I l1, q_I l2] []
  unfold f_Mod_fire at h
  refine q_iload_n (M := md_X11_fire) (pc := 0) dX11_fire_0 rfl ?_
  refine q_bipush (M := md_X11_fire) (pc := 1) (x := -9) dX11_fire_1 (by decide) ?_
  refine q_bipush (M := md_X11_fire) (pc := 3) (x := 9) dX11_fire_3 (by decide) ?_
  refine e_callSi (M := md_X11_fire) (pc := 5) (d' := 1) (M' := md_X11_isIn) (av := [q_I l1, q_I (-9), q_I 9]) h ml_11_221 sm_X11_isIn dX11_fire_5 (fun v he => ok_X11_isIn hN  he) rfl (Nat.le_of_ble_eq_true rfl) ⟨by decide, by decide⟩ rfl (fun v1 m2 h => ?_)
  refine e_if_eq (M := md_X11_fire) (pc := 8) (tgt := 22) h rfl dX11_fire_8 (by decide) (fun h => ?_) (fun h => ?_)
  · refine q_iconst (M := md_X11_fire) (pc := 22) dX11_fire_22 ?_
    exact e_iret (M := md_X11_fire) (pc := 23) h rfl dX11_fire_23
  · refine q_iload_n (M := md_X11_fire) (pc := 11) dX11_fire_11 rfl ?_
    refine q_bipush (M := md_X11_fire) (pc := 12) (x := -9) dX11_fire_12 (by decide) ?_
    refine q_bipush (M := md_X11_fire) (pc := 14) (x := 9) dX11_fire_14 (by decide) ?_
    refine e_callSi (M := md_X11_fire) (pc := 16) (d' := 1) (M' := md_X11_isIn) (av := [q_I l2, q_I (-9), q_I 9]) h ml_11_221 sm_X11_isIn dX11_fire_16 (fun v he => ok_X11_isIn hN  he) rfl (Nat.le_of_ble_eq_true rfl) ⟨by decide, by decide⟩ rfl (fun v3 m4 h => ?_)
    refine e_if_ne (M := md_X11_fire) (pc := 19) (tgt := 24) h rfl dX11_fire_19 (by decide) (fun h => ?_) (fun h => ?_)
    · refine q_aload_n (M := md_X11_fire) (pc := 24) dX11_fire_24 rfl (by decide) ?_
      refine e_callVv (M := md_X11_fire) (pc := 25) (d' := 1) (av := []) (c := 81) h ml_11_544 im_X11_keepAct se_X11_keepAct dX11_fire_25 (fun v he => ok_X11_keepAct hN  he) rfl (is_81 hN) ⟨_, _, rfl⟩ (by decide) (Nat.le_of_ble_eq_true rfl) ⟨by decide, by decide⟩ rfl (fun _ m5 h => ?_)
      refine q_aload_n (M := md_X11_fire) (pc := 28) dX11_fire_28 rfl (by decide) ?_
      refine q_getP (M := md_X11_fire) (pc := 29) (v := 115) fl_11_115 dX11_fire_29 (is_81 hN) rfl ?_
      refine q_iconst (M := md_X11_fire) (pc := 32) dX11_fire_32 ?_
      refine q_iload_n (M := md_X11_fire) (pc := 33) dX11_fire_33 rfl ?_
      refine e_wr (M := md_X11_fire) (pc := 34) h dX11_fire_34 (ar_115 hN) (fun m6 h => ?_)
      refine q_aload_n (M := md_X11_fire) (pc := 35) dX11_fire_35 rfl (by decide) ?_
      refine q_getP (M := md_X11_fire) (pc := 36) (v := 115) fl_11_115 dX11_fire_36 (is_81 hN) rfl ?_
      refine q_iconst (M := md_X11_fire) (pc := 39) dX11_fire_39 ?_
      refine q_iload_n (M := md_X11_fire) (pc := 40) dX11_fire_40 rfl ?_
      refine e_wr (M := md_X11_fire) (pc := 41) h dX11_fire_41 (ar_115 hN) (fun m7 h => ?_)
      refine q_aload_n (M := md_X11_fire) (pc := 42) dX11_fire_42 rfl (by decide) ?_
      refine q_iload_n (M := md_X11_fire) (pc := 43) dX11_fire_43 rfl ?_
      refine q_iload_n (M := md_X11_fire) (pc := 44) dX11_fire_44 rfl ?_
      refine e_callVi (M := md_X11_fire) (pc := 45) (d' := 2) (av := [q_I l1, q_I l2]) (c := 81) h ml_11_440 im_X11_isLawful se_X11_isLawful dX11_fire_45 (fun v he => ok_X11_isLawful hN  he) rfl (is_81 hN) ⟨_, _, rfl⟩ (by decide) (Nat.le_of_ble_eq_true rfl) ⟨by decide, by decide⟩ rfl (fun v8 m9 h => ?_)
      refine e_if_eq (M := md_X11_fire) (pc := 48) (tgt := 55) h rfl dX11_fire_48 (by decide) (fun h => ?_) (fun h => ?_)
      · refine q_iconst (M := md_X11_fire) (pc := 55) dX11_fire_55 ?_
        exact e_iret (M := md_X11_fire) (pc := 56) h rfl dX11_fire_56
      · refine q_iconst (M := md_X11_fire) (pc := 51) dX11_fire_51 ?_
        refine q_goto (M := md_X11_fire) (pc := 52) (tgt := 56) dX11_fire_52 (by decide) ?_
        exact e_iret (M := md_X11_fire) (pc := 56) h rfl dX11_fire_56
    · refine q_iconst (M := md_X11_fire) (pc := 22) dX11_fire_22 ?_
      exact e_iret (M := md_X11_fire) (pc := 23) h rfl dX11_fire_23
def f_Mod_onto_b30 (k30 : Int → q_Mem → q_Res) (l3 : Int) (m : q_Mem) : q_Res :=
  if 64 ≤ q_w l3 then (q_bd (f_Mod_layNow m) fun _ m1 =>
  q_rt (m1 81 54) m1)
  else (q_wr m 115 69 (5 + l3) 0 fun m2 =>
  k30 (l3 + 1) m2)
set_option maxRecDepth 20000 in
theorem w_Mod_onto_b30 {k30 : Int → q_Mem → q_Res} {l3 : Int} {r : Int × q_Mem} {m : q_Mem} {N : Nat} (hN : 126 ≤ N) (hk30 : ∀ (l3 : Int) (m : q_Mem), k30 l3 m = some r → q_E md_X11_onto 7 N (some 0) r m 30 [q_A 81, q_N, q_N, q_I l3] []) (h : f_Mod_onto_b30 k30 l3 m = some r) : q_E md_X11_onto 7 N (some 0) r m 30 [q_A 81, q_N, q_N, q_I l3] [] := by
  unfold f_Mod_onto_b30 at h
  refine q_iload_n (M := md_X11_onto) (pc := 30) dX11_onto_30 rfl ?_
  refine q_bipush (M := md_X11_onto) (pc := 31) (x := 64) dX11_onto_31 (by decide) ?_
  refine e_icmp_ge (M := md_X11_onto) (pc := 33) (tgt := 51) h rfl (q_wlit rfl) dX11_onto_33 (by decide) (fun h => ?_) (fun h => ?_)
  · refine q_aload_n (M := md_X11_onto) (pc := 51) dX11_onto_51 rfl (by decide) ?_
    refine e_callVv (M := md_X11_onto) (pc := 52) (d' := 6) (av := []) (c := 81) h ml_11_437 im_X11_layNow se_X11_layNow dX11_onto_52 (fun v he => ok_X11_layNow hN  he) rfl (is_81 hN) ⟨_, _, rfl⟩ (by decide) (Nat.le_of_ble_eq_true rfl) ⟨by decide, by decide⟩ rfl (fun _ m1 h => ?_)
    refine q_aload_n (M := md_X11_onto) (pc := 55) dX11_onto_55 rfl (by decide) ?_
    refine e_gI (M := md_X11_onto) (pc := 56) (v := m1 81 54) fl_11_418 dX11_onto_56 (is_81 hN) rfl ?_
    exact e_iret (M := md_X11_onto) (pc := 59) h rfl dX11_onto_59
  · refine q_aload_n (M := md_X11_onto) (pc := 36) dX11_onto_36 rfl (by decide) ?_
    refine q_getP (M := md_X11_onto) (pc := 37) (v := 115) fl_11_115 dX11_onto_37 (is_81 hN) rfl ?_
    refine q_iconst (M := md_X11_onto) (pc := 40) dX11_onto_40 ?_
    refine q_iload_n (M := md_X11_onto) (pc := 41) dX11_onto_41 rfl ?_
    refine q_iadd (M := md_X11_onto) (pc := 42) dX11_onto_42 ?_
    refine q_iconst (M := md_X11_onto) (pc := 43) dX11_onto_43 ?_
    refine e_wr (M := md_X11_onto) (pc := 44) h dX11_onto_44 (ar_115 hN) (fun m2 h => ?_)
    refine e_inc (M := md_X11_onto) (pc := 45) (x := l3) (ls' := [q_A 81, q_N, q_N, q_I (l3 + 1)]) dX11_onto_45 rfl (by decide) (q_pl rfl) rfl ?_
    refine q_goto (M := md_X11_onto) (pc := 48) (tgt := 30) dX11_onto_48 (by decide) ?_
    exact q_weak (hk30 _ _  h) ⟨Or.inr rfl, Or.inl rfl, Or.inl rfl, Or.inr rfl, trivial⟩
def f_Mod_onto_l30 : Nat → Int → q_Mem → q_Res
  | 0 => fun _ _ => none
  | n + 1 => fun l3 m => f_Mod_onto_b30 (f_Mod_onto_l30 n) l3 m
theorem w_Mod_onto_l30 {r : Int × q_Mem} {N : Nat} (hN : 126 ≤ N) : ∀ (n : Nat) (l3 : Int) (m : q_Mem), f_Mod_onto_l30 n l3 m = some r → q_E md_X11_onto 7 N (some 0) r m 30 [q_A 81, q_N, q_N, q_I l3] [] := by
  intro n
  induction n with
  | zero => intro l3 m h; exact q_no h
  | succ n ih =>
    intro l3 m h
    exact w_Mod_onto_b30 hN (fun l3 m h => ih l3 m h) h
def f_Mod_onto (l1 l2 : Int) (m : q_Mem) : q_Res :=
  q_bd (f_Mod_isLine l1 l2 m) fun v1 m2 =>
  if q_w v1 = 0 then (q_rt (-1) m2)
  else (q_bd (f_Mod_keepAct m2) fun _ m3 =>
  q_wr m3 115 69 2 l1 fun m4 =>
  q_wr m4 115 69 3 l2 fun m5 =>
  f_Mod_onto_l30 q_F 0 m5)
set_option maxRecDepth 20000 in
theorem ok_X11_onto {l1 l2 : Int} {r : Int × q_Mem} {m : q_Mem} {N : Nat} (hN : 126 ≤ N) (h : f_Mod_onto l1 l2 m = some r) : q_C md_X11_onto (q_room 7) 0 0 [q_A 81, q_I l1, q_I l2] (q_g N) m (some (q_I r.1), q_g N, r.2) := by
  refine q_ofR (by decide) 1 (ls := [q_A 81, q_I l1, q_I l2, q_N]) rfl (Nat.le_of_ble_eq_true rfl) ?_
  change q_E md_X11_onto 7 N (some 0) r m 0 [q_A 81, q_I l1, q_I l2, q_N] []
  unfold f_Mod_onto at h
  refine q_iload_n (M := md_X11_onto) (pc := 0) dX11_onto_0 rfl ?_
  refine q_iload_n (M := md_X11_onto) (pc := 1) dX11_onto_1 rfl ?_
  refine e_callSi (M := md_X11_onto) (pc := 2) (d' := 3) (M' := md_X11_isLine) (av := [q_I l1, q_I l2]) h ml_11_519 sm_X11_isLine dX11_onto_2 (fun v he => ok_X11_isLine hN  he) rfl (Nat.le_of_ble_eq_true rfl) ⟨by decide, by decide⟩ rfl (fun v1 m2 h => ?_)
  refine e_if_ne (M := md_X11_onto) (pc := 5) (tgt := 10) h rfl dX11_onto_5 (by decide) (fun h => ?_) (fun h => ?_)
  · refine q_aload_n (M := md_X11_onto) (pc := 10) dX11_onto_10 rfl (by decide) ?_
    refine e_callVv (M := md_X11_onto) (pc := 11) (d' := 1) (av := []) (c := 81) h ml_11_544 im_X11_keepAct se_X11_keepAct dX11_onto_11 (fun v he => ok_X11_keepAct hN  he) rfl (is_81 hN) ⟨_, _, rfl⟩ (by decide) (Nat.le_of_ble_eq_true rfl) ⟨by decide, by decide⟩ rfl (fun _ m3 h => ?_)
    refine q_aload_n (M := md_X11_onto) (pc := 14) dX11_onto_14 rfl (by decide) ?_
    refine q_getP (M := md_X11_onto) (pc := 15) (v := 115) fl_11_115 dX11_onto_15 (is_81 hN) rfl ?_
    refine q_iconst (M := md_X11_onto) (pc := 18) dX11_onto_18 ?_
    refine q_iload_n (M := md_X11_onto) (pc := 19) dX11_onto_19 rfl ?_
    refine e_wr (M := md_X11_onto) (pc := 20) h dX11_onto_20 (ar_115 hN) (fun m4 h => ?_)
    refine q_aload_n (M := md_X11_onto) (pc := 21) dX11_onto_21 rfl (by decide) ?_
    refine q_getP (M := md_X11_onto) (pc := 22) (v := 115) fl_11_115 dX11_onto_22 (is_81 hN) rfl ?_
    refine q_iconst (M := md_X11_onto) (pc := 25) dX11_onto_25 ?_
    refine q_iload_n (M := md_X11_onto) (pc := 26) dX11_onto_26 rfl ?_
    refine e_wr (M := md_X11_onto) (pc := 27) h dX11_onto_27 (ar_115 hN) (fun m5 h => ?_)
    refine q_iconst (M := md_X11_onto) (pc := 28) dX11_onto_28 ?_
    refine e_ist_n (M := md_X11_onto) (pc := 29) (ls' := [q_A 81, q_I l1, q_I l2, q_I 0]) dX11_onto_29 (by decide) (q_pl rfl) rfl ?_
    exact q_weak (w_Mod_onto_l30 hN q_F _ _  h) ⟨Or.inr rfl, Or.inl rfl, Or.inl rfl, Or.inr rfl, trivial⟩
  · refine q_iconst (M := md_X11_onto) (pc := 8) dX11_onto_8 ?_
    exact e_iret (M := md_X11_onto) (pc := 9) h rfl dX11_onto_9
def f_Mod_workers (l1 : Int) (m : q_Mem) : q_Res :=
  q_bd (f_Mod_isIn l1 1 12 m) fun v1 m2 =>
  if q_w v1 = 0 then (q_rt (-1) m2)
  else (q_bd (f_Mod_keepAct m2) fun _ m3 =>
  q_rd m3 115 69 4 fun v4 =>
  q_wr m3 115 69 4 l1 fun m5 =>
  q_rt v4 m5)
set_option maxRecDepth 20000 in
theorem ok_X11_workers {l1 : Int} {r : Int × q_Mem} {m : q_Mem} {N : Nat} (hN : 126 ≤ N) (h : f_Mod_workers l1 m = some r) : q_C md_X11_workers (q_room 2) 0 0 [q_A 81, q_I l1] (q_g N) m (some (q_I r.1), q_g N, r.2) := by
  refine q_ofR (by decide) 1 (ls := [q_A 81, q_I l1, q_N]) rfl (Nat.le_of_ble_eq_true rfl) ?_
  change q_E md_X11_workers 2 N (some 0) r m 0 [q_A 81, q_I l1, q_N] []
  unfold f_Mod_workers at h
  refine q_iload_n (M := md_X11_workers) (pc := 0) dX11_workers_0 rfl ?_
  refine q_iconst (M := md_X11_workers) (pc := 1) dX11_workers_1 ?_
  refine q_bipush (M := md_X11_workers) (pc := 2) (x := 12) dX11_workers_2 (by decide) ?_
  refine e_callSi (M := md_X11_workers) (pc := 4) (d' := 1) (M' := md_X11_isIn) (av := [q_I l1, q_I 1, q_I 12]) h ml_11_221 sm_X11_isIn dX11_workers_4 (fun v he => ok_X11_isIn hN  he) rfl (Nat.le_of_ble_eq_true rfl) ⟨by decide, by decide⟩ rfl (fun v1 m2 h => ?_)
  refine e_if_ne (M := md_X11_workers) (pc := 7) (tgt := 12) h rfl dX11_workers_7 (by decide) (fun h => ?_) (fun h => ?_)
  · refine q_aload_n (M := md_X11_workers) (pc := 12) dX11_workers_12 rfl (by decide) ?_
    refine e_callVv (M := md_X11_workers) (pc := 13) (d' := 1) (av := []) (c := 81) h ml_11_544 im_X11_keepAct se_X11_keepAct dX11_workers_13 (fun v he => ok_X11_keepAct hN  he) rfl (is_81 hN) ⟨_, _, rfl⟩ (by decide) (Nat.le_of_ble_eq_true rfl) ⟨by decide, by decide⟩ rfl (fun _ m3 h => ?_)
    refine q_aload_n (M := md_X11_workers) (pc := 16) dX11_workers_16 rfl (by decide) ?_
    refine q_getP (M := md_X11_workers) (pc := 17) (v := 115) fl_11_115 dX11_workers_17 (is_81 hN) rfl ?_
    refine q_iconst (M := md_X11_workers) (pc := 20) dX11_workers_20 ?_
    refine e_rd (M := md_X11_workers) (pc := 21) h dX11_workers_21 (ar_115 hN) (fun v4 h => ?_)
    refine e_ist_n (M := md_X11_workers) (pc := 22) (ls' := [q_A 81, q_I l1, q_I v4]) dX11_workers_22 (by decide) (q_pl rfl) rfl ?_
    refine q_aload_n (M := md_X11_workers) (pc := 23) dX11_workers_23 rfl (by decide) ?_
    refine q_getP (M := md_X11_workers) (pc := 24) (v := 115) fl_11_115 dX11_workers_24 (is_81 hN) rfl ?_
    refine q_iconst (M := md_X11_workers) (pc := 27) dX11_workers_27 ?_
    refine q_iload_n (M := md_X11_workers) (pc := 28) dX11_workers_28 rfl ?_
    refine e_wr (M := md_X11_workers) (pc := 29) h dX11_workers_29 (ar_115 hN) (fun m5 h => ?_)
    refine q_iload_n (M := md_X11_workers) (pc := 30) dX11_workers_30 rfl ?_
    exact e_iret (M := md_X11_workers) (pc := 31) h rfl dX11_workers_31
  · refine q_iconst (M := md_X11_workers) (pc := 10) dX11_workers_10 ?_
    exact e_iret (M := md_X11_workers) (pc := 11) h rfl dX11_workers_11
def f_Mod_broken_b39 (s1 s2 : Int) (m : q_Mem) : q_Res :=
  q_wr m 115 69 s1 s2 fun m1 =>
  q_bd (f_Mod_brokenMany m1) fun v2 m3 =>
  q_rt v2 m3
set_option maxRecDepth 20000 in
theorem w_Mod_broken_b39 {s1 s2 : Int} {r : Int × q_Mem} {m : q_Mem} {N : Nat} (hN : 126 ≤ N) (h : f_Mod_broken_b39 s1 s2 m = some r) : q_E md_X11_broken 8 N (some 0) r m 39 [q_A 81, q_N, q_N] [q_I s2, q_I s1, q_A 115] := by
  unfold f_Mod_broken_b39 at h
  refine e_wr (M := md_X11_broken) (pc := 39) h dX11_broken_39 (ar_115 hN) (fun m1 h => ?_)
  refine q_aload_n (M := md_X11_broken) (pc := 40) dX11_broken_40 rfl (by decide) ?_
  refine e_callVi (M := md_X11_broken) (pc := 41) (d' := 1) (av := []) (c := 81) h ml_11_467 im_X11_brokenMany se_X11_brokenMany dX11_broken_41 (fun v he => ok_X11_brokenMany hN  he) rfl (is_81 hN) ⟨_, _, rfl⟩ (by decide) (Nat.le_of_ble_eq_true rfl) ⟨by decide, by decide⟩ rfl (fun v2 m3 h => ?_)
  exact e_iret (M := md_X11_broken) (pc := 44) h rfl dX11_broken_44
def f_Mod_broken (l1 l2 : Int) (m : q_Mem) : q_Res :=
  q_bd (f_Mod_isCell l1 m) fun v1 m2 =>
  if q_w v1 = 0 then (q_rt (-1) m2)
  else (q_bd (f_Mod_isBroken l1 m2) fun v3 m4 =>
  if q_w v3 = q_w l2 then (q_rt (-1) m4)
  else (q_bd (f_Mod_keepAct m4) fun _ m5 =>
  if q_w l2 = 0 then (f_Mod_broken_b39 (5 + l1) 0 m5)
  else (f_Mod_broken_b39 (5 + l1) 1 m5)))
set_option maxRecDepth 20000 in
theorem ok_X11_broken {l1 l2 : Int} {r : Int × q_Mem} {m : q_Mem} {N : Nat} (hN : 126 ≤ N) (h : f_Mod_broken l1 l2 m = some r) : q_C md_X11_broken (q_room 8) 0 0 [q_A 81, q_I l1, q_I l2] (q_g N) m (some (q_I r.1), q_g N, r.2) := by
  refine q_ofR (by decide) 0 (ls := [q_A 81, q_I l1, q_I l2]) rfl (Nat.le_of_ble_eq_true rfl) ?_
  change q_E md_X11_broken 8 N (some 0) r m 0 [q_A 81, q_I l1, q_I l2] []
  unfold f_Mod_broken at h
  refine q_aload_n (M := md_X11_broken) (pc := 0) dX11_broken_0 rfl (by decide) ?_
  refine q_iload_n (M := md_X11_broken) (pc := 1) dX11_broken_1 rfl ?_
  refine e_callVi (M := md_X11_broken) (pc := 2) (d' := 7) (av := [q_I l1]) (c := 81) h ml_11_470 im_X11_isCell se_X11_isCell dX11_broken_2 (fun v he => ok_X11_isCell hN  he) rfl (is_81 hN) ⟨_, _, rfl⟩ (by decide) (Nat.le_of_ble_eq_true rfl) ⟨by decide, by decide⟩ rfl (fun v1 m2 h => ?_)
  refine e_if_eq (M := md_X11_broken) (pc := 5) (tgt := 17) h rfl dX11_broken_5 (by decide) (fun h => ?_) (fun h => ?_)
  · refine q_iconst (M := md_X11_broken) (pc := 17) dX11_broken_17 ?_
    exact e_iret (M := md_X11_broken) (pc := 18) h rfl dX11_broken_18
  · refine q_aload_n (M := md_X11_broken) (pc := 8) dX11_broken_8 rfl (by decide) ?_
    refine q_iload_n (M := md_X11_broken) (pc := 9) dX11_broken_9 rfl ?_
    refine e_callVi (M := md_X11_broken) (pc := 10) (d' := 1) (av := [q_I l1]) (c := 81) h ml_11_455 im_X11_isBroken se_X11_isBroken dX11_broken_10 (fun v he => ok_X11_isBroken hN  he) rfl (is_81 hN) ⟨_, _, rfl⟩ (by decide) (Nat.le_of_ble_eq_true rfl) ⟨by decide, by decide⟩ rfl (fun v3 m4 h => ?_)
    refine q_iload_n (M := md_X11_broken) (pc := 13) dX11_broken_13 rfl ?_
    refine e_icmp_ne (M := md_X11_broken) (pc := 14) (tgt := 19) h rfl rfl dX11_broken_14 (by decide) (fun h => ?_) (fun h => ?_)
    · refine q_aload_n (M := md_X11_broken) (pc := 19) dX11_broken_19 rfl (by decide) ?_
      refine e_callVv (M := md_X11_broken) (pc := 20) (d' := 1) (av := []) (c := 81) h ml_11_544 im_X11_keepAct se_X11_keepAct dX11_broken_20 (fun v he => ok_X11_keepAct hN  he) rfl (is_81 hN) ⟨_, _, rfl⟩ (by decide) (Nat.le_of_ble_eq_true rfl) ⟨by decide, by decide⟩ rfl (fun _ m5 h => ?_)
      refine q_aload_n (M := md_X11_broken) (pc := 23) dX11_broken_23 rfl (by decide) ?_
      refine q_getP (M := md_X11_broken) (pc := 24) (v := 115) fl_11_115 dX11_broken_24 (is_81 hN) rfl ?_
      refine q_iconst (M := md_X11_broken) (pc := 27) dX11_broken_27 ?_
      refine q_iload_n (M := md_X11_broken) (pc := 28) dX11_broken_28 rfl ?_
      refine q_iadd (M := md_X11_broken) (pc := 29) dX11_broken_29 ?_
      refine q_iload_n (M := md_X11_broken) (pc := 30) dX11_broken_30 rfl ?_
      refine e_if_eq (M := md_X11_broken) (pc := 31) (tgt := 38) h rfl dX11_broken_31 (by decide) (fun h => ?_) (fun h => ?_)
      · refine q_iconst (M := md_X11_broken) (pc := 38) dX11_broken_38 ?_
        exact q_weak (w_Mod_broken_b39 hN  h) ⟨Or.inr rfl, Or.inl rfl, Or.inl rfl, trivial⟩
      · refine q_iconst (M := md_X11_broken) (pc := 34) dX11_broken_34 ?_
        refine q_goto (M := md_X11_broken) (pc := 35) (tgt := 39) dX11_broken_35 (by decide) ?_
        exact q_weak (w_Mod_broken_b39 hN  h) ⟨Or.inr rfl, Or.inl rfl, Or.inl rfl, trivial⟩
    · refine q_iconst (M := md_X11_broken) (pc := 17) dX11_broken_17 ?_
      exact e_iret (M := md_X11_broken) (pc := 18) h rfl dX11_broken_18
def f_Mod_swapAll_b2 (k2 : Int → q_Mem → q_Res) (l1 : Int) (m : q_Mem) : q_Res :=
  if 69 ≤ q_w l1 then (q_rt 0 m)
  else (q_rd m 123 1449 ((69 * (m 81 69)) + l1) fun v1 =>
  q_rd m 115 69 l1 fun v2 =>
  q_wr m 123 1449 ((69 * (m 81 69)) + l1) v2 fun m3 =>
  q_wr m3 115 69 l1 v1 fun m4 =>
  k2 (l1 + 1) m4)
set_option maxRecDepth 20000 in
theorem w_Mod_swapAll_b2 {k2 : Int → q_Mem → q_Res} {l1 : Int} {r : Int × q_Mem} {m : q_Mem} {N : Nat} (hN : 126 ≤ N) (hk2 : ∀ (l1 : Int) (m : q_Mem), k2 l1 m = some r → q_E md_X11_swapAll 1 N (none) r m 2 [q_A 81, q_I l1, q_N] []) (h : f_Mod_swapAll_b2 k2 l1 m = some r) : q_E md_X11_swapAll 1 N (none) r m 2 [q_A 81, q_I l1, q_N] [] := by
  unfold f_Mod_swapAll_b2 at h
  refine q_iload_n (M := md_X11_swapAll) (pc := 2) dX11_swapAll_2 rfl ?_
  refine q_bipush (M := md_X11_swapAll) (pc := 3) (x := 69) dX11_swapAll_3 (by decide) ?_
  refine e_icmp_ge (M := md_X11_swapAll) (pc := 5) (tgt := 56) h rfl (q_wlit rfl) dX11_swapAll_5 (by decide) (fun h => ?_) (fun h => ?_)
  · exact e_vret (M := md_X11_swapAll) (pc := 56) h rfl dX11_swapAll_56
  · refine q_aload_n (M := md_X11_swapAll) (pc := 8) dX11_swapAll_8 rfl (by decide) ?_
    refine q_getP (M := md_X11_swapAll) (pc := 9) (v := 123) fl_11_139 dX11_swapAll_9 (is_81 hN) rfl ?_
    refine q_bipush (M := md_X11_swapAll) (pc := 12) (x := 69) dX11_swapAll_12 (by decide) ?_
    refine q_aload_n (M := md_X11_swapAll) (pc := 14) dX11_swapAll_14 rfl (by decide) ?_
    refine e_gI (M := md_X11_swapAll) (pc := 15) (v := m 81 69) fl_11_408 dX11_swapAll_15 (is_81 hN) rfl ?_
    refine q_imul (M := md_X11_swapAll) (pc := 18) dX11_swapAll_18 ?_
    refine q_iload_n (M := md_X11_swapAll) (pc := 19) dX11_swapAll_19 rfl ?_
    refine q_iadd (M := md_X11_swapAll) (pc := 20) dX11_swapAll_20 ?_
    refine e_rd (M := md_X11_swapAll) (pc := 21) h dX11_swapAll_21 (ar_123 hN) (fun v1 h => ?_)
    refine e_ist_n (M := md_X11_swapAll) (pc := 22) (ls' := [q_A 81, q_I l1, q_I v1]) dX11_swapAll_22 (by decide) (q_pl rfl) rfl ?_
    refine q_aload_n (M := md_X11_swapAll) (pc := 23) dX11_swapAll_23 rfl (by decide) ?_
    refine q_getP (M := md_X11_swapAll) (pc := 24) (v := 123) fl_11_139 dX11_swapAll_24 (is_81 hN) rfl ?_
    refine q_bipush (M := md_X11_swapAll) (pc := 27) (x := 69) dX11_swapAll_27 (by decide) ?_
    refine q_aload_n (M := md_X11_swapAll) (pc := 29) dX11_swapAll_29 rfl (by decide) ?_
    refine e_gI (M := md_X11_swapAll) (pc := 30) (v := m 81 69) fl_11_408 dX11_swapAll_30 (is_81 hN) rfl ?_
    refine q_imul (M := md_X11_swapAll) (pc := 33) dX11_swapAll_33 ?_
    refine q_iload_n (M := md_X11_swapAll) (pc := 34) dX11_swapAll_34 rfl ?_
    refine q_iadd (M := md_X11_swapAll) (pc := 35) dX11_swapAll_35 ?_
    refine q_aload_n (M := md_X11_swapAll) (pc := 36) dX11_swapAll_36 rfl (by decide) ?_
    refine q_getP (M := md_X11_swapAll) (pc := 37) (v := 115) fl_11_115 dX11_swapAll_37 (is_81 hN) rfl ?_
    refine q_iload_n (M := md_X11_swapAll) (pc := 40) dX11_swapAll_40 rfl ?_
    refine e_rd (M := md_X11_swapAll) (pc := 41) h dX11_swapAll_41 (ar_115 hN) (fun v2 h => ?_)
    refine e_wr (M := md_X11_swapAll) (pc := 42) h dX11_swapAll_42 (ar_123 hN) (fun m3 h => ?_)
    refine q_aload_n (M := md_X11_swapAll) (pc := 43) dX11_swapAll_43 rfl (by decide) ?_
    refine q_getP (M := md_X11_swapAll) (pc := 44) (v := 115) fl_11_115 dX11_swapAll_44 (is_81 hN) rfl ?_
    refine q_iload_n (M := md_X11_swapAll) (pc := 47) dX11_swapAll_47 rfl ?_
    refine q_iload_n (M := md_X11_swapAll) (pc := 48) dX11_swapAll_48 rfl ?_
    refine e_wr (M := md_X11_swapAll) (pc := 49) h dX11_swapAll_49 (ar_115 hN) (fun m4 h => ?_)
    refine e_inc (M := md_X11_swapAll) (pc := 50) (x := l1) (ls' := [q_A 81, q_I (l1 + 1), q_I v1]) dX11_swapAll_50 rfl (by decide) (q_pl rfl) rfl ?_
    refine q_goto (M := md_X11_swapAll) (pc := 53) (tgt := 2) dX11_swapAll_53 (by decide) ?_
    exact q_weak (hk2 _ _  h) ⟨Or.inr rfl, Or.inr rfl, Or.inl rfl, trivial⟩
def f_Mod_swapAll_l2 : Nat → Int → q_Mem → q_Res
  | 0 => fun _ _ => none
  | n + 1 => fun l1 m => f_Mod_swapAll_b2 (f_Mod_swapAll_l2 n) l1 m
theorem w_Mod_swapAll_l2 {r : Int × q_Mem} {N : Nat} (hN : 126 ≤ N) : ∀ (n : Nat) (l1 : Int) (m : q_Mem), f_Mod_swapAll_l2 n l1 m = some r → q_E md_X11_swapAll 1 N (none) r m 2 [q_A 81, q_I l1, q_N] [] := by
  intro n
  induction n with
  | zero => intro l1 m h; exact q_no h
  | succ n ih =>
    intro l1 m h
    exact w_Mod_swapAll_b2 hN (fun l1 m h => ih l1 m h) h
def f_Mod_swapAll (m : q_Mem) : q_Res :=
  f_Mod_swapAll_l2 q_F 0 m
set_option maxRecDepth 20000 in
theorem ok_X11_swapAll {r : Int × q_Mem} {m : q_Mem} {N : Nat} (hN : 126 ≤ N) (h : f_Mod_swapAll m = some r) : q_C md_X11_swapAll (q_room 1) 0 0 [q_A 81] (q_g N) m (none, q_g N, r.2) := by
  refine q_ofR (by decide) 2 (ls := [q_A 81, q_N, q_N]) rfl (Nat.le_of_ble_eq_true rfl) ?_
  change q_E md_X11_swapAll 1 N (none) r m 0 [q_A 81, q_N, q_N] []
  unfold f_Mod_swapAll at h
  refine q_iconst (M := md_X11_swapAll) (pc := 0) dX11_swapAll_0 ?_
  refine e_ist_n (M := md_X11_swapAll) (pc := 1) (ls' := [q_A 81, q_I 0, q_N]) dX11_swapAll_1 (by decide) (q_pl rfl) rfl ?_
  exact q_weak (w_Mod_swapAll_l2 hN q_F _ _  h) ⟨Or.inr rfl, Or.inr rfl, Or.inl rfl, trivial⟩
def f_Mod_undo (m : q_Mem) : q_Res :=
  if q_w (m 81 69) = 0 then (q_rz 0 m)
  else (q_pf m 81 69 ((m 81 69) - 1) fun m1 =>
  q_pf m1 81 70 ((m1 81 70) + 1) fun m2 =>
  q_bd (f_Mod_swapAll m2) fun _ m3 =>
  q_rz 1 m3)
set_option maxRecDepth 20000 in
theorem ok_X11_undo {r : Int × q_Mem} {m : q_Mem} {N : Nat} (hN : 126 ≤ N) (h : f_Mod_undo m = some r) : q_C md_X11_undo (q_room 2) 0 0 [q_A 81] (q_g N) m (some (q_I r.1), q_g N, r.2) := by
  refine q_ofR (by decide) 0 (ls := [q_A 81]) rfl (Nat.le_of_ble_eq_true rfl) ?_
  change q_E md_X11_undo 2 N (some 0) r m 0 [q_A 81] []
  unfold f_Mod_undo at h
  refine q_aload_n (M := md_X11_undo) (pc := 0) dX11_undo_0 rfl (by decide) ?_
  refine e_gI (M := md_X11_undo) (pc := 1) (v := m 81 69) fl_11_408 dX11_undo_1 (is_81 hN) rfl ?_
  refine e_if_ne (M := md_X11_undo) (pc := 4) (tgt := 9) h rfl dX11_undo_4 (by decide) (fun h => ?_) (fun h => ?_)
  · refine q_aload_n (M := md_X11_undo) (pc := 9) dX11_undo_9 rfl (by decide) ?_
    refine q_dup (M := md_X11_undo) (pc := 10) dX11_undo_10 (show (2 : Nat) ≠ 1 by decide) ?_
    refine e_gI (M := md_X11_undo) (pc := 11) (v := m 81 69) fl_11_408 dX11_undo_11 (is_81 hN) rfl ?_
    refine q_iconst (M := md_X11_undo) (pc := 14) dX11_undo_14 ?_
    refine q_isub (M := md_X11_undo) (pc := 15) dX11_undo_15 ?_
    refine e_pfI (M := md_X11_undo) (pc := 16) h fl_11_408 dX11_undo_16 (is_81 hN) rfl (fun m1 h => ?_)
    refine q_aload_n (M := md_X11_undo) (pc := 19) dX11_undo_19 rfl (by decide) ?_
    refine q_dup (M := md_X11_undo) (pc := 20) dX11_undo_20 (show (2 : Nat) ≠ 1 by decide) ?_
    refine e_gI (M := md_X11_undo) (pc := 21) (v := m1 81 70) fl_11_411 dX11_undo_21 (is_81 hN) rfl ?_
    refine q_iconst (M := md_X11_undo) (pc := 24) dX11_undo_24 ?_
    refine q_iadd (M := md_X11_undo) (pc := 25) dX11_undo_25 ?_
    refine e_pfI (M := md_X11_undo) (pc := 26) h fl_11_411 dX11_undo_26 (is_81 hN) rfl (fun m2 h => ?_)
    refine q_aload_n (M := md_X11_undo) (pc := 29) dX11_undo_29 rfl (by decide) ?_
    refine e_callVv (M := md_X11_undo) (pc := 30) (d' := 1) (av := []) (c := 81) h ml_11_547 im_X11_swapAll se_X11_swapAll dX11_undo_30 (fun v he => ok_X11_swapAll hN  he) rfl (is_81 hN) ⟨_, _, rfl⟩ (by decide) (Nat.le_of_ble_eq_true rfl) ⟨by decide, by decide⟩ rfl (fun _ m3 h => ?_)
    refine q_iconst (M := md_X11_undo) (pc := 33) dX11_undo_33 ?_
    exact e_zret (M := md_X11_undo) (pc := 34) h rfl dX11_undo_34
  · refine q_iconst (M := md_X11_undo) (pc := 7) dX11_undo_7 ?_
    exact e_zret (M := md_X11_undo) (pc := 8) h rfl dX11_undo_8
def f_Mod_redo (m : q_Mem) : q_Res :=
  if q_w (m 81 70) = 0 then (q_rz 0 m)
  else (q_bd (f_Mod_swapAll m) fun _ m1 =>
  q_pf m1 81 69 ((m1 81 69) + 1) fun m2 =>
  q_pf m2 81 70 ((m2 81 70) - 1) fun m3 =>
  q_rz 1 m3)
set_option maxRecDepth 20000 in
theorem ok_X11_redo {r : Int × q_Mem} {m : q_Mem} {N : Nat} (hN : 126 ≤ N) (h : f_Mod_redo m = some r) : q_C md_X11_redo (q_room 2) 0 0 [q_A 81] (q_g N) m (some (q_I r.1), q_g N, r.2) := by
  refine q_ofR (by decide) 0 (ls := [q_A 81]) rfl (Nat.le_of_ble_eq_true rfl) ?_
  change q_E md_X11_redo 2 N (some 0) r m 0 [q_A 81] []
  unfold f_Mod_redo at h
  refine q_aload_n (M := md_X11_redo) (pc := 0) dX11_redo_0 rfl (by decide) ?_
  refine e_gI (M := md_X11_redo) (pc := 1) (v := m 81 70) fl_11_411 dX11_redo_1 (is_81 hN) rfl ?_
  refine e_if_ne (M := md_X11_redo) (pc := 4) (tgt := 9) h rfl dX11_redo_4 (by decide) (fun h => ?_) (fun h => ?_)
  · refine q_aload_n (M := md_X11_redo) (pc := 9) dX11_redo_9 rfl (by decide) ?_
    refine e_callVv (M := md_X11_redo) (pc := 10) (d' := 1) (av := []) (c := 81) h ml_11_547 im_X11_swapAll se_X11_swapAll dX11_redo_10 (fun v he => ok_X11_swapAll hN  he) rfl (is_81 hN) ⟨_, _, rfl⟩ (by decide) (Nat.le_of_ble_eq_true rfl) ⟨by decide, by decide⟩ rfl (fun _ m1 h => ?_)
    refine q_aload_n (M := md_X11_redo) (pc := 13) dX11_redo_13 rfl (by decide) ?_
    refine q_dup (M := md_X11_redo) (pc := 14) dX11_redo_14 (show (2 : Nat) ≠ 1 by decide) ?_
    refine e_gI (M := md_X11_redo) (pc := 15) (v := m1 81 69) fl_11_408 dX11_redo_15 (is_81 hN) rfl ?_
    refine q_iconst (M := md_X11_redo) (pc := 18) dX11_redo_18 ?_
    refine q_iadd (M := md_X11_redo) (pc := 19) dX11_redo_19 ?_
    refine e_pfI (M := md_X11_redo) (pc := 20) h fl_11_408 dX11_redo_20 (is_81 hN) rfl (fun m2 h => ?_)
    refine q_aload_n (M := md_X11_redo) (pc := 23) dX11_redo_23 rfl (by decide) ?_
    refine q_dup (M := md_X11_redo) (pc := 24) dX11_redo_24 (show (2 : Nat) ≠ 1 by decide) ?_
    refine e_gI (M := md_X11_redo) (pc := 25) (v := m2 81 70) fl_11_411 dX11_redo_25 (is_81 hN) rfl ?_
    refine q_iconst (M := md_X11_redo) (pc := 28) dX11_redo_28 ?_
    refine q_isub (M := md_X11_redo) (pc := 29) dX11_redo_29 ?_
    refine e_pfI (M := md_X11_redo) (pc := 30) h fl_11_411 dX11_redo_30 (is_81 hN) rfl (fun m3 h => ?_)
    refine q_iconst (M := md_X11_redo) (pc := 33) dX11_redo_33 ?_
    exact e_zret (M := md_X11_redo) (pc := 34) h rfl dX11_redo_34
  · refine q_iconst (M := md_X11_redo) (pc := 7) dX11_redo_7 ?_
    exact e_zret (M := md_X11_redo) (pc := 8) h rfl dX11_redo_8
def f_Mod_latencyNow (m : q_Mem) : q_Res :=
  q_bd (f_Mod_layNow m) fun _ m1 =>
  q_rt (m1 81 53) m1
set_option maxRecDepth 20000 in
theorem ok_X11_latencyNow {r : Int × q_Mem} {m : q_Mem} {N : Nat} (hN : 126 ≤ N) (h : f_Mod_latencyNow m = some r) : q_C md_X11_latencyNow (q_room 7) 0 0 [q_A 81] (q_g N) m (some (q_I r.1), q_g N, r.2) := by
  refine q_ofR (by decide) 0 (ls := [q_A 81]) rfl (Nat.le_of_ble_eq_true rfl) ?_
  change q_E md_X11_latencyNow 7 N (some 0) r m 0 [q_A 81] []
  unfold f_Mod_latencyNow at h
  refine q_aload_n (M := md_X11_latencyNow) (pc := 0) dX11_latencyNow_0 rfl (by decide) ?_
  refine e_callVv (M := md_X11_latencyNow) (pc := 1) (d' := 6) (av := []) (c := 81) h ml_11_437 im_X11_layNow se_X11_layNow dX11_latencyNow_1 (fun v he => ok_X11_layNow hN  he) rfl (is_81 hN) ⟨_, _, rfl⟩ (by decide) (Nat.le_of_ble_eq_true rfl) ⟨by decide, by decide⟩ rfl (fun _ m1 h => ?_)
  refine q_aload_n (M := md_X11_latencyNow) (pc := 4) dX11_latencyNow_4 rfl (by decide) ?_
  refine e_gI (M := md_X11_latencyNow) (pc := 5) (v := m1 81 53) fl_11_415 dX11_latencyNow_5 (is_81 hN) rfl ?_
  exact e_iret (M := md_X11_latencyNow) (pc := 8) h rfl dX11_latencyNow_8
def f_Mod_image_b13 (k13 : Int → Int → q_Mem → q_Res) (l1 l2 : Int) (m : q_Mem) : q_Res :=
  if 69 ≤ q_w l2 then (q_wrz m 125 2 l1 1 fun m1 =>
  q_bd (f_Mod_latencyNow m1) fun v2 m3 =>
  q_rt v2 m3)
  else (q_rd m 115 69 l2 fun v4 =>
  q_wr m 124 138 ((69 * l1) + l2) v4 fun m5 =>
  k13 l1 (l2 + 1) m5)
set_option maxRecDepth 20000 in
theorem w_Mod_image_b13 {k13 : Int → Int → q_Mem → q_Res} {l1 l2 : Int} {r : Int × q_Mem} {m : q_Mem} {N : Nat} (hN : 126 ≤ N) (hk13 : ∀ (l1 l2 : Int) (m : q_Mem), k13 l1 l2 m = some r → q_E md_X11_image 8 N (some 0) r m 13 [q_A 81, q_I l1, q_I l2] []) (h : f_Mod_image_b13 k13 l1 l2 m = some r) : q_E md_X11_image 8 N (some 0) r m 13 [q_A 81, q_I l1, q_I l2] [] := by
  unfold f_Mod_image_b13 at h
  refine q_iload_n (M := md_X11_image) (pc := 13) dX11_image_13 rfl ?_
  refine q_bipush (M := md_X11_image) (pc := 14) (x := 69) dX11_image_14 (by decide) ?_
  refine e_icmp_ge (M := md_X11_image) (pc := 16) (tgt := 42) h rfl (q_wlit rfl) dX11_image_16 (by decide) (fun h => ?_) (fun h => ?_)
  · refine q_aload_n (M := md_X11_image) (pc := 42) dX11_image_42 rfl (by decide) ?_
    refine q_getP (M := md_X11_image) (pc := 43) (v := 125) fl_11_145 dX11_image_43 (is_81 hN) rfl ?_
    refine q_iload_n (M := md_X11_image) (pc := 46) dX11_image_46 rfl ?_
    refine q_iconst (M := md_X11_image) (pc := 47) dX11_image_47 ?_
    refine e_wrz (M := md_X11_image) (pc := 48) h dX11_image_48 (ar_125 hN) (fun m1 h => ?_)
    refine q_aload_n (M := md_X11_image) (pc := 49) dX11_image_49 rfl (by decide) ?_
    refine e_callVi (M := md_X11_image) (pc := 50) (d' := 7) (av := []) (c := 81) h ml_11_550 im_X11_latencyNow se_X11_latencyNow dX11_image_50 (fun v he => ok_X11_latencyNow hN  he) rfl (is_81 hN) ⟨_, _, rfl⟩ (by decide) (Nat.le_of_ble_eq_true rfl) ⟨by decide, by decide⟩ rfl (fun v2 m3 h => ?_)
    exact e_iret (M := md_X11_image) (pc := 53) h rfl dX11_image_53
  · refine q_aload_n (M := md_X11_image) (pc := 19) dX11_image_19 rfl (by decide) ?_
    refine q_getP (M := md_X11_image) (pc := 20) (v := 124) fl_11_142 dX11_image_20 (is_81 hN) rfl ?_
    refine q_bipush (M := md_X11_image) (pc := 23) (x := 69) dX11_image_23 (by decide) ?_
    refine q_iload_n (M := md_X11_image) (pc := 25) dX11_image_25 rfl ?_
    refine q_imul (M := md_X11_image) (pc := 26) dX11_image_26 ?_
    refine q_iload_n (M := md_X11_image) (pc := 27) dX11_image_27 rfl ?_
    refine q_iadd (M := md_X11_image) (pc := 28) dX11_image_28 ?_
    refine q_aload_n (M := md_X11_image) (pc := 29) dX11_image_29 rfl (by decide) ?_
    refine q_getP (M := md_X11_image) (pc := 30) (v := 115) fl_11_115 dX11_image_30 (is_81 hN) rfl ?_
    refine q_iload_n (M := md_X11_image) (pc := 33) dX11_image_33 rfl ?_
    refine e_rd (M := md_X11_image) (pc := 34) h dX11_image_34 (ar_115 hN) (fun v4 h => ?_)
    refine e_wr (M := md_X11_image) (pc := 35) h dX11_image_35 (ar_124 hN) (fun m5 h => ?_)
    refine e_inc (M := md_X11_image) (pc := 36) (x := l2) (ls' := [q_A 81, q_I l1, q_I (l2 + 1)]) dX11_image_36 rfl (by decide) (q_pl rfl) rfl ?_
    refine q_goto (M := md_X11_image) (pc := 39) (tgt := 13) dX11_image_39 (by decide) ?_
    exact q_weak (hk13 _ _ _  h) ⟨Or.inr rfl, Or.inr rfl, Or.inr rfl, trivial⟩
def f_Mod_image_l13 : Nat → Int → Int → q_Mem → q_Res
  | 0 => fun _ _ _ => none
  | n + 1 => fun l1 l2 m => f_Mod_image_b13 (f_Mod_image_l13 n) l1 l2 m
theorem w_Mod_image_l13 {r : Int × q_Mem} {N : Nat} (hN : 126 ≤ N) : ∀ (n : Nat) (l1 l2 : Int) (m : q_Mem), f_Mod_image_l13 n l1 l2 m = some r → q_E md_X11_image 8 N (some 0) r m 13 [q_A 81, q_I l1, q_I l2] [] := by
  intro n
  induction n with
  | zero => intro l1 l2 m h; exact q_no h
  | succ n ih =>
    intro l1 l2 m h
    exact w_Mod_image_b13 hN (fun l1 l2 m h => ih l1 l2 m h) h
def f_Mod_image (l1 : Int) (m : q_Mem) : q_Res :=
  q_bd (f_Mod_isIn l1 0 1 m) fun v1 m2 =>
  if q_w v1 = 0 then (q_rt (-1) m2)
  else (f_Mod_image_l13 q_F l1 0 m2)
set_option maxRecDepth 20000 in
theorem ok_X11_image {l1 : Int} {r : Int × q_Mem} {m : q_Mem} {N : Nat} (hN : 126 ≤ N) (h : f_Mod_image l1 m = some r) : q_C md_X11_image (q_room 8) 0 0 [q_A 81, q_I l1] (q_g N) m (some (q_I r.1), q_g N, r.2) := by
  refine q_ofR (by decide) 1 (ls := [q_A 81, q_I l1, q_N]) rfl (Nat.le_of_ble_eq_true rfl) ?_
  change q_E md_X11_image 8 N (some 0) r m 0 [q_A 81, q_I l1, q_N] []
  unfold f_Mod_image at h
  refine q_iload_n (M := md_X11_image) (pc := 0) dX11_image_0 rfl ?_
  refine q_iconst (M := md_X11_image) (pc := 1) dX11_image_1 ?_
  refine q_iconst (M := md_X11_image) (pc := 2) dX11_image_2 ?_
  refine e_callSi (M := md_X11_image) (pc := 3) (d' := 1) (M' := md_X11_isIn) (av := [q_I l1, q_I 0, q_I 1]) h ml_11_221 sm_X11_isIn dX11_image_3 (fun v he => ok_X11_isIn hN  he) rfl (Nat.le_of_ble_eq_true rfl) ⟨by decide, by decide⟩ rfl (fun v1 m2 h => ?_)
  refine e_if_ne (M := md_X11_image) (pc := 6) (tgt := 11) h rfl dX11_image_6 (by decide) (fun h => ?_) (fun h => ?_)
  · refine q_iconst (M := md_X11_image) (pc := 11) dX11_image_11 ?_
    refine e_ist_n (M := md_X11_image) (pc := 12) (ls' := [q_A 81, q_I l1, q_I 0]) dX11_image_12 (by decide) (q_pl rfl) rfl ?_
    exact q_weak (w_Mod_image_l13 hN q_F _ _ _  h) ⟨Or.inr rfl, Or.inr rfl, Or.inr rfl, trivial⟩
  · refine q_iconst (M := md_X11_image) (pc := 9) dX11_image_9 ?_
    exact e_iret (M := md_X11_image) (pc := 10) h rfl dX11_image_10
def f_Mod_back_b22 (k22 : Int → Int → q_Mem → q_Res) (l1 l2 : Int) (m : q_Mem) : q_Res :=
  if 69 ≤ q_w l2 then (q_pf m 81 69 0 fun m1 =>
  q_pf m1 81 70 0 fun m2 =>
  q_bd (f_Mod_latencyNow m2) fun v3 m4 =>
  q_rt v3 m4)
  else (q_rd m 124 138 ((69 * l1) + l2) fun v5 =>
  q_wr m 115 69 l2 v5 fun m6 =>
  k22 l1 (l2 + 1) m6)
set_option maxRecDepth 20000 in
theorem w_Mod_back_b22 {k22 : Int → Int → q_Mem → q_Res} {l1 l2 : Int} {r : Int × q_Mem} {m : q_Mem} {N : Nat} (hN : 126 ≤ N) (hk22 : ∀ (l1 l2 : Int) (m : q_Mem), k22 l1 l2 m = some r → q_E md_X11_back 8 N (some 0) r m 22 [q_A 81, q_I l1, q_I l2] []) (h : f_Mod_back_b22 k22 l1 l2 m = some r) : q_E md_X11_back 8 N (some 0) r m 22 [q_A 81, q_I l1, q_I l2] [] := by
  unfold f_Mod_back_b22 at h
  refine q_iload_n (M := md_X11_back) (pc := 22) dX11_back_22 rfl ?_
  refine q_bipush (M := md_X11_back) (pc := 23) (x := 69) dX11_back_23 (by decide) ?_
  refine e_icmp_ge (M := md_X11_back) (pc := 25) (tgt := 51) h rfl (q_wlit rfl) dX11_back_25 (by decide) (fun h => ?_) (fun h => ?_)
  · refine q_aload_n (M := md_X11_back) (pc := 51) dX11_back_51 rfl (by decide) ?_
    refine q_iconst (M := md_X11_back) (pc := 52) dX11_back_52 ?_
    refine e_pfI (M := md_X11_back) (pc := 53) h fl_11_408 dX11_back_53 (is_81 hN) rfl (fun m1 h => ?_)
    refine q_aload_n (M := md_X11_back) (pc := 56) dX11_back_56 rfl (by decide) ?_
    refine q_iconst (M := md_X11_back) (pc := 57) dX11_back_57 ?_
    refine e_pfI (M := md_X11_back) (pc := 58) h fl_11_411 dX11_back_58 (is_81 hN) rfl (fun m2 h => ?_)
    refine q_aload_n (M := md_X11_back) (pc := 61) dX11_back_61 rfl (by decide) ?_
    refine e_callVi (M := md_X11_back) (pc := 62) (d' := 7) (av := []) (c := 81) h ml_11_550 im_X11_latencyNow se_X11_latencyNow dX11_back_62 (fun v he => ok_X11_latencyNow hN  he) rfl (is_81 hN) ⟨_, _, rfl⟩ (by decide) (Nat.le_of_ble_eq_true rfl) ⟨by decide, by decide⟩ rfl (fun v3 m4 h => ?_)
    exact e_iret (M := md_X11_back) (pc := 65) h rfl dX11_back_65
  · refine q_aload_n (M := md_X11_back) (pc := 28) dX11_back_28 rfl (by decide) ?_
    refine q_getP (M := md_X11_back) (pc := 29) (v := 115) fl_11_115 dX11_back_29 (is_81 hN) rfl ?_
    refine q_iload_n (M := md_X11_back) (pc := 32) dX11_back_32 rfl ?_
    refine q_aload_n (M := md_X11_back) (pc := 33) dX11_back_33 rfl (by decide) ?_
    refine q_getP (M := md_X11_back) (pc := 34) (v := 124) fl_11_142 dX11_back_34 (is_81 hN) rfl ?_
    refine q_bipush (M := md_X11_back) (pc := 37) (x := 69) dX11_back_37 (by decide) ?_
    refine q_iload_n (M := md_X11_back) (pc := 39) dX11_back_39 rfl ?_
    refine q_imul (M := md_X11_back) (pc := 40) dX11_back_40 ?_
    refine q_iload_n (M := md_X11_back) (pc := 41) dX11_back_41 rfl ?_
    refine q_iadd (M := md_X11_back) (pc := 42) dX11_back_42 ?_
    refine e_rd (M := md_X11_back) (pc := 43) h dX11_back_43 (ar_124 hN) (fun v5 h => ?_)
    refine e_wr (M := md_X11_back) (pc := 44) h dX11_back_44 (ar_115 hN) (fun m6 h => ?_)
    refine e_inc (M := md_X11_back) (pc := 45) (x := l2) (ls' := [q_A 81, q_I l1, q_I (l2 + 1)]) dX11_back_45 rfl (by decide) (q_pl rfl) rfl ?_
    refine q_goto (M := md_X11_back) (pc := 48) (tgt := 22) dX11_back_48 (by decide) ?_
    exact q_weak (hk22 _ _ _  h) ⟨Or.inr rfl, Or.inr rfl, Or.inr rfl, trivial⟩
def f_Mod_back_l22 : Nat → Int → Int → q_Mem → q_Res
  | 0 => fun _ _ _ => none
  | n + 1 => fun l1 l2 m => f_Mod_back_b22 (f_Mod_back_l22 n) l1 l2 m
theorem w_Mod_back_l22 {r : Int × q_Mem} {N : Nat} (hN : 126 ≤ N) : ∀ (n : Nat) (l1 l2 : Int) (m : q_Mem), f_Mod_back_l22 n l1 l2 m = some r → q_E md_X11_back 8 N (some 0) r m 22 [q_A 81, q_I l1, q_I l2] [] := by
  intro n
  induction n with
  | zero => intro l1 l2 m h; exact q_no h
  | succ n ih =>
    intro l1 l2 m h
    exact w_Mod_back_b22 hN (fun l1 l2 m h => ih l1 l2 m h) h
def f_Mod_back (l1 : Int) (m : q_Mem) : q_Res :=
  q_bd (f_Mod_isIn l1 0 1 m) fun v1 m2 =>
  if q_w v1 = 0 then (q_rt (-1) m2)
  else (q_rd m2 125 2 l1 fun v3 =>
  if q_w v3 = 0 then (q_rt (-1) m2)
  else (f_Mod_back_l22 q_F l1 0 m2))
set_option maxRecDepth 20000 in
theorem ok_X11_back {l1 : Int} {r : Int × q_Mem} {m : q_Mem} {N : Nat} (hN : 126 ≤ N) (h : f_Mod_back l1 m = some r) : q_C md_X11_back (q_room 8) 0 0 [q_A 81, q_I l1] (q_g N) m (some (q_I r.1), q_g N, r.2) := by
  refine q_ofR (by decide) 1 (ls := [q_A 81, q_I l1, q_N]) rfl (Nat.le_of_ble_eq_true rfl) ?_
  change q_E md_X11_back 8 N (some 0) r m 0 [q_A 81, q_I l1, q_N] []
  unfold f_Mod_back at h
  refine q_iload_n (M := md_X11_back) (pc := 0) dX11_back_0 rfl ?_
  refine q_iconst (M := md_X11_back) (pc := 1) dX11_back_1 ?_
  refine q_iconst (M := md_X11_back) (pc := 2) dX11_back_2 ?_
  refine e_callSi (M := md_X11_back) (pc := 3) (d' := 1) (M' := md_X11_isIn) (av := [q_I l1, q_I 0, q_I 1]) h ml_11_221 sm_X11_isIn dX11_back_3 (fun v he => ok_X11_isIn hN  he) rfl (Nat.le_of_ble_eq_true rfl) ⟨by decide, by decide⟩ rfl (fun v1 m2 h => ?_)
  refine e_if_eq (M := md_X11_back) (pc := 6) (tgt := 18) h rfl dX11_back_6 (by decide) (fun h => ?_) (fun h => ?_)
  · refine q_iconst (M := md_X11_back) (pc := 18) dX11_back_18 ?_
    exact e_iret (M := md_X11_back) (pc := 19) h rfl dX11_back_19
  · refine q_aload_n (M := md_X11_back) (pc := 9) dX11_back_9 rfl (by decide) ?_
    refine q_getP (M := md_X11_back) (pc := 10) (v := 125) fl_11_145 dX11_back_10 (is_81 hN) rfl ?_
    refine q_iload_n (M := md_X11_back) (pc := 13) dX11_back_13 rfl ?_
    refine e_rdz (M := md_X11_back) (pc := 14) h dX11_back_14 (ar_125 hN) (fun v3 h => ?_)
    refine e_if_ne (M := md_X11_back) (pc := 15) (tgt := 20) h rfl dX11_back_15 (by decide) (fun h => ?_) (fun h => ?_)
    · refine q_iconst (M := md_X11_back) (pc := 20) dX11_back_20 ?_
      refine e_ist_n (M := md_X11_back) (pc := 21) (ls' := [q_A 81, q_I l1, q_I 0]) dX11_back_21 (by decide) (q_pl rfl) rfl ?_
      exact q_weak (w_Mod_back_l22 hN q_F _ _ _  h) ⟨Or.inr rfl, Or.inr rfl, Or.inr rfl, trivial⟩
    · refine q_iconst (M := md_X11_back) (pc := 18) dX11_back_18 ?_
      exact e_iret (M := md_X11_back) (pc := 19) h rfl dX11_back_19
def f_Mod_about_b106 (l1 : Int) (m : q_Mem) : q_Res :=
  q_rd m 115 69 (l1 - 5) fun v1 =>
  q_rt v1 m
set_option maxRecDepth 20000 in
theorem w_Mod_about_b106 {l1 : Int} {r : Int × q_Mem} {m : q_Mem} {N : Nat} (hN : 126 ≤ N) (h : f_Mod_about_b106 l1 m = some r) : q_E md_X11_about 2 N (some 0) r m 106 [q_A 81, q_I l1] [] := by
  unfold f_Mod_about_b106 at h
  refine q_aload_n (M := md_X11_about) (pc := 106) dX11_about_106 rfl (by decide) ?_
  refine q_getP (M := md_X11_about) (pc := 107) (v := 115) fl_11_115 dX11_about_107 (is_81 hN) rfl ?_
  refine q_iload_n (M := md_X11_about) (pc := 110) dX11_about_110 rfl ?_
  refine q_iconst (M := md_X11_about) (pc := 111) dX11_about_111 ?_
  refine q_isub (M := md_X11_about) (pc := 112) dX11_about_112 ?_
  refine e_rd (M := md_X11_about) (pc := 113) h dX11_about_113 (ar_115 hN) (fun v1 h => ?_)
  exact e_iret (M := md_X11_about) (pc := 114) h rfl dX11_about_114
def f_Mod_about (l1 : Int) (m : q_Mem) : q_Res :=
  if q_w l1 = 0 then (q_bd (f_Mod_rowsNow m) fun v2 m3 =>
  q_rt v2 m3)
  else if q_w l1 = 1 then (q_bd (f_Mod_columnsNow m) fun v5 m6 =>
  q_rt v5 m6)
  else if q_w l1 = 2 then (q_bd (f_Mod_many m) fun v8 m9 =>
  q_rt v8 m9)
  else if q_w l1 = 3 then (q_bd (f_Mod_offsetsNow m) fun v11 m12 =>
  q_rt v11 m12)
  else if q_w l1 = 4 then (q_rd m 86 2 (m 81 19) fun v14 =>
  q_rt v14 m)
  else if q_w l1 = 5 then (f_Mod_about_b106 l1 m)
  else if q_w l1 = 6 then (f_Mod_about_b106 l1 m)
  else if q_w l1 = 7 then (f_Mod_about_b106 l1 m)
  else if q_w l1 = 8 then (f_Mod_about_b106 l1 m)
  else if q_w l1 = 9 then (f_Mod_about_b106 l1 m)
  else if q_w l1 = 10 then (q_bd (f_Mod_brokenMany m) fun v21 m22 =>
  q_rt v21 m22)
  else if q_w l1 = 11 then (q_rd m 85 2 (m 81 19) fun v24 =>
  q_rt v24 m)
  else if q_w l1 = 12 then (q_rt (m 81 69) m)
  else if q_w l1 = 13 then (q_rt (m 81 70) m)
  else if q_w l1 = 14 then (q_rt (m 81 21) m)
  else (q_rt (-1000) m)
set_option maxRecDepth 20000 in
theorem ok_X11_about {l1 : Int} {r : Int × q_Mem} {m : q_Mem} {N : Nat} (hN : 126 ≤ N) (h : f_Mod_about l1 m = some r) : q_C md_X11_about (q_room 2) 0 0 [q_A 81, q_I l1] (q_g N) m (some (q_I r.1), q_g N, r.2) := by
  refine q_ofR (by decide) 0 (ls := [q_A 81, q_I l1]) rfl (Nat.le_of_ble_eq_true rfl) ?_
  change q_E md_X11_about 2 N (some 0) r m 0 [q_A 81, q_I l1] []
  unfold f_Mod_about at h
  refine q_iload_n (M := md_X11_about) (pc := 0) dX11_about_0 rfl ?_
  by_cases c1 : q_w l1 = 0
  · rw [if_pos c1] at h
    refine q_tabIn (M := md_X11_about) (pc := 1) (tgt := 76) dX11_about_1 (by rw [c1] <;> decide) (by rw [c1] <;> decide) (by rw [c1] <;> rfl) (by decide) ?_
    refine q_aload_n (M := md_X11_about) (pc := 76) dX11_about_76 rfl (by decide) ?_
    refine e_callVi (M := md_X11_about) (pc := 77) (d' := 1) (av := []) (c := 81) h ml_11_318 im_X11_rowsNow se_X11_rowsNow dX11_about_77 (fun v he => ok_X11_rowsNow hN  he) rfl (is_81 hN) ⟨_, _, rfl⟩ (by decide) (Nat.le_of_ble_eq_true rfl) ⟨by decide, by decide⟩ rfl (fun v2 m3 h => ?_)
    exact e_iret (M := md_X11_about) (pc := 80) h rfl dX11_about_80
  rw [if_neg c1] at h
  by_cases c4 : q_w l1 = 1
  · rw [if_pos c4] at h
    refine q_tabIn (M := md_X11_about) (pc := 1) (tgt := 81) dX11_about_1 (by rw [c4] <;> decide) (by rw [c4] <;> decide) (by rw [c4] <;> rfl) (by decide) ?_
    refine q_aload_n (M := md_X11_about) (pc := 81) dX11_about_81 rfl (by decide) ?_
    refine e_callVi (M := md_X11_about) (pc := 82) (d' := 1) (av := []) (c := 81) h ml_11_321 im_X11_columnsNow se_X11_columnsNow dX11_about_82 (fun v he => ok_X11_columnsNow hN  he) rfl (is_81 hN) ⟨_, _, rfl⟩ (by decide) (Nat.le_of_ble_eq_true rfl) ⟨by decide, by decide⟩ rfl (fun v5 m6 h => ?_)
    exact e_iret (M := md_X11_about) (pc := 85) h rfl dX11_about_85
  rw [if_neg c4] at h
  by_cases c7 : q_w l1 = 2
  · rw [if_pos c7] at h
    refine q_tabIn (M := md_X11_about) (pc := 1) (tgt := 86) dX11_about_1 (by rw [c7] <;> decide) (by rw [c7] <;> decide) (by rw [c7] <;> rfl) (by decide) ?_
    refine q_aload_n (M := md_X11_about) (pc := 86) dX11_about_86 rfl (by decide) ?_
    refine e_callVi (M := md_X11_about) (pc := 87) (d' := 1) (av := []) (c := 81) h ml_11_315 im_X11_many se_X11_many dX11_about_87 (fun v he => ok_X11_many hN  he) rfl (is_81 hN) ⟨_, _, rfl⟩ (by decide) (Nat.le_of_ble_eq_true rfl) ⟨by decide, by decide⟩ rfl (fun v8 m9 h => ?_)
    exact e_iret (M := md_X11_about) (pc := 90) h rfl dX11_about_90
  rw [if_neg c7] at h
  by_cases c10 : q_w l1 = 3
  · rw [if_pos c10] at h
    refine q_tabIn (M := md_X11_about) (pc := 1) (tgt := 91) dX11_about_1 (by rw [c10] <;> decide) (by rw [c10] <;> decide) (by rw [c10] <;> rfl) (by decide) ?_
    refine q_aload_n (M := md_X11_about) (pc := 91) dX11_about_91 rfl (by decide) ?_
    refine e_callVi (M := md_X11_about) (pc := 92) (d' := 1) (av := []) (c := 81) h ml_11_339 im_X11_offsetsNow se_X11_offsetsNow dX11_about_92 (fun v he => ok_X11_offsetsNow hN  he) rfl (is_81 hN) ⟨_, _, rfl⟩ (by decide) (Nat.le_of_ble_eq_true rfl) ⟨by decide, by decide⟩ rfl (fun v11 m12 h => ?_)
    exact e_iret (M := md_X11_about) (pc := 95) h rfl dX11_about_95
  rw [if_neg c10] at h
  by_cases c13 : q_w l1 = 4
  · rw [if_pos c13] at h
    refine q_tabIn (M := md_X11_about) (pc := 1) (tgt := 96) dX11_about_1 (by rw [c13] <;> decide) (by rw [c13] <;> decide) (by rw [c13] <;> rfl) (by decide) ?_
    refine q_aload_n (M := md_X11_about) (pc := 96) dX11_about_96 rfl (by decide) ?_
    refine q_getP (M := md_X11_about) (pc := 97) (v := 86) fl_11_22 dX11_about_97 (is_81 hN) rfl ?_
    refine q_aload_n (M := md_X11_about) (pc := 100) dX11_about_100 rfl (by decide) ?_
    refine e_gI (M := md_X11_about) (pc := 101) (v := m 81 19) fl_11_306 dX11_about_101 (is_81 hN) rfl ?_
    refine e_rd (M := md_X11_about) (pc := 104) h dX11_about_104 (ar_86 hN) (fun v14 h => ?_)
    exact e_iret (M := md_X11_about) (pc := 105) h rfl dX11_about_105
  rw [if_neg c13] at h
  by_cases c15 : q_w l1 = 5
  · rw [if_pos c15] at h
    refine q_tabIn (M := md_X11_about) (pc := 1) (tgt := 106) dX11_about_1 (by rw [c15] <;> decide) (by rw [c15] <;> decide) (by rw [c15] <;> rfl) (by decide) ?_
    exact q_weak (w_Mod_about_b106 hN  h) ⟨Or.inr rfl, Or.inr rfl, trivial⟩
  rw [if_neg c15] at h
  by_cases c16 : q_w l1 = 6
  · rw [if_pos c16] at h
    refine q_tabIn (M := md_X11_about) (pc := 1) (tgt := 106) dX11_about_1 (by rw [c16] <;> decide) (by rw [c16] <;> decide) (by rw [c16] <;> rfl) (by decide) ?_
    exact q_weak (w_Mod_about_b106 hN  h) ⟨Or.inr rfl, Or.inr rfl, trivial⟩
  rw [if_neg c16] at h
  by_cases c17 : q_w l1 = 7
  · rw [if_pos c17] at h
    refine q_tabIn (M := md_X11_about) (pc := 1) (tgt := 106) dX11_about_1 (by rw [c17] <;> decide) (by rw [c17] <;> decide) (by rw [c17] <;> rfl) (by decide) ?_
    exact q_weak (w_Mod_about_b106 hN  h) ⟨Or.inr rfl, Or.inr rfl, trivial⟩
  rw [if_neg c17] at h
  by_cases c18 : q_w l1 = 8
  · rw [if_pos c18] at h
    refine q_tabIn (M := md_X11_about) (pc := 1) (tgt := 106) dX11_about_1 (by rw [c18] <;> decide) (by rw [c18] <;> decide) (by rw [c18] <;> rfl) (by decide) ?_
    exact q_weak (w_Mod_about_b106 hN  h) ⟨Or.inr rfl, Or.inr rfl, trivial⟩
  rw [if_neg c18] at h
  by_cases c19 : q_w l1 = 9
  · rw [if_pos c19] at h
    refine q_tabIn (M := md_X11_about) (pc := 1) (tgt := 106) dX11_about_1 (by rw [c19] <;> decide) (by rw [c19] <;> decide) (by rw [c19] <;> rfl) (by decide) ?_
    exact q_weak (w_Mod_about_b106 hN  h) ⟨Or.inr rfl, Or.inr rfl, trivial⟩
  rw [if_neg c19] at h
  by_cases c20 : q_w l1 = 10
  · rw [if_pos c20] at h
    refine q_tabIn (M := md_X11_about) (pc := 1) (tgt := 115) dX11_about_1 (by rw [c20] <;> decide) (by rw [c20] <;> decide) (by rw [c20] <;> rfl) (by decide) ?_
    refine q_aload_n (M := md_X11_about) (pc := 115) dX11_about_115 rfl (by decide) ?_
    refine e_callVi (M := md_X11_about) (pc := 116) (d' := 1) (av := []) (c := 81) h ml_11_467 im_X11_brokenMany se_X11_brokenMany dX11_about_116 (fun v he => ok_X11_brokenMany hN  he) rfl (is_81 hN) ⟨_, _, rfl⟩ (by decide) (Nat.le_of_ble_eq_true rfl) ⟨by decide, by decide⟩ rfl (fun v21 m22 h => ?_)
    exact e_iret (M := md_X11_about) (pc := 119) h rfl dX11_about_119
  rw [if_neg c20] at h
  by_cases c23 : q_w l1 = 11
  · rw [if_pos c23] at h
    refine q_tabIn (M := md_X11_about) (pc := 1) (tgt := 120) dX11_about_1 (by rw [c23] <;> decide) (by rw [c23] <;> decide) (by rw [c23] <;> rfl) (by decide) ?_
    refine q_aload_n (M := md_X11_about) (pc := 120) dX11_about_120 rfl (by decide) ?_
    refine q_getP (M := md_X11_about) (pc := 121) (v := 85) fl_11_19 dX11_about_121 (is_81 hN) rfl ?_
    refine q_aload_n (M := md_X11_about) (pc := 124) dX11_about_124 rfl (by decide) ?_
    refine e_gI (M := md_X11_about) (pc := 125) (v := m 81 19) fl_11_306 dX11_about_125 (is_81 hN) rfl ?_
    refine e_rd (M := md_X11_about) (pc := 128) h dX11_about_128 (ar_85 hN) (fun v24 h => ?_)
    exact e_iret (M := md_X11_about) (pc := 129) h rfl dX11_about_129
  rw [if_neg c23] at h
  by_cases c25 : q_w l1 = 12
  · rw [if_pos c25] at h
    refine q_tabIn (M := md_X11_about) (pc := 1) (tgt := 130) dX11_about_1 (by rw [c25] <;> decide) (by rw [c25] <;> decide) (by rw [c25] <;> rfl) (by decide) ?_
    refine q_aload_n (M := md_X11_about) (pc := 130) dX11_about_130 rfl (by decide) ?_
    refine e_gI (M := md_X11_about) (pc := 131) (v := m 81 69) fl_11_408 dX11_about_131 (is_81 hN) rfl ?_
    exact e_iret (M := md_X11_about) (pc := 134) h rfl dX11_about_134
  rw [if_neg c25] at h
  by_cases c26 : q_w l1 = 13
  · rw [if_pos c26] at h
    refine q_tabIn (M := md_X11_about) (pc := 1) (tgt := 135) dX11_about_1 (by rw [c26] <;> decide) (by rw [c26] <;> decide) (by rw [c26] <;> rfl) (by decide) ?_
    refine q_aload_n (M := md_X11_about) (pc := 135) dX11_about_135 rfl (by decide) ?_
    refine e_gI (M := md_X11_about) (pc := 136) (v := m 81 70) fl_11_411 dX11_about_136 (is_81 hN) rfl ?_
    exact e_iret (M := md_X11_about) (pc := 139) h rfl dX11_about_139
  rw [if_neg c26] at h
  by_cases c27 : q_w l1 = 14
  · rw [if_pos c27] at h
    refine q_tabIn (M := md_X11_about) (pc := 1) (tgt := 140) dX11_about_1 (by rw [c27] <;> decide) (by rw [c27] <;> decide) (by rw [c27] <;> rfl) (by decide) ?_
    refine q_aload_n (M := md_X11_about) (pc := 140) dX11_about_140 rfl (by decide) ?_
    refine e_gI (M := md_X11_about) (pc := 141) (v := m 81 21) fl_11_159 dX11_about_141 (is_81 hN) rfl ?_
    exact e_iret (M := md_X11_about) (pc := 144) h rfl dX11_about_144
  rw [if_neg c27] at h
  refine q_tabOut (M := md_X11_about) (pc := 1) (tgt := 145) dX11_about_1 (by omega) (by decide) ?_
  refine q_sipush (M := md_X11_about) (pc := 145) (x := -1000) dX11_about_145 (by decide) ?_
  exact e_iret (M := md_X11_about) (pc := 148) h rfl dX11_about_148
