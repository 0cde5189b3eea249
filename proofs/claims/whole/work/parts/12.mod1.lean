def f_Mod_isIn (l0 l1 l2 : Int) (m : q_Mem) : q_Res :=
  if q_w l0 < q_w l1 then (q_rz 0 m)
  else (if q_w l2 < q_w l0 then (q_rz 0 m)
  else (q_rz 1 m))
set_option maxRecDepth 20000 in
theorem ok_X11_isIn {l0 l1 l2 : Int} {r : Int × q_Mem} {m : q_Mem} {N : Nat} (hN : 126 ≤ N) (h : f_Mod_isIn l0 l1 l2 m = some r) : q_C md_X11_isIn (q_room 1) 0 0 [q_I l0, q_I l1, q_I l2] (q_g N) m (some (q_I r.1), q_g N, r.2) := by
  refine q_ofR (by decide) 0 (ls := [q_I l0, q_I l1, q_I l2]) rfl (Nat.le_of_ble_eq_true rfl) ?_
  change q_E md_X11_isIn 1 N (some 0) r m 0 [q_I l0, q_I l1, q_I l2] []
  unfold f_Mod_isIn at h
  refine q_iload_n (M := md_X11_isIn) (pc := 0) dX11_isIn_0 rfl ?_
  refine q_iload_n (M := md_X11_isIn) (pc := 1) dX11_isIn_1 rfl ?_
  refine e_icmp_lt (M := md_X11_isIn) (pc := 2) (tgt := 14) h rfl rfl dX11_isIn_2 (by decide) (fun h => ?_) (fun h => ?_)
  · refine q_iconst (M := md_X11_isIn) (pc := 14) dX11_isIn_14 ?_
    exact e_zret (M := md_X11_isIn) (pc := 15) h rfl dX11_isIn_15
  · refine q_iload_n (M := md_X11_isIn) (pc := 5) dX11_isIn_5 rfl ?_
    refine q_iload_n (M := md_X11_isIn) (pc := 6) dX11_isIn_6 rfl ?_
    refine e_icmp_gt (M := md_X11_isIn) (pc := 7) (tgt := 14) h rfl rfl dX11_isIn_7 (by decide) (fun h => ?_) (fun h => ?_)
    · refine q_iconst (M := md_X11_isIn) (pc := 14) dX11_isIn_14 ?_
      exact e_zret (M := md_X11_isIn) (pc := 15) h rfl dX11_isIn_15
    · refine q_iconst (M := md_X11_isIn) (pc := 10) dX11_isIn_10 ?_
      refine q_goto (M := md_X11_isIn) (pc := 11) (tgt := 15) dX11_isIn_11 (by decide) ?_
      exact e_zret (M := md_X11_isIn) (pc := 15) h rfl dX11_isIn_15
def f_Mod_less (l0 l1 : Int) (m : q_Mem) : q_Res :=
  if q_w l1 ≤ q_w l0 then (q_rt l1 m)
  else (q_rt l0 m)
set_option maxRecDepth 20000 in
theorem ok_X11_less {l0 l1 : Int} {r : Int × q_Mem} {m : q_Mem} {N : Nat} (hN : 126 ≤ N) (h : f_Mod_less l0 l1 m = some r) : q_C md_X11_less (q_room 1) 0 0 [q_I l0, q_I l1] (q_g N) m (some (q_I r.1), q_g N, r.2) := by
  refine q_ofR (by decide) 0 (ls := [q_I l0, q_I l1]) rfl (Nat.le_of_ble_eq_true rfl) ?_
  change q_E md_X11_less 1 N (some 0) r m 0 [q_I l0, q_I l1] []
  unfold f_Mod_less at h
  refine q_iload_n (M := md_X11_less) (pc := 0) dX11_less_0 rfl ?_
  refine q_iload_n (M := md_X11_less) (pc := 1) dX11_less_1 rfl ?_
  refine e_icmp_ge (M := md_X11_less) (pc := 2) (tgt := 9) h rfl rfl dX11_less_2 (by decide) (fun h => ?_) (fun h => ?_)
  · refine q_iload_n (M := md_X11_less) (pc := 9) dX11_less_9 rfl ?_
    exact e_iret (M := md_X11_less) (pc := 10) h rfl dX11_less_10
  · refine q_iload_n (M := md_X11_less) (pc := 5) dX11_less_5 rfl ?_
    refine q_goto (M := md_X11_less) (pc := 6) (tgt := 10) dX11_less_6 (by decide) ?_
    exact e_iret (M := md_X11_less) (pc := 10) h rfl dX11_less_10
def f_Mod_more (l0 l1 : Int) (m : q_Mem) : q_Res :=
  if q_w l0 ≤ q_w l1 then (q_rt l1 m)
  else (q_rt l0 m)
set_option maxRecDepth 20000 in
theorem ok_X11_more {l0 l1 : Int} {r : Int × q_Mem} {m : q_Mem} {N : Nat} (hN : 126 ≤ N) (h : f_Mod_more l0 l1 m = some r) : q_C md_X11_more (q_room 1) 0 0 [q_I l0, q_I l1] (q_g N) m (some (q_I r.1), q_g N, r.2) := by
  refine q_ofR (by decide) 0 (ls := [q_I l0, q_I l1]) rfl (Nat.le_of_ble_eq_true rfl) ?_
  change q_E md_X11_more 1 N (some 0) r m 0 [q_I l0, q_I l1] []
  unfold f_Mod_more at h
  refine q_iload_n (M := md_X11_more) (pc := 0) dX11_more_0 rfl ?_
  refine q_iload_n (M := md_X11_more) (pc := 1) dX11_more_1 rfl ?_
  refine e_icmp_le (M := md_X11_more) (pc := 2) (tgt := 9) h rfl rfl dX11_more_2 (by decide) (fun h => ?_) (fun h => ?_)
  · refine q_iload_n (M := md_X11_more) (pc := 9) dX11_more_9 rfl ?_
    exact e_iret (M := md_X11_more) (pc := 10) h rfl dX11_more_10
  · refine q_iload_n (M := md_X11_more) (pc := 5) dX11_more_5 rfl ?_
    refine q_goto (M := md_X11_more) (pc := 6) (tgt := 10) dX11_more_6 (by decide) ?_
    exact e_iret (M := md_X11_more) (pc := 10) h rfl dX11_more_10
def f_Mod_size (l0 : Int) (m : q_Mem) : q_Res :=
  if 0 ≤ q_w l0 then (q_rt l0 m)
  else (q_rt (-l0) m)
set_option maxRecDepth 20000 in
theorem ok_X11_size {l0 : Int} {r : Int × q_Mem} {m : q_Mem} {N : Nat} (hN : 126 ≤ N) (h : f_Mod_size l0 m = some r) : q_C md_X11_size (q_room 1) 0 0 [q_I l0] (q_g N) m (some (q_I r.1), q_g N, r.2) := by
  refine q_ofR (by decide) 0 (ls := [q_I l0]) rfl (Nat.le_of_ble_eq_true rfl) ?_
  change q_E md_X11_size 1 N (some 0) r m 0 [q_I l0] []
  unfold f_Mod_size at h
  refine q_iload_n (M := md_X11_size) (pc := 0) dX11_size_0 rfl ?_
  refine e_if_ge (M := md_X11_size) (pc := 1) (tgt := 9) h rfl dX11_size_1 (by decide) (fun h => ?_) (fun h => ?_)
  · refine q_iload_n (M := md_X11_size) (pc := 9) dX11_size_9 rfl ?_
    exact e_iret (M := md_X11_size) (pc := 10) h rfl dX11_size_10
  · refine q_iload_n (M := md_X11_size) (pc := 4) dX11_size_4 rfl ?_
    refine q_ineg (M := md_X11_size) (pc := 5) dX11_size_5 ?_
    refine q_goto (M := md_X11_size) (pc := 6) (tgt := 10) dX11_size_6 (by decide) ?_
    exact e_iret (M := md_X11_size) (pc := 10) h rfl dX11_size_10
def f_Mod_common_b10 (k10 : Int → Int → q_Mem → q_Res) (l2 l3 : Int) (m : q_Mem) : q_Res :=
  if q_w l3 = 0 then (q_rt l2 m)
  else (q_md l2 l3 fun v1 =>
  k10 l3 v1 m)
set_option maxRecDepth 20000 in
theorem w_Mod_common_b10 {k10 : Int → Int → q_Mem → q_Res} {l2 l3 : Int} {r : Int × q_Mem} {m : q_Mem} {N : Nat} (hN : 126 ≤ N) (hk10 : ∀ (l2 l3 : Int) (m : q_Mem), k10 l2 l3 m = some r → q_E md_X11_common 2 N (some 0) r m 10 [q_N, q_N, q_I l2, q_I l3, q_N] []) (h : f_Mod_common_b10 k10 l2 l3 m = some r) : q_E md_X11_common 2 N (some 0) r m 10 [q_N, q_N, q_I l2, q_I l3, q_N] [] := by
  unfold f_Mod_common_b10 at h
  refine q_iload_n (M := md_X11_common) (pc := 10) dX11_common_10 rfl ?_
  refine e_if_eq (M := md_X11_common) (pc := 11) (tgt := 27) h rfl dX11_common_11 (by decide) (fun h => ?_) (fun h => ?_)
  · refine q_iload_n (M := md_X11_common) (pc := 27) dX11_common_27 rfl ?_
    exact e_iret (M := md_X11_common) (pc := 28) h rfl dX11_common_28
  · refine q_iload_n (M := md_X11_common) (pc := 14) dX11_common_14 rfl ?_
    refine q_iload_n (M := md_X11_common) (pc := 15) dX11_common_15 rfl ?_
    refine e_md (M := md_X11_common) (pc := 16) h dX11_common_16 (fun v1 h => ?_)
    refine e_ist (M := md_X11_common) (pc := 17) (ls' := [q_N, q_N, q_I l2, q_I l3, q_I v1]) dX11_common_17 (by decide) (q_pl rfl) rfl ?_
    refine q_iload_n (M := md_X11_common) (pc := 19) dX11_common_19 rfl ?_
    refine e_ist_n (M := md_X11_common) (pc := 20) (ls' := [q_N, q_N, q_I l3, q_I l3, q_I v1]) dX11_common_20 (by decide) (q_pl rfl) rfl ?_
    refine q_iload (M := md_X11_common) (pc := 21) dX11_common_21 rfl ?_
    refine e_ist_n (M := md_X11_common) (pc := 23) (ls' := [q_N, q_N, q_I l3, q_I v1, q_I v1]) dX11_common_23 (by decide) (q_pl rfl) rfl ?_
    refine q_goto (M := md_X11_common) (pc := 24) (tgt := 10) dX11_common_24 (by decide) ?_
    exact q_weak (hk10 _ _ _  h) ⟨Or.inl rfl, Or.inl rfl, Or.inr rfl, Or.inr rfl, Or.inl rfl, trivial⟩
def f_Mod_common_l10 : Nat → Int → Int → q_Mem → q_Res
  | 0 => fun _ _ _ => none
  | n + 1 => fun l2 l3 m => f_Mod_common_b10 (f_Mod_common_l10 n) l2 l3 m
theorem w_Mod_common_l10 {r : Int × q_Mem} {N : Nat} (hN : 126 ≤ N) : ∀ (n : Nat) (l2 l3 : Int) (m : q_Mem), f_Mod_common_l10 n l2 l3 m = some r → q_E md_X11_common 2 N (some 0) r m 10 [q_N, q_N, q_I l2, q_I l3, q_N] [] := by
  intro n
  induction n with
  | zero => intro l2 l3 m h; exact q_no h
  | succ n ih =>
    intro l2 l3 m h
    exact w_Mod_common_b10 hN (fun l2 l3 m h => ih l2 l3 m h) h
def f_Mod_common (l0 l1 : Int) (m : q_Mem) : q_Res :=
  q_bd (f_Mod_size l0 m) fun v1 m2 =>
  q_bd (f_Mod_size l1 m2) fun v3 m4 =>
  f_Mod_common_l10 q_F v1 v3 m4
set_option maxRecDepth 20000 in
theorem ok_X11_common {l0 l1 : Int} {r : Int × q_Mem} {m : q_Mem} {N : Nat} (hN : 126 ≤ N) (h : f_Mod_common l0 l1 m = some r) : q_C md_X11_common (q_room 2) 0 0 [q_I l0, q_I l1] (q_g N) m (some (q_I r.1), q_g N, r.2) := by
  refine q_ofR (by decide) 3 (ls := [q_I l0, q_I l1, q_N, q_N, q_N]) rfl (Nat.le_of_ble_eq_true rfl) ?_
  change q_E md_X11_common 2 N (some 0) r m 0 [q_I l0, q_I l1, q_N, q_N, q_N] []
  unfold f_Mod_common at h
  refine q_iload_n (M := md_X11_common) (pc := 0) dX11_common_0 rfl ?_
  refine e_callSi (M := md_X11_common) (pc := 1) (d' := 1) (M' := md_X11_size) (av := [q_I l0]) h ml_11_155 sm_X11_size dX11_common_1 (fun v he => ok_X11_size hN  he) rfl (Nat.le_of_ble_eq_true rfl) ⟨by decide, by decide⟩ rfl (fun v1 m2 h => ?_)
  refine e_ist_n (M := md_X11_common) (pc := 4) (ls' := [q_I l0, q_I l1, q_I v1, q_N, q_N]) dX11_common_4 (by decide) (q_pl rfl) rfl ?_
  refine q_iload_n (M := md_X11_common) (pc := 5) dX11_common_5 rfl ?_
  refine e_callSi (M := md_X11_common) (pc := 6) (d' := 1) (M' := md_X11_size) (av := [q_I l1]) h ml_11_155 sm_X11_size dX11_common_6 (fun v he => ok_X11_size hN  he) rfl (Nat.le_of_ble_eq_true rfl) ⟨by decide, by decide⟩ rfl (fun v3 m4 h => ?_)
  refine e_ist_n (M := md_X11_common) (pc := 9) (ls' := [q_I l0, q_I l1, q_I v1, q_I v3, q_N]) dX11_common_9 (by decide) (q_pl rfl) rfl ?_
  exact q_weak (w_Mod_common_l10 hN q_F _ _ _  h) ⟨Or.inl rfl, Or.inl rfl, Or.inr rfl, Or.inr rfl, Or.inl rfl, trivial⟩
def f_Mod_clearBank (l1 : Int) (m : q_Mem) : q_Res :=
  q_wr m 82 2 l1 1 fun m1 =>
  q_wr m1 83 2 l1 1 fun m2 =>
  q_wr m2 84 2 l1 0 fun m3 =>
  q_wr m3 85 2 l1 0 fun m4 =>
  q_wr m4 86 2 l1 0 fun m5 =>
  q_wr m5 87 2 l1 0 fun m6 =>
  q_wr m6 88 2 l1 1 fun m7 =>
  q_wr m7 89 2 l1 1 fun m8 =>
  q_wr m8 90 2 l1 1 fun m9 =>
  q_wr m9 91 2 l1 0 fun m10 =>
  q_wr m10 92 2 l1 0 fun m11 =>
  q_rt 0 m11
set_option maxRecDepth 20000 in
theorem ok_X11_clearBank {l1 : Int} {r : Int × q_Mem} {m : q_Mem} {N : Nat} (hN : 126 ≤ N) (h : f_Mod_clearBank l1 m = some r) : q_C md_X11_clearBank (q_room 1) 0 0 [q_A 81, q_I l1] (q_g N) m (none, q_g N, r.2) := by
  refine q_ofR (by decide) 0 (ls := [q_A 81, q_I l1]) rfl (Nat.le_of_ble_eq_true rfl) ?_
  change q_E md_X11_clearBank 1 N (none) r m 0 [q_A 81, q_I l1] []
  unfold f_Mod_clearBank at h
  refine q_aload_n (M := md_X11_clearBank) (pc := 0) dX11_clearBank_0 rfl (by decide) ?_
  refine q_getP (M := md_X11_clearBank) (pc := 1) (v := 82) fl_11_7 dX11_clearBank_1 (is_81 hN) rfl ?_
  refine q_iload_n (M := md_X11_clearBank) (pc := 4) dX11_clearBank_4 rfl ?_
  refine q_iconst (M := md_X11_clearBank) (pc := 5) dX11_clearBank_5 ?_
  refine e_wr (M := md_X11_clearBank) (pc := 6) h dX11_clearBank_6 (ar_82 hN) (fun m1 h => ?_)
  refine q_aload_n (M := md_X11_clearBank) (pc := 7) dX11_clearBank_7 rfl (by decide) ?_
  refine q_getP (M := md_X11_clearBank) (pc := 8) (v := 83) fl_11_13 dX11_clearBank_8 (is_81 hN) rfl ?_
  refine q_iload_n (M := md_X11_clearBank) (pc := 11) dX11_clearBank_11 rfl ?_
  refine q_iconst (M := md_X11_clearBank) (pc := 12) dX11_clearBank_12 ?_
  refine e_wr (M := md_X11_clearBank) (pc := 13) h dX11_clearBank_13 (ar_83 hN) (fun m2 h => ?_)
  refine q_aload_n (M := md_X11_clearBank) (pc := 14) dX11_clearBank_14 rfl (by decide) ?_
  refine q_getP (M := md_X11_clearBank) (pc := 15) (v := 84) fl_11_16 dX11_clearBank_15 (is_81 hN) rfl ?_
  refine q_iload_n (M := md_X11_clearBank) (pc := 18) dX11_clearBank_18 rfl ?_
  refine q_iconst (M := md_X11_clearBank) (pc := 19) dX11_clearBank_19 ?_
  refine e_wr (M := md_X11_clearBank) (pc := 20) h dX11_clearBank_20 (ar_84 hN) (fun m3 h => ?_)
  refine q_aload_n (M := md_X11_clearBank) (pc := 21) dX11_clearBank_21 rfl (by decide) ?_
  refine q_getP (M := md_X11_clearBank) (pc := 22) (v := 85) fl_11_19 dX11_clearBank_22 (is_81 hN) rfl ?_
  refine q_iload_n (M := md_X11_clearBank) (pc := 25) dX11_clearBank_25 rfl ?_
  refine q_iconst (M := md_X11_clearBank) (pc := 26) dX11_clearBank_26 ?_
  refine e_wr (M := md_X11_clearBank) (pc := 27) h dX11_clearBank_27 (ar_85 hN) (fun m4 h => ?_)
  refine q_aload_n (M := md_X11_clearBank) (pc := 28) dX11_clearBank_28 rfl (by decide) ?_
  refine q_getP (M := md_X11_clearBank) (pc := 29) (v := 86) fl_11_22 dX11_clearBank_29 (is_81 hN) rfl ?_
  refine q_iload_n (M := md_X11_clearBank) (pc := 32) dX11_clearBank_32 rfl ?_
  refine q_iconst (M := md_X11_clearBank) (pc := 33) dX11_clearBank_33 ?_
  refine e_wr (M := md_X11_clearBank) (pc := 34) h dX11_clearBank_34 (ar_86 hN) (fun m5 h => ?_)
  refine q_aload_n (M := md_X11_clearBank) (pc := 35) dX11_clearBank_35 rfl (by decide) ?_
  refine q_getP (M := md_X11_clearBank) (pc := 36) (v := 87) fl_11_25 dX11_clearBank_36 (is_81 hN) rfl ?_
  refine q_iload_n (M := md_X11_clearBank) (pc := 39) dX11_clearBank_39 rfl ?_
  refine q_iconst (M := md_X11_clearBank) (pc := 40) dX11_clearBank_40 ?_
  refine e_wr (M := md_X11_clearBank) (pc := 41) h dX11_clearBank_41 (ar_87 hN) (fun m6 h => ?_)
  refine q_aload_n (M := md_X11_clearBank) (pc := 42) dX11_clearBank_42 rfl (by decide) ?_
  refine q_getP (M := md_X11_clearBank) (pc := 43) (v := 88) fl_11_28 dX11_clearBank_43 (is_81 hN) rfl ?_
  refine q_iload_n (M := md_X11_clearBank) (pc := 46) dX11_clearBank_46 rfl ?_
  refine q_iconst (M := md_X11_clearBank) (pc := 47) dX11_clearBank_47 ?_
  refine e_wr (M := md_X11_clearBank) (pc := 48) h dX11_clearBank_48 (ar_88 hN) (fun m7 h => ?_)
  refine q_aload_n (M := md_X11_clearBank) (pc := 49) dX11_clearBank_49 rfl (by decide) ?_
  refine q_getP (M := md_X11_clearBank) (pc := 50) (v := 89) fl_11_31 dX11_clearBank_50 (is_81 hN) rfl ?_
  refine q_iload_n (M := md_X11_clearBank) (pc := 53) dX11_clearBank_53 rfl ?_
  refine q_iconst (M := md_X11_clearBank) (pc := 54) dX11_clearBank_54 ?_
  refine e_wr (M := md_X11_clearBank) (pc := 55) h dX11_clearBank_55 (ar_89 hN) (fun m8 h => ?_)
  refine q_aload_n (M := md_X11_clearBank) (pc := 56) dX11_clearBank_56 rfl (by decide) ?_
  refine q_getP (M := md_X11_clearBank) (pc := 57) (v := 90) fl_11_34 dX11_clearBank_57 (is_81 hN) rfl ?_
  refine q_iload_n (M := md_X11_clearBank) (pc := 60) dX11_clearBank_60 rfl ?_
  refine q_iconst (M := md_X11_clearBank) (pc := 61) dX11_clearBank_61 ?_
  refine e_wr (M := md_X11_clearBank) (pc := 62) h dX11_clearBank_62 (ar_90 hN) (fun m9 h => ?_)
  refine q_aload_n (M := md_X11_clearBank) (pc := 63) dX11_clearBank_63 rfl (by decide) ?_
  refine q_getP (M := md_X11_clearBank) (pc := 64) (v := 91) fl_11_37 dX11_clearBank_64 (is_81 hN) rfl ?_
  refine q_iload_n (M := md_X11_clearBank) (pc := 67) dX11_clearBank_67 rfl ?_
  refine q_iconst (M := md_X11_clearBank) (pc := 68) dX11_clearBank_68 ?_
  refine e_wr (M := md_X11_clearBank) (pc := 69) h dX11_clearBank_69 (ar_91 hN) (fun m10 h => ?_)
  refine q_aload_n (M := md_X11_clearBank) (pc := 70) dX11_clearBank_70 rfl (by decide) ?_
  refine q_getP (M := md_X11_clearBank) (pc := 71) (v := 92) fl_11_40 dX11_clearBank_71 (is_81 hN) rfl ?_
  refine q_iload_n (M := md_X11_clearBank) (pc := 74) dX11_clearBank_74 rfl ?_
  refine q_iconst (M := md_X11_clearBank) (pc := 75) dX11_clearBank_75 ?_
  refine e_wr (M := md_X11_clearBank) (pc := 76) h dX11_clearBank_76 (ar_92 hN) (fun m11 h => ?_)
  exact e_vret (M := md_X11_clearBank) (pc := 77) h rfl dX11_clearBank_77
def f_Mod_feed_b71 (k18 : Int → Int → Int → Int → Int → Int → q_Mem → q_Res) (l1 l2 l3 l4 l5 l6 s0 : Int) (m : q_Mem) : q_Res :=
  q_wr m 101 800 ((m 81 21) + l6) (q_i2b (q_i2b (q_shr s0 (24 - (8 * (q_and l6 3)))))) fun m1 =>
  k18 l1 l2 l3 l4 l5 (l6 + 1) m1
set_option maxRecDepth 20000 in
theorem w_Mod_feed_b71 {k18 : Int → Int → Int → Int → Int → Int → q_Mem → q_Res} {l1 l2 l3 l4 l5 l6 s0 : Int} {r : Int × q_Mem} {m : q_Mem} {N : Nat} (hN : 126 ≤ N) (hk18 : ∀ (l1 l2 l3 l4 l5 l6 : Int) (m : q_Mem), k18 l1 l2 l3 l4 l5 l6 m = some r → q_E md_X11_feed 1 N (some 0) r m 18 [q_A 81, q_I l1, q_I l2, q_I l3, q_I l4, q_I l5, q_I l6, q_N] []) (h : f_Mod_feed_b71 k18 l1 l2 l3 l4 l5 l6 s0 m = some r) : q_E md_X11_feed 1 N (some 0) r m 71 [q_A 81, q_I l1, q_I l2, q_I l3, q_I l4, q_I l5, q_I l6, q_N] [q_I s0] := by
  unfold f_Mod_feed_b71 at h
  refine e_ist (M := md_X11_feed) (pc := 71) (ls' := [q_A 81, q_I l1, q_I l2, q_I l3, q_I l4, q_I l5, q_I l6, q_I s0]) dX11_feed_71 (by decide) (q_pl rfl) rfl ?_
  refine q_aload_n (M := md_X11_feed) (pc := 73) dX11_feed_73 rfl (by decide) ?_
  refine q_getP (M := md_X11_feed) (pc := 74) (v := 101) fl_11_67 dX11_feed_74 (is_81 hN) rfl ?_
  refine q_aload_n (M := md_X11_feed) (pc := 77) dX11_feed_77 rfl (by decide) ?_
  refine e_gI (M := md_X11_feed) (pc := 78) (v := m 81 21) fl_11_159 dX11_feed_78 (is_81 hN) rfl ?_
  refine q_iload (M := md_X11_feed) (pc := 81) dX11_feed_81 rfl ?_
  refine q_iadd (M := md_X11_feed) (pc := 83) dX11_feed_83 ?_
  refine q_iload (M := md_X11_feed) (pc := 84) dX11_feed_84 rfl ?_
  refine q_bipush (M := md_X11_feed) (pc := 86) (x := 24) dX11_feed_86 (by decide) ?_
  refine q_bipush (M := md_X11_feed) (pc := 88) (x := 8) dX11_feed_88 (by decide) ?_
  refine q_iload (M := md_X11_feed) (pc := 90) dX11_feed_90 rfl ?_
  refine q_iconst (M := md_X11_feed) (pc := 92) dX11_feed_92 ?_
  refine q_iand (M := md_X11_feed) (pc := 93) dX11_feed_93 ?_
  refine q_imul (M := md_X11_feed) (pc := 94) dX11_feed_94 ?_
  refine q_isub (M := md_X11_feed) (pc := 95) dX11_feed_95 ?_
  refine q_ishr (M := md_X11_feed) (pc := 96) dX11_feed_96 ?_
  refine q_i2b_ (M := md_X11_feed) (pc := 97) dX11_feed_97 ?_
  refine e_wrb (M := md_X11_feed) (pc := 98) h dX11_feed_98 (ar_101 hN) (fun m1 h => ?_)
  refine e_inc (M := md_X11_feed) (pc := 99) (x := l6) (ls' := [q_A 81, q_I l1, q_I l2, q_I l3, q_I l4, q_I l5, q_I (l6 + 1), q_I s0]) dX11_feed_99 rfl (by decide) (q_pl rfl) rfl ?_
  refine q_goto (M := md_X11_feed) (pc := 102) (tgt := 18) dX11_feed_102 (by decide) ?_
  exact q_weak (hk18 _ _ _ _ _ _ _  h) ⟨Or.inr rfl, Or.inr rfl, Or.inr rfl, Or.inr rfl, Or.inr rfl, Or.inr rfl, Or.inr rfl, Or.inl rfl, trivial⟩
def f_Mod_feed_b18 (k18 : Int → Int → Int → Int → Int → Int → q_Mem → q_Res) (l1 l2 l3 l4 l5 l6 : Int) (m : q_Mem) : q_Res :=
  if 20 ≤ q_w l6 then (q_pf m 81 21 ((m 81 21) + 20) fun m1 =>
  q_rt (m1 81 21) m1)
  else (if 4 ≤ q_w l6 then (if 8 ≤ q_w l6 then (if 12 ≤ q_w l6 then (if 16 ≤ q_w l6 then (f_Mod_feed_b71 k18 l1 l2 l3 l4 l5 l6 l5 m)
  else (f_Mod_feed_b71 k18 l1 l2 l3 l4 l5 l6 l4 m))
  else (f_Mod_feed_b71 k18 l1 l2 l3 l4 l5 l6 l3 m))
  else (f_Mod_feed_b71 k18 l1 l2 l3 l4 l5 l6 l2 m))
  else (f_Mod_feed_b71 k18 l1 l2 l3 l4 l5 l6 l1 m))
set_option maxRecDepth 20000 in
theorem w_Mod_feed_b18 {k18 : Int → Int → Int → Int → Int → Int → q_Mem → q_Res} {l1 l2 l3 l4 l5 l6 : Int} {r : Int × q_Mem} {m : q_Mem} {N : Nat} (hN : 126 ≤ N) (hk18 : ∀ (l1 l2 l3 l4 l5 l6 : Int) (m : q_Mem), k18 l1 l2 l3 l4 l5 l6 m = some r → q_E md_X11_feed 1 N (some 0) r m 18 [q_A 81, q_I l1, q_I l2, q_I l3, q_I l4, q_I l5, q_I l6, q_N] []) (h : f_Mod_feed_b18 k18 l1 l2 l3 l4 l5 l6 m = some r) : q_E md_X11_feed 1 N (some 0) r m 18 [q_A 81, q_I l1, q_I l2, q_I l3, q_I l4, q_I l5, q_I l6, q_N] [] := by
  unfold f_Mod_feed_b18 at h
  refine q_iload (M := md_X11_feed) (pc := 18) dX11_feed_18 rfl ?_
  refine q_bipush (M := md_X11_feed) (pc := 20) (x := 20) dX11_feed_20 (by decide) ?_
  refine e_icmp_ge (M := md_X11_feed) (pc := 22) (tgt := 105) h rfl (q_wlit rfl) dX11_feed_22 (by decide) (fun h => ?_) (fun h => ?_)
  · refine q_aload_n (M := md_X11_feed) (pc := 105) dX11_feed_105 rfl (by decide) ?_
    refine q_dup (M := md_X11_feed) (pc := 106) dX11_feed_106 (show (2 : Nat) ≠ 1 by decide) ?_
    refine e_gI (M := md_X11_feed) (pc := 107) (v := m 81 21) fl_11_159 dX11_feed_107 (is_81 hN) rfl ?_
    refine q_bipush (M := md_X11_feed) (pc := 110) (x := 20) dX11_feed_110 (by decide) ?_
    refine q_iadd (M := md_X11_feed) (pc := 112) dX11_feed_112 ?_
    refine e_pfI (M := md_X11_feed) (pc := 113) h fl_11_159 dX11_feed_113 (is_81 hN) rfl (fun m1 h => ?_)
    refine q_aload_n (M := md_X11_feed) (pc := 116) dX11_feed_116 rfl (by decide) ?_
    refine e_gI (M := md_X11_feed) (pc := 117) (v := m1 81 21) fl_11_159 dX11_feed_117 (is_81 hN) rfl ?_
    exact e_iret (M := md_X11_feed) (pc := 120) h rfl dX11_feed_120
  · refine q_iload (M := md_X11_feed) (pc := 25) dX11_feed_25 rfl ?_
    refine q_iconst (M := md_X11_feed) (pc := 27) dX11_feed_27 ?_
    refine e_icmp_ge (M := md_X11_feed) (pc := 28) (tgt := 35) h rfl (q_wlit rfl) dX11_feed_28 (by decide) (fun h => ?_) (fun h => ?_)
    · refine q_iload (M := md_X11_feed) (pc := 35) dX11_feed_35 rfl ?_
      refine q_bipush (M := md_X11_feed) (pc := 37) (x := 8) dX11_feed_37 (by decide) ?_
      refine e_icmp_ge (M := md_X11_feed) (pc := 39) (tgt := 46) h rfl (q_wlit rfl) dX11_feed_39 (by decide) (fun h => ?_) (fun h => ?_)
      · refine q_iload (M := md_X11_feed) (pc := 46) dX11_feed_46 rfl ?_
        refine q_bipush (M := md_X11_feed) (pc := 48) (x := 12) dX11_feed_48 (by decide) ?_
        refine e_icmp_ge (M := md_X11_feed) (pc := 50) (tgt := 57) h rfl (q_wlit rfl) dX11_feed_50 (by decide) (fun h => ?_) (fun h => ?_)
        · refine q_iload (M := md_X11_feed) (pc := 57) dX11_feed_57 rfl ?_
          refine q_bipush (M := md_X11_feed) (pc := 59) (x := 16) dX11_feed_59 (by decide) ?_
          refine e_icmp_ge (M := md_X11_feed) (pc := 61) (tgt := 69) h rfl (q_wlit rfl) dX11_feed_61 (by decide) (fun h => ?_) (fun h => ?_)
          · refine q_iload (M := md_X11_feed) (pc := 69) dX11_feed_69 rfl ?_
            exact q_weak (w_Mod_feed_b71 hN hk18  h) ⟨Or.inr rfl, Or.inr rfl, Or.inr rfl, Or.inr rfl, Or.inr rfl, Or.inr rfl, Or.inr rfl, Or.inl rfl, trivial⟩
          · refine q_iload (M := md_X11_feed) (pc := 64) dX11_feed_64 rfl ?_
            refine q_goto (M := md_X11_feed) (pc := 66) (tgt := 71) dX11_feed_66 (by decide) ?_
            exact q_weak (w_Mod_feed_b71 hN hk18  h) ⟨Or.inr rfl, Or.inr rfl, Or.inr rfl, Or.inr rfl, Or.inr rfl, Or.inr rfl, Or.inr rfl, Or.inl rfl, trivial⟩
        · refine q_iload_n (M := md_X11_feed) (pc := 53) dX11_feed_53 rfl ?_
          refine q_goto (M := md_X11_feed) (pc := 54) (tgt := 71) dX11_feed_54 (by decide) ?_
          exact q_weak (w_Mod_feed_b71 hN hk18  h) ⟨Or.inr rfl, Or.inr rfl, Or.inr rfl, Or.inr rfl, Or.inr rfl, Or.inr rfl, Or.inr rfl, Or.inl rfl, trivial⟩
      · refine q_iload_n (M := md_X11_feed) (pc := 42) dX11_feed_42 rfl ?_
        refine q_goto (M := md_X11_feed) (pc := 43) (tgt := 71) dX11_feed_43 (by decide) ?_
        exact q_weak (w_Mod_feed_b71 hN hk18  h) ⟨Or.inr rfl, Or.inr rfl, Or.inr rfl, Or.inr rfl, Or.inr rfl, Or.inr rfl, Or.inr rfl, Or.inl rfl, trivial⟩
    · refine q_iload_n (M := md_X11_feed) (pc := 31) dX11_feed_31 rfl ?_
      refine q_goto (M := md_X11_feed) (pc := 32) (tgt := 71) dX11_feed_32 (by decide) ?_
      exact q_weak (w_Mod_feed_b71 hN hk18  h) ⟨Or.inr rfl, Or.inr rfl, Or.inr rfl, Or.inr rfl, Or.inr rfl, Or.inr rfl, Or.inr rfl, Or.inl rfl, trivial⟩
def f_Mod_feed_l18 : Nat → Int → Int → Int → Int → Int → Int → q_Mem → q_Res
  | 0 => fun _ _ _ _ _ _ _ => none
  | n + 1 => fun l1 l2 l3 l4 l5 l6 m => f_Mod_feed_b18 (f_Mod_feed_l18 n) l1 l2 l3 l4 l5 l6 m
theorem w_Mod_feed_l18 {r : Int × q_Mem} {N : Nat} (hN : 126 ≤ N) : ∀ (n : Nat) (l1 l2 l3 l4 l5 l6 : Int) (m : q_Mem), f_Mod_feed_l18 n l1 l2 l3 l4 l5 l6 m = some r → q_E md_X11_feed 1 N (some 0) r m 18 [q_A 81, q_I l1, q_I l2, q_I l3, q_I l4, q_I l5, q_I l6, q_N] [] := by
  intro n
  induction n with
  | zero => intro l1 l2 l3 l4 l5 l6 m h; exact q_no h
  | succ n ih =>
    intro l1 l2 l3 l4 l5 l6 m h
    exact w_Mod_feed_b18 hN (fun l1 l2 l3 l4 l5 l6 m h => ih l1 l2 l3 l4 l5 l6 m h) h
def f_Mod_feed (l1 l2 l3 l4 l5 : Int) (m : q_Mem) : q_Res :=
  if q_w ((m 81 21) + 20) ≤ 800 then (f_Mod_feed_l18 q_F l1 l2 l3 l4 l5 0 m)
  else (q_rt (-1) m)
set_option maxRecDepth 20000 in
theorem ok_X11_feed {l1 l2 l3 l4 l5 : Int} {r : Int × q_Mem} {m : q_Mem} {N : Nat} (hN : 126 ≤ N) (h : f_Mod_feed l1 l2 l3 l4 l5 m = some r) : q_C md_X11_feed (q_room 1) 0 0 [q_A 81, q_I l1, q_I l2, q_I l3, q_I l4, q_I l5] (q_g N) m (some (q_I r.1), q_g N, r.2) := by
  refine q_ofR (by decide) 2 (ls := [q_A 81, q_I l1, q_I l2, q_I l3, q_I l4, q_I l5, q_N, q_N]) rfl (Nat.le_of_ble_eq_true rfl) ?_
  change q_E md_X11_feed 1 N (some 0) r m 0 [q_A 81, q_I l1, q_I l2, q_I l3, q_I l4, q_I l5, q_N, q_N] []
  unfold f_Mod_feed at h
  refine q_aload_n (M := md_X11_feed) (pc := 0) dX11_feed_0 rfl (by decide) ?_
  refine e_gI (M := md_X11_feed) (pc := 1) (v := m 81 21) fl_11_159 dX11_feed_1 (is_81 hN) rfl ?_
  refine q_bipush (M := md_X11_feed) (pc := 4) (x := 20) dX11_feed_4 (by decide) ?_
  refine q_iadd (M := md_X11_feed) (pc := 6) dX11_feed_6 ?_
  refine q_sipush (M := md_X11_feed) (pc := 7) (x := 800) dX11_feed_7 (by decide) ?_
  refine e_icmp_le (M := md_X11_feed) (pc := 10) (tgt := 15) h rfl (q_wlit rfl) dX11_feed_10 (by decide) (fun h => ?_) (fun h => ?_)
  · refine q_iconst (M := md_X11_feed) (pc := 15) dX11_feed_15 ?_
    refine e_ist (M := md_X11_feed) (pc := 16) (ls' := [q_A 81, q_I l1, q_I l2, q_I l3, q_I l4, q_I l5, q_I 0, q_N]) dX11_feed_16 (by decide) (q_pl rfl) rfl ?_
    exact q_weak (w_Mod_feed_l18 hN q_F _ _ _ _ _ _ _  h) ⟨Or.inr rfl, Or.inr rfl, Or.inr rfl, Or.inr rfl, Or.inr rfl, Or.inr rfl, Or.inr rfl, Or.inl rfl, trivial⟩
  · refine q_iconst (M := md_X11_feed) (pc := 13) dX11_feed_13 ?_
    exact e_iret (M := md_X11_feed) (pc := 14) h rfl dX11_feed_14
def f_Mod_end (l1 : Int) (m : q_Mem) : q_Res :=
  if q_w l1 < 0 then (q_rt (-1) m)
  else (if q_w l1 ≤ q_w (m 81 21) then (q_pf m 81 21 l1 fun m1 =>
  q_rt l1 m1)
  else (q_rt (-1) m))
set_option maxRecDepth 20000 in
theorem ok_X11_end {l1 : Int} {r : Int × q_Mem} {m : q_Mem} {N : Nat} (hN : 126 ≤ N) (h : f_Mod_end l1 m = some r) : q_C md_X11_end (q_room 1) 0 0 [q_A 81, q_I l1] (q_g N) m (some (q_I r.1), q_g N, r.2) := by
  refine q_ofR (by decide) 0 (ls := [q_A 81, q_I l1]) rfl (Nat.le_of_ble_eq_true rfl) ?_
  change q_E md_X11_end 1 N (some 0) r m 0 [q_A 81, q_I l1] []
  unfold f_Mod_end at h
  refine q_iload_n (M := md_X11_end) (pc := 0) dX11_end_0 rfl ?_
  refine e_if_lt (M := md_X11_end) (pc := 1) (tgt := 12) h rfl dX11_end_1 (by decide) (fun h => ?_) (fun h => ?_)
  · refine q_iconst (M := md_X11_end) (pc := 12) dX11_end_12 ?_
    exact e_iret (M := md_X11_end) (pc := 13) h rfl dX11_end_13
  · refine q_iload_n (M := md_X11_end) (pc := 4) dX11_end_4 rfl ?_
    refine q_aload_n (M := md_X11_end) (pc := 5) dX11_end_5 rfl (by decide) ?_
    refine e_gI (M := md_X11_end) (pc := 6) (v := m 81 21) fl_11_159 dX11_end_6 (is_81 hN) rfl ?_
    refine e_icmp_le (M := md_X11_end) (pc := 9) (tgt := 14) h rfl rfl dX11_end_9 (by decide) (fun h => ?_) (fun h => ?_)
    · refine q_aload_n (M := md_X11_end) (pc := 14) dX11_end_14 rfl (by decide) ?_
      refine q_iload_n (M := md_X11_end) (pc := 15) dX11_end_15 rfl ?_
      refine e_pfI (M := md_X11_end) (pc := 16) h fl_11_159 dX11_end_16 (is_81 hN) rfl (fun m1 h => ?_)
      refine q_iload_n (M := md_X11_end) (pc := 19) dX11_end_19 rfl ?_
      exact e_iret (M := md_X11_end) (pc := 20) h rfl dX11_end_20
    · refine q_iconst (M := md_X11_end) (pc := 12) dX11_end_12 ?_
      exact e_iret (M := md_X11_end) (pc := 13) h rfl dX11_end_13
def f_Mod_signAt (l1 : Int) (m : q_Mem) : q_Res :=
  if q_w (m 81 22) ≤ q_w l1 then (q_rt 0 m)
  else (q_rd m 101 800 l1 fun v1 =>
  q_rt v1 m)
set_option maxRecDepth 20000 in
theorem ok_X11_signAt {l1 : Int} {r : Int × q_Mem} {m : q_Mem} {N : Nat} (hN : 126 ≤ N) (h : f_Mod_signAt l1 m = some r) : q_C md_X11_signAt (q_room 1) 0 0 [q_A 81, q_I l1] (q_g N) m (some (q_I r.1), q_g N, r.2) := by
  refine q_ofR (by decide) 0 (ls := [q_A 81, q_I l1]) rfl (Nat.le_of_ble_eq_true rfl) ?_
  change q_E md_X11_signAt 1 N (some 0) r m 0 [q_A 81, q_I l1] []
  unfold f_Mod_signAt at h
  refine q_iload_n (M := md_X11_signAt) (pc := 0) dX11_signAt_0 rfl ?_
  refine q_aload_n (M := md_X11_signAt) (pc := 1) dX11_signAt_1 rfl (by decide) ?_
  refine e_gI (M := md_X11_signAt) (pc := 2) (v := m 81 22) fl_11_162 dX11_signAt_2 (is_81 hN) rfl ?_
  refine e_icmp_ge (M := md_X11_signAt) (pc := 5) (tgt := 17) h rfl rfl dX11_signAt_5 (by decide) (fun h => ?_) (fun h => ?_)
  · refine q_iconst (M := md_X11_signAt) (pc := 17) dX11_signAt_17 ?_
    exact e_iret (M := md_X11_signAt) (pc := 18) h rfl dX11_signAt_18
  · refine q_aload_n (M := md_X11_signAt) (pc := 8) dX11_signAt_8 rfl (by decide) ?_
    refine q_getP (M := md_X11_signAt) (pc := 9) (v := 101) fl_11_67 dX11_signAt_9 (is_81 hN) rfl ?_
    refine q_iload_n (M := md_X11_signAt) (pc := 12) dX11_signAt_12 rfl ?_
    refine e_rdb (M := md_X11_signAt) (pc := 13) h dX11_signAt_13 (ar_101 hN) (fun v1 h => ?_)
    refine q_goto (M := md_X11_signAt) (pc := 14) (tgt := 18) dX11_signAt_14 (by decide) ?_
    exact e_iret (M := md_X11_signAt) (pc := 18) h rfl dX11_signAt_18
def f_Mod_isLetter (l0 : Int) (m : q_Mem) : q_Res :=
  if q_w l0 < 97 then (q_rz 0 m)
  else (if 122 < q_w l0 then (q_rz 0 m)
  else (q_rz 1 m))
set_option maxRecDepth 20000 in
theorem ok_X11_isLetter {l0 : Int} {r : Int × q_Mem} {m : q_Mem} {N : Nat} (hN : 126 ≤ N) (h : f_Mod_isLetter l0 m = some r) : q_C md_X11_isLetter (q_room 1) 0 0 [q_I l0] (q_g N) m (some (q_I r.1), q_g N, r.2) := by
  refine q_ofR (by decide) 0 (ls := [q_I l0]) rfl (Nat.le_of_ble_eq_true rfl) ?_
  change q_E md_X11_isLetter 1 N (some 0) r m 0 [q_I l0] []
  unfold f_Mod_isLetter at h
  refine q_iload_n (M := md_X11_isLetter) (pc := 0) dX11_isLetter_0 rfl ?_
  refine q_bipush (M := md_X11_isLetter) (pc := 1) (x := 97) dX11_isLetter_1 (by decide) ?_
  refine e_icmp_lt (M := md_X11_isLetter) (pc := 3) (tgt := 16) h rfl (q_wlit rfl) dX11_isLetter_3 (by decide) (fun h => ?_) (fun h => ?_)
  · refine q_iconst (M := md_X11_isLetter) (pc := 16) dX11_isLetter_16 ?_
    exact e_zret (M := md_X11_isLetter) (pc := 17) h rfl dX11_isLetter_17
  · refine q_iload_n (M := md_X11_isLetter) (pc := 6) dX11_isLetter_6 rfl ?_
    refine q_bipush (M := md_X11_isLetter) (pc := 7) (x := 122) dX11_isLetter_7 (by decide) ?_
    refine e_icmp_gt (M := md_X11_isLetter) (pc := 9) (tgt := 16) h rfl (q_wlit rfl) dX11_isLetter_9 (by decide) (fun h => ?_) (fun h => ?_)
    · refine q_iconst (M := md_X11_isLetter) (pc := 16) dX11_isLetter_16 ?_
      exact e_zret (M := md_X11_isLetter) (pc := 17) h rfl dX11_isLetter_17
    · refine q_iconst (M := md_X11_isLetter) (pc := 12) dX11_isLetter_12 ?_
      refine q_goto (M := md_X11_isLetter) (pc := 13) (tgt := 17) dX11_isLetter_13 (by decide) ?_
      exact e_zret (M := md_X11_isLetter) (pc := 17) h rfl dX11_isLetter_17
def f_Mod_isDigit (l0 : Int) (m : q_Mem) : q_Res :=
  if q_w l0 < 48 then (q_rz 0 m)
  else (if 57 < q_w l0 then (q_rz 0 m)
  else (q_rz 1 m))
set_option maxRecDepth 20000 in
theorem ok_X11_isDigit {l0 : Int} {r : Int × q_Mem} {m : q_Mem} {N : Nat} (hN : 126 ≤ N) (h : f_Mod_isDigit l0 m = some r) : q_C md_X11_isDigit (q_room 1) 0 0 [q_I l0] (q_g N) m (some (q_I r.1), q_g N, r.2) := by
  refine q_ofR (by decide) 0 (ls := [q_I l0]) rfl (Nat.le_of_ble_eq_true rfl) ?_
  change q_E md_X11_isDigit 1 N (some 0) r m 0 [q_I l0] []
  unfold f_Mod_isDigit at h
  refine q_iload_n (M := md_X11_isDigit) (pc := 0) dX11_isDigit_0 rfl ?_
  refine q_bipush (M := md_X11_isDigit) (pc := 1) (x := 48) dX11_isDigit_1 (by decide) ?_
  refine e_icmp_lt (M := md_X11_isDigit) (pc := 3) (tgt := 16) h rfl (q_wlit rfl) dX11_isDigit_3 (by decide) (fun h => ?_) (fun h => ?_)
  · refine q_iconst (M := md_X11_isDigit) (pc := 16) dX11_isDigit_16 ?_
    exact e_zret (M := md_X11_isDigit) (pc := 17) h rfl dX11_isDigit_17
  · refine q_iload_n (M := md_X11_isDigit) (pc := 6) dX11_isDigit_6 rfl ?_
    refine q_bipush (M := md_X11_isDigit) (pc := 7) (x := 57) dX11_isDigit_7 (by decide) ?_
    refine e_icmp_gt (M := md_X11_isDigit) (pc := 9) (tgt := 16) h rfl (q_wlit rfl) dX11_isDigit_9 (by decide) (fun h => ?_) (fun h => ?_)
    · refine q_iconst (M := md_X11_isDigit) (pc := 16) dX11_isDigit_16 ?_
      exact e_zret (M := md_X11_isDigit) (pc := 17) h rfl dX11_isDigit_17
    · refine q_iconst (M := md_X11_isDigit) (pc := 12) dX11_isDigit_12 ?_
      refine q_goto (M := md_X11_isDigit) (pc := 13) (tgt := 17) dX11_isDigit_13 (by decide) ?_
      exact e_zret (M := md_X11_isDigit) (pc := 17) h rfl dX11_isDigit_17
def f_Mod_isSign (l0 : Int) (m : q_Mem) : q_Res :=
  if q_w l0 = 59 then (q_rz 1 m)
  else (if q_w l0 = 61 then (q_rz 1 m)
  else (if q_w l0 = 40 then (q_rz 1 m)
  else (if q_w l0 = 41 then (q_rz 1 m)
  else (if q_w l0 = 44 then (q_rz 1 m)
  else (if q_w l0 = 43 then (q_rz 1 m)
  else (if q_w l0 = 45 then (q_rz 1 m)
  else (if q_w l0 = 42 then (q_rz 1 m)
  else (if q_w l0 = 60 then (q_rz 1 m)
  else (if q_w l0 = 62 then (q_rz 1 m)
  else (q_rz 0 m))))))))))
set_option maxRecDepth 20000 in
theorem ok_X11_isSign {l0 : Int} {r : Int × q_Mem} {m : q_Mem} {N : Nat} (hN : 126 ≤ N) (h : f_Mod_isSign l0 m = some r) : q_C md_X11_isSign (q_room 1) 0 0 [q_I l0] (q_g N) m (some (q_I r.1), q_g N, r.2) := by
  refine q_ofR (by decide) 0 (ls := [q_I l0]) rfl (Nat.le_of_ble_eq_true rfl) ?_
  change q_E md_X11_isSign 1 N (some 0) r m 0 [q_I l0] []
  unfold f_Mod_isSign at h
  refine q_iload_n (M := md_X11_isSign) (pc := 0) dX11_isSign_0 rfl ?_
  refine q_bipush (M := md_X11_isSign) (pc := 1) (x := 59) dX11_isSign_1 (by decide) ?_
  refine e_icmp_eq (M := md_X11_isSign) (pc := 3) (tgt := 60) h rfl (q_wlit rfl) dX11_isSign_3 (by decide) (fun h => ?_) (fun h => ?_)
  · refine q_iconst (M := md_X11_isSign) (pc := 60) dX11_isSign_60 ?_
    refine q_goto (M := md_X11_isSign) (pc := 61) (tgt := 65) dX11_isSign_61 (by decide) ?_
    exact e_zret (M := md_X11_isSign) (pc := 65) h rfl dX11_isSign_65
  · refine q_iload_n (M := md_X11_isSign) (pc := 6) dX11_isSign_6 rfl ?_
    refine q_bipush (M := md_X11_isSign) (pc := 7) (x := 61) dX11_isSign_7 (by decide) ?_
    refine e_icmp_eq (M := md_X11_isSign) (pc := 9) (tgt := 60) h rfl (q_wlit rfl) dX11_isSign_9 (by decide) (fun h => ?_) (fun h => ?_)
    · refine q_iconst (M := md_X11_isSign) (pc := 60) dX11_isSign_60 ?_
      refine q_goto (M := md_X11_isSign) (pc := 61) (tgt := 65) dX11_isSign_61 (by decide) ?_
      exact e_zret (M := md_X11_isSign) (pc := 65) h rfl dX11_isSign_65
    · refine q_iload_n (M := md_X11_isSign) (pc := 12) dX11_isSign_12 rfl ?_
      refine q_bipush (M := md_X11_isSign) (pc := 13) (x := 40) dX11_isSign_13 (by decide) ?_
      refine e_icmp_eq (M := md_X11_isSign) (pc := 15) (tgt := 60) h rfl (q_wlit rfl) dX11_isSign_15 (by decide) (fun h => ?_) (fun h => ?_)
      · refine q_iconst (M := md_X11_isSign) (pc := 60) dX11_isSign_60 ?_
        refine q_goto (M := md_X11_isSign) (pc := 61) (tgt := 65) dX11_isSign_61 (by decide) ?_
        exact e_zret (M := md_X11_isSign) (pc := 65) h rfl dX11_isSign_65
      · refine q_iload_n (M := md_X11_isSign) (pc := 18) dX11_isSign_18 rfl ?_
        refine q_bipush (M := md_X11_isSign) (pc := 19) (x := 41) dX11_isSign_19 (by decide) ?_
        refine e_icmp_eq (M := md_X11_isSign) (pc := 21) (tgt := 60) h rfl (q_wlit rfl) dX11_isSign_21 (by decide) (fun h => ?_) (fun h => ?_)
        · refine q_iconst (M := md_X11_isSign) (pc := 60) dX11_isSign_60 ?_
          refine q_goto (M := md_X11_isSign) (pc := 61) (tgt := 65) dX11_isSign_61 (by decide) ?_
          exact e_zret (M := md_X11_isSign) (pc := 65) h rfl dX11_isSign_65
        · refine q_iload_n (M := md_X11_isSign) (pc := 24) dX11_isSign_24 rfl ?_
          refine q_bipush (M := md_X11_isSign) (pc := 25) (x := 44) dX11_isSign_25 (by decide) ?_
          refine e_icmp_eq (M := md_X11_isSign) (pc := 27) (tgt := 60) h rfl (q_wlit rfl) dX11_isSign_27 (by decide) (fun h => ?_) (fun h => ?_)
          · refine q_iconst (M := md_X11_isSign) (pc := 60) dX11_isSign_60 ?_
            refine q_goto (M := md_X11_isSign) (pc := 61) (tgt := 65) dX11_isSign_61 (by decide) ?_
            exact e_zret (M := md_X11_isSign) (pc := 65) h rfl dX11_isSign_65
          · refine q_iload_n (M := md_X11_isSign) (pc := 30) dX11_isSign_30 rfl ?_
            refine q_bipush (M := md_X11_isSign) (pc := 31) (x := 43) dX11_isSign_31 (by decide) ?_
            refine e_icmp_eq (M := md_X11_isSign) (pc := 33) (tgt := 60) h rfl (q_wlit rfl) dX11_isSign_33 (by decide) (fun h => ?_) (fun h => ?_)
            · refine q_iconst (M := md_X11_isSign) (pc := 60) dX11_isSign_60 ?_
              refine q_goto (M := md_X11_isSign) (pc := 61) (tgt := 65) dX11_isSign_61 (by decide) ?_
              exact e_zret (M := md_X11_isSign) (pc := 65) h rfl dX11_isSign_65
            · refine q_iload_n (M := md_X11_isSign) (pc := 36) dX11_isSign_36 rfl ?_
              refine q_bipush (M := md_X11_isSign) (pc := 37) (x := 45) dX11_isSign_37 (by decide) ?_
              refine e_icmp_eq (M := md_X11_isSign) (pc := 39) (tgt := 60) h rfl (q_wlit rfl) dX11_isSign_39 (by decide) (fun h => ?_) (fun h => ?_)
              · refine q_iconst (M := md_X11_isSign) (pc := 60) dX11_isSign_60 ?_
                refine q_goto (M := md_X11_isSign) (pc := 61) (tgt := 65) dX11_isSign_61 (by decide) ?_
                exact e_zret (M := md_X11_isSign) (pc := 65) h rfl dX11_isSign_65
              · refine q_iload_n (M := md_X11_isSign) (pc := 42) dX11_isSign_42 rfl ?_
                refine q_bipush (M := md_X11_isSign) (pc := 43) (x := 42) dX11_isSign_43 (by decide) ?_
                refine e_icmp_eq (M := md_X11_isSign) (pc := 45) (tgt := 60) h rfl (q_wlit rfl) dX11_isSign_45 (by decide) (fun h => ?_) (fun h => ?_)
                · refine q_iconst (M := md_X11_isSign) (pc := 60) dX11_isSign_60 ?_
                  refine q_goto (M := md_X11_isSign) (pc := 61) (tgt := 65) dX11_isSign_61 (by decide) ?_
                  exact e_zret (M := md_X11_isSign) (pc := 65) h rfl dX11_isSign_65
                · refine q_iload_n (M := md_X11_isSign) (pc := 48) dX11_isSign_48 rfl ?_
                  refine q_bipush (M := md_X11_isSign) (pc := 49) (x := 60) dX11_isSign_49 (by decide) ?_
                  refine e_icmp_eq (M := md_X11_isSign) (pc := 51) (tgt := 60) h rfl (q_wlit rfl) dX11_isSign_51 (by decide) (fun h => ?_) (fun h => ?_)
                  · refine q_iconst (M := md_X11_isSign) (pc := 60) dX11_isSign_60 ?_
                    refine q_goto (M := md_X11_isSign) (pc := 61) (tgt := 65) dX11_isSign_61 (by decide) ?_
                    exact e_zret (M := md_X11_isSign) (pc := 65) h rfl dX11_isSign_65
                  · refine q_iload_n (M := md_X11_isSign) (pc := 54) dX11_isSign_54 rfl ?_
                    refine q_bipush (M := md_X11_isSign) (pc := 55) (x := 62) dX11_isSign_55 (by decide) ?_
                    refine e_icmp_ne (M := md_X11_isSign) (pc := 57) (tgt := 64) h rfl (q_wlit rfl) dX11_isSign_57 (by decide) (fun h => ?_) (fun h => ?_)
                    · refine q_iconst (M := md_X11_isSign) (pc := 64) dX11_isSign_64 ?_
                      exact e_zret (M := md_X11_isSign) (pc := 65) h rfl dX11_isSign_65
                    · refine q_iconst (M := md_X11_isSign) (pc := 60) dX11_isSign_60 ?_
                      refine q_goto (M := md_X11_isSign) (pc := 61) (tgt := 65) dX11_isSign_61 (by decide) ?_
                      exact e_zret (M := md_X11_isSign) (pc := 65) h rfl dX11_isSign_65
def f_Mod_isBlank (l1 : Int) (m : q_Mem) : q_Res :=
  if q_w (m 81 22) ≤ q_w l1 then (q_rz 0 m)
  else (q_rd m 101 800 l1 fun v1 =>
  if q_w v1 = 32 then (q_rz 1 m)
  else (q_rd m 101 800 l1 fun v2 =>
  if q_w v2 = 10 then (q_rz 1 m)
  else (q_rz 0 m)))
set_option maxRecDepth 20000 in
theorem ok_X11_isBlank {l1 : Int} {r : Int × q_Mem} {m : q_Mem} {N : Nat} (hN : 126 ≤ N) (h : f_Mod_isBlank l1 m = some r) : q_C md_X11_isBlank (q_room 1) 0 0 [q_A 81, q_I l1] (q_g N) m (some (q_I r.1), q_g N, r.2) := by
  refine q_ofR (by decide) 0 (ls := [q_A 81, q_I l1]) rfl (Nat.le_of_ble_eq_true rfl) ?_
  change q_E md_X11_isBlank 1 N (some 0) r m 0 [q_A 81, q_I l1] []
  unfold f_Mod_isBlank at h
  refine q_iload_n (M := md_X11_isBlank) (pc := 0) dX11_isBlank_0 rfl ?_
  refine q_aload_n (M := md_X11_isBlank) (pc := 1) dX11_isBlank_1 rfl (by decide) ?_
  refine e_gI (M := md_X11_isBlank) (pc := 2) (v := m 81 22) fl_11_162 dX11_isBlank_2 (is_81 hN) rfl ?_
  refine e_icmp_ge (M := md_X11_isBlank) (pc := 5) (tgt := 34) h rfl rfl dX11_isBlank_5 (by decide) (fun h => ?_) (fun h => ?_)
  · refine q_iconst (M := md_X11_isBlank) (pc := 34) dX11_isBlank_34 ?_
    exact e_zret (M := md_X11_isBlank) (pc := 35) h rfl dX11_isBlank_35
  · refine q_aload_n (M := md_X11_isBlank) (pc := 8) dX11_isBlank_8 rfl (by decide) ?_
    refine q_getP (M := md_X11_isBlank) (pc := 9) (v := 101) fl_11_67 dX11_isBlank_9 (is_81 hN) rfl ?_
    refine q_iload_n (M := md_X11_isBlank) (pc := 12) dX11_isBlank_12 rfl ?_
    refine e_rdb (M := md_X11_isBlank) (pc := 13) h dX11_isBlank_13 (ar_101 hN) (fun v1 h => ?_)
    refine q_bipush (M := md_X11_isBlank) (pc := 14) (x := 32) dX11_isBlank_14 (by decide) ?_
    refine e_icmp_eq (M := md_X11_isBlank) (pc := 16) (tgt := 30) h rfl (q_wlit rfl) dX11_isBlank_16 (by decide) (fun h => ?_) (fun h => ?_)
    · refine q_iconst (M := md_X11_isBlank) (pc := 30) dX11_isBlank_30 ?_
      refine q_goto (M := md_X11_isBlank) (pc := 31) (tgt := 35) dX11_isBlank_31 (by decide) ?_
      exact e_zret (M := md_X11_isBlank) (pc := 35) h rfl dX11_isBlank_35
    · refine q_aload_n (M := md_X11_isBlank) (pc := 19) dX11_isBlank_19 rfl (by decide) ?_
      refine q_getP (M := md_X11_isBlank) (pc := 20) (v := 101) fl_11_67 dX11_isBlank_20 (is_81 hN) rfl ?_
      refine q_iload_n (M := md_X11_isBlank) (pc := 23) dX11_isBlank_23 rfl ?_
      refine e_rdb (M := md_X11_isBlank) (pc := 24) h dX11_isBlank_24 (ar_101 hN) (fun v2 h => ?_)
      refine q_bipush (M := md_X11_isBlank) (pc := 25) (x := 10) dX11_isBlank_25 (by decide) ?_
      refine e_icmp_ne (M := md_X11_isBlank) (pc := 27) (tgt := 34) h rfl (q_wlit rfl) dX11_isBlank_27 (by decide) (fun h => ?_) (fun h => ?_)
      · refine q_iconst (M := md_X11_isBlank) (pc := 34) dX11_isBlank_34 ?_
        exact e_zret (M := md_X11_isBlank) (pc := 35) h rfl dX11_isBlank_35
      · refine q_iconst (M := md_X11_isBlank) (pc := 30) dX11_isBlank_30 ?_
        refine q_goto (M := md_X11_isBlank) (pc := 31) (tgt := 35) dX11_isBlank_31 (by decide) ?_
        exact e_zret (M := md_X11_isBlank) (pc := 35) h rfl dX11_isBlank_35
def f_Mod_isSame_b19 (k19 : Int → Int → Int → q_Mem → q_Res) (l1 l2 l3 : Int) (m : q_Mem) : q_Res :=
  if q_w (l2 - l1) ≤ q_w l3 then (q_rz 1 m)
  else (q_rd m 102 28 (l1 + l3) fun v1 =>
  q_rd m 101 800 ((m 81 24) + l3) fun v2 =>
  if q_w v1 = q_w v2 then (k19 l1 l2 (l3 + 1) m)
  else (q_rz 0 m))
set_option maxRecDepth 20000 in
theorem w_Mod_isSame_b19 {k19 : Int → Int → Int → q_Mem → q_Res} {l1 l2 l3 : Int} {r : Int × q_Mem} {m : q_Mem} {N : Nat} (hN : 126 ≤ N) (hk19 : ∀ (l1 l2 l3 : Int) (m : q_Mem), k19 l1 l2 l3 m = some r → q_E md_X11_isSame 1 N (some 0) r m 19 [q_A 81, q_I l1, q_I l2, q_I l3] []) (h : f_Mod_isSame_b19 k19 l1 l2 l3 m = some r) : q_E md_X11_isSame 1 N (some 0) r m 19 [q_A 81, q_I l1, q_I l2, q_I l3] [] := by
  unfold f_Mod_isSame_b19 at h
  refine q_iload_n (M := md_X11_isSame) (pc := 19) dX11_isSame_19 rfl ?_
  refine q_iload_n (M := md_X11_isSame) (pc := 20) dX11_isSame_20 rfl ?_
  refine q_iload_n (M := md_X11_isSame) (pc := 21) dX11_isSame_21 rfl ?_
  refine q_isub (M := md_X11_isSame) (pc := 22) dX11_isSame_22 ?_
  refine e_icmp_ge (M := md_X11_isSame) (pc := 23) (tgt := 56) h rfl rfl dX11_isSame_23 (by decide) (fun h => ?_) (fun h => ?_)
  · refine q_iconst (M := md_X11_isSame) (pc := 56) dX11_isSame_56 ?_
    exact e_zret (M := md_X11_isSame) (pc := 57) h rfl dX11_isSame_57
  · refine q_aload_n (M := md_X11_isSame) (pc := 26) dX11_isSame_26 rfl (by decide) ?_
    refine q_getP (M := md_X11_isSame) (pc := 27) (v := 102) fl_11_75 dX11_isSame_27 (is_81 hN) rfl ?_
    refine q_iload_n (M := md_X11_isSame) (pc := 30) dX11_isSame_30 rfl ?_
    refine q_iload_n (M := md_X11_isSame) (pc := 31) dX11_isSame_31 rfl ?_
    refine q_iadd (M := md_X11_isSame) (pc := 32) dX11_isSame_32 ?_
    refine e_rdb (M := md_X11_isSame) (pc := 33) h dX11_isSame_33 (ar_102 hN) (fun v1 h => ?_)
    refine q_aload_n (M := md_X11_isSame) (pc := 34) dX11_isSame_34 rfl (by decide) ?_
    refine q_getP (M := md_X11_isSame) (pc := 35) (v := 101) fl_11_67 dX11_isSame_35 (is_81 hN) rfl ?_
    refine q_aload_n (M := md_X11_isSame) (pc := 38) dX11_isSame_38 rfl (by decide) ?_
    refine e_gI (M := md_X11_isSame) (pc := 39) (v := m 81 24) fl_11_168 dX11_isSame_39 (is_81 hN) rfl ?_
    refine q_iload_n (M := md_X11_isSame) (pc := 42) dX11_isSame_42 rfl ?_
    refine q_iadd (M := md_X11_isSame) (pc := 43) dX11_isSame_43 ?_
    refine e_rdb (M := md_X11_isSame) (pc := 44) h dX11_isSame_44 (ar_101 hN) (fun v2 h => ?_)
    refine e_icmp_eq (M := md_X11_isSame) (pc := 45) (tgt := 50) h rfl rfl dX11_isSame_45 (by decide) (fun h => ?_) (fun h => ?_)
    · refine e_inc (M := md_X11_isSame) (pc := 50) (x := l3) (ls' := [q_A 81, q_I l1, q_I l2, q_I (l3 + 1)]) dX11_isSame_50 rfl (by decide) (q_pl rfl) rfl ?_
      refine q_goto (M := md_X11_isSame) (pc := 53) (tgt := 19) dX11_isSame_53 (by decide) ?_
      exact q_weak (hk19 _ _ _ _  h) ⟨Or.inr rfl, Or.inr rfl, Or.inr rfl, Or.inr rfl, trivial⟩
    · refine q_iconst (M := md_X11_isSame) (pc := 48) dX11_isSame_48 ?_
      exact e_zret (M := md_X11_isSame) (pc := 49) h rfl dX11_isSame_49
def f_Mod_isSame_l19 : Nat → Int → Int → Int → q_Mem → q_Res
  | 0 => fun _ _ _ _ => none
  | n + 1 => fun l1 l2 l3 m => f_Mod_isSame_b19 (f_Mod_isSame_l19 n) l1 l2 l3 m
theorem w_Mod_isSame_l19 {r : Int × q_Mem} {N : Nat} (hN : 126 ≤ N) : ∀ (n : Nat) (l1 l2 l3 : Int) (m : q_Mem), f_Mod_isSame_l19 n l1 l2 l3 m = some r → q_E md_X11_isSame 1 N (some 0) r m 19 [q_A 81, q_I l1, q_I l2, q_I l3] [] := by
  intro n
  induction n with
  | zero => intro l1 l2 l3 m h; exact q_no h
  | succ n ih =>
    intro l1 l2 l3 m h
    exact w_Mod_isSame_b19 hN (fun l1 l2 l3 m h => ih l1 l2 l3 m h) h
def f_Mod_isSame (l1 l2 : Int) (m : q_Mem) : q_Res :=
  if q_w (l2 - l1) = q_w ((m 81 23) - (m 81 24)) then (f_Mod_isSame_l19 q_F l1 l2 0 m)
  else (q_rz 0 m)
set_option maxRecDepth 20000 in
theorem ok_X11_isSame {l1 l2 : Int} {r : Int × q_Mem} {m : q_Mem} {N : Nat} (hN : 126 ≤ N) (h : f_Mod_isSame l1 l2 m = some r) : q_C md_X11_isSame (q_room 1) 0 0 [q_A 81, q_I l1, q_I l2] (q_g N) m (some (q_I r.1), q_g N, r.2) := by
  refine q_ofR (by decide) 1 (ls := [q_A 81, q_I l1, q_I l2, q_N]) rfl (Nat.le_of_ble_eq_true rfl) ?_
  change q_E md_X11_isSame 1 N (some 0) r m 0 [q_A 81, q_I l1, q_I l2, q_N] []
  unfold f_Mod_isSame at h
  refine q_iload_n (M := md_X11_isSame) (pc := 0) dX11_isSame_0 rfl ?_
  refine q_iload_n (M := md_X11_isSame) (pc := 1) dX11_isSame_1 rfl ?_
  refine q_isub (M := md_X11_isSame) (pc := 2) dX11_isSame_2 ?_
  refine q_aload_n (M := md_X11_isSame) (pc := 3) dX11_isSame_3 rfl (by decide) ?_
  refine e_gI (M := md_X11_isSame) (pc := 4) (v := m 81 23) fl_11_165 dX11_isSame_4 (is_81 hN) rfl ?_
  refine q_aload_n (M := md_X11_isSame) (pc := 7) dX11_isSame_7 rfl (by decide) ?_
  refine e_gI (M := md_X11_isSame) (pc := 8) (v := m 81 24) fl_11_168 dX11_isSame_8 (is_81 hN) rfl ?_
  refine q_isub (M := md_X11_isSame) (pc := 11) dX11_isSame_11 ?_
  refine e_icmp_eq (M := md_X11_isSame) (pc := 12) (tgt := 17) h rfl rfl dX11_isSame_12 (by decide) (fun h => ?_) (fun h => ?_)
  · refine q_iconst (M := md_X11_isSame) (pc := 17) dX11_isSame_17 ?_
    refine e_ist_n (M := md_X11_isSame) (pc := 18) (ls' := [q_A 81, q_I l1, q_I l2, q_I 0]) dX11_isSame_18 (by decide) (q_pl rfl) rfl ?_
    exact q_weak (w_Mod_isSame_l19 hN q_F _ _ _ _  h) ⟨Or.inr rfl, Or.inr rfl, Or.inr rfl, Or.inr rfl, trivial⟩
  · refine q_iconst (M := md_X11_isSame) (pc := 15) dX11_isSame_15 ?_
    exact e_zret (M := md_X11_isSame) (pc := 16) h rfl dX11_isSame_16
def f_Mod_scanWord_b88 (k49 : Int → Int → q_Mem → q_Res) (l2 l3 : Int) (m : q_Mem) : q_Res :=
  k49 (l3 + 1) (l2 + 1) m
set_option maxRecDepth 20000 in
theorem w_Mod_scanWord_b88 {k49 : Int → Int → q_Mem → q_Res} {l2 l3 : Int} {r : Int × q_Mem} {m : q_Mem} {N : Nat} (hN : 126 ≤ N) (hk49 : ∀ (l1 l2 : Int) (m : q_Mem), k49 l1 l2 m = some r → q_E md_X11_scanWord 2 N (none) r m 49 [q_A 81, q_I l1, q_I l2, q_N] []) (h : f_Mod_scanWord_b88 k49 l2 l3 m = some r) : q_E md_X11_scanWord 2 N (none) r m 88 [q_A 81, q_N, q_I l2, q_I l3] [] := by
  unfold f_Mod_scanWord_b88 at h
  refine q_iload_n (M := md_X11_scanWord) (pc := 88) dX11_scanWord_88 rfl ?_
  refine q_iconst (M := md_X11_scanWord) (pc := 89) dX11_scanWord_89 ?_
  refine q_iadd (M := md_X11_scanWord) (pc := 90) dX11_scanWord_90 ?_
  refine e_ist_n (M := md_X11_scanWord) (pc := 91) (ls' := [q_A 81, q_I (l3 + 1), q_I l2, q_I l3]) dX11_scanWord_91 (by decide) (q_pl rfl) rfl ?_
  refine e_inc (M := md_X11_scanWord) (pc := 92) (x := l2) (ls' := [q_A 81, q_I (l3 + 1), q_I (l2 + 1), q_I l3]) dX11_scanWord_92 rfl (by decide) (q_pl rfl) rfl ?_
  refine q_goto (M := md_X11_scanWord) (pc := 95) (tgt := 49) dX11_scanWord_95 (by decide) ?_
  exact q_weak (hk49 _ _ _  h) ⟨Or.inr rfl, Or.inr rfl, Or.inr rfl, Or.inl rfl, trivial⟩
def f_Mod_scanWord_b57 (k49 : Int → Int → q_Mem → q_Res) (k57 : Int → Int → Int → q_Mem → q_Res) (l1 l2 l3 : Int) (m : q_Mem) : q_Res :=
  q_rd m 102 28 l3 fun v1 =>
  if q_w v1 = 32 then (q_bd (f_Mod_isSame l1 l3 m) fun v2 m3 =>
  if q_w v2 = 0 then (f_Mod_scanWord_b88 k49 l2 l3 m3)
  else (q_pf m3 81 27 l2 fun m4 =>
  f_Mod_scanWord_b88 k49 l2 l3 m4))
  else (k57 l1 l2 (l3 + 1) m)
set_option maxRecDepth 20000 in
theorem w_Mod_scanWord_b57 {k49 : Int → Int → q_Mem → q_Res} {k57 : Int → Int → Int → q_Mem → q_Res} {l1 l2 l3 : Int} {r : Int × q_Mem} {m : q_Mem} {N : Nat} (hN : 126 ≤ N) (hk49 : ∀ (l1 l2 : Int) (m : q_Mem), k49 l1 l2 m = some r → q_E md_X11_scanWord 2 N (none) r m 49 [q_A 81, q_I l1, q_I l2, q_N] []) (hk57 : ∀ (l1 l2 l3 : Int) (m : q_Mem), k57 l1 l2 l3 m = some r → q_E md_X11_scanWord 2 N (none) r m 57 [q_A 81, q_I l1, q_I l2, q_I l3] []) (h : f_Mod_scanWord_b57 k49 k57 l1 l2 l3 m = some r) : q_E md_X11_scanWord 2 N (none) r m 57 [q_A 81, q_I l1, q_I l2, q_I l3] [] := by
  unfold f_Mod_scanWord_b57 at h
  refine q_aload_n (M := md_X11_scanWord) (pc := 57) dX11_scanWord_57 rfl (by decide) ?_
  refine q_getP (M := md_X11_scanWord) (pc := 58) (v := 102) fl_11_75 dX11_scanWord_58 (is_81 hN) rfl ?_
  refine q_iload_n (M := md_X11_scanWord) (pc := 61) dX11_scanWord_61 rfl ?_
  refine e_rdb (M := md_X11_scanWord) (pc := 62) h dX11_scanWord_62 (ar_102 hN) (fun v1 h => ?_)
  refine q_bipush (M := md_X11_scanWord) (pc := 63) (x := 32) dX11_scanWord_63 (by decide) ?_
  refine e_icmp_eq (M := md_X11_scanWord) (pc := 65) (tgt := 74) h rfl (q_wlit rfl) dX11_scanWord_65 (by decide) (fun h => ?_) (fun h => ?_)
  · refine q_aload_n (M := md_X11_scanWord) (pc := 74) dX11_scanWord_74 rfl (by decide) ?_
    refine q_iload_n (M := md_X11_scanWord) (pc := 75) dX11_scanWord_75 rfl ?_
    refine q_iload_n (M := md_X11_scanWord) (pc := 76) dX11_scanWord_76 rfl ?_
    refine e_callVi (M := md_X11_scanWord) (pc := 77) (d' := 1) (av := [q_I l1, q_I l3]) (c := 81) h ml_11_199 im_X11_isSame se_X11_isSame dX11_scanWord_77 (fun v he => ok_X11_isSame hN  he) rfl (is_81 hN) ⟨_, _, rfl⟩ (by decide) (Nat.le_of_ble_eq_true rfl) ⟨by decide, by decide⟩ rfl (fun v2 m3 h => ?_)
    refine e_if_eq (M := md_X11_scanWord) (pc := 80) (tgt := 88) h rfl dX11_scanWord_80 (by decide) (fun h => ?_) (fun h => ?_)
    · exact q_weak (w_Mod_scanWord_b88 hN hk49  h) ⟨Or.inr rfl, Or.inl rfl, Or.inr rfl, Or.inr rfl, trivial⟩
    · refine q_aload_n (M := md_X11_scanWord) (pc := 83) dX11_scanWord_83 rfl (by decide) ?_
      refine q_iload_n (M := md_X11_scanWord) (pc := 84) dX11_scanWord_84 rfl ?_
      refine e_pfI (M := md_X11_scanWord) (pc := 85) h fl_11_196 dX11_scanWord_85 (is_81 hN) rfl (fun m4 h => ?_)
      exact q_weak (w_Mod_scanWord_b88 hN hk49  h) ⟨Or.inr rfl, Or.inl rfl, Or.inr rfl, Or.inr rfl, trivial⟩
  · refine e_inc (M := md_X11_scanWord) (pc := 68) (x := l3) (ls' := [q_A 81, q_I l1, q_I l2, q_I (l3 + 1)]) dX11_scanWord_68 rfl (by decide) (q_pl rfl) rfl ?_
    refine q_goto (M := md_X11_scanWord) (pc := 71) (tgt := 57) dX11_scanWord_71 (by decide) ?_
    exact q_weak (hk57 _ _ _ _  h) ⟨Or.inr rfl, Or.inr rfl, Or.inr rfl, Or.inr rfl, trivial⟩
def f_Mod_scanWord_l57 (k49 : Int → Int → q_Mem → q_Res) : Nat → Int → Int → Int → q_Mem → q_Res
  | 0 => fun _ _ _ _ => none
  | n + 1 => fun l1 l2 l3 m => f_Mod_scanWord_b57 k49 (f_Mod_scanWord_l57 k49 n) l1 l2 l3 m
theorem w_Mod_scanWord_l57 {k49 : Int → Int → q_Mem → q_Res} {r : Int × q_Mem} {N : Nat} (hN : 126 ≤ N) (hk49 : ∀ (l1 l2 : Int) (m : q_Mem), k49 l1 l2 m = some r → q_E md_X11_scanWord 2 N (none) r m 49 [q_A 81, q_I l1, q_I l2, q_N] []) : ∀ (n : Nat) (l1 l2 l3 : Int) (m : q_Mem), f_Mod_scanWord_l57 k49 n l1 l2 l3 m = some r → q_E md_X11_scanWord 2 N (none) r m 57 [q_A 81, q_I l1, q_I l2, q_I l3] [] := by
  intro n
  induction n with
  | zero => intro l1 l2 l3 m h; exact q_no h
  | succ n ih =>
    intro l1 l2 l3 m h
    exact w_Mod_scanWord_b57 hN hk49 (fun l1 l2 l3 m h => ih l1 l2 l3 m h) h
def f_Mod_scanWord_b49 (k49 : Int → Int → q_Mem → q_Res) (l1 l2 : Int) (m : q_Mem) : q_Res :=
  if 7 ≤ q_w l2 then (q_rt 0 m)
  else (f_Mod_scanWord_l57 k49 q_F l1 l2 l1 m)
set_option maxRecDepth 20000 in
theorem w_Mod_scanWord_b49 {k49 : Int → Int → q_Mem → q_Res} {l1 l2 : Int} {r : Int × q_Mem} {m : q_Mem} {N : Nat} (hN : 126 ≤ N) (hk49 : ∀ (l1 l2 : Int) (m : q_Mem), k49 l1 l2 m = some r → q_E md_X11_scanWord 2 N (none) r m 49 [q_A 81, q_I l1, q_I l2, q_N] []) (h : f_Mod_scanWord_b49 k49 l1 l2 m = some r) : q_E md_X11_scanWord 2 N (none) r m 49 [q_A 81, q_I l1, q_I l2, q_N] [] := by
  unfold f_Mod_scanWord_b49 at h
  refine q_iload_n (M := md_X11_scanWord) (pc := 49) dX11_scanWord_49 rfl ?_
  refine q_bipush (M := md_X11_scanWord) (pc := 50) (x := 7) dX11_scanWord_50 (by decide) ?_
  refine e_icmp_ge (M := md_X11_scanWord) (pc := 52) (tgt := 98) h rfl (q_wlit rfl) dX11_scanWord_52 (by decide) (fun h => ?_) (fun h => ?_)
  · exact e_vret (M := md_X11_scanWord) (pc := 98) h rfl dX11_scanWord_98
  · refine q_iload_n (M := md_X11_scanWord) (pc := 55) dX11_scanWord_55 rfl ?_
    refine e_ist_n (M := md_X11_scanWord) (pc := 56) (ls' := [q_A 81, q_I l1, q_I l2, q_I l1]) dX11_scanWord_56 (by decide) (q_pl rfl) rfl ?_
    exact q_weak (w_Mod_scanWord_l57 hN hk49 q_F _ _ _ _  h) ⟨Or.inr rfl, Or.inr rfl, Or.inr rfl, Or.inr rfl, trivial⟩
def f_Mod_scanWord_l49 : Nat → Int → Int → q_Mem → q_Res
  | 0 => fun _ _ _ => none
  | n + 1 => fun l1 l2 m => f_Mod_scanWord_b49 (f_Mod_scanWord_l49 n) l1 l2 m
theorem w_Mod_scanWord_l49 {r : Int × q_Mem} {N : Nat} (hN : 126 ≤ N) : ∀ (n : Nat) (l1 l2 : Int) (m : q_Mem), f_Mod_scanWord_l49 n l1 l2 m = some r → q_E md_X11_scanWord 2 N (none) r m 49 [q_A 81, q_I l1, q_I l2, q_N] [] := by
  intro n
  induction n with
  | zero => intro l1 l2 m h; exact q_no h
  | succ n ih =>
    intro l1 l2 m h
    exact w_Mod_scanWord_b49 hN (fun l1 l2 m h => ih l1 l2 m h) h
def f_Mod_scanWord_b13 (k13 : q_Mem → q_Res) (m : q_Mem) : q_Res :=
  q_bd (f_Mod_signAt (m 81 23) m) fun v1 m2 =>
  q_bd (f_Mod_isLetter v1 m2) fun v3 m4 =>
  if q_w v3 = 0 then (q_pf m4 81 27 (-1) fun m5 =>
  f_Mod_scanWord_l49 q_F 0 0 m5)
  else (q_pf m4 81 23 ((m4 81 23) + 1) fun m6 =>
  k13 m6)
set_option maxRecDepth 20000 in
theorem w_Mod_scanWord_b13 {k13 : q_Mem → q_Res} {r : Int × q_Mem} {m : q_Mem} {N : Nat} (hN : 126 ≤ N) (hk13 : ∀ (m : q_Mem), k13 m = some r → q_E md_X11_scanWord 2 N (none) r m 13 [q_A 81, q_N, q_N, q_N] []) (h : f_Mod_scanWord_b13 k13 m = some r) : q_E md_X11_scanWord 2 N (none) r m 13 [q_A 81, q_N, q_N, q_N] [] := by
  unfold f_Mod_scanWord_b13 at h
  refine q_aload_n (M := md_X11_scanWord) (pc := 13) dX11_scanWord_13 rfl (by decide) ?_
  refine q_aload_n (M := md_X11_scanWord) (pc := 14) dX11_scanWord_14 rfl (by decide) ?_
  refine e_gI (M := md_X11_scanWord) (pc := 15) (v := m 81 23) fl_11_165 dX11_scanWord_15 (is_81 hN) rfl ?_
  refine e_callVi (M := md_X11_scanWord) (pc := 18) (d' := 1) (av := [q_I (m 81 23)]) (c := 81) h ml_11_175 im_X11_signAt se_X11_signAt dX11_scanWord_18 (fun v he => ok_X11_signAt hN  he) rfl (is_81 hN) ⟨_, _, rfl⟩ (by decide) (Nat.le_of_ble_eq_true rfl) ⟨by decide, by decide⟩ rfl (fun v1 m2 h => ?_)
  refine e_callSi (M := md_X11_scanWord) (pc := 21) (d' := 1) (M' := md_X11_isLetter) (av := [q_I v1]) h ml_11_181 sm_X11_isLetter dX11_scanWord_21 (fun v he => ok_X11_isLetter hN  he) rfl (Nat.le_of_ble_eq_true rfl) ⟨by decide, by decide⟩ rfl (fun v3 m4 h => ?_)
  refine e_if_eq (M := md_X11_scanWord) (pc := 24) (tgt := 40) h rfl dX11_scanWord_24 (by decide) (fun h => ?_) (fun h => ?_)
  · refine q_aload_n (M := md_X11_scanWord) (pc := 40) dX11_scanWord_40 rfl (by decide) ?_
    refine q_iconst (M := md_X11_scanWord) (pc := 41) dX11_scanWord_41 ?_
    refine e_pfI (M := md_X11_scanWord) (pc := 42) h fl_11_196 dX11_scanWord_42 (is_81 hN) rfl (fun m5 h => ?_)
    refine q_iconst (M := md_X11_scanWord) (pc := 45) dX11_scanWord_45 ?_
    refine e_ist_n (M := md_X11_scanWord) (pc := 46) (ls' := [q_A 81, q_I 0, q_N, q_N]) dX11_scanWord_46 (by decide) (q_pl rfl) rfl ?_
    refine q_iconst (M := md_X11_scanWord) (pc := 47) dX11_scanWord_47 ?_
    refine e_ist_n (M := md_X11_scanWord) (pc := 48) (ls' := [q_A 81, q_I 0, q_I 0, q_N]) dX11_scanWord_48 (by decide) (q_pl rfl) rfl ?_
    exact q_weak (w_Mod_scanWord_l49 hN q_F _ _ _  h) ⟨Or.inr rfl, Or.inr rfl, Or.inr rfl, Or.inl rfl, trivial⟩
  · refine q_aload_n (M := md_X11_scanWord) (pc := 27) dX11_scanWord_27 rfl (by decide) ?_
    refine q_dup (M := md_X11_scanWord) (pc := 28) dX11_scanWord_28 (show (2 : Nat) ≠ 1 by decide) ?_
    refine e_gI (M := md_X11_scanWord) (pc := 29) (v := m4 81 23) fl_11_165 dX11_scanWord_29 (is_81 hN) rfl ?_
    refine q_iconst (M := md_X11_scanWord) (pc := 32) dX11_scanWord_32 ?_
    refine q_iadd (M := md_X11_scanWord) (pc := 33) dX11_scanWord_33 ?_
    refine e_pfI (M := md_X11_scanWord) (pc := 34) h fl_11_165 dX11_scanWord_34 (is_81 hN) rfl (fun m6 h => ?_)
    refine q_goto (M := md_X11_scanWord) (pc := 37) (tgt := 13) dX11_scanWord_37 (by decide) ?_
    exact q_weak (hk13 _  h) ⟨Or.inr rfl, Or.inl rfl, Or.inl rfl, Or.inl rfl, trivial⟩
def f_Mod_scanWord_l13 : Nat → q_Mem → q_Res
  | 0 => fun _ => none
  | n + 1 => fun m => f_Mod_scanWord_b13 (f_Mod_scanWord_l13 n) m
theorem w_Mod_scanWord_l13 {r : Int × q_Mem} {N : Nat} (hN : 126 ≤ N) : ∀ (n : Nat) (m : q_Mem), f_Mod_scanWord_l13 n m = some r → q_E md_X11_scanWord 2 N (none) r m 13 [q_A 81, q_N, q_N, q_N] [] := by
  intro n
  induction n with
  | zero => intro m h; exact q_no h
  | succ n ih =>
    intro m h
    exact w_Mod_scanWord_b13 hN (fun m h => ih m h) h
def f_Mod_scanWord (m : q_Mem) : q_Res :=
  q_pf m 81 25 2 fun m1 =>
  q_pf m1 81 23 (m1 81 24) fun m2 =>
  f_Mod_scanWord_l13 q_F m2
set_option maxRecDepth 20000 in
theorem ok_X11_scanWord {r : Int × q_Mem} {m : q_Mem} {N : Nat} (hN : 126 ≤ N) (h : f_Mod_scanWord m = some r) : q_C md_X11_scanWord (q_room 2) 0 0 [q_A 81] (q_g N) m (none, q_g N, r.2) := by
  refine q_ofR (by decide) 3 (ls := [q_A 81, q_N, q_N, q_N]) rfl (Nat.le_of_ble_eq_true rfl) ?_
  change q_E md_X11_scanWord 2 N (none) r m 0 [q_A 81, q_N, q_N, q_N] []
  unfold f_Mod_scanWord at h
  refine q_aload_n (M := md_X11_scanWord) (pc := 0) dX11_scanWord_0 rfl (by decide) ?_
  refine q_iconst (M := md_X11_scanWord) (pc := 1) dX11_scanWord_1 ?_
  refine e_pfI (M := md_X11_scanWord) (pc := 2) h fl_11_178 dX11_scanWord_2 (is_81 hN) rfl (fun m1 h => ?_)
  refine q_aload_n (M := md_X11_scanWord) (pc := 5) dX11_scanWord_5 rfl (by decide) ?_
  refine q_aload_n (M := md_X11_scanWord) (pc := 6) dX11_scanWord_6 rfl (by decide) ?_
  refine e_gI (M := md_X11_scanWord) (pc := 7) (v := m1 81 24) fl_11_168 dX11_scanWord_7 (is_81 hN) rfl ?_
  refine e_pfI (M := md_X11_scanWord) (pc := 10) h fl_11_165 dX11_scanWord_10 (is_81 hN) rfl (fun m2 h => ?_)
  exact q_weak (w_Mod_scanWord_l13 hN q_F _  h) ⟨Or.inr rfl, Or.inl rfl, Or.inl rfl, Or.inl rfl, trivial⟩
def f_Mod_scanNumber_b69 (k18 : q_Mem → q_Res) (s1 : Int) (m : q_Mem) : q_Res :=
  q_pf m 81 26 s1 fun m1 =>
  q_pf m1 81 23 ((m1 81 23) + 1) fun m2 =>
  k18 m2
set_option maxRecDepth 20000 in
theorem w_Mod_scanNumber_b69 {k18 : q_Mem → q_Res} {s1 : Int} {r : Int × q_Mem} {m : q_Mem} {N : Nat} (hN : 126 ≤ N) (hk18 : ∀ (m : q_Mem), k18 m = some r → q_E md_X11_scanNumber 2 N (none) r m 18 [q_A 81] []) (h : f_Mod_scanNumber_b69 k18 s1 m = some r) : q_E md_X11_scanNumber 2 N (none) r m 69 [q_A 81] [q_I s1, q_A 81] := by
  unfold f_Mod_scanNumber_b69 at h
  refine e_pfI (M := md_X11_scanNumber) (pc := 69) h fl_11_203 dX11_scanNumber_69 (is_81 hN) rfl (fun m1 h => ?_)
  refine q_aload_n (M := md_X11_scanNumber) (pc := 72) dX11_scanNumber_72 rfl (by decide) ?_
  refine q_dup (M := md_X11_scanNumber) (pc := 73) dX11_scanNumber_73 (show (2 : Nat) ≠ 1 by decide) ?_
  refine e_gI (M := md_X11_scanNumber) (pc := 74) (v := m1 81 23) fl_11_165 dX11_scanNumber_74 (is_81 hN) rfl ?_
  refine q_iconst (M := md_X11_scanNumber) (pc := 77) dX11_scanNumber_77 ?_
  refine q_iadd (M := md_X11_scanNumber) (pc := 78) dX11_scanNumber_78 ?_
  refine e_pfI (M := md_X11_scanNumber) (pc := 79) h fl_11_165 dX11_scanNumber_79 (is_81 hN) rfl (fun m2 h => ?_)
  refine q_goto (M := md_X11_scanNumber) (pc := 82) (tgt := 18) dX11_scanNumber_82 (by decide) ?_
  exact q_weak (hk18 _  h) ⟨Or.inr rfl, trivial⟩
def f_Mod_scanNumber_b18 (k18 : q_Mem → q_Res) (m : q_Mem) : q_Res :=
  q_bd (f_Mod_signAt (m 81 23) m) fun v1 m2 =>
  q_bd (f_Mod_isDigit v1 m2) fun v3 m4 =>
  if q_w v3 = 0 then (q_rt 0 m4)
  else (if q_w (m4 81 26) ≤ 999 then (q_bd (f_Mod_signAt (m4 81 23) m4) fun v5 m6 =>
  f_Mod_scanNumber_b69 k18 (((10 * (m4 81 26)) + v5) - 48) m6)
  else (f_Mod_scanNumber_b69 k18 (m4 81 26) m4))
set_option maxRecDepth 20000 in
theorem w_Mod_scanNumber_b18 {k18 : q_Mem → q_Res} {r : Int × q_Mem} {m : q_Mem} {N : Nat} (hN : 126 ≤ N) (hk18 : ∀ (m : q_Mem), k18 m = some r → q_E md_X11_scanNumber 2 N (none) r m 18 [q_A 81] []) (h : f_Mod_scanNumber_b18 k18 m = some r) : q_E md_X11_scanNumber 2 N (none) r m 18 [q_A 81] [] := by
  unfold f_Mod_scanNumber_b18 at h
  refine q_aload_n (M := md_X11_scanNumber) (pc := 18) dX11_scanNumber_18 rfl (by decide) ?_
  refine q_aload_n (M := md_X11_scanNumber) (pc := 19) dX11_scanNumber_19 rfl (by decide) ?_
  refine e_gI (M := md_X11_scanNumber) (pc := 20) (v := m 81 23) fl_11_165 dX11_scanNumber_20 (is_81 hN) rfl ?_
  refine e_callVi (M := md_X11_scanNumber) (pc := 23) (d' := 1) (av := [q_I (m 81 23)]) (c := 81) h ml_11_175 im_X11_signAt se_X11_signAt dX11_scanNumber_23 (fun v he => ok_X11_signAt hN  he) rfl (is_81 hN) ⟨_, _, rfl⟩ (by decide) (Nat.le_of_ble_eq_true rfl) ⟨by decide, by decide⟩ rfl (fun v1 m2 h => ?_)
  refine e_callSi (M := md_X11_scanNumber) (pc := 26) (d' := 1) (M' := md_X11_isDigit) (av := [q_I v1]) h ml_11_187 sm_X11_isDigit dX11_scanNumber_26 (fun v he => ok_X11_isDigit hN  he) rfl (Nat.le_of_ble_eq_true rfl) ⟨by decide, by decide⟩ rfl (fun v3 m4 h => ?_)
  refine e_if_eq (M := md_X11_scanNumber) (pc := 29) (tgt := 85) h rfl dX11_scanNumber_29 (by decide) (fun h => ?_) (fun h => ?_)
  · exact e_vret (M := md_X11_scanNumber) (pc := 85) h rfl dX11_scanNumber_85
  · refine q_aload_n (M := md_X11_scanNumber) (pc := 32) dX11_scanNumber_32 rfl (by decide) ?_
    refine q_aload_n (M := md_X11_scanNumber) (pc := 33) dX11_scanNumber_33 rfl (by decide) ?_
    refine e_gI (M := md_X11_scanNumber) (pc := 34) (v := m4 81 26) fl_11_203 dX11_scanNumber_34 (is_81 hN) rfl ?_
    refine q_sipush (M := md_X11_scanNumber) (pc := 37) (x := 999) dX11_scanNumber_37 (by decide) ?_
    refine e_icmp_le (M := md_X11_scanNumber) (pc := 40) (tgt := 50) h rfl (q_wlit rfl) dX11_scanNumber_40 (by decide) (fun h => ?_) (fun h => ?_)
    · refine q_bipush (M := md_X11_scanNumber) (pc := 50) (x := 10) dX11_scanNumber_50 (by decide) ?_
      refine q_aload_n (M := md_X11_scanNumber) (pc := 52) dX11_scanNumber_52 rfl (by decide) ?_
      refine e_gI (M := md_X11_scanNumber) (pc := 53) (v := m4 81 26) fl_11_203 dX11_scanNumber_53 (is_81 hN) rfl ?_
      refine q_imul (M := md_X11_scanNumber) (pc := 56) dX11_scanNumber_56 ?_
      refine q_aload_n (M := md_X11_scanNumber) (pc := 57) dX11_scanNumber_57 rfl (by decide) ?_
      refine q_aload_n (M := md_X11_scanNumber) (pc := 58) dX11_scanNumber_58 rfl (by decide) ?_
      refine e_gI (M := md_X11_scanNumber) (pc := 59) (v := m4 81 23) fl_11_165 dX11_scanNumber_59 (is_81 hN) rfl ?_
      refine e_callVi (M := md_X11_scanNumber) (pc := 62) (d' := 1) (av := [q_I (m4 81 23)]) (c := 81) h ml_11_175 im_X11_signAt se_X11_signAt dX11_scanNumber_62 (fun v he => ok_X11_signAt hN  he) rfl (is_81 hN) ⟨_, _, rfl⟩ (by decide) (Nat.le_of_ble_eq_true rfl) ⟨by decide, by decide⟩ rfl (fun v5 m6 h => ?_)
      refine q_iadd (M := md_X11_scanNumber) (pc := 65) dX11_scanNumber_65 ?_
      refine q_bipush (M := md_X11_scanNumber) (pc := 66) (x := 48) dX11_scanNumber_66 (by decide) ?_
      refine q_isub (M := md_X11_scanNumber) (pc := 68) dX11_scanNumber_68 ?_
      exact q_weak (w_Mod_scanNumber_b69 hN hk18  h) ⟨Or.inr rfl, trivial⟩
    · refine q_aload_n (M := md_X11_scanNumber) (pc := 43) dX11_scanNumber_43 rfl (by decide) ?_
      refine e_gI (M := md_X11_scanNumber) (pc := 44) (v := m4 81 26) fl_11_203 dX11_scanNumber_44 (is_81 hN) rfl ?_
      refine q_goto (M := md_X11_scanNumber) (pc := 47) (tgt := 69) dX11_scanNumber_47 (by decide) ?_
      exact q_weak (w_Mod_scanNumber_b69 hN hk18  h) ⟨Or.inr rfl, trivial⟩
def f_Mod_scanNumber_l18 : Nat → q_Mem → q_Res
  | 0 => fun _ => none
  | n + 1 => fun m => f_Mod_scanNumber_b18 (f_Mod_scanNumber_l18 n) m
theorem w_Mod_scanNumber_l18 {r : Int × q_Mem} {N : Nat} (hN : 126 ≤ N) : ∀ (n : Nat) (m : q_Mem), f_Mod_scanNumber_l18 n m = some r → q_E md_X11_scanNumber 2 N (none) r m 18 [q_A 81] [] := by
  intro n
  induction n with
  | zero => intro m h; exact q_no h
  | succ n ih =>
    intro m h
    exact w_Mod_scanNumber_b18 hN (fun m h => ih m h) h
def f_Mod_scanNumber (m : q_Mem) : q_Res :=
  q_pf m 81 25 3 fun m1 =>
  q_pf m1 81 26 0 fun m2 =>
  q_pf m2 81 23 (m2 81 24) fun m3 =>
  f_Mod_scanNumber_l18 q_F m3
set_option maxRecDepth 20000 in
theorem ok_X11_scanNumber {r : Int × q_Mem} {m : q_Mem} {N : Nat} (hN : 126 ≤ N) (h : f_Mod_scanNumber m = some r) : q_C md_X11_scanNumber (q_room 2) 0 0 [q_A 81] (q_g N) m (none, q_g N, r.2) := by
  refine q_ofR (by decide) 0 (ls := [q_A 81]) rfl (Nat.le_of_ble_eq_true rfl) ?_
  change q_E md_X11_scanNumber 2 N (none) r m 0 [q_A 81] []
  unfold f_Mod_scanNumber at h
  refine q_aload_n (M := md_X11_scanNumber) (pc := 0) dX11_scanNumber_0 rfl (by decide) ?_
  refine q_iconst (M := md_X11_scanNumber) (pc := 1) dX11_scanNumber_1 ?_
  refine e_pfI (M := md_X11_scanNumber) (pc := 2) h fl_11_178 dX11_scanNumber_2 (is_81 hN) rfl (fun m1 h => ?_)
  refine q_aload_n (M := md_X11_scanNumber) (pc := 5) dX11_scanNumber_5 rfl (by decide) ?_
  refine q_iconst (M := md_X11_scanNumber) (pc := 6) dX11_scanNumber_6 ?_
  refine e_pfI (M := md_X11_scanNumber) (pc := 7) h fl_11_203 dX11_scanNumber_7 (is_81 hN) rfl (fun m2 h => ?_)
  refine q_aload_n (M := md_X11_scanNumber) (pc := 10) dX11_scanNumber_10 rfl (by decide) ?_
  refine q_aload_n (M := md_X11_scanNumber) (pc := 11) dX11_scanNumber_11 rfl (by decide) ?_
  refine e_gI (M := md_X11_scanNumber) (pc := 12) (v := m2 81 24) fl_11_168 dX11_scanNumber_12 (is_81 hN) rfl ?_
  refine e_pfI (M := md_X11_scanNumber) (pc := 15) h fl_11_165 dX11_scanNumber_15 (is_81 hN) rfl (fun m3 h => ?_)
  exact q_weak (w_Mod_scanNumber_l18 hN q_F _  h) ⟨Or.inr rfl, trivial⟩
def f_Mod_scan_b119 (s1 : Int) (m : q_Mem) : q_Res :=
  q_pf m 81 25 s1 fun m1 =>
  q_rt 0 m1
set_option maxRecDepth 20000 in
theorem w_Mod_scan_b119 {s1 : Int} {r : Int × q_Mem} {m : q_Mem} {N : Nat} (hN : 126 ≤ N) (h : f_Mod_scan_b119 s1 m = some r) : q_E md_X11_scan 3 N (none) r m 119 [q_N, q_N] [q_I s1, q_A 81] := by
  unfold f_Mod_scan_b119 at h
  refine e_pfI (M := md_X11_scan) (pc := 119) h fl_11_178 dX11_scan_119 (is_81 hN) rfl (fun m1 h => ?_)
  exact e_vret (M := md_X11_scan) (pc := 122) h rfl dX11_scan_122
def f_Mod_scan_b8 (k8 : q_Mem → q_Res) (m : q_Mem) : q_Res :=
  q_bd (f_Mod_isBlank (m 81 24) m) fun v1 m2 =>
  if q_w v1 = 0 then (q_pf m2 81 23 ((m2 81 24) + 1) fun m3 =>
  q_bd (f_Mod_signAt (m3 81 24) m3) fun v4 m5 =>
  if q_w (m5 81 24) < q_w (m5 81 22) then (q_bd (f_Mod_isLetter v4 m5) fun v6 m7 =>
  if q_w v6 = 0 then (q_bd (f_Mod_isDigit v4 m7) fun v8 m9 =>
  if q_w v8 = 0 then (q_bd (f_Mod_isSign v4 m9) fun v10 m11 =>
  if q_w v10 = 0 then (f_Mod_scan_b119 1 m11)
  else (f_Mod_scan_b119 4 m11))
  else (q_bd (f_Mod_scanNumber m9) fun _ m12 =>
  q_rt 0 m12))
  else (q_bd (f_Mod_scanWord m7) fun _ m13 =>
  q_rt 0 m13))
  else (q_pf m5 81 23 (m5 81 24) fun m14 =>
  q_pf m14 81 25 0 fun m15 =>
  q_rt 0 m15))
  else (q_pf m2 81 24 ((m2 81 24) + 1) fun m16 =>
  k8 m16)
set_option maxRecDepth 20000 in
theorem w_Mod_scan_b8 {k8 : q_Mem → q_Res} {r : Int × q_Mem} {m : q_Mem} {N : Nat} (hN : 126 ≤ N) (hk8 : ∀ (m : q_Mem), k8 m = some r → q_E md_X11_scan 3 N (none) r m 8 [q_A 81, q_N] []) (h : f_Mod_scan_b8 k8 m = some r) : q_E md_X11_scan 3 N (none) r m 8 [q_A 81, q_N] [] := by
  unfold f_Mod_scan_b8 at h
  refine q_aload_n (M := md_X11_scan) (pc := 8) dX11_scan_8 rfl (by decide) ?_
  refine q_aload_n (M := md_X11_scan) (pc := 9) dX11_scan_9 rfl (by decide) ?_
  refine e_gI (M := md_X11_scan) (pc := 10) (v := m 81 24) fl_11_168 dX11_scan_10 (is_81 hN) rfl ?_
  refine e_callVi (M := md_X11_scan) (pc := 13) (d' := 1) (av := [q_I (m 81 24)]) (c := 81) h ml_11_171 im_X11_isBlank se_X11_isBlank dX11_scan_13 (fun v he => ok_X11_isBlank hN  he) rfl (is_81 hN) ⟨_, _, rfl⟩ (by decide) (Nat.le_of_ble_eq_true rfl) ⟨by decide, by decide⟩ rfl (fun v1 m2 h => ?_)
  refine e_if_eq (M := md_X11_scan) (pc := 16) (tgt := 32) h rfl dX11_scan_16 (by decide) (fun h => ?_) (fun h => ?_)
  · refine q_aload_n (M := md_X11_scan) (pc := 32) dX11_scan_32 rfl (by decide) ?_
    refine q_aload_n (M := md_X11_scan) (pc := 33) dX11_scan_33 rfl (by decide) ?_
    refine e_gI (M := md_X11_scan) (pc := 34) (v := m2 81 24) fl_11_168 dX11_scan_34 (is_81 hN) rfl ?_
    refine q_iconst (M := md_X11_scan) (pc := 37) dX11_scan_37 ?_
    refine q_iadd (M := md_X11_scan) (pc := 38) dX11_scan_38 ?_
    refine e_pfI (M := md_X11_scan) (pc := 39) h fl_11_165 dX11_scan_39 (is_81 hN) rfl (fun m3 h => ?_)
    refine q_aload_n (M := md_X11_scan) (pc := 42) dX11_scan_42 rfl (by decide) ?_
    refine q_aload_n (M := md_X11_scan) (pc := 43) dX11_scan_43 rfl (by decide) ?_
    refine e_gI (M := md_X11_scan) (pc := 44) (v := m3 81 24) fl_11_168 dX11_scan_44 (is_81 hN) rfl ?_
    refine e_callVi (M := md_X11_scan) (pc := 47) (d' := 1) (av := [q_I (m3 81 24)]) (c := 81) h ml_11_175 im_X11_signAt se_X11_signAt dX11_scan_47 (fun v he => ok_X11_signAt hN  he) rfl (is_81 hN) ⟨_, _, rfl⟩ (by decide) (Nat.le_of_ble_eq_true rfl) ⟨by decide, by decide⟩ rfl (fun v4 m5 h => ?_)
    refine e_ist_n (M := md_X11_scan) (pc := 50) (ls' := [q_A 81, q_I v4]) dX11_scan_50 (by decide) (q_pl rfl) rfl ?_
    refine q_aload_n (M := md_X11_scan) (pc := 51) dX11_scan_51 rfl (by decide) ?_
    refine e_gI (M := md_X11_scan) (pc := 52) (v := m5 81 24) fl_11_168 dX11_scan_52 (is_81 hN) rfl ?_
    refine q_aload_n (M := md_X11_scan) (pc := 55) dX11_scan_55 rfl (by decide) ?_
    refine e_gI (M := md_X11_scan) (pc := 56) (v := m5 81 22) fl_11_162 dX11_scan_56 (is_81 hN) rfl ?_
    refine e_icmp_lt (M := md_X11_scan) (pc := 59) (tgt := 78) h rfl rfl dX11_scan_59 (by decide) (fun h => ?_) (fun h => ?_)
    · refine q_iload_n (M := md_X11_scan) (pc := 78) dX11_scan_78 rfl ?_
      refine e_callSi (M := md_X11_scan) (pc := 79) (d' := 1) (M' := md_X11_isLetter) (av := [q_I v4]) h ml_11_181 sm_X11_isLetter dX11_scan_79 (fun v he => ok_X11_isLetter hN  he) rfl (Nat.le_of_ble_eq_true rfl) ⟨by decide, by decide⟩ rfl (fun v6 m7 h => ?_)
      refine e_if_eq (M := md_X11_scan) (pc := 82) (tgt := 92) h rfl dX11_scan_82 (by decide) (fun h => ?_) (fun h => ?_)
      · refine q_iload_n (M := md_X11_scan) (pc := 92) dX11_scan_92 rfl ?_
        refine e_callSi (M := md_X11_scan) (pc := 93) (d' := 1) (M' := md_X11_isDigit) (av := [q_I v4]) h ml_11_187 sm_X11_isDigit dX11_scan_93 (fun v he => ok_X11_isDigit hN  he) rfl (Nat.le_of_ble_eq_true rfl) ⟨by decide, by decide⟩ rfl (fun v8 m9 h => ?_)
        refine e_if_eq (M := md_X11_scan) (pc := 96) (tgt := 106) h rfl dX11_scan_96 (by decide) (fun h => ?_) (fun h => ?_)
        · refine q_aload_n (M := md_X11_scan) (pc := 106) dX11_scan_106 rfl (by decide) ?_
          refine q_iload_n (M := md_X11_scan) (pc := 107) dX11_scan_107 rfl ?_
          refine e_callSi (M := md_X11_scan) (pc := 108) (d' := 1) (M' := md_X11_isSign) (av := [q_I v4]) h ml_11_193 sm_X11_isSign dX11_scan_108 (fun v he => ok_X11_isSign hN  he) rfl (Nat.le_of_ble_eq_true rfl) ⟨by decide, by decide⟩ rfl (fun v10 m11 h => ?_)
          refine e_if_eq (M := md_X11_scan) (pc := 111) (tgt := 118) h rfl dX11_scan_111 (by decide) (fun h => ?_) (fun h => ?_)
          · refine q_iconst (M := md_X11_scan) (pc := 118) dX11_scan_118 ?_
            exact q_weak (w_Mod_scan_b119 hN  h) ⟨Or.inl rfl, Or.inl rfl, trivial⟩
          · refine q_iconst (M := md_X11_scan) (pc := 114) dX11_scan_114 ?_
            refine q_goto (M := md_X11_scan) (pc := 115) (tgt := 119) dX11_scan_115 (by decide) ?_
            exact q_weak (w_Mod_scan_b119 hN  h) ⟨Or.inl rfl, Or.inl rfl, trivial⟩
        · refine q_aload_n (M := md_X11_scan) (pc := 99) dX11_scan_99 rfl (by decide) ?_
          refine e_callVv (M := md_X11_scan) (pc := 100) (d' := 2) (av := []) (c := 81) h ml_11_190 im_X11_scanNumber se_X11_scanNumber dX11_scan_100 (fun v he => ok_X11_scanNumber hN  he) rfl (is_81 hN) ⟨_, _, rfl⟩ (by decide) (Nat.le_of_ble_eq_true rfl) ⟨by decide, by decide⟩ rfl (fun _ m12 h => ?_)
          refine q_goto (M := md_X11_scan) (pc := 103) (tgt := 122) dX11_scan_103 (by decide) ?_
          exact e_vret (M := md_X11_scan) (pc := 122) h rfl dX11_scan_122
      · refine q_aload_n (M := md_X11_scan) (pc := 85) dX11_scan_85 rfl (by decide) ?_
        refine e_callVv (M := md_X11_scan) (pc := 86) (d' := 2) (av := []) (c := 81) h ml_11_184 im_X11_scanWord se_X11_scanWord dX11_scan_86 (fun v he => ok_X11_scanWord hN  he) rfl (is_81 hN) ⟨_, _, rfl⟩ (by decide) (Nat.le_of_ble_eq_true rfl) ⟨by decide, by decide⟩ rfl (fun _ m13 h => ?_)
        refine q_goto (M := md_X11_scan) (pc := 89) (tgt := 122) dX11_scan_89 (by decide) ?_
        exact e_vret (M := md_X11_scan) (pc := 122) h rfl dX11_scan_122
    · refine q_aload_n (M := md_X11_scan) (pc := 62) dX11_scan_62 rfl (by decide) ?_
      refine q_aload_n (M := md_X11_scan) (pc := 63) dX11_scan_63 rfl (by decide) ?_
      refine e_gI (M := md_X11_scan) (pc := 64) (v := m5 81 24) fl_11_168 dX11_scan_64 (is_81 hN) rfl ?_
      refine e_pfI (M := md_X11_scan) (pc := 67) h fl_11_165 dX11_scan_67 (is_81 hN) rfl (fun m14 h => ?_)
      refine q_aload_n (M := md_X11_scan) (pc := 70) dX11_scan_70 rfl (by decide) ?_
      refine q_iconst (M := md_X11_scan) (pc := 71) dX11_scan_71 ?_
      refine e_pfI (M := md_X11_scan) (pc := 72) h fl_11_178 dX11_scan_72 (is_81 hN) rfl (fun m15 h => ?_)
      refine q_goto (M := md_X11_scan) (pc := 75) (tgt := 122) dX11_scan_75 (by decide) ?_
      exact e_vret (M := md_X11_scan) (pc := 122) h rfl dX11_scan_122
  · refine q_aload_n (M := md_X11_scan) (pc := 19) dX11_scan_19 rfl (by decide) ?_
    refine q_dup (M := md_X11_scan) (pc := 20) dX11_scan_20 (show (2 : Nat) ≠ 1 by decide) ?_
    refine e_gI (M := md_X11_scan) (pc := 21) (v := m2 81 24) fl_11_168 dX11_scan_21 (is_81 hN) rfl ?_
    refine q_iconst (M := md_X11_scan) (pc := 24) dX11_scan_24 ?_
    refine q_iadd (M := md_X11_scan) (pc := 25) dX11_scan_25 ?_
    refine e_pfI (M := md_X11_scan) (pc := 26) h fl_11_168 dX11_scan_26 (is_81 hN) rfl (fun m16 h => ?_)
    refine q_goto (M := md_X11_scan) (pc := 29) (tgt := 8) dX11_scan_29 (by decide) ?_
    exact q_weak (hk8 _  h) ⟨Or.inr rfl, Or.inl rfl, trivial⟩
def f_Mod_scan_l8 : Nat → q_Mem → q_Res
  | 0 => fun _ => none
  | n + 1 => fun m => f_Mod_scan_b8 (f_Mod_scan_l8 n) m
theorem w_Mod_scan_l8 {r : Int × q_Mem} {N : Nat} (hN : 126 ≤ N) : ∀ (n : Nat) (m : q_Mem), f_Mod_scan_l8 n m = some r → q_E md_X11_scan 3 N (none) r m 8 [q_A 81, q_N] [] := by
  intro n
  induction n with
  | zero => intro m h; exact q_no h
  | succ n ih =>
    intro m h
    exact w_Mod_scan_b8 hN (fun m h => ih m h) h
def f_Mod_scan (m : q_Mem) : q_Res :=
  q_pf m 81 24 (m 81 23) fun m1 =>
  f_Mod_scan_l8 q_F m1
set_option maxRecDepth 20000 in
theorem ok_X11_scan {r : Int × q_Mem} {m : q_Mem} {N : Nat} (hN : 126 ≤ N) (h : f_Mod_scan m = some r) : q_C md_X11_scan (q_room 3) 0 0 [q_A 81] (q_g N) m (none, q_g N, r.2) := by
  refine q_ofR (by decide) 1 (ls := [q_A 81, q_N]) rfl (Nat.le_of_ble_eq_true rfl) ?_
  change q_E md_X11_scan 3 N (none) r m 0 [q_A 81, q_N] []
  unfold f_Mod_scan at h
  refine q_aload_n (M := md_X11_scan) (pc := 0) dX11_scan_0 rfl (by decide) ?_
  refine q_aload_n (M := md_X11_scan) (pc := 1) dX11_scan_1 rfl (by decide) ?_
  refine e_gI (M := md_X11_scan) (pc := 2) (v := m 81 23) fl_11_165 dX11_scan_2 (is_81 hN) rfl ?_
  refine e_pfI (M := md_X11_scan) (pc := 5) h fl_11_168 dX11_scan_5 (is_81 hN) rfl (fun m1 h => ?_)
  exact q_weak (w_Mod_scan_l8 hN q_F _  h) ⟨Or.inr rfl, Or.inl rfl, trivial⟩
def f_Mod_fail (l1 : Int) (m : q_Mem) : q_Res :=
  if q_w (m 81 28) ≤ 0 then (q_pf m 81 28 l1 fun m1 =>
  q_pf m1 81 29 (m1 81 24) fun m2 =>
  q_rt 0 m2)
  else (q_rt 0 m)
set_option maxRecDepth 20000 in
theorem ok_X11_fail {l1 : Int} {r : Int × q_Mem} {m : q_Mem} {N : Nat} (hN : 126 ≤ N) (h : f_Mod_fail l1 m = some r) : q_C md_X11_fail (q_room 1) 0 0 [q_A 81, q_I l1] (q_g N) m (none, q_g N, r.2) := by
  refine q_ofR (by decide) 0 (ls := [q_A 81, q_I l1]) rfl (Nat.le_of_ble_eq_true rfl) ?_
  change q_E md_X11_fail 1 N (none) r m 0 [q_A 81, q_I l1] []
  unfold f_Mod_fail at h
  refine q_aload_n (M := md_X11_fail) (pc := 0) dX11_fail_0 rfl (by decide) ?_
  refine e_gI (M := md_X11_fail) (pc := 1) (v := m 81 28) fl_11_206 dX11_fail_1 (is_81 hN) rfl ?_
  refine e_if_le (M := md_X11_fail) (pc := 4) (tgt := 8) h rfl dX11_fail_4 (by decide) (fun h => ?_) (fun h => ?_)
  · refine q_aload_n (M := md_X11_fail) (pc := 8) dX11_fail_8 rfl (by decide) ?_
    refine q_iload_n (M := md_X11_fail) (pc := 9) dX11_fail_9 rfl ?_
    refine e_pfI (M := md_X11_fail) (pc := 10) h fl_11_206 dX11_fail_10 (is_81 hN) rfl (fun m1 h => ?_)
    refine q_aload_n (M := md_X11_fail) (pc := 13) dX11_fail_13 rfl (by decide) ?_
    refine q_aload_n (M := md_X11_fail) (pc := 14) dX11_fail_14 rfl (by decide) ?_
    refine e_gI (M := md_X11_fail) (pc := 15) (v := m1 81 24) fl_11_168 dX11_fail_15 (is_81 hN) rfl ?_
    refine e_pfI (M := md_X11_fail) (pc := 18) h fl_11_209 dX11_fail_18 (is_81 hN) rfl (fun m2 h => ?_)
    exact e_vret (M := md_X11_fail) (pc := 21) h rfl dX11_fail_21
  · exact e_vret (M := md_X11_fail) (pc := 7) h rfl dX11_fail_7
def f_Mod_isAt (l1 : Int) (m : q_Mem) : q_Res :=
  if q_w (m 81 28) = 0 then (if q_w (m 81 25) = 4 then (q_bd (f_Mod_signAt (m 81 24) m) fun v1 m2 =>
  if q_w v1 = q_w l1 then (q_rz 1 m2)
  else (q_rz 0 m2))
  else (q_rz 0 m))
  else (q_rz 0 m)
set_option maxRecDepth 20000 in
theorem ok_X11_isAt {l1 : Int} {r : Int × q_Mem} {m : q_Mem} {N : Nat} (hN : 126 ≤ N) (h : f_Mod_isAt l1 m = some r) : q_C md_X11_isAt (q_room 2) 0 0 [q_A 81, q_I l1] (q_g N) m (some (q_I r.1), q_g N, r.2) := by
  refine q_ofR (by decide) 0 (ls := [q_A 81, q_I l1]) rfl (Nat.le_of_ble_eq_true rfl) ?_
  change q_E md_X11_isAt 2 N (some 0) r m 0 [q_A 81, q_I l1] []
  unfold f_Mod_isAt at h
  refine q_aload_n (M := md_X11_isAt) (pc := 0) dX11_isAt_0 rfl (by decide) ?_
  refine e_gI (M := md_X11_isAt) (pc := 1) (v := m 81 28) fl_11_206 dX11_isAt_1 (is_81 hN) rfl ?_
  refine e_if_ne (M := md_X11_isAt) (pc := 4) (tgt := 31) h rfl dX11_isAt_4 (by decide) (fun h => ?_) (fun h => ?_)
  · refine q_iconst (M := md_X11_isAt) (pc := 31) dX11_isAt_31 ?_
    exact e_zret (M := md_X11_isAt) (pc := 32) h rfl dX11_isAt_32
  · refine q_aload_n (M := md_X11_isAt) (pc := 7) dX11_isAt_7 rfl (by decide) ?_
    refine e_gI (M := md_X11_isAt) (pc := 8) (v := m 81 25) fl_11_178 dX11_isAt_8 (is_81 hN) rfl ?_
    refine q_iconst (M := md_X11_isAt) (pc := 11) dX11_isAt_11 ?_
    refine e_icmp_ne (M := md_X11_isAt) (pc := 12) (tgt := 31) h rfl (q_wlit rfl) dX11_isAt_12 (by decide) (fun h => ?_) (fun h => ?_)
    · refine q_iconst (M := md_X11_isAt) (pc := 31) dX11_isAt_31 ?_
      exact e_zret (M := md_X11_isAt) (pc := 32) h rfl dX11_isAt_32
    · refine q_aload_n (M := md_X11_isAt) (pc := 15) dX11_isAt_15 rfl (by decide) ?_
      refine q_aload_n (M := md_X11_isAt) (pc := 16) dX11_isAt_16 rfl (by decide) ?_
      refine e_gI (M := md_X11_isAt) (pc := 17) (v := m 81 24) fl_11_168 dX11_isAt_17 (is_81 hN) rfl ?_
      refine e_callVi (M := md_X11_isAt) (pc := 20) (d' := 1) (av := [q_I (m 81 24)]) (c := 81) h ml_11_175 im_X11_signAt se_X11_signAt dX11_isAt_20 (fun v he => ok_X11_signAt hN  he) rfl (is_81 hN) ⟨_, _, rfl⟩ (by decide) (Nat.le_of_ble_eq_true rfl) ⟨by decide, by decide⟩ rfl (fun v1 m2 h => ?_)
      refine q_iload_n (M := md_X11_isAt) (pc := 23) dX11_isAt_23 rfl ?_
      refine e_icmp_ne (M := md_X11_isAt) (pc := 24) (tgt := 31) h rfl rfl dX11_isAt_24 (by decide) (fun h => ?_) (fun h => ?_)
      · refine q_iconst (M := md_X11_isAt) (pc := 31) dX11_isAt_31 ?_
        exact e_zret (M := md_X11_isAt) (pc := 32) h rfl dX11_isAt_32
      · refine q_iconst (M := md_X11_isAt) (pc := 27) dX11_isAt_27 ?_
        refine q_goto (M := md_X11_isAt) (pc := 28) (tgt := 32) dX11_isAt_28 (by decide) ?_
        exact e_zret (M := md_X11_isAt) (pc := 32) h rfl dX11_isAt_32
def f_Mod_isWord (l1 : Int) (m : q_Mem) : q_Res :=
  if q_w (m 81 28) = 0 then (if q_w (m 81 25) = 2 then (if q_w (m 81 27) = q_w l1 then (q_rz 1 m)
  else (q_rz 0 m))
  else (q_rz 0 m))
  else (q_rz 0 m)
set_option maxRecDepth 20000 in
theorem ok_X11_isWord {l1 : Int} {r : Int × q_Mem} {m : q_Mem} {N : Nat} (hN : 126 ≤ N) (h : f_Mod_isWord l1 m = some r) : q_C md_X11_isWord (q_room 1) 0 0 [q_A 81, q_I l1] (q_g N) m (some (q_I r.1), q_g N, r.2) := by
  refine q_ofR (by decide) 0 (ls := [q_A 81, q_I l1]) rfl (Nat.le_of_ble_eq_true rfl) ?_
  change q_E md_X11_isWord 1 N (some 0) r m 0 [q_A 81, q_I l1] []
  unfold f_Mod_isWord at h
  refine q_aload_n (M := md_X11_isWord) (pc := 0) dX11_isWord_0 rfl (by decide) ?_
  refine e_gI (M := md_X11_isWord) (pc := 1) (v := m 81 28) fl_11_206 dX11_isWord_1 (is_81 hN) rfl ?_
  refine e_if_ne (M := md_X11_isWord) (pc := 4) (tgt := 27) h rfl dX11_isWord_4 (by decide) (fun h => ?_) (fun h => ?_)
  · refine q_iconst (M := md_X11_isWord) (pc := 27) dX11_isWord_27 ?_
    exact e_zret (M := md_X11_isWord) (pc := 28) h rfl dX11_isWord_28
  · refine q_aload_n (M := md_X11_isWord) (pc := 7) dX11_isWord_7 rfl (by decide) ?_
    refine e_gI (M := md_X11_isWord) (pc := 8) (v := m 81 25) fl_11_178 dX11_isWord_8 (is_81 hN) rfl ?_
    refine q_iconst (M := md_X11_isWord) (pc := 11) dX11_isWord_11 ?_
    refine e_icmp_ne (M := md_X11_isWord) (pc := 12) (tgt := 27) h rfl (q_wlit rfl) dX11_isWord_12 (by decide) (fun h => ?_) (fun h => ?_)
    · refine q_iconst (M := md_X11_isWord) (pc := 27) dX11_isWord_27 ?_
      exact e_zret (M := md_X11_isWord) (pc := 28) h rfl dX11_isWord_28
    · refine q_aload_n (M := md_X11_isWord) (pc := 15) dX11_isWord_15 rfl (by decide) ?_
      refine e_gI (M := md_X11_isWord) (pc := 16) (v := m 81 27) fl_11_196 dX11_isWord_16 (is_81 hN) rfl ?_
      refine q_iload_n (M := md_X11_isWord) (pc := 19) dX11_isWord_19 rfl ?_
      refine e_icmp_ne (M := md_X11_isWord) (pc := 20) (tgt := 27) h rfl rfl dX11_isWord_20 (by decide) (fun h => ?_) (fun h => ?_)
      · refine q_iconst (M := md_X11_isWord) (pc := 27) dX11_isWord_27 ?_
        exact e_zret (M := md_X11_isWord) (pc := 28) h rfl dX11_isWord_28
      · refine q_iconst (M := md_X11_isWord) (pc := 23) dX11_isWord_23 ?_
        refine q_goto (M := md_X11_isWord) (pc := 24) (tgt := 28) dX11_isWord_24 (by decide) ?_
        exact e_zret (M := md_X11_isWord) (pc := 28) h rfl dX11_isWord_28
def f_Mod_isName (m : q_Mem) : q_Res :=
  if q_w (m 81 28) = 0 then (if q_w (m 81 25) = 2 then (if q_w (m 81 27) = (-1) then (q_rz 1 m)
  else (q_rz 0 m))
  else (q_rz 0 m))
  else (q_rz 0 m)
set_option maxRecDepth 20000 in
theorem ok_X11_isName {r : Int × q_Mem} {m : q_Mem} {N : Nat} (hN : 126 ≤ N) (h : f_Mod_isName m = some r) : q_C md_X11_isName (q_room 1) 0 0 [q_A 81] (q_g N) m (some (q_I r.1), q_g N, r.2) := by
  refine q_ofR (by decide) 0 (ls := [q_A 81]) rfl (Nat.le_of_ble_eq_true rfl) ?_
  change q_E md_X11_isName 1 N (some 0) r m 0 [q_A 81] []
  unfold f_Mod_isName at h
  refine q_aload_n (M := md_X11_isName) (pc := 0) dX11_isName_0 rfl (by decide) ?_
  refine e_gI (M := md_X11_isName) (pc := 1) (v := m 81 28) fl_11_206 dX11_isName_1 (is_81 hN) rfl ?_
  refine e_if_ne (M := md_X11_isName) (pc := 4) (tgt := 27) h rfl dX11_isName_4 (by decide) (fun h => ?_) (fun h => ?_)
  · refine q_iconst (M := md_X11_isName) (pc := 27) dX11_isName_27 ?_
    exact e_zret (M := md_X11_isName) (pc := 28) h rfl dX11_isName_28
  · refine q_aload_n (M := md_X11_isName) (pc := 7) dX11_isName_7 rfl (by decide) ?_
    refine e_gI (M := md_X11_isName) (pc := 8) (v := m 81 25) fl_11_178 dX11_isName_8 (is_81 hN) rfl ?_
    refine q_iconst (M := md_X11_isName) (pc := 11) dX11_isName_11 ?_
    refine e_icmp_ne (M := md_X11_isName) (pc := 12) (tgt := 27) h rfl (q_wlit rfl) dX11_isName_12 (by decide) (fun h => ?_) (fun h => ?_)
    · refine q_iconst (M := md_X11_isName) (pc := 27) dX11_isName_27 ?_
      exact e_zret (M := md_X11_isName) (pc := 28) h rfl dX11_isName_28
    · refine q_aload_n (M := md_X11_isName) (pc := 15) dX11_isName_15 rfl (by decide) ?_
      refine e_gI (M := md_X11_isName) (pc := 16) (v := m 81 27) fl_11_196 dX11_isName_16 (is_81 hN) rfl ?_
      refine q_iconst (M := md_X11_isName) (pc := 19) dX11_isName_19 ?_
      refine e_icmp_ne (M := md_X11_isName) (pc := 20) (tgt := 27) h rfl (q_wlit rfl) dX11_isName_20 (by decide) (fun h => ?_) (fun h => ?_)
      · refine q_iconst (M := md_X11_isName) (pc := 27) dX11_isName_27 ?_
        exact e_zret (M := md_X11_isName) (pc := 28) h rfl dX11_isName_28
      · refine q_iconst (M := md_X11_isName) (pc := 23) dX11_isName_23 ?_
        refine q_goto (M := md_X11_isName) (pc := 24) (tgt := 28) dX11_isName_24 (by decide) ?_
        exact e_zret (M := md_X11_isName) (pc := 28) h rfl dX11_isName_28
def f_Mod_need (l1 : Int) (m : q_Mem) : q_Res :=
  q_bd (f_Mod_isAt l1 m) fun v1 m2 =>
  if q_w v1 = 0 then (q_bd (f_Mod_fail 1 m2) fun _ m3 =>
  q_rt 0 m3)
  else (q_bd (f_Mod_scan m2) fun _ m4 =>
  q_rt 0 m4)
set_option maxRecDepth 20000 in
theorem ok_X11_need {l1 : Int} {r : Int × q_Mem} {m : q_Mem} {N : Nat} (hN : 126 ≤ N) (h : f_Mod_need l1 m = some r) : q_C md_X11_need (q_room 4) 0 0 [q_A 81, q_I l1] (q_g N) m (none, q_g N, r.2) := by
  refine q_ofR (by decide) 0 (ls := [q_A 81, q_I l1]) rfl (Nat.le_of_ble_eq_true rfl) ?_
  change q_E md_X11_need 4 N (none) r m 0 [q_A 81, q_I l1] []
  unfold f_Mod_need at h
  refine q_aload_n (M := md_X11_need) (pc := 0) dX11_need_0 rfl (by decide) ?_
  refine q_iload_n (M := md_X11_need) (pc := 1) dX11_need_1 rfl ?_
  refine e_callVi (M := md_X11_need) (pc := 2) (d' := 2) (av := [q_I l1]) (c := 81) h ml_11_212 im_X11_isAt se_X11_isAt dX11_need_2 (fun v he => ok_X11_isAt hN  he) rfl (is_81 hN) ⟨_, _, rfl⟩ (by decide) (Nat.le_of_ble_eq_true rfl) ⟨by decide, by decide⟩ rfl (fun v1 m2 h => ?_)
  refine e_if_eq (M := md_X11_need) (pc := 5) (tgt := 15) h rfl dX11_need_5 (by decide) (fun h => ?_) (fun h => ?_)
  · refine q_aload_n (M := md_X11_need) (pc := 15) dX11_need_15 rfl (by decide) ?_
    refine q_iconst (M := md_X11_need) (pc := 16) dX11_need_16 ?_
    refine e_callVv (M := md_X11_need) (pc := 17) (d' := 1) (av := [q_I 1]) (c := 81) h ml_11_218 im_X11_fail se_X11_fail dX11_need_17 (fun v he => ok_X11_fail hN  he) rfl (is_81 hN) ⟨_, _, rfl⟩ (by decide) (Nat.le_of_ble_eq_true rfl) ⟨by decide, by decide⟩ rfl (fun _ m3 h => ?_)
    exact e_vret (M := md_X11_need) (pc := 20) h rfl dX11_need_20
  · refine q_aload_n (M := md_X11_need) (pc := 8) dX11_need_8 rfl (by decide) ?_
    refine e_callVv (M := md_X11_need) (pc := 9) (d' := 3) (av := []) (c := 81) h ml_11_215 im_X11_scan se_X11_scan dX11_need_9 (fun v he => ok_X11_scan hN  he) rfl (is_81 hN) ⟨_, _, rfl⟩ (by decide) (Nat.le_of_ble_eq_true rfl) ⟨by decide, by decide⟩ rfl (fun _ m4 h => ?_)
    refine q_goto (M := md_X11_need) (pc := 12) (tgt := 20) dX11_need_12 (by decide) ?_
    exact e_vret (M := md_X11_need) (pc := 20) h rfl dX11_need_20
def f_Mod_signed_b44 (l1 l2 s0 : Int) (m : q_Mem) : q_Res :=
  q_bd (f_Mod_isIn s0 l1 l2 m) fun v1 m2 =>
  if q_w v1 = 0 then (q_bd (f_Mod_fail 2 m2) fun _ m3 =>
  q_rt s0 m3)
  else (q_rt s0 m2)
set_option maxRecDepth 20000 in
theorem w_Mod_signed_b44 {l1 l2 s0 : Int} {r : Int × q_Mem} {m : q_Mem} {N : Nat} (hN : 126 ≤ N) (h : f_Mod_signed_b44 l1 l2 s0 m = some r) : q_E md_X11_signed 4 N (some 0) r m 44 [q_A 81, q_I l1, q_I l2, q_N, q_N] [q_I s0] := by
  unfold f_Mod_signed_b44 at h
  refine e_ist (M := md_X11_signed) (pc := 44) (ls' := [q_A 81, q_I l1, q_I l2, q_N, q_I s0]) dX11_signed_44 (by decide) (q_pl rfl) rfl ?_
  refine q_iload (M := md_X11_signed) (pc := 46) dX11_signed_46 rfl ?_
  refine q_iload_n (M := md_X11_signed) (pc := 48) dX11_signed_48 rfl ?_
  refine q_iload_n (M := md_X11_signed) (pc := 49) dX11_signed_49 rfl ?_
  refine e_callSi (M := md_X11_signed) (pc := 50) (d' := 1) (M' := md_X11_isIn) (av := [q_I s0, q_I l1, q_I l2]) h ml_11_221 sm_X11_isIn dX11_signed_50 (fun v he => ok_X11_isIn hN  he) rfl (Nat.le_of_ble_eq_true rfl) ⟨by decide, by decide⟩ rfl (fun v1 m2 h => ?_)
  refine e_if_ne (M := md_X11_signed) (pc := 53) (tgt := 61) h rfl dX11_signed_53 (by decide) (fun h => ?_) (fun h => ?_)
  · refine q_iload (M := md_X11_signed) (pc := 61) dX11_signed_61 rfl ?_
    exact e_iret (M := md_X11_signed) (pc := 63) h rfl dX11_signed_63
  · refine q_aload_n (M := md_X11_signed) (pc := 56) dX11_signed_56 rfl (by decide) ?_
    refine q_iconst (M := md_X11_signed) (pc := 57) dX11_signed_57 ?_
    refine e_callVv (M := md_X11_signed) (pc := 58) (d' := 1) (av := [q_I 2]) (c := 81) h ml_11_218 im_X11_fail se_X11_fail dX11_signed_58 (fun v he => ok_X11_fail hN  he) rfl (is_81 hN) ⟨_, _, rfl⟩ (by decide) (Nat.le_of_ble_eq_true rfl) ⟨by decide, by decide⟩ rfl (fun _ m3 h => ?_)
    refine q_iload (M := md_X11_signed) (pc := 61) dX11_signed_61 rfl ?_
    exact e_iret (M := md_X11_signed) (pc := 63) h rfl dX11_signed_63
def f_Mod_signed_b28 (l1 l2 l3 : Int) (m : q_Mem) : q_Res :=
  if q_w l3 = 0 then (f_Mod_signed_b44 l1 l2 (m 81 26) m)
  else (f_Mod_signed_b44 l1 l2 (-(m 81 26)) m)
set_option maxRecDepth 20000 in
theorem w_Mod_signed_b28 {l1 l2 l3 : Int} {r : Int × q_Mem} {m : q_Mem} {N : Nat} (hN : 126 ≤ N) (h : f_Mod_signed_b28 l1 l2 l3 m = some r) : q_E md_X11_signed 4 N (some 0) r m 28 [q_A 81, q_I l1, q_I l2, q_I l3, q_N] [] := by
  unfold f_Mod_signed_b28 at h
  refine q_iload_n (M := md_X11_signed) (pc := 28) dX11_signed_28 rfl ?_
  refine e_if_eq (M := md_X11_signed) (pc := 29) (tgt := 40) h rfl dX11_signed_29 (by decide) (fun h => ?_) (fun h => ?_)
  · refine q_aload_n (M := md_X11_signed) (pc := 40) dX11_signed_40 rfl (by decide) ?_
    refine e_gI (M := md_X11_signed) (pc := 41) (v := m 81 26) fl_11_203 dX11_signed_41 (is_81 hN) rfl ?_
    exact q_weak (w_Mod_signed_b44 hN  h) ⟨Or.inr rfl, Or.inr rfl, Or.inr rfl, Or.inl rfl, Or.inl rfl, trivial⟩
  · refine q_aload_n (M := md_X11_signed) (pc := 32) dX11_signed_32 rfl (by decide) ?_
    refine e_gI (M := md_X11_signed) (pc := 33) (v := m 81 26) fl_11_203 dX11_signed_33 (is_81 hN) rfl ?_
    refine q_ineg (M := md_X11_signed) (pc := 36) dX11_signed_36 ?_
    refine q_goto (M := md_X11_signed) (pc := 37) (tgt := 44) dX11_signed_37 (by decide) ?_
    exact q_weak (w_Mod_signed_b44 hN  h) ⟨Or.inr rfl, Or.inr rfl, Or.inr rfl, Or.inl rfl, Or.inl rfl, trivial⟩
def f_Mod_signed_b15 (l1 l2 l3 : Int) (m : q_Mem) : q_Res :=
  if q_w (m 81 25) = 3 then (f_Mod_signed_b28 l1 l2 l3 m)
  else (q_bd (f_Mod_fail 1 m) fun _ m1 =>
  f_Mod_signed_b28 l1 l2 l3 m1)
set_option maxRecDepth 20000 in
theorem w_Mod_signed_b15 {l1 l2 l3 : Int} {r : Int × q_Mem} {m : q_Mem} {N : Nat} (hN : 126 ≤ N) (h : f_Mod_signed_b15 l1 l2 l3 m = some r) : q_E md_X11_signed 4 N (some 0) r m 15 [q_A 81, q_I l1, q_I l2, q_I l3, q_N] [] := by
  unfold f_Mod_signed_b15 at h
  refine q_aload_n (M := md_X11_signed) (pc := 15) dX11_signed_15 rfl (by decide) ?_
  refine e_gI (M := md_X11_signed) (pc := 16) (v := m 81 25) fl_11_178 dX11_signed_16 (is_81 hN) rfl ?_
  refine q_iconst (M := md_X11_signed) (pc := 19) dX11_signed_19 ?_
  refine e_icmp_eq (M := md_X11_signed) (pc := 20) (tgt := 28) h rfl (q_wlit rfl) dX11_signed_20 (by decide) (fun h => ?_) (fun h => ?_)
  · exact q_weak (w_Mod_signed_b28 hN  h) ⟨Or.inr rfl, Or.inr rfl, Or.inr rfl, Or.inr rfl, Or.inl rfl, trivial⟩
  · refine q_aload_n (M := md_X11_signed) (pc := 23) dX11_signed_23 rfl (by decide) ?_
    refine q_iconst (M := md_X11_signed) (pc := 24) dX11_signed_24 ?_
    refine e_callVv (M := md_X11_signed) (pc := 25) (d' := 1) (av := [q_I 1]) (c := 81) h ml_11_218 im_X11_fail se_X11_fail dX11_signed_25 (fun v he => ok_X11_fail hN  he) rfl (is_81 hN) ⟨_, _, rfl⟩ (by decide) (Nat.le_of_ble_eq_true rfl) ⟨by decide, by decide⟩ rfl (fun _ m1 h => ?_)
    exact q_weak (w_Mod_signed_b28 hN  h) ⟨Or.inr rfl, Or.inr rfl, Or.inr rfl, Or.inr rfl, Or.inl rfl, trivial⟩
def f_Mod_signed (l1 l2 : Int) (m : q_Mem) : q_Res :=
  q_bd (f_Mod_isAt 45 m) fun v1 m2 =>
  if q_w v1 = 0 then (f_Mod_signed_b15 l1 l2 v1 m2)
  else (q_bd (f_Mod_scan m2) fun _ m3 =>
  f_Mod_signed_b15 l1 l2 v1 m3)
set_option maxRecDepth 20000 in
theorem ok_X11_signed {l1 l2 : Int} {r : Int × q_Mem} {m : q_Mem} {N : Nat} (hN : 126 ≤ N) (h : f_Mod_signed l1 l2 m = some r) : q_C md_X11_signed (q_room 4) 0 0 [q_A 81, q_I l1, q_I l2] (q_g N) m (some (q_I r.1), q_g N, r.2) := by
  refine q_ofR (by decide) 2 (ls := [q_A 81, q_I l1, q_I l2, q_N, q_N]) rfl (Nat.le_of_ble_eq_true rfl) ?_
  change q_E md_X11_signed 4 N (some 0) r m 0 [q_A 81, q_I l1, q_I l2, q_N, q_N] []
  unfold f_Mod_signed at h
  refine q_aload_n (M := md_X11_signed) (pc := 0) dX11_signed_0 rfl (by decide) ?_
  refine q_bipush (M := md_X11_signed) (pc := 1) (x := 45) dX11_signed_1 (by decide) ?_
  refine e_callVi (M := md_X11_signed) (pc := 3) (d' := 2) (av := [q_I 45]) (c := 81) h ml_11_212 im_X11_isAt se_X11_isAt dX11_signed_3 (fun v he => ok_X11_isAt hN  he) rfl (is_81 hN) ⟨_, _, rfl⟩ (by decide) (Nat.le_of_ble_eq_true rfl) ⟨by decide, by decide⟩ rfl (fun v1 m2 h => ?_)
  refine e_ist_n (M := md_X11_signed) (pc := 6) (ls' := [q_A 81, q_I l1, q_I l2, q_I v1, q_N]) dX11_signed_6 (by decide) (q_pl rfl) rfl ?_
  refine q_iload_n (M := md_X11_signed) (pc := 7) dX11_signed_7 rfl ?_
  refine e_if_eq (M := md_X11_signed) (pc := 8) (tgt := 15) h rfl dX11_signed_8 (by decide) (fun h => ?_) (fun h => ?_)
  · exact q_weak (w_Mod_signed_b15 hN  h) ⟨Or.inr rfl, Or.inr rfl, Or.inr rfl, Or.inr rfl, Or.inl rfl, trivial⟩
  · refine q_aload_n (M := md_X11_signed) (pc := 11) dX11_signed_11 rfl (by decide) ?_
    refine e_callVv (M := md_X11_signed) (pc := 12) (d' := 3) (av := []) (c := 81) h ml_11_215 im_X11_scan se_X11_scan dX11_signed_12 (fun v he => ok_X11_scan hN  he) rfl (is_81 hN) ⟨_, _, rfl⟩ (by decide) (Nat.le_of_ble_eq_true rfl) ⟨by decide, by decide⟩ rfl (fun _ m3 h => ?_)
    exact q_weak (w_Mod_signed_b15 hN  h) ⟨Or.inr rfl, Or.inr rfl, Or.inr rfl, Or.inr rfl, Or.inl rfl, trivial⟩
def f_Mod_numeral_b25 (l3 : Int) (m : q_Mem) : q_Res :=
  if q_w (m 81 28) = 0 then (q_bd (f_Mod_scan m) fun _ m1 =>
  q_rt l3 m1)
  else (q_rt l3 m)
set_option maxRecDepth 20000 in
theorem w_Mod_numeral_b25 {l3 : Int} {r : Int × q_Mem} {m : q_Mem} {N : Nat} (hN : 126 ≤ N) (h : f_Mod_numeral_b25 l3 m = some r) : q_E md_X11_numeral 5 N (some 0) r m 25 [q_A 81, q_N, q_N, q_I l3] [] := by
  unfold f_Mod_numeral_b25 at h
  refine q_aload_n (M := md_X11_numeral) (pc := 25) dX11_numeral_25 rfl (by decide) ?_
  refine e_gI (M := md_X11_numeral) (pc := 26) (v := m 81 28) fl_11_206 dX11_numeral_26 (is_81 hN) rfl ?_
  refine e_if_ne (M := md_X11_numeral) (pc := 29) (tgt := 36) h rfl dX11_numeral_29 (by decide) (fun h => ?_) (fun h => ?_)
  · refine q_iload_n (M := md_X11_numeral) (pc := 36) dX11_numeral_36 rfl ?_
    exact e_iret (M := md_X11_numeral) (pc := 37) h rfl dX11_numeral_37
  · refine q_aload_n (M := md_X11_numeral) (pc := 32) dX11_numeral_32 rfl (by decide) ?_
    refine e_callVv (M := md_X11_numeral) (pc := 33) (d' := 3) (av := []) (c := 81) h ml_11_215 im_X11_scan se_X11_scan dX11_numeral_33 (fun v he => ok_X11_scan hN  he) rfl (is_81 hN) ⟨_, _, rfl⟩ (by decide) (Nat.le_of_ble_eq_true rfl) ⟨by decide, by decide⟩ rfl (fun _ m1 h => ?_)
    refine q_iload_n (M := md_X11_numeral) (pc := 36) dX11_numeral_36 rfl ?_
    exact e_iret (M := md_X11_numeral) (pc := 37) h rfl dX11_numeral_37
def f_Mod_numeral (l1 l2 : Int) (m : q_Mem) : q_Res :=
  if q_w (m 81 25) = 3 then (q_bd (f_Mod_signed l1 l2 m) fun v1 m2 =>
  f_Mod_numeral_b25 v1 m2)
  else (q_bd (f_Mod_fail 1 m) fun _ m3 =>
  f_Mod_numeral_b25 0 m3)
set_option maxRecDepth 20000 in
theorem ok_X11_numeral {l1 l2 : Int} {r : Int × q_Mem} {m : q_Mem} {N : Nat} (hN : 126 ≤ N) (h : f_Mod_numeral l1 l2 m = some r) : q_C md_X11_numeral (q_room 5) 0 0 [q_A 81, q_I l1, q_I l2] (q_g N) m (some (q_I r.1), q_g N, r.2) := by
  refine q_ofR (by decide) 1 (ls := [q_A 81, q_I l1, q_I l2, q_N]) rfl (Nat.le_of_ble_eq_true rfl) ?_
  change q_E md_X11_numeral 5 N (some 0) r m 0 [q_A 81, q_I l1, q_I l2, q_N] []
  unfold f_Mod_numeral at h
  refine q_iconst (M := md_X11_numeral) (pc := 0) dX11_numeral_0 ?_
  refine e_ist_n (M := md_X11_numeral) (pc := 1) (ls' := [q_A 81, q_I l1, q_I l2, q_I 0]) dX11_numeral_1 (by decide) (q_pl rfl) rfl ?_
  refine q_aload_n (M := md_X11_numeral) (pc := 2) dX11_numeral_2 rfl (by decide) ?_
  refine e_gI (M := md_X11_numeral) (pc := 3) (v := m 81 25) fl_11_178 dX11_numeral_3 (is_81 hN) rfl ?_
  refine q_iconst (M := md_X11_numeral) (pc := 6) dX11_numeral_6 ?_
  refine e_icmp_eq (M := md_X11_numeral) (pc := 7) (tgt := 18) h rfl (q_wlit rfl) dX11_numeral_7 (by decide) (fun h => ?_) (fun h => ?_)
  · refine q_aload_n (M := md_X11_numeral) (pc := 18) dX11_numeral_18 rfl (by decide) ?_
    refine q_iload_n (M := md_X11_numeral) (pc := 19) dX11_numeral_19 rfl ?_
    refine q_iload_n (M := md_X11_numeral) (pc := 20) dX11_numeral_20 rfl ?_
    refine e_callVi (M := md_X11_numeral) (pc := 21) (d' := 4) (av := [q_I l1, q_I l2]) (c := 81) h ml_11_225 im_X11_signed se_X11_signed dX11_numeral_21 (fun v he => ok_X11_signed hN  he) rfl (is_81 hN) ⟨_, _, rfl⟩ (by decide) (Nat.le_of_ble_eq_true rfl) ⟨by decide, by decide⟩ rfl (fun v1 m2 h => ?_)
    refine e_ist_n (M := md_X11_numeral) (pc := 24) (ls' := [q_A 81, q_I l1, q_I l2, q_I v1]) dX11_numeral_24 (by decide) (q_pl rfl) rfl ?_
    exact q_weak (w_Mod_numeral_b25 hN  h) ⟨Or.inr rfl, Or.inl rfl, Or.inl rfl, Or.inr rfl, trivial⟩
  · refine q_aload_n (M := md_X11_numeral) (pc := 10) dX11_numeral_10 rfl (by decide) ?_
    refine q_iconst (M := md_X11_numeral) (pc := 11) dX11_numeral_11 ?_
    refine e_callVv (M := md_X11_numeral) (pc := 12) (d' := 1) (av := [q_I 1]) (c := 81) h ml_11_218 im_X11_fail se_X11_fail dX11_numeral_12 (fun v he => ok_X11_fail hN  he) rfl (is_81 hN) ⟨_, _, rfl⟩ (by decide) (Nat.le_of_ble_eq_true rfl) ⟨by decide, by decide⟩ rfl (fun _ m3 h => ?_)
    refine q_goto (M := md_X11_numeral) (pc := 15) (tgt := 25) dX11_numeral_15 (by decide) ?_
    exact q_weak (w_Mod_numeral_b25 hN  h) ⟨Or.inr rfl, Or.inl rfl, Or.inl rfl, Or.inr rfl, trivial⟩
def f_Mod_isNamed_b22 (k22 : Int → Int → q_Mem → q_Res) (l1 l2 : Int) (m : q_Mem) : q_Res :=
  q_rd m 104 3 l1 fun v1 =>
  if q_w v1 ≤ q_w l2 then (q_rz 1 m)
  else (q_rd m 103 3 l1 fun v2 =>
  q_rd m 101 800 (v2 + l2) fun v3 =>
  q_rd m 101 800 ((m 81 24) + l2) fun v4 =>
  if q_w v3 = q_w v4 then (k22 l1 (l2 + 1) m)
  else (q_rz 0 m))
set_option maxRecDepth 20000 in
theorem w_Mod_isNamed_b22 {k22 : Int → Int → q_Mem → q_Res} {l1 l2 : Int} {r : Int × q_Mem} {m : q_Mem} {N : Nat} (hN : 126 ≤ N) (hk22 : ∀ (l1 l2 : Int) (m : q_Mem), k22 l1 l2 m = some r → q_E md_X11_isNamed 1 N (some 0) r m 22 [q_A 81, q_I l1, q_I l2] []) (h : f_Mod_isNamed_b22 k22 l1 l2 m = some r) : q_E md_X11_isNamed 1 N (some 0) r m 22 [q_A 81, q_I l1, q_I l2] [] := by
  unfold f_Mod_isNamed_b22 at h
  refine q_iload_n (M := md_X11_isNamed) (pc := 22) dX11_isNamed_22 rfl ?_
  refine q_aload_n (M := md_X11_isNamed) (pc := 23) dX11_isNamed_23 rfl (by decide) ?_
  refine q_getP (M := md_X11_isNamed) (pc := 24) (v := 104) fl_11_81 dX11_isNamed_24 (is_81 hN) rfl ?_
  refine q_iload_n (M := md_X11_isNamed) (pc := 27) dX11_isNamed_27 rfl ?_
  refine e_rd (M := md_X11_isNamed) (pc := 28) h dX11_isNamed_28 (ar_104 hN) (fun v1 h => ?_)
  refine e_icmp_ge (M := md_X11_isNamed) (pc := 29) (tgt := 67) h rfl rfl dX11_isNamed_29 (by decide) (fun h => ?_) (fun h => ?_)
  · refine q_iconst (M := md_X11_isNamed) (pc := 67) dX11_isNamed_67 ?_
    exact e_zret (M := md_X11_isNamed) (pc := 68) h rfl dX11_isNamed_68
  · refine q_aload_n (M := md_X11_isNamed) (pc := 32) dX11_isNamed_32 rfl (by decide) ?_
    refine q_getP (M := md_X11_isNamed) (pc := 33) (v := 101) fl_11_67 dX11_isNamed_33 (is_81 hN) rfl ?_
    refine q_aload_n (M := md_X11_isNamed) (pc := 36) dX11_isNamed_36 rfl (by decide) ?_
    refine q_getP (M := md_X11_isNamed) (pc := 37) (v := 103) fl_11_78 dX11_isNamed_37 (is_81 hN) rfl ?_
    refine q_iload_n (M := md_X11_isNamed) (pc := 40) dX11_isNamed_40 rfl ?_
    refine e_rd (M := md_X11_isNamed) (pc := 41) h dX11_isNamed_41 (ar_103 hN) (fun v2 h => ?_)
    refine q_iload_n (M := md_X11_isNamed) (pc := 42) dX11_isNamed_42 rfl ?_
    refine q_iadd (M := md_X11_isNamed) (pc := 43) dX11_isNamed_43 ?_
    refine e_rdb (M := md_X11_isNamed) (pc := 44) h dX11_isNamed_44 (ar_101 hN) (fun v3 h => ?_)
    refine q_aload_n (M := md_X11_isNamed) (pc := 45) dX11_isNamed_45 rfl (by decide) ?_
    refine q_getP (M := md_X11_isNamed) (pc := 46) (v := 101) fl_11_67 dX11_isNamed_46 (is_81 hN) rfl ?_
    refine q_aload_n (M := md_X11_isNamed) (pc := 49) dX11_isNamed_49 rfl (by decide) ?_
    refine e_gI (M := md_X11_isNamed) (pc := 50) (v := m 81 24) fl_11_168 dX11_isNamed_50 (is_81 hN) rfl ?_
    refine q_iload_n (M := md_X11_isNamed) (pc := 53) dX11_isNamed_53 rfl ?_
    refine q_iadd (M := md_X11_isNamed) (pc := 54) dX11_isNamed_54 ?_
    refine e_rdb (M := md_X11_isNamed) (pc := 55) h dX11_isNamed_55 (ar_101 hN) (fun v4 h => ?_)
    refine e_icmp_eq (M := md_X11_isNamed) (pc := 56) (tgt := 61) h rfl rfl dX11_isNamed_56 (by decide) (fun h => ?_) (fun h => ?_)
    · refine e_inc (M := md_X11_isNamed) (pc := 61) (x := l2) (ls' := [q_A 81, q_I l1, q_I (l2 + 1)]) dX11_isNamed_61 rfl (by decide) (q_pl rfl) rfl ?_
      refine q_goto (M := md_X11_isNamed) (pc := 64) (tgt := 22) dX11_isNamed_64 (by decide) ?_
      exact q_weak (hk22 _ _ _  h) ⟨Or.inr rfl, Or.inr rfl, Or.inr rfl, trivial⟩
    · refine q_iconst (M := md_X11_isNamed) (pc := 59) dX11_isNamed_59 ?_
      exact e_zret (M := md_X11_isNamed) (pc := 60) h rfl dX11_isNamed_60
def f_Mod_isNamed_l22 : Nat → Int → Int → q_Mem → q_Res
  | 0 => fun _ _ _ => none
  | n + 1 => fun l1 l2 m => f_Mod_isNamed_b22 (f_Mod_isNamed_l22 n) l1 l2 m
theorem w_Mod_isNamed_l22 {r : Int × q_Mem} {N : Nat} (hN : 126 ≤ N) : ∀ (n : Nat) (l1 l2 : Int) (m : q_Mem), f_Mod_isNamed_l22 n l1 l2 m = some r → q_E md_X11_isNamed 1 N (some 0) r m 22 [q_A 81, q_I l1, q_I l2] [] := by
  intro n
  induction n with
  | zero => intro l1 l2 m h; exact q_no h
  | succ n ih =>
    intro l1 l2 m h
    exact w_Mod_isNamed_b22 hN (fun l1 l2 m h => ih l1 l2 m h) h
def f_Mod_isNamed (l1 : Int) (m : q_Mem) : q_Res :=
  q_rd m 104 3 l1 fun v1 =>
  if q_w v1 = q_w ((m 81 23) - (m 81 24)) then (f_Mod_isNamed_l22 q_F l1 0 m)
  else (q_rz 0 m)
set_option maxRecDepth 20000 in
theorem ok_X11_isNamed {l1 : Int} {r : Int × q_Mem} {m : q_Mem} {N : Nat} (hN : 126 ≤ N) (h : f_Mod_isNamed l1 m = some r) : q_C md_X11_isNamed (q_room 1) 0 0 [q_A 81, q_I l1] (q_g N) m (some (q_I r.1), q_g N, r.2) := by
  refine q_ofR (by decide) 1 (ls := [q_A 81, q_I l1, q_N]) rfl (Nat.le_of_ble_eq_true rfl) ?_
  change q_E md_X11_isNamed 1 N (some 0) r m 0 [q_A 81, q_I l1, q_N] []
  unfold f_Mod_isNamed at h
  refine q_aload_n (M := md_X11_isNamed) (pc := 0) dX11_isNamed_0 rfl (by decide) ?_
  refine q_getP (M := md_X11_isNamed) (pc := 1) (v := 104) fl_11_81 dX11_isNamed_1 (is_81 hN) rfl ?_
  refine q_iload_n (M := md_X11_isNamed) (pc := 4) dX11_isNamed_4 rfl ?_
  refine e_rd (M := md_X11_isNamed) (pc := 5) h dX11_isNamed_5 (ar_104 hN) (fun v1 h => ?_)
  refine q_aload_n (M := md_X11_isNamed) (pc := 6) dX11_isNamed_6 rfl (by decide) ?_
  refine e_gI (M := md_X11_isNamed) (pc := 7) (v := m 81 23) fl_11_165 dX11_isNamed_7 (is_81 hN) rfl ?_
  refine q_aload_n (M := md_X11_isNamed) (pc := 10) dX11_isNamed_10 rfl (by decide) ?_
  refine e_gI (M := md_X11_isNamed) (pc := 11) (v := m 81 24) fl_11_168 dX11_isNamed_11 (is_81 hN) rfl ?_
  refine q_isub (M := md_X11_isNamed) (pc := 14) dX11_isNamed_14 ?_
  refine e_icmp_eq (M := md_X11_isNamed) (pc := 15) (tgt := 20) h rfl rfl dX11_isNamed_15 (by decide) (fun h => ?_) (fun h => ?_)
  · refine q_iconst (M := md_X11_isNamed) (pc := 20) dX11_isNamed_20 ?_
    refine e_ist_n (M := md_X11_isNamed) (pc := 21) (ls' := [q_A 81, q_I l1, q_I 0]) dX11_isNamed_21 (by decide) (q_pl rfl) rfl ?_
    exact q_weak (w_Mod_isNamed_l22 hN q_F _ _ _  h) ⟨Or.inr rfl, Or.inr rfl, Or.inr rfl, trivial⟩
  · refine q_iconst (M := md_X11_isNamed) (pc := 18) dX11_isNamed_18 ?_
    exact e_zret (M := md_X11_isNamed) (pc := 19) h rfl dX11_isNamed_19
def f_Mod_named_b2 (k2 : Int → Int → q_Mem → q_Res) (l1 l2 : Int) (m : q_Mem) : q_Res :=
  if q_w l1 ≤ q_w l2 then (q_rt (-1) m)
  else (q_bd (f_Mod_isNamed l2 m) fun v1 m2 =>
  if q_w v1 = 0 then (k2 l1 (l2 + 1) m2)
  else (q_rt l2 m2))
set_option maxRecDepth 20000 in
theorem w_Mod_named_b2 {k2 : Int → Int → q_Mem → q_Res} {l1 l2 : Int} {r : Int × q_Mem} {m : q_Mem} {N : Nat} (hN : 126 ≤ N) (hk2 : ∀ (l1 l2 : Int) (m : q_Mem), k2 l1 l2 m = some r → q_E md_X11_named 2 N (some 0) r m 2 [q_A 81, q_I l1, q_I l2] []) (h : f_Mod_named_b2 k2 l1 l2 m = some r) : q_E md_X11_named 2 N (some 0) r m 2 [q_A 81, q_I l1, q_I l2] [] := by
  unfold f_Mod_named_b2 at h
  refine q_iload_n (M := md_X11_named) (pc := 2) dX11_named_2 rfl ?_
  refine q_iload_n (M := md_X11_named) (pc := 3) dX11_named_3 rfl ?_
  refine e_icmp_ge (M := md_X11_named) (pc := 4) (tgt := 23) h rfl rfl dX11_named_4 (by decide) (fun h => ?_) (fun h => ?_)
  · refine q_iconst (M := md_X11_named) (pc := 23) dX11_named_23 ?_
    exact e_iret (M := md_X11_named) (pc := 24) h rfl dX11_named_24
  · refine q_aload_n (M := md_X11_named) (pc := 7) dX11_named_7 rfl (by decide) ?_
    refine q_iload_n (M := md_X11_named) (pc := 8) dX11_named_8 rfl ?_
    refine e_callVi (M := md_X11_named) (pc := 9) (d' := 1) (av := [q_I l2]) (c := 81) h ml_11_254 im_X11_isNamed se_X11_isNamed dX11_named_9 (fun v he => ok_X11_isNamed hN  he) rfl (is_81 hN) ⟨_, _, rfl⟩ (by decide) (Nat.le_of_ble_eq_true rfl) ⟨by decide, by decide⟩ rfl (fun v1 m2 h => ?_)
    refine e_if_eq (M := md_X11_named) (pc := 12) (tgt := 17) h rfl dX11_named_12 (by decide) (fun h => ?_) (fun h => ?_)
    · refine e_inc (M := md_X11_named) (pc := 17) (x := l2) (ls' := [q_A 81, q_I l1, q_I (l2 + 1)]) dX11_named_17 rfl (by decide) (q_pl rfl) rfl ?_
      refine q_goto (M := md_X11_named) (pc := 20) (tgt := 2) dX11_named_20 (by decide) ?_
      exact q_weak (hk2 _ _ _  h) ⟨Or.inr rfl, Or.inr rfl, Or.inr rfl, trivial⟩
    · refine q_iload_n (M := md_X11_named) (pc := 15) dX11_named_15 rfl ?_
      exact e_iret (M := md_X11_named) (pc := 16) h rfl dX11_named_16
def f_Mod_named_l2 : Nat → Int → Int → q_Mem → q_Res
  | 0 => fun _ _ _ => none
  | n + 1 => fun l1 l2 m => f_Mod_named_b2 (f_Mod_named_l2 n) l1 l2 m
theorem w_Mod_named_l2 {r : Int × q_Mem} {N : Nat} (hN : 126 ≤ N) : ∀ (n : Nat) (l1 l2 : Int) (m : q_Mem), f_Mod_named_l2 n l1 l2 m = some r → q_E md_X11_named 2 N (some 0) r m 2 [q_A 81, q_I l1, q_I l2] [] := by
  intro n
  induction n with
  | zero => intro l1 l2 m h; exact q_no h
  | succ n ih =>
    intro l1 l2 m h
    exact w_Mod_named_b2 hN (fun l1 l2 m h => ih l1 l2 m h) h
def f_Mod_named (l1 : Int) (m : q_Mem) : q_Res :=
  f_Mod_named_l2 q_F l1 0 m
set_option maxRecDepth 20000 in
theorem ok_X11_named {l1 : Int} {r : Int × q_Mem} {m : q_Mem} {N : Nat} (hN : 126 ≤ N) (h : f_Mod_named l1 m = some r) : q_C md_X11_named (q_room 2) 0 0 [q_A 81, q_I l1] (q_g N) m (some (q_I r.1), q_g N, r.2) := by
  refine q_ofR (by decide) 1 (ls := [q_A 81, q_I l1, q_N]) rfl (Nat.le_of_ble_eq_true rfl) ?_
  change q_E md_X11_named 2 N (some 0) r m 0 [q_A 81, q_I l1, q_N] []
  unfold f_Mod_named at h
  refine q_iconst (M := md_X11_named) (pc := 0) dX11_named_0 ?_
  refine e_ist_n (M := md_X11_named) (pc := 1) (ls' := [q_A 81, q_I l1, q_I 0]) dX11_named_1 (by decide) (q_pl rfl) rfl ?_
  exact q_weak (w_Mod_named_l2 hN q_F _ _ _  h) ⟨Or.inr rfl, Or.inr rfl, Or.inr rfl, trivial⟩
def f_Mod_push (l1 : Int) (m : q_Mem) : q_Res :=
  q_wr m 105 100 (m 81 38) l1 fun m1 =>
  q_pf m1 81 38 ((m1 81 38) + 1) fun m2 =>
  q_rt 0 m2
set_option maxRecDepth 20000 in
theorem ok_X11_push {l1 : Int} {r : Int × q_Mem} {m : q_Mem} {N : Nat} (hN : 126 ≤ N) (h : f_Mod_push l1 m = some r) : q_C md_X11_push (q_room 1) 0 0 [q_A 81, q_I l1] (q_g N) m (none, q_g N, r.2) := by
  refine q_ofR (by decide) 0 (ls := [q_A 81, q_I l1]) rfl (Nat.le_of_ble_eq_true rfl) ?_
  change q_E md_X11_push 1 N (none) r m 0 [q_A 81, q_I l1] []
  unfold f_Mod_push at h
  refine q_aload_n (M := md_X11_push) (pc := 0) dX11_push_0 rfl (by decide) ?_
  refine q_getP (M := md_X11_push) (pc := 1) (v := 105) fl_11_84 dX11_push_1 (is_81 hN) rfl ?_
  refine q_aload_n (M := md_X11_push) (pc := 4) dX11_push_4 rfl (by decide) ?_
  refine e_gI (M := md_X11_push) (pc := 5) (v := m 81 38) fl_11_271 dX11_push_5 (is_81 hN) rfl ?_
  refine q_iload_n (M := md_X11_push) (pc := 8) dX11_push_8 rfl ?_
  refine e_wr (M := md_X11_push) (pc := 9) h dX11_push_9 (ar_105 hN) (fun m1 h => ?_)
  refine q_aload_n (M := md_X11_push) (pc := 10) dX11_push_10 rfl (by decide) ?_
  refine q_dup (M := md_X11_push) (pc := 11) dX11_push_11 (show (2 : Nat) ≠ 1 by decide) ?_
  refine e_gI (M := md_X11_push) (pc := 12) (v := m1 81 38) fl_11_271 dX11_push_12 (is_81 hN) rfl ?_
  refine q_iconst (M := md_X11_push) (pc := 15) dX11_push_15 ?_
  refine q_iadd (M := md_X11_push) (pc := 16) dX11_push_16 ?_
  refine e_pfI (M := md_X11_push) (pc := 17) h fl_11_271 dX11_push_17 (is_81 hN) rfl (fun m2 h => ?_)
  exact e_vret (M := md_X11_push) (pc := 20) h rfl dX11_push_20
def f_Mod_lay (l1 l2 : Int) (m : q_Mem) : q_Res :=
  q_rd m 92 2 l1 fun v1 =>
  q_wr m 100 200 ((100 * l1) + v1) l2 fun m2 =>
  q_rd m2 92 2 l1 fun v3 =>
  q_wr m2 92 2 l1 (v3 + 1) fun m4 =>
  q_rt 0 m4
set_option maxRecDepth 20000 in
theorem ok_X11_lay {l1 l2 : Int} {r : Int × q_Mem} {m : q_Mem} {N : Nat} (hN : 126 ≤ N) (h : f_Mod_lay l1 l2 m = some r) : q_C md_X11_lay (q_room 1) 0 0 [q_A 81, q_I l1, q_I l2] (q_g N) m (none, q_g N, r.2) := by
  refine q_ofR (by decide) 0 (ls := [q_A 81, q_I l1, q_I l2]) rfl (Nat.le_of_ble_eq_true rfl) ?_
  change q_E md_X11_lay 1 N (none) r m 0 [q_A 81, q_I l1, q_I l2] []
  unfold f_Mod_lay at h
  refine q_aload_n (M := md_X11_lay) (pc := 0) dX11_lay_0 rfl (by decide) ?_
  refine q_getP (M := md_X11_lay) (pc := 1) (v := 100) fl_11_64 dX11_lay_1 (is_81 hN) rfl ?_
  refine q_bipush (M := md_X11_lay) (pc := 4) (x := 100) dX11_lay_4 (by decide) ?_
  refine q_iload_n (M := md_X11_lay) (pc := 6) dX11_lay_6 rfl ?_
  refine q_imul (M := md_X11_lay) (pc := 7) dX11_lay_7 ?_
  refine q_aload_n (M := md_X11_lay) (pc := 8) dX11_lay_8 rfl (by decide) ?_
  refine q_getP (M := md_X11_lay) (pc := 9) (v := 92) fl_11_40 dX11_lay_9 (is_81 hN) rfl ?_
  refine q_iload_n (M := md_X11_lay) (pc := 12) dX11_lay_12 rfl ?_
  refine e_rd (M := md_X11_lay) (pc := 13) h dX11_lay_13 (ar_92 hN) (fun v1 h => ?_)
  refine q_iadd (M := md_X11_lay) (pc := 14) dX11_lay_14 ?_
  refine q_iload_n (M := md_X11_lay) (pc := 15) dX11_lay_15 rfl ?_
  refine e_wr (M := md_X11_lay) (pc := 16) h dX11_lay_16 (ar_100 hN) (fun m2 h => ?_)
  refine q_aload_n (M := md_X11_lay) (pc := 17) dX11_lay_17 rfl (by decide) ?_
  refine q_getP (M := md_X11_lay) (pc := 18) (v := 92) fl_11_40 dX11_lay_18 (is_81 hN) rfl ?_
  refine q_iload_n (M := md_X11_lay) (pc := 21) dX11_lay_21 rfl ?_
  refine q_dup2 (M := md_X11_lay) (pc := 22) dX11_lay_22 (show (0 : Nat) ≠ 1 by decide) (show (2 : Nat) ≠ 1 by decide) ?_
  refine e_rd (M := md_X11_lay) (pc := 23) h dX11_lay_23 (ar_92 hN) (fun v3 h => ?_)
  refine q_iconst (M := md_X11_lay) (pc := 24) dX11_lay_24 ?_
  refine q_iadd (M := md_X11_lay) (pc := 25) dX11_lay_25 ?_
  refine e_wr (M := md_X11_lay) (pc := 26) h dX11_lay_26 (ar_92 hN) (fun m4 h => ?_)
  exact e_vret (M := md_X11_lay) (pc := 27) h rfl dX11_lay_27
def f_Mod_addOffset_b71 (k18 : Int → Int → Int → Int → Int → q_Mem → q_Res) (l1 l2 l3 l5 s0 : Int) (m : q_Mem) : q_Res :=
  k18 l1 l2 l3 s0 (l5 + 1) m
set_option maxRecDepth 20000 in
theorem w_Mod_addOffset_b71 {k18 : Int → Int → Int → Int → Int → q_Mem → q_Res} {l1 l2 l3 l5 s0 : Int} {r : Int × q_Mem} {m : q_Mem} {N : Nat} (hN : 126 ≤ N) (hk18 : ∀ (l1 l2 l3 l4 l5 : Int) (m : q_Mem), k18 l1 l2 l3 l4 l5 m = some r → q_E md_X11_addOffset 1 N (none) r m 18 [q_A 81, q_I l1, q_I l2, q_I l3, q_I l4, q_I l5] []) (h : f_Mod_addOffset_b71 k18 l1 l2 l3 l5 s0 m = some r) : q_E md_X11_addOffset 1 N (none) r m 71 [q_A 81, q_I l1, q_I l2, q_I l3, q_N, q_I l5] [q_I s0] := by
  unfold f_Mod_addOffset_b71 at h
  refine e_ist (M := md_X11_addOffset) (pc := 71) (ls' := [q_A 81, q_I l1, q_I l2, q_I l3, q_I s0, q_I l5]) dX11_addOffset_71 (by decide) (q_pl rfl) rfl ?_
  refine e_inc (M := md_X11_addOffset) (pc := 73) (x := l5) (ls' := [q_A 81, q_I l1, q_I l2, q_I l3, q_I s0, q_I (l5 + 1)]) dX11_addOffset_73 rfl (by decide) (q_pl rfl) rfl ?_
  refine q_goto (M := md_X11_addOffset) (pc := 76) (tgt := 18) dX11_addOffset_76 (by decide) ?_
  exact q_weak (hk18 _ _ _ _ _ _  h) ⟨Or.inr rfl, Or.inr rfl, Or.inr rfl, Or.inr rfl, Or.inr rfl, Or.inr rfl, trivial⟩
def f_Mod_addOffset_b66 (k18 : Int → Int → Int → Int → Int → q_Mem → q_Res) (l1 l2 l3 l5 : Int) (m : q_Mem) : q_Res :=
  f_Mod_addOffset_b71 k18 l1 l2 l3 l5 1 m
set_option maxRecDepth 20000 in
theorem w_Mod_addOffset_b66 {k18 : Int → Int → Int → Int → Int → q_Mem → q_Res} {l1 l2 l3 l5 : Int} {r : Int × q_Mem} {m : q_Mem} {N : Nat} (hN : 126 ≤ N) (hk18 : ∀ (l1 l2 l3 l4 l5 : Int) (m : q_Mem), k18 l1 l2 l3 l4 l5 m = some r → q_E md_X11_addOffset 1 N (none) r m 18 [q_A 81, q_I l1, q_I l2, q_I l3, q_I l4, q_I l5] []) (h : f_Mod_addOffset_b66 k18 l1 l2 l3 l5 m = some r) : q_E md_X11_addOffset 1 N (none) r m 66 [q_A 81, q_I l1, q_I l2, q_I l3, q_N, q_I l5] [] := by
  unfold f_Mod_addOffset_b66 at h
  refine q_iconst (M := md_X11_addOffset) (pc := 66) dX11_addOffset_66 ?_
  refine q_goto (M := md_X11_addOffset) (pc := 67) (tgt := 71) dX11_addOffset_67 (by decide) ?_
  exact q_weak (w_Mod_addOffset_b71 hN hk18  h) ⟨Or.inr rfl, Or.inr rfl, Or.inr rfl, Or.inr rfl, Or.inl rfl, Or.inr rfl, trivial⟩
def f_Mod_addOffset_b70 (k18 : Int → Int → Int → Int → Int → q_Mem → q_Res) (l1 l2 l3 l5 : Int) (m : q_Mem) : q_Res :=
  f_Mod_addOffset_b71 k18 l1 l2 l3 l5 0 m
set_option maxRecDepth 20000 in
theorem w_Mod_addOffset_b70 {k18 : Int → Int → Int → Int → Int → q_Mem → q_Res} {l1 l2 l3 l5 : Int} {r : Int × q_Mem} {m : q_Mem} {N : Nat} (hN : 126 ≤ N) (hk18 : ∀ (l1 l2 l3 l4 l5 : Int) (m : q_Mem), k18 l1 l2 l3 l4 l5 m = some r → q_E md_X11_addOffset 1 N (none) r m 18 [q_A 81, q_I l1, q_I l2, q_I l3, q_I l4, q_I l5] []) (h : f_Mod_addOffset_b70 k18 l1 l2 l3 l5 m = some r) : q_E md_X11_addOffset 1 N (none) r m 70 [q_A 81, q_I l1, q_I l2, q_I l3, q_N, q_I l5] [] := by
  unfold f_Mod_addOffset_b70 at h
  refine q_iconst (M := md_X11_addOffset) (pc := 70) dX11_addOffset_70 ?_
  exact q_weak (w_Mod_addOffset_b71 hN hk18  h) ⟨Or.inr rfl, Or.inr rfl, Or.inr rfl, Or.inr rfl, Or.inl rfl, Or.inr rfl, trivial⟩
def f_Mod_addOffset_b18 (k18 : Int → Int → Int → Int → Int → q_Mem → q_Res) (l1 l2 l3 l4 l5 : Int) (m : q_Mem) : q_Res :=
  q_rd m 87 2 l1 fun v1 =>
  if q_w v1 ≤ q_w l5 then (if q_w l4 = 0 then (q_rd m 87 2 l1 fun v2 =>
  q_wr m 96 24 ((12 * l1) + v2) l2 fun m3 =>
  q_rd m3 87 2 l1 fun v4 =>
  q_wr m3 97 24 ((12 * l1) + v4) l3 fun m5 =>
  q_rd m5 87 2 l1 fun v6 =>
  q_wr m5 87 2 l1 (v6 + 1) fun m7 =>
  q_rt 0 m7)
  else (q_rt 0 m))
  else (if q_w l4 = 0 then (q_rd m 96 24 ((12 * l1) + l5) fun v8 =>
  if q_w v8 = q_w l2 then (q_rd m 97 24 ((12 * l1) + l5) fun v9 =>
  if q_w v9 = q_w l3 then (f_Mod_addOffset_b66 k18 l1 l2 l3 l5 m)
  else (f_Mod_addOffset_b70 k18 l1 l2 l3 l5 m))
  else (f_Mod_addOffset_b70 k18 l1 l2 l3 l5 m))
  else (f_Mod_addOffset_b66 k18 l1 l2 l3 l5 m))
set_option maxRecDepth 20000 in
theorem w_Mod_addOffset_b18 {k18 : Int → Int → Int → Int → Int → q_Mem → q_Res} {l1 l2 l3 l4 l5 : Int} {r : Int × q_Mem} {m : q_Mem} {N : Nat} (hN : 126 ≤ N) (hk18 : ∀ (l1 l2 l3 l4 l5 : Int) (m : q_Mem), k18 l1 l2 l3 l4 l5 m = some r → q_E md_X11_addOffset 1 N (none) r m 18 [q_A 81, q_I l1, q_I l2, q_I l3, q_I l4, q_I l5] []) (h : f_Mod_addOffset_b18 k18 l1 l2 l3 l4 l5 m = some r) : q_E md_X11_addOffset 1 N (none) r m 18 [q_A 81, q_I l1, q_I l2, q_I l3, q_I l4, q_I l5] [] := by
  unfold f_Mod_addOffset_b18 at h
  refine q_iload (M := md_X11_addOffset) (pc := 18) dX11_addOffset_18 rfl ?_
  refine q_aload_n (M := md_X11_addOffset) (pc := 20) dX11_addOffset_20 rfl (by decide) ?_
  refine q_getP (M := md_X11_addOffset) (pc := 21) (v := 87) fl_11_25 dX11_addOffset_21 (is_81 hN) rfl ?_
  refine q_iload_n (M := md_X11_addOffset) (pc := 24) dX11_addOffset_24 rfl ?_
  refine e_rd (M := md_X11_addOffset) (pc := 25) h dX11_addOffset_25 (ar_87 hN) (fun v1 h => ?_)
  refine e_icmp_ge (M := md_X11_addOffset) (pc := 26) (tgt := 79) h rfl rfl dX11_addOffset_26 (by decide) (fun h => ?_) (fun h => ?_)
  · refine q_iload (M := md_X11_addOffset) (pc := 79) dX11_addOffset_79 rfl ?_
    refine e_if_eq (M := md_X11_addOffset) (pc := 81) (tgt := 85) h rfl dX11_addOffset_81 (by decide) (fun h => ?_) (fun h => ?_)
    · refine q_aload_n (M := md_X11_addOffset) (pc := 85) dX11_addOffset_85 rfl (by decide) ?_
      refine q_getP (M := md_X11_addOffset) (pc := 86) (v := 96) fl_11_52 dX11_addOffset_86 (is_81 hN) rfl ?_
      refine q_bipush (M := md_X11_addOffset) (pc := 89) (x := 12) dX11_addOffset_89 (by decide) ?_
      refine q_iload_n (M := md_X11_addOffset) (pc := 91) dX11_addOffset_91 rfl ?_
      refine q_imul (M := md_X11_addOffset) (pc := 92) dX11_addOffset_92 ?_
      refine q_aload_n (M := md_X11_addOffset) (pc := 93) dX11_addOffset_93 rfl (by decide) ?_
      refine q_getP (M := md_X11_addOffset) (pc := 94) (v := 87) fl_11_25 dX11_addOffset_94 (is_81 hN) rfl ?_
      refine q_iload_n (M := md_X11_addOffset) (pc := 97) dX11_addOffset_97 rfl ?_
      refine e_rd (M := md_X11_addOffset) (pc := 98) h dX11_addOffset_98 (ar_87 hN) (fun v2 h => ?_)
      refine q_iadd (M := md_X11_addOffset) (pc := 99) dX11_addOffset_99 ?_
      refine q_iload_n (M := md_X11_addOffset) (pc := 100) dX11_addOffset_100 rfl ?_
      refine e_wr (M := md_X11_addOffset) (pc := 101) h dX11_addOffset_101 (ar_96 hN) (fun m3 h => ?_)
      refine q_aload_n (M := md_X11_addOffset) (pc := 102) dX11_addOffset_102 rfl (by decide) ?_
      refine q_getP (M := md_X11_addOffset) (pc := 103) (v := 97) fl_11_55 dX11_addOffset_103 (is_81 hN) rfl ?_
      refine q_bipush (M := md_X11_addOffset) (pc := 106) (x := 12) dX11_addOffset_106 (by decide) ?_
      refine q_iload_n (M := md_X11_addOffset) (pc := 108) dX11_addOffset_108 rfl ?_
      refine q_imul (M := md_X11_addOffset) (pc := 109) dX11_addOffset_109 ?_
      refine q_aload_n (M := md_X11_addOffset) (pc := 110) dX11_addOffset_110 rfl (by decide) ?_
      refine q_getP (M := md_X11_addOffset) (pc := 111) (v := 87) fl_11_25 dX11_addOffset_111 (is_81 hN) rfl ?_
      refine q_iload_n (M := md_X11_addOffset) (pc := 114) dX11_addOffset_114 rfl ?_
      refine e_rd (M := md_X11_addOffset) (pc := 115) h dX11_addOffset_115 (ar_87 hN) (fun v4 h => ?_)
      refine q_iadd (M := md_X11_addOffset) (pc := 116) dX11_addOffset_116 ?_
      refine q_iload_n (M := md_X11_addOffset) (pc := 117) dX11_addOffset_117 rfl ?_
      refine e_wr (M := md_X11_addOffset) (pc := 118) h dX11_addOffset_118 (ar_97 hN) (fun m5 h => ?_)
      refine q_aload_n (M := md_X11_addOffset) (pc := 119) dX11_addOffset_119 rfl (by decide) ?_
      refine q_getP (M := md_X11_addOffset) (pc := 120) (v := 87) fl_11_25 dX11_addOffset_120 (is_81 hN) rfl ?_
      refine q_iload_n (M := md_X11_addOffset) (pc := 123) dX11_addOffset_123 rfl ?_
      refine q_dup2 (M := md_X11_addOffset) (pc := 124) dX11_addOffset_124 (show (0 : Nat) ≠ 1 by decide) (show (2 : Nat) ≠ 1 by decide) ?_
      refine e_rd (M := md_X11_addOffset) (pc := 125) h dX11_addOffset_125 (ar_87 hN) (fun v6 h => ?_)
      refine q_iconst (M := md_X11_addOffset) (pc := 126) dX11_addOffset_126 ?_
      refine q_iadd (M := md_X11_addOffset) (pc := 127) dX11_addOffset_127 ?_
      refine e_wr (M := md_X11_addOffset) (pc := 128) h dX11_addOffset_128 (ar_87 hN) (fun m7 h => ?_)
      exact e_vret (M := md_X11_addOffset) (pc := 129) h rfl dX11_addOffset_129
    · exact e_vret (M := md_X11_addOffset) (pc := 84) h rfl dX11_addOffset_84
  · refine q_iload (M := md_X11_addOffset) (pc := 29) dX11_addOffset_29 rfl ?_
    refine e_if_ne (M := md_X11_addOffset) (pc := 31) (tgt := 66) h rfl dX11_addOffset_31 (by decide) (fun h => ?_) (fun h => ?_)
    · exact q_weak (w_Mod_addOffset_b66 hN hk18  h) ⟨Or.inr rfl, Or.inr rfl, Or.inr rfl, Or.inr rfl, Or.inl rfl, Or.inr rfl, trivial⟩
    · refine q_aload_n (M := md_X11_addOffset) (pc := 34) dX11_addOffset_34 rfl (by decide) ?_
      refine q_getP (M := md_X11_addOffset) (pc := 35) (v := 96) fl_11_52 dX11_addOffset_35 (is_81 hN) rfl ?_
      refine q_bipush (M := md_X11_addOffset) (pc := 38) (x := 12) dX11_addOffset_38 (by decide) ?_
      refine q_iload_n (M := md_X11_addOffset) (pc := 40) dX11_addOffset_40 rfl ?_
      refine q_imul (M := md_X11_addOffset) (pc := 41) dX11_addOffset_41 ?_
      refine q_iload (M := md_X11_addOffset) (pc := 42) dX11_addOffset_42 rfl ?_
      refine q_iadd (M := md_X11_addOffset) (pc := 44) dX11_addOffset_44 ?_
      refine e_rd (M := md_X11_addOffset) (pc := 45) h dX11_addOffset_45 (ar_96 hN) (fun v8 h => ?_)
      refine q_iload_n (M := md_X11_addOffset) (pc := 46) dX11_addOffset_46 rfl ?_
      refine e_icmp_ne (M := md_X11_addOffset) (pc := 47) (tgt := 70) h rfl rfl dX11_addOffset_47 (by decide) (fun h => ?_) (fun h => ?_)
      · exact q_weak (w_Mod_addOffset_b70 hN hk18  h) ⟨Or.inr rfl, Or.inr rfl, Or.inr rfl, Or.inr rfl, Or.inl rfl, Or.inr rfl, trivial⟩
      · refine q_aload_n (M := md_X11_addOffset) (pc := 50) dX11_addOffset_50 rfl (by decide) ?_
        refine q_getP (M := md_X11_addOffset) (pc := 51) (v := 97) fl_11_55 dX11_addOffset_51 (is_81 hN) rfl ?_
        refine q_bipush (M := md_X11_addOffset) (pc := 54) (x := 12) dX11_addOffset_54 (by decide) ?_
        refine q_iload_n (M := md_X11_addOffset) (pc := 56) dX11_addOffset_56 rfl ?_
        refine q_imul (M := md_X11_addOffset) (pc := 57) dX11_addOffset_57 ?_
        refine q_iload (M := md_X11_addOffset) (pc := 58) dX11_addOffset_58 rfl ?_
        refine q_iadd (M := md_X11_addOffset) (pc := 60) dX11_addOffset_60 ?_
        refine e_rd (M := md_X11_addOffset) (pc := 61) h dX11_addOffset_61 (ar_97 hN) (fun v9 h => ?_)
        refine q_iload_n (M := md_X11_addOffset) (pc := 62) dX11_addOffset_62 rfl ?_
        refine e_icmp_ne (M := md_X11_addOffset) (pc := 63) (tgt := 70) h rfl rfl dX11_addOffset_63 (by decide) (fun h => ?_) (fun h => ?_)
        · exact q_weak (w_Mod_addOffset_b70 hN hk18  h) ⟨Or.inr rfl, Or.inr rfl, Or.inr rfl, Or.inr rfl, Or.inl rfl, Or.inr rfl, trivial⟩
        · exact q_weak (w_Mod_addOffset_b66 hN hk18  h) ⟨Or.inr rfl, Or.inr rfl, Or.inr rfl, Or.inr rfl, Or.inl rfl, Or.inr rfl, trivial⟩
def f_Mod_addOffset_l18 : Nat → Int → Int → Int → Int → Int → q_Mem → q_Res
  | 0 => fun _ _ _ _ _ _ => none
  | n + 1 => fun l1 l2 l3 l4 l5 m => f_Mod_addOffset_b18 (f_Mod_addOffset_l18 n) l1 l2 l3 l4 l5 m
theorem w_Mod_addOffset_l18 {r : Int × q_Mem} {N : Nat} (hN : 126 ≤ N) : ∀ (n : Nat) (l1 l2 l3 l4 l5 : Int) (m : q_Mem), f_Mod_addOffset_l18 n l1 l2 l3 l4 l5 m = some r → q_E md_X11_addOffset 1 N (none) r m 18 [q_A 81, q_I l1, q_I l2, q_I l3, q_I l4, q_I l5] [] := by
  intro n
  induction n with
  | zero => intro l1 l2 l3 l4 l5 m h; exact q_no h
  | succ n ih =>
    intro l1 l2 l3 l4 l5 m h
    exact w_Mod_addOffset_b18 hN (fun l1 l2 l3 l4 l5 m h => ih l1 l2 l3 l4 l5 m h) h
def f_Mod_addOffset_b13 (l1 l2 l3 s0 : Int) (m : q_Mem) : q_Res :=
  f_Mod_addOffset_l18 q_F l1 l2 l3 s0 0 m
set_option maxRecDepth 20000 in
theorem w_Mod_addOffset_b13 {l1 l2 l3 s0 : Int} {r : Int × q_Mem} {m : q_Mem} {N : Nat} (hN : 126 ≤ N) (h : f_Mod_addOffset_b13 l1 l2 l3 s0 m = some r) : q_E md_X11_addOffset 1 N (none) r m 13 [q_A 81, q_I l1, q_I l2, q_I l3, q_N, q_N] [q_I s0] := by
  unfold f_Mod_addOffset_b13 at h
  refine e_ist (M := md_X11_addOffset) (pc := 13) (ls' := [q_A 81, q_I l1, q_I l2, q_I l3, q_I s0, q_N]) dX11_addOffset_13 (by decide) (q_pl rfl) rfl ?_
  refine q_iconst (M := md_X11_addOffset) (pc := 15) dX11_addOffset_15 ?_
  refine e_ist (M := md_X11_addOffset) (pc := 16) (ls' := [q_A 81, q_I l1, q_I l2, q_I l3, q_I s0, q_I 0]) dX11_addOffset_16 (by decide) (q_pl rfl) rfl ?_
  exact q_weak (w_Mod_addOffset_l18 hN q_F _ _ _ _ _ _  h) ⟨Or.inr rfl, Or.inr rfl, Or.inr rfl, Or.inr rfl, Or.inr rfl, Or.inr rfl, trivial⟩
def f_Mod_addOffset_b12 (l1 l2 l3 : Int) (m : q_Mem) : q_Res :=
  f_Mod_addOffset_b13 l1 l2 l3 0 m
set_option maxRecDepth 20000 in
theorem w_Mod_addOffset_b12 {l1 l2 l3 : Int} {r : Int × q_Mem} {m : q_Mem} {N : Nat} (hN : 126 ≤ N) (h : f_Mod_addOffset_b12 l1 l2 l3 m = some r) : q_E md_X11_addOffset 1 N (none) r m 12 [q_A 81, q_I l1, q_I l2, q_I l3, q_N, q_N] [] := by
  unfold f_Mod_addOffset_b12 at h
  refine q_iconst (M := md_X11_addOffset) (pc := 12) dX11_addOffset_12 ?_
  exact q_weak (w_Mod_addOffset_b13 hN  h) ⟨Or.inr rfl, Or.inr rfl, Or.inr rfl, Or.inr rfl, Or.inl rfl, Or.inl rfl, trivial⟩
def f_Mod_addOffset (l1 l2 l3 : Int) (m : q_Mem) : q_Res :=
  if q_w l2 = 0 then (if q_w l3 = 0 then (f_Mod_addOffset_b13 l1 l2 l3 1 m)
  else (f_Mod_addOffset_b12 l1 l2 l3 m))
  else (f_Mod_addOffset_b12 l1 l2 l3 m)
set_option maxRecDepth 20000 in
theorem ok_X11_addOffset {l1 l2 l3 : Int} {r : Int × q_Mem} {m : q_Mem} {N : Nat} (hN : 126 ≤ N) (h : f_Mod_addOffset l1 l2 l3 m = some r) : q_C md_X11_addOffset (q_room 1) 0 0 [q_A 81, q_I l1, q_I l2, q_I l3] (q_g N) m (none, q_g N, r.2) := by
  refine q_ofR (by decide) 2 (ls := [q_A 81, q_I l1, q_I l2, q_I l3, q_N, q_N]) rfl (Nat.le_of_ble_eq_true rfl) ?_
  change q_E md_X11_addOffset 1 N (none) r m 0 [q_A 81, q_I l1, q_I l2, q_I l3, q_N, q_N] []
  unfold f_Mod_addOffset at h
  refine q_iload_n (M := md_X11_addOffset) (pc := 0) dX11_addOffset_0 rfl ?_
  refine e_if_ne (M := md_X11_addOffset) (pc := 1) (tgt := 12) h rfl dX11_addOffset_1 (by decide) (fun h => ?_) (fun h => ?_)
  · exact q_weak (w_Mod_addOffset_b12 hN  h) ⟨Or.inr rfl, Or.inr rfl, Or.inr rfl, Or.inr rfl, Or.inl rfl, Or.inl rfl, trivial⟩
  · refine q_iload_n (M := md_X11_addOffset) (pc := 4) dX11_addOffset_4 rfl ?_
    refine e_if_ne (M := md_X11_addOffset) (pc := 5) (tgt := 12) h rfl dX11_addOffset_5 (by decide) (fun h => ?_) (fun h => ?_)
    · exact q_weak (w_Mod_addOffset_b12 hN  h) ⟨Or.inr rfl, Or.inr rfl, Or.inr rfl, Or.inr rfl, Or.inl rfl, Or.inl rfl, trivial⟩
    · refine q_iconst (M := md_X11_addOffset) (pc := 8) dX11_addOffset_8 ?_
      refine q_goto (M := md_X11_addOffset) (pc := 9) (tgt := 13) dX11_addOffset_9 (by decide) ?_
      exact q_weak (w_Mod_addOffset_b13 hN  h) ⟨Or.inr rfl, Or.inr rfl, Or.inr rfl, Or.inr rfl, Or.inl rfl, Or.inl rfl, trivial⟩
def f_Mod_readRead_b65 (l1 l2 l4 l5 : Int) (m : q_Mem) : q_Res :=
  if q_w (m 81 28) ≤ 0 then (q_bd (f_Mod_scan m) fun _ m1 =>
  q_bd (f_Mod_need 41 m1) fun _ m2 =>
  q_rd m2 86 2 l1 fun v3 =>
  q_wr m2 93 24 ((12 * l1) + v3) l2 fun m4 =>
  q_wr m4 94 24 ((12 * l1) + v3) l4 fun m5 =>
  q_wr m5 95 24 ((12 * l1) + v3) l5 fun m6 =>
  q_rd m6 86 2 l1 fun v7 =>
  q_bd (f_Mod_lay l1 (1100 + v7) m6) fun _ m8 =>
  q_rd m8 86 2 l1 fun v9 =>
  q_wr m8 86 2 l1 (v9 + 1) fun m10 =>
  q_bd (f_Mod_addOffset l1 l4 l5 m10) fun _ m11 =>
  q_rt 0 m11)
  else (q_rt 0 m)
set_option maxRecDepth 20000 in
theorem w_Mod_readRead_b65 {l1 l2 l4 l5 : Int} {r : Int × q_Mem} {m : q_Mem} {N : Nat} (hN : 126 ≤ N) (h : f_Mod_readRead_b65 l1 l2 l4 l5 m = some r) : q_E md_X11_readRead 5 N (none) r m 65 [q_A 81, q_I l1, q_I l2, q_N, q_I l4, q_I l5, q_N] [] := by
  unfold f_Mod_readRead_b65 at h
  refine q_aload_n (M := md_X11_readRead) (pc := 65) dX11_readRead_65 rfl (by decide) ?_
  refine e_gI (M := md_X11_readRead) (pc := 66) (v := m 81 28) fl_11_206 dX11_readRead_66 (is_81 hN) rfl ?_
  refine e_if_le (M := md_X11_readRead) (pc := 69) (tgt := 73) h rfl dX11_readRead_69 (by decide) (fun h => ?_) (fun h => ?_)
  · refine q_aload_n (M := md_X11_readRead) (pc := 73) dX11_readRead_73 rfl (by decide) ?_
    refine e_callVv (M := md_X11_readRead) (pc := 74) (d' := 3) (av := []) (c := 81) h ml_11_215 im_X11_scan se_X11_scan dX11_readRead_74 (fun v he => ok_X11_scan hN  he) rfl (is_81 hN) ⟨_, _, rfl⟩ (by decide) (Nat.le_of_ble_eq_true rfl) ⟨by decide, by decide⟩ rfl (fun _ m1 h => ?_)
    refine q_aload_n (M := md_X11_readRead) (pc := 77) dX11_readRead_77 rfl (by decide) ?_
    refine q_bipush (M := md_X11_readRead) (pc := 78) (x := 41) dX11_readRead_78 (by decide) ?_
    refine e_callVv (M := md_X11_readRead) (pc := 80) (d' := 4) (av := [q_I 41]) (c := 81) h ml_11_235 im_X11_need se_X11_need dX11_readRead_80 (fun v he => ok_X11_need hN  he) rfl (is_81 hN) ⟨_, _, rfl⟩ (by decide) (Nat.le_of_ble_eq_true rfl) ⟨by decide, by decide⟩ rfl (fun _ m2 h => ?_)
    refine q_bipush (M := md_X11_readRead) (pc := 83) (x := 12) dX11_readRead_83 (by decide) ?_
    refine q_iload_n (M := md_X11_readRead) (pc := 85) dX11_readRead_85 rfl ?_
    refine q_imul (M := md_X11_readRead) (pc := 86) dX11_readRead_86 ?_
    refine q_aload_n (M := md_X11_readRead) (pc := 87) dX11_readRead_87 rfl (by decide) ?_
    refine q_getP (M := md_X11_readRead) (pc := 88) (v := 86) fl_11_22 dX11_readRead_88 (is_81 hN) rfl ?_
    refine q_iload_n (M := md_X11_readRead) (pc := 91) dX11_readRead_91 rfl ?_
    refine e_rd (M := md_X11_readRead) (pc := 92) h dX11_readRead_92 (ar_86 hN) (fun v3 h => ?_)
    refine q_iadd (M := md_X11_readRead) (pc := 93) dX11_readRead_93 ?_
    refine e_ist (M := md_X11_readRead) (pc := 94) (ls' := [q_A 81, q_I l1, q_I l2, q_N, q_I l4, q_I l5, q_I ((12 * l1) + v3)]) dX11_readRead_94 (by decide) (q_pl rfl) rfl ?_
    refine q_aload_n (M := md_X11_readRead) (pc := 96) dX11_readRead_96 rfl (by decide) ?_
    refine q_getP (M := md_X11_readRead) (pc := 97) (v := 93) fl_11_43 dX11_readRead_97 (is_81 hN) rfl ?_
    refine q_iload (M := md_X11_readRead) (pc := 100) dX11_readRead_100 rfl ?_
    refine q_iload_n (M := md_X11_readRead) (pc := 102) dX11_readRead_102 rfl ?_
    refine e_wr (M := md_X11_readRead) (pc := 103) h dX11_readRead_103 (ar_93 hN) (fun m4 h => ?_)
    refine q_aload_n (M := md_X11_readRead) (pc := 104) dX11_readRead_104 rfl (by decide) ?_
    refine q_getP (M := md_X11_readRead) (pc := 105) (v := 94) fl_11_46 dX11_readRead_105 (is_81 hN) rfl ?_
    refine q_iload (M := md_X11_readRead) (pc := 108) dX11_readRead_108 rfl ?_
    refine q_iload (M := md_X11_readRead) (pc := 110) dX11_readRead_110 rfl ?_
    refine e_wr (M := md_X11_readRead) (pc := 112) h dX11_readRead_112 (ar_94 hN) (fun m5 h => ?_)
    refine q_aload_n (M := md_X11_readRead) (pc := 113) dX11_readRead_113 rfl (by decide) ?_
    refine q_getP (M := md_X11_readRead) (pc := 114) (v := 95) fl_11_49 dX11_readRead_114 (is_81 hN) rfl ?_
    refine q_iload (M := md_X11_readRead) (pc := 117) dX11_readRead_117 rfl ?_
    refine q_iload (M := md_X11_readRead) (pc := 119) dX11_readRead_119 rfl ?_
    refine e_wr (M := md_X11_readRead) (pc := 121) h dX11_readRead_121 (ar_95 hN) (fun m6 h => ?_)
    refine q_aload_n (M := md_X11_readRead) (pc := 122) dX11_readRead_122 rfl (by decide) ?_
    refine q_iload_n (M := md_X11_readRead) (pc := 123) dX11_readRead_123 rfl ?_
    refine q_sipush (M := md_X11_readRead) (pc := 124) (x := 1100) dX11_readRead_124 (by decide) ?_
    refine q_aload_n (M := md_X11_readRead) (pc := 127) dX11_readRead_127 rfl (by decide) ?_
    refine q_getP (M := md_X11_readRead) (pc := 128) (v := 86) fl_11_22 dX11_readRead_128 (is_81 hN) rfl ?_
    refine q_iload_n (M := md_X11_readRead) (pc := 131) dX11_readRead_131 rfl ?_
    refine e_rd (M := md_X11_readRead) (pc := 132) h dX11_readRead_132 (ar_86 hN) (fun v7 h => ?_)
    refine q_iadd (M := md_X11_readRead) (pc := 133) dX11_readRead_133 ?_
    refine e_callVv (M := md_X11_readRead) (pc := 134) (d' := 1) (av := [q_I l1, q_I (1100 + v7)]) (c := 81) h ml_11_268 im_X11_lay se_X11_lay dX11_readRead_134 (fun v he => ok_X11_lay hN  he) rfl (is_81 hN) ⟨_, _, rfl⟩ (by decide) (Nat.le_of_ble_eq_true rfl) ⟨by decide, by decide⟩ rfl (fun _ m8 h => ?_)
    refine q_aload_n (M := md_X11_readRead) (pc := 137) dX11_readRead_137 rfl (by decide) ?_
    refine q_getP (M := md_X11_readRead) (pc := 138) (v := 86) fl_11_22 dX11_readRead_138 (is_81 hN) rfl ?_
    refine q_iload_n (M := md_X11_readRead) (pc := 141) dX11_readRead_141 rfl ?_
    refine q_dup2 (M := md_X11_readRead) (pc := 142) dX11_readRead_142 (show (0 : Nat) ≠ 1 by decide) (show (2 : Nat) ≠ 1 by decide) ?_
    refine e_rd (M := md_X11_readRead) (pc := 143) h dX11_readRead_143 (ar_86 hN) (fun v9 h => ?_)
    refine q_iconst (M := md_X11_readRead) (pc := 144) dX11_readRead_144 ?_
    refine q_iadd (M := md_X11_readRead) (pc := 145) dX11_readRead_145 ?_
    refine e_wr (M := md_X11_readRead) (pc := 146) h dX11_readRead_146 (ar_86 hN) (fun m10 h => ?_)
    refine q_aload_n (M := md_X11_readRead) (pc := 147) dX11_readRead_147 rfl (by decide) ?_
    refine q_iload_n (M := md_X11_readRead) (pc := 148) dX11_readRead_148 rfl ?_
    refine q_iload (M := md_X11_readRead) (pc := 149) dX11_readRead_149 rfl ?_
    refine q_iload (M := md_X11_readRead) (pc := 151) dX11_readRead_151 rfl ?_
    refine e_callVv (M := md_X11_readRead) (pc := 153) (d' := 1) (av := [q_I l1, q_I l4, q_I l5]) (c := 81) h ml_11_303 im_X11_addOffset se_X11_addOffset dX11_readRead_153 (fun v he => ok_X11_addOffset hN  he) rfl (is_81 hN) ⟨_, _, rfl⟩ (by decide) (Nat.le_of_ble_eq_true rfl) ⟨by decide, by decide⟩ rfl (fun _ m11 h => ?_)
    exact e_vret (M := md_X11_readRead) (pc := 156) h rfl dX11_readRead_156
  · exact e_vret (M := md_X11_readRead) (pc := 72) h rfl dX11_readRead_72
def f_Mod_readRead_b30 (l1 l2 l3 l4 : Int) (m : q_Mem) : q_Res :=
  q_bd (f_Mod_need 44 m) fun _ m1 =>
  q_bd (f_Mod_signed (-3) 3 m1) fun v2 m3 =>
  if q_w l2 = q_w l3 then (if q_w l4 = 0 then (if q_w v2 = 0 then (q_bd (f_Mod_fail 2 m3) fun _ m4 =>
  f_Mod_readRead_b65 l1 l2 l4 v2 m4)
  else (f_Mod_readRead_b65 l1 l2 l4 v2 m3))
  else (f_Mod_readRead_b65 l1 l2 l4 v2 m3))
  else (f_Mod_readRead_b65 l1 l2 l4 v2 m3)
set_option maxRecDepth 20000 in
theorem w_Mod_readRead_b30 {l1 l2 l3 l4 : Int} {r : Int × q_Mem} {m : q_Mem} {N : Nat} (hN : 126 ≤ N) (h : f_Mod_readRead_b30 l1 l2 l3 l4 m = some r) : q_E md_X11_readRead 5 N (none) r m 30 [q_A 81, q_I l1, q_I l2, q_I l3, q_I l4, q_N, q_N] [] := by
  unfold f_Mod_readRead_b30 at h
  refine q_aload_n (M := md_X11_readRead) (pc := 30) dX11_readRead_30 rfl (by decide) ?_
  refine q_bipush (M := md_X11_readRead) (pc := 31) (x := 44) dX11_readRead_31 (by decide) ?_
  refine e_callVv (M := md_X11_readRead) (pc := 33) (d' := 4) (av := [q_I 44]) (c := 81) h ml_11_235 im_X11_need se_X11_need dX11_readRead_33 (fun v he => ok_X11_need hN  he) rfl (is_81 hN) ⟨_, _, rfl⟩ (by decide) (Nat.le_of_ble_eq_true rfl) ⟨by decide, by decide⟩ rfl (fun _ m1 h => ?_)
  refine q_aload_n (M := md_X11_readRead) (pc := 36) dX11_readRead_36 rfl (by decide) ?_
  refine q_bipush (M := md_X11_readRead) (pc := 37) (x := -3) dX11_readRead_37 (by decide) ?_
  refine q_iconst (M := md_X11_readRead) (pc := 39) dX11_readRead_39 ?_
  refine e_callVi (M := md_X11_readRead) (pc := 40) (d' := 4) (av := [q_I (-3), q_I 3]) (c := 81) h ml_11_225 im_X11_signed se_X11_signed dX11_readRead_40 (fun v he => ok_X11_signed hN  he) rfl (is_81 hN) ⟨_, _, rfl⟩ (by decide) (Nat.le_of_ble_eq_true rfl) ⟨by decide, by decide⟩ rfl (fun v2 m3 h => ?_)
  refine e_ist (M := md_X11_readRead) (pc := 43) (ls' := [q_A 81, q_I l1, q_I l2, q_I l3, q_I l4, q_I v2, q_N]) dX11_readRead_43 (by decide) (q_pl rfl) rfl ?_
  refine q_iload_n (M := md_X11_readRead) (pc := 45) dX11_readRead_45 rfl ?_
  refine q_iload_n (M := md_X11_readRead) (pc := 46) dX11_readRead_46 rfl ?_
  refine e_icmp_ne (M := md_X11_readRead) (pc := 47) (tgt := 65) h rfl rfl dX11_readRead_47 (by decide) (fun h => ?_) (fun h => ?_)
  · exact q_weak (w_Mod_readRead_b65 hN  h) ⟨Or.inr rfl, Or.inr rfl, Or.inr rfl, Or.inl rfl, Or.inr rfl, Or.inr rfl, Or.inl rfl, trivial⟩
  · refine q_iload (M := md_X11_readRead) (pc := 50) dX11_readRead_50 rfl ?_
    refine e_if_ne (M := md_X11_readRead) (pc := 52) (tgt := 65) h rfl dX11_readRead_52 (by decide) (fun h => ?_) (fun h => ?_)
    · exact q_weak (w_Mod_readRead_b65 hN  h) ⟨Or.inr rfl, Or.inr rfl, Or.inr rfl, Or.inl rfl, Or.inr rfl, Or.inr rfl, Or.inl rfl, trivial⟩
    · refine q_iload (M := md_X11_readRead) (pc := 55) dX11_readRead_55 rfl ?_
      refine e_if_ne (M := md_X11_readRead) (pc := 57) (tgt := 65) h rfl dX11_readRead_57 (by decide) (fun h => ?_) (fun h => ?_)
      · exact q_weak (w_Mod_readRead_b65 hN  h) ⟨Or.inr rfl, Or.inr rfl, Or.inr rfl, Or.inl rfl, Or.inr rfl, Or.inr rfl, Or.inl rfl, trivial⟩
      · refine q_aload_n (M := md_X11_readRead) (pc := 60) dX11_readRead_60 rfl (by decide) ?_
        refine q_iconst (M := md_X11_readRead) (pc := 61) dX11_readRead_61 ?_
        refine e_callVv (M := md_X11_readRead) (pc := 62) (d' := 1) (av := [q_I 2]) (c := 81) h ml_11_218 im_X11_fail se_X11_fail dX11_readRead_62 (fun v he => ok_X11_fail hN  he) rfl (is_81 hN) ⟨_, _, rfl⟩ (by decide) (Nat.le_of_ble_eq_true rfl) ⟨by decide, by decide⟩ rfl (fun _ m4 h => ?_)
        exact q_weak (w_Mod_readRead_b65 hN  h) ⟨Or.inr rfl, Or.inr rfl, Or.inr rfl, Or.inl rfl, Or.inr rfl, Or.inr rfl, Or.inl rfl, trivial⟩
def f_Mod_readRead (l1 l2 l3 : Int) (m : q_Mem) : q_Res :=
  q_bd (f_Mod_scan m) fun _ m1 =>
  q_bd (f_Mod_need 40 m1) fun _ m2 =>
  q_bd (f_Mod_signed (-3) 3 m2) fun v3 m4 =>
  if q_w (m4 81 28) = 0 then (q_bd (f_Mod_scan m4) fun _ m5 =>
  f_Mod_readRead_b30 l1 l2 l3 v3 m5)
  else (f_Mod_readRead_b30 l1 l2 l3 v3 m4)
set_option maxRecDepth 20000 in
theorem ok_X11_readRead {l1 l2 l3 : Int} {r : Int × q_Mem} {m : q_Mem} {N : Nat} (hN : 126 ≤ N) (h : f_Mod_readRead l1 l2 l3 m = some r) : q_C md_X11_readRead (q_room 5) 0 0 [q_A 81, q_I l1, q_I l2, q_I l3] (q_g N) m (none, q_g N, r.2) := by
  refine q_ofR (by decide) 3 (ls := [q_A 81, q_I l1, q_I l2, q_I l3, q_N, q_N, q_N]) rfl (Nat.le_of_ble_eq_true rfl) ?_
  change q_E md_X11_readRead 5 N (none) r m 0 [q_A 81, q_I l1, q_I l2, q_I l3, q_N, q_N, q_N] []
  unfold f_Mod_readRead at h
  refine q_aload_n (M := md_X11_readRead) (pc := 0) dX11_readRead_0 rfl (by decide) ?_
  refine e_callVv (M := md_X11_readRead) (pc := 1) (d' := 3) (av := []) (c := 81) h ml_11_215 im_X11_scan se_X11_scan dX11_readRead_1 (fun v he => ok_X11_scan hN  he) rfl (is_81 hN) ⟨_, _, rfl⟩ (by decide) (Nat.le_of_ble_eq_true rfl) ⟨by decide, by decide⟩ rfl (fun _ m1 h => ?_)
  refine q_aload_n (M := md_X11_readRead) (pc := 4) dX11_readRead_4 rfl (by decide) ?_
  refine q_bipush (M := md_X11_readRead) (pc := 5) (x := 40) dX11_readRead_5 (by decide) ?_
  refine e_callVv (M := md_X11_readRead) (pc := 7) (d' := 4) (av := [q_I 40]) (c := 81) h ml_11_235 im_X11_need se_X11_need dX11_readRead_7 (fun v he => ok_X11_need hN  he) rfl (is_81 hN) ⟨_, _, rfl⟩ (by decide) (Nat.le_of_ble_eq_true rfl) ⟨by decide, by decide⟩ rfl (fun _ m2 h => ?_)
  refine q_aload_n (M := md_X11_readRead) (pc := 10) dX11_readRead_10 rfl (by decide) ?_
  refine q_bipush (M := md_X11_readRead) (pc := 11) (x := -3) dX11_readRead_11 (by decide) ?_
  refine q_iconst (M := md_X11_readRead) (pc := 13) dX11_readRead_13 ?_
  refine e_callVi (M := md_X11_readRead) (pc := 14) (d' := 4) (av := [q_I (-3), q_I 3]) (c := 81) h ml_11_225 im_X11_signed se_X11_signed dX11_readRead_14 (fun v he => ok_X11_signed hN  he) rfl (is_81 hN) ⟨_, _, rfl⟩ (by decide) (Nat.le_of_ble_eq_true rfl) ⟨by decide, by decide⟩ rfl (fun v3 m4 h => ?_)
  refine e_ist (M := md_X11_readRead) (pc := 17) (ls' := [q_A 81, q_I l1, q_I l2, q_I l3, q_I v3, q_N, q_N]) dX11_readRead_17 (by decide) (q_pl rfl) rfl ?_
  refine q_aload_n (M := md_X11_readRead) (pc := 19) dX11_readRead_19 rfl (by decide) ?_
  refine e_gI (M := md_X11_readRead) (pc := 20) (v := m4 81 28) fl_11_206 dX11_readRead_20 (is_81 hN) rfl ?_
  refine e_if_ne (M := md_X11_readRead) (pc := 23) (tgt := 30) h rfl dX11_readRead_23 (by decide) (fun h => ?_) (fun h => ?_)
  · exact q_weak (w_Mod_readRead_b30 hN  h) ⟨Or.inr rfl, Or.inr rfl, Or.inr rfl, Or.inr rfl, Or.inr rfl, Or.inl rfl, Or.inl rfl, trivial⟩
  · refine q_aload_n (M := md_X11_readRead) (pc := 26) dX11_readRead_26 rfl (by decide) ?_
    refine e_callVv (M := md_X11_readRead) (pc := 27) (d' := 3) (av := []) (c := 81) h ml_11_215 im_X11_scan se_X11_scan dX11_readRead_27 (fun v he => ok_X11_scan hN  he) rfl (is_81 hN) ⟨_, _, rfl⟩ (by decide) (Nat.le_of_ble_eq_true rfl) ⟨by decide, by decide⟩ rfl (fun _ m5 h => ?_)
    exact q_weak (w_Mod_readRead_b30 hN  h) ⟨Or.inr rfl, Or.inr rfl, Or.inr rfl, Or.inr rfl, Or.inr rfl, Or.inl rfl, Or.inl rfl, trivial⟩
def f_Mod_layWaiting (l1 : Int) (m : q_Mem) : q_Res :=
  q_pf m 81 38 ((m 81 38) - 1) fun m1 =>
  q_rd m1 105 100 (m1 81 38) fun v2 =>
  q_bd (f_Mod_lay l1 v2 m1) fun _ m3 =>
  q_rt 0 m3
set_option maxRecDepth 20000 in
theorem ok_X11_layWaiting {l1 : Int} {r : Int × q_Mem} {m : q_Mem} {N : Nat} (hN : 126 ≤ N) (h : f_Mod_layWaiting l1 m = some r) : q_C md_X11_layWaiting (q_room 2) 0 0 [q_A 81, q_I l1] (q_g N) m (none, q_g N, r.2) := by
  refine q_ofR (by decide) 0 (ls := [q_A 81, q_I l1]) rfl (Nat.le_of_ble_eq_true rfl) ?_
  change q_E md_X11_layWaiting 2 N (none) r m 0 [q_A 81, q_I l1] []
  unfold f_Mod_layWaiting at h
  refine q_aload_n (M := md_X11_layWaiting) (pc := 0) dX11_layWaiting_0 rfl (by decide) ?_
  refine q_dup (M := md_X11_layWaiting) (pc := 1) dX11_layWaiting_1 (show (2 : Nat) ≠ 1 by decide) ?_
  refine e_gI (M := md_X11_layWaiting) (pc := 2) (v := m 81 38) fl_11_271 dX11_layWaiting_2 (is_81 hN) rfl ?_
  refine q_iconst (M := md_X11_layWaiting) (pc := 5) dX11_layWaiting_5 ?_
  refine q_isub (M := md_X11_layWaiting) (pc := 6) dX11_layWaiting_6 ?_
  refine e_pfI (M := md_X11_layWaiting) (pc := 7) h fl_11_271 dX11_layWaiting_7 (is_81 hN) rfl (fun m1 h => ?_)
  refine q_aload_n (M := md_X11_layWaiting) (pc := 10) dX11_layWaiting_10 rfl (by decide) ?_
  refine q_iload_n (M := md_X11_layWaiting) (pc := 11) dX11_layWaiting_11 rfl ?_
  refine q_aload_n (M := md_X11_layWaiting) (pc := 12) dX11_layWaiting_12 rfl (by decide) ?_
  refine q_getP (M := md_X11_layWaiting) (pc := 13) (v := 105) fl_11_84 dX11_layWaiting_13 (is_81 hN) rfl ?_
  refine q_aload_n (M := md_X11_layWaiting) (pc := 16) dX11_layWaiting_16 rfl (by decide) ?_
  refine e_gI (M := md_X11_layWaiting) (pc := 17) (v := m1 81 38) fl_11_271 dX11_layWaiting_17 (is_81 hN) rfl ?_
  refine e_rd (M := md_X11_layWaiting) (pc := 20) h dX11_layWaiting_20 (ar_105 hN) (fun v2 h => ?_)
  refine e_callVv (M := md_X11_layWaiting) (pc := 21) (d' := 1) (av := [q_I l1, q_I v2]) (c := 81) h ml_11_268 im_X11_lay se_X11_lay dX11_layWaiting_21 (fun v he => ok_X11_lay hN  he) rfl (is_81 hN) ⟨_, _, rfl⟩ (by decide) (Nat.le_of_ble_eq_true rfl) ⟨by decide, by decide⟩ rfl (fun _ m3 h => ?_)
  exact e_vret (M := md_X11_layWaiting) (pc := 24) h rfl dX11_layWaiting_24
def f_Mod_closeMinus_b0 (k0 : Int → q_Mem → q_Res) (l1 : Int) (m : q_Mem) : q_Res :=
  if q_w (m 81 38) ≤ 0 then (q_rt 0 m)
  else (q_rd m 105 100 ((m 81 38) - 1) fun v1 =>
  if q_w v1 = 1205 then (q_bd (f_Mod_layWaiting l1 m) fun _ m2 =>
  q_pf m2 81 39 ((m2 81 39) - 1) fun m3 =>
  k0 l1 m3)
  else (q_rt 0 m))
set_option maxRecDepth 20000 in
theorem w_Mod_closeMinus_b0 {k0 : Int → q_Mem → q_Res} {l1 : Int} {r : Int × q_Mem} {m : q_Mem} {N : Nat} (hN : 126 ≤ N) (hk0 : ∀ (l1 : Int) (m : q_Mem), k0 l1 m = some r → q_E md_X11_closeMinus 3 N (none) r m 0 [q_A 81, q_I l1] []) (h : f_Mod_closeMinus_b0 k0 l1 m = some r) : q_E md_X11_closeMinus 3 N (none) r m 0 [q_A 81, q_I l1] [] := by
  unfold f_Mod_closeMinus_b0 at h
  refine q_aload_n (M := md_X11_closeMinus) (pc := 0) dX11_closeMinus_0 rfl (by decide) ?_
  refine e_gI (M := md_X11_closeMinus) (pc := 1) (v := m 81 38) fl_11_271 dX11_closeMinus_1 (is_81 hN) rfl ?_
  refine e_if_le (M := md_X11_closeMinus) (pc := 4) (tgt := 42) h rfl dX11_closeMinus_4 (by decide) (fun h => ?_) (fun h => ?_)
  · exact e_vret (M := md_X11_closeMinus) (pc := 42) h rfl dX11_closeMinus_42
  · refine q_aload_n (M := md_X11_closeMinus) (pc := 7) dX11_closeMinus_7 rfl (by decide) ?_
    refine q_getP (M := md_X11_closeMinus) (pc := 8) (v := 105) fl_11_84 dX11_closeMinus_8 (is_81 hN) rfl ?_
    refine q_aload_n (M := md_X11_closeMinus) (pc := 11) dX11_closeMinus_11 rfl (by decide) ?_
    refine e_gI (M := md_X11_closeMinus) (pc := 12) (v := m 81 38) fl_11_271 dX11_closeMinus_12 (is_81 hN) rfl ?_
    refine q_iconst (M := md_X11_closeMinus) (pc := 15) dX11_closeMinus_15 ?_
    refine q_isub (M := md_X11_closeMinus) (pc := 16) dX11_closeMinus_16 ?_
    refine e_rd (M := md_X11_closeMinus) (pc := 17) h dX11_closeMinus_17 (ar_105 hN) (fun v1 h => ?_)
    refine q_sipush (M := md_X11_closeMinus) (pc := 18) (x := 1205) dX11_closeMinus_18 (by decide) ?_
    refine e_icmp_ne (M := md_X11_closeMinus) (pc := 21) (tgt := 42) h rfl (q_wlit rfl) dX11_closeMinus_21 (by decide) (fun h => ?_) (fun h => ?_)
    · exact e_vret (M := md_X11_closeMinus) (pc := 42) h rfl dX11_closeMinus_42
    · refine q_aload_n (M := md_X11_closeMinus) (pc := 24) dX11_closeMinus_24 rfl (by decide) ?_
      refine q_iload_n (M := md_X11_closeMinus) (pc := 25) dX11_closeMinus_25 rfl ?_
      refine e_callVv (M := md_X11_closeMinus) (pc := 26) (d' := 2) (av := [q_I l1]) (c := 81) h ml_11_290 im_X11_layWaiting se_X11_layWaiting dX11_closeMinus_26 (fun v he => ok_X11_layWaiting hN  he) rfl (is_81 hN) ⟨_, _, rfl⟩ (by decide) (Nat.le_of_ble_eq_true rfl) ⟨by decide, by decide⟩ rfl (fun _ m2 h => ?_)
      refine q_aload_n (M := md_X11_closeMinus) (pc := 29) dX11_closeMinus_29 rfl (by decide) ?_
      refine q_dup (M := md_X11_closeMinus) (pc := 30) dX11_closeMinus_30 (show (2 : Nat) ≠ 1 by decide) ?_
      refine e_gI (M := md_X11_closeMinus) (pc := 31) (v := m2 81 39) fl_11_274 dX11_closeMinus_31 (is_81 hN) rfl ?_
      refine q_iconst (M := md_X11_closeMinus) (pc := 34) dX11_closeMinus_34 ?_
      refine q_isub (M := md_X11_closeMinus) (pc := 35) dX11_closeMinus_35 ?_
      refine e_pfI (M := md_X11_closeMinus) (pc := 36) h fl_11_274 dX11_closeMinus_36 (is_81 hN) rfl (fun m3 h => ?_)
      refine q_goto (M := md_X11_closeMinus) (pc := 39) (tgt := 0) dX11_closeMinus_39 (by decide) ?_
      exact q_weak (hk0 _ _  h) ⟨Or.inr rfl, Or.inr rfl, trivial⟩
def f_Mod_closeMinus_l0 : Nat → Int → q_Mem → q_Res
  | 0 => fun _ _ => none
  | n + 1 => fun l1 m => f_Mod_closeMinus_b0 (f_Mod_closeMinus_l0 n) l1 m
theorem w_Mod_closeMinus_l0 {r : Int × q_Mem} {N : Nat} (hN : 126 ≤ N) : ∀ (n : Nat) (l1 : Int) (m : q_Mem), f_Mod_closeMinus_l0 n l1 m = some r → q_E md_X11_closeMinus 3 N (none) r m 0 [q_A 81, q_I l1] [] := by
  intro n
  induction n with
  | zero => intro l1 m h; exact q_no h
  | succ n ih =>
    intro l1 m h
    exact w_Mod_closeMinus_b0 hN (fun l1 m h => ih l1 m h) h
def f_Mod_closeMinus (l1 : Int) (m : q_Mem) : q_Res :=
  f_Mod_closeMinus_l0 q_F l1 m
set_option maxRecDepth 20000 in
theorem ok_X11_closeMinus {l1 : Int} {r : Int × q_Mem} {m : q_Mem} {N : Nat} (hN : 126 ≤ N) (h : f_Mod_closeMinus l1 m = some r) : q_C md_X11_closeMinus (q_room 3) 0 0 [q_A 81, q_I l1] (q_g N) m (none, q_g N, r.2) := by
  refine q_ofR (by decide) 0 (ls := [q_A 81, q_I l1]) rfl (Nat.le_of_ble_eq_true rfl) ?_
  change q_E md_X11_closeMinus 3 N (none) r m 0 [q_A 81, q_I l1] []
  unfold f_Mod_closeMinus at h
  exact q_weak (w_Mod_closeMinus_l0 hN q_F _ _  h) ⟨Or.inr rfl, Or.inr rfl, trivial⟩
def f_Mod_readUnit_b213 (s1 : Int) (m : q_Mem) : q_Res :=
  q_bd (f_Mod_push s1 m) fun _ m1 =>
  q_pf m1 81 39 ((m1 81 39) + 1) fun m2 =>
  q_bd (f_Mod_scan m2) fun _ m3 =>
  q_rz 1 m3
set_option maxRecDepth 20000 in
theorem w_Mod_readUnit_b213 {s1 : Int} {r : Int × q_Mem} {m : q_Mem} {N : Nat} (hN : 126 ≤ N) (h : f_Mod_readUnit_b213 s1 m = some r) : q_E md_X11_readUnit 6 N (some 0) r m 213 [q_A 81, q_N, q_N, q_N, q_N] [q_I s1, q_A 81] := by
  unfold f_Mod_readUnit_b213 at h
  refine e_callVv (M := md_X11_readUnit) (pc := 213) (d' := 1) (av := [q_I s1]) (c := 81) h ml_11_293 im_X11_push se_X11_push dX11_readUnit_213 (fun v he => ok_X11_push hN  he) rfl (is_81 hN) ⟨_, _, rfl⟩ (by decide) (Nat.le_of_ble_eq_true rfl) ⟨by decide, by decide⟩ rfl (fun _ m1 h => ?_)
  refine q_aload_n (M := md_X11_readUnit) (pc := 216) dX11_readUnit_216 rfl (by decide) ?_
  refine q_dup (M := md_X11_readUnit) (pc := 217) dX11_readUnit_217 (show (2 : Nat) ≠ 1 by decide) ?_
  refine e_gI (M := md_X11_readUnit) (pc := 218) (v := m1 81 39) fl_11_274 dX11_readUnit_218 (is_81 hN) rfl ?_
  refine q_iconst (M := md_X11_readUnit) (pc := 221) dX11_readUnit_221 ?_
  refine q_iadd (M := md_X11_readUnit) (pc := 222) dX11_readUnit_222 ?_
  refine e_pfI (M := md_X11_readUnit) (pc := 223) h fl_11_274 dX11_readUnit_223 (is_81 hN) rfl (fun m2 h => ?_)
  refine q_aload_n (M := md_X11_readUnit) (pc := 226) dX11_readUnit_226 rfl (by decide) ?_
  refine e_callVv (M := md_X11_readUnit) (pc := 227) (d' := 3) (av := []) (c := 81) h ml_11_215 im_X11_scan se_X11_scan dX11_readUnit_227 (fun v he => ok_X11_scan hN  he) rfl (is_81 hN) ⟨_, _, rfl⟩ (by decide) (Nat.le_of_ble_eq_true rfl) ⟨by decide, by decide⟩ rfl (fun _ m3 h => ?_)
  refine q_iconst (M := md_X11_readUnit) (pc := 230) dX11_readUnit_230 ?_
  exact e_zret (M := md_X11_readUnit) (pc := 231) h rfl dX11_readUnit_231
def f_Mod_readUnit_b296 (l1 : Int) (m : q_Mem) : q_Res :=
  if q_w (m 81 28) = 0 then (q_bd (f_Mod_closeMinus l1 m) fun _ m1 =>
  q_rz 0 m1)
  else (q_rz 0 m)
set_option maxRecDepth 20000 in
theorem w_Mod_readUnit_b296 {l1 : Int} {r : Int × q_Mem} {m : q_Mem} {N : Nat} (hN : 126 ≤ N) (h : f_Mod_readUnit_b296 l1 m = some r) : q_E md_X11_readUnit 6 N (some 0) r m 296 [q_A 81, q_I l1, q_N, q_N, q_N] [] := by
  unfold f_Mod_readUnit_b296 at h
  refine q_aload_n (M := md_X11_readUnit) (pc := 296) dX11_readUnit_296 rfl (by decide) ?_
  refine e_gI (M := md_X11_readUnit) (pc := 297) (v := m 81 28) fl_11_206 dX11_readUnit_297 (is_81 hN) rfl ?_
  refine e_if_ne (M := md_X11_readUnit) (pc := 300) (tgt := 308) h rfl dX11_readUnit_300 (by decide) (fun h => ?_) (fun h => ?_)
  · refine q_iconst (M := md_X11_readUnit) (pc := 308) dX11_readUnit_308 ?_
    exact e_zret (M := md_X11_readUnit) (pc := 309) h rfl dX11_readUnit_309
  · refine q_aload_n (M := md_X11_readUnit) (pc := 303) dX11_readUnit_303 rfl (by decide) ?_
    refine q_iload_n (M := md_X11_readUnit) (pc := 304) dX11_readUnit_304 rfl ?_
    refine e_callVv (M := md_X11_readUnit) (pc := 305) (d' := 3) (av := [q_I l1]) (c := 81) h ml_11_296 im_X11_closeMinus se_X11_closeMinus dX11_readUnit_305 (fun v he => ok_X11_closeMinus hN  he) rfl (is_81 hN) ⟨_, _, rfl⟩ (by decide) (Nat.le_of_ble_eq_true rfl) ⟨by decide, by decide⟩ rfl (fun _ m1 h => ?_)
    refine q_iconst (M := md_X11_readUnit) (pc := 308) dX11_readUnit_308 ?_
    exact e_zret (M := md_X11_readUnit) (pc := 309) h rfl dX11_readUnit_309
def f_Mod_readUnit_b289 (l1 s1 s2 : Int) (m : q_Mem) : q_Res :=
  q_bd (f_Mod_lay s1 s2 m) fun _ m1 =>
  q_bd (f_Mod_scan m1) fun _ m2 =>
  f_Mod_readUnit_b296 l1 m2
set_option maxRecDepth 20000 in
theorem w_Mod_readUnit_b289 {l1 s1 s2 : Int} {r : Int × q_Mem} {m : q_Mem} {N : Nat} (hN : 126 ≤ N) (h : f_Mod_readUnit_b289 l1 s1 s2 m = some r) : q_E md_X11_readUnit 6 N (some 0) r m 289 [q_A 81, q_I l1, q_N, q_N, q_N] [q_I s2, q_I s1, q_A 81] := by
  unfold f_Mod_readUnit_b289 at h
  refine e_callVv (M := md_X11_readUnit) (pc := 289) (d' := 1) (av := [q_I s1, q_I s2]) (c := 81) h ml_11_268 im_X11_lay se_X11_lay dX11_readUnit_289 (fun v he => ok_X11_lay hN  he) rfl (is_81 hN) ⟨_, _, rfl⟩ (by decide) (Nat.le_of_ble_eq_true rfl) ⟨by decide, by decide⟩ rfl (fun _ m1 h => ?_)
  refine q_aload_n (M := md_X11_readUnit) (pc := 292) dX11_readUnit_292 rfl (by decide) ?_
  refine e_callVv (M := md_X11_readUnit) (pc := 293) (d' := 3) (av := []) (c := 81) h ml_11_215 im_X11_scan se_X11_scan dX11_readUnit_293 (fun v he => ok_X11_scan hN  he) rfl (is_81 hN) ⟨_, _, rfl⟩ (by decide) (Nat.le_of_ble_eq_true rfl) ⟨by decide, by decide⟩ rfl (fun _ m2 h => ?_)
  exact q_weak (w_Mod_readUnit_b296 hN  h) ⟨Or.inr rfl, Or.inr rfl, Or.inl rfl, Or.inl rfl, Or.inl rfl, trivial⟩
def f_Mod_readUnit_b171 (l1 l2 l3 : Int) (m : q_Mem) : q_Res :=
  if q_w (m 81 28) ≤ 0 then (q_rd m 85 2 l1 fun v1 =>
  q_wr m 85 2 l1 (v1 + 1) fun m2 =>
  if q_w l3 = 0 then (q_bd (f_Mod_isName m2) fun v3 m4 =>
  if q_w v3 = 0 then (if q_w (m4 81 25) = 3 then (f_Mod_readUnit_b289 l1 l1 (m4 81 26) m4)
  else (if q_w (m4 81 27) = 5 then (f_Mod_readUnit_b289 l1 l1 1000 m4)
  else (f_Mod_readUnit_b289 l1 l1 1001 m4)))
  else (q_bd (f_Mod_named l2 m4) fun v5 m6 =>
  q_bd (f_Mod_readRead l1 v5 (l2 - 1) m6) fun _ m7 =>
  f_Mod_readUnit_b296 l1 m7))
  else (q_bd (f_Mod_isAt 40 m2) fun v8 m9 =>
  if q_w v8 = 0 then (f_Mod_readUnit_b213 1205 m9)
  else (f_Mod_readUnit_b213 1206 m9)))
  else (q_rz 0 m)
set_option maxRecDepth 20000 in
theorem w_Mod_readUnit_b171 {l1 l2 l3 : Int} {r : Int × q_Mem} {m : q_Mem} {N : Nat} (hN : 126 ≤ N) (h : f_Mod_readUnit_b171 l1 l2 l3 m = some r) : q_E md_X11_readUnit 6 N (some 0) r m 171 [q_A 81, q_I l1, q_I l2, q_I l3, q_N] [] := by
  unfold f_Mod_readUnit_b171 at h
  refine q_aload_n (M := md_X11_readUnit) (pc := 171) dX11_readUnit_171 rfl (by decide) ?_
  refine e_gI (M := md_X11_readUnit) (pc := 172) (v := m 81 28) fl_11_206 dX11_readUnit_172 (is_81 hN) rfl ?_
  refine e_if_le (M := md_X11_readUnit) (pc := 175) (tgt := 180) h rfl dX11_readUnit_175 (by decide) (fun h => ?_) (fun h => ?_)
  · refine q_aload_n (M := md_X11_readUnit) (pc := 180) dX11_readUnit_180 rfl (by decide) ?_
    refine q_getP (M := md_X11_readUnit) (pc := 181) (v := 85) fl_11_19 dX11_readUnit_181 (is_81 hN) rfl ?_
    refine q_iload_n (M := md_X11_readUnit) (pc := 184) dX11_readUnit_184 rfl ?_
    refine q_dup2 (M := md_X11_readUnit) (pc := 185) dX11_readUnit_185 (show (0 : Nat) ≠ 1 by decide) (show (2 : Nat) ≠ 1 by decide) ?_
    refine e_rd (M := md_X11_readUnit) (pc := 186) h dX11_readUnit_186 (ar_85 hN) (fun v1 h => ?_)
    refine q_iconst (M := md_X11_readUnit) (pc := 187) dX11_readUnit_187 ?_
    refine q_iadd (M := md_X11_readUnit) (pc := 188) dX11_readUnit_188 ?_
    refine e_wr (M := md_X11_readUnit) (pc := 189) h dX11_readUnit_189 (ar_85 hN) (fun m2 h => ?_)
    refine q_iload_n (M := md_X11_readUnit) (pc := 190) dX11_readUnit_190 rfl ?_
    refine e_if_eq (M := md_X11_readUnit) (pc := 191) (tgt := 232) h rfl dX11_readUnit_191 (by decide) (fun h => ?_) (fun h => ?_)
    · refine q_aload_n (M := md_X11_readUnit) (pc := 232) dX11_readUnit_232 rfl (by decide) ?_
      refine e_callVi (M := md_X11_readUnit) (pc := 233) (d' := 1) (av := []) (c := 81) h ml_11_257 im_X11_isName se_X11_isName dX11_readUnit_233 (fun v he => ok_X11_isName hN  he) rfl (is_81 hN) ⟨_, _, rfl⟩ (by decide) (Nat.le_of_ble_eq_true rfl) ⟨by decide, by decide⟩ rfl (fun v3 m4 h => ?_)
      refine e_if_eq (M := md_X11_readUnit) (pc := 236) (tgt := 255) h rfl dX11_readUnit_236 (by decide) (fun h => ?_) (fun h => ?_)
      · refine q_aload_n (M := md_X11_readUnit) (pc := 255) dX11_readUnit_255 rfl (by decide) ?_
        refine q_iload_n (M := md_X11_readUnit) (pc := 256) dX11_readUnit_256 rfl ?_
        refine q_aload_n (M := md_X11_readUnit) (pc := 257) dX11_readUnit_257 rfl (by decide) ?_
        refine e_gI (M := md_X11_readUnit) (pc := 258) (v := m4 81 25) fl_11_178 dX11_readUnit_258 (is_81 hN) rfl ?_
        refine q_iconst (M := md_X11_readUnit) (pc := 261) dX11_readUnit_261 ?_
        refine e_icmp_ne (M := md_X11_readUnit) (pc := 262) (tgt := 272) h rfl (q_wlit rfl) dX11_readUnit_262 (by decide) (fun h => ?_) (fun h => ?_)
        · refine q_aload_n (M := md_X11_readUnit) (pc := 272) dX11_readUnit_272 rfl (by decide) ?_
          refine e_gI (M := md_X11_readUnit) (pc := 273) (v := m4 81 27) fl_11_196 dX11_readUnit_273 (is_81 hN) rfl ?_
          refine q_iconst (M := md_X11_readUnit) (pc := 276) dX11_readUnit_276 ?_
          refine e_icmp_ne (M := md_X11_readUnit) (pc := 277) (tgt := 286) h rfl (q_wlit rfl) dX11_readUnit_277 (by decide) (fun h => ?_) (fun h => ?_)
          · refine q_sipush (M := md_X11_readUnit) (pc := 286) (x := 1001) dX11_readUnit_286 (by decide) ?_
            exact q_weak (w_Mod_readUnit_b289 hN  h) ⟨Or.inr rfl, Or.inr rfl, Or.inl rfl, Or.inl rfl, Or.inl rfl, trivial⟩
          · refine q_sipush (M := md_X11_readUnit) (pc := 280) (x := 1000) dX11_readUnit_280 (by decide) ?_
            refine q_goto (M := md_X11_readUnit) (pc := 283) (tgt := 289) dX11_readUnit_283 (by decide) ?_
            exact q_weak (w_Mod_readUnit_b289 hN  h) ⟨Or.inr rfl, Or.inr rfl, Or.inl rfl, Or.inl rfl, Or.inl rfl, trivial⟩
        · refine q_aload_n (M := md_X11_readUnit) (pc := 265) dX11_readUnit_265 rfl (by decide) ?_
          refine e_gI (M := md_X11_readUnit) (pc := 266) (v := m4 81 26) fl_11_203 dX11_readUnit_266 (is_81 hN) rfl ?_
          refine q_goto (M := md_X11_readUnit) (pc := 269) (tgt := 289) dX11_readUnit_269 (by decide) ?_
          exact q_weak (w_Mod_readUnit_b289 hN  h) ⟨Or.inr rfl, Or.inr rfl, Or.inl rfl, Or.inl rfl, Or.inl rfl, trivial⟩
      · refine q_aload_n (M := md_X11_readUnit) (pc := 239) dX11_readUnit_239 rfl (by decide) ?_
        refine q_iload_n (M := md_X11_readUnit) (pc := 240) dX11_readUnit_240 rfl ?_
        refine q_aload_n (M := md_X11_readUnit) (pc := 241) dX11_readUnit_241 rfl (by decide) ?_
        refine q_iload_n (M := md_X11_readUnit) (pc := 242) dX11_readUnit_242 rfl ?_
        refine e_callVi (M := md_X11_readUnit) (pc := 243) (d' := 2) (av := [q_I l2]) (c := 81) h ml_11_261 im_X11_named se_X11_named dX11_readUnit_243 (fun v he => ok_X11_named hN  he) rfl (is_81 hN) ⟨_, _, rfl⟩ (by decide) (Nat.le_of_ble_eq_true rfl) ⟨by decide, by decide⟩ rfl (fun v5 m6 h => ?_)
        refine q_iload_n (M := md_X11_readUnit) (pc := 246) dX11_readUnit_246 rfl ?_
        refine q_iconst (M := md_X11_readUnit) (pc := 247) dX11_readUnit_247 ?_
        refine q_isub (M := md_X11_readUnit) (pc := 248) dX11_readUnit_248 ?_
        refine e_callVv (M := md_X11_readUnit) (pc := 249) (d' := 5) (av := [q_I l1, q_I v5, q_I (l2 - 1)]) (c := 81) h ml_11_299 im_X11_readRead se_X11_readRead dX11_readUnit_249 (fun v he => ok_X11_readRead hN  he) rfl (is_81 hN) ⟨_, _, rfl⟩ (by decide) (Nat.le_of_ble_eq_true rfl) ⟨by decide, by decide⟩ rfl (fun _ m7 h => ?_)
        refine q_goto (M := md_X11_readUnit) (pc := 252) (tgt := 296) dX11_readUnit_252 (by decide) ?_
        exact q_weak (w_Mod_readUnit_b296 hN  h) ⟨Or.inr rfl, Or.inr rfl, Or.inl rfl, Or.inl rfl, Or.inl rfl, trivial⟩
    · refine q_aload_n (M := md_X11_readUnit) (pc := 194) dX11_readUnit_194 rfl (by decide) ?_
      refine q_aload_n (M := md_X11_readUnit) (pc := 195) dX11_readUnit_195 rfl (by decide) ?_
      refine q_bipush (M := md_X11_readUnit) (pc := 196) (x := 40) dX11_readUnit_196 (by decide) ?_
      refine e_callVi (M := md_X11_readUnit) (pc := 198) (d' := 2) (av := [q_I 40]) (c := 81) h ml_11_212 im_X11_isAt se_X11_isAt dX11_readUnit_198 (fun v he => ok_X11_isAt hN  he) rfl (is_81 hN) ⟨_, _, rfl⟩ (by decide) (Nat.le_of_ble_eq_true rfl) ⟨by decide, by decide⟩ rfl (fun v8 m9 h => ?_)
      refine e_if_eq (M := md_X11_readUnit) (pc := 201) (tgt := 210) h rfl dX11_readUnit_201 (by decide) (fun h => ?_) (fun h => ?_)
      · refine q_sipush (M := md_X11_readUnit) (pc := 210) (x := 1205) dX11_readUnit_210 (by decide) ?_
        exact q_weak (w_Mod_readUnit_b213 hN  h) ⟨Or.inr rfl, Or.inl rfl, Or.inl rfl, Or.inl rfl, Or.inl rfl, trivial⟩
      · refine q_sipush (M := md_X11_readUnit) (pc := 204) (x := 1206) dX11_readUnit_204 (by decide) ?_
        refine q_goto (M := md_X11_readUnit) (pc := 207) (tgt := 213) dX11_readUnit_207 (by decide) ?_
        exact q_weak (w_Mod_readUnit_b213 hN  h) ⟨Or.inr rfl, Or.inl rfl, Or.inl rfl, Or.inl rfl, Or.inl rfl, trivial⟩
  · refine q_iconst (M := md_X11_readUnit) (pc := 178) dX11_readUnit_178 ?_
    exact e_zret (M := md_X11_readUnit) (pc := 179) h rfl dX11_readUnit_179
def f_Mod_readUnit_b166 (l1 l2 l3 : Int) (m : q_Mem) : q_Res :=
  q_bd (f_Mod_fail 4 m) fun _ m1 =>
  f_Mod_readUnit_b171 l1 l2 l3 m1
set_option maxRecDepth 20000 in
theorem w_Mod_readUnit_b166 {l1 l2 l3 : Int} {r : Int × q_Mem} {m : q_Mem} {N : Nat} (hN : 126 ≤ N) (h : f_Mod_readUnit_b166 l1 l2 l3 m = some r) : q_E md_X11_readUnit 6 N (some 0) r m 166 [q_A 81, q_I l1, q_I l2, q_I l3, q_N] [] := by
  unfold f_Mod_readUnit_b166 at h
  refine q_aload_n (M := md_X11_readUnit) (pc := 166) dX11_readUnit_166 rfl (by decide) ?_
  refine q_iconst (M := md_X11_readUnit) (pc := 167) dX11_readUnit_167 ?_
  refine e_callVv (M := md_X11_readUnit) (pc := 168) (d' := 1) (av := [q_I 4]) (c := 81) h ml_11_218 im_X11_fail se_X11_fail dX11_readUnit_168 (fun v he => ok_X11_fail hN  he) rfl (is_81 hN) ⟨_, _, rfl⟩ (by decide) (Nat.le_of_ble_eq_true rfl) ⟨by decide, by decide⟩ rfl (fun _ m1 h => ?_)
  exact q_weak (w_Mod_readUnit_b171 hN  h) ⟨Or.inr rfl, Or.inr rfl, Or.inr rfl, Or.inr rfl, Or.inl rfl, trivial⟩
def f_Mod_readUnit_b129 (l1 l2 l3 : Int) (m : q_Mem) : q_Res :=
  q_rd m 85 2 l1 fun v1 =>
  if q_w v1 = 40 then (f_Mod_readUnit_b166 l1 l2 l3 m)
  else (if 4 < q_w (m 81 39) then (f_Mod_readUnit_b166 l1 l2 l3 m)
  else (q_bd (f_Mod_isName m) fun v2 m3 =>
  if q_w v2 = 0 then (f_Mod_readUnit_b171 l1 l2 l3 m3)
  else (q_rd m3 86 2 l1 fun v4 =>
  if q_w v4 = 12 then (f_Mod_readUnit_b166 l1 l2 l3 m3)
  else (f_Mod_readUnit_b171 l1 l2 l3 m3))))
set_option maxRecDepth 20000 in
theorem w_Mod_readUnit_b129 {l1 l2 l3 : Int} {r : Int × q_Mem} {m : q_Mem} {N : Nat} (hN : 126 ≤ N) (h : f_Mod_readUnit_b129 l1 l2 l3 m = some r) : q_E md_X11_readUnit 6 N (some 0) r m 129 [q_A 81, q_I l1, q_I l2, q_I l3, q_N] [] := by
  unfold f_Mod_readUnit_b129 at h
  refine q_aload_n (M := md_X11_readUnit) (pc := 129) dX11_readUnit_129 rfl (by decide) ?_
  refine q_getP (M := md_X11_readUnit) (pc := 130) (v := 85) fl_11_19 dX11_readUnit_130 (is_81 hN) rfl ?_
  refine q_iload_n (M := md_X11_readUnit) (pc := 133) dX11_readUnit_133 rfl ?_
  refine e_rd (M := md_X11_readUnit) (pc := 134) h dX11_readUnit_134 (ar_85 hN) (fun v1 h => ?_)
  refine q_bipush (M := md_X11_readUnit) (pc := 135) (x := 40) dX11_readUnit_135 (by decide) ?_
  refine e_icmp_eq (M := md_X11_readUnit) (pc := 137) (tgt := 166) h rfl (q_wlit rfl) dX11_readUnit_137 (by decide) (fun h => ?_) (fun h => ?_)
  · exact q_weak (w_Mod_readUnit_b166 hN  h) ⟨Or.inr rfl, Or.inr rfl, Or.inr rfl, Or.inr rfl, Or.inl rfl, trivial⟩
  · refine q_aload_n (M := md_X11_readUnit) (pc := 140) dX11_readUnit_140 rfl (by decide) ?_
    refine e_gI (M := md_X11_readUnit) (pc := 141) (v := m 81 39) fl_11_274 dX11_readUnit_141 (is_81 hN) rfl ?_
    refine q_iconst (M := md_X11_readUnit) (pc := 144) dX11_readUnit_144 ?_
    refine e_icmp_gt (M := md_X11_readUnit) (pc := 145) (tgt := 166) h rfl (q_wlit rfl) dX11_readUnit_145 (by decide) (fun h => ?_) (fun h => ?_)
    · exact q_weak (w_Mod_readUnit_b166 hN  h) ⟨Or.inr rfl, Or.inr rfl, Or.inr rfl, Or.inr rfl, Or.inl rfl, trivial⟩
    · refine q_aload_n (M := md_X11_readUnit) (pc := 148) dX11_readUnit_148 rfl (by decide) ?_
      refine e_callVi (M := md_X11_readUnit) (pc := 149) (d' := 1) (av := []) (c := 81) h ml_11_257 im_X11_isName se_X11_isName dX11_readUnit_149 (fun v he => ok_X11_isName hN  he) rfl (is_81 hN) ⟨_, _, rfl⟩ (by decide) (Nat.le_of_ble_eq_true rfl) ⟨by decide, by decide⟩ rfl (fun v2 m3 h => ?_)
      refine e_if_eq (M := md_X11_readUnit) (pc := 152) (tgt := 171) h rfl dX11_readUnit_152 (by decide) (fun h => ?_) (fun h => ?_)
      · exact q_weak (w_Mod_readUnit_b171 hN  h) ⟨Or.inr rfl, Or.inr rfl, Or.inr rfl, Or.inr rfl, Or.inl rfl, trivial⟩
      · refine q_aload_n (M := md_X11_readUnit) (pc := 155) dX11_readUnit_155 rfl (by decide) ?_
        refine q_getP (M := md_X11_readUnit) (pc := 156) (v := 86) fl_11_22 dX11_readUnit_156 (is_81 hN) rfl ?_
        refine q_iload_n (M := md_X11_readUnit) (pc := 159) dX11_readUnit_159 rfl ?_
        refine e_rd (M := md_X11_readUnit) (pc := 160) h dX11_readUnit_160 (ar_86 hN) (fun v4 h => ?_)
        refine q_bipush (M := md_X11_readUnit) (pc := 161) (x := 12) dX11_readUnit_161 (by decide) ?_
        refine e_icmp_ne (M := md_X11_readUnit) (pc := 163) (tgt := 171) h rfl (q_wlit rfl) dX11_readUnit_163 (by decide) (fun h => ?_) (fun h => ?_)
        · exact q_weak (w_Mod_readUnit_b171 hN  h) ⟨Or.inr rfl, Or.inr rfl, Or.inr rfl, Or.inr rfl, Or.inl rfl, trivial⟩
        · exact q_weak (w_Mod_readUnit_b166 hN  h) ⟨Or.inr rfl, Or.inr rfl, Or.inr rfl, Or.inr rfl, Or.inl rfl, trivial⟩
def f_Mod_readUnit_b106 (l1 l2 l3 : Int) (m : q_Mem) : q_Res :=
  q_bd (f_Mod_isName m) fun v1 m2 =>
  if q_w v1 = 0 then (f_Mod_readUnit_b129 l1 l2 l3 m2)
  else (q_bd (f_Mod_named l2 m2) fun v3 m4 =>
  if 0 ≤ q_w v3 then (f_Mod_readUnit_b129 l1 l2 l3 m4)
  else (q_bd (f_Mod_fail 3 m4) fun _ m5 =>
  f_Mod_readUnit_b171 l1 l2 l3 m5))
set_option maxRecDepth 20000 in
theorem w_Mod_readUnit_b106 {l1 l2 l3 : Int} {r : Int × q_Mem} {m : q_Mem} {N : Nat} (hN : 126 ≤ N) (h : f_Mod_readUnit_b106 l1 l2 l3 m = some r) : q_E md_X11_readUnit 6 N (some 0) r m 106 [q_A 81, q_I l1, q_I l2, q_I l3, q_N] [] := by
  unfold f_Mod_readUnit_b106 at h
  refine q_aload_n (M := md_X11_readUnit) (pc := 106) dX11_readUnit_106 rfl (by decide) ?_
  refine e_callVi (M := md_X11_readUnit) (pc := 107) (d' := 1) (av := []) (c := 81) h ml_11_257 im_X11_isName se_X11_isName dX11_readUnit_107 (fun v he => ok_X11_isName hN  he) rfl (is_81 hN) ⟨_, _, rfl⟩ (by decide) (Nat.le_of_ble_eq_true rfl) ⟨by decide, by decide⟩ rfl (fun v1 m2 h => ?_)
  refine e_if_eq (M := md_X11_readUnit) (pc := 110) (tgt := 129) h rfl dX11_readUnit_110 (by decide) (fun h => ?_) (fun h => ?_)
  · exact q_weak (w_Mod_readUnit_b129 hN  h) ⟨Or.inr rfl, Or.inr rfl, Or.inr rfl, Or.inr rfl, Or.inl rfl, trivial⟩
  · refine q_aload_n (M := md_X11_readUnit) (pc := 113) dX11_readUnit_113 rfl (by decide) ?_
    refine q_iload_n (M := md_X11_readUnit) (pc := 114) dX11_readUnit_114 rfl ?_
    refine e_callVi (M := md_X11_readUnit) (pc := 115) (d' := 2) (av := [q_I l2]) (c := 81) h ml_11_261 im_X11_named se_X11_named dX11_readUnit_115 (fun v he => ok_X11_named hN  he) rfl (is_81 hN) ⟨_, _, rfl⟩ (by decide) (Nat.le_of_ble_eq_true rfl) ⟨by decide, by decide⟩ rfl (fun v3 m4 h => ?_)
    refine e_if_ge (M := md_X11_readUnit) (pc := 118) (tgt := 129) h rfl dX11_readUnit_118 (by decide) (fun h => ?_) (fun h => ?_)
    · exact q_weak (w_Mod_readUnit_b129 hN  h) ⟨Or.inr rfl, Or.inr rfl, Or.inr rfl, Or.inr rfl, Or.inl rfl, trivial⟩
    · refine q_aload_n (M := md_X11_readUnit) (pc := 121) dX11_readUnit_121 rfl (by decide) ?_
      refine q_iconst (M := md_X11_readUnit) (pc := 122) dX11_readUnit_122 ?_
      refine e_callVv (M := md_X11_readUnit) (pc := 123) (d' := 1) (av := [q_I 3]) (c := 81) h ml_11_218 im_X11_fail se_X11_fail dX11_readUnit_123 (fun v he => ok_X11_fail hN  he) rfl (is_81 hN) ⟨_, _, rfl⟩ (by decide) (Nat.le_of_ble_eq_true rfl) ⟨by decide, by decide⟩ rfl (fun _ m5 h => ?_)
      refine q_goto (M := md_X11_readUnit) (pc := 126) (tgt := 171) dX11_readUnit_126 (by decide) ?_
      exact q_weak (w_Mod_readUnit_b171 hN  h) ⟨Or.inr rfl, Or.inr rfl, Or.inr rfl, Or.inr rfl, Or.inl rfl, trivial⟩
def f_Mod_readUnit_b80 (l1 l2 l3 : Int) (m : q_Mem) : q_Res :=
  if q_w (m 81 25) = 3 then (if q_w (m 81 26) ≤ 999 then (f_Mod_readUnit_b106 l1 l2 l3 m)
  else (q_bd (f_Mod_fail 2 m) fun _ m1 =>
  f_Mod_readUnit_b171 l1 l2 l3 m1))
  else (f_Mod_readUnit_b106 l1 l2 l3 m)
set_option maxRecDepth 20000 in
theorem w_Mod_readUnit_b80 {l1 l2 l3 : Int} {r : Int × q_Mem} {m : q_Mem} {N : Nat} (hN : 126 ≤ N) (h : f_Mod_readUnit_b80 l1 l2 l3 m = some r) : q_E md_X11_readUnit 6 N (some 0) r m 80 [q_A 81, q_I l1, q_I l2, q_I l3, q_N] [] := by
  unfold f_Mod_readUnit_b80 at h
  refine q_aload_n (M := md_X11_readUnit) (pc := 80) dX11_readUnit_80 rfl (by decide) ?_
  refine e_gI (M := md_X11_readUnit) (pc := 81) (v := m 81 25) fl_11_178 dX11_readUnit_81 (is_81 hN) rfl ?_
  refine q_iconst (M := md_X11_readUnit) (pc := 84) dX11_readUnit_84 ?_
  refine e_icmp_ne (M := md_X11_readUnit) (pc := 85) (tgt := 106) h rfl (q_wlit rfl) dX11_readUnit_85 (by decide) (fun h => ?_) (fun h => ?_)
  · exact q_weak (w_Mod_readUnit_b106 hN  h) ⟨Or.inr rfl, Or.inr rfl, Or.inr rfl, Or.inr rfl, Or.inl rfl, trivial⟩
  · refine q_aload_n (M := md_X11_readUnit) (pc := 88) dX11_readUnit_88 rfl (by decide) ?_
    refine e_gI (M := md_X11_readUnit) (pc := 89) (v := m 81 26) fl_11_203 dX11_readUnit_89 (is_81 hN) rfl ?_
    refine q_sipush (M := md_X11_readUnit) (pc := 92) (x := 999) dX11_readUnit_92 (by decide) ?_
    refine e_icmp_le (M := md_X11_readUnit) (pc := 95) (tgt := 106) h rfl (q_wlit rfl) dX11_readUnit_95 (by decide) (fun h => ?_) (fun h => ?_)
    · exact q_weak (w_Mod_readUnit_b106 hN  h) ⟨Or.inr rfl, Or.inr rfl, Or.inr rfl, Or.inr rfl, Or.inl rfl, trivial⟩
    · refine q_aload_n (M := md_X11_readUnit) (pc := 98) dX11_readUnit_98 rfl (by decide) ?_
      refine q_iconst (M := md_X11_readUnit) (pc := 99) dX11_readUnit_99 ?_
      refine e_callVv (M := md_X11_readUnit) (pc := 100) (d' := 1) (av := [q_I 2]) (c := 81) h ml_11_218 im_X11_fail se_X11_fail dX11_readUnit_100 (fun v he => ok_X11_fail hN  he) rfl (is_81 hN) ⟨_, _, rfl⟩ (by decide) (Nat.le_of_ble_eq_true rfl) ⟨by decide, by decide⟩ rfl (fun _ m1 h => ?_)
      refine q_goto (M := md_X11_readUnit) (pc := 103) (tgt := 171) dX11_readUnit_103 (by decide) ?_
      exact q_weak (w_Mod_readUnit_b171 hN  h) ⟨Or.inr rfl, Or.inr rfl, Or.inr rfl, Or.inr rfl, Or.inl rfl, trivial⟩
def f_Mod_readUnit_b46 (l1 l2 l3 s0 : Int) (m : q_Mem) : q_Res :=
  if q_w l3 = 0 then (if q_w s0 = 0 then (q_bd (f_Mod_isName m) fun v1 m2 =>
  if q_w v1 = 0 then (if q_w (m2 81 25) = 3 then (f_Mod_readUnit_b80 l1 l2 l3 m2)
  else (q_bd (f_Mod_fail 1 m2) fun _ m3 =>
  f_Mod_readUnit_b171 l1 l2 l3 m3))
  else (f_Mod_readUnit_b80 l1 l2 l3 m2))
  else (f_Mod_readUnit_b80 l1 l2 l3 m))
  else (f_Mod_readUnit_b80 l1 l2 l3 m)
set_option maxRecDepth 20000 in
theorem w_Mod_readUnit_b46 {l1 l2 l3 s0 : Int} {r : Int × q_Mem} {m : q_Mem} {N : Nat} (hN : 126 ≤ N) (h : f_Mod_readUnit_b46 l1 l2 l3 s0 m = some r) : q_E md_X11_readUnit 6 N (some 0) r m 46 [q_A 81, q_I l1, q_I l2, q_I l3, q_N] [q_I s0] := by
  unfold f_Mod_readUnit_b46 at h
  refine e_ist (M := md_X11_readUnit) (pc := 46) (ls' := [q_A 81, q_I l1, q_I l2, q_I l3, q_I s0]) dX11_readUnit_46 (by decide) (q_pl rfl) rfl ?_
  refine q_iload_n (M := md_X11_readUnit) (pc := 48) dX11_readUnit_48 rfl ?_
  refine e_if_ne (M := md_X11_readUnit) (pc := 49) (tgt := 80) h rfl dX11_readUnit_49 (by decide) (fun h => ?_) (fun h => ?_)
  · exact q_weak (w_Mod_readUnit_b80 hN  h) ⟨Or.inr rfl, Or.inr rfl, Or.inr rfl, Or.inr rfl, Or.inl rfl, trivial⟩
  · refine q_iload (M := md_X11_readUnit) (pc := 52) dX11_readUnit_52 rfl ?_
    refine e_if_ne (M := md_X11_readUnit) (pc := 54) (tgt := 80) h rfl dX11_readUnit_54 (by decide) (fun h => ?_) (fun h => ?_)
    · exact q_weak (w_Mod_readUnit_b80 hN  h) ⟨Or.inr rfl, Or.inr rfl, Or.inr rfl, Or.inr rfl, Or.inl rfl, trivial⟩
    · refine q_aload_n (M := md_X11_readUnit) (pc := 57) dX11_readUnit_57 rfl (by decide) ?_
      refine e_callVi (M := md_X11_readUnit) (pc := 58) (d' := 1) (av := []) (c := 81) h ml_11_257 im_X11_isName se_X11_isName dX11_readUnit_58 (fun v he => ok_X11_isName hN  he) rfl (is_81 hN) ⟨_, _, rfl⟩ (by decide) (Nat.le_of_ble_eq_true rfl) ⟨by decide, by decide⟩ rfl (fun v1 m2 h => ?_)
      refine e_if_ne (M := md_X11_readUnit) (pc := 61) (tgt := 80) h rfl dX11_readUnit_61 (by decide) (fun h => ?_) (fun h => ?_)
      · exact q_weak (w_Mod_readUnit_b80 hN  h) ⟨Or.inr rfl, Or.inr rfl, Or.inr rfl, Or.inr rfl, Or.inl rfl, trivial⟩
      · refine q_aload_n (M := md_X11_readUnit) (pc := 64) dX11_readUnit_64 rfl (by decide) ?_
        refine e_gI (M := md_X11_readUnit) (pc := 65) (v := m2 81 25) fl_11_178 dX11_readUnit_65 (is_81 hN) rfl ?_
        refine q_iconst (M := md_X11_readUnit) (pc := 68) dX11_readUnit_68 ?_
        refine e_icmp_eq (M := md_X11_readUnit) (pc := 69) (tgt := 80) h rfl (q_wlit rfl) dX11_readUnit_69 (by decide) (fun h => ?_) (fun h => ?_)
        · exact q_weak (w_Mod_readUnit_b80 hN  h) ⟨Or.inr rfl, Or.inr rfl, Or.inr rfl, Or.inr rfl, Or.inl rfl, trivial⟩
        · refine q_aload_n (M := md_X11_readUnit) (pc := 72) dX11_readUnit_72 rfl (by decide) ?_
          refine q_iconst (M := md_X11_readUnit) (pc := 73) dX11_readUnit_73 ?_
          refine e_callVv (M := md_X11_readUnit) (pc := 74) (d' := 1) (av := [q_I 1]) (c := 81) h ml_11_218 im_X11_fail se_X11_fail dX11_readUnit_74 (fun v he => ok_X11_fail hN  he) rfl (is_81 hN) ⟨_, _, rfl⟩ (by decide) (Nat.le_of_ble_eq_true rfl) ⟨by decide, by decide⟩ rfl (fun _ m3 h => ?_)
          refine q_goto (M := md_X11_readUnit) (pc := 77) (tgt := 171) dX11_readUnit_77 (by decide) ?_
          exact q_weak (w_Mod_readUnit_b171 hN  h) ⟨Or.inr rfl, Or.inr rfl, Or.inr rfl, Or.inr rfl, Or.inl rfl, trivial⟩
def f_Mod_readUnit_b41 (l1 l2 l3 : Int) (m : q_Mem) : q_Res :=
  f_Mod_readUnit_b46 l1 l2 l3 1 m
set_option maxRecDepth 20000 in
theorem w_Mod_readUnit_b41 {l1 l2 l3 : Int} {r : Int × q_Mem} {m : q_Mem} {N : Nat} (hN : 126 ≤ N) (h : f_Mod_readUnit_b41 l1 l2 l3 m = some r) : q_E md_X11_readUnit 6 N (some 0) r m 41 [q_A 81, q_I l1, q_I l2, q_I l3, q_N] [] := by
  unfold f_Mod_readUnit_b41 at h
  refine q_iconst (M := md_X11_readUnit) (pc := 41) dX11_readUnit_41 ?_
  refine q_goto (M := md_X11_readUnit) (pc := 42) (tgt := 46) dX11_readUnit_42 (by decide) ?_
  exact q_weak (w_Mod_readUnit_b46 hN  h) ⟨Or.inr rfl, Or.inr rfl, Or.inr rfl, Or.inr rfl, Or.inl rfl, trivial⟩
def f_Mod_readUnit_b23 (l1 l2 s0 : Int) (m : q_Mem) : q_Res :=
  q_bd (f_Mod_isWord 5 m) fun v1 m2 =>
  if q_w v1 = 0 then (q_bd (f_Mod_isWord 6 m2) fun v3 m4 =>
  if q_w v3 = 0 then (f_Mod_readUnit_b46 l1 l2 s0 0 m4)
  else (f_Mod_readUnit_b41 l1 l2 s0 m4))
  else (f_Mod_readUnit_b41 l1 l2 s0 m2)
set_option maxRecDepth 20000 in
theorem w_Mod_readUnit_b23 {l1 l2 s0 : Int} {r : Int × q_Mem} {m : q_Mem} {N : Nat} (hN : 126 ≤ N) (h : f_Mod_readUnit_b23 l1 l2 s0 m = some r) : q_E md_X11_readUnit 6 N (some 0) r m 23 [q_A 81, q_I l1, q_I l2, q_N, q_N] [q_I s0] := by
  unfold f_Mod_readUnit_b23 at h
  refine e_ist_n (M := md_X11_readUnit) (pc := 23) (ls' := [q_A 81, q_I l1, q_I l2, q_I s0, q_N]) dX11_readUnit_23 (by decide) (q_pl rfl) rfl ?_
  refine q_aload_n (M := md_X11_readUnit) (pc := 24) dX11_readUnit_24 rfl (by decide) ?_
  refine q_iconst (M := md_X11_readUnit) (pc := 25) dX11_readUnit_25 ?_
  refine e_callVi (M := md_X11_readUnit) (pc := 26) (d' := 1) (av := [q_I 5]) (c := 81) h ml_11_229 im_X11_isWord se_X11_isWord dX11_readUnit_26 (fun v he => ok_X11_isWord hN  he) rfl (is_81 hN) ⟨_, _, rfl⟩ (by decide) (Nat.le_of_ble_eq_true rfl) ⟨by decide, by decide⟩ rfl (fun v1 m2 h => ?_)
  refine e_if_ne (M := md_X11_readUnit) (pc := 29) (tgt := 41) h rfl dX11_readUnit_29 (by decide) (fun h => ?_) (fun h => ?_)
  · exact q_weak (w_Mod_readUnit_b41 hN  h) ⟨Or.inr rfl, Or.inr rfl, Or.inr rfl, Or.inr rfl, Or.inl rfl, trivial⟩
  · refine q_aload_n (M := md_X11_readUnit) (pc := 32) dX11_readUnit_32 rfl (by decide) ?_
    refine q_bipush (M := md_X11_readUnit) (pc := 33) (x := 6) dX11_readUnit_33 (by decide) ?_
    refine e_callVi (M := md_X11_readUnit) (pc := 35) (d' := 1) (av := [q_I 6]) (c := 81) h ml_11_229 im_X11_isWord se_X11_isWord dX11_readUnit_35 (fun v he => ok_X11_isWord hN  he) rfl (is_81 hN) ⟨_, _, rfl⟩ (by decide) (Nat.le_of_ble_eq_true rfl) ⟨by decide, by decide⟩ rfl (fun v3 m4 h => ?_)
    refine e_if_eq (M := md_X11_readUnit) (pc := 38) (tgt := 45) h rfl dX11_readUnit_38 (by decide) (fun h => ?_) (fun h => ?_)
    · refine q_iconst (M := md_X11_readUnit) (pc := 45) dX11_readUnit_45 ?_
      exact q_weak (w_Mod_readUnit_b46 hN  h) ⟨Or.inr rfl, Or.inr rfl, Or.inr rfl, Or.inr rfl, Or.inl rfl, trivial⟩
    · exact q_weak (w_Mod_readUnit_b41 hN  h) ⟨Or.inr rfl, Or.inr rfl, Or.inr rfl, Or.inr rfl, Or.inl rfl, trivial⟩
def f_Mod_readUnit_b18 (l1 l2 : Int) (m : q_Mem) : q_Res :=
  f_Mod_readUnit_b23 l1 l2 1 m
set_option maxRecDepth 20000 in
theorem w_Mod_readUnit_b18 {l1 l2 : Int} {r : Int × q_Mem} {m : q_Mem} {N : Nat} (hN : 126 ≤ N) (h : f_Mod_readUnit_b18 l1 l2 m = some r) : q_E md_X11_readUnit 6 N (some 0) r m 18 [q_A 81, q_I l1, q_I l2, q_N, q_N] [] := by
  unfold f_Mod_readUnit_b18 at h
  refine q_iconst (M := md_X11_readUnit) (pc := 18) dX11_readUnit_18 ?_
  refine q_goto (M := md_X11_readUnit) (pc := 19) (tgt := 23) dX11_readUnit_19 (by decide) ?_
  exact q_weak (w_Mod_readUnit_b23 hN  h) ⟨Or.inr rfl, Or.inr rfl, Or.inr rfl, Or.inl rfl, Or.inl rfl, trivial⟩
def f_Mod_readUnit (l1 l2 : Int) (m : q_Mem) : q_Res :=
  q_bd (f_Mod_isAt 40 m) fun v1 m2 =>
  if q_w v1 = 0 then (q_bd (f_Mod_isAt 45 m2) fun v3 m4 =>
  if q_w v3 = 0 then (f_Mod_readUnit_b23 l1 l2 0 m4)
  else (f_Mod_readUnit_b18 l1 l2 m4))
  else (f_Mod_readUnit_b18 l1 l2 m2)
set_option maxRecDepth 20000 in
theorem ok_X11_readUnit {l1 l2 : Int} {r : Int × q_Mem} {m : q_Mem} {N : Nat} (hN : 126 ≤ N) (h : f_Mod_readUnit l1 l2 m = some r) : q_C md_X11_readUnit (q_room 6) 0 0 [q_A 81, q_I l1, q_I l2] (q_g N) m (some (q_I r.1), q_g N, r.2) := by
  refine q_ofR (by decide) 2 (ls := [q_A 81, q_I l1, q_I l2, q_N, q_N]) rfl (Nat.le_of_ble_eq_true rfl) ?_
  change q_E md_X11_readUnit 6 N (some 0) r m 0 [q_A 81, q_I l1, q_I l2, q_N, q_N] []
  unfold f_Mod_readUnit at h
  refine q_aload_n (M := md_X11_readUnit) (pc := 0) dX11_readUnit_0 rfl (by decide) ?_
  refine q_bipush (M := md_X11_readUnit) (pc := 1) (x := 40) dX11_readUnit_1 (by decide) ?_
  refine e_callVi (M := md_X11_readUnit) (pc := 3) (d' := 2) (av := [q_I 40]) (c := 81) h ml_11_212 im_X11_isAt se_X11_isAt dX11_readUnit_3 (fun v he => ok_X11_isAt hN  he) rfl (is_81 hN) ⟨_, _, rfl⟩ (by decide) (Nat.le_of_ble_eq_true rfl) ⟨by decide, by decide⟩ rfl (fun v1 m2 h => ?_)
  refine e_if_ne (M := md_X11_readUnit) (pc := 6) (tgt := 18) h rfl dX11_readUnit_6 (by decide) (fun h => ?_) (fun h => ?_)
  · exact q_weak (w_Mod_readUnit_b18 hN  h) ⟨Or.inr rfl, Or.inr rfl, Or.inr rfl, Or.inl rfl, Or.inl rfl, trivial⟩
  · refine q_aload_n (M := md_X11_readUnit) (pc := 9) dX11_readUnit_9 rfl (by decide) ?_
    refine q_bipush (M := md_X11_readUnit) (pc := 10) (x := 45) dX11_readUnit_10 (by decide) ?_
    refine e_callVi (M := md_X11_readUnit) (pc := 12) (d' := 2) (av := [q_I 45]) (c := 81) h ml_11_212 im_X11_isAt se_X11_isAt dX11_readUnit_12 (fun v he => ok_X11_isAt hN  he) rfl (is_81 hN) ⟨_, _, rfl⟩ (by decide) (Nat.le_of_ble_eq_true rfl) ⟨by decide, by decide⟩ rfl (fun v3 m4 h => ?_)
    refine e_if_eq (M := md_X11_readUnit) (pc := 15) (tgt := 22) h rfl dX11_readUnit_15 (by decide) (fun h => ?_) (fun h => ?_)
    · refine q_iconst (M := md_X11_readUnit) (pc := 22) dX11_readUnit_22 ?_
      exact q_weak (w_Mod_readUnit_b23 hN  h) ⟨Or.inr rfl, Or.inr rfl, Or.inr rfl, Or.inl rfl, Or.inl rfl, trivial⟩
    · exact q_weak (w_Mod_readUnit_b18 hN  h) ⟨Or.inr rfl, Or.inr rfl, Or.inr rfl, Or.inl rfl, Or.inl rfl, trivial⟩
def f_Mod_close_b0 (k0 : Int → q_Mem → q_Res) (l1 : Int) (m : q_Mem) : q_Res :=
  q_rd m 105 100 ((m 81 38) - 1) fun v1 =>
  if q_w v1 = 1206 then (q_pf m 81 38 ((m 81 38) - 1) fun m2 =>
  q_pf m2 81 39 ((m2 81 39) - 1) fun m3 =>
  q_bd (f_Mod_scan m3) fun _ m4 =>
  q_bd (f_Mod_closeMinus l1 m4) fun _ m5 =>
  q_rt 0 m5)
  else (q_bd (f_Mod_layWaiting l1 m) fun _ m6 =>
  k0 l1 m6)
set_option maxRecDepth 20000 in
theorem w_Mod_close_b0 {k0 : Int → q_Mem → q_Res} {l1 : Int} {r : Int × q_Mem} {m : q_Mem} {N : Nat} (hN : 126 ≤ N) (hk0 : ∀ (l1 : Int) (m : q_Mem), k0 l1 m = some r → q_E md_X11_close 4 N (none) r m 0 [q_A 81, q_I l1] []) (h : f_Mod_close_b0 k0 l1 m = some r) : q_E md_X11_close 4 N (none) r m 0 [q_A 81, q_I l1] [] := by
  unfold f_Mod_close_b0 at h
  refine q_aload_n (M := md_X11_close) (pc := 0) dX11_close_0 rfl (by decide) ?_
  refine q_getP (M := md_X11_close) (pc := 1) (v := 105) fl_11_84 dX11_close_1 (is_81 hN) rfl ?_
  refine q_aload_n (M := md_X11_close) (pc := 4) dX11_close_4 rfl (by decide) ?_
  refine e_gI (M := md_X11_close) (pc := 5) (v := m 81 38) fl_11_271 dX11_close_5 (is_81 hN) rfl ?_
  refine q_iconst (M := md_X11_close) (pc := 8) dX11_close_8 ?_
  refine q_isub (M := md_X11_close) (pc := 9) dX11_close_9 ?_
  refine e_rd (M := md_X11_close) (pc := 10) h dX11_close_10 (ar_105 hN) (fun v1 h => ?_)
  refine q_sipush (M := md_X11_close) (pc := 11) (x := 1206) dX11_close_11 (by decide) ?_
  refine e_icmp_eq (M := md_X11_close) (pc := 14) (tgt := 25) h rfl (q_wlit rfl) dX11_close_14 (by decide) (fun h => ?_) (fun h => ?_)
  · refine q_aload_n (M := md_X11_close) (pc := 25) dX11_close_25 rfl (by decide) ?_
    refine q_dup (M := md_X11_close) (pc := 26) dX11_close_26 (show (2 : Nat) ≠ 1 by decide) ?_
    refine e_gI (M := md_X11_close) (pc := 27) (v := m 81 38) fl_11_271 dX11_close_27 (is_81 hN) rfl ?_
    refine q_iconst (M := md_X11_close) (pc := 30) dX11_close_30 ?_
    refine q_isub (M := md_X11_close) (pc := 31) dX11_close_31 ?_
    refine e_pfI (M := md_X11_close) (pc := 32) h fl_11_271 dX11_close_32 (is_81 hN) rfl (fun m2 h => ?_)
    refine q_aload_n (M := md_X11_close) (pc := 35) dX11_close_35 rfl (by decide) ?_
    refine q_dup (M := md_X11_close) (pc := 36) dX11_close_36 (show (2 : Nat) ≠ 1 by decide) ?_
    refine e_gI (M := md_X11_close) (pc := 37) (v := m2 81 39) fl_11_274 dX11_close_37 (is_81 hN) rfl ?_
    refine q_iconst (M := md_X11_close) (pc := 40) dX11_close_40 ?_
    refine q_isub (M := md_X11_close) (pc := 41) dX11_close_41 ?_
    refine e_pfI (M := md_X11_close) (pc := 42) h fl_11_274 dX11_close_42 (is_81 hN) rfl (fun m3 h => ?_)
    refine q_aload_n (M := md_X11_close) (pc := 45) dX11_close_45 rfl (by decide) ?_
    refine e_callVv (M := md_X11_close) (pc := 46) (d' := 3) (av := []) (c := 81) h ml_11_215 im_X11_scan se_X11_scan dX11_close_46 (fun v he => ok_X11_scan hN  he) rfl (is_81 hN) ⟨_, _, rfl⟩ (by decide) (Nat.le_of_ble_eq_true rfl) ⟨by decide, by decide⟩ rfl (fun _ m4 h => ?_)
    refine q_aload_n (M := md_X11_close) (pc := 49) dX11_close_49 rfl (by decide) ?_
    refine q_iload_n (M := md_X11_close) (pc := 50) dX11_close_50 rfl ?_
    refine e_callVv (M := md_X11_close) (pc := 51) (d' := 3) (av := [q_I l1]) (c := 81) h ml_11_296 im_X11_closeMinus se_X11_closeMinus dX11_close_51 (fun v he => ok_X11_closeMinus hN  he) rfl (is_81 hN) ⟨_, _, rfl⟩ (by decide) (Nat.le_of_ble_eq_true rfl) ⟨by decide, by decide⟩ rfl (fun _ m5 h => ?_)
    exact e_vret (M := md_X11_close) (pc := 54) h rfl dX11_close_54
  · refine q_aload_n (M := md_X11_close) (pc := 17) dX11_close_17 rfl (by decide) ?_
    refine q_iload_n (M := md_X11_close) (pc := 18) dX11_close_18 rfl ?_
    refine e_callVv (M := md_X11_close) (pc := 19) (d' := 2) (av := [q_I l1]) (c := 81) h ml_11_290 im_X11_layWaiting se_X11_layWaiting dX11_close_19 (fun v he => ok_X11_layWaiting hN  he) rfl (is_81 hN) ⟨_, _, rfl⟩ (by decide) (Nat.le_of_ble_eq_true rfl) ⟨by decide, by decide⟩ rfl (fun _ m6 h => ?_)
    refine q_goto (M := md_X11_close) (pc := 22) (tgt := 0) dX11_close_22 (by decide) ?_
    exact q_weak (hk0 _ _  h) ⟨Or.inr rfl, Or.inr rfl, trivial⟩
def f_Mod_close_l0 : Nat → Int → q_Mem → q_Res
  | 0 => fun _ _ => none
  | n + 1 => fun l1 m => f_Mod_close_b0 (f_Mod_close_l0 n) l1 m
theorem w_Mod_close_l0 {r : Int × q_Mem} {N : Nat} (hN : 126 ≤ N) : ∀ (n : Nat) (l1 : Int) (m : q_Mem), f_Mod_close_l0 n l1 m = some r → q_E md_X11_close 4 N (none) r m 0 [q_A 81, q_I l1] [] := by
  intro n
  induction n with
  | zero => intro l1 m h; exact q_no h
  | succ n ih =>
    intro l1 m h
    exact w_Mod_close_b0 hN (fun l1 m h => ih l1 m h) h
def f_Mod_close (l1 : Int) (m : q_Mem) : q_Res :=
  f_Mod_close_l0 q_F l1 m
set_option maxRecDepth 20000 in
theorem ok_X11_close {l1 : Int} {r : Int × q_Mem} {m : q_Mem} {N : Nat} (hN : 126 ≤ N) (h : f_Mod_close l1 m = some r) : q_C md_X11_close (q_room 4) 0 0 [q_A 81, q_I l1] (q_g N) m (none, q_g N, r.2) := by
  refine q_ofR (by decide) 0 (ls := [q_A 81, q_I l1]) rfl (Nat.le_of_ble_eq_true rfl) ?_
  change q_E md_X11_close 4 N (none) r m 0 [q_A 81, q_I l1] []
  unfold f_Mod_close at h
  exact q_weak (w_Mod_close_l0 hN q_F _ _  h) ⟨Or.inr rfl, Or.inr rfl, trivial⟩
def f_Mod_between (m : q_Mem) : q_Res :=
  q_bd (f_Mod_isAt 60 m) fun v1 m2 =>
  if q_w v1 = 0 then (q_bd (f_Mod_isAt 62 m2) fun v3 m4 =>
  if q_w v3 = 0 then (q_bd (f_Mod_isAt 43 m4) fun v5 m6 =>
  if q_w v5 = 0 then (q_bd (f_Mod_isAt 45 m6) fun v7 m8 =>
  if q_w v7 = 0 then (q_bd (f_Mod_isAt 42 m8) fun v9 m10 =>
  if q_w v9 = 0 then (q_rt (-1) m10)
  else (q_rt 1204 m10))
  else (q_rt 1203 m8))
  else (q_rt 1202 m6))
  else (q_rt 1201 m4))
  else (q_rt 1200 m2)
set_option maxRecDepth 20000 in
theorem ok_X11_between {r : Int × q_Mem} {m : q_Mem} {N : Nat} (hN : 126 ≤ N) (h : f_Mod_between m = some r) : q_C md_X11_between (q_room 3) 0 0 [q_A 81] (q_g N) m (some (q_I r.1), q_g N, r.2) := by
  refine q_ofR (by decide) 0 (ls := [q_A 81]) rfl (Nat.le_of_ble_eq_true rfl) ?_
  change q_E md_X11_between 3 N (some 0) r m 0 [q_A 81] []
  unfold f_Mod_between at h
  refine q_aload_n (M := md_X11_between) (pc := 0) dX11_between_0 rfl (by decide) ?_
  refine q_bipush (M := md_X11_between) (pc := 1) (x := 60) dX11_between_1 (by decide) ?_
  refine e_callVi (M := md_X11_between) (pc := 3) (d' := 2) (av := [q_I 60]) (c := 81) h ml_11_212 im_X11_isAt se_X11_isAt dX11_between_3 (fun v he => ok_X11_isAt hN  he) rfl (is_81 hN) ⟨_, _, rfl⟩ (by decide) (Nat.le_of_ble_eq_true rfl) ⟨by decide, by decide⟩ rfl (fun v1 m2 h => ?_)
  refine e_if_eq (M := md_X11_between) (pc := 6) (tgt := 15) h rfl dX11_between_6 (by decide) (fun h => ?_) (fun h => ?_)
  · refine q_aload_n (M := md_X11_between) (pc := 15) dX11_between_15 rfl (by decide) ?_
    refine q_bipush (M := md_X11_between) (pc := 16) (x := 62) dX11_between_16 (by decide) ?_
    refine e_callVi (M := md_X11_between) (pc := 18) (d' := 2) (av := [q_I 62]) (c := 81) h ml_11_212 im_X11_isAt se_X11_isAt dX11_between_18 (fun v he => ok_X11_isAt hN  he) rfl (is_81 hN) ⟨_, _, rfl⟩ (by decide) (Nat.le_of_ble_eq_true rfl) ⟨by decide, by decide⟩ rfl (fun v3 m4 h => ?_)
    refine e_if_eq (M := md_X11_between) (pc := 21) (tgt := 30) h rfl dX11_between_21 (by decide) (fun h => ?_) (fun h => ?_)
    · refine q_aload_n (M := md_X11_between) (pc := 30) dX11_between_30 rfl (by decide) ?_
      refine q_bipush (M := md_X11_between) (pc := 31) (x := 43) dX11_between_31 (by decide) ?_
      refine e_callVi (M := md_X11_between) (pc := 33) (d' := 2) (av := [q_I 43]) (c := 81) h ml_11_212 im_X11_isAt se_X11_isAt dX11_between_33 (fun v he => ok_X11_isAt hN  he) rfl (is_81 hN) ⟨_, _, rfl⟩ (by decide) (Nat.le_of_ble_eq_true rfl) ⟨by decide, by decide⟩ rfl (fun v5 m6 h => ?_)
      refine e_if_eq (M := md_X11_between) (pc := 36) (tgt := 45) h rfl dX11_between_36 (by decide) (fun h => ?_) (fun h => ?_)
      · refine q_aload_n (M := md_X11_between) (pc := 45) dX11_between_45 rfl (by decide) ?_
        refine q_bipush (M := md_X11_between) (pc := 46) (x := 45) dX11_between_46 (by decide) ?_
        refine e_callVi (M := md_X11_between) (pc := 48) (d' := 2) (av := [q_I 45]) (c := 81) h ml_11_212 im_X11_isAt se_X11_isAt dX11_between_48 (fun v he => ok_X11_isAt hN  he) rfl (is_81 hN) ⟨_, _, rfl⟩ (by decide) (Nat.le_of_ble_eq_true rfl) ⟨by decide, by decide⟩ rfl (fun v7 m8 h => ?_)
        refine e_if_eq (M := md_X11_between) (pc := 51) (tgt := 60) h rfl dX11_between_51 (by decide) (fun h => ?_) (fun h => ?_)
        · refine q_aload_n (M := md_X11_between) (pc := 60) dX11_between_60 rfl (by decide) ?_
          refine q_bipush (M := md_X11_between) (pc := 61) (x := 42) dX11_between_61 (by decide) ?_
          refine e_callVi (M := md_X11_between) (pc := 63) (d' := 2) (av := [q_I 42]) (c := 81) h ml_11_212 im_X11_isAt se_X11_isAt dX11_between_63 (fun v he => ok_X11_isAt hN  he) rfl (is_81 hN) ⟨_, _, rfl⟩ (by decide) (Nat.le_of_ble_eq_true rfl) ⟨by decide, by decide⟩ rfl (fun v9 m10 h => ?_)
          refine e_if_eq (M := md_X11_between) (pc := 66) (tgt := 75) h rfl dX11_between_66 (by decide) (fun h => ?_) (fun h => ?_)
          · refine q_iconst (M := md_X11_between) (pc := 75) dX11_between_75 ?_
            exact e_iret (M := md_X11_between) (pc := 76) h rfl dX11_between_76
          · refine q_sipush (M := md_X11_between) (pc := 69) (x := 1204) dX11_between_69 (by decide) ?_
            refine q_goto (M := md_X11_between) (pc := 72) (tgt := 76) dX11_between_72 (by decide) ?_
            exact e_iret (M := md_X11_between) (pc := 76) h rfl dX11_between_76
        · refine q_sipush (M := md_X11_between) (pc := 54) (x := 1203) dX11_between_54 (by decide) ?_
          refine q_goto (M := md_X11_between) (pc := 57) (tgt := 76) dX11_between_57 (by decide) ?_
          exact e_iret (M := md_X11_between) (pc := 76) h rfl dX11_between_76
      · refine q_sipush (M := md_X11_between) (pc := 39) (x := 1202) dX11_between_39 (by decide) ?_
        refine q_goto (M := md_X11_between) (pc := 42) (tgt := 76) dX11_between_42 (by decide) ?_
        exact e_iret (M := md_X11_between) (pc := 76) h rfl dX11_between_76
    · refine q_sipush (M := md_X11_between) (pc := 24) (x := 1201) dX11_between_24 (by decide) ?_
      refine q_goto (M := md_X11_between) (pc := 27) (tgt := 76) dX11_between_27 (by decide) ?_
      exact e_iret (M := md_X11_between) (pc := 76) h rfl dX11_between_76
  · refine q_sipush (M := md_X11_between) (pc := 9) (x := 1200) dX11_between_9 (by decide) ?_
    refine q_goto (M := md_X11_between) (pc := 12) (tgt := 76) dX11_between_12 (by decide) ?_
    exact e_iret (M := md_X11_between) (pc := 76) h rfl dX11_between_76
def f_Mod_bindsBy (l0 : Int) (m : q_Mem) : q_Res :=
  if q_w l0 = 1200 then (q_rt 1 m)
  else (if q_w l0 = 1201 then (q_rt 1 m)
  else (if q_w l0 = 1202 then (q_rt 2 m)
  else (if q_w l0 = 1203 then (q_rt 2 m)
  else (if q_w l0 = 1204 then (q_rt 3 m)
  else (q_rt 0 m)))))
set_option maxRecDepth 20000 in
theorem ok_X11_bindsBy {l0 : Int} {r : Int × q_Mem} {m : q_Mem} {N : Nat} (hN : 126 ≤ N) (h : f_Mod_bindsBy l0 m = some r) : q_C md_X11_bindsBy (q_room 1) 0 0 [q_I l0] (q_g N) m (some (q_I r.1), q_g N, r.2) := by
  refine q_ofR (by decide) 0 (ls := [q_I l0]) rfl (Nat.le_of_ble_eq_true rfl) ?_
  change q_E md_X11_bindsBy 1 N (some 0) r m 0 [q_I l0] []
  unfold f_Mod_bindsBy at h
  refine q_iload_n (M := md_X11_bindsBy) (pc := 0) dX11_bindsBy_0 rfl ?_
  refine q_sipush (M := md_X11_bindsBy) (pc := 1) (x := 1200) dX11_bindsBy_1 (by decide) ?_
  refine e_icmp_eq (M := md_X11_bindsBy) (pc := 4) (tgt := 14) h rfl (q_wlit rfl) dX11_bindsBy_4 (by decide) (fun h => ?_) (fun h => ?_)
  · refine q_iconst (M := md_X11_bindsBy) (pc := 14) dX11_bindsBy_14 ?_
    refine q_goto (M := md_X11_bindsBy) (pc := 15) (tgt := 48) dX11_bindsBy_15 (by decide) ?_
    exact e_iret (M := md_X11_bindsBy) (pc := 48) h rfl dX11_bindsBy_48
  · refine q_iload_n (M := md_X11_bindsBy) (pc := 7) dX11_bindsBy_7 rfl ?_
    refine q_sipush (M := md_X11_bindsBy) (pc := 8) (x := 1201) dX11_bindsBy_8 (by decide) ?_
    refine e_icmp_ne (M := md_X11_bindsBy) (pc := 11) (tgt := 18) h rfl (q_wlit rfl) dX11_bindsBy_11 (by decide) (fun h => ?_) (fun h => ?_)
    · refine q_iload_n (M := md_X11_bindsBy) (pc := 18) dX11_bindsBy_18 rfl ?_
      refine q_sipush (M := md_X11_bindsBy) (pc := 19) (x := 1202) dX11_bindsBy_19 (by decide) ?_
      refine e_icmp_eq (M := md_X11_bindsBy) (pc := 22) (tgt := 32) h rfl (q_wlit rfl) dX11_bindsBy_22 (by decide) (fun h => ?_) (fun h => ?_)
      · refine q_iconst (M := md_X11_bindsBy) (pc := 32) dX11_bindsBy_32 ?_
        refine q_goto (M := md_X11_bindsBy) (pc := 33) (tgt := 48) dX11_bindsBy_33 (by decide) ?_
        exact e_iret (M := md_X11_bindsBy) (pc := 48) h rfl dX11_bindsBy_48
      · refine q_iload_n (M := md_X11_bindsBy) (pc := 25) dX11_bindsBy_25 rfl ?_
        refine q_sipush (M := md_X11_bindsBy) (pc := 26) (x := 1203) dX11_bindsBy_26 (by decide) ?_
        refine e_icmp_ne (M := md_X11_bindsBy) (pc := 29) (tgt := 36) h rfl (q_wlit rfl) dX11_bindsBy_29 (by decide) (fun h => ?_) (fun h => ?_)
        · refine q_iload_n (M := md_X11_bindsBy) (pc := 36) dX11_bindsBy_36 rfl ?_
          refine q_sipush (M := md_X11_bindsBy) (pc := 37) (x := 1204) dX11_bindsBy_37 (by decide) ?_
          refine e_icmp_ne (M := md_X11_bindsBy) (pc := 40) (tgt := 47) h rfl (q_wlit rfl) dX11_bindsBy_40 (by decide) (fun h => ?_) (fun h => ?_)
          · refine q_iconst (M := md_X11_bindsBy) (pc := 47) dX11_bindsBy_47 ?_
            exact e_iret (M := md_X11_bindsBy) (pc := 48) h rfl dX11_bindsBy_48
          · refine q_iconst (M := md_X11_bindsBy) (pc := 43) dX11_bindsBy_43 ?_
            refine q_goto (M := md_X11_bindsBy) (pc := 44) (tgt := 48) dX11_bindsBy_44 (by decide) ?_
            exact e_iret (M := md_X11_bindsBy) (pc := 48) h rfl dX11_bindsBy_48
        · refine q_iconst (M := md_X11_bindsBy) (pc := 32) dX11_bindsBy_32 ?_
          refine q_goto (M := md_X11_bindsBy) (pc := 33) (tgt := 48) dX11_bindsBy_33 (by decide) ?_
          exact e_iret (M := md_X11_bindsBy) (pc := 48) h rfl dX11_bindsBy_48
    · refine q_iconst (M := md_X11_bindsBy) (pc := 14) dX11_bindsBy_14 ?_
      refine q_goto (M := md_X11_bindsBy) (pc := 15) (tgt := 48) dX11_bindsBy_15 (by decide) ?_
      exact e_iret (M := md_X11_bindsBy) (pc := 48) h rfl dX11_bindsBy_48
def f_Mod_readFormula_b116 (k15 : Int → Int → Int → Int → q_Mem → q_Res) (l1 l2 l4 l5 : Int) (m : q_Mem) : q_Res :=
  q_bd (f_Mod_push l5 m) fun _ m1 =>
  q_bd (f_Mod_scan m1) fun _ m2 =>
  k15 l1 l2 1 l4 m2
set_option maxRecDepth 20000 in
theorem w_Mod_readFormula_b116 {k15 : Int → Int → Int → Int → q_Mem → q_Res} {l1 l2 l4 l5 : Int} {r : Int × q_Mem} {m : q_Mem} {N : Nat} (hN : 126 ≤ N) (hk15 : ∀ (l1 l2 l3 l4 : Int) (m : q_Mem), k15 l1 l2 l3 l4 m = some r → q_E md_X11_readFormula 7 N (none) r m 15 [q_A 81, q_I l1, q_I l2, q_I l3, q_I l4, q_N] []) (h : f_Mod_readFormula_b116 k15 l1 l2 l4 l5 m = some r) : q_E md_X11_readFormula 7 N (none) r m 116 [q_A 81, q_I l1, q_I l2, q_N, q_I l4, q_I l5] [] := by
  unfold f_Mod_readFormula_b116 at h
  refine q_aload_n (M := md_X11_readFormula) (pc := 116) dX11_readFormula_116 rfl (by decide) ?_
  refine q_iload (M := md_X11_readFormula) (pc := 117) dX11_readFormula_117 rfl ?_
  refine e_callVv (M := md_X11_readFormula) (pc := 119) (d' := 1) (av := [q_I l5]) (c := 81) h ml_11_293 im_X11_push se_X11_push dX11_readFormula_119 (fun v he => ok_X11_push hN  he) rfl (is_81 hN) ⟨_, _, rfl⟩ (by decide) (Nat.le_of_ble_eq_true rfl) ⟨by decide, by decide⟩ rfl (fun _ m1 h => ?_)
  refine q_aload_n (M := md_X11_readFormula) (pc := 122) dX11_readFormula_122 rfl (by decide) ?_
  refine e_callVv (M := md_X11_readFormula) (pc := 123) (d' := 3) (av := []) (c := 81) h ml_11_215 im_X11_scan se_X11_scan dX11_readFormula_123 (fun v he => ok_X11_scan hN  he) rfl (is_81 hN) ⟨_, _, rfl⟩ (by decide) (Nat.le_of_ble_eq_true rfl) ⟨by decide, by decide⟩ rfl (fun _ m2 h => ?_)
  refine q_iconst (M := md_X11_readFormula) (pc := 126) dX11_readFormula_126 ?_
  refine e_ist_n (M := md_X11_readFormula) (pc := 127) (ls' := [q_A 81, q_I l1, q_I l2, q_I 1, q_I l4, q_I l5]) dX11_readFormula_127 (by decide) (q_pl rfl) rfl ?_
  refine q_goto (M := md_X11_readFormula) (pc := 128) (tgt := 15) dX11_readFormula_128 (by decide) ?_
  exact q_weak (hk15 _ _ _ _ _  h) ⟨Or.inr rfl, Or.inr rfl, Or.inr rfl, Or.inr rfl, Or.inr rfl, Or.inl rfl, trivial⟩
def f_Mod_readFormula_b79 (k15 : Int → Int → Int → Int → q_Mem → q_Res) (k79 : Int → Int → Int → Int → q_Mem → q_Res) (l1 l2 l4 l5 : Int) (m : q_Mem) : q_Res :=
  if q_w (m 81 38) ≤ 0 then (f_Mod_readFormula_b116 k15 l1 l2 l4 l5 m)
  else (q_rd m 105 100 ((m 81 38) - 1) fun v1 =>
  q_bd (f_Mod_bindsBy v1 m) fun v2 m3 =>
  q_bd (f_Mod_bindsBy l5 m3) fun v4 m5 =>
  if q_w v2 < q_w v4 then (f_Mod_readFormula_b116 k15 l1 l2 l4 l5 m5)
  else (q_bd (f_Mod_layWaiting l1 m5) fun _ m6 =>
  k79 l1 l2 l4 l5 m6))
set_option maxRecDepth 20000 in
theorem w_Mod_readFormula_b79 {k15 : Int → Int → Int → Int → q_Mem → q_Res} {k79 : Int → Int → Int → Int → q_Mem → q_Res} {l1 l2 l4 l5 : Int} {r : Int × q_Mem} {m : q_Mem} {N : Nat} (hN : 126 ≤ N) (hk15 : ∀ (l1 l2 l3 l4 : Int) (m : q_Mem), k15 l1 l2 l3 l4 m = some r → q_E md_X11_readFormula 7 N (none) r m 15 [q_A 81, q_I l1, q_I l2, q_I l3, q_I l4, q_N] []) (hk79 : ∀ (l1 l2 l4 l5 : Int) (m : q_Mem), k79 l1 l2 l4 l5 m = some r → q_E md_X11_readFormula 7 N (none) r m 79 [q_A 81, q_I l1, q_I l2, q_N, q_I l4, q_I l5] []) (h : f_Mod_readFormula_b79 k15 k79 l1 l2 l4 l5 m = some r) : q_E md_X11_readFormula 7 N (none) r m 79 [q_A 81, q_I l1, q_I l2, q_N, q_I l4, q_I l5] [] := by
  unfold f_Mod_readFormula_b79 at h
  refine q_aload_n (M := md_X11_readFormula) (pc := 79) dX11_readFormula_79 rfl (by decide) ?_
  refine e_gI (M := md_X11_readFormula) (pc := 80) (v := m 81 38) fl_11_271 dX11_readFormula_80 (is_81 hN) rfl ?_
  refine e_if_le (M := md_X11_readFormula) (pc := 83) (tgt := 116) h rfl dX11_readFormula_83 (by decide) (fun h => ?_) (fun h => ?_)
  · exact q_weak (w_Mod_readFormula_b116 hN hk15  h) ⟨Or.inr rfl, Or.inr rfl, Or.inr rfl, Or.inl rfl, Or.inr rfl, Or.inr rfl, trivial⟩
  · refine q_aload_n (M := md_X11_readFormula) (pc := 86) dX11_readFormula_86 rfl (by decide) ?_
    refine q_getP (M := md_X11_readFormula) (pc := 87) (v := 105) fl_11_84 dX11_readFormula_87 (is_81 hN) rfl ?_
    refine q_aload_n (M := md_X11_readFormula) (pc := 90) dX11_readFormula_90 rfl (by decide) ?_
    refine e_gI (M := md_X11_readFormula) (pc := 91) (v := m 81 38) fl_11_271 dX11_readFormula_91 (is_81 hN) rfl ?_
    refine q_iconst (M := md_X11_readFormula) (pc := 94) dX11_readFormula_94 ?_
    refine q_isub (M := md_X11_readFormula) (pc := 95) dX11_readFormula_95 ?_
    refine e_rd (M := md_X11_readFormula) (pc := 96) h dX11_readFormula_96 (ar_105 hN) (fun v1 h => ?_)
    refine e_callSi (M := md_X11_readFormula) (pc := 97) (d' := 1) (M' := md_X11_bindsBy) (av := [q_I v1]) h ml_11_287 sm_X11_bindsBy dX11_readFormula_97 (fun v he => ok_X11_bindsBy hN  he) rfl (Nat.le_of_ble_eq_true rfl) ⟨by decide, by decide⟩ rfl (fun v2 m3 h => ?_)
    refine q_iload (M := md_X11_readFormula) (pc := 100) dX11_readFormula_100 rfl ?_
    refine e_callSi (M := md_X11_readFormula) (pc := 102) (d' := 1) (M' := md_X11_bindsBy) (av := [q_I l5]) h ml_11_287 sm_X11_bindsBy dX11_readFormula_102 (fun v he => ok_X11_bindsBy hN  he) rfl (Nat.le_of_ble_eq_true rfl) ⟨by decide, by decide⟩ rfl (fun v4 m5 h => ?_)
    refine e_icmp_lt (M := md_X11_readFormula) (pc := 105) (tgt := 116) h rfl rfl dX11_readFormula_105 (by decide) (fun h => ?_) (fun h => ?_)
    · exact q_weak (w_Mod_readFormula_b116 hN hk15  h) ⟨Or.inr rfl, Or.inr rfl, Or.inr rfl, Or.inl rfl, Or.inr rfl, Or.inr rfl, trivial⟩
    · refine q_aload_n (M := md_X11_readFormula) (pc := 108) dX11_readFormula_108 rfl (by decide) ?_
      refine q_iload_n (M := md_X11_readFormula) (pc := 109) dX11_readFormula_109 rfl ?_
      refine e_callVv (M := md_X11_readFormula) (pc := 110) (d' := 2) (av := [q_I l1]) (c := 81) h ml_11_290 im_X11_layWaiting se_X11_layWaiting dX11_readFormula_110 (fun v he => ok_X11_layWaiting hN  he) rfl (is_81 hN) ⟨_, _, rfl⟩ (by decide) (Nat.le_of_ble_eq_true rfl) ⟨by decide, by decide⟩ rfl (fun _ m6 h => ?_)
      refine q_goto (M := md_X11_readFormula) (pc := 113) (tgt := 79) dX11_readFormula_113 (by decide) ?_
      exact q_weak (hk79 _ _ _ _ _  h) ⟨Or.inr rfl, Or.inr rfl, Or.inr rfl, Or.inl rfl, Or.inr rfl, Or.inr rfl, trivial⟩
def f_Mod_readFormula_l79 (k15 : Int → Int → Int → Int → q_Mem → q_Res) : Nat → Int → Int → Int → Int → q_Mem → q_Res
  | 0 => fun _ _ _ _ _ => none
  | n + 1 => fun l1 l2 l4 l5 m => f_Mod_readFormula_b79 k15 (f_Mod_readFormula_l79 k15 n) l1 l2 l4 l5 m
theorem w_Mod_readFormula_l79 {k15 : Int → Int → Int → Int → q_Mem → q_Res} {r : Int × q_Mem} {N : Nat} (hN : 126 ≤ N) (hk15 : ∀ (l1 l2 l3 l4 : Int) (m : q_Mem), k15 l1 l2 l3 l4 m = some r → q_E md_X11_readFormula 7 N (none) r m 15 [q_A 81, q_I l1, q_I l2, q_I l3, q_I l4, q_N] []) : ∀ (n : Nat) (l1 l2 l4 l5 : Int) (m : q_Mem), f_Mod_readFormula_l79 k15 n l1 l2 l4 l5 m = some r → q_E md_X11_readFormula 7 N (none) r m 79 [q_A 81, q_I l1, q_I l2, q_N, q_I l4, q_I l5] [] := by
  intro n
  induction n with
  | zero => intro l1 l2 l4 l5 m h; exact q_no h
  | succ n ih =>
    intro l1 l2 l4 l5 m h
    exact w_Mod_readFormula_b79 hN hk15 (fun l1 l2 l4 l5 m h => ih l1 l2 l4 l5 m h) h
def f_Mod_readFormula_b65 (k15 : Int → Int → Int → Int → q_Mem → q_Res) (l1 l2 l3 l4 : Int) (m : q_Mem) : q_Res :=
  q_bd (f_Mod_between m) fun v1 m2 =>
  if q_w v1 = (-1) then (k15 l1 l2 l3 0 m2)
  else (q_bd (f_Mod_between m2) fun v3 m4 =>
  f_Mod_readFormula_l79 k15 q_F l1 l2 l4 v3 m4)
set_option maxRecDepth 20000 in
theorem w_Mod_readFormula_b65 {k15 : Int → Int → Int → Int → q_Mem → q_Res} {l1 l2 l3 l4 : Int} {r : Int × q_Mem} {m : q_Mem} {N : Nat} (hN : 126 ≤ N) (hk15 : ∀ (l1 l2 l3 l4 : Int) (m : q_Mem), k15 l1 l2 l3 l4 m = some r → q_E md_X11_readFormula 7 N (none) r m 15 [q_A 81, q_I l1, q_I l2, q_I l3, q_I l4, q_N] []) (h : f_Mod_readFormula_b65 k15 l1 l2 l3 l4 m = some r) : q_E md_X11_readFormula 7 N (none) r m 65 [q_A 81, q_I l1, q_I l2, q_I l3, q_I l4, q_N] [] := by
  unfold f_Mod_readFormula_b65 at h
  refine q_aload_n (M := md_X11_readFormula) (pc := 65) dX11_readFormula_65 rfl (by decide) ?_
  refine e_callVi (M := md_X11_readFormula) (pc := 66) (d' := 3) (av := []) (c := 81) h ml_11_283 im_X11_between se_X11_between dX11_readFormula_66 (fun v he => ok_X11_between hN  he) rfl (is_81 hN) ⟨_, _, rfl⟩ (by decide) (Nat.le_of_ble_eq_true rfl) ⟨by decide, by decide⟩ rfl (fun v1 m2 h => ?_)
  refine q_iconst (M := md_X11_readFormula) (pc := 69) dX11_readFormula_69 ?_
  refine e_icmp_eq (M := md_X11_readFormula) (pc := 70) (tgt := 131) h rfl (q_wlit rfl) dX11_readFormula_70 (by decide) (fun h => ?_) (fun h => ?_)
  · refine q_iconst (M := md_X11_readFormula) (pc := 131) dX11_readFormula_131 ?_
    refine e_ist (M := md_X11_readFormula) (pc := 132) (ls' := [q_A 81, q_I l1, q_I l2, q_I l3, q_I 0, q_N]) dX11_readFormula_132 (by decide) (q_pl rfl) rfl ?_
    refine q_goto (M := md_X11_readFormula) (pc := 134) (tgt := 15) dX11_readFormula_134 (by decide) ?_
    exact q_weak (hk15 _ _ _ _ _  h) ⟨Or.inr rfl, Or.inr rfl, Or.inr rfl, Or.inr rfl, Or.inr rfl, Or.inl rfl, trivial⟩
  · refine q_aload_n (M := md_X11_readFormula) (pc := 73) dX11_readFormula_73 rfl (by decide) ?_
    refine e_callVi (M := md_X11_readFormula) (pc := 74) (d' := 3) (av := []) (c := 81) h ml_11_283 im_X11_between se_X11_between dX11_readFormula_74 (fun v he => ok_X11_between hN  he) rfl (is_81 hN) ⟨_, _, rfl⟩ (by decide) (Nat.le_of_ble_eq_true rfl) ⟨by decide, by decide⟩ rfl (fun v3 m4 h => ?_)
    refine e_ist (M := md_X11_readFormula) (pc := 77) (ls' := [q_A 81, q_I l1, q_I l2, q_I l3, q_I l4, q_I v3]) dX11_readFormula_77 (by decide) (q_pl rfl) rfl ?_
    exact q_weak (w_Mod_readFormula_l79 hN hk15 q_F _ _ _ _ _  h) ⟨Or.inr rfl, Or.inr rfl, Or.inr rfl, Or.inl rfl, Or.inr rfl, Or.inr rfl, trivial⟩
def f_Mod_readFormula_b156 (k156 : Int → q_Mem → q_Res) (l1 : Int) (m : q_Mem) : q_Res :=
  if q_w (m 81 28) = 0 then (if q_w (m 81 38) ≤ 0 then (q_rt 0 m)
  else (q_bd (f_Mod_layWaiting l1 m) fun _ m1 =>
  k156 l1 m1))
  else (q_rt 0 m)
set_option maxRecDepth 20000 in
theorem w_Mod_readFormula_b156 {k156 : Int → q_Mem → q_Res} {l1 : Int} {r : Int × q_Mem} {m : q_Mem} {N : Nat} (hN : 126 ≤ N) (hk156 : ∀ (l1 : Int) (m : q_Mem), k156 l1 m = some r → q_E md_X11_readFormula 7 N (none) r m 156 [q_A 81, q_I l1, q_N, q_N, q_N, q_N] []) (h : f_Mod_readFormula_b156 k156 l1 m = some r) : q_E md_X11_readFormula 7 N (none) r m 156 [q_A 81, q_I l1, q_N, q_N, q_N, q_N] [] := by
  unfold f_Mod_readFormula_b156 at h
  refine q_aload_n (M := md_X11_readFormula) (pc := 156) dX11_readFormula_156 rfl (by decide) ?_
  refine e_gI (M := md_X11_readFormula) (pc := 157) (v := m 81 28) fl_11_206 dX11_readFormula_157 (is_81 hN) rfl ?_
  refine e_if_ne (M := md_X11_readFormula) (pc := 160) (tgt := 178) h rfl dX11_readFormula_160 (by decide) (fun h => ?_) (fun h => ?_)
  · exact e_vret (M := md_X11_readFormula) (pc := 178) h rfl dX11_readFormula_178
  · refine q_aload_n (M := md_X11_readFormula) (pc := 163) dX11_readFormula_163 rfl (by decide) ?_
    refine e_gI (M := md_X11_readFormula) (pc := 164) (v := m 81 38) fl_11_271 dX11_readFormula_164 (is_81 hN) rfl ?_
    refine e_if_le (M := md_X11_readFormula) (pc := 167) (tgt := 178) h rfl dX11_readFormula_167 (by decide) (fun h => ?_) (fun h => ?_)
    · exact e_vret (M := md_X11_readFormula) (pc := 178) h rfl dX11_readFormula_178
    · refine q_aload_n (M := md_X11_readFormula) (pc := 170) dX11_readFormula_170 rfl (by decide) ?_
      refine q_iload_n (M := md_X11_readFormula) (pc := 171) dX11_readFormula_171 rfl ?_
      refine e_callVv (M := md_X11_readFormula) (pc := 172) (d' := 2) (av := [q_I l1]) (c := 81) h ml_11_290 im_X11_layWaiting se_X11_layWaiting dX11_readFormula_172 (fun v he => ok_X11_layWaiting hN  he) rfl (is_81 hN) ⟨_, _, rfl⟩ (by decide) (Nat.le_of_ble_eq_true rfl) ⟨by decide, by decide⟩ rfl (fun _ m1 h => ?_)
      refine q_goto (M := md_X11_readFormula) (pc := 175) (tgt := 156) dX11_readFormula_175 (by decide) ?_
      exact q_weak (hk156 _ _  h) ⟨Or.inr rfl, Or.inr rfl, Or.inl rfl, Or.inl rfl, Or.inl rfl, Or.inl rfl, trivial⟩
def f_Mod_readFormula_l156 : Nat → Int → q_Mem → q_Res
  | 0 => fun _ _ => none
  | n + 1 => fun l1 m => f_Mod_readFormula_b156 (f_Mod_readFormula_l156 n) l1 m
theorem w_Mod_readFormula_l156 {r : Int × q_Mem} {N : Nat} (hN : 126 ≤ N) : ∀ (n : Nat) (l1 : Int) (m : q_Mem), f_Mod_readFormula_l156 n l1 m = some r → q_E md_X11_readFormula 7 N (none) r m 156 [q_A 81, q_I l1, q_N, q_N, q_N, q_N] [] := by
  intro n
  induction n with
  | zero => intro l1 m h; exact q_no h
  | succ n ih =>
    intro l1 m h
    exact w_Mod_readFormula_b156 hN (fun l1 m h => ih l1 m h) h
def f_Mod_readFormula_b137 (l1 : Int) (m : q_Mem) : q_Res :=
  if q_w (m 81 28) = 0 then (if q_w (m 81 39) ≤ 0 then (f_Mod_readFormula_l156 q_F l1 m)
  else (q_bd (f_Mod_fail 1 m) fun _ m1 =>
  f_Mod_readFormula_l156 q_F l1 m1))
  else (f_Mod_readFormula_l156 q_F l1 m)
set_option maxRecDepth 20000 in
theorem w_Mod_readFormula_b137 {l1 : Int} {r : Int × q_Mem} {m : q_Mem} {N : Nat} (hN : 126 ≤ N) (h : f_Mod_readFormula_b137 l1 m = some r) : q_E md_X11_readFormula 7 N (none) r m 137 [q_A 81, q_I l1, q_N, q_N, q_N, q_N] [] := by
  unfold f_Mod_readFormula_b137 at h
  refine q_aload_n (M := md_X11_readFormula) (pc := 137) dX11_readFormula_137 rfl (by decide) ?_
  refine e_gI (M := md_X11_readFormula) (pc := 138) (v := m 81 28) fl_11_206 dX11_readFormula_138 (is_81 hN) rfl ?_
  refine e_if_ne (M := md_X11_readFormula) (pc := 141) (tgt := 156) h rfl dX11_readFormula_141 (by decide) (fun h => ?_) (fun h => ?_)
  · exact q_weak (w_Mod_readFormula_l156 hN q_F _ _  h) ⟨Or.inr rfl, Or.inr rfl, Or.inl rfl, Or.inl rfl, Or.inl rfl, Or.inl rfl, trivial⟩
  · refine q_aload_n (M := md_X11_readFormula) (pc := 144) dX11_readFormula_144 rfl (by decide) ?_
    refine e_gI (M := md_X11_readFormula) (pc := 145) (v := m 81 39) fl_11_274 dX11_readFormula_145 (is_81 hN) rfl ?_
    refine e_if_le (M := md_X11_readFormula) (pc := 148) (tgt := 156) h rfl dX11_readFormula_148 (by decide) (fun h => ?_) (fun h => ?_)
    · exact q_weak (w_Mod_readFormula_l156 hN q_F _ _  h) ⟨Or.inr rfl, Or.inr rfl, Or.inl rfl, Or.inl rfl, Or.inl rfl, Or.inl rfl, trivial⟩
    · refine q_aload_n (M := md_X11_readFormula) (pc := 151) dX11_readFormula_151 rfl (by decide) ?_
      refine q_iconst (M := md_X11_readFormula) (pc := 152) dX11_readFormula_152 ?_
      refine e_callVv (M := md_X11_readFormula) (pc := 153) (d' := 1) (av := [q_I 1]) (c := 81) h ml_11_218 im_X11_fail se_X11_fail dX11_readFormula_153 (fun v he => ok_X11_fail hN  he) rfl (is_81 hN) ⟨_, _, rfl⟩ (by decide) (Nat.le_of_ble_eq_true rfl) ⟨by decide, by decide⟩ rfl (fun _ m1 h => ?_)
      exact q_weak (w_Mod_readFormula_l156 hN q_F _ _  h) ⟨Or.inr rfl, Or.inr rfl, Or.inl rfl, Or.inl rfl, Or.inl rfl, Or.inl rfl, trivial⟩
def f_Mod_readFormula_b15 (k15 : Int → Int → Int → Int → q_Mem → q_Res) (l1 l2 l3 l4 : Int) (m : q_Mem) : q_Res :=
  if q_w (m 81 28) = 0 then (if q_w l4 = 0 then (f_Mod_readFormula_b137 l1 m)
  else (if q_w l3 = 0 then (q_bd (f_Mod_isAt 41 m) fun v1 m2 =>
  if q_w v1 = 0 then (f_Mod_readFormula_b65 k15 l1 l2 l3 l4 m2)
  else (if q_w (m2 81 39) ≤ 0 then (f_Mod_readFormula_b65 k15 l1 l2 l3 l4 m2)
  else (q_bd (f_Mod_close l1 m2) fun _ m3 =>
  k15 l1 l2 l3 l4 m3)))
  else (q_bd (f_Mod_readUnit l1 l2 m) fun v4 m5 =>
  k15 l1 l2 v4 l4 m5)))
  else (f_Mod_readFormula_b137 l1 m)
set_option maxRecDepth 20000 in
theorem w_Mod_readFormula_b15 {k15 : Int → Int → Int → Int → q_Mem → q_Res} {l1 l2 l3 l4 : Int} {r : Int × q_Mem} {m : q_Mem} {N : Nat} (hN : 126 ≤ N) (hk15 : ∀ (l1 l2 l3 l4 : Int) (m : q_Mem), k15 l1 l2 l3 l4 m = some r → q_E md_X11_readFormula 7 N (none) r m 15 [q_A 81, q_I l1, q_I l2, q_I l3, q_I l4, q_N] []) (h : f_Mod_readFormula_b15 k15 l1 l2 l3 l4 m = some r) : q_E md_X11_readFormula 7 N (none) r m 15 [q_A 81, q_I l1, q_I l2, q_I l3, q_I l4, q_N] [] := by
  unfold f_Mod_readFormula_b15 at h
  refine q_aload_n (M := md_X11_readFormula) (pc := 15) dX11_readFormula_15 rfl (by decide) ?_
  refine e_gI (M := md_X11_readFormula) (pc := 16) (v := m 81 28) fl_11_206 dX11_readFormula_16 (is_81 hN) rfl ?_
  refine e_if_ne (M := md_X11_readFormula) (pc := 19) (tgt := 137) h rfl dX11_readFormula_19 (by decide) (fun h => ?_) (fun h => ?_)
  · exact q_weak (w_Mod_readFormula_b137 hN  h) ⟨Or.inr rfl, Or.inr rfl, Or.inl rfl, Or.inl rfl, Or.inl rfl, Or.inl rfl, trivial⟩
  · refine q_iload (M := md_X11_readFormula) (pc := 22) dX11_readFormula_22 rfl ?_
    refine e_if_eq (M := md_X11_readFormula) (pc := 24) (tgt := 137) h rfl dX11_readFormula_24 (by decide) (fun h => ?_) (fun h => ?_)
    · exact q_weak (w_Mod_readFormula_b137 hN  h) ⟨Or.inr rfl, Or.inr rfl, Or.inl rfl, Or.inl rfl, Or.inl rfl, Or.inl rfl, trivial⟩
    · refine q_iload_n (M := md_X11_readFormula) (pc := 27) dX11_readFormula_27 rfl ?_
      refine e_if_eq (M := md_X11_readFormula) (pc := 28) (tgt := 41) h rfl dX11_readFormula_28 (by decide) (fun h => ?_) (fun h => ?_)
      · refine q_aload_n (M := md_X11_readFormula) (pc := 41) dX11_readFormula_41 rfl (by decide) ?_
        refine q_bipush (M := md_X11_readFormula) (pc := 42) (x := 41) dX11_readFormula_42 (by decide) ?_
        refine e_callVi (M := md_X11_readFormula) (pc := 44) (d' := 2) (av := [q_I 41]) (c := 81) h ml_11_212 im_X11_isAt se_X11_isAt dX11_readFormula_44 (fun v he => ok_X11_isAt hN  he) rfl (is_81 hN) ⟨_, _, rfl⟩ (by decide) (Nat.le_of_ble_eq_true rfl) ⟨by decide, by decide⟩ rfl (fun v1 m2 h => ?_)
        refine e_if_eq (M := md_X11_readFormula) (pc := 47) (tgt := 65) h rfl dX11_readFormula_47 (by decide) (fun h => ?_) (fun h => ?_)
        · exact q_weak (w_Mod_readFormula_b65 hN hk15  h) ⟨Or.inr rfl, Or.inr rfl, Or.inr rfl, Or.inr rfl, Or.inr rfl, Or.inl rfl, trivial⟩
        · refine q_aload_n (M := md_X11_readFormula) (pc := 50) dX11_readFormula_50 rfl (by decide) ?_
          refine e_gI (M := md_X11_readFormula) (pc := 51) (v := m2 81 39) fl_11_274 dX11_readFormula_51 (is_81 hN) rfl ?_
          refine e_if_le (M := md_X11_readFormula) (pc := 54) (tgt := 65) h rfl dX11_readFormula_54 (by decide) (fun h => ?_) (fun h => ?_)
          · exact q_weak (w_Mod_readFormula_b65 hN hk15  h) ⟨Or.inr rfl, Or.inr rfl, Or.inr rfl, Or.inr rfl, Or.inr rfl, Or.inl rfl, trivial⟩
          · refine q_aload_n (M := md_X11_readFormula) (pc := 57) dX11_readFormula_57 rfl (by decide) ?_
            refine q_iload_n (M := md_X11_readFormula) (pc := 58) dX11_readFormula_58 rfl ?_
            refine e_callVv (M := md_X11_readFormula) (pc := 59) (d' := 4) (av := [q_I l1]) (c := 81) h ml_11_280 im_X11_close se_X11_close dX11_readFormula_59 (fun v he => ok_X11_close hN  he) rfl (is_81 hN) ⟨_, _, rfl⟩ (by decide) (Nat.le_of_ble_eq_true rfl) ⟨by decide, by decide⟩ rfl (fun _ m3 h => ?_)
            refine q_goto (M := md_X11_readFormula) (pc := 62) (tgt := 15) dX11_readFormula_62 (by decide) ?_
            exact q_weak (hk15 _ _ _ _ _  h) ⟨Or.inr rfl, Or.inr rfl, Or.inr rfl, Or.inr rfl, Or.inr rfl, Or.inl rfl, trivial⟩
      · refine q_aload_n (M := md_X11_readFormula) (pc := 31) dX11_readFormula_31 rfl (by decide) ?_
        refine q_iload_n (M := md_X11_readFormula) (pc := 32) dX11_readFormula_32 rfl ?_
        refine q_iload_n (M := md_X11_readFormula) (pc := 33) dX11_readFormula_33 rfl ?_
        refine e_callVi (M := md_X11_readFormula) (pc := 34) (d' := 6) (av := [q_I l1, q_I l2]) (c := 81) h ml_11_277 im_X11_readUnit se_X11_readUnit dX11_readFormula_34 (fun v he => ok_X11_readUnit hN  he) rfl (is_81 hN) ⟨_, _, rfl⟩ (by decide) (Nat.le_of_ble_eq_true rfl) ⟨by decide, by decide⟩ rfl (fun v4 m5 h => ?_)
        refine e_ist_n (M := md_X11_readFormula) (pc := 37) (ls' := [q_A 81, q_I l1, q_I l2, q_I v4, q_I l4, q_N]) dX11_readFormula_37 (by decide) (q_pl rfl) rfl ?_
        refine q_goto (M := md_X11_readFormula) (pc := 38) (tgt := 15) dX11_readFormula_38 (by decide) ?_
        exact q_weak (hk15 _ _ _ _ _  h) ⟨Or.inr rfl, Or.inr rfl, Or.inr rfl, Or.inr rfl, Or.inr rfl, Or.inl rfl, trivial⟩
def f_Mod_readFormula_l15 : Nat → Int → Int → Int → Int → q_Mem → q_Res
  | 0 => fun _ _ _ _ _ => none
  | n + 1 => fun l1 l2 l3 l4 m => f_Mod_readFormula_b15 (f_Mod_readFormula_l15 n) l1 l2 l3 l4 m
theorem w_Mod_readFormula_l15 {r : Int × q_Mem} {N : Nat} (hN : 126 ≤ N) : ∀ (n : Nat) (l1 l2 l3 l4 : Int) (m : q_Mem), f_Mod_readFormula_l15 n l1 l2 l3 l4 m = some r → q_E md_X11_readFormula 7 N (none) r m 15 [q_A 81, q_I l1, q_I l2, q_I l3, q_I l4, q_N] [] := by
  intro n
  induction n with
  | zero => intro l1 l2 l3 l4 m h; exact q_no h
  | succ n ih =>
    intro l1 l2 l3 l4 m h
    exact w_Mod_readFormula_b15 hN (fun l1 l2 l3 l4 m h => ih l1 l2 l3 l4 m h) h
def f_Mod_readFormula (l1 l2 : Int) (m : q_Mem) : q_Res :=
  q_pf m 81 38 0 fun m1 =>
  q_pf m1 81 39 0 fun m2 =>
  f_Mod_readFormula_l15 q_F l1 l2 1 1 m2
set_option maxRecDepth 20000 in
theorem ok_X11_readFormula {l1 l2 : Int} {r : Int × q_Mem} {m : q_Mem} {N : Nat} (hN : 126 ≤ N) (h : f_Mod_readFormula l1 l2 m = some r) : q_C md_X11_readFormula (q_room 7) 0 0 [q_A 81, q_I l1, q_I l2] (q_g N) m (none, q_g N, r.2) := by
  refine q_ofR (by decide) 3 (ls := [q_A 81, q_I l1, q_I l2, q_N, q_N, q_N]) rfl (Nat.le_of_ble_eq_true rfl) ?_
  change q_E md_X11_readFormula 7 N (none) r m 0 [q_A 81, q_I l1, q_I l2, q_N, q_N, q_N] []
  unfold f_Mod_readFormula at h
  refine q_aload_n (M := md_X11_readFormula) (pc := 0) dX11_readFormula_0 rfl (by decide) ?_
  refine q_iconst (M := md_X11_readFormula) (pc := 1) dX11_readFormula_1 ?_
  refine e_pfI (M := md_X11_readFormula) (pc := 2) h fl_11_271 dX11_readFormula_2 (is_81 hN) rfl (fun m1 h => ?_)
  refine q_aload_n (M := md_X11_readFormula) (pc := 5) dX11_readFormula_5 rfl (by decide) ?_
  refine q_iconst (M := md_X11_readFormula) (pc := 6) dX11_readFormula_6 ?_
  refine e_pfI (M := md_X11_readFormula) (pc := 7) h fl_11_274 dX11_readFormula_7 (is_81 hN) rfl (fun m2 h => ?_)
  refine q_iconst (M := md_X11_readFormula) (pc := 10) dX11_readFormula_10 ?_
  refine e_ist_n (M := md_X11_readFormula) (pc := 11) (ls' := [q_A 81, q_I l1, q_I l2, q_I 1, q_N, q_N]) dX11_readFormula_11 (by decide) (q_pl rfl) rfl ?_
  refine q_iconst (M := md_X11_readFormula) (pc := 12) dX11_readFormula_12 ?_
  refine e_ist (M := md_X11_readFormula) (pc := 13) (ls' := [q_A 81, q_I l1, q_I l2, q_I 1, q_I 1, q_N]) dX11_readFormula_13 (by decide) (q_pl rfl) rfl ?_
  exact q_weak (w_Mod_readFormula_l15 hN q_F _ _ _ _ _  h) ⟨Or.inr rfl, Or.inr rfl, Or.inr rfl, Or.inr rfl, Or.inr rfl, Or.inl rfl, trivial⟩
def f_Mod_readLet_b151 (l1 l2 : Int) (m : q_Mem) : q_Res :=
  q_rd m 92 2 l1 fun v1 =>
  q_wr m 99 6 ((3 * l1) + l2) v1 fun m2 =>
  q_rd m2 84 2 l1 fun v3 =>
  q_wr m2 84 2 l1 (v3 + 1) fun m4 =>
  q_rt 0 m4
set_option maxRecDepth 20000 in
theorem w_Mod_readLet_b151 {l1 l2 : Int} {r : Int × q_Mem} {m : q_Mem} {N : Nat} (hN : 126 ≤ N) (h : f_Mod_readLet_b151 l1 l2 m = some r) : q_E md_X11_readLet 8 N (none) r m 151 [q_A 81, q_I l1, q_I l2] [] := by
  unfold f_Mod_readLet_b151 at h
  refine q_aload_n (M := md_X11_readLet) (pc := 151) dX11_readLet_151 rfl (by decide) ?_
  refine q_getP (M := md_X11_readLet) (pc := 152) (v := 99) fl_11_61 dX11_readLet_152 (is_81 hN) rfl ?_
  refine q_iconst (M := md_X11_readLet) (pc := 155) dX11_readLet_155 ?_
  refine q_iload_n (M := md_X11_readLet) (pc := 156) dX11_readLet_156 rfl ?_
  refine q_imul (M := md_X11_readLet) (pc := 157) dX11_readLet_157 ?_
  refine q_iload_n (M := md_X11_readLet) (pc := 158) dX11_readLet_158 rfl ?_
  refine q_iadd (M := md_X11_readLet) (pc := 159) dX11_readLet_159 ?_
  refine q_aload_n (M := md_X11_readLet) (pc := 160) dX11_readLet_160 rfl (by decide) ?_
  refine q_getP (M := md_X11_readLet) (pc := 161) (v := 92) fl_11_40 dX11_readLet_161 (is_81 hN) rfl ?_
  refine q_iload_n (M := md_X11_readLet) (pc := 164) dX11_readLet_164 rfl ?_
  refine e_rd (M := md_X11_readLet) (pc := 165) h dX11_readLet_165 (ar_92 hN) (fun v1 h => ?_)
  refine e_wr (M := md_X11_readLet) (pc := 166) h dX11_readLet_166 (ar_99 hN) (fun m2 h => ?_)
  refine q_aload_n (M := md_X11_readLet) (pc := 167) dX11_readLet_167 rfl (by decide) ?_
  refine q_getP (M := md_X11_readLet) (pc := 168) (v := 84) fl_11_16 dX11_readLet_168 (is_81 hN) rfl ?_
  refine q_iload_n (M := md_X11_readLet) (pc := 171) dX11_readLet_171 rfl ?_
  refine q_dup2 (M := md_X11_readLet) (pc := 172) dX11_readLet_172 (show (0 : Nat) ≠ 1 by decide) (show (2 : Nat) ≠ 1 by decide) ?_
  refine e_rd (M := md_X11_readLet) (pc := 173) h dX11_readLet_173 (ar_84 hN) (fun v3 h => ?_)
  refine q_iconst (M := md_X11_readLet) (pc := 174) dX11_readLet_174 ?_
  refine q_iadd (M := md_X11_readLet) (pc := 175) dX11_readLet_175 ?_
  refine e_wr (M := md_X11_readLet) (pc := 176) h dX11_readLet_176 (ar_84 hN) (fun m4 h => ?_)
  exact e_vret (M := md_X11_readLet) (pc := 177) h rfl dX11_readLet_177
def f_Mod_readLet_b57 (l1 l2 : Int) (m : q_Mem) : q_Res :=
  if q_w (m 81 28) ≤ 0 then (q_wr m 103 3 l2 (m 81 24) fun m1 =>
  q_wr m1 104 3 l2 ((m1 81 23) - (m1 81 24)) fun m2 =>
  q_bd (f_Mod_scan m2) fun _ m3 =>
  q_bd (f_Mod_need 61 m3) fun _ m4 =>
  q_bd (f_Mod_readFormula l1 (l2 + 1) m4) fun _ m5 =>
  q_rd m5 92 2 l1 fun v6 =>
  q_wr m5 98 6 ((3 * l1) + l2) v6 fun m7 =>
  q_bd (f_Mod_isWord 4 m7) fun v8 m9 =>
  if q_w v8 = 0 then (q_bd (f_Mod_lay l1 0 m9) fun _ m10 =>
  f_Mod_readLet_b151 l1 l2 m10)
  else (q_bd (f_Mod_scan m9) fun _ m11 =>
  q_bd (f_Mod_readFormula l1 0 m11) fun _ m12 =>
  f_Mod_readLet_b151 l1 l2 m12))
  else (q_rt 0 m)
set_option maxRecDepth 20000 in
theorem w_Mod_readLet_b57 {l1 l2 : Int} {r : Int × q_Mem} {m : q_Mem} {N : Nat} (hN : 126 ≤ N) (h : f_Mod_readLet_b57 l1 l2 m = some r) : q_E md_X11_readLet 8 N (none) r m 57 [q_A 81, q_I l1, q_I l2] [] := by
  unfold f_Mod_readLet_b57 at h
  refine q_aload_n (M := md_X11_readLet) (pc := 57) dX11_readLet_57 rfl (by decide) ?_
  refine e_gI (M := md_X11_readLet) (pc := 58) (v := m 81 28) fl_11_206 dX11_readLet_58 (is_81 hN) rfl ?_
  refine e_if_le (M := md_X11_readLet) (pc := 61) (tgt := 65) h rfl dX11_readLet_61 (by decide) (fun h => ?_) (fun h => ?_)
  · refine q_aload_n (M := md_X11_readLet) (pc := 65) dX11_readLet_65 rfl (by decide) ?_
    refine q_getP (M := md_X11_readLet) (pc := 66) (v := 103) fl_11_78 dX11_readLet_66 (is_81 hN) rfl ?_
    refine q_iload_n (M := md_X11_readLet) (pc := 69) dX11_readLet_69 rfl ?_
    refine q_aload_n (M := md_X11_readLet) (pc := 70) dX11_readLet_70 rfl (by decide) ?_
    refine e_gI (M := md_X11_readLet) (pc := 71) (v := m 81 24) fl_11_168 dX11_readLet_71 (is_81 hN) rfl ?_
    refine e_wr (M := md_X11_readLet) (pc := 74) h dX11_readLet_74 (ar_103 hN) (fun m1 h => ?_)
    refine q_aload_n (M := md_X11_readLet) (pc := 75) dX11_readLet_75 rfl (by decide) ?_
    refine q_getP (M := md_X11_readLet) (pc := 76) (v := 104) fl_11_81 dX11_readLet_76 (is_81 hN) rfl ?_
    refine q_iload_n (M := md_X11_readLet) (pc := 79) dX11_readLet_79 rfl ?_
    refine q_aload_n (M := md_X11_readLet) (pc := 80) dX11_readLet_80 rfl (by decide) ?_
    refine e_gI (M := md_X11_readLet) (pc := 81) (v := m1 81 23) fl_11_165 dX11_readLet_81 (is_81 hN) rfl ?_
    refine q_aload_n (M := md_X11_readLet) (pc := 84) dX11_readLet_84 rfl (by decide) ?_
    refine e_gI (M := md_X11_readLet) (pc := 85) (v := m1 81 24) fl_11_168 dX11_readLet_85 (is_81 hN) rfl ?_
    refine q_isub (M := md_X11_readLet) (pc := 88) dX11_readLet_88 ?_
    refine e_wr (M := md_X11_readLet) (pc := 89) h dX11_readLet_89 (ar_104 hN) (fun m2 h => ?_)
    refine q_aload_n (M := md_X11_readLet) (pc := 90) dX11_readLet_90 rfl (by decide) ?_
    refine e_callVv (M := md_X11_readLet) (pc := 91) (d' := 3) (av := []) (c := 81) h ml_11_215 im_X11_scan se_X11_scan dX11_readLet_91 (fun v he => ok_X11_scan hN  he) rfl (is_81 hN) ⟨_, _, rfl⟩ (by decide) (Nat.le_of_ble_eq_true rfl) ⟨by decide, by decide⟩ rfl (fun _ m3 h => ?_)
    refine q_aload_n (M := md_X11_readLet) (pc := 94) dX11_readLet_94 rfl (by decide) ?_
    refine q_bipush (M := md_X11_readLet) (pc := 95) (x := 61) dX11_readLet_95 (by decide) ?_
    refine e_callVv (M := md_X11_readLet) (pc := 97) (d' := 4) (av := [q_I 61]) (c := 81) h ml_11_235 im_X11_need se_X11_need dX11_readLet_97 (fun v he => ok_X11_need hN  he) rfl (is_81 hN) ⟨_, _, rfl⟩ (by decide) (Nat.le_of_ble_eq_true rfl) ⟨by decide, by decide⟩ rfl (fun _ m4 h => ?_)
    refine q_aload_n (M := md_X11_readLet) (pc := 100) dX11_readLet_100 rfl (by decide) ?_
    refine q_iload_n (M := md_X11_readLet) (pc := 101) dX11_readLet_101 rfl ?_
    refine q_iload_n (M := md_X11_readLet) (pc := 102) dX11_readLet_102 rfl ?_
    refine q_iconst (M := md_X11_readLet) (pc := 103) dX11_readLet_103 ?_
    refine q_iadd (M := md_X11_readLet) (pc := 104) dX11_readLet_104 ?_
    refine e_callVv (M := md_X11_readLet) (pc := 105) (d' := 7) (av := [q_I l1, q_I (l2 + 1)]) (c := 81) h ml_11_264 im_X11_readFormula se_X11_readFormula dX11_readLet_105 (fun v he => ok_X11_readFormula hN  he) rfl (is_81 hN) ⟨_, _, rfl⟩ (by decide) (Nat.le_of_ble_eq_true rfl) ⟨by decide, by decide⟩ rfl (fun _ m5 h => ?_)
    refine q_aload_n (M := md_X11_readLet) (pc := 108) dX11_readLet_108 rfl (by decide) ?_
    refine q_getP (M := md_X11_readLet) (pc := 109) (v := 98) fl_11_58 dX11_readLet_109 (is_81 hN) rfl ?_
    refine q_iconst (M := md_X11_readLet) (pc := 112) dX11_readLet_112 ?_
    refine q_iload_n (M := md_X11_readLet) (pc := 113) dX11_readLet_113 rfl ?_
    refine q_imul (M := md_X11_readLet) (pc := 114) dX11_readLet_114 ?_
    refine q_iload_n (M := md_X11_readLet) (pc := 115) dX11_readLet_115 rfl ?_
    refine q_iadd (M := md_X11_readLet) (pc := 116) dX11_readLet_116 ?_
    refine q_aload_n (M := md_X11_readLet) (pc := 117) dX11_readLet_117 rfl (by decide) ?_
    refine q_getP (M := md_X11_readLet) (pc := 118) (v := 92) fl_11_40 dX11_readLet_118 (is_81 hN) rfl ?_
    refine q_iload_n (M := md_X11_readLet) (pc := 121) dX11_readLet_121 rfl ?_
    refine e_rd (M := md_X11_readLet) (pc := 122) h dX11_readLet_122 (ar_92 hN) (fun v6 h => ?_)
    refine e_wr (M := md_X11_readLet) (pc := 123) h dX11_readLet_123 (ar_98 hN) (fun m7 h => ?_)
    refine q_aload_n (M := md_X11_readLet) (pc := 124) dX11_readLet_124 rfl (by decide) ?_
    refine q_iconst (M := md_X11_readLet) (pc := 125) dX11_readLet_125 ?_
    refine e_callVi (M := md_X11_readLet) (pc := 126) (d' := 1) (av := [q_I 4]) (c := 81) h ml_11_229 im_X11_isWord se_X11_isWord dX11_readLet_126 (fun v he => ok_X11_isWord hN  he) rfl (is_81 hN) ⟨_, _, rfl⟩ (by decide) (Nat.le_of_ble_eq_true rfl) ⟨by decide, by decide⟩ rfl (fun v8 m9 h => ?_)
    refine e_if_eq (M := md_X11_readLet) (pc := 129) (tgt := 145) h rfl dX11_readLet_129 (by decide) (fun h => ?_) (fun h => ?_)
    · refine q_aload_n (M := md_X11_readLet) (pc := 145) dX11_readLet_145 rfl (by decide) ?_
      refine q_iload_n (M := md_X11_readLet) (pc := 146) dX11_readLet_146 rfl ?_
      refine q_iconst (M := md_X11_readLet) (pc := 147) dX11_readLet_147 ?_
      refine e_callVv (M := md_X11_readLet) (pc := 148) (d' := 1) (av := [q_I l1, q_I 0]) (c := 81) h ml_11_268 im_X11_lay se_X11_lay dX11_readLet_148 (fun v he => ok_X11_lay hN  he) rfl (is_81 hN) ⟨_, _, rfl⟩ (by decide) (Nat.le_of_ble_eq_true rfl) ⟨by decide, by decide⟩ rfl (fun _ m10 h => ?_)
      exact q_weak (w_Mod_readLet_b151 hN  h) ⟨Or.inr rfl, Or.inr rfl, Or.inr rfl, trivial⟩
    · refine q_aload_n (M := md_X11_readLet) (pc := 132) dX11_readLet_132 rfl (by decide) ?_
      refine e_callVv (M := md_X11_readLet) (pc := 133) (d' := 3) (av := []) (c := 81) h ml_11_215 im_X11_scan se_X11_scan dX11_readLet_133 (fun v he => ok_X11_scan hN  he) rfl (is_81 hN) ⟨_, _, rfl⟩ (by decide) (Nat.le_of_ble_eq_true rfl) ⟨by decide, by decide⟩ rfl (fun _ m11 h => ?_)
      refine q_aload_n (M := md_X11_readLet) (pc := 136) dX11_readLet_136 rfl (by decide) ?_
      refine q_iload_n (M := md_X11_readLet) (pc := 137) dX11_readLet_137 rfl ?_
      refine q_iconst (M := md_X11_readLet) (pc := 138) dX11_readLet_138 ?_
      refine e_callVv (M := md_X11_readLet) (pc := 139) (d' := 7) (av := [q_I l1, q_I 0]) (c := 81) h ml_11_264 im_X11_readFormula se_X11_readFormula dX11_readLet_139 (fun v he => ok_X11_readFormula hN  he) rfl (is_81 hN) ⟨_, _, rfl⟩ (by decide) (Nat.le_of_ble_eq_true rfl) ⟨by decide, by decide⟩ rfl (fun _ m12 h => ?_)
      refine q_goto (M := md_X11_readLet) (pc := 142) (tgt := 151) dX11_readLet_142 (by decide) ?_
      exact q_weak (w_Mod_readLet_b151 hN  h) ⟨Or.inr rfl, Or.inr rfl, Or.inr rfl, trivial⟩
  · exact e_vret (M := md_X11_readLet) (pc := 64) h rfl dX11_readLet_64
def f_Mod_readLet_b17 (l1 l2 : Int) (m : q_Mem) : q_Res :=
  if q_w (m 81 28) ≤ 0 then (q_bd (f_Mod_scan m) fun _ m1 =>
  q_bd (f_Mod_isName m1) fun v2 m3 =>
  if q_w v2 = 0 then (q_bd (f_Mod_fail 1 m3) fun _ m7 =>
  f_Mod_readLet_b57 l1 l2 m7)
  else (q_bd (f_Mod_named l2 m3) fun v4 m5 =>
  if q_w v4 < 0 then (f_Mod_readLet_b57 l1 l2 m5)
  else (q_bd (f_Mod_fail 3 m5) fun _ m6 =>
  f_Mod_readLet_b57 l1 l2 m6)))
  else (q_rt 0 m)
set_option maxRecDepth 20000 in
theorem w_Mod_readLet_b17 {l1 l2 : Int} {r : Int × q_Mem} {m : q_Mem} {N : Nat} (hN : 126 ≤ N) (h : f_Mod_readLet_b17 l1 l2 m = some r) : q_E md_X11_readLet 8 N (none) r m 17 [q_A 81, q_I l1, q_I l2] [] := by
  unfold f_Mod_readLet_b17 at h
  refine q_aload_n (M := md_X11_readLet) (pc := 17) dX11_readLet_17 rfl (by decide) ?_
  refine e_gI (M := md_X11_readLet) (pc := 18) (v := m 81 28) fl_11_206 dX11_readLet_18 (is_81 hN) rfl ?_
  refine e_if_le (M := md_X11_readLet) (pc := 21) (tgt := 25) h rfl dX11_readLet_21 (by decide) (fun h => ?_) (fun h => ?_)
  · refine q_aload_n (M := md_X11_readLet) (pc := 25) dX11_readLet_25 rfl (by decide) ?_
    refine e_callVv (M := md_X11_readLet) (pc := 26) (d' := 3) (av := []) (c := 81) h ml_11_215 im_X11_scan se_X11_scan dX11_readLet_26 (fun v he => ok_X11_scan hN  he) rfl (is_81 hN) ⟨_, _, rfl⟩ (by decide) (Nat.le_of_ble_eq_true rfl) ⟨by decide, by decide⟩ rfl (fun _ m1 h => ?_)
    refine q_aload_n (M := md_X11_readLet) (pc := 29) dX11_readLet_29 rfl (by decide) ?_
    refine e_callVi (M := md_X11_readLet) (pc := 30) (d' := 1) (av := []) (c := 81) h ml_11_257 im_X11_isName se_X11_isName dX11_readLet_30 (fun v he => ok_X11_isName hN  he) rfl (is_81 hN) ⟨_, _, rfl⟩ (by decide) (Nat.le_of_ble_eq_true rfl) ⟨by decide, by decide⟩ rfl (fun v2 m3 h => ?_)
    refine e_if_ne (M := md_X11_readLet) (pc := 33) (tgt := 44) h rfl dX11_readLet_33 (by decide) (fun h => ?_) (fun h => ?_)
    · refine q_aload_n (M := md_X11_readLet) (pc := 44) dX11_readLet_44 rfl (by decide) ?_
      refine q_iload_n (M := md_X11_readLet) (pc := 45) dX11_readLet_45 rfl ?_
      refine e_callVi (M := md_X11_readLet) (pc := 46) (d' := 2) (av := [q_I l2]) (c := 81) h ml_11_261 im_X11_named se_X11_named dX11_readLet_46 (fun v he => ok_X11_named hN  he) rfl (is_81 hN) ⟨_, _, rfl⟩ (by decide) (Nat.le_of_ble_eq_true rfl) ⟨by decide, by decide⟩ rfl (fun v4 m5 h => ?_)
      refine e_if_lt (M := md_X11_readLet) (pc := 49) (tgt := 57) h rfl dX11_readLet_49 (by decide) (fun h => ?_) (fun h => ?_)
      · exact q_weak (w_Mod_readLet_b57 hN  h) ⟨Or.inr rfl, Or.inr rfl, Or.inr rfl, trivial⟩
      · refine q_aload_n (M := md_X11_readLet) (pc := 52) dX11_readLet_52 rfl (by decide) ?_
        refine q_iconst (M := md_X11_readLet) (pc := 53) dX11_readLet_53 ?_
        refine e_callVv (M := md_X11_readLet) (pc := 54) (d' := 1) (av := [q_I 3]) (c := 81) h ml_11_218 im_X11_fail se_X11_fail dX11_readLet_54 (fun v he => ok_X11_fail hN  he) rfl (is_81 hN) ⟨_, _, rfl⟩ (by decide) (Nat.le_of_ble_eq_true rfl) ⟨by decide, by decide⟩ rfl (fun _ m6 h => ?_)
        exact q_weak (w_Mod_readLet_b57 hN  h) ⟨Or.inr rfl, Or.inr rfl, Or.inr rfl, trivial⟩
    · refine q_aload_n (M := md_X11_readLet) (pc := 36) dX11_readLet_36 rfl (by decide) ?_
      refine q_iconst (M := md_X11_readLet) (pc := 37) dX11_readLet_37 ?_
      refine e_callVv (M := md_X11_readLet) (pc := 38) (d' := 1) (av := [q_I 1]) (c := 81) h ml_11_218 im_X11_fail se_X11_fail dX11_readLet_38 (fun v he => ok_X11_fail hN  he) rfl (is_81 hN) ⟨_, _, rfl⟩ (by decide) (Nat.le_of_ble_eq_true rfl) ⟨by decide, by decide⟩ rfl (fun _ m7 h => ?_)
      refine q_goto (M := md_X11_readLet) (pc := 41) (tgt := 57) dX11_readLet_41 (by decide) ?_
      exact q_weak (w_Mod_readLet_b57 hN  h) ⟨Or.inr rfl, Or.inr rfl, Or.inr rfl, trivial⟩
  · exact e_vret (M := md_X11_readLet) (pc := 24) h rfl dX11_readLet_24
def f_Mod_readLet (l1 : Int) (m : q_Mem) : q_Res :=
  q_rd m 84 2 l1 fun v1 =>
  if q_w v1 = 3 then (q_bd (f_Mod_fail 4 m) fun _ m2 =>
  f_Mod_readLet_b17 l1 v1 m2)
  else (f_Mod_readLet_b17 l1 v1 m)
set_option maxRecDepth 20000 in
theorem ok_X11_readLet {l1 : Int} {r : Int × q_Mem} {m : q_Mem} {N : Nat} (hN : 126 ≤ N) (h : f_Mod_readLet l1 m = some r) : q_C md_X11_readLet (q_room 8) 0 0 [q_A 81, q_I l1] (q_g N) m (none, q_g N, r.2) := by
  refine q_ofR (by decide) 1 (ls := [q_A 81, q_I l1, q_N]) rfl (Nat.le_of_ble_eq_true rfl) ?_
  change q_E md_X11_readLet 8 N (none) r m 0 [q_A 81, q_I l1, q_N] []
  unfold f_Mod_readLet at h
  refine q_aload_n (M := md_X11_readLet) (pc := 0) dX11_readLet_0 rfl (by decide) ?_
  refine q_getP (M := md_X11_readLet) (pc := 1) (v := 84) fl_11_16 dX11_readLet_1 (is_81 hN) rfl ?_
  refine q_iload_n (M := md_X11_readLet) (pc := 4) dX11_readLet_4 rfl ?_
  refine e_rd (M := md_X11_readLet) (pc := 5) h dX11_readLet_5 (ar_84 hN) (fun v1 h => ?_)
  refine e_ist_n (M := md_X11_readLet) (pc := 6) (ls' := [q_A 81, q_I l1, q_I v1]) dX11_readLet_6 (by decide) (q_pl rfl) rfl ?_
  refine q_iload_n (M := md_X11_readLet) (pc := 7) dX11_readLet_7 rfl ?_
  refine q_iconst (M := md_X11_readLet) (pc := 8) dX11_readLet_8 ?_
  refine e_icmp_ne (M := md_X11_readLet) (pc := 9) (tgt := 17) h rfl (q_wlit rfl) dX11_readLet_9 (by decide) (fun h => ?_) (fun h => ?_)
  · exact q_weak (w_Mod_readLet_b17 hN  h) ⟨Or.inr rfl, Or.inr rfl, Or.inr rfl, trivial⟩
  · refine q_aload_n (M := md_X11_readLet) (pc := 12) dX11_readLet_12 rfl (by decide) ?_
    refine q_iconst (M := md_X11_readLet) (pc := 13) dX11_readLet_13 ?_
    refine e_callVv (M := md_X11_readLet) (pc := 14) (d' := 1) (av := [q_I 4]) (c := 81) h ml_11_218 im_X11_fail se_X11_fail dX11_readLet_14 (fun v he => ok_X11_fail hN  he) rfl (is_81 hN) ⟨_, _, rfl⟩ (by decide) (Nat.le_of_ble_eq_true rfl) ⟨by decide, by decide⟩ rfl (fun _ m2 h => ?_)
    exact q_weak (w_Mod_readLet_b17 hN  h) ⟨Or.inr rfl, Or.inr rfl, Or.inr rfl, trivial⟩
def f_Mod_readLine_b65 (l1 : Int) (m : q_Mem) : q_Res :=
  q_bd (f_Mod_signed (-9) 9 m) fun v1 m2 =>
  q_wr m2 89 2 l1 v1 fun m3 =>
  if q_w (m3 81 28) = 0 then (q_bd (f_Mod_scan m3) fun _ m4 =>
  q_rt 0 m4)
  else (q_rt 0 m3)
set_option maxRecDepth 20000 in
theorem w_Mod_readLine_b65 {l1 : Int} {r : Int × q_Mem} {m : q_Mem} {N : Nat} (hN : 126 ≤ N) (h : f_Mod_readLine_b65 l1 m = some r) : q_E md_X11_readLine 9 N (none) r m 65 [q_A 81, q_I l1] [] := by
  unfold f_Mod_readLine_b65 at h
  refine q_aload_n (M := md_X11_readLine) (pc := 65) dX11_readLine_65 rfl (by decide) ?_
  refine q_getP (M := md_X11_readLine) (pc := 66) (v := 89) fl_11_31 dX11_readLine_66 (is_81 hN) rfl ?_
  refine q_iload_n (M := md_X11_readLine) (pc := 69) dX11_readLine_69 rfl ?_
  refine q_aload_n (M := md_X11_readLine) (pc := 70) dX11_readLine_70 rfl (by decide) ?_
  refine q_bipush (M := md_X11_readLine) (pc := 71) (x := -9) dX11_readLine_71 (by decide) ?_
  refine q_bipush (M := md_X11_readLine) (pc := 73) (x := 9) dX11_readLine_73 (by decide) ?_
  refine e_callVi (M := md_X11_readLine) (pc := 75) (d' := 4) (av := [q_I (-9), q_I 9]) (c := 81) h ml_11_225 im_X11_signed se_X11_signed dX11_readLine_75 (fun v he => ok_X11_signed hN  he) rfl (is_81 hN) ⟨_, _, rfl⟩ (by decide) (Nat.le_of_ble_eq_true rfl) ⟨by decide, by decide⟩ rfl (fun v1 m2 h => ?_)
  refine e_wr (M := md_X11_readLine) (pc := 78) h dX11_readLine_78 (ar_89 hN) (fun m3 h => ?_)
  refine q_aload_n (M := md_X11_readLine) (pc := 79) dX11_readLine_79 rfl (by decide) ?_
  refine e_gI (M := md_X11_readLine) (pc := 80) (v := m3 81 28) fl_11_206 dX11_readLine_80 (is_81 hN) rfl ?_
  refine e_if_ne (M := md_X11_readLine) (pc := 83) (tgt := 197) h rfl dX11_readLine_83 (by decide) (fun h => ?_) (fun h => ?_)
  · exact e_vret (M := md_X11_readLine) (pc := 197) h rfl dX11_readLine_197
  · refine q_aload_n (M := md_X11_readLine) (pc := 86) dX11_readLine_86 rfl (by decide) ?_
    refine e_callVv (M := md_X11_readLine) (pc := 87) (d' := 3) (av := []) (c := 81) h ml_11_215 im_X11_scan se_X11_scan dX11_readLine_87 (fun v he => ok_X11_scan hN  he) rfl (is_81 hN) ⟨_, _, rfl⟩ (by decide) (Nat.le_of_ble_eq_true rfl) ⟨by decide, by decide⟩ rfl (fun _ m4 h => ?_)
    refine q_goto (M := md_X11_readLine) (pc := 90) (tgt := 197) dX11_readLine_90 (by decide) ?_
    exact e_vret (M := md_X11_readLine) (pc := 197) h rfl dX11_readLine_197
def f_Mod_readLine_b178 (m : q_Mem) : q_Res :=
  if q_w (m 81 28) = 0 then (q_bd (f_Mod_scan m) fun _ m1 =>
  q_rt 0 m1)
  else (q_rt 0 m)
set_option maxRecDepth 20000 in
theorem w_Mod_readLine_b178 {r : Int × q_Mem} {m : q_Mem} {N : Nat} (hN : 126 ≤ N) (h : f_Mod_readLine_b178 m = some r) : q_E md_X11_readLine 9 N (none) r m 178 [q_A 81, q_N] [] := by
  unfold f_Mod_readLine_b178 at h
  refine q_aload_n (M := md_X11_readLine) (pc := 178) dX11_readLine_178 rfl (by decide) ?_
  refine e_gI (M := md_X11_readLine) (pc := 179) (v := m 81 28) fl_11_206 dX11_readLine_179 (is_81 hN) rfl ?_
  refine e_if_ne (M := md_X11_readLine) (pc := 182) (tgt := 197) h rfl dX11_readLine_182 (by decide) (fun h => ?_) (fun h => ?_)
  · exact e_vret (M := md_X11_readLine) (pc := 197) h rfl dX11_readLine_197
  · refine q_aload_n (M := md_X11_readLine) (pc := 185) dX11_readLine_185 rfl (by decide) ?_
    refine e_callVv (M := md_X11_readLine) (pc := 186) (d' := 3) (av := []) (c := 81) h ml_11_215 im_X11_scan se_X11_scan dX11_readLine_186 (fun v he => ok_X11_scan hN  he) rfl (is_81 hN) ⟨_, _, rfl⟩ (by decide) (Nat.le_of_ble_eq_true rfl) ⟨by decide, by decide⟩ rfl (fun _ m1 h => ?_)
    refine q_goto (M := md_X11_readLine) (pc := 189) (tgt := 197) dX11_readLine_189 (by decide) ?_
    exact e_vret (M := md_X11_readLine) (pc := 197) h rfl dX11_readLine_197
def f_Mod_readLine_b141 (l1 : Int) (m : q_Mem) : q_Res :=
  q_bd (f_Mod_signed (-3) 3 m) fun v1 m2 =>
  q_wr m2 91 2 l1 v1 fun m3 =>
  q_rd m3 90 2 l1 fun v4 =>
  q_rd m3 91 2 l1 fun v5 =>
  q_bd (f_Mod_common v4 v5 m3) fun v6 m7 =>
  if q_w v6 = 1 then (f_Mod_readLine_b178 m7)
  else (q_bd (f_Mod_fail 2 m7) fun _ m8 =>
  f_Mod_readLine_b178 m8)
set_option maxRecDepth 20000 in
theorem w_Mod_readLine_b141 {l1 : Int} {r : Int × q_Mem} {m : q_Mem} {N : Nat} (hN : 126 ≤ N) (h : f_Mod_readLine_b141 l1 m = some r) : q_E md_X11_readLine 9 N (none) r m 141 [q_A 81, q_I l1] [] := by
  unfold f_Mod_readLine_b141 at h
  refine q_aload_n (M := md_X11_readLine) (pc := 141) dX11_readLine_141 rfl (by decide) ?_
  refine q_getP (M := md_X11_readLine) (pc := 142) (v := 91) fl_11_37 dX11_readLine_142 (is_81 hN) rfl ?_
  refine q_iload_n (M := md_X11_readLine) (pc := 145) dX11_readLine_145 rfl ?_
  refine q_aload_n (M := md_X11_readLine) (pc := 146) dX11_readLine_146 rfl (by decide) ?_
  refine q_bipush (M := md_X11_readLine) (pc := 147) (x := -3) dX11_readLine_147 (by decide) ?_
  refine q_iconst (M := md_X11_readLine) (pc := 149) dX11_readLine_149 ?_
  refine e_callVi (M := md_X11_readLine) (pc := 150) (d' := 4) (av := [q_I (-3), q_I 3]) (c := 81) h ml_11_225 im_X11_signed se_X11_signed dX11_readLine_150 (fun v he => ok_X11_signed hN  he) rfl (is_81 hN) ⟨_, _, rfl⟩ (by decide) (Nat.le_of_ble_eq_true rfl) ⟨by decide, by decide⟩ rfl (fun v1 m2 h => ?_)
  refine e_wr (M := md_X11_readLine) (pc := 153) h dX11_readLine_153 (ar_91 hN) (fun m3 h => ?_)
  refine q_aload_n (M := md_X11_readLine) (pc := 154) dX11_readLine_154 rfl (by decide) ?_
  refine q_getP (M := md_X11_readLine) (pc := 155) (v := 90) fl_11_34 dX11_readLine_155 (is_81 hN) rfl ?_
  refine q_iload_n (M := md_X11_readLine) (pc := 158) dX11_readLine_158 rfl ?_
  refine e_rd (M := md_X11_readLine) (pc := 159) h dX11_readLine_159 (ar_90 hN) (fun v4 h => ?_)
  refine q_aload_n (M := md_X11_readLine) (pc := 160) dX11_readLine_160 rfl (by decide) ?_
  refine q_getP (M := md_X11_readLine) (pc := 161) (v := 91) fl_11_37 dX11_readLine_161 (is_81 hN) rfl ?_
  refine q_iload_n (M := md_X11_readLine) (pc := 164) dX11_readLine_164 rfl ?_
  refine e_rd (M := md_X11_readLine) (pc := 165) h dX11_readLine_165 (ar_91 hN) (fun v5 h => ?_)
  refine e_callSi (M := md_X11_readLine) (pc := 166) (d' := 2) (M' := md_X11_common) (av := [q_I v4, q_I v5]) h ml_11_251 sm_X11_common dX11_readLine_166 (fun v he => ok_X11_common hN  he) rfl (Nat.le_of_ble_eq_true rfl) ⟨by decide, by decide⟩ rfl (fun v6 m7 h => ?_)
  refine q_iconst (M := md_X11_readLine) (pc := 169) dX11_readLine_169 ?_
  refine e_icmp_eq (M := md_X11_readLine) (pc := 170) (tgt := 178) h rfl (q_wlit rfl) dX11_readLine_170 (by decide) (fun h => ?_) (fun h => ?_)
  · exact q_weak (w_Mod_readLine_b178 hN  h) ⟨Or.inr rfl, Or.inl rfl, trivial⟩
  · refine q_aload_n (M := md_X11_readLine) (pc := 173) dX11_readLine_173 rfl (by decide) ?_
    refine q_iconst (M := md_X11_readLine) (pc := 174) dX11_readLine_174 ?_
    refine e_callVv (M := md_X11_readLine) (pc := 175) (d' := 1) (av := [q_I 2]) (c := 81) h ml_11_218 im_X11_fail se_X11_fail dX11_readLine_175 (fun v he => ok_X11_fail hN  he) rfl (is_81 hN) ⟨_, _, rfl⟩ (by decide) (Nat.le_of_ble_eq_true rfl) ⟨by decide, by decide⟩ rfl (fun _ m8 h => ?_)
    exact q_weak (w_Mod_readLine_b178 hN  h) ⟨Or.inr rfl, Or.inl rfl, trivial⟩
def f_Mod_readLine_b192 (m : q_Mem) : q_Res :=
  q_bd (f_Mod_fail 1 m) fun _ m1 =>
  q_rt 0 m1
set_option maxRecDepth 20000 in
theorem w_Mod_readLine_b192 {r : Int × q_Mem} {m : q_Mem} {N : Nat} (hN : 126 ≤ N) (h : f_Mod_readLine_b192 m = some r) : q_E md_X11_readLine 9 N (none) r m 192 [q_A 81, q_N] [] := by
  unfold f_Mod_readLine_b192 at h
  refine q_aload_n (M := md_X11_readLine) (pc := 192) dX11_readLine_192 rfl (by decide) ?_
  refine q_iconst (M := md_X11_readLine) (pc := 193) dX11_readLine_193 ?_
  refine e_callVv (M := md_X11_readLine) (pc := 194) (d' := 1) (av := [q_I 1]) (c := 81) h ml_11_218 im_X11_fail se_X11_fail dX11_readLine_194 (fun v he => ok_X11_fail hN  he) rfl (is_81 hN) ⟨_, _, rfl⟩ (by decide) (Nat.le_of_ble_eq_true rfl) ⟨by decide, by decide⟩ rfl (fun _ m1 h => ?_)
  exact e_vret (M := md_X11_readLine) (pc := 197) h rfl dX11_readLine_197
def f_Mod_readLine_b93 (l1 : Int) (m : q_Mem) : q_Res :=
  q_bd (f_Mod_isWord 3 m) fun v1 m2 =>
  if q_w v1 = 0 then (f_Mod_readLine_b192 m2)
  else (if q_w (m2 81 36) = 0 then (q_pz m2 81 36 1 fun m3 =>
  q_bd (f_Mod_scan m3) fun _ m4 =>
  q_bd (f_Mod_signed (-3) 3 m4) fun v5 m6 =>
  q_wr m6 90 2 l1 v5 fun m7 =>
  if q_w (m7 81 28) = 0 then (q_bd (f_Mod_scan m7) fun _ m8 =>
  f_Mod_readLine_b141 l1 m8)
  else (f_Mod_readLine_b141 l1 m7))
  else (f_Mod_readLine_b192 m2))
set_option maxRecDepth 20000 in
theorem w_Mod_readLine_b93 {l1 : Int} {r : Int × q_Mem} {m : q_Mem} {N : Nat} (hN : 126 ≤ N) (h : f_Mod_readLine_b93 l1 m = some r) : q_E md_X11_readLine 9 N (none) r m 93 [q_A 81, q_I l1] [] := by
  unfold f_Mod_readLine_b93 at h
  refine q_aload_n (M := md_X11_readLine) (pc := 93) dX11_readLine_93 rfl (by decide) ?_
  refine q_iconst (M := md_X11_readLine) (pc := 94) dX11_readLine_94 ?_
  refine e_callVi (M := md_X11_readLine) (pc := 95) (d' := 1) (av := [q_I 3]) (c := 81) h ml_11_229 im_X11_isWord se_X11_isWord dX11_readLine_95 (fun v he => ok_X11_isWord hN  he) rfl (is_81 hN) ⟨_, _, rfl⟩ (by decide) (Nat.le_of_ble_eq_true rfl) ⟨by decide, by decide⟩ rfl (fun v1 m2 h => ?_)
  refine e_if_eq (M := md_X11_readLine) (pc := 98) (tgt := 192) h rfl dX11_readLine_98 (by decide) (fun h => ?_) (fun h => ?_)
  · exact q_weak (w_Mod_readLine_b192 hN  h) ⟨Or.inr rfl, Or.inl rfl, trivial⟩
  · refine q_aload_n (M := md_X11_readLine) (pc := 101) dX11_readLine_101 rfl (by decide) ?_
    refine e_gI (M := md_X11_readLine) (pc := 102) (v := m2 81 36) fl_11_248 dX11_readLine_102 (is_81 hN) rfl ?_
    refine e_if_ne (M := md_X11_readLine) (pc := 105) (tgt := 192) h rfl dX11_readLine_105 (by decide) (fun h => ?_) (fun h => ?_)
    · exact q_weak (w_Mod_readLine_b192 hN  h) ⟨Or.inr rfl, Or.inl rfl, trivial⟩
    · refine q_aload_n (M := md_X11_readLine) (pc := 108) dX11_readLine_108 rfl (by decide) ?_
      refine q_iconst (M := md_X11_readLine) (pc := 109) dX11_readLine_109 ?_
      refine e_pfZ (M := md_X11_readLine) (pc := 110) h fl_11_248 dX11_readLine_110 (is_81 hN) rfl (fun m3 h => ?_)
      refine q_aload_n (M := md_X11_readLine) (pc := 113) dX11_readLine_113 rfl (by decide) ?_
      refine e_callVv (M := md_X11_readLine) (pc := 114) (d' := 3) (av := []) (c := 81) h ml_11_215 im_X11_scan se_X11_scan dX11_readLine_114 (fun v he => ok_X11_scan hN  he) rfl (is_81 hN) ⟨_, _, rfl⟩ (by decide) (Nat.le_of_ble_eq_true rfl) ⟨by decide, by decide⟩ rfl (fun _ m4 h => ?_)
      refine q_aload_n (M := md_X11_readLine) (pc := 117) dX11_readLine_117 rfl (by decide) ?_
      refine q_getP (M := md_X11_readLine) (pc := 118) (v := 90) fl_11_34 dX11_readLine_118 (is_81 hN) rfl ?_
      refine q_iload_n (M := md_X11_readLine) (pc := 121) dX11_readLine_121 rfl ?_
      refine q_aload_n (M := md_X11_readLine) (pc := 122) dX11_readLine_122 rfl (by decide) ?_
      refine q_bipush (M := md_X11_readLine) (pc := 123) (x := -3) dX11_readLine_123 (by decide) ?_
      refine q_iconst (M := md_X11_readLine) (pc := 125) dX11_readLine_125 ?_
      refine e_callVi (M := md_X11_readLine) (pc := 126) (d' := 4) (av := [q_I (-3), q_I 3]) (c := 81) h ml_11_225 im_X11_signed se_X11_signed dX11_readLine_126 (fun v he => ok_X11_signed hN  he) rfl (is_81 hN) ⟨_, _, rfl⟩ (by decide) (Nat.le_of_ble_eq_true rfl) ⟨by decide, by decide⟩ rfl (fun v5 m6 h => ?_)
      refine e_wr (M := md_X11_readLine) (pc := 129) h dX11_readLine_129 (ar_90 hN) (fun m7 h => ?_)
      refine q_aload_n (M := md_X11_readLine) (pc := 130) dX11_readLine_130 rfl (by decide) ?_
      refine e_gI (M := md_X11_readLine) (pc := 131) (v := m7 81 28) fl_11_206 dX11_readLine_131 (is_81 hN) rfl ?_
      refine e_if_ne (M := md_X11_readLine) (pc := 134) (tgt := 141) h rfl dX11_readLine_134 (by decide) (fun h => ?_) (fun h => ?_)
      · exact q_weak (w_Mod_readLine_b141 hN  h) ⟨Or.inr rfl, Or.inr rfl, trivial⟩
      · refine q_aload_n (M := md_X11_readLine) (pc := 137) dX11_readLine_137 rfl (by decide) ?_
        refine e_callVv (M := md_X11_readLine) (pc := 138) (d' := 3) (av := []) (c := 81) h ml_11_215 im_X11_scan se_X11_scan dX11_readLine_138 (fun v he => ok_X11_scan hN  he) rfl (is_81 hN) ⟨_, _, rfl⟩ (by decide) (Nat.le_of_ble_eq_true rfl) ⟨by decide, by decide⟩ rfl (fun _ m8 h => ?_)
        exact q_weak (w_Mod_readLine_b141 hN  h) ⟨Or.inr rfl, Or.inr rfl, trivial⟩
def f_Mod_readLine (l1 : Int) (m : q_Mem) : q_Res :=
  q_bd (f_Mod_isWord 1 m) fun v1 m2 =>
  if q_w v1 = 0 then (q_bd (f_Mod_isWord 2 m2) fun v3 m4 =>
  if q_w v3 = 0 then (f_Mod_readLine_b93 l1 m4)
  else (if q_w (m4 81 35) = 0 then (q_pz m4 81 35 1 fun m5 =>
  q_bd (f_Mod_scan m5) fun _ m6 =>
  q_bd (f_Mod_signed (-9) 9 m6) fun v7 m8 =>
  q_wr m8 88 2 l1 v7 fun m9 =>
  if q_w (m9 81 28) = 0 then (q_bd (f_Mod_scan m9) fun _ m10 =>
  f_Mod_readLine_b65 l1 m10)
  else (f_Mod_readLine_b65 l1 m9))
  else (f_Mod_readLine_b93 l1 m4)))
  else (q_bd (f_Mod_readLet l1 m2) fun _ m11 =>
  q_rt 0 m11)
set_option maxRecDepth 20000 in
theorem ok_X11_readLine {l1 : Int} {r : Int × q_Mem} {m : q_Mem} {N : Nat} (hN : 126 ≤ N) (h : f_Mod_readLine l1 m = some r) : q_C md_X11_readLine (q_room 9) 0 0 [q_A 81, q_I l1] (q_g N) m (none, q_g N, r.2) := by
  refine q_ofR (by decide) 0 (ls := [q_A 81, q_I l1]) rfl (Nat.le_of_ble_eq_true rfl) ?_
  change q_E md_X11_readLine 9 N (none) r m 0 [q_A 81, q_I l1] []
  unfold f_Mod_readLine at h
  refine q_aload_n (M := md_X11_readLine) (pc := 0) dX11_readLine_0 rfl (by decide) ?_
  refine q_iconst (M := md_X11_readLine) (pc := 1) dX11_readLine_1 ?_
  refine e_callVi (M := md_X11_readLine) (pc := 2) (d' := 1) (av := [q_I 1]) (c := 81) h ml_11_229 im_X11_isWord se_X11_isWord dX11_readLine_2 (fun v he => ok_X11_isWord hN  he) rfl (is_81 hN) ⟨_, _, rfl⟩ (by decide) (Nat.le_of_ble_eq_true rfl) ⟨by decide, by decide⟩ rfl (fun v1 m2 h => ?_)
  refine e_if_eq (M := md_X11_readLine) (pc := 5) (tgt := 16) h rfl dX11_readLine_5 (by decide) (fun h => ?_) (fun h => ?_)
  · refine q_aload_n (M := md_X11_readLine) (pc := 16) dX11_readLine_16 rfl (by decide) ?_
    refine q_iconst (M := md_X11_readLine) (pc := 17) dX11_readLine_17 ?_
    refine e_callVi (M := md_X11_readLine) (pc := 18) (d' := 1) (av := [q_I 2]) (c := 81) h ml_11_229 im_X11_isWord se_X11_isWord dX11_readLine_18 (fun v he => ok_X11_isWord hN  he) rfl (is_81 hN) ⟨_, _, rfl⟩ (by decide) (Nat.le_of_ble_eq_true rfl) ⟨by decide, by decide⟩ rfl (fun v3 m4 h => ?_)
    refine e_if_eq (M := md_X11_readLine) (pc := 21) (tgt := 93) h rfl dX11_readLine_21 (by decide) (fun h => ?_) (fun h => ?_)
    · exact q_weak (w_Mod_readLine_b93 hN  h) ⟨Or.inr rfl, Or.inr rfl, trivial⟩
    · refine q_aload_n (M := md_X11_readLine) (pc := 24) dX11_readLine_24 rfl (by decide) ?_
      refine e_gI (M := md_X11_readLine) (pc := 25) (v := m4 81 35) fl_11_244 dX11_readLine_25 (is_81 hN) rfl ?_
      refine e_if_ne (M := md_X11_readLine) (pc := 28) (tgt := 93) h rfl dX11_readLine_28 (by decide) (fun h => ?_) (fun h => ?_)
      · exact q_weak (w_Mod_readLine_b93 hN  h) ⟨Or.inr rfl, Or.inr rfl, trivial⟩
      · refine q_aload_n (M := md_X11_readLine) (pc := 31) dX11_readLine_31 rfl (by decide) ?_
        refine q_iconst (M := md_X11_readLine) (pc := 32) dX11_readLine_32 ?_
        refine e_pfZ (M := md_X11_readLine) (pc := 33) h fl_11_244 dX11_readLine_33 (is_81 hN) rfl (fun m5 h => ?_)
        refine q_aload_n (M := md_X11_readLine) (pc := 36) dX11_readLine_36 rfl (by decide) ?_
        refine e_callVv (M := md_X11_readLine) (pc := 37) (d' := 3) (av := []) (c := 81) h ml_11_215 im_X11_scan se_X11_scan dX11_readLine_37 (fun v he => ok_X11_scan hN  he) rfl (is_81 hN) ⟨_, _, rfl⟩ (by decide) (Nat.le_of_ble_eq_true rfl) ⟨by decide, by decide⟩ rfl (fun _ m6 h => ?_)
        refine q_aload_n (M := md_X11_readLine) (pc := 40) dX11_readLine_40 rfl (by decide) ?_
        refine q_getP (M := md_X11_readLine) (pc := 41) (v := 88) fl_11_28 dX11_readLine_41 (is_81 hN) rfl ?_
        refine q_iload_n (M := md_X11_readLine) (pc := 44) dX11_readLine_44 rfl ?_
        refine q_aload_n (M := md_X11_readLine) (pc := 45) dX11_readLine_45 rfl (by decide) ?_
        refine q_bipush (M := md_X11_readLine) (pc := 46) (x := -9) dX11_readLine_46 (by decide) ?_
        refine q_bipush (M := md_X11_readLine) (pc := 48) (x := 9) dX11_readLine_48 (by decide) ?_
        refine e_callVi (M := md_X11_readLine) (pc := 50) (d' := 4) (av := [q_I (-9), q_I 9]) (c := 81) h ml_11_225 im_X11_signed se_X11_signed dX11_readLine_50 (fun v he => ok_X11_signed hN  he) rfl (is_81 hN) ⟨_, _, rfl⟩ (by decide) (Nat.le_of_ble_eq_true rfl) ⟨by decide, by decide⟩ rfl (fun v7 m8 h => ?_)
        refine e_wr (M := md_X11_readLine) (pc := 53) h dX11_readLine_53 (ar_88 hN) (fun m9 h => ?_)
        refine q_aload_n (M := md_X11_readLine) (pc := 54) dX11_readLine_54 rfl (by decide) ?_
        refine e_gI (M := md_X11_readLine) (pc := 55) (v := m9 81 28) fl_11_206 dX11_readLine_55 (is_81 hN) rfl ?_
        refine e_if_ne (M := md_X11_readLine) (pc := 58) (tgt := 65) h rfl dX11_readLine_58 (by decide) (fun h => ?_) (fun h => ?_)
        · exact q_weak (w_Mod_readLine_b65 hN  h) ⟨Or.inr rfl, Or.inr rfl, trivial⟩
        · refine q_aload_n (M := md_X11_readLine) (pc := 61) dX11_readLine_61 rfl (by decide) ?_
          refine e_callVv (M := md_X11_readLine) (pc := 62) (d' := 3) (av := []) (c := 81) h ml_11_215 im_X11_scan se_X11_scan dX11_readLine_62 (fun v he => ok_X11_scan hN  he) rfl (is_81 hN) ⟨_, _, rfl⟩ (by decide) (Nat.le_of_ble_eq_true rfl) ⟨by decide, by decide⟩ rfl (fun _ m10 h => ?_)
          exact q_weak (w_Mod_readLine_b65 hN  h) ⟨Or.inr rfl, Or.inr rfl, trivial⟩
  · refine q_aload_n (M := md_X11_readLine) (pc := 8) dX11_readLine_8 rfl (by decide) ?_
    refine q_iload_n (M := md_X11_readLine) (pc := 9) dX11_readLine_9 rfl ?_
    refine e_callVv (M := md_X11_readLine) (pc := 10) (d' := 8) (av := [q_I l1]) (c := 81) h ml_11_241 im_X11_readLet se_X11_readLet dX11_readLine_10 (fun v he => ok_X11_readLet hN  he) rfl (is_81 hN) ⟨_, _, rfl⟩ (by decide) (Nat.le_of_ble_eq_true rfl) ⟨by decide, by decide⟩ rfl (fun _ m11 h => ?_)
    refine q_goto (M := md_X11_readLine) (pc := 13) (tgt := 197) dX11_readLine_13 (by decide) ?_
    exact e_vret (M := md_X11_readLine) (pc := 197) h rfl dX11_readLine_197
def f_Mod_readAll_b68 (k68 : Int → q_Mem → q_Res) (l1 : Int) (m : q_Mem) : q_Res :=
  if q_w (m 81 28) = 0 then (if q_w (m 81 25) = 0 then (q_rt 0 m)
  else (q_bd (f_Mod_readLine l1 m) fun _ m1 =>
  q_bd (f_Mod_need 59 m1) fun _ m2 =>
  k68 l1 m2))
  else (q_rt 0 m)
set_option maxRecDepth 20000 in
theorem w_Mod_readAll_b68 {k68 : Int → q_Mem → q_Res} {l1 : Int} {r : Int × q_Mem} {m : q_Mem} {N : Nat} (hN : 126 ≤ N) (hk68 : ∀ (l1 : Int) (m : q_Mem), k68 l1 m = some r → q_E md_X11_readAll 10 N (none) r m 68 [q_A 81, q_I l1] []) (h : f_Mod_readAll_b68 k68 l1 m = some r) : q_E md_X11_readAll 10 N (none) r m 68 [q_A 81, q_I l1] [] := by
  unfold f_Mod_readAll_b68 at h
  refine q_aload_n (M := md_X11_readAll) (pc := 68) dX11_readAll_68 rfl (by decide) ?_
  refine e_gI (M := md_X11_readAll) (pc := 69) (v := m 81 28) fl_11_206 dX11_readAll_69 (is_81 hN) rfl ?_
  refine e_if_ne (M := md_X11_readAll) (pc := 72) (tgt := 96) h rfl dX11_readAll_72 (by decide) (fun h => ?_) (fun h => ?_)
  · exact e_vret (M := md_X11_readAll) (pc := 96) h rfl dX11_readAll_96
  · refine q_aload_n (M := md_X11_readAll) (pc := 75) dX11_readAll_75 rfl (by decide) ?_
    refine e_gI (M := md_X11_readAll) (pc := 76) (v := m 81 25) fl_11_178 dX11_readAll_76 (is_81 hN) rfl ?_
    refine e_if_eq (M := md_X11_readAll) (pc := 79) (tgt := 96) h rfl dX11_readAll_79 (by decide) (fun h => ?_) (fun h => ?_)
    · exact e_vret (M := md_X11_readAll) (pc := 96) h rfl dX11_readAll_96
    · refine q_aload_n (M := md_X11_readAll) (pc := 82) dX11_readAll_82 rfl (by decide) ?_
      refine q_iload_n (M := md_X11_readAll) (pc := 83) dX11_readAll_83 rfl ?_
      refine e_callVv (M := md_X11_readAll) (pc := 84) (d' := 9) (av := [q_I l1]) (c := 81) h ml_11_238 im_X11_readLine se_X11_readLine dX11_readAll_84 (fun v he => ok_X11_readLine hN  he) rfl (is_81 hN) ⟨_, _, rfl⟩ (by decide) (Nat.le_of_ble_eq_true rfl) ⟨by decide, by decide⟩ rfl (fun _ m1 h => ?_)
      refine q_aload_n (M := md_X11_readAll) (pc := 87) dX11_readAll_87 rfl (by decide) ?_
      refine q_bipush (M := md_X11_readAll) (pc := 88) (x := 59) dX11_readAll_88 (by decide) ?_
      refine e_callVv (M := md_X11_readAll) (pc := 90) (d' := 4) (av := [q_I 59]) (c := 81) h ml_11_235 im_X11_need se_X11_need dX11_readAll_90 (fun v he => ok_X11_need hN  he) rfl (is_81 hN) ⟨_, _, rfl⟩ (by decide) (Nat.le_of_ble_eq_true rfl) ⟨by decide, by decide⟩ rfl (fun _ m2 h => ?_)
      refine q_goto (M := md_X11_readAll) (pc := 93) (tgt := 68) dX11_readAll_93 (by decide) ?_
      exact q_weak (hk68 _ _  h) ⟨Or.inr rfl, Or.inr rfl, trivial⟩
def f_Mod_readAll_l68 : Nat → Int → q_Mem → q_Res
  | 0 => fun _ _ => none
  | n + 1 => fun l1 m => f_Mod_readAll_b68 (f_Mod_readAll_l68 n) l1 m
theorem w_Mod_readAll_l68 {r : Int × q_Mem} {N : Nat} (hN : 126 ≤ N) : ∀ (n : Nat) (l1 : Int) (m : q_Mem), f_Mod_readAll_l68 n l1 m = some r → q_E md_X11_readAll 10 N (none) r m 68 [q_A 81, q_I l1] [] := by
  intro n
  induction n with
  | zero => intro l1 m h; exact q_no h
  | succ n ih =>
    intro l1 m h
    exact w_Mod_readAll_b68 hN (fun l1 m h => ih l1 m h) h
def f_Mod_readAll_b36 (l1 : Int) (m : q_Mem) : q_Res :=
  q_bd (f_Mod_numeral 1 10 m) fun v1 m2 =>
  q_wr m2 82 2 l1 v1 fun m3 =>
  q_bd (f_Mod_numeral 1 10 m3) fun v4 m5 =>
  q_wr m5 83 2 l1 v4 fun m6 =>
  q_bd (f_Mod_need 59 m6) fun _ m7 =>
  f_Mod_readAll_l68 q_F l1 m7
set_option maxRecDepth 20000 in
theorem w_Mod_readAll_b36 {l1 : Int} {r : Int × q_Mem} {m : q_Mem} {N : Nat} (hN : 126 ≤ N) (h : f_Mod_readAll_b36 l1 m = some r) : q_E md_X11_readAll 10 N (none) r m 36 [q_A 81, q_I l1] [] := by
  unfold f_Mod_readAll_b36 at h
  refine q_aload_n (M := md_X11_readAll) (pc := 36) dX11_readAll_36 rfl (by decide) ?_
  refine q_getP (M := md_X11_readAll) (pc := 37) (v := 82) fl_11_7 dX11_readAll_37 (is_81 hN) rfl ?_
  refine q_iload_n (M := md_X11_readAll) (pc := 40) dX11_readAll_40 rfl ?_
  refine q_aload_n (M := md_X11_readAll) (pc := 41) dX11_readAll_41 rfl (by decide) ?_
  refine q_iconst (M := md_X11_readAll) (pc := 42) dX11_readAll_42 ?_
  refine q_bipush (M := md_X11_readAll) (pc := 43) (x := 10) dX11_readAll_43 (by decide) ?_
  refine e_callVi (M := md_X11_readAll) (pc := 45) (d' := 5) (av := [q_I 1, q_I 10]) (c := 81) h ml_11_232 im_X11_numeral se_X11_numeral dX11_readAll_45 (fun v he => ok_X11_numeral hN  he) rfl (is_81 hN) ⟨_, _, rfl⟩ (by decide) (Nat.le_of_ble_eq_true rfl) ⟨by decide, by decide⟩ rfl (fun v1 m2 h => ?_)
  refine e_wr (M := md_X11_readAll) (pc := 48) h dX11_readAll_48 (ar_82 hN) (fun m3 h => ?_)
  refine q_aload_n (M := md_X11_readAll) (pc := 49) dX11_readAll_49 rfl (by decide) ?_
  refine q_getP (M := md_X11_readAll) (pc := 50) (v := 83) fl_11_13 dX11_readAll_50 (is_81 hN) rfl ?_
  refine q_iload_n (M := md_X11_readAll) (pc := 53) dX11_readAll_53 rfl ?_
  refine q_aload_n (M := md_X11_readAll) (pc := 54) dX11_readAll_54 rfl (by decide) ?_
  refine q_iconst (M := md_X11_readAll) (pc := 55) dX11_readAll_55 ?_
  refine q_bipush (M := md_X11_readAll) (pc := 56) (x := 10) dX11_readAll_56 (by decide) ?_
  refine e_callVi (M := md_X11_readAll) (pc := 58) (d' := 5) (av := [q_I 1, q_I 10]) (c := 81) h ml_11_232 im_X11_numeral se_X11_numeral dX11_readAll_58 (fun v he => ok_X11_numeral hN  he) rfl (is_81 hN) ⟨_, _, rfl⟩ (by decide) (Nat.le_of_ble_eq_true rfl) ⟨by decide, by decide⟩ rfl (fun v4 m5 h => ?_)
  refine e_wr (M := md_X11_readAll) (pc := 61) h dX11_readAll_61 (ar_83 hN) (fun m6 h => ?_)
  refine q_aload_n (M := md_X11_readAll) (pc := 62) dX11_readAll_62 rfl (by decide) ?_
  refine q_bipush (M := md_X11_readAll) (pc := 63) (x := 59) dX11_readAll_63 (by decide) ?_
  refine e_callVv (M := md_X11_readAll) (pc := 65) (d' := 4) (av := [q_I 59]) (c := 81) h ml_11_235 im_X11_need se_X11_need dX11_readAll_65 (fun v he => ok_X11_need hN  he) rfl (is_81 hN) ⟨_, _, rfl⟩ (by decide) (Nat.le_of_ble_eq_true rfl) ⟨by decide, by decide⟩ rfl (fun _ m7 h => ?_)
  exact q_weak (w_Mod_readAll_l68 hN q_F _ _  h) ⟨Or.inr rfl, Or.inr rfl, trivial⟩
def f_Mod_readAll_b25 (l1 : Int) (m : q_Mem) : q_Res :=
  if q_w (m 81 28) = 0 then (q_bd (f_Mod_scan m) fun _ m1 =>
  f_Mod_readAll_b36 l1 m1)
  else (f_Mod_readAll_b36 l1 m)
set_option maxRecDepth 20000 in
theorem w_Mod_readAll_b25 {l1 : Int} {r : Int × q_Mem} {m : q_Mem} {N : Nat} (hN : 126 ≤ N) (h : f_Mod_readAll_b25 l1 m = some r) : q_E md_X11_readAll 10 N (none) r m 25 [q_A 81, q_I l1] [] := by
  unfold f_Mod_readAll_b25 at h
  refine q_aload_n (M := md_X11_readAll) (pc := 25) dX11_readAll_25 rfl (by decide) ?_
  refine e_gI (M := md_X11_readAll) (pc := 26) (v := m 81 28) fl_11_206 dX11_readAll_26 (is_81 hN) rfl ?_
  refine e_if_ne (M := md_X11_readAll) (pc := 29) (tgt := 36) h rfl dX11_readAll_29 (by decide) (fun h => ?_) (fun h => ?_)
  · exact q_weak (w_Mod_readAll_b36 hN  h) ⟨Or.inr rfl, Or.inr rfl, trivial⟩
  · refine q_aload_n (M := md_X11_readAll) (pc := 32) dX11_readAll_32 rfl (by decide) ?_
    refine e_callVv (M := md_X11_readAll) (pc := 33) (d' := 3) (av := []) (c := 81) h ml_11_215 im_X11_scan se_X11_scan dX11_readAll_33 (fun v he => ok_X11_scan hN  he) rfl (is_81 hN) ⟨_, _, rfl⟩ (by decide) (Nat.le_of_ble_eq_true rfl) ⟨by decide, by decide⟩ rfl (fun _ m1 h => ?_)
    exact q_weak (w_Mod_readAll_b36 hN  h) ⟨Or.inr rfl, Or.inr rfl, trivial⟩
def f_Mod_readAll (l1 : Int) (m : q_Mem) : q_Res :=
  q_bd (f_Mod_scan m) fun _ m1 =>
  if q_w (m1 81 25) = 0 then (q_rt 0 m1)
  else (q_bd (f_Mod_isWord 0 m1) fun v2 m3 =>
  if q_w v2 = 0 then (q_bd (f_Mod_fail 1 m3) fun _ m4 =>
  f_Mod_readAll_b25 l1 m4)
  else (f_Mod_readAll_b25 l1 m3))
set_option maxRecDepth 20000 in
theorem ok_X11_readAll {l1 : Int} {r : Int × q_Mem} {m : q_Mem} {N : Nat} (hN : 126 ≤ N) (h : f_Mod_readAll l1 m = some r) : q_C md_X11_readAll (q_room 10) 0 0 [q_A 81, q_I l1] (q_g N) m (none, q_g N, r.2) := by
  refine q_ofR (by decide) 0 (ls := [q_A 81, q_I l1]) rfl (Nat.le_of_ble_eq_true rfl) ?_
  change q_E md_X11_readAll 10 N (none) r m 0 [q_A 81, q_I l1] []
  unfold f_Mod_readAll at h
  refine q_aload_n (M := md_X11_readAll) (pc := 0) dX11_readAll_0 rfl (by decide) ?_
  refine e_callVv (M := md_X11_readAll) (pc := 1) (d' := 3) (av := []) (c := 81) h ml_11_215 im_X11_scan se_X11_scan dX11_readAll_1 (fun v he => ok_X11_scan hN  he) rfl (is_81 hN) ⟨_, _, rfl⟩ (by decide) (Nat.le_of_ble_eq_true rfl) ⟨by decide, by decide⟩ rfl (fun _ m1 h => ?_)
  refine q_aload_n (M := md_X11_readAll) (pc := 4) dX11_readAll_4 rfl (by decide) ?_
  refine e_gI (M := md_X11_readAll) (pc := 5) (v := m1 81 25) fl_11_178 dX11_readAll_5 (is_81 hN) rfl ?_
  refine e_if_ne (M := md_X11_readAll) (pc := 8) (tgt := 12) h rfl dX11_readAll_8 (by decide) (fun h => ?_) (fun h => ?_)
  · refine q_aload_n (M := md_X11_readAll) (pc := 12) dX11_readAll_12 rfl (by decide) ?_
    refine q_iconst (M := md_X11_readAll) (pc := 13) dX11_readAll_13 ?_
    refine e_callVi (M := md_X11_readAll) (pc := 14) (d' := 1) (av := [q_I 0]) (c := 81) h ml_11_229 im_X11_isWord se_X11_isWord dX11_readAll_14 (fun v he => ok_X11_isWord hN  he) rfl (is_81 hN) ⟨_, _, rfl⟩ (by decide) (Nat.le_of_ble_eq_true rfl) ⟨by decide, by decide⟩ rfl (fun v2 m3 h => ?_)
    refine e_if_ne (M := md_X11_readAll) (pc := 17) (tgt := 25) h rfl dX11_readAll_17 (by decide) (fun h => ?_) (fun h => ?_)
    · exact q_weak (w_Mod_readAll_b25 hN  h) ⟨Or.inr rfl, Or.inr rfl, trivial⟩
    · refine q_aload_n (M := md_X11_readAll) (pc := 20) dX11_readAll_20 rfl (by decide) ?_
      refine q_iconst (M := md_X11_readAll) (pc := 21) dX11_readAll_21 ?_
      refine e_callVv (M := md_X11_readAll) (pc := 22) (d' := 1) (av := [q_I 1]) (c := 81) h ml_11_218 im_X11_fail se_X11_fail dX11_readAll_22 (fun v he => ok_X11_fail hN  he) rfl (is_81 hN) ⟨_, _, rfl⟩ (by decide) (Nat.le_of_ble_eq_true rfl) ⟨by decide, by decide⟩ rfl (fun _ m4 h => ?_)
      exact q_weak (w_Mod_readAll_b25 hN  h) ⟨Or.inr rfl, Or.inr rfl, trivial⟩
  · exact e_vret (M := md_X11_readAll) (pc := 11) h rfl dX11_readAll_11
def f_Mod_startAnew_b100 (k100 : Int → q_Mem → q_Res) (l1 : Int) (m : q_Mem) : q_Res :=
  if 2 ≤ q_w l1 then (q_rt 0 m)
  else (q_wrz m 125 2 l1 0 fun m1 =>
  k100 (l1 + 1) m1)
set_option maxRecDepth 20000 in
theorem w_Mod_startAnew_b100 {k100 : Int → q_Mem → q_Res} {l1 : Int} {r : Int × q_Mem} {m : q_Mem} {N : Nat} (hN : 126 ≤ N) (hk100 : ∀ (l1 : Int) (m : q_Mem), k100 l1 m = some r → q_E md_X11_startAnew 1 N (none) r m 100 [q_A 81, q_I l1] []) (h : f_Mod_startAnew_b100 k100 l1 m = some r) : q_E md_X11_startAnew 1 N (none) r m 100 [q_A 81, q_I l1] [] := by
  unfold f_Mod_startAnew_b100 at h
  refine q_iload_n (M := md_X11_startAnew) (pc := 100) dX11_startAnew_100 rfl ?_
  refine q_iconst (M := md_X11_startAnew) (pc := 101) dX11_startAnew_101 ?_
  refine e_icmp_ge (M := md_X11_startAnew) (pc := 102) (tgt := 118) h rfl (q_wlit rfl) dX11_startAnew_102 (by decide) (fun h => ?_) (fun h => ?_)
  · exact e_vret (M := md_X11_startAnew) (pc := 118) h rfl dX11_startAnew_118
  · refine q_aload_n (M := md_X11_startAnew) (pc := 105) dX11_startAnew_105 rfl (by decide) ?_
    refine q_getP (M := md_X11_startAnew) (pc := 106) (v := 125) fl_11_145 dX11_startAnew_106 (is_81 hN) rfl ?_
    refine q_iload_n (M := md_X11_startAnew) (pc := 109) dX11_startAnew_109 rfl ?_
    refine q_iconst (M := md_X11_startAnew) (pc := 110) dX11_startAnew_110 ?_
    refine e_wrz (M := md_X11_startAnew) (pc := 111) h dX11_startAnew_111 (ar_125 hN) (fun m1 h => ?_)
    refine e_inc (M := md_X11_startAnew) (pc := 112) (x := l1) (ls' := [q_A 81, q_I (l1 + 1)]) dX11_startAnew_112 rfl (by decide) (q_pl rfl) rfl ?_
    refine q_goto (M := md_X11_startAnew) (pc := 115) (tgt := 100) dX11_startAnew_115 (by decide) ?_
    exact q_weak (hk100 _ _  h) ⟨Or.inr rfl, Or.inr rfl, trivial⟩
def f_Mod_startAnew_l100 : Nat → Int → q_Mem → q_Res
  | 0 => fun _ _ => none
  | n + 1 => fun l1 m => f_Mod_startAnew_b100 (f_Mod_startAnew_l100 n) l1 m
theorem w_Mod_startAnew_l100 {r : Int × q_Mem} {N : Nat} (hN : 126 ≤ N) : ∀ (n : Nat) (l1 : Int) (m : q_Mem), f_Mod_startAnew_l100 n l1 m = some r → q_E md_X11_startAnew 1 N (none) r m 100 [q_A 81, q_I l1] [] := by
  intro n
  induction n with
  | zero => intro l1 m h; exact q_no h
  | succ n ih =>
    intro l1 m h
    exact w_Mod_startAnew_b100 hN (fun l1 m h => ih l1 m h) h
def f_Mod_startAnew_b2 (k2 : Int → q_Mem → q_Res) (l1 : Int) (m : q_Mem) : q_Res :=
  if 69 ≤ q_w l1 then (q_rd m 88 2 (m 81 19) fun v1 =>
  q_wr m 115 69 0 v1 fun m2 =>
  q_rd m2 89 2 (m2 81 19) fun v3 =>
  q_wr m2 115 69 1 v3 fun m4 =>
  q_rd m4 90 2 (m4 81 19) fun v5 =>
  q_wr m4 115 69 2 v5 fun m6 =>
  q_rd m6 91 2 (m6 81 19) fun v7 =>
  q_wr m6 115 69 3 v7 fun m8 =>
  q_wr m8 115 69 4 1 fun m9 =>
  q_pf m9 81 69 0 fun m10 =>
  q_pf m10 81 70 0 fun m11 =>
  f_Mod_startAnew_l100 q_F 0 m11)
  else (q_wr m 115 69 l1 0 fun m12 =>
  k2 (l1 + 1) m12)
set_option maxRecDepth 20000 in
theorem w_Mod_startAnew_b2 {k2 : Int → q_Mem → q_Res} {l1 : Int} {r : Int × q_Mem} {m : q_Mem} {N : Nat} (hN : 126 ≤ N) (hk2 : ∀ (l1 : Int) (m : q_Mem), k2 l1 m = some r → q_E md_X11_startAnew 1 N (none) r m 2 [q_A 81, q_I l1] []) (h : f_Mod_startAnew_b2 k2 l1 m = some r) : q_E md_X11_startAnew 1 N (none) r m 2 [q_A 81, q_I l1] [] := by
  unfold f_Mod_startAnew_b2 at h
  refine q_iload_n (M := md_X11_startAnew) (pc := 2) dX11_startAnew_2 rfl ?_
  refine q_bipush (M := md_X11_startAnew) (pc := 3) (x := 69) dX11_startAnew_3 (by decide) ?_
  refine e_icmp_ge (M := md_X11_startAnew) (pc := 5) (tgt := 21) h rfl (q_wlit rfl) dX11_startAnew_5 (by decide) (fun h => ?_) (fun h => ?_)
  · refine q_aload_n (M := md_X11_startAnew) (pc := 21) dX11_startAnew_21 rfl (by decide) ?_
    refine q_getP (M := md_X11_startAnew) (pc := 22) (v := 115) fl_11_115 dX11_startAnew_22 (is_81 hN) rfl ?_
    refine q_iconst (M := md_X11_startAnew) (pc := 25) dX11_startAnew_25 ?_
    refine q_aload_n (M := md_X11_startAnew) (pc := 26) dX11_startAnew_26 rfl (by decide) ?_
    refine q_getP (M := md_X11_startAnew) (pc := 27) (v := 88) fl_11_28 dX11_startAnew_27 (is_81 hN) rfl ?_
    refine q_aload_n (M := md_X11_startAnew) (pc := 30) dX11_startAnew_30 rfl (by decide) ?_
    refine e_gI (M := md_X11_startAnew) (pc := 31) (v := m 81 19) fl_11_306 dX11_startAnew_31 (is_81 hN) rfl ?_
    refine e_rd (M := md_X11_startAnew) (pc := 34) h dX11_startAnew_34 (ar_88 hN) (fun v1 h => ?_)
    refine e_wr (M := md_X11_startAnew) (pc := 35) h dX11_startAnew_35 (ar_115 hN) (fun m2 h => ?_)
    refine q_aload_n (M := md_X11_startAnew) (pc := 36) dX11_startAnew_36 rfl (by decide) ?_
    refine q_getP (M := md_X11_startAnew) (pc := 37) (v := 115) fl_11_115 dX11_startAnew_37 (is_81 hN) rfl ?_
    refine q_iconst (M := md_X11_startAnew) (pc := 40) dX11_startAnew_40 ?_
    refine q_aload_n (M := md_X11_startAnew) (pc := 41) dX11_startAnew_41 rfl (by decide) ?_
    refine q_getP (M := md_X11_startAnew) (pc := 42) (v := 89) fl_11_31 dX11_startAnew_42 (is_81 hN) rfl ?_
    refine q_aload_n (M := md_X11_startAnew) (pc := 45) dX11_startAnew_45 rfl (by decide) ?_
    refine e_gI (M := md_X11_startAnew) (pc := 46) (v := m2 81 19) fl_11_306 dX11_startAnew_46 (is_81 hN) rfl ?_
    refine e_rd (M := md_X11_startAnew) (pc := 49) h dX11_startAnew_49 (ar_89 hN) (fun v3 h => ?_)
    refine e_wr (M := md_X11_startAnew) (pc := 50) h dX11_startAnew_50 (ar_115 hN) (fun m4 h => ?_)
    refine q_aload_n (M := md_X11_startAnew) (pc := 51) dX11_startAnew_51 rfl (by decide) ?_
    refine q_getP (M := md_X11_startAnew) (pc := 52) (v := 115) fl_11_115 dX11_startAnew_52 (is_81 hN) rfl ?_
    refine q_iconst (M := md_X11_startAnew) (pc := 55) dX11_startAnew_55 ?_
    refine q_aload_n (M := md_X11_startAnew) (pc := 56) dX11_startAnew_56 rfl (by decide) ?_
    refine q_getP (M := md_X11_startAnew) (pc := 57) (v := 90) fl_11_34 dX11_startAnew_57 (is_81 hN) rfl ?_
    refine q_aload_n (M := md_X11_startAnew) (pc := 60) dX11_startAnew_60 rfl (by decide) ?_
    refine e_gI (M := md_X11_startAnew) (pc := 61) (v := m4 81 19) fl_11_306 dX11_startAnew_61 (is_81 hN) rfl ?_
    refine e_rd (M := md_X11_startAnew) (pc := 64) h dX11_startAnew_64 (ar_90 hN) (fun v5 h => ?_)
    refine e_wr (M := md_X11_startAnew) (pc := 65) h dX11_startAnew_65 (ar_115 hN) (fun m6 h => ?_)
    refine q_aload_n (M := md_X11_startAnew) (pc := 66) dX11_startAnew_66 rfl (by decide) ?_
    refine q_getP (M := md_X11_startAnew) (pc := 67) (v := 115) fl_11_115 dX11_startAnew_67 (is_81 hN) rfl ?_
    refine q_iconst (M := md_X11_startAnew) (pc := 70) dX11_startAnew_70 ?_
    refine q_aload_n (M := md_X11_startAnew) (pc := 71) dX11_startAnew_71 rfl (by decide) ?_
    refine q_getP (M := md_X11_startAnew) (pc := 72) (v := 91) fl_11_37 dX11_startAnew_72 (is_81 hN) rfl ?_
    refine q_aload_n (M := md_X11_startAnew) (pc := 75) dX11_startAnew_75 rfl (by decide) ?_
    refine e_gI (M := md_X11_startAnew) (pc := 76) (v := m6 81 19) fl_11_306 dX11_startAnew_76 (is_81 hN) rfl ?_
    refine e_rd (M := md_X11_startAnew) (pc := 79) h dX11_startAnew_79 (ar_91 hN) (fun v7 h => ?_)
    refine e_wr (M := md_X11_startAnew) (pc := 80) h dX11_startAnew_80 (ar_115 hN) (fun m8 h => ?_)
    refine q_aload_n (M := md_X11_startAnew) (pc := 81) dX11_startAnew_81 rfl (by decide) ?_
    refine q_getP (M := md_X11_startAnew) (pc := 82) (v := 115) fl_11_115 dX11_startAnew_82 (is_81 hN) rfl ?_
    refine q_iconst (M := md_X11_startAnew) (pc := 85) dX11_startAnew_85 ?_
    refine q_iconst (M := md_X11_startAnew) (pc := 86) dX11_startAnew_86 ?_
    refine e_wr (M := md_X11_startAnew) (pc := 87) h dX11_startAnew_87 (ar_115 hN) (fun m9 h => ?_)
    refine q_aload_n (M := md_X11_startAnew) (pc := 88) dX11_startAnew_88 rfl (by decide) ?_
    refine q_iconst (M := md_X11_startAnew) (pc := 89) dX11_startAnew_89 ?_
    refine e_pfI (M := md_X11_startAnew) (pc := 90) h fl_11_408 dX11_startAnew_90 (is_81 hN) rfl (fun m10 h => ?_)
    refine q_aload_n (M := md_X11_startAnew) (pc := 93) dX11_startAnew_93 rfl (by decide) ?_
    refine q_iconst (M := md_X11_startAnew) (pc := 94) dX11_startAnew_94 ?_
    refine e_pfI (M := md_X11_startAnew) (pc := 95) h fl_11_411 dX11_startAnew_95 (is_81 hN) rfl (fun m11 h => ?_)
    refine q_iconst (M := md_X11_startAnew) (pc := 98) dX11_startAnew_98 ?_
    refine e_ist_n (M := md_X11_startAnew) (pc := 99) (ls' := [q_A 81, q_I 0]) dX11_startAnew_99 (by decide) (q_pl rfl) rfl ?_
    exact q_weak (w_Mod_startAnew_l100 hN q_F _ _  h) ⟨Or.inr rfl, Or.inr rfl, trivial⟩
  · refine q_aload_n (M := md_X11_startAnew) (pc := 8) dX11_startAnew_8 rfl (by decide) ?_
    refine q_getP (M := md_X11_startAnew) (pc := 9) (v := 115) fl_11_115 dX11_startAnew_9 (is_81 hN) rfl ?_
    refine q_iload_n (M := md_X11_startAnew) (pc := 12) dX11_startAnew_12 rfl ?_
    refine q_iconst (M := md_X11_startAnew) (pc := 13) dX11_startAnew_13 ?_
    refine e_wr (M := md_X11_startAnew) (pc := 14) h dX11_startAnew_14 (ar_115 hN) (fun m12 h => ?_)
    refine e_inc (M := md_X11_startAnew) (pc := 15) (x := l1) (ls' := [q_A 81, q_I (l1 + 1)]) dX11_startAnew_15 rfl (by decide) (q_pl rfl) rfl ?_
    refine q_goto (M := md_X11_startAnew) (pc := 18) (tgt := 2) dX11_startAnew_18 (by decide) ?_
    exact q_weak (hk2 _ _  h) ⟨Or.inr rfl, Or.inr rfl, trivial⟩
def f_Mod_startAnew_l2 : Nat → Int → q_Mem → q_Res
  | 0 => fun _ _ => none
  | n + 1 => fun l1 m => f_Mod_startAnew_b2 (f_Mod_startAnew_l2 n) l1 m
theorem w_Mod_startAnew_l2 {r : Int × q_Mem} {N : Nat} (hN : 126 ≤ N) : ∀ (n : Nat) (l1 : Int) (m : q_Mem), f_Mod_startAnew_l2 n l1 m = some r → q_E md_X11_startAnew 1 N (none) r m 2 [q_A 81, q_I l1] [] := by
  intro n
  induction n with
  | zero => intro l1 m h; exact q_no h
  | succ n ih =>
    intro l1 m h
    exact w_Mod_startAnew_b2 hN (fun l1 m h => ih l1 m h) h
def f_Mod_startAnew (m : q_Mem) : q_Res :=
  f_Mod_startAnew_l2 q_F 0 m
set_option maxRecDepth 20000 in
theorem ok_X11_startAnew {r : Int × q_Mem} {m : q_Mem} {N : Nat} (hN : 126 ≤ N) (h : f_Mod_startAnew m = some r) : q_C md_X11_startAnew (q_room 1) 0 0 [q_A 81] (q_g N) m (none, q_g N, r.2) := by
  refine q_ofR (by decide) 1 (ls := [q_A 81, q_N]) rfl (Nat.le_of_ble_eq_true rfl) ?_
  change q_E md_X11_startAnew 1 N (none) r m 0 [q_A 81, q_N] []
  unfold f_Mod_startAnew at h
  refine q_iconst (M := md_X11_startAnew) (pc := 0) dX11_startAnew_0 ?_
  refine e_ist_n (M := md_X11_startAnew) (pc := 1) (ls' := [q_A 81, q_I 0]) dX11_startAnew_1 (by decide) (q_pl rfl) rfl ?_
  exact q_weak (w_Mod_startAnew_l2 hN q_F _ _  h) ⟨Or.inr rfl, Or.inr rfl, trivial⟩
def f_Mod_many (m : q_Mem) : q_Res :=
  q_rd m 84 2 (m 81 19) fun v1 =>
  q_rt v1 m
set_option maxRecDepth 20000 in
theorem ok_X11_many {r : Int × q_Mem} {m : q_Mem} {N : Nat} (hN : 126 ≤ N) (h : f_Mod_many m = some r) : q_C md_X11_many (q_room 1) 0 0 [q_A 81] (q_g N) m (some (q_I r.1), q_g N, r.2) := by
  refine q_ofR (by decide) 0 (ls := [q_A 81]) rfl (Nat.le_of_ble_eq_true rfl) ?_
  change q_E md_X11_many 1 N (some 0) r m 0 [q_A 81] []
  unfold f_Mod_many at h
  refine q_aload_n (M := md_X11_many) (pc := 0) dX11_many_0 rfl (by decide) ?_
  refine q_getP (M := md_X11_many) (pc := 1) (v := 84) fl_11_16 dX11_many_1 (is_81 hN) rfl ?_
  refine q_aload_n (M := md_X11_many) (pc := 4) dX11_many_4 rfl (by decide) ?_
  refine e_gI (M := md_X11_many) (pc := 5) (v := m 81 19) fl_11_306 dX11_many_5 (is_81 hN) rfl ?_
  refine e_rd (M := md_X11_many) (pc := 8) h dX11_many_8 (ar_84 hN) (fun v1 h => ?_)
  exact e_iret (M := md_X11_many) (pc := 9) h rfl dX11_many_9
def f_Mod_loop (m : q_Mem) : q_Res :=
  q_pf m 81 22 (m 81 21) fun m1 =>
  q_pf m1 81 21 0 fun m2 =>
  q_pf m2 81 23 0 fun m3 =>
  q_pf m3 81 28 0 fun m4 =>
  q_pf m4 81 29 (-1) fun m5 =>
  q_pz m5 81 35 0 fun m6 =>
  q_pz m6 81 36 0 fun m7 =>
  q_bd (f_Mod_clearBank (1 - (m 81 19)) m7) fun _ m8 =>
  q_bd (f_Mod_readAll (1 - (m 81 19)) m8) fun _ m9 =>
  q_pf m9 81 30 (m9 81 28) fun m10 =>
  q_pf m10 81 31 (m10 81 29) fun m11 =>
  if q_w (m11 81 30) ≤ 0 then (q_pf m11 81 19 (1 - (m 81 19)) fun m12 =>
  q_bd (f_Mod_startAnew m12) fun _ m13 =>
  q_bd (f_Mod_many m13) fun v14 m15 =>
  q_rt v14 m15)
  else (q_rt (-1) m11)
set_option maxRecDepth 20000 in
theorem ok_X11_loop {r : Int × q_Mem} {m : q_Mem} {N : Nat} (hN : 126 ≤ N) (h : f_Mod_loop m = some r) : q_C md_X11_loop (q_room 11) 0 0 [q_A 81] (q_g N) m (some (q_I r.1), q_g N, r.2) := by
  refine q_ofR (by decide) 1 (ls := [q_A 81, q_N]) rfl (Nat.le_of_ble_eq_true rfl) ?_
  change q_E md_X11_loop 11 N (some 0) r m 0 [q_A 81, q_N] []
  unfold f_Mod_loop at h
  refine q_iconst (M := md_X11_loop) (pc := 0) dX11_loop_0 ?_
  refine q_aload_n (M := md_X11_loop) (pc := 1) dX11_loop_1 rfl (by decide) ?_
  refine e_gI (M := md_X11_loop) (pc := 2) (v := m 81 19) fl_11_306 dX11_loop_2 (is_81 hN) rfl ?_
  refine q_isub (M := md_X11_loop) (pc := 5) dX11_loop_5 ?_
  refine e_ist_n (M := md_X11_loop) (pc := 6) (ls' := [q_A 81, q_I (1 - (m 81 19))]) dX11_loop_6 (by decide) (q_pl rfl) rfl ?_
  refine q_aload_n (M := md_X11_loop) (pc := 7) dX11_loop_7 rfl (by decide) ?_
  refine q_aload_n (M := md_X11_loop) (pc := 8) dX11_loop_8 rfl (by decide) ?_
  refine e_gI (M := md_X11_loop) (pc := 9) (v := m 81 21) fl_11_159 dX11_loop_9 (is_81 hN) rfl ?_
  refine e_pfI (M := md_X11_loop) (pc := 12) h fl_11_162 dX11_loop_12 (is_81 hN) rfl (fun m1 h => ?_)
  refine q_aload_n (M := md_X11_loop) (pc := 15) dX11_loop_15 rfl (by decide) ?_
  refine q_iconst (M := md_X11_loop) (pc := 16) dX11_loop_16 ?_
  refine e_pfI (M := md_X11_loop) (pc := 17) h fl_11_159 dX11_loop_17 (is_81 hN) rfl (fun m2 h => ?_)
  refine q_aload_n (M := md_X11_loop) (pc := 20) dX11_loop_20 rfl (by decide) ?_
  refine q_iconst (M := md_X11_loop) (pc := 21) dX11_loop_21 ?_
  refine e_pfI (M := md_X11_loop) (pc := 22) h fl_11_165 dX11_loop_22 (is_81 hN) rfl (fun m3 h => ?_)
  refine q_aload_n (M := md_X11_loop) (pc := 25) dX11_loop_25 rfl (by decide) ?_
  refine q_iconst (M := md_X11_loop) (pc := 26) dX11_loop_26 ?_
  refine e_pfI (M := md_X11_loop) (pc := 27) h fl_11_206 dX11_loop_27 (is_81 hN) rfl (fun m4 h => ?_)
  refine q_aload_n (M := md_X11_loop) (pc := 30) dX11_loop_30 rfl (by decide) ?_
  refine q_iconst (M := md_X11_loop) (pc := 31) dX11_loop_31 ?_
  refine e_pfI (M := md_X11_loop) (pc := 32) h fl_11_209 dX11_loop_32 (is_81 hN) rfl (fun m5 h => ?_)
  refine q_aload_n (M := md_X11_loop) (pc := 35) dX11_loop_35 rfl (by decide) ?_
  refine q_iconst (M := md_X11_loop) (pc := 36) dX11_loop_36 ?_
  refine e_pfZ (M := md_X11_loop) (pc := 37) h fl_11_244 dX11_loop_37 (is_81 hN) rfl (fun m6 h => ?_)
  refine q_aload_n (M := md_X11_loop) (pc := 40) dX11_loop_40 rfl (by decide) ?_
  refine q_iconst (M := md_X11_loop) (pc := 41) dX11_loop_41 ?_
  refine e_pfZ (M := md_X11_loop) (pc := 42) h fl_11_248 dX11_loop_42 (is_81 hN) rfl (fun m7 h => ?_)
  refine q_aload_n (M := md_X11_loop) (pc := 45) dX11_loop_45 rfl (by decide) ?_
  refine q_iload_n (M := md_X11_loop) (pc := 46) dX11_loop_46 rfl ?_
  refine e_callVv (M := md_X11_loop) (pc := 47) (d' := 1) (av := [q_I (1 - (m 81 19))]) (c := 81) h ml_11_148 im_X11_clearBank se_X11_clearBank dX11_loop_47 (fun v he => ok_X11_clearBank hN  he) rfl (is_81 hN) ⟨_, _, rfl⟩ (by decide) (Nat.le_of_ble_eq_true rfl) ⟨by decide, by decide⟩ rfl (fun _ m8 h => ?_)
  refine q_aload_n (M := md_X11_loop) (pc := 50) dX11_loop_50 rfl (by decide) ?_
  refine q_iload_n (M := md_X11_loop) (pc := 51) dX11_loop_51 rfl ?_
  refine e_callVv (M := md_X11_loop) (pc := 52) (d' := 10) (av := [q_I (1 - (m 81 19))]) (c := 81) h ml_11_309 im_X11_readAll se_X11_readAll dX11_loop_52 (fun v he => ok_X11_readAll hN  he) rfl (is_81 hN) ⟨_, _, rfl⟩ (by decide) (Nat.le_of_ble_eq_true rfl) ⟨by decide, by decide⟩ rfl (fun _ m9 h => ?_)
  refine q_aload_n (M := md_X11_loop) (pc := 55) dX11_loop_55 rfl (by decide) ?_
  refine q_aload_n (M := md_X11_loop) (pc := 56) dX11_loop_56 rfl (by decide) ?_
  refine e_gI (M := md_X11_loop) (pc := 57) (v := m9 81 28) fl_11_206 dX11_loop_57 (is_81 hN) rfl ?_
  refine e_pfI (M := md_X11_loop) (pc := 60) h fl_11_312 dX11_loop_60 (is_81 hN) rfl (fun m10 h => ?_)
  refine q_aload_n (M := md_X11_loop) (pc := 63) dX11_loop_63 rfl (by decide) ?_
  refine q_aload_n (M := md_X11_loop) (pc := 64) dX11_loop_64 rfl (by decide) ?_
  refine e_gI (M := md_X11_loop) (pc := 65) (v := m10 81 29) fl_11_209 dX11_loop_65 (is_81 hN) rfl ?_
  refine e_pfI (M := md_X11_loop) (pc := 68) h fl_11_71 dX11_loop_68 (is_81 hN) rfl (fun m11 h => ?_)
  refine q_aload_n (M := md_X11_loop) (pc := 71) dX11_loop_71 rfl (by decide) ?_
  refine e_gI (M := md_X11_loop) (pc := 72) (v := m11 81 30) fl_11_312 dX11_loop_72 (is_81 hN) rfl ?_
  refine e_if_le (M := md_X11_loop) (pc := 75) (tgt := 80) h rfl dX11_loop_75 (by decide) (fun h => ?_) (fun h => ?_)
  · refine q_aload_n (M := md_X11_loop) (pc := 80) dX11_loop_80 rfl (by decide) ?_
    refine q_iload_n (M := md_X11_loop) (pc := 81) dX11_loop_81 rfl ?_
    refine e_pfI (M := md_X11_loop) (pc := 82) h fl_11_306 dX11_loop_82 (is_81 hN) rfl (fun m12 h => ?_)
    refine q_aload_n (M := md_X11_loop) (pc := 85) dX11_loop_85 rfl (by decide) ?_
    refine e_callVv (M := md_X11_loop) (pc := 86) (d' := 1) (av := []) (c := 81) h ml_11_152 im_X11_startAnew se_X11_startAnew dX11_loop_86 (fun v he => ok_X11_startAnew hN  he) rfl (is_81 hN) ⟨_, _, rfl⟩ (by decide) (Nat.le_of_ble_eq_true rfl) ⟨by decide, by decide⟩ rfl (fun _ m13 h => ?_)
    refine q_aload_n (M := md_X11_loop) (pc := 89) dX11_loop_89 rfl (by decide) ?_
    refine e_callVi (M := md_X11_loop) (pc := 90) (d' := 1) (av := []) (c := 81) h ml_11_315 im_X11_many se_X11_many dX11_loop_90 (fun v he => ok_X11_many hN  he) rfl (is_81 hN) ⟨_, _, rfl⟩ (by decide) (Nat.le_of_ble_eq_true rfl) ⟨by decide, by decide⟩ rfl (fun v14 m15 h => ?_)
    exact e_iret (M := md_X11_loop) (pc := 93) h rfl dX11_loop_93
  · refine q_iconst (M := md_X11_loop) (pc := 78) dX11_loop_78 ?_
    exact e_iret (M := md_X11_loop) (pc := 79) h rfl dX11_loop_79
def f_Mod_fault (l1 : Int) (m : q_Mem) : q_Res :=
  if q_w l1 = 0 then (q_rt (m 81 30) m)
  else (if q_w l1 = 1 then (q_rt (m 81 31) m)
  else (q_rt (-1) m))
set_option maxRecDepth 20000 in
theorem ok_X11_fault {l1 : Int} {r : Int × q_Mem} {m : q_Mem} {N : Nat} (hN : 126 ≤ N) (h : f_Mod_fault l1 m = some r) : q_C md_X11_fault (q_room 1) 0 0 [q_A 81, q_I l1] (q_g N) m (some (q_I r.1), q_g N, r.2) := by
  refine q_ofR (by decide) 0 (ls := [q_A 81, q_I l1]) rfl (Nat.le_of_ble_eq_true rfl) ?_
  change q_E md_X11_fault 1 N (some 0) r m 0 [q_A 81, q_I l1] []
  unfold f_Mod_fault at h
  refine q_iload_n (M := md_X11_fault) (pc := 0) dX11_fault_0 rfl ?_
  refine e_if_ne (M := md_X11_fault) (pc := 1) (tgt := 11) h rfl dX11_fault_1 (by decide) (fun h => ?_) (fun h => ?_)
  · refine q_iload_n (M := md_X11_fault) (pc := 11) dX11_fault_11 rfl ?_
    refine q_iconst (M := md_X11_fault) (pc := 12) dX11_fault_12 ?_
    refine e_icmp_ne (M := md_X11_fault) (pc := 13) (tgt := 23) h rfl (q_wlit rfl) dX11_fault_13 (by decide) (fun h => ?_) (fun h => ?_)
    · refine q_iconst (M := md_X11_fault) (pc := 23) dX11_fault_23 ?_
      exact e_iret (M := md_X11_fault) (pc := 24) h rfl dX11_fault_24
    · refine q_aload_n (M := md_X11_fault) (pc := 16) dX11_fault_16 rfl (by decide) ?_
      refine e_gI (M := md_X11_fault) (pc := 17) (v := m 81 31) fl_11_71 dX11_fault_17 (is_81 hN) rfl ?_
      refine q_goto (M := md_X11_fault) (pc := 20) (tgt := 24) dX11_fault_20 (by decide) ?_
      exact e_iret (M := md_X11_fault) (pc := 24) h rfl dX11_fault_24
  · refine q_aload_n (M := md_X11_fault) (pc := 4) dX11_fault_4 rfl (by decide) ?_
    refine e_gI (M := md_X11_fault) (pc := 5) (v := m 81 30) fl_11_312 dX11_fault_5 (is_81 hN) rfl ?_
    refine q_goto (M := md_X11_fault) (pc := 8) (tgt := 24) dX11_fault_8 (by decide) ?_
    exact e_iret (M := md_X11_fault) (pc := 24) h rfl dX11_fault_24
def f_Mod_rowsNow (m : q_Mem) : q_Res :=
  q_rd m 82 2 (m 81 19) fun v1 =>
  q_rt v1 m
set_option maxRecDepth 20000 in
theorem ok_X11_rowsNow {r : Int × q_Mem} {m : q_Mem} {N : Nat} (hN : 126 ≤ N) (h : f_Mod_rowsNow m = some r) : q_C md_X11_rowsNow (q_room 1) 0 0 [q_A 81] (q_g N) m (some (q_I r.1), q_g N, r.2) := by
  refine q_ofR (by decide) 0 (ls := [q_A 81]) rfl (Nat.le_of_ble_eq_true rfl) ?_
  change q_E md_X11_rowsNow 1 N (some 0) r m 0 [q_A 81] []
  unfold f_Mod_rowsNow at h
  refine q_aload_n (M := md_X11_rowsNow) (pc := 0) dX11_rowsNow_0 rfl (by decide) ?_
  refine q_getP (M := md_X11_rowsNow) (pc := 1) (v := 82) fl_11_7 dX11_rowsNow_1 (is_81 hN) rfl ?_
  refine q_aload_n (M := md_X11_rowsNow) (pc := 4) dX11_rowsNow_4 rfl (by decide) ?_
  refine e_gI (M := md_X11_rowsNow) (pc := 5) (v := m 81 19) fl_11_306 dX11_rowsNow_5 (is_81 hN) rfl ?_
  refine e_rd (M := md_X11_rowsNow) (pc := 8) h dX11_rowsNow_8 (ar_82 hN) (fun v1 h => ?_)
  exact e_iret (M := md_X11_rowsNow) (pc := 9) h rfl dX11_rowsNow_9
def f_Mod_columnsNow (m : q_Mem) : q_Res :=
  q_rd m 83 2 (m 81 19) fun v1 =>
  q_rt v1 m
set_option maxRecDepth 20000 in
theorem ok_X11_columnsNow {r : Int × q_Mem} {m : q_Mem} {N : Nat} (hN : 126 ≤ N) (h : f_Mod_columnsNow m = some r) : q_C md_X11_columnsNow (q_room 1) 0 0 [q_A 81] (q_g N) m (some (q_I r.1), q_g N, r.2) := by
  refine q_ofR (by decide) 0 (ls := [q_A 81]) rfl (Nat.le_of_ble_eq_true rfl) ?_
  change q_E md_X11_columnsNow 1 N (some 0) r m 0 [q_A 81] []
  unfold f_Mod_columnsNow at h
  refine q_aload_n (M := md_X11_columnsNow) (pc := 0) dX11_columnsNow_0 rfl (by decide) ?_
  refine q_getP (M := md_X11_columnsNow) (pc := 1) (v := 83) fl_11_13 dX11_columnsNow_1 (is_81 hN) rfl ?_
  refine q_aload_n (M := md_X11_columnsNow) (pc := 4) dX11_columnsNow_4 rfl (by decide) ?_
  refine e_gI (M := md_X11_columnsNow) (pc := 5) (v := m 81 19) fl_11_306 dX11_columnsNow_5 (is_81 hN) rfl ?_
  refine e_rd (M := md_X11_columnsNow) (pc := 8) h dX11_columnsNow_8 (ar_83 hN) (fun v1 h => ?_)
  exact e_iret (M := md_X11_columnsNow) (pc := 9) h rfl dX11_columnsNow_9
def f_Mod_isVariable (l1 : Int) (m : q_Mem) : q_Res :=
  q_bd (f_Mod_many m) fun v1 m2 =>
  q_bd (f_Mod_isIn l1 0 (v1 - 1) m2) fun v3 m4 =>
  q_rz v3 m4
set_option maxRecDepth 20000 in
theorem ok_X11_isVariable {l1 : Int} {r : Int × q_Mem} {m : q_Mem} {N : Nat} (hN : 126 ≤ N) (h : f_Mod_isVariable l1 m = some r) : q_C md_X11_isVariable (q_room 2) 0 0 [q_A 81, q_I l1] (q_g N) m (some (q_I r.1), q_g N, r.2) := by
  refine q_ofR (by decide) 0 (ls := [q_A 81, q_I l1]) rfl (Nat.le_of_ble_eq_true rfl) ?_
  change q_E md_X11_isVariable 2 N (some 0) r m 0 [q_A 81, q_I l1] []
  unfold f_Mod_isVariable at h
  refine q_iload_n (M := md_X11_isVariable) (pc := 0) dX11_isVariable_0 rfl ?_
  refine q_iconst (M := md_X11_isVariable) (pc := 1) dX11_isVariable_1 ?_
  refine q_aload_n (M := md_X11_isVariable) (pc := 2) dX11_isVariable_2 rfl (by decide) ?_
  refine e_callVi (M := md_X11_isVariable) (pc := 3) (d' := 1) (av := []) (c := 81) h ml_11_315 im_X11_many se_X11_many dX11_isVariable_3 (fun v he => ok_X11_many hN  he) rfl (is_81 hN) ⟨_, _, rfl⟩ (by decide) (Nat.le_of_ble_eq_true rfl) ⟨by decide, by decide⟩ rfl (fun v1 m2 h => ?_)
  refine q_iconst (M := md_X11_isVariable) (pc := 6) dX11_isVariable_6 ?_
  refine q_isub (M := md_X11_isVariable) (pc := 7) dX11_isVariable_7 ?_
  refine e_callSi (M := md_X11_isVariable) (pc := 8) (d' := 1) (M' := md_X11_isIn) (av := [q_I l1, q_I 0, q_I (v1 - 1)]) h ml_11_221 sm_X11_isIn dX11_isVariable_8 (fun v he => ok_X11_isIn hN  he) rfl (Nat.le_of_ble_eq_true rfl) ⟨by decide, by decide⟩ rfl (fun v3 m4 h => ?_)
  exact e_zret (M := md_X11_isVariable) (pc := 11) h rfl dX11_isVariable_11
def f_Mod_isPoint (l1 l2 : Int) (m : q_Mem) : q_Res :=
  q_bd (f_Mod_rowsNow m) fun v1 m2 =>
  q_bd (f_Mod_isIn l1 0 (v1 - 1) m2) fun v3 m4 =>
  if q_w v3 = 0 then (q_rz 0 m4)
  else (q_bd (f_Mod_columnsNow m4) fun v5 m6 =>
  q_bd (f_Mod_isIn l2 0 (v5 - 1) m6) fun v7 m8 =>
  if q_w v7 = 0 then (q_rz 0 m8)
  else (q_rz 1 m8))
set_option maxRecDepth 20000 in
theorem ok_X11_isPoint {l1 l2 : Int} {r : Int × q_Mem} {m : q_Mem} {N : Nat} (hN : 126 ≤ N) (h : f_Mod_isPoint l1 l2 m = some r) : q_C md_X11_isPoint (q_room 2) 0 0 [q_A 81, q_I l1, q_I l2] (q_g N) m (some (q_I r.1), q_g N, r.2) := by
  refine q_ofR (by decide) 0 (ls := [q_A 81, q_I l1, q_I l2]) rfl (Nat.le_of_ble_eq_true rfl) ?_
  change q_E md_X11_isPoint 2 N (some 0) r m 0 [q_A 81, q_I l1, q_I l2] []
  unfold f_Mod_isPoint at h
  refine q_iload_n (M := md_X11_isPoint) (pc := 0) dX11_isPoint_0 rfl ?_
  refine q_iconst (M := md_X11_isPoint) (pc := 1) dX11_isPoint_1 ?_
  refine q_aload_n (M := md_X11_isPoint) (pc := 2) dX11_isPoint_2 rfl (by decide) ?_
  refine e_callVi (M := md_X11_isPoint) (pc := 3) (d' := 1) (av := []) (c := 81) h ml_11_318 im_X11_rowsNow se_X11_rowsNow dX11_isPoint_3 (fun v he => ok_X11_rowsNow hN  he) rfl (is_81 hN) ⟨_, _, rfl⟩ (by decide) (Nat.le_of_ble_eq_true rfl) ⟨by decide, by decide⟩ rfl (fun v1 m2 h => ?_)
  refine q_iconst (M := md_X11_isPoint) (pc := 6) dX11_isPoint_6 ?_
  refine q_isub (M := md_X11_isPoint) (pc := 7) dX11_isPoint_7 ?_
  refine e_callSi (M := md_X11_isPoint) (pc := 8) (d' := 1) (M' := md_X11_isIn) (av := [q_I l1, q_I 0, q_I (v1 - 1)]) h ml_11_221 sm_X11_isIn dX11_isPoint_8 (fun v he => ok_X11_isIn hN  he) rfl (Nat.le_of_ble_eq_true rfl) ⟨by decide, by decide⟩ rfl (fun v3 m4 h => ?_)
  refine e_if_eq (M := md_X11_isPoint) (pc := 11) (tgt := 32) h rfl dX11_isPoint_11 (by decide) (fun h => ?_) (fun h => ?_)
  · refine q_iconst (M := md_X11_isPoint) (pc := 32) dX11_isPoint_32 ?_
    exact e_zret (M := md_X11_isPoint) (pc := 33) h rfl dX11_isPoint_33
  · refine q_iload_n (M := md_X11_isPoint) (pc := 14) dX11_isPoint_14 rfl ?_
    refine q_iconst (M := md_X11_isPoint) (pc := 15) dX11_isPoint_15 ?_
    refine q_aload_n (M := md_X11_isPoint) (pc := 16) dX11_isPoint_16 rfl (by decide) ?_
    refine e_callVi (M := md_X11_isPoint) (pc := 17) (d' := 1) (av := []) (c := 81) h ml_11_321 im_X11_columnsNow se_X11_columnsNow dX11_isPoint_17 (fun v he => ok_X11_columnsNow hN  he) rfl (is_81 hN) ⟨_, _, rfl⟩ (by decide) (Nat.le_of_ble_eq_true rfl) ⟨by decide, by decide⟩ rfl (fun v5 m6 h => ?_)
    refine q_iconst (M := md_X11_isPoint) (pc := 20) dX11_isPoint_20 ?_
    refine q_isub (M := md_X11_isPoint) (pc := 21) dX11_isPoint_21 ?_
    refine e_callSi (M := md_X11_isPoint) (pc := 22) (d' := 1) (M' := md_X11_isIn) (av := [q_I l2, q_I 0, q_I (v5 - 1)]) h ml_11_221 sm_X11_isIn dX11_isPoint_22 (fun v he => ok_X11_isIn hN  he) rfl (Nat.le_of_ble_eq_true rfl) ⟨by decide, by decide⟩ rfl (fun v7 m8 h => ?_)
    refine e_if_eq (M := md_X11_isPoint) (pc := 25) (tgt := 32) h rfl dX11_isPoint_25 (by decide) (fun h => ?_) (fun h => ?_)
    · refine q_iconst (M := md_X11_isPoint) (pc := 32) dX11_isPoint_32 ?_
      exact e_zret (M := md_X11_isPoint) (pc := 33) h rfl dX11_isPoint_33
    · refine q_iconst (M := md_X11_isPoint) (pc := 28) dX11_isPoint_28 ?_
      refine q_goto (M := md_X11_isPoint) (pc := 29) (tgt := 33) dX11_isPoint_29 (by decide) ?_
      exact e_zret (M := md_X11_isPoint) (pc := 33) h rfl dX11_isPoint_33
def f_Mod_isThere (l1 : Int) (m : q_Mem) : q_Res :=
  q_dv l1 10 fun v1 =>
  q_md l1 10 fun v2 =>
  q_bd (f_Mod_isPoint v1 v2 m) fun v3 m4 =>
  q_rz v3 m4
set_option maxRecDepth 20000 in
theorem ok_X11_isThere {l1 : Int} {r : Int × q_Mem} {m : q_Mem} {N : Nat} (hN : 126 ≤ N) (h : f_Mod_isThere l1 m = some r) : q_C md_X11_isThere (q_room 3) 0 0 [q_A 81, q_I l1] (q_g N) m (some (q_I r.1), q_g N, r.2) := by
  refine q_ofR (by decide) 0 (ls := [q_A 81, q_I l1]) rfl (Nat.le_of_ble_eq_true rfl) ?_
  change q_E md_X11_isThere 3 N (some 0) r m 0 [q_A 81, q_I l1] []
  unfold f_Mod_isThere at h
  refine q_aload_n (M := md_X11_isThere) (pc := 0) dX11_isThere_0 rfl (by decide) ?_
  refine q_iload_n (M := md_X11_isThere) (pc := 1) dX11_isThere_1 rfl ?_
  refine q_bipush (M := md_X11_isThere) (pc := 2) (x := 10) dX11_isThere_2 (by decide) ?_
  refine e_dv (M := md_X11_isThere) (pc := 4) h dX11_isThere_4 (fun v1 h => ?_)
  refine q_iload_n (M := md_X11_isThere) (pc := 5) dX11_isThere_5 rfl ?_
  refine q_bipush (M := md_X11_isThere) (pc := 6) (x := 10) dX11_isThere_6 (by decide) ?_
  refine e_md (M := md_X11_isThere) (pc := 8) h dX11_isThere_8 (fun v2 h => ?_)
  refine e_callVi (M := md_X11_isThere) (pc := 9) (d' := 2) (av := [q_I v1, q_I v2]) (c := 81) h ml_11_324 im_X11_isPoint se_X11_isPoint dX11_isThere_9 (fun v he => ok_X11_isPoint hN  he) rfl (is_81 hN) ⟨_, _, rfl⟩ (by decide) (Nat.le_of_ble_eq_true rfl) ⟨by decide, by decide⟩ rfl (fun v3 m4 h => ?_)
  exact e_zret (M := md_X11_isThere) (pc := 12) h rfl dX11_isThere_12
def f_Mod_offsetsNow (m : q_Mem) : q_Res :=
  q_rd m 87 2 (m 81 19) fun v1 =>
  q_rt v1 m
set_option maxRecDepth 20000 in
theorem ok_X11_offsetsNow {r : Int × q_Mem} {m : q_Mem} {N : Nat} (hN : 126 ≤ N) (h : f_Mod_offsetsNow m = some r) : q_C md_X11_offsetsNow (q_room 1) 0 0 [q_A 81] (q_g N) m (some (q_I r.1), q_g N, r.2) := by
  refine q_ofR (by decide) 0 (ls := [q_A 81]) rfl (Nat.le_of_ble_eq_true rfl) ?_
  change q_E md_X11_offsetsNow 1 N (some 0) r m 0 [q_A 81] []
  unfold f_Mod_offsetsNow at h
  refine q_aload_n (M := md_X11_offsetsNow) (pc := 0) dX11_offsetsNow_0 rfl (by decide) ?_
  refine q_getP (M := md_X11_offsetsNow) (pc := 1) (v := 87) fl_11_25 dX11_offsetsNow_1 (is_81 hN) rfl ?_
  refine q_aload_n (M := md_X11_offsetsNow) (pc := 4) dX11_offsetsNow_4 rfl (by decide) ?_
  refine e_gI (M := md_X11_offsetsNow) (pc := 5) (v := m 81 19) fl_11_306 dX11_offsetsNow_5 (is_81 hN) rfl ?_
  refine e_rd (M := md_X11_offsetsNow) (pc := 8) h dX11_offsetsNow_8 (ar_87 hN) (fun v1 h => ?_)
  exact e_iret (M := md_X11_offsetsNow) (pc := 9) h rfl dX11_offsetsNow_9
def f_Mod_byA (l1 : Int) (m : q_Mem) : q_Res :=
  q_rd m 96 24 ((12 * (m 81 19)) + l1) fun v1 =>
  q_rt v1 m
set_option maxRecDepth 20000 in
theorem ok_X11_byA {l1 : Int} {r : Int × q_Mem} {m : q_Mem} {N : Nat} (hN : 126 ≤ N) (h : f_Mod_byA l1 m = some r) : q_C md_X11_byA (q_room 1) 0 0 [q_A 81, q_I l1] (q_g N) m (some (q_I r.1), q_g N, r.2) := by
  refine q_ofR (by decide) 0 (ls := [q_A 81, q_I l1]) rfl (Nat.le_of_ble_eq_true rfl) ?_
  change q_E md_X11_byA 1 N (some 0) r m 0 [q_A 81, q_I l1] []
  unfold f_Mod_byA at h
  refine q_aload_n (M := md_X11_byA) (pc := 0) dX11_byA_0 rfl (by decide) ?_
  refine q_getP (M := md_X11_byA) (pc := 1) (v := 96) fl_11_52 dX11_byA_1 (is_81 hN) rfl ?_
  refine q_bipush (M := md_X11_byA) (pc := 4) (x := 12) dX11_byA_4 (by decide) ?_
  refine q_aload_n (M := md_X11_byA) (pc := 6) dX11_byA_6 rfl (by decide) ?_
  refine e_gI (M := md_X11_byA) (pc := 7) (v := m 81 19) fl_11_306 dX11_byA_7 (is_81 hN) rfl ?_
  refine q_imul (M := md_X11_byA) (pc := 10) dX11_byA_10 ?_
  refine q_iload_n (M := md_X11_byA) (pc := 11) dX11_byA_11 rfl ?_
  refine q_iadd (M := md_X11_byA) (pc := 12) dX11_byA_12 ?_
  refine e_rd (M := md_X11_byA) (pc := 13) h dX11_byA_13 (ar_96 hN) (fun v1 h => ?_)
  exact e_iret (M := md_X11_byA) (pc := 14) h rfl dX11_byA_14
def f_Mod_byB (l1 : Int) (m : q_Mem) : q_Res :=
  q_rd m 97 24 ((12 * (m 81 19)) + l1) fun v1 =>
  q_rt v1 m
set_option maxRecDepth 20000 in
theorem ok_X11_byB {l1 : Int} {r : Int × q_Mem} {m : q_Mem} {N : Nat} (hN : 126 ≤ N) (h : f_Mod_byB l1 m = some r) : q_C md_X11_byB (q_room 1) 0 0 [q_A 81, q_I l1] (q_g N) m (some (q_I r.1), q_g N, r.2) := by
  refine q_ofR (by decide) 0 (ls := [q_A 81, q_I l1]) rfl (Nat.le_of_ble_eq_true rfl) ?_
  change q_E md_X11_byB 1 N (some 0) r m 0 [q_A 81, q_I l1] []
  unfold f_Mod_byB at h
  refine q_aload_n (M := md_X11_byB) (pc := 0) dX11_byB_0 rfl (by decide) ?_
  refine q_getP (M := md_X11_byB) (pc := 1) (v := 97) fl_11_55 dX11_byB_1 (is_81 hN) rfl ?_
  refine q_bipush (M := md_X11_byB) (pc := 4) (x := 12) dX11_byB_4 (by decide) ?_
  refine q_aload_n (M := md_X11_byB) (pc := 6) dX11_byB_6 rfl (by decide) ?_
  refine e_gI (M := md_X11_byB) (pc := 7) (v := m 81 19) fl_11_306 dX11_byB_7 (is_81 hN) rfl ?_
  refine q_imul (M := md_X11_byB) (pc := 10) dX11_byB_10 ?_
  refine q_iload_n (M := md_X11_byB) (pc := 11) dX11_byB_11 rfl ?_
  refine q_iadd (M := md_X11_byB) (pc := 12) dX11_byB_12 ?_
  refine e_rd (M := md_X11_byB) (pc := 13) h dX11_byB_13 (ar_97 hN) (fun v1 h => ?_)
  exact e_iret (M := md_X11_byB) (pc := 14) h rfl dX11_byB_14
def f_Mod_readBy (l1 l2 : Int) (m : q_Mem) : q_Res :=
  q_dv l1 10 fun v1 =>
  q_bd (f_Mod_byA l2 m) fun v2 m3 =>
  q_md l1 10 fun v4 =>
  q_bd (f_Mod_byB l2 m3) fun v5 m6 =>
  q_bd (f_Mod_isPoint (v1 + v2) (v4 + v5) m6) fun v7 m8 =>
  if q_w v7 = 0 then (q_rt (-1) m8)
  else (q_rt ((10 * (v1 + v2)) + (v4 + v5)) m8)
set_option maxRecDepth 20000 in
theorem ok_X11_readBy {l1 l2 : Int} {r : Int × q_Mem} {m : q_Mem} {N : Nat} (hN : 126 ≤ N) (h : f_Mod_readBy l1 l2 m = some r) : q_C md_X11_readBy (q_room 3) 0 0 [q_A 81, q_I l1, q_I l2] (q_g N) m (some (q_I r.1), q_g N, r.2) := by
  refine q_ofR (by decide) 2 (ls := [q_A 81, q_I l1, q_I l2, q_N, q_N]) rfl (Nat.le_of_ble_eq_true rfl) ?_
  change q_E md_X11_readBy 3 N (some 0) r m 0 [q_A 81, q_I l1, q_I l2, q_N, q_N] []
  unfold f_Mod_readBy at h
  refine q_iload_n (M := md_X11_readBy) (pc := 0) dX11_readBy_0 rfl ?_
  refine q_bipush (M := md_X11_readBy) (pc := 1) (x := 10) dX11_readBy_1 (by decide) ?_
  refine e_dv (M := md_X11_readBy) (pc := 3) h dX11_readBy_3 (fun v1 h => ?_)
  refine q_aload_n (M := md_X11_readBy) (pc := 4) dX11_readBy_4 rfl (by decide) ?_
  refine q_iload_n (M := md_X11_readBy) (pc := 5) dX11_readBy_5 rfl ?_
  refine e_callVi (M := md_X11_readBy) (pc := 6) (d' := 1) (av := [q_I l2]) (c := 81) h ml_11_327 im_X11_byA se_X11_byA dX11_readBy_6 (fun v he => ok_X11_byA hN  he) rfl (is_81 hN) ⟨_, _, rfl⟩ (by decide) (Nat.le_of_ble_eq_true rfl) ⟨by decide, by decide⟩ rfl (fun v2 m3 h => ?_)
  refine q_iadd (M := md_X11_readBy) (pc := 9) dX11_readBy_9 ?_
  refine e_ist_n (M := md_X11_readBy) (pc := 10) (ls' := [q_A 81, q_I l1, q_I l2, q_I (v1 + v2), q_N]) dX11_readBy_10 (by decide) (q_pl rfl) rfl ?_
  refine q_iload_n (M := md_X11_readBy) (pc := 11) dX11_readBy_11 rfl ?_
  refine q_bipush (M := md_X11_readBy) (pc := 12) (x := 10) dX11_readBy_12 (by decide) ?_
  refine e_md (M := md_X11_readBy) (pc := 14) h dX11_readBy_14 (fun v4 h => ?_)
  refine q_aload_n (M := md_X11_readBy) (pc := 15) dX11_readBy_15 rfl (by decide) ?_
  refine q_iload_n (M := md_X11_readBy) (pc := 16) dX11_readBy_16 rfl ?_
  refine e_callVi (M := md_X11_readBy) (pc := 17) (d' := 1) (av := [q_I l2]) (c := 81) h ml_11_330 im_X11_byB se_X11_byB dX11_readBy_17 (fun v he => ok_X11_byB hN  he) rfl (is_81 hN) ⟨_, _, rfl⟩ (by decide) (Nat.le_of_ble_eq_true rfl) ⟨by decide, by decide⟩ rfl (fun v5 m6 h => ?_)
  refine q_iadd (M := md_X11_readBy) (pc := 20) dX11_readBy_20 ?_
  refine e_ist (M := md_X11_readBy) (pc := 21) (ls' := [q_A 81, q_I l1, q_I l2, q_I (v1 + v2), q_I (v4 + v5)]) dX11_readBy_21 (by decide) (q_pl rfl) rfl ?_
  refine q_aload_n (M := md_X11_readBy) (pc := 23) dX11_readBy_23 rfl (by decide) ?_
  refine q_iload_n (M := md_X11_readBy) (pc := 24) dX11_readBy_24 rfl ?_
  refine q_iload (M := md_X11_readBy) (pc := 25) dX11_readBy_25 rfl ?_
  refine e_callVi (M := md_X11_readBy) (pc := 27) (d' := 2) (av := [q_I (v1 + v2), q_I (v4 + v5)]) (c := 81) h ml_11_324 im_X11_isPoint se_X11_isPoint dX11_readBy_27 (fun v he => ok_X11_isPoint hN  he) rfl (is_81 hN) ⟨_, _, rfl⟩ (by decide) (Nat.le_of_ble_eq_true rfl) ⟨by decide, by decide⟩ rfl (fun v7 m8 h => ?_)
  refine e_if_eq (M := md_X11_readBy) (pc := 30) (tgt := 43) h rfl dX11_readBy_30 (by decide) (fun h => ?_) (fun h => ?_)
  · refine q_iconst (M := md_X11_readBy) (pc := 43) dX11_readBy_43 ?_
    exact e_iret (M := md_X11_readBy) (pc := 44) h rfl dX11_readBy_44
  · refine q_bipush (M := md_X11_readBy) (pc := 33) (x := 10) dX11_readBy_33 (by decide) ?_
    refine q_iload_n (M := md_X11_readBy) (pc := 35) dX11_readBy_35 rfl ?_
    refine q_imul (M := md_X11_readBy) (pc := 36) dX11_readBy_36 ?_
    refine q_iload (M := md_X11_readBy) (pc := 37) dX11_readBy_37 rfl ?_
    refine q_iadd (M := md_X11_readBy) (pc := 39) dX11_readBy_39 ?_
    refine q_goto (M := md_X11_readBy) (pc := 40) (tgt := 44) dX11_readBy_40 (by decide) ?_
    exact e_iret (M := md_X11_readBy) (pc := 44) h rfl dX11_readBy_44
def f_Mod_readerBy (l1 l2 : Int) (m : q_Mem) : q_Res :=
  q_dv l1 10 fun v1 =>
  q_bd (f_Mod_byA l2 m) fun v2 m3 =>
  q_md l1 10 fun v4 =>
  q_bd (f_Mod_byB l2 m3) fun v5 m6 =>
  q_bd (f_Mod_isPoint (v1 - v2) (v4 - v5) m6) fun v7 m8 =>
  if q_w v7 = 0 then (q_rt (-1) m8)
  else (q_rt ((10 * (v1 - v2)) + (v4 - v5)) m8)
set_option maxRecDepth 20000 in
theorem ok_X11_readerBy {l1 l2 : Int} {r : Int × q_Mem} {m : q_Mem} {N : Nat} (hN : 126 ≤ N) (h : f_Mod_readerBy l1 l2 m = some r) : q_C md_X11_readerBy (q_room 3) 0 0 [q_A 81, q_I l1, q_I l2] (q_g N) m (some (q_I r.1), q_g N, r.2) := by
  refine q_ofR (by decide) 2 (ls := [q_A 81, q_I l1, q_I l2, q_N, q_N]) rfl (Nat.le_of_ble_eq_true rfl) ?_
  change q_E md_X11_readerBy 3 N (some 0) r m 0 [q_A 81, q_I l1, q_I l2, q_N, q_N] []
  unfold f_Mod_readerBy at h
  refine q_iload_n (M := md_X11_readerBy) (pc := 0) dX11_readerBy_0 rfl ?_
  refine q_bipush (M := md_X11_readerBy) (pc := 1) (x := 10) dX11_readerBy_1 (by decide) ?_
  refine e_dv (M := md_X11_readerBy) (pc := 3) h dX11_readerBy_3 (fun v1 h => ?_)
  refine q_aload_n (M := md_X11_readerBy) (pc := 4) dX11_readerBy_4 rfl (by decide) ?_
  refine q_iload_n (M := md_X11_readerBy) (pc := 5) dX11_readerBy_5 rfl ?_
  refine e_callVi (M := md_X11_readerBy) (pc := 6) (d' := 1) (av := [q_I l2]) (c := 81) h ml_11_327 im_X11_byA se_X11_byA dX11_readerBy_6 (fun v he => ok_X11_byA hN  he) rfl (is_81 hN) ⟨_, _, rfl⟩ (by decide) (Nat.le_of_ble_eq_true rfl) ⟨by decide, by decide⟩ rfl (fun v2 m3 h => ?_)
  refine q_isub (M := md_X11_readerBy) (pc := 9) dX11_readerBy_9 ?_
  refine e_ist_n (M := md_X11_readerBy) (pc := 10) (ls' := [q_A 81, q_I l1, q_I l2, q_I (v1 - v2), q_N]) dX11_readerBy_10 (by decide) (q_pl rfl) rfl ?_
  refine q_iload_n (M := md_X11_readerBy) (pc := 11) dX11_readerBy_11 rfl ?_
  refine q_bipush (M := md_X11_readerBy) (pc := 12) (x := 10) dX11_readerBy_12 (by decide) ?_
  refine e_md (M := md_X11_readerBy) (pc := 14) h dX11_readerBy_14 (fun v4 h => ?_)
  refine q_aload_n (M := md_X11_readerBy) (pc := 15) dX11_readerBy_15 rfl (by decide) ?_
  refine q_iload_n (M := md_X11_readerBy) (pc := 16) dX11_readerBy_16 rfl ?_
  refine e_callVi (M := md_X11_readerBy) (pc := 17) (d' := 1) (av := [q_I l2]) (c := 81) h ml_11_330 im_X11_byB se_X11_byB dX11_readerBy_17 (fun v he => ok_X11_byB hN  he) rfl (is_81 hN) ⟨_, _, rfl⟩ (by decide) (Nat.le_of_ble_eq_true rfl) ⟨by decide, by decide⟩ rfl (fun v5 m6 h => ?_)
  refine q_isub (M := md_X11_readerBy) (pc := 20) dX11_readerBy_20 ?_
  refine e_ist (M := md_X11_readerBy) (pc := 21) (ls' := [q_A 81, q_I l1, q_I l2, q_I (v1 - v2), q_I (v4 - v5)]) dX11_readerBy_21 (by decide) (q_pl rfl) rfl ?_
  refine q_aload_n (M := md_X11_readerBy) (pc := 23) dX11_readerBy_23 rfl (by decide) ?_
  refine q_iload_n (M := md_X11_readerBy) (pc := 24) dX11_readerBy_24 rfl ?_
  refine q_iload (M := md_X11_readerBy) (pc := 25) dX11_readerBy_25 rfl ?_
  refine e_callVi (M := md_X11_readerBy) (pc := 27) (d' := 2) (av := [q_I (v1 - v2), q_I (v4 - v5)]) (c := 81) h ml_11_324 im_X11_isPoint se_X11_isPoint dX11_readerBy_27 (fun v he => ok_X11_isPoint hN  he) rfl (is_81 hN) ⟨_, _, rfl⟩ (by decide) (Nat.le_of_ble_eq_true rfl) ⟨by decide, by decide⟩ rfl (fun v7 m8 h => ?_)
  refine e_if_eq (M := md_X11_readerBy) (pc := 30) (tgt := 43) h rfl dX11_readerBy_30 (by decide) (fun h => ?_) (fun h => ?_)
  · refine q_iconst (M := md_X11_readerBy) (pc := 43) dX11_readerBy_43 ?_
    exact e_iret (M := md_X11_readerBy) (pc := 44) h rfl dX11_readerBy_44
  · refine q_bipush (M := md_X11_readerBy) (pc := 33) (x := 10) dX11_readerBy_33 (by decide) ?_
    refine q_iload_n (M := md_X11_readerBy) (pc := 35) dX11_readerBy_35 rfl ?_
    refine q_imul (M := md_X11_readerBy) (pc := 36) dX11_readerBy_36 ?_
    refine q_iload (M := md_X11_readerBy) (pc := 37) dX11_readerBy_37 rfl ?_
    refine q_iadd (M := md_X11_readerBy) (pc := 39) dX11_readerBy_39 ?_
    refine q_goto (M := md_X11_readerBy) (pc := 40) (tgt := 44) dX11_readerBy_40 (by decide) ?_
    exact e_iret (M := md_X11_readerBy) (pc := 44) h rfl dX11_readerBy_44
def f_Mod_depthBy_b54 (k4 : Int → Int → Int → q_Mem → q_Res) (l1 l2 l3 : Int) (m : q_Mem) : q_Res :=
  k4 l1 l2 (l3 + 1) m
set_option maxRecDepth 20000 in
theorem w_Mod_depthBy_b54 {k4 : Int → Int → Int → q_Mem → q_Res} {l1 l2 l3 : Int} {r : Int × q_Mem} {m : q_Mem} {N : Nat} (hN : 126 ≤ N) (hk4 : ∀ (l1 l2 l3 : Int) (m : q_Mem), k4 l1 l2 l3 m = some r → q_E md_X11_depthBy 4 N (some 0) r m 4 [q_A 81, q_I l1, q_I l2, q_I l3, q_N] []) (h : f_Mod_depthBy_b54 k4 l1 l2 l3 m = some r) : q_E md_X11_depthBy 4 N (some 0) r m 54 [q_A 81, q_I l1, q_I l2, q_I l3, q_N] [] := by
  unfold f_Mod_depthBy_b54 at h
  refine e_inc (M := md_X11_depthBy) (pc := 54) (x := l3) (ls' := [q_A 81, q_I l1, q_I l2, q_I (l3 + 1), q_N]) dX11_depthBy_54 rfl (by decide) (q_pl rfl) rfl ?_
  refine q_goto (M := md_X11_depthBy) (pc := 57) (tgt := 4) dX11_depthBy_57 (by decide) ?_
  exact q_weak (hk4 _ _ _ _  h) ⟨Or.inr rfl, Or.inr rfl, Or.inr rfl, Or.inr rfl, Or.inl rfl, trivial⟩
def f_Mod_depthBy_b4 (k4 : Int → Int → Int → q_Mem → q_Res) (l1 l2 l3 : Int) (m : q_Mem) : q_Res :=
  q_bd (f_Mod_offsetsNow m) fun v1 m2 =>
  if q_w v1 ≤ q_w l3 then (q_rt l2 m2)
  else (q_bd (f_Mod_readBy l1 l3 m2) fun v3 m4 =>
  if 0 ≤ q_w v3 then (q_rd m4 106 100 v3 fun v5 =>
  if 0 ≤ q_w v5 then (q_rd m4 106 100 v3 fun v6 =>
  q_bd (f_Mod_more l2 (v6 + 1) m4) fun v7 m8 =>
  f_Mod_depthBy_b54 k4 l1 v7 l3 m8)
  else (q_rt (-1) m4))
  else (f_Mod_depthBy_b54 k4 l1 l2 l3 m4))
set_option maxRecDepth 20000 in
theorem w_Mod_depthBy_b4 {k4 : Int → Int → Int → q_Mem → q_Res} {l1 l2 l3 : Int} {r : Int × q_Mem} {m : q_Mem} {N : Nat} (hN : 126 ≤ N) (hk4 : ∀ (l1 l2 l3 : Int) (m : q_Mem), k4 l1 l2 l3 m = some r → q_E md_X11_depthBy 4 N (some 0) r m 4 [q_A 81, q_I l1, q_I l2, q_I l3, q_N] []) (h : f_Mod_depthBy_b4 k4 l1 l2 l3 m = some r) : q_E md_X11_depthBy 4 N (some 0) r m 4 [q_A 81, q_I l1, q_I l2, q_I l3, q_N] [] := by
  unfold f_Mod_depthBy_b4 at h
  refine q_iload_n (M := md_X11_depthBy) (pc := 4) dX11_depthBy_4 rfl ?_
  refine q_aload_n (M := md_X11_depthBy) (pc := 5) dX11_depthBy_5 rfl (by decide) ?_
  refine e_callVi (M := md_X11_depthBy) (pc := 6) (d' := 1) (av := []) (c := 81) h ml_11_339 im_X11_offsetsNow se_X11_offsetsNow dX11_depthBy_6 (fun v he => ok_X11_offsetsNow hN  he) rfl (is_81 hN) ⟨_, _, rfl⟩ (by decide) (Nat.le_of_ble_eq_true rfl) ⟨by decide, by decide⟩ rfl (fun v1 m2 h => ?_)
  refine e_icmp_ge (M := md_X11_depthBy) (pc := 9) (tgt := 60) h rfl rfl dX11_depthBy_9 (by decide) (fun h => ?_) (fun h => ?_)
  · refine q_iload_n (M := md_X11_depthBy) (pc := 60) dX11_depthBy_60 rfl ?_
    exact e_iret (M := md_X11_depthBy) (pc := 61) h rfl dX11_depthBy_61
  · refine q_aload_n (M := md_X11_depthBy) (pc := 12) dX11_depthBy_12 rfl (by decide) ?_
    refine q_iload_n (M := md_X11_depthBy) (pc := 13) dX11_depthBy_13 rfl ?_
    refine q_iload_n (M := md_X11_depthBy) (pc := 14) dX11_depthBy_14 rfl ?_
    refine e_callVi (M := md_X11_depthBy) (pc := 15) (d' := 3) (av := [q_I l1, q_I l3]) (c := 81) h ml_11_342 im_X11_readBy se_X11_readBy dX11_depthBy_15 (fun v he => ok_X11_readBy hN  he) rfl (is_81 hN) ⟨_, _, rfl⟩ (by decide) (Nat.le_of_ble_eq_true rfl) ⟨by decide, by decide⟩ rfl (fun v3 m4 h => ?_)
    refine e_ist (M := md_X11_depthBy) (pc := 18) (ls' := [q_A 81, q_I l1, q_I l2, q_I l3, q_I v3]) dX11_depthBy_18 (by decide) (q_pl rfl) rfl ?_
    refine q_iload (M := md_X11_depthBy) (pc := 20) dX11_depthBy_20 rfl ?_
    refine e_if_ge (M := md_X11_depthBy) (pc := 22) (tgt := 28) h rfl dX11_depthBy_22 (by decide) (fun h => ?_) (fun h => ?_)
    · refine q_aload_n (M := md_X11_depthBy) (pc := 28) dX11_depthBy_28 rfl (by decide) ?_
      refine q_getP (M := md_X11_depthBy) (pc := 29) (v := 106) fl_11_87 dX11_depthBy_29 (is_81 hN) rfl ?_
      refine q_iload (M := md_X11_depthBy) (pc := 32) dX11_depthBy_32 rfl ?_
      refine e_rd (M := md_X11_depthBy) (pc := 34) h dX11_depthBy_34 (ar_106 hN) (fun v5 h => ?_)
      refine e_if_ge (M := md_X11_depthBy) (pc := 35) (tgt := 40) h rfl dX11_depthBy_35 (by decide) (fun h => ?_) (fun h => ?_)
      · refine q_iload_n (M := md_X11_depthBy) (pc := 40) dX11_depthBy_40 rfl ?_
        refine q_aload_n (M := md_X11_depthBy) (pc := 41) dX11_depthBy_41 rfl (by decide) ?_
        refine q_getP (M := md_X11_depthBy) (pc := 42) (v := 106) fl_11_87 dX11_depthBy_42 (is_81 hN) rfl ?_
        refine q_iload (M := md_X11_depthBy) (pc := 45) dX11_depthBy_45 rfl ?_
        refine e_rd (M := md_X11_depthBy) (pc := 47) h dX11_depthBy_47 (ar_106 hN) (fun v6 h => ?_)
        refine q_iconst (M := md_X11_depthBy) (pc := 48) dX11_depthBy_48 ?_
        refine q_iadd (M := md_X11_depthBy) (pc := 49) dX11_depthBy_49 ?_
        refine e_callSi (M := md_X11_depthBy) (pc := 50) (d' := 1) (M' := md_X11_more) (av := [q_I l2, q_I (v6 + 1)]) h ml_11_345 sm_X11_more dX11_depthBy_50 (fun v he => ok_X11_more hN  he) rfl (Nat.le_of_ble_eq_true rfl) ⟨by decide, by decide⟩ rfl (fun v7 m8 h => ?_)
        refine e_ist_n (M := md_X11_depthBy) (pc := 53) (ls' := [q_A 81, q_I l1, q_I v7, q_I l3, q_I v3]) dX11_depthBy_53 (by decide) (q_pl rfl) rfl ?_
        exact q_weak (w_Mod_depthBy_b54 hN hk4  h) ⟨Or.inr rfl, Or.inr rfl, Or.inr rfl, Or.inr rfl, Or.inl rfl, trivial⟩
      · refine q_iconst (M := md_X11_depthBy) (pc := 38) dX11_depthBy_38 ?_
        exact e_iret (M := md_X11_depthBy) (pc := 39) h rfl dX11_depthBy_39
    · refine q_goto (M := md_X11_depthBy) (pc := 25) (tgt := 54) dX11_depthBy_25 (by decide) ?_
      exact q_weak (w_Mod_depthBy_b54 hN hk4  h) ⟨Or.inr rfl, Or.inr rfl, Or.inr rfl, Or.inr rfl, Or.inl rfl, trivial⟩
def f_Mod_depthBy_l4 : Nat → Int → Int → Int → q_Mem → q_Res
  | 0 => fun _ _ _ _ => none
  | n + 1 => fun l1 l2 l3 m => f_Mod_depthBy_b4 (f_Mod_depthBy_l4 n) l1 l2 l3 m
theorem w_Mod_depthBy_l4 {r : Int × q_Mem} {N : Nat} (hN : 126 ≤ N) : ∀ (n : Nat) (l1 l2 l3 : Int) (m : q_Mem), f_Mod_depthBy_l4 n l1 l2 l3 m = some r → q_E md_X11_depthBy 4 N (some 0) r m 4 [q_A 81, q_I l1, q_I l2, q_I l3, q_N] [] := by
  intro n
  induction n with
  | zero => intro l1 l2 l3 m h; exact q_no h
  | succ n ih =>
    intro l1 l2 l3 m h
    exact w_Mod_depthBy_b4 hN (fun l1 l2 l3 m h => ih l1 l2 l3 m h) h
def f_Mod_depthBy (l1 : Int) (m : q_Mem) : q_Res :=
  f_Mod_depthBy_l4 q_F l1 0 0 m
set_option maxRecDepth 20000 in
theorem ok_X11_depthBy {l1 : Int} {r : Int × q_Mem} {m : q_Mem} {N : Nat} (hN : 126 ≤ N) (h : f_Mod_depthBy l1 m = some r) : q_C md_X11_depthBy (q_room 4) 0 0 [q_A 81, q_I l1] (q_g N) m (some (q_I r.1), q_g N, r.2) := by
  refine q_ofR (by decide) 3 (ls := [q_A 81, q_I l1, q_N, q_N, q_N]) rfl (Nat.le_of_ble_eq_true rfl) ?_
  change q_E md_X11_depthBy 4 N (some 0) r m 0 [q_A 81, q_I l1, q_N, q_N, q_N] []
  unfold f_Mod_depthBy at h
  refine q_iconst (M := md_X11_depthBy) (pc := 0) dX11_depthBy_0 ?_
  refine e_ist_n (M := md_X11_depthBy) (pc := 1) (ls' := [q_A 81, q_I l1, q_I 0, q_N, q_N]) dX11_depthBy_1 (by decide) (q_pl rfl) rfl ?_
  refine q_iconst (M := md_X11_depthBy) (pc := 2) dX11_depthBy_2 ?_
  refine e_ist_n (M := md_X11_depthBy) (pc := 3) (ls' := [q_A 81, q_I l1, q_I 0, q_I 0, q_N]) dX11_depthBy_3 (by decide) (q_pl rfl) rfl ?_
  exact q_weak (w_Mod_depthBy_l4 hN q_F _ _ _ _  h) ⟨Or.inr rfl, Or.inr rfl, Or.inr rfl, Or.inr rfl, Or.inl rfl, trivial⟩
def f_Mod_layDepths_b87 (k23 : Int → q_Mem → q_Res) (k31 : Int → Int → q_Mem → q_Res) (l1 l2 : Int) (m : q_Mem) : q_Res :=
  k31 l1 (l2 + 1) m
set_option maxRecDepth 20000 in
theorem w_Mod_layDepths_b87 {k23 : Int → q_Mem → q_Res} {k31 : Int → Int → q_Mem → q_Res} {l1 l2 : Int} {r : Int × q_Mem} {m : q_Mem} {N : Nat} (hN : 126 ≤ N) (hk23 : ∀ (l1 : Int) (m : q_Mem), k23 l1 m = some r → q_E md_X11_layDepths 5 N (none) r m 23 [q_A 81, q_I l1, q_N] []) (hk31 : ∀ (l1 l2 : Int) (m : q_Mem), k31 l1 l2 m = some r → q_E md_X11_layDepths 5 N (none) r m 31 [q_A 81, q_I l1, q_I l2] []) (h : f_Mod_layDepths_b87 k23 k31 l1 l2 m = some r) : q_E md_X11_layDepths 5 N (none) r m 87 [q_A 81, q_I l1, q_I l2] [] := by
  unfold f_Mod_layDepths_b87 at h
  refine e_inc (M := md_X11_layDepths) (pc := 87) (x := l2) (ls' := [q_A 81, q_I l1, q_I (l2 + 1)]) dX11_layDepths_87 rfl (by decide) (q_pl rfl) rfl ?_
  refine q_goto (M := md_X11_layDepths) (pc := 90) (tgt := 31) dX11_layDepths_90 (by decide) ?_
  exact q_weak (hk31 _ _ _  h) ⟨Or.inr rfl, Or.inr rfl, Or.inr rfl, trivial⟩
def f_Mod_layDepths_b86 (k23 : Int → q_Mem → q_Res) (k31 : Int → Int → q_Mem → q_Res) (l2 s0 : Int) (m : q_Mem) : q_Res :=
  f_Mod_layDepths_b87 k23 k31 s0 l2 m
set_option maxRecDepth 20000 in
theorem w_Mod_layDepths_b86 {k23 : Int → q_Mem → q_Res} {k31 : Int → Int → q_Mem → q_Res} {l2 s0 : Int} {r : Int × q_Mem} {m : q_Mem} {N : Nat} (hN : 126 ≤ N) (hk23 : ∀ (l1 : Int) (m : q_Mem), k23 l1 m = some r → q_E md_X11_layDepths 5 N (none) r m 23 [q_A 81, q_I l1, q_N] []) (hk31 : ∀ (l1 l2 : Int) (m : q_Mem), k31 l1 l2 m = some r → q_E md_X11_layDepths 5 N (none) r m 31 [q_A 81, q_I l1, q_I l2] []) (h : f_Mod_layDepths_b86 k23 k31 l2 s0 m = some r) : q_E md_X11_layDepths 5 N (none) r m 86 [q_A 81, q_N, q_I l2] [q_I s0] := by
  unfold f_Mod_layDepths_b86 at h
  refine e_ist_n (M := md_X11_layDepths) (pc := 86) (ls' := [q_A 81, q_I s0, q_I l2]) dX11_layDepths_86 (by decide) (q_pl rfl) rfl ?_
  exact q_weak (w_Mod_layDepths_b87 hN hk23 hk31  h) ⟨Or.inr rfl, Or.inr rfl, Or.inr rfl, trivial⟩
def f_Mod_layDepths_b81 (k23 : Int → q_Mem → q_Res) (k31 : Int → Int → q_Mem → q_Res) (l2 : Int) (m : q_Mem) : q_Res :=
  f_Mod_layDepths_b86 k23 k31 l2 1 m
set_option maxRecDepth 20000 in
theorem w_Mod_layDepths_b81 {k23 : Int → q_Mem → q_Res} {k31 : Int → Int → q_Mem → q_Res} {l2 : Int} {r : Int × q_Mem} {m : q_Mem} {N : Nat} (hN : 126 ≤ N) (hk23 : ∀ (l1 : Int) (m : q_Mem), k23 l1 m = some r → q_E md_X11_layDepths 5 N (none) r m 23 [q_A 81, q_I l1, q_N] []) (hk31 : ∀ (l1 l2 : Int) (m : q_Mem), k31 l1 l2 m = some r → q_E md_X11_layDepths 5 N (none) r m 31 [q_A 81, q_I l1, q_I l2] []) (h : f_Mod_layDepths_b81 k23 k31 l2 m = some r) : q_E md_X11_layDepths 5 N (none) r m 81 [q_A 81, q_N, q_I l2] [] := by
  unfold f_Mod_layDepths_b81 at h
  refine q_iconst (M := md_X11_layDepths) (pc := 81) dX11_layDepths_81 ?_
  refine q_goto (M := md_X11_layDepths) (pc := 82) (tgt := 86) dX11_layDepths_82 (by decide) ?_
  exact q_weak (w_Mod_layDepths_b86 hN hk23 hk31  h) ⟨Or.inr rfl, Or.inl rfl, Or.inr rfl, trivial⟩
def f_Mod_layDepths_b31 (k23 : Int → q_Mem → q_Res) (k31 : Int → Int → q_Mem → q_Res) (l1 l2 : Int) (m : q_Mem) : q_Res :=
  if 100 ≤ q_w l2 then (k23 l1 m)
  else (q_bd (f_Mod_isThere l2 m) fun v1 m2 =>
  if q_w v1 = 0 then (f_Mod_layDepths_b87 k23 k31 l1 l2 m2)
  else (q_rd m2 106 100 l2 fun v3 =>
  if q_w v3 < 0 then (q_bd (f_Mod_depthBy l2 m2) fun v4 m5 =>
  q_wr m5 106 100 l2 v4 fun m6 =>
  if q_w l1 = 0 then (q_rd m6 106 100 l2 fun v7 =>
  if q_w v7 < 0 then (f_Mod_layDepths_b86 k23 k31 l2 0 m6)
  else (f_Mod_layDepths_b81 k23 k31 l2 m6))
  else (f_Mod_layDepths_b81 k23 k31 l2 m6))
  else (f_Mod_layDepths_b87 k23 k31 l1 l2 m2)))
set_option maxRecDepth 20000 in
theorem w_Mod_layDepths_b31 {k23 : Int → q_Mem → q_Res} {k31 : Int → Int → q_Mem → q_Res} {l1 l2 : Int} {r : Int × q_Mem} {m : q_Mem} {N : Nat} (hN : 126 ≤ N) (hk23 : ∀ (l1 : Int) (m : q_Mem), k23 l1 m = some r → q_E md_X11_layDepths 5 N (none) r m 23 [q_A 81, q_I l1, q_N] []) (hk31 : ∀ (l1 l2 : Int) (m : q_Mem), k31 l1 l2 m = some r → q_E md_X11_layDepths 5 N (none) r m 31 [q_A 81, q_I l1, q_I l2] []) (h : f_Mod_layDepths_b31 k23 k31 l1 l2 m = some r) : q_E md_X11_layDepths 5 N (none) r m 31 [q_A 81, q_I l1, q_I l2] [] := by
  unfold f_Mod_layDepths_b31 at h
  refine q_iload_n (M := md_X11_layDepths) (pc := 31) dX11_layDepths_31 rfl ?_
  refine q_bipush (M := md_X11_layDepths) (pc := 32) (x := 100) dX11_layDepths_32 (by decide) ?_
  refine e_icmp_ge (M := md_X11_layDepths) (pc := 34) (tgt := 93) h rfl (q_wlit rfl) dX11_layDepths_34 (by decide) (fun h => ?_) (fun h => ?_)
  · refine q_goto (M := md_X11_layDepths) (pc := 93) (tgt := 23) dX11_layDepths_93 (by decide) ?_
    exact q_weak (hk23 _ _  h) ⟨Or.inr rfl, Or.inr rfl, Or.inl rfl, trivial⟩
  · refine q_aload_n (M := md_X11_layDepths) (pc := 37) dX11_layDepths_37 rfl (by decide) ?_
    refine q_iload_n (M := md_X11_layDepths) (pc := 38) dX11_layDepths_38 rfl ?_
    refine e_callVi (M := md_X11_layDepths) (pc := 39) (d' := 3) (av := [q_I l2]) (c := 81) h ml_11_333 im_X11_isThere se_X11_isThere dX11_layDepths_39 (fun v he => ok_X11_isThere hN  he) rfl (is_81 hN) ⟨_, _, rfl⟩ (by decide) (Nat.le_of_ble_eq_true rfl) ⟨by decide, by decide⟩ rfl (fun v1 m2 h => ?_)
    refine e_if_eq (M := md_X11_layDepths) (pc := 42) (tgt := 87) h rfl dX11_layDepths_42 (by decide) (fun h => ?_) (fun h => ?_)
    · exact q_weak (w_Mod_layDepths_b87 hN hk23 hk31  h) ⟨Or.inr rfl, Or.inr rfl, Or.inr rfl, trivial⟩
    · refine q_aload_n (M := md_X11_layDepths) (pc := 45) dX11_layDepths_45 rfl (by decide) ?_
      refine q_getP (M := md_X11_layDepths) (pc := 46) (v := 106) fl_11_87 dX11_layDepths_46 (is_81 hN) rfl ?_
      refine q_iload_n (M := md_X11_layDepths) (pc := 49) dX11_layDepths_49 rfl ?_
      refine e_rd (M := md_X11_layDepths) (pc := 50) h dX11_layDepths_50 (ar_106 hN) (fun v3 h => ?_)
      refine e_if_lt (M := md_X11_layDepths) (pc := 51) (tgt := 57) h rfl dX11_layDepths_51 (by decide) (fun h => ?_) (fun h => ?_)
      · refine q_aload_n (M := md_X11_layDepths) (pc := 57) dX11_layDepths_57 rfl (by decide) ?_
        refine q_getP (M := md_X11_layDepths) (pc := 58) (v := 106) fl_11_87 dX11_layDepths_58 (is_81 hN) rfl ?_
        refine q_iload_n (M := md_X11_layDepths) (pc := 61) dX11_layDepths_61 rfl ?_
        refine q_aload_n (M := md_X11_layDepths) (pc := 62) dX11_layDepths_62 rfl (by decide) ?_
        refine q_iload_n (M := md_X11_layDepths) (pc := 63) dX11_layDepths_63 rfl ?_
        refine e_callVi (M := md_X11_layDepths) (pc := 64) (d' := 4) (av := [q_I l2]) (c := 81) h ml_11_336 im_X11_depthBy se_X11_depthBy dX11_layDepths_64 (fun v he => ok_X11_depthBy hN  he) rfl (is_81 hN) ⟨_, _, rfl⟩ (by decide) (Nat.le_of_ble_eq_true rfl) ⟨by decide, by decide⟩ rfl (fun v4 m5 h => ?_)
        refine e_wr (M := md_X11_layDepths) (pc := 67) h dX11_layDepths_67 (ar_106 hN) (fun m6 h => ?_)
        refine q_iload_n (M := md_X11_layDepths) (pc := 68) dX11_layDepths_68 rfl ?_
        refine e_if_ne (M := md_X11_layDepths) (pc := 69) (tgt := 81) h rfl dX11_layDepths_69 (by decide) (fun h => ?_) (fun h => ?_)
        · exact q_weak (w_Mod_layDepths_b81 hN hk23 hk31  h) ⟨Or.inr rfl, Or.inl rfl, Or.inr rfl, trivial⟩
        · refine q_aload_n (M := md_X11_layDepths) (pc := 72) dX11_layDepths_72 rfl (by decide) ?_
          refine q_getP (M := md_X11_layDepths) (pc := 73) (v := 106) fl_11_87 dX11_layDepths_73 (is_81 hN) rfl ?_
          refine q_iload_n (M := md_X11_layDepths) (pc := 76) dX11_layDepths_76 rfl ?_
          refine e_rd (M := md_X11_layDepths) (pc := 77) h dX11_layDepths_77 (ar_106 hN) (fun v7 h => ?_)
          refine e_if_lt (M := md_X11_layDepths) (pc := 78) (tgt := 85) h rfl dX11_layDepths_78 (by decide) (fun h => ?_) (fun h => ?_)
          · refine q_iconst (M := md_X11_layDepths) (pc := 85) dX11_layDepths_85 ?_
            exact q_weak (w_Mod_layDepths_b86 hN hk23 hk31  h) ⟨Or.inr rfl, Or.inl rfl, Or.inr rfl, trivial⟩
          · exact q_weak (w_Mod_layDepths_b81 hN hk23 hk31  h) ⟨Or.inr rfl, Or.inl rfl, Or.inr rfl, trivial⟩
      · refine q_goto (M := md_X11_layDepths) (pc := 54) (tgt := 87) dX11_layDepths_54 (by decide) ?_
        exact q_weak (w_Mod_layDepths_b87 hN hk23 hk31  h) ⟨Or.inr rfl, Or.inr rfl, Or.inr rfl, trivial⟩
def f_Mod_layDepths_l31 (k23 : Int → q_Mem → q_Res) : Nat → Int → Int → q_Mem → q_Res
  | 0 => fun _ _ _ => none
  | n + 1 => fun l1 l2 m => f_Mod_layDepths_b31 k23 (f_Mod_layDepths_l31 k23 n) l1 l2 m
theorem w_Mod_layDepths_l31 {k23 : Int → q_Mem → q_Res} {r : Int × q_Mem} {N : Nat} (hN : 126 ≤ N) (hk23 : ∀ (l1 : Int) (m : q_Mem), k23 l1 m = some r → q_E md_X11_layDepths 5 N (none) r m 23 [q_A 81, q_I l1, q_N] []) : ∀ (n : Nat) (l1 l2 : Int) (m : q_Mem), f_Mod_layDepths_l31 k23 n l1 l2 m = some r → q_E md_X11_layDepths 5 N (none) r m 31 [q_A 81, q_I l1, q_I l2] [] := by
  intro n
  induction n with
  | zero => intro l1 l2 m h; exact q_no h
  | succ n ih =>
    intro l1 l2 m h
    exact w_Mod_layDepths_b31 hN hk23 (fun l1 l2 m h => ih l1 l2 m h) h
def f_Mod_layDepths_b23 (k23 : Int → q_Mem → q_Res) (l1 : Int) (m : q_Mem) : q_Res :=
  if q_w l1 = 0 then (q_rt 0 m)
  else (f_Mod_layDepths_l31 k23 q_F 0 0 m)
set_option maxRecDepth 20000 in
theorem w_Mod_layDepths_b23 {k23 : Int → q_Mem → q_Res} {l1 : Int} {r : Int × q_Mem} {m : q_Mem} {N : Nat} (hN : 126 ≤ N) (hk23 : ∀ (l1 : Int) (m : q_Mem), k23 l1 m = some r → q_E md_X11_layDepths 5 N (none) r m 23 [q_A 81, q_I l1, q_N] []) (h : f_Mod_layDepths_b23 k23 l1 m = some r) : q_E md_X11_layDepths 5 N (none) r m 23 [q_A 81, q_I l1, q_N] [] := by
  unfold f_Mod_layDepths_b23 at h
  refine q_iload_n (M := md_X11_layDepths) (pc := 23) dX11_layDepths_23 rfl ?_
  refine e_if_eq (M := md_X11_layDepths) (pc := 24) (tgt := 96) h rfl dX11_layDepths_24 (by decide) (fun h => ?_) (fun h => ?_)
  · exact e_vret (M := md_X11_layDepths) (pc := 96) h rfl dX11_layDepths_96
  · refine q_iconst (M := md_X11_layDepths) (pc := 27) dX11_layDepths_27 ?_
    refine e_ist_n (M := md_X11_layDepths) (pc := 28) (ls' := [q_A 81, q_I 0, q_N]) dX11_layDepths_28 (by decide) (q_pl rfl) rfl ?_
    refine q_iconst (M := md_X11_layDepths) (pc := 29) dX11_layDepths_29 ?_
    refine e_ist_n (M := md_X11_layDepths) (pc := 30) (ls' := [q_A 81, q_I 0, q_I 0]) dX11_layDepths_30 (by decide) (q_pl rfl) rfl ?_
    exact q_weak (w_Mod_layDepths_l31 hN hk23 q_F _ _ _  h) ⟨Or.inr rfl, Or.inr rfl, Or.inr rfl, trivial⟩
def f_Mod_layDepths_l23 : Nat → Int → q_Mem → q_Res
  | 0 => fun _ _ => none
  | n + 1 => fun l1 m => f_Mod_layDepths_b23 (f_Mod_layDepths_l23 n) l1 m
theorem w_Mod_layDepths_l23 {r : Int × q_Mem} {N : Nat} (hN : 126 ≤ N) : ∀ (n : Nat) (l1 : Int) (m : q_Mem), f_Mod_layDepths_l23 n l1 m = some r → q_E md_X11_layDepths 5 N (none) r m 23 [q_A 81, q_I l1, q_N] [] := by
  intro n
  induction n with
  | zero => intro l1 m h; exact q_no h
  | succ n ih =>
    intro l1 m h
    exact w_Mod_layDepths_b23 hN (fun l1 m h => ih l1 m h) h
def f_Mod_layDepths_b2 (k2 : Int → q_Mem → q_Res) (l1 : Int) (m : q_Mem) : q_Res :=
  if 100 ≤ q_w l1 then (f_Mod_layDepths_l23 q_F 1 m)
  else (q_wr m 106 100 l1 (-1) fun m1 =>
  k2 (l1 + 1) m1)
set_option maxRecDepth 20000 in
theorem w_Mod_layDepths_b2 {k2 : Int → q_Mem → q_Res} {l1 : Int} {r : Int × q_Mem} {m : q_Mem} {N : Nat} (hN : 126 ≤ N) (hk2 : ∀ (l1 : Int) (m : q_Mem), k2 l1 m = some r → q_E md_X11_layDepths 5 N (none) r m 2 [q_A 81, q_I l1, q_N] []) (h : f_Mod_layDepths_b2 k2 l1 m = some r) : q_E md_X11_layDepths 5 N (none) r m 2 [q_A 81, q_I l1, q_N] [] := by
  unfold f_Mod_layDepths_b2 at h
  refine q_iload_n (M := md_X11_layDepths) (pc := 2) dX11_layDepths_2 rfl ?_
  refine q_bipush (M := md_X11_layDepths) (pc := 3) (x := 100) dX11_layDepths_3 (by decide) ?_
  refine e_icmp_ge (M := md_X11_layDepths) (pc := 5) (tgt := 21) h rfl (q_wlit rfl) dX11_layDepths_5 (by decide) (fun h => ?_) (fun h => ?_)
  · refine q_iconst (M := md_X11_layDepths) (pc := 21) dX11_layDepths_21 ?_
    refine e_ist_n (M := md_X11_layDepths) (pc := 22) (ls' := [q_A 81, q_I 1, q_N]) dX11_layDepths_22 (by decide) (q_pl rfl) rfl ?_
    exact q_weak (w_Mod_layDepths_l23 hN q_F _ _  h) ⟨Or.inr rfl, Or.inr rfl, Or.inl rfl, trivial⟩
  · refine q_aload_n (M := md_X11_layDepths) (pc := 8) dX11_layDepths_8 rfl (by decide) ?_
    refine q_getP (M := md_X11_layDepths) (pc := 9) (v := 106) fl_11_87 dX11_layDepths_9 (is_81 hN) rfl ?_
    refine q_iload_n (M := md_X11_layDepths) (pc := 12) dX11_layDepths_12 rfl ?_
    refine q_iconst (M := md_X11_layDepths) (pc := 13) dX11_layDepths_13 ?_
    refine e_wr (M := md_X11_layDepths) (pc := 14) h dX11_layDepths_14 (ar_106 hN) (fun m1 h => ?_)
    refine e_inc (M := md_X11_layDepths) (pc := 15) (x := l1) (ls' := [q_A 81, q_I (l1 + 1), q_N]) dX11_layDepths_15 rfl (by decide) (q_pl rfl) rfl ?_
    refine q_goto (M := md_X11_layDepths) (pc := 18) (tgt := 2) dX11_layDepths_18 (by decide) ?_
    exact q_weak (hk2 _ _  h) ⟨Or.inr rfl, Or.inr rfl, Or.inl rfl, trivial⟩
def f_Mod_layDepths_l2 : Nat → Int → q_Mem → q_Res
  | 0 => fun _ _ => none
  | n + 1 => fun l1 m => f_Mod_layDepths_b2 (f_Mod_layDepths_l2 n) l1 m
theorem w_Mod_layDepths_l2 {r : Int × q_Mem} {N : Nat} (hN : 126 ≤ N) : ∀ (n : Nat) (l1 : Int) (m : q_Mem), f_Mod_layDepths_l2 n l1 m = some r → q_E md_X11_layDepths 5 N (none) r m 2 [q_A 81, q_I l1, q_N] [] := by
  intro n
  induction n with
  | zero => intro l1 m h; exact q_no h
  | succ n ih =>
    intro l1 m h
    exact w_Mod_layDepths_b2 hN (fun l1 m h => ih l1 m h) h
def f_Mod_layDepths (m : q_Mem) : q_Res :=
  f_Mod_layDepths_l2 q_F 0 m
set_option maxRecDepth 20000 in
theorem ok_X11_layDepths {r : Int × q_Mem} {m : q_Mem} {N : Nat} (hN : 126 ≤ N) (h : f_Mod_layDepths m = some r) : q_C md_X11_layDepths (q_room 5) 0 0 [q_A 81] (q_g N) m (none, q_g N, r.2) := by
  refine q_ofR (by decide) 2 (ls := [q_A 81, q_N, q_N]) rfl (Nat.le_of_ble_eq_true rfl) ?_
  change q_E md_X11_layDepths 5 N (none) r m 0 [q_A 81, q_N, q_N] []
  unfold f_Mod_layDepths at h
  refine q_iconst (M := md_X11_layDepths) (pc := 0) dX11_layDepths_0 ?_
  refine e_ist_n (M := md_X11_layDepths) (pc := 1) (ls' := [q_A 81, q_I 0, q_N]) dX11_layDepths_1 (by decide) (q_pl rfl) rfl ?_
  exact q_weak (w_Mod_layDepths_l2 hN q_F _ _  h) ⟨Or.inr rfl, Or.inr rfl, Or.inl rfl, trivial⟩
def f_Mod_heightBy_b54 (k4 : Int → Int → Int → q_Mem → q_Res) (l1 l2 l3 : Int) (m : q_Mem) : q_Res :=
  k4 l1 l2 (l3 + 1) m
set_option maxRecDepth 20000 in
theorem w_Mod_heightBy_b54 {k4 : Int → Int → Int → q_Mem → q_Res} {l1 l2 l3 : Int} {r : Int × q_Mem} {m : q_Mem} {N : Nat} (hN : 126 ≤ N) (hk4 : ∀ (l1 l2 l3 : Int) (m : q_Mem), k4 l1 l2 l3 m = some r → q_E md_X11_heightBy 4 N (some 0) r m 4 [q_A 81, q_I l1, q_I l2, q_I l3, q_N] []) (h : f_Mod_heightBy_b54 k4 l1 l2 l3 m = some r) : q_E md_X11_heightBy 4 N (some 0) r m 54 [q_A 81, q_I l1, q_I l2, q_I l3, q_N] [] := by
  unfold f_Mod_heightBy_b54 at h
  refine e_inc (M := md_X11_heightBy) (pc := 54) (x := l3) (ls' := [q_A 81, q_I l1, q_I l2, q_I (l3 + 1), q_N]) dX11_heightBy_54 rfl (by decide) (q_pl rfl) rfl ?_
  refine q_goto (M := md_X11_heightBy) (pc := 57) (tgt := 4) dX11_heightBy_57 (by decide) ?_
  exact q_weak (hk4 _ _ _ _  h) ⟨Or.inr rfl, Or.inr rfl, Or.inr rfl, Or.inr rfl, Or.inl rfl, trivial⟩
def f_Mod_heightBy_b4 (k4 : Int → Int → Int → q_Mem → q_Res) (l1 l2 l3 : Int) (m : q_Mem) : q_Res :=
  q_bd (f_Mod_offsetsNow m) fun v1 m2 =>
  if q_w v1 ≤ q_w l3 then (q_rt l2 m2)
  else (q_bd (f_Mod_readerBy l1 l3 m2) fun v3 m4 =>
  if 0 ≤ q_w v3 then (q_rd m4 107 100 v3 fun v5 =>
  if 0 ≤ q_w v5 then (q_rd m4 107 100 v3 fun v6 =>
  q_bd (f_Mod_more l2 (v6 + 1) m4) fun v7 m8 =>
  f_Mod_heightBy_b54 k4 l1 v7 l3 m8)
  else (q_rt (-1) m4))
  else (f_Mod_heightBy_b54 k4 l1 l2 l3 m4))
set_option maxRecDepth 20000 in
theorem w_Mod_heightBy_b4 {k4 : Int → Int → Int → q_Mem → q_Res} {l1 l2 l3 : Int} {r : Int × q_Mem} {m : q_Mem} {N : Nat} (hN : 126 ≤ N) (hk4 : ∀ (l1 l2 l3 : Int) (m : q_Mem), k4 l1 l2 l3 m = some r → q_E md_X11_heightBy 4 N (some 0) r m 4 [q_A 81, q_I l1, q_I l2, q_I l3, q_N] []) (h : f_Mod_heightBy_b4 k4 l1 l2 l3 m = some r) : q_E md_X11_heightBy 4 N (some 0) r m 4 [q_A 81, q_I l1, q_I l2, q_I l3, q_N] [] := by
  unfold f_Mod_heightBy_b4 at h
  refine q_iload_n (M := md_X11_heightBy) (pc := 4) dX11_heightBy_4 rfl ?_
  refine q_aload_n (M := md_X11_heightBy) (pc := 5) dX11_heightBy_5 rfl (by decide) ?_
  refine e_callVi (M := md_X11_heightBy) (pc := 6) (d' := 1) (av := []) (c := 81) h ml_11_339 im_X11_offsetsNow se_X11_offsetsNow dX11_heightBy_6 (fun v he => ok_X11_offsetsNow hN  he) rfl (is_81 hN) ⟨_, _, rfl⟩ (by decide) (Nat.le_of_ble_eq_true rfl) ⟨by decide, by decide⟩ rfl (fun v1 m2 h => ?_)
  refine e_icmp_ge (M := md_X11_heightBy) (pc := 9) (tgt := 60) h rfl rfl dX11_heightBy_9 (by decide) (fun h => ?_) (fun h => ?_)
  · refine q_iload_n (M := md_X11_heightBy) (pc := 60) dX11_heightBy_60 rfl ?_
    exact e_iret (M := md_X11_heightBy) (pc := 61) h rfl dX11_heightBy_61
  · refine q_aload_n (M := md_X11_heightBy) (pc := 12) dX11_heightBy_12 rfl (by decide) ?_
    refine q_iload_n (M := md_X11_heightBy) (pc := 13) dX11_heightBy_13 rfl ?_
    refine q_iload_n (M := md_X11_heightBy) (pc := 14) dX11_heightBy_14 rfl ?_
    refine e_callVi (M := md_X11_heightBy) (pc := 15) (d' := 3) (av := [q_I l1, q_I l3]) (c := 81) h ml_11_354 im_X11_readerBy se_X11_readerBy dX11_heightBy_15 (fun v he => ok_X11_readerBy hN  he) rfl (is_81 hN) ⟨_, _, rfl⟩ (by decide) (Nat.le_of_ble_eq_true rfl) ⟨by decide, by decide⟩ rfl (fun v3 m4 h => ?_)
    refine e_ist (M := md_X11_heightBy) (pc := 18) (ls' := [q_A 81, q_I l1, q_I l2, q_I l3, q_I v3]) dX11_heightBy_18 (by decide) (q_pl rfl) rfl ?_
    refine q_iload (M := md_X11_heightBy) (pc := 20) dX11_heightBy_20 rfl ?_
    refine e_if_ge (M := md_X11_heightBy) (pc := 22) (tgt := 28) h rfl dX11_heightBy_22 (by decide) (fun h => ?_) (fun h => ?_)
    · refine q_aload_n (M := md_X11_heightBy) (pc := 28) dX11_heightBy_28 rfl (by decide) ?_
      refine q_getP (M := md_X11_heightBy) (pc := 29) (v := 107) fl_11_90 dX11_heightBy_29 (is_81 hN) rfl ?_
      refine q_iload (M := md_X11_heightBy) (pc := 32) dX11_heightBy_32 rfl ?_
      refine e_rd (M := md_X11_heightBy) (pc := 34) h dX11_heightBy_34 (ar_107 hN) (fun v5 h => ?_)
      refine e_if_ge (M := md_X11_heightBy) (pc := 35) (tgt := 40) h rfl dX11_heightBy_35 (by decide) (fun h => ?_) (fun h => ?_)
      · refine q_iload_n (M := md_X11_heightBy) (pc := 40) dX11_heightBy_40 rfl ?_
        refine q_aload_n (M := md_X11_heightBy) (pc := 41) dX11_heightBy_41 rfl (by decide) ?_
        refine q_getP (M := md_X11_heightBy) (pc := 42) (v := 107) fl_11_90 dX11_heightBy_42 (is_81 hN) rfl ?_
        refine q_iload (M := md_X11_heightBy) (pc := 45) dX11_heightBy_45 rfl ?_
        refine e_rd (M := md_X11_heightBy) (pc := 47) h dX11_heightBy_47 (ar_107 hN) (fun v6 h => ?_)
        refine q_iconst (M := md_X11_heightBy) (pc := 48) dX11_heightBy_48 ?_
        refine q_iadd (M := md_X11_heightBy) (pc := 49) dX11_heightBy_49 ?_
        refine e_callSi (M := md_X11_heightBy) (pc := 50) (d' := 1) (M' := md_X11_more) (av := [q_I l2, q_I (v6 + 1)]) h ml_11_345 sm_X11_more dX11_heightBy_50 (fun v he => ok_X11_more hN  he) rfl (Nat.le_of_ble_eq_true rfl) ⟨by decide, by decide⟩ rfl (fun v7 m8 h => ?_)
        refine e_ist_n (M := md_X11_heightBy) (pc := 53) (ls' := [q_A 81, q_I l1, q_I v7, q_I l3, q_I v3]) dX11_heightBy_53 (by decide) (q_pl rfl) rfl ?_
        exact q_weak (w_Mod_heightBy_b54 hN hk4  h) ⟨Or.inr rfl, Or.inr rfl, Or.inr rfl, Or.inr rfl, Or.inl rfl, trivial⟩
      · refine q_iconst (M := md_X11_heightBy) (pc := 38) dX11_heightBy_38 ?_
        exact e_iret (M := md_X11_heightBy) (pc := 39) h rfl dX11_heightBy_39
    · refine q_goto (M := md_X11_heightBy) (pc := 25) (tgt := 54) dX11_heightBy_25 (by decide) ?_
      exact q_weak (w_Mod_heightBy_b54 hN hk4  h) ⟨Or.inr rfl, Or.inr rfl, Or.inr rfl, Or.inr rfl, Or.inl rfl, trivial⟩
def f_Mod_heightBy_l4 : Nat → Int → Int → Int → q_Mem → q_Res
  | 0 => fun _ _ _ _ => none
  | n + 1 => fun l1 l2 l3 m => f_Mod_heightBy_b4 (f_Mod_heightBy_l4 n) l1 l2 l3 m
theorem w_Mod_heightBy_l4 {r : Int × q_Mem} {N : Nat} (hN : 126 ≤ N) : ∀ (n : Nat) (l1 l2 l3 : Int) (m : q_Mem), f_Mod_heightBy_l4 n l1 l2 l3 m = some r → q_E md_X11_heightBy 4 N (some 0) r m 4 [q_A 81, q_I l1, q_I l2, q_I l3, q_N] [] := by
  intro n
  induction n with
  | zero => intro l1 l2 l3 m h; exact q_no h
  | succ n ih =>
    intro l1 l2 l3 m h
    exact w_Mod_heightBy_b4 hN (fun l1 l2 l3 m h => ih l1 l2 l3 m h) h
def f_Mod_heightBy (l1 : Int) (m : q_Mem) : q_Res :=
  f_Mod_heightBy_l4 q_F l1 0 0 m
set_option maxRecDepth 20000 in
theorem ok_X11_heightBy {l1 : Int} {r : Int × q_Mem} {m : q_Mem} {N : Nat} (hN : 126 ≤ N) (h : f_Mod_heightBy l1 m = some r) : q_C md_X11_heightBy (q_room 4) 0 0 [q_A 81, q_I l1] (q_g N) m (some (q_I r.1), q_g N, r.2) := by
  refine q_ofR (by decide) 3 (ls := [q_A 81, q_I l1, q_N, q_N, q_N]) rfl (Nat.le_of_ble_eq_true rfl) ?_
  change q_E md_X11_heightBy 4 N (some 0) r m 0 [q_A 81, q_I l1, q_N, q_N, q_N] []
  unfold f_Mod_heightBy at h
  refine q_iconst (M := md_X11_heightBy) (pc := 0) dX11_heightBy_0 ?_
  refine e_ist_n (M := md_X11_heightBy) (pc := 1) (ls' := [q_A 81, q_I l1, q_I 0, q_N, q_N]) dX11_heightBy_1 (by decide) (q_pl rfl) rfl ?_
  refine q_iconst (M := md_X11_heightBy) (pc := 2) dX11_heightBy_2 ?_
  refine e_ist_n (M := md_X11_heightBy) (pc := 3) (ls' := [q_A 81, q_I l1, q_I 0, q_I 0, q_N]) dX11_heightBy_3 (by decide) (q_pl rfl) rfl ?_
  exact q_weak (w_Mod_heightBy_l4 hN q_F _ _ _ _  h) ⟨Or.inr rfl, Or.inr rfl, Or.inr rfl, Or.inr rfl, Or.inl rfl, trivial⟩
def f_Mod_layHeights_b100 (k27 : Int → q_Mem → q_Res) (k35 : Int → Int → q_Mem → q_Res) (l1 l2 : Int) (m : q_Mem) : q_Res :=
  k35 l1 (l2 + 1) m
set_option maxRecDepth 20000 in
theorem w_Mod_layHeights_b100 {k27 : Int → q_Mem → q_Res} {k35 : Int → Int → q_Mem → q_Res} {l1 l2 : Int} {r : Int × q_Mem} {m : q_Mem} {N : Nat} (hN : 126 ≤ N) (hk27 : ∀ (l1 : Int) (m : q_Mem), k27 l1 m = some r → q_E md_X11_layHeights 6 N (none) r m 27 [q_A 81, q_I l1, q_N] []) (hk35 : ∀ (l1 l2 : Int) (m : q_Mem), k35 l1 l2 m = some r → q_E md_X11_layHeights 6 N (none) r m 35 [q_A 81, q_I l1, q_I l2] []) (h : f_Mod_layHeights_b100 k27 k35 l1 l2 m = some r) : q_E md_X11_layHeights 6 N (none) r m 100 [q_A 81, q_I l1, q_I l2] [] := by
  unfold f_Mod_layHeights_b100 at h
  refine e_inc (M := md_X11_layHeights) (pc := 100) (x := l2) (ls' := [q_A 81, q_I l1, q_I (l2 + 1)]) dX11_layHeights_100 rfl (by decide) (q_pl rfl) rfl ?_
  refine q_goto (M := md_X11_layHeights) (pc := 103) (tgt := 35) dX11_layHeights_103 (by decide) ?_
  exact q_weak (hk35 _ _ _  h) ⟨Or.inr rfl, Or.inr rfl, Or.inr rfl, trivial⟩
def f_Mod_layHeights_b99 (k27 : Int → q_Mem → q_Res) (k35 : Int → Int → q_Mem → q_Res) (l2 s0 : Int) (m : q_Mem) : q_Res :=
  f_Mod_layHeights_b100 k27 k35 s0 l2 m
set_option maxRecDepth 20000 in
theorem w_Mod_layHeights_b99 {k27 : Int → q_Mem → q_Res} {k35 : Int → Int → q_Mem → q_Res} {l2 s0 : Int} {r : Int × q_Mem} {m : q_Mem} {N : Nat} (hN : 126 ≤ N) (hk27 : ∀ (l1 : Int) (m : q_Mem), k27 l1 m = some r → q_E md_X11_layHeights 6 N (none) r m 27 [q_A 81, q_I l1, q_N] []) (hk35 : ∀ (l1 l2 : Int) (m : q_Mem), k35 l1 l2 m = some r → q_E md_X11_layHeights 6 N (none) r m 35 [q_A 81, q_I l1, q_I l2] []) (h : f_Mod_layHeights_b99 k27 k35 l2 s0 m = some r) : q_E md_X11_layHeights 6 N (none) r m 99 [q_A 81, q_N, q_I l2] [q_I s0] := by
  unfold f_Mod_layHeights_b99 at h
  refine e_ist_n (M := md_X11_layHeights) (pc := 99) (ls' := [q_A 81, q_I s0, q_I l2]) dX11_layHeights_99 (by decide) (q_pl rfl) rfl ?_
  exact q_weak (w_Mod_layHeights_b100 hN hk27 hk35  h) ⟨Or.inr rfl, Or.inr rfl, Or.inr rfl, trivial⟩
def f_Mod_layHeights_b94 (k27 : Int → q_Mem → q_Res) (k35 : Int → Int → q_Mem → q_Res) (l2 : Int) (m : q_Mem) : q_Res :=
  f_Mod_layHeights_b99 k27 k35 l2 1 m
set_option maxRecDepth 20000 in
theorem w_Mod_layHeights_b94 {k27 : Int → q_Mem → q_Res} {k35 : Int → Int → q_Mem → q_Res} {l2 : Int} {r : Int × q_Mem} {m : q_Mem} {N : Nat} (hN : 126 ≤ N) (hk27 : ∀ (l1 : Int) (m : q_Mem), k27 l1 m = some r → q_E md_X11_layHeights 6 N (none) r m 27 [q_A 81, q_I l1, q_N] []) (hk35 : ∀ (l1 l2 : Int) (m : q_Mem), k35 l1 l2 m = some r → q_E md_X11_layHeights 6 N (none) r m 35 [q_A 81, q_I l1, q_I l2] []) (h : f_Mod_layHeights_b94 k27 k35 l2 m = some r) : q_E md_X11_layHeights 6 N (none) r m 94 [q_A 81, q_N, q_I l2] [] := by
  unfold f_Mod_layHeights_b94 at h
  refine q_iconst (M := md_X11_layHeights) (pc := 94) dX11_layHeights_94 ?_
  refine q_goto (M := md_X11_layHeights) (pc := 95) (tgt := 99) dX11_layHeights_95 (by decide) ?_
  exact q_weak (w_Mod_layHeights_b99 hN hk27 hk35  h) ⟨Or.inr rfl, Or.inl rfl, Or.inr rfl, trivial⟩
def f_Mod_layHeights_b35 (k27 : Int → q_Mem → q_Res) (k35 : Int → Int → q_Mem → q_Res) (l1 l2 : Int) (m : q_Mem) : q_Res :=
  if 100 ≤ q_w l2 then (k27 l1 m)
  else (q_bd (f_Mod_isThere l2 m) fun v1 m2 =>
  if q_w v1 = 0 then (f_Mod_layHeights_b100 k27 k35 l1 l2 m2)
  else (q_rd m2 106 100 l2 fun v3 =>
  if q_w v3 < 0 then (f_Mod_layHeights_b100 k27 k35 l1 l2 m2)
  else (q_rd m2 107 100 l2 fun v4 =>
  if q_w v4 < 0 then (q_bd (f_Mod_heightBy l2 m2) fun v5 m6 =>
  q_wr m6 107 100 l2 v5 fun m7 =>
  if q_w l1 = 0 then (q_rd m7 107 100 l2 fun v8 =>
  if q_w v8 < 0 then (f_Mod_layHeights_b99 k27 k35 l2 0 m7)
  else (f_Mod_layHeights_b94 k27 k35 l2 m7))
  else (f_Mod_layHeights_b94 k27 k35 l2 m7))
  else (f_Mod_layHeights_b100 k27 k35 l1 l2 m2))))
set_option maxRecDepth 20000 in
theorem w_Mod_layHeights_b35 {k27 : Int → q_Mem → q_Res} {k35 : Int → Int → q_Mem → q_Res} {l1 l2 : Int} {r : Int × q_Mem} {m : q_Mem} {N : Nat} (hN : 126 ≤ N) (hk27 : ∀ (l1 : Int) (m : q_Mem), k27 l1 m = some r → q_E md_X11_layHeights 6 N (none) r m 27 [q_A 81, q_I l1, q_N] []) (hk35 : ∀ (l1 l2 : Int) (m : q_Mem), k35 l1 l2 m = some r → q_E md_X11_layHeights 6 N (none) r m 35 [q_A 81, q_I l1, q_I l2] []) (h : f_Mod_layHeights_b35 k27 k35 l1 l2 m = some r) : q_E md_X11_layHeights 6 N (none) r m 35 [q_A 81, q_I l1, q_I l2] [] := by
  unfold f_Mod_layHeights_b35 at h
  refine q_iload_n (M := md_X11_layHeights) (pc := 35) dX11_layHeights_35 rfl ?_
  refine q_bipush (M := md_X11_layHeights) (pc := 36) (x := 100) dX11_layHeights_36 (by decide) ?_
  refine e_icmp_ge (M := md_X11_layHeights) (pc := 38) (tgt := 106) h rfl (q_wlit rfl) dX11_layHeights_38 (by decide) (fun h => ?_) (fun h => ?_)
  · refine q_goto (M := md_X11_layHeights) (pc := 106) (tgt := 27) dX11_layHeights_106 (by decide) ?_
    exact q_weak (hk27 _ _  h) ⟨Or.inr rfl, Or.inr rfl, Or.inl rfl, trivial⟩
  · refine q_aload_n (M := md_X11_layHeights) (pc := 41) dX11_layHeights_41 rfl (by decide) ?_
    refine q_iload_n (M := md_X11_layHeights) (pc := 42) dX11_layHeights_42 rfl ?_
    refine e_callVi (M := md_X11_layHeights) (pc := 43) (d' := 3) (av := [q_I l2]) (c := 81) h ml_11_333 im_X11_isThere se_X11_isThere dX11_layHeights_43 (fun v he => ok_X11_isThere hN  he) rfl (is_81 hN) ⟨_, _, rfl⟩ (by decide) (Nat.le_of_ble_eq_true rfl) ⟨by decide, by decide⟩ rfl (fun v1 m2 h => ?_)
    refine e_if_eq (M := md_X11_layHeights) (pc := 46) (tgt := 100) h rfl dX11_layHeights_46 (by decide) (fun h => ?_) (fun h => ?_)
    · exact q_weak (w_Mod_layHeights_b100 hN hk27 hk35  h) ⟨Or.inr rfl, Or.inr rfl, Or.inr rfl, trivial⟩
    · refine q_aload_n (M := md_X11_layHeights) (pc := 49) dX11_layHeights_49 rfl (by decide) ?_
      refine q_getP (M := md_X11_layHeights) (pc := 50) (v := 106) fl_11_87 dX11_layHeights_50 (is_81 hN) rfl ?_
      refine q_iload_n (M := md_X11_layHeights) (pc := 53) dX11_layHeights_53 rfl ?_
      refine e_rd (M := md_X11_layHeights) (pc := 54) h dX11_layHeights_54 (ar_106 hN) (fun v3 h => ?_)
      refine e_if_lt (M := md_X11_layHeights) (pc := 55) (tgt := 100) h rfl dX11_layHeights_55 (by decide) (fun h => ?_) (fun h => ?_)
      · exact q_weak (w_Mod_layHeights_b100 hN hk27 hk35  h) ⟨Or.inr rfl, Or.inr rfl, Or.inr rfl, trivial⟩
      · refine q_aload_n (M := md_X11_layHeights) (pc := 58) dX11_layHeights_58 rfl (by decide) ?_
        refine q_getP (M := md_X11_layHeights) (pc := 59) (v := 107) fl_11_90 dX11_layHeights_59 (is_81 hN) rfl ?_
        refine q_iload_n (M := md_X11_layHeights) (pc := 62) dX11_layHeights_62 rfl ?_
        refine e_rd (M := md_X11_layHeights) (pc := 63) h dX11_layHeights_63 (ar_107 hN) (fun v4 h => ?_)
        refine e_if_lt (M := md_X11_layHeights) (pc := 64) (tgt := 70) h rfl dX11_layHeights_64 (by decide) (fun h => ?_) (fun h => ?_)
        · refine q_aload_n (M := md_X11_layHeights) (pc := 70) dX11_layHeights_70 rfl (by decide) ?_
          refine q_getP (M := md_X11_layHeights) (pc := 71) (v := 107) fl_11_90 dX11_layHeights_71 (is_81 hN) rfl ?_
          refine q_iload_n (M := md_X11_layHeights) (pc := 74) dX11_layHeights_74 rfl ?_
          refine q_aload_n (M := md_X11_layHeights) (pc := 75) dX11_layHeights_75 rfl (by decide) ?_
          refine q_iload_n (M := md_X11_layHeights) (pc := 76) dX11_layHeights_76 rfl ?_
          refine e_callVi (M := md_X11_layHeights) (pc := 77) (d' := 4) (av := [q_I l2]) (c := 81) h ml_11_351 im_X11_heightBy se_X11_heightBy dX11_layHeights_77 (fun v he => ok_X11_heightBy hN  he) rfl (is_81 hN) ⟨_, _, rfl⟩ (by decide) (Nat.le_of_ble_eq_true rfl) ⟨by decide, by decide⟩ rfl (fun v5 m6 h => ?_)
          refine e_wr (M := md_X11_layHeights) (pc := 80) h dX11_layHeights_80 (ar_107 hN) (fun m7 h => ?_)
          refine q_iload_n (M := md_X11_layHeights) (pc := 81) dX11_layHeights_81 rfl ?_
          refine e_if_ne (M := md_X11_layHeights) (pc := 82) (tgt := 94) h rfl dX11_layHeights_82 (by decide) (fun h => ?_) (fun h => ?_)
          · exact q_weak (w_Mod_layHeights_b94 hN hk27 hk35  h) ⟨Or.inr rfl, Or.inl rfl, Or.inr rfl, trivial⟩
          · refine q_aload_n (M := md_X11_layHeights) (pc := 85) dX11_layHeights_85 rfl (by decide) ?_
            refine q_getP (M := md_X11_layHeights) (pc := 86) (v := 107) fl_11_90 dX11_layHeights_86 (is_81 hN) rfl ?_
            refine q_iload_n (M := md_X11_layHeights) (pc := 89) dX11_layHeights_89 rfl ?_
            refine e_rd (M := md_X11_layHeights) (pc := 90) h dX11_layHeights_90 (ar_107 hN) (fun v8 h => ?_)
            refine e_if_lt (M := md_X11_layHeights) (pc := 91) (tgt := 98) h rfl dX11_layHeights_91 (by decide) (fun h => ?_) (fun h => ?_)
            · refine q_iconst (M := md_X11_layHeights) (pc := 98) dX11_layHeights_98 ?_
              exact q_weak (w_Mod_layHeights_b99 hN hk27 hk35  h) ⟨Or.inr rfl, Or.inl rfl, Or.inr rfl, trivial⟩
            · exact q_weak (w_Mod_layHeights_b94 hN hk27 hk35  h) ⟨Or.inr rfl, Or.inl rfl, Or.inr rfl, trivial⟩
        · refine q_goto (M := md_X11_layHeights) (pc := 67) (tgt := 100) dX11_layHeights_67 (by decide) ?_
          exact q_weak (w_Mod_layHeights_b100 hN hk27 hk35  h) ⟨Or.inr rfl, Or.inr rfl, Or.inr rfl, trivial⟩
def f_Mod_layHeights_l35 (k27 : Int → q_Mem → q_Res) : Nat → Int → Int → q_Mem → q_Res
  | 0 => fun _ _ _ => none
  | n + 1 => fun l1 l2 m => f_Mod_layHeights_b35 k27 (f_Mod_layHeights_l35 k27 n) l1 l2 m
theorem w_Mod_layHeights_l35 {k27 : Int → q_Mem → q_Res} {r : Int × q_Mem} {N : Nat} (hN : 126 ≤ N) (hk27 : ∀ (l1 : Int) (m : q_Mem), k27 l1 m = some r → q_E md_X11_layHeights 6 N (none) r m 27 [q_A 81, q_I l1, q_N] []) : ∀ (n : Nat) (l1 l2 : Int) (m : q_Mem), f_Mod_layHeights_l35 k27 n l1 l2 m = some r → q_E md_X11_layHeights 6 N (none) r m 35 [q_A 81, q_I l1, q_I l2] [] := by
  intro n
  induction n with
  | zero => intro l1 l2 m h; exact q_no h
  | succ n ih =>
    intro l1 l2 m h
    exact w_Mod_layHeights_b35 hN hk27 (fun l1 l2 m h => ih l1 l2 m h) h
def f_Mod_layHeights_b27 (k27 : Int → q_Mem → q_Res) (l1 : Int) (m : q_Mem) : q_Res :=
  if q_w l1 = 0 then (q_rt 0 m)
  else (f_Mod_layHeights_l35 k27 q_F 0 0 m)
set_option maxRecDepth 20000 in
theorem w_Mod_layHeights_b27 {k27 : Int → q_Mem → q_Res} {l1 : Int} {r : Int × q_Mem} {m : q_Mem} {N : Nat} (hN : 126 ≤ N) (hk27 : ∀ (l1 : Int) (m : q_Mem), k27 l1 m = some r → q_E md_X11_layHeights 6 N (none) r m 27 [q_A 81, q_I l1, q_N] []) (h : f_Mod_layHeights_b27 k27 l1 m = some r) : q_E md_X11_layHeights 6 N (none) r m 27 [q_A 81, q_I l1, q_N] [] := by
  unfold f_Mod_layHeights_b27 at h
  refine q_iload_n (M := md_X11_layHeights) (pc := 27) dX11_layHeights_27 rfl ?_
  refine e_if_eq (M := md_X11_layHeights) (pc := 28) (tgt := 109) h rfl dX11_layHeights_28 (by decide) (fun h => ?_) (fun h => ?_)
  · exact e_vret (M := md_X11_layHeights) (pc := 109) h rfl dX11_layHeights_109
  · refine q_iconst (M := md_X11_layHeights) (pc := 31) dX11_layHeights_31 ?_
    refine e_ist_n (M := md_X11_layHeights) (pc := 32) (ls' := [q_A 81, q_I 0, q_N]) dX11_layHeights_32 (by decide) (q_pl rfl) rfl ?_
    refine q_iconst (M := md_X11_layHeights) (pc := 33) dX11_layHeights_33 ?_
    refine e_ist_n (M := md_X11_layHeights) (pc := 34) (ls' := [q_A 81, q_I 0, q_I 0]) dX11_layHeights_34 (by decide) (q_pl rfl) rfl ?_
    exact q_weak (w_Mod_layHeights_l35 hN hk27 q_F _ _ _  h) ⟨Or.inr rfl, Or.inr rfl, Or.inr rfl, trivial⟩
def f_Mod_layHeights_l27 : Nat → Int → q_Mem → q_Res
  | 0 => fun _ _ => none
  | n + 1 => fun l1 m => f_Mod_layHeights_b27 (f_Mod_layHeights_l27 n) l1 m
theorem w_Mod_layHeights_l27 {r : Int × q_Mem} {N : Nat} (hN : 126 ≤ N) : ∀ (n : Nat) (l1 : Int) (m : q_Mem), f_Mod_layHeights_l27 n l1 m = some r → q_E md_X11_layHeights 6 N (none) r m 27 [q_A 81, q_I l1, q_N] [] := by
  intro n
  induction n with
  | zero => intro l1 m h; exact q_no h
  | succ n ih =>
    intro l1 m h
    exact w_Mod_layHeights_b27 hN (fun l1 m h => ih l1 m h) h
def f_Mod_layHeights_b6 (k6 : Int → q_Mem → q_Res) (l1 : Int) (m : q_Mem) : q_Res :=
  if 100 ≤ q_w l1 then (f_Mod_layHeights_l27 q_F 1 m)
  else (q_wr m 107 100 l1 (-1) fun m1 =>
  k6 (l1 + 1) m1)
set_option maxRecDepth 20000 in
theorem w_Mod_layHeights_b6 {k6 : Int → q_Mem → q_Res} {l1 : Int} {r : Int × q_Mem} {m : q_Mem} {N : Nat} (hN : 126 ≤ N) (hk6 : ∀ (l1 : Int) (m : q_Mem), k6 l1 m = some r → q_E md_X11_layHeights 6 N (none) r m 6 [q_A 81, q_I l1, q_N] []) (h : f_Mod_layHeights_b6 k6 l1 m = some r) : q_E md_X11_layHeights 6 N (none) r m 6 [q_A 81, q_I l1, q_N] [] := by
  unfold f_Mod_layHeights_b6 at h
  refine q_iload_n (M := md_X11_layHeights) (pc := 6) dX11_layHeights_6 rfl ?_
  refine q_bipush (M := md_X11_layHeights) (pc := 7) (x := 100) dX11_layHeights_7 (by decide) ?_
  refine e_icmp_ge (M := md_X11_layHeights) (pc := 9) (tgt := 25) h rfl (q_wlit rfl) dX11_layHeights_9 (by decide) (fun h => ?_) (fun h => ?_)
  · refine q_iconst (M := md_X11_layHeights) (pc := 25) dX11_layHeights_25 ?_
    refine e_ist_n (M := md_X11_layHeights) (pc := 26) (ls' := [q_A 81, q_I 1, q_N]) dX11_layHeights_26 (by decide) (q_pl rfl) rfl ?_
    exact q_weak (w_Mod_layHeights_l27 hN q_F _ _  h) ⟨Or.inr rfl, Or.inr rfl, Or.inl rfl, trivial⟩
  · refine q_aload_n (M := md_X11_layHeights) (pc := 12) dX11_layHeights_12 rfl (by decide) ?_
    refine q_getP (M := md_X11_layHeights) (pc := 13) (v := 107) fl_11_90 dX11_layHeights_13 (is_81 hN) rfl ?_
    refine q_iload_n (M := md_X11_layHeights) (pc := 16) dX11_layHeights_16 rfl ?_
    refine q_iconst (M := md_X11_layHeights) (pc := 17) dX11_layHeights_17 ?_
    refine e_wr (M := md_X11_layHeights) (pc := 18) h dX11_layHeights_18 (ar_107 hN) (fun m1 h => ?_)
    refine e_inc (M := md_X11_layHeights) (pc := 19) (x := l1) (ls' := [q_A 81, q_I (l1 + 1), q_N]) dX11_layHeights_19 rfl (by decide) (q_pl rfl) rfl ?_
    refine q_goto (M := md_X11_layHeights) (pc := 22) (tgt := 6) dX11_layHeights_22 (by decide) ?_
    exact q_weak (hk6 _ _  h) ⟨Or.inr rfl, Or.inr rfl, Or.inl rfl, trivial⟩
def f_Mod_layHeights_l6 : Nat → Int → q_Mem → q_Res
  | 0 => fun _ _ => none
  | n + 1 => fun l1 m => f_Mod_layHeights_b6 (f_Mod_layHeights_l6 n) l1 m
theorem w_Mod_layHeights_l6 {r : Int × q_Mem} {N : Nat} (hN : 126 ≤ N) : ∀ (n : Nat) (l1 : Int) (m : q_Mem), f_Mod_layHeights_l6 n l1 m = some r → q_E md_X11_layHeights 6 N (none) r m 6 [q_A 81, q_I l1, q_N] [] := by
  intro n
  induction n with
  | zero => intro l1 m h; exact q_no h
  | succ n ih =>
    intro l1 m h
    exact w_Mod_layHeights_b6 hN (fun l1 m h => ih l1 m h) h
def f_Mod_layHeights (m : q_Mem) : q_Res :=
  q_bd (f_Mod_layDepths m) fun _ m1 =>
  f_Mod_layHeights_l6 q_F 0 m1
set_option maxRecDepth 20000 in
theorem ok_X11_layHeights {r : Int × q_Mem} {m : q_Mem} {N : Nat} (hN : 126 ≤ N) (h : f_Mod_layHeights m = some r) : q_C md_X11_layHeights (q_room 6) 0 0 [q_A 81] (q_g N) m (none, q_g N, r.2) := by
  refine q_ofR (by decide) 2 (ls := [q_A 81, q_N, q_N]) rfl (Nat.le_of_ble_eq_true rfl) ?_
  change q_E md_X11_layHeights 6 N (none) r m 0 [q_A 81, q_N, q_N] []
  unfold f_Mod_layHeights at h
  refine q_aload_n (M := md_X11_layHeights) (pc := 0) dX11_layHeights_0 rfl (by decide) ?_
  refine e_callVv (M := md_X11_layHeights) (pc := 1) (d' := 5) (av := []) (c := 81) h ml_11_348 im_X11_layDepths se_X11_layDepths dX11_layHeights_1 (fun v he => ok_X11_layDepths hN  he) rfl (is_81 hN) ⟨_, _, rfl⟩ (by decide) (Nat.le_of_ble_eq_true rfl) ⟨by decide, by decide⟩ rfl (fun _ m1 h => ?_)
  refine q_iconst (M := md_X11_layHeights) (pc := 4) dX11_layHeights_4 ?_
  refine e_ist_n (M := md_X11_layHeights) (pc := 5) (ls' := [q_A 81, q_I 0, q_N]) dX11_layHeights_5 (by decide) (q_pl rfl) rfl ?_
  exact q_weak (w_Mod_layHeights_l6 hN q_F _ _  h) ⟨Or.inr rfl, Or.inr rfl, Or.inl rfl, trivial⟩
