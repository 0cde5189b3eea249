def f_PG_feed (l1 l2 l3 l4 l5 : Int) (m : q_Mem) : q_Res :=
  if q_w ((m 1 1) + 20) ≤ 800 then (q_bd (f_Tape_put l1 m) fun _ m1 =>
  q_bd (f_Tape_put l2 m1) fun _ m2 =>
  q_bd (f_Tape_put l3 m2) fun _ m3 =>
  q_bd (f_Tape_put l4 m3) fun _ m4 =>
  q_bd (f_Tape_put l5 m4) fun _ m5 =>
  q_rt (m5 1 1) m5)
  else (q_rt (-1) m)
set_option maxRecDepth 20000 in
theorem ok_X10_feed {l1 l2 l3 l4 l5 : Int} {r : Int × q_Mem} {m : q_Mem} {N : Nat} (hN : 81 ≤ N) (h : f_PG_feed l1 l2 l3 l4 l5 m = some r) : q_C md_X10_feed (q_room 2) 0 0 [q_A 0, q_I l1, q_I l2, q_I l3, q_I l4, q_I l5] (q_g N) m (some (q_I r.1), q_g N, r.2) := by
  refine q_ofR (by decide) 0 (ls := [q_A 0, q_I l1, q_I l2, q_I l3, q_I l4, q_I l5]) rfl (Nat.le_of_ble_eq_true rfl) ?_
  change q_E md_X10_feed 2 N (some 0) r m 0 [q_A 0, q_I l1, q_I l2, q_I l3, q_I l4, q_I l5] []
  unfold f_PG_feed at h
  refine q_aload_n (M := md_X10_feed) (pc := 0) dX10_feed_0 rfl (by decide) ?_
  refine q_getP (M := md_X10_feed) (pc := 1) (v := 1) fl_10_12 dX10_feed_1 (is_0 hN) rfl ?_
  refine e_gI (M := md_X10_feed) (pc := 4) (v := m 1 1) fl_10_106 dX10_feed_4 (is_1 hN) rfl ?_
  refine q_bipush (M := md_X10_feed) (pc := 7) (x := 20) dX10_feed_7 (by decide) ?_
  refine q_iadd (M := md_X10_feed) (pc := 9) dX10_feed_9 ?_
  refine q_sipush (M := md_X10_feed) (pc := 10) (x := 800) dX10_feed_10 (by decide) ?_
  refine e_icmp_le (M := md_X10_feed) (pc := 13) (tgt := 18) h rfl (q_wlit rfl) dX10_feed_13 (by decide) (fun h => ?_) (fun h => ?_)
  · refine q_aload_n (M := md_X10_feed) (pc := 18) dX10_feed_18 rfl (by decide) ?_
    refine q_getP (M := md_X10_feed) (pc := 19) (v := 1) fl_10_12 dX10_feed_19 (is_0 hN) rfl ?_
    refine q_iload_n (M := md_X10_feed) (pc := 22) dX10_feed_22 rfl ?_
    refine e_callVv (M := md_X10_feed) (pc := 23) (d' := 1) (av := [q_I l1]) (c := 1) h ml_10_110 im_X7_put se_X7_put dX10_feed_23 (fun v he => ok_X7_put hN  he) rfl (is_1 hN) ⟨_, _, rfl⟩ (by decide) (Nat.le_of_ble_eq_true rfl) ⟨by decide, by decide⟩ rfl (fun _ m1 h => ?_)
    refine q_aload_n (M := md_X10_feed) (pc := 26) dX10_feed_26 rfl (by decide) ?_
    refine q_getP (M := md_X10_feed) (pc := 27) (v := 1) fl_10_12 dX10_feed_27 (is_0 hN) rfl ?_
    refine q_iload_n (M := md_X10_feed) (pc := 30) dX10_feed_30 rfl ?_
    refine e_callVv (M := md_X10_feed) (pc := 31) (d' := 1) (av := [q_I l2]) (c := 1) h ml_10_110 im_X7_put se_X7_put dX10_feed_31 (fun v he => ok_X7_put hN  he) rfl (is_1 hN) ⟨_, _, rfl⟩ (by decide) (Nat.le_of_ble_eq_true rfl) ⟨by decide, by decide⟩ rfl (fun _ m2 h => ?_)
    refine q_aload_n (M := md_X10_feed) (pc := 34) dX10_feed_34 rfl (by decide) ?_
    refine q_getP (M := md_X10_feed) (pc := 35) (v := 1) fl_10_12 dX10_feed_35 (is_0 hN) rfl ?_
    refine q_iload_n (M := md_X10_feed) (pc := 38) dX10_feed_38 rfl ?_
    refine e_callVv (M := md_X10_feed) (pc := 39) (d' := 1) (av := [q_I l3]) (c := 1) h ml_10_110 im_X7_put se_X7_put dX10_feed_39 (fun v he => ok_X7_put hN  he) rfl (is_1 hN) ⟨_, _, rfl⟩ (by decide) (Nat.le_of_ble_eq_true rfl) ⟨by decide, by decide⟩ rfl (fun _ m3 h => ?_)
    refine q_aload_n (M := md_X10_feed) (pc := 42) dX10_feed_42 rfl (by decide) ?_
    refine q_getP (M := md_X10_feed) (pc := 43) (v := 1) fl_10_12 dX10_feed_43 (is_0 hN) rfl ?_
    refine q_iload (M := md_X10_feed) (pc := 46) dX10_feed_46 rfl ?_
    refine e_callVv (M := md_X10_feed) (pc := 48) (d' := 1) (av := [q_I l4]) (c := 1) h ml_10_110 im_X7_put se_X7_put dX10_feed_48 (fun v he => ok_X7_put hN  he) rfl (is_1 hN) ⟨_, _, rfl⟩ (by decide) (Nat.le_of_ble_eq_true rfl) ⟨by decide, by decide⟩ rfl (fun _ m4 h => ?_)
    refine q_aload_n (M := md_X10_feed) (pc := 51) dX10_feed_51 rfl (by decide) ?_
    refine q_getP (M := md_X10_feed) (pc := 52) (v := 1) fl_10_12 dX10_feed_52 (is_0 hN) rfl ?_
    refine q_iload (M := md_X10_feed) (pc := 55) dX10_feed_55 rfl ?_
    refine e_callVv (M := md_X10_feed) (pc := 57) (d' := 1) (av := [q_I l5]) (c := 1) h ml_10_110 im_X7_put se_X7_put dX10_feed_57 (fun v he => ok_X7_put hN  he) rfl (is_1 hN) ⟨_, _, rfl⟩ (by decide) (Nat.le_of_ble_eq_true rfl) ⟨by decide, by decide⟩ rfl (fun _ m5 h => ?_)
    refine q_aload_n (M := md_X10_feed) (pc := 60) dX10_feed_60 rfl (by decide) ?_
    refine q_getP (M := md_X10_feed) (pc := 61) (v := 1) fl_10_12 dX10_feed_61 (is_0 hN) rfl ?_
    refine e_gI (M := md_X10_feed) (pc := 64) (v := m5 1 1) fl_10_106 dX10_feed_64 (is_1 hN) rfl ?_
    exact e_iret (M := md_X10_feed) (pc := 67) h rfl dX10_feed_67
  · refine q_iconst (M := md_X10_feed) (pc := 16) dX10_feed_16 ?_
    exact e_iret (M := md_X10_feed) (pc := 17) h rfl dX10_feed_17
def f_PG_end (l1 : Int) (m : q_Mem) : q_Res :=
  if q_w l1 < 0 then (q_rt (-1) m)
  else (if q_w l1 ≤ q_w (m 1 1) then (q_pf m 1 1 l1 fun m1 =>
  q_rt l1 m1)
  else (q_rt (-1) m))
set_option maxRecDepth 20000 in
theorem ok_X10_end {l1 : Int} {r : Int × q_Mem} {m : q_Mem} {N : Nat} (hN : 81 ≤ N) (h : f_PG_end l1 m = some r) : q_C md_X10_end (q_room 1) 0 0 [q_A 0, q_I l1] (q_g N) m (some (q_I r.1), q_g N, r.2) := by
  refine q_ofR (by decide) 0 (ls := [q_A 0, q_I l1]) rfl (Nat.le_of_ble_eq_true rfl) ?_
  change q_E md_X10_end 1 N (some 0) r m 0 [q_A 0, q_I l1] []
  unfold f_PG_end at h
  refine q_iload_n (M := md_X10_end) (pc := 0) dX10_end_0 rfl ?_
  refine e_if_lt (M := md_X10_end) (pc := 1) (tgt := 15) h rfl dX10_end_1 (by decide) (fun h => ?_) (fun h => ?_)
  · refine q_iconst (M := md_X10_end) (pc := 15) dX10_end_15 ?_
    exact e_iret (M := md_X10_end) (pc := 16) h rfl dX10_end_16
  · refine q_iload_n (M := md_X10_end) (pc := 4) dX10_end_4 rfl ?_
    refine q_aload_n (M := md_X10_end) (pc := 5) dX10_end_5 rfl (by decide) ?_
    refine q_getP (M := md_X10_end) (pc := 6) (v := 1) fl_10_12 dX10_end_6 (is_0 hN) rfl ?_
    refine e_gI (M := md_X10_end) (pc := 9) (v := m 1 1) fl_10_106 dX10_end_9 (is_1 hN) rfl ?_
    refine e_icmp_le (M := md_X10_end) (pc := 12) (tgt := 17) h rfl rfl dX10_end_12 (by decide) (fun h => ?_) (fun h => ?_)
    · refine q_aload_n (M := md_X10_end) (pc := 17) dX10_end_17 rfl (by decide) ?_
      refine q_getP (M := md_X10_end) (pc := 18) (v := 1) fl_10_12 dX10_end_18 (is_0 hN) rfl ?_
      refine q_iload_n (M := md_X10_end) (pc := 21) dX10_end_21 rfl ?_
      refine e_pfI (M := md_X10_end) (pc := 22) h fl_10_106 dX10_end_22 (is_1 hN) rfl (fun m1 h => ?_)
      refine q_iload_n (M := md_X10_end) (pc := 25) dX10_end_25 rfl ?_
      exact e_iret (M := md_X10_end) (pc := 26) h rfl dX10_end_26
    · refine q_iconst (M := md_X10_end) (pc := 15) dX10_end_15 ?_
      exact e_iret (M := md_X10_end) (pc := 16) h rfl dX10_end_16
def f_PG_reckonValues_b31 (k31 : Int → q_Mem → q_Res) (l4 : Int) (m : q_Mem) : q_Res :=
  if q_w (m 53 6) ≤ q_w l4 then (q_rt 0 m)
  else (q_rd m 56 100 l4 fun v1 =>
  q_bd (f_Reck_reckon v1 m) fun _ m2 =>
  k31 (l4 + 1) m2)
set_option maxRecDepth 20000 in
theorem w_PG_reckonValues_b31 {k31 : Int → q_Mem → q_Res} {l4 : Int} {r : Int × q_Mem} {m : q_Mem} {N : Nat} (hN : 81 ≤ N) (hk31 : ∀ (l4 : Int) (m : q_Mem), k31 l4 m = some r → q_E md_X10_reckonValues 5 N (none) r m 31 [q_A 0, q_N, q_N, q_N, q_I l4] []) (h : f_PG_reckonValues_b31 k31 l4 m = some r) : q_E md_X10_reckonValues 5 N (none) r m 31 [q_A 0, q_N, q_N, q_N, q_I l4] [] := by
  unfold f_PG_reckonValues_b31 at h
  refine q_iload (M := md_X10_reckonValues) (pc := 31) dX10_reckonValues_31 rfl ?_
  refine q_aload_n (M := md_X10_reckonValues) (pc := 33) dX10_reckonValues_33 rfl (by decide) ?_
  refine q_getP (M := md_X10_reckonValues) (pc := 34) (v := 53) fl_10_55 dX10_reckonValues_34 (is_0 hN) rfl ?_
  refine e_gI (M := md_X10_reckonValues) (pc := 37) (v := m 53 6) fl_10_244 dX10_reckonValues_37 (is_53 hN) rfl ?_
  refine e_icmp_ge (M := md_X10_reckonValues) (pc := 40) (tgt := 66) h rfl rfl dX10_reckonValues_40 (by decide) (fun h => ?_) (fun h => ?_)
  · exact e_vret (M := md_X10_reckonValues) (pc := 66) h rfl dX10_reckonValues_66
  · refine q_aload_n (M := md_X10_reckonValues) (pc := 43) dX10_reckonValues_43 rfl (by decide) ?_
    refine q_getP (M := md_X10_reckonValues) (pc := 44) (v := 77) fl_10_98 dX10_reckonValues_44 (is_0 hN) rfl ?_
    refine q_aload_n (M := md_X10_reckonValues) (pc := 47) dX10_reckonValues_47 rfl (by decide) ?_
    refine q_getP (M := md_X10_reckonValues) (pc := 48) (v := 53) fl_10_55 dX10_reckonValues_48 (is_0 hN) rfl ?_
    refine q_getP (M := md_X10_reckonValues) (pc := 51) (v := 56) fl_10_430 dX10_reckonValues_51 (is_53 hN) rfl ?_
    refine q_iload (M := md_X10_reckonValues) (pc := 54) dX10_reckonValues_54 rfl ?_
    refine e_rd (M := md_X10_reckonValues) (pc := 56) h dX10_reckonValues_56 (ar_56 hN) (fun v1 h => ?_)
    refine e_callVv (M := md_X10_reckonValues) (pc := 57) (d' := 4) (av := [q_I v1]) (c := 77) h ml_10_433 im_X5_reckon se_X5_reckon dX10_reckonValues_57 (fun v he => ok_X5_reckon hN  he) rfl (is_77 hN) ⟨_, _, rfl⟩ (by decide) (Nat.le_of_ble_eq_true rfl) ⟨by decide, by decide⟩ rfl (fun _ m2 h => ?_)
    refine e_inc (M := md_X10_reckonValues) (pc := 60) (x := l4) (ls' := [q_A 0, q_N, q_N, q_N, q_I (l4 + 1)]) dX10_reckonValues_60 rfl (by decide) (q_pl rfl) rfl ?_
    refine q_goto (M := md_X10_reckonValues) (pc := 63) (tgt := 31) dX10_reckonValues_63 (by decide) ?_
    exact q_weak (hk31 _ _  h) ⟨Or.inr rfl, Or.inl rfl, Or.inl rfl, Or.inl rfl, Or.inr rfl, trivial⟩
def f_PG_reckonValues_l31 : Nat → Int → q_Mem → q_Res
  | 0 => fun _ _ => none
  | n + 1 => fun l4 m => f_PG_reckonValues_b31 (f_PG_reckonValues_l31 n) l4 m
theorem w_PG_reckonValues_l31 {r : Int × q_Mem} {N : Nat} (hN : 81 ≤ N) : ∀ (n : Nat) (l4 : Int) (m : q_Mem), f_PG_reckonValues_l31 n l4 m = some r → q_E md_X10_reckonValues 5 N (none) r m 31 [q_A 0, q_N, q_N, q_N, q_I l4] [] := by
  intro n
  induction n with
  | zero => intro l4 m h; exact q_no h
  | succ n ih =>
    intro l4 m h
    exact w_PG_reckonValues_b31 hN (fun l4 m h => ih l4 m h) h
def f_PG_reckonValues (l1 l2 l3 : Int) (m : q_Mem) : q_Res :=
  q_lt (m 0 1) fun v1 => q_one q_Lp v1 <|
  q_bd (f_Reck_begin v1 54 l1 m) fun _ m2 =>
  q_bd (f_Reck_stir l2 l3 m2) fun _ m3 =>
  f_PG_reckonValues_l31 q_F 0 m3
set_option maxRecDepth 20000 in
theorem ok_X10_reckonValues {l1 l2 l3 : Int} {r : Int × q_Mem} {m : q_Mem} {N : Nat} (hN : 81 ≤ N) (hl1 : l1 ∈ ([74, 75, 76] : List Int)) (h : f_PG_reckonValues l1 l2 l3 m = some r) : q_C md_X10_reckonValues (q_room 5) 0 0 [q_A 0, q_A l1, q_I l2, q_I l3] (q_g N) m (none, q_g N, r.2) := by
  refine q_ofR (by decide) 1 (ls := [q_A 0, q_A l1, q_I l2, q_I l3, q_N]) rfl (Nat.le_of_ble_eq_true rfl) ?_
  change q_E md_X10_reckonValues 5 N (none) r m 0 [q_A 0, q_A l1, q_I l2, q_I l3, q_N] []
  unfold f_PG_reckonValues at h
  refine q_aload_n (M := md_X10_reckonValues) (pc := 0) dX10_reckonValues_0 rfl (by decide) ?_
  refine q_getP (M := md_X10_reckonValues) (pc := 1) (v := 77) fl_10_98 dX10_reckonValues_1 (is_0 hN) rfl ?_
  refine q_aload_n (M := md_X10_reckonValues) (pc := 4) dX10_reckonValues_4 rfl (by decide) ?_
  refine e_gR (M := md_X10_reckonValues) (pc := 5) h fl_10_19 dX10_reckonValues_5 (is_0 hN) rfl (fun v1 hv1 h => ?_)
  refine q_aload_n (M := md_X10_reckonValues) (pc := 8) dX10_reckonValues_8 rfl (by decide) ?_
  refine q_getP (M := md_X10_reckonValues) (pc := 9) (v := 53) fl_10_55 dX10_reckonValues_9 (is_0 hN) rfl ?_
  refine q_getP (M := md_X10_reckonValues) (pc := 12) (v := 54) fl_10_92 dX10_reckonValues_12 (is_53 hN) rfl ?_
  refine q_aload_n (M := md_X10_reckonValues) (pc := 15) dX10_reckonValues_15 rfl (ar_made hN hl1).1 ?_
  refine e_callVv (M := md_X10_reckonValues) (pc := 16) (d' := 2) (av := [q_A v1, q_A 54, q_A l1]) (c := 77) h ml_10_423 im_X5_begin se_X5_begin dX10_reckonValues_16 (fun v he => ok_X5_begin hN hv1 (by decide) hl1 he) rfl (is_77 hN) ⟨_, _, rfl⟩ (by decide) (Nat.le_of_ble_eq_true rfl) ⟨by decide, by decide⟩ rfl (fun _ m2 h => ?_)
  refine q_aload_n (M := md_X10_reckonValues) (pc := 19) dX10_reckonValues_19 rfl (by decide) ?_
  refine q_getP (M := md_X10_reckonValues) (pc := 20) (v := 77) fl_10_98 dX10_reckonValues_20 (is_0 hN) rfl ?_
  refine q_iload_n (M := md_X10_reckonValues) (pc := 23) dX10_reckonValues_23 rfl ?_
  refine q_iload_n (M := md_X10_reckonValues) (pc := 24) dX10_reckonValues_24 rfl ?_
  refine e_callVv (M := md_X10_reckonValues) (pc := 25) (d' := 1) (av := [q_I l2, q_I l3]) (c := 77) h ml_10_426 im_X5_stir se_X5_stir dX10_reckonValues_25 (fun v he => ok_X5_stir hN  he) rfl (is_77 hN) ⟨_, _, rfl⟩ (by decide) (Nat.le_of_ble_eq_true rfl) ⟨by decide, by decide⟩ rfl (fun _ m3 h => ?_)
  refine q_iconst (M := md_X10_reckonValues) (pc := 28) dX10_reckonValues_28 ?_
  refine e_ist (M := md_X10_reckonValues) (pc := 29) (ls' := [q_A 0, q_A l1, q_I l2, q_I l3, q_I 0]) dX10_reckonValues_29 (by decide) (q_pl rfl) rfl ?_
  exact q_weak (w_PG_reckonValues_l31 hN q_F _ _  h) ⟨Or.inr rfl, Or.inl rfl, Or.inl rfl, Or.inl rfl, Or.inr rfl, trivial⟩
def f_PG_current (m : q_Mem) : q_Res :=
  q_rd m 29 21 (m 28 1) fun v1 => q_one q_Ly v1 <|
  q_rt v1 m
set_option maxRecDepth 20000 in
theorem ok_X10_current {r : Int × q_Mem} {m : q_Mem} {N : Nat} (hN : 81 ≤ N) (h : f_PG_current m = some r) : q_C md_X10_current (q_room 1) 0 0 [q_A 0] (q_g N) m (some (q_A r.1), q_g N, r.2) := by
  refine q_ofR (by decide) 0 (ls := [q_A 0]) rfl (Nat.le_of_ble_eq_true rfl) ?_
  change q_E md_X10_current 1 N (some 2) r m 0 [q_A 0] []
  unfold f_PG_current at h
  refine q_aload_n (M := md_X10_current) (pc := 0) dX10_current_0 rfl (by decide) ?_
  refine q_getP (M := md_X10_current) (pc := 1) (v := 28) fl_10_38 dX10_current_1 (is_0 hN) rfl ?_
  refine q_getP (M := md_X10_current) (pc := 4) (v := 29) fl_10_406 dX10_current_4 (is_28 hN) rfl ?_
  refine q_aload_n (M := md_X10_current) (pc := 7) dX10_current_7 rfl (by decide) ?_
  refine q_getP (M := md_X10_current) (pc := 8) (v := 28) fl_10_38 dX10_current_8 (is_0 hN) rfl ?_
  refine e_gI (M := md_X10_current) (pc := 11) (v := m 28 1) fl_10_392 dX10_current_11 (is_28 hN) rfl ?_
  refine e_rda (M := md_X10_current) (pc := 14) h dX10_current_14 (ar_29 hN) (fun v1 h => ?_)
  obtain ⟨hv1, h⟩ := e_one h
  exact e_aret (M := md_X10_current) (pc := 15) h rfl (Or.inl ⟨_, rfl⟩) (nn_Ly hv1) dX10_current_15
def f_PG_settle (m : q_Mem) : q_Res :=
  q_lt (m 0 1) fun v1 => q_one q_Lp v1 <|
  q_bd (f_PG_current m) fun v2 m3 => q_one q_Ly v2 <|
  q_bd (f_Plac_place v1 v2 m3) fun _ m4 =>
  q_pz m4 0 15 0 fun m5 =>
  q_rt 0 m5
set_option maxRecDepth 20000 in
theorem ok_X10_settle {r : Int × q_Mem} {m : q_Mem} {N : Nat} (hN : 81 ≤ N) (h : f_PG_settle m = some r) : q_C md_X10_settle (q_room 4) 0 0 [q_A 0] (q_g N) m (none, q_g N, r.2) := by
  refine q_ofR (by decide) 0 (ls := [q_A 0]) rfl (Nat.le_of_ble_eq_true rfl) ?_
  change q_E md_X10_settle 4 N (none) r m 0 [q_A 0] []
  unfold f_PG_settle at h
  refine q_aload_n (M := md_X10_settle) (pc := 0) dX10_settle_0 rfl (by decide) ?_
  refine q_getP (M := md_X10_settle) (pc := 1) (v := 60) fl_10_62 dX10_settle_1 (is_0 hN) rfl ?_
  refine q_aload_n (M := md_X10_settle) (pc := 4) dX10_settle_4 rfl (by decide) ?_
  refine e_gR (M := md_X10_settle) (pc := 5) h fl_10_19 dX10_settle_5 (is_0 hN) rfl (fun v1 hv1 h => ?_)
  refine q_aload_n (M := md_X10_settle) (pc := 8) dX10_settle_8 rfl (by decide) ?_
  refine e_callVr (M := md_X10_settle) (pc := 9) (d' := 1) (av := []) (c := 0) h ml_10_170 im_X10_current se_X10_current dX10_settle_9 (fun v he => ok_X10_current hN  he) rfl (is_0 hN) ⟨_, _, rfl⟩ (by decide) (Nat.le_of_ble_eq_true rfl) ⟨by decide, by decide⟩ rfl (fun v2 m3 h => ?_)
  obtain ⟨hv2, h⟩ := e_one h
  refine e_callVv (M := md_X10_settle) (pc := 12) (d' := 3) (av := [q_A v1, q_A v2]) (c := 60) h ml_10_416 im_X4_place se_X4_place dX10_settle_12 (fun v he => ok_X4_place hN hv1 hv2 he) rfl (is_60 hN) ⟨_, _, rfl⟩ (by decide) (Nat.le_of_ble_eq_true rfl) ⟨by decide, by decide⟩ rfl (fun _ m4 h => ?_)
  refine q_aload_n (M := md_X10_settle) (pc := 15) dX10_settle_15 rfl (by decide) ?_
  refine q_iconst (M := md_X10_settle) (pc := 16) dX10_settle_16 ?_
  refine e_pfZ (M := md_X10_settle) (pc := 17) h fl_10_419 dX10_settle_17 (is_0 hN) rfl (fun m5 h => ?_)
  exact e_vret (M := md_X10_settle) (pc := 20) h rfl dX10_settle_20
def f_PG_takeUp_b19 (k19 : Int → q_Mem → q_Res) (l1 : Int) (m : q_Mem) : q_Res :=
  if 2 ≤ q_w l1 then (q_lt (m 0 1) fun v1 => q_one q_Lp v1 <|
  q_bd (f_Web_weave v1 m) fun _ m2 =>
  q_bd (f_PG_reckonValues 74 (-1) (-1) m2) fun _ m3 =>
  q_bd (f_PG_settle m3) fun _ m4 =>
  q_rt 0 m4)
  else (q_wrz m 52 2 l1 0 fun m5 =>
  k19 (l1 + 1) m5)
set_option maxRecDepth 20000 in
theorem w_PG_takeUp_b19 {k19 : Int → q_Mem → q_Res} {l1 : Int} {r : Int × q_Mem} {m : q_Mem} {N : Nat} (hN : 81 ≤ N) (hk19 : ∀ (l1 : Int) (m : q_Mem), k19 l1 m = some r → q_E md_X10_takeUp 6 N (none) r m 19 [q_A 0, q_I l1] []) (h : f_PG_takeUp_b19 k19 l1 m = some r) : q_E md_X10_takeUp 6 N (none) r m 19 [q_A 0, q_I l1] [] := by
  unfold f_PG_takeUp_b19 at h
  refine q_iload_n (M := md_X10_takeUp) (pc := 19) dX10_takeUp_19 rfl ?_
  refine q_iconst (M := md_X10_takeUp) (pc := 20) dX10_takeUp_20 ?_
  refine e_icmp_ge (M := md_X10_takeUp) (pc := 21) (tgt := 37) h rfl (q_wlit rfl) dX10_takeUp_21 (by decide) (fun h => ?_) (fun h => ?_)
  · refine q_aload_n (M := md_X10_takeUp) (pc := 37) dX10_takeUp_37 rfl (by decide) ?_
    refine q_getP (M := md_X10_takeUp) (pc := 38) (v := 53) fl_10_55 dX10_takeUp_38 (is_0 hN) rfl ?_
    refine q_aload_n (M := md_X10_takeUp) (pc := 41) dX10_takeUp_41 rfl (by decide) ?_
    refine e_gR (M := md_X10_takeUp) (pc := 42) h fl_10_19 dX10_takeUp_42 (is_0 hN) rfl (fun v1 hv1 h => ?_)
    refine e_callVv (M := md_X10_takeUp) (pc := 45) (d' := 4) (av := [q_A v1]) (c := 53) h ml_10_413 im_X9_weave se_X9_weave dX10_takeUp_45 (fun v he => ok_X9_weave hN hv1 he) rfl (is_53 hN) ⟨_, _, rfl⟩ (by decide) (Nat.le_of_ble_eq_true rfl) ⟨by decide, by decide⟩ rfl (fun _ m2 h => ?_)
    refine q_aload_n (M := md_X10_takeUp) (pc := 48) dX10_takeUp_48 rfl (by decide) ?_
    refine q_aload_n (M := md_X10_takeUp) (pc := 49) dX10_takeUp_49 rfl (by decide) ?_
    refine q_getP (M := md_X10_takeUp) (pc := 50) (v := 74) fl_10_80 dX10_takeUp_50 (is_0 hN) rfl ?_
    refine q_iconst (M := md_X10_takeUp) (pc := 53) dX10_takeUp_53 ?_
    refine q_iconst (M := md_X10_takeUp) (pc := 54) dX10_takeUp_54 ?_
    refine e_callVv (M := md_X10_takeUp) (pc := 55) (d' := 5) (av := [q_A 74, q_I (-1), q_I (-1)]) (c := 0) h ml_10_357 im_X10_reckonValues se_X10_reckonValues dX10_takeUp_55 (fun v he => ok_X10_reckonValues hN (by decide) he) rfl (is_0 hN) ⟨_, _, rfl⟩ (by decide) (Nat.le_of_ble_eq_true rfl) ⟨by decide, by decide⟩ rfl (fun _ m3 h => ?_)
    refine q_aload_n (M := md_X10_takeUp) (pc := 58) dX10_takeUp_58 rfl (by decide) ?_
    refine e_callVv (M := md_X10_takeUp) (pc := 59) (d' := 4) (av := []) (c := 0) h ml_10_141 im_X10_settle se_X10_settle dX10_takeUp_59 (fun v he => ok_X10_settle hN  he) rfl (is_0 hN) ⟨_, _, rfl⟩ (by decide) (Nat.le_of_ble_eq_true rfl) ⟨by decide, by decide⟩ rfl (fun _ m4 h => ?_)
    exact e_vret (M := md_X10_takeUp) (pc := 62) h rfl dX10_takeUp_62
  · refine q_aload_n (M := md_X10_takeUp) (pc := 24) dX10_takeUp_24 rfl (by decide) ?_
    refine q_getP (M := md_X10_takeUp) (pc := 25) (v := 52) fl_10_48 dX10_takeUp_25 (is_0 hN) rfl ?_
    refine q_iload_n (M := md_X10_takeUp) (pc := 28) dX10_takeUp_28 rfl ?_
    refine q_iconst (M := md_X10_takeUp) (pc := 29) dX10_takeUp_29 ?_
    refine e_wrz (M := md_X10_takeUp) (pc := 30) h dX10_takeUp_30 (ar_52 hN) (fun m5 h => ?_)
    refine e_inc (M := md_X10_takeUp) (pc := 31) (x := l1) (ls' := [q_A 0, q_I (l1 + 1)]) dX10_takeUp_31 rfl (by decide) (q_pl rfl) rfl ?_
    refine q_goto (M := md_X10_takeUp) (pc := 34) (tgt := 19) dX10_takeUp_34 (by decide) ?_
    exact q_weak (hk19 _ _  h) ⟨Or.inr rfl, Or.inr rfl, trivial⟩
def f_PG_takeUp_l19 : Nat → Int → q_Mem → q_Res
  | 0 => fun _ _ => none
  | n + 1 => fun l1 m => f_PG_takeUp_b19 (f_PG_takeUp_l19 n) l1 m
theorem w_PG_takeUp_l19 {r : Int × q_Mem} {N : Nat} (hN : 81 ≤ N) : ∀ (n : Nat) (l1 : Int) (m : q_Mem), f_PG_takeUp_l19 n l1 m = some r → q_E md_X10_takeUp 6 N (none) r m 19 [q_A 0, q_I l1] [] := by
  intro n
  induction n with
  | zero => intro l1 m h; exact q_no h
  | succ n ih =>
    intro l1 m h
    exact w_PG_takeUp_b19 hN (fun l1 m h => ih l1 m h) h
def f_PG_takeUp (m : q_Mem) : q_Res :=
  q_bd (f_Hist_restart m) fun v1 m2 => q_one q_Ly v1 <|
  q_lt (m2 0 1) fun v3 => q_one q_Lp v3 <|
  q_bd (f_Layo_copy v1 (v3 + 1) m2) fun _ m4 =>
  f_PG_takeUp_l19 q_F 0 m4
set_option maxRecDepth 20000 in
theorem ok_X10_takeUp {r : Int × q_Mem} {m : q_Mem} {N : Nat} (hN : 81 ≤ N) (h : f_PG_takeUp m = some r) : q_C md_X10_takeUp (q_room 6) 0 0 [q_A 0] (q_g N) m (none, q_g N, r.2) := by
  refine q_ofR (by decide) 1 (ls := [q_A 0, q_N]) rfl (Nat.le_of_ble_eq_true rfl) ?_
  change q_E md_X10_takeUp 6 N (none) r m 0 [q_A 0, q_N] []
  unfold f_PG_takeUp at h
  refine q_aload_n (M := md_X10_takeUp) (pc := 0) dX10_takeUp_0 rfl (by decide) ?_
  refine q_getP (M := md_X10_takeUp) (pc := 1) (v := 28) fl_10_38 dX10_takeUp_1 (is_0 hN) rfl ?_
  refine e_callVr (M := md_X10_takeUp) (pc := 4) (d' := 1) (av := []) (c := 28) h ml_10_377 im_X0_restart se_X0_restart dX10_takeUp_4 (fun v he => ok_X0_restart hN  he) rfl (is_28 hN) ⟨_, _, rfl⟩ (by decide) (Nat.le_of_ble_eq_true rfl) ⟨by decide, by decide⟩ rfl (fun v1 m2 h => ?_)
  obtain ⟨hv1, h⟩ := e_one h
  refine q_aload_n (M := md_X10_takeUp) (pc := 7) dX10_takeUp_7 rfl (by decide) ?_
  refine e_gR (M := md_X10_takeUp) (pc := 8) h fl_10_19 dX10_takeUp_8 (is_0 hN) rfl (fun v3 hv3 h => ?_)
  refine q_getP (M := md_X10_takeUp) (pc := 11) (v := v3 + 1) fl_10_409 dX10_takeUp_11 (is_Lp hN hv3) (ph_Lp_8 hv3) ?_
  refine e_callVv (M := md_X10_takeUp) (pc := 14) (d' := 1) (av := [q_A (v3 + 1)]) (c := v1) h ml_10_373 im_X1_copy se_X1_copy dX10_takeUp_14 (fun v he => ok_X1_copy hN hv1 (ly_Lp hv3) he) rfl (is_Ly hN hv1) ⟨_, _, rfl⟩ (by decide) (Nat.le_of_ble_eq_true rfl) ⟨by decide, by decide⟩ rfl (fun _ m4 h => ?_)
  refine q_iconst (M := md_X10_takeUp) (pc := 17) dX10_takeUp_17 ?_
  refine e_ist_n (M := md_X10_takeUp) (pc := 18) (ls' := [q_A 0, q_I 0]) dX10_takeUp_18 (by decide) (q_pl rfl) rfl ?_
  exact q_weak (w_PG_takeUp_l19 hN q_F _ _  h) ⟨Or.inr rfl, Or.inr rfl, trivial⟩
def f_PG_fault (l1 : Int) (m : q_Mem) : q_Res :=
  if q_w l1 = 0 then (q_rt (m 25 4) m)
  else if q_w l1 = 1 then (q_rt (m 25 5) m)
  else (q_rt (-1) m)
set_option maxRecDepth 20000 in
theorem ok_X10_fault {l1 : Int} {r : Int × q_Mem} {m : q_Mem} {N : Nat} (hN : 81 ≤ N) (h : f_PG_fault l1 m = some r) : q_C md_X10_fault (q_room 1) 0 0 [q_A 0, q_I l1] (q_g N) m (some (q_I r.1), q_g N, r.2) := by
  refine q_ofR (by decide) 0 (ls := [q_A 0, q_I l1]) rfl (Nat.le_of_ble_eq_true rfl) ?_
  change q_E md_X10_fault 1 N (some 0) r m 0 [q_A 0, q_I l1] []
  unfold f_PG_fault at h
  refine q_iload_n (M := md_X10_fault) (pc := 0) dX10_fault_0 rfl ?_
  by_cases c1 : q_w l1 = 0
  · rw [if_pos c1] at h
    refine q_lookup (M := md_X10_fault) (pc := 1) (tgt := 28) dX10_fault_1 (by decide) (by rw [c1] <;> decide) (by decide) ?_
    refine q_aload_n (M := md_X10_fault) (pc := 28) dX10_fault_28 rfl (by decide) ?_
    refine q_getP (M := md_X10_fault) (pc := 29) (v := 25) fl_10_31 dX10_fault_29 (is_0 hN) rfl ?_
    refine e_gI (M := md_X10_fault) (pc := 32) (v := m 25 4) fl_10_118 dX10_fault_32 (is_25 hN) rfl ?_
    exact e_iret (M := md_X10_fault) (pc := 35) h rfl dX10_fault_35
  rw [if_neg c1] at h
  by_cases c2 : q_w l1 = 1
  · rw [if_pos c2] at h
    refine q_lookup (M := md_X10_fault) (pc := 1) (tgt := 36) dX10_fault_1 (by decide) (by rw [c2] <;> decide) (by decide) ?_
    refine q_aload_n (M := md_X10_fault) (pc := 36) dX10_fault_36 rfl (by decide) ?_
    refine q_getP (M := md_X10_fault) (pc := 37) (v := 25) fl_10_31 dX10_fault_37 (is_0 hN) rfl ?_
    refine e_gI (M := md_X10_fault) (pc := 40) (v := m 25 5) fl_10_124 dX10_fault_40 (is_25 hN) rfl ?_
    exact e_iret (M := md_X10_fault) (pc := 43) h rfl dX10_fault_43
  rw [if_neg c2] at h
  refine q_lookup (M := md_X10_fault) (pc := 1) (tgt := 44) (off := 43) dX10_fault_1 (by decide) (by simp [Op.lookupswitch.offset, Ne.symm c1, Ne.symm c2]) (by decide) ?_
  refine q_iconst (M := md_X10_fault) (pc := 44) dX10_fault_44 ?_
  exact e_iret (M := md_X10_fault) (pc := 45) h rfl dX10_fault_45
def f_PG_fire (l1 l2 : Int) (m : q_Mem) : q_Res :=
  q_bd (f_PG_isWithin l1 9 m) fun v1 m2 =>
  if q_w v1 = 0 then (q_rt (-1) m2)
  else (q_bd (f_PG_isWithin l2 9 m2) fun v3 m4 =>
  if q_w v3 = 0 then (q_rt (-1) m4)
  else (q_bd (f_Hist_open m4) fun v5 m6 => q_one q_Ly v5 <|
  q_pf m6 v5 0 l1 fun m7 =>
  q_pf m7 v5 1 l2 fun m8 =>
  q_bd (f_PG_settle m8) fun _ m9 =>
  q_lt (m9 0 1) fun v10 => q_one q_Lp v10 <|
  q_bd (f_Loop_isLawful v10 l1 l2 m9) fun v11 m12 =>
  if q_w v11 = 0 then (q_rt 0 m12)
  else (q_rt 1 m12)))
set_option maxRecDepth 20000 in
theorem ok_X10_fire {l1 l2 : Int} {r : Int × q_Mem} {m : q_Mem} {N : Nat} (hN : 81 ≤ N) (h : f_PG_fire l1 l2 m = some r) : q_C md_X10_fire (q_room 5) 0 0 [q_A 0, q_I l1, q_I l2] (q_g N) m (some (q_I r.1), q_g N, r.2) := by
  refine q_ofR (by decide) 1 (ls := [q_A 0, q_I l1, q_I l2, q_N]) rfl (Nat.le_of_ble_eq_true rfl) ?_
  change q_E md_X10_fire 5 N (some 0) r m 0 [q_A 0, q_I l1, q_I l2, q_N] []
  unfold f_PG_fire at h
  refine q_iload_n (M := md_X10_fire) (pc := 0) dX10_fire_0 rfl ?_
  refine q_bipush (M := md_X10_fire) (pc := 1) (x := 9) dX10_fire_1 (by decide) ?_
  refine e_callSi (M := md_X10_fire) (pc := 3) (d' := 1) (M' := md_X10_isWithin) (av := [q_I l1, q_I 9]) h ml_10_127 sm_X10_isWithin dX10_fire_3 (fun v he => ok_X10_isWithin hN  he) rfl (Nat.le_of_ble_eq_true rfl) ⟨by decide, by decide⟩ rfl (fun v1 m2 h => ?_)
  refine e_if_eq (M := md_X10_fire) (pc := 6) (tgt := 18) h rfl dX10_fire_6 (by decide) (fun h => ?_) (fun h => ?_)
  · refine q_iconst (M := md_X10_fire) (pc := 18) dX10_fire_18 ?_
    exact e_iret (M := md_X10_fire) (pc := 19) h rfl dX10_fire_19
  · refine q_iload_n (M := md_X10_fire) (pc := 9) dX10_fire_9 rfl ?_
    refine q_bipush (M := md_X10_fire) (pc := 10) (x := 9) dX10_fire_10 (by decide) ?_
    refine e_callSi (M := md_X10_fire) (pc := 12) (d' := 1) (M' := md_X10_isWithin) (av := [q_I l2, q_I 9]) h ml_10_127 sm_X10_isWithin dX10_fire_12 (fun v he => ok_X10_isWithin hN  he) rfl (Nat.le_of_ble_eq_true rfl) ⟨by decide, by decide⟩ rfl (fun v3 m4 h => ?_)
    refine e_if_ne (M := md_X10_fire) (pc := 15) (tgt := 20) h rfl dX10_fire_15 (by decide) (fun h => ?_) (fun h => ?_)
    · refine q_aload_n (M := md_X10_fire) (pc := 20) dX10_fire_20 rfl (by decide) ?_
      refine q_getP (M := md_X10_fire) (pc := 21) (v := 28) fl_10_38 dX10_fire_21 (is_0 hN) rfl ?_
      refine e_callVr (M := md_X10_fire) (pc := 24) (d' := 2) (av := []) (c := 28) h ml_10_131 im_X0_open se_X0_open dX10_fire_24 (fun v he => ok_X0_open hN  he) rfl (is_28 hN) ⟨_, _, rfl⟩ (by decide) (Nat.le_of_ble_eq_true rfl) ⟨by decide, by decide⟩ rfl (fun v5 m6 h => ?_)
      obtain ⟨hv5, h⟩ := e_one h
      refine e_ast_n (M := md_X10_fire) (pc := 27) (ls' := [q_A 0, q_I l1, q_I l2, q_A v5]) dX10_fire_27 (nn_Ly hv5) (by decide) (q_pl rfl) rfl ?_
      refine q_aload_n (M := md_X10_fire) (pc := 28) dX10_fire_28 rfl (nn_Ly hv5) ?_
      refine q_iload_n (M := md_X10_fire) (pc := 29) dX10_fire_29 rfl ?_
      refine e_pfI (M := md_X10_fire) (pc := 30) h fl_10_135 dX10_fire_30 (is_Ly hN hv5) rfl (fun m7 h => ?_)
      refine q_aload_n (M := md_X10_fire) (pc := 33) dX10_fire_33 rfl (nn_Ly hv5) ?_
      refine q_iload_n (M := md_X10_fire) (pc := 34) dX10_fire_34 rfl ?_
      refine e_pfI (M := md_X10_fire) (pc := 35) h fl_10_138 dX10_fire_35 (is_Ly hN hv5) rfl (fun m8 h => ?_)
      refine q_aload_n (M := md_X10_fire) (pc := 38) dX10_fire_38 rfl (by decide) ?_
      refine e_callVv (M := md_X10_fire) (pc := 39) (d' := 4) (av := []) (c := 0) h ml_10_141 im_X10_settle se_X10_settle dX10_fire_39 (fun v he => ok_X10_settle hN  he) rfl (is_0 hN) ⟨_, _, rfl⟩ (by decide) (Nat.le_of_ble_eq_true rfl) ⟨by decide, by decide⟩ rfl (fun _ m9 h => ?_)
      refine q_aload_n (M := md_X10_fire) (pc := 42) dX10_fire_42 rfl (by decide) ?_
      refine e_gR (M := md_X10_fire) (pc := 43) h fl_10_19 dX10_fire_43 (is_0 hN) rfl (fun v10 hv10 h => ?_)
      refine q_iload_n (M := md_X10_fire) (pc := 46) dX10_fire_46 rfl ?_
      refine q_iload_n (M := md_X10_fire) (pc := 47) dX10_fire_47 rfl ?_
      refine e_callVi (M := md_X10_fire) (pc := 48) (d' := 1) (av := [q_I l1, q_I l2]) (c := v10) h ml_10_144 im_X2_isLawful se_X2_isLawful dX10_fire_48 (fun v he => ok_X2_isLawful hN hv10 he) rfl (is_Lp hN hv10) ⟨_, _, rfl⟩ (by decide) (Nat.le_of_ble_eq_true rfl) ⟨by decide, by decide⟩ rfl (fun v11 m12 h => ?_)
      refine e_if_eq (M := md_X10_fire) (pc := 51) (tgt := 58) h rfl dX10_fire_51 (by decide) (fun h => ?_) (fun h => ?_)
      · refine q_iconst (M := md_X10_fire) (pc := 58) dX10_fire_58 ?_
        exact e_iret (M := md_X10_fire) (pc := 59) h rfl dX10_fire_59
      · refine q_iconst (M := md_X10_fire) (pc := 54) dX10_fire_54 ?_
        refine q_goto (M := md_X10_fire) (pc := 55) (tgt := 59) dX10_fire_55 (by decide) ?_
        exact e_iret (M := md_X10_fire) (pc := 59) h rfl dX10_fire_59
    · refine q_iconst (M := md_X10_fire) (pc := 18) dX10_fire_18 ?_
      exact e_iret (M := md_X10_fire) (pc := 19) h rfl dX10_fire_19
def f_PG_onto (l1 l2 : Int) (m : q_Mem) : q_Res :=
  q_bd (f_PG_isLine l1 l2 m) fun v1 m2 =>
  if q_w v1 = 0 then (q_rt (-1) m2)
  else (q_bd (f_Hist_open m2) fun v3 m4 => q_one q_Ly v3 <|
  q_pf m4 v3 2 l1 fun m5 =>
  q_pf m5 v3 3 l2 fun m6 =>
  q_pf m6 v3 5 0 fun m7 =>
  q_bd (f_PG_settle m7) fun _ m8 =>
  q_rt (m8 60 10) m8)
set_option maxRecDepth 20000 in
theorem ok_X10_onto {l1 l2 : Int} {r : Int × q_Mem} {m : q_Mem} {N : Nat} (hN : 81 ≤ N) (h : f_PG_onto l1 l2 m = some r) : q_C md_X10_onto (q_room 5) 0 0 [q_A 0, q_I l1, q_I l2] (q_g N) m (some (q_I r.1), q_g N, r.2) := by
  refine q_ofR (by decide) 1 (ls := [q_A 0, q_I l1, q_I l2, q_N]) rfl (Nat.le_of_ble_eq_true rfl) ?_
  change q_E md_X10_onto 5 N (some 0) r m 0 [q_A 0, q_I l1, q_I l2, q_N] []
  unfold f_PG_onto at h
  refine q_iload_n (M := md_X10_onto) (pc := 0) dX10_onto_0 rfl ?_
  refine q_iload_n (M := md_X10_onto) (pc := 1) dX10_onto_1 rfl ?_
  refine e_callSi (M := md_X10_onto) (pc := 2) (d' := 2) (M' := md_X10_isLine) (av := [q_I l1, q_I l2]) h ml_10_147 sm_X10_isLine dX10_onto_2 (fun v he => ok_X10_isLine hN  he) rfl (Nat.le_of_ble_eq_true rfl) ⟨by decide, by decide⟩ rfl (fun v1 m2 h => ?_)
  refine e_if_ne (M := md_X10_onto) (pc := 5) (tgt := 10) h rfl dX10_onto_5 (by decide) (fun h => ?_) (fun h => ?_)
  · refine q_aload_n (M := md_X10_onto) (pc := 10) dX10_onto_10 rfl (by decide) ?_
    refine q_getP (M := md_X10_onto) (pc := 11) (v := 28) fl_10_38 dX10_onto_11 (is_0 hN) rfl ?_
    refine e_callVr (M := md_X10_onto) (pc := 14) (d' := 2) (av := []) (c := 28) h ml_10_131 im_X0_open se_X0_open dX10_onto_14 (fun v he => ok_X0_open hN  he) rfl (is_28 hN) ⟨_, _, rfl⟩ (by decide) (Nat.le_of_ble_eq_true rfl) ⟨by decide, by decide⟩ rfl (fun v3 m4 h => ?_)
    obtain ⟨hv3, h⟩ := e_one h
    refine e_ast_n (M := md_X10_onto) (pc := 17) (ls' := [q_A 0, q_I l1, q_I l2, q_A v3]) dX10_onto_17 (nn_Ly hv3) (by decide) (q_pl rfl) rfl ?_
    refine q_aload_n (M := md_X10_onto) (pc := 18) dX10_onto_18 rfl (nn_Ly hv3) ?_
    refine q_iload_n (M := md_X10_onto) (pc := 19) dX10_onto_19 rfl ?_
    refine e_pfI (M := md_X10_onto) (pc := 20) h fl_10_150 dX10_onto_20 (is_Ly hN hv3) rfl (fun m5 h => ?_)
    refine q_aload_n (M := md_X10_onto) (pc := 23) dX10_onto_23 rfl (nn_Ly hv3) ?_
    refine q_iload_n (M := md_X10_onto) (pc := 24) dX10_onto_24 rfl ?_
    refine e_pfI (M := md_X10_onto) (pc := 25) h fl_10_153 dX10_onto_25 (is_Ly hN hv3) rfl (fun m6 h => ?_)
    refine q_aload_n (M := md_X10_onto) (pc := 28) dX10_onto_28 rfl (nn_Ly hv3) ?_
    refine q_lconst (M := md_X10_onto) (pc := 29) (x := 0) dX10_onto_29 (by decide) ?_
    refine e_pfL (M := md_X10_onto) (pc := 30) h fl_10_156 dX10_onto_30 (is_Ly hN hv3) rfl (fun m7 h => ?_)
    refine q_aload_n (M := md_X10_onto) (pc := 33) dX10_onto_33 rfl (by decide) ?_
    refine e_callVv (M := md_X10_onto) (pc := 34) (d' := 4) (av := []) (c := 0) h ml_10_141 im_X10_settle se_X10_settle dX10_onto_34 (fun v he => ok_X10_settle hN  he) rfl (is_0 hN) ⟨_, _, rfl⟩ (by decide) (Nat.le_of_ble_eq_true rfl) ⟨by decide, by decide⟩ rfl (fun _ m8 h => ?_)
    refine q_aload_n (M := md_X10_onto) (pc := 37) dX10_onto_37 rfl (by decide) ?_
    refine q_getP (M := md_X10_onto) (pc := 38) (v := 60) fl_10_62 dX10_onto_38 (is_0 hN) rfl ?_
    refine e_gI (M := md_X10_onto) (pc := 41) (v := m8 60 10) fl_10_160 dX10_onto_41 (is_60 hN) rfl ?_
    exact e_iret (M := md_X10_onto) (pc := 44) h rfl dX10_onto_44
  · refine q_iconst (M := md_X10_onto) (pc := 8) dX10_onto_8 ?_
    exact e_iret (M := md_X10_onto) (pc := 9) h rfl dX10_onto_9
def f_PG_workers (l1 : Int) (m : q_Mem) : q_Res :=
  if q_w l1 < 1 then (q_rt (-1) m)
  else (if q_w l1 ≤ 12 then (q_bd (f_Hist_open m) fun v1 m2 => q_one q_Ly v1 <|
  q_pf m2 v1 4 l1 fun m3 =>
  q_rt (m2 v1 4) m3)
  else (q_rt (-1) m))
set_option maxRecDepth 20000 in
theorem ok_X10_workers {l1 : Int} {r : Int × q_Mem} {m : q_Mem} {N : Nat} (hN : 81 ≤ N) (h : f_PG_workers l1 m = some r) : q_C md_X10_workers (q_room 3) 0 0 [q_A 0, q_I l1] (q_g N) m (some (q_I r.1), q_g N, r.2) := by
  refine q_ofR (by decide) 2 (ls := [q_A 0, q_I l1, q_N, q_N]) rfl (Nat.le_of_ble_eq_true rfl) ?_
  change q_E md_X10_workers 3 N (some 0) r m 0 [q_A 0, q_I l1, q_N, q_N] []
  unfold f_PG_workers at h
  refine q_iload_n (M := md_X10_workers) (pc := 0) dX10_workers_0 rfl ?_
  refine q_iconst (M := md_X10_workers) (pc := 1) dX10_workers_1 ?_
  refine e_icmp_lt (M := md_X10_workers) (pc := 2) (tgt := 11) h rfl (q_wlit rfl) dX10_workers_2 (by decide) (fun h => ?_) (fun h => ?_)
  · refine q_iconst (M := md_X10_workers) (pc := 11) dX10_workers_11 ?_
    exact e_iret (M := md_X10_workers) (pc := 12) h rfl dX10_workers_12
  · refine q_iload_n (M := md_X10_workers) (pc := 5) dX10_workers_5 rfl ?_
    refine q_bipush (M := md_X10_workers) (pc := 6) (x := 12) dX10_workers_6 (by decide) ?_
    refine e_icmp_le (M := md_X10_workers) (pc := 8) (tgt := 13) h rfl (q_wlit rfl) dX10_workers_8 (by decide) (fun h => ?_) (fun h => ?_)
    · refine q_aload_n (M := md_X10_workers) (pc := 13) dX10_workers_13 rfl (by decide) ?_
      refine q_getP (M := md_X10_workers) (pc := 14) (v := 28) fl_10_38 dX10_workers_14 (is_0 hN) rfl ?_
      refine e_callVr (M := md_X10_workers) (pc := 17) (d' := 2) (av := []) (c := 28) h ml_10_131 im_X0_open se_X0_open dX10_workers_17 (fun v he => ok_X0_open hN  he) rfl (is_28 hN) ⟨_, _, rfl⟩ (by decide) (Nat.le_of_ble_eq_true rfl) ⟨by decide, by decide⟩ rfl (fun v1 m2 h => ?_)
      obtain ⟨hv1, h⟩ := e_one h
      refine e_ast_n (M := md_X10_workers) (pc := 20) (ls' := [q_A 0, q_I l1, q_A v1, q_N]) dX10_workers_20 (nn_Ly hv1) (by decide) (q_pl rfl) rfl ?_
      refine q_aload_n (M := md_X10_workers) (pc := 21) dX10_workers_21 rfl (nn_Ly hv1) ?_
      refine e_gI (M := md_X10_workers) (pc := 22) (v := m2 v1 4) fl_10_163 dX10_workers_22 (is_Ly hN hv1) rfl ?_
      refine e_ist_n (M := md_X10_workers) (pc := 25) (ls' := [q_A 0, q_I l1, q_A v1, q_I (m2 v1 4)]) dX10_workers_25 (by decide) (q_pl rfl) rfl ?_
      refine q_aload_n (M := md_X10_workers) (pc := 26) dX10_workers_26 rfl (nn_Ly hv1) ?_
      refine q_iload_n (M := md_X10_workers) (pc := 27) dX10_workers_27 rfl ?_
      refine e_pfI (M := md_X10_workers) (pc := 28) h fl_10_163 dX10_workers_28 (is_Ly hN hv1) rfl (fun m3 h => ?_)
      refine q_iload_n (M := md_X10_workers) (pc := 31) dX10_workers_31 rfl ?_
      exact e_iret (M := md_X10_workers) (pc := 32) h rfl dX10_workers_32
    · refine q_iconst (M := md_X10_workers) (pc := 11) dX10_workers_11 ?_
      exact e_iret (M := md_X10_workers) (pc := 12) h rfl dX10_workers_12
def f_PG_isCell (l1 : Int) (m : q_Mem) : q_Res :=
  if q_w l1 < 0 then (q_rz 0 m)
  else (if q_w (m 60 10) ≤ q_w l1 then (q_rz 0 m)
  else (q_rz 1 m))
set_option maxRecDepth 20000 in
theorem ok_X10_isCell {l1 : Int} {r : Int × q_Mem} {m : q_Mem} {N : Nat} (hN : 81 ≤ N) (h : f_PG_isCell l1 m = some r) : q_C md_X10_isCell (q_room 1) 0 0 [q_A 0, q_I l1] (q_g N) m (some (q_I r.1), q_g N, r.2) := by
  refine q_ofR (by decide) 0 (ls := [q_A 0, q_I l1]) rfl (Nat.le_of_ble_eq_true rfl) ?_
  change q_E md_X10_isCell 1 N (some 0) r m 0 [q_A 0, q_I l1] []
  unfold f_PG_isCell at h
  refine q_iload_n (M := md_X10_isCell) (pc := 0) dX10_isCell_0 rfl ?_
  refine e_if_lt (M := md_X10_isCell) (pc := 1) (tgt := 19) h rfl dX10_isCell_1 (by decide) (fun h => ?_) (fun h => ?_)
  · refine q_iconst (M := md_X10_isCell) (pc := 19) dX10_isCell_19 ?_
    exact e_zret (M := md_X10_isCell) (pc := 20) h rfl dX10_isCell_20
  · refine q_iload_n (M := md_X10_isCell) (pc := 4) dX10_isCell_4 rfl ?_
    refine q_aload_n (M := md_X10_isCell) (pc := 5) dX10_isCell_5 rfl (by decide) ?_
    refine q_getP (M := md_X10_isCell) (pc := 6) (v := 60) fl_10_62 dX10_isCell_6 (is_0 hN) rfl ?_
    refine e_gI (M := md_X10_isCell) (pc := 9) (v := m 60 10) fl_10_160 dX10_isCell_9 (is_60 hN) rfl ?_
    refine e_icmp_ge (M := md_X10_isCell) (pc := 12) (tgt := 19) h rfl rfl dX10_isCell_12 (by decide) (fun h => ?_) (fun h => ?_)
    · refine q_iconst (M := md_X10_isCell) (pc := 19) dX10_isCell_19 ?_
      exact e_zret (M := md_X10_isCell) (pc := 20) h rfl dX10_isCell_20
    · refine q_iconst (M := md_X10_isCell) (pc := 15) dX10_isCell_15 ?_
      refine q_goto (M := md_X10_isCell) (pc := 16) (tgt := 20) dX10_isCell_16 (by decide) ?_
      exact e_zret (M := md_X10_isCell) (pc := 20) h rfl dX10_isCell_20
def f_PG_broken (l1 l2 : Int) (m : q_Mem) : q_Res :=
  q_bd (f_PG_isCell l1 m) fun v1 m2 =>
  if q_w v1 = 0 then (q_rt (-1) m2)
  else (q_bd (f_PG_current m2) fun v3 m4 => q_one q_Ly v3 <|
  q_bd (f_Layo_isBroken v3 l1 m4) fun v5 m6 =>
  if q_w v5 = q_w l2 then (q_rt (-1) m6)
  else (q_bd (f_Hist_open m6) fun v7 m8 => q_one q_Ly v7 <|
  q_pf m8 v7 5 (q_lxor (m8 v7 5) (q_lshl 1 l1)) fun m9 =>
  q_bd (f_PG_settle m9) fun _ m10 =>
  q_rt (q_bc (m10 v7 5)) m10))
set_option maxRecDepth 20000 in
theorem ok_X10_broken {l1 l2 : Int} {r : Int × q_Mem} {m : q_Mem} {N : Nat} (hN : 81 ≤ N) (h : f_PG_broken l1 l2 m = some r) : q_C md_X10_broken (q_room 5) 0 0 [q_A 0, q_I l1, q_I l2] (q_g N) m (some (q_I r.1), q_g N, r.2) := by
  refine q_ofR (by decide) 1 (ls := [q_A 0, q_I l1, q_I l2, q_N]) rfl (Nat.le_of_ble_eq_true rfl) ?_
  change q_E md_X10_broken 5 N (some 0) r m 0 [q_A 0, q_I l1, q_I l2, q_N] []
  unfold f_PG_broken at h
  refine q_aload_n (M := md_X10_broken) (pc := 0) dX10_broken_0 rfl (by decide) ?_
  refine q_iload_n (M := md_X10_broken) (pc := 1) dX10_broken_1 rfl ?_
  refine e_callVi (M := md_X10_broken) (pc := 2) (d' := 1) (av := [q_I l1]) (c := 0) h ml_10_166 im_X10_isCell se_X10_isCell dX10_broken_2 (fun v he => ok_X10_isCell hN  he) rfl (is_0 hN) ⟨_, _, rfl⟩ (by decide) (Nat.le_of_ble_eq_true rfl) ⟨by decide, by decide⟩ rfl (fun v1 m2 h => ?_)
  refine e_if_eq (M := md_X10_broken) (pc := 5) (tgt := 20) h rfl dX10_broken_5 (by decide) (fun h => ?_) (fun h => ?_)
  · refine q_iconst (M := md_X10_broken) (pc := 20) dX10_broken_20 ?_
    exact e_iret (M := md_X10_broken) (pc := 21) h rfl dX10_broken_21
  · refine q_aload_n (M := md_X10_broken) (pc := 8) dX10_broken_8 rfl (by decide) ?_
    refine e_callVr (M := md_X10_broken) (pc := 9) (d' := 1) (av := []) (c := 0) h ml_10_170 im_X10_current se_X10_current dX10_broken_9 (fun v he => ok_X10_current hN  he) rfl (is_0 hN) ⟨_, _, rfl⟩ (by decide) (Nat.le_of_ble_eq_true rfl) ⟨by decide, by decide⟩ rfl (fun v3 m4 h => ?_)
    obtain ⟨hv3, h⟩ := e_one h
    refine q_iload_n (M := md_X10_broken) (pc := 12) dX10_broken_12 rfl ?_
    refine e_callVi (M := md_X10_broken) (pc := 13) (d' := 1) (av := [q_I l1]) (c := v3) h ml_10_173 im_X1_isBroken se_X1_isBroken dX10_broken_13 (fun v he => ok_X1_isBroken hN hv3 he) rfl (is_Ly hN hv3) ⟨_, _, rfl⟩ (by decide) (Nat.le_of_ble_eq_true rfl) ⟨by decide, by decide⟩ rfl (fun v5 m6 h => ?_)
    refine q_iload_n (M := md_X10_broken) (pc := 16) dX10_broken_16 rfl ?_
    refine e_icmp_ne (M := md_X10_broken) (pc := 17) (tgt := 22) h rfl rfl dX10_broken_17 (by decide) (fun h => ?_) (fun h => ?_)
    · refine q_aload_n (M := md_X10_broken) (pc := 22) dX10_broken_22 rfl (by decide) ?_
      refine q_getP (M := md_X10_broken) (pc := 23) (v := 28) fl_10_38 dX10_broken_23 (is_0 hN) rfl ?_
      refine e_callVr (M := md_X10_broken) (pc := 26) (d' := 2) (av := []) (c := 28) h ml_10_131 im_X0_open se_X0_open dX10_broken_26 (fun v he => ok_X0_open hN  he) rfl (is_28 hN) ⟨_, _, rfl⟩ (by decide) (Nat.le_of_ble_eq_true rfl) ⟨by decide, by decide⟩ rfl (fun v7 m8 h => ?_)
      obtain ⟨hv7, h⟩ := e_one h
      refine e_ast_n (M := md_X10_broken) (pc := 29) (ls' := [q_A 0, q_I l1, q_I l2, q_A v7]) dX10_broken_29 (nn_Ly hv7) (by decide) (q_pl rfl) rfl ?_
      refine q_aload_n (M := md_X10_broken) (pc := 30) dX10_broken_30 rfl (nn_Ly hv7) ?_
      refine q_dup (M := md_X10_broken) (pc := 31) dX10_broken_31 (show (2 : Nat) ≠ 1 by decide) ?_
      refine e_gL (M := md_X10_broken) (pc := 32) (v := m8 v7 5) fl_10_156 dX10_broken_32 (is_Ly hN hv7) rfl ?_
      refine q_lconst (M := md_X10_broken) (pc := 35) (x := 1) dX10_broken_35 (by decide) ?_
      refine q_iload_n (M := md_X10_broken) (pc := 36) dX10_broken_36 rfl ?_
      refine q_lshl_ (M := md_X10_broken) (pc := 37) dX10_broken_37 ?_
      refine q_lxor_ (M := md_X10_broken) (pc := 38) dX10_broken_38 ?_
      refine e_pfL (M := md_X10_broken) (pc := 39) h fl_10_156 dX10_broken_39 (is_Ly hN hv7) rfl (fun m9 h => ?_)
      refine q_aload_n (M := md_X10_broken) (pc := 42) dX10_broken_42 rfl (by decide) ?_
      refine e_callVv (M := md_X10_broken) (pc := 43) (d' := 4) (av := []) (c := 0) h ml_10_141 im_X10_settle se_X10_settle dX10_broken_43 (fun v he => ok_X10_settle hN  he) rfl (is_0 hN) ⟨_, _, rfl⟩ (by decide) (Nat.le_of_ble_eq_true rfl) ⟨by decide, by decide⟩ rfl (fun _ m10 h => ?_)
      refine q_aload_n (M := md_X10_broken) (pc := 46) dX10_broken_46 rfl (nn_Ly hv7) ?_
      refine e_gL (M := md_X10_broken) (pc := 47) (v := m10 v7 5) fl_10_156 dX10_broken_47 (is_Ly hN hv7) rfl ?_
      refine e_bitc (M := md_X10_broken) (pc := 50) jl_10_176 dX10_broken_50 (by decide) (Nat.le_of_ble_eq_true rfl) ?_
      exact e_iret (M := md_X10_broken) (pc := 53) h rfl dX10_broken_53
    · refine q_iconst (M := md_X10_broken) (pc := 20) dX10_broken_20 ?_
      exact e_iret (M := md_X10_broken) (pc := 21) h rfl dX10_broken_21
def f_PG_undo (m : q_Mem) : q_Res :=
  q_bd (f_Hist_stepBack m) fun v1 m2 =>
  if q_w v1 = 0 then (q_rz 0 m2)
  else (q_bd (f_PG_settle m2) fun _ m3 =>
  q_rz 1 m3)
set_option maxRecDepth 20000 in
theorem ok_X10_undo {r : Int × q_Mem} {m : q_Mem} {N : Nat} (hN : 81 ≤ N) (h : f_PG_undo m = some r) : q_C md_X10_undo (q_room 5) 0 0 [q_A 0] (q_g N) m (some (q_I r.1), q_g N, r.2) := by
  refine q_ofR (by decide) 0 (ls := [q_A 0]) rfl (Nat.le_of_ble_eq_true rfl) ?_
  change q_E md_X10_undo 5 N (some 0) r m 0 [q_A 0] []
  unfold f_PG_undo at h
  refine q_aload_n (M := md_X10_undo) (pc := 0) dX10_undo_0 rfl (by decide) ?_
  refine q_getP (M := md_X10_undo) (pc := 1) (v := 28) fl_10_38 dX10_undo_1 (is_0 hN) rfl ?_
  refine e_callVi (M := md_X10_undo) (pc := 4) (d' := 1) (av := []) (c := 28) h ml_10_182 im_X0_stepBack se_X0_stepBack dX10_undo_4 (fun v he => ok_X0_stepBack hN  he) rfl (is_28 hN) ⟨_, _, rfl⟩ (by decide) (Nat.le_of_ble_eq_true rfl) ⟨by decide, by decide⟩ rfl (fun v1 m2 h => ?_)
  refine e_if_ne (M := md_X10_undo) (pc := 7) (tgt := 12) h rfl dX10_undo_7 (by decide) (fun h => ?_) (fun h => ?_)
  · refine q_aload_n (M := md_X10_undo) (pc := 12) dX10_undo_12 rfl (by decide) ?_
    refine e_callVv (M := md_X10_undo) (pc := 13) (d' := 4) (av := []) (c := 0) h ml_10_141 im_X10_settle se_X10_settle dX10_undo_13 (fun v he => ok_X10_settle hN  he) rfl (is_0 hN) ⟨_, _, rfl⟩ (by decide) (Nat.le_of_ble_eq_true rfl) ⟨by decide, by decide⟩ rfl (fun _ m3 h => ?_)
    refine q_iconst (M := md_X10_undo) (pc := 16) dX10_undo_16 ?_
    exact e_zret (M := md_X10_undo) (pc := 17) h rfl dX10_undo_17
  · refine q_iconst (M := md_X10_undo) (pc := 10) dX10_undo_10 ?_
    exact e_zret (M := md_X10_undo) (pc := 11) h rfl dX10_undo_11
def f_PG_redo (m : q_Mem) : q_Res :=
  q_bd (f_Hist_stepOn m) fun v1 m2 =>
  if q_w v1 = 0 then (q_rz 0 m2)
  else (q_bd (f_PG_settle m2) fun _ m3 =>
  q_rz 1 m3)
set_option maxRecDepth 20000 in
theorem ok_X10_redo {r : Int × q_Mem} {m : q_Mem} {N : Nat} (hN : 81 ≤ N) (h : f_PG_redo m = some r) : q_C md_X10_redo (q_room 5) 0 0 [q_A 0] (q_g N) m (some (q_I r.1), q_g N, r.2) := by
  refine q_ofR (by decide) 0 (ls := [q_A 0]) rfl (Nat.le_of_ble_eq_true rfl) ?_
  change q_E md_X10_redo 5 N (some 0) r m 0 [q_A 0] []
  unfold f_PG_redo at h
  refine q_aload_n (M := md_X10_redo) (pc := 0) dX10_redo_0 rfl (by decide) ?_
  refine q_getP (M := md_X10_redo) (pc := 1) (v := 28) fl_10_38 dX10_redo_1 (is_0 hN) rfl ?_
  refine e_callVi (M := md_X10_redo) (pc := 4) (d' := 1) (av := []) (c := 28) h ml_10_186 im_X0_stepOn se_X0_stepOn dX10_redo_4 (fun v he => ok_X0_stepOn hN  he) rfl (is_28 hN) ⟨_, _, rfl⟩ (by decide) (Nat.le_of_ble_eq_true rfl) ⟨by decide, by decide⟩ rfl (fun v1 m2 h => ?_)
  refine e_if_ne (M := md_X10_redo) (pc := 7) (tgt := 12) h rfl dX10_redo_7 (by decide) (fun h => ?_) (fun h => ?_)
  · refine q_aload_n (M := md_X10_redo) (pc := 12) dX10_redo_12 rfl (by decide) ?_
    refine e_callVv (M := md_X10_redo) (pc := 13) (d' := 4) (av := []) (c := 0) h ml_10_141 im_X10_settle se_X10_settle dX10_redo_13 (fun v he => ok_X10_settle hN  he) rfl (is_0 hN) ⟨_, _, rfl⟩ (by decide) (Nat.le_of_ble_eq_true rfl) ⟨by decide, by decide⟩ rfl (fun _ m3 h => ?_)
    refine q_iconst (M := md_X10_redo) (pc := 16) dX10_redo_16 ?_
    exact e_zret (M := md_X10_redo) (pc := 17) h rfl dX10_redo_17
  · refine q_iconst (M := md_X10_redo) (pc := 10) dX10_redo_10 ?_
    exact e_zret (M := md_X10_redo) (pc := 11) h rfl dX10_redo_11
def f_PG_isVariable (l1 : Int) (m : q_Mem) : q_Res :=
  if q_w l1 < 0 then (q_rz 0 m)
  else (q_lt (m 0 1) fun v1 => q_one q_Lp v1 <|
  if q_w (m v1 2) ≤ q_w l1 then (q_rz 0 m)
  else (q_rz 1 m))
set_option maxRecDepth 20000 in
theorem ok_X10_isVariable {l1 : Int} {r : Int × q_Mem} {m : q_Mem} {N : Nat} (hN : 81 ≤ N) (h : f_PG_isVariable l1 m = some r) : q_C md_X10_isVariable (q_room 1) 0 0 [q_A 0, q_I l1] (q_g N) m (some (q_I r.1), q_g N, r.2) := by
  refine q_ofR (by decide) 0 (ls := [q_A 0, q_I l1]) rfl (Nat.le_of_ble_eq_true rfl) ?_
  change q_E md_X10_isVariable 1 N (some 0) r m 0 [q_A 0, q_I l1] []
  unfold f_PG_isVariable at h
  refine q_iload_n (M := md_X10_isVariable) (pc := 0) dX10_isVariable_0 rfl ?_
  refine e_if_lt (M := md_X10_isVariable) (pc := 1) (tgt := 19) h rfl dX10_isVariable_1 (by decide) (fun h => ?_) (fun h => ?_)
  · refine q_iconst (M := md_X10_isVariable) (pc := 19) dX10_isVariable_19 ?_
    exact e_zret (M := md_X10_isVariable) (pc := 20) h rfl dX10_isVariable_20
  · refine q_iload_n (M := md_X10_isVariable) (pc := 4) dX10_isVariable_4 rfl ?_
    refine q_aload_n (M := md_X10_isVariable) (pc := 5) dX10_isVariable_5 rfl (by decide) ?_
    refine e_gR (M := md_X10_isVariable) (pc := 6) h fl_10_19 dX10_isVariable_6 (is_0 hN) rfl (fun v1 hv1 h => ?_)
    refine e_gI (M := md_X10_isVariable) (pc := 9) (v := m v1 2) fl_10_121 dX10_isVariable_9 (is_Lp hN hv1) rfl ?_
    refine e_icmp_ge (M := md_X10_isVariable) (pc := 12) (tgt := 19) h rfl rfl dX10_isVariable_12 (by decide) (fun h => ?_) (fun h => ?_)
    · refine q_iconst (M := md_X10_isVariable) (pc := 19) dX10_isVariable_19 ?_
      exact e_zret (M := md_X10_isVariable) (pc := 20) h rfl dX10_isVariable_20
    · refine q_iconst (M := md_X10_isVariable) (pc := 15) dX10_isVariable_15 ?_
      refine q_goto (M := md_X10_isVariable) (pc := 16) (tgt := 20) dX10_isVariable_16 (by decide) ?_
      exact e_zret (M := md_X10_isVariable) (pc := 20) h rfl dX10_isVariable_20
def f_PG_value (l1 l2 l3 : Int) (m : q_Mem) : q_Res :=
  q_bd (f_PG_isVariable l1 m) fun v1 m2 =>
  if q_w v1 = 0 then (q_rt 0 m2)
  else (q_lt (m2 0 1) fun v3 => q_one q_Lp v3 <|
  q_bd (f_Loop_isInside v3 l2 l3 m2) fun v4 m5 =>
  if q_w v4 = 0 then (q_rt 0 m5)
  else (q_rd m5 74 300 (((l1 * 100) + (l2 * 10)) + l3) fun v6 =>
  q_rt v6 m5))
set_option maxRecDepth 20000 in
theorem ok_X10_value {l1 l2 l3 : Int} {r : Int × q_Mem} {m : q_Mem} {N : Nat} (hN : 81 ≤ N) (h : f_PG_value l1 l2 l3 m = some r) : q_C md_X10_value (q_room 2) 0 0 [q_A 0, q_I l1, q_I l2, q_I l3] (q_g N) m (some (q_I r.1), q_g N, r.2) := by
  refine q_ofR (by decide) 0 (ls := [q_A 0, q_I l1, q_I l2, q_I l3]) rfl (Nat.le_of_ble_eq_true rfl) ?_
  change q_E md_X10_value 2 N (some 0) r m 0 [q_A 0, q_I l1, q_I l2, q_I l3] []
  unfold f_PG_value at h
  refine q_aload_n (M := md_X10_value) (pc := 0) dX10_value_0 rfl (by decide) ?_
  refine q_iload_n (M := md_X10_value) (pc := 1) dX10_value_1 rfl ?_
  refine e_callVi (M := md_X10_value) (pc := 2) (d' := 1) (av := [q_I l1]) (c := 0) h ml_10_189 im_X10_isVariable se_X10_isVariable dX10_value_2 (fun v he => ok_X10_isVariable hN  he) rfl (is_0 hN) ⟨_, _, rfl⟩ (by decide) (Nat.le_of_ble_eq_true rfl) ⟨by decide, by decide⟩ rfl (fun v1 m2 h => ?_)
  refine e_if_eq (M := md_X10_value) (pc := 5) (tgt := 20) h rfl dX10_value_5 (by decide) (fun h => ?_) (fun h => ?_)
  · refine q_iconst (M := md_X10_value) (pc := 20) dX10_value_20 ?_
    exact e_iret (M := md_X10_value) (pc := 21) h rfl dX10_value_21
  · refine q_aload_n (M := md_X10_value) (pc := 8) dX10_value_8 rfl (by decide) ?_
    refine e_gR (M := md_X10_value) (pc := 9) h fl_10_19 dX10_value_9 (is_0 hN) rfl (fun v3 hv3 h => ?_)
    refine q_iload_n (M := md_X10_value) (pc := 12) dX10_value_12 rfl ?_
    refine q_iload_n (M := md_X10_value) (pc := 13) dX10_value_13 rfl ?_
    refine e_callVi (M := md_X10_value) (pc := 14) (d' := 1) (av := [q_I l2, q_I l3]) (c := v3) h ml_10_192 im_X2_isInside se_X2_isInside dX10_value_14 (fun v he => ok_X2_isInside hN hv3 he) rfl (is_Lp hN hv3) ⟨_, _, rfl⟩ (by decide) (Nat.le_of_ble_eq_true rfl) ⟨by decide, by decide⟩ rfl (fun v4 m5 h => ?_)
    refine e_if_ne (M := md_X10_value) (pc := 17) (tgt := 22) h rfl dX10_value_17 (by decide) (fun h => ?_) (fun h => ?_)
    · refine q_aload_n (M := md_X10_value) (pc := 22) dX10_value_22 rfl (by decide) ?_
      refine q_getP (M := md_X10_value) (pc := 23) (v := 74) fl_10_80 dX10_value_23 (is_0 hN) rfl ?_
      refine q_iload_n (M := md_X10_value) (pc := 26) dX10_value_26 rfl ?_
      refine q_bipush (M := md_X10_value) (pc := 27) (x := 100) dX10_value_27 (by decide) ?_
      refine q_imul (M := md_X10_value) (pc := 29) dX10_value_29 ?_
      refine q_iload_n (M := md_X10_value) (pc := 30) dX10_value_30 rfl ?_
      refine q_bipush (M := md_X10_value) (pc := 31) (x := 10) dX10_value_31 (by decide) ?_
      refine q_imul (M := md_X10_value) (pc := 33) dX10_value_33 ?_
      refine q_iadd (M := md_X10_value) (pc := 34) dX10_value_34 ?_
      refine q_iload_n (M := md_X10_value) (pc := 35) dX10_value_35 rfl ?_
      refine q_iadd (M := md_X10_value) (pc := 36) dX10_value_36 ?_
      refine e_rd (M := md_X10_value) (pc := 37) h dX10_value_37 (ar_74 hN) (fun v6 h => ?_)
      exact e_iret (M := md_X10_value) (pc := 38) h rfl dX10_value_38
    · refine q_iconst (M := md_X10_value) (pc := 20) dX10_value_20 ?_
      exact e_iret (M := md_X10_value) (pc := 21) h rfl dX10_value_21
def f_PG_ordered (l1 l2 : Int) (m : q_Mem) : q_Res :=
  q_lt (m 0 1) fun v1 => q_one q_Lp v1 <|
  q_bd (f_Loop_isInside v1 l1 l2 m) fun v2 m3 =>
  if q_w v2 = 0 then (q_rt (-1) m3)
  else (q_bd (f_Web_isOrdered ((l1 * 10) + l2) m3) fun v4 m5 =>
  if q_w v4 = 0 then (q_rt 0 m5)
  else (q_rt 1 m5))
set_option maxRecDepth 20000 in
theorem ok_X10_ordered {l1 l2 : Int} {r : Int × q_Mem} {m : q_Mem} {N : Nat} (hN : 81 ≤ N) (h : f_PG_ordered l1 l2 m = some r) : q_C md_X10_ordered (q_room 2) 0 0 [q_A 0, q_I l1, q_I l2] (q_g N) m (some (q_I r.1), q_g N, r.2) := by
  refine q_ofR (by decide) 0 (ls := [q_A 0, q_I l1, q_I l2]) rfl (Nat.le_of_ble_eq_true rfl) ?_
  change q_E md_X10_ordered 2 N (some 0) r m 0 [q_A 0, q_I l1, q_I l2] []
  unfold f_PG_ordered at h
  refine q_aload_n (M := md_X10_ordered) (pc := 0) dX10_ordered_0 rfl (by decide) ?_
  refine e_gR (M := md_X10_ordered) (pc := 1) h fl_10_19 dX10_ordered_1 (is_0 hN) rfl (fun v1 hv1 h => ?_)
  refine q_iload_n (M := md_X10_ordered) (pc := 4) dX10_ordered_4 rfl ?_
  refine q_iload_n (M := md_X10_ordered) (pc := 5) dX10_ordered_5 rfl ?_
  refine e_callVi (M := md_X10_ordered) (pc := 6) (d' := 1) (av := [q_I l1, q_I l2]) (c := v1) h ml_10_192 im_X2_isInside se_X2_isInside dX10_ordered_6 (fun v he => ok_X2_isInside hN hv1 he) rfl (is_Lp hN hv1) ⟨_, _, rfl⟩ (by decide) (Nat.le_of_ble_eq_true rfl) ⟨by decide, by decide⟩ rfl (fun v2 m3 h => ?_)
  refine e_if_ne (M := md_X10_ordered) (pc := 9) (tgt := 14) h rfl dX10_ordered_9 (by decide) (fun h => ?_) (fun h => ?_)
  · refine q_aload_n (M := md_X10_ordered) (pc := 14) dX10_ordered_14 rfl (by decide) ?_
    refine q_getP (M := md_X10_ordered) (pc := 15) (v := 53) fl_10_55 dX10_ordered_15 (is_0 hN) rfl ?_
    refine q_iload_n (M := md_X10_ordered) (pc := 18) dX10_ordered_18 rfl ?_
    refine q_bipush (M := md_X10_ordered) (pc := 19) (x := 10) dX10_ordered_19 (by decide) ?_
    refine q_imul (M := md_X10_ordered) (pc := 21) dX10_ordered_21 ?_
    refine q_iload_n (M := md_X10_ordered) (pc := 22) dX10_ordered_22 rfl ?_
    refine q_iadd (M := md_X10_ordered) (pc := 23) dX10_ordered_23 ?_
    refine e_callVi (M := md_X10_ordered) (pc := 24) (d' := 1) (av := [q_I ((l1 * 10) + l2)]) (c := 53) h ml_10_195 im_X9_isOrdered se_X9_isOrdered dX10_ordered_24 (fun v he => ok_X9_isOrdered hN  he) rfl (is_53 hN) ⟨_, _, rfl⟩ (by decide) (Nat.le_of_ble_eq_true rfl) ⟨by decide, by decide⟩ rfl (fun v4 m5 h => ?_)
    refine e_if_eq (M := md_X10_ordered) (pc := 27) (tgt := 34) h rfl dX10_ordered_27 (by decide) (fun h => ?_) (fun h => ?_)
    · refine q_iconst (M := md_X10_ordered) (pc := 34) dX10_ordered_34 ?_
      exact e_iret (M := md_X10_ordered) (pc := 35) h rfl dX10_ordered_35
    · refine q_iconst (M := md_X10_ordered) (pc := 30) dX10_ordered_30 ?_
      refine q_goto (M := md_X10_ordered) (pc := 31) (tgt := 35) dX10_ordered_31 (by decide) ?_
      exact e_iret (M := md_X10_ordered) (pc := 35) h rfl dX10_ordered_35
  · refine q_iconst (M := md_X10_ordered) (pc := 12) dX10_ordered_12 ?_
    exact e_iret (M := md_X10_ordered) (pc := 13) h rfl dX10_ordered_13
def f_PG_depth (l1 l2 : Int) (m : q_Mem) : q_Res :=
  q_lt (m 0 1) fun v1 => q_one q_Lp v1 <|
  q_bd (f_Loop_isInside v1 l1 l2 m) fun v2 m3 =>
  if q_w v2 = 0 then (q_rt (-1) m3)
  else (q_rd m3 54 100 ((l1 * 10) + l2) fun v4 =>
  q_rt v4 m3)
set_option maxRecDepth 20000 in
theorem ok_X10_depth {l1 l2 : Int} {r : Int × q_Mem} {m : q_Mem} {N : Nat} (hN : 81 ≤ N) (h : f_PG_depth l1 l2 m = some r) : q_C md_X10_depth (q_room 2) 0 0 [q_A 0, q_I l1, q_I l2] (q_g N) m (some (q_I r.1), q_g N, r.2) := by
  refine q_ofR (by decide) 0 (ls := [q_A 0, q_I l1, q_I l2]) rfl (Nat.le_of_ble_eq_true rfl) ?_
  change q_E md_X10_depth 2 N (some 0) r m 0 [q_A 0, q_I l1, q_I l2] []
  unfold f_PG_depth at h
  refine q_aload_n (M := md_X10_depth) (pc := 0) dX10_depth_0 rfl (by decide) ?_
  refine e_gR (M := md_X10_depth) (pc := 1) h fl_10_19 dX10_depth_1 (is_0 hN) rfl (fun v1 hv1 h => ?_)
  refine q_iload_n (M := md_X10_depth) (pc := 4) dX10_depth_4 rfl ?_
  refine q_iload_n (M := md_X10_depth) (pc := 5) dX10_depth_5 rfl ?_
  refine e_callVi (M := md_X10_depth) (pc := 6) (d' := 1) (av := [q_I l1, q_I l2]) (c := v1) h ml_10_192 im_X2_isInside se_X2_isInside dX10_depth_6 (fun v he => ok_X2_isInside hN hv1 he) rfl (is_Lp hN hv1) ⟨_, _, rfl⟩ (by decide) (Nat.le_of_ble_eq_true rfl) ⟨by decide, by decide⟩ rfl (fun v2 m3 h => ?_)
  refine e_if_eq (M := md_X10_depth) (pc := 9) (tgt := 29) h rfl dX10_depth_9 (by decide) (fun h => ?_) (fun h => ?_)
  · refine q_iconst (M := md_X10_depth) (pc := 29) dX10_depth_29 ?_
    exact e_iret (M := md_X10_depth) (pc := 30) h rfl dX10_depth_30
  · refine q_aload_n (M := md_X10_depth) (pc := 12) dX10_depth_12 rfl (by decide) ?_
    refine q_getP (M := md_X10_depth) (pc := 13) (v := 53) fl_10_55 dX10_depth_13 (is_0 hN) rfl ?_
    refine q_getP (M := md_X10_depth) (pc := 16) (v := 54) fl_10_92 dX10_depth_16 (is_53 hN) rfl ?_
    refine q_iload_n (M := md_X10_depth) (pc := 19) dX10_depth_19 rfl ?_
    refine q_bipush (M := md_X10_depth) (pc := 20) (x := 10) dX10_depth_20 (by decide) ?_
    refine q_imul (M := md_X10_depth) (pc := 22) dX10_depth_22 ?_
    refine q_iload_n (M := md_X10_depth) (pc := 23) dX10_depth_23 rfl ?_
    refine q_iadd (M := md_X10_depth) (pc := 24) dX10_depth_24 ?_
    refine e_rd (M := md_X10_depth) (pc := 25) h dX10_depth_25 (ar_54 hN) (fun v4 h => ?_)
    refine q_goto (M := md_X10_depth) (pc := 26) (tgt := 30) dX10_depth_26 (by decide) ?_
    exact e_iret (M := md_X10_depth) (pc := 30) h rfl dX10_depth_30
def f_PG_reckonRun_b99 (k22 : Int → Int → q_Mem → q_Res) (l2 l4 : Int) (m : q_Mem) : q_Res :=
  k22 l2 (l4 + 1) m
set_option maxRecDepth 20000 in
theorem w_PG_reckonRun_b99 {k22 : Int → Int → q_Mem → q_Res} {l2 l4 : Int} {r : Int × q_Mem} {m : q_Mem} {N : Nat} (hN : 81 ≤ N) (hk22 : ∀ (l2 l4 : Int) (m : q_Mem), k22 l2 l4 m = some r → q_E md_X10_reckonRun 5 N (none) r m 22 [q_A 0, q_N, q_L l2, q_N, q_I l4, q_N, q_N] []) (h : f_PG_reckonRun_b99 k22 l2 l4 m = some r) : q_E md_X10_reckonRun 5 N (none) r m 99 [q_A 0, q_N, q_L l2, q_N, q_I l4, q_N, q_N] [] := by
  unfold f_PG_reckonRun_b99 at h
  refine e_inc (M := md_X10_reckonRun) (pc := 99) (x := l4) (ls' := [q_A 0, q_N, q_L l2, q_N, q_I (l4 + 1), q_N, q_N]) dX10_reckonRun_99 rfl (by decide) (q_pl rfl) rfl ?_
  refine q_goto (M := md_X10_reckonRun) (pc := 102) (tgt := 22) dX10_reckonRun_102 (by decide) ?_
  exact q_weak (hk22 _ _ _  h) ⟨Or.inr rfl, Or.inl rfl, Or.inr rfl, Or.inl rfl, Or.inr rfl, Or.inl rfl, Or.inl rfl, trivial⟩
def f_PG_reckonRun_b70 (k22 : Int → Int → q_Mem → q_Res) (l2 l4 l5 s0 : Int) (m : q_Mem) : q_Res :=
  q_rd m 63 100 l5 fun v1 =>
  if q_w v1 = 0 then (if q_w s0 = 0 then (q_bd (f_Reck_reckon l5 m) fun _ m2 =>
  f_PG_reckonRun_b99 k22 l2 l4 m2)
  else (f_PG_reckonRun_b99 k22 l2 l4 m))
  else (f_PG_reckonRun_b99 k22 l2 l4 m)
set_option maxRecDepth 20000 in
theorem w_PG_reckonRun_b70 {k22 : Int → Int → q_Mem → q_Res} {l2 l4 l5 s0 : Int} {r : Int × q_Mem} {m : q_Mem} {N : Nat} (hN : 81 ≤ N) (hk22 : ∀ (l2 l4 : Int) (m : q_Mem), k22 l2 l4 m = some r → q_E md_X10_reckonRun 5 N (none) r m 22 [q_A 0, q_N, q_L l2, q_N, q_I l4, q_N, q_N] []) (h : f_PG_reckonRun_b70 k22 l2 l4 l5 s0 m = some r) : q_E md_X10_reckonRun 5 N (none) r m 70 [q_A 0, q_N, q_L l2, q_N, q_I l4, q_I l5, q_N] [q_I s0] := by
  unfold f_PG_reckonRun_b70 at h
  refine e_ist (M := md_X10_reckonRun) (pc := 70) (ls' := [q_A 0, q_N, q_L l2, q_N, q_I l4, q_I l5, q_I s0]) dX10_reckonRun_70 (by decide) (q_pl rfl) rfl ?_
  refine q_aload_n (M := md_X10_reckonRun) (pc := 72) dX10_reckonRun_72 rfl (by decide) ?_
  refine q_getP (M := md_X10_reckonRun) (pc := 73) (v := 60) fl_10_62 dX10_reckonRun_73 (is_0 hN) rfl ?_
  refine q_getP (M := md_X10_reckonRun) (pc := 76) (v := 63) fl_10_260 dX10_reckonRun_76 (is_60 hN) rfl ?_
  refine q_iload (M := md_X10_reckonRun) (pc := 79) dX10_reckonRun_79 rfl ?_
  refine e_rdz (M := md_X10_reckonRun) (pc := 81) h dX10_reckonRun_81 (ar_63 hN) (fun v1 h => ?_)
  refine e_if_ne (M := md_X10_reckonRun) (pc := 82) (tgt := 99) h rfl dX10_reckonRun_82 (by decide) (fun h => ?_) (fun h => ?_)
  · exact q_weak (w_PG_reckonRun_b99 hN hk22  h) ⟨Or.inr rfl, Or.inl rfl, Or.inr rfl, Or.inl rfl, Or.inr rfl, Or.inl rfl, Or.inl rfl, trivial⟩
  · refine q_iload (M := md_X10_reckonRun) (pc := 85) dX10_reckonRun_85 rfl ?_
    refine e_if_ne (M := md_X10_reckonRun) (pc := 87) (tgt := 99) h rfl dX10_reckonRun_87 (by decide) (fun h => ?_) (fun h => ?_)
    · exact q_weak (w_PG_reckonRun_b99 hN hk22  h) ⟨Or.inr rfl, Or.inl rfl, Or.inr rfl, Or.inl rfl, Or.inr rfl, Or.inl rfl, Or.inl rfl, trivial⟩
    · refine q_aload_n (M := md_X10_reckonRun) (pc := 90) dX10_reckonRun_90 rfl (by decide) ?_
      refine q_getP (M := md_X10_reckonRun) (pc := 91) (v := 77) fl_10_98 dX10_reckonRun_91 (is_0 hN) rfl ?_
      refine q_iload (M := md_X10_reckonRun) (pc := 94) dX10_reckonRun_94 rfl ?_
      refine e_callVv (M := md_X10_reckonRun) (pc := 96) (d' := 4) (av := [q_I l5]) (c := 77) h ml_10_433 im_X5_reckon se_X5_reckon dX10_reckonRun_96 (fun v he => ok_X5_reckon hN  he) rfl (is_77 hN) ⟨_, _, rfl⟩ (by decide) (Nat.le_of_ble_eq_true rfl) ⟨by decide, by decide⟩ rfl (fun _ m2 h => ?_)
      exact q_weak (w_PG_reckonRun_b99 hN hk22  h) ⟨Or.inr rfl, Or.inl rfl, Or.inr rfl, Or.inl rfl, Or.inr rfl, Or.inl rfl, Or.inl rfl, trivial⟩
def f_PG_reckonRun_b22 (k22 : Int → Int → q_Mem → q_Res) (l2 l4 : Int) (m : q_Mem) : q_Res :=
  q_lt (m 0 1) fun v1 => q_one q_Lp v1 <|
  q_bd (f_Loop_points v1 m) fun v2 m3 =>
  if q_w v2 ≤ q_w l4 then (q_rt 0 m3)
  else (q_rd m3 64 100 l4 fun v4 =>
  q_rd m3 62 100 v4 fun v5 =>
  if q_w (q_lcmp (q_land (q_lushr l2 v5) 1) 0) = 0 then (f_PG_reckonRun_b70 k22 l2 l4 v4 0 m3)
  else (f_PG_reckonRun_b70 k22 l2 l4 v4 1 m3))
set_option maxRecDepth 20000 in
theorem w_PG_reckonRun_b22 {k22 : Int → Int → q_Mem → q_Res} {l2 l4 : Int} {r : Int × q_Mem} {m : q_Mem} {N : Nat} (hN : 81 ≤ N) (hk22 : ∀ (l2 l4 : Int) (m : q_Mem), k22 l2 l4 m = some r → q_E md_X10_reckonRun 5 N (none) r m 22 [q_A 0, q_N, q_L l2, q_N, q_I l4, q_N, q_N] []) (h : f_PG_reckonRun_b22 k22 l2 l4 m = some r) : q_E md_X10_reckonRun 5 N (none) r m 22 [q_A 0, q_N, q_L l2, q_N, q_I l4, q_N, q_N] [] := by
  unfold f_PG_reckonRun_b22 at h
  refine q_iload (M := md_X10_reckonRun) (pc := 22) dX10_reckonRun_22 rfl ?_
  refine q_aload_n (M := md_X10_reckonRun) (pc := 24) dX10_reckonRun_24 rfl (by decide) ?_
  refine e_gR (M := md_X10_reckonRun) (pc := 25) h fl_10_19 dX10_reckonRun_25 (is_0 hN) rfl (fun v1 hv1 h => ?_)
  refine e_callVi (M := md_X10_reckonRun) (pc := 28) (d' := 1) (av := []) (c := v1) h ml_10_211 im_X2_points se_X2_points dX10_reckonRun_28 (fun v he => ok_X2_points hN hv1 he) rfl (is_Lp hN hv1) ⟨_, _, rfl⟩ (by decide) (Nat.le_of_ble_eq_true rfl) ⟨by decide, by decide⟩ rfl (fun v2 m3 h => ?_)
  refine e_icmp_ge (M := md_X10_reckonRun) (pc := 31) (tgt := 105) h rfl rfl dX10_reckonRun_31 (by decide) (fun h => ?_) (fun h => ?_)
  · exact e_vret (M := md_X10_reckonRun) (pc := 105) h rfl dX10_reckonRun_105
  · refine q_aload_n (M := md_X10_reckonRun) (pc := 34) dX10_reckonRun_34 rfl (by decide) ?_
    refine q_getP (M := md_X10_reckonRun) (pc := 35) (v := 60) fl_10_62 dX10_reckonRun_35 (is_0 hN) rfl ?_
    refine q_getP (M := md_X10_reckonRun) (pc := 38) (v := 64) fl_10_440 dX10_reckonRun_38 (is_60 hN) rfl ?_
    refine q_iload (M := md_X10_reckonRun) (pc := 41) dX10_reckonRun_41 rfl ?_
    refine e_rd (M := md_X10_reckonRun) (pc := 43) h dX10_reckonRun_43 (ar_64 hN) (fun v4 h => ?_)
    refine e_ist (M := md_X10_reckonRun) (pc := 44) (ls' := [q_A 0, q_N, q_L l2, q_N, q_I l4, q_I v4, q_N]) dX10_reckonRun_44 (by decide) (q_pl rfl) rfl ?_
    refine q_lload_n (M := md_X10_reckonRun) (pc := 46) dX10_reckonRun_46 rfl ?_
    refine q_aload_n (M := md_X10_reckonRun) (pc := 47) dX10_reckonRun_47 rfl (by decide) ?_
    refine q_getP (M := md_X10_reckonRun) (pc := 48) (v := 60) fl_10_62 dX10_reckonRun_48 (is_0 hN) rfl ?_
    refine q_getP (M := md_X10_reckonRun) (pc := 51) (v := 62) fl_10_208 dX10_reckonRun_51 (is_60 hN) rfl ?_
    refine q_iload (M := md_X10_reckonRun) (pc := 54) dX10_reckonRun_54 rfl ?_
    refine e_rd (M := md_X10_reckonRun) (pc := 56) h dX10_reckonRun_56 (ar_62 hN) (fun v5 h => ?_)
    refine q_lushr_ (M := md_X10_reckonRun) (pc := 57) dX10_reckonRun_57 ?_
    refine q_lconst (M := md_X10_reckonRun) (pc := 58) (x := 1) dX10_reckonRun_58 (by decide) ?_
    refine q_land_ (M := md_X10_reckonRun) (pc := 59) dX10_reckonRun_59 ?_
    refine q_lconst (M := md_X10_reckonRun) (pc := 60) (x := 0) dX10_reckonRun_60 (by decide) ?_
    refine q_lcmp_ (M := md_X10_reckonRun) (pc := 61) dX10_reckonRun_61 ?_
    refine e_if_eq (M := md_X10_reckonRun) (pc := 62) (tgt := 69) h rfl dX10_reckonRun_62 (by decide) (fun h => ?_) (fun h => ?_)
    · refine q_iconst (M := md_X10_reckonRun) (pc := 69) dX10_reckonRun_69 ?_
      exact q_weak (w_PG_reckonRun_b70 hN hk22  h) ⟨Or.inr rfl, Or.inl rfl, Or.inr rfl, Or.inl rfl, Or.inr rfl, Or.inr rfl, Or.inl rfl, trivial⟩
    · refine q_iconst (M := md_X10_reckonRun) (pc := 65) dX10_reckonRun_65 ?_
      refine q_goto (M := md_X10_reckonRun) (pc := 66) (tgt := 70) dX10_reckonRun_66 (by decide) ?_
      exact q_weak (w_PG_reckonRun_b70 hN hk22  h) ⟨Or.inr rfl, Or.inl rfl, Or.inr rfl, Or.inl rfl, Or.inr rfl, Or.inr rfl, Or.inl rfl, trivial⟩
def f_PG_reckonRun_l22 : Nat → Int → Int → q_Mem → q_Res
  | 0 => fun _ _ _ => none
  | n + 1 => fun l2 l4 m => f_PG_reckonRun_b22 (f_PG_reckonRun_l22 n) l2 l4 m
theorem w_PG_reckonRun_l22 {r : Int × q_Mem} {N : Nat} (hN : 81 ≤ N) : ∀ (n : Nat) (l2 l4 : Int) (m : q_Mem), f_PG_reckonRun_l22 n l2 l4 m = some r → q_E md_X10_reckonRun 5 N (none) r m 22 [q_A 0, q_N, q_L l2, q_N, q_I l4, q_N, q_N] [] := by
  intro n
  induction n with
  | zero => intro l2 l4 m h; exact q_no h
  | succ n ih =>
    intro l2 l4 m h
    exact w_PG_reckonRun_b22 hN (fun l2 l4 m h => ih l2 l4 m h) h
def f_PG_reckonRun (l1 l2 : Int) (m : q_Mem) : q_Res :=
  q_lt (m 0 1) fun v1 => q_one q_Lp v1 <|
  q_bd (f_Reck_begin v1 61 l1 m) fun _ m2 =>
  f_PG_reckonRun_l22 q_F l2 0 m2
set_option maxRecDepth 20000 in
theorem ok_X10_reckonRun {l1 l2 : Int} {r : Int × q_Mem} {m : q_Mem} {N : Nat} (hN : 81 ≤ N) (hl1 : l1 ∈ ([74, 75, 76] : List Int)) (h : f_PG_reckonRun l1 l2 m = some r) : q_C md_X10_reckonRun (q_room 5) 0 0 [q_A 0, q_A l1, q_L l2] (q_g N) m (none, q_g N, r.2) := by
  refine q_ofR (by decide) 3 (ls := [q_A 0, q_A l1, q_L l2, q_N, q_N, q_N, q_N]) rfl (Nat.le_of_ble_eq_true rfl) ?_
  change q_E md_X10_reckonRun 5 N (none) r m 0 [q_A 0, q_A l1, q_L l2, q_N, q_N, q_N, q_N] []
  unfold f_PG_reckonRun at h
  refine q_aload_n (M := md_X10_reckonRun) (pc := 0) dX10_reckonRun_0 rfl (by decide) ?_
  refine q_getP (M := md_X10_reckonRun) (pc := 1) (v := 77) fl_10_98 dX10_reckonRun_1 (is_0 hN) rfl ?_
  refine q_aload_n (M := md_X10_reckonRun) (pc := 4) dX10_reckonRun_4 rfl (by decide) ?_
  refine e_gR (M := md_X10_reckonRun) (pc := 5) h fl_10_19 dX10_reckonRun_5 (is_0 hN) rfl (fun v1 hv1 h => ?_)
  refine q_aload_n (M := md_X10_reckonRun) (pc := 8) dX10_reckonRun_8 rfl (by decide) ?_
  refine q_getP (M := md_X10_reckonRun) (pc := 9) (v := 60) fl_10_62 dX10_reckonRun_9 (is_0 hN) rfl ?_
  refine q_getP (M := md_X10_reckonRun) (pc := 12) (v := 61) fl_10_205 dX10_reckonRun_12 (is_60 hN) rfl ?_
  refine q_aload_n (M := md_X10_reckonRun) (pc := 15) dX10_reckonRun_15 rfl (ar_made hN hl1).1 ?_
  refine e_callVv (M := md_X10_reckonRun) (pc := 16) (d' := 2) (av := [q_A v1, q_A 61, q_A l1]) (c := 77) h ml_10_423 im_X5_begin se_X5_begin dX10_reckonRun_16 (fun v he => ok_X5_begin hN hv1 (by decide) hl1 he) rfl (is_77 hN) ⟨_, _, rfl⟩ (by decide) (Nat.le_of_ble_eq_true rfl) ⟨by decide, by decide⟩ rfl (fun _ m2 h => ?_)
  refine q_iconst (M := md_X10_reckonRun) (pc := 19) dX10_reckonRun_19 ?_
  refine e_ist (M := md_X10_reckonRun) (pc := 20) (ls' := [q_A 0, q_A l1, q_L l2, q_N, q_I 0, q_N, q_N]) dX10_reckonRun_20 (by decide) (q_pl rfl) rfl ?_
  exact q_weak (w_PG_reckonRun_l22 hN q_F _ _ _  h) ⟨Or.inr rfl, Or.inl rfl, Or.inr rfl, Or.inl rfl, Or.inr rfl, Or.inl rfl, Or.inl rfl, trivial⟩
def f_PG_freshenRun (m : q_Mem) : q_Res :=
  if q_w (m 0 15) = 0 then (q_bd (f_PG_current m) fun v1 m2 => q_one q_Ly v1 <|
  q_bd (f_PG_reckonRun 75 (m2 v1 5) m2) fun _ m3 =>
  q_pz m3 0 15 1 fun m4 =>
  q_rt 0 m4)
  else (q_rt 0 m)
set_option maxRecDepth 20000 in
theorem ok_X10_freshenRun {r : Int × q_Mem} {m : q_Mem} {N : Nat} (hN : 81 ≤ N) (h : f_PG_freshenRun m = some r) : q_C md_X10_freshenRun (q_room 6) 0 0 [q_A 0] (q_g N) m (none, q_g N, r.2) := by
  refine q_ofR (by decide) 0 (ls := [q_A 0]) rfl (Nat.le_of_ble_eq_true rfl) ?_
  change q_E md_X10_freshenRun 6 N (none) r m 0 [q_A 0] []
  unfold f_PG_freshenRun at h
  refine q_aload_n (M := md_X10_freshenRun) (pc := 0) dX10_freshenRun_0 rfl (by decide) ?_
  refine e_gI (M := md_X10_freshenRun) (pc := 1) (v := m 0 15) fl_10_419 dX10_freshenRun_1 (is_0 hN) rfl ?_
  refine e_if_ne (M := md_X10_freshenRun) (pc := 4) (tgt := 27) h rfl dX10_freshenRun_4 (by decide) (fun h => ?_) (fun h => ?_)
  · exact e_vret (M := md_X10_freshenRun) (pc := 27) h rfl dX10_freshenRun_27
  · refine q_aload_n (M := md_X10_freshenRun) (pc := 7) dX10_freshenRun_7 rfl (by decide) ?_
    refine q_aload_n (M := md_X10_freshenRun) (pc := 8) dX10_freshenRun_8 rfl (by decide) ?_
    refine q_getP (M := md_X10_freshenRun) (pc := 9) (v := 75) fl_10_84 dX10_freshenRun_9 (is_0 hN) rfl ?_
    refine q_aload_n (M := md_X10_freshenRun) (pc := 12) dX10_freshenRun_12 rfl (by decide) ?_
    refine e_callVr (M := md_X10_freshenRun) (pc := 13) (d' := 1) (av := []) (c := 0) h ml_10_170 im_X10_current se_X10_current dX10_freshenRun_13 (fun v he => ok_X10_current hN  he) rfl (is_0 hN) ⟨_, _, rfl⟩ (by decide) (Nat.le_of_ble_eq_true rfl) ⟨by decide, by decide⟩ rfl (fun v1 m2 h => ?_)
    obtain ⟨hv1, h⟩ := e_one h
    refine e_gL (M := md_X10_freshenRun) (pc := 16) (v := m2 v1 5) fl_10_156 dX10_freshenRun_16 (is_Ly hN hv1) rfl ?_
    refine e_callVv (M := md_X10_freshenRun) (pc := 19) (d' := 5) (av := [q_A 75, q_L (m2 v1 5)]) (c := 0) h ml_10_436 im_X10_reckonRun se_X10_reckonRun dX10_freshenRun_19 (fun v he => ok_X10_reckonRun hN (by decide) he) rfl (is_0 hN) ⟨_, _, rfl⟩ (by decide) (Nat.le_of_ble_eq_true rfl) ⟨by decide, by decide⟩ rfl (fun _ m3 h => ?_)
    refine q_aload_n (M := md_X10_freshenRun) (pc := 22) dX10_freshenRun_22 rfl (by decide) ?_
    refine q_iconst (M := md_X10_freshenRun) (pc := 23) dX10_freshenRun_23 ?_
    refine e_pfZ (M := md_X10_freshenRun) (pc := 24) h fl_10_419 dX10_freshenRun_24 (is_0 hN) rfl (fun m4 h => ?_)
    exact e_vret (M := md_X10_freshenRun) (pc := 27) h rfl dX10_freshenRun_27
def f_PG_run (l1 l2 l3 : Int) (m : q_Mem) : q_Res :=
  q_bd (f_PG_isVariable l1 m) fun v1 m2 =>
  if q_w v1 = 0 then (q_rt 0 m2)
  else (q_lt (m2 0 1) fun v3 => q_one q_Lp v3 <|
  q_bd (f_Loop_isInside v3 l2 l3 m2) fun v4 m5 =>
  if q_w v4 = 0 then (q_rt 0 m5)
  else (q_bd (f_PG_freshenRun m5) fun _ m6 =>
  q_rd m6 75 300 (((l1 * 100) + (l2 * 10)) + l3) fun v7 =>
  q_rt v7 m6))
set_option maxRecDepth 20000 in
theorem ok_X10_run {l1 l2 l3 : Int} {r : Int × q_Mem} {m : q_Mem} {N : Nat} (hN : 81 ≤ N) (h : f_PG_run l1 l2 l3 m = some r) : q_C md_X10_run (q_room 7) 0 0 [q_A 0, q_I l1, q_I l2, q_I l3] (q_g N) m (some (q_I r.1), q_g N, r.2) := by
  refine q_ofR (by decide) 0 (ls := [q_A 0, q_I l1, q_I l2, q_I l3]) rfl (Nat.le_of_ble_eq_true rfl) ?_
  change q_E md_X10_run 7 N (some 0) r m 0 [q_A 0, q_I l1, q_I l2, q_I l3] []
  unfold f_PG_run at h
  refine q_aload_n (M := md_X10_run) (pc := 0) dX10_run_0 rfl (by decide) ?_
  refine q_iload_n (M := md_X10_run) (pc := 1) dX10_run_1 rfl ?_
  refine e_callVi (M := md_X10_run) (pc := 2) (d' := 1) (av := [q_I l1]) (c := 0) h ml_10_189 im_X10_isVariable se_X10_isVariable dX10_run_2 (fun v he => ok_X10_isVariable hN  he) rfl (is_0 hN) ⟨_, _, rfl⟩ (by decide) (Nat.le_of_ble_eq_true rfl) ⟨by decide, by decide⟩ rfl (fun v1 m2 h => ?_)
  refine e_if_eq (M := md_X10_run) (pc := 5) (tgt := 20) h rfl dX10_run_5 (by decide) (fun h => ?_) (fun h => ?_)
  · refine q_iconst (M := md_X10_run) (pc := 20) dX10_run_20 ?_
    exact e_iret (M := md_X10_run) (pc := 21) h rfl dX10_run_21
  · refine q_aload_n (M := md_X10_run) (pc := 8) dX10_run_8 rfl (by decide) ?_
    refine e_gR (M := md_X10_run) (pc := 9) h fl_10_19 dX10_run_9 (is_0 hN) rfl (fun v3 hv3 h => ?_)
    refine q_iload_n (M := md_X10_run) (pc := 12) dX10_run_12 rfl ?_
    refine q_iload_n (M := md_X10_run) (pc := 13) dX10_run_13 rfl ?_
    refine e_callVi (M := md_X10_run) (pc := 14) (d' := 1) (av := [q_I l2, q_I l3]) (c := v3) h ml_10_192 im_X2_isInside se_X2_isInside dX10_run_14 (fun v he => ok_X2_isInside hN hv3 he) rfl (is_Lp hN hv3) ⟨_, _, rfl⟩ (by decide) (Nat.le_of_ble_eq_true rfl) ⟨by decide, by decide⟩ rfl (fun v4 m5 h => ?_)
    refine e_if_ne (M := md_X10_run) (pc := 17) (tgt := 22) h rfl dX10_run_17 (by decide) (fun h => ?_) (fun h => ?_)
    · refine q_aload_n (M := md_X10_run) (pc := 22) dX10_run_22 rfl (by decide) ?_
      refine e_callVv (M := md_X10_run) (pc := 23) (d' := 6) (av := []) (c := 0) h ml_10_198 im_X10_freshenRun se_X10_freshenRun dX10_run_23 (fun v he => ok_X10_freshenRun hN  he) rfl (is_0 hN) ⟨_, _, rfl⟩ (by decide) (Nat.le_of_ble_eq_true rfl) ⟨by decide, by decide⟩ rfl (fun _ m6 h => ?_)
      refine q_aload_n (M := md_X10_run) (pc := 26) dX10_run_26 rfl (by decide) ?_
      refine q_getP (M := md_X10_run) (pc := 27) (v := 75) fl_10_84 dX10_run_27 (is_0 hN) rfl ?_
      refine q_iload_n (M := md_X10_run) (pc := 30) dX10_run_30 rfl ?_
      refine q_bipush (M := md_X10_run) (pc := 31) (x := 100) dX10_run_31 (by decide) ?_
      refine q_imul (M := md_X10_run) (pc := 33) dX10_run_33 ?_
      refine q_iload_n (M := md_X10_run) (pc := 34) dX10_run_34 rfl ?_
      refine q_bipush (M := md_X10_run) (pc := 35) (x := 10) dX10_run_35 (by decide) ?_
      refine q_imul (M := md_X10_run) (pc := 37) dX10_run_37 ?_
      refine q_iadd (M := md_X10_run) (pc := 38) dX10_run_38 ?_
      refine q_iload_n (M := md_X10_run) (pc := 39) dX10_run_39 rfl ?_
      refine q_iadd (M := md_X10_run) (pc := 40) dX10_run_40 ?_
      refine e_rd (M := md_X10_run) (pc := 41) h dX10_run_41 (ar_75 hN) (fun v7 h => ?_)
      exact e_iret (M := md_X10_run) (pc := 42) h rfl dX10_run_42
    · refine q_iconst (M := md_X10_run) (pc := 20) dX10_run_20 ?_
      exact e_iret (M := md_X10_run) (pc := 21) h rfl dX10_run_21
def f_PG_isWrong_b15 (k15 : Int → Int → Int → q_Mem → q_Res) (l1 l2 l3 : Int) (m : q_Mem) : q_Res :=
  q_lt (m 0 1) fun v1 => q_one q_Lp v1 <|
  if q_w (m v1 2) ≤ q_w l3 then (q_rz 0 m)
  else (q_rd m 74 300 ((l3 * 100) + l1) fun v2 =>
  q_rd m l2 300 ((l3 * 100) + l1) fun v3 =>
  if q_w v2 = q_w v3 then (k15 l1 l2 (l3 + 1) m)
  else (q_rz 1 m))
set_option maxRecDepth 20000 in
theorem w_PG_isWrong_b15 {k15 : Int → Int → Int → q_Mem → q_Res} {l1 l2 l3 : Int} {r : Int × q_Mem} {m : q_Mem} {N : Nat} (hN : 81 ≤ N) (hk15 : ∀ (l1 l2 l3 : Int) (m : q_Mem), l2 ∈ ([74, 75, 76] : List Int) → k15 l1 l2 l3 m = some r → q_E md_X10_isWrong 2 N (some 0) r m 15 [q_A 0, q_I l1, q_A l2, q_I l3] []) (hl2 : l2 ∈ ([74, 75, 76] : List Int)) (h : f_PG_isWrong_b15 k15 l1 l2 l3 m = some r) : q_E md_X10_isWrong 2 N (some 0) r m 15 [q_A 0, q_I l1, q_A l2, q_I l3] [] := by
  unfold f_PG_isWrong_b15 at h
  refine q_iload_n (M := md_X10_isWrong) (pc := 15) dX10_isWrong_15 rfl ?_
  refine q_aload_n (M := md_X10_isWrong) (pc := 16) dX10_isWrong_16 rfl (by decide) ?_
  refine e_gR (M := md_X10_isWrong) (pc := 17) h fl_10_19 dX10_isWrong_17 (is_0 hN) rfl (fun v1 hv1 h => ?_)
  refine e_gI (M := md_X10_isWrong) (pc := 20) (v := m v1 2) fl_10_121 dX10_isWrong_20 (is_Lp hN hv1) rfl ?_
  refine e_icmp_ge (M := md_X10_isWrong) (pc := 23) (tgt := 56) h rfl rfl dX10_isWrong_23 (by decide) (fun h => ?_) (fun h => ?_)
  · refine q_iconst (M := md_X10_isWrong) (pc := 56) dX10_isWrong_56 ?_
    exact e_zret (M := md_X10_isWrong) (pc := 57) h rfl dX10_isWrong_57
  · refine q_aload_n (M := md_X10_isWrong) (pc := 26) dX10_isWrong_26 rfl (by decide) ?_
    refine q_getP (M := md_X10_isWrong) (pc := 27) (v := 74) fl_10_80 dX10_isWrong_27 (is_0 hN) rfl ?_
    refine q_iload_n (M := md_X10_isWrong) (pc := 30) dX10_isWrong_30 rfl ?_
    refine q_bipush (M := md_X10_isWrong) (pc := 31) (x := 100) dX10_isWrong_31 (by decide) ?_
    refine q_imul (M := md_X10_isWrong) (pc := 33) dX10_isWrong_33 ?_
    refine q_iload_n (M := md_X10_isWrong) (pc := 34) dX10_isWrong_34 rfl ?_
    refine q_iadd (M := md_X10_isWrong) (pc := 35) dX10_isWrong_35 ?_
    refine e_rd (M := md_X10_isWrong) (pc := 36) h dX10_isWrong_36 (ar_74 hN) (fun v2 h => ?_)
    refine q_aload_n (M := md_X10_isWrong) (pc := 37) dX10_isWrong_37 rfl (ar_made hN hl2).1 ?_
    refine q_iload_n (M := md_X10_isWrong) (pc := 38) dX10_isWrong_38 rfl ?_
    refine q_bipush (M := md_X10_isWrong) (pc := 39) (x := 100) dX10_isWrong_39 (by decide) ?_
    refine q_imul (M := md_X10_isWrong) (pc := 41) dX10_isWrong_41 ?_
    refine q_iload_n (M := md_X10_isWrong) (pc := 42) dX10_isWrong_42 rfl ?_
    refine q_iadd (M := md_X10_isWrong) (pc := 43) dX10_isWrong_43 ?_
    refine e_rd (M := md_X10_isWrong) (pc := 44) h dX10_isWrong_44 (ar_made hN hl2) (fun v3 h => ?_)
    refine e_icmp_eq (M := md_X10_isWrong) (pc := 45) (tgt := 50) h rfl rfl dX10_isWrong_45 (by decide) (fun h => ?_) (fun h => ?_)
    · refine e_inc (M := md_X10_isWrong) (pc := 50) (x := l3) (ls' := [q_A 0, q_I l1, q_A l2, q_I (l3 + 1)]) dX10_isWrong_50 rfl (by decide) (q_pl rfl) rfl ?_
      refine q_goto (M := md_X10_isWrong) (pc := 53) (tgt := 15) dX10_isWrong_53 (by decide) ?_
      exact q_weak (hk15 _ _ _ _ hl2 h) ⟨Or.inr rfl, Or.inr rfl, Or.inr rfl, Or.inr rfl, trivial⟩
    · refine q_iconst (M := md_X10_isWrong) (pc := 48) dX10_isWrong_48 ?_
      exact e_zret (M := md_X10_isWrong) (pc := 49) h rfl dX10_isWrong_49
def f_PG_isWrong_l15 : Nat → Int → Int → Int → q_Mem → q_Res
  | 0 => fun _ _ _ _ => none
  | n + 1 => fun l1 l2 l3 m => f_PG_isWrong_b15 (f_PG_isWrong_l15 n) l1 l2 l3 m
theorem w_PG_isWrong_l15 {r : Int × q_Mem} {N : Nat} (hN : 81 ≤ N) : ∀ (n : Nat) (l1 l2 l3 : Int) (m : q_Mem), l2 ∈ ([74, 75, 76] : List Int) → f_PG_isWrong_l15 n l1 l2 l3 m = some r → q_E md_X10_isWrong 2 N (some 0) r m 15 [q_A 0, q_I l1, q_A l2, q_I l3] [] := by
  intro n
  induction n with
  | zero => intro l1 l2 l3 m hl2 h; exact q_no h
  | succ n ih =>
    intro l1 l2 l3 m hl2 h
    exact w_PG_isWrong_b15 hN (fun l1 l2 l3 m hl2 h => ih l1 l2 l3 m hl2 h) hl2 h
def f_PG_isWrong (l1 l2 : Int) (m : q_Mem) : q_Res :=
  q_bd (f_Web_isOrdered l1 m) fun v1 m2 =>
  if q_w v1 = 0 then (q_rz 0 m2)
  else (f_PG_isWrong_l15 q_F l1 l2 0 m2)
set_option maxRecDepth 20000 in
theorem ok_X10_isWrong {l1 l2 : Int} {r : Int × q_Mem} {m : q_Mem} {N : Nat} (hN : 81 ≤ N) (hl2 : l2 ∈ ([74, 75, 76] : List Int)) (h : f_PG_isWrong l1 l2 m = some r) : q_C md_X10_isWrong (q_room 2) 0 0 [q_A 0, q_I l1, q_A l2] (q_g N) m (some (q_I r.1), q_g N, r.2) := by
  refine q_ofR (by decide) 1 (ls := [q_A 0, q_I l1, q_A l2, q_N]) rfl (Nat.le_of_ble_eq_true rfl) ?_
  change q_E md_X10_isWrong 2 N (some 0) r m 0 [q_A 0, q_I l1, q_A l2, q_N] []
  unfold f_PG_isWrong at h
  refine q_aload_n (M := md_X10_isWrong) (pc := 0) dX10_isWrong_0 rfl (by decide) ?_
  refine q_getP (M := md_X10_isWrong) (pc := 1) (v := 53) fl_10_55 dX10_isWrong_1 (is_0 hN) rfl ?_
  refine q_iload_n (M := md_X10_isWrong) (pc := 4) dX10_isWrong_4 rfl ?_
  refine e_callVi (M := md_X10_isWrong) (pc := 5) (d' := 1) (av := [q_I l1]) (c := 53) h ml_10_195 im_X9_isOrdered se_X9_isOrdered dX10_isWrong_5 (fun v he => ok_X9_isOrdered hN  he) rfl (is_53 hN) ⟨_, _, rfl⟩ (by decide) (Nat.le_of_ble_eq_true rfl) ⟨by decide, by decide⟩ rfl (fun v1 m2 h => ?_)
  refine e_if_ne (M := md_X10_isWrong) (pc := 8) (tgt := 13) h rfl dX10_isWrong_8 (by decide) (fun h => ?_) (fun h => ?_)
  · refine q_iconst (M := md_X10_isWrong) (pc := 13) dX10_isWrong_13 ?_
    refine e_ist_n (M := md_X10_isWrong) (pc := 14) (ls' := [q_A 0, q_I l1, q_A l2, q_I 0]) dX10_isWrong_14 (by decide) (q_pl rfl) rfl ?_
    exact q_weak (w_PG_isWrong_l15 hN q_F _ _ _ _ hl2 h) ⟨Or.inr rfl, Or.inr rfl, Or.inr rfl, Or.inr rfl, trivial⟩
  · refine q_iconst (M := md_X10_isWrong) (pc := 11) dX10_isWrong_11 ?_
    exact e_zret (M := md_X10_isWrong) (pc := 12) h rfl dX10_isWrong_12
def f_PG_countWrong_b34 (k4 : Int → Int → Int → q_Mem → q_Res) (l1 l2 l3 : Int) (m : q_Mem) : q_Res :=
  k4 l1 l2 (l3 + 1) m
set_option maxRecDepth 20000 in
theorem w_PG_countWrong_b34 {k4 : Int → Int → Int → q_Mem → q_Res} {l1 l2 l3 : Int} {r : Int × q_Mem} {m : q_Mem} {N : Nat} (hN : 81 ≤ N) (hk4 : ∀ (l1 l2 l3 : Int) (m : q_Mem), l1 ∈ ([74, 75, 76] : List Int) → k4 l1 l2 l3 m = some r → q_E md_X10_countWrong 3 N (some 0) r m 4 [q_A 0, q_A l1, q_I l2, q_I l3] []) (hl1 : l1 ∈ ([74, 75, 76] : List Int)) (h : f_PG_countWrong_b34 k4 l1 l2 l3 m = some r) : q_E md_X10_countWrong 3 N (some 0) r m 34 [q_A 0, q_A l1, q_I l2, q_I l3] [] := by
  unfold f_PG_countWrong_b34 at h
  refine e_inc (M := md_X10_countWrong) (pc := 34) (x := l3) (ls' := [q_A 0, q_A l1, q_I l2, q_I (l3 + 1)]) dX10_countWrong_34 rfl (by decide) (q_pl rfl) rfl ?_
  refine q_goto (M := md_X10_countWrong) (pc := 37) (tgt := 4) dX10_countWrong_37 (by decide) ?_
  exact q_weak (hk4 _ _ _ _ hl1 h) ⟨Or.inr rfl, Or.inr rfl, Or.inr rfl, Or.inr rfl, trivial⟩
def f_PG_countWrong_b4 (k4 : Int → Int → Int → q_Mem → q_Res) (l1 l2 l3 : Int) (m : q_Mem) : q_Res :=
  q_lt (m 0 1) fun v1 => q_one q_Lp v1 <|
  q_bd (f_Loop_points v1 m) fun v2 m3 =>
  if q_w v2 ≤ q_w l3 then (q_rt l2 m3)
  else (q_lt (m3 0 1) fun v4 => q_one q_Lp v4 <|
  q_bd (f_Loop_pointAt v4 l3 m3) fun v5 m6 =>
  q_bd (f_PG_isWrong v5 l1 m6) fun v7 m8 =>
  if q_w v7 = 0 then (f_PG_countWrong_b34 k4 l1 l2 l3 m8)
  else (f_PG_countWrong_b34 k4 l1 (l2 + 1) l3 m8))
set_option maxRecDepth 20000 in
theorem w_PG_countWrong_b4 {k4 : Int → Int → Int → q_Mem → q_Res} {l1 l2 l3 : Int} {r : Int × q_Mem} {m : q_Mem} {N : Nat} (hN : 81 ≤ N) (hk4 : ∀ (l1 l2 l3 : Int) (m : q_Mem), l1 ∈ ([74, 75, 76] : List Int) → k4 l1 l2 l3 m = some r → q_E md_X10_countWrong 3 N (some 0) r m 4 [q_A 0, q_A l1, q_I l2, q_I l3] []) (hl1 : l1 ∈ ([74, 75, 76] : List Int)) (h : f_PG_countWrong_b4 k4 l1 l2 l3 m = some r) : q_E md_X10_countWrong 3 N (some 0) r m 4 [q_A 0, q_A l1, q_I l2, q_I l3] [] := by
  unfold f_PG_countWrong_b4 at h
  refine q_iload_n (M := md_X10_countWrong) (pc := 4) dX10_countWrong_4 rfl ?_
  refine q_aload_n (M := md_X10_countWrong) (pc := 5) dX10_countWrong_5 rfl (by decide) ?_
  refine e_gR (M := md_X10_countWrong) (pc := 6) h fl_10_19 dX10_countWrong_6 (is_0 hN) rfl (fun v1 hv1 h => ?_)
  refine e_callVi (M := md_X10_countWrong) (pc := 9) (d' := 1) (av := []) (c := v1) h ml_10_211 im_X2_points se_X2_points dX10_countWrong_9 (fun v he => ok_X2_points hN hv1 he) rfl (is_Lp hN hv1) ⟨_, _, rfl⟩ (by decide) (Nat.le_of_ble_eq_true rfl) ⟨by decide, by decide⟩ rfl (fun v2 m3 h => ?_)
  refine e_icmp_ge (M := md_X10_countWrong) (pc := 12) (tgt := 40) h rfl rfl dX10_countWrong_12 (by decide) (fun h => ?_) (fun h => ?_)
  · refine q_iload_n (M := md_X10_countWrong) (pc := 40) dX10_countWrong_40 rfl ?_
    exact e_iret (M := md_X10_countWrong) (pc := 41) h rfl dX10_countWrong_41
  · refine q_aload_n (M := md_X10_countWrong) (pc := 15) dX10_countWrong_15 rfl (by decide) ?_
    refine q_aload_n (M := md_X10_countWrong) (pc := 16) dX10_countWrong_16 rfl (by decide) ?_
    refine e_gR (M := md_X10_countWrong) (pc := 17) h fl_10_19 dX10_countWrong_17 (is_0 hN) rfl (fun v4 hv4 h => ?_)
    refine q_iload_n (M := md_X10_countWrong) (pc := 20) dX10_countWrong_20 rfl ?_
    refine e_callVi (M := md_X10_countWrong) (pc := 21) (d' := 1) (av := [q_I l3]) (c := v4) h ml_10_215 im_X2_pointAt se_X2_pointAt dX10_countWrong_21 (fun v he => ok_X2_pointAt hN hv4 he) rfl (is_Lp hN hv4) ⟨_, _, rfl⟩ (by decide) (Nat.le_of_ble_eq_true rfl) ⟨by decide, by decide⟩ rfl (fun v5 m6 h => ?_)
    refine q_aload_n (M := md_X10_countWrong) (pc := 24) dX10_countWrong_24 rfl (ar_made hN hl1).1 ?_
    refine e_callVi (M := md_X10_countWrong) (pc := 25) (d' := 2) (av := [q_I v5, q_A l1]) (c := 0) h ml_10_306 im_X10_isWrong se_X10_isWrong dX10_countWrong_25 (fun v he => ok_X10_isWrong hN hl1 he) rfl (is_0 hN) ⟨_, _, rfl⟩ (by decide) (Nat.le_of_ble_eq_true rfl) ⟨by decide, by decide⟩ rfl (fun v7 m8 h => ?_)
    refine e_if_eq (M := md_X10_countWrong) (pc := 28) (tgt := 34) h rfl dX10_countWrong_28 (by decide) (fun h => ?_) (fun h => ?_)
    · exact q_weak (w_PG_countWrong_b34 hN hk4 hl1 h) ⟨Or.inr rfl, Or.inr rfl, Or.inr rfl, Or.inr rfl, trivial⟩
    · refine e_inc (M := md_X10_countWrong) (pc := 31) (x := l2) (ls' := [q_A 0, q_A l1, q_I (l2 + 1), q_I l3]) dX10_countWrong_31 rfl (by decide) (q_pl rfl) rfl ?_
      exact q_weak (w_PG_countWrong_b34 hN hk4 hl1 h) ⟨Or.inr rfl, Or.inr rfl, Or.inr rfl, Or.inr rfl, trivial⟩
def f_PG_countWrong_l4 : Nat → Int → Int → Int → q_Mem → q_Res
  | 0 => fun _ _ _ _ => none
  | n + 1 => fun l1 l2 l3 m => f_PG_countWrong_b4 (f_PG_countWrong_l4 n) l1 l2 l3 m
theorem w_PG_countWrong_l4 {r : Int × q_Mem} {N : Nat} (hN : 81 ≤ N) : ∀ (n : Nat) (l1 l2 l3 : Int) (m : q_Mem), l1 ∈ ([74, 75, 76] : List Int) → f_PG_countWrong_l4 n l1 l2 l3 m = some r → q_E md_X10_countWrong 3 N (some 0) r m 4 [q_A 0, q_A l1, q_I l2, q_I l3] [] := by
  intro n
  induction n with
  | zero => intro l1 l2 l3 m hl1 h; exact q_no h
  | succ n ih =>
    intro l1 l2 l3 m hl1 h
    exact w_PG_countWrong_b4 hN (fun l1 l2 l3 m hl1 h => ih l1 l2 l3 m hl1 h) hl1 h
def f_PG_countWrong (l1 : Int) (m : q_Mem) : q_Res :=
  f_PG_countWrong_l4 q_F l1 0 0 m
set_option maxRecDepth 20000 in
theorem ok_X10_countWrong {l1 : Int} {r : Int × q_Mem} {m : q_Mem} {N : Nat} (hN : 81 ≤ N) (hl1 : l1 ∈ ([74, 75, 76] : List Int)) (h : f_PG_countWrong l1 m = some r) : q_C md_X10_countWrong (q_room 3) 0 0 [q_A 0, q_A l1] (q_g N) m (some (q_I r.1), q_g N, r.2) := by
  refine q_ofR (by decide) 2 (ls := [q_A 0, q_A l1, q_N, q_N]) rfl (Nat.le_of_ble_eq_true rfl) ?_
  change q_E md_X10_countWrong 3 N (some 0) r m 0 [q_A 0, q_A l1, q_N, q_N] []
  unfold f_PG_countWrong at h
  refine q_iconst (M := md_X10_countWrong) (pc := 0) dX10_countWrong_0 ?_
  refine e_ist_n (M := md_X10_countWrong) (pc := 1) (ls' := [q_A 0, q_A l1, q_I 0, q_N]) dX10_countWrong_1 (by decide) (q_pl rfl) rfl ?_
  refine q_iconst (M := md_X10_countWrong) (pc := 2) dX10_countWrong_2 ?_
  refine e_ist_n (M := md_X10_countWrong) (pc := 3) (ls' := [q_A 0, q_A l1, q_I 0, q_I 0]) dX10_countWrong_3 (by decide) (q_pl rfl) rfl ?_
  exact q_weak (w_PG_countWrong_l4 hN q_F _ _ _ _ hl1 h) ⟨Or.inr rfl, Or.inr rfl, Or.inr rfl, Or.inr rfl, trivial⟩
def f_PG_wrong (m : q_Mem) : q_Res :=
  q_bd (f_PG_freshenRun m) fun _ m1 =>
  q_bd (f_PG_countWrong 75 m1) fun v2 m3 =>
  q_rt v2 m3
set_option maxRecDepth 20000 in
theorem ok_X10_wrong {r : Int × q_Mem} {m : q_Mem} {N : Nat} (hN : 81 ≤ N) (h : f_PG_wrong m = some r) : q_C md_X10_wrong (q_room 7) 0 0 [q_A 0] (q_g N) m (some (q_I r.1), q_g N, r.2) := by
  refine q_ofR (by decide) 0 (ls := [q_A 0]) rfl (Nat.le_of_ble_eq_true rfl) ?_
  change q_E md_X10_wrong 7 N (some 0) r m 0 [q_A 0] []
  unfold f_PG_wrong at h
  refine q_aload_n (M := md_X10_wrong) (pc := 0) dX10_wrong_0 rfl (by decide) ?_
  refine e_callVv (M := md_X10_wrong) (pc := 1) (d' := 6) (av := []) (c := 0) h ml_10_198 im_X10_freshenRun se_X10_freshenRun dX10_wrong_1 (fun v he => ok_X10_freshenRun hN  he) rfl (is_0 hN) ⟨_, _, rfl⟩ (by decide) (Nat.le_of_ble_eq_true rfl) ⟨by decide, by decide⟩ rfl (fun _ m1 h => ?_)
  refine q_aload_n (M := md_X10_wrong) (pc := 4) dX10_wrong_4 rfl (by decide) ?_
  refine q_aload_n (M := md_X10_wrong) (pc := 5) dX10_wrong_5 rfl (by decide) ?_
  refine q_getP (M := md_X10_wrong) (pc := 6) (v := 75) fl_10_84 dX10_wrong_6 (is_0 hN) rfl ?_
  refine e_callVi (M := md_X10_wrong) (pc := 9) (d' := 3) (av := [q_A 75]) (c := 0) h ml_10_201 im_X10_countWrong se_X10_countWrong dX10_wrong_9 (fun v he => ok_X10_countWrong hN (by decide) he) rfl (is_0 hN) ⟨_, _, rfl⟩ (by decide) (Nat.le_of_ble_eq_true rfl) ⟨by decide, by decide⟩ rfl (fun v2 m3 h => ?_)
  exact e_iret (M := md_X10_wrong) (pc := 12) h rfl dX10_wrong_12
def f_PG_tick (l1 l2 : Int) (m : q_Mem) : q_Res :=
  q_lt (m 0 1) fun v1 => q_one q_Lp v1 <|
  q_bd (f_Loop_isInside v1 l1 l2 m) fun v2 m3 =>
  if q_w v2 = 0 then (q_rt (-1) m3)
  else (q_rd m3 61 100 ((l1 * 10) + l2) fun v4 =>
  q_rt v4 m3)
set_option maxRecDepth 20000 in
theorem ok_X10_tick {l1 l2 : Int} {r : Int × q_Mem} {m : q_Mem} {N : Nat} (hN : 81 ≤ N) (h : f_PG_tick l1 l2 m = some r) : q_C md_X10_tick (q_room 2) 0 0 [q_A 0, q_I l1, q_I l2] (q_g N) m (some (q_I r.1), q_g N, r.2) := by
  refine q_ofR (by decide) 0 (ls := [q_A 0, q_I l1, q_I l2]) rfl (Nat.le_of_ble_eq_true rfl) ?_
  change q_E md_X10_tick 2 N (some 0) r m 0 [q_A 0, q_I l1, q_I l2] []
  unfold f_PG_tick at h
  refine q_aload_n (M := md_X10_tick) (pc := 0) dX10_tick_0 rfl (by decide) ?_
  refine e_gR (M := md_X10_tick) (pc := 1) h fl_10_19 dX10_tick_1 (is_0 hN) rfl (fun v1 hv1 h => ?_)
  refine q_iload_n (M := md_X10_tick) (pc := 4) dX10_tick_4 rfl ?_
  refine q_iload_n (M := md_X10_tick) (pc := 5) dX10_tick_5 rfl ?_
  refine e_callVi (M := md_X10_tick) (pc := 6) (d' := 1) (av := [q_I l1, q_I l2]) (c := v1) h ml_10_192 im_X2_isInside se_X2_isInside dX10_tick_6 (fun v he => ok_X2_isInside hN hv1 he) rfl (is_Lp hN hv1) ⟨_, _, rfl⟩ (by decide) (Nat.le_of_ble_eq_true rfl) ⟨by decide, by decide⟩ rfl (fun v2 m3 h => ?_)
  refine e_if_eq (M := md_X10_tick) (pc := 9) (tgt := 29) h rfl dX10_tick_9 (by decide) (fun h => ?_) (fun h => ?_)
  · refine q_iconst (M := md_X10_tick) (pc := 29) dX10_tick_29 ?_
    exact e_iret (M := md_X10_tick) (pc := 30) h rfl dX10_tick_30
  · refine q_aload_n (M := md_X10_tick) (pc := 12) dX10_tick_12 rfl (by decide) ?_
    refine q_getP (M := md_X10_tick) (pc := 13) (v := 60) fl_10_62 dX10_tick_13 (is_0 hN) rfl ?_
    refine q_getP (M := md_X10_tick) (pc := 16) (v := 61) fl_10_205 dX10_tick_16 (is_60 hN) rfl ?_
    refine q_iload_n (M := md_X10_tick) (pc := 19) dX10_tick_19 rfl ?_
    refine q_bipush (M := md_X10_tick) (pc := 20) (x := 10) dX10_tick_20 (by decide) ?_
    refine q_imul (M := md_X10_tick) (pc := 22) dX10_tick_22 ?_
    refine q_iload_n (M := md_X10_tick) (pc := 23) dX10_tick_23 rfl ?_
    refine q_iadd (M := md_X10_tick) (pc := 24) dX10_tick_24 ?_
    refine e_rd (M := md_X10_tick) (pc := 25) h dX10_tick_25 (ar_61 hN) (fun v4 h => ?_)
    refine q_goto (M := md_X10_tick) (pc := 26) (tgt := 30) dX10_tick_26 (by decide) ?_
    exact e_iret (M := md_X10_tick) (pc := 30) h rfl dX10_tick_30
def f_PG_cell (l1 l2 : Int) (m : q_Mem) : q_Res :=
  q_lt (m 0 1) fun v1 => q_one q_Lp v1 <|
  q_bd (f_Loop_isInside v1 l1 l2 m) fun v2 m3 =>
  if q_w v2 = 0 then (q_rt (-1) m3)
  else (q_rd m3 62 100 ((l1 * 10) + l2) fun v4 =>
  q_rt v4 m3)
set_option maxRecDepth 20000 in
theorem ok_X10_cell {l1 l2 : Int} {r : Int × q_Mem} {m : q_Mem} {N : Nat} (hN : 81 ≤ N) (h : f_PG_cell l1 l2 m = some r) : q_C md_X10_cell (q_room 2) 0 0 [q_A 0, q_I l1, q_I l2] (q_g N) m (some (q_I r.1), q_g N, r.2) := by
  refine q_ofR (by decide) 0 (ls := [q_A 0, q_I l1, q_I l2]) rfl (Nat.le_of_ble_eq_true rfl) ?_
  change q_E md_X10_cell 2 N (some 0) r m 0 [q_A 0, q_I l1, q_I l2] []
  unfold f_PG_cell at h
  refine q_aload_n (M := md_X10_cell) (pc := 0) dX10_cell_0 rfl (by decide) ?_
  refine e_gR (M := md_X10_cell) (pc := 1) h fl_10_19 dX10_cell_1 (is_0 hN) rfl (fun v1 hv1 h => ?_)
  refine q_iload_n (M := md_X10_cell) (pc := 4) dX10_cell_4 rfl ?_
  refine q_iload_n (M := md_X10_cell) (pc := 5) dX10_cell_5 rfl ?_
  refine e_callVi (M := md_X10_cell) (pc := 6) (d' := 1) (av := [q_I l1, q_I l2]) (c := v1) h ml_10_192 im_X2_isInside se_X2_isInside dX10_cell_6 (fun v he => ok_X2_isInside hN hv1 he) rfl (is_Lp hN hv1) ⟨_, _, rfl⟩ (by decide) (Nat.le_of_ble_eq_true rfl) ⟨by decide, by decide⟩ rfl (fun v2 m3 h => ?_)
  refine e_if_eq (M := md_X10_cell) (pc := 9) (tgt := 29) h rfl dX10_cell_9 (by decide) (fun h => ?_) (fun h => ?_)
  · refine q_iconst (M := md_X10_cell) (pc := 29) dX10_cell_29 ?_
    exact e_iret (M := md_X10_cell) (pc := 30) h rfl dX10_cell_30
  · refine q_aload_n (M := md_X10_cell) (pc := 12) dX10_cell_12 rfl (by decide) ?_
    refine q_getP (M := md_X10_cell) (pc := 13) (v := 60) fl_10_62 dX10_cell_13 (is_0 hN) rfl ?_
    refine q_getP (M := md_X10_cell) (pc := 16) (v := 62) fl_10_208 dX10_cell_16 (is_60 hN) rfl ?_
    refine q_iload_n (M := md_X10_cell) (pc := 19) dX10_cell_19 rfl ?_
    refine q_bipush (M := md_X10_cell) (pc := 20) (x := 10) dX10_cell_20 (by decide) ?_
    refine q_imul (M := md_X10_cell) (pc := 22) dX10_cell_22 ?_
    refine q_iload_n (M := md_X10_cell) (pc := 23) dX10_cell_23 rfl ?_
    refine q_iadd (M := md_X10_cell) (pc := 24) dX10_cell_24 ?_
    refine e_rd (M := md_X10_cell) (pc := 25) h dX10_cell_25 (ar_62 hN) (fun v4 h => ?_)
    refine q_goto (M := md_X10_cell) (pc := 26) (tgt := 30) dX10_cell_26 (by decide) ?_
    exact e_iret (M := md_X10_cell) (pc := 30) h rfl dX10_cell_30
def f_PG_point_b54 (k2 : Int → Int → Int → q_Mem → q_Res) (l1 l2 l3 : Int) (m : q_Mem) : q_Res :=
  k2 l1 l2 (l3 + 1) m
set_option maxRecDepth 20000 in
theorem w_PG_point_b54 {k2 : Int → Int → Int → q_Mem → q_Res} {l1 l2 l3 : Int} {r : Int × q_Mem} {m : q_Mem} {N : Nat} (hN : 81 ≤ N) (hk2 : ∀ (l1 l2 l3 : Int) (m : q_Mem), k2 l1 l2 l3 m = some r → q_E md_X10_point 2 N (some 0) r m 2 [q_A 0, q_I l1, q_I l2, q_I l3, q_N] []) (h : f_PG_point_b54 k2 l1 l2 l3 m = some r) : q_E md_X10_point 2 N (some 0) r m 54 [q_A 0, q_I l1, q_I l2, q_I l3, q_N] [] := by
  unfold f_PG_point_b54 at h
  refine e_inc (M := md_X10_point) (pc := 54) (x := l3) (ls' := [q_A 0, q_I l1, q_I l2, q_I (l3 + 1), q_N]) dX10_point_54 rfl (by decide) (q_pl rfl) rfl ?_
  refine q_goto (M := md_X10_point) (pc := 57) (tgt := 2) dX10_point_57 (by decide) ?_
  exact q_weak (hk2 _ _ _ _  h) ⟨Or.inr rfl, Or.inr rfl, Or.inr rfl, Or.inr rfl, Or.inl rfl, trivial⟩
def f_PG_point_b2 (k2 : Int → Int → Int → q_Mem → q_Res) (l1 l2 l3 : Int) (m : q_Mem) : q_Res :=
  q_lt (m 0 1) fun v1 => q_one q_Lp v1 <|
  q_bd (f_Loop_points v1 m) fun v2 m3 =>
  if q_w v2 ≤ q_w l3 then (q_rt (-1) m3)
  else (q_lt (m3 0 1) fun v4 => q_one q_Lp v4 <|
  q_bd (f_Loop_pointAt v4 l3 m3) fun v5 m6 =>
  q_rd m6 62 100 v5 fun v7 =>
  if q_w v7 = q_w l1 then (q_rd m6 61 100 v5 fun v8 =>
  if q_w v8 = q_w l2 then (q_rt v5 m6)
  else (f_PG_point_b54 k2 l1 l2 l3 m6))
  else (f_PG_point_b54 k2 l1 l2 l3 m6))
set_option maxRecDepth 20000 in
theorem w_PG_point_b2 {k2 : Int → Int → Int → q_Mem → q_Res} {l1 l2 l3 : Int} {r : Int × q_Mem} {m : q_Mem} {N : Nat} (hN : 81 ≤ N) (hk2 : ∀ (l1 l2 l3 : Int) (m : q_Mem), k2 l1 l2 l3 m = some r → q_E md_X10_point 2 N (some 0) r m 2 [q_A 0, q_I l1, q_I l2, q_I l3, q_N] []) (h : f_PG_point_b2 k2 l1 l2 l3 m = some r) : q_E md_X10_point 2 N (some 0) r m 2 [q_A 0, q_I l1, q_I l2, q_I l3, q_N] [] := by
  unfold f_PG_point_b2 at h
  refine q_iload_n (M := md_X10_point) (pc := 2) dX10_point_2 rfl ?_
  refine q_aload_n (M := md_X10_point) (pc := 3) dX10_point_3 rfl (by decide) ?_
  refine e_gR (M := md_X10_point) (pc := 4) h fl_10_19 dX10_point_4 (is_0 hN) rfl (fun v1 hv1 h => ?_)
  refine e_callVi (M := md_X10_point) (pc := 7) (d' := 1) (av := []) (c := v1) h ml_10_211 im_X2_points se_X2_points dX10_point_7 (fun v he => ok_X2_points hN hv1 he) rfl (is_Lp hN hv1) ⟨_, _, rfl⟩ (by decide) (Nat.le_of_ble_eq_true rfl) ⟨by decide, by decide⟩ rfl (fun v2 m3 h => ?_)
  refine e_icmp_ge (M := md_X10_point) (pc := 10) (tgt := 60) h rfl rfl dX10_point_10 (by decide) (fun h => ?_) (fun h => ?_)
  · refine q_iconst (M := md_X10_point) (pc := 60) dX10_point_60 ?_
    exact e_iret (M := md_X10_point) (pc := 61) h rfl dX10_point_61
  · refine q_aload_n (M := md_X10_point) (pc := 13) dX10_point_13 rfl (by decide) ?_
    refine e_gR (M := md_X10_point) (pc := 14) h fl_10_19 dX10_point_14 (is_0 hN) rfl (fun v4 hv4 h => ?_)
    refine q_iload_n (M := md_X10_point) (pc := 17) dX10_point_17 rfl ?_
    refine e_callVi (M := md_X10_point) (pc := 18) (d' := 1) (av := [q_I l3]) (c := v4) h ml_10_215 im_X2_pointAt se_X2_pointAt dX10_point_18 (fun v he => ok_X2_pointAt hN hv4 he) rfl (is_Lp hN hv4) ⟨_, _, rfl⟩ (by decide) (Nat.le_of_ble_eq_true rfl) ⟨by decide, by decide⟩ rfl (fun v5 m6 h => ?_)
    refine e_ist (M := md_X10_point) (pc := 21) (ls' := [q_A 0, q_I l1, q_I l2, q_I l3, q_I v5]) dX10_point_21 (by decide) (q_pl rfl) rfl ?_
    refine q_aload_n (M := md_X10_point) (pc := 23) dX10_point_23 rfl (by decide) ?_
    refine q_getP (M := md_X10_point) (pc := 24) (v := 60) fl_10_62 dX10_point_24 (is_0 hN) rfl ?_
    refine q_getP (M := md_X10_point) (pc := 27) (v := 62) fl_10_208 dX10_point_27 (is_60 hN) rfl ?_
    refine q_iload (M := md_X10_point) (pc := 30) dX10_point_30 rfl ?_
    refine e_rd (M := md_X10_point) (pc := 32) h dX10_point_32 (ar_62 hN) (fun v7 h => ?_)
    refine q_iload_n (M := md_X10_point) (pc := 33) dX10_point_33 rfl ?_
    refine e_icmp_ne (M := md_X10_point) (pc := 34) (tgt := 54) h rfl rfl dX10_point_34 (by decide) (fun h => ?_) (fun h => ?_)
    · exact q_weak (w_PG_point_b54 hN hk2  h) ⟨Or.inr rfl, Or.inr rfl, Or.inr rfl, Or.inr rfl, Or.inl rfl, trivial⟩
    · refine q_aload_n (M := md_X10_point) (pc := 37) dX10_point_37 rfl (by decide) ?_
      refine q_getP (M := md_X10_point) (pc := 38) (v := 60) fl_10_62 dX10_point_38 (is_0 hN) rfl ?_
      refine q_getP (M := md_X10_point) (pc := 41) (v := 61) fl_10_205 dX10_point_41 (is_60 hN) rfl ?_
      refine q_iload (M := md_X10_point) (pc := 44) dX10_point_44 rfl ?_
      refine e_rd (M := md_X10_point) (pc := 46) h dX10_point_46 (ar_61 hN) (fun v8 h => ?_)
      refine q_iload_n (M := md_X10_point) (pc := 47) dX10_point_47 rfl ?_
      refine e_icmp_ne (M := md_X10_point) (pc := 48) (tgt := 54) h rfl rfl dX10_point_48 (by decide) (fun h => ?_) (fun h => ?_)
      · exact q_weak (w_PG_point_b54 hN hk2  h) ⟨Or.inr rfl, Or.inr rfl, Or.inr rfl, Or.inr rfl, Or.inl rfl, trivial⟩
      · refine q_iload (M := md_X10_point) (pc := 51) dX10_point_51 rfl ?_
        exact e_iret (M := md_X10_point) (pc := 53) h rfl dX10_point_53
def f_PG_point_l2 : Nat → Int → Int → Int → q_Mem → q_Res
  | 0 => fun _ _ _ _ => none
  | n + 1 => fun l1 l2 l3 m => f_PG_point_b2 (f_PG_point_l2 n) l1 l2 l3 m
theorem w_PG_point_l2 {r : Int × q_Mem} {N : Nat} (hN : 81 ≤ N) : ∀ (n : Nat) (l1 l2 l3 : Int) (m : q_Mem), f_PG_point_l2 n l1 l2 l3 m = some r → q_E md_X10_point 2 N (some 0) r m 2 [q_A 0, q_I l1, q_I l2, q_I l3, q_N] [] := by
  intro n
  induction n with
  | zero => intro l1 l2 l3 m h; exact q_no h
  | succ n ih =>
    intro l1 l2 l3 m h
    exact w_PG_point_b2 hN (fun l1 l2 l3 m h => ih l1 l2 l3 m h) h
def f_PG_point (l1 l2 : Int) (m : q_Mem) : q_Res :=
  f_PG_point_l2 q_F l1 l2 0 m
set_option maxRecDepth 20000 in
theorem ok_X10_point {l1 l2 : Int} {r : Int × q_Mem} {m : q_Mem} {N : Nat} (hN : 81 ≤ N) (h : f_PG_point l1 l2 m = some r) : q_C md_X10_point (q_room 2) 0 0 [q_A 0, q_I l1, q_I l2] (q_g N) m (some (q_I r.1), q_g N, r.2) := by
  refine q_ofR (by decide) 2 (ls := [q_A 0, q_I l1, q_I l2, q_N, q_N]) rfl (Nat.le_of_ble_eq_true rfl) ?_
  change q_E md_X10_point 2 N (some 0) r m 0 [q_A 0, q_I l1, q_I l2, q_N, q_N] []
  unfold f_PG_point at h
  refine q_iconst (M := md_X10_point) (pc := 0) dX10_point_0 ?_
  refine e_ist_n (M := md_X10_point) (pc := 1) (ls' := [q_A 0, q_I l1, q_I l2, q_I 0, q_N]) dX10_point_1 (by decide) (q_pl rfl) rfl ?_
  exact q_weak (w_PG_point_l2 hN q_F _ _ _ _  h) ⟨Or.inr rfl, Or.inr rfl, Or.inr rfl, Or.inr rfl, Or.inl rfl, trivial⟩
def f_PG_wave (l1 : Int) (m : q_Mem) : q_Res :=
  if 0 ≤ q_w l1 then (if q_w (m 60 9) ≤ q_w l1 then (q_rt 0 m)
  else (q_rd m 65 163 l1 fun v1 =>
  q_rt v1 m))
  else (q_rt (-1) m)
set_option maxRecDepth 20000 in
theorem ok_X10_wave {l1 : Int} {r : Int × q_Mem} {m : q_Mem} {N : Nat} (hN : 81 ≤ N) (h : f_PG_wave l1 m = some r) : q_C md_X10_wave (q_room 1) 0 0 [q_A 0, q_I l1] (q_g N) m (some (q_I r.1), q_g N, r.2) := by
  refine q_ofR (by decide) 0 (ls := [q_A 0, q_I l1]) rfl (Nat.le_of_ble_eq_true rfl) ?_
  change q_E md_X10_wave 1 N (some 0) r m 0 [q_A 0, q_I l1] []
  unfold f_PG_wave at h
  refine q_iload_n (M := md_X10_wave) (pc := 0) dX10_wave_0 rfl ?_
  refine e_if_ge (M := md_X10_wave) (pc := 1) (tgt := 6) h rfl dX10_wave_1 (by decide) (fun h => ?_) (fun h => ?_)
  · refine q_iload_n (M := md_X10_wave) (pc := 6) dX10_wave_6 rfl ?_
    refine q_aload_n (M := md_X10_wave) (pc := 7) dX10_wave_7 rfl (by decide) ?_
    refine q_getP (M := md_X10_wave) (pc := 8) (v := 60) fl_10_62 dX10_wave_8 (is_0 hN) rfl ?_
    refine e_gI (M := md_X10_wave) (pc := 11) (v := m 60 9) fl_10_219 dX10_wave_11 (is_60 hN) rfl ?_
    refine e_icmp_ge (M := md_X10_wave) (pc := 14) (tgt := 29) h rfl rfl dX10_wave_14 (by decide) (fun h => ?_) (fun h => ?_)
    · refine q_iconst (M := md_X10_wave) (pc := 29) dX10_wave_29 ?_
      exact e_iret (M := md_X10_wave) (pc := 30) h rfl dX10_wave_30
    · refine q_aload_n (M := md_X10_wave) (pc := 17) dX10_wave_17 rfl (by decide) ?_
      refine q_getP (M := md_X10_wave) (pc := 18) (v := 60) fl_10_62 dX10_wave_18 (is_0 hN) rfl ?_
      refine q_getP (M := md_X10_wave) (pc := 21) (v := 65) fl_10_222 dX10_wave_21 (is_60 hN) rfl ?_
      refine q_iload_n (M := md_X10_wave) (pc := 24) dX10_wave_24 rfl ?_
      refine e_rd (M := md_X10_wave) (pc := 25) h dX10_wave_25 (ar_65 hN) (fun v1 h => ?_)
      refine q_goto (M := md_X10_wave) (pc := 26) (tgt := 30) dX10_wave_26 (by decide) ?_
      exact e_iret (M := md_X10_wave) (pc := 30) h rfl dX10_wave_30
  · refine q_iconst (M := md_X10_wave) (pc := 4) dX10_wave_4 ?_
    exact e_iret (M := md_X10_wave) (pc := 5) h rfl dX10_wave_5
def f_PG_wrongWithout (l1 : Int) (m : q_Mem) : q_Res :=
  q_bd (f_PG_freshenRun m) fun _ m1 =>
  q_bd (f_PG_current m1) fun v2 m3 => q_one q_Ly v2 <|
  q_bd (f_PG_reckonRun 76 (q_lor (m3 v2 5) (q_lshl 1 l1)) m3) fun _ m4 =>
  q_bd (f_PG_countWrong 76 m4) fun v5 m6 =>
  q_bd (f_PG_countWrong 75 m6) fun v7 m8 =>
  q_rt (v5 - v7) m8
set_option maxRecDepth 20000 in
theorem ok_X10_wrongWithout {l1 : Int} {r : Int × q_Mem} {m : q_Mem} {N : Nat} (hN : 81 ≤ N) (h : f_PG_wrongWithout l1 m = some r) : q_C md_X10_wrongWithout (q_room 7) 0 0 [q_A 0, q_I l1] (q_g N) m (some (q_I r.1), q_g N, r.2) := by
  refine q_ofR (by decide) 0 (ls := [q_A 0, q_I l1]) rfl (Nat.le_of_ble_eq_true rfl) ?_
  change q_E md_X10_wrongWithout 7 N (some 0) r m 0 [q_A 0, q_I l1] []
  unfold f_PG_wrongWithout at h
  refine q_aload_n (M := md_X10_wrongWithout) (pc := 0) dX10_wrongWithout_0 rfl (by decide) ?_
  refine e_callVv (M := md_X10_wrongWithout) (pc := 1) (d' := 6) (av := []) (c := 0) h ml_10_198 im_X10_freshenRun se_X10_freshenRun dX10_wrongWithout_1 (fun v he => ok_X10_freshenRun hN  he) rfl (is_0 hN) ⟨_, _, rfl⟩ (by decide) (Nat.le_of_ble_eq_true rfl) ⟨by decide, by decide⟩ rfl (fun _ m1 h => ?_)
  refine q_aload_n (M := md_X10_wrongWithout) (pc := 4) dX10_wrongWithout_4 rfl (by decide) ?_
  refine q_aload_n (M := md_X10_wrongWithout) (pc := 5) dX10_wrongWithout_5 rfl (by decide) ?_
  refine q_getP (M := md_X10_wrongWithout) (pc := 6) (v := 76) fl_10_87 dX10_wrongWithout_6 (is_0 hN) rfl ?_
  refine q_aload_n (M := md_X10_wrongWithout) (pc := 9) dX10_wrongWithout_9 rfl (by decide) ?_
  refine e_callVr (M := md_X10_wrongWithout) (pc := 10) (d' := 1) (av := []) (c := 0) h ml_10_170 im_X10_current se_X10_current dX10_wrongWithout_10 (fun v he => ok_X10_current hN  he) rfl (is_0 hN) ⟨_, _, rfl⟩ (by decide) (Nat.le_of_ble_eq_true rfl) ⟨by decide, by decide⟩ rfl (fun v2 m3 h => ?_)
  obtain ⟨hv2, h⟩ := e_one h
  refine e_gL (M := md_X10_wrongWithout) (pc := 13) (v := m3 v2 5) fl_10_156 dX10_wrongWithout_13 (is_Ly hN hv2) rfl ?_
  refine q_lconst (M := md_X10_wrongWithout) (pc := 16) (x := 1) dX10_wrongWithout_16 (by decide) ?_
  refine q_iload_n (M := md_X10_wrongWithout) (pc := 17) dX10_wrongWithout_17 rfl ?_
  refine q_lshl_ (M := md_X10_wrongWithout) (pc := 18) dX10_wrongWithout_18 ?_
  refine q_lor_ (M := md_X10_wrongWithout) (pc := 19) dX10_wrongWithout_19 ?_
  refine e_callVv (M := md_X10_wrongWithout) (pc := 20) (d' := 5) (av := [q_A 76, q_L (q_lor (m3 v2 5) (q_lshl 1 l1))]) (c := 0) h ml_10_436 im_X10_reckonRun se_X10_reckonRun dX10_wrongWithout_20 (fun v he => ok_X10_reckonRun hN (by decide) he) rfl (is_0 hN) ⟨_, _, rfl⟩ (by decide) (Nat.le_of_ble_eq_true rfl) ⟨by decide, by decide⟩ rfl (fun _ m4 h => ?_)
  refine q_aload_n (M := md_X10_wrongWithout) (pc := 23) dX10_wrongWithout_23 rfl (by decide) ?_
  refine q_aload_n (M := md_X10_wrongWithout) (pc := 24) dX10_wrongWithout_24 rfl (by decide) ?_
  refine q_getP (M := md_X10_wrongWithout) (pc := 25) (v := 76) fl_10_87 dX10_wrongWithout_25 (is_0 hN) rfl ?_
  refine e_callVi (M := md_X10_wrongWithout) (pc := 28) (d' := 3) (av := [q_A 76]) (c := 0) h ml_10_201 im_X10_countWrong se_X10_countWrong dX10_wrongWithout_28 (fun v he => ok_X10_countWrong hN (by decide) he) rfl (is_0 hN) ⟨_, _, rfl⟩ (by decide) (Nat.le_of_ble_eq_true rfl) ⟨by decide, by decide⟩ rfl (fun v5 m6 h => ?_)
  refine q_aload_n (M := md_X10_wrongWithout) (pc := 31) dX10_wrongWithout_31 rfl (by decide) ?_
  refine q_aload_n (M := md_X10_wrongWithout) (pc := 32) dX10_wrongWithout_32 rfl (by decide) ?_
  refine q_getP (M := md_X10_wrongWithout) (pc := 33) (v := 75) fl_10_84 dX10_wrongWithout_33 (is_0 hN) rfl ?_
  refine e_callVi (M := md_X10_wrongWithout) (pc := 36) (d' := 3) (av := [q_A 75]) (c := 0) h ml_10_201 im_X10_countWrong se_X10_countWrong dX10_wrongWithout_36 (fun v he => ok_X10_countWrong hN (by decide) he) rfl (is_0 hN) ⟨_, _, rfl⟩ (by decide) (Nat.le_of_ble_eq_true rfl) ⟨by decide, by decide⟩ rfl (fun v7 m8 h => ?_)
  refine q_isub (M := md_X10_wrongWithout) (pc := 39) dX10_wrongWithout_39 ?_
  exact e_iret (M := md_X10_wrongWithout) (pc := 40) h rfl dX10_wrongWithout_40
def f_PG_busy (l1 l2 : Int) (m : q_Mem) : q_Res :=
  q_bd (f_PG_isCell l1 m) fun v1 m2 =>
  if q_w v1 = 0 then (q_rt (-1000) m2)
  else (if q_w l2 = 0 then (q_bd (f_Plac_pointsOf l1 m2) fun v4 m5 =>
  q_rt v4 m5)
  else if q_w l2 = 1 then (q_bd (f_Plac_firstTickOf l1 m2) fun v7 m8 =>
  q_rt v7 m8)
  else if q_w l2 = 2 then (q_bd (f_Plac_lastTickOf l1 m2) fun v10 m11 =>
  q_rt v10 m11)
  else if q_w l2 = 3 then (q_bd (f_PG_current m2) fun v13 m14 => q_one q_Ly v13 <|
  q_bd (f_Layo_isBroken v13 l1 m14) fun v15 m16 =>
  if q_w v15 = 0 then (q_rt 0 m16)
  else (q_rt 1 m16))
  else if q_w l2 = 4 then (q_bd (f_PG_wrongWithout l1 m2) fun v18 m19 =>
  q_rt v18 m19)
  else (q_rt (-1000) m2))
set_option maxRecDepth 20000 in
theorem ok_X10_busy {l1 l2 : Int} {r : Int × q_Mem} {m : q_Mem} {N : Nat} (hN : 81 ≤ N) (h : f_PG_busy l1 l2 m = some r) : q_C md_X10_busy (q_room 8) 0 0 [q_A 0, q_I l1, q_I l2] (q_g N) m (some (q_I r.1), q_g N, r.2) := by
  refine q_ofR (by decide) 0 (ls := [q_A 0, q_I l1, q_I l2]) rfl (Nat.le_of_ble_eq_true rfl) ?_
  change q_E md_X10_busy 8 N (some 0) r m 0 [q_A 0, q_I l1, q_I l2] []
  unfold f_PG_busy at h
  refine q_aload_n (M := md_X10_busy) (pc := 0) dX10_busy_0 rfl (by decide) ?_
  refine q_iload_n (M := md_X10_busy) (pc := 1) dX10_busy_1 rfl ?_
  refine e_callVi (M := md_X10_busy) (pc := 2) (d' := 1) (av := [q_I l1]) (c := 0) h ml_10_166 im_X10_isCell se_X10_isCell dX10_busy_2 (fun v he => ok_X10_isCell hN  he) rfl (is_0 hN) ⟨_, _, rfl⟩ (by decide) (Nat.le_of_ble_eq_true rfl) ⟨by decide, by decide⟩ rfl (fun v1 m2 h => ?_)
  refine e_if_ne (M := md_X10_busy) (pc := 5) (tgt := 12) h rfl dX10_busy_5 (by decide) (fun h => ?_) (fun h => ?_)
  · refine q_iload_n (M := md_X10_busy) (pc := 12) dX10_busy_12 rfl ?_
    by_cases c3 : q_w l2 = 0
    · rw [if_pos c3] at h
      refine q_tabIn (M := md_X10_busy) (pc := 13) (tgt := 48) dX10_busy_13 (by rw [c3] <;> decide) (by rw [c3] <;> decide) (by rw [c3] <;> rfl) (by decide) ?_
      refine q_aload_n (M := md_X10_busy) (pc := 48) dX10_busy_48 rfl (by decide) ?_
      refine q_getP (M := md_X10_busy) (pc := 49) (v := 60) fl_10_62 dX10_busy_49 (is_0 hN) rfl ?_
      refine q_iload_n (M := md_X10_busy) (pc := 52) dX10_busy_52 rfl ?_
      refine e_callVi (M := md_X10_busy) (pc := 53) (d' := 1) (av := [q_I l1]) (c := 60) h ml_10_225 im_X4_pointsOf se_X4_pointsOf dX10_busy_53 (fun v he => ok_X4_pointsOf hN  he) rfl (is_60 hN) ⟨_, _, rfl⟩ (by decide) (Nat.le_of_ble_eq_true rfl) ⟨by decide, by decide⟩ rfl (fun v4 m5 h => ?_)
      exact e_iret (M := md_X10_busy) (pc := 56) h rfl dX10_busy_56
    rw [if_neg c3] at h
    by_cases c6 : q_w l2 = 1
    · rw [if_pos c6] at h
      refine q_tabIn (M := md_X10_busy) (pc := 13) (tgt := 57) dX10_busy_13 (by rw [c6] <;> decide) (by rw [c6] <;> decide) (by rw [c6] <;> rfl) (by decide) ?_
      refine q_aload_n (M := md_X10_busy) (pc := 57) dX10_busy_57 rfl (by decide) ?_
      refine q_getP (M := md_X10_busy) (pc := 58) (v := 60) fl_10_62 dX10_busy_58 (is_0 hN) rfl ?_
      refine q_iload_n (M := md_X10_busy) (pc := 61) dX10_busy_61 rfl ?_
      refine e_callVi (M := md_X10_busy) (pc := 62) (d' := 1) (av := [q_I l1]) (c := 60) h ml_10_228 im_X4_firstTickOf se_X4_firstTickOf dX10_busy_62 (fun v he => ok_X4_firstTickOf hN  he) rfl (is_60 hN) ⟨_, _, rfl⟩ (by decide) (Nat.le_of_ble_eq_true rfl) ⟨by decide, by decide⟩ rfl (fun v7 m8 h => ?_)
      exact e_iret (M := md_X10_busy) (pc := 65) h rfl dX10_busy_65
    rw [if_neg c6] at h
    by_cases c9 : q_w l2 = 2
    · rw [if_pos c9] at h
      refine q_tabIn (M := md_X10_busy) (pc := 13) (tgt := 66) dX10_busy_13 (by rw [c9] <;> decide) (by rw [c9] <;> decide) (by rw [c9] <;> rfl) (by decide) ?_
      refine q_aload_n (M := md_X10_busy) (pc := 66) dX10_busy_66 rfl (by decide) ?_
      refine q_getP (M := md_X10_busy) (pc := 67) (v := 60) fl_10_62 dX10_busy_67 (is_0 hN) rfl ?_
      refine q_iload_n (M := md_X10_busy) (pc := 70) dX10_busy_70 rfl ?_
      refine e_callVi (M := md_X10_busy) (pc := 71) (d' := 1) (av := [q_I l1]) (c := 60) h ml_10_231 im_X4_lastTickOf se_X4_lastTickOf dX10_busy_71 (fun v he => ok_X4_lastTickOf hN  he) rfl (is_60 hN) ⟨_, _, rfl⟩ (by decide) (Nat.le_of_ble_eq_true rfl) ⟨by decide, by decide⟩ rfl (fun v10 m11 h => ?_)
      exact e_iret (M := md_X10_busy) (pc := 74) h rfl dX10_busy_74
    rw [if_neg c9] at h
    by_cases c12 : q_w l2 = 3
    · rw [if_pos c12] at h
      refine q_tabIn (M := md_X10_busy) (pc := 13) (tgt := 75) dX10_busy_13 (by rw [c12] <;> decide) (by rw [c12] <;> decide) (by rw [c12] <;> rfl) (by decide) ?_
      refine q_aload_n (M := md_X10_busy) (pc := 75) dX10_busy_75 rfl (by decide) ?_
      refine e_callVr (M := md_X10_busy) (pc := 76) (d' := 1) (av := []) (c := 0) h ml_10_170 im_X10_current se_X10_current dX10_busy_76 (fun v he => ok_X10_current hN  he) rfl (is_0 hN) ⟨_, _, rfl⟩ (by decide) (Nat.le_of_ble_eq_true rfl) ⟨by decide, by decide⟩ rfl (fun v13 m14 h => ?_)
      obtain ⟨hv13, h⟩ := e_one h
      refine q_iload_n (M := md_X10_busy) (pc := 79) dX10_busy_79 rfl ?_
      refine e_callVi (M := md_X10_busy) (pc := 80) (d' := 1) (av := [q_I l1]) (c := v13) h ml_10_173 im_X1_isBroken se_X1_isBroken dX10_busy_80 (fun v he => ok_X1_isBroken hN hv13 he) rfl (is_Ly hN hv13) ⟨_, _, rfl⟩ (by decide) (Nat.le_of_ble_eq_true rfl) ⟨by decide, by decide⟩ rfl (fun v15 m16 h => ?_)
      refine e_if_eq (M := md_X10_busy) (pc := 83) (tgt := 90) h rfl dX10_busy_83 (by decide) (fun h => ?_) (fun h => ?_)
      · refine q_iconst (M := md_X10_busy) (pc := 90) dX10_busy_90 ?_
        exact e_iret (M := md_X10_busy) (pc := 91) h rfl dX10_busy_91
      · refine q_iconst (M := md_X10_busy) (pc := 86) dX10_busy_86 ?_
        refine q_goto (M := md_X10_busy) (pc := 87) (tgt := 91) dX10_busy_87 (by decide) ?_
        exact e_iret (M := md_X10_busy) (pc := 91) h rfl dX10_busy_91
    rw [if_neg c12] at h
    by_cases c17 : q_w l2 = 4
    · rw [if_pos c17] at h
      refine q_tabIn (M := md_X10_busy) (pc := 13) (tgt := 92) dX10_busy_13 (by rw [c17] <;> decide) (by rw [c17] <;> decide) (by rw [c17] <;> rfl) (by decide) ?_
      refine q_aload_n (M := md_X10_busy) (pc := 92) dX10_busy_92 rfl (by decide) ?_
      refine q_iload_n (M := md_X10_busy) (pc := 93) dX10_busy_93 rfl ?_
      refine e_callVi (M := md_X10_busy) (pc := 94) (d' := 7) (av := [q_I l1]) (c := 0) h ml_10_234 im_X10_wrongWithout se_X10_wrongWithout dX10_busy_94 (fun v he => ok_X10_wrongWithout hN  he) rfl (is_0 hN) ⟨_, _, rfl⟩ (by decide) (Nat.le_of_ble_eq_true rfl) ⟨by decide, by decide⟩ rfl (fun v18 m19 h => ?_)
      exact e_iret (M := md_X10_busy) (pc := 97) h rfl dX10_busy_97
    rw [if_neg c17] at h
    refine q_tabOut (M := md_X10_busy) (pc := 13) (tgt := 98) dX10_busy_13 (by omega) (by decide) ?_
    refine q_sipush (M := md_X10_busy) (pc := 98) (x := -1000) dX10_busy_98 (by decide) ?_
    exact e_iret (M := md_X10_busy) (pc := 101) h rfl dX10_busy_101
  · refine q_sipush (M := md_X10_busy) (pc := 8) (x := -1000) dX10_busy_8 (by decide) ?_
    exact e_iret (M := md_X10_busy) (pc := 11) h rfl dX10_busy_11
def f_PG_plan (l1 : Int) (m : q_Mem) : q_Res :=
  q_bd (f_PG_current m) fun v1 m2 => q_one q_Ly v1 <|
  q_lt (m2 0 1) fun v3 => q_one q_Lp v3 <|
  q_bd (f_Loop_clashes v3 (m2 v1 0) (m2 v1 1) (m2 v1 2) (m2 v1 3) m2) fun v4 m5 =>
  if q_w l1 = 0 then (q_lt (m5 0 1) fun v7 => q_one q_Lp v7 <|
  q_bd (f_Loop_isLawful v7 (m5 v1 0) (m5 v1 1) m5) fun v8 m9 =>
  if q_w v8 = 0 then (q_rt 0 m9)
  else (q_rt 1 m9))
  else if q_w l1 = 1 then (q_rt (m5 60 9) m5)
  else if q_w l1 = 2 then (q_rt (m5 60 10) m5)
  else if q_w l1 = 3 then (q_rt v4 m5)
  else if q_w l1 = 4 then (q_lt (m5 0 1) fun v14 => q_one q_Lp v14 <|
  q_bd (f_Loop_points v14 m5) fun v15 m16 =>
  q_rt (((m5 60 9) * (m5 60 10)) - (v15 - v4)) m16)
  else if q_w l1 = 5 then (q_rt ((m5 53 7) + 1) m5)
  else if q_w l1 = 6 then (q_lt (m5 0 1) fun v19 => q_one q_Lp v19 <|
  q_bd (f_Loop_points v19 m5) fun v20 m21 =>
  q_rt (v20 - (m21 53 6)) m21)
  else (q_rt (-1) m5)
set_option maxRecDepth 20000 in
theorem ok_X10_plan {l1 : Int} {r : Int × q_Mem} {m : q_Mem} {N : Nat} (hN : 81 ≤ N) (h : f_PG_plan l1 m = some r) : q_C md_X10_plan (q_room 3) 0 0 [q_A 0, q_I l1] (q_g N) m (some (q_I r.1), q_g N, r.2) := by
  refine q_ofR (by decide) 2 (ls := [q_A 0, q_I l1, q_N, q_N]) rfl (Nat.le_of_ble_eq_true rfl) ?_
  change q_E md_X10_plan 3 N (some 0) r m 0 [q_A 0, q_I l1, q_N, q_N] []
  unfold f_PG_plan at h
  refine q_aload_n (M := md_X10_plan) (pc := 0) dX10_plan_0 rfl (by decide) ?_
  refine e_callVr (M := md_X10_plan) (pc := 1) (d' := 1) (av := []) (c := 0) h ml_10_170 im_X10_current se_X10_current dX10_plan_1 (fun v he => ok_X10_current hN  he) rfl (is_0 hN) ⟨_, _, rfl⟩ (by decide) (Nat.le_of_ble_eq_true rfl) ⟨by decide, by decide⟩ rfl (fun v1 m2 h => ?_)
  obtain ⟨hv1, h⟩ := e_one h
  refine e_ast_n (M := md_X10_plan) (pc := 4) (ls' := [q_A 0, q_I l1, q_A v1, q_N]) dX10_plan_4 (nn_Ly hv1) (by decide) (q_pl rfl) rfl ?_
  refine q_aload_n (M := md_X10_plan) (pc := 5) dX10_plan_5 rfl (by decide) ?_
  refine e_gR (M := md_X10_plan) (pc := 6) h fl_10_19 dX10_plan_6 (is_0 hN) rfl (fun v3 hv3 h => ?_)
  refine q_aload_n (M := md_X10_plan) (pc := 9) dX10_plan_9 rfl (nn_Ly hv1) ?_
  refine e_gI (M := md_X10_plan) (pc := 10) (v := m2 v1 0) fl_10_135 dX10_plan_10 (is_Ly hN hv1) rfl ?_
  refine q_aload_n (M := md_X10_plan) (pc := 13) dX10_plan_13 rfl (nn_Ly hv1) ?_
  refine e_gI (M := md_X10_plan) (pc := 14) (v := m2 v1 1) fl_10_138 dX10_plan_14 (is_Ly hN hv1) rfl ?_
  refine q_aload_n (M := md_X10_plan) (pc := 17) dX10_plan_17 rfl (nn_Ly hv1) ?_
  refine e_gI (M := md_X10_plan) (pc := 18) (v := m2 v1 2) fl_10_150 dX10_plan_18 (is_Ly hN hv1) rfl ?_
  refine q_aload_n (M := md_X10_plan) (pc := 21) dX10_plan_21 rfl (nn_Ly hv1) ?_
  refine e_gI (M := md_X10_plan) (pc := 22) (v := m2 v1 3) fl_10_153 dX10_plan_22 (is_Ly hN hv1) rfl ?_
  refine e_callVi (M := md_X10_plan) (pc := 25) (d' := 2) (av := [q_I (m2 v1 0), q_I (m2 v1 1), q_I (m2 v1 2), q_I (m2 v1 3)]) (c := v3) h ml_10_237 im_X2_clashes se_X2_clashes dX10_plan_25 (fun v he => ok_X2_clashes hN hv3 he) rfl (is_Lp hN hv3) ⟨_, _, rfl⟩ (by decide) (Nat.le_of_ble_eq_true rfl) ⟨by decide, by decide⟩ rfl (fun v4 m5 h => ?_)
  refine e_ist_n (M := md_X10_plan) (pc := 28) (ls' := [q_A 0, q_I l1, q_A v1, q_I v4]) dX10_plan_28 (by decide) (q_pl rfl) rfl ?_
  refine q_iload_n (M := md_X10_plan) (pc := 29) dX10_plan_29 rfl ?_
  by_cases c6 : q_w l1 = 0
  · rw [if_pos c6] at h
    refine q_tabIn (M := md_X10_plan) (pc := 30) (tgt := 72) dX10_plan_30 (by rw [c6] <;> decide) (by rw [c6] <;> decide) (by rw [c6] <;> rfl) (by decide) ?_
    refine q_aload_n (M := md_X10_plan) (pc := 72) dX10_plan_72 rfl (by decide) ?_
    refine e_gR (M := md_X10_plan) (pc := 73) h fl_10_19 dX10_plan_73 (is_0 hN) rfl (fun v7 hv7 h => ?_)
    refine q_aload_n (M := md_X10_plan) (pc := 76) dX10_plan_76 rfl (nn_Ly hv1) ?_
    refine e_gI (M := md_X10_plan) (pc := 77) (v := m5 v1 0) fl_10_135 dX10_plan_77 (is_Ly hN hv1) rfl ?_
    refine q_aload_n (M := md_X10_plan) (pc := 80) dX10_plan_80 rfl (nn_Ly hv1) ?_
    refine e_gI (M := md_X10_plan) (pc := 81) (v := m5 v1 1) fl_10_138 dX10_plan_81 (is_Ly hN hv1) rfl ?_
    refine e_callVi (M := md_X10_plan) (pc := 84) (d' := 1) (av := [q_I (m5 v1 0), q_I (m5 v1 1)]) (c := v7) h ml_10_144 im_X2_isLawful se_X2_isLawful dX10_plan_84 (fun v he => ok_X2_isLawful hN hv7 he) rfl (is_Lp hN hv7) ⟨_, _, rfl⟩ (by decide) (Nat.le_of_ble_eq_true rfl) ⟨by decide, by decide⟩ rfl (fun v8 m9 h => ?_)
    refine e_if_eq (M := md_X10_plan) (pc := 87) (tgt := 94) h rfl dX10_plan_87 (by decide) (fun h => ?_) (fun h => ?_)
    · refine q_iconst (M := md_X10_plan) (pc := 94) dX10_plan_94 ?_
      exact e_iret (M := md_X10_plan) (pc := 95) h rfl dX10_plan_95
    · refine q_iconst (M := md_X10_plan) (pc := 90) dX10_plan_90 ?_
      refine q_goto (M := md_X10_plan) (pc := 91) (tgt := 95) dX10_plan_91 (by decide) ?_
      exact e_iret (M := md_X10_plan) (pc := 95) h rfl dX10_plan_95
  rw [if_neg c6] at h
  by_cases c10 : q_w l1 = 1
  · rw [if_pos c10] at h
    refine q_tabIn (M := md_X10_plan) (pc := 30) (tgt := 96) dX10_plan_30 (by rw [c10] <;> decide) (by rw [c10] <;> decide) (by rw [c10] <;> rfl) (by decide) ?_
    refine q_aload_n (M := md_X10_plan) (pc := 96) dX10_plan_96 rfl (by decide) ?_
    refine q_getP (M := md_X10_plan) (pc := 97) (v := 60) fl_10_62 dX10_plan_97 (is_0 hN) rfl ?_
    refine e_gI (M := md_X10_plan) (pc := 100) (v := m5 60 9) fl_10_219 dX10_plan_100 (is_60 hN) rfl ?_
    exact e_iret (M := md_X10_plan) (pc := 103) h rfl dX10_plan_103
  rw [if_neg c10] at h
  by_cases c11 : q_w l1 = 2
  · rw [if_pos c11] at h
    refine q_tabIn (M := md_X10_plan) (pc := 30) (tgt := 104) dX10_plan_30 (by rw [c11] <;> decide) (by rw [c11] <;> decide) (by rw [c11] <;> rfl) (by decide) ?_
    refine q_aload_n (M := md_X10_plan) (pc := 104) dX10_plan_104 rfl (by decide) ?_
    refine q_getP (M := md_X10_plan) (pc := 105) (v := 60) fl_10_62 dX10_plan_105 (is_0 hN) rfl ?_
    refine e_gI (M := md_X10_plan) (pc := 108) (v := m5 60 10) fl_10_160 dX10_plan_108 (is_60 hN) rfl ?_
    exact e_iret (M := md_X10_plan) (pc := 111) h rfl dX10_plan_111
  rw [if_neg c11] at h
  by_cases c12 : q_w l1 = 3
  · rw [if_pos c12] at h
    refine q_tabIn (M := md_X10_plan) (pc := 30) (tgt := 112) dX10_plan_30 (by rw [c12] <;> decide) (by rw [c12] <;> decide) (by rw [c12] <;> rfl) (by decide) ?_
    refine q_iload_n (M := md_X10_plan) (pc := 112) dX10_plan_112 rfl ?_
    exact e_iret (M := md_X10_plan) (pc := 113) h rfl dX10_plan_113
  rw [if_neg c12] at h
  by_cases c13 : q_w l1 = 4
  · rw [if_pos c13] at h
    refine q_tabIn (M := md_X10_plan) (pc := 30) (tgt := 114) dX10_plan_30 (by rw [c13] <;> decide) (by rw [c13] <;> decide) (by rw [c13] <;> rfl) (by decide) ?_
    refine q_aload_n (M := md_X10_plan) (pc := 114) dX10_plan_114 rfl (by decide) ?_
    refine q_getP (M := md_X10_plan) (pc := 115) (v := 60) fl_10_62 dX10_plan_115 (is_0 hN) rfl ?_
    refine e_gI (M := md_X10_plan) (pc := 118) (v := m5 60 9) fl_10_219 dX10_plan_118 (is_60 hN) rfl ?_
    refine q_aload_n (M := md_X10_plan) (pc := 121) dX10_plan_121 rfl (by decide) ?_
    refine q_getP (M := md_X10_plan) (pc := 122) (v := 60) fl_10_62 dX10_plan_122 (is_0 hN) rfl ?_
    refine e_gI (M := md_X10_plan) (pc := 125) (v := m5 60 10) fl_10_160 dX10_plan_125 (is_60 hN) rfl ?_
    refine q_imul (M := md_X10_plan) (pc := 128) dX10_plan_128 ?_
    refine q_aload_n (M := md_X10_plan) (pc := 129) dX10_plan_129 rfl (by decide) ?_
    refine e_gR (M := md_X10_plan) (pc := 130) h fl_10_19 dX10_plan_130 (is_0 hN) rfl (fun v14 hv14 h => ?_)
    refine e_callVi (M := md_X10_plan) (pc := 133) (d' := 1) (av := []) (c := v14) h ml_10_211 im_X2_points se_X2_points dX10_plan_133 (fun v he => ok_X2_points hN hv14 he) rfl (is_Lp hN hv14) ⟨_, _, rfl⟩ (by decide) (Nat.le_of_ble_eq_true rfl) ⟨by decide, by decide⟩ rfl (fun v15 m16 h => ?_)
    refine q_iload_n (M := md_X10_plan) (pc := 136) dX10_plan_136 rfl ?_
    refine q_isub (M := md_X10_plan) (pc := 137) dX10_plan_137 ?_
    refine q_isub (M := md_X10_plan) (pc := 138) dX10_plan_138 ?_
    exact e_iret (M := md_X10_plan) (pc := 139) h rfl dX10_plan_139
  rw [if_neg c13] at h
  by_cases c17 : q_w l1 = 5
  · rw [if_pos c17] at h
    refine q_tabIn (M := md_X10_plan) (pc := 30) (tgt := 140) dX10_plan_30 (by rw [c17] <;> decide) (by rw [c17] <;> decide) (by rw [c17] <;> rfl) (by decide) ?_
    refine q_aload_n (M := md_X10_plan) (pc := 140) dX10_plan_140 rfl (by decide) ?_
    refine q_getP (M := md_X10_plan) (pc := 141) (v := 53) fl_10_55 dX10_plan_141 (is_0 hN) rfl ?_
    refine e_gI (M := md_X10_plan) (pc := 144) (v := m5 53 7) fl_10_241 dX10_plan_144 (is_53 hN) rfl ?_
    refine q_iconst (M := md_X10_plan) (pc := 147) dX10_plan_147 ?_
    refine q_iadd (M := md_X10_plan) (pc := 148) dX10_plan_148 ?_
    exact e_iret (M := md_X10_plan) (pc := 149) h rfl dX10_plan_149
  rw [if_neg c17] at h
  by_cases c18 : q_w l1 = 6
  · rw [if_pos c18] at h
    refine q_tabIn (M := md_X10_plan) (pc := 30) (tgt := 150) dX10_plan_30 (by rw [c18] <;> decide) (by rw [c18] <;> decide) (by rw [c18] <;> rfl) (by decide) ?_
    refine q_aload_n (M := md_X10_plan) (pc := 150) dX10_plan_150 rfl (by decide) ?_
    refine e_gR (M := md_X10_plan) (pc := 151) h fl_10_19 dX10_plan_151 (is_0 hN) rfl (fun v19 hv19 h => ?_)
    refine e_callVi (M := md_X10_plan) (pc := 154) (d' := 1) (av := []) (c := v19) h ml_10_211 im_X2_points se_X2_points dX10_plan_154 (fun v he => ok_X2_points hN hv19 he) rfl (is_Lp hN hv19) ⟨_, _, rfl⟩ (by decide) (Nat.le_of_ble_eq_true rfl) ⟨by decide, by decide⟩ rfl (fun v20 m21 h => ?_)
    refine q_aload_n (M := md_X10_plan) (pc := 157) dX10_plan_157 rfl (by decide) ?_
    refine q_getP (M := md_X10_plan) (pc := 158) (v := 53) fl_10_55 dX10_plan_158 (is_0 hN) rfl ?_
    refine e_gI (M := md_X10_plan) (pc := 161) (v := m21 53 6) fl_10_244 dX10_plan_161 (is_53 hN) rfl ?_
    refine q_isub (M := md_X10_plan) (pc := 164) dX10_plan_164 ?_
    exact e_iret (M := md_X10_plan) (pc := 165) h rfl dX10_plan_165
  rw [if_neg c18] at h
  refine q_tabOut (M := md_X10_plan) (pc := 30) (tgt := 166) dX10_plan_30 (by omega) (by decide) ?_
  refine q_iconst (M := md_X10_plan) (pc := 166) dX10_plan_166 ?_
  exact e_iret (M := md_X10_plan) (pc := 167) h rfl dX10_plan_167
def f_PG_offset (l1 l2 : Int) (m : q_Mem) : q_Res :=
  if q_w l1 < 0 then (q_rt (-1000) m)
  else (q_lt (m 0 1) fun v1 => q_one q_Lp v1 <|
  if q_w l1 < q_w (m v1 5) then (q_bd (f_PG_current m) fun v2 m3 => q_one q_Ly v2 <|
  q_lt (m3 0 1) fun v4 => q_one q_Lp v4 <|
  q_rd m3 (v4 + 2) 12 l1 fun v5 =>
  q_lt (m3 0 1) fun v6 => q_one q_Lp v6 <|
  q_rd m3 (v6 + 3) 12 l1 fun v7 =>
  q_lt (m3 0 1) fun v8 => q_one q_Lp v8 <|
  q_bd (f_Loop_shifted v8 v5 v7 m3) fun v9 m10 =>
  if q_w l2 = 0 then (q_rt v5 m10)
  else if q_w l2 = 1 then (q_rt v7 m10)
  else if q_w l2 = 2 then (q_rt v9 m10)
  else if q_w l2 = 3 then (q_rt (((m10 v2 3) * v5) - ((m10 v2 2) * v7)) m10)
  else if q_w l2 = 4 then (q_rt (-(((m10 v2 0) * v5) + ((m10 v2 1) * v7))) m10)
  else if q_w l2 = 5 then (if 0 ≤ q_w (-(((m10 v2 0) * v5) + ((m10 v2 1) * v7))) then (q_rt (v9 * (-(((m10 v2 0) * v5) + ((m10 v2 1) * v7)))) m10)
  else (q_rt 0 m10))
  else (q_rt (-1000) m10))
  else (q_rt (-1000) m))
set_option maxRecDepth 20000 in
theorem ok_X10_offset {l1 l2 : Int} {r : Int × q_Mem} {m : q_Mem} {N : Nat} (hN : 81 ≤ N) (h : f_PG_offset l1 l2 m = some r) : q_C md_X10_offset (q_room 2) 0 0 [q_A 0, q_I l1, q_I l2] (q_g N) m (some (q_I r.1), q_g N, r.2) := by
  refine q_ofR (by decide) 5 (ls := [q_A 0, q_I l1, q_I l2, q_N, q_N, q_N, q_N, q_N]) rfl (Nat.le_of_ble_eq_true rfl) ?_
  change q_E md_X10_offset 2 N (some 0) r m 0 [q_A 0, q_I l1, q_I l2, q_N, q_N, q_N, q_N, q_N] []
  unfold f_PG_offset at h
  refine q_iload_n (M := md_X10_offset) (pc := 0) dX10_offset_0 rfl ?_
  refine e_if_lt (M := md_X10_offset) (pc := 1) (tgt := 15) h rfl dX10_offset_1 (by decide) (fun h => ?_) (fun h => ?_)
  · refine q_sipush (M := md_X10_offset) (pc := 15) (x := -1000) dX10_offset_15 (by decide) ?_
    exact e_iret (M := md_X10_offset) (pc := 18) h rfl dX10_offset_18
  · refine q_iload_n (M := md_X10_offset) (pc := 4) dX10_offset_4 rfl ?_
    refine q_aload_n (M := md_X10_offset) (pc := 5) dX10_offset_5 rfl (by decide) ?_
    refine e_gR (M := md_X10_offset) (pc := 6) h fl_10_19 dX10_offset_6 (is_0 hN) rfl (fun v1 hv1 h => ?_)
    refine e_gI (M := md_X10_offset) (pc := 9) (v := m v1 5) fl_10_247 dX10_offset_9 (is_Lp hN hv1) rfl ?_
    refine e_icmp_lt (M := md_X10_offset) (pc := 12) (tgt := 19) h rfl rfl dX10_offset_12 (by decide) (fun h => ?_) (fun h => ?_)
    · refine q_aload_n (M := md_X10_offset) (pc := 19) dX10_offset_19 rfl (by decide) ?_
      refine e_callVr (M := md_X10_offset) (pc := 20) (d' := 1) (av := []) (c := 0) h ml_10_170 im_X10_current se_X10_current dX10_offset_20 (fun v he => ok_X10_current hN  he) rfl (is_0 hN) ⟨_, _, rfl⟩ (by decide) (Nat.le_of_ble_eq_true rfl) ⟨by decide, by decide⟩ rfl (fun v2 m3 h => ?_)
      obtain ⟨hv2, h⟩ := e_one h
      refine e_ast_n (M := md_X10_offset) (pc := 23) (ls' := [q_A 0, q_I l1, q_I l2, q_A v2, q_N, q_N, q_N, q_N]) dX10_offset_23 (nn_Ly hv2) (by decide) (q_pl rfl) rfl ?_
      refine q_aload_n (M := md_X10_offset) (pc := 24) dX10_offset_24 rfl (by decide) ?_
      refine e_gR (M := md_X10_offset) (pc := 25) h fl_10_19 dX10_offset_25 (is_0 hN) rfl (fun v4 hv4 h => ?_)
      refine q_getP (M := md_X10_offset) (pc := 28) (v := v4 + 2) fl_10_250 dX10_offset_28 (is_Lp hN hv4) (ph_Lp_9 hv4) ?_
      refine q_iload_n (M := md_X10_offset) (pc := 31) dX10_offset_31 rfl ?_
      refine e_rd (M := md_X10_offset) (pc := 32) h dX10_offset_32 (ar_Lp_9 hN hv4) (fun v5 h => ?_)
      refine e_ist (M := md_X10_offset) (pc := 33) (ls' := [q_A 0, q_I l1, q_I l2, q_A v2, q_I v5, q_N, q_N, q_N]) dX10_offset_33 (by decide) (q_pl rfl) rfl ?_
      refine q_aload_n (M := md_X10_offset) (pc := 35) dX10_offset_35 rfl (by decide) ?_
      refine e_gR (M := md_X10_offset) (pc := 36) h fl_10_19 dX10_offset_36 (is_0 hN) rfl (fun v6 hv6 h => ?_)
      refine q_getP (M := md_X10_offset) (pc := 39) (v := v6 + 3) fl_10_253 dX10_offset_39 (is_Lp hN hv6) (ph_Lp_10 hv6) ?_
      refine q_iload_n (M := md_X10_offset) (pc := 42) dX10_offset_42 rfl ?_
      refine e_rd (M := md_X10_offset) (pc := 43) h dX10_offset_43 (ar_Lp_10 hN hv6) (fun v7 h => ?_)
      refine e_ist (M := md_X10_offset) (pc := 44) (ls' := [q_A 0, q_I l1, q_I l2, q_A v2, q_I v5, q_I v7, q_N, q_N]) dX10_offset_44 (by decide) (q_pl rfl) rfl ?_
      refine q_aload_n (M := md_X10_offset) (pc := 46) dX10_offset_46 rfl (by decide) ?_
      refine e_gR (M := md_X10_offset) (pc := 47) h fl_10_19 dX10_offset_47 (is_0 hN) rfl (fun v8 hv8 h => ?_)
      refine q_iload (M := md_X10_offset) (pc := 50) dX10_offset_50 rfl ?_
      refine q_iload (M := md_X10_offset) (pc := 52) dX10_offset_52 rfl ?_
      refine e_callVi (M := md_X10_offset) (pc := 54) (d' := 1) (av := [q_I v5, q_I v7]) (c := v8) h ml_10_256 im_X2_shifted se_X2_shifted dX10_offset_54 (fun v he => ok_X2_shifted hN hv8 he) rfl (is_Lp hN hv8) ⟨_, _, rfl⟩ (by decide) (Nat.le_of_ble_eq_true rfl) ⟨by decide, by decide⟩ rfl (fun v9 m10 h => ?_)
      refine e_ist (M := md_X10_offset) (pc := 57) (ls' := [q_A 0, q_I l1, q_I l2, q_A v2, q_I v5, q_I v7, q_I v9, q_N]) dX10_offset_57 (by decide) (q_pl rfl) rfl ?_
      refine q_aload_n (M := md_X10_offset) (pc := 59) dX10_offset_59 rfl (nn_Ly hv2) ?_
      refine e_gI (M := md_X10_offset) (pc := 60) (v := m10 v2 0) fl_10_135 dX10_offset_60 (is_Ly hN hv2) rfl ?_
      refine q_iload (M := md_X10_offset) (pc := 63) dX10_offset_63 rfl ?_
      refine q_imul (M := md_X10_offset) (pc := 65) dX10_offset_65 ?_
      refine q_aload_n (M := md_X10_offset) (pc := 66) dX10_offset_66 rfl (nn_Ly hv2) ?_
      refine e_gI (M := md_X10_offset) (pc := 67) (v := m10 v2 1) fl_10_138 dX10_offset_67 (is_Ly hN hv2) rfl ?_
      refine q_iload (M := md_X10_offset) (pc := 70) dX10_offset_70 rfl ?_
      refine q_imul (M := md_X10_offset) (pc := 72) dX10_offset_72 ?_
      refine q_iadd (M := md_X10_offset) (pc := 73) dX10_offset_73 ?_
      refine q_ineg (M := md_X10_offset) (pc := 74) dX10_offset_74 ?_
      refine e_ist (M := md_X10_offset) (pc := 75) (ls' := [q_A 0, q_I l1, q_I l2, q_A v2, q_I v5, q_I v7, q_I v9, q_I (-(((m10 v2 0) * v5) + ((m10 v2 1) * v7)))]) dX10_offset_75 (by decide) (q_pl rfl) rfl ?_
      refine q_iload_n (M := md_X10_offset) (pc := 77) dX10_offset_77 rfl ?_
      by_cases c11 : q_w l2 = 0
      · rw [if_pos c11] at h
        refine q_tabIn (M := md_X10_offset) (pc := 78) (tgt := 116) dX10_offset_78 (by rw [c11] <;> decide) (by rw [c11] <;> decide) (by rw [c11] <;> rfl) (by decide) ?_
        refine q_iload (M := md_X10_offset) (pc := 116) dX10_offset_116 rfl ?_
        exact e_iret (M := md_X10_offset) (pc := 118) h rfl dX10_offset_118
      rw [if_neg c11] at h
      by_cases c12 : q_w l2 = 1
      · rw [if_pos c12] at h
        refine q_tabIn (M := md_X10_offset) (pc := 78) (tgt := 119) dX10_offset_78 (by rw [c12] <;> decide) (by rw [c12] <;> decide) (by rw [c12] <;> rfl) (by decide) ?_
        refine q_iload (M := md_X10_offset) (pc := 119) dX10_offset_119 rfl ?_
        exact e_iret (M := md_X10_offset) (pc := 121) h rfl dX10_offset_121
      rw [if_neg c12] at h
      by_cases c13 : q_w l2 = 2
      · rw [if_pos c13] at h
        refine q_tabIn (M := md_X10_offset) (pc := 78) (tgt := 122) dX10_offset_78 (by rw [c13] <;> decide) (by rw [c13] <;> decide) (by rw [c13] <;> rfl) (by decide) ?_
        refine q_iload (M := md_X10_offset) (pc := 122) dX10_offset_122 rfl ?_
        exact e_iret (M := md_X10_offset) (pc := 124) h rfl dX10_offset_124
      rw [if_neg c13] at h
      by_cases c14 : q_w l2 = 3
      · rw [if_pos c14] at h
        refine q_tabIn (M := md_X10_offset) (pc := 78) (tgt := 125) dX10_offset_78 (by rw [c14] <;> decide) (by rw [c14] <;> decide) (by rw [c14] <;> rfl) (by decide) ?_
        refine q_aload_n (M := md_X10_offset) (pc := 125) dX10_offset_125 rfl (nn_Ly hv2) ?_
        refine e_gI (M := md_X10_offset) (pc := 126) (v := m10 v2 3) fl_10_153 dX10_offset_126 (is_Ly hN hv2) rfl ?_
        refine q_iload (M := md_X10_offset) (pc := 129) dX10_offset_129 rfl ?_
        refine q_imul (M := md_X10_offset) (pc := 131) dX10_offset_131 ?_
        refine q_aload_n (M := md_X10_offset) (pc := 132) dX10_offset_132 rfl (nn_Ly hv2) ?_
        refine e_gI (M := md_X10_offset) (pc := 133) (v := m10 v2 2) fl_10_150 dX10_offset_133 (is_Ly hN hv2) rfl ?_
        refine q_iload (M := md_X10_offset) (pc := 136) dX10_offset_136 rfl ?_
        refine q_imul (M := md_X10_offset) (pc := 138) dX10_offset_138 ?_
        refine q_isub (M := md_X10_offset) (pc := 139) dX10_offset_139 ?_
        exact e_iret (M := md_X10_offset) (pc := 140) h rfl dX10_offset_140
      rw [if_neg c14] at h
      by_cases c15 : q_w l2 = 4
      · rw [if_pos c15] at h
        refine q_tabIn (M := md_X10_offset) (pc := 78) (tgt := 141) dX10_offset_78 (by rw [c15] <;> decide) (by rw [c15] <;> decide) (by rw [c15] <;> rfl) (by decide) ?_
        refine q_iload (M := md_X10_offset) (pc := 141) dX10_offset_141 rfl ?_
        exact e_iret (M := md_X10_offset) (pc := 143) h rfl dX10_offset_143
      rw [if_neg c15] at h
      by_cases c16 : q_w l2 = 5
      · rw [if_pos c16] at h
        refine q_tabIn (M := md_X10_offset) (pc := 78) (tgt := 144) dX10_offset_78 (by rw [c16] <;> decide) (by rw [c16] <;> decide) (by rw [c16] <;> rfl) (by decide) ?_
        refine q_iload (M := md_X10_offset) (pc := 144) dX10_offset_144 rfl ?_
        refine e_if_ge (M := md_X10_offset) (pc := 146) (tgt := 153) h rfl dX10_offset_146 (by decide) (fun h => ?_) (fun h => ?_)
        · refine q_iload (M := md_X10_offset) (pc := 153) dX10_offset_153 rfl ?_
          refine q_iload (M := md_X10_offset) (pc := 155) dX10_offset_155 rfl ?_
          refine q_imul (M := md_X10_offset) (pc := 157) dX10_offset_157 ?_
          exact e_iret (M := md_X10_offset) (pc := 158) h rfl dX10_offset_158
        · refine q_iconst (M := md_X10_offset) (pc := 149) dX10_offset_149 ?_
          refine q_goto (M := md_X10_offset) (pc := 150) (tgt := 158) dX10_offset_150 (by decide) ?_
          exact e_iret (M := md_X10_offset) (pc := 158) h rfl dX10_offset_158
      rw [if_neg c16] at h
      refine q_tabOut (M := md_X10_offset) (pc := 78) (tgt := 159) dX10_offset_78 (by omega) (by decide) ?_
      refine q_sipush (M := md_X10_offset) (pc := 159) (x := -1000) dX10_offset_159 (by decide) ?_
      exact e_iret (M := md_X10_offset) (pc := 162) h rfl dX10_offset_162
    · refine q_sipush (M := md_X10_offset) (pc := 15) (x := -1000) dX10_offset_15 (by decide) ?_
      exact e_iret (M := md_X10_offset) (pc := 18) h rfl dX10_offset_18
def f_PG_flow_b107 (k20 : Int → Int → Int → Int → q_Mem → q_Res) (l1 l2 l3 l4 : Int) (m : q_Mem) : q_Res :=
  k20 l1 l2 l3 (l4 + 1) m
set_option maxRecDepth 20000 in
theorem w_PG_flow_b107 {k20 : Int → Int → Int → Int → q_Mem → q_Res} {l1 l2 l3 l4 : Int} {r : Int × q_Mem} {m : q_Mem} {N : Nat} (hN : 81 ≤ N) (hk20 : ∀ (l1 l2 l3 l4 : Int) (m : q_Mem), k20 l1 l2 l3 l4 m = some r → q_E md_X10_flow 4 N (some 0) r m 20 [q_A 0, q_I l1, q_I l2, q_I l3, q_I l4, q_N] []) (h : f_PG_flow_b107 k20 l1 l2 l3 l4 m = some r) : q_E md_X10_flow 4 N (some 0) r m 107 [q_A 0, q_I l1, q_I l2, q_I l3, q_I l4, q_N] [] := by
  unfold f_PG_flow_b107 at h
  refine e_inc (M := md_X10_flow) (pc := 107) (x := l4) (ls' := [q_A 0, q_I l1, q_I l2, q_I l3, q_I (l4 + 1), q_N]) dX10_flow_107 rfl (by decide) (q_pl rfl) rfl ?_
  refine q_goto (M := md_X10_flow) (pc := 110) (tgt := 20) dX10_flow_110 (by decide) ?_
  exact q_weak (hk20 _ _ _ _ _  h) ⟨Or.inr rfl, Or.inr rfl, Or.inr rfl, Or.inr rfl, Or.inr rfl, Or.inl rfl, trivial⟩
def f_PG_flow_b20 (k20 : Int → Int → Int → Int → q_Mem → q_Res) (l1 l2 l3 l4 : Int) (m : q_Mem) : q_Res :=
  q_lt (m 0 1) fun v1 => q_one q_Lp v1 <|
  q_bd (f_Loop_points v1 m) fun v2 m3 =>
  if q_w v2 ≤ q_w l4 then (q_rt l3 m3)
  else (q_lt (m3 0 1) fun v4 => q_one q_Lp v4 <|
  q_bd (f_Loop_pointAt v4 l4 m3) fun v5 m6 =>
  q_rd m6 61 100 v5 fun v7 =>
  if q_w v7 = q_w l1 then (q_rd m6 63 100 v5 fun v8 =>
  if q_w v8 = 0 then (if q_w l2 = 0 then (q_lt (m6 0 1) fun v12 => q_one q_Lp v12 <|
  q_bd (f_Loop_edgeReads v12 v5 m6) fun v13 m14 =>
  f_PG_flow_b107 k20 l1 l2 (l3 + v13) l4 m14)
  else (q_lt (m6 0 1) fun v9 => q_one q_Lp v9 <|
  q_bd (f_Loop_readersOf v9 v5 m6) fun v10 m11 =>
  if q_w v10 = 0 then (f_PG_flow_b107 k20 l1 l2 (l3 + 1) l4 m11)
  else (f_PG_flow_b107 k20 l1 l2 l3 l4 m11)))
  else (f_PG_flow_b107 k20 l1 l2 l3 l4 m6))
  else (f_PG_flow_b107 k20 l1 l2 l3 l4 m6))
set_option maxRecDepth 20000 in
theorem w_PG_flow_b20 {k20 : Int → Int → Int → Int → q_Mem → q_Res} {l1 l2 l3 l4 : Int} {r : Int × q_Mem} {m : q_Mem} {N : Nat} (hN : 81 ≤ N) (hk20 : ∀ (l1 l2 l3 l4 : Int) (m : q_Mem), k20 l1 l2 l3 l4 m = some r → q_E md_X10_flow 4 N (some 0) r m 20 [q_A 0, q_I l1, q_I l2, q_I l3, q_I l4, q_N] []) (h : f_PG_flow_b20 k20 l1 l2 l3 l4 m = some r) : q_E md_X10_flow 4 N (some 0) r m 20 [q_A 0, q_I l1, q_I l2, q_I l3, q_I l4, q_N] [] := by
  unfold f_PG_flow_b20 at h
  refine q_iload (M := md_X10_flow) (pc := 20) dX10_flow_20 rfl ?_
  refine q_aload_n (M := md_X10_flow) (pc := 22) dX10_flow_22 rfl (by decide) ?_
  refine e_gR (M := md_X10_flow) (pc := 23) h fl_10_19 dX10_flow_23 (is_0 hN) rfl (fun v1 hv1 h => ?_)
  refine e_callVi (M := md_X10_flow) (pc := 26) (d' := 1) (av := []) (c := v1) h ml_10_211 im_X2_points se_X2_points dX10_flow_26 (fun v he => ok_X2_points hN hv1 he) rfl (is_Lp hN hv1) ⟨_, _, rfl⟩ (by decide) (Nat.le_of_ble_eq_true rfl) ⟨by decide, by decide⟩ rfl (fun v2 m3 h => ?_)
  refine e_icmp_ge (M := md_X10_flow) (pc := 29) (tgt := 113) h rfl rfl dX10_flow_29 (by decide) (fun h => ?_) (fun h => ?_)
  · refine q_iload_n (M := md_X10_flow) (pc := 113) dX10_flow_113 rfl ?_
    exact e_iret (M := md_X10_flow) (pc := 114) h rfl dX10_flow_114
  · refine q_aload_n (M := md_X10_flow) (pc := 32) dX10_flow_32 rfl (by decide) ?_
    refine e_gR (M := md_X10_flow) (pc := 33) h fl_10_19 dX10_flow_33 (is_0 hN) rfl (fun v4 hv4 h => ?_)
    refine q_iload (M := md_X10_flow) (pc := 36) dX10_flow_36 rfl ?_
    refine e_callVi (M := md_X10_flow) (pc := 38) (d' := 1) (av := [q_I l4]) (c := v4) h ml_10_215 im_X2_pointAt se_X2_pointAt dX10_flow_38 (fun v he => ok_X2_pointAt hN hv4 he) rfl (is_Lp hN hv4) ⟨_, _, rfl⟩ (by decide) (Nat.le_of_ble_eq_true rfl) ⟨by decide, by decide⟩ rfl (fun v5 m6 h => ?_)
    refine e_ist (M := md_X10_flow) (pc := 41) (ls' := [q_A 0, q_I l1, q_I l2, q_I l3, q_I l4, q_I v5]) dX10_flow_41 (by decide) (q_pl rfl) rfl ?_
    refine q_aload_n (M := md_X10_flow) (pc := 43) dX10_flow_43 rfl (by decide) ?_
    refine q_getP (M := md_X10_flow) (pc := 44) (v := 60) fl_10_62 dX10_flow_44 (is_0 hN) rfl ?_
    refine q_getP (M := md_X10_flow) (pc := 47) (v := 61) fl_10_205 dX10_flow_47 (is_60 hN) rfl ?_
    refine q_iload (M := md_X10_flow) (pc := 50) dX10_flow_50 rfl ?_
    refine e_rd (M := md_X10_flow) (pc := 52) h dX10_flow_52 (ar_61 hN) (fun v7 h => ?_)
    refine q_iload_n (M := md_X10_flow) (pc := 53) dX10_flow_53 rfl ?_
    refine e_icmp_ne (M := md_X10_flow) (pc := 54) (tgt := 107) h rfl rfl dX10_flow_54 (by decide) (fun h => ?_) (fun h => ?_)
    · exact q_weak (w_PG_flow_b107 hN hk20  h) ⟨Or.inr rfl, Or.inr rfl, Or.inr rfl, Or.inr rfl, Or.inr rfl, Or.inl rfl, trivial⟩
    · refine q_aload_n (M := md_X10_flow) (pc := 57) dX10_flow_57 rfl (by decide) ?_
      refine q_getP (M := md_X10_flow) (pc := 58) (v := 60) fl_10_62 dX10_flow_58 (is_0 hN) rfl ?_
      refine q_getP (M := md_X10_flow) (pc := 61) (v := 63) fl_10_260 dX10_flow_61 (is_60 hN) rfl ?_
      refine q_iload (M := md_X10_flow) (pc := 64) dX10_flow_64 rfl ?_
      refine e_rdz (M := md_X10_flow) (pc := 66) h dX10_flow_66 (ar_63 hN) (fun v8 h => ?_)
      refine e_if_eq (M := md_X10_flow) (pc := 67) (tgt := 73) h rfl dX10_flow_67 (by decide) (fun h => ?_) (fun h => ?_)
      · refine q_iload_n (M := md_X10_flow) (pc := 73) dX10_flow_73 rfl ?_
        refine e_if_ne (M := md_X10_flow) (pc := 74) (tgt := 92) h rfl dX10_flow_74 (by decide) (fun h => ?_) (fun h => ?_)
        · refine q_aload_n (M := md_X10_flow) (pc := 92) dX10_flow_92 rfl (by decide) ?_
          refine e_gR (M := md_X10_flow) (pc := 93) h fl_10_19 dX10_flow_93 (is_0 hN) rfl (fun v9 hv9 h => ?_)
          refine q_iload (M := md_X10_flow) (pc := 96) dX10_flow_96 rfl ?_
          refine e_callVi (M := md_X10_flow) (pc := 98) (d' := 3) (av := [q_I v5]) (c := v9) h ml_10_266 im_X2_readersOf se_X2_readersOf dX10_flow_98 (fun v he => ok_X2_readersOf hN hv9 he) rfl (is_Lp hN hv9) ⟨_, _, rfl⟩ (by decide) (Nat.le_of_ble_eq_true rfl) ⟨by decide, by decide⟩ rfl (fun v10 m11 h => ?_)
          refine e_if_ne (M := md_X10_flow) (pc := 101) (tgt := 107) h rfl dX10_flow_101 (by decide) (fun h => ?_) (fun h => ?_)
          · exact q_weak (w_PG_flow_b107 hN hk20  h) ⟨Or.inr rfl, Or.inr rfl, Or.inr rfl, Or.inr rfl, Or.inr rfl, Or.inl rfl, trivial⟩
          · refine e_inc (M := md_X10_flow) (pc := 104) (x := l3) (ls' := [q_A 0, q_I l1, q_I l2, q_I (l3 + 1), q_I l4, q_I v5]) dX10_flow_104 rfl (by decide) (q_pl rfl) rfl ?_
            exact q_weak (w_PG_flow_b107 hN hk20  h) ⟨Or.inr rfl, Or.inr rfl, Or.inr rfl, Or.inr rfl, Or.inr rfl, Or.inl rfl, trivial⟩
        · refine q_iload_n (M := md_X10_flow) (pc := 77) dX10_flow_77 rfl ?_
          refine q_aload_n (M := md_X10_flow) (pc := 78) dX10_flow_78 rfl (by decide) ?_
          refine e_gR (M := md_X10_flow) (pc := 79) h fl_10_19 dX10_flow_79 (is_0 hN) rfl (fun v12 hv12 h => ?_)
          refine q_iload (M := md_X10_flow) (pc := 82) dX10_flow_82 rfl ?_
          refine e_callVi (M := md_X10_flow) (pc := 84) (d' := 2) (av := [q_I v5]) (c := v12) h ml_10_263 im_X2_edgeReads se_X2_edgeReads dX10_flow_84 (fun v he => ok_X2_edgeReads hN hv12 he) rfl (is_Lp hN hv12) ⟨_, _, rfl⟩ (by decide) (Nat.le_of_ble_eq_true rfl) ⟨by decide, by decide⟩ rfl (fun v13 m14 h => ?_)
          refine q_iadd (M := md_X10_flow) (pc := 87) dX10_flow_87 ?_
          refine e_ist_n (M := md_X10_flow) (pc := 88) (ls' := [q_A 0, q_I l1, q_I l2, q_I (l3 + v13), q_I l4, q_I v5]) dX10_flow_88 (by decide) (q_pl rfl) rfl ?_
          refine q_goto (M := md_X10_flow) (pc := 89) (tgt := 107) dX10_flow_89 (by decide) ?_
          exact q_weak (w_PG_flow_b107 hN hk20  h) ⟨Or.inr rfl, Or.inr rfl, Or.inr rfl, Or.inr rfl, Or.inr rfl, Or.inl rfl, trivial⟩
      · refine q_goto (M := md_X10_flow) (pc := 70) (tgt := 107) dX10_flow_70 (by decide) ?_
        exact q_weak (w_PG_flow_b107 hN hk20  h) ⟨Or.inr rfl, Or.inr rfl, Or.inr rfl, Or.inr rfl, Or.inr rfl, Or.inl rfl, trivial⟩
def f_PG_flow_l20 : Nat → Int → Int → Int → Int → q_Mem → q_Res
  | 0 => fun _ _ _ _ _ => none
  | n + 1 => fun l1 l2 l3 l4 m => f_PG_flow_b20 (f_PG_flow_l20 n) l1 l2 l3 l4 m
theorem w_PG_flow_l20 {r : Int × q_Mem} {N : Nat} (hN : 81 ≤ N) : ∀ (n : Nat) (l1 l2 l3 l4 : Int) (m : q_Mem), f_PG_flow_l20 n l1 l2 l3 l4 m = some r → q_E md_X10_flow 4 N (some 0) r m 20 [q_A 0, q_I l1, q_I l2, q_I l3, q_I l4, q_N] [] := by
  intro n
  induction n with
  | zero => intro l1 l2 l3 l4 m h; exact q_no h
  | succ n ih =>
    intro l1 l2 l3 l4 m h
    exact w_PG_flow_b20 hN (fun l1 l2 l3 l4 m h => ih l1 l2 l3 l4 m h) h
def f_PG_flow (l1 l2 : Int) (m : q_Mem) : q_Res :=
  if q_w l1 < 0 then (q_rt (-1) m)
  else (if q_w l2 < 0 then (q_rt (-1) m)
  else (if q_w l2 ≤ 1 then (f_PG_flow_l20 q_F l1 l2 0 0 m)
  else (q_rt (-1) m)))
set_option maxRecDepth 20000 in
theorem ok_X10_flow {l1 l2 : Int} {r : Int × q_Mem} {m : q_Mem} {N : Nat} (hN : 81 ≤ N) (h : f_PG_flow l1 l2 m = some r) : q_C md_X10_flow (q_room 4) 0 0 [q_A 0, q_I l1, q_I l2] (q_g N) m (some (q_I r.1), q_g N, r.2) := by
  refine q_ofR (by decide) 3 (ls := [q_A 0, q_I l1, q_I l2, q_N, q_N, q_N]) rfl (Nat.le_of_ble_eq_true rfl) ?_
  change q_E md_X10_flow 4 N (some 0) r m 0 [q_A 0, q_I l1, q_I l2, q_N, q_N, q_N] []
  unfold f_PG_flow at h
  refine q_iload_n (M := md_X10_flow) (pc := 0) dX10_flow_0 rfl ?_
  refine e_if_lt (M := md_X10_flow) (pc := 1) (tgt := 13) h rfl dX10_flow_1 (by decide) (fun h => ?_) (fun h => ?_)
  · refine q_iconst (M := md_X10_flow) (pc := 13) dX10_flow_13 ?_
    exact e_iret (M := md_X10_flow) (pc := 14) h rfl dX10_flow_14
  · refine q_iload_n (M := md_X10_flow) (pc := 4) dX10_flow_4 rfl ?_
    refine e_if_lt (M := md_X10_flow) (pc := 5) (tgt := 13) h rfl dX10_flow_5 (by decide) (fun h => ?_) (fun h => ?_)
    · refine q_iconst (M := md_X10_flow) (pc := 13) dX10_flow_13 ?_
      exact e_iret (M := md_X10_flow) (pc := 14) h rfl dX10_flow_14
    · refine q_iload_n (M := md_X10_flow) (pc := 8) dX10_flow_8 rfl ?_
      refine q_iconst (M := md_X10_flow) (pc := 9) dX10_flow_9 ?_
      refine e_icmp_le (M := md_X10_flow) (pc := 10) (tgt := 15) h rfl (q_wlit rfl) dX10_flow_10 (by decide) (fun h => ?_) (fun h => ?_)
      · refine q_iconst (M := md_X10_flow) (pc := 15) dX10_flow_15 ?_
        refine e_ist_n (M := md_X10_flow) (pc := 16) (ls' := [q_A 0, q_I l1, q_I l2, q_I 0, q_N, q_N]) dX10_flow_16 (by decide) (q_pl rfl) rfl ?_
        refine q_iconst (M := md_X10_flow) (pc := 17) dX10_flow_17 ?_
        refine e_ist (M := md_X10_flow) (pc := 18) (ls' := [q_A 0, q_I l1, q_I l2, q_I 0, q_I 0, q_N]) dX10_flow_18 (by decide) (q_pl rfl) rfl ?_
        exact q_weak (w_PG_flow_l20 hN q_F _ _ _ _ _  h) ⟨Or.inr rfl, Or.inr rfl, Or.inr rfl, Or.inr rfl, Or.inr rfl, Or.inl rfl, trivial⟩
      · refine q_iconst (M := md_X10_flow) (pc := 13) dX10_flow_13 ?_
        exact e_iret (M := md_X10_flow) (pc := 14) h rfl dX10_flow_14
def f_PG_best (l1 l2 : Int) (m : q_Mem) : q_Res :=
  if q_w l1 < 1 then (q_rt (-1000) m)
  else (if q_w l1 ≤ 9 then (q_bd (f_PG_current m) fun v1 m2 => q_one q_Ly v1 <|
  q_bd (f_Sear_clear m2) fun _ m3 =>
  q_lt (m3 0 1) fun v4 => q_one q_Lp v4 <|
  q_bd (f_Sear_trySchedules v4 l1 (m3 v1 2) (m3 v1 3) m3) fun _ m5 =>
  if q_w l2 = 0 then (q_rt (m5 73 0) m5)
  else if q_w l2 = 1 then (q_bd (f_Sear_ifFound (m5 73 1) m5) fun v8 m9 =>
  q_rt v8 m9)
  else if q_w l2 = 2 then (q_bd (f_Sear_ifFound (m5 73 2) m5) fun v11 m12 =>
  q_rt v11 m12)
  else if q_w l2 = 3 then (q_bd (f_Sear_ifFound (m5 73 3) m5) fun v14 m15 =>
  q_rt v14 m15)
  else (q_rt (-1000) m5))
  else (q_rt (-1000) m))
set_option maxRecDepth 20000 in
theorem ok_X10_best {l1 l2 : Int} {r : Int × q_Mem} {m : q_Mem} {N : Nat} (hN : 81 ≤ N) (h : f_PG_best l1 l2 m = some r) : q_C md_X10_best (q_room 4) 0 0 [q_A 0, q_I l1, q_I l2] (q_g N) m (some (q_I r.1), q_g N, r.2) := by
  refine q_ofR (by decide) 1 (ls := [q_A 0, q_I l1, q_I l2, q_N]) rfl (Nat.le_of_ble_eq_true rfl) ?_
  change q_E md_X10_best 4 N (some 0) r m 0 [q_A 0, q_I l1, q_I l2, q_N] []
  unfold f_PG_best at h
  refine q_iload_n (M := md_X10_best) (pc := 0) dX10_best_0 rfl ?_
  refine q_iconst (M := md_X10_best) (pc := 1) dX10_best_1 ?_
  refine e_icmp_lt (M := md_X10_best) (pc := 2) (tgt := 11) h rfl (q_wlit rfl) dX10_best_2 (by decide) (fun h => ?_) (fun h => ?_)
  · refine q_sipush (M := md_X10_best) (pc := 11) (x := -1000) dX10_best_11 (by decide) ?_
    exact e_iret (M := md_X10_best) (pc := 14) h rfl dX10_best_14
  · refine q_iload_n (M := md_X10_best) (pc := 5) dX10_best_5 rfl ?_
    refine q_bipush (M := md_X10_best) (pc := 6) (x := 9) dX10_best_6 (by decide) ?_
    refine e_icmp_le (M := md_X10_best) (pc := 8) (tgt := 15) h rfl (q_wlit rfl) dX10_best_8 (by decide) (fun h => ?_) (fun h => ?_)
    · refine q_aload_n (M := md_X10_best) (pc := 15) dX10_best_15 rfl (by decide) ?_
      refine e_callVr (M := md_X10_best) (pc := 16) (d' := 1) (av := []) (c := 0) h ml_10_170 im_X10_current se_X10_current dX10_best_16 (fun v he => ok_X10_current hN  he) rfl (is_0 hN) ⟨_, _, rfl⟩ (by decide) (Nat.le_of_ble_eq_true rfl) ⟨by decide, by decide⟩ rfl (fun v1 m2 h => ?_)
      obtain ⟨hv1, h⟩ := e_one h
      refine e_ast_n (M := md_X10_best) (pc := 19) (ls' := [q_A 0, q_I l1, q_I l2, q_A v1]) dX10_best_19 (nn_Ly hv1) (by decide) (q_pl rfl) rfl ?_
      refine q_aload_n (M := md_X10_best) (pc := 20) dX10_best_20 rfl (by decide) ?_
      refine q_getP (M := md_X10_best) (pc := 21) (v := 73) fl_10_76 dX10_best_21 (is_0 hN) rfl ?_
      refine e_callVv (M := md_X10_best) (pc := 24) (d' := 1) (av := []) (c := 73) h ml_10_269 im_X6_clear se_X6_clear dX10_best_24 (fun v he => ok_X6_clear hN  he) rfl (is_73 hN) ⟨_, _, rfl⟩ (by decide) (Nat.le_of_ble_eq_true rfl) ⟨by decide, by decide⟩ rfl (fun _ m3 h => ?_)
      refine q_aload_n (M := md_X10_best) (pc := 27) dX10_best_27 rfl (by decide) ?_
      refine q_getP (M := md_X10_best) (pc := 28) (v := 73) fl_10_76 dX10_best_28 (is_0 hN) rfl ?_
      refine q_aload_n (M := md_X10_best) (pc := 31) dX10_best_31 rfl (by decide) ?_
      refine e_gR (M := md_X10_best) (pc := 32) h fl_10_19 dX10_best_32 (is_0 hN) rfl (fun v4 hv4 h => ?_)
      refine q_iload_n (M := md_X10_best) (pc := 35) dX10_best_35 rfl ?_
      refine q_aload_n (M := md_X10_best) (pc := 36) dX10_best_36 rfl (nn_Ly hv1) ?_
      refine e_gI (M := md_X10_best) (pc := 37) (v := m3 v1 2) fl_10_150 dX10_best_37 (is_Ly hN hv1) rfl ?_
      refine q_aload_n (M := md_X10_best) (pc := 40) dX10_best_40 rfl (nn_Ly hv1) ?_
      refine e_gI (M := md_X10_best) (pc := 41) (v := m3 v1 3) fl_10_153 dX10_best_41 (is_Ly hN hv1) rfl ?_
      refine e_callVv (M := md_X10_best) (pc := 44) (d' := 3) (av := [q_A v4, q_I l1, q_I (m3 v1 2), q_I (m3 v1 3)]) (c := 73) h ml_10_272 im_X6_trySchedules se_X6_trySchedules dX10_best_44 (fun v he => ok_X6_trySchedules hN hv4 he) rfl (is_73 hN) ⟨_, _, rfl⟩ (by decide) (Nat.le_of_ble_eq_true rfl) ⟨by decide, by decide⟩ rfl (fun _ m5 h => ?_)
      refine q_iload_n (M := md_X10_best) (pc := 47) dX10_best_47 rfl ?_
      by_cases c6 : q_w l2 = 0
      · rw [if_pos c6] at h
        refine q_tabIn (M := md_X10_best) (pc := 48) (tgt := 80) dX10_best_48 (by rw [c6] <;> decide) (by rw [c6] <;> decide) (by rw [c6] <;> rfl) (by decide) ?_
        refine q_aload_n (M := md_X10_best) (pc := 80) dX10_best_80 rfl (by decide) ?_
        refine q_getP (M := md_X10_best) (pc := 81) (v := 73) fl_10_76 dX10_best_81 (is_0 hN) rfl ?_
        refine e_gI (M := md_X10_best) (pc := 84) (v := m5 73 0) fl_10_276 dX10_best_84 (is_73 hN) rfl ?_
        exact e_iret (M := md_X10_best) (pc := 87) h rfl dX10_best_87
      rw [if_neg c6] at h
      by_cases c7 : q_w l2 = 1
      · rw [if_pos c7] at h
        refine q_tabIn (M := md_X10_best) (pc := 48) (tgt := 88) dX10_best_48 (by rw [c7] <;> decide) (by rw [c7] <;> decide) (by rw [c7] <;> rfl) (by decide) ?_
        refine q_aload_n (M := md_X10_best) (pc := 88) dX10_best_88 rfl (by decide) ?_
        refine q_getP (M := md_X10_best) (pc := 89) (v := 73) fl_10_76 dX10_best_89 (is_0 hN) rfl ?_
        refine q_aload_n (M := md_X10_best) (pc := 92) dX10_best_92 rfl (by decide) ?_
        refine q_getP (M := md_X10_best) (pc := 93) (v := 73) fl_10_76 dX10_best_93 (is_0 hN) rfl ?_
        refine e_gI (M := md_X10_best) (pc := 96) (v := m5 73 1) fl_10_279 dX10_best_96 (is_73 hN) rfl ?_
        refine e_callVi (M := md_X10_best) (pc := 99) (d' := 1) (av := [q_I (m5 73 1)]) (c := 73) h ml_10_282 im_X6_ifFound se_X6_ifFound dX10_best_99 (fun v he => ok_X6_ifFound hN  he) rfl (is_73 hN) ⟨_, _, rfl⟩ (by decide) (Nat.le_of_ble_eq_true rfl) ⟨by decide, by decide⟩ rfl (fun v8 m9 h => ?_)
        exact e_iret (M := md_X10_best) (pc := 102) h rfl dX10_best_102
      rw [if_neg c7] at h
      by_cases c10 : q_w l2 = 2
      · rw [if_pos c10] at h
        refine q_tabIn (M := md_X10_best) (pc := 48) (tgt := 103) dX10_best_48 (by rw [c10] <;> decide) (by rw [c10] <;> decide) (by rw [c10] <;> rfl) (by decide) ?_
        refine q_aload_n (M := md_X10_best) (pc := 103) dX10_best_103 rfl (by decide) ?_
        refine q_getP (M := md_X10_best) (pc := 104) (v := 73) fl_10_76 dX10_best_104 (is_0 hN) rfl ?_
        refine q_aload_n (M := md_X10_best) (pc := 107) dX10_best_107 rfl (by decide) ?_
        refine q_getP (M := md_X10_best) (pc := 108) (v := 73) fl_10_76 dX10_best_108 (is_0 hN) rfl ?_
        refine e_gI (M := md_X10_best) (pc := 111) (v := m5 73 2) fl_10_285 dX10_best_111 (is_73 hN) rfl ?_
        refine e_callVi (M := md_X10_best) (pc := 114) (d' := 1) (av := [q_I (m5 73 2)]) (c := 73) h ml_10_282 im_X6_ifFound se_X6_ifFound dX10_best_114 (fun v he => ok_X6_ifFound hN  he) rfl (is_73 hN) ⟨_, _, rfl⟩ (by decide) (Nat.le_of_ble_eq_true rfl) ⟨by decide, by decide⟩ rfl (fun v11 m12 h => ?_)
        exact e_iret (M := md_X10_best) (pc := 117) h rfl dX10_best_117
      rw [if_neg c10] at h
      by_cases c13 : q_w l2 = 3
      · rw [if_pos c13] at h
        refine q_tabIn (M := md_X10_best) (pc := 48) (tgt := 118) dX10_best_48 (by rw [c13] <;> decide) (by rw [c13] <;> decide) (by rw [c13] <;> rfl) (by decide) ?_
        refine q_aload_n (M := md_X10_best) (pc := 118) dX10_best_118 rfl (by decide) ?_
        refine q_getP (M := md_X10_best) (pc := 119) (v := 73) fl_10_76 dX10_best_119 (is_0 hN) rfl ?_
        refine q_aload_n (M := md_X10_best) (pc := 122) dX10_best_122 rfl (by decide) ?_
        refine q_getP (M := md_X10_best) (pc := 123) (v := 73) fl_10_76 dX10_best_123 (is_0 hN) rfl ?_
        refine e_gI (M := md_X10_best) (pc := 126) (v := m5 73 3) fl_10_286 dX10_best_126 (is_73 hN) rfl ?_
        refine e_callVi (M := md_X10_best) (pc := 129) (d' := 1) (av := [q_I (m5 73 3)]) (c := 73) h ml_10_282 im_X6_ifFound se_X6_ifFound dX10_best_129 (fun v he => ok_X6_ifFound hN  he) rfl (is_73 hN) ⟨_, _, rfl⟩ (by decide) (Nat.le_of_ble_eq_true rfl) ⟨by decide, by decide⟩ rfl (fun v14 m15 h => ?_)
        exact e_iret (M := md_X10_best) (pc := 132) h rfl dX10_best_132
      rw [if_neg c13] at h
      refine q_tabOut (M := md_X10_best) (pc := 48) (tgt := 133) dX10_best_48 (by omega) (by decide) ?_
      refine q_sipush (M := md_X10_best) (pc := 133) (x := -1000) dX10_best_133 (by decide) ?_
      exact e_iret (M := md_X10_best) (pc := 136) h rfl dX10_best_136
    · refine q_sipush (M := md_X10_best) (pc := 11) (x := -1000) dX10_best_11 (by decide) ?_
      exact e_iret (M := md_X10_best) (pc := 14) h rfl dX10_best_14
def f_PG_line (l1 : Int) (m : q_Mem) : q_Res :=
  q_bd (f_PG_current m) fun v1 m2 => q_one q_Ly v1 <|
  q_bd (f_Sear_clear m2) fun _ m3 =>
  q_lt (m3 0 1) fun v4 => q_one q_Lp v4 <|
  q_bd (f_Sear_tryLines v4 (m3 v1 0) (m3 v1 1) 1 m3) fun _ m5 =>
  if q_w l1 = 0 then (q_rt (m5 73 0) m5)
  else if q_w l1 = 1 then (q_bd (f_Sear_ifFound (m5 73 1) m5) fun v8 m9 =>
  q_rt v8 m9)
  else if q_w l1 = 2 then (q_bd (f_Sear_ifFound (m5 73 4) m5) fun v11 m12 =>
  q_rt v11 m12)
  else if q_w l1 = 3 then (q_bd (f_Sear_ifFound (m5 73 5) m5) fun v14 m15 =>
  q_rt v14 m15)
  else (q_rt (-1000) m5)
set_option maxRecDepth 20000 in
theorem ok_X10_line {l1 : Int} {r : Int × q_Mem} {m : q_Mem} {N : Nat} (hN : 81 ≤ N) (h : f_PG_line l1 m = some r) : q_C md_X10_line (q_room 4) 0 0 [q_A 0, q_I l1] (q_g N) m (some (q_I r.1), q_g N, r.2) := by
  refine q_ofR (by decide) 1 (ls := [q_A 0, q_I l1, q_N]) rfl (Nat.le_of_ble_eq_true rfl) ?_
  change q_E md_X10_line 4 N (some 0) r m 0 [q_A 0, q_I l1, q_N] []
  unfold f_PG_line at h
  refine q_aload_n (M := md_X10_line) (pc := 0) dX10_line_0 rfl (by decide) ?_
  refine e_callVr (M := md_X10_line) (pc := 1) (d' := 1) (av := []) (c := 0) h ml_10_170 im_X10_current se_X10_current dX10_line_1 (fun v he => ok_X10_current hN  he) rfl (is_0 hN) ⟨_, _, rfl⟩ (by decide) (Nat.le_of_ble_eq_true rfl) ⟨by decide, by decide⟩ rfl (fun v1 m2 h => ?_)
  obtain ⟨hv1, h⟩ := e_one h
  refine e_ast_n (M := md_X10_line) (pc := 4) (ls' := [q_A 0, q_I l1, q_A v1]) dX10_line_4 (nn_Ly hv1) (by decide) (q_pl rfl) rfl ?_
  refine q_aload_n (M := md_X10_line) (pc := 5) dX10_line_5 rfl (by decide) ?_
  refine q_getP (M := md_X10_line) (pc := 6) (v := 73) fl_10_76 dX10_line_6 (is_0 hN) rfl ?_
  refine e_callVv (M := md_X10_line) (pc := 9) (d' := 1) (av := []) (c := 73) h ml_10_269 im_X6_clear se_X6_clear dX10_line_9 (fun v he => ok_X6_clear hN  he) rfl (is_73 hN) ⟨_, _, rfl⟩ (by decide) (Nat.le_of_ble_eq_true rfl) ⟨by decide, by decide⟩ rfl (fun _ m3 h => ?_)
  refine q_aload_n (M := md_X10_line) (pc := 12) dX10_line_12 rfl (by decide) ?_
  refine q_getP (M := md_X10_line) (pc := 13) (v := 73) fl_10_76 dX10_line_13 (is_0 hN) rfl ?_
  refine q_aload_n (M := md_X10_line) (pc := 16) dX10_line_16 rfl (by decide) ?_
  refine e_gR (M := md_X10_line) (pc := 17) h fl_10_19 dX10_line_17 (is_0 hN) rfl (fun v4 hv4 h => ?_)
  refine q_aload_n (M := md_X10_line) (pc := 20) dX10_line_20 rfl (nn_Ly hv1) ?_
  refine e_gI (M := md_X10_line) (pc := 21) (v := m3 v1 0) fl_10_135 dX10_line_21 (is_Ly hN hv1) rfl ?_
  refine q_aload_n (M := md_X10_line) (pc := 24) dX10_line_24 rfl (nn_Ly hv1) ?_
  refine e_gI (M := md_X10_line) (pc := 25) (v := m3 v1 1) fl_10_138 dX10_line_25 (is_Ly hN hv1) rfl ?_
  refine q_iconst (M := md_X10_line) (pc := 28) dX10_line_28 ?_
  refine e_callVv (M := md_X10_line) (pc := 29) (d' := 3) (av := [q_A v4, q_I (m3 v1 0), q_I (m3 v1 1), q_I 1]) (c := 73) h ml_10_287 im_X6_tryLines se_X6_tryLines dX10_line_29 (fun v he => ok_X6_tryLines hN hv4 he) rfl (is_73 hN) ⟨_, _, rfl⟩ (by decide) (Nat.le_of_ble_eq_true rfl) ⟨by decide, by decide⟩ rfl (fun _ m5 h => ?_)
  refine q_iload_n (M := md_X10_line) (pc := 32) dX10_line_32 rfl ?_
  by_cases c6 : q_w l1 = 0
  · rw [if_pos c6] at h
    refine q_tabIn (M := md_X10_line) (pc := 33) (tgt := 64) dX10_line_33 (by rw [c6] <;> decide) (by rw [c6] <;> decide) (by rw [c6] <;> rfl) (by decide) ?_
    refine q_aload_n (M := md_X10_line) (pc := 64) dX10_line_64 rfl (by decide) ?_
    refine q_getP (M := md_X10_line) (pc := 65) (v := 73) fl_10_76 dX10_line_65 (is_0 hN) rfl ?_
    refine e_gI (M := md_X10_line) (pc := 68) (v := m5 73 0) fl_10_276 dX10_line_68 (is_73 hN) rfl ?_
    exact e_iret (M := md_X10_line) (pc := 71) h rfl dX10_line_71
  rw [if_neg c6] at h
  by_cases c7 : q_w l1 = 1
  · rw [if_pos c7] at h
    refine q_tabIn (M := md_X10_line) (pc := 33) (tgt := 72) dX10_line_33 (by rw [c7] <;> decide) (by rw [c7] <;> decide) (by rw [c7] <;> rfl) (by decide) ?_
    refine q_aload_n (M := md_X10_line) (pc := 72) dX10_line_72 rfl (by decide) ?_
    refine q_getP (M := md_X10_line) (pc := 73) (v := 73) fl_10_76 dX10_line_73 (is_0 hN) rfl ?_
    refine q_aload_n (M := md_X10_line) (pc := 76) dX10_line_76 rfl (by decide) ?_
    refine q_getP (M := md_X10_line) (pc := 77) (v := 73) fl_10_76 dX10_line_77 (is_0 hN) rfl ?_
    refine e_gI (M := md_X10_line) (pc := 80) (v := m5 73 1) fl_10_279 dX10_line_80 (is_73 hN) rfl ?_
    refine e_callVi (M := md_X10_line) (pc := 83) (d' := 1) (av := [q_I (m5 73 1)]) (c := 73) h ml_10_282 im_X6_ifFound se_X6_ifFound dX10_line_83 (fun v he => ok_X6_ifFound hN  he) rfl (is_73 hN) ⟨_, _, rfl⟩ (by decide) (Nat.le_of_ble_eq_true rfl) ⟨by decide, by decide⟩ rfl (fun v8 m9 h => ?_)
    exact e_iret (M := md_X10_line) (pc := 86) h rfl dX10_line_86
  rw [if_neg c7] at h
  by_cases c10 : q_w l1 = 2
  · rw [if_pos c10] at h
    refine q_tabIn (M := md_X10_line) (pc := 33) (tgt := 87) dX10_line_33 (by rw [c10] <;> decide) (by rw [c10] <;> decide) (by rw [c10] <;> rfl) (by decide) ?_
    refine q_aload_n (M := md_X10_line) (pc := 87) dX10_line_87 rfl (by decide) ?_
    refine q_getP (M := md_X10_line) (pc := 88) (v := 73) fl_10_76 dX10_line_88 (is_0 hN) rfl ?_
    refine q_aload_n (M := md_X10_line) (pc := 91) dX10_line_91 rfl (by decide) ?_
    refine q_getP (M := md_X10_line) (pc := 92) (v := 73) fl_10_76 dX10_line_92 (is_0 hN) rfl ?_
    refine e_gI (M := md_X10_line) (pc := 95) (v := m5 73 4) fl_10_290 dX10_line_95 (is_73 hN) rfl ?_
    refine e_callVi (M := md_X10_line) (pc := 98) (d' := 1) (av := [q_I (m5 73 4)]) (c := 73) h ml_10_282 im_X6_ifFound se_X6_ifFound dX10_line_98 (fun v he => ok_X6_ifFound hN  he) rfl (is_73 hN) ⟨_, _, rfl⟩ (by decide) (Nat.le_of_ble_eq_true rfl) ⟨by decide, by decide⟩ rfl (fun v11 m12 h => ?_)
    exact e_iret (M := md_X10_line) (pc := 101) h rfl dX10_line_101
  rw [if_neg c10] at h
  by_cases c13 : q_w l1 = 3
  · rw [if_pos c13] at h
    refine q_tabIn (M := md_X10_line) (pc := 33) (tgt := 102) dX10_line_33 (by rw [c13] <;> decide) (by rw [c13] <;> decide) (by rw [c13] <;> rfl) (by decide) ?_
    refine q_aload_n (M := md_X10_line) (pc := 102) dX10_line_102 rfl (by decide) ?_
    refine q_getP (M := md_X10_line) (pc := 103) (v := 73) fl_10_76 dX10_line_103 (is_0 hN) rfl ?_
    refine q_aload_n (M := md_X10_line) (pc := 106) dX10_line_106 rfl (by decide) ?_
    refine q_getP (M := md_X10_line) (pc := 107) (v := 73) fl_10_76 dX10_line_107 (is_0 hN) rfl ?_
    refine e_gI (M := md_X10_line) (pc := 110) (v := m5 73 5) fl_10_291 dX10_line_110 (is_73 hN) rfl ?_
    refine e_callVi (M := md_X10_line) (pc := 113) (d' := 1) (av := [q_I (m5 73 5)]) (c := 73) h ml_10_282 im_X6_ifFound se_X6_ifFound dX10_line_113 (fun v he => ok_X6_ifFound hN  he) rfl (is_73 hN) ⟨_, _, rfl⟩ (by decide) (Nat.le_of_ble_eq_true rfl) ⟨by decide, by decide⟩ rfl (fun v14 m15 h => ?_)
    exact e_iret (M := md_X10_line) (pc := 116) h rfl dX10_line_116
  rw [if_neg c13] at h
  refine q_tabOut (M := md_X10_line) (pc := 33) (tgt := 117) dX10_line_33 (by omega) (by decide) ?_
  refine q_sipush (M := md_X10_line) (pc := 117) (x := -1000) dX10_line_117 (by decide) ?_
  exact e_iret (M := md_X10_line) (pc := 120) h rfl dX10_line_120
def f_PG_pair (l1 l2 : Int) (m : q_Mem) : q_Res :=
  if q_w l1 < 1 then (q_rt (-1000) m)
  else (if q_w l1 ≤ 4 then (q_bd (f_Sear_clear m) fun _ m1 =>
  q_lt (m1 0 1) fun v2 => q_one q_Lp v2 <|
  q_bd (f_Sear_tryPairs v2 l1 m1) fun _ m3 =>
  if q_w l2 = 0 then (q_bd (f_Sear_ifFound (m3 73 1) m3) fun v5 m6 =>
  q_rt v5 m6)
  else if q_w l2 = 1 then (q_bd (f_Sear_ifFound (m3 73 2) m3) fun v8 m9 =>
  q_rt v8 m9)
  else if q_w l2 = 2 then (q_bd (f_Sear_ifFound (m3 73 3) m3) fun v11 m12 =>
  q_rt v11 m12)
  else if q_w l2 = 3 then (q_bd (f_Sear_ifFound (m3 73 4) m3) fun v14 m15 =>
  q_rt v14 m15)
  else if q_w l2 = 4 then (q_bd (f_Sear_ifFound (m3 73 5) m3) fun v17 m18 =>
  q_rt v17 m18)
  else (q_rt (-1000) m3))
  else (q_rt (-1000) m))
set_option maxRecDepth 20000 in
theorem ok_X10_pair {l1 l2 : Int} {r : Int × q_Mem} {m : q_Mem} {N : Nat} (hN : 81 ≤ N) (h : f_PG_pair l1 l2 m = some r) : q_C md_X10_pair (q_room 5) 0 0 [q_A 0, q_I l1, q_I l2] (q_g N) m (some (q_I r.1), q_g N, r.2) := by
  refine q_ofR (by decide) 0 (ls := [q_A 0, q_I l1, q_I l2]) rfl (Nat.le_of_ble_eq_true rfl) ?_
  change q_E md_X10_pair 5 N (some 0) r m 0 [q_A 0, q_I l1, q_I l2] []
  unfold f_PG_pair at h
  refine q_iload_n (M := md_X10_pair) (pc := 0) dX10_pair_0 rfl ?_
  refine q_iconst (M := md_X10_pair) (pc := 1) dX10_pair_1 ?_
  refine e_icmp_lt (M := md_X10_pair) (pc := 2) (tgt := 10) h rfl (q_wlit rfl) dX10_pair_2 (by decide) (fun h => ?_) (fun h => ?_)
  · refine q_sipush (M := md_X10_pair) (pc := 10) (x := -1000) dX10_pair_10 (by decide) ?_
    exact e_iret (M := md_X10_pair) (pc := 13) h rfl dX10_pair_13
  · refine q_iload_n (M := md_X10_pair) (pc := 5) dX10_pair_5 rfl ?_
    refine q_iconst (M := md_X10_pair) (pc := 6) dX10_pair_6 ?_
    refine e_icmp_le (M := md_X10_pair) (pc := 7) (tgt := 14) h rfl (q_wlit rfl) dX10_pair_7 (by decide) (fun h => ?_) (fun h => ?_)
    · refine q_aload_n (M := md_X10_pair) (pc := 14) dX10_pair_14 rfl (by decide) ?_
      refine q_getP (M := md_X10_pair) (pc := 15) (v := 73) fl_10_76 dX10_pair_15 (is_0 hN) rfl ?_
      refine e_callVv (M := md_X10_pair) (pc := 18) (d' := 1) (av := []) (c := 73) h ml_10_269 im_X6_clear se_X6_clear dX10_pair_18 (fun v he => ok_X6_clear hN  he) rfl (is_73 hN) ⟨_, _, rfl⟩ (by decide) (Nat.le_of_ble_eq_true rfl) ⟨by decide, by decide⟩ rfl (fun _ m1 h => ?_)
      refine q_aload_n (M := md_X10_pair) (pc := 21) dX10_pair_21 rfl (by decide) ?_
      refine q_getP (M := md_X10_pair) (pc := 22) (v := 73) fl_10_76 dX10_pair_22 (is_0 hN) rfl ?_
      refine q_aload_n (M := md_X10_pair) (pc := 25) dX10_pair_25 rfl (by decide) ?_
      refine e_gR (M := md_X10_pair) (pc := 26) h fl_10_19 dX10_pair_26 (is_0 hN) rfl (fun v2 hv2 h => ?_)
      refine q_iload_n (M := md_X10_pair) (pc := 29) dX10_pair_29 rfl ?_
      refine e_callVv (M := md_X10_pair) (pc := 30) (d' := 4) (av := [q_A v2, q_I l1]) (c := 73) h ml_10_292 im_X6_tryPairs se_X6_tryPairs dX10_pair_30 (fun v he => ok_X6_tryPairs hN hv2 he) rfl (is_73 hN) ⟨_, _, rfl⟩ (by decide) (Nat.le_of_ble_eq_true rfl) ⟨by decide, by decide⟩ rfl (fun _ m3 h => ?_)
      refine q_iload_n (M := md_X10_pair) (pc := 33) dX10_pair_33 rfl ?_
      by_cases c4 : q_w l2 = 0
      · rw [if_pos c4] at h
        refine q_tabIn (M := md_X10_pair) (pc := 34) (tgt := 68) dX10_pair_34 (by rw [c4] <;> decide) (by rw [c4] <;> decide) (by rw [c4] <;> rfl) (by decide) ?_
        refine q_aload_n (M := md_X10_pair) (pc := 68) dX10_pair_68 rfl (by decide) ?_
        refine q_getP (M := md_X10_pair) (pc := 69) (v := 73) fl_10_76 dX10_pair_69 (is_0 hN) rfl ?_
        refine q_aload_n (M := md_X10_pair) (pc := 72) dX10_pair_72 rfl (by decide) ?_
        refine q_getP (M := md_X10_pair) (pc := 73) (v := 73) fl_10_76 dX10_pair_73 (is_0 hN) rfl ?_
        refine e_gI (M := md_X10_pair) (pc := 76) (v := m3 73 1) fl_10_279 dX10_pair_76 (is_73 hN) rfl ?_
        refine e_callVi (M := md_X10_pair) (pc := 79) (d' := 1) (av := [q_I (m3 73 1)]) (c := 73) h ml_10_282 im_X6_ifFound se_X6_ifFound dX10_pair_79 (fun v he => ok_X6_ifFound hN  he) rfl (is_73 hN) ⟨_, _, rfl⟩ (by decide) (Nat.le_of_ble_eq_true rfl) ⟨by decide, by decide⟩ rfl (fun v5 m6 h => ?_)
        exact e_iret (M := md_X10_pair) (pc := 82) h rfl dX10_pair_82
      rw [if_neg c4] at h
      by_cases c7 : q_w l2 = 1
      · rw [if_pos c7] at h
        refine q_tabIn (M := md_X10_pair) (pc := 34) (tgt := 83) dX10_pair_34 (by rw [c7] <;> decide) (by rw [c7] <;> decide) (by rw [c7] <;> rfl) (by decide) ?_
        refine q_aload_n (M := md_X10_pair) (pc := 83) dX10_pair_83 rfl (by decide) ?_
        refine q_getP (M := md_X10_pair) (pc := 84) (v := 73) fl_10_76 dX10_pair_84 (is_0 hN) rfl ?_
        refine q_aload_n (M := md_X10_pair) (pc := 87) dX10_pair_87 rfl (by decide) ?_
        refine q_getP (M := md_X10_pair) (pc := 88) (v := 73) fl_10_76 dX10_pair_88 (is_0 hN) rfl ?_
        refine e_gI (M := md_X10_pair) (pc := 91) (v := m3 73 2) fl_10_285 dX10_pair_91 (is_73 hN) rfl ?_
        refine e_callVi (M := md_X10_pair) (pc := 94) (d' := 1) (av := [q_I (m3 73 2)]) (c := 73) h ml_10_282 im_X6_ifFound se_X6_ifFound dX10_pair_94 (fun v he => ok_X6_ifFound hN  he) rfl (is_73 hN) ⟨_, _, rfl⟩ (by decide) (Nat.le_of_ble_eq_true rfl) ⟨by decide, by decide⟩ rfl (fun v8 m9 h => ?_)
        exact e_iret (M := md_X10_pair) (pc := 97) h rfl dX10_pair_97
      rw [if_neg c7] at h
      by_cases c10 : q_w l2 = 2
      · rw [if_pos c10] at h
        refine q_tabIn (M := md_X10_pair) (pc := 34) (tgt := 98) dX10_pair_34 (by rw [c10] <;> decide) (by rw [c10] <;> decide) (by rw [c10] <;> rfl) (by decide) ?_
        refine q_aload_n (M := md_X10_pair) (pc := 98) dX10_pair_98 rfl (by decide) ?_
        refine q_getP (M := md_X10_pair) (pc := 99) (v := 73) fl_10_76 dX10_pair_99 (is_0 hN) rfl ?_
        refine q_aload_n (M := md_X10_pair) (pc := 102) dX10_pair_102 rfl (by decide) ?_
        refine q_getP (M := md_X10_pair) (pc := 103) (v := 73) fl_10_76 dX10_pair_103 (is_0 hN) rfl ?_
        refine e_gI (M := md_X10_pair) (pc := 106) (v := m3 73 3) fl_10_286 dX10_pair_106 (is_73 hN) rfl ?_
        refine e_callVi (M := md_X10_pair) (pc := 109) (d' := 1) (av := [q_I (m3 73 3)]) (c := 73) h ml_10_282 im_X6_ifFound se_X6_ifFound dX10_pair_109 (fun v he => ok_X6_ifFound hN  he) rfl (is_73 hN) ⟨_, _, rfl⟩ (by decide) (Nat.le_of_ble_eq_true rfl) ⟨by decide, by decide⟩ rfl (fun v11 m12 h => ?_)
        exact e_iret (M := md_X10_pair) (pc := 112) h rfl dX10_pair_112
      rw [if_neg c10] at h
      by_cases c13 : q_w l2 = 3
      · rw [if_pos c13] at h
        refine q_tabIn (M := md_X10_pair) (pc := 34) (tgt := 113) dX10_pair_34 (by rw [c13] <;> decide) (by rw [c13] <;> decide) (by rw [c13] <;> rfl) (by decide) ?_
        refine q_aload_n (M := md_X10_pair) (pc := 113) dX10_pair_113 rfl (by decide) ?_
        refine q_getP (M := md_X10_pair) (pc := 114) (v := 73) fl_10_76 dX10_pair_114 (is_0 hN) rfl ?_
        refine q_aload_n (M := md_X10_pair) (pc := 117) dX10_pair_117 rfl (by decide) ?_
        refine q_getP (M := md_X10_pair) (pc := 118) (v := 73) fl_10_76 dX10_pair_118 (is_0 hN) rfl ?_
        refine e_gI (M := md_X10_pair) (pc := 121) (v := m3 73 4) fl_10_290 dX10_pair_121 (is_73 hN) rfl ?_
        refine e_callVi (M := md_X10_pair) (pc := 124) (d' := 1) (av := [q_I (m3 73 4)]) (c := 73) h ml_10_282 im_X6_ifFound se_X6_ifFound dX10_pair_124 (fun v he => ok_X6_ifFound hN  he) rfl (is_73 hN) ⟨_, _, rfl⟩ (by decide) (Nat.le_of_ble_eq_true rfl) ⟨by decide, by decide⟩ rfl (fun v14 m15 h => ?_)
        exact e_iret (M := md_X10_pair) (pc := 127) h rfl dX10_pair_127
      rw [if_neg c13] at h
      by_cases c16 : q_w l2 = 4
      · rw [if_pos c16] at h
        refine q_tabIn (M := md_X10_pair) (pc := 34) (tgt := 128) dX10_pair_34 (by rw [c16] <;> decide) (by rw [c16] <;> decide) (by rw [c16] <;> rfl) (by decide) ?_
        refine q_aload_n (M := md_X10_pair) (pc := 128) dX10_pair_128 rfl (by decide) ?_
        refine q_getP (M := md_X10_pair) (pc := 129) (v := 73) fl_10_76 dX10_pair_129 (is_0 hN) rfl ?_
        refine q_aload_n (M := md_X10_pair) (pc := 132) dX10_pair_132 rfl (by decide) ?_
        refine q_getP (M := md_X10_pair) (pc := 133) (v := 73) fl_10_76 dX10_pair_133 (is_0 hN) rfl ?_
        refine e_gI (M := md_X10_pair) (pc := 136) (v := m3 73 5) fl_10_291 dX10_pair_136 (is_73 hN) rfl ?_
        refine e_callVi (M := md_X10_pair) (pc := 139) (d' := 1) (av := [q_I (m3 73 5)]) (c := 73) h ml_10_282 im_X6_ifFound se_X6_ifFound dX10_pair_139 (fun v he => ok_X6_ifFound hN  he) rfl (is_73 hN) ⟨_, _, rfl⟩ (by decide) (Nat.le_of_ble_eq_true rfl) ⟨by decide, by decide⟩ rfl (fun v17 m18 h => ?_)
        exact e_iret (M := md_X10_pair) (pc := 142) h rfl dX10_pair_142
      rw [if_neg c16] at h
      refine q_tabOut (M := md_X10_pair) (pc := 34) (tgt := 143) dX10_pair_34 (by omega) (by decide) ?_
      refine q_sipush (M := md_X10_pair) (pc := 143) (x := -1000) dX10_pair_143 (by decide) ?_
      exact e_iret (M := md_X10_pair) (pc := 146) h rfl dX10_pair_146
    · refine q_sipush (M := md_X10_pair) (pc := 10) (x := -1000) dX10_pair_10 (by decide) ?_
      exact e_iret (M := md_X10_pair) (pc := 13) h rfl dX10_pair_13
def f_PG_beats (l1 l2 : Int) (m : q_Mem) : q_Res :=
  if q_w l1 < 1 then (q_rt (-1) m)
  else (if q_w l1 ≤ 12 then (q_bd (f_Plac_beatsBy l1 l2 m) fun v1 m2 =>
  q_rt v1 m2)
  else (q_rt (-1) m))
set_option maxRecDepth 20000 in
theorem ok_X10_beats {l1 l2 : Int} {r : Int × q_Mem} {m : q_Mem} {N : Nat} (hN : 81 ≤ N) (h : f_PG_beats l1 l2 m = some r) : q_C md_X10_beats (q_room 3) 0 0 [q_A 0, q_I l1, q_I l2] (q_g N) m (some (q_I r.1), q_g N, r.2) := by
  refine q_ofR (by decide) 0 (ls := [q_A 0, q_I l1, q_I l2]) rfl (Nat.le_of_ble_eq_true rfl) ?_
  change q_E md_X10_beats 3 N (some 0) r m 0 [q_A 0, q_I l1, q_I l2] []
  unfold f_PG_beats at h
  refine q_iload_n (M := md_X10_beats) (pc := 0) dX10_beats_0 rfl ?_
  refine q_iconst (M := md_X10_beats) (pc := 1) dX10_beats_1 ?_
  refine e_icmp_lt (M := md_X10_beats) (pc := 2) (tgt := 11) h rfl (q_wlit rfl) dX10_beats_2 (by decide) (fun h => ?_) (fun h => ?_)
  · refine q_iconst (M := md_X10_beats) (pc := 11) dX10_beats_11 ?_
    exact e_iret (M := md_X10_beats) (pc := 12) h rfl dX10_beats_12
  · refine q_iload_n (M := md_X10_beats) (pc := 5) dX10_beats_5 rfl ?_
    refine q_bipush (M := md_X10_beats) (pc := 6) (x := 12) dX10_beats_6 (by decide) ?_
    refine e_icmp_le (M := md_X10_beats) (pc := 8) (tgt := 13) h rfl (q_wlit rfl) dX10_beats_8 (by decide) (fun h => ?_) (fun h => ?_)
    · refine q_aload_n (M := md_X10_beats) (pc := 13) dX10_beats_13 rfl (by decide) ?_
      refine q_getP (M := md_X10_beats) (pc := 14) (v := 60) fl_10_62 dX10_beats_14 (is_0 hN) rfl ?_
      refine q_iload_n (M := md_X10_beats) (pc := 17) dX10_beats_17 rfl ?_
      refine q_iload_n (M := md_X10_beats) (pc := 18) dX10_beats_18 rfl ?_
      refine e_callVi (M := md_X10_beats) (pc := 19) (d' := 2) (av := [q_I l1, q_I l2]) (c := 60) h ml_10_296 im_X4_beatsBy se_X4_beatsBy dX10_beats_19 (fun v he => ok_X4_beatsBy hN  he) rfl (is_60 hN) ⟨_, _, rfl⟩ (by decide) (Nat.le_of_ble_eq_true rfl) ⟨by decide, by decide⟩ rfl (fun v1 m2 h => ?_)
      exact e_iret (M := md_X10_beats) (pc := 22) h rfl dX10_beats_22
    · refine q_iconst (M := md_X10_beats) (pc := 11) dX10_beats_11 ?_
      exact e_iret (M := md_X10_beats) (pc := 12) h rfl dX10_beats_12
def f_PG_fewest_b2 (k2 : Int → Int → Int → q_Mem → q_Res) (l1 l2 l3 : Int) (m : q_Mem) : q_Res :=
  if 12 < q_w l3 then (q_rt (-1) m)
  else (q_bd (f_Plac_beatsBy l3 l2 m) fun v1 m2 =>
  if q_w l1 < q_w v1 then (k2 l1 l2 (l3 + 1) m2)
  else (q_rt l3 m2))
set_option maxRecDepth 20000 in
theorem w_PG_fewest_b2 {k2 : Int → Int → Int → q_Mem → q_Res} {l1 l2 l3 : Int} {r : Int × q_Mem} {m : q_Mem} {N : Nat} (hN : 81 ≤ N) (hk2 : ∀ (l1 l2 l3 : Int) (m : q_Mem), k2 l1 l2 l3 m = some r → q_E md_X10_fewest 3 N (some 0) r m 2 [q_A 0, q_I l1, q_I l2, q_I l3] []) (h : f_PG_fewest_b2 k2 l1 l2 l3 m = some r) : q_E md_X10_fewest 3 N (some 0) r m 2 [q_A 0, q_I l1, q_I l2, q_I l3] [] := by
  unfold f_PG_fewest_b2 at h
  refine q_iload_n (M := md_X10_fewest) (pc := 2) dX10_fewest_2 rfl ?_
  refine q_bipush (M := md_X10_fewest) (pc := 3) (x := 12) dX10_fewest_3 (by decide) ?_
  refine e_icmp_gt (M := md_X10_fewest) (pc := 5) (tgt := 29) h rfl (q_wlit rfl) dX10_fewest_5 (by decide) (fun h => ?_) (fun h => ?_)
  · refine q_iconst (M := md_X10_fewest) (pc := 29) dX10_fewest_29 ?_
    exact e_iret (M := md_X10_fewest) (pc := 30) h rfl dX10_fewest_30
  · refine q_aload_n (M := md_X10_fewest) (pc := 8) dX10_fewest_8 rfl (by decide) ?_
    refine q_getP (M := md_X10_fewest) (pc := 9) (v := 60) fl_10_62 dX10_fewest_9 (is_0 hN) rfl ?_
    refine q_iload_n (M := md_X10_fewest) (pc := 12) dX10_fewest_12 rfl ?_
    refine q_iload_n (M := md_X10_fewest) (pc := 13) dX10_fewest_13 rfl ?_
    refine e_callVi (M := md_X10_fewest) (pc := 14) (d' := 2) (av := [q_I l3, q_I l2]) (c := 60) h ml_10_296 im_X4_beatsBy se_X4_beatsBy dX10_fewest_14 (fun v he => ok_X4_beatsBy hN  he) rfl (is_60 hN) ⟨_, _, rfl⟩ (by decide) (Nat.le_of_ble_eq_true rfl) ⟨by decide, by decide⟩ rfl (fun v1 m2 h => ?_)
    refine q_iload_n (M := md_X10_fewest) (pc := 17) dX10_fewest_17 rfl ?_
    refine e_icmp_gt (M := md_X10_fewest) (pc := 18) (tgt := 23) h rfl rfl dX10_fewest_18 (by decide) (fun h => ?_) (fun h => ?_)
    · refine e_inc (M := md_X10_fewest) (pc := 23) (x := l3) (ls' := [q_A 0, q_I l1, q_I l2, q_I (l3 + 1)]) dX10_fewest_23 rfl (by decide) (q_pl rfl) rfl ?_
      refine q_goto (M := md_X10_fewest) (pc := 26) (tgt := 2) dX10_fewest_26 (by decide) ?_
      exact q_weak (hk2 _ _ _ _  h) ⟨Or.inr rfl, Or.inr rfl, Or.inr rfl, Or.inr rfl, trivial⟩
    · refine q_iload_n (M := md_X10_fewest) (pc := 21) dX10_fewest_21 rfl ?_
      exact e_iret (M := md_X10_fewest) (pc := 22) h rfl dX10_fewest_22
def f_PG_fewest_l2 : Nat → Int → Int → Int → q_Mem → q_Res
  | 0 => fun _ _ _ _ => none
  | n + 1 => fun l1 l2 l3 m => f_PG_fewest_b2 (f_PG_fewest_l2 n) l1 l2 l3 m
theorem w_PG_fewest_l2 {r : Int × q_Mem} {N : Nat} (hN : 81 ≤ N) : ∀ (n : Nat) (l1 l2 l3 : Int) (m : q_Mem), f_PG_fewest_l2 n l1 l2 l3 m = some r → q_E md_X10_fewest 3 N (some 0) r m 2 [q_A 0, q_I l1, q_I l2, q_I l3] [] := by
  intro n
  induction n with
  | zero => intro l1 l2 l3 m h; exact q_no h
  | succ n ih =>
    intro l1 l2 l3 m h
    exact w_PG_fewest_b2 hN (fun l1 l2 l3 m h => ih l1 l2 l3 m h) h
def f_PG_fewest (l1 l2 : Int) (m : q_Mem) : q_Res :=
  f_PG_fewest_l2 q_F l1 l2 1 m
set_option maxRecDepth 20000 in
theorem ok_X10_fewest {l1 l2 : Int} {r : Int × q_Mem} {m : q_Mem} {N : Nat} (hN : 81 ≤ N) (h : f_PG_fewest l1 l2 m = some r) : q_C md_X10_fewest (q_room 3) 0 0 [q_A 0, q_I l1, q_I l2] (q_g N) m (some (q_I r.1), q_g N, r.2) := by
  refine q_ofR (by decide) 1 (ls := [q_A 0, q_I l1, q_I l2, q_N]) rfl (Nat.le_of_ble_eq_true rfl) ?_
  change q_E md_X10_fewest 3 N (some 0) r m 0 [q_A 0, q_I l1, q_I l2, q_N] []
  unfold f_PG_fewest at h
  refine q_iconst (M := md_X10_fewest) (pc := 0) dX10_fewest_0 ?_
  refine e_ist_n (M := md_X10_fewest) (pc := 1) (ls' := [q_A 0, q_I l1, q_I l2, q_I 1]) dX10_fewest_1 (by decide) (q_pl rfl) rfl ?_
  exact q_weak (w_PG_fewest_l2 hN q_F _ _ _ _  h) ⟨Or.inr rfl, Or.inr rfl, Or.inr rfl, Or.inr rfl, trivial⟩
def f_PG_height (l1 l2 : Int) (m : q_Mem) : q_Res :=
  q_lt (m 0 1) fun v1 => q_one q_Lp v1 <|
  q_bd (f_Loop_isInside v1 l1 l2 m) fun v2 m3 =>
  if q_w v2 = 0 then (q_rt (-1) m3)
  else (q_rd m3 55 100 ((l1 * 10) + l2) fun v4 =>
  q_rt v4 m3)
set_option maxRecDepth 20000 in
theorem ok_X10_height {l1 l2 : Int} {r : Int × q_Mem} {m : q_Mem} {N : Nat} (hN : 81 ≤ N) (h : f_PG_height l1 l2 m = some r) : q_C md_X10_height (q_room 2) 0 0 [q_A 0, q_I l1, q_I l2] (q_g N) m (some (q_I r.1), q_g N, r.2) := by
  refine q_ofR (by decide) 0 (ls := [q_A 0, q_I l1, q_I l2]) rfl (Nat.le_of_ble_eq_true rfl) ?_
  change q_E md_X10_height 2 N (some 0) r m 0 [q_A 0, q_I l1, q_I l2] []
  unfold f_PG_height at h
  refine q_aload_n (M := md_X10_height) (pc := 0) dX10_height_0 rfl (by decide) ?_
  refine e_gR (M := md_X10_height) (pc := 1) h fl_10_19 dX10_height_1 (is_0 hN) rfl (fun v1 hv1 h => ?_)
  refine q_iload_n (M := md_X10_height) (pc := 4) dX10_height_4 rfl ?_
  refine q_iload_n (M := md_X10_height) (pc := 5) dX10_height_5 rfl ?_
  refine e_callVi (M := md_X10_height) (pc := 6) (d' := 1) (av := [q_I l1, q_I l2]) (c := v1) h ml_10_192 im_X2_isInside se_X2_isInside dX10_height_6 (fun v he => ok_X2_isInside hN hv1 he) rfl (is_Lp hN hv1) ⟨_, _, rfl⟩ (by decide) (Nat.le_of_ble_eq_true rfl) ⟨by decide, by decide⟩ rfl (fun v2 m3 h => ?_)
  refine e_if_eq (M := md_X10_height) (pc := 9) (tgt := 29) h rfl dX10_height_9 (by decide) (fun h => ?_) (fun h => ?_)
  · refine q_iconst (M := md_X10_height) (pc := 29) dX10_height_29 ?_
    exact e_iret (M := md_X10_height) (pc := 30) h rfl dX10_height_30
  · refine q_aload_n (M := md_X10_height) (pc := 12) dX10_height_12 rfl (by decide) ?_
    refine q_getP (M := md_X10_height) (pc := 13) (v := 53) fl_10_55 dX10_height_13 (is_0 hN) rfl ?_
    refine q_getP (M := md_X10_height) (pc := 16) (v := 55) fl_10_300 dX10_height_16 (is_53 hN) rfl ?_
    refine q_iload_n (M := md_X10_height) (pc := 19) dX10_height_19 rfl ?_
    refine q_bipush (M := md_X10_height) (pc := 20) (x := 10) dX10_height_20 (by decide) ?_
    refine q_imul (M := md_X10_height) (pc := 22) dX10_height_22 ?_
    refine q_iload_n (M := md_X10_height) (pc := 23) dX10_height_23 rfl ?_
    refine q_iadd (M := md_X10_height) (pc := 24) dX10_height_24 ?_
    refine e_rd (M := md_X10_height) (pc := 25) h dX10_height_25 (ar_55 hN) (fun v4 h => ?_)
    refine q_goto (M := md_X10_height) (pc := 26) (tgt := 30) dX10_height_26 (by decide) ?_
    exact e_iret (M := md_X10_height) (pc := 30) h rfl dX10_height_30
def f_PG_critical (m : q_Mem) : q_Res :=
  q_bd (f_Web_onLongestRow m) fun v1 m2 =>
  q_rt v1 m2
set_option maxRecDepth 20000 in
theorem ok_X10_critical {r : Int × q_Mem} {m : q_Mem} {N : Nat} (hN : 81 ≤ N) (h : f_PG_critical m = some r) : q_C md_X10_critical (q_room 2) 0 0 [q_A 0] (q_g N) m (some (q_I r.1), q_g N, r.2) := by
  refine q_ofR (by decide) 0 (ls := [q_A 0]) rfl (Nat.le_of_ble_eq_true rfl) ?_
  change q_E md_X10_critical 2 N (some 0) r m 0 [q_A 0] []
  unfold f_PG_critical at h
  refine q_aload_n (M := md_X10_critical) (pc := 0) dX10_critical_0 rfl (by decide) ?_
  refine q_getP (M := md_X10_critical) (pc := 1) (v := 53) fl_10_55 dX10_critical_1 (is_0 hN) rfl ?_
  refine e_callVi (M := md_X10_critical) (pc := 4) (d' := 1) (av := []) (c := 53) h ml_10_303 im_X9_onLongestRow se_X9_onLongestRow dX10_critical_4 (fun v he => ok_X9_onLongestRow hN  he) rfl (is_53 hN) ⟨_, _, rfl⟩ (by decide) (Nat.le_of_ble_eq_true rfl) ⟨by decide, by decide⟩ rfl (fun v1 m2 h => ?_)
  exact e_iret (M := md_X10_critical) (pc := 7) h rfl dX10_critical_7
def f_PG_wrongAt_b56 (k8 : Int → Int → Int → q_Mem → q_Res) (l1 l2 l3 : Int) (m : q_Mem) : q_Res :=
  k8 l1 l2 (l3 + 1) m
set_option maxRecDepth 20000 in
theorem w_PG_wrongAt_b56 {k8 : Int → Int → Int → q_Mem → q_Res} {l1 l2 l3 : Int} {r : Int × q_Mem} {m : q_Mem} {N : Nat} (hN : 81 ≤ N) (hk8 : ∀ (l1 l2 l3 : Int) (m : q_Mem), k8 l1 l2 l3 m = some r → q_E md_X10_wrongAt 7 N (some 0) r m 8 [q_A 0, q_I l1, q_I l2, q_I l3, q_N] []) (h : f_PG_wrongAt_b56 k8 l1 l2 l3 m = some r) : q_E md_X10_wrongAt 7 N (some 0) r m 56 [q_A 0, q_I l1, q_I l2, q_I l3, q_N] [] := by
  unfold f_PG_wrongAt_b56 at h
  refine e_inc (M := md_X10_wrongAt) (pc := 56) (x := l3) (ls' := [q_A 0, q_I l1, q_I l2, q_I (l3 + 1), q_N]) dX10_wrongAt_56 rfl (by decide) (q_pl rfl) rfl ?_
  refine q_goto (M := md_X10_wrongAt) (pc := 59) (tgt := 8) dX10_wrongAt_59 (by decide) ?_
  exact q_weak (hk8 _ _ _ _  h) ⟨Or.inr rfl, Or.inr rfl, Or.inr rfl, Or.inr rfl, Or.inl rfl, trivial⟩
def f_PG_wrongAt_b8 (k8 : Int → Int → Int → q_Mem → q_Res) (l1 l2 l3 : Int) (m : q_Mem) : q_Res :=
  q_lt (m 0 1) fun v1 => q_one q_Lp v1 <|
  q_bd (f_Loop_points v1 m) fun v2 m3 =>
  if q_w v2 ≤ q_w l3 then (q_rt (-1) m3)
  else (q_lt (m3 0 1) fun v4 => q_one q_Lp v4 <|
  q_bd (f_Loop_pointAt v4 l3 m3) fun v5 m6 =>
  q_bd (f_PG_isWrong v5 75 m6) fun v7 m8 =>
  if q_w v7 = 0 then (f_PG_wrongAt_b56 k8 l1 l2 l3 m8)
  else (if q_w l2 = q_w l1 then (q_rt v5 m8)
  else (f_PG_wrongAt_b56 k8 l1 (l2 + 1) l3 m8)))
set_option maxRecDepth 20000 in
theorem w_PG_wrongAt_b8 {k8 : Int → Int → Int → q_Mem → q_Res} {l1 l2 l3 : Int} {r : Int × q_Mem} {m : q_Mem} {N : Nat} (hN : 81 ≤ N) (hk8 : ∀ (l1 l2 l3 : Int) (m : q_Mem), k8 l1 l2 l3 m = some r → q_E md_X10_wrongAt 7 N (some 0) r m 8 [q_A 0, q_I l1, q_I l2, q_I l3, q_N] []) (h : f_PG_wrongAt_b8 k8 l1 l2 l3 m = some r) : q_E md_X10_wrongAt 7 N (some 0) r m 8 [q_A 0, q_I l1, q_I l2, q_I l3, q_N] [] := by
  unfold f_PG_wrongAt_b8 at h
  refine q_iload_n (M := md_X10_wrongAt) (pc := 8) dX10_wrongAt_8 rfl ?_
  refine q_aload_n (M := md_X10_wrongAt) (pc := 9) dX10_wrongAt_9 rfl (by decide) ?_
  refine e_gR (M := md_X10_wrongAt) (pc := 10) h fl_10_19 dX10_wrongAt_10 (is_0 hN) rfl (fun v1 hv1 h => ?_)
  refine e_callVi (M := md_X10_wrongAt) (pc := 13) (d' := 1) (av := []) (c := v1) h ml_10_211 im_X2_points se_X2_points dX10_wrongAt_13 (fun v he => ok_X2_points hN hv1 he) rfl (is_Lp hN hv1) ⟨_, _, rfl⟩ (by decide) (Nat.le_of_ble_eq_true rfl) ⟨by decide, by decide⟩ rfl (fun v2 m3 h => ?_)
  refine e_icmp_ge (M := md_X10_wrongAt) (pc := 16) (tgt := 62) h rfl rfl dX10_wrongAt_16 (by decide) (fun h => ?_) (fun h => ?_)
  · refine q_iconst (M := md_X10_wrongAt) (pc := 62) dX10_wrongAt_62 ?_
    exact e_iret (M := md_X10_wrongAt) (pc := 63) h rfl dX10_wrongAt_63
  · refine q_aload_n (M := md_X10_wrongAt) (pc := 19) dX10_wrongAt_19 rfl (by decide) ?_
    refine e_gR (M := md_X10_wrongAt) (pc := 20) h fl_10_19 dX10_wrongAt_20 (is_0 hN) rfl (fun v4 hv4 h => ?_)
    refine q_iload_n (M := md_X10_wrongAt) (pc := 23) dX10_wrongAt_23 rfl ?_
    refine e_callVi (M := md_X10_wrongAt) (pc := 24) (d' := 1) (av := [q_I l3]) (c := v4) h ml_10_215 im_X2_pointAt se_X2_pointAt dX10_wrongAt_24 (fun v he => ok_X2_pointAt hN hv4 he) rfl (is_Lp hN hv4) ⟨_, _, rfl⟩ (by decide) (Nat.le_of_ble_eq_true rfl) ⟨by decide, by decide⟩ rfl (fun v5 m6 h => ?_)
    refine e_ist (M := md_X10_wrongAt) (pc := 27) (ls' := [q_A 0, q_I l1, q_I l2, q_I l3, q_I v5]) dX10_wrongAt_27 (by decide) (q_pl rfl) rfl ?_
    refine q_aload_n (M := md_X10_wrongAt) (pc := 29) dX10_wrongAt_29 rfl (by decide) ?_
    refine q_iload (M := md_X10_wrongAt) (pc := 30) dX10_wrongAt_30 rfl ?_
    refine q_aload_n (M := md_X10_wrongAt) (pc := 32) dX10_wrongAt_32 rfl (by decide) ?_
    refine q_getP (M := md_X10_wrongAt) (pc := 33) (v := 75) fl_10_84 dX10_wrongAt_33 (is_0 hN) rfl ?_
    refine e_callVi (M := md_X10_wrongAt) (pc := 36) (d' := 2) (av := [q_I v5, q_A 75]) (c := 0) h ml_10_306 im_X10_isWrong se_X10_isWrong dX10_wrongAt_36 (fun v he => ok_X10_isWrong hN (by decide) he) rfl (is_0 hN) ⟨_, _, rfl⟩ (by decide) (Nat.le_of_ble_eq_true rfl) ⟨by decide, by decide⟩ rfl (fun v7 m8 h => ?_)
    refine e_if_ne (M := md_X10_wrongAt) (pc := 39) (tgt := 45) h rfl dX10_wrongAt_39 (by decide) (fun h => ?_) (fun h => ?_)
    · refine q_iload_n (M := md_X10_wrongAt) (pc := 45) dX10_wrongAt_45 rfl ?_
      refine q_iload_n (M := md_X10_wrongAt) (pc := 46) dX10_wrongAt_46 rfl ?_
      refine e_icmp_ne (M := md_X10_wrongAt) (pc := 47) (tgt := 53) h rfl rfl dX10_wrongAt_47 (by decide) (fun h => ?_) (fun h => ?_)
      · refine e_inc (M := md_X10_wrongAt) (pc := 53) (x := l2) (ls' := [q_A 0, q_I l1, q_I (l2 + 1), q_I l3, q_I v5]) dX10_wrongAt_53 rfl (by decide) (q_pl rfl) rfl ?_
        exact q_weak (w_PG_wrongAt_b56 hN hk8  h) ⟨Or.inr rfl, Or.inr rfl, Or.inr rfl, Or.inr rfl, Or.inl rfl, trivial⟩
      · refine q_iload (M := md_X10_wrongAt) (pc := 50) dX10_wrongAt_50 rfl ?_
        exact e_iret (M := md_X10_wrongAt) (pc := 52) h rfl dX10_wrongAt_52
    · refine q_goto (M := md_X10_wrongAt) (pc := 42) (tgt := 56) dX10_wrongAt_42 (by decide) ?_
      exact q_weak (w_PG_wrongAt_b56 hN hk8  h) ⟨Or.inr rfl, Or.inr rfl, Or.inr rfl, Or.inr rfl, Or.inl rfl, trivial⟩
def f_PG_wrongAt_l8 : Nat → Int → Int → Int → q_Mem → q_Res
  | 0 => fun _ _ _ _ => none
  | n + 1 => fun l1 l2 l3 m => f_PG_wrongAt_b8 (f_PG_wrongAt_l8 n) l1 l2 l3 m
theorem w_PG_wrongAt_l8 {r : Int × q_Mem} {N : Nat} (hN : 81 ≤ N) : ∀ (n : Nat) (l1 l2 l3 : Int) (m : q_Mem), f_PG_wrongAt_l8 n l1 l2 l3 m = some r → q_E md_X10_wrongAt 7 N (some 0) r m 8 [q_A 0, q_I l1, q_I l2, q_I l3, q_N] [] := by
  intro n
  induction n with
  | zero => intro l1 l2 l3 m h; exact q_no h
  | succ n ih =>
    intro l1 l2 l3 m h
    exact w_PG_wrongAt_b8 hN (fun l1 l2 l3 m h => ih l1 l2 l3 m h) h
def f_PG_wrongAt (l1 : Int) (m : q_Mem) : q_Res :=
  q_bd (f_PG_freshenRun m) fun _ m1 =>
  f_PG_wrongAt_l8 q_F l1 0 0 m1
set_option maxRecDepth 20000 in
theorem ok_X10_wrongAt {l1 : Int} {r : Int × q_Mem} {m : q_Mem} {N : Nat} (hN : 81 ≤ N) (h : f_PG_wrongAt l1 m = some r) : q_C md_X10_wrongAt (q_room 7) 0 0 [q_A 0, q_I l1] (q_g N) m (some (q_I r.1), q_g N, r.2) := by
  refine q_ofR (by decide) 3 (ls := [q_A 0, q_I l1, q_N, q_N, q_N]) rfl (Nat.le_of_ble_eq_true rfl) ?_
  change q_E md_X10_wrongAt 7 N (some 0) r m 0 [q_A 0, q_I l1, q_N, q_N, q_N] []
  unfold f_PG_wrongAt at h
  refine q_aload_n (M := md_X10_wrongAt) (pc := 0) dX10_wrongAt_0 rfl (by decide) ?_
  refine e_callVv (M := md_X10_wrongAt) (pc := 1) (d' := 6) (av := []) (c := 0) h ml_10_198 im_X10_freshenRun se_X10_freshenRun dX10_wrongAt_1 (fun v he => ok_X10_freshenRun hN  he) rfl (is_0 hN) ⟨_, _, rfl⟩ (by decide) (Nat.le_of_ble_eq_true rfl) ⟨by decide, by decide⟩ rfl (fun _ m1 h => ?_)
  refine q_iconst (M := md_X10_wrongAt) (pc := 4) dX10_wrongAt_4 ?_
  refine e_ist_n (M := md_X10_wrongAt) (pc := 5) (ls' := [q_A 0, q_I l1, q_I 0, q_N, q_N]) dX10_wrongAt_5 (by decide) (q_pl rfl) rfl ?_
  refine q_iconst (M := md_X10_wrongAt) (pc := 6) dX10_wrongAt_6 ?_
  refine e_ist_n (M := md_X10_wrongAt) (pc := 7) (ls' := [q_A 0, q_I l1, q_I 0, q_I 0, q_N]) dX10_wrongAt_7 (by decide) (q_pl rfl) rfl ?_
  exact q_weak (w_PG_wrongAt_l8 hN q_F _ _ _ _  h) ⟨Or.inr rfl, Or.inr rfl, Or.inr rfl, Or.inr rfl, Or.inl rfl, trivial⟩
def f_PG_peak (l1 : Int) (m : q_Mem) : q_Res :=
  if q_w l1 = 0 then (q_bd (f_Plac_fullestTick m) fun v2 m3 =>
  q_rt v2 m3)
  else if q_w l1 = 1 then (q_bd (f_Plac_fullestTick m) fun v5 m6 =>
  q_rd m6 65 163 v5 fun v7 =>
  q_rt v7 m6)
  else if q_w l1 = 2 then (q_bd (f_Plac_emptyTicks m) fun v9 m10 =>
  q_rt v9 m10)
  else (q_rt (-1) m)
set_option maxRecDepth 20000 in
theorem ok_X10_peak {l1 : Int} {r : Int × q_Mem} {m : q_Mem} {N : Nat} (hN : 81 ≤ N) (h : f_PG_peak l1 m = some r) : q_C md_X10_peak (q_room 2) 0 0 [q_A 0, q_I l1] (q_g N) m (some (q_I r.1), q_g N, r.2) := by
  refine q_ofR (by decide) 0 (ls := [q_A 0, q_I l1]) rfl (Nat.le_of_ble_eq_true rfl) ?_
  change q_E md_X10_peak 2 N (some 0) r m 0 [q_A 0, q_I l1] []
  unfold f_PG_peak at h
  refine q_iload_n (M := md_X10_peak) (pc := 0) dX10_peak_0 rfl ?_
  by_cases c1 : q_w l1 = 0
  · rw [if_pos c1] at h
    refine q_tabIn (M := md_X10_peak) (pc := 1) (tgt := 28) dX10_peak_1 (by rw [c1] <;> decide) (by rw [c1] <;> decide) (by rw [c1] <;> rfl) (by decide) ?_
    refine q_aload_n (M := md_X10_peak) (pc := 28) dX10_peak_28 rfl (by decide) ?_
    refine q_getP (M := md_X10_peak) (pc := 29) (v := 60) fl_10_62 dX10_peak_29 (is_0 hN) rfl ?_
    refine e_callVi (M := md_X10_peak) (pc := 32) (d' := 1) (av := []) (c := 60) h ml_10_310 im_X4_fullestTick se_X4_fullestTick dX10_peak_32 (fun v he => ok_X4_fullestTick hN  he) rfl (is_60 hN) ⟨_, _, rfl⟩ (by decide) (Nat.le_of_ble_eq_true rfl) ⟨by decide, by decide⟩ rfl (fun v2 m3 h => ?_)
    exact e_iret (M := md_X10_peak) (pc := 35) h rfl dX10_peak_35
  rw [if_neg c1] at h
  by_cases c4 : q_w l1 = 1
  · rw [if_pos c4] at h
    refine q_tabIn (M := md_X10_peak) (pc := 1) (tgt := 36) dX10_peak_1 (by rw [c4] <;> decide) (by rw [c4] <;> decide) (by rw [c4] <;> rfl) (by decide) ?_
    refine q_aload_n (M := md_X10_peak) (pc := 36) dX10_peak_36 rfl (by decide) ?_
    refine q_getP (M := md_X10_peak) (pc := 37) (v := 60) fl_10_62 dX10_peak_37 (is_0 hN) rfl ?_
    refine q_getP (M := md_X10_peak) (pc := 40) (v := 65) fl_10_222 dX10_peak_40 (is_60 hN) rfl ?_
    refine q_aload_n (M := md_X10_peak) (pc := 43) dX10_peak_43 rfl (by decide) ?_
    refine q_getP (M := md_X10_peak) (pc := 44) (v := 60) fl_10_62 dX10_peak_44 (is_0 hN) rfl ?_
    refine e_callVi (M := md_X10_peak) (pc := 47) (d' := 1) (av := []) (c := 60) h ml_10_310 im_X4_fullestTick se_X4_fullestTick dX10_peak_47 (fun v he => ok_X4_fullestTick hN  he) rfl (is_60 hN) ⟨_, _, rfl⟩ (by decide) (Nat.le_of_ble_eq_true rfl) ⟨by decide, by decide⟩ rfl (fun v5 m6 h => ?_)
    refine e_rd (M := md_X10_peak) (pc := 50) h dX10_peak_50 (ar_65 hN) (fun v7 h => ?_)
    exact e_iret (M := md_X10_peak) (pc := 51) h rfl dX10_peak_51
  rw [if_neg c4] at h
  by_cases c8 : q_w l1 = 2
  · rw [if_pos c8] at h
    refine q_tabIn (M := md_X10_peak) (pc := 1) (tgt := 52) dX10_peak_1 (by rw [c8] <;> decide) (by rw [c8] <;> decide) (by rw [c8] <;> rfl) (by decide) ?_
    refine q_aload_n (M := md_X10_peak) (pc := 52) dX10_peak_52 rfl (by decide) ?_
    refine q_getP (M := md_X10_peak) (pc := 53) (v := 60) fl_10_62 dX10_peak_53 (is_0 hN) rfl ?_
    refine e_callVi (M := md_X10_peak) (pc := 56) (d' := 1) (av := []) (c := 60) h ml_10_313 im_X4_emptyTicks se_X4_emptyTicks dX10_peak_56 (fun v he => ok_X4_emptyTicks hN  he) rfl (is_60 hN) ⟨_, _, rfl⟩ (by decide) (Nat.le_of_ble_eq_true rfl) ⟨by decide, by decide⟩ rfl (fun v9 m10 h => ?_)
    exact e_iret (M := md_X10_peak) (pc := 59) h rfl dX10_peak_59
  rw [if_neg c8] at h
  refine q_tabOut (M := md_X10_peak) (pc := 1) (tgt := 60) dX10_peak_1 (by omega) (by decide) ?_
  refine q_iconst (M := md_X10_peak) (pc := 60) dX10_peak_60 ?_
  exact e_iret (M := md_X10_peak) (pc := 61) h rfl dX10_peak_61
def f_PG_tiles (l1 l2 l3 : Int) (m : q_Mem) : q_Res :=
  if q_w l1 < 1 then (q_rt (-1) m)
  else (if 10 < q_w l1 then (q_rt (-1) m)
  else (if q_w l2 < 1 then (q_rt (-1) m)
  else (if q_w l2 ≤ 10 then (q_lt (m 0 1) fun v1 => q_one q_Lp v1 <|
  q_bd (f_Tile_cut v1 l1 l2 m) fun _ m2 =>
  if q_w l3 = 0 then (q_rt (m2 69 6) m2)
  else if q_w l3 = 1 then (q_rt (m2 69 7) m2)
  else if q_w l3 = 2 then (q_lt (m2 0 1) fun v6 => q_one q_Lp v6 <|
  q_bd (f_Tile_longestRow v6 m2) fun v7 m8 =>
  if q_w v7 ≤ 0 then (q_rt 0 m8)
  else (q_rt 1 m8))
  else if q_w l3 = 3 then (q_lt (m2 0 1) fun v10 => q_one q_Lp v10 <|
  q_bd (f_Tile_longestRow v10 m2) fun v11 m12 =>
  q_rt v11 m12)
  else (q_rt (-1) m2))
  else (q_rt (-1) m))))
set_option maxRecDepth 20000 in
theorem ok_X10_tiles {l1 l2 l3 : Int} {r : Int × q_Mem} {m : q_Mem} {N : Nat} (hN : 81 ≤ N) (h : f_PG_tiles l1 l2 l3 m = some r) : q_C md_X10_tiles (q_room 6) 0 0 [q_A 0, q_I l1, q_I l2, q_I l3] (q_g N) m (some (q_I r.1), q_g N, r.2) := by
  refine q_ofR (by decide) 0 (ls := [q_A 0, q_I l1, q_I l2, q_I l3]) rfl (Nat.le_of_ble_eq_true rfl) ?_
  change q_E md_X10_tiles 6 N (some 0) r m 0 [q_A 0, q_I l1, q_I l2, q_I l3] []
  unfold f_PG_tiles at h
  refine q_iload_n (M := md_X10_tiles) (pc := 0) dX10_tiles_0 rfl ?_
  refine q_iconst (M := md_X10_tiles) (pc := 1) dX10_tiles_1 ?_
  refine e_icmp_lt (M := md_X10_tiles) (pc := 2) (tgt := 22) h rfl (q_wlit rfl) dX10_tiles_2 (by decide) (fun h => ?_) (fun h => ?_)
  · refine q_iconst (M := md_X10_tiles) (pc := 22) dX10_tiles_22 ?_
    exact e_iret (M := md_X10_tiles) (pc := 23) h rfl dX10_tiles_23
  · refine q_iload_n (M := md_X10_tiles) (pc := 5) dX10_tiles_5 rfl ?_
    refine q_bipush (M := md_X10_tiles) (pc := 6) (x := 10) dX10_tiles_6 (by decide) ?_
    refine e_icmp_gt (M := md_X10_tiles) (pc := 8) (tgt := 22) h rfl (q_wlit rfl) dX10_tiles_8 (by decide) (fun h => ?_) (fun h => ?_)
    · refine q_iconst (M := md_X10_tiles) (pc := 22) dX10_tiles_22 ?_
      exact e_iret (M := md_X10_tiles) (pc := 23) h rfl dX10_tiles_23
    · refine q_iload_n (M := md_X10_tiles) (pc := 11) dX10_tiles_11 rfl ?_
      refine q_iconst (M := md_X10_tiles) (pc := 12) dX10_tiles_12 ?_
      refine e_icmp_lt (M := md_X10_tiles) (pc := 13) (tgt := 22) h rfl (q_wlit rfl) dX10_tiles_13 (by decide) (fun h => ?_) (fun h => ?_)
      · refine q_iconst (M := md_X10_tiles) (pc := 22) dX10_tiles_22 ?_
        exact e_iret (M := md_X10_tiles) (pc := 23) h rfl dX10_tiles_23
      · refine q_iload_n (M := md_X10_tiles) (pc := 16) dX10_tiles_16 rfl ?_
        refine q_bipush (M := md_X10_tiles) (pc := 17) (x := 10) dX10_tiles_17 (by decide) ?_
        refine e_icmp_le (M := md_X10_tiles) (pc := 19) (tgt := 24) h rfl (q_wlit rfl) dX10_tiles_19 (by decide) (fun h => ?_) (fun h => ?_)
        · refine q_aload_n (M := md_X10_tiles) (pc := 24) dX10_tiles_24 rfl (by decide) ?_
          refine q_getP (M := md_X10_tiles) (pc := 25) (v := 69) fl_10_69 dX10_tiles_25 (is_0 hN) rfl ?_
          refine q_aload_n (M := md_X10_tiles) (pc := 28) dX10_tiles_28 rfl (by decide) ?_
          refine e_gR (M := md_X10_tiles) (pc := 29) h fl_10_19 dX10_tiles_29 (is_0 hN) rfl (fun v1 hv1 h => ?_)
          refine q_iload_n (M := md_X10_tiles) (pc := 32) dX10_tiles_32 rfl ?_
          refine q_iload_n (M := md_X10_tiles) (pc := 33) dX10_tiles_33 rfl ?_
          refine e_callVv (M := md_X10_tiles) (pc := 34) (d' := 2) (av := [q_A v1, q_I l1, q_I l2]) (c := 69) h ml_10_316 im_X8_cut se_X8_cut dX10_tiles_34 (fun v he => ok_X8_cut hN hv1 he) rfl (is_69 hN) ⟨_, _, rfl⟩ (by decide) (Nat.le_of_ble_eq_true rfl) ⟨by decide, by decide⟩ rfl (fun _ m2 h => ?_)
          refine q_iload_n (M := md_X10_tiles) (pc := 37) dX10_tiles_37 rfl ?_
          by_cases c3 : q_w l3 = 0
          · rw [if_pos c3] at h
            refine q_tabIn (M := md_X10_tiles) (pc := 38) (tgt := 68) dX10_tiles_38 (by rw [c3] <;> decide) (by rw [c3] <;> decide) (by rw [c3] <;> rfl) (by decide) ?_
            refine q_aload_n (M := md_X10_tiles) (pc := 68) dX10_tiles_68 rfl (by decide) ?_
            refine q_getP (M := md_X10_tiles) (pc := 69) (v := 69) fl_10_69 dX10_tiles_69 (is_0 hN) rfl ?_
            refine e_gI (M := md_X10_tiles) (pc := 72) (v := m2 69 6) fl_10_320 dX10_tiles_72 (is_69 hN) rfl ?_
            exact e_iret (M := md_X10_tiles) (pc := 75) h rfl dX10_tiles_75
          rw [if_neg c3] at h
          by_cases c4 : q_w l3 = 1
          · rw [if_pos c4] at h
            refine q_tabIn (M := md_X10_tiles) (pc := 38) (tgt := 76) dX10_tiles_38 (by rw [c4] <;> decide) (by rw [c4] <;> decide) (by rw [c4] <;> rfl) (by decide) ?_
            refine q_aload_n (M := md_X10_tiles) (pc := 76) dX10_tiles_76 rfl (by decide) ?_
            refine q_getP (M := md_X10_tiles) (pc := 77) (v := 69) fl_10_69 dX10_tiles_77 (is_0 hN) rfl ?_
            refine e_gI (M := md_X10_tiles) (pc := 80) (v := m2 69 7) fl_10_323 dX10_tiles_80 (is_69 hN) rfl ?_
            exact e_iret (M := md_X10_tiles) (pc := 83) h rfl dX10_tiles_83
          rw [if_neg c4] at h
          by_cases c5 : q_w l3 = 2
          · rw [if_pos c5] at h
            refine q_tabIn (M := md_X10_tiles) (pc := 38) (tgt := 84) dX10_tiles_38 (by rw [c5] <;> decide) (by rw [c5] <;> decide) (by rw [c5] <;> rfl) (by decide) ?_
            refine q_aload_n (M := md_X10_tiles) (pc := 84) dX10_tiles_84 rfl (by decide) ?_
            refine q_getP (M := md_X10_tiles) (pc := 85) (v := 69) fl_10_69 dX10_tiles_85 (is_0 hN) rfl ?_
            refine q_aload_n (M := md_X10_tiles) (pc := 88) dX10_tiles_88 rfl (by decide) ?_
            refine e_gR (M := md_X10_tiles) (pc := 89) h fl_10_19 dX10_tiles_89 (is_0 hN) rfl (fun v6 hv6 h => ?_)
            refine e_callVi (M := md_X10_tiles) (pc := 92) (d' := 5) (av := [q_A v6]) (c := 69) h ml_10_326 im_X8_longestRow se_X8_longestRow dX10_tiles_92 (fun v he => ok_X8_longestRow hN hv6 he) rfl (is_69 hN) ⟨_, _, rfl⟩ (by decide) (Nat.le_of_ble_eq_true rfl) ⟨by decide, by decide⟩ rfl (fun v7 m8 h => ?_)
            refine e_if_le (M := md_X10_tiles) (pc := 95) (tgt := 102) h rfl dX10_tiles_95 (by decide) (fun h => ?_) (fun h => ?_)
            · refine q_iconst (M := md_X10_tiles) (pc := 102) dX10_tiles_102 ?_
              exact e_iret (M := md_X10_tiles) (pc := 103) h rfl dX10_tiles_103
            · refine q_iconst (M := md_X10_tiles) (pc := 98) dX10_tiles_98 ?_
              refine q_goto (M := md_X10_tiles) (pc := 99) (tgt := 103) dX10_tiles_99 (by decide) ?_
              exact e_iret (M := md_X10_tiles) (pc := 103) h rfl dX10_tiles_103
          rw [if_neg c5] at h
          by_cases c9 : q_w l3 = 3
          · rw [if_pos c9] at h
            refine q_tabIn (M := md_X10_tiles) (pc := 38) (tgt := 104) dX10_tiles_38 (by rw [c9] <;> decide) (by rw [c9] <;> decide) (by rw [c9] <;> rfl) (by decide) ?_
            refine q_aload_n (M := md_X10_tiles) (pc := 104) dX10_tiles_104 rfl (by decide) ?_
            refine q_getP (M := md_X10_tiles) (pc := 105) (v := 69) fl_10_69 dX10_tiles_105 (is_0 hN) rfl ?_
            refine q_aload_n (M := md_X10_tiles) (pc := 108) dX10_tiles_108 rfl (by decide) ?_
            refine e_gR (M := md_X10_tiles) (pc := 109) h fl_10_19 dX10_tiles_109 (is_0 hN) rfl (fun v10 hv10 h => ?_)
            refine e_callVi (M := md_X10_tiles) (pc := 112) (d' := 5) (av := [q_A v10]) (c := 69) h ml_10_326 im_X8_longestRow se_X8_longestRow dX10_tiles_112 (fun v he => ok_X8_longestRow hN hv10 he) rfl (is_69 hN) ⟨_, _, rfl⟩ (by decide) (Nat.le_of_ble_eq_true rfl) ⟨by decide, by decide⟩ rfl (fun v11 m12 h => ?_)
            exact e_iret (M := md_X10_tiles) (pc := 115) h rfl dX10_tiles_115
          rw [if_neg c9] at h
          refine q_tabOut (M := md_X10_tiles) (pc := 38) (tgt := 116) dX10_tiles_38 (by omega) (by decide) ?_
          refine q_iconst (M := md_X10_tiles) (pc := 116) dX10_tiles_116 ?_
          exact e_iret (M := md_X10_tiles) (pc := 117) h rfl dX10_tiles_117
        · refine q_iconst (M := md_X10_tiles) (pc := 22) dX10_tiles_22 ?_
          exact e_iret (M := md_X10_tiles) (pc := 23) h rfl dX10_tiles_23
def f_PG_tiling (l1 l2 : Int) (m : q_Mem) : q_Res :=
  if q_w l1 < 1 then (q_rt (-1) m)
  else (if 100 < q_w l1 then (q_rt (-1) m)
  else (q_lt (m 0 1) fun v1 => q_one q_Lp v1 <|
  q_bd (f_Tile_choose v1 l1 m) fun v2 m3 =>
  if q_w v2 = 0 then (q_rt (-1) m3)
  else (if q_w l2 = 0 then (q_rt (m3 69 9) m3)
  else if q_w l2 = 1 then (q_rt (m3 69 10) m3)
  else if q_w l2 = 2 then (q_rt (m3 69 11) m3)
  else (q_rt (-1) m3))))
set_option maxRecDepth 20000 in
theorem ok_X10_tiling {l1 l2 : Int} {r : Int × q_Mem} {m : q_Mem} {N : Nat} (hN : 81 ≤ N) (h : f_PG_tiling l1 l2 m = some r) : q_C md_X10_tiling (q_room 7) 0 0 [q_A 0, q_I l1, q_I l2] (q_g N) m (some (q_I r.1), q_g N, r.2) := by
  refine q_ofR (by decide) 0 (ls := [q_A 0, q_I l1, q_I l2]) rfl (Nat.le_of_ble_eq_true rfl) ?_
  change q_E md_X10_tiling 7 N (some 0) r m 0 [q_A 0, q_I l1, q_I l2] []
  unfold f_PG_tiling at h
  refine q_iload_n (M := md_X10_tiling) (pc := 0) dX10_tiling_0 rfl ?_
  refine q_iconst (M := md_X10_tiling) (pc := 1) dX10_tiling_1 ?_
  refine e_icmp_lt (M := md_X10_tiling) (pc := 2) (tgt := 26) h rfl (q_wlit rfl) dX10_tiling_2 (by decide) (fun h => ?_) (fun h => ?_)
  · refine q_iconst (M := md_X10_tiling) (pc := 26) dX10_tiling_26 ?_
    exact e_iret (M := md_X10_tiling) (pc := 27) h rfl dX10_tiling_27
  · refine q_iload_n (M := md_X10_tiling) (pc := 5) dX10_tiling_5 rfl ?_
    refine q_bipush (M := md_X10_tiling) (pc := 6) (x := 100) dX10_tiling_6 (by decide) ?_
    refine e_icmp_gt (M := md_X10_tiling) (pc := 8) (tgt := 26) h rfl (q_wlit rfl) dX10_tiling_8 (by decide) (fun h => ?_) (fun h => ?_)
    · refine q_iconst (M := md_X10_tiling) (pc := 26) dX10_tiling_26 ?_
      exact e_iret (M := md_X10_tiling) (pc := 27) h rfl dX10_tiling_27
    · refine q_aload_n (M := md_X10_tiling) (pc := 11) dX10_tiling_11 rfl (by decide) ?_
      refine q_getP (M := md_X10_tiling) (pc := 12) (v := 69) fl_10_69 dX10_tiling_12 (is_0 hN) rfl ?_
      refine q_aload_n (M := md_X10_tiling) (pc := 15) dX10_tiling_15 rfl (by decide) ?_
      refine e_gR (M := md_X10_tiling) (pc := 16) h fl_10_19 dX10_tiling_16 (is_0 hN) rfl (fun v1 hv1 h => ?_)
      refine q_iload_n (M := md_X10_tiling) (pc := 19) dX10_tiling_19 rfl ?_
      refine e_callVi (M := md_X10_tiling) (pc := 20) (d' := 6) (av := [q_A v1, q_I l1]) (c := 69) h ml_10_330 im_X8_choose se_X8_choose dX10_tiling_20 (fun v he => ok_X8_choose hN hv1 he) rfl (is_69 hN) ⟨_, _, rfl⟩ (by decide) (Nat.le_of_ble_eq_true rfl) ⟨by decide, by decide⟩ rfl (fun v2 m3 h => ?_)
      refine e_if_ne (M := md_X10_tiling) (pc := 23) (tgt := 28) h rfl dX10_tiling_23 (by decide) (fun h => ?_) (fun h => ?_)
      · refine q_iload_n (M := md_X10_tiling) (pc := 28) dX10_tiling_28 rfl ?_
        by_cases c4 : q_w l2 = 0
        · rw [if_pos c4] at h
          refine q_tabIn (M := md_X10_tiling) (pc := 29) (tgt := 56) dX10_tiling_29 (by rw [c4] <;> decide) (by rw [c4] <;> decide) (by rw [c4] <;> rfl) (by decide) ?_
          refine q_aload_n (M := md_X10_tiling) (pc := 56) dX10_tiling_56 rfl (by decide) ?_
          refine q_getP (M := md_X10_tiling) (pc := 57) (v := 69) fl_10_69 dX10_tiling_57 (is_0 hN) rfl ?_
          refine e_gI (M := md_X10_tiling) (pc := 60) (v := m3 69 9) fl_10_334 dX10_tiling_60 (is_69 hN) rfl ?_
          exact e_iret (M := md_X10_tiling) (pc := 63) h rfl dX10_tiling_63
        rw [if_neg c4] at h
        by_cases c5 : q_w l2 = 1
        · rw [if_pos c5] at h
          refine q_tabIn (M := md_X10_tiling) (pc := 29) (tgt := 64) dX10_tiling_29 (by rw [c5] <;> decide) (by rw [c5] <;> decide) (by rw [c5] <;> rfl) (by decide) ?_
          refine q_aload_n (M := md_X10_tiling) (pc := 64) dX10_tiling_64 rfl (by decide) ?_
          refine q_getP (M := md_X10_tiling) (pc := 65) (v := 69) fl_10_69 dX10_tiling_65 (is_0 hN) rfl ?_
          refine e_gI (M := md_X10_tiling) (pc := 68) (v := m3 69 10) fl_10_337 dX10_tiling_68 (is_69 hN) rfl ?_
          exact e_iret (M := md_X10_tiling) (pc := 71) h rfl dX10_tiling_71
        rw [if_neg c5] at h
        by_cases c6 : q_w l2 = 2
        · rw [if_pos c6] at h
          refine q_tabIn (M := md_X10_tiling) (pc := 29) (tgt := 72) dX10_tiling_29 (by rw [c6] <;> decide) (by rw [c6] <;> decide) (by rw [c6] <;> rfl) (by decide) ?_
          refine q_aload_n (M := md_X10_tiling) (pc := 72) dX10_tiling_72 rfl (by decide) ?_
          refine q_getP (M := md_X10_tiling) (pc := 73) (v := 69) fl_10_69 dX10_tiling_73 (is_0 hN) rfl ?_
          refine e_gI (M := md_X10_tiling) (pc := 76) (v := m3 69 11) fl_10_340 dX10_tiling_76 (is_69 hN) rfl ?_
          exact e_iret (M := md_X10_tiling) (pc := 79) h rfl dX10_tiling_79
        rw [if_neg c6] at h
        refine q_tabOut (M := md_X10_tiling) (pc := 29) (tgt := 80) dX10_tiling_29 (by omega) (by decide) ?_
        refine q_iconst (M := md_X10_tiling) (pc := 80) dX10_tiling_80 ?_
        exact e_iret (M := md_X10_tiling) (pc := 81) h rfl dX10_tiling_81
      · refine q_iconst (M := md_X10_tiling) (pc := 26) dX10_tiling_26 ?_
        exact e_iret (M := md_X10_tiling) (pc := 27) h rfl dX10_tiling_27
def f_PG_near (l1 l2 l3 : Int) (m : q_Mem) : q_Res :=
  q_lt (m 0 1) fun v1 => q_one q_Lp v1 <|
  q_bd (f_Loop_isInside v1 l1 l2 m) fun v2 m3 =>
  if q_w v2 = 0 then (q_rt (-1) m3)
  else (if q_w l3 = 0 then (q_lt (m3 0 1) fun v5 => q_one q_Lp v5 <|
  q_bd (f_Loop_readBy v5 ((l1 * 10) + l2) m3) fun v6 m7 =>
  q_rt v6 m7)
  else if q_w l3 = 1 then (q_lt (m3 0 1) fun v9 => q_one q_Lp v9 <|
  q_bd (f_Loop_readersOf v9 ((l1 * 10) + l2) m3) fun v10 m11 =>
  q_rt v10 m11)
  else (q_rt (-1) m3))
set_option maxRecDepth 20000 in
theorem ok_X10_near {l1 l2 l3 : Int} {r : Int × q_Mem} {m : q_Mem} {N : Nat} (hN : 81 ≤ N) (h : f_PG_near l1 l2 l3 m = some r) : q_C md_X10_near (q_room 4) 0 0 [q_A 0, q_I l1, q_I l2, q_I l3] (q_g N) m (some (q_I r.1), q_g N, r.2) := by
  refine q_ofR (by decide) 0 (ls := [q_A 0, q_I l1, q_I l2, q_I l3]) rfl (Nat.le_of_ble_eq_true rfl) ?_
  change q_E md_X10_near 4 N (some 0) r m 0 [q_A 0, q_I l1, q_I l2, q_I l3] []
  unfold f_PG_near at h
  refine q_aload_n (M := md_X10_near) (pc := 0) dX10_near_0 rfl (by decide) ?_
  refine e_gR (M := md_X10_near) (pc := 1) h fl_10_19 dX10_near_1 (is_0 hN) rfl (fun v1 hv1 h => ?_)
  refine q_iload_n (M := md_X10_near) (pc := 4) dX10_near_4 rfl ?_
  refine q_iload_n (M := md_X10_near) (pc := 5) dX10_near_5 rfl ?_
  refine e_callVi (M := md_X10_near) (pc := 6) (d' := 1) (av := [q_I l1, q_I l2]) (c := v1) h ml_10_192 im_X2_isInside se_X2_isInside dX10_near_6 (fun v he => ok_X2_isInside hN hv1 he) rfl (is_Lp hN hv1) ⟨_, _, rfl⟩ (by decide) (Nat.le_of_ble_eq_true rfl) ⟨by decide, by decide⟩ rfl (fun v2 m3 h => ?_)
  refine e_if_ne (M := md_X10_near) (pc := 9) (tgt := 14) h rfl dX10_near_9 (by decide) (fun h => ?_) (fun h => ?_)
  · refine q_iload_n (M := md_X10_near) (pc := 14) dX10_near_14 rfl ?_
    by_cases c4 : q_w l3 = 0
    · rw [if_pos c4] at h
      refine q_lookup (M := md_X10_near) (pc := 15) (tgt := 40) dX10_near_15 (by decide) (by rw [c4] <;> decide) (by decide) ?_
      refine q_aload_n (M := md_X10_near) (pc := 40) dX10_near_40 rfl (by decide) ?_
      refine e_gR (M := md_X10_near) (pc := 41) h fl_10_19 dX10_near_41 (is_0 hN) rfl (fun v5 hv5 h => ?_)
      refine q_iload_n (M := md_X10_near) (pc := 44) dX10_near_44 rfl ?_
      refine q_bipush (M := md_X10_near) (pc := 45) (x := 10) dX10_near_45 (by decide) ?_
      refine q_imul (M := md_X10_near) (pc := 47) dX10_near_47 ?_
      refine q_iload_n (M := md_X10_near) (pc := 48) dX10_near_48 rfl ?_
      refine q_iadd (M := md_X10_near) (pc := 49) dX10_near_49 ?_
      refine e_callVi (M := md_X10_near) (pc := 50) (d' := 3) (av := [q_I ((l1 * 10) + l2)]) (c := v5) h ml_10_343 im_X2_readBy se_X2_readBy dX10_near_50 (fun v he => ok_X2_readBy hN hv5 he) rfl (is_Lp hN hv5) ⟨_, _, rfl⟩ (by decide) (Nat.le_of_ble_eq_true rfl) ⟨by decide, by decide⟩ rfl (fun v6 m7 h => ?_)
      exact e_iret (M := md_X10_near) (pc := 53) h rfl dX10_near_53
    rw [if_neg c4] at h
    by_cases c8 : q_w l3 = 1
    · rw [if_pos c8] at h
      refine q_lookup (M := md_X10_near) (pc := 15) (tgt := 54) dX10_near_15 (by decide) (by rw [c8] <;> decide) (by decide) ?_
      refine q_aload_n (M := md_X10_near) (pc := 54) dX10_near_54 rfl (by decide) ?_
      refine e_gR (M := md_X10_near) (pc := 55) h fl_10_19 dX10_near_55 (is_0 hN) rfl (fun v9 hv9 h => ?_)
      refine q_iload_n (M := md_X10_near) (pc := 58) dX10_near_58 rfl ?_
      refine q_bipush (M := md_X10_near) (pc := 59) (x := 10) dX10_near_59 (by decide) ?_
      refine q_imul (M := md_X10_near) (pc := 61) dX10_near_61 ?_
      refine q_iload_n (M := md_X10_near) (pc := 62) dX10_near_62 rfl ?_
      refine q_iadd (M := md_X10_near) (pc := 63) dX10_near_63 ?_
      refine e_callVi (M := md_X10_near) (pc := 64) (d' := 3) (av := [q_I ((l1 * 10) + l2)]) (c := v9) h ml_10_266 im_X2_readersOf se_X2_readersOf dX10_near_64 (fun v he => ok_X2_readersOf hN hv9 he) rfl (is_Lp hN hv9) ⟨_, _, rfl⟩ (by decide) (Nat.le_of_ble_eq_true rfl) ⟨by decide, by decide⟩ rfl (fun v10 m11 h => ?_)
      exact e_iret (M := md_X10_near) (pc := 67) h rfl dX10_near_67
    rw [if_neg c8] at h
    refine q_lookup (M := md_X10_near) (pc := 15) (tgt := 68) (off := 53) dX10_near_15 (by decide) (by simp [Op.lookupswitch.offset, Ne.symm c4, Ne.symm c8]) (by decide) ?_
    refine q_iconst (M := md_X10_near) (pc := 68) dX10_near_68 ?_
    exact e_iret (M := md_X10_near) (pc := 69) h rfl dX10_near_69
  · refine q_iconst (M := md_X10_near) (pc := 12) dX10_near_12 ?_
    exact e_iret (M := md_X10_near) (pc := 13) h rfl dX10_near_13
def f_PG_idle (l1 : Int) (m : q_Mem) : q_Res :=
  q_bd (f_PG_isCell l1 m) fun v1 m2 =>
  if q_w v1 = 0 then (q_rt (-1) m2)
  else (q_bd (f_Plac_longestPause l1 m2) fun v3 m4 =>
  q_rt v3 m4)
set_option maxRecDepth 20000 in
theorem ok_X10_idle {l1 : Int} {r : Int × q_Mem} {m : q_Mem} {N : Nat} (hN : 81 ≤ N) (h : f_PG_idle l1 m = some r) : q_C md_X10_idle (q_room 3) 0 0 [q_A 0, q_I l1] (q_g N) m (some (q_I r.1), q_g N, r.2) := by
  refine q_ofR (by decide) 0 (ls := [q_A 0, q_I l1]) rfl (Nat.le_of_ble_eq_true rfl) ?_
  change q_E md_X10_idle 3 N (some 0) r m 0 [q_A 0, q_I l1] []
  unfold f_PG_idle at h
  refine q_aload_n (M := md_X10_idle) (pc := 0) dX10_idle_0 rfl (by decide) ?_
  refine q_iload_n (M := md_X10_idle) (pc := 1) dX10_idle_1 rfl ?_
  refine e_callVi (M := md_X10_idle) (pc := 2) (d' := 1) (av := [q_I l1]) (c := 0) h ml_10_166 im_X10_isCell se_X10_isCell dX10_idle_2 (fun v he => ok_X10_isCell hN  he) rfl (is_0 hN) ⟨_, _, rfl⟩ (by decide) (Nat.le_of_ble_eq_true rfl) ⟨by decide, by decide⟩ rfl (fun v1 m2 h => ?_)
  refine e_if_eq (M := md_X10_idle) (pc := 5) (tgt := 19) h rfl dX10_idle_5 (by decide) (fun h => ?_) (fun h => ?_)
  · refine q_iconst (M := md_X10_idle) (pc := 19) dX10_idle_19 ?_
    exact e_iret (M := md_X10_idle) (pc := 20) h rfl dX10_idle_20
  · refine q_aload_n (M := md_X10_idle) (pc := 8) dX10_idle_8 rfl (by decide) ?_
    refine q_getP (M := md_X10_idle) (pc := 9) (v := 60) fl_10_62 dX10_idle_9 (is_0 hN) rfl ?_
    refine q_iload_n (M := md_X10_idle) (pc := 12) dX10_idle_12 rfl ?_
    refine e_callVi (M := md_X10_idle) (pc := 13) (d' := 2) (av := [q_I l1]) (c := 60) h ml_10_346 im_X4_longestPause se_X4_longestPause dX10_idle_13 (fun v he => ok_X4_longestPause hN  he) rfl (is_60 hN) ⟨_, _, rfl⟩ (by decide) (Nat.le_of_ble_eq_true rfl) ⟨by decide, by decide⟩ rfl (fun v3 m4 h => ?_)
    refine q_goto (M := md_X10_idle) (pc := 16) (tgt := 20) dX10_idle_16 (by decide) ?_
    exact e_iret (M := md_X10_idle) (pc := 20) h rfl dX10_idle_20
def f_PG_hangs (l1 l2 : Int) (m : q_Mem) : q_Res :=
  q_lt (m 0 1) fun v1 => q_one q_Lp v1 <|
  q_bd (f_Loop_isInside v1 l1 l2 m) fun v2 m3 =>
  if q_w v2 = 0 then (q_rt (-1) m3)
  else (q_lt (m3 0 1) fun v4 => q_one q_Lp v4 <|
  q_bd (f_Web_followers v4 ((l1 * 10) + l2) m3) fun v5 m6 =>
  q_rt v5 m6)
set_option maxRecDepth 20000 in
theorem ok_X10_hangs {l1 l2 : Int} {r : Int × q_Mem} {m : q_Mem} {N : Nat} (hN : 81 ≤ N) (h : f_PG_hangs l1 l2 m = some r) : q_C md_X10_hangs (q_room 5) 0 0 [q_A 0, q_I l1, q_I l2] (q_g N) m (some (q_I r.1), q_g N, r.2) := by
  refine q_ofR (by decide) 0 (ls := [q_A 0, q_I l1, q_I l2]) rfl (Nat.le_of_ble_eq_true rfl) ?_
  change q_E md_X10_hangs 5 N (some 0) r m 0 [q_A 0, q_I l1, q_I l2] []
  unfold f_PG_hangs at h
  refine q_aload_n (M := md_X10_hangs) (pc := 0) dX10_hangs_0 rfl (by decide) ?_
  refine e_gR (M := md_X10_hangs) (pc := 1) h fl_10_19 dX10_hangs_1 (is_0 hN) rfl (fun v1 hv1 h => ?_)
  refine q_iload_n (M := md_X10_hangs) (pc := 4) dX10_hangs_4 rfl ?_
  refine q_iload_n (M := md_X10_hangs) (pc := 5) dX10_hangs_5 rfl ?_
  refine e_callVi (M := md_X10_hangs) (pc := 6) (d' := 1) (av := [q_I l1, q_I l2]) (c := v1) h ml_10_192 im_X2_isInside se_X2_isInside dX10_hangs_6 (fun v he => ok_X2_isInside hN hv1 he) rfl (is_Lp hN hv1) ⟨_, _, rfl⟩ (by decide) (Nat.le_of_ble_eq_true rfl) ⟨by decide, by decide⟩ rfl (fun v2 m3 h => ?_)
  refine e_if_eq (M := md_X10_hangs) (pc := 9) (tgt := 32) h rfl dX10_hangs_9 (by decide) (fun h => ?_) (fun h => ?_)
  · refine q_iconst (M := md_X10_hangs) (pc := 32) dX10_hangs_32 ?_
    exact e_iret (M := md_X10_hangs) (pc := 33) h rfl dX10_hangs_33
  · refine q_aload_n (M := md_X10_hangs) (pc := 12) dX10_hangs_12 rfl (by decide) ?_
    refine q_getP (M := md_X10_hangs) (pc := 13) (v := 53) fl_10_55 dX10_hangs_13 (is_0 hN) rfl ?_
    refine q_aload_n (M := md_X10_hangs) (pc := 16) dX10_hangs_16 rfl (by decide) ?_
    refine e_gR (M := md_X10_hangs) (pc := 17) h fl_10_19 dX10_hangs_17 (is_0 hN) rfl (fun v4 hv4 h => ?_)
    refine q_iload_n (M := md_X10_hangs) (pc := 20) dX10_hangs_20 rfl ?_
    refine q_bipush (M := md_X10_hangs) (pc := 21) (x := 10) dX10_hangs_21 (by decide) ?_
    refine q_imul (M := md_X10_hangs) (pc := 23) dX10_hangs_23 ?_
    refine q_iload_n (M := md_X10_hangs) (pc := 24) dX10_hangs_24 rfl ?_
    refine q_iadd (M := md_X10_hangs) (pc := 25) dX10_hangs_25 ?_
    refine e_callVi (M := md_X10_hangs) (pc := 26) (d' := 4) (av := [q_A v4, q_I ((l1 * 10) + l2)]) (c := 53) h ml_10_349 im_X9_followers se_X9_followers dX10_hangs_26 (fun v he => ok_X9_followers hN hv4 he) rfl (is_53 hN) ⟨_, _, rfl⟩ (by decide) (Nat.le_of_ble_eq_true rfl) ⟨by decide, by decide⟩ rfl (fun v5 m6 h => ?_)
    refine q_goto (M := md_X10_hangs) (pc := 29) (tgt := 33) dX10_hangs_29 (by decide) ?_
    exact e_iret (M := md_X10_hangs) (pc := 33) h rfl dX10_hangs_33
def f_PG_canStir (l1 l2 l3 : Int) (m : q_Mem) : q_Res :=
  q_bd (f_PG_isVariable l1 m) fun v1 m2 =>
  if q_w v1 = 0 then (q_rz 0 m2)
  else (q_lt (m2 0 1) fun v3 => q_one q_Lp v3 <|
  q_bd (f_Loop_isInside v3 l2 l3 m2) fun v4 m5 =>
  if q_w v4 = 0 then (q_rz 0 m5)
  else (q_bd (f_Web_isOrdered ((l2 * 10) + l3) m5) fun v6 m7 =>
  if q_w v6 = 0 then (q_rz 0 m7)
  else (q_rz 1 m7)))
set_option maxRecDepth 20000 in
theorem ok_X10_canStir {l1 l2 l3 : Int} {r : Int × q_Mem} {m : q_Mem} {N : Nat} (hN : 81 ≤ N) (h : f_PG_canStir l1 l2 l3 m = some r) : q_C md_X10_canStir (q_room 2) 0 0 [q_A 0, q_I l1, q_I l2, q_I l3] (q_g N) m (some (q_I r.1), q_g N, r.2) := by
  refine q_ofR (by decide) 0 (ls := [q_A 0, q_I l1, q_I l2, q_I l3]) rfl (Nat.le_of_ble_eq_true rfl) ?_
  change q_E md_X10_canStir 2 N (some 0) r m 0 [q_A 0, q_I l1, q_I l2, q_I l3] []
  unfold f_PG_canStir at h
  refine q_aload_n (M := md_X10_canStir) (pc := 0) dX10_canStir_0 rfl (by decide) ?_
  refine q_iload_n (M := md_X10_canStir) (pc := 1) dX10_canStir_1 rfl ?_
  refine e_callVi (M := md_X10_canStir) (pc := 2) (d' := 1) (av := [q_I l1]) (c := 0) h ml_10_189 im_X10_isVariable se_X10_isVariable dX10_canStir_2 (fun v he => ok_X10_isVariable hN  he) rfl (is_0 hN) ⟨_, _, rfl⟩ (by decide) (Nat.le_of_ble_eq_true rfl) ⟨by decide, by decide⟩ rfl (fun v1 m2 h => ?_)
  refine e_if_eq (M := md_X10_canStir) (pc := 5) (tgt := 40) h rfl dX10_canStir_5 (by decide) (fun h => ?_) (fun h => ?_)
  · refine q_iconst (M := md_X10_canStir) (pc := 40) dX10_canStir_40 ?_
    exact e_zret (M := md_X10_canStir) (pc := 41) h rfl dX10_canStir_41
  · refine q_aload_n (M := md_X10_canStir) (pc := 8) dX10_canStir_8 rfl (by decide) ?_
    refine e_gR (M := md_X10_canStir) (pc := 9) h fl_10_19 dX10_canStir_9 (is_0 hN) rfl (fun v3 hv3 h => ?_)
    refine q_iload_n (M := md_X10_canStir) (pc := 12) dX10_canStir_12 rfl ?_
    refine q_iload_n (M := md_X10_canStir) (pc := 13) dX10_canStir_13 rfl ?_
    refine e_callVi (M := md_X10_canStir) (pc := 14) (d' := 1) (av := [q_I l2, q_I l3]) (c := v3) h ml_10_192 im_X2_isInside se_X2_isInside dX10_canStir_14 (fun v he => ok_X2_isInside hN hv3 he) rfl (is_Lp hN hv3) ⟨_, _, rfl⟩ (by decide) (Nat.le_of_ble_eq_true rfl) ⟨by decide, by decide⟩ rfl (fun v4 m5 h => ?_)
    refine e_if_eq (M := md_X10_canStir) (pc := 17) (tgt := 40) h rfl dX10_canStir_17 (by decide) (fun h => ?_) (fun h => ?_)
    · refine q_iconst (M := md_X10_canStir) (pc := 40) dX10_canStir_40 ?_
      exact e_zret (M := md_X10_canStir) (pc := 41) h rfl dX10_canStir_41
    · refine q_aload_n (M := md_X10_canStir) (pc := 20) dX10_canStir_20 rfl (by decide) ?_
      refine q_getP (M := md_X10_canStir) (pc := 21) (v := 53) fl_10_55 dX10_canStir_21 (is_0 hN) rfl ?_
      refine q_iload_n (M := md_X10_canStir) (pc := 24) dX10_canStir_24 rfl ?_
      refine q_bipush (M := md_X10_canStir) (pc := 25) (x := 10) dX10_canStir_25 (by decide) ?_
      refine q_imul (M := md_X10_canStir) (pc := 27) dX10_canStir_27 ?_
      refine q_iload_n (M := md_X10_canStir) (pc := 28) dX10_canStir_28 rfl ?_
      refine q_iadd (M := md_X10_canStir) (pc := 29) dX10_canStir_29 ?_
      refine e_callVi (M := md_X10_canStir) (pc := 30) (d' := 1) (av := [q_I ((l2 * 10) + l3)]) (c := 53) h ml_10_195 im_X9_isOrdered se_X9_isOrdered dX10_canStir_30 (fun v he => ok_X9_isOrdered hN  he) rfl (is_53 hN) ⟨_, _, rfl⟩ (by decide) (Nat.le_of_ble_eq_true rfl) ⟨by decide, by decide⟩ rfl (fun v6 m7 h => ?_)
      refine e_if_eq (M := md_X10_canStir) (pc := 33) (tgt := 40) h rfl dX10_canStir_33 (by decide) (fun h => ?_) (fun h => ?_)
      · refine q_iconst (M := md_X10_canStir) (pc := 40) dX10_canStir_40 ?_
        exact e_zret (M := md_X10_canStir) (pc := 41) h rfl dX10_canStir_41
      · refine q_iconst (M := md_X10_canStir) (pc := 36) dX10_canStir_36 ?_
        refine q_goto (M := md_X10_canStir) (pc := 37) (tgt := 41) dX10_canStir_37 (by decide) ?_
        exact e_zret (M := md_X10_canStir) (pc := 41) h rfl dX10_canStir_41
def f_PG_stirs (l1 l2 l3 : Int) (m : q_Mem) : q_Res :=
  q_bd (f_PG_canStir l1 l2 l3 m) fun v1 m2 =>
  if q_w v1 = 0 then (q_rt (-1) m2)
  else (q_bd (f_PG_reckonValues 76 l1 ((l2 * 10) + l3) m2) fun _ m3 =>
  q_bd (f_PG_countWrong 76 m3) fun v4 m5 =>
  q_rt v4 m5)
set_option maxRecDepth 20000 in
theorem ok_X10_stirs {l1 l2 l3 : Int} {r : Int × q_Mem} {m : q_Mem} {N : Nat} (hN : 81 ≤ N) (h : f_PG_stirs l1 l2 l3 m = some r) : q_C md_X10_stirs (q_room 6) 0 0 [q_A 0, q_I l1, q_I l2, q_I l3] (q_g N) m (some (q_I r.1), q_g N, r.2) := by
  refine q_ofR (by decide) 0 (ls := [q_A 0, q_I l1, q_I l2, q_I l3]) rfl (Nat.le_of_ble_eq_true rfl) ?_
  change q_E md_X10_stirs 6 N (some 0) r m 0 [q_A 0, q_I l1, q_I l2, q_I l3] []
  unfold f_PG_stirs at h
  refine q_aload_n (M := md_X10_stirs) (pc := 0) dX10_stirs_0 rfl (by decide) ?_
  refine q_iload_n (M := md_X10_stirs) (pc := 1) dX10_stirs_1 rfl ?_
  refine q_iload_n (M := md_X10_stirs) (pc := 2) dX10_stirs_2 rfl ?_
  refine q_iload_n (M := md_X10_stirs) (pc := 3) dX10_stirs_3 rfl ?_
  refine e_callVi (M := md_X10_stirs) (pc := 4) (d' := 2) (av := [q_I l1, q_I l2, q_I l3]) (c := 0) h ml_10_353 im_X10_canStir se_X10_canStir dX10_stirs_4 (fun v he => ok_X10_canStir hN  he) rfl (is_0 hN) ⟨_, _, rfl⟩ (by decide) (Nat.le_of_ble_eq_true rfl) ⟨by decide, by decide⟩ rfl (fun v1 m2 h => ?_)
  refine e_if_ne (M := md_X10_stirs) (pc := 7) (tgt := 12) h rfl dX10_stirs_7 (by decide) (fun h => ?_) (fun h => ?_)
  · refine q_aload_n (M := md_X10_stirs) (pc := 12) dX10_stirs_12 rfl (by decide) ?_
    refine q_aload_n (M := md_X10_stirs) (pc := 13) dX10_stirs_13 rfl (by decide) ?_
    refine q_getP (M := md_X10_stirs) (pc := 14) (v := 76) fl_10_87 dX10_stirs_14 (is_0 hN) rfl ?_
    refine q_iload_n (M := md_X10_stirs) (pc := 17) dX10_stirs_17 rfl ?_
    refine q_iload_n (M := md_X10_stirs) (pc := 18) dX10_stirs_18 rfl ?_
    refine q_bipush (M := md_X10_stirs) (pc := 19) (x := 10) dX10_stirs_19 (by decide) ?_
    refine q_imul (M := md_X10_stirs) (pc := 21) dX10_stirs_21 ?_
    refine q_iload_n (M := md_X10_stirs) (pc := 22) dX10_stirs_22 rfl ?_
    refine q_iadd (M := md_X10_stirs) (pc := 23) dX10_stirs_23 ?_
    refine e_callVv (M := md_X10_stirs) (pc := 24) (d' := 5) (av := [q_A 76, q_I l1, q_I ((l2 * 10) + l3)]) (c := 0) h ml_10_357 im_X10_reckonValues se_X10_reckonValues dX10_stirs_24 (fun v he => ok_X10_reckonValues hN (by decide) he) rfl (is_0 hN) ⟨_, _, rfl⟩ (by decide) (Nat.le_of_ble_eq_true rfl) ⟨by decide, by decide⟩ rfl (fun _ m3 h => ?_)
    refine q_aload_n (M := md_X10_stirs) (pc := 27) dX10_stirs_27 rfl (by decide) ?_
    refine q_aload_n (M := md_X10_stirs) (pc := 28) dX10_stirs_28 rfl (by decide) ?_
    refine q_getP (M := md_X10_stirs) (pc := 29) (v := 76) fl_10_87 dX10_stirs_29 (is_0 hN) rfl ?_
    refine e_callVi (M := md_X10_stirs) (pc := 32) (d' := 3) (av := [q_A 76]) (c := 0) h ml_10_201 im_X10_countWrong se_X10_countWrong dX10_stirs_32 (fun v he => ok_X10_countWrong hN (by decide) he) rfl (is_0 hN) ⟨_, _, rfl⟩ (by decide) (Nat.le_of_ble_eq_true rfl) ⟨by decide, by decide⟩ rfl (fun v4 m5 h => ?_)
    exact e_iret (M := md_X10_stirs) (pc := 35) h rfl dX10_stirs_35
  · refine q_iconst (M := md_X10_stirs) (pc := 10) dX10_stirs_10 ?_
    exact e_iret (M := md_X10_stirs) (pc := 11) h rfl dX10_stirs_11
def f_PG_stirred (l1 l2 l3 : Int) (m : q_Mem) : q_Res :=
  q_bd (f_PG_canStir l1 l2 l3 m) fun v1 m2 =>
  if q_w v1 = 0 then (q_rt 0 m2)
  else (q_bd (f_PG_reckonValues 76 l1 ((l2 * 10) + l3) m2) fun _ m3 =>
  q_lt (m3 0 1) fun v4 => q_one q_Lp v4 <|
  q_lt (m3 0 1) fun v5 => q_one q_Lp v5 <|
  q_bd (f_Loop_points v5 m3) fun v6 m7 =>
  q_bd (f_Loop_pointAt v4 (v6 - 1) m7) fun v8 m9 =>
  q_rd m9 76 300 ((l1 * 100) + v8) fun v10 =>
  q_rt v10 m9)
set_option maxRecDepth 20000 in
theorem ok_X10_stirred {l1 l2 l3 : Int} {r : Int × q_Mem} {m : q_Mem} {N : Nat} (hN : 81 ≤ N) (h : f_PG_stirred l1 l2 l3 m = some r) : q_C md_X10_stirred (q_room 6) 0 0 [q_A 0, q_I l1, q_I l2, q_I l3] (q_g N) m (some (q_I r.1), q_g N, r.2) := by
  refine q_ofR (by decide) 0 (ls := [q_A 0, q_I l1, q_I l2, q_I l3]) rfl (Nat.le_of_ble_eq_true rfl) ?_
  change q_E md_X10_stirred 6 N (some 0) r m 0 [q_A 0, q_I l1, q_I l2, q_I l3] []
  unfold f_PG_stirred at h
  refine q_aload_n (M := md_X10_stirred) (pc := 0) dX10_stirred_0 rfl (by decide) ?_
  refine q_iload_n (M := md_X10_stirred) (pc := 1) dX10_stirred_1 rfl ?_
  refine q_iload_n (M := md_X10_stirred) (pc := 2) dX10_stirred_2 rfl ?_
  refine q_iload_n (M := md_X10_stirred) (pc := 3) dX10_stirred_3 rfl ?_
  refine e_callVi (M := md_X10_stirred) (pc := 4) (d' := 2) (av := [q_I l1, q_I l2, q_I l3]) (c := 0) h ml_10_353 im_X10_canStir se_X10_canStir dX10_stirred_4 (fun v he => ok_X10_canStir hN  he) rfl (is_0 hN) ⟨_, _, rfl⟩ (by decide) (Nat.le_of_ble_eq_true rfl) ⟨by decide, by decide⟩ rfl (fun v1 m2 h => ?_)
  refine e_if_ne (M := md_X10_stirred) (pc := 7) (tgt := 12) h rfl dX10_stirred_7 (by decide) (fun h => ?_) (fun h => ?_)
  · refine q_aload_n (M := md_X10_stirred) (pc := 12) dX10_stirred_12 rfl (by decide) ?_
    refine q_aload_n (M := md_X10_stirred) (pc := 13) dX10_stirred_13 rfl (by decide) ?_
    refine q_getP (M := md_X10_stirred) (pc := 14) (v := 76) fl_10_87 dX10_stirred_14 (is_0 hN) rfl ?_
    refine q_iload_n (M := md_X10_stirred) (pc := 17) dX10_stirred_17 rfl ?_
    refine q_iload_n (M := md_X10_stirred) (pc := 18) dX10_stirred_18 rfl ?_
    refine q_bipush (M := md_X10_stirred) (pc := 19) (x := 10) dX10_stirred_19 (by decide) ?_
    refine q_imul (M := md_X10_stirred) (pc := 21) dX10_stirred_21 ?_
    refine q_iload_n (M := md_X10_stirred) (pc := 22) dX10_stirred_22 rfl ?_
    refine q_iadd (M := md_X10_stirred) (pc := 23) dX10_stirred_23 ?_
    refine e_callVv (M := md_X10_stirred) (pc := 24) (d' := 5) (av := [q_A 76, q_I l1, q_I ((l2 * 10) + l3)]) (c := 0) h ml_10_357 im_X10_reckonValues se_X10_reckonValues dX10_stirred_24 (fun v he => ok_X10_reckonValues hN (by decide) he) rfl (is_0 hN) ⟨_, _, rfl⟩ (by decide) (Nat.le_of_ble_eq_true rfl) ⟨by decide, by decide⟩ rfl (fun _ m3 h => ?_)
    refine q_aload_n (M := md_X10_stirred) (pc := 27) dX10_stirred_27 rfl (by decide) ?_
    refine q_getP (M := md_X10_stirred) (pc := 28) (v := 76) fl_10_87 dX10_stirred_28 (is_0 hN) rfl ?_
    refine q_iload_n (M := md_X10_stirred) (pc := 31) dX10_stirred_31 rfl ?_
    refine q_bipush (M := md_X10_stirred) (pc := 32) (x := 100) dX10_stirred_32 (by decide) ?_
    refine q_imul (M := md_X10_stirred) (pc := 34) dX10_stirred_34 ?_
    refine q_aload_n (M := md_X10_stirred) (pc := 35) dX10_stirred_35 rfl (by decide) ?_
    refine e_gR (M := md_X10_stirred) (pc := 36) h fl_10_19 dX10_stirred_36 (is_0 hN) rfl (fun v4 hv4 h => ?_)
    refine q_aload_n (M := md_X10_stirred) (pc := 39) dX10_stirred_39 rfl (by decide) ?_
    refine e_gR (M := md_X10_stirred) (pc := 40) h fl_10_19 dX10_stirred_40 (is_0 hN) rfl (fun v5 hv5 h => ?_)
    refine e_callVi (M := md_X10_stirred) (pc := 43) (d' := 1) (av := []) (c := v5) h ml_10_211 im_X2_points se_X2_points dX10_stirred_43 (fun v he => ok_X2_points hN hv5 he) rfl (is_Lp hN hv5) ⟨_, _, rfl⟩ (by decide) (Nat.le_of_ble_eq_true rfl) ⟨by decide, by decide⟩ rfl (fun v6 m7 h => ?_)
    refine q_iconst (M := md_X10_stirred) (pc := 46) dX10_stirred_46 ?_
    refine q_isub (M := md_X10_stirred) (pc := 47) dX10_stirred_47 ?_
    refine e_callVi (M := md_X10_stirred) (pc := 48) (d' := 1) (av := [q_I (v6 - 1)]) (c := v4) h ml_10_215 im_X2_pointAt se_X2_pointAt dX10_stirred_48 (fun v he => ok_X2_pointAt hN hv4 he) rfl (is_Lp hN hv4) ⟨_, _, rfl⟩ (by decide) (Nat.le_of_ble_eq_true rfl) ⟨by decide, by decide⟩ rfl (fun v8 m9 h => ?_)
    refine q_iadd (M := md_X10_stirred) (pc := 51) dX10_stirred_51 ?_
    refine e_rd (M := md_X10_stirred) (pc := 52) h dX10_stirred_52 (ar_76 hN) (fun v10 h => ?_)
    exact e_iret (M := md_X10_stirred) (pc := 53) h rfl dX10_stirred_53
  · refine q_iconst (M := md_X10_stirred) (pc := 10) dX10_stirred_10 ?_
    exact e_iret (M := md_X10_stirred) (pc := 11) h rfl dX10_stirred_11
def f_PG_firstGreatest_b71 (k4 : Int → Int → Int → q_Mem → q_Res) (l1 l2 l3 : Int) (m : q_Mem) : q_Res :=
  k4 l1 l2 (l3 + 1) m
set_option maxRecDepth 20000 in
theorem w_PG_firstGreatest_b71 {k4 : Int → Int → Int → q_Mem → q_Res} {l1 l2 l3 : Int} {r : Int × q_Mem} {m : q_Mem} {N : Nat} (hN : 81 ≤ N) (hk4 : ∀ (l1 l2 l3 : Int) (m : q_Mem), k4 l1 l2 l3 m = some r → q_E md_X10_firstGreatest 2 N (some 0) r m 4 [q_A 0, q_I l1, q_I l2, q_I l3, q_N] []) (h : f_PG_firstGreatest_b71 k4 l1 l2 l3 m = some r) : q_E md_X10_firstGreatest 2 N (some 0) r m 71 [q_A 0, q_I l1, q_I l2, q_I l3, q_N] [] := by
  unfold f_PG_firstGreatest_b71 at h
  refine e_inc (M := md_X10_firstGreatest) (pc := 71) (x := l3) (ls' := [q_A 0, q_I l1, q_I l2, q_I (l3 + 1), q_N]) dX10_firstGreatest_71 rfl (by decide) (q_pl rfl) rfl ?_
  refine q_goto (M := md_X10_firstGreatest) (pc := 74) (tgt := 4) dX10_firstGreatest_74 (by decide) ?_
  exact q_weak (hk4 _ _ _ _  h) ⟨Or.inr rfl, Or.inr rfl, Or.inr rfl, Or.inr rfl, Or.inl rfl, trivial⟩
def f_PG_firstGreatest_b68 (k4 : Int → Int → Int → q_Mem → q_Res) (l1 l3 l4 : Int) (m : q_Mem) : q_Res :=
  f_PG_firstGreatest_b71 k4 l1 l4 l3 m
set_option maxRecDepth 20000 in
theorem w_PG_firstGreatest_b68 {k4 : Int → Int → Int → q_Mem → q_Res} {l1 l3 l4 : Int} {r : Int × q_Mem} {m : q_Mem} {N : Nat} (hN : 81 ≤ N) (hk4 : ∀ (l1 l2 l3 : Int) (m : q_Mem), k4 l1 l2 l3 m = some r → q_E md_X10_firstGreatest 2 N (some 0) r m 4 [q_A 0, q_I l1, q_I l2, q_I l3, q_N] []) (h : f_PG_firstGreatest_b68 k4 l1 l3 l4 m = some r) : q_E md_X10_firstGreatest 2 N (some 0) r m 68 [q_A 0, q_I l1, q_N, q_I l3, q_I l4] [] := by
  unfold f_PG_firstGreatest_b68 at h
  refine q_iload (M := md_X10_firstGreatest) (pc := 68) dX10_firstGreatest_68 rfl ?_
  refine e_ist_n (M := md_X10_firstGreatest) (pc := 70) (ls' := [q_A 0, q_I l1, q_I l4, q_I l3, q_I l4]) dX10_firstGreatest_70 (by decide) (q_pl rfl) rfl ?_
  exact q_weak (w_PG_firstGreatest_b71 hN hk4  h) ⟨Or.inr rfl, Or.inr rfl, Or.inr rfl, Or.inr rfl, Or.inl rfl, trivial⟩
def f_PG_firstGreatest_b4 (k4 : Int → Int → Int → q_Mem → q_Res) (l1 l2 l3 : Int) (m : q_Mem) : q_Res :=
  q_lt (m 0 1) fun v1 => q_one q_Lp v1 <|
  q_bd (f_Loop_points v1 m) fun v2 m3 =>
  if q_w v2 ≤ q_w l3 then (q_rt l2 m3)
  else (q_lt (m3 0 1) fun v4 => q_one q_Lp v4 <|
  q_bd (f_Loop_pointAt v4 l3 m3) fun v5 m6 =>
  q_bd (f_Web_isOrdered v5 m6) fun v7 m8 =>
  if q_w v7 = 0 then (f_PG_firstGreatest_b71 k4 l1 l2 l3 m8)
  else (if q_w l2 = (-1) then (f_PG_firstGreatest_b68 k4 l1 l3 v5 m8)
  else (q_rd m8 74 300 ((l1 * 100) + v5) fun v9 =>
  q_rd m8 74 300 ((l1 * 100) + l2) fun v10 =>
  if q_w v9 ≤ q_w v10 then (f_PG_firstGreatest_b71 k4 l1 l2 l3 m8)
  else (f_PG_firstGreatest_b68 k4 l1 l3 v5 m8))))
set_option maxRecDepth 20000 in
theorem w_PG_firstGreatest_b4 {k4 : Int → Int → Int → q_Mem → q_Res} {l1 l2 l3 : Int} {r : Int × q_Mem} {m : q_Mem} {N : Nat} (hN : 81 ≤ N) (hk4 : ∀ (l1 l2 l3 : Int) (m : q_Mem), k4 l1 l2 l3 m = some r → q_E md_X10_firstGreatest 2 N (some 0) r m 4 [q_A 0, q_I l1, q_I l2, q_I l3, q_N] []) (h : f_PG_firstGreatest_b4 k4 l1 l2 l3 m = some r) : q_E md_X10_firstGreatest 2 N (some 0) r m 4 [q_A 0, q_I l1, q_I l2, q_I l3, q_N] [] := by
  unfold f_PG_firstGreatest_b4 at h
  refine q_iload_n (M := md_X10_firstGreatest) (pc := 4) dX10_firstGreatest_4 rfl ?_
  refine q_aload_n (M := md_X10_firstGreatest) (pc := 5) dX10_firstGreatest_5 rfl (by decide) ?_
  refine e_gR (M := md_X10_firstGreatest) (pc := 6) h fl_10_19 dX10_firstGreatest_6 (is_0 hN) rfl (fun v1 hv1 h => ?_)
  refine e_callVi (M := md_X10_firstGreatest) (pc := 9) (d' := 1) (av := []) (c := v1) h ml_10_211 im_X2_points se_X2_points dX10_firstGreatest_9 (fun v he => ok_X2_points hN hv1 he) rfl (is_Lp hN hv1) ⟨_, _, rfl⟩ (by decide) (Nat.le_of_ble_eq_true rfl) ⟨by decide, by decide⟩ rfl (fun v2 m3 h => ?_)
  refine e_icmp_ge (M := md_X10_firstGreatest) (pc := 12) (tgt := 77) h rfl rfl dX10_firstGreatest_12 (by decide) (fun h => ?_) (fun h => ?_)
  · refine q_iload_n (M := md_X10_firstGreatest) (pc := 77) dX10_firstGreatest_77 rfl ?_
    exact e_iret (M := md_X10_firstGreatest) (pc := 78) h rfl dX10_firstGreatest_78
  · refine q_aload_n (M := md_X10_firstGreatest) (pc := 15) dX10_firstGreatest_15 rfl (by decide) ?_
    refine e_gR (M := md_X10_firstGreatest) (pc := 16) h fl_10_19 dX10_firstGreatest_16 (is_0 hN) rfl (fun v4 hv4 h => ?_)
    refine q_iload_n (M := md_X10_firstGreatest) (pc := 19) dX10_firstGreatest_19 rfl ?_
    refine e_callVi (M := md_X10_firstGreatest) (pc := 20) (d' := 1) (av := [q_I l3]) (c := v4) h ml_10_215 im_X2_pointAt se_X2_pointAt dX10_firstGreatest_20 (fun v he => ok_X2_pointAt hN hv4 he) rfl (is_Lp hN hv4) ⟨_, _, rfl⟩ (by decide) (Nat.le_of_ble_eq_true rfl) ⟨by decide, by decide⟩ rfl (fun v5 m6 h => ?_)
    refine e_ist (M := md_X10_firstGreatest) (pc := 23) (ls' := [q_A 0, q_I l1, q_I l2, q_I l3, q_I v5]) dX10_firstGreatest_23 (by decide) (q_pl rfl) rfl ?_
    refine q_aload_n (M := md_X10_firstGreatest) (pc := 25) dX10_firstGreatest_25 rfl (by decide) ?_
    refine q_getP (M := md_X10_firstGreatest) (pc := 26) (v := 53) fl_10_55 dX10_firstGreatest_26 (is_0 hN) rfl ?_
    refine q_iload (M := md_X10_firstGreatest) (pc := 29) dX10_firstGreatest_29 rfl ?_
    refine e_callVi (M := md_X10_firstGreatest) (pc := 31) (d' := 1) (av := [q_I v5]) (c := 53) h ml_10_195 im_X9_isOrdered se_X9_isOrdered dX10_firstGreatest_31 (fun v he => ok_X9_isOrdered hN  he) rfl (is_53 hN) ⟨_, _, rfl⟩ (by decide) (Nat.le_of_ble_eq_true rfl) ⟨by decide, by decide⟩ rfl (fun v7 m8 h => ?_)
    refine e_if_eq (M := md_X10_firstGreatest) (pc := 34) (tgt := 71) h rfl dX10_firstGreatest_34 (by decide) (fun h => ?_) (fun h => ?_)
    · exact q_weak (w_PG_firstGreatest_b71 hN hk4  h) ⟨Or.inr rfl, Or.inr rfl, Or.inr rfl, Or.inr rfl, Or.inl rfl, trivial⟩
    · refine q_iload_n (M := md_X10_firstGreatest) (pc := 37) dX10_firstGreatest_37 rfl ?_
      refine q_iconst (M := md_X10_firstGreatest) (pc := 38) dX10_firstGreatest_38 ?_
      refine e_icmp_eq (M := md_X10_firstGreatest) (pc := 39) (tgt := 68) h rfl (q_wlit rfl) dX10_firstGreatest_39 (by decide) (fun h => ?_) (fun h => ?_)
      · exact q_weak (w_PG_firstGreatest_b68 hN hk4  h) ⟨Or.inr rfl, Or.inr rfl, Or.inl rfl, Or.inr rfl, Or.inr rfl, trivial⟩
      · refine q_aload_n (M := md_X10_firstGreatest) (pc := 42) dX10_firstGreatest_42 rfl (by decide) ?_
        refine q_getP (M := md_X10_firstGreatest) (pc := 43) (v := 74) fl_10_80 dX10_firstGreatest_43 (is_0 hN) rfl ?_
        refine q_iload_n (M := md_X10_firstGreatest) (pc := 46) dX10_firstGreatest_46 rfl ?_
        refine q_bipush (M := md_X10_firstGreatest) (pc := 47) (x := 100) dX10_firstGreatest_47 (by decide) ?_
        refine q_imul (M := md_X10_firstGreatest) (pc := 49) dX10_firstGreatest_49 ?_
        refine q_iload (M := md_X10_firstGreatest) (pc := 50) dX10_firstGreatest_50 rfl ?_
        refine q_iadd (M := md_X10_firstGreatest) (pc := 52) dX10_firstGreatest_52 ?_
        refine e_rd (M := md_X10_firstGreatest) (pc := 53) h dX10_firstGreatest_53 (ar_74 hN) (fun v9 h => ?_)
        refine q_aload_n (M := md_X10_firstGreatest) (pc := 54) dX10_firstGreatest_54 rfl (by decide) ?_
        refine q_getP (M := md_X10_firstGreatest) (pc := 55) (v := 74) fl_10_80 dX10_firstGreatest_55 (is_0 hN) rfl ?_
        refine q_iload_n (M := md_X10_firstGreatest) (pc := 58) dX10_firstGreatest_58 rfl ?_
        refine q_bipush (M := md_X10_firstGreatest) (pc := 59) (x := 100) dX10_firstGreatest_59 (by decide) ?_
        refine q_imul (M := md_X10_firstGreatest) (pc := 61) dX10_firstGreatest_61 ?_
        refine q_iload_n (M := md_X10_firstGreatest) (pc := 62) dX10_firstGreatest_62 rfl ?_
        refine q_iadd (M := md_X10_firstGreatest) (pc := 63) dX10_firstGreatest_63 ?_
        refine e_rd (M := md_X10_firstGreatest) (pc := 64) h dX10_firstGreatest_64 (ar_74 hN) (fun v10 h => ?_)
        refine e_icmp_le (M := md_X10_firstGreatest) (pc := 65) (tgt := 71) h rfl rfl dX10_firstGreatest_65 (by decide) (fun h => ?_) (fun h => ?_)
        · exact q_weak (w_PG_firstGreatest_b71 hN hk4  h) ⟨Or.inr rfl, Or.inr rfl, Or.inr rfl, Or.inr rfl, Or.inl rfl, trivial⟩
        · exact q_weak (w_PG_firstGreatest_b68 hN hk4  h) ⟨Or.inr rfl, Or.inr rfl, Or.inl rfl, Or.inr rfl, Or.inr rfl, trivial⟩
def f_PG_firstGreatest_l4 : Nat → Int → Int → Int → q_Mem → q_Res
  | 0 => fun _ _ _ _ => none
  | n + 1 => fun l1 l2 l3 m => f_PG_firstGreatest_b4 (f_PG_firstGreatest_l4 n) l1 l2 l3 m
theorem w_PG_firstGreatest_l4 {r : Int × q_Mem} {N : Nat} (hN : 81 ≤ N) : ∀ (n : Nat) (l1 l2 l3 : Int) (m : q_Mem), f_PG_firstGreatest_l4 n l1 l2 l3 m = some r → q_E md_X10_firstGreatest 2 N (some 0) r m 4 [q_A 0, q_I l1, q_I l2, q_I l3, q_N] [] := by
  intro n
  induction n with
  | zero => intro l1 l2 l3 m h; exact q_no h
  | succ n ih =>
    intro l1 l2 l3 m h
    exact w_PG_firstGreatest_b4 hN (fun l1 l2 l3 m h => ih l1 l2 l3 m h) h
def f_PG_firstGreatest (l1 : Int) (m : q_Mem) : q_Res :=
  f_PG_firstGreatest_l4 q_F l1 (-1) 0 m
set_option maxRecDepth 20000 in
theorem ok_X10_firstGreatest {l1 : Int} {r : Int × q_Mem} {m : q_Mem} {N : Nat} (hN : 81 ≤ N) (h : f_PG_firstGreatest l1 m = some r) : q_C md_X10_firstGreatest (q_room 2) 0 0 [q_A 0, q_I l1] (q_g N) m (some (q_I r.1), q_g N, r.2) := by
  refine q_ofR (by decide) 3 (ls := [q_A 0, q_I l1, q_N, q_N, q_N]) rfl (Nat.le_of_ble_eq_true rfl) ?_
  change q_E md_X10_firstGreatest 2 N (some 0) r m 0 [q_A 0, q_I l1, q_N, q_N, q_N] []
  unfold f_PG_firstGreatest at h
  refine q_iconst (M := md_X10_firstGreatest) (pc := 0) dX10_firstGreatest_0 ?_
  refine e_ist_n (M := md_X10_firstGreatest) (pc := 1) (ls' := [q_A 0, q_I l1, q_I (-1), q_N, q_N]) dX10_firstGreatest_1 (by decide) (q_pl rfl) rfl ?_
  refine q_iconst (M := md_X10_firstGreatest) (pc := 2) dX10_firstGreatest_2 ?_
  refine e_ist_n (M := md_X10_firstGreatest) (pc := 3) (ls' := [q_A 0, q_I l1, q_I (-1), q_I 0, q_N]) dX10_firstGreatest_3 (by decide) (q_pl rfl) rfl ?_
  exact q_weak (w_PG_firstGreatest_l4 hN q_F _ _ _ _  h) ⟨Or.inr rfl, Or.inr rfl, Or.inr rfl, Or.inr rfl, Or.inl rfl, trivial⟩
def f_PG_sumOf_b4 (k4 : Int → Int → Int → q_Mem → q_Res) (l1 l2 l3 : Int) (m : q_Mem) : q_Res :=
  if q_w (m 53 6) ≤ q_w l3 then (q_rt l2 m)
  else (q_rd m 56 100 l3 fun v1 =>
  q_rd m 74 300 ((l1 * 100) + v1) fun v2 =>
  k4 l1 (l2 + v2) (l3 + 1) m)
set_option maxRecDepth 20000 in
theorem w_PG_sumOf_b4 {k4 : Int → Int → Int → q_Mem → q_Res} {l1 l2 l3 : Int} {r : Int × q_Mem} {m : q_Mem} {N : Nat} (hN : 81 ≤ N) (hk4 : ∀ (l1 l2 l3 : Int) (m : q_Mem), k4 l1 l2 l3 m = some r → q_E md_X10_sumOf 1 N (some 0) r m 4 [q_A 0, q_I l1, q_I l2, q_I l3] []) (h : f_PG_sumOf_b4 k4 l1 l2 l3 m = some r) : q_E md_X10_sumOf 1 N (some 0) r m 4 [q_A 0, q_I l1, q_I l2, q_I l3] [] := by
  unfold f_PG_sumOf_b4 at h
  refine q_iload_n (M := md_X10_sumOf) (pc := 4) dX10_sumOf_4 rfl ?_
  refine q_aload_n (M := md_X10_sumOf) (pc := 5) dX10_sumOf_5 rfl (by decide) ?_
  refine q_getP (M := md_X10_sumOf) (pc := 6) (v := 53) fl_10_55 dX10_sumOf_6 (is_0 hN) rfl ?_
  refine e_gI (M := md_X10_sumOf) (pc := 9) (v := m 53 6) fl_10_244 dX10_sumOf_9 (is_53 hN) rfl ?_
  refine e_icmp_ge (M := md_X10_sumOf) (pc := 12) (tgt := 43) h rfl rfl dX10_sumOf_12 (by decide) (fun h => ?_) (fun h => ?_)
  · refine q_iload_n (M := md_X10_sumOf) (pc := 43) dX10_sumOf_43 rfl ?_
    exact e_iret (M := md_X10_sumOf) (pc := 44) h rfl dX10_sumOf_44
  · refine q_iload_n (M := md_X10_sumOf) (pc := 15) dX10_sumOf_15 rfl ?_
    refine q_aload_n (M := md_X10_sumOf) (pc := 16) dX10_sumOf_16 rfl (by decide) ?_
    refine q_getP (M := md_X10_sumOf) (pc := 17) (v := 74) fl_10_80 dX10_sumOf_17 (is_0 hN) rfl ?_
    refine q_iload_n (M := md_X10_sumOf) (pc := 20) dX10_sumOf_20 rfl ?_
    refine q_bipush (M := md_X10_sumOf) (pc := 21) (x := 100) dX10_sumOf_21 (by decide) ?_
    refine q_imul (M := md_X10_sumOf) (pc := 23) dX10_sumOf_23 ?_
    refine q_aload_n (M := md_X10_sumOf) (pc := 24) dX10_sumOf_24 rfl (by decide) ?_
    refine q_getP (M := md_X10_sumOf) (pc := 25) (v := 53) fl_10_55 dX10_sumOf_25 (is_0 hN) rfl ?_
    refine q_getP (M := md_X10_sumOf) (pc := 28) (v := 56) fl_10_430 dX10_sumOf_28 (is_53 hN) rfl ?_
    refine q_iload_n (M := md_X10_sumOf) (pc := 31) dX10_sumOf_31 rfl ?_
    refine e_rd (M := md_X10_sumOf) (pc := 32) h dX10_sumOf_32 (ar_56 hN) (fun v1 h => ?_)
    refine q_iadd (M := md_X10_sumOf) (pc := 33) dX10_sumOf_33 ?_
    refine e_rd (M := md_X10_sumOf) (pc := 34) h dX10_sumOf_34 (ar_74 hN) (fun v2 h => ?_)
    refine q_iadd (M := md_X10_sumOf) (pc := 35) dX10_sumOf_35 ?_
    refine e_ist_n (M := md_X10_sumOf) (pc := 36) (ls' := [q_A 0, q_I l1, q_I (l2 + v2), q_I l3]) dX10_sumOf_36 (by decide) (q_pl rfl) rfl ?_
    refine e_inc (M := md_X10_sumOf) (pc := 37) (x := l3) (ls' := [q_A 0, q_I l1, q_I (l2 + v2), q_I (l3 + 1)]) dX10_sumOf_37 rfl (by decide) (q_pl rfl) rfl ?_
    refine q_goto (M := md_X10_sumOf) (pc := 40) (tgt := 4) dX10_sumOf_40 (by decide) ?_
    exact q_weak (hk4 _ _ _ _  h) ⟨Or.inr rfl, Or.inr rfl, Or.inr rfl, Or.inr rfl, trivial⟩
def f_PG_sumOf_l4 : Nat → Int → Int → Int → q_Mem → q_Res
  | 0 => fun _ _ _ _ => none
  | n + 1 => fun l1 l2 l3 m => f_PG_sumOf_b4 (f_PG_sumOf_l4 n) l1 l2 l3 m
theorem w_PG_sumOf_l4 {r : Int × q_Mem} {N : Nat} (hN : 81 ≤ N) : ∀ (n : Nat) (l1 l2 l3 : Int) (m : q_Mem), f_PG_sumOf_l4 n l1 l2 l3 m = some r → q_E md_X10_sumOf 1 N (some 0) r m 4 [q_A 0, q_I l1, q_I l2, q_I l3] [] := by
  intro n
  induction n with
  | zero => intro l1 l2 l3 m h; exact q_no h
  | succ n ih =>
    intro l1 l2 l3 m h
    exact w_PG_sumOf_b4 hN (fun l1 l2 l3 m h => ih l1 l2 l3 m h) h
def f_PG_sumOf (l1 : Int) (m : q_Mem) : q_Res :=
  f_PG_sumOf_l4 q_F l1 0 0 m
set_option maxRecDepth 20000 in
theorem ok_X10_sumOf {l1 : Int} {r : Int × q_Mem} {m : q_Mem} {N : Nat} (hN : 81 ≤ N) (h : f_PG_sumOf l1 m = some r) : q_C md_X10_sumOf (q_room 1) 0 0 [q_A 0, q_I l1] (q_g N) m (some (q_I r.1), q_g N, r.2) := by
  refine q_ofR (by decide) 2 (ls := [q_A 0, q_I l1, q_N, q_N]) rfl (Nat.le_of_ble_eq_true rfl) ?_
  change q_E md_X10_sumOf 1 N (some 0) r m 0 [q_A 0, q_I l1, q_N, q_N] []
  unfold f_PG_sumOf at h
  refine q_iconst (M := md_X10_sumOf) (pc := 0) dX10_sumOf_0 ?_
  refine e_ist_n (M := md_X10_sumOf) (pc := 1) (ls' := [q_A 0, q_I l1, q_I 0, q_N]) dX10_sumOf_1 (by decide) (q_pl rfl) rfl ?_
  refine q_iconst (M := md_X10_sumOf) (pc := 2) dX10_sumOf_2 ?_
  refine e_ist_n (M := md_X10_sumOf) (pc := 3) (ls' := [q_A 0, q_I l1, q_I 0, q_I 0]) dX10_sumOf_3 (by decide) (q_pl rfl) rfl ?_
  exact q_weak (w_PG_sumOf_l4 hN q_F _ _ _ _  h) ⟨Or.inr rfl, Or.inr rfl, Or.inr rfl, Or.inr rfl, trivial⟩
def f_PG_leastOf_b6 (k6 : Int → Int → Int → q_Mem → q_Res) (l1 l2 l3 : Int) (m : q_Mem) : q_Res :=
  if q_w (m 53 6) ≤ q_w l3 then (q_rt l2 m)
  else (q_rd m 56 100 l3 fun v1 =>
  q_rd m 74 300 ((l1 * 100) + v1) fun v2 =>
  k6 l1 (q_min l2 v2) (l3 + 1) m)
set_option maxRecDepth 20000 in
theorem w_PG_leastOf_b6 {k6 : Int → Int → Int → q_Mem → q_Res} {l1 l2 l3 : Int} {r : Int × q_Mem} {m : q_Mem} {N : Nat} (hN : 81 ≤ N) (hk6 : ∀ (l1 l2 l3 : Int) (m : q_Mem), k6 l1 l2 l3 m = some r → q_E md_X10_leastOf 1 N (some 0) r m 6 [q_A 0, q_I l1, q_I l2, q_I l3] []) (h : f_PG_leastOf_b6 k6 l1 l2 l3 m = some r) : q_E md_X10_leastOf 1 N (some 0) r m 6 [q_A 0, q_I l1, q_I l2, q_I l3] [] := by
  unfold f_PG_leastOf_b6 at h
  refine q_iload_n (M := md_X10_leastOf) (pc := 6) dX10_leastOf_6 rfl ?_
  refine q_aload_n (M := md_X10_leastOf) (pc := 7) dX10_leastOf_7 rfl (by decide) ?_
  refine q_getP (M := md_X10_leastOf) (pc := 8) (v := 53) fl_10_55 dX10_leastOf_8 (is_0 hN) rfl ?_
  refine e_gI (M := md_X10_leastOf) (pc := 11) (v := m 53 6) fl_10_244 dX10_leastOf_11 (is_53 hN) rfl ?_
  refine e_icmp_ge (M := md_X10_leastOf) (pc := 14) (tgt := 47) h rfl rfl dX10_leastOf_14 (by decide) (fun h => ?_) (fun h => ?_)
  · refine q_iload_n (M := md_X10_leastOf) (pc := 47) dX10_leastOf_47 rfl ?_
    exact e_iret (M := md_X10_leastOf) (pc := 48) h rfl dX10_leastOf_48
  · refine q_iload_n (M := md_X10_leastOf) (pc := 17) dX10_leastOf_17 rfl ?_
    refine q_aload_n (M := md_X10_leastOf) (pc := 18) dX10_leastOf_18 rfl (by decide) ?_
    refine q_getP (M := md_X10_leastOf) (pc := 19) (v := 74) fl_10_80 dX10_leastOf_19 (is_0 hN) rfl ?_
    refine q_iload_n (M := md_X10_leastOf) (pc := 22) dX10_leastOf_22 rfl ?_
    refine q_bipush (M := md_X10_leastOf) (pc := 23) (x := 100) dX10_leastOf_23 (by decide) ?_
    refine q_imul (M := md_X10_leastOf) (pc := 25) dX10_leastOf_25 ?_
    refine q_aload_n (M := md_X10_leastOf) (pc := 26) dX10_leastOf_26 rfl (by decide) ?_
    refine q_getP (M := md_X10_leastOf) (pc := 27) (v := 53) fl_10_55 dX10_leastOf_27 (is_0 hN) rfl ?_
    refine q_getP (M := md_X10_leastOf) (pc := 30) (v := 56) fl_10_430 dX10_leastOf_30 (is_53 hN) rfl ?_
    refine q_iload_n (M := md_X10_leastOf) (pc := 33) dX10_leastOf_33 rfl ?_
    refine e_rd (M := md_X10_leastOf) (pc := 34) h dX10_leastOf_34 (ar_56 hN) (fun v1 h => ?_)
    refine q_iadd (M := md_X10_leastOf) (pc := 35) dX10_leastOf_35 ?_
    refine e_rd (M := md_X10_leastOf) (pc := 36) h dX10_leastOf_36 (ar_74 hN) (fun v2 h => ?_)
    refine e_min (M := md_X10_leastOf) (pc := 37) jl_10_444 dX10_leastOf_37 (by decide) (Nat.le_of_ble_eq_true rfl) ?_
    refine e_ist_n (M := md_X10_leastOf) (pc := 40) (ls' := [q_A 0, q_I l1, q_I (q_min l2 v2), q_I l3]) dX10_leastOf_40 (by decide) (q_pl rfl) rfl ?_
    refine e_inc (M := md_X10_leastOf) (pc := 41) (x := l3) (ls' := [q_A 0, q_I l1, q_I (q_min l2 v2), q_I (l3 + 1)]) dX10_leastOf_41 rfl (by decide) (q_pl rfl) rfl ?_
    refine q_goto (M := md_X10_leastOf) (pc := 44) (tgt := 6) dX10_leastOf_44 (by decide) ?_
    exact q_weak (hk6 _ _ _ _  h) ⟨Or.inr rfl, Or.inr rfl, Or.inr rfl, Or.inr rfl, trivial⟩
def f_PG_leastOf_l6 : Nat → Int → Int → Int → q_Mem → q_Res
  | 0 => fun _ _ _ _ => none
  | n + 1 => fun l1 l2 l3 m => f_PG_leastOf_b6 (f_PG_leastOf_l6 n) l1 l2 l3 m
theorem w_PG_leastOf_l6 {r : Int × q_Mem} {N : Nat} (hN : 81 ≤ N) : ∀ (n : Nat) (l1 l2 l3 : Int) (m : q_Mem), f_PG_leastOf_l6 n l1 l2 l3 m = some r → q_E md_X10_leastOf 1 N (some 0) r m 6 [q_A 0, q_I l1, q_I l2, q_I l3] [] := by
  intro n
  induction n with
  | zero => intro l1 l2 l3 m h; exact q_no h
  | succ n ih =>
    intro l1 l2 l3 m h
    exact w_PG_leastOf_b6 hN (fun l1 l2 l3 m h => ih l1 l2 l3 m h) h
def f_PG_leastOf (l1 : Int) (m : q_Mem) : q_Res :=
  f_PG_leastOf_l6 q_F l1 2147483647 0 m
set_option maxRecDepth 20000 in
theorem ok_X10_leastOf {l1 : Int} {r : Int × q_Mem} {m : q_Mem} {N : Nat} (hN : 81 ≤ N) (h : f_PG_leastOf l1 m = some r) : q_C md_X10_leastOf (q_room 1) 0 0 [q_A 0, q_I l1] (q_g N) m (some (q_I r.1), q_g N, r.2) := by
  refine q_ofR (by decide) 2 (ls := [q_A 0, q_I l1, q_N, q_N]) rfl (Nat.le_of_ble_eq_true rfl) ?_
  change q_E md_X10_leastOf 1 N (some 0) r m 0 [q_A 0, q_I l1, q_N, q_N] []
  unfold f_PG_leastOf at h
  refine q_ldc_w (M := md_X10_leastOf) (pc := 0) (x := 2147483647) dX10_leastOf_0 co_10_443 (by decide) ?_
  refine e_ist_n (M := md_X10_leastOf) (pc := 3) (ls' := [q_A 0, q_I l1, q_I 2147483647, q_N]) dX10_leastOf_3 (by decide) (q_pl rfl) rfl ?_
  refine q_iconst (M := md_X10_leastOf) (pc := 4) dX10_leastOf_4 ?_
  refine e_ist_n (M := md_X10_leastOf) (pc := 5) (ls' := [q_A 0, q_I l1, q_I 2147483647, q_I 0]) dX10_leastOf_5 (by decide) (q_pl rfl) rfl ?_
  exact q_weak (w_PG_leastOf_l6 hN q_F _ _ _ _  h) ⟨Or.inr rfl, Or.inr rfl, Or.inr rfl, Or.inr rfl, trivial⟩
def f_PG_total_b17 (l1 l2 s0 : Int) (m : q_Mem) : q_Res :=
  if q_w s0 = (-1) then (if q_w l2 = 3 then (q_rt (-1) m)
  else (q_rt 0 m))
  else (if q_w l2 = 0 then (q_bd (f_PG_sumOf l1 m) fun v2 m3 =>
  q_rt v2 m3)
  else if q_w l2 = 1 then (q_rd m 74 300 ((l1 * 100) + s0) fun v5 =>
  q_rt v5 m)
  else if q_w l2 = 2 then (q_bd (f_PG_leastOf l1 m) fun v7 m8 =>
  q_rt v7 m8)
  else if q_w l2 = 3 then (q_rt s0 m)
  else (q_rt 0 m))
set_option maxRecDepth 20000 in
theorem w_PG_total_b17 {l1 l2 s0 : Int} {r : Int × q_Mem} {m : q_Mem} {N : Nat} (hN : 81 ≤ N) (h : f_PG_total_b17 l1 l2 s0 m = some r) : q_E md_X10_total 3 N (some 0) r m 17 [q_A 0, q_I l1, q_I l2, q_N] [q_I s0] := by
  unfold f_PG_total_b17 at h
  refine e_ist_n (M := md_X10_total) (pc := 17) (ls' := [q_A 0, q_I l1, q_I l2, q_I s0]) dX10_total_17 (by decide) (q_pl rfl) rfl ?_
  refine q_iload_n (M := md_X10_total) (pc := 18) dX10_total_18 rfl ?_
  refine q_iconst (M := md_X10_total) (pc := 19) dX10_total_19 ?_
  refine e_icmp_ne (M := md_X10_total) (pc := 20) (tgt := 34) h rfl (q_wlit rfl) dX10_total_20 (by decide) (fun h => ?_) (fun h => ?_)
  · refine q_iload_n (M := md_X10_total) (pc := 34) dX10_total_34 rfl ?_
    by_cases c1 : q_w l2 = 0
    · rw [if_pos c1] at h
      refine q_tabIn (M := md_X10_total) (pc := 35) (tgt := 64) dX10_total_35 (by rw [c1] <;> decide) (by rw [c1] <;> decide) (by rw [c1] <;> rfl) (by decide) ?_
      refine q_aload_n (M := md_X10_total) (pc := 64) dX10_total_64 rfl (by decide) ?_
      refine q_iload_n (M := md_X10_total) (pc := 65) dX10_total_65 rfl ?_
      refine e_callVi (M := md_X10_total) (pc := 66) (d' := 1) (av := [q_I l1]) (c := 0) h ml_10_364 im_X10_sumOf se_X10_sumOf dX10_total_66 (fun v he => ok_X10_sumOf hN  he) rfl (is_0 hN) ⟨_, _, rfl⟩ (by decide) (Nat.le_of_ble_eq_true rfl) ⟨by decide, by decide⟩ rfl (fun v2 m3 h => ?_)
      exact e_iret (M := md_X10_total) (pc := 69) h rfl dX10_total_69
    rw [if_neg c1] at h
    by_cases c4 : q_w l2 = 1
    · rw [if_pos c4] at h
      refine q_tabIn (M := md_X10_total) (pc := 35) (tgt := 70) dX10_total_35 (by rw [c4] <;> decide) (by rw [c4] <;> decide) (by rw [c4] <;> rfl) (by decide) ?_
      refine q_aload_n (M := md_X10_total) (pc := 70) dX10_total_70 rfl (by decide) ?_
      refine q_getP (M := md_X10_total) (pc := 71) (v := 74) fl_10_80 dX10_total_71 (is_0 hN) rfl ?_
      refine q_iload_n (M := md_X10_total) (pc := 74) dX10_total_74 rfl ?_
      refine q_bipush (M := md_X10_total) (pc := 75) (x := 100) dX10_total_75 (by decide) ?_
      refine q_imul (M := md_X10_total) (pc := 77) dX10_total_77 ?_
      refine q_iload_n (M := md_X10_total) (pc := 78) dX10_total_78 rfl ?_
      refine q_iadd (M := md_X10_total) (pc := 79) dX10_total_79 ?_
      refine e_rd (M := md_X10_total) (pc := 80) h dX10_total_80 (ar_74 hN) (fun v5 h => ?_)
      exact e_iret (M := md_X10_total) (pc := 81) h rfl dX10_total_81
    rw [if_neg c4] at h
    by_cases c6 : q_w l2 = 2
    · rw [if_pos c6] at h
      refine q_tabIn (M := md_X10_total) (pc := 35) (tgt := 82) dX10_total_35 (by rw [c6] <;> decide) (by rw [c6] <;> decide) (by rw [c6] <;> rfl) (by decide) ?_
      refine q_aload_n (M := md_X10_total) (pc := 82) dX10_total_82 rfl (by decide) ?_
      refine q_iload_n (M := md_X10_total) (pc := 83) dX10_total_83 rfl ?_
      refine e_callVi (M := md_X10_total) (pc := 84) (d' := 1) (av := [q_I l1]) (c := 0) h ml_10_367 im_X10_leastOf se_X10_leastOf dX10_total_84 (fun v he => ok_X10_leastOf hN  he) rfl (is_0 hN) ⟨_, _, rfl⟩ (by decide) (Nat.le_of_ble_eq_true rfl) ⟨by decide, by decide⟩ rfl (fun v7 m8 h => ?_)
      exact e_iret (M := md_X10_total) (pc := 87) h rfl dX10_total_87
    rw [if_neg c6] at h
    by_cases c9 : q_w l2 = 3
    · rw [if_pos c9] at h
      refine q_tabIn (M := md_X10_total) (pc := 35) (tgt := 88) dX10_total_35 (by rw [c9] <;> decide) (by rw [c9] <;> decide) (by rw [c9] <;> rfl) (by decide) ?_
      refine q_iload_n (M := md_X10_total) (pc := 88) dX10_total_88 rfl ?_
      exact e_iret (M := md_X10_total) (pc := 89) h rfl dX10_total_89
    rw [if_neg c9] at h
    refine q_tabOut (M := md_X10_total) (pc := 35) (tgt := 90) dX10_total_35 (by omega) (by decide) ?_
    refine q_iconst (M := md_X10_total) (pc := 90) dX10_total_90 ?_
    exact e_iret (M := md_X10_total) (pc := 91) h rfl dX10_total_91
  · refine q_iload_n (M := md_X10_total) (pc := 23) dX10_total_23 rfl ?_
    refine q_iconst (M := md_X10_total) (pc := 24) dX10_total_24 ?_
    refine e_icmp_ne (M := md_X10_total) (pc := 25) (tgt := 32) h rfl (q_wlit rfl) dX10_total_25 (by decide) (fun h => ?_) (fun h => ?_)
    · refine q_iconst (M := md_X10_total) (pc := 32) dX10_total_32 ?_
      exact e_iret (M := md_X10_total) (pc := 33) h rfl dX10_total_33
    · refine q_iconst (M := md_X10_total) (pc := 28) dX10_total_28 ?_
      refine q_goto (M := md_X10_total) (pc := 29) (tgt := 33) dX10_total_29 (by decide) ?_
      exact e_iret (M := md_X10_total) (pc := 33) h rfl dX10_total_33
def f_PG_total (l1 l2 : Int) (m : q_Mem) : q_Res :=
  q_bd (f_PG_isVariable l1 m) fun v1 m2 =>
  if q_w v1 = 0 then (f_PG_total_b17 l1 l2 (-1) m2)
  else (q_bd (f_PG_firstGreatest l1 m2) fun v3 m4 =>
  f_PG_total_b17 l1 l2 v3 m4)
set_option maxRecDepth 20000 in
theorem ok_X10_total {l1 l2 : Int} {r : Int × q_Mem} {m : q_Mem} {N : Nat} (hN : 81 ≤ N) (h : f_PG_total l1 l2 m = some r) : q_C md_X10_total (q_room 3) 0 0 [q_A 0, q_I l1, q_I l2] (q_g N) m (some (q_I r.1), q_g N, r.2) := by
  refine q_ofR (by decide) 1 (ls := [q_A 0, q_I l1, q_I l2, q_N]) rfl (Nat.le_of_ble_eq_true rfl) ?_
  change q_E md_X10_total 3 N (some 0) r m 0 [q_A 0, q_I l1, q_I l2, q_N] []
  unfold f_PG_total at h
  refine q_aload_n (M := md_X10_total) (pc := 0) dX10_total_0 rfl (by decide) ?_
  refine q_iload_n (M := md_X10_total) (pc := 1) dX10_total_1 rfl ?_
  refine e_callVi (M := md_X10_total) (pc := 2) (d' := 1) (av := [q_I l1]) (c := 0) h ml_10_189 im_X10_isVariable se_X10_isVariable dX10_total_2 (fun v he => ok_X10_isVariable hN  he) rfl (is_0 hN) ⟨_, _, rfl⟩ (by decide) (Nat.le_of_ble_eq_true rfl) ⟨by decide, by decide⟩ rfl (fun v1 m2 h => ?_)
  refine e_if_eq (M := md_X10_total) (pc := 5) (tgt := 16) h rfl dX10_total_5 (by decide) (fun h => ?_) (fun h => ?_)
  · refine q_iconst (M := md_X10_total) (pc := 16) dX10_total_16 ?_
    exact q_weak (w_PG_total_b17 hN  h) ⟨Or.inr rfl, Or.inr rfl, Or.inr rfl, Or.inl rfl, trivial⟩
  · refine q_aload_n (M := md_X10_total) (pc := 8) dX10_total_8 rfl (by decide) ?_
    refine q_iload_n (M := md_X10_total) (pc := 9) dX10_total_9 rfl ?_
    refine e_callVi (M := md_X10_total) (pc := 10) (d' := 2) (av := [q_I l1]) (c := 0) h ml_10_361 im_X10_firstGreatest se_X10_firstGreatest dX10_total_10 (fun v he => ok_X10_firstGreatest hN  he) rfl (is_0 hN) ⟨_, _, rfl⟩ (by decide) (Nat.le_of_ble_eq_true rfl) ⟨by decide, by decide⟩ rfl (fun v3 m4 h => ?_)
    refine q_goto (M := md_X10_total) (pc := 13) (tgt := 17) dX10_total_13 (by decide) ?_
    exact q_weak (w_PG_total_b17 hN  h) ⟨Or.inr rfl, Or.inr rfl, Or.inr rfl, Or.inl rfl, trivial⟩
def f_PG_law_b63 (s0 : Int) (m : q_Mem) : q_Res :=
  if q_w s0 = 0 then (q_rt 0 m)
  else (q_bd (f_PG_freshenRun m) fun _ m1 =>
  q_bd (f_PG_countWrong 75 m1) fun v2 m3 =>
  q_lt (m3 0 1) fun v4 => q_one q_Lp v4 <|
  q_bd (f_Loop_points v4 m3) fun v5 m6 =>
  q_rt ((v2 + v5) - (m6 53 6)) m6)
set_option maxRecDepth 20000 in
theorem w_PG_law_b63 {s0 : Int} {r : Int × q_Mem} {m : q_Mem} {N : Nat} (hN : 81 ≤ N) (h : f_PG_law_b63 s0 m = some r) : q_E md_X10_law 7 N (some 0) r m 63 [q_A 0, q_N, q_N] [q_I s0] := by
  unfold f_PG_law_b63 at h
  refine e_ist_n (M := md_X10_law) (pc := 63) (ls' := [q_A 0, q_N, q_I s0]) dX10_law_63 (by decide) (q_pl rfl) rfl ?_
  refine q_iload_n (M := md_X10_law) (pc := 64) dX10_law_64 rfl ?_
  refine e_if_ne (M := md_X10_law) (pc := 65) (tgt := 70) h rfl dX10_law_65 (by decide) (fun h => ?_) (fun h => ?_)
  · refine q_aload_n (M := md_X10_law) (pc := 70) dX10_law_70 rfl (by decide) ?_
    refine e_callVv (M := md_X10_law) (pc := 71) (d' := 6) (av := []) (c := 0) h ml_10_198 im_X10_freshenRun se_X10_freshenRun dX10_law_71 (fun v he => ok_X10_freshenRun hN  he) rfl (is_0 hN) ⟨_, _, rfl⟩ (by decide) (Nat.le_of_ble_eq_true rfl) ⟨by decide, by decide⟩ rfl (fun _ m1 h => ?_)
    refine q_aload_n (M := md_X10_law) (pc := 74) dX10_law_74 rfl (by decide) ?_
    refine q_aload_n (M := md_X10_law) (pc := 75) dX10_law_75 rfl (by decide) ?_
    refine q_getP (M := md_X10_law) (pc := 76) (v := 75) fl_10_84 dX10_law_76 (is_0 hN) rfl ?_
    refine e_callVi (M := md_X10_law) (pc := 79) (d' := 3) (av := [q_A 75]) (c := 0) h ml_10_201 im_X10_countWrong se_X10_countWrong dX10_law_79 (fun v he => ok_X10_countWrong hN (by decide) he) rfl (is_0 hN) ⟨_, _, rfl⟩ (by decide) (Nat.le_of_ble_eq_true rfl) ⟨by decide, by decide⟩ rfl (fun v2 m3 h => ?_)
    refine q_aload_n (M := md_X10_law) (pc := 82) dX10_law_82 rfl (by decide) ?_
    refine e_gR (M := md_X10_law) (pc := 83) h fl_10_19 dX10_law_83 (is_0 hN) rfl (fun v4 hv4 h => ?_)
    refine e_callVi (M := md_X10_law) (pc := 86) (d' := 1) (av := []) (c := v4) h ml_10_211 im_X2_points se_X2_points dX10_law_86 (fun v he => ok_X2_points hN hv4 he) rfl (is_Lp hN hv4) ⟨_, _, rfl⟩ (by decide) (Nat.le_of_ble_eq_true rfl) ⟨by decide, by decide⟩ rfl (fun v5 m6 h => ?_)
    refine q_iadd (M := md_X10_law) (pc := 89) dX10_law_89 ?_
    refine q_aload_n (M := md_X10_law) (pc := 90) dX10_law_90 rfl (by decide) ?_
    refine q_getP (M := md_X10_law) (pc := 91) (v := 53) fl_10_55 dX10_law_91 (is_0 hN) rfl ?_
    refine e_gI (M := md_X10_law) (pc := 94) (v := m6 53 6) fl_10_244 dX10_law_94 (is_53 hN) rfl ?_
    refine q_isub (M := md_X10_law) (pc := 97) dX10_law_97 ?_
    exact e_iret (M := md_X10_law) (pc := 98) h rfl dX10_law_98
  · refine q_iconst (M := md_X10_law) (pc := 68) dX10_law_68 ?_
    exact e_iret (M := md_X10_law) (pc := 69) h rfl dX10_law_69
def f_PG_law_b62 (m : q_Mem) : q_Res :=
  f_PG_law_b63 0 m
set_option maxRecDepth 20000 in
theorem w_PG_law_b62 {r : Int × q_Mem} {m : q_Mem} {N : Nat} (hN : 81 ≤ N) (h : f_PG_law_b62 m = some r) : q_E md_X10_law 7 N (some 0) r m 62 [q_A 0, q_N, q_N] [] := by
  unfold f_PG_law_b62 at h
  refine q_iconst (M := md_X10_law) (pc := 62) dX10_law_62 ?_
  exact q_weak (w_PG_law_b63 hN  h) ⟨Or.inr rfl, Or.inl rfl, Or.inl rfl, trivial⟩
def f_PG_law (m : q_Mem) : q_Res :=
  q_bd (f_PG_current m) fun v1 m2 => q_one q_Ly v1 <|
  q_lt (m2 0 1) fun v3 => q_one q_Lp v3 <|
  q_bd (f_Loop_isLawful v3 (m2 v1 0) (m2 v1 1) m2) fun v4 m5 =>
  if q_w v4 = 0 then (f_PG_law_b62 m5)
  else (if q_w (q_lcmp (m5 v1 5) 0) = 0 then (q_lt (m5 0 1) fun v6 => q_one q_Lp v6 <|
  q_bd (f_Loop_clashes v6 (m5 v1 0) (m5 v1 1) (m5 v1 2) (m5 v1 3) m5) fun v7 m8 =>
  if q_w v7 = 0 then (f_PG_law_b63 1 m8)
  else (f_PG_law_b62 m8))
  else (f_PG_law_b62 m5))
set_option maxRecDepth 20000 in
theorem ok_X10_law {r : Int × q_Mem} {m : q_Mem} {N : Nat} (hN : 81 ≤ N) (h : f_PG_law m = some r) : q_C md_X10_law (q_room 7) 0 0 [q_A 0] (q_g N) m (some (q_I r.1), q_g N, r.2) := by
  refine q_ofR (by decide) 2 (ls := [q_A 0, q_N, q_N]) rfl (Nat.le_of_ble_eq_true rfl) ?_
  change q_E md_X10_law 7 N (some 0) r m 0 [q_A 0, q_N, q_N] []
  unfold f_PG_law at h
  refine q_aload_n (M := md_X10_law) (pc := 0) dX10_law_0 rfl (by decide) ?_
  refine e_callVr (M := md_X10_law) (pc := 1) (d' := 1) (av := []) (c := 0) h ml_10_170 im_X10_current se_X10_current dX10_law_1 (fun v he => ok_X10_current hN  he) rfl (is_0 hN) ⟨_, _, rfl⟩ (by decide) (Nat.le_of_ble_eq_true rfl) ⟨by decide, by decide⟩ rfl (fun v1 m2 h => ?_)
  obtain ⟨hv1, h⟩ := e_one h
  refine e_ast_n (M := md_X10_law) (pc := 4) (ls' := [q_A 0, q_A v1, q_N]) dX10_law_4 (nn_Ly hv1) (by decide) (q_pl rfl) rfl ?_
  refine q_aload_n (M := md_X10_law) (pc := 5) dX10_law_5 rfl (by decide) ?_
  refine e_gR (M := md_X10_law) (pc := 6) h fl_10_19 dX10_law_6 (is_0 hN) rfl (fun v3 hv3 h => ?_)
  refine q_aload_n (M := md_X10_law) (pc := 9) dX10_law_9 rfl (nn_Ly hv1) ?_
  refine e_gI (M := md_X10_law) (pc := 10) (v := m2 v1 0) fl_10_135 dX10_law_10 (is_Ly hN hv1) rfl ?_
  refine q_aload_n (M := md_X10_law) (pc := 13) dX10_law_13 rfl (nn_Ly hv1) ?_
  refine e_gI (M := md_X10_law) (pc := 14) (v := m2 v1 1) fl_10_138 dX10_law_14 (is_Ly hN hv1) rfl ?_
  refine e_callVi (M := md_X10_law) (pc := 17) (d' := 1) (av := [q_I (m2 v1 0), q_I (m2 v1 1)]) (c := v3) h ml_10_144 im_X2_isLawful se_X2_isLawful dX10_law_17 (fun v he => ok_X2_isLawful hN hv3 he) rfl (is_Lp hN hv3) ⟨_, _, rfl⟩ (by decide) (Nat.le_of_ble_eq_true rfl) ⟨by decide, by decide⟩ rfl (fun v4 m5 h => ?_)
  refine e_if_eq (M := md_X10_law) (pc := 20) (tgt := 62) h rfl dX10_law_20 (by decide) (fun h => ?_) (fun h => ?_)
  · exact q_weak (w_PG_law_b62 hN  h) ⟨Or.inr rfl, Or.inl rfl, Or.inl rfl, trivial⟩
  · refine q_aload_n (M := md_X10_law) (pc := 23) dX10_law_23 rfl (nn_Ly hv1) ?_
    refine e_gL (M := md_X10_law) (pc := 24) (v := m5 v1 5) fl_10_156 dX10_law_24 (is_Ly hN hv1) rfl ?_
    refine q_lconst (M := md_X10_law) (pc := 27) (x := 0) dX10_law_27 (by decide) ?_
    refine q_lcmp_ (M := md_X10_law) (pc := 28) dX10_law_28 ?_
    refine e_if_ne (M := md_X10_law) (pc := 29) (tgt := 62) h rfl dX10_law_29 (by decide) (fun h => ?_) (fun h => ?_)
    · exact q_weak (w_PG_law_b62 hN  h) ⟨Or.inr rfl, Or.inl rfl, Or.inl rfl, trivial⟩
    · refine q_aload_n (M := md_X10_law) (pc := 32) dX10_law_32 rfl (by decide) ?_
      refine e_gR (M := md_X10_law) (pc := 33) h fl_10_19 dX10_law_33 (is_0 hN) rfl (fun v6 hv6 h => ?_)
      refine q_aload_n (M := md_X10_law) (pc := 36) dX10_law_36 rfl (nn_Ly hv1) ?_
      refine e_gI (M := md_X10_law) (pc := 37) (v := m5 v1 0) fl_10_135 dX10_law_37 (is_Ly hN hv1) rfl ?_
      refine q_aload_n (M := md_X10_law) (pc := 40) dX10_law_40 rfl (nn_Ly hv1) ?_
      refine e_gI (M := md_X10_law) (pc := 41) (v := m5 v1 1) fl_10_138 dX10_law_41 (is_Ly hN hv1) rfl ?_
      refine q_aload_n (M := md_X10_law) (pc := 44) dX10_law_44 rfl (nn_Ly hv1) ?_
      refine e_gI (M := md_X10_law) (pc := 45) (v := m5 v1 2) fl_10_150 dX10_law_45 (is_Ly hN hv1) rfl ?_
      refine q_aload_n (M := md_X10_law) (pc := 48) dX10_law_48 rfl (nn_Ly hv1) ?_
      refine e_gI (M := md_X10_law) (pc := 49) (v := m5 v1 3) fl_10_153 dX10_law_49 (is_Ly hN hv1) rfl ?_
      refine e_callVi (M := md_X10_law) (pc := 52) (d' := 2) (av := [q_I (m5 v1 0), q_I (m5 v1 1), q_I (m5 v1 2), q_I (m5 v1 3)]) (c := v6) h ml_10_237 im_X2_clashes se_X2_clashes dX10_law_52 (fun v he => ok_X2_clashes hN hv6 he) rfl (is_Lp hN hv6) ⟨_, _, rfl⟩ (by decide) (Nat.le_of_ble_eq_true rfl) ⟨by decide, by decide⟩ rfl (fun v7 m8 h => ?_)
      refine e_if_ne (M := md_X10_law) (pc := 55) (tgt := 62) h rfl dX10_law_55 (by decide) (fun h => ?_) (fun h => ?_)
      · exact q_weak (w_PG_law_b62 hN  h) ⟨Or.inr rfl, Or.inl rfl, Or.inl rfl, trivial⟩
      · refine q_iconst (M := md_X10_law) (pc := 58) dX10_law_58 ?_
        refine q_goto (M := md_X10_law) (pc := 59) (tgt := 63) dX10_law_59 (by decide) ?_
        exact q_weak (w_PG_law_b63 hN  h) ⟨Or.inr rfl, Or.inl rfl, Or.inl rfl, trivial⟩
def f_PG_isBox (l0 : Int) (m : q_Mem) : q_Res :=
  if q_w l0 < 0 then (q_rz 0 m)
  else (if 2 ≤ q_w l0 then (q_rz 0 m)
  else (q_rz 1 m))
set_option maxRecDepth 20000 in
theorem ok_X10_isBox {l0 : Int} {r : Int × q_Mem} {m : q_Mem} {N : Nat} (hN : 81 ≤ N) (h : f_PG_isBox l0 m = some r) : q_C md_X10_isBox (q_room 1) 0 0 [q_I l0] (q_g N) m (some (q_I r.1), q_g N, r.2) := by
  refine q_ofR (by decide) 0 (ls := [q_I l0]) rfl (Nat.le_of_ble_eq_true rfl) ?_
  change q_E md_X10_isBox 1 N (some 0) r m 0 [q_I l0] []
  unfold f_PG_isBox at h
  refine q_iload_n (M := md_X10_isBox) (pc := 0) dX10_isBox_0 rfl ?_
  refine e_if_lt (M := md_X10_isBox) (pc := 1) (tgt := 13) h rfl dX10_isBox_1 (by decide) (fun h => ?_) (fun h => ?_)
  · refine q_iconst (M := md_X10_isBox) (pc := 13) dX10_isBox_13 ?_
    exact e_zret (M := md_X10_isBox) (pc := 14) h rfl dX10_isBox_14
  · refine q_iload_n (M := md_X10_isBox) (pc := 4) dX10_isBox_4 rfl ?_
    refine q_iconst (M := md_X10_isBox) (pc := 5) dX10_isBox_5 ?_
    refine e_icmp_ge (M := md_X10_isBox) (pc := 6) (tgt := 13) h rfl (q_wlit rfl) dX10_isBox_6 (by decide) (fun h => ?_) (fun h => ?_)
    · refine q_iconst (M := md_X10_isBox) (pc := 13) dX10_isBox_13 ?_
      exact e_zret (M := md_X10_isBox) (pc := 14) h rfl dX10_isBox_14
    · refine q_iconst (M := md_X10_isBox) (pc := 9) dX10_isBox_9 ?_
      refine q_goto (M := md_X10_isBox) (pc := 10) (tgt := 14) dX10_isBox_10 (by decide) ?_
      exact e_zret (M := md_X10_isBox) (pc := 14) h rfl dX10_isBox_14
def f_PG_image (l1 : Int) (m : q_Mem) : q_Res :=
  q_bd (f_PG_isBox l1 m) fun v1 m2 =>
  if q_w v1 = 0 then (q_rt (-1) m2)
  else (q_rd m2 51 2 l1 fun v3 => q_one q_Ly v3 <|
  q_bd (f_PG_current m2) fun v4 m5 => q_one q_Ly v4 <|
  q_bd (f_Layo_copy v3 v4 m5) fun _ m6 =>
  q_wrz m6 52 2 l1 1 fun m7 =>
  q_rt (m7 60 9) m7)
set_option maxRecDepth 20000 in
theorem ok_X10_image {l1 : Int} {r : Int × q_Mem} {m : q_Mem} {N : Nat} (hN : 81 ≤ N) (h : f_PG_image l1 m = some r) : q_C md_X10_image (q_room 2) 0 0 [q_A 0, q_I l1] (q_g N) m (some (q_I r.1), q_g N, r.2) := by
  refine q_ofR (by decide) 0 (ls := [q_A 0, q_I l1]) rfl (Nat.le_of_ble_eq_true rfl) ?_
  change q_E md_X10_image 2 N (some 0) r m 0 [q_A 0, q_I l1] []
  unfold f_PG_image at h
  refine q_iload_n (M := md_X10_image) (pc := 0) dX10_image_0 rfl ?_
  refine e_callSi (M := md_X10_image) (pc := 1) (d' := 1) (M' := md_X10_isBox) (av := [q_I l1]) h ml_10_370 sm_X10_isBox dX10_image_1 (fun v he => ok_X10_isBox hN  he) rfl (Nat.le_of_ble_eq_true rfl) ⟨by decide, by decide⟩ rfl (fun v1 m2 h => ?_)
  refine e_if_ne (M := md_X10_image) (pc := 4) (tgt := 9) h rfl dX10_image_4 (by decide) (fun h => ?_) (fun h => ?_)
  · refine q_aload_n (M := md_X10_image) (pc := 9) dX10_image_9 rfl (by decide) ?_
    refine q_getP (M := md_X10_image) (pc := 10) (v := 51) fl_10_44 dX10_image_10 (is_0 hN) rfl ?_
    refine q_iload_n (M := md_X10_image) (pc := 13) dX10_image_13 rfl ?_
    refine e_rda (M := md_X10_image) (pc := 14) h dX10_image_14 (ar_51 hN) (fun v3 h => ?_)
    obtain ⟨hv3, h⟩ := e_one h
    refine q_aload_n (M := md_X10_image) (pc := 15) dX10_image_15 rfl (by decide) ?_
    refine e_callVr (M := md_X10_image) (pc := 16) (d' := 1) (av := []) (c := 0) h ml_10_170 im_X10_current se_X10_current dX10_image_16 (fun v he => ok_X10_current hN  he) rfl (is_0 hN) ⟨_, _, rfl⟩ (by decide) (Nat.le_of_ble_eq_true rfl) ⟨by decide, by decide⟩ rfl (fun v4 m5 h => ?_)
    obtain ⟨hv4, h⟩ := e_one h
    refine e_callVv (M := md_X10_image) (pc := 19) (d' := 1) (av := [q_A v4]) (c := v3) h ml_10_373 im_X1_copy se_X1_copy dX10_image_19 (fun v he => ok_X1_copy hN hv3 hv4 he) rfl (is_Ly hN hv3) ⟨_, _, rfl⟩ (by decide) (Nat.le_of_ble_eq_true rfl) ⟨by decide, by decide⟩ rfl (fun _ m6 h => ?_)
    refine q_aload_n (M := md_X10_image) (pc := 22) dX10_image_22 rfl (by decide) ?_
    refine q_getP (M := md_X10_image) (pc := 23) (v := 52) fl_10_48 dX10_image_23 (is_0 hN) rfl ?_
    refine q_iload_n (M := md_X10_image) (pc := 26) dX10_image_26 rfl ?_
    refine q_iconst (M := md_X10_image) (pc := 27) dX10_image_27 ?_
    refine e_wrz (M := md_X10_image) (pc := 28) h dX10_image_28 (ar_52 hN) (fun m7 h => ?_)
    refine q_aload_n (M := md_X10_image) (pc := 29) dX10_image_29 rfl (by decide) ?_
    refine q_getP (M := md_X10_image) (pc := 30) (v := 60) fl_10_62 dX10_image_30 (is_0 hN) rfl ?_
    refine e_gI (M := md_X10_image) (pc := 33) (v := m7 60 9) fl_10_219 dX10_image_33 (is_60 hN) rfl ?_
    exact e_iret (M := md_X10_image) (pc := 36) h rfl dX10_image_36
  · refine q_iconst (M := md_X10_image) (pc := 7) dX10_image_7 ?_
    exact e_iret (M := md_X10_image) (pc := 8) h rfl dX10_image_8
def f_PG_back (l1 : Int) (m : q_Mem) : q_Res :=
  q_bd (f_PG_isBox l1 m) fun v1 m2 =>
  if q_w v1 = 0 then (q_rt (-1) m2)
  else (q_rd m2 52 2 l1 fun v3 =>
  if q_w v3 = 0 then (q_rt (-1) m2)
  else (q_bd (f_Hist_restart m2) fun v4 m5 => q_one q_Ly v4 <|
  q_rd m5 51 2 l1 fun v6 => q_one q_Ly v6 <|
  q_bd (f_Layo_copy v4 v6 m5) fun _ m7 =>
  q_bd (f_PG_settle m7) fun _ m8 =>
  q_rt (m8 60 9) m8))
set_option maxRecDepth 20000 in
theorem ok_X10_back {l1 : Int} {r : Int × q_Mem} {m : q_Mem} {N : Nat} (hN : 81 ≤ N) (h : f_PG_back l1 m = some r) : q_C md_X10_back (q_room 5) 0 0 [q_A 0, q_I l1] (q_g N) m (some (q_I r.1), q_g N, r.2) := by
  refine q_ofR (by decide) 0 (ls := [q_A 0, q_I l1]) rfl (Nat.le_of_ble_eq_true rfl) ?_
  change q_E md_X10_back 5 N (some 0) r m 0 [q_A 0, q_I l1] []
  unfold f_PG_back at h
  refine q_iload_n (M := md_X10_back) (pc := 0) dX10_back_0 rfl ?_
  refine e_callSi (M := md_X10_back) (pc := 1) (d' := 1) (M' := md_X10_isBox) (av := [q_I l1]) h ml_10_370 sm_X10_isBox dX10_back_1 (fun v he => ok_X10_isBox hN  he) rfl (Nat.le_of_ble_eq_true rfl) ⟨by decide, by decide⟩ rfl (fun v1 m2 h => ?_)
  refine e_if_eq (M := md_X10_back) (pc := 4) (tgt := 16) h rfl dX10_back_4 (by decide) (fun h => ?_) (fun h => ?_)
  · refine q_iconst (M := md_X10_back) (pc := 16) dX10_back_16 ?_
    exact e_iret (M := md_X10_back) (pc := 17) h rfl dX10_back_17
  · refine q_aload_n (M := md_X10_back) (pc := 7) dX10_back_7 rfl (by decide) ?_
    refine q_getP (M := md_X10_back) (pc := 8) (v := 52) fl_10_48 dX10_back_8 (is_0 hN) rfl ?_
    refine q_iload_n (M := md_X10_back) (pc := 11) dX10_back_11 rfl ?_
    refine e_rdz (M := md_X10_back) (pc := 12) h dX10_back_12 (ar_52 hN) (fun v3 h => ?_)
    refine e_if_ne (M := md_X10_back) (pc := 13) (tgt := 18) h rfl dX10_back_13 (by decide) (fun h => ?_) (fun h => ?_)
    · refine q_aload_n (M := md_X10_back) (pc := 18) dX10_back_18 rfl (by decide) ?_
      refine q_getP (M := md_X10_back) (pc := 19) (v := 28) fl_10_38 dX10_back_19 (is_0 hN) rfl ?_
      refine e_callVr (M := md_X10_back) (pc := 22) (d' := 1) (av := []) (c := 28) h ml_10_377 im_X0_restart se_X0_restart dX10_back_22 (fun v he => ok_X0_restart hN  he) rfl (is_28 hN) ⟨_, _, rfl⟩ (by decide) (Nat.le_of_ble_eq_true rfl) ⟨by decide, by decide⟩ rfl (fun v4 m5 h => ?_)
      obtain ⟨hv4, h⟩ := e_one h
      refine q_aload_n (M := md_X10_back) (pc := 25) dX10_back_25 rfl (by decide) ?_
      refine q_getP (M := md_X10_back) (pc := 26) (v := 51) fl_10_44 dX10_back_26 (is_0 hN) rfl ?_
      refine q_iload_n (M := md_X10_back) (pc := 29) dX10_back_29 rfl ?_
      refine e_rda (M := md_X10_back) (pc := 30) h dX10_back_30 (ar_51 hN) (fun v6 h => ?_)
      obtain ⟨hv6, h⟩ := e_one h
      refine e_callVv (M := md_X10_back) (pc := 31) (d' := 1) (av := [q_A v6]) (c := v4) h ml_10_373 im_X1_copy se_X1_copy dX10_back_31 (fun v he => ok_X1_copy hN hv4 hv6 he) rfl (is_Ly hN hv4) ⟨_, _, rfl⟩ (by decide) (Nat.le_of_ble_eq_true rfl) ⟨by decide, by decide⟩ rfl (fun _ m7 h => ?_)
      refine q_aload_n (M := md_X10_back) (pc := 34) dX10_back_34 rfl (by decide) ?_
      refine e_callVv (M := md_X10_back) (pc := 35) (d' := 4) (av := []) (c := 0) h ml_10_141 im_X10_settle se_X10_settle dX10_back_35 (fun v he => ok_X10_settle hN  he) rfl (is_0 hN) ⟨_, _, rfl⟩ (by decide) (Nat.le_of_ble_eq_true rfl) ⟨by decide, by decide⟩ rfl (fun _ m8 h => ?_)
      refine q_aload_n (M := md_X10_back) (pc := 38) dX10_back_38 rfl (by decide) ?_
      refine q_getP (M := md_X10_back) (pc := 39) (v := 60) fl_10_62 dX10_back_39 (is_0 hN) rfl ?_
      refine e_gI (M := md_X10_back) (pc := 42) (v := m8 60 9) fl_10_219 dX10_back_42 (is_60 hN) rfl ?_
      exact e_iret (M := md_X10_back) (pc := 45) h rfl dX10_back_45
    · refine q_iconst (M := md_X10_back) (pc := 16) dX10_back_16 ?_
      exact e_iret (M := md_X10_back) (pc := 17) h rfl dX10_back_17
def f_PG_about (l1 : Int) (m : q_Mem) : q_Res :=
  q_bd (f_PG_current m) fun v1 m2 => q_one q_Ly v1 <|
  if q_w l1 = 0 then (q_lt (m2 0 1) fun v4 => q_one q_Lp v4 <|
  q_rt (m2 v4 0) m2)
  else if q_w l1 = 1 then (q_lt (m2 0 1) fun v6 => q_one q_Lp v6 <|
  q_rt (m2 v6 1) m2)
  else if q_w l1 = 2 then (q_lt (m2 0 1) fun v8 => q_one q_Lp v8 <|
  q_rt (m2 v8 2) m2)
  else if q_w l1 = 3 then (q_lt (m2 0 1) fun v10 => q_one q_Lp v10 <|
  q_rt (m2 v10 5) m2)
  else if q_w l1 = 4 then (q_lt (m2 0 1) fun v12 => q_one q_Lp v12 <|
  q_rt (m2 v12 4) m2)
  else if q_w l1 = 5 then (q_rt (m2 v1 0) m2)
  else if q_w l1 = 6 then (q_rt (m2 v1 1) m2)
  else if q_w l1 = 7 then (q_rt (m2 v1 2) m2)
  else if q_w l1 = 8 then (q_rt (m2 v1 3) m2)
  else if q_w l1 = 9 then (q_rt (m2 v1 4) m2)
  else if q_w l1 = 10 then (q_rt (q_bc (m2 v1 5)) m2)
  else if q_w l1 = 11 then (q_lt (m2 0 1) fun v20 => q_one q_Lp v20 <|
  q_rt (m2 v20 3) m2)
  else if q_w l1 = 12 then (q_rt (m2 28 1) m2)
  else if q_w l1 = 13 then (q_rt ((m2 28 2) - (m2 28 1)) m2)
  else if q_w l1 = 14 then (q_rt (m2 1 1) m2)
  else (q_rt (-1000) m2)
set_option maxRecDepth 20000 in
theorem ok_X10_about {l1 : Int} {r : Int × q_Mem} {m : q_Mem} {N : Nat} (hN : 81 ≤ N) (h : f_PG_about l1 m = some r) : q_C md_X10_about (q_room 2) 0 0 [q_A 0, q_I l1] (q_g N) m (some (q_I r.1), q_g N, r.2) := by
  refine q_ofR (by decide) 1 (ls := [q_A 0, q_I l1, q_N]) rfl (Nat.le_of_ble_eq_true rfl) ?_
  change q_E md_X10_about 2 N (some 0) r m 0 [q_A 0, q_I l1, q_N] []
  unfold f_PG_about at h
  refine q_aload_n (M := md_X10_about) (pc := 0) dX10_about_0 rfl (by decide) ?_
  refine e_callVr (M := md_X10_about) (pc := 1) (d' := 1) (av := []) (c := 0) h ml_10_170 im_X10_current se_X10_current dX10_about_1 (fun v he => ok_X10_current hN  he) rfl (is_0 hN) ⟨_, _, rfl⟩ (by decide) (Nat.le_of_ble_eq_true rfl) ⟨by decide, by decide⟩ rfl (fun v1 m2 h => ?_)
  obtain ⟨hv1, h⟩ := e_one h
  refine e_ast_n (M := md_X10_about) (pc := 4) (ls' := [q_A 0, q_I l1, q_A v1]) dX10_about_4 (nn_Ly hv1) (by decide) (q_pl rfl) rfl ?_
  refine q_iload_n (M := md_X10_about) (pc := 5) dX10_about_5 rfl ?_
  by_cases c3 : q_w l1 = 0
  · rw [if_pos c3] at h
    refine q_tabIn (M := md_X10_about) (pc := 6) (tgt := 80) dX10_about_6 (by rw [c3] <;> decide) (by rw [c3] <;> decide) (by rw [c3] <;> rfl) (by decide) ?_
    refine q_aload_n (M := md_X10_about) (pc := 80) dX10_about_80 rfl (by decide) ?_
    refine e_gR (M := md_X10_about) (pc := 81) h fl_10_19 dX10_about_81 (is_0 hN) rfl (fun v4 hv4 h => ?_)
    refine e_gI (M := md_X10_about) (pc := 84) (v := m2 v4 0) fl_10_380 dX10_about_84 (is_Lp hN hv4) rfl ?_
    exact e_iret (M := md_X10_about) (pc := 87) h rfl dX10_about_87
  rw [if_neg c3] at h
  by_cases c5 : q_w l1 = 1
  · rw [if_pos c5] at h
    refine q_tabIn (M := md_X10_about) (pc := 6) (tgt := 88) dX10_about_6 (by rw [c5] <;> decide) (by rw [c5] <;> decide) (by rw [c5] <;> rfl) (by decide) ?_
    refine q_aload_n (M := md_X10_about) (pc := 88) dX10_about_88 rfl (by decide) ?_
    refine e_gR (M := md_X10_about) (pc := 89) h fl_10_19 dX10_about_89 (is_0 hN) rfl (fun v6 hv6 h => ?_)
    refine e_gI (M := md_X10_about) (pc := 92) (v := m2 v6 1) fl_10_383 dX10_about_92 (is_Lp hN hv6) rfl ?_
    exact e_iret (M := md_X10_about) (pc := 95) h rfl dX10_about_95
  rw [if_neg c5] at h
  by_cases c7 : q_w l1 = 2
  · rw [if_pos c7] at h
    refine q_tabIn (M := md_X10_about) (pc := 6) (tgt := 96) dX10_about_6 (by rw [c7] <;> decide) (by rw [c7] <;> decide) (by rw [c7] <;> rfl) (by decide) ?_
    refine q_aload_n (M := md_X10_about) (pc := 96) dX10_about_96 rfl (by decide) ?_
    refine e_gR (M := md_X10_about) (pc := 97) h fl_10_19 dX10_about_97 (is_0 hN) rfl (fun v8 hv8 h => ?_)
    refine e_gI (M := md_X10_about) (pc := 100) (v := m2 v8 2) fl_10_121 dX10_about_100 (is_Lp hN hv8) rfl ?_
    exact e_iret (M := md_X10_about) (pc := 103) h rfl dX10_about_103
  rw [if_neg c7] at h
  by_cases c9 : q_w l1 = 3
  · rw [if_pos c9] at h
    refine q_tabIn (M := md_X10_about) (pc := 6) (tgt := 104) dX10_about_6 (by rw [c9] <;> decide) (by rw [c9] <;> decide) (by rw [c9] <;> rfl) (by decide) ?_
    refine q_aload_n (M := md_X10_about) (pc := 104) dX10_about_104 rfl (by decide) ?_
    refine e_gR (M := md_X10_about) (pc := 105) h fl_10_19 dX10_about_105 (is_0 hN) rfl (fun v10 hv10 h => ?_)
    refine e_gI (M := md_X10_about) (pc := 108) (v := m2 v10 5) fl_10_247 dX10_about_108 (is_Lp hN hv10) rfl ?_
    exact e_iret (M := md_X10_about) (pc := 111) h rfl dX10_about_111
  rw [if_neg c9] at h
  by_cases c11 : q_w l1 = 4
  · rw [if_pos c11] at h
    refine q_tabIn (M := md_X10_about) (pc := 6) (tgt := 112) dX10_about_6 (by rw [c11] <;> decide) (by rw [c11] <;> decide) (by rw [c11] <;> rfl) (by decide) ?_
    refine q_aload_n (M := md_X10_about) (pc := 112) dX10_about_112 rfl (by decide) ?_
    refine e_gR (M := md_X10_about) (pc := 113) h fl_10_19 dX10_about_113 (is_0 hN) rfl (fun v12 hv12 h => ?_)
    refine e_gI (M := md_X10_about) (pc := 116) (v := m2 v12 4) fl_10_386 dX10_about_116 (is_Lp hN hv12) rfl ?_
    exact e_iret (M := md_X10_about) (pc := 119) h rfl dX10_about_119
  rw [if_neg c11] at h
  by_cases c13 : q_w l1 = 5
  · rw [if_pos c13] at h
    refine q_tabIn (M := md_X10_about) (pc := 6) (tgt := 120) dX10_about_6 (by rw [c13] <;> decide) (by rw [c13] <;> decide) (by rw [c13] <;> rfl) (by decide) ?_
    refine q_aload_n (M := md_X10_about) (pc := 120) dX10_about_120 rfl (nn_Ly hv1) ?_
    refine e_gI (M := md_X10_about) (pc := 121) (v := m2 v1 0) fl_10_135 dX10_about_121 (is_Ly hN hv1) rfl ?_
    exact e_iret (M := md_X10_about) (pc := 124) h rfl dX10_about_124
  rw [if_neg c13] at h
  by_cases c14 : q_w l1 = 6
  · rw [if_pos c14] at h
    refine q_tabIn (M := md_X10_about) (pc := 6) (tgt := 125) dX10_about_6 (by rw [c14] <;> decide) (by rw [c14] <;> decide) (by rw [c14] <;> rfl) (by decide) ?_
    refine q_aload_n (M := md_X10_about) (pc := 125) dX10_about_125 rfl (nn_Ly hv1) ?_
    refine e_gI (M := md_X10_about) (pc := 126) (v := m2 v1 1) fl_10_138 dX10_about_126 (is_Ly hN hv1) rfl ?_
    exact e_iret (M := md_X10_about) (pc := 129) h rfl dX10_about_129
  rw [if_neg c14] at h
  by_cases c15 : q_w l1 = 7
  · rw [if_pos c15] at h
    refine q_tabIn (M := md_X10_about) (pc := 6) (tgt := 130) dX10_about_6 (by rw [c15] <;> decide) (by rw [c15] <;> decide) (by rw [c15] <;> rfl) (by decide) ?_
    refine q_aload_n (M := md_X10_about) (pc := 130) dX10_about_130 rfl (nn_Ly hv1) ?_
    refine e_gI (M := md_X10_about) (pc := 131) (v := m2 v1 2) fl_10_150 dX10_about_131 (is_Ly hN hv1) rfl ?_
    exact e_iret (M := md_X10_about) (pc := 134) h rfl dX10_about_134
  rw [if_neg c15] at h
  by_cases c16 : q_w l1 = 8
  · rw [if_pos c16] at h
    refine q_tabIn (M := md_X10_about) (pc := 6) (tgt := 135) dX10_about_6 (by rw [c16] <;> decide) (by rw [c16] <;> decide) (by rw [c16] <;> rfl) (by decide) ?_
    refine q_aload_n (M := md_X10_about) (pc := 135) dX10_about_135 rfl (nn_Ly hv1) ?_
    refine e_gI (M := md_X10_about) (pc := 136) (v := m2 v1 3) fl_10_153 dX10_about_136 (is_Ly hN hv1) rfl ?_
    exact e_iret (M := md_X10_about) (pc := 139) h rfl dX10_about_139
  rw [if_neg c16] at h
  by_cases c17 : q_w l1 = 9
  · rw [if_pos c17] at h
    refine q_tabIn (M := md_X10_about) (pc := 6) (tgt := 140) dX10_about_6 (by rw [c17] <;> decide) (by rw [c17] <;> decide) (by rw [c17] <;> rfl) (by decide) ?_
    refine q_aload_n (M := md_X10_about) (pc := 140) dX10_about_140 rfl (nn_Ly hv1) ?_
    refine e_gI (M := md_X10_about) (pc := 141) (v := m2 v1 4) fl_10_163 dX10_about_141 (is_Ly hN hv1) rfl ?_
    exact e_iret (M := md_X10_about) (pc := 144) h rfl dX10_about_144
  rw [if_neg c17] at h
  by_cases c18 : q_w l1 = 10
  · rw [if_pos c18] at h
    refine q_tabIn (M := md_X10_about) (pc := 6) (tgt := 145) dX10_about_6 (by rw [c18] <;> decide) (by rw [c18] <;> decide) (by rw [c18] <;> rfl) (by decide) ?_
    refine q_aload_n (M := md_X10_about) (pc := 145) dX10_about_145 rfl (nn_Ly hv1) ?_
    refine e_gL (M := md_X10_about) (pc := 146) (v := m2 v1 5) fl_10_156 dX10_about_146 (is_Ly hN hv1) rfl ?_
    refine e_bitc (M := md_X10_about) (pc := 149) jl_10_176 dX10_about_149 (by decide) (Nat.le_of_ble_eq_true rfl) ?_
    exact e_iret (M := md_X10_about) (pc := 152) h rfl dX10_about_152
  rw [if_neg c18] at h
  by_cases c19 : q_w l1 = 11
  · rw [if_pos c19] at h
    refine q_tabIn (M := md_X10_about) (pc := 6) (tgt := 153) dX10_about_6 (by rw [c19] <;> decide) (by rw [c19] <;> decide) (by rw [c19] <;> rfl) (by decide) ?_
    refine q_aload_n (M := md_X10_about) (pc := 153) dX10_about_153 rfl (by decide) ?_
    refine e_gR (M := md_X10_about) (pc := 154) h fl_10_19 dX10_about_154 (is_0 hN) rfl (fun v20 hv20 h => ?_)
    refine e_gI (M := md_X10_about) (pc := 157) (v := m2 v20 3) fl_10_389 dX10_about_157 (is_Lp hN hv20) rfl ?_
    exact e_iret (M := md_X10_about) (pc := 160) h rfl dX10_about_160
  rw [if_neg c19] at h
  by_cases c21 : q_w l1 = 12
  · rw [if_pos c21] at h
    refine q_tabIn (M := md_X10_about) (pc := 6) (tgt := 161) dX10_about_6 (by rw [c21] <;> decide) (by rw [c21] <;> decide) (by rw [c21] <;> rfl) (by decide) ?_
    refine q_aload_n (M := md_X10_about) (pc := 161) dX10_about_161 rfl (by decide) ?_
    refine q_getP (M := md_X10_about) (pc := 162) (v := 28) fl_10_38 dX10_about_162 (is_0 hN) rfl ?_
    refine e_gI (M := md_X10_about) (pc := 165) (v := m2 28 1) fl_10_392 dX10_about_165 (is_28 hN) rfl ?_
    exact e_iret (M := md_X10_about) (pc := 168) h rfl dX10_about_168
  rw [if_neg c21] at h
  by_cases c22 : q_w l1 = 13
  · rw [if_pos c22] at h
    refine q_tabIn (M := md_X10_about) (pc := 6) (tgt := 169) dX10_about_6 (by rw [c22] <;> decide) (by rw [c22] <;> decide) (by rw [c22] <;> rfl) (by decide) ?_
    refine q_aload_n (M := md_X10_about) (pc := 169) dX10_about_169 rfl (by decide) ?_
    refine q_getP (M := md_X10_about) (pc := 170) (v := 28) fl_10_38 dX10_about_170 (is_0 hN) rfl ?_
    refine e_gI (M := md_X10_about) (pc := 173) (v := m2 28 2) fl_10_395 dX10_about_173 (is_28 hN) rfl ?_
    refine q_aload_n (M := md_X10_about) (pc := 176) dX10_about_176 rfl (by decide) ?_
    refine q_getP (M := md_X10_about) (pc := 177) (v := 28) fl_10_38 dX10_about_177 (is_0 hN) rfl ?_
    refine e_gI (M := md_X10_about) (pc := 180) (v := m2 28 1) fl_10_392 dX10_about_180 (is_28 hN) rfl ?_
    refine q_isub (M := md_X10_about) (pc := 183) dX10_about_183 ?_
    exact e_iret (M := md_X10_about) (pc := 184) h rfl dX10_about_184
  rw [if_neg c22] at h
  by_cases c23 : q_w l1 = 14
  · rw [if_pos c23] at h
    refine q_tabIn (M := md_X10_about) (pc := 6) (tgt := 185) dX10_about_6 (by rw [c23] <;> decide) (by rw [c23] <;> decide) (by rw [c23] <;> rfl) (by decide) ?_
    refine q_aload_n (M := md_X10_about) (pc := 185) dX10_about_185 rfl (by decide) ?_
    refine q_getP (M := md_X10_about) (pc := 186) (v := 1) fl_10_12 dX10_about_186 (is_0 hN) rfl ?_
    refine e_gI (M := md_X10_about) (pc := 189) (v := m2 1 1) fl_10_106 dX10_about_189 (is_1 hN) rfl ?_
    exact e_iret (M := md_X10_about) (pc := 192) h rfl dX10_about_192
  rw [if_neg c23] at h
  refine q_tabOut (M := md_X10_about) (pc := 6) (tgt := 193) dX10_about_6 (by omega) (by decide) ?_
  refine q_sipush (M := md_X10_about) (pc := 193) (x := -1000) dX10_about_193 (by decide) ?_
  exact e_iret (M := md_X10_about) (pc := 196) h rfl dX10_about_196
