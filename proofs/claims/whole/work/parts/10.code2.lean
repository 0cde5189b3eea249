def f_Plac_place (l1 l2 : Int) (m : q_Mem) : q_Res :=
  q_bd (f_Loop_points l1 m) fun v1 m2 =>
  q_pf m2 60 8 v1 fun m3 =>
  q_bd (f_Loop_latency l1 (m3 l2 0) (m3 l2 1) m3) fun v4 m5 =>
  q_pf m5 60 9 v4 fun m6 =>
  q_pf m6 60 11 (q_abs (((m6 l2 0) * (m6 l2 2)) + ((m6 l2 1) * (m6 l2 3)))) fun m7 =>
  q_bd (f_Plac_setTicks l1 l2 m7) fun _ m8 =>
  q_bd (f_Plac_sortByTick l1 m8) fun _ m9 =>
  q_bd (f_Plac_setCells l1 l2 m9) fun _ m10 =>
  q_bd (f_Plac_setClashes l1 l2 m10) fun _ m11 =>
  q_rt 0 m11
set_option maxRecDepth 20000 in
theorem ok_X4_place {l1 l2 : Int} {r : Int × q_Mem} {m : q_Mem} {N : Nat} (hN : 81 ≤ N) (hl1 : l1 ∈ (q_Lp : List Int)) (hl2 : l2 ∈ (q_Ly : List Int)) (h : f_Plac_place l1 l2 m = some r) : q_C md_X4_place (q_room 3) 0 0 [q_A 60, q_A l1, q_A l2] (q_g N) m (none, q_g N, r.2) := by
  refine q_ofR (by decide) 0 (ls := [q_A 60, q_A l1, q_A l2]) rfl (Nat.le_of_ble_eq_true rfl) ?_
  change q_E md_X4_place 3 N (none) r m 0 [q_A 60, q_A l1, q_A l2] []
  unfold f_Plac_place at h
  refine q_aload_n (M := md_X4_place) (pc := 0) dX4_place_0 rfl (by decide) ?_
  refine q_aload_n (M := md_X4_place) (pc := 1) dX4_place_1 rfl (nn_Lp hl1) ?_
  refine e_callVi (M := md_X4_place) (pc := 2) (d' := 1) (av := []) (c := l1) h ml_4_37 im_X2_points se_X2_points dX4_place_2 (fun v he => ok_X2_points hN hl1 he) rfl (is_Lp hN hl1) ⟨_, _, rfl⟩ (by decide) (Nat.le_of_ble_eq_true rfl) ⟨by decide, by decide⟩ rfl (fun v1 m2 h => ?_)
  refine e_pfI (M := md_X4_place) (pc := 5) h fl_4_43 dX4_place_5 (is_60 hN) rfl (fun m3 h => ?_)
  refine q_aload_n (M := md_X4_place) (pc := 8) dX4_place_8 rfl (by decide) ?_
  refine q_aload_n (M := md_X4_place) (pc := 9) dX4_place_9 rfl (nn_Lp hl1) ?_
  refine q_aload_n (M := md_X4_place) (pc := 10) dX4_place_10 rfl (nn_Ly hl2) ?_
  refine e_gI (M := md_X4_place) (pc := 11) (v := m3 l2 0) fl_4_46 dX4_place_11 (is_Ly hN hl2) rfl ?_
  refine q_aload_n (M := md_X4_place) (pc := 14) dX4_place_14 rfl (nn_Ly hl2) ?_
  refine e_gI (M := md_X4_place) (pc := 15) (v := m3 l2 1) fl_4_51 dX4_place_15 (is_Ly hN hl2) rfl ?_
  refine e_callVi (M := md_X4_place) (pc := 18) (d' := 1) (av := [q_I (m3 l2 0), q_I (m3 l2 1)]) (c := l1) h ml_4_54 im_X2_latency se_X2_latency dX4_place_18 (fun v he => ok_X2_latency hN hl1 he) rfl (is_Lp hN hl1) ⟨_, _, rfl⟩ (by decide) (Nat.le_of_ble_eq_true rfl) ⟨by decide, by decide⟩ rfl (fun v4 m5 h => ?_)
  refine e_pfI (M := md_X4_place) (pc := 21) h fl_4_58 dX4_place_21 (is_60 hN) rfl (fun m6 h => ?_)
  refine q_aload_n (M := md_X4_place) (pc := 24) dX4_place_24 rfl (by decide) ?_
  refine q_aload_n (M := md_X4_place) (pc := 25) dX4_place_25 rfl (nn_Ly hl2) ?_
  refine e_gI (M := md_X4_place) (pc := 26) (v := m6 l2 0) fl_4_46 dX4_place_26 (is_Ly hN hl2) rfl ?_
  refine q_aload_n (M := md_X4_place) (pc := 29) dX4_place_29 rfl (nn_Ly hl2) ?_
  refine e_gI (M := md_X4_place) (pc := 30) (v := m6 l2 2) fl_4_60 dX4_place_30 (is_Ly hN hl2) rfl ?_
  refine q_imul (M := md_X4_place) (pc := 33) dX4_place_33 ?_
  refine q_aload_n (M := md_X4_place) (pc := 34) dX4_place_34 rfl (nn_Ly hl2) ?_
  refine e_gI (M := md_X4_place) (pc := 35) (v := m6 l2 1) fl_4_51 dX4_place_35 (is_Ly hN hl2) rfl ?_
  refine q_aload_n (M := md_X4_place) (pc := 38) dX4_place_38 rfl (nn_Ly hl2) ?_
  refine e_gI (M := md_X4_place) (pc := 39) (v := m6 l2 3) fl_4_63 dX4_place_39 (is_Ly hN hl2) rfl ?_
  refine q_imul (M := md_X4_place) (pc := 42) dX4_place_42 ?_
  refine q_iadd (M := md_X4_place) (pc := 43) dX4_place_43 ?_
  refine e_abs (M := md_X4_place) (pc := 44) jl_4_66 dX4_place_44 (by decide) (Nat.le_of_ble_eq_true rfl) ?_
  refine e_pfI (M := md_X4_place) (pc := 47) h fl_4_72 dX4_place_47 (is_60 hN) rfl (fun m7 h => ?_)
  refine q_aload_n (M := md_X4_place) (pc := 50) dX4_place_50 rfl (by decide) ?_
  refine q_aload_n (M := md_X4_place) (pc := 51) dX4_place_51 rfl (nn_Lp hl1) ?_
  refine q_aload_n (M := md_X4_place) (pc := 52) dX4_place_52 rfl (nn_Ly hl2) ?_
  refine e_callVv (M := md_X4_place) (pc := 53) (d' := 2) (av := [q_A l1, q_A l2]) (c := 60) h ml_4_75 im_X4_setTicks se_X4_setTicks dX4_place_53 (fun v he => ok_X4_setTicks hN hl1 hl2 he) rfl (is_60 hN) ⟨_, _, rfl⟩ (by decide) (Nat.le_of_ble_eq_true rfl) ⟨by decide, by decide⟩ rfl (fun _ m8 h => ?_)
  refine q_aload_n (M := md_X4_place) (pc := 56) dX4_place_56 rfl (by decide) ?_
  refine q_aload_n (M := md_X4_place) (pc := 57) dX4_place_57 rfl (nn_Lp hl1) ?_
  refine e_callVv (M := md_X4_place) (pc := 58) (d' := 2) (av := [q_A l1]) (c := 60) h ml_4_79 im_X4_sortByTick se_X4_sortByTick dX4_place_58 (fun v he => ok_X4_sortByTick hN hl1 he) rfl (is_60 hN) ⟨_, _, rfl⟩ (by decide) (Nat.le_of_ble_eq_true rfl) ⟨by decide, by decide⟩ rfl (fun _ m9 h => ?_)
  refine q_aload_n (M := md_X4_place) (pc := 61) dX4_place_61 rfl (by decide) ?_
  refine q_aload_n (M := md_X4_place) (pc := 62) dX4_place_62 rfl (nn_Lp hl1) ?_
  refine q_aload_n (M := md_X4_place) (pc := 63) dX4_place_63 rfl (nn_Ly hl2) ?_
  refine e_callVv (M := md_X4_place) (pc := 64) (d' := 2) (av := [q_A l1, q_A l2]) (c := 60) h ml_4_83 im_X4_setCells se_X4_setCells dX4_place_64 (fun v he => ok_X4_setCells hN hl1 hl2 he) rfl (is_60 hN) ⟨_, _, rfl⟩ (by decide) (Nat.le_of_ble_eq_true rfl) ⟨by decide, by decide⟩ rfl (fun _ m10 h => ?_)
  refine q_aload_n (M := md_X4_place) (pc := 67) dX4_place_67 rfl (by decide) ?_
  refine q_aload_n (M := md_X4_place) (pc := 68) dX4_place_68 rfl (nn_Lp hl1) ?_
  refine q_aload_n (M := md_X4_place) (pc := 69) dX4_place_69 rfl (nn_Ly hl2) ?_
  refine e_callVv (M := md_X4_place) (pc := 70) (d' := 2) (av := [q_A l1, q_A l2]) (c := 60) h ml_4_86 im_X4_setClashes se_X4_setClashes dX4_place_70 (fun v he => ok_X4_setClashes hN hl1 hl2 he) rfl (is_60 hN) ⟨_, _, rfl⟩ (by decide) (Nat.le_of_ble_eq_true rfl) ⟨by decide, by decide⟩ rfl (fun _ m11 h => ?_)
  exact e_vret (M := md_X4_place) (pc := 73) h rfl dX4_place_73
def f_Plac_pointsOf_b30 (k4 : Int → Int → Int → q_Mem → q_Res) (l1 l2 l3 : Int) (m : q_Mem) : q_Res :=
  k4 l1 l2 (l3 + 1) m
set_option maxRecDepth 20000 in
theorem w_Plac_pointsOf_b30 {k4 : Int → Int → Int → q_Mem → q_Res} {l1 l2 l3 : Int} {r : Int × q_Mem} {m : q_Mem} {N : Nat} (hN : 81 ≤ N) (hk4 : ∀ (l1 l2 l3 : Int) (m : q_Mem), k4 l1 l2 l3 m = some r → q_E md_X4_pointsOf 1 N (some 0) r m 4 [q_A 60, q_I l1, q_I l2, q_I l3] []) (h : f_Plac_pointsOf_b30 k4 l1 l2 l3 m = some r) : q_E md_X4_pointsOf 1 N (some 0) r m 30 [q_A 60, q_I l1, q_I l2, q_I l3] [] := by
  unfold f_Plac_pointsOf_b30 at h
  refine e_inc (M := md_X4_pointsOf) (pc := 30) (x := l3) (ls' := [q_A 60, q_I l1, q_I l2, q_I (l3 + 1)]) dX4_pointsOf_30 rfl (by decide) (q_pl rfl) rfl ?_
  refine q_goto (M := md_X4_pointsOf) (pc := 33) (tgt := 4) dX4_pointsOf_33 (by decide) ?_
  exact q_weak (hk4 _ _ _ _  h) ⟨Or.inr rfl, Or.inr rfl, Or.inr rfl, Or.inr rfl, trivial⟩
def f_Plac_pointsOf_b4 (k4 : Int → Int → Int → q_Mem → q_Res) (l1 l2 l3 : Int) (m : q_Mem) : q_Res :=
  if q_w (m 60 8) ≤ q_w l3 then (q_rt l2 m)
  else (q_rd m 64 100 l3 fun v1 =>
  q_rd m 62 100 v1 fun v2 =>
  if q_w v2 = q_w l1 then (f_Plac_pointsOf_b30 k4 l1 (l2 + 1) l3 m)
  else (f_Plac_pointsOf_b30 k4 l1 l2 l3 m))
set_option maxRecDepth 20000 in
theorem w_Plac_pointsOf_b4 {k4 : Int → Int → Int → q_Mem → q_Res} {l1 l2 l3 : Int} {r : Int × q_Mem} {m : q_Mem} {N : Nat} (hN : 81 ≤ N) (hk4 : ∀ (l1 l2 l3 : Int) (m : q_Mem), k4 l1 l2 l3 m = some r → q_E md_X4_pointsOf 1 N (some 0) r m 4 [q_A 60, q_I l1, q_I l2, q_I l3] []) (h : f_Plac_pointsOf_b4 k4 l1 l2 l3 m = some r) : q_E md_X4_pointsOf 1 N (some 0) r m 4 [q_A 60, q_I l1, q_I l2, q_I l3] [] := by
  unfold f_Plac_pointsOf_b4 at h
  refine q_iload_n (M := md_X4_pointsOf) (pc := 4) dX4_pointsOf_4 rfl ?_
  refine q_aload_n (M := md_X4_pointsOf) (pc := 5) dX4_pointsOf_5 rfl (by decide) ?_
  refine e_gI (M := md_X4_pointsOf) (pc := 6) (v := m 60 8) fl_4_43 dX4_pointsOf_6 (is_60 hN) rfl ?_
  refine e_icmp_ge (M := md_X4_pointsOf) (pc := 9) (tgt := 36) h rfl rfl dX4_pointsOf_9 (by decide) (fun h => ?_) (fun h => ?_)
  · refine q_iload_n (M := md_X4_pointsOf) (pc := 36) dX4_pointsOf_36 rfl ?_
    exact e_iret (M := md_X4_pointsOf) (pc := 37) h rfl dX4_pointsOf_37
  · refine q_aload_n (M := md_X4_pointsOf) (pc := 12) dX4_pointsOf_12 rfl (by decide) ?_
    refine q_getP (M := md_X4_pointsOf) (pc := 13) (v := 62) fl_4_15 dX4_pointsOf_13 (is_60 hN) rfl ?_
    refine q_aload_n (M := md_X4_pointsOf) (pc := 16) dX4_pointsOf_16 rfl (by decide) ?_
    refine q_getP (M := md_X4_pointsOf) (pc := 17) (v := 64) fl_4_22 dX4_pointsOf_17 (is_60 hN) rfl ?_
    refine q_iload_n (M := md_X4_pointsOf) (pc := 20) dX4_pointsOf_20 rfl ?_
    refine e_rd (M := md_X4_pointsOf) (pc := 21) h dX4_pointsOf_21 (ar_64 hN) (fun v1 h => ?_)
    refine e_rd (M := md_X4_pointsOf) (pc := 22) h dX4_pointsOf_22 (ar_62 hN) (fun v2 h => ?_)
    refine q_iload_n (M := md_X4_pointsOf) (pc := 23) dX4_pointsOf_23 rfl ?_
    refine e_icmp_ne (M := md_X4_pointsOf) (pc := 24) (tgt := 30) h rfl rfl dX4_pointsOf_24 (by decide) (fun h => ?_) (fun h => ?_)
    · exact q_weak (w_Plac_pointsOf_b30 hN hk4  h) ⟨Or.inr rfl, Or.inr rfl, Or.inr rfl, Or.inr rfl, trivial⟩
    · refine e_inc (M := md_X4_pointsOf) (pc := 27) (x := l2) (ls' := [q_A 60, q_I l1, q_I (l2 + 1), q_I l3]) dX4_pointsOf_27 rfl (by decide) (q_pl rfl) rfl ?_
      exact q_weak (w_Plac_pointsOf_b30 hN hk4  h) ⟨Or.inr rfl, Or.inr rfl, Or.inr rfl, Or.inr rfl, trivial⟩
def f_Plac_pointsOf_l4 : Nat → Int → Int → Int → q_Mem → q_Res
  | 0 => fun _ _ _ _ => none
  | n + 1 => fun l1 l2 l3 m => f_Plac_pointsOf_b4 (f_Plac_pointsOf_l4 n) l1 l2 l3 m
theorem w_Plac_pointsOf_l4 {r : Int × q_Mem} {N : Nat} (hN : 81 ≤ N) : ∀ (n : Nat) (l1 l2 l3 : Int) (m : q_Mem), f_Plac_pointsOf_l4 n l1 l2 l3 m = some r → q_E md_X4_pointsOf 1 N (some 0) r m 4 [q_A 60, q_I l1, q_I l2, q_I l3] [] := by
  intro n
  induction n with
  | zero => intro l1 l2 l3 m h; exact q_no h
  | succ n ih =>
    intro l1 l2 l3 m h
    exact w_Plac_pointsOf_b4 hN (fun l1 l2 l3 m h => ih l1 l2 l3 m h) h
def f_Plac_pointsOf (l1 : Int) (m : q_Mem) : q_Res :=
  f_Plac_pointsOf_l4 q_F l1 0 0 m
set_option maxRecDepth 20000 in
theorem ok_X4_pointsOf {l1 : Int} {r : Int × q_Mem} {m : q_Mem} {N : Nat} (hN : 81 ≤ N) (h : f_Plac_pointsOf l1 m = some r) : q_C md_X4_pointsOf (q_room 1) 0 0 [q_A 60, q_I l1] (q_g N) m (some (q_I r.1), q_g N, r.2) := by
  refine q_ofR (by decide) 2 (ls := [q_A 60, q_I l1, q_N, q_N]) rfl (Nat.le_of_ble_eq_true rfl) ?_
  change q_E md_X4_pointsOf 1 N (some 0) r m 0 [q_A 60, q_I l1, q_N, q_N] []
  unfold f_Plac_pointsOf at h
  refine q_iconst (M := md_X4_pointsOf) (pc := 0) dX4_pointsOf_0 ?_
  refine e_ist_n (M := md_X4_pointsOf) (pc := 1) (ls' := [q_A 60, q_I l1, q_I 0, q_N]) dX4_pointsOf_1 (by decide) (q_pl rfl) rfl ?_
  refine q_iconst (M := md_X4_pointsOf) (pc := 2) dX4_pointsOf_2 ?_
  refine e_ist_n (M := md_X4_pointsOf) (pc := 3) (ls' := [q_A 60, q_I l1, q_I 0, q_I 0]) dX4_pointsOf_3 (by decide) (q_pl rfl) rfl ?_
  exact q_weak (w_Plac_pointsOf_l4 hN q_F _ _ _ _  h) ⟨Or.inr rfl, Or.inr rfl, Or.inr rfl, Or.inr rfl, trivial⟩
def f_Plac_firstTickOf_b2 (k2 : Int → Int → q_Mem → q_Res) (l1 l2 : Int) (m : q_Mem) : q_Res :=
  if q_w (m 60 8) ≤ q_w l2 then (q_rt (-1) m)
  else (q_rd m 64 100 l2 fun v1 =>
  q_rd m 62 100 v1 fun v2 =>
  if q_w v2 = q_w l1 then (q_rd m 64 100 l2 fun v3 =>
  q_rd m 61 100 v3 fun v4 =>
  q_rt v4 m)
  else (k2 l1 (l2 + 1) m))
set_option maxRecDepth 20000 in
theorem w_Plac_firstTickOf_b2 {k2 : Int → Int → q_Mem → q_Res} {l1 l2 : Int} {r : Int × q_Mem} {m : q_Mem} {N : Nat} (hN : 81 ≤ N) (hk2 : ∀ (l1 l2 : Int) (m : q_Mem), k2 l1 l2 m = some r → q_E md_X4_firstTickOf 1 N (some 0) r m 2 [q_A 60, q_I l1, q_I l2] []) (h : f_Plac_firstTickOf_b2 k2 l1 l2 m = some r) : q_E md_X4_firstTickOf 1 N (some 0) r m 2 [q_A 60, q_I l1, q_I l2] [] := by
  unfold f_Plac_firstTickOf_b2 at h
  refine q_iload_n (M := md_X4_firstTickOf) (pc := 2) dX4_firstTickOf_2 rfl ?_
  refine q_aload_n (M := md_X4_firstTickOf) (pc := 3) dX4_firstTickOf_3 rfl (by decide) ?_
  refine e_gI (M := md_X4_firstTickOf) (pc := 4) (v := m 60 8) fl_4_43 dX4_firstTickOf_4 (is_60 hN) rfl ?_
  refine e_icmp_ge (M := md_X4_firstTickOf) (pc := 7) (tgt := 43) h rfl rfl dX4_firstTickOf_7 (by decide) (fun h => ?_) (fun h => ?_)
  · refine q_iconst (M := md_X4_firstTickOf) (pc := 43) dX4_firstTickOf_43 ?_
    exact e_iret (M := md_X4_firstTickOf) (pc := 44) h rfl dX4_firstTickOf_44
  · refine q_aload_n (M := md_X4_firstTickOf) (pc := 10) dX4_firstTickOf_10 rfl (by decide) ?_
    refine q_getP (M := md_X4_firstTickOf) (pc := 11) (v := 62) fl_4_15 dX4_firstTickOf_11 (is_60 hN) rfl ?_
    refine q_aload_n (M := md_X4_firstTickOf) (pc := 14) dX4_firstTickOf_14 rfl (by decide) ?_
    refine q_getP (M := md_X4_firstTickOf) (pc := 15) (v := 64) fl_4_22 dX4_firstTickOf_15 (is_60 hN) rfl ?_
    refine q_iload_n (M := md_X4_firstTickOf) (pc := 18) dX4_firstTickOf_18 rfl ?_
    refine e_rd (M := md_X4_firstTickOf) (pc := 19) h dX4_firstTickOf_19 (ar_64 hN) (fun v1 h => ?_)
    refine e_rd (M := md_X4_firstTickOf) (pc := 20) h dX4_firstTickOf_20 (ar_62 hN) (fun v2 h => ?_)
    refine q_iload_n (M := md_X4_firstTickOf) (pc := 21) dX4_firstTickOf_21 rfl ?_
    refine e_icmp_ne (M := md_X4_firstTickOf) (pc := 22) (tgt := 37) h rfl rfl dX4_firstTickOf_22 (by decide) (fun h => ?_) (fun h => ?_)
    · refine e_inc (M := md_X4_firstTickOf) (pc := 37) (x := l2) (ls' := [q_A 60, q_I l1, q_I (l2 + 1)]) dX4_firstTickOf_37 rfl (by decide) (q_pl rfl) rfl ?_
      refine q_goto (M := md_X4_firstTickOf) (pc := 40) (tgt := 2) dX4_firstTickOf_40 (by decide) ?_
      exact q_weak (hk2 _ _ _  h) ⟨Or.inr rfl, Or.inr rfl, Or.inr rfl, trivial⟩
    · refine q_aload_n (M := md_X4_firstTickOf) (pc := 25) dX4_firstTickOf_25 rfl (by decide) ?_
      refine q_getP (M := md_X4_firstTickOf) (pc := 26) (v := 61) fl_4_9 dX4_firstTickOf_26 (is_60 hN) rfl ?_
      refine q_aload_n (M := md_X4_firstTickOf) (pc := 29) dX4_firstTickOf_29 rfl (by decide) ?_
      refine q_getP (M := md_X4_firstTickOf) (pc := 30) (v := 64) fl_4_22 dX4_firstTickOf_30 (is_60 hN) rfl ?_
      refine q_iload_n (M := md_X4_firstTickOf) (pc := 33) dX4_firstTickOf_33 rfl ?_
      refine e_rd (M := md_X4_firstTickOf) (pc := 34) h dX4_firstTickOf_34 (ar_64 hN) (fun v3 h => ?_)
      refine e_rd (M := md_X4_firstTickOf) (pc := 35) h dX4_firstTickOf_35 (ar_61 hN) (fun v4 h => ?_)
      exact e_iret (M := md_X4_firstTickOf) (pc := 36) h rfl dX4_firstTickOf_36
def f_Plac_firstTickOf_l2 : Nat → Int → Int → q_Mem → q_Res
  | 0 => fun _ _ _ => none
  | n + 1 => fun l1 l2 m => f_Plac_firstTickOf_b2 (f_Plac_firstTickOf_l2 n) l1 l2 m
theorem w_Plac_firstTickOf_l2 {r : Int × q_Mem} {N : Nat} (hN : 81 ≤ N) : ∀ (n : Nat) (l1 l2 : Int) (m : q_Mem), f_Plac_firstTickOf_l2 n l1 l2 m = some r → q_E md_X4_firstTickOf 1 N (some 0) r m 2 [q_A 60, q_I l1, q_I l2] [] := by
  intro n
  induction n with
  | zero => intro l1 l2 m h; exact q_no h
  | succ n ih =>
    intro l1 l2 m h
    exact w_Plac_firstTickOf_b2 hN (fun l1 l2 m h => ih l1 l2 m h) h
def f_Plac_firstTickOf (l1 : Int) (m : q_Mem) : q_Res :=
  f_Plac_firstTickOf_l2 q_F l1 0 m
set_option maxRecDepth 20000 in
theorem ok_X4_firstTickOf {l1 : Int} {r : Int × q_Mem} {m : q_Mem} {N : Nat} (hN : 81 ≤ N) (h : f_Plac_firstTickOf l1 m = some r) : q_C md_X4_firstTickOf (q_room 1) 0 0 [q_A 60, q_I l1] (q_g N) m (some (q_I r.1), q_g N, r.2) := by
  refine q_ofR (by decide) 1 (ls := [q_A 60, q_I l1, q_N]) rfl (Nat.le_of_ble_eq_true rfl) ?_
  change q_E md_X4_firstTickOf 1 N (some 0) r m 0 [q_A 60, q_I l1, q_N] []
  unfold f_Plac_firstTickOf at h
  refine q_iconst (M := md_X4_firstTickOf) (pc := 0) dX4_firstTickOf_0 ?_
  refine e_ist_n (M := md_X4_firstTickOf) (pc := 1) (ls' := [q_A 60, q_I l1, q_I 0]) dX4_firstTickOf_1 (by decide) (q_pl rfl) rfl ?_
  exact q_weak (w_Plac_firstTickOf_l2 hN q_F _ _ _  h) ⟨Or.inr rfl, Or.inr rfl, Or.inr rfl, trivial⟩
def f_Plac_lastTickOf_b7 (k7 : Int → Int → q_Mem → q_Res) (l1 l2 : Int) (m : q_Mem) : q_Res :=
  if q_w l2 < 0 then (q_rt (-1) m)
  else (q_rd m 64 100 l2 fun v1 =>
  q_rd m 62 100 v1 fun v2 =>
  if q_w v2 = q_w l1 then (q_rd m 64 100 l2 fun v3 =>
  q_rd m 61 100 v3 fun v4 =>
  q_rt v4 m)
  else (k7 l1 (l2 + (-1)) m))
set_option maxRecDepth 20000 in
theorem w_Plac_lastTickOf_b7 {k7 : Int → Int → q_Mem → q_Res} {l1 l2 : Int} {r : Int × q_Mem} {m : q_Mem} {N : Nat} (hN : 81 ≤ N) (hk7 : ∀ (l1 l2 : Int) (m : q_Mem), k7 l1 l2 m = some r → q_E md_X4_lastTickOf 1 N (some 0) r m 7 [q_A 60, q_I l1, q_I l2] []) (h : f_Plac_lastTickOf_b7 k7 l1 l2 m = some r) : q_E md_X4_lastTickOf 1 N (some 0) r m 7 [q_A 60, q_I l1, q_I l2] [] := by
  unfold f_Plac_lastTickOf_b7 at h
  refine q_iload_n (M := md_X4_lastTickOf) (pc := 7) dX4_lastTickOf_7 rfl ?_
  refine e_if_lt (M := md_X4_lastTickOf) (pc := 8) (tgt := 44) h rfl dX4_lastTickOf_8 (by decide) (fun h => ?_) (fun h => ?_)
  · refine q_iconst (M := md_X4_lastTickOf) (pc := 44) dX4_lastTickOf_44 ?_
    exact e_iret (M := md_X4_lastTickOf) (pc := 45) h rfl dX4_lastTickOf_45
  · refine q_aload_n (M := md_X4_lastTickOf) (pc := 11) dX4_lastTickOf_11 rfl (by decide) ?_
    refine q_getP (M := md_X4_lastTickOf) (pc := 12) (v := 62) fl_4_15 dX4_lastTickOf_12 (is_60 hN) rfl ?_
    refine q_aload_n (M := md_X4_lastTickOf) (pc := 15) dX4_lastTickOf_15 rfl (by decide) ?_
    refine q_getP (M := md_X4_lastTickOf) (pc := 16) (v := 64) fl_4_22 dX4_lastTickOf_16 (is_60 hN) rfl ?_
    refine q_iload_n (M := md_X4_lastTickOf) (pc := 19) dX4_lastTickOf_19 rfl ?_
    refine e_rd (M := md_X4_lastTickOf) (pc := 20) h dX4_lastTickOf_20 (ar_64 hN) (fun v1 h => ?_)
    refine e_rd (M := md_X4_lastTickOf) (pc := 21) h dX4_lastTickOf_21 (ar_62 hN) (fun v2 h => ?_)
    refine q_iload_n (M := md_X4_lastTickOf) (pc := 22) dX4_lastTickOf_22 rfl ?_
    refine e_icmp_ne (M := md_X4_lastTickOf) (pc := 23) (tgt := 38) h rfl rfl dX4_lastTickOf_23 (by decide) (fun h => ?_) (fun h => ?_)
    · refine e_inc (M := md_X4_lastTickOf) (pc := 38) (x := l2) (ls' := [q_A 60, q_I l1, q_I (l2 + (-1))]) dX4_lastTickOf_38 rfl (by decide) (q_pl rfl) rfl ?_
      refine q_goto (M := md_X4_lastTickOf) (pc := 41) (tgt := 7) dX4_lastTickOf_41 (by decide) ?_
      exact q_weak (hk7 _ _ _  h) ⟨Or.inr rfl, Or.inr rfl, Or.inr rfl, trivial⟩
    · refine q_aload_n (M := md_X4_lastTickOf) (pc := 26) dX4_lastTickOf_26 rfl (by decide) ?_
      refine q_getP (M := md_X4_lastTickOf) (pc := 27) (v := 61) fl_4_9 dX4_lastTickOf_27 (is_60 hN) rfl ?_
      refine q_aload_n (M := md_X4_lastTickOf) (pc := 30) dX4_lastTickOf_30 rfl (by decide) ?_
      refine q_getP (M := md_X4_lastTickOf) (pc := 31) (v := 64) fl_4_22 dX4_lastTickOf_31 (is_60 hN) rfl ?_
      refine q_iload_n (M := md_X4_lastTickOf) (pc := 34) dX4_lastTickOf_34 rfl ?_
      refine e_rd (M := md_X4_lastTickOf) (pc := 35) h dX4_lastTickOf_35 (ar_64 hN) (fun v3 h => ?_)
      refine e_rd (M := md_X4_lastTickOf) (pc := 36) h dX4_lastTickOf_36 (ar_61 hN) (fun v4 h => ?_)
      exact e_iret (M := md_X4_lastTickOf) (pc := 37) h rfl dX4_lastTickOf_37
def f_Plac_lastTickOf_l7 : Nat → Int → Int → q_Mem → q_Res
  | 0 => fun _ _ _ => none
  | n + 1 => fun l1 l2 m => f_Plac_lastTickOf_b7 (f_Plac_lastTickOf_l7 n) l1 l2 m
theorem w_Plac_lastTickOf_l7 {r : Int × q_Mem} {N : Nat} (hN : 81 ≤ N) : ∀ (n : Nat) (l1 l2 : Int) (m : q_Mem), f_Plac_lastTickOf_l7 n l1 l2 m = some r → q_E md_X4_lastTickOf 1 N (some 0) r m 7 [q_A 60, q_I l1, q_I l2] [] := by
  intro n
  induction n with
  | zero => intro l1 l2 m h; exact q_no h
  | succ n ih =>
    intro l1 l2 m h
    exact w_Plac_lastTickOf_b7 hN (fun l1 l2 m h => ih l1 l2 m h) h
def f_Plac_lastTickOf (l1 : Int) (m : q_Mem) : q_Res :=
  f_Plac_lastTickOf_l7 q_F l1 ((m 60 8) - 1) m
set_option maxRecDepth 20000 in
theorem ok_X4_lastTickOf {l1 : Int} {r : Int × q_Mem} {m : q_Mem} {N : Nat} (hN : 81 ≤ N) (h : f_Plac_lastTickOf l1 m = some r) : q_C md_X4_lastTickOf (q_room 1) 0 0 [q_A 60, q_I l1] (q_g N) m (some (q_I r.1), q_g N, r.2) := by
  refine q_ofR (by decide) 1 (ls := [q_A 60, q_I l1, q_N]) rfl (Nat.le_of_ble_eq_true rfl) ?_
  change q_E md_X4_lastTickOf 1 N (some 0) r m 0 [q_A 60, q_I l1, q_N] []
  unfold f_Plac_lastTickOf at h
  refine q_aload_n (M := md_X4_lastTickOf) (pc := 0) dX4_lastTickOf_0 rfl (by decide) ?_
  refine e_gI (M := md_X4_lastTickOf) (pc := 1) (v := m 60 8) fl_4_43 dX4_lastTickOf_1 (is_60 hN) rfl ?_
  refine q_iconst (M := md_X4_lastTickOf) (pc := 4) dX4_lastTickOf_4 ?_
  refine q_isub (M := md_X4_lastTickOf) (pc := 5) dX4_lastTickOf_5 ?_
  refine e_ist_n (M := md_X4_lastTickOf) (pc := 6) (ls' := [q_A 60, q_I l1, q_I ((m 60 8) - 1)]) dX4_lastTickOf_6 (by decide) (q_pl rfl) rfl ?_
  exact q_weak (w_Plac_lastTickOf_l7 hN q_F _ _ _  h) ⟨Or.inr rfl, Or.inr rfl, Or.inr rfl, trivial⟩
def f_Plac_longestPause (l1 : Int) (m : q_Mem) : q_Res :=
  q_bd (f_Plac_pointsOf l1 m) fun v1 m2 =>
  if q_w v1 ≤ 1 then (q_rt 0 m2)
  else (if q_w (m2 60 11) ≤ 0 then (q_rt 0 m2)
  else (q_rt ((m2 60 11) - 1) m2))
set_option maxRecDepth 20000 in
theorem ok_X4_longestPause {l1 : Int} {r : Int × q_Mem} {m : q_Mem} {N : Nat} (hN : 81 ≤ N) (h : f_Plac_longestPause l1 m = some r) : q_C md_X4_longestPause (q_room 2) 0 0 [q_A 60, q_I l1] (q_g N) m (some (q_I r.1), q_g N, r.2) := by
  refine q_ofR (by decide) 0 (ls := [q_A 60, q_I l1]) rfl (Nat.le_of_ble_eq_true rfl) ?_
  change q_E md_X4_longestPause 2 N (some 0) r m 0 [q_A 60, q_I l1] []
  unfold f_Plac_longestPause at h
  refine q_aload_n (M := md_X4_longestPause) (pc := 0) dX4_longestPause_0 rfl (by decide) ?_
  refine q_iload_n (M := md_X4_longestPause) (pc := 1) dX4_longestPause_1 rfl ?_
  refine e_callVi (M := md_X4_longestPause) (pc := 2) (d' := 1) (av := [q_I l1]) (c := 60) h ml_4_114 im_X4_pointsOf se_X4_pointsOf dX4_longestPause_2 (fun v he => ok_X4_pointsOf hN  he) rfl (is_60 hN) ⟨_, _, rfl⟩ (by decide) (Nat.le_of_ble_eq_true rfl) ⟨by decide, by decide⟩ rfl (fun v1 m2 h => ?_)
  refine q_iconst (M := md_X4_longestPause) (pc := 5) dX4_longestPause_5 ?_
  refine e_icmp_le (M := md_X4_longestPause) (pc := 6) (tgt := 25) h rfl (q_wlit rfl) dX4_longestPause_6 (by decide) (fun h => ?_) (fun h => ?_)
  · refine q_iconst (M := md_X4_longestPause) (pc := 25) dX4_longestPause_25 ?_
    exact e_iret (M := md_X4_longestPause) (pc := 26) h rfl dX4_longestPause_26
  · refine q_aload_n (M := md_X4_longestPause) (pc := 9) dX4_longestPause_9 rfl (by decide) ?_
    refine e_gI (M := md_X4_longestPause) (pc := 10) (v := m2 60 11) fl_4_72 dX4_longestPause_10 (is_60 hN) rfl ?_
    refine e_if_le (M := md_X4_longestPause) (pc := 13) (tgt := 25) h rfl dX4_longestPause_13 (by decide) (fun h => ?_) (fun h => ?_)
    · refine q_iconst (M := md_X4_longestPause) (pc := 25) dX4_longestPause_25 ?_
      exact e_iret (M := md_X4_longestPause) (pc := 26) h rfl dX4_longestPause_26
    · refine q_aload_n (M := md_X4_longestPause) (pc := 16) dX4_longestPause_16 rfl (by decide) ?_
      refine e_gI (M := md_X4_longestPause) (pc := 17) (v := m2 60 11) fl_4_72 dX4_longestPause_17 (is_60 hN) rfl ?_
      refine q_iconst (M := md_X4_longestPause) (pc := 20) dX4_longestPause_20 ?_
      refine q_isub (M := md_X4_longestPause) (pc := 21) dX4_longestPause_21 ?_
      refine q_goto (M := md_X4_longestPause) (pc := 22) (tgt := 26) dX4_longestPause_22 (by decide) ?_
      exact e_iret (M := md_X4_longestPause) (pc := 26) h rfl dX4_longestPause_26
def f_Plac_fullestTick_b29 (k4 : Int → Int → q_Mem → q_Res) (l1 l2 : Int) (m : q_Mem) : q_Res :=
  k4 l1 (l2 + 1) m
set_option maxRecDepth 20000 in
theorem w_Plac_fullestTick_b29 {k4 : Int → Int → q_Mem → q_Res} {l1 l2 : Int} {r : Int × q_Mem} {m : q_Mem} {N : Nat} (hN : 81 ≤ N) (hk4 : ∀ (l1 l2 : Int) (m : q_Mem), k4 l1 l2 m = some r → q_E md_X4_fullestTick 1 N (some 0) r m 4 [q_A 60, q_I l1, q_I l2] []) (h : f_Plac_fullestTick_b29 k4 l1 l2 m = some r) : q_E md_X4_fullestTick 1 N (some 0) r m 29 [q_A 60, q_I l1, q_I l2] [] := by
  unfold f_Plac_fullestTick_b29 at h
  refine e_inc (M := md_X4_fullestTick) (pc := 29) (x := l2) (ls' := [q_A 60, q_I l1, q_I (l2 + 1)]) dX4_fullestTick_29 rfl (by decide) (q_pl rfl) rfl ?_
  refine q_goto (M := md_X4_fullestTick) (pc := 32) (tgt := 4) dX4_fullestTick_32 (by decide) ?_
  exact q_weak (hk4 _ _ _  h) ⟨Or.inr rfl, Or.inr rfl, Or.inr rfl, trivial⟩
def f_Plac_fullestTick_b4 (k4 : Int → Int → q_Mem → q_Res) (l1 l2 : Int) (m : q_Mem) : q_Res :=
  if q_w (m 60 9) ≤ q_w l2 then (q_rt l1 m)
  else (q_rd m 65 163 l2 fun v1 =>
  q_rd m 65 163 l1 fun v2 =>
  if q_w v1 ≤ q_w v2 then (f_Plac_fullestTick_b29 k4 l1 l2 m)
  else (f_Plac_fullestTick_b29 k4 l2 l2 m))
set_option maxRecDepth 20000 in
theorem w_Plac_fullestTick_b4 {k4 : Int → Int → q_Mem → q_Res} {l1 l2 : Int} {r : Int × q_Mem} {m : q_Mem} {N : Nat} (hN : 81 ≤ N) (hk4 : ∀ (l1 l2 : Int) (m : q_Mem), k4 l1 l2 m = some r → q_E md_X4_fullestTick 1 N (some 0) r m 4 [q_A 60, q_I l1, q_I l2] []) (h : f_Plac_fullestTick_b4 k4 l1 l2 m = some r) : q_E md_X4_fullestTick 1 N (some 0) r m 4 [q_A 60, q_I l1, q_I l2] [] := by
  unfold f_Plac_fullestTick_b4 at h
  refine q_iload_n (M := md_X4_fullestTick) (pc := 4) dX4_fullestTick_4 rfl ?_
  refine q_aload_n (M := md_X4_fullestTick) (pc := 5) dX4_fullestTick_5 rfl (by decide) ?_
  refine e_gI (M := md_X4_fullestTick) (pc := 6) (v := m 60 9) fl_4_58 dX4_fullestTick_6 (is_60 hN) rfl ?_
  refine e_icmp_ge (M := md_X4_fullestTick) (pc := 9) (tgt := 35) h rfl rfl dX4_fullestTick_9 (by decide) (fun h => ?_) (fun h => ?_)
  · refine q_iload_n (M := md_X4_fullestTick) (pc := 35) dX4_fullestTick_35 rfl ?_
    exact e_iret (M := md_X4_fullestTick) (pc := 36) h rfl dX4_fullestTick_36
  · refine q_aload_n (M := md_X4_fullestTick) (pc := 12) dX4_fullestTick_12 rfl (by decide) ?_
    refine q_getP (M := md_X4_fullestTick) (pc := 13) (v := 65) fl_4_25 dX4_fullestTick_13 (is_60 hN) rfl ?_
    refine q_iload_n (M := md_X4_fullestTick) (pc := 16) dX4_fullestTick_16 rfl ?_
    refine e_rd (M := md_X4_fullestTick) (pc := 17) h dX4_fullestTick_17 (ar_65 hN) (fun v1 h => ?_)
    refine q_aload_n (M := md_X4_fullestTick) (pc := 18) dX4_fullestTick_18 rfl (by decide) ?_
    refine q_getP (M := md_X4_fullestTick) (pc := 19) (v := 65) fl_4_25 dX4_fullestTick_19 (is_60 hN) rfl ?_
    refine q_iload_n (M := md_X4_fullestTick) (pc := 22) dX4_fullestTick_22 rfl ?_
    refine e_rd (M := md_X4_fullestTick) (pc := 23) h dX4_fullestTick_23 (ar_65 hN) (fun v2 h => ?_)
    refine e_icmp_le (M := md_X4_fullestTick) (pc := 24) (tgt := 29) h rfl rfl dX4_fullestTick_24 (by decide) (fun h => ?_) (fun h => ?_)
    · exact q_weak (w_Plac_fullestTick_b29 hN hk4  h) ⟨Or.inr rfl, Or.inr rfl, Or.inr rfl, trivial⟩
    · refine q_iload_n (M := md_X4_fullestTick) (pc := 27) dX4_fullestTick_27 rfl ?_
      refine e_ist_n (M := md_X4_fullestTick) (pc := 28) (ls' := [q_A 60, q_I l2, q_I l2]) dX4_fullestTick_28 (by decide) (q_pl rfl) rfl ?_
      exact q_weak (w_Plac_fullestTick_b29 hN hk4  h) ⟨Or.inr rfl, Or.inr rfl, Or.inr rfl, trivial⟩
def f_Plac_fullestTick_l4 : Nat → Int → Int → q_Mem → q_Res
  | 0 => fun _ _ _ => none
  | n + 1 => fun l1 l2 m => f_Plac_fullestTick_b4 (f_Plac_fullestTick_l4 n) l1 l2 m
theorem w_Plac_fullestTick_l4 {r : Int × q_Mem} {N : Nat} (hN : 81 ≤ N) : ∀ (n : Nat) (l1 l2 : Int) (m : q_Mem), f_Plac_fullestTick_l4 n l1 l2 m = some r → q_E md_X4_fullestTick 1 N (some 0) r m 4 [q_A 60, q_I l1, q_I l2] [] := by
  intro n
  induction n with
  | zero => intro l1 l2 m h; exact q_no h
  | succ n ih =>
    intro l1 l2 m h
    exact w_Plac_fullestTick_b4 hN (fun l1 l2 m h => ih l1 l2 m h) h
def f_Plac_fullestTick (m : q_Mem) : q_Res :=
  f_Plac_fullestTick_l4 q_F 0 1 m
set_option maxRecDepth 20000 in
theorem ok_X4_fullestTick {r : Int × q_Mem} {m : q_Mem} {N : Nat} (hN : 81 ≤ N) (h : f_Plac_fullestTick m = some r) : q_C md_X4_fullestTick (q_room 1) 0 0 [q_A 60] (q_g N) m (some (q_I r.1), q_g N, r.2) := by
  refine q_ofR (by decide) 2 (ls := [q_A 60, q_N, q_N]) rfl (Nat.le_of_ble_eq_true rfl) ?_
  change q_E md_X4_fullestTick 1 N (some 0) r m 0 [q_A 60, q_N, q_N] []
  unfold f_Plac_fullestTick at h
  refine q_iconst (M := md_X4_fullestTick) (pc := 0) dX4_fullestTick_0 ?_
  refine e_ist_n (M := md_X4_fullestTick) (pc := 1) (ls' := [q_A 60, q_I 0, q_N]) dX4_fullestTick_1 (by decide) (q_pl rfl) rfl ?_
  refine q_iconst (M := md_X4_fullestTick) (pc := 2) dX4_fullestTick_2 ?_
  refine e_ist_n (M := md_X4_fullestTick) (pc := 3) (ls' := [q_A 60, q_I 0, q_I 1]) dX4_fullestTick_3 (by decide) (q_pl rfl) rfl ?_
  exact q_weak (w_Plac_fullestTick_l4 hN q_F _ _ _  h) ⟨Or.inr rfl, Or.inr rfl, Or.inr rfl, trivial⟩
def f_Plac_emptyTicks_b24 (k4 : Int → Int → q_Mem → q_Res) (l1 l2 : Int) (m : q_Mem) : q_Res :=
  k4 l1 (l2 + 1) m
set_option maxRecDepth 20000 in
theorem w_Plac_emptyTicks_b24 {k4 : Int → Int → q_Mem → q_Res} {l1 l2 : Int} {r : Int × q_Mem} {m : q_Mem} {N : Nat} (hN : 81 ≤ N) (hk4 : ∀ (l1 l2 : Int) (m : q_Mem), k4 l1 l2 m = some r → q_E md_X4_emptyTicks 1 N (some 0) r m 4 [q_A 60, q_I l1, q_I l2] []) (h : f_Plac_emptyTicks_b24 k4 l1 l2 m = some r) : q_E md_X4_emptyTicks 1 N (some 0) r m 24 [q_A 60, q_I l1, q_I l2] [] := by
  unfold f_Plac_emptyTicks_b24 at h
  refine e_inc (M := md_X4_emptyTicks) (pc := 24) (x := l2) (ls' := [q_A 60, q_I l1, q_I (l2 + 1)]) dX4_emptyTicks_24 rfl (by decide) (q_pl rfl) rfl ?_
  refine q_goto (M := md_X4_emptyTicks) (pc := 27) (tgt := 4) dX4_emptyTicks_27 (by decide) ?_
  exact q_weak (hk4 _ _ _  h) ⟨Or.inr rfl, Or.inr rfl, Or.inr rfl, trivial⟩
def f_Plac_emptyTicks_b4 (k4 : Int → Int → q_Mem → q_Res) (l1 l2 : Int) (m : q_Mem) : q_Res :=
  if q_w (m 60 9) ≤ q_w l2 then (q_rt l1 m)
  else (q_rd m 65 163 l2 fun v1 =>
  if q_w v1 = 0 then (f_Plac_emptyTicks_b24 k4 (l1 + 1) l2 m)
  else (f_Plac_emptyTicks_b24 k4 l1 l2 m))
set_option maxRecDepth 20000 in
theorem w_Plac_emptyTicks_b4 {k4 : Int → Int → q_Mem → q_Res} {l1 l2 : Int} {r : Int × q_Mem} {m : q_Mem} {N : Nat} (hN : 81 ≤ N) (hk4 : ∀ (l1 l2 : Int) (m : q_Mem), k4 l1 l2 m = some r → q_E md_X4_emptyTicks 1 N (some 0) r m 4 [q_A 60, q_I l1, q_I l2] []) (h : f_Plac_emptyTicks_b4 k4 l1 l2 m = some r) : q_E md_X4_emptyTicks 1 N (some 0) r m 4 [q_A 60, q_I l1, q_I l2] [] := by
  unfold f_Plac_emptyTicks_b4 at h
  refine q_iload_n (M := md_X4_emptyTicks) (pc := 4) dX4_emptyTicks_4 rfl ?_
  refine q_aload_n (M := md_X4_emptyTicks) (pc := 5) dX4_emptyTicks_5 rfl (by decide) ?_
  refine e_gI (M := md_X4_emptyTicks) (pc := 6) (v := m 60 9) fl_4_58 dX4_emptyTicks_6 (is_60 hN) rfl ?_
  refine e_icmp_ge (M := md_X4_emptyTicks) (pc := 9) (tgt := 30) h rfl rfl dX4_emptyTicks_9 (by decide) (fun h => ?_) (fun h => ?_)
  · refine q_iload_n (M := md_X4_emptyTicks) (pc := 30) dX4_emptyTicks_30 rfl ?_
    exact e_iret (M := md_X4_emptyTicks) (pc := 31) h rfl dX4_emptyTicks_31
  · refine q_aload_n (M := md_X4_emptyTicks) (pc := 12) dX4_emptyTicks_12 rfl (by decide) ?_
    refine q_getP (M := md_X4_emptyTicks) (pc := 13) (v := 65) fl_4_25 dX4_emptyTicks_13 (is_60 hN) rfl ?_
    refine q_iload_n (M := md_X4_emptyTicks) (pc := 16) dX4_emptyTicks_16 rfl ?_
    refine e_rd (M := md_X4_emptyTicks) (pc := 17) h dX4_emptyTicks_17 (ar_65 hN) (fun v1 h => ?_)
    refine e_if_ne (M := md_X4_emptyTicks) (pc := 18) (tgt := 24) h rfl dX4_emptyTicks_18 (by decide) (fun h => ?_) (fun h => ?_)
    · exact q_weak (w_Plac_emptyTicks_b24 hN hk4  h) ⟨Or.inr rfl, Or.inr rfl, Or.inr rfl, trivial⟩
    · refine e_inc (M := md_X4_emptyTicks) (pc := 21) (x := l1) (ls' := [q_A 60, q_I (l1 + 1), q_I l2]) dX4_emptyTicks_21 rfl (by decide) (q_pl rfl) rfl ?_
      exact q_weak (w_Plac_emptyTicks_b24 hN hk4  h) ⟨Or.inr rfl, Or.inr rfl, Or.inr rfl, trivial⟩
def f_Plac_emptyTicks_l4 : Nat → Int → Int → q_Mem → q_Res
  | 0 => fun _ _ _ => none
  | n + 1 => fun l1 l2 m => f_Plac_emptyTicks_b4 (f_Plac_emptyTicks_l4 n) l1 l2 m
theorem w_Plac_emptyTicks_l4 {r : Int × q_Mem} {N : Nat} (hN : 81 ≤ N) : ∀ (n : Nat) (l1 l2 : Int) (m : q_Mem), f_Plac_emptyTicks_l4 n l1 l2 m = some r → q_E md_X4_emptyTicks 1 N (some 0) r m 4 [q_A 60, q_I l1, q_I l2] [] := by
  intro n
  induction n with
  | zero => intro l1 l2 m h; exact q_no h
  | succ n ih =>
    intro l1 l2 m h
    exact w_Plac_emptyTicks_b4 hN (fun l1 l2 m h => ih l1 l2 m h) h
def f_Plac_emptyTicks (m : q_Mem) : q_Res :=
  f_Plac_emptyTicks_l4 q_F 0 0 m
set_option maxRecDepth 20000 in
theorem ok_X4_emptyTicks {r : Int × q_Mem} {m : q_Mem} {N : Nat} (hN : 81 ≤ N) (h : f_Plac_emptyTicks m = some r) : q_C md_X4_emptyTicks (q_room 1) 0 0 [q_A 60] (q_g N) m (some (q_I r.1), q_g N, r.2) := by
  refine q_ofR (by decide) 2 (ls := [q_A 60, q_N, q_N]) rfl (Nat.le_of_ble_eq_true rfl) ?_
  change q_E md_X4_emptyTicks 1 N (some 0) r m 0 [q_A 60, q_N, q_N] []
  unfold f_Plac_emptyTicks at h
  refine q_iconst (M := md_X4_emptyTicks) (pc := 0) dX4_emptyTicks_0 ?_
  refine e_ist_n (M := md_X4_emptyTicks) (pc := 1) (ls' := [q_A 60, q_I 0, q_N]) dX4_emptyTicks_1 (by decide) (q_pl rfl) rfl ?_
  refine q_iconst (M := md_X4_emptyTicks) (pc := 2) dX4_emptyTicks_2 ?_
  refine e_ist_n (M := md_X4_emptyTicks) (pc := 3) (ls' := [q_A 60, q_I 0, q_I 0]) dX4_emptyTicks_3 (by decide) (q_pl rfl) rfl ?_
  exact q_weak (w_Plac_emptyTicks_l4 hN q_F _ _ _  h) ⟨Or.inr rfl, Or.inr rfl, Or.inr rfl, trivial⟩
def f_Plac_beatsBy_b110 (k20 : Int → Int → Int → Int → Int → Int → q_Mem → q_Res) (l1 l2 l3 l4 l5 l6 s0 : Int) (m : q_Mem) : q_Res :=
  q_rd m 68 12 s0 fun v1 =>
  q_wr m 68 12 s0 (v1 + 1) fun m2 =>
  q_rd m2 68 12 s0 fun v3 =>
  k20 l1 l2 l3 l4 (q_max l5 v3) (l6 + 1) m2
set_option maxRecDepth 20000 in
theorem w_Plac_beatsBy_b110 {k20 : Int → Int → Int → Int → Int → Int → q_Mem → q_Res} {l1 l2 l3 l4 l5 l6 s0 : Int} {r : Int × q_Mem} {m : q_Mem} {N : Nat} (hN : 81 ≤ N) (hk20 : ∀ (l1 l2 l3 l4 l5 l6 : Int) (m : q_Mem), k20 l1 l2 l3 l4 l5 l6 m = some r → q_E md_X4_beatsBy 2 N (some 0) r m 20 [q_A 60, q_I l1, q_I l2, q_I l3, q_I l4, q_I l5, q_I l6, q_N, q_N] []) (h : f_Plac_beatsBy_b110 k20 l1 l2 l3 l4 l5 l6 s0 m = some r) : q_E md_X4_beatsBy 2 N (some 0) r m 110 [q_A 60, q_I l1, q_I l2, q_I l3, q_I l4, q_I l5, q_I l6, q_N, q_N] [q_I s0] := by
  unfold f_Plac_beatsBy_b110 at h
  refine e_ist (M := md_X4_beatsBy) (pc := 110) (ls' := [q_A 60, q_I l1, q_I l2, q_I l3, q_I l4, q_I l5, q_I l6, q_N, q_I s0]) dX4_beatsBy_110 (by decide) (q_pl rfl) rfl ?_
  refine q_aload_n (M := md_X4_beatsBy) (pc := 112) dX4_beatsBy_112 rfl (by decide) ?_
  refine q_getP (M := md_X4_beatsBy) (pc := 113) (v := 68) fl_4_34 dX4_beatsBy_113 (is_60 hN) rfl ?_
  refine q_iload (M := md_X4_beatsBy) (pc := 116) dX4_beatsBy_116 rfl ?_
  refine q_dup2 (M := md_X4_beatsBy) (pc := 118) dX4_beatsBy_118 (show (0 : Nat) ≠ 1 by decide) (show (2 : Nat) ≠ 1 by decide) ?_
  refine e_rd (M := md_X4_beatsBy) (pc := 119) h dX4_beatsBy_119 (ar_68 hN) (fun v1 h => ?_)
  refine q_iconst (M := md_X4_beatsBy) (pc := 120) dX4_beatsBy_120 ?_
  refine q_iadd (M := md_X4_beatsBy) (pc := 121) dX4_beatsBy_121 ?_
  refine e_wr (M := md_X4_beatsBy) (pc := 122) h dX4_beatsBy_122 (ar_68 hN) (fun m2 h => ?_)
  refine q_iload (M := md_X4_beatsBy) (pc := 123) dX4_beatsBy_123 rfl ?_
  refine q_aload_n (M := md_X4_beatsBy) (pc := 125) dX4_beatsBy_125 rfl (by decide) ?_
  refine q_getP (M := md_X4_beatsBy) (pc := 126) (v := 68) fl_4_34 dX4_beatsBy_126 (is_60 hN) rfl ?_
  refine q_iload (M := md_X4_beatsBy) (pc := 129) dX4_beatsBy_129 rfl ?_
  refine e_rd (M := md_X4_beatsBy) (pc := 131) h dX4_beatsBy_131 (ar_68 hN) (fun v3 h => ?_)
  refine e_max (M := md_X4_beatsBy) (pc := 132) jl_4_117 dX4_beatsBy_132 (by decide) (Nat.le_of_ble_eq_true rfl) ?_
  refine e_ist (M := md_X4_beatsBy) (pc := 135) (ls' := [q_A 60, q_I l1, q_I l2, q_I l3, q_I l4, q_I (q_max l5 v3), q_I l6, q_N, q_I s0]) dX4_beatsBy_135 (by decide) (q_pl rfl) rfl ?_
  refine e_inc (M := md_X4_beatsBy) (pc := 137) (x := l6) (ls' := [q_A 60, q_I l1, q_I l2, q_I l3, q_I l4, q_I (q_max l5 v3), q_I (l6 + 1), q_N, q_I s0]) dX4_beatsBy_137 rfl (by decide) (q_pl rfl) rfl ?_
  refine q_goto (M := md_X4_beatsBy) (pc := 140) (tgt := 20) dX4_beatsBy_140 (by decide) ?_
  exact q_weak (hk20 _ _ _ _ _ _ _  h) ⟨Or.inr rfl, Or.inr rfl, Or.inr rfl, Or.inr rfl, Or.inr rfl, Or.inr rfl, Or.inr rfl, Or.inl rfl, Or.inl rfl, trivial⟩
def f_Plac_beatsBy_b85 (k20 : Int → Int → Int → Int → Int → Int → q_Mem → q_Res) (l1 l2 l3 l4 l5 l6 l7 : Int) (m : q_Mem) : q_Res :=
  if q_w l2 = 0 then (q_rd m 62 100 l7 fun v1 =>
  q_dv v1 l3 fun v2 =>
  f_Plac_beatsBy_b110 k20 l1 l2 l3 l4 l5 l6 v2 m)
  else (q_rd m 62 100 l7 fun v3 =>
  q_md v3 l1 fun v4 =>
  f_Plac_beatsBy_b110 k20 l1 l2 l3 l4 l5 l6 v4 m)
set_option maxRecDepth 20000 in
theorem w_Plac_beatsBy_b85 {k20 : Int → Int → Int → Int → Int → Int → q_Mem → q_Res} {l1 l2 l3 l4 l5 l6 l7 : Int} {r : Int × q_Mem} {m : q_Mem} {N : Nat} (hN : 81 ≤ N) (hk20 : ∀ (l1 l2 l3 l4 l5 l6 : Int) (m : q_Mem), k20 l1 l2 l3 l4 l5 l6 m = some r → q_E md_X4_beatsBy 2 N (some 0) r m 20 [q_A 60, q_I l1, q_I l2, q_I l3, q_I l4, q_I l5, q_I l6, q_N, q_N] []) (h : f_Plac_beatsBy_b85 k20 l1 l2 l3 l4 l5 l6 l7 m = some r) : q_E md_X4_beatsBy 2 N (some 0) r m 85 [q_A 60, q_I l1, q_I l2, q_I l3, q_I l4, q_I l5, q_I l6, q_I l7, q_N] [] := by
  unfold f_Plac_beatsBy_b85 at h
  refine q_iload_n (M := md_X4_beatsBy) (pc := 85) dX4_beatsBy_85 rfl ?_
  refine e_if_eq (M := md_X4_beatsBy) (pc := 86) (tgt := 101) h rfl dX4_beatsBy_86 (by decide) (fun h => ?_) (fun h => ?_)
  · refine q_aload_n (M := md_X4_beatsBy) (pc := 101) dX4_beatsBy_101 rfl (by decide) ?_
    refine q_getP (M := md_X4_beatsBy) (pc := 102) (v := 62) fl_4_15 dX4_beatsBy_102 (is_60 hN) rfl ?_
    refine q_iload (M := md_X4_beatsBy) (pc := 105) dX4_beatsBy_105 rfl ?_
    refine e_rd (M := md_X4_beatsBy) (pc := 107) h dX4_beatsBy_107 (ar_62 hN) (fun v1 h => ?_)
    refine q_iload_n (M := md_X4_beatsBy) (pc := 108) dX4_beatsBy_108 rfl ?_
    refine e_dv (M := md_X4_beatsBy) (pc := 109) h dX4_beatsBy_109 (fun v2 h => ?_)
    exact q_weak (w_Plac_beatsBy_b110 hN hk20  h) ⟨Or.inr rfl, Or.inr rfl, Or.inr rfl, Or.inr rfl, Or.inr rfl, Or.inr rfl, Or.inr rfl, Or.inl rfl, Or.inl rfl, trivial⟩
  · refine q_aload_n (M := md_X4_beatsBy) (pc := 89) dX4_beatsBy_89 rfl (by decide) ?_
    refine q_getP (M := md_X4_beatsBy) (pc := 90) (v := 62) fl_4_15 dX4_beatsBy_90 (is_60 hN) rfl ?_
    refine q_iload (M := md_X4_beatsBy) (pc := 93) dX4_beatsBy_93 rfl ?_
    refine e_rd (M := md_X4_beatsBy) (pc := 95) h dX4_beatsBy_95 (ar_62 hN) (fun v3 h => ?_)
    refine q_iload_n (M := md_X4_beatsBy) (pc := 96) dX4_beatsBy_96 rfl ?_
    refine e_md (M := md_X4_beatsBy) (pc := 97) h dX4_beatsBy_97 (fun v4 h => ?_)
    refine q_goto (M := md_X4_beatsBy) (pc := 98) (tgt := 110) dX4_beatsBy_98 (by decide) ?_
    exact q_weak (w_Plac_beatsBy_b110 hN hk20  h) ⟨Or.inr rfl, Or.inr rfl, Or.inr rfl, Or.inr rfl, Or.inr rfl, Or.inr rfl, Or.inr rfl, Or.inl rfl, Or.inl rfl, trivial⟩
def f_Plac_beatsBy_b67 (k20 : Int → Int → Int → Int → Int → Int → q_Mem → q_Res) (l1 l2 l3 l4 l5 l6 l7 : Int) (m : q_Mem) : q_Res :=
  q_fi m 68 12 0 fun m1 =>
  f_Plac_beatsBy_b85 k20 l1 l2 l3 (l4 + l5) 0 l6 l7 m1
set_option maxRecDepth 20000 in
theorem w_Plac_beatsBy_b67 {k20 : Int → Int → Int → Int → Int → Int → q_Mem → q_Res} {l1 l2 l3 l4 l5 l6 l7 : Int} {r : Int × q_Mem} {m : q_Mem} {N : Nat} (hN : 81 ≤ N) (hk20 : ∀ (l1 l2 l3 l4 l5 l6 : Int) (m : q_Mem), k20 l1 l2 l3 l4 l5 l6 m = some r → q_E md_X4_beatsBy 2 N (some 0) r m 20 [q_A 60, q_I l1, q_I l2, q_I l3, q_I l4, q_I l5, q_I l6, q_N, q_N] []) (h : f_Plac_beatsBy_b67 k20 l1 l2 l3 l4 l5 l6 l7 m = some r) : q_E md_X4_beatsBy 2 N (some 0) r m 67 [q_A 60, q_I l1, q_I l2, q_I l3, q_I l4, q_I l5, q_I l6, q_I l7, q_N] [] := by
  unfold f_Plac_beatsBy_b67 at h
  refine q_iload (M := md_X4_beatsBy) (pc := 67) dX4_beatsBy_67 rfl ?_
  refine q_iload (M := md_X4_beatsBy) (pc := 69) dX4_beatsBy_69 rfl ?_
  refine q_iadd (M := md_X4_beatsBy) (pc := 71) dX4_beatsBy_71 ?_
  refine e_ist (M := md_X4_beatsBy) (pc := 72) (ls' := [q_A 60, q_I l1, q_I l2, q_I l3, q_I (l4 + l5), q_I l5, q_I l6, q_I l7, q_N]) dX4_beatsBy_72 (by decide) (q_pl rfl) rfl ?_
  refine q_iconst (M := md_X4_beatsBy) (pc := 74) dX4_beatsBy_74 ?_
  refine e_ist (M := md_X4_beatsBy) (pc := 75) (ls' := [q_A 60, q_I l1, q_I l2, q_I l3, q_I (l4 + l5), q_I 0, q_I l6, q_I l7, q_N]) dX4_beatsBy_75 (by decide) (q_pl rfl) rfl ?_
  refine q_aload_n (M := md_X4_beatsBy) (pc := 77) dX4_beatsBy_77 rfl (by decide) ?_
  refine q_getP (M := md_X4_beatsBy) (pc := 78) (v := 68) fl_4_34 dX4_beatsBy_78 (is_60 hN) rfl ?_
  refine q_iconst (M := md_X4_beatsBy) (pc := 81) dX4_beatsBy_81 ?_
  refine e_fill (M := md_X4_beatsBy) (pc := 82) h jl_4_98 dX4_beatsBy_82 (ar_68 hN) (by decide) (Nat.le_of_ble_eq_true rfl) (fun m1 h => ?_)
  exact q_weak (w_Plac_beatsBy_b85 hN hk20  h) ⟨Or.inr rfl, Or.inr rfl, Or.inr rfl, Or.inr rfl, Or.inr rfl, Or.inr rfl, Or.inr rfl, Or.inr rfl, Or.inl rfl, trivial⟩
def f_Plac_beatsBy_b20 (k20 : Int → Int → Int → Int → Int → Int → q_Mem → q_Res) (l1 l2 l3 l4 l5 l6 : Int) (m : q_Mem) : q_Res :=
  if q_w (m 60 8) ≤ q_w l6 then (q_rt (l4 + l5) m)
  else (q_rd m 64 100 l6 fun v1 =>
  if q_w l6 = 0 then (f_Plac_beatsBy_b67 k20 l1 l2 l3 l4 l5 l6 v1 m)
  else (q_rd m 61 100 v1 fun v2 =>
  q_rd m 64 100 (l6 - 1) fun v3 =>
  q_rd m 61 100 v3 fun v4 =>
  if q_w v2 = q_w v4 then (f_Plac_beatsBy_b85 k20 l1 l2 l3 l4 l5 l6 v1 m)
  else (f_Plac_beatsBy_b67 k20 l1 l2 l3 l4 l5 l6 v1 m)))
set_option maxRecDepth 20000 in
theorem w_Plac_beatsBy_b20 {k20 : Int → Int → Int → Int → Int → Int → q_Mem → q_Res} {l1 l2 l3 l4 l5 l6 : Int} {r : Int × q_Mem} {m : q_Mem} {N : Nat} (hN : 81 ≤ N) (hk20 : ∀ (l1 l2 l3 l4 l5 l6 : Int) (m : q_Mem), k20 l1 l2 l3 l4 l5 l6 m = some r → q_E md_X4_beatsBy 2 N (some 0) r m 20 [q_A 60, q_I l1, q_I l2, q_I l3, q_I l4, q_I l5, q_I l6, q_N, q_N] []) (h : f_Plac_beatsBy_b20 k20 l1 l2 l3 l4 l5 l6 m = some r) : q_E md_X4_beatsBy 2 N (some 0) r m 20 [q_A 60, q_I l1, q_I l2, q_I l3, q_I l4, q_I l5, q_I l6, q_N, q_N] [] := by
  unfold f_Plac_beatsBy_b20 at h
  refine q_iload (M := md_X4_beatsBy) (pc := 20) dX4_beatsBy_20 rfl ?_
  refine q_aload_n (M := md_X4_beatsBy) (pc := 22) dX4_beatsBy_22 rfl (by decide) ?_
  refine e_gI (M := md_X4_beatsBy) (pc := 23) (v := m 60 8) fl_4_43 dX4_beatsBy_23 (is_60 hN) rfl ?_
  refine e_icmp_ge (M := md_X4_beatsBy) (pc := 26) (tgt := 143) h rfl rfl dX4_beatsBy_26 (by decide) (fun h => ?_) (fun h => ?_)
  · refine q_iload (M := md_X4_beatsBy) (pc := 143) dX4_beatsBy_143 rfl ?_
    refine q_iload (M := md_X4_beatsBy) (pc := 145) dX4_beatsBy_145 rfl ?_
    refine q_iadd (M := md_X4_beatsBy) (pc := 147) dX4_beatsBy_147 ?_
    exact e_iret (M := md_X4_beatsBy) (pc := 148) h rfl dX4_beatsBy_148
  · refine q_aload_n (M := md_X4_beatsBy) (pc := 29) dX4_beatsBy_29 rfl (by decide) ?_
    refine q_getP (M := md_X4_beatsBy) (pc := 30) (v := 64) fl_4_22 dX4_beatsBy_30 (is_60 hN) rfl ?_
    refine q_iload (M := md_X4_beatsBy) (pc := 33) dX4_beatsBy_33 rfl ?_
    refine e_rd (M := md_X4_beatsBy) (pc := 35) h dX4_beatsBy_35 (ar_64 hN) (fun v1 h => ?_)
    refine e_ist (M := md_X4_beatsBy) (pc := 36) (ls' := [q_A 60, q_I l1, q_I l2, q_I l3, q_I l4, q_I l5, q_I l6, q_I v1, q_N]) dX4_beatsBy_36 (by decide) (q_pl rfl) rfl ?_
    refine q_iload (M := md_X4_beatsBy) (pc := 38) dX4_beatsBy_38 rfl ?_
    refine e_if_eq (M := md_X4_beatsBy) (pc := 40) (tgt := 67) h rfl dX4_beatsBy_40 (by decide) (fun h => ?_) (fun h => ?_)
    · exact q_weak (w_Plac_beatsBy_b67 hN hk20  h) ⟨Or.inr rfl, Or.inr rfl, Or.inr rfl, Or.inr rfl, Or.inr rfl, Or.inr rfl, Or.inr rfl, Or.inr rfl, Or.inl rfl, trivial⟩
    · refine q_aload_n (M := md_X4_beatsBy) (pc := 43) dX4_beatsBy_43 rfl (by decide) ?_
      refine q_getP (M := md_X4_beatsBy) (pc := 44) (v := 61) fl_4_9 dX4_beatsBy_44 (is_60 hN) rfl ?_
      refine q_iload (M := md_X4_beatsBy) (pc := 47) dX4_beatsBy_47 rfl ?_
      refine e_rd (M := md_X4_beatsBy) (pc := 49) h dX4_beatsBy_49 (ar_61 hN) (fun v2 h => ?_)
      refine q_aload_n (M := md_X4_beatsBy) (pc := 50) dX4_beatsBy_50 rfl (by decide) ?_
      refine q_getP (M := md_X4_beatsBy) (pc := 51) (v := 61) fl_4_9 dX4_beatsBy_51 (is_60 hN) rfl ?_
      refine q_aload_n (M := md_X4_beatsBy) (pc := 54) dX4_beatsBy_54 rfl (by decide) ?_
      refine q_getP (M := md_X4_beatsBy) (pc := 55) (v := 64) fl_4_22 dX4_beatsBy_55 (is_60 hN) rfl ?_
      refine q_iload (M := md_X4_beatsBy) (pc := 58) dX4_beatsBy_58 rfl ?_
      refine q_iconst (M := md_X4_beatsBy) (pc := 60) dX4_beatsBy_60 ?_
      refine q_isub (M := md_X4_beatsBy) (pc := 61) dX4_beatsBy_61 ?_
      refine e_rd (M := md_X4_beatsBy) (pc := 62) h dX4_beatsBy_62 (ar_64 hN) (fun v3 h => ?_)
      refine e_rd (M := md_X4_beatsBy) (pc := 63) h dX4_beatsBy_63 (ar_61 hN) (fun v4 h => ?_)
      refine e_icmp_eq (M := md_X4_beatsBy) (pc := 64) (tgt := 85) h rfl rfl dX4_beatsBy_64 (by decide) (fun h => ?_) (fun h => ?_)
      · exact q_weak (w_Plac_beatsBy_b85 hN hk20  h) ⟨Or.inr rfl, Or.inr rfl, Or.inr rfl, Or.inr rfl, Or.inr rfl, Or.inr rfl, Or.inr rfl, Or.inr rfl, Or.inl rfl, trivial⟩
      · exact q_weak (w_Plac_beatsBy_b67 hN hk20  h) ⟨Or.inr rfl, Or.inr rfl, Or.inr rfl, Or.inr rfl, Or.inr rfl, Or.inr rfl, Or.inr rfl, Or.inr rfl, Or.inl rfl, trivial⟩
def f_Plac_beatsBy_l20 : Nat → Int → Int → Int → Int → Int → Int → q_Mem → q_Res
  | 0 => fun _ _ _ _ _ _ _ => none
  | n + 1 => fun l1 l2 l3 l4 l5 l6 m => f_Plac_beatsBy_b20 (f_Plac_beatsBy_l20 n) l1 l2 l3 l4 l5 l6 m
theorem w_Plac_beatsBy_l20 {r : Int × q_Mem} {N : Nat} (hN : 81 ≤ N) : ∀ (n : Nat) (l1 l2 l3 l4 l5 l6 : Int) (m : q_Mem), f_Plac_beatsBy_l20 n l1 l2 l3 l4 l5 l6 m = some r → q_E md_X4_beatsBy 2 N (some 0) r m 20 [q_A 60, q_I l1, q_I l2, q_I l3, q_I l4, q_I l5, q_I l6, q_N, q_N] [] := by
  intro n
  induction n with
  | zero => intro l1 l2 l3 l4 l5 l6 m h; exact q_no h
  | succ n ih =>
    intro l1 l2 l3 l4 l5 l6 m h
    exact w_Plac_beatsBy_b20 hN (fun l1 l2 l3 l4 l5 l6 m h => ih l1 l2 l3 l4 l5 l6 m h) h
def f_Plac_beatsBy (l1 l2 : Int) (m : q_Mem) : q_Res :=
  q_dv (((m 60 10) + l1) - 1) l1 fun v1 =>
  f_Plac_beatsBy_l20 q_F l1 l2 v1 0 0 0 m
set_option maxRecDepth 20000 in
theorem ok_X4_beatsBy {l1 l2 : Int} {r : Int × q_Mem} {m : q_Mem} {N : Nat} (hN : 81 ≤ N) (h : f_Plac_beatsBy l1 l2 m = some r) : q_C md_X4_beatsBy (q_room 2) 0 0 [q_A 60, q_I l1, q_I l2] (q_g N) m (some (q_I r.1), q_g N, r.2) := by
  refine q_ofR (by decide) 6 (ls := [q_A 60, q_I l1, q_I l2, q_N, q_N, q_N, q_N, q_N, q_N]) rfl (Nat.le_of_ble_eq_true rfl) ?_
  change q_E md_X4_beatsBy 2 N (some 0) r m 0 [q_A 60, q_I l1, q_I l2, q_N, q_N, q_N, q_N, q_N, q_N] []
  unfold f_Plac_beatsBy at h
  refine q_aload_n (M := md_X4_beatsBy) (pc := 0) dX4_beatsBy_0 rfl (by decide) ?_
  refine e_gI (M := md_X4_beatsBy) (pc := 1) (v := m 60 10) fl_4_107 dX4_beatsBy_1 (is_60 hN) rfl ?_
  refine q_iload_n (M := md_X4_beatsBy) (pc := 4) dX4_beatsBy_4 rfl ?_
  refine q_iadd (M := md_X4_beatsBy) (pc := 5) dX4_beatsBy_5 ?_
  refine q_iconst (M := md_X4_beatsBy) (pc := 6) dX4_beatsBy_6 ?_
  refine q_isub (M := md_X4_beatsBy) (pc := 7) dX4_beatsBy_7 ?_
  refine q_iload_n (M := md_X4_beatsBy) (pc := 8) dX4_beatsBy_8 rfl ?_
  refine e_dv (M := md_X4_beatsBy) (pc := 9) h dX4_beatsBy_9 (fun v1 h => ?_)
  refine e_ist_n (M := md_X4_beatsBy) (pc := 10) (ls' := [q_A 60, q_I l1, q_I l2, q_I v1, q_N, q_N, q_N, q_N, q_N]) dX4_beatsBy_10 (by decide) (q_pl rfl) rfl ?_
  refine q_iconst (M := md_X4_beatsBy) (pc := 11) dX4_beatsBy_11 ?_
  refine e_ist (M := md_X4_beatsBy) (pc := 12) (ls' := [q_A 60, q_I l1, q_I l2, q_I v1, q_I 0, q_N, q_N, q_N, q_N]) dX4_beatsBy_12 (by decide) (q_pl rfl) rfl ?_
  refine q_iconst (M := md_X4_beatsBy) (pc := 14) dX4_beatsBy_14 ?_
  refine e_ist (M := md_X4_beatsBy) (pc := 15) (ls' := [q_A 60, q_I l1, q_I l2, q_I v1, q_I 0, q_I 0, q_N, q_N, q_N]) dX4_beatsBy_15 (by decide) (q_pl rfl) rfl ?_
  refine q_iconst (M := md_X4_beatsBy) (pc := 17) dX4_beatsBy_17 ?_
  refine e_ist (M := md_X4_beatsBy) (pc := 18) (ls' := [q_A 60, q_I l1, q_I l2, q_I v1, q_I 0, q_I 0, q_I 0, q_N, q_N]) dX4_beatsBy_18 (by decide) (q_pl rfl) rfl ?_
  exact q_weak (w_Plac_beatsBy_l20 hN q_F _ _ _ _ _ _ _  h) ⟨Or.inr rfl, Or.inr rfl, Or.inr rfl, Or.inr rfl, Or.inr rfl, Or.inr rfl, Or.inr rfl, Or.inl rfl, Or.inl rfl, trivial⟩
def f_Reck_stir (l1 l2 : Int) (m : q_Mem) : q_Res :=
  q_pf m 77 4 l1 fun m1 =>
  q_pf m1 77 5 l2 fun m2 =>
  q_rt 0 m2
set_option maxRecDepth 20000 in
theorem ok_X5_stir {l1 l2 : Int} {r : Int × q_Mem} {m : q_Mem} {N : Nat} (hN : 81 ≤ N) (h : f_Reck_stir l1 l2 m = some r) : q_C md_X5_stir (q_room 1) 0 0 [q_A 77, q_I l1, q_I l2] (q_g N) m (none, q_g N, r.2) := by
  refine q_ofR (by decide) 0 (ls := [q_A 77, q_I l1, q_I l2]) rfl (Nat.le_of_ble_eq_true rfl) ?_
  change q_E md_X5_stir 1 N (none) r m 0 [q_A 77, q_I l1, q_I l2] []
  unfold f_Reck_stir at h
  refine q_aload_n (M := md_X5_stir) (pc := 0) dX5_stir_0 rfl (by decide) ?_
  refine q_iload_n (M := md_X5_stir) (pc := 1) dX5_stir_1 rfl ?_
  refine e_pfI (M := md_X5_stir) (pc := 2) h fl_5_37 dX5_stir_2 (is_77 hN) rfl (fun m1 h => ?_)
  refine q_aload_n (M := md_X5_stir) (pc := 5) dX5_stir_5 rfl (by decide) ?_
  refine q_iload_n (M := md_X5_stir) (pc := 6) dX5_stir_6 rfl ?_
  refine e_pfI (M := md_X5_stir) (pc := 7) h fl_5_41 dX5_stir_7 (is_77 hN) rfl (fun m2 h => ?_)
  exact e_vret (M := md_X5_stir) (pc := 10) h rfl dX5_stir_10
def f_Reck_begin (l1 l2 l3 : Int) (m : q_Mem) : q_Res :=
  q_pf m 77 1 l1 fun m1 =>
  q_pf m1 77 2 l2 fun m2 =>
  q_pf m2 77 3 l3 fun m3 =>
  q_lt (m3 77 3) fun v4 => q_one [74, 75, 76] v4 <|
  q_fi m3 v4 300 0 fun m5 =>
  q_bd (f_Reck_stir (-1) (-1) m5) fun _ m6 =>
  q_rt 0 m6
set_option maxRecDepth 20000 in
theorem ok_X5_begin {l1 l2 l3 : Int} {r : Int × q_Mem} {m : q_Mem} {N : Nat} (hN : 81 ≤ N) (hl1 : l1 ∈ (q_Lp : List Int)) (hl2 : l2 ∈ ([54, 61] : List Int)) (hl3 : l3 ∈ ([74, 75, 76] : List Int)) (h : f_Reck_begin l1 l2 l3 m = some r) : q_C md_X5_begin (q_room 2) 0 0 [q_A 77, q_A l1, q_A l2, q_A l3] (q_g N) m (none, q_g N, r.2) := by
  refine q_ofR (by decide) 0 (ls := [q_A 77, q_A l1, q_A l2, q_A l3]) rfl (Nat.le_of_ble_eq_true rfl) ?_
  change q_E md_X5_begin 2 N (none) r m 0 [q_A 77, q_A l1, q_A l2, q_A l3] []
  unfold f_Reck_begin at h
  refine q_aload_n (M := md_X5_begin) (pc := 0) dX5_begin_0 rfl (by decide) ?_
  refine q_aload_n (M := md_X5_begin) (pc := 1) dX5_begin_1 rfl (nn_Lp hl1) ?_
  refine e_pfR (M := md_X5_begin) (pc := 2) h fl_5_17 (Or.inl ⟨_, rfl⟩) dX5_begin_2 (is_77 hN) (nn_Lp hl1) rfl (fun m1 h => ?_)
  refine q_aload_n (M := md_X5_begin) (pc := 5) dX5_begin_5 rfl (by decide) ?_
  refine q_aload_n (M := md_X5_begin) (pc := 6) dX5_begin_6 rfl (ar_when hN hl2).1 ?_
  refine e_pfR (M := md_X5_begin) (pc := 7) h fl_5_21 (Or.inr ⟨_, rfl⟩) dX5_begin_7 (is_77 hN) (ar_when hN hl2).1 rfl (fun m2 h => ?_)
  refine q_aload_n (M := md_X5_begin) (pc := 10) dX5_begin_10 rfl (by decide) ?_
  refine q_aload_n (M := md_X5_begin) (pc := 11) dX5_begin_11 rfl (ar_made hN hl3).1 ?_
  refine e_pfR (M := md_X5_begin) (pc := 12) h fl_5_24 (Or.inr ⟨_, rfl⟩) dX5_begin_12 (is_77 hN) (ar_made hN hl3).1 rfl (fun m3 h => ?_)
  refine q_aload_n (M := md_X5_begin) (pc := 15) dX5_begin_15 rfl (by decide) ?_
  refine e_gR (M := md_X5_begin) (pc := 16) h fl_5_24 dX5_begin_16 (is_77 hN) rfl (fun v4 hv4 h => ?_)
  refine q_iconst (M := md_X5_begin) (pc := 19) dX5_begin_19 ?_
  refine e_fill (M := md_X5_begin) (pc := 20) h jl_5_27 dX5_begin_20 (ar_made hN hv4) (by decide) (Nat.le_of_ble_eq_true rfl) (fun m5 h => ?_)
  refine q_aload_n (M := md_X5_begin) (pc := 23) dX5_begin_23 rfl (by decide) ?_
  refine q_iconst (M := md_X5_begin) (pc := 24) dX5_begin_24 ?_
  refine q_iconst (M := md_X5_begin) (pc := 25) dX5_begin_25 ?_
  refine e_callVv (M := md_X5_begin) (pc := 26) (d' := 1) (av := [q_I (-1), q_I (-1)]) (c := 77) h ml_5_33 im_X5_stir se_X5_stir dX5_begin_26 (fun v he => ok_X5_stir hN  he) rfl (is_77 hN) ⟨_, _, rfl⟩ (by decide) (Nat.le_of_ble_eq_true rfl) ⟨by decide, by decide⟩ rfl (fun _ m6 h => ?_)
  exact e_vret (M := md_X5_begin) (pc := 29) h rfl dX5_begin_29
def f_Reck_join (l1 l2 l3 : Int) (m : q_Mem) : q_Res :=
  q_lt (m 77 1) fun v1 => q_one q_Lp v1 <|
  q_rd m (v1 + 8) 80 l1 fun v2 =>
  q_lt (m 77 1) fun v3 => q_one q_Lp v3 <|
  q_rd m (v3 + 9) 80 l1 fun v4 =>
  q_lt (m 77 1) fun v5 => q_one q_Lp v5 <|
  q_rd m (v5 + 7) 80 l1 fun v6 =>
  if q_w v6 = 0 then (q_rt v2 m)
  else if q_w v6 = 1 then (q_rt l2 m)
  else if q_w v6 = 2 then (q_rt l3 m)
  else if q_w v6 = 3 then (q_rt 0 m)
  else if q_w v6 = 4 then (q_rd m 78 80 v2 fun v12 =>
  q_rt (-v12) m)
  else if q_w v6 = 5 then (q_rd m 78 80 v2 fun v14 =>
  q_rd m 78 80 v4 fun v15 =>
  if q_w v15 ≤ q_w v14 then (q_rd m 78 80 v4 fun v16 =>
  q_rt v16 m)
  else (q_rd m 78 80 v2 fun v17 =>
  q_rt v17 m))
  else if q_w v6 = 6 then (q_rd m 78 80 v2 fun v19 =>
  q_rd m 78 80 v4 fun v20 =>
  if q_w v19 ≤ q_w v20 then (q_rd m 78 80 v4 fun v21 =>
  q_rt v21 m)
  else (q_rd m 78 80 v2 fun v22 =>
  q_rt v22 m))
  else if q_w v6 = 7 then (q_rd m 78 80 v2 fun v24 =>
  q_rd m 78 80 v4 fun v25 =>
  q_rt (v24 + v25) m)
  else if q_w v6 = 8 then (q_rd m 78 80 v2 fun v27 =>
  q_rd m 78 80 v4 fun v28 =>
  q_rt (v27 - v28) m)
  else if q_w v6 = 9 then (q_rd m 78 80 v2 fun v30 =>
  q_rd m 78 80 v4 fun v31 =>
  q_rt (v30 * v31) m)
  else (q_rt 0 m)
set_option maxRecDepth 20000 in
theorem ok_X5_join {l1 l2 l3 : Int} {r : Int × q_Mem} {m : q_Mem} {N : Nat} (hN : 81 ≤ N) (h : f_Reck_join l1 l2 l3 m = some r) : q_C md_X5_join (q_room 1) 0 0 [q_A 77, q_I l1, q_I l2, q_I l3] (q_g N) m (some (q_I r.1), q_g N, r.2) := by
  refine q_ofR (by decide) 2 (ls := [q_A 77, q_I l1, q_I l2, q_I l3, q_N, q_N]) rfl (Nat.le_of_ble_eq_true rfl) ?_
  change q_E md_X5_join 1 N (some 0) r m 0 [q_A 77, q_I l1, q_I l2, q_I l3, q_N, q_N] []
  unfold f_Reck_join at h
  refine q_aload_n (M := md_X5_join) (pc := 0) dX5_join_0 rfl (by decide) ?_
  refine e_gR (M := md_X5_join) (pc := 1) h fl_5_17 dX5_join_1 (is_77 hN) rfl (fun v1 hv1 h => ?_)
  refine q_getP (M := md_X5_join) (pc := 4) (v := v1 + 8) fl_5_53 dX5_join_4 (is_Lp hN hv1) (ph_Lp_15 hv1) ?_
  refine q_iload_n (M := md_X5_join) (pc := 7) dX5_join_7 rfl ?_
  refine e_rd (M := md_X5_join) (pc := 8) h dX5_join_8 (ar_Lp_15 hN hv1) (fun v2 h => ?_)
  refine e_ist (M := md_X5_join) (pc := 9) (ls' := [q_A 77, q_I l1, q_I l2, q_I l3, q_I v2, q_N]) dX5_join_9 (by decide) (q_pl rfl) rfl ?_
  refine q_aload_n (M := md_X5_join) (pc := 11) dX5_join_11 rfl (by decide) ?_
  refine e_gR (M := md_X5_join) (pc := 12) h fl_5_17 dX5_join_12 (is_77 hN) rfl (fun v3 hv3 h => ?_)
  refine q_getP (M := md_X5_join) (pc := 15) (v := v3 + 9) fl_5_79 dX5_join_15 (is_Lp hN hv3) (ph_Lp_16 hv3) ?_
  refine q_iload_n (M := md_X5_join) (pc := 18) dX5_join_18 rfl ?_
  refine e_rd (M := md_X5_join) (pc := 19) h dX5_join_19 (ar_Lp_16 hN hv3) (fun v4 h => ?_)
  refine e_ist (M := md_X5_join) (pc := 20) (ls' := [q_A 77, q_I l1, q_I l2, q_I l3, q_I v2, q_I v4]) dX5_join_20 (by decide) (q_pl rfl) rfl ?_
  refine q_aload_n (M := md_X5_join) (pc := 22) dX5_join_22 rfl (by decide) ?_
  refine e_gR (M := md_X5_join) (pc := 23) h fl_5_17 dX5_join_23 (is_77 hN) rfl (fun v5 hv5 h => ?_)
  refine q_getP (M := md_X5_join) (pc := 26) (v := v5 + 7) fl_5_50 dX5_join_26 (is_Lp hN hv5) (ph_Lp_14 hv5) ?_
  refine q_iload_n (M := md_X5_join) (pc := 29) dX5_join_29 rfl ?_
  refine e_rd (M := md_X5_join) (pc := 30) h dX5_join_30 (ar_Lp_14 hN hv5) (fun v6 h => ?_)
  by_cases c7 : q_w v6 = 0
  · rw [if_pos c7] at h
    refine q_tabIn (M := md_X5_join) (pc := 31) (tgt := 84) dX5_join_31 (by rw [c7] <;> decide) (by rw [c7] <;> decide) (by rw [c7] <;> rfl) (by decide) ?_
    refine q_iload (M := md_X5_join) (pc := 84) dX5_join_84 rfl ?_
    exact e_iret (M := md_X5_join) (pc := 86) h rfl dX5_join_86
  rw [if_neg c7] at h
  by_cases c8 : q_w v6 = 1
  · rw [if_pos c8] at h
    refine q_tabIn (M := md_X5_join) (pc := 31) (tgt := 87) dX5_join_31 (by rw [c8] <;> decide) (by rw [c8] <;> decide) (by rw [c8] <;> rfl) (by decide) ?_
    refine q_iload_n (M := md_X5_join) (pc := 87) dX5_join_87 rfl ?_
    exact e_iret (M := md_X5_join) (pc := 88) h rfl dX5_join_88
  rw [if_neg c8] at h
  by_cases c9 : q_w v6 = 2
  · rw [if_pos c9] at h
    refine q_tabIn (M := md_X5_join) (pc := 31) (tgt := 89) dX5_join_31 (by rw [c9] <;> decide) (by rw [c9] <;> decide) (by rw [c9] <;> rfl) (by decide) ?_
    refine q_iload_n (M := md_X5_join) (pc := 89) dX5_join_89 rfl ?_
    exact e_iret (M := md_X5_join) (pc := 90) h rfl dX5_join_90
  rw [if_neg c9] at h
  by_cases c10 : q_w v6 = 3
  · rw [if_pos c10] at h
    refine q_tabIn (M := md_X5_join) (pc := 31) (tgt := 218) dX5_join_31 (by rw [c10] <;> decide) (by rw [c10] <;> decide) (by rw [c10] <;> rfl) (by decide) ?_
    refine q_iconst (M := md_X5_join) (pc := 218) dX5_join_218 ?_
    exact e_iret (M := md_X5_join) (pc := 219) h rfl dX5_join_219
  rw [if_neg c10] at h
  by_cases c11 : q_w v6 = 4
  · rw [if_pos c11] at h
    refine q_tabIn (M := md_X5_join) (pc := 31) (tgt := 91) dX5_join_31 (by rw [c11] <;> decide) (by rw [c11] <;> decide) (by rw [c11] <;> rfl) (by decide) ?_
    refine q_aload_n (M := md_X5_join) (pc := 91) dX5_join_91 rfl (by decide) ?_
    refine q_getP (M := md_X5_join) (pc := 92) (v := 78) fl_5_11 dX5_join_92 (is_77 hN) rfl ?_
    refine q_iload (M := md_X5_join) (pc := 95) dX5_join_95 rfl ?_
    refine e_rd (M := md_X5_join) (pc := 97) h dX5_join_97 (ar_78 hN) (fun v12 h => ?_)
    refine q_ineg (M := md_X5_join) (pc := 98) dX5_join_98 ?_
    exact e_iret (M := md_X5_join) (pc := 99) h rfl dX5_join_99
  rw [if_neg c11] at h
  by_cases c13 : q_w v6 = 5
  · rw [if_pos c13] at h
    refine q_tabIn (M := md_X5_join) (pc := 31) (tgt := 100) dX5_join_31 (by rw [c13] <;> decide) (by rw [c13] <;> decide) (by rw [c13] <;> rfl) (by decide) ?_
    refine q_aload_n (M := md_X5_join) (pc := 100) dX5_join_100 rfl (by decide) ?_
    refine q_getP (M := md_X5_join) (pc := 101) (v := 78) fl_5_11 dX5_join_101 (is_77 hN) rfl ?_
    refine q_iload (M := md_X5_join) (pc := 104) dX5_join_104 rfl ?_
    refine e_rd (M := md_X5_join) (pc := 106) h dX5_join_106 (ar_78 hN) (fun v14 h => ?_)
    refine q_aload_n (M := md_X5_join) (pc := 107) dX5_join_107 rfl (by decide) ?_
    refine q_getP (M := md_X5_join) (pc := 108) (v := 78) fl_5_11 dX5_join_108 (is_77 hN) rfl ?_
    refine q_iload (M := md_X5_join) (pc := 111) dX5_join_111 rfl ?_
    refine e_rd (M := md_X5_join) (pc := 113) h dX5_join_113 (ar_78 hN) (fun v15 h => ?_)
    refine e_icmp_ge (M := md_X5_join) (pc := 114) (tgt := 127) h rfl rfl dX5_join_114 (by decide) (fun h => ?_) (fun h => ?_)
    · refine q_aload_n (M := md_X5_join) (pc := 127) dX5_join_127 rfl (by decide) ?_
      refine q_getP (M := md_X5_join) (pc := 128) (v := 78) fl_5_11 dX5_join_128 (is_77 hN) rfl ?_
      refine q_iload (M := md_X5_join) (pc := 131) dX5_join_131 rfl ?_
      refine e_rd (M := md_X5_join) (pc := 133) h dX5_join_133 (ar_78 hN) (fun v16 h => ?_)
      exact e_iret (M := md_X5_join) (pc := 134) h rfl dX5_join_134
    · refine q_aload_n (M := md_X5_join) (pc := 117) dX5_join_117 rfl (by decide) ?_
      refine q_getP (M := md_X5_join) (pc := 118) (v := 78) fl_5_11 dX5_join_118 (is_77 hN) rfl ?_
      refine q_iload (M := md_X5_join) (pc := 121) dX5_join_121 rfl ?_
      refine e_rd (M := md_X5_join) (pc := 123) h dX5_join_123 (ar_78 hN) (fun v17 h => ?_)
      refine q_goto (M := md_X5_join) (pc := 124) (tgt := 134) dX5_join_124 (by decide) ?_
      exact e_iret (M := md_X5_join) (pc := 134) h rfl dX5_join_134
  rw [if_neg c13] at h
  by_cases c18 : q_w v6 = 6
  · rw [if_pos c18] at h
    refine q_tabIn (M := md_X5_join) (pc := 31) (tgt := 135) dX5_join_31 (by rw [c18] <;> decide) (by rw [c18] <;> decide) (by rw [c18] <;> rfl) (by decide) ?_
    refine q_aload_n (M := md_X5_join) (pc := 135) dX5_join_135 rfl (by decide) ?_
    refine q_getP (M := md_X5_join) (pc := 136) (v := 78) fl_5_11 dX5_join_136 (is_77 hN) rfl ?_
    refine q_iload (M := md_X5_join) (pc := 139) dX5_join_139 rfl ?_
    refine e_rd (M := md_X5_join) (pc := 141) h dX5_join_141 (ar_78 hN) (fun v19 h => ?_)
    refine q_aload_n (M := md_X5_join) (pc := 142) dX5_join_142 rfl (by decide) ?_
    refine q_getP (M := md_X5_join) (pc := 143) (v := 78) fl_5_11 dX5_join_143 (is_77 hN) rfl ?_
    refine q_iload (M := md_X5_join) (pc := 146) dX5_join_146 rfl ?_
    refine e_rd (M := md_X5_join) (pc := 148) h dX5_join_148 (ar_78 hN) (fun v20 h => ?_)
    refine e_icmp_le (M := md_X5_join) (pc := 149) (tgt := 162) h rfl rfl dX5_join_149 (by decide) (fun h => ?_) (fun h => ?_)
    · refine q_aload_n (M := md_X5_join) (pc := 162) dX5_join_162 rfl (by decide) ?_
      refine q_getP (M := md_X5_join) (pc := 163) (v := 78) fl_5_11 dX5_join_163 (is_77 hN) rfl ?_
      refine q_iload (M := md_X5_join) (pc := 166) dX5_join_166 rfl ?_
      refine e_rd (M := md_X5_join) (pc := 168) h dX5_join_168 (ar_78 hN) (fun v21 h => ?_)
      exact e_iret (M := md_X5_join) (pc := 169) h rfl dX5_join_169
    · refine q_aload_n (M := md_X5_join) (pc := 152) dX5_join_152 rfl (by decide) ?_
      refine q_getP (M := md_X5_join) (pc := 153) (v := 78) fl_5_11 dX5_join_153 (is_77 hN) rfl ?_
      refine q_iload (M := md_X5_join) (pc := 156) dX5_join_156 rfl ?_
      refine e_rd (M := md_X5_join) (pc := 158) h dX5_join_158 (ar_78 hN) (fun v22 h => ?_)
      refine q_goto (M := md_X5_join) (pc := 159) (tgt := 169) dX5_join_159 (by decide) ?_
      exact e_iret (M := md_X5_join) (pc := 169) h rfl dX5_join_169
  rw [if_neg c18] at h
  by_cases c23 : q_w v6 = 7
  · rw [if_pos c23] at h
    refine q_tabIn (M := md_X5_join) (pc := 31) (tgt := 170) dX5_join_31 (by rw [c23] <;> decide) (by rw [c23] <;> decide) (by rw [c23] <;> rfl) (by decide) ?_
    refine q_aload_n (M := md_X5_join) (pc := 170) dX5_join_170 rfl (by decide) ?_
    refine q_getP (M := md_X5_join) (pc := 171) (v := 78) fl_5_11 dX5_join_171 (is_77 hN) rfl ?_
    refine q_iload (M := md_X5_join) (pc := 174) dX5_join_174 rfl ?_
    refine e_rd (M := md_X5_join) (pc := 176) h dX5_join_176 (ar_78 hN) (fun v24 h => ?_)
    refine q_aload_n (M := md_X5_join) (pc := 177) dX5_join_177 rfl (by decide) ?_
    refine q_getP (M := md_X5_join) (pc := 178) (v := 78) fl_5_11 dX5_join_178 (is_77 hN) rfl ?_
    refine q_iload (M := md_X5_join) (pc := 181) dX5_join_181 rfl ?_
    refine e_rd (M := md_X5_join) (pc := 183) h dX5_join_183 (ar_78 hN) (fun v25 h => ?_)
    refine q_iadd (M := md_X5_join) (pc := 184) dX5_join_184 ?_
    exact e_iret (M := md_X5_join) (pc := 185) h rfl dX5_join_185
  rw [if_neg c23] at h
  by_cases c26 : q_w v6 = 8
  · rw [if_pos c26] at h
    refine q_tabIn (M := md_X5_join) (pc := 31) (tgt := 186) dX5_join_31 (by rw [c26] <;> decide) (by rw [c26] <;> decide) (by rw [c26] <;> rfl) (by decide) ?_
    refine q_aload_n (M := md_X5_join) (pc := 186) dX5_join_186 rfl (by decide) ?_
    refine q_getP (M := md_X5_join) (pc := 187) (v := 78) fl_5_11 dX5_join_187 (is_77 hN) rfl ?_
    refine q_iload (M := md_X5_join) (pc := 190) dX5_join_190 rfl ?_
    refine e_rd (M := md_X5_join) (pc := 192) h dX5_join_192 (ar_78 hN) (fun v27 h => ?_)
    refine q_aload_n (M := md_X5_join) (pc := 193) dX5_join_193 rfl (by decide) ?_
    refine q_getP (M := md_X5_join) (pc := 194) (v := 78) fl_5_11 dX5_join_194 (is_77 hN) rfl ?_
    refine q_iload (M := md_X5_join) (pc := 197) dX5_join_197 rfl ?_
    refine e_rd (M := md_X5_join) (pc := 199) h dX5_join_199 (ar_78 hN) (fun v28 h => ?_)
    refine q_isub (M := md_X5_join) (pc := 200) dX5_join_200 ?_
    exact e_iret (M := md_X5_join) (pc := 201) h rfl dX5_join_201
  rw [if_neg c26] at h
  by_cases c29 : q_w v6 = 9
  · rw [if_pos c29] at h
    refine q_tabIn (M := md_X5_join) (pc := 31) (tgt := 202) dX5_join_31 (by rw [c29] <;> decide) (by rw [c29] <;> decide) (by rw [c29] <;> rfl) (by decide) ?_
    refine q_aload_n (M := md_X5_join) (pc := 202) dX5_join_202 rfl (by decide) ?_
    refine q_getP (M := md_X5_join) (pc := 203) (v := 78) fl_5_11 dX5_join_203 (is_77 hN) rfl ?_
    refine q_iload (M := md_X5_join) (pc := 206) dX5_join_206 rfl ?_
    refine e_rd (M := md_X5_join) (pc := 208) h dX5_join_208 (ar_78 hN) (fun v30 h => ?_)
    refine q_aload_n (M := md_X5_join) (pc := 209) dX5_join_209 rfl (by decide) ?_
    refine q_getP (M := md_X5_join) (pc := 210) (v := 78) fl_5_11 dX5_join_210 (is_77 hN) rfl ?_
    refine q_iload (M := md_X5_join) (pc := 213) dX5_join_213 rfl ?_
    refine e_rd (M := md_X5_join) (pc := 215) h dX5_join_215 (ar_78 hN) (fun v31 h => ?_)
    refine q_imul (M := md_X5_join) (pc := 216) dX5_join_216 ?_
    exact e_iret (M := md_X5_join) (pc := 217) h rfl dX5_join_217
  rw [if_neg c29] at h
  refine q_tabOut (M := md_X5_join) (pc := 31) (tgt := 218) dX5_join_31 (by omega) (by decide) ?_
  refine q_iconst (M := md_X5_join) (pc := 218) dX5_join_218 ?_
  exact e_iret (M := md_X5_join) (pc := 219) h rfl dX5_join_219
def f_Reck_edgeAt_b18 (k18 : Int → Int → Int → Int → Int → q_Mem → q_Res) (l1 l2 l3 l4 l5 : Int) (m : q_Mem) : q_Res :=
  q_lt (m 77 1) fun v1 => q_one q_Lp v1 <|
  q_rd m (v1 + 10) 7 ((2 * l1) + 2) fun v2 =>
  if q_w v2 ≤ q_w l5 then (q_rt l4 m)
  else (q_bd (f_Reck_join l5 l2 l3 m) fun v3 m4 =>
  q_wr m4 78 80 l5 v3 fun m5 =>
  k18 l1 l2 l3 v3 (l5 + 1) m5)
set_option maxRecDepth 20000 in
theorem w_Reck_edgeAt_b18 {k18 : Int → Int → Int → Int → Int → q_Mem → q_Res} {l1 l2 l3 l4 l5 : Int} {r : Int × q_Mem} {m : q_Mem} {N : Nat} (hN : 81 ≤ N) (hk18 : ∀ (l1 l2 l3 l4 l5 : Int) (m : q_Mem), k18 l1 l2 l3 l4 l5 m = some r → q_E md_X5_edgeAt 2 N (some 0) r m 18 [q_A 77, q_I l1, q_I l2, q_I l3, q_I l4, q_I l5] []) (h : f_Reck_edgeAt_b18 k18 l1 l2 l3 l4 l5 m = some r) : q_E md_X5_edgeAt 2 N (some 0) r m 18 [q_A 77, q_I l1, q_I l2, q_I l3, q_I l4, q_I l5] [] := by
  unfold f_Reck_edgeAt_b18 at h
  refine q_iload (M := md_X5_edgeAt) (pc := 18) dX5_edgeAt_18 rfl ?_
  refine q_aload_n (M := md_X5_edgeAt) (pc := 20) dX5_edgeAt_20 rfl (by decide) ?_
  refine e_gR (M := md_X5_edgeAt) (pc := 21) h fl_5_17 dX5_edgeAt_21 (is_77 hN) rfl (fun v1 hv1 h => ?_)
  refine q_getP (M := md_X5_edgeAt) (pc := 24) (v := v1 + 10) fl_5_47 dX5_edgeAt_24 (is_Lp hN hv1) (ph_Lp_17 hv1) ?_
  refine q_iconst (M := md_X5_edgeAt) (pc := 27) dX5_edgeAt_27 ?_
  refine q_iload_n (M := md_X5_edgeAt) (pc := 28) dX5_edgeAt_28 rfl ?_
  refine q_imul (M := md_X5_edgeAt) (pc := 29) dX5_edgeAt_29 ?_
  refine q_iconst (M := md_X5_edgeAt) (pc := 30) dX5_edgeAt_30 ?_
  refine q_iadd (M := md_X5_edgeAt) (pc := 31) dX5_edgeAt_31 ?_
  refine e_rd (M := md_X5_edgeAt) (pc := 32) h dX5_edgeAt_32 (ar_Lp_17 hN hv1) (fun v2 h => ?_)
  refine e_icmp_ge (M := md_X5_edgeAt) (pc := 33) (tgt := 61) h rfl rfl dX5_edgeAt_33 (by decide) (fun h => ?_) (fun h => ?_)
  · refine q_iload (M := md_X5_edgeAt) (pc := 61) dX5_edgeAt_61 rfl ?_
    exact e_iret (M := md_X5_edgeAt) (pc := 63) h rfl dX5_edgeAt_63
  · refine q_aload_n (M := md_X5_edgeAt) (pc := 36) dX5_edgeAt_36 rfl (by decide) ?_
    refine q_iload (M := md_X5_edgeAt) (pc := 37) dX5_edgeAt_37 rfl ?_
    refine q_iload_n (M := md_X5_edgeAt) (pc := 39) dX5_edgeAt_39 rfl ?_
    refine q_iload_n (M := md_X5_edgeAt) (pc := 40) dX5_edgeAt_40 rfl ?_
    refine e_callVi (M := md_X5_edgeAt) (pc := 41) (d' := 1) (av := [q_I l5, q_I l2, q_I l3]) (c := 77) h ml_5_60 im_X5_join se_X5_join dX5_edgeAt_41 (fun v he => ok_X5_join hN  he) rfl (is_77 hN) ⟨_, _, rfl⟩ (by decide) (Nat.le_of_ble_eq_true rfl) ⟨by decide, by decide⟩ rfl (fun v3 m4 h => ?_)
    refine e_ist (M := md_X5_edgeAt) (pc := 44) (ls' := [q_A 77, q_I l1, q_I l2, q_I l3, q_I v3, q_I l5]) dX5_edgeAt_44 (by decide) (q_pl rfl) rfl ?_
    refine q_aload_n (M := md_X5_edgeAt) (pc := 46) dX5_edgeAt_46 rfl (by decide) ?_
    refine q_getP (M := md_X5_edgeAt) (pc := 47) (v := 78) fl_5_11 dX5_edgeAt_47 (is_77 hN) rfl ?_
    refine q_iload (M := md_X5_edgeAt) (pc := 50) dX5_edgeAt_50 rfl ?_
    refine q_iload (M := md_X5_edgeAt) (pc := 52) dX5_edgeAt_52 rfl ?_
    refine e_wr (M := md_X5_edgeAt) (pc := 54) h dX5_edgeAt_54 (ar_78 hN) (fun m5 h => ?_)
    refine e_inc (M := md_X5_edgeAt) (pc := 55) (x := l5) (ls' := [q_A 77, q_I l1, q_I l2, q_I l3, q_I v3, q_I (l5 + 1)]) dX5_edgeAt_55 rfl (by decide) (q_pl rfl) rfl ?_
    refine q_goto (M := md_X5_edgeAt) (pc := 58) (tgt := 18) dX5_edgeAt_58 (by decide) ?_
    exact q_weak (hk18 _ _ _ _ _ _  h) ⟨Or.inr rfl, Or.inr rfl, Or.inr rfl, Or.inr rfl, Or.inr rfl, Or.inr rfl, trivial⟩
def f_Reck_edgeAt_l18 : Nat → Int → Int → Int → Int → Int → q_Mem → q_Res
  | 0 => fun _ _ _ _ _ _ => none
  | n + 1 => fun l1 l2 l3 l4 l5 m => f_Reck_edgeAt_b18 (f_Reck_edgeAt_l18 n) l1 l2 l3 l4 l5 m
theorem w_Reck_edgeAt_l18 {r : Int × q_Mem} {N : Nat} (hN : 81 ≤ N) : ∀ (n : Nat) (l1 l2 l3 l4 l5 : Int) (m : q_Mem), f_Reck_edgeAt_l18 n l1 l2 l3 l4 l5 m = some r → q_E md_X5_edgeAt 2 N (some 0) r m 18 [q_A 77, q_I l1, q_I l2, q_I l3, q_I l4, q_I l5] [] := by
  intro n
  induction n with
  | zero => intro l1 l2 l3 l4 l5 m h; exact q_no h
  | succ n ih =>
    intro l1 l2 l3 l4 l5 m h
    exact w_Reck_edgeAt_b18 hN (fun l1 l2 l3 l4 l5 m h => ih l1 l2 l3 l4 l5 m h) h
def f_Reck_edgeAt (l1 l2 l3 : Int) (m : q_Mem) : q_Res :=
  q_lt (m 77 1) fun v1 => q_one q_Lp v1 <|
  q_rd m (v1 + 10) 7 ((2 * l1) + 1) fun v2 =>
  f_Reck_edgeAt_l18 q_F l1 l2 l3 0 v2 m
set_option maxRecDepth 20000 in
theorem ok_X5_edgeAt {l1 l2 l3 : Int} {r : Int × q_Mem} {m : q_Mem} {N : Nat} (hN : 81 ≤ N) (h : f_Reck_edgeAt l1 l2 l3 m = some r) : q_C md_X5_edgeAt (q_room 2) 0 0 [q_A 77, q_I l1, q_I l2, q_I l3] (q_g N) m (some (q_I r.1), q_g N, r.2) := by
  refine q_ofR (by decide) 2 (ls := [q_A 77, q_I l1, q_I l2, q_I l3, q_N, q_N]) rfl (Nat.le_of_ble_eq_true rfl) ?_
  change q_E md_X5_edgeAt 2 N (some 0) r m 0 [q_A 77, q_I l1, q_I l2, q_I l3, q_N, q_N] []
  unfold f_Reck_edgeAt at h
  refine q_iconst (M := md_X5_edgeAt) (pc := 0) dX5_edgeAt_0 ?_
  refine e_ist (M := md_X5_edgeAt) (pc := 1) (ls' := [q_A 77, q_I l1, q_I l2, q_I l3, q_I 0, q_N]) dX5_edgeAt_1 (by decide) (q_pl rfl) rfl ?_
  refine q_aload_n (M := md_X5_edgeAt) (pc := 3) dX5_edgeAt_3 rfl (by decide) ?_
  refine e_gR (M := md_X5_edgeAt) (pc := 4) h fl_5_17 dX5_edgeAt_4 (is_77 hN) rfl (fun v1 hv1 h => ?_)
  refine q_getP (M := md_X5_edgeAt) (pc := 7) (v := v1 + 10) fl_5_47 dX5_edgeAt_7 (is_Lp hN hv1) (ph_Lp_17 hv1) ?_
  refine q_iconst (M := md_X5_edgeAt) (pc := 10) dX5_edgeAt_10 ?_
  refine q_iload_n (M := md_X5_edgeAt) (pc := 11) dX5_edgeAt_11 rfl ?_
  refine q_imul (M := md_X5_edgeAt) (pc := 12) dX5_edgeAt_12 ?_
  refine q_iconst (M := md_X5_edgeAt) (pc := 13) dX5_edgeAt_13 ?_
  refine q_iadd (M := md_X5_edgeAt) (pc := 14) dX5_edgeAt_14 ?_
  refine e_rd (M := md_X5_edgeAt) (pc := 15) h dX5_edgeAt_15 (ar_Lp_17 hN hv1) (fun v2 h => ?_)
  refine e_ist (M := md_X5_edgeAt) (pc := 16) (ls' := [q_A 77, q_I l1, q_I l2, q_I l3, q_I 0, q_I v2]) dX5_edgeAt_16 (by decide) (q_pl rfl) rfl ?_
  exact q_weak (w_Reck_edgeAt_l18 hN q_F _ _ _ _ _ _  h) ⟨Or.inr rfl, Or.inr rfl, Or.inr rfl, Or.inr rfl, Or.inr rfl, Or.inr rfl, trivial⟩
def f_Reck_fetch_b105 (l3 l4 s0 : Int) (m : q_Mem) : q_Res :=
  if q_w s0 = 0 then (q_rt 0 m)
  else (q_lt (m 77 3) fun v1 => q_one [74, 75, 76] v1 <|
  q_rd m v1 300 ((l3 * 100) + l4) fun v2 =>
  q_rt v2 m)
set_option maxRecDepth 20000 in
theorem w_Reck_fetch_b105 {l3 l4 s0 : Int} {r : Int × q_Mem} {m : q_Mem} {N : Nat} (hN : 81 ≤ N) (h : f_Reck_fetch_b105 l3 l4 s0 m = some r) : q_E md_X5_fetch 3 N (some 0) r m 105 [q_A 77, q_N, q_N, q_I l3, q_I l4, q_N] [q_I s0] := by
  unfold f_Reck_fetch_b105 at h
  refine e_ist (M := md_X5_fetch) (pc := 105) (ls' := [q_A 77, q_N, q_N, q_I l3, q_I l4, q_I s0]) dX5_fetch_105 (by decide) (q_pl rfl) rfl ?_
  refine q_iload (M := md_X5_fetch) (pc := 107) dX5_fetch_107 rfl ?_
  refine e_if_eq (M := md_X5_fetch) (pc := 109) (tgt := 127) h rfl dX5_fetch_109 (by decide) (fun h => ?_) (fun h => ?_)
  · refine q_iconst (M := md_X5_fetch) (pc := 127) dX5_fetch_127 ?_
    exact e_iret (M := md_X5_fetch) (pc := 128) h rfl dX5_fetch_128
  · refine q_aload_n (M := md_X5_fetch) (pc := 112) dX5_fetch_112 rfl (by decide) ?_
    refine e_gR (M := md_X5_fetch) (pc := 113) h fl_5_24 dX5_fetch_113 (is_77 hN) rfl (fun v1 hv1 h => ?_)
    refine q_iload_n (M := md_X5_fetch) (pc := 116) dX5_fetch_116 rfl ?_
    refine q_bipush (M := md_X5_fetch) (pc := 117) (x := 100) dX5_fetch_117 (by decide) ?_
    refine q_imul (M := md_X5_fetch) (pc := 119) dX5_fetch_119 ?_
    refine q_iload (M := md_X5_fetch) (pc := 120) dX5_fetch_120 rfl ?_
    refine q_iadd (M := md_X5_fetch) (pc := 122) dX5_fetch_122 ?_
    refine e_rd (M := md_X5_fetch) (pc := 123) h dX5_fetch_123 (ar_made hN hv1) (fun v2 h => ?_)
    refine q_goto (M := md_X5_fetch) (pc := 124) (tgt := 128) dX5_fetch_124 (by decide) ?_
    exact e_iret (M := md_X5_fetch) (pc := 128) h rfl dX5_fetch_128
def f_Reck_fetch_b100 (l3 l4 : Int) (m : q_Mem) : q_Res :=
  f_Reck_fetch_b105 l3 l4 1 m
set_option maxRecDepth 20000 in
theorem w_Reck_fetch_b100 {l3 l4 : Int} {r : Int × q_Mem} {m : q_Mem} {N : Nat} (hN : 81 ≤ N) (h : f_Reck_fetch_b100 l3 l4 m = some r) : q_E md_X5_fetch 3 N (some 0) r m 100 [q_A 77, q_N, q_N, q_I l3, q_I l4, q_N] [] := by
  unfold f_Reck_fetch_b100 at h
  refine q_iconst (M := md_X5_fetch) (pc := 100) dX5_fetch_100 ?_
  refine q_goto (M := md_X5_fetch) (pc := 101) (tgt := 105) dX5_fetch_101 (by decide) ?_
  exact q_weak (w_Reck_fetch_b105 hN  h) ⟨Or.inr rfl, Or.inl rfl, Or.inl rfl, Or.inr rfl, Or.inr rfl, Or.inl rfl, trivial⟩
def f_Reck_fetch (l1 l2 : Int) (m : q_Mem) : q_Res :=
  q_lt (m 77 1) fun v1 => q_one q_Lp v1 <|
  q_rd m (v1 + 4) 12 l1 fun v2 =>
  q_lt (m 77 1) fun v3 => q_one q_Lp v3 <|
  q_lt (m 77 1) fun v4 => q_one q_Lp v4 <|
  q_rd m (v4 + 5) 12 l1 fun v5 =>
  q_lt (m 77 1) fun v6 => q_one q_Lp v6 <|
  q_rd m (v6 + 6) 12 l1 fun v7 =>
  q_bd (f_Loop_moved v3 l2 v5 v7 m) fun v8 m9 =>
  if q_w v8 = (-1) then (q_dv l2 10 fun v14 =>
  q_lt (m9 77 1) fun v15 => q_one q_Lp v15 <|
  q_rd m9 (v15 + 5) 12 l1 fun v16 =>
  q_md l2 10 fun v17 =>
  q_lt (m9 77 1) fun v18 => q_one q_Lp v18 <|
  q_rd m9 (v18 + 6) 12 l1 fun v19 =>
  q_bd (f_Reck_edgeAt v2 (v14 + v16) (v17 + v19) m9) fun v20 m21 =>
  q_rt v20 m21)
  else (if q_w v8 = q_w l2 then (f_Reck_fetch_b100 v2 v8 m9)
  else (q_lt (m9 77 2) fun v10 => q_one [54, 61] v10 <|
  q_rd m9 v10 100 v8 fun v11 =>
  q_lt (m9 77 2) fun v12 => q_one [54, 61] v12 <|
  q_rd m9 v12 100 l2 fun v13 =>
  if q_w v13 ≤ q_w v11 then (f_Reck_fetch_b105 v2 v8 0 m9)
  else (f_Reck_fetch_b100 v2 v8 m9)))
set_option maxRecDepth 20000 in
theorem ok_X5_fetch {l1 l2 : Int} {r : Int × q_Mem} {m : q_Mem} {N : Nat} (hN : 81 ≤ N) (h : f_Reck_fetch l1 l2 m = some r) : q_C md_X5_fetch (q_room 3) 0 0 [q_A 77, q_I l1, q_I l2] (q_g N) m (some (q_I r.1), q_g N, r.2) := by
  refine q_ofR (by decide) 3 (ls := [q_A 77, q_I l1, q_I l2, q_N, q_N, q_N]) rfl (Nat.le_of_ble_eq_true rfl) ?_
  change q_E md_X5_fetch 3 N (some 0) r m 0 [q_A 77, q_I l1, q_I l2, q_N, q_N, q_N] []
  unfold f_Reck_fetch at h
  refine q_aload_n (M := md_X5_fetch) (pc := 0) dX5_fetch_0 rfl (by decide) ?_
  refine e_gR (M := md_X5_fetch) (pc := 1) h fl_5_17 dX5_fetch_1 (is_77 hN) rfl (fun v1 hv1 h => ?_)
  refine q_getP (M := md_X5_fetch) (pc := 4) (v := v1 + 4) fl_5_64 dX5_fetch_4 (is_Lp hN hv1) (ph_Lp_11 hv1) ?_
  refine q_iload_n (M := md_X5_fetch) (pc := 7) dX5_fetch_7 rfl ?_
  refine e_rd (M := md_X5_fetch) (pc := 8) h dX5_fetch_8 (ar_Lp_11 hN hv1) (fun v2 h => ?_)
  refine e_ist_n (M := md_X5_fetch) (pc := 9) (ls' := [q_A 77, q_I l1, q_I l2, q_I v2, q_N, q_N]) dX5_fetch_9 (by decide) (q_pl rfl) rfl ?_
  refine q_aload_n (M := md_X5_fetch) (pc := 10) dX5_fetch_10 rfl (by decide) ?_
  refine e_gR (M := md_X5_fetch) (pc := 11) h fl_5_17 dX5_fetch_11 (is_77 hN) rfl (fun v3 hv3 h => ?_)
  refine q_iload_n (M := md_X5_fetch) (pc := 14) dX5_fetch_14 rfl ?_
  refine q_aload_n (M := md_X5_fetch) (pc := 15) dX5_fetch_15 rfl (by decide) ?_
  refine e_gR (M := md_X5_fetch) (pc := 16) h fl_5_17 dX5_fetch_16 (is_77 hN) rfl (fun v4 hv4 h => ?_)
  refine q_getP (M := md_X5_fetch) (pc := 19) (v := v4 + 5) fl_5_67 dX5_fetch_19 (is_Lp hN hv4) (ph_Lp_12 hv4) ?_
  refine q_iload_n (M := md_X5_fetch) (pc := 22) dX5_fetch_22 rfl ?_
  refine e_rd (M := md_X5_fetch) (pc := 23) h dX5_fetch_23 (ar_Lp_12 hN hv4) (fun v5 h => ?_)
  refine q_aload_n (M := md_X5_fetch) (pc := 24) dX5_fetch_24 rfl (by decide) ?_
  refine e_gR (M := md_X5_fetch) (pc := 25) h fl_5_17 dX5_fetch_25 (is_77 hN) rfl (fun v6 hv6 h => ?_)
  refine q_getP (M := md_X5_fetch) (pc := 28) (v := v6 + 6) fl_5_70 dX5_fetch_28 (is_Lp hN hv6) (ph_Lp_13 hv6) ?_
  refine q_iload_n (M := md_X5_fetch) (pc := 31) dX5_fetch_31 rfl ?_
  refine e_rd (M := md_X5_fetch) (pc := 32) h dX5_fetch_32 (ar_Lp_13 hN hv6) (fun v7 h => ?_)
  refine e_callVi (M := md_X5_fetch) (pc := 33) (d' := 1) (av := [q_I l2, q_I v5, q_I v7]) (c := v3) h ml_5_73 im_X2_moved se_X2_moved dX5_fetch_33 (fun v he => ok_X2_moved hN hv3 he) rfl (is_Lp hN hv3) ⟨_, _, rfl⟩ (by decide) (Nat.le_of_ble_eq_true rfl) ⟨by decide, by decide⟩ rfl (fun v8 m9 h => ?_)
  refine e_ist (M := md_X5_fetch) (pc := 36) (ls' := [q_A 77, q_I l1, q_I l2, q_I v2, q_I v8, q_N]) dX5_fetch_36 (by decide) (q_pl rfl) rfl ?_
  refine q_iload (M := md_X5_fetch) (pc := 38) dX5_fetch_38 rfl ?_
  refine q_iconst (M := md_X5_fetch) (pc := 40) dX5_fetch_40 ?_
  refine e_icmp_ne (M := md_X5_fetch) (pc := 41) (tgt := 78) h rfl (q_wlit rfl) dX5_fetch_41 (by decide) (fun h => ?_) (fun h => ?_)
  · refine q_iload (M := md_X5_fetch) (pc := 78) dX5_fetch_78 rfl ?_
    refine q_iload_n (M := md_X5_fetch) (pc := 80) dX5_fetch_80 rfl ?_
    refine e_icmp_eq (M := md_X5_fetch) (pc := 81) (tgt := 100) h rfl rfl dX5_fetch_81 (by decide) (fun h => ?_) (fun h => ?_)
    · exact q_weak (w_Reck_fetch_b100 hN  h) ⟨Or.inr rfl, Or.inl rfl, Or.inl rfl, Or.inr rfl, Or.inr rfl, Or.inl rfl, trivial⟩
    · refine q_aload_n (M := md_X5_fetch) (pc := 84) dX5_fetch_84 rfl (by decide) ?_
      refine e_gR (M := md_X5_fetch) (pc := 85) h fl_5_21 dX5_fetch_85 (is_77 hN) rfl (fun v10 hv10 h => ?_)
      refine q_iload (M := md_X5_fetch) (pc := 88) dX5_fetch_88 rfl ?_
      refine e_rd (M := md_X5_fetch) (pc := 90) h dX5_fetch_90 (ar_when hN hv10) (fun v11 h => ?_)
      refine q_aload_n (M := md_X5_fetch) (pc := 91) dX5_fetch_91 rfl (by decide) ?_
      refine e_gR (M := md_X5_fetch) (pc := 92) h fl_5_21 dX5_fetch_92 (is_77 hN) rfl (fun v12 hv12 h => ?_)
      refine q_iload_n (M := md_X5_fetch) (pc := 95) dX5_fetch_95 rfl ?_
      refine e_rd (M := md_X5_fetch) (pc := 96) h dX5_fetch_96 (ar_when hN hv12) (fun v13 h => ?_)
      refine e_icmp_ge (M := md_X5_fetch) (pc := 97) (tgt := 104) h rfl rfl dX5_fetch_97 (by decide) (fun h => ?_) (fun h => ?_)
      · refine q_iconst (M := md_X5_fetch) (pc := 104) dX5_fetch_104 ?_
        exact q_weak (w_Reck_fetch_b105 hN  h) ⟨Or.inr rfl, Or.inl rfl, Or.inl rfl, Or.inr rfl, Or.inr rfl, Or.inl rfl, trivial⟩
      · exact q_weak (w_Reck_fetch_b100 hN  h) ⟨Or.inr rfl, Or.inl rfl, Or.inl rfl, Or.inr rfl, Or.inr rfl, Or.inl rfl, trivial⟩
  · refine q_aload_n (M := md_X5_fetch) (pc := 44) dX5_fetch_44 rfl (by decide) ?_
    refine q_iload_n (M := md_X5_fetch) (pc := 45) dX5_fetch_45 rfl ?_
    refine q_iload_n (M := md_X5_fetch) (pc := 46) dX5_fetch_46 rfl ?_
    refine q_bipush (M := md_X5_fetch) (pc := 47) (x := 10) dX5_fetch_47 (by decide) ?_
    refine e_dv (M := md_X5_fetch) (pc := 49) h dX5_fetch_49 (fun v14 h => ?_)
    refine q_aload_n (M := md_X5_fetch) (pc := 50) dX5_fetch_50 rfl (by decide) ?_
    refine e_gR (M := md_X5_fetch) (pc := 51) h fl_5_17 dX5_fetch_51 (is_77 hN) rfl (fun v15 hv15 h => ?_)
    refine q_getP (M := md_X5_fetch) (pc := 54) (v := v15 + 5) fl_5_67 dX5_fetch_54 (is_Lp hN hv15) (ph_Lp_12 hv15) ?_
    refine q_iload_n (M := md_X5_fetch) (pc := 57) dX5_fetch_57 rfl ?_
    refine e_rd (M := md_X5_fetch) (pc := 58) h dX5_fetch_58 (ar_Lp_12 hN hv15) (fun v16 h => ?_)
    refine q_iadd (M := md_X5_fetch) (pc := 59) dX5_fetch_59 ?_
    refine q_iload_n (M := md_X5_fetch) (pc := 60) dX5_fetch_60 rfl ?_
    refine q_bipush (M := md_X5_fetch) (pc := 61) (x := 10) dX5_fetch_61 (by decide) ?_
    refine e_md (M := md_X5_fetch) (pc := 63) h dX5_fetch_63 (fun v17 h => ?_)
    refine q_aload_n (M := md_X5_fetch) (pc := 64) dX5_fetch_64 rfl (by decide) ?_
    refine e_gR (M := md_X5_fetch) (pc := 65) h fl_5_17 dX5_fetch_65 (is_77 hN) rfl (fun v18 hv18 h => ?_)
    refine q_getP (M := md_X5_fetch) (pc := 68) (v := v18 + 6) fl_5_70 dX5_fetch_68 (is_Lp hN hv18) (ph_Lp_13 hv18) ?_
    refine q_iload_n (M := md_X5_fetch) (pc := 71) dX5_fetch_71 rfl ?_
    refine e_rd (M := md_X5_fetch) (pc := 72) h dX5_fetch_72 (ar_Lp_13 hN hv18) (fun v19 h => ?_)
    refine q_iadd (M := md_X5_fetch) (pc := 73) dX5_fetch_73 ?_
    refine e_callVi (M := md_X5_fetch) (pc := 74) (d' := 2) (av := [q_I v2, q_I (v14 + v16), q_I (v17 + v19)]) (c := 77) h ml_5_76 im_X5_edgeAt se_X5_edgeAt dX5_fetch_74 (fun v he => ok_X5_edgeAt hN  he) rfl (is_77 hN) ⟨_, _, rfl⟩ (by decide) (Nat.le_of_ble_eq_true rfl) ⟨by decide, by decide⟩ rfl (fun v20 m21 h => ?_)
    exact e_iret (M := md_X5_fetch) (pc := 77) h rfl dX5_fetch_77
def f_Reck_reckon_b92 (k2 : Int → Int → q_Mem → q_Res) (k28 : Int → Int → Int → Int → q_Mem → q_Res) (l1 l2 l4 s0 : Int) (m : q_Mem) : q_Res :=
  q_wr m 78 80 l4 s0 fun m1 =>
  k28 l1 l2 s0 (l4 + 1) m1
set_option maxRecDepth 20000 in
theorem w_Reck_reckon_b92 {k2 : Int → Int → q_Mem → q_Res} {k28 : Int → Int → Int → Int → q_Mem → q_Res} {l1 l2 l4 s0 : Int} {r : Int × q_Mem} {m : q_Mem} {N : Nat} (hN : 81 ≤ N) (hk2 : ∀ (l1 l2 : Int) (m : q_Mem), k2 l1 l2 m = some r → q_E md_X5_reckon 4 N (none) r m 2 [q_A 77, q_I l1, q_I l2, q_N, q_N] []) (hk28 : ∀ (l1 l2 l3 l4 : Int) (m : q_Mem), k28 l1 l2 l3 l4 m = some r → q_E md_X5_reckon 4 N (none) r m 28 [q_A 77, q_I l1, q_I l2, q_I l3, q_I l4] []) (h : f_Reck_reckon_b92 k2 k28 l1 l2 l4 s0 m = some r) : q_E md_X5_reckon 4 N (none) r m 92 [q_A 77, q_I l1, q_I l2, q_N, q_I l4] [q_I s0] := by
  unfold f_Reck_reckon_b92 at h
  refine e_ist_n (M := md_X5_reckon) (pc := 92) (ls' := [q_A 77, q_I l1, q_I l2, q_I s0, q_I l4]) dX5_reckon_92 (by decide) (q_pl rfl) rfl ?_
  refine q_aload_n (M := md_X5_reckon) (pc := 93) dX5_reckon_93 rfl (by decide) ?_
  refine q_getP (M := md_X5_reckon) (pc := 94) (v := 78) fl_5_11 dX5_reckon_94 (is_77 hN) rfl ?_
  refine q_iload (M := md_X5_reckon) (pc := 97) dX5_reckon_97 rfl ?_
  refine q_iload_n (M := md_X5_reckon) (pc := 99) dX5_reckon_99 rfl ?_
  refine e_wr (M := md_X5_reckon) (pc := 100) h dX5_reckon_100 (ar_78 hN) (fun m1 h => ?_)
  refine e_inc (M := md_X5_reckon) (pc := 101) (x := l4) (ls' := [q_A 77, q_I l1, q_I l2, q_I s0, q_I (l4 + 1)]) dX5_reckon_101 rfl (by decide) (q_pl rfl) rfl ?_
  refine q_goto (M := md_X5_reckon) (pc := 104) (tgt := 28) dX5_reckon_104 (by decide) ?_
  exact q_weak (hk28 _ _ _ _ _  h) ⟨Or.inr rfl, Or.inr rfl, Or.inr rfl, Or.inr rfl, Or.inr rfl, trivial⟩
def f_Reck_reckon_b128 (k2 : Int → Int → q_Mem → q_Res) (l1 l2 l3 s0 : Int) (m : q_Mem) : q_Res :=
  q_lt (m 77 3) fun v1 => q_one [74, 75, 76] v1 <|
  q_wr m v1 300 ((l2 * 100) + l1) (l3 + s0) fun m2 =>
  k2 l1 (l2 + 1) m2
set_option maxRecDepth 20000 in
theorem w_Reck_reckon_b128 {k2 : Int → Int → q_Mem → q_Res} {l1 l2 l3 s0 : Int} {r : Int × q_Mem} {m : q_Mem} {N : Nat} (hN : 81 ≤ N) (hk2 : ∀ (l1 l2 : Int) (m : q_Mem), k2 l1 l2 m = some r → q_E md_X5_reckon 4 N (none) r m 2 [q_A 77, q_I l1, q_I l2, q_N, q_N] []) (h : f_Reck_reckon_b128 k2 l1 l2 l3 s0 m = some r) : q_E md_X5_reckon 4 N (none) r m 128 [q_A 77, q_I l1, q_I l2, q_I l3, q_N] [q_I s0] := by
  unfold f_Reck_reckon_b128 at h
  refine e_ist (M := md_X5_reckon) (pc := 128) (ls' := [q_A 77, q_I l1, q_I l2, q_I l3, q_I s0]) dX5_reckon_128 (by decide) (q_pl rfl) rfl ?_
  refine q_aload_n (M := md_X5_reckon) (pc := 130) dX5_reckon_130 rfl (by decide) ?_
  refine e_gR (M := md_X5_reckon) (pc := 131) h fl_5_24 dX5_reckon_131 (is_77 hN) rfl (fun v1 hv1 h => ?_)
  refine q_iload_n (M := md_X5_reckon) (pc := 134) dX5_reckon_134 rfl ?_
  refine q_bipush (M := md_X5_reckon) (pc := 135) (x := 100) dX5_reckon_135 (by decide) ?_
  refine q_imul (M := md_X5_reckon) (pc := 137) dX5_reckon_137 ?_
  refine q_iload_n (M := md_X5_reckon) (pc := 138) dX5_reckon_138 rfl ?_
  refine q_iadd (M := md_X5_reckon) (pc := 139) dX5_reckon_139 ?_
  refine q_iload_n (M := md_X5_reckon) (pc := 140) dX5_reckon_140 rfl ?_
  refine q_iload (M := md_X5_reckon) (pc := 141) dX5_reckon_141 rfl ?_
  refine q_iadd (M := md_X5_reckon) (pc := 143) dX5_reckon_143 ?_
  refine e_wr (M := md_X5_reckon) (pc := 144) h dX5_reckon_144 (ar_made hN hv1) (fun m2 h => ?_)
  refine e_inc (M := md_X5_reckon) (pc := 145) (x := l2) (ls' := [q_A 77, q_I l1, q_I (l2 + 1), q_I l3, q_I s0]) dX5_reckon_145 rfl (by decide) (q_pl rfl) rfl ?_
  refine q_goto (M := md_X5_reckon) (pc := 148) (tgt := 2) dX5_reckon_148 (by decide) ?_
  exact q_weak (hk2 _ _ _  h) ⟨Or.inr rfl, Or.inr rfl, Or.inr rfl, Or.inl rfl, Or.inl rfl, trivial⟩
def f_Reck_reckon_b127 (k2 : Int → Int → q_Mem → q_Res) (l1 l2 l3 : Int) (m : q_Mem) : q_Res :=
  f_Reck_reckon_b128 k2 l1 l2 l3 0 m
set_option maxRecDepth 20000 in
theorem w_Reck_reckon_b127 {k2 : Int → Int → q_Mem → q_Res} {l1 l2 l3 : Int} {r : Int × q_Mem} {m : q_Mem} {N : Nat} (hN : 81 ≤ N) (hk2 : ∀ (l1 l2 : Int) (m : q_Mem), k2 l1 l2 m = some r → q_E md_X5_reckon 4 N (none) r m 2 [q_A 77, q_I l1, q_I l2, q_N, q_N] []) (h : f_Reck_reckon_b127 k2 l1 l2 l3 m = some r) : q_E md_X5_reckon 4 N (none) r m 127 [q_A 77, q_I l1, q_I l2, q_I l3, q_N] [] := by
  unfold f_Reck_reckon_b127 at h
  refine q_iconst (M := md_X5_reckon) (pc := 127) dX5_reckon_127 ?_
  exact q_weak (w_Reck_reckon_b128 hN hk2  h) ⟨Or.inr rfl, Or.inr rfl, Or.inr rfl, Or.inr rfl, Or.inl rfl, trivial⟩
def f_Reck_reckon_b28 (k2 : Int → Int → q_Mem → q_Res) (k28 : Int → Int → Int → Int → q_Mem → q_Res) (l1 l2 l3 l4 : Int) (m : q_Mem) : q_Res :=
  q_lt (m 77 1) fun v1 => q_one q_Lp v1 <|
  q_rd m (v1 + 10) 7 ((2 * l2) + 1) fun v2 =>
  if q_w v2 ≤ q_w l4 then (if q_w l2 = q_w (m 77 4) then (if q_w l1 = q_w (m 77 5) then (f_Reck_reckon_b128 k2 l1 l2 l3 1 m)
  else (f_Reck_reckon_b127 k2 l1 l2 l3 m))
  else (f_Reck_reckon_b127 k2 l1 l2 l3 m))
  else (q_lt (m 77 1) fun v3 => q_one q_Lp v3 <|
  q_rd m (v3 + 7) 80 l4 fun v4 =>
  if q_w v4 = 3 then (q_lt (m 77 1) fun v9 => q_one q_Lp v9 <|
  q_rd m (v9 + 8) 80 l4 fun v10 =>
  q_bd (f_Reck_fetch v10 l1 m) fun v11 m12 =>
  f_Reck_reckon_b92 k2 k28 l1 l2 l4 v11 m12)
  else (q_dv l1 10 fun v5 =>
  q_md l1 10 fun v6 =>
  q_bd (f_Reck_join l4 v5 v6 m) fun v7 m8 =>
  f_Reck_reckon_b92 k2 k28 l1 l2 l4 v7 m8))
set_option maxRecDepth 20000 in
theorem w_Reck_reckon_b28 {k2 : Int → Int → q_Mem → q_Res} {k28 : Int → Int → Int → Int → q_Mem → q_Res} {l1 l2 l3 l4 : Int} {r : Int × q_Mem} {m : q_Mem} {N : Nat} (hN : 81 ≤ N) (hk2 : ∀ (l1 l2 : Int) (m : q_Mem), k2 l1 l2 m = some r → q_E md_X5_reckon 4 N (none) r m 2 [q_A 77, q_I l1, q_I l2, q_N, q_N] []) (hk28 : ∀ (l1 l2 l3 l4 : Int) (m : q_Mem), k28 l1 l2 l3 l4 m = some r → q_E md_X5_reckon 4 N (none) r m 28 [q_A 77, q_I l1, q_I l2, q_I l3, q_I l4] []) (h : f_Reck_reckon_b28 k2 k28 l1 l2 l3 l4 m = some r) : q_E md_X5_reckon 4 N (none) r m 28 [q_A 77, q_I l1, q_I l2, q_I l3, q_I l4] [] := by
  unfold f_Reck_reckon_b28 at h
  refine q_iload (M := md_X5_reckon) (pc := 28) dX5_reckon_28 rfl ?_
  refine q_aload_n (M := md_X5_reckon) (pc := 30) dX5_reckon_30 rfl (by decide) ?_
  refine e_gR (M := md_X5_reckon) (pc := 31) h fl_5_17 dX5_reckon_31 (is_77 hN) rfl (fun v1 hv1 h => ?_)
  refine q_getP (M := md_X5_reckon) (pc := 34) (v := v1 + 10) fl_5_47 dX5_reckon_34 (is_Lp hN hv1) (ph_Lp_17 hv1) ?_
  refine q_iconst (M := md_X5_reckon) (pc := 37) dX5_reckon_37 ?_
  refine q_iload_n (M := md_X5_reckon) (pc := 38) dX5_reckon_38 rfl ?_
  refine q_imul (M := md_X5_reckon) (pc := 39) dX5_reckon_39 ?_
  refine q_iconst (M := md_X5_reckon) (pc := 40) dX5_reckon_40 ?_
  refine q_iadd (M := md_X5_reckon) (pc := 41) dX5_reckon_41 ?_
  refine e_rd (M := md_X5_reckon) (pc := 42) h dX5_reckon_42 (ar_Lp_17 hN hv1) (fun v2 h => ?_)
  refine e_icmp_ge (M := md_X5_reckon) (pc := 43) (tgt := 107) h rfl rfl dX5_reckon_43 (by decide) (fun h => ?_) (fun h => ?_)
  · refine q_iload_n (M := md_X5_reckon) (pc := 107) dX5_reckon_107 rfl ?_
    refine q_aload_n (M := md_X5_reckon) (pc := 108) dX5_reckon_108 rfl (by decide) ?_
    refine e_gI (M := md_X5_reckon) (pc := 109) (v := m 77 4) fl_5_37 dX5_reckon_109 (is_77 hN) rfl ?_
    refine e_icmp_ne (M := md_X5_reckon) (pc := 112) (tgt := 127) h rfl rfl dX5_reckon_112 (by decide) (fun h => ?_) (fun h => ?_)
    · exact q_weak (w_Reck_reckon_b127 hN hk2  h) ⟨Or.inr rfl, Or.inr rfl, Or.inr rfl, Or.inr rfl, Or.inl rfl, trivial⟩
    · refine q_iload_n (M := md_X5_reckon) (pc := 115) dX5_reckon_115 rfl ?_
      refine q_aload_n (M := md_X5_reckon) (pc := 116) dX5_reckon_116 rfl (by decide) ?_
      refine e_gI (M := md_X5_reckon) (pc := 117) (v := m 77 5) fl_5_41 dX5_reckon_117 (is_77 hN) rfl ?_
      refine e_icmp_ne (M := md_X5_reckon) (pc := 120) (tgt := 127) h rfl rfl dX5_reckon_120 (by decide) (fun h => ?_) (fun h => ?_)
      · exact q_weak (w_Reck_reckon_b127 hN hk2  h) ⟨Or.inr rfl, Or.inr rfl, Or.inr rfl, Or.inr rfl, Or.inl rfl, trivial⟩
      · refine q_iconst (M := md_X5_reckon) (pc := 123) dX5_reckon_123 ?_
        refine q_goto (M := md_X5_reckon) (pc := 124) (tgt := 128) dX5_reckon_124 (by decide) ?_
        exact q_weak (w_Reck_reckon_b128 hN hk2  h) ⟨Or.inr rfl, Or.inr rfl, Or.inr rfl, Or.inr rfl, Or.inl rfl, trivial⟩
  · refine q_aload_n (M := md_X5_reckon) (pc := 46) dX5_reckon_46 rfl (by decide) ?_
    refine e_gR (M := md_X5_reckon) (pc := 47) h fl_5_17 dX5_reckon_47 (is_77 hN) rfl (fun v3 hv3 h => ?_)
    refine q_getP (M := md_X5_reckon) (pc := 50) (v := v3 + 7) fl_5_50 dX5_reckon_50 (is_Lp hN hv3) (ph_Lp_14 hv3) ?_
    refine q_iload (M := md_X5_reckon) (pc := 53) dX5_reckon_53 rfl ?_
    refine e_rd (M := md_X5_reckon) (pc := 55) h dX5_reckon_55 (ar_Lp_14 hN hv3) (fun v4 h => ?_)
    refine q_iconst (M := md_X5_reckon) (pc := 56) dX5_reckon_56 ?_
    refine e_icmp_ne (M := md_X5_reckon) (pc := 57) (tgt := 78) h rfl (q_wlit rfl) dX5_reckon_57 (by decide) (fun h => ?_) (fun h => ?_)
    · refine q_aload_n (M := md_X5_reckon) (pc := 78) dX5_reckon_78 rfl (by decide) ?_
      refine q_iload (M := md_X5_reckon) (pc := 79) dX5_reckon_79 rfl ?_
      refine q_iload_n (M := md_X5_reckon) (pc := 81) dX5_reckon_81 rfl ?_
      refine q_bipush (M := md_X5_reckon) (pc := 82) (x := 10) dX5_reckon_82 (by decide) ?_
      refine e_dv (M := md_X5_reckon) (pc := 84) h dX5_reckon_84 (fun v5 h => ?_)
      refine q_iload_n (M := md_X5_reckon) (pc := 85) dX5_reckon_85 rfl ?_
      refine q_bipush (M := md_X5_reckon) (pc := 86) (x := 10) dX5_reckon_86 (by decide) ?_
      refine e_md (M := md_X5_reckon) (pc := 88) h dX5_reckon_88 (fun v6 h => ?_)
      refine e_callVi (M := md_X5_reckon) (pc := 89) (d' := 1) (av := [q_I l4, q_I v5, q_I v6]) (c := 77) h ml_5_60 im_X5_join se_X5_join dX5_reckon_89 (fun v he => ok_X5_join hN  he) rfl (is_77 hN) ⟨_, _, rfl⟩ (by decide) (Nat.le_of_ble_eq_true rfl) ⟨by decide, by decide⟩ rfl (fun v7 m8 h => ?_)
      exact q_weak (w_Reck_reckon_b92 hN hk2 hk28  h) ⟨Or.inr rfl, Or.inr rfl, Or.inr rfl, Or.inl rfl, Or.inr rfl, trivial⟩
    · refine q_aload_n (M := md_X5_reckon) (pc := 60) dX5_reckon_60 rfl (by decide) ?_
      refine q_aload_n (M := md_X5_reckon) (pc := 61) dX5_reckon_61 rfl (by decide) ?_
      refine e_gR (M := md_X5_reckon) (pc := 62) h fl_5_17 dX5_reckon_62 (is_77 hN) rfl (fun v9 hv9 h => ?_)
      refine q_getP (M := md_X5_reckon) (pc := 65) (v := v9 + 8) fl_5_53 dX5_reckon_65 (is_Lp hN hv9) (ph_Lp_15 hv9) ?_
      refine q_iload (M := md_X5_reckon) (pc := 68) dX5_reckon_68 rfl ?_
      refine e_rd (M := md_X5_reckon) (pc := 70) h dX5_reckon_70 (ar_Lp_15 hN hv9) (fun v10 h => ?_)
      refine q_iload_n (M := md_X5_reckon) (pc := 71) dX5_reckon_71 rfl ?_
      refine e_callVi (M := md_X5_reckon) (pc := 72) (d' := 3) (av := [q_I v10, q_I l1]) (c := 77) h ml_5_56 im_X5_fetch se_X5_fetch dX5_reckon_72 (fun v he => ok_X5_fetch hN  he) rfl (is_77 hN) ⟨_, _, rfl⟩ (by decide) (Nat.le_of_ble_eq_true rfl) ⟨by decide, by decide⟩ rfl (fun v11 m12 h => ?_)
      refine q_goto (M := md_X5_reckon) (pc := 75) (tgt := 92) dX5_reckon_75 (by decide) ?_
      exact q_weak (w_Reck_reckon_b92 hN hk2 hk28  h) ⟨Or.inr rfl, Or.inr rfl, Or.inr rfl, Or.inl rfl, Or.inr rfl, trivial⟩
def f_Reck_reckon_l28 (k2 : Int → Int → q_Mem → q_Res) : Nat → Int → Int → Int → Int → q_Mem → q_Res
  | 0 => fun _ _ _ _ _ => none
  | n + 1 => fun l1 l2 l3 l4 m => f_Reck_reckon_b28 k2 (f_Reck_reckon_l28 k2 n) l1 l2 l3 l4 m
theorem w_Reck_reckon_l28 {k2 : Int → Int → q_Mem → q_Res} {r : Int × q_Mem} {N : Nat} (hN : 81 ≤ N) (hk2 : ∀ (l1 l2 : Int) (m : q_Mem), k2 l1 l2 m = some r → q_E md_X5_reckon 4 N (none) r m 2 [q_A 77, q_I l1, q_I l2, q_N, q_N] []) : ∀ (n : Nat) (l1 l2 l3 l4 : Int) (m : q_Mem), f_Reck_reckon_l28 k2 n l1 l2 l3 l4 m = some r → q_E md_X5_reckon 4 N (none) r m 28 [q_A 77, q_I l1, q_I l2, q_I l3, q_I l4] [] := by
  intro n
  induction n with
  | zero => intro l1 l2 l3 l4 m h; exact q_no h
  | succ n ih =>
    intro l1 l2 l3 l4 m h
    exact w_Reck_reckon_b28 hN hk2 (fun l1 l2 l3 l4 m h => ih l1 l2 l3 l4 m h) h
def f_Reck_reckon_b2 (k2 : Int → Int → q_Mem → q_Res) (l1 l2 : Int) (m : q_Mem) : q_Res :=
  q_lt (m 77 1) fun v1 => q_one q_Lp v1 <|
  if q_w (m v1 2) ≤ q_w l2 then (q_rt 0 m)
  else (q_lt (m 77 1) fun v2 => q_one q_Lp v2 <|
  q_rd m (v2 + 10) 7 (2 * l2) fun v3 =>
  f_Reck_reckon_l28 k2 q_F l1 l2 0 v3 m)
set_option maxRecDepth 20000 in
theorem w_Reck_reckon_b2 {k2 : Int → Int → q_Mem → q_Res} {l1 l2 : Int} {r : Int × q_Mem} {m : q_Mem} {N : Nat} (hN : 81 ≤ N) (hk2 : ∀ (l1 l2 : Int) (m : q_Mem), k2 l1 l2 m = some r → q_E md_X5_reckon 4 N (none) r m 2 [q_A 77, q_I l1, q_I l2, q_N, q_N] []) (h : f_Reck_reckon_b2 k2 l1 l2 m = some r) : q_E md_X5_reckon 4 N (none) r m 2 [q_A 77, q_I l1, q_I l2, q_N, q_N] [] := by
  unfold f_Reck_reckon_b2 at h
  refine q_iload_n (M := md_X5_reckon) (pc := 2) dX5_reckon_2 rfl ?_
  refine q_aload_n (M := md_X5_reckon) (pc := 3) dX5_reckon_3 rfl (by decide) ?_
  refine e_gR (M := md_X5_reckon) (pc := 4) h fl_5_17 dX5_reckon_4 (is_77 hN) rfl (fun v1 hv1 h => ?_)
  refine e_gI (M := md_X5_reckon) (pc := 7) (v := m v1 2) fl_5_44 dX5_reckon_7 (is_Lp hN hv1) rfl ?_
  refine e_icmp_ge (M := md_X5_reckon) (pc := 10) (tgt := 151) h rfl rfl dX5_reckon_10 (by decide) (fun h => ?_) (fun h => ?_)
  · exact e_vret (M := md_X5_reckon) (pc := 151) h rfl dX5_reckon_151
  · refine q_iconst (M := md_X5_reckon) (pc := 13) dX5_reckon_13 ?_
    refine e_ist_n (M := md_X5_reckon) (pc := 14) (ls' := [q_A 77, q_I l1, q_I l2, q_I 0, q_N]) dX5_reckon_14 (by decide) (q_pl rfl) rfl ?_
    refine q_aload_n (M := md_X5_reckon) (pc := 15) dX5_reckon_15 rfl (by decide) ?_
    refine e_gR (M := md_X5_reckon) (pc := 16) h fl_5_17 dX5_reckon_16 (is_77 hN) rfl (fun v2 hv2 h => ?_)
    refine q_getP (M := md_X5_reckon) (pc := 19) (v := v2 + 10) fl_5_47 dX5_reckon_19 (is_Lp hN hv2) (ph_Lp_17 hv2) ?_
    refine q_iconst (M := md_X5_reckon) (pc := 22) dX5_reckon_22 ?_
    refine q_iload_n (M := md_X5_reckon) (pc := 23) dX5_reckon_23 rfl ?_
    refine q_imul (M := md_X5_reckon) (pc := 24) dX5_reckon_24 ?_
    refine e_rd (M := md_X5_reckon) (pc := 25) h dX5_reckon_25 (ar_Lp_17 hN hv2) (fun v3 h => ?_)
    refine e_ist (M := md_X5_reckon) (pc := 26) (ls' := [q_A 77, q_I l1, q_I l2, q_I 0, q_I v3]) dX5_reckon_26 (by decide) (q_pl rfl) rfl ?_
    exact q_weak (w_Reck_reckon_l28 hN hk2 q_F _ _ _ _ _  h) ⟨Or.inr rfl, Or.inr rfl, Or.inr rfl, Or.inr rfl, Or.inr rfl, trivial⟩
def f_Reck_reckon_l2 : Nat → Int → Int → q_Mem → q_Res
  | 0 => fun _ _ _ => none
  | n + 1 => fun l1 l2 m => f_Reck_reckon_b2 (f_Reck_reckon_l2 n) l1 l2 m
theorem w_Reck_reckon_l2 {r : Int × q_Mem} {N : Nat} (hN : 81 ≤ N) : ∀ (n : Nat) (l1 l2 : Int) (m : q_Mem), f_Reck_reckon_l2 n l1 l2 m = some r → q_E md_X5_reckon 4 N (none) r m 2 [q_A 77, q_I l1, q_I l2, q_N, q_N] [] := by
  intro n
  induction n with
  | zero => intro l1 l2 m h; exact q_no h
  | succ n ih =>
    intro l1 l2 m h
    exact w_Reck_reckon_b2 hN (fun l1 l2 m h => ih l1 l2 m h) h
def f_Reck_reckon (l1 : Int) (m : q_Mem) : q_Res :=
  f_Reck_reckon_l2 q_F l1 0 m
set_option maxRecDepth 20000 in
theorem ok_X5_reckon {l1 : Int} {r : Int × q_Mem} {m : q_Mem} {N : Nat} (hN : 81 ≤ N) (h : f_Reck_reckon l1 m = some r) : q_C md_X5_reckon (q_room 4) 0 0 [q_A 77, q_I l1] (q_g N) m (none, q_g N, r.2) := by
  refine q_ofR (by decide) 3 (ls := [q_A 77, q_I l1, q_N, q_N, q_N]) rfl (Nat.le_of_ble_eq_true rfl) ?_
  change q_E md_X5_reckon 4 N (none) r m 0 [q_A 77, q_I l1, q_N, q_N, q_N] []
  unfold f_Reck_reckon at h
  refine q_iconst (M := md_X5_reckon) (pc := 0) dX5_reckon_0 ?_
  refine e_ist_n (M := md_X5_reckon) (pc := 1) (ls' := [q_A 77, q_I l1, q_I 0, q_N, q_N]) dX5_reckon_1 (by decide) (q_pl rfl) rfl ?_
  exact q_weak (w_Reck_reckon_l2 hN q_F _ _ _  h) ⟨Or.inr rfl, Or.inr rfl, Or.inr rfl, Or.inl rfl, Or.inl rfl, trivial⟩
def f_Sear_clear (m : q_Mem) : q_Res :=
  q_pf m 73 0 0 fun m1 =>
  q_rt 0 m1
set_option maxRecDepth 20000 in
theorem ok_X6_clear {r : Int × q_Mem} {m : q_Mem} {N : Nat} (hN : 81 ≤ N) (h : f_Sear_clear m = some r) : q_C md_X6_clear (q_room 1) 0 0 [q_A 73] (q_g N) m (none, q_g N, r.2) := by
  refine q_ofR (by decide) 0 (ls := [q_A 73]) rfl (Nat.le_of_ble_eq_true rfl) ?_
  change q_E md_X6_clear 1 N (none) r m 0 [q_A 73] []
  unfold f_Sear_clear at h
  refine q_aload_n (M := md_X6_clear) (pc := 0) dX6_clear_0 rfl (by decide) ?_
  refine q_iconst (M := md_X6_clear) (pc := 1) dX6_clear_1 ?_
  refine e_pfI (M := md_X6_clear) (pc := 2) h fl_6_9 dX6_clear_2 (is_73 hN) rfl (fun m1 h => ?_)
  exact e_vret (M := md_X6_clear) (pc := 5) h rfl dX6_clear_5
def f_Sear_ifFound (l1 : Int) (m : q_Mem) : q_Res :=
  if q_w (m 73 0) ≤ 0 then (q_rt (-1000) m)
  else (q_rt l1 m)
set_option maxRecDepth 20000 in
theorem ok_X6_ifFound {l1 : Int} {r : Int × q_Mem} {m : q_Mem} {N : Nat} (hN : 81 ≤ N) (h : f_Sear_ifFound l1 m = some r) : q_C md_X6_ifFound (q_room 1) 0 0 [q_A 73, q_I l1] (q_g N) m (some (q_I r.1), q_g N, r.2) := by
  refine q_ofR (by decide) 0 (ls := [q_A 73, q_I l1]) rfl (Nat.le_of_ble_eq_true rfl) ?_
  change q_E md_X6_ifFound 1 N (some 0) r m 0 [q_A 73, q_I l1] []
  unfold f_Sear_ifFound at h
  refine q_aload_n (M := md_X6_ifFound) (pc := 0) dX6_ifFound_0 rfl (by decide) ?_
  refine e_gI (M := md_X6_ifFound) (pc := 1) (v := m 73 0) fl_6_9 dX6_ifFound_1 (is_73 hN) rfl ?_
  refine e_if_le (M := md_X6_ifFound) (pc := 4) (tgt := 11) h rfl dX6_ifFound_4 (by decide) (fun h => ?_) (fun h => ?_)
  · refine q_sipush (M := md_X6_ifFound) (pc := 11) (x := -1000) dX6_ifFound_11 (by decide) ?_
    exact e_iret (M := md_X6_ifFound) (pc := 14) h rfl dX6_ifFound_14
  · refine q_iload_n (M := md_X6_ifFound) (pc := 7) dX6_ifFound_7 rfl ?_
    refine q_goto (M := md_X6_ifFound) (pc := 8) (tgt := 14) dX6_ifFound_8 (by decide) ?_
    exact e_iret (M := md_X6_ifFound) (pc := 14) h rfl dX6_ifFound_14
def f_Sear_isBetter_b28 (l1 : Int) (m : q_Mem) : q_Res :=
  q_pf m 73 1 l1 fun m1 =>
  q_rz 1 m1
set_option maxRecDepth 20000 in
theorem w_Sear_isBetter_b28 {l1 : Int} {r : Int × q_Mem} {m : q_Mem} {N : Nat} (hN : 81 ≤ N) (h : f_Sear_isBetter_b28 l1 m = some r) : q_E md_X6_isBetter 1 N (some 0) r m 28 [q_A 73, q_I l1] [] := by
  unfold f_Sear_isBetter_b28 at h
  refine q_aload_n (M := md_X6_isBetter) (pc := 28) dX6_isBetter_28 rfl (by decide) ?_
  refine q_iload_n (M := md_X6_isBetter) (pc := 29) dX6_isBetter_29 rfl ?_
  refine e_pfI (M := md_X6_isBetter) (pc := 30) h fl_6_47 dX6_isBetter_30 (is_73 hN) rfl (fun m1 h => ?_)
  refine q_iconst (M := md_X6_isBetter) (pc := 33) dX6_isBetter_33 ?_
  exact e_zret (M := md_X6_isBetter) (pc := 34) h rfl dX6_isBetter_34
def f_Sear_isBetter (l1 : Int) (m : q_Mem) : q_Res :=
  q_pf m 73 0 ((m 73 0) + 1) fun m1 =>
  if q_w (m1 73 0) ≤ 1 then (f_Sear_isBetter_b28 l1 m1)
  else (if q_w l1 < q_w (m1 73 1) then (f_Sear_isBetter_b28 l1 m1)
  else (q_rz 0 m1))
set_option maxRecDepth 20000 in
theorem ok_X6_isBetter {l1 : Int} {r : Int × q_Mem} {m : q_Mem} {N : Nat} (hN : 81 ≤ N) (h : f_Sear_isBetter l1 m = some r) : q_C md_X6_isBetter (q_room 1) 0 0 [q_A 73, q_I l1] (q_g N) m (some (q_I r.1), q_g N, r.2) := by
  refine q_ofR (by decide) 0 (ls := [q_A 73, q_I l1]) rfl (Nat.le_of_ble_eq_true rfl) ?_
  change q_E md_X6_isBetter 1 N (some 0) r m 0 [q_A 73, q_I l1] []
  unfold f_Sear_isBetter at h
  refine q_aload_n (M := md_X6_isBetter) (pc := 0) dX6_isBetter_0 rfl (by decide) ?_
  refine q_dup (M := md_X6_isBetter) (pc := 1) dX6_isBetter_1 (show (2 : Nat) ≠ 1 by decide) ?_
  refine e_gI (M := md_X6_isBetter) (pc := 2) (v := m 73 0) fl_6_9 dX6_isBetter_2 (is_73 hN) rfl ?_
  refine q_iconst (M := md_X6_isBetter) (pc := 5) dX6_isBetter_5 ?_
  refine q_iadd (M := md_X6_isBetter) (pc := 6) dX6_isBetter_6 ?_
  refine e_pfI (M := md_X6_isBetter) (pc := 7) h fl_6_9 dX6_isBetter_7 (is_73 hN) rfl (fun m1 h => ?_)
  refine q_aload_n (M := md_X6_isBetter) (pc := 10) dX6_isBetter_10 rfl (by decide) ?_
  refine e_gI (M := md_X6_isBetter) (pc := 11) (v := m1 73 0) fl_6_9 dX6_isBetter_11 (is_73 hN) rfl ?_
  refine q_iconst (M := md_X6_isBetter) (pc := 14) dX6_isBetter_14 ?_
  refine e_icmp_le (M := md_X6_isBetter) (pc := 15) (tgt := 28) h rfl (q_wlit rfl) dX6_isBetter_15 (by decide) (fun h => ?_) (fun h => ?_)
  · exact q_weak (w_Sear_isBetter_b28 hN  h) ⟨Or.inr rfl, Or.inr rfl, trivial⟩
  · refine q_iload_n (M := md_X6_isBetter) (pc := 18) dX6_isBetter_18 rfl ?_
    refine q_aload_n (M := md_X6_isBetter) (pc := 19) dX6_isBetter_19 rfl (by decide) ?_
    refine e_gI (M := md_X6_isBetter) (pc := 20) (v := m1 73 1) fl_6_47 dX6_isBetter_20 (is_73 hN) rfl ?_
    refine e_icmp_lt (M := md_X6_isBetter) (pc := 23) (tgt := 28) h rfl rfl dX6_isBetter_23 (by decide) (fun h => ?_) (fun h => ?_)
    · exact q_weak (w_Sear_isBetter_b28 hN  h) ⟨Or.inr rfl, Or.inr rfl, trivial⟩
    · refine q_iconst (M := md_X6_isBetter) (pc := 26) dX6_isBetter_26 ?_
      exact e_zret (M := md_X6_isBetter) (pc := 27) h rfl dX6_isBetter_27
def f_Sear_keep (l1 l2 l3 l4 : Int) (m : q_Mem) : q_Res :=
  q_pf m 73 2 l1 fun m1 =>
  q_pf m1 73 3 l2 fun m2 =>
  q_pf m2 73 4 l3 fun m3 =>
  q_pf m3 73 5 l4 fun m4 =>
  q_rt 0 m4
set_option maxRecDepth 20000 in
theorem ok_X6_keep {l1 l2 l3 l4 : Int} {r : Int × q_Mem} {m : q_Mem} {N : Nat} (hN : 81 ≤ N) (h : f_Sear_keep l1 l2 l3 l4 m = some r) : q_C md_X6_keep (q_room 1) 0 0 [q_A 73, q_I l1, q_I l2, q_I l3, q_I l4] (q_g N) m (none, q_g N, r.2) := by
  refine q_ofR (by decide) 0 (ls := [q_A 73, q_I l1, q_I l2, q_I l3, q_I l4]) rfl (Nat.le_of_ble_eq_true rfl) ?_
  change q_E md_X6_keep 1 N (none) r m 0 [q_A 73, q_I l1, q_I l2, q_I l3, q_I l4] []
  unfold f_Sear_keep at h
  refine q_aload_n (M := md_X6_keep) (pc := 0) dX6_keep_0 rfl (by decide) ?_
  refine q_iload_n (M := md_X6_keep) (pc := 1) dX6_keep_1 rfl ?_
  refine e_pfI (M := md_X6_keep) (pc := 2) h fl_6_50 dX6_keep_2 (is_73 hN) rfl (fun m1 h => ?_)
  refine q_aload_n (M := md_X6_keep) (pc := 5) dX6_keep_5 rfl (by decide) ?_
  refine q_iload_n (M := md_X6_keep) (pc := 6) dX6_keep_6 rfl ?_
  refine e_pfI (M := md_X6_keep) (pc := 7) h fl_6_53 dX6_keep_7 (is_73 hN) rfl (fun m2 h => ?_)
  refine q_aload_n (M := md_X6_keep) (pc := 10) dX6_keep_10 rfl (by decide) ?_
  refine q_iload_n (M := md_X6_keep) (pc := 11) dX6_keep_11 rfl ?_
  refine e_pfI (M := md_X6_keep) (pc := 12) h fl_6_56 dX6_keep_12 (is_73 hN) rfl (fun m3 h => ?_)
  refine q_aload_n (M := md_X6_keep) (pc := 15) dX6_keep_15 rfl (by decide) ?_
  refine q_iload (M := md_X6_keep) (pc := 16) dX6_keep_16 rfl ?_
  refine e_pfI (M := md_X6_keep) (pc := 18) h fl_6_59 dX6_keep_18 (is_73 hN) rfl (fun m4 h => ?_)
  exact e_vret (M := md_X6_keep) (pc := 21) h rfl dX6_keep_21
def f_Sear_trySchedules_b71 (k4 : Int → Int → Int → Int → Int → q_Mem → q_Res) (k14 : Int → Int → Int → Int → Int → Int → q_Mem → q_Res) (l1 l2 l3 l4 l5 l6 : Int) (m : q_Mem) : q_Res :=
  k14 l1 l2 l3 l4 l5 (l6 + 1) m
set_option maxRecDepth 20000 in
theorem w_Sear_trySchedules_b71 {k4 : Int → Int → Int → Int → Int → q_Mem → q_Res} {k14 : Int → Int → Int → Int → Int → Int → q_Mem → q_Res} {l1 l2 l3 l4 l5 l6 : Int} {r : Int × q_Mem} {m : q_Mem} {N : Nat} (hN : 81 ≤ N) (hk4 : ∀ (l1 l2 l3 l4 l5 : Int) (m : q_Mem), l1 ∈ (q_Lp : List Int) → k4 l1 l2 l3 l4 l5 m = some r → q_E md_X6_trySchedules 3 N (none) r m 4 [q_A 73, q_A l1, q_I l2, q_I l3, q_I l4, q_I l5, q_N] []) (hk14 : ∀ (l1 l2 l3 l4 l5 l6 : Int) (m : q_Mem), l1 ∈ (q_Lp : List Int) → k14 l1 l2 l3 l4 l5 l6 m = some r → q_E md_X6_trySchedules 3 N (none) r m 14 [q_A 73, q_A l1, q_I l2, q_I l3, q_I l4, q_I l5, q_I l6] []) (hl1 : l1 ∈ (q_Lp : List Int)) (h : f_Sear_trySchedules_b71 k4 k14 l1 l2 l3 l4 l5 l6 m = some r) : q_E md_X6_trySchedules 3 N (none) r m 71 [q_A 73, q_A l1, q_I l2, q_I l3, q_I l4, q_I l5, q_I l6] [] := by
  unfold f_Sear_trySchedules_b71 at h
  refine e_inc (M := md_X6_trySchedules) (pc := 71) (x := l6) (ls' := [q_A 73, q_A l1, q_I l2, q_I l3, q_I l4, q_I l5, q_I (l6 + 1)]) dX6_trySchedules_71 rfl (by decide) (q_pl rfl) rfl ?_
  refine q_goto (M := md_X6_trySchedules) (pc := 74) (tgt := 14) dX6_trySchedules_74 (by decide) ?_
  exact q_weak (hk14 _ _ _ _ _ _ _ hl1 h) ⟨Or.inr rfl, Or.inr rfl, Or.inr rfl, Or.inr rfl, Or.inr rfl, Or.inr rfl, Or.inr rfl, trivial⟩
def f_Sear_trySchedules_b14 (k4 : Int → Int → Int → Int → Int → q_Mem → q_Res) (k14 : Int → Int → Int → Int → Int → Int → q_Mem → q_Res) (l1 l2 l3 l4 l5 l6 : Int) (m : q_Mem) : q_Res :=
  if q_w l2 < q_w l6 then (k4 l1 l2 l3 l4 (l5 + 1) m)
  else (q_bd (f_Loop_isLawful l1 l5 l6 m) fun v1 m2 =>
  if q_w v1 = 0 then (f_Sear_trySchedules_b71 k4 k14 l1 l2 l3 l4 l5 l6 m2)
  else (q_bd (f_Loop_clashes l1 l5 l6 l3 l4 m2) fun v3 m4 =>
  if q_w v3 = 0 then (q_bd (f_Loop_latency l1 l5 l6 m4) fun v5 m6 =>
  q_bd (f_Sear_isBetter v5 m6) fun v7 m8 =>
  if q_w v7 = 0 then (f_Sear_trySchedules_b71 k4 k14 l1 l2 l3 l4 l5 l6 m8)
  else (q_bd (f_Sear_keep l5 l6 l3 l4 m8) fun _ m9 =>
  f_Sear_trySchedules_b71 k4 k14 l1 l2 l3 l4 l5 l6 m9))
  else (f_Sear_trySchedules_b71 k4 k14 l1 l2 l3 l4 l5 l6 m4)))
set_option maxRecDepth 20000 in
theorem w_Sear_trySchedules_b14 {k4 : Int → Int → Int → Int → Int → q_Mem → q_Res} {k14 : Int → Int → Int → Int → Int → Int → q_Mem → q_Res} {l1 l2 l3 l4 l5 l6 : Int} {r : Int × q_Mem} {m : q_Mem} {N : Nat} (hN : 81 ≤ N) (hk4 : ∀ (l1 l2 l3 l4 l5 : Int) (m : q_Mem), l1 ∈ (q_Lp : List Int) → k4 l1 l2 l3 l4 l5 m = some r → q_E md_X6_trySchedules 3 N (none) r m 4 [q_A 73, q_A l1, q_I l2, q_I l3, q_I l4, q_I l5, q_N] []) (hk14 : ∀ (l1 l2 l3 l4 l5 l6 : Int) (m : q_Mem), l1 ∈ (q_Lp : List Int) → k14 l1 l2 l3 l4 l5 l6 m = some r → q_E md_X6_trySchedules 3 N (none) r m 14 [q_A 73, q_A l1, q_I l2, q_I l3, q_I l4, q_I l5, q_I l6] []) (hl1 : l1 ∈ (q_Lp : List Int)) (h : f_Sear_trySchedules_b14 k4 k14 l1 l2 l3 l4 l5 l6 m = some r) : q_E md_X6_trySchedules 3 N (none) r m 14 [q_A 73, q_A l1, q_I l2, q_I l3, q_I l4, q_I l5, q_I l6] [] := by
  unfold f_Sear_trySchedules_b14 at h
  refine q_iload (M := md_X6_trySchedules) (pc := 14) dX6_trySchedules_14 rfl ?_
  refine q_iload_n (M := md_X6_trySchedules) (pc := 16) dX6_trySchedules_16 rfl ?_
  refine e_icmp_gt (M := md_X6_trySchedules) (pc := 17) (tgt := 77) h rfl rfl dX6_trySchedules_17 (by decide) (fun h => ?_) (fun h => ?_)
  · refine e_inc (M := md_X6_trySchedules) (pc := 77) (x := l5) (ls' := [q_A 73, q_A l1, q_I l2, q_I l3, q_I l4, q_I (l5 + 1), q_I l6]) dX6_trySchedules_77 rfl (by decide) (q_pl rfl) rfl ?_
    refine q_goto (M := md_X6_trySchedules) (pc := 80) (tgt := 4) dX6_trySchedules_80 (by decide) ?_
    exact q_weak (hk4 _ _ _ _ _ _ hl1 h) ⟨Or.inr rfl, Or.inr rfl, Or.inr rfl, Or.inr rfl, Or.inr rfl, Or.inr rfl, Or.inl rfl, trivial⟩
  · refine q_aload_n (M := md_X6_trySchedules) (pc := 20) dX6_trySchedules_20 rfl (nn_Lp hl1) ?_
    refine q_iload (M := md_X6_trySchedules) (pc := 21) dX6_trySchedules_21 rfl ?_
    refine q_iload (M := md_X6_trySchedules) (pc := 23) dX6_trySchedules_23 rfl ?_
    refine e_callVi (M := md_X6_trySchedules) (pc := 25) (d' := 1) (av := [q_I l5, q_I l6]) (c := l1) h ml_6_15 im_X2_isLawful se_X2_isLawful dX6_trySchedules_25 (fun v he => ok_X2_isLawful hN hl1 he) rfl (is_Lp hN hl1) ⟨_, _, rfl⟩ (by decide) (Nat.le_of_ble_eq_true rfl) ⟨by decide, by decide⟩ rfl (fun v1 m2 h => ?_)
    refine e_if_eq (M := md_X6_trySchedules) (pc := 28) (tgt := 71) h rfl dX6_trySchedules_28 (by decide) (fun h => ?_) (fun h => ?_)
    · exact q_weak (w_Sear_trySchedules_b71 hN hk4 hk14 hl1 h) ⟨Or.inr rfl, Or.inr rfl, Or.inr rfl, Or.inr rfl, Or.inr rfl, Or.inr rfl, Or.inr rfl, trivial⟩
    · refine q_aload_n (M := md_X6_trySchedules) (pc := 31) dX6_trySchedules_31 rfl (nn_Lp hl1) ?_
      refine q_iload (M := md_X6_trySchedules) (pc := 32) dX6_trySchedules_32 rfl ?_
      refine q_iload (M := md_X6_trySchedules) (pc := 34) dX6_trySchedules_34 rfl ?_
      refine q_iload_n (M := md_X6_trySchedules) (pc := 36) dX6_trySchedules_36 rfl ?_
      refine q_iload (M := md_X6_trySchedules) (pc := 37) dX6_trySchedules_37 rfl ?_
      refine e_callVi (M := md_X6_trySchedules) (pc := 39) (d' := 2) (av := [q_I l5, q_I l6, q_I l3, q_I l4]) (c := l1) h ml_6_21 im_X2_clashes se_X2_clashes dX6_trySchedules_39 (fun v he => ok_X2_clashes hN hl1 he) rfl (is_Lp hN hl1) ⟨_, _, rfl⟩ (by decide) (Nat.le_of_ble_eq_true rfl) ⟨by decide, by decide⟩ rfl (fun v3 m4 h => ?_)
      refine e_if_ne (M := md_X6_trySchedules) (pc := 42) (tgt := 71) h rfl dX6_trySchedules_42 (by decide) (fun h => ?_) (fun h => ?_)
      · exact q_weak (w_Sear_trySchedules_b71 hN hk4 hk14 hl1 h) ⟨Or.inr rfl, Or.inr rfl, Or.inr rfl, Or.inr rfl, Or.inr rfl, Or.inr rfl, Or.inr rfl, trivial⟩
      · refine q_aload_n (M := md_X6_trySchedules) (pc := 45) dX6_trySchedules_45 rfl (by decide) ?_
        refine q_aload_n (M := md_X6_trySchedules) (pc := 46) dX6_trySchedules_46 rfl (nn_Lp hl1) ?_
        refine q_iload (M := md_X6_trySchedules) (pc := 47) dX6_trySchedules_47 rfl ?_
        refine q_iload (M := md_X6_trySchedules) (pc := 49) dX6_trySchedules_49 rfl ?_
        refine e_callVi (M := md_X6_trySchedules) (pc := 51) (d' := 1) (av := [q_I l5, q_I l6]) (c := l1) h ml_6_25 im_X2_latency se_X2_latency dX6_trySchedules_51 (fun v he => ok_X2_latency hN hl1 he) rfl (is_Lp hN hl1) ⟨_, _, rfl⟩ (by decide) (Nat.le_of_ble_eq_true rfl) ⟨by decide, by decide⟩ rfl (fun v5 m6 h => ?_)
        refine e_callVi (M := md_X6_trySchedules) (pc := 54) (d' := 1) (av := [q_I v5]) (c := 73) h ml_6_29 im_X6_isBetter se_X6_isBetter dX6_trySchedules_54 (fun v he => ok_X6_isBetter hN  he) rfl (is_73 hN) ⟨_, _, rfl⟩ (by decide) (Nat.le_of_ble_eq_true rfl) ⟨by decide, by decide⟩ rfl (fun v7 m8 h => ?_)
        refine e_if_eq (M := md_X6_trySchedules) (pc := 57) (tgt := 71) h rfl dX6_trySchedules_57 (by decide) (fun h => ?_) (fun h => ?_)
        · exact q_weak (w_Sear_trySchedules_b71 hN hk4 hk14 hl1 h) ⟨Or.inr rfl, Or.inr rfl, Or.inr rfl, Or.inr rfl, Or.inr rfl, Or.inr rfl, Or.inr rfl, trivial⟩
        · refine q_aload_n (M := md_X6_trySchedules) (pc := 60) dX6_trySchedules_60 rfl (by decide) ?_
          refine q_iload (M := md_X6_trySchedules) (pc := 61) dX6_trySchedules_61 rfl ?_
          refine q_iload (M := md_X6_trySchedules) (pc := 63) dX6_trySchedules_63 rfl ?_
          refine q_iload_n (M := md_X6_trySchedules) (pc := 65) dX6_trySchedules_65 rfl ?_
          refine q_iload (M := md_X6_trySchedules) (pc := 66) dX6_trySchedules_66 rfl ?_
          refine e_callVv (M := md_X6_trySchedules) (pc := 68) (d' := 1) (av := [q_I l5, q_I l6, q_I l3, q_I l4]) (c := 73) h ml_6_33 im_X6_keep se_X6_keep dX6_trySchedules_68 (fun v he => ok_X6_keep hN  he) rfl (is_73 hN) ⟨_, _, rfl⟩ (by decide) (Nat.le_of_ble_eq_true rfl) ⟨by decide, by decide⟩ rfl (fun _ m9 h => ?_)
          exact q_weak (w_Sear_trySchedules_b71 hN hk4 hk14 hl1 h) ⟨Or.inr rfl, Or.inr rfl, Or.inr rfl, Or.inr rfl, Or.inr rfl, Or.inr rfl, Or.inr rfl, trivial⟩
def f_Sear_trySchedules_l14 (k4 : Int → Int → Int → Int → Int → q_Mem → q_Res) : Nat → Int → Int → Int → Int → Int → Int → q_Mem → q_Res
  | 0 => fun _ _ _ _ _ _ _ => none
  | n + 1 => fun l1 l2 l3 l4 l5 l6 m => f_Sear_trySchedules_b14 k4 (f_Sear_trySchedules_l14 k4 n) l1 l2 l3 l4 l5 l6 m
theorem w_Sear_trySchedules_l14 {k4 : Int → Int → Int → Int → Int → q_Mem → q_Res} {r : Int × q_Mem} {N : Nat} (hN : 81 ≤ N) (hk4 : ∀ (l1 l2 l3 l4 l5 : Int) (m : q_Mem), l1 ∈ (q_Lp : List Int) → k4 l1 l2 l3 l4 l5 m = some r → q_E md_X6_trySchedules 3 N (none) r m 4 [q_A 73, q_A l1, q_I l2, q_I l3, q_I l4, q_I l5, q_N] []) : ∀ (n : Nat) (l1 l2 l3 l4 l5 l6 : Int) (m : q_Mem), l1 ∈ (q_Lp : List Int) → f_Sear_trySchedules_l14 k4 n l1 l2 l3 l4 l5 l6 m = some r → q_E md_X6_trySchedules 3 N (none) r m 14 [q_A 73, q_A l1, q_I l2, q_I l3, q_I l4, q_I l5, q_I l6] [] := by
  intro n
  induction n with
  | zero => intro l1 l2 l3 l4 l5 l6 m hl1 h; exact q_no h
  | succ n ih =>
    intro l1 l2 l3 l4 l5 l6 m hl1 h
    exact w_Sear_trySchedules_b14 hN hk4 (fun l1 l2 l3 l4 l5 l6 m hl1 h => ih l1 l2 l3 l4 l5 l6 m hl1 h) hl1 h
def f_Sear_trySchedules_b4 (k4 : Int → Int → Int → Int → Int → q_Mem → q_Res) (l1 l2 l3 l4 l5 : Int) (m : q_Mem) : q_Res :=
  if q_w l2 < q_w l5 then (q_rt 0 m)
  else (f_Sear_trySchedules_l14 k4 q_F l1 l2 l3 l4 l5 (-l2) m)
set_option maxRecDepth 20000 in
theorem w_Sear_trySchedules_b4 {k4 : Int → Int → Int → Int → Int → q_Mem → q_Res} {l1 l2 l3 l4 l5 : Int} {r : Int × q_Mem} {m : q_Mem} {N : Nat} (hN : 81 ≤ N) (hk4 : ∀ (l1 l2 l3 l4 l5 : Int) (m : q_Mem), l1 ∈ (q_Lp : List Int) → k4 l1 l2 l3 l4 l5 m = some r → q_E md_X6_trySchedules 3 N (none) r m 4 [q_A 73, q_A l1, q_I l2, q_I l3, q_I l4, q_I l5, q_N] []) (hl1 : l1 ∈ (q_Lp : List Int)) (h : f_Sear_trySchedules_b4 k4 l1 l2 l3 l4 l5 m = some r) : q_E md_X6_trySchedules 3 N (none) r m 4 [q_A 73, q_A l1, q_I l2, q_I l3, q_I l4, q_I l5, q_N] [] := by
  unfold f_Sear_trySchedules_b4 at h
  refine q_iload (M := md_X6_trySchedules) (pc := 4) dX6_trySchedules_4 rfl ?_
  refine q_iload_n (M := md_X6_trySchedules) (pc := 6) dX6_trySchedules_6 rfl ?_
  refine e_icmp_gt (M := md_X6_trySchedules) (pc := 7) (tgt := 83) h rfl rfl dX6_trySchedules_7 (by decide) (fun h => ?_) (fun h => ?_)
  · exact e_vret (M := md_X6_trySchedules) (pc := 83) h rfl dX6_trySchedules_83
  · refine q_iload_n (M := md_X6_trySchedules) (pc := 10) dX6_trySchedules_10 rfl ?_
    refine q_ineg (M := md_X6_trySchedules) (pc := 11) dX6_trySchedules_11 ?_
    refine e_ist (M := md_X6_trySchedules) (pc := 12) (ls' := [q_A 73, q_A l1, q_I l2, q_I l3, q_I l4, q_I l5, q_I (-l2)]) dX6_trySchedules_12 (by decide) (q_pl rfl) rfl ?_
    exact q_weak (w_Sear_trySchedules_l14 hN hk4 q_F _ _ _ _ _ _ _ hl1 h) ⟨Or.inr rfl, Or.inr rfl, Or.inr rfl, Or.inr rfl, Or.inr rfl, Or.inr rfl, Or.inr rfl, trivial⟩
def f_Sear_trySchedules_l4 : Nat → Int → Int → Int → Int → Int → q_Mem → q_Res
  | 0 => fun _ _ _ _ _ _ => none
  | n + 1 => fun l1 l2 l3 l4 l5 m => f_Sear_trySchedules_b4 (f_Sear_trySchedules_l4 n) l1 l2 l3 l4 l5 m
theorem w_Sear_trySchedules_l4 {r : Int × q_Mem} {N : Nat} (hN : 81 ≤ N) : ∀ (n : Nat) (l1 l2 l3 l4 l5 : Int) (m : q_Mem), l1 ∈ (q_Lp : List Int) → f_Sear_trySchedules_l4 n l1 l2 l3 l4 l5 m = some r → q_E md_X6_trySchedules 3 N (none) r m 4 [q_A 73, q_A l1, q_I l2, q_I l3, q_I l4, q_I l5, q_N] [] := by
  intro n
  induction n with
  | zero => intro l1 l2 l3 l4 l5 m hl1 h; exact q_no h
  | succ n ih =>
    intro l1 l2 l3 l4 l5 m hl1 h
    exact w_Sear_trySchedules_b4 hN (fun l1 l2 l3 l4 l5 m hl1 h => ih l1 l2 l3 l4 l5 m hl1 h) hl1 h
def f_Sear_trySchedules (l1 l2 l3 l4 : Int) (m : q_Mem) : q_Res :=
  f_Sear_trySchedules_l4 q_F l1 l2 l3 l4 (-l2) m
set_option maxRecDepth 20000 in
theorem ok_X6_trySchedules {l1 l2 l3 l4 : Int} {r : Int × q_Mem} {m : q_Mem} {N : Nat} (hN : 81 ≤ N) (hl1 : l1 ∈ (q_Lp : List Int)) (h : f_Sear_trySchedules l1 l2 l3 l4 m = some r) : q_C md_X6_trySchedules (q_room 3) 0 0 [q_A 73, q_A l1, q_I l2, q_I l3, q_I l4] (q_g N) m (none, q_g N, r.2) := by
  refine q_ofR (by decide) 2 (ls := [q_A 73, q_A l1, q_I l2, q_I l3, q_I l4, q_N, q_N]) rfl (Nat.le_of_ble_eq_true rfl) ?_
  change q_E md_X6_trySchedules 3 N (none) r m 0 [q_A 73, q_A l1, q_I l2, q_I l3, q_I l4, q_N, q_N] []
  unfold f_Sear_trySchedules at h
  refine q_iload_n (M := md_X6_trySchedules) (pc := 0) dX6_trySchedules_0 rfl ?_
  refine q_ineg (M := md_X6_trySchedules) (pc := 1) dX6_trySchedules_1 ?_
  refine e_ist (M := md_X6_trySchedules) (pc := 2) (ls' := [q_A 73, q_A l1, q_I l2, q_I l3, q_I l4, q_I (-l2), q_N]) dX6_trySchedules_2 (by decide) (q_pl rfl) rfl ?_
  exact q_weak (w_Sear_trySchedules_l4 hN q_F _ _ _ _ _ _ hl1 h) ⟨Or.inr rfl, Or.inr rfl, Or.inr rfl, Or.inr rfl, Or.inr rfl, Or.inr rfl, Or.inl rfl, trivial⟩
def f_Sear_tryLines_b71 (k4 : Int → Int → Int → Int → Int → q_Mem → q_Res) (k14 : Int → Int → Int → Int → Int → Int → q_Mem → q_Res) (l1 l2 l3 l4 l5 l6 : Int) (m : q_Mem) : q_Res :=
  k14 l1 l2 l3 l4 l5 (l6 + 1) m
set_option maxRecDepth 20000 in
theorem w_Sear_tryLines_b71 {k4 : Int → Int → Int → Int → Int → q_Mem → q_Res} {k14 : Int → Int → Int → Int → Int → Int → q_Mem → q_Res} {l1 l2 l3 l4 l5 l6 : Int} {r : Int × q_Mem} {m : q_Mem} {N : Nat} (hN : 81 ≤ N) (hk4 : ∀ (l1 l2 l3 l4 l5 : Int) (m : q_Mem), l1 ∈ (q_Lp : List Int) → k4 l1 l2 l3 l4 l5 m = some r → q_E md_X6_tryLines 3 N (none) r m 4 [q_A 73, q_A l1, q_I l2, q_I l3, q_I l4, q_I l5, q_N] []) (hk14 : ∀ (l1 l2 l3 l4 l5 l6 : Int) (m : q_Mem), l1 ∈ (q_Lp : List Int) → k14 l1 l2 l3 l4 l5 l6 m = some r → q_E md_X6_tryLines 3 N (none) r m 14 [q_A 73, q_A l1, q_I l2, q_I l3, q_I l4, q_I l5, q_I l6] []) (hl1 : l1 ∈ (q_Lp : List Int)) (h : f_Sear_tryLines_b71 k4 k14 l1 l2 l3 l4 l5 l6 m = some r) : q_E md_X6_tryLines 3 N (none) r m 71 [q_A 73, q_A l1, q_I l2, q_I l3, q_I l4, q_I l5, q_I l6] [] := by
  unfold f_Sear_tryLines_b71 at h
  refine e_inc (M := md_X6_tryLines) (pc := 71) (x := l6) (ls' := [q_A 73, q_A l1, q_I l2, q_I l3, q_I l4, q_I l5, q_I (l6 + 1)]) dX6_tryLines_71 rfl (by decide) (q_pl rfl) rfl ?_
  refine q_goto (M := md_X6_tryLines) (pc := 74) (tgt := 14) dX6_tryLines_74 (by decide) ?_
  exact q_weak (hk14 _ _ _ _ _ _ _ hl1 h) ⟨Or.inr rfl, Or.inr rfl, Or.inr rfl, Or.inr rfl, Or.inr rfl, Or.inr rfl, Or.inr rfl, trivial⟩
def f_Sear_tryLines_b14 (k4 : Int → Int → Int → Int → Int → q_Mem → q_Res) (k14 : Int → Int → Int → Int → Int → Int → q_Mem → q_Res) (l1 l2 l3 l4 l5 l6 : Int) (m : q_Mem) : q_Res :=
  if 3 < q_w l6 then (k4 l1 l2 l3 l4 (l5 + 1) m)
  else (q_bd (f_PG_isLine l5 l6 m) fun v1 m2 =>
  if q_w v1 = 0 then (f_Sear_tryLines_b71 k4 k14 l1 l2 l3 l4 l5 l6 m2)
  else (q_bd (f_Loop_clashes l1 l2 l3 l5 l6 m2) fun v3 m4 =>
  if q_w v3 = 0 then (q_bd (f_Loop_cells l1 l5 l6 m4) fun v5 m6 =>
  q_bd (f_Sear_isBetter (l4 * v5) m6) fun v7 m8 =>
  if q_w v7 = 0 then (f_Sear_tryLines_b71 k4 k14 l1 l2 l3 l4 l5 l6 m8)
  else (q_bd (f_Sear_keep l2 l3 l5 l6 m8) fun _ m9 =>
  f_Sear_tryLines_b71 k4 k14 l1 l2 l3 l4 l5 l6 m9))
  else (f_Sear_tryLines_b71 k4 k14 l1 l2 l3 l4 l5 l6 m4)))
set_option maxRecDepth 20000 in
theorem w_Sear_tryLines_b14 {k4 : Int → Int → Int → Int → Int → q_Mem → q_Res} {k14 : Int → Int → Int → Int → Int → Int → q_Mem → q_Res} {l1 l2 l3 l4 l5 l6 : Int} {r : Int × q_Mem} {m : q_Mem} {N : Nat} (hN : 81 ≤ N) (hk4 : ∀ (l1 l2 l3 l4 l5 : Int) (m : q_Mem), l1 ∈ (q_Lp : List Int) → k4 l1 l2 l3 l4 l5 m = some r → q_E md_X6_tryLines 3 N (none) r m 4 [q_A 73, q_A l1, q_I l2, q_I l3, q_I l4, q_I l5, q_N] []) (hk14 : ∀ (l1 l2 l3 l4 l5 l6 : Int) (m : q_Mem), l1 ∈ (q_Lp : List Int) → k14 l1 l2 l3 l4 l5 l6 m = some r → q_E md_X6_tryLines 3 N (none) r m 14 [q_A 73, q_A l1, q_I l2, q_I l3, q_I l4, q_I l5, q_I l6] []) (hl1 : l1 ∈ (q_Lp : List Int)) (h : f_Sear_tryLines_b14 k4 k14 l1 l2 l3 l4 l5 l6 m = some r) : q_E md_X6_tryLines 3 N (none) r m 14 [q_A 73, q_A l1, q_I l2, q_I l3, q_I l4, q_I l5, q_I l6] [] := by
  unfold f_Sear_tryLines_b14 at h
  refine q_iload (M := md_X6_tryLines) (pc := 14) dX6_tryLines_14 rfl ?_
  refine q_iconst (M := md_X6_tryLines) (pc := 16) dX6_tryLines_16 ?_
  refine e_icmp_gt (M := md_X6_tryLines) (pc := 17) (tgt := 77) h rfl (q_wlit rfl) dX6_tryLines_17 (by decide) (fun h => ?_) (fun h => ?_)
  · refine e_inc (M := md_X6_tryLines) (pc := 77) (x := l5) (ls' := [q_A 73, q_A l1, q_I l2, q_I l3, q_I l4, q_I (l5 + 1), q_I l6]) dX6_tryLines_77 rfl (by decide) (q_pl rfl) rfl ?_
    refine q_goto (M := md_X6_tryLines) (pc := 80) (tgt := 4) dX6_tryLines_80 (by decide) ?_
    exact q_weak (hk4 _ _ _ _ _ _ hl1 h) ⟨Or.inr rfl, Or.inr rfl, Or.inr rfl, Or.inr rfl, Or.inr rfl, Or.inr rfl, Or.inl rfl, trivial⟩
  · refine q_iload (M := md_X6_tryLines) (pc := 20) dX6_tryLines_20 rfl ?_
    refine q_iload (M := md_X6_tryLines) (pc := 22) dX6_tryLines_22 rfl ?_
    refine e_callSNi (M := md_X6_tryLines) (pc := 24) (d' := 2) (M' := md_X10_isLine) (av := [q_I l5, q_I l6]) h nl_6_37 sm_X10_isLine dX6_tryLines_24 (fun v he => ok_X10_isLine hN  he) rfl (Nat.le_of_ble_eq_true rfl) ⟨by decide, by decide⟩ rfl (fun v1 m2 h => ?_)
    refine e_if_eq (M := md_X6_tryLines) (pc := 27) (tgt := 71) h rfl dX6_tryLines_27 (by decide) (fun h => ?_) (fun h => ?_)
    · exact q_weak (w_Sear_tryLines_b71 hN hk4 hk14 hl1 h) ⟨Or.inr rfl, Or.inr rfl, Or.inr rfl, Or.inr rfl, Or.inr rfl, Or.inr rfl, Or.inr rfl, trivial⟩
    · refine q_aload_n (M := md_X6_tryLines) (pc := 30) dX6_tryLines_30 rfl (nn_Lp hl1) ?_
      refine q_iload_n (M := md_X6_tryLines) (pc := 31) dX6_tryLines_31 rfl ?_
      refine q_iload_n (M := md_X6_tryLines) (pc := 32) dX6_tryLines_32 rfl ?_
      refine q_iload (M := md_X6_tryLines) (pc := 33) dX6_tryLines_33 rfl ?_
      refine q_iload (M := md_X6_tryLines) (pc := 35) dX6_tryLines_35 rfl ?_
      refine e_callVi (M := md_X6_tryLines) (pc := 37) (d' := 2) (av := [q_I l2, q_I l3, q_I l5, q_I l6]) (c := l1) h ml_6_21 im_X2_clashes se_X2_clashes dX6_tryLines_37 (fun v he => ok_X2_clashes hN hl1 he) rfl (is_Lp hN hl1) ⟨_, _, rfl⟩ (by decide) (Nat.le_of_ble_eq_true rfl) ⟨by decide, by decide⟩ rfl (fun v3 m4 h => ?_)
      refine e_if_ne (M := md_X6_tryLines) (pc := 40) (tgt := 71) h rfl dX6_tryLines_40 (by decide) (fun h => ?_) (fun h => ?_)
      · exact q_weak (w_Sear_tryLines_b71 hN hk4 hk14 hl1 h) ⟨Or.inr rfl, Or.inr rfl, Or.inr rfl, Or.inr rfl, Or.inr rfl, Or.inr rfl, Or.inr rfl, trivial⟩
      · refine q_aload_n (M := md_X6_tryLines) (pc := 43) dX6_tryLines_43 rfl (by decide) ?_
        refine q_iload (M := md_X6_tryLines) (pc := 44) dX6_tryLines_44 rfl ?_
        refine q_aload_n (M := md_X6_tryLines) (pc := 46) dX6_tryLines_46 rfl (nn_Lp hl1) ?_
        refine q_iload (M := md_X6_tryLines) (pc := 47) dX6_tryLines_47 rfl ?_
        refine q_iload (M := md_X6_tryLines) (pc := 49) dX6_tryLines_49 rfl ?_
        refine e_callVi (M := md_X6_tryLines) (pc := 51) (d' := 2) (av := [q_I l5, q_I l6]) (c := l1) h ml_6_40 im_X2_cells se_X2_cells dX6_tryLines_51 (fun v he => ok_X2_cells hN hl1 he) rfl (is_Lp hN hl1) ⟨_, _, rfl⟩ (by decide) (Nat.le_of_ble_eq_true rfl) ⟨by decide, by decide⟩ rfl (fun v5 m6 h => ?_)
        refine q_imul (M := md_X6_tryLines) (pc := 54) dX6_tryLines_54 ?_
        refine e_callVi (M := md_X6_tryLines) (pc := 55) (d' := 1) (av := [q_I (l4 * v5)]) (c := 73) h ml_6_29 im_X6_isBetter se_X6_isBetter dX6_tryLines_55 (fun v he => ok_X6_isBetter hN  he) rfl (is_73 hN) ⟨_, _, rfl⟩ (by decide) (Nat.le_of_ble_eq_true rfl) ⟨by decide, by decide⟩ rfl (fun v7 m8 h => ?_)
        refine e_if_eq (M := md_X6_tryLines) (pc := 58) (tgt := 71) h rfl dX6_tryLines_58 (by decide) (fun h => ?_) (fun h => ?_)
        · exact q_weak (w_Sear_tryLines_b71 hN hk4 hk14 hl1 h) ⟨Or.inr rfl, Or.inr rfl, Or.inr rfl, Or.inr rfl, Or.inr rfl, Or.inr rfl, Or.inr rfl, trivial⟩
        · refine q_aload_n (M := md_X6_tryLines) (pc := 61) dX6_tryLines_61 rfl (by decide) ?_
          refine q_iload_n (M := md_X6_tryLines) (pc := 62) dX6_tryLines_62 rfl ?_
          refine q_iload_n (M := md_X6_tryLines) (pc := 63) dX6_tryLines_63 rfl ?_
          refine q_iload (M := md_X6_tryLines) (pc := 64) dX6_tryLines_64 rfl ?_
          refine q_iload (M := md_X6_tryLines) (pc := 66) dX6_tryLines_66 rfl ?_
          refine e_callVv (M := md_X6_tryLines) (pc := 68) (d' := 1) (av := [q_I l2, q_I l3, q_I l5, q_I l6]) (c := 73) h ml_6_33 im_X6_keep se_X6_keep dX6_tryLines_68 (fun v he => ok_X6_keep hN  he) rfl (is_73 hN) ⟨_, _, rfl⟩ (by decide) (Nat.le_of_ble_eq_true rfl) ⟨by decide, by decide⟩ rfl (fun _ m9 h => ?_)
          exact q_weak (w_Sear_tryLines_b71 hN hk4 hk14 hl1 h) ⟨Or.inr rfl, Or.inr rfl, Or.inr rfl, Or.inr rfl, Or.inr rfl, Or.inr rfl, Or.inr rfl, trivial⟩
def f_Sear_tryLines_l14 (k4 : Int → Int → Int → Int → Int → q_Mem → q_Res) : Nat → Int → Int → Int → Int → Int → Int → q_Mem → q_Res
  | 0 => fun _ _ _ _ _ _ _ => none
  | n + 1 => fun l1 l2 l3 l4 l5 l6 m => f_Sear_tryLines_b14 k4 (f_Sear_tryLines_l14 k4 n) l1 l2 l3 l4 l5 l6 m
theorem w_Sear_tryLines_l14 {k4 : Int → Int → Int → Int → Int → q_Mem → q_Res} {r : Int × q_Mem} {N : Nat} (hN : 81 ≤ N) (hk4 : ∀ (l1 l2 l3 l4 l5 : Int) (m : q_Mem), l1 ∈ (q_Lp : List Int) → k4 l1 l2 l3 l4 l5 m = some r → q_E md_X6_tryLines 3 N (none) r m 4 [q_A 73, q_A l1, q_I l2, q_I l3, q_I l4, q_I l5, q_N] []) : ∀ (n : Nat) (l1 l2 l3 l4 l5 l6 : Int) (m : q_Mem), l1 ∈ (q_Lp : List Int) → f_Sear_tryLines_l14 k4 n l1 l2 l3 l4 l5 l6 m = some r → q_E md_X6_tryLines 3 N (none) r m 14 [q_A 73, q_A l1, q_I l2, q_I l3, q_I l4, q_I l5, q_I l6] [] := by
  intro n
  induction n with
  | zero => intro l1 l2 l3 l4 l5 l6 m hl1 h; exact q_no h
  | succ n ih =>
    intro l1 l2 l3 l4 l5 l6 m hl1 h
    exact w_Sear_tryLines_b14 hN hk4 (fun l1 l2 l3 l4 l5 l6 m hl1 h => ih l1 l2 l3 l4 l5 l6 m hl1 h) hl1 h
def f_Sear_tryLines_b4 (k4 : Int → Int → Int → Int → Int → q_Mem → q_Res) (l1 l2 l3 l4 l5 : Int) (m : q_Mem) : q_Res :=
  if 3 < q_w l5 then (q_rt 0 m)
  else (f_Sear_tryLines_l14 k4 q_F l1 l2 l3 l4 l5 (-3) m)
set_option maxRecDepth 20000 in
theorem w_Sear_tryLines_b4 {k4 : Int → Int → Int → Int → Int → q_Mem → q_Res} {l1 l2 l3 l4 l5 : Int} {r : Int × q_Mem} {m : q_Mem} {N : Nat} (hN : 81 ≤ N) (hk4 : ∀ (l1 l2 l3 l4 l5 : Int) (m : q_Mem), l1 ∈ (q_Lp : List Int) → k4 l1 l2 l3 l4 l5 m = some r → q_E md_X6_tryLines 3 N (none) r m 4 [q_A 73, q_A l1, q_I l2, q_I l3, q_I l4, q_I l5, q_N] []) (hl1 : l1 ∈ (q_Lp : List Int)) (h : f_Sear_tryLines_b4 k4 l1 l2 l3 l4 l5 m = some r) : q_E md_X6_tryLines 3 N (none) r m 4 [q_A 73, q_A l1, q_I l2, q_I l3, q_I l4, q_I l5, q_N] [] := by
  unfold f_Sear_tryLines_b4 at h
  refine q_iload (M := md_X6_tryLines) (pc := 4) dX6_tryLines_4 rfl ?_
  refine q_iconst (M := md_X6_tryLines) (pc := 6) dX6_tryLines_6 ?_
  refine e_icmp_gt (M := md_X6_tryLines) (pc := 7) (tgt := 83) h rfl (q_wlit rfl) dX6_tryLines_7 (by decide) (fun h => ?_) (fun h => ?_)
  · exact e_vret (M := md_X6_tryLines) (pc := 83) h rfl dX6_tryLines_83
  · refine q_bipush (M := md_X6_tryLines) (pc := 10) (x := -3) dX6_tryLines_10 (by decide) ?_
    refine e_ist (M := md_X6_tryLines) (pc := 12) (ls' := [q_A 73, q_A l1, q_I l2, q_I l3, q_I l4, q_I l5, q_I (-3)]) dX6_tryLines_12 (by decide) (q_pl rfl) rfl ?_
    exact q_weak (w_Sear_tryLines_l14 hN hk4 q_F _ _ _ _ _ _ _ hl1 h) ⟨Or.inr rfl, Or.inr rfl, Or.inr rfl, Or.inr rfl, Or.inr rfl, Or.inr rfl, Or.inr rfl, trivial⟩
def f_Sear_tryLines_l4 : Nat → Int → Int → Int → Int → Int → q_Mem → q_Res
  | 0 => fun _ _ _ _ _ _ => none
  | n + 1 => fun l1 l2 l3 l4 l5 m => f_Sear_tryLines_b4 (f_Sear_tryLines_l4 n) l1 l2 l3 l4 l5 m
theorem w_Sear_tryLines_l4 {r : Int × q_Mem} {N : Nat} (hN : 81 ≤ N) : ∀ (n : Nat) (l1 l2 l3 l4 l5 : Int) (m : q_Mem), l1 ∈ (q_Lp : List Int) → f_Sear_tryLines_l4 n l1 l2 l3 l4 l5 m = some r → q_E md_X6_tryLines 3 N (none) r m 4 [q_A 73, q_A l1, q_I l2, q_I l3, q_I l4, q_I l5, q_N] [] := by
  intro n
  induction n with
  | zero => intro l1 l2 l3 l4 l5 m hl1 h; exact q_no h
  | succ n ih =>
    intro l1 l2 l3 l4 l5 m hl1 h
    exact w_Sear_tryLines_b4 hN (fun l1 l2 l3 l4 l5 m hl1 h => ih l1 l2 l3 l4 l5 m hl1 h) hl1 h
def f_Sear_tryLines (l1 l2 l3 l4 : Int) (m : q_Mem) : q_Res :=
  f_Sear_tryLines_l4 q_F l1 l2 l3 l4 (-3) m
set_option maxRecDepth 20000 in
theorem ok_X6_tryLines {l1 l2 l3 l4 : Int} {r : Int × q_Mem} {m : q_Mem} {N : Nat} (hN : 81 ≤ N) (hl1 : l1 ∈ (q_Lp : List Int)) (h : f_Sear_tryLines l1 l2 l3 l4 m = some r) : q_C md_X6_tryLines (q_room 3) 0 0 [q_A 73, q_A l1, q_I l2, q_I l3, q_I l4] (q_g N) m (none, q_g N, r.2) := by
  refine q_ofR (by decide) 2 (ls := [q_A 73, q_A l1, q_I l2, q_I l3, q_I l4, q_N, q_N]) rfl (Nat.le_of_ble_eq_true rfl) ?_
  change q_E md_X6_tryLines 3 N (none) r m 0 [q_A 73, q_A l1, q_I l2, q_I l3, q_I l4, q_N, q_N] []
  unfold f_Sear_tryLines at h
  refine q_bipush (M := md_X6_tryLines) (pc := 0) (x := -3) dX6_tryLines_0 (by decide) ?_
  refine e_ist (M := md_X6_tryLines) (pc := 2) (ls' := [q_A 73, q_A l1, q_I l2, q_I l3, q_I l4, q_I (-3), q_N]) dX6_tryLines_2 (by decide) (q_pl rfl) rfl ?_
  exact q_weak (w_Sear_tryLines_l4 hN q_F _ _ _ _ _ _ hl1 h) ⟨Or.inr rfl, Or.inr rfl, Or.inr rfl, Or.inr rfl, Or.inr rfl, Or.inr rfl, Or.inl rfl, trivial⟩
def f_Sear_tryPairs_b43 (k3 : Int → Int → Int → q_Mem → q_Res) (k12 : Int → Int → Int → Int → q_Mem → q_Res) (l1 l2 l3 l4 : Int) (m : q_Mem) : q_Res :=
  k12 l1 l2 l3 (l4 + 1) m
set_option maxRecDepth 20000 in
theorem w_Sear_tryPairs_b43 {k3 : Int → Int → Int → q_Mem → q_Res} {k12 : Int → Int → Int → Int → q_Mem → q_Res} {l1 l2 l3 l4 : Int} {r : Int × q_Mem} {m : q_Mem} {N : Nat} (hN : 81 ≤ N) (hk3 : ∀ (l1 l2 l3 : Int) (m : q_Mem), l1 ∈ (q_Lp : List Int) → k3 l1 l2 l3 m = some r → q_E md_X6_tryPairs 4 N (none) r m 3 [q_A 73, q_A l1, q_I l2, q_I l3, q_N] []) (hk12 : ∀ (l1 l2 l3 l4 : Int) (m : q_Mem), l1 ∈ (q_Lp : List Int) → k12 l1 l2 l3 l4 m = some r → q_E md_X6_tryPairs 4 N (none) r m 12 [q_A 73, q_A l1, q_I l2, q_I l3, q_I l4] []) (hl1 : l1 ∈ (q_Lp : List Int)) (h : f_Sear_tryPairs_b43 k3 k12 l1 l2 l3 l4 m = some r) : q_E md_X6_tryPairs 4 N (none) r m 43 [q_A 73, q_A l1, q_I l2, q_I l3, q_I l4] [] := by
  unfold f_Sear_tryPairs_b43 at h
  refine e_inc (M := md_X6_tryPairs) (pc := 43) (x := l4) (ls' := [q_A 73, q_A l1, q_I l2, q_I l3, q_I (l4 + 1)]) dX6_tryPairs_43 rfl (by decide) (q_pl rfl) rfl ?_
  refine q_goto (M := md_X6_tryPairs) (pc := 46) (tgt := 12) dX6_tryPairs_46 (by decide) ?_
  exact q_weak (hk12 _ _ _ _ _ hl1 h) ⟨Or.inr rfl, Or.inr rfl, Or.inr rfl, Or.inr rfl, Or.inr rfl, trivial⟩
def f_Sear_tryPairs_b12 (k3 : Int → Int → Int → q_Mem → q_Res) (k12 : Int → Int → Int → Int → q_Mem → q_Res) (l1 l2 l3 l4 : Int) (m : q_Mem) : q_Res :=
  if q_w l2 < q_w l4 then (k3 l1 l2 (l3 + 1) m)
  else (q_bd (f_Loop_isLawful l1 l3 l4 m) fun v1 m2 =>
  if q_w v1 = 0 then (f_Sear_tryPairs_b43 k3 k12 l1 l2 l3 l4 m2)
  else (q_bd (f_Loop_latency l1 l3 l4 m2) fun v3 m4 =>
  q_bd (f_Sear_tryLines l1 l3 l4 v3 m4) fun _ m5 =>
  f_Sear_tryPairs_b43 k3 k12 l1 l2 l3 l4 m5))
set_option maxRecDepth 20000 in
theorem w_Sear_tryPairs_b12 {k3 : Int → Int → Int → q_Mem → q_Res} {k12 : Int → Int → Int → Int → q_Mem → q_Res} {l1 l2 l3 l4 : Int} {r : Int × q_Mem} {m : q_Mem} {N : Nat} (hN : 81 ≤ N) (hk3 : ∀ (l1 l2 l3 : Int) (m : q_Mem), l1 ∈ (q_Lp : List Int) → k3 l1 l2 l3 m = some r → q_E md_X6_tryPairs 4 N (none) r m 3 [q_A 73, q_A l1, q_I l2, q_I l3, q_N] []) (hk12 : ∀ (l1 l2 l3 l4 : Int) (m : q_Mem), l1 ∈ (q_Lp : List Int) → k12 l1 l2 l3 l4 m = some r → q_E md_X6_tryPairs 4 N (none) r m 12 [q_A 73, q_A l1, q_I l2, q_I l3, q_I l4] []) (hl1 : l1 ∈ (q_Lp : List Int)) (h : f_Sear_tryPairs_b12 k3 k12 l1 l2 l3 l4 m = some r) : q_E md_X6_tryPairs 4 N (none) r m 12 [q_A 73, q_A l1, q_I l2, q_I l3, q_I l4] [] := by
  unfold f_Sear_tryPairs_b12 at h
  refine q_iload (M := md_X6_tryPairs) (pc := 12) dX6_tryPairs_12 rfl ?_
  refine q_iload_n (M := md_X6_tryPairs) (pc := 14) dX6_tryPairs_14 rfl ?_
  refine e_icmp_gt (M := md_X6_tryPairs) (pc := 15) (tgt := 49) h rfl rfl dX6_tryPairs_15 (by decide) (fun h => ?_) (fun h => ?_)
  · refine e_inc (M := md_X6_tryPairs) (pc := 49) (x := l3) (ls' := [q_A 73, q_A l1, q_I l2, q_I (l3 + 1), q_I l4]) dX6_tryPairs_49 rfl (by decide) (q_pl rfl) rfl ?_
    refine q_goto (M := md_X6_tryPairs) (pc := 52) (tgt := 3) dX6_tryPairs_52 (by decide) ?_
    exact q_weak (hk3 _ _ _ _ hl1 h) ⟨Or.inr rfl, Or.inr rfl, Or.inr rfl, Or.inr rfl, Or.inl rfl, trivial⟩
  · refine q_aload_n (M := md_X6_tryPairs) (pc := 18) dX6_tryPairs_18 rfl (nn_Lp hl1) ?_
    refine q_iload_n (M := md_X6_tryPairs) (pc := 19) dX6_tryPairs_19 rfl ?_
    refine q_iload (M := md_X6_tryPairs) (pc := 20) dX6_tryPairs_20 rfl ?_
    refine e_callVi (M := md_X6_tryPairs) (pc := 22) (d' := 1) (av := [q_I l3, q_I l4]) (c := l1) h ml_6_15 im_X2_isLawful se_X2_isLawful dX6_tryPairs_22 (fun v he => ok_X2_isLawful hN hl1 he) rfl (is_Lp hN hl1) ⟨_, _, rfl⟩ (by decide) (Nat.le_of_ble_eq_true rfl) ⟨by decide, by decide⟩ rfl (fun v1 m2 h => ?_)
    refine e_if_eq (M := md_X6_tryPairs) (pc := 25) (tgt := 43) h rfl dX6_tryPairs_25 (by decide) (fun h => ?_) (fun h => ?_)
    · exact q_weak (w_Sear_tryPairs_b43 hN hk3 hk12 hl1 h) ⟨Or.inr rfl, Or.inr rfl, Or.inr rfl, Or.inr rfl, Or.inr rfl, trivial⟩
    · refine q_aload_n (M := md_X6_tryPairs) (pc := 28) dX6_tryPairs_28 rfl (by decide) ?_
      refine q_aload_n (M := md_X6_tryPairs) (pc := 29) dX6_tryPairs_29 rfl (nn_Lp hl1) ?_
      refine q_iload_n (M := md_X6_tryPairs) (pc := 30) dX6_tryPairs_30 rfl ?_
      refine q_iload (M := md_X6_tryPairs) (pc := 31) dX6_tryPairs_31 rfl ?_
      refine q_aload_n (M := md_X6_tryPairs) (pc := 33) dX6_tryPairs_33 rfl (nn_Lp hl1) ?_
      refine q_iload_n (M := md_X6_tryPairs) (pc := 34) dX6_tryPairs_34 rfl ?_
      refine q_iload (M := md_X6_tryPairs) (pc := 35) dX6_tryPairs_35 rfl ?_
      refine e_callVi (M := md_X6_tryPairs) (pc := 37) (d' := 1) (av := [q_I l3, q_I l4]) (c := l1) h ml_6_25 im_X2_latency se_X2_latency dX6_tryPairs_37 (fun v he => ok_X2_latency hN hl1 he) rfl (is_Lp hN hl1) ⟨_, _, rfl⟩ (by decide) (Nat.le_of_ble_eq_true rfl) ⟨by decide, by decide⟩ rfl (fun v3 m4 h => ?_)
      refine e_callVv (M := md_X6_tryPairs) (pc := 40) (d' := 3) (av := [q_A l1, q_I l3, q_I l4, q_I v3]) (c := 73) h ml_6_43 im_X6_tryLines se_X6_tryLines dX6_tryPairs_40 (fun v he => ok_X6_tryLines hN hl1 he) rfl (is_73 hN) ⟨_, _, rfl⟩ (by decide) (Nat.le_of_ble_eq_true rfl) ⟨by decide, by decide⟩ rfl (fun _ m5 h => ?_)
      exact q_weak (w_Sear_tryPairs_b43 hN hk3 hk12 hl1 h) ⟨Or.inr rfl, Or.inr rfl, Or.inr rfl, Or.inr rfl, Or.inr rfl, trivial⟩
def f_Sear_tryPairs_l12 (k3 : Int → Int → Int → q_Mem → q_Res) : Nat → Int → Int → Int → Int → q_Mem → q_Res
  | 0 => fun _ _ _ _ _ => none
  | n + 1 => fun l1 l2 l3 l4 m => f_Sear_tryPairs_b12 k3 (f_Sear_tryPairs_l12 k3 n) l1 l2 l3 l4 m
theorem w_Sear_tryPairs_l12 {k3 : Int → Int → Int → q_Mem → q_Res} {r : Int × q_Mem} {N : Nat} (hN : 81 ≤ N) (hk3 : ∀ (l1 l2 l3 : Int) (m : q_Mem), l1 ∈ (q_Lp : List Int) → k3 l1 l2 l3 m = some r → q_E md_X6_tryPairs 4 N (none) r m 3 [q_A 73, q_A l1, q_I l2, q_I l3, q_N] []) : ∀ (n : Nat) (l1 l2 l3 l4 : Int) (m : q_Mem), l1 ∈ (q_Lp : List Int) → f_Sear_tryPairs_l12 k3 n l1 l2 l3 l4 m = some r → q_E md_X6_tryPairs 4 N (none) r m 12 [q_A 73, q_A l1, q_I l2, q_I l3, q_I l4] [] := by
  intro n
  induction n with
  | zero => intro l1 l2 l3 l4 m hl1 h; exact q_no h
  | succ n ih =>
    intro l1 l2 l3 l4 m hl1 h
    exact w_Sear_tryPairs_b12 hN hk3 (fun l1 l2 l3 l4 m hl1 h => ih l1 l2 l3 l4 m hl1 h) hl1 h
def f_Sear_tryPairs_b3 (k3 : Int → Int → Int → q_Mem → q_Res) (l1 l2 l3 : Int) (m : q_Mem) : q_Res :=
  if q_w l2 < q_w l3 then (q_rt 0 m)
  else (f_Sear_tryPairs_l12 k3 q_F l1 l2 l3 (-l2) m)
set_option maxRecDepth 20000 in
theorem w_Sear_tryPairs_b3 {k3 : Int → Int → Int → q_Mem → q_Res} {l1 l2 l3 : Int} {r : Int × q_Mem} {m : q_Mem} {N : Nat} (hN : 81 ≤ N) (hk3 : ∀ (l1 l2 l3 : Int) (m : q_Mem), l1 ∈ (q_Lp : List Int) → k3 l1 l2 l3 m = some r → q_E md_X6_tryPairs 4 N (none) r m 3 [q_A 73, q_A l1, q_I l2, q_I l3, q_N] []) (hl1 : l1 ∈ (q_Lp : List Int)) (h : f_Sear_tryPairs_b3 k3 l1 l2 l3 m = some r) : q_E md_X6_tryPairs 4 N (none) r m 3 [q_A 73, q_A l1, q_I l2, q_I l3, q_N] [] := by
  unfold f_Sear_tryPairs_b3 at h
  refine q_iload_n (M := md_X6_tryPairs) (pc := 3) dX6_tryPairs_3 rfl ?_
  refine q_iload_n (M := md_X6_tryPairs) (pc := 4) dX6_tryPairs_4 rfl ?_
  refine e_icmp_gt (M := md_X6_tryPairs) (pc := 5) (tgt := 55) h rfl rfl dX6_tryPairs_5 (by decide) (fun h => ?_) (fun h => ?_)
  · exact e_vret (M := md_X6_tryPairs) (pc := 55) h rfl dX6_tryPairs_55
  · refine q_iload_n (M := md_X6_tryPairs) (pc := 8) dX6_tryPairs_8 rfl ?_
    refine q_ineg (M := md_X6_tryPairs) (pc := 9) dX6_tryPairs_9 ?_
    refine e_ist (M := md_X6_tryPairs) (pc := 10) (ls' := [q_A 73, q_A l1, q_I l2, q_I l3, q_I (-l2)]) dX6_tryPairs_10 (by decide) (q_pl rfl) rfl ?_
    exact q_weak (w_Sear_tryPairs_l12 hN hk3 q_F _ _ _ _ _ hl1 h) ⟨Or.inr rfl, Or.inr rfl, Or.inr rfl, Or.inr rfl, Or.inr rfl, trivial⟩
def f_Sear_tryPairs_l3 : Nat → Int → Int → Int → q_Mem → q_Res
  | 0 => fun _ _ _ _ => none
  | n + 1 => fun l1 l2 l3 m => f_Sear_tryPairs_b3 (f_Sear_tryPairs_l3 n) l1 l2 l3 m
theorem w_Sear_tryPairs_l3 {r : Int × q_Mem} {N : Nat} (hN : 81 ≤ N) : ∀ (n : Nat) (l1 l2 l3 : Int) (m : q_Mem), l1 ∈ (q_Lp : List Int) → f_Sear_tryPairs_l3 n l1 l2 l3 m = some r → q_E md_X6_tryPairs 4 N (none) r m 3 [q_A 73, q_A l1, q_I l2, q_I l3, q_N] [] := by
  intro n
  induction n with
  | zero => intro l1 l2 l3 m hl1 h; exact q_no h
  | succ n ih =>
    intro l1 l2 l3 m hl1 h
    exact w_Sear_tryPairs_b3 hN (fun l1 l2 l3 m hl1 h => ih l1 l2 l3 m hl1 h) hl1 h
def f_Sear_tryPairs (l1 l2 : Int) (m : q_Mem) : q_Res :=
  f_Sear_tryPairs_l3 q_F l1 l2 (-l2) m
set_option maxRecDepth 20000 in
theorem ok_X6_tryPairs {l1 l2 : Int} {r : Int × q_Mem} {m : q_Mem} {N : Nat} (hN : 81 ≤ N) (hl1 : l1 ∈ (q_Lp : List Int)) (h : f_Sear_tryPairs l1 l2 m = some r) : q_C md_X6_tryPairs (q_room 4) 0 0 [q_A 73, q_A l1, q_I l2] (q_g N) m (none, q_g N, r.2) := by
  refine q_ofR (by decide) 2 (ls := [q_A 73, q_A l1, q_I l2, q_N, q_N]) rfl (Nat.le_of_ble_eq_true rfl) ?_
  change q_E md_X6_tryPairs 4 N (none) r m 0 [q_A 73, q_A l1, q_I l2, q_N, q_N] []
  unfold f_Sear_tryPairs at h
  refine q_iload_n (M := md_X6_tryPairs) (pc := 0) dX6_tryPairs_0 rfl ?_
  refine q_ineg (M := md_X6_tryPairs) (pc := 1) dX6_tryPairs_1 ?_
  refine e_ist_n (M := md_X6_tryPairs) (pc := 2) (ls' := [q_A 73, q_A l1, q_I l2, q_I (-l2), q_N]) dX6_tryPairs_2 (by decide) (q_pl rfl) rfl ?_
  exact q_weak (w_Sear_tryPairs_l3 hN q_F _ _ _ _ hl1 h) ⟨Or.inr rfl, Or.inr rfl, Or.inr rfl, Or.inr rfl, Or.inl rfl, trivial⟩
def f_Tape_put_b3 (k3 : Int → Int → q_Mem → q_Res) (l1 l2 : Int) (m : q_Mem) : q_Res :=
  if q_w l2 < 0 then (q_rt 0 m)
  else (if 800 ≤ q_w (m 1 1) then (q_rt 0 m)
  else (q_wr m 2 800 (m 1 1) (q_i2b (q_i2b (q_ushr l1 l2))) fun m1 =>
  q_pf m1 1 1 ((m1 1 1) + 1) fun m2 =>
  k3 l1 (l2 + (-8)) m2))
set_option maxRecDepth 20000 in
theorem w_Tape_put_b3 {k3 : Int → Int → q_Mem → q_Res} {l1 l2 : Int} {r : Int × q_Mem} {m : q_Mem} {N : Nat} (hN : 81 ≤ N) (hk3 : ∀ (l1 l2 : Int) (m : q_Mem), k3 l1 l2 m = some r → q_E md_X7_put 1 N (none) r m 3 [q_A 1, q_I l1, q_I l2] []) (h : f_Tape_put_b3 k3 l1 l2 m = some r) : q_E md_X7_put 1 N (none) r m 3 [q_A 1, q_I l1, q_I l2] [] := by
  unfold f_Tape_put_b3 at h
  refine q_iload_n (M := md_X7_put) (pc := 3) dX7_put_3 rfl ?_
  refine e_if_lt (M := md_X7_put) (pc := 4) (tgt := 46) h rfl dX7_put_4 (by decide) (fun h => ?_) (fun h => ?_)
  · exact e_vret (M := md_X7_put) (pc := 46) h rfl dX7_put_46
  · refine q_aload_n (M := md_X7_put) (pc := 7) dX7_put_7 rfl (by decide) ?_
    refine e_gI (M := md_X7_put) (pc := 8) (v := m 1 1) fl_7_13 dX7_put_8 (is_1 hN) rfl ?_
    refine q_sipush (M := md_X7_put) (pc := 11) (x := 800) dX7_put_11 (by decide) ?_
    refine e_icmp_ge (M := md_X7_put) (pc := 14) (tgt := 46) h rfl (q_wlit rfl) dX7_put_14 (by decide) (fun h => ?_) (fun h => ?_)
    · exact e_vret (M := md_X7_put) (pc := 46) h rfl dX7_put_46
    · refine q_aload_n (M := md_X7_put) (pc := 17) dX7_put_17 rfl (by decide) ?_
      refine q_getP (M := md_X7_put) (pc := 18) (v := 2) fl_7_9 dX7_put_18 (is_1 hN) rfl ?_
      refine q_aload_n (M := md_X7_put) (pc := 21) dX7_put_21 rfl (by decide) ?_
      refine e_gI (M := md_X7_put) (pc := 22) (v := m 1 1) fl_7_13 dX7_put_22 (is_1 hN) rfl ?_
      refine q_iload_n (M := md_X7_put) (pc := 25) dX7_put_25 rfl ?_
      refine q_iload_n (M := md_X7_put) (pc := 26) dX7_put_26 rfl ?_
      refine q_iushr (M := md_X7_put) (pc := 27) dX7_put_27 ?_
      refine q_i2b_ (M := md_X7_put) (pc := 28) dX7_put_28 ?_
      refine e_wrb (M := md_X7_put) (pc := 29) h dX7_put_29 (ar_2 hN) (fun m1 h => ?_)
      refine q_aload_n (M := md_X7_put) (pc := 30) dX7_put_30 rfl (by decide) ?_
      refine q_dup (M := md_X7_put) (pc := 31) dX7_put_31 (show (2 : Nat) ≠ 1 by decide) ?_
      refine e_gI (M := md_X7_put) (pc := 32) (v := m1 1 1) fl_7_13 dX7_put_32 (is_1 hN) rfl ?_
      refine q_iconst (M := md_X7_put) (pc := 35) dX7_put_35 ?_
      refine q_iadd (M := md_X7_put) (pc := 36) dX7_put_36 ?_
      refine e_pfI (M := md_X7_put) (pc := 37) h fl_7_13 dX7_put_37 (is_1 hN) rfl (fun m2 h => ?_)
      refine e_inc (M := md_X7_put) (pc := 40) (x := l2) (ls' := [q_A 1, q_I l1, q_I (l2 + (-8))]) dX7_put_40 rfl (by decide) (q_pl rfl) rfl ?_
      refine q_goto (M := md_X7_put) (pc := 43) (tgt := 3) dX7_put_43 (by decide) ?_
      exact q_weak (hk3 _ _ _  h) ⟨Or.inr rfl, Or.inr rfl, Or.inr rfl, trivial⟩
def f_Tape_put_l3 : Nat → Int → Int → q_Mem → q_Res
  | 0 => fun _ _ _ => none
  | n + 1 => fun l1 l2 m => f_Tape_put_b3 (f_Tape_put_l3 n) l1 l2 m
theorem w_Tape_put_l3 {r : Int × q_Mem} {N : Nat} (hN : 81 ≤ N) : ∀ (n : Nat) (l1 l2 : Int) (m : q_Mem), f_Tape_put_l3 n l1 l2 m = some r → q_E md_X7_put 1 N (none) r m 3 [q_A 1, q_I l1, q_I l2] [] := by
  intro n
  induction n with
  | zero => intro l1 l2 m h; exact q_no h
  | succ n ih =>
    intro l1 l2 m h
    exact w_Tape_put_b3 hN (fun l1 l2 m h => ih l1 l2 m h) h
def f_Tape_put (l1 : Int) (m : q_Mem) : q_Res :=
  f_Tape_put_l3 q_F l1 24 m
set_option maxRecDepth 20000 in
theorem ok_X7_put {l1 : Int} {r : Int × q_Mem} {m : q_Mem} {N : Nat} (hN : 81 ≤ N) (h : f_Tape_put l1 m = some r) : q_C md_X7_put (q_room 1) 0 0 [q_A 1, q_I l1] (q_g N) m (none, q_g N, r.2) := by
  refine q_ofR (by decide) 1 (ls := [q_A 1, q_I l1, q_N]) rfl (Nat.le_of_ble_eq_true rfl) ?_
  change q_E md_X7_put 1 N (none) r m 0 [q_A 1, q_I l1, q_N] []
  unfold f_Tape_put at h
  refine q_bipush (M := md_X7_put) (pc := 0) (x := 24) dX7_put_0 (by decide) ?_
  refine e_ist_n (M := md_X7_put) (pc := 2) (ls' := [q_A 1, q_I l1, q_I 24]) dX7_put_2 (by decide) (q_pl rfl) rfl ?_
  exact q_weak (w_Tape_put_l3 hN q_F _ _ _  h) ⟨Or.inr rfl, Or.inr rfl, Or.inr rfl, trivial⟩
def f_Tile_together_b38 (k10 : Int → Int → Int → Int → Int → q_Mem → q_Res) (l0 l1 l2 l3 l4 : Int) (m : q_Mem) : q_Res :=
  k10 l0 l1 l2 l3 (l4 + 1) m
set_option maxRecDepth 20000 in
theorem w_Tile_together_b38 {k10 : Int → Int → Int → Int → Int → q_Mem → q_Res} {l0 l1 l2 l3 l4 : Int} {r : Int × q_Mem} {m : q_Mem} {N : Nat} (hN : 81 ≤ N) (hk10 : ∀ (l0 l1 l2 l3 l4 : Int) (m : q_Mem), k10 l0 l1 l2 l3 l4 m = some r → q_E md_X8_together 1 N (some 0) r m 10 [q_I l0, q_I l1, q_I l2, q_I l3, q_I l4] []) (h : f_Tile_together_b38 k10 l0 l1 l2 l3 l4 m = some r) : q_E md_X8_together 1 N (some 0) r m 38 [q_I l0, q_I l1, q_I l2, q_I l3, q_I l4] [] := by
  unfold f_Tile_together_b38 at h
  refine e_inc (M := md_X8_together) (pc := 38) (x := l4) (ls' := [q_I l0, q_I l1, q_I l2, q_I l3, q_I (l4 + 1)]) dX8_together_38 rfl (by decide) (q_pl rfl) rfl ?_
  refine q_goto (M := md_X8_together) (pc := 41) (tgt := 10) dX8_together_41 (by decide) ?_
  exact q_weak (hk10 _ _ _ _ _ _  h) ⟨Or.inr rfl, Or.inr rfl, Or.inr rfl, Or.inr rfl, Or.inr rfl, trivial⟩
def f_Tile_together_b10 (k10 : Int → Int → Int → Int → Int → q_Mem → q_Res) (l0 l1 l2 l3 l4 : Int) (m : q_Mem) : q_Res :=
  if q_w (q_min l0 (l0 - l1)) ≤ q_w l4 then (q_rt l3 m)
  else (q_dv l4 l2 fun v1 =>
  q_dv (l4 + l1) l2 fun v2 =>
  if q_w v1 = q_w v2 then (f_Tile_together_b38 k10 l0 l1 l2 (l3 + 1) l4 m)
  else (f_Tile_together_b38 k10 l0 l1 l2 l3 l4 m))
set_option maxRecDepth 20000 in
theorem w_Tile_together_b10 {k10 : Int → Int → Int → Int → Int → q_Mem → q_Res} {l0 l1 l2 l3 l4 : Int} {r : Int × q_Mem} {m : q_Mem} {N : Nat} (hN : 81 ≤ N) (hk10 : ∀ (l0 l1 l2 l3 l4 : Int) (m : q_Mem), k10 l0 l1 l2 l3 l4 m = some r → q_E md_X8_together 1 N (some 0) r m 10 [q_I l0, q_I l1, q_I l2, q_I l3, q_I l4] []) (h : f_Tile_together_b10 k10 l0 l1 l2 l3 l4 m = some r) : q_E md_X8_together 1 N (some 0) r m 10 [q_I l0, q_I l1, q_I l2, q_I l3, q_I l4] [] := by
  unfold f_Tile_together_b10 at h
  refine q_iload (M := md_X8_together) (pc := 10) dX8_together_10 rfl ?_
  refine q_iload_n (M := md_X8_together) (pc := 12) dX8_together_12 rfl ?_
  refine q_iload_n (M := md_X8_together) (pc := 13) dX8_together_13 rfl ?_
  refine q_iload_n (M := md_X8_together) (pc := 14) dX8_together_14 rfl ?_
  refine q_isub (M := md_X8_together) (pc := 15) dX8_together_15 ?_
  refine e_min (M := md_X8_together) (pc := 16) jl_8_67 dX8_together_16 (by decide) (Nat.le_of_ble_eq_true rfl) ?_
  refine e_icmp_ge (M := md_X8_together) (pc := 19) (tgt := 44) h rfl rfl dX8_together_19 (by decide) (fun h => ?_) (fun h => ?_)
  · refine q_iload_n (M := md_X8_together) (pc := 44) dX8_together_44 rfl ?_
    exact e_iret (M := md_X8_together) (pc := 45) h rfl dX8_together_45
  · refine q_iload (M := md_X8_together) (pc := 22) dX8_together_22 rfl ?_
    refine q_iload_n (M := md_X8_together) (pc := 24) dX8_together_24 rfl ?_
    refine e_dv (M := md_X8_together) (pc := 25) h dX8_together_25 (fun v1 h => ?_)
    refine q_iload (M := md_X8_together) (pc := 26) dX8_together_26 rfl ?_
    refine q_iload_n (M := md_X8_together) (pc := 28) dX8_together_28 rfl ?_
    refine q_iadd (M := md_X8_together) (pc := 29) dX8_together_29 ?_
    refine q_iload_n (M := md_X8_together) (pc := 30) dX8_together_30 rfl ?_
    refine e_dv (M := md_X8_together) (pc := 31) h dX8_together_31 (fun v2 h => ?_)
    refine e_icmp_ne (M := md_X8_together) (pc := 32) (tgt := 38) h rfl rfl dX8_together_32 (by decide) (fun h => ?_) (fun h => ?_)
    · exact q_weak (w_Tile_together_b38 hN hk10  h) ⟨Or.inr rfl, Or.inr rfl, Or.inr rfl, Or.inr rfl, Or.inr rfl, trivial⟩
    · refine e_inc (M := md_X8_together) (pc := 35) (x := l3) (ls' := [q_I l0, q_I l1, q_I l2, q_I (l3 + 1), q_I l4]) dX8_together_35 rfl (by decide) (q_pl rfl) rfl ?_
      exact q_weak (w_Tile_together_b38 hN hk10  h) ⟨Or.inr rfl, Or.inr rfl, Or.inr rfl, Or.inr rfl, Or.inr rfl, trivial⟩
def f_Tile_together_l10 : Nat → Int → Int → Int → Int → Int → q_Mem → q_Res
  | 0 => fun _ _ _ _ _ _ => none
  | n + 1 => fun l0 l1 l2 l3 l4 m => f_Tile_together_b10 (f_Tile_together_l10 n) l0 l1 l2 l3 l4 m
theorem w_Tile_together_l10 {r : Int × q_Mem} {N : Nat} (hN : 81 ≤ N) : ∀ (n : Nat) (l0 l1 l2 l3 l4 : Int) (m : q_Mem), f_Tile_together_l10 n l0 l1 l2 l3 l4 m = some r → q_E md_X8_together 1 N (some 0) r m 10 [q_I l0, q_I l1, q_I l2, q_I l3, q_I l4] [] := by
  intro n
  induction n with
  | zero => intro l0 l1 l2 l3 l4 m h; exact q_no h
  | succ n ih =>
    intro l0 l1 l2 l3 l4 m h
    exact w_Tile_together_b10 hN (fun l0 l1 l2 l3 l4 m h => ih l0 l1 l2 l3 l4 m h) h
def f_Tile_together (l0 l1 l2 : Int) (m : q_Mem) : q_Res :=
  f_Tile_together_l10 q_F l0 l1 l2 0 (q_max 0 (-l1)) m
set_option maxRecDepth 20000 in
theorem ok_X8_together {l0 l1 l2 : Int} {r : Int × q_Mem} {m : q_Mem} {N : Nat} (hN : 81 ≤ N) (h : f_Tile_together l0 l1 l2 m = some r) : q_C md_X8_together (q_room 1) 0 0 [q_I l0, q_I l1, q_I l2] (q_g N) m (some (q_I r.1), q_g N, r.2) := by
  refine q_ofR (by decide) 2 (ls := [q_I l0, q_I l1, q_I l2, q_N, q_N]) rfl (Nat.le_of_ble_eq_true rfl) ?_
  change q_E md_X8_together 1 N (some 0) r m 0 [q_I l0, q_I l1, q_I l2, q_N, q_N] []
  unfold f_Tile_together at h
  refine q_iconst (M := md_X8_together) (pc := 0) dX8_together_0 ?_
  refine e_ist_n (M := md_X8_together) (pc := 1) (ls' := [q_I l0, q_I l1, q_I l2, q_I 0, q_N]) dX8_together_1 (by decide) (q_pl rfl) rfl ?_
  refine q_iconst (M := md_X8_together) (pc := 2) dX8_together_2 ?_
  refine q_iload_n (M := md_X8_together) (pc := 3) dX8_together_3 rfl ?_
  refine q_ineg (M := md_X8_together) (pc := 4) dX8_together_4 ?_
  refine e_max (M := md_X8_together) (pc := 5) jl_8_31 dX8_together_5 (by decide) (Nat.le_of_ble_eq_true rfl) ?_
  refine e_ist (M := md_X8_together) (pc := 8) (ls' := [q_I l0, q_I l1, q_I l2, q_I 0, q_I (q_max 0 (-l1))]) dX8_together_8 (by decide) (q_pl rfl) rfl ?_
  exact q_weak (w_Tile_together_l10 hN q_F _ _ _ _ _ _  h) ⟨Or.inr rfl, Or.inr rfl, Or.inr rfl, Or.inr rfl, Or.inr rfl, trivial⟩
def f_Tile_cut_b71 (k71 : Int → Int → q_Mem → q_Res) (l1 l4 : Int) (m : q_Mem) : q_Res :=
  if q_w (m l1 5) ≤ q_w l4 then (q_rt 0 m)
  else (q_rd m (l1 + 2) 12 l4 fun v1 =>
  q_rd m (l1 + 3) 12 l4 fun v2 =>
  q_bd (f_Loop_shifted l1 v1 v2 m) fun v3 m4 =>
  q_bd (f_Tile_together (m4 l1 0) v1 (m4 69 3) m4) fun v5 m6 =>
  q_bd (f_Tile_together (m6 l1 1) v2 (m6 69 4) m6) fun v7 m8 =>
  q_pf m8 69 7 ((m 69 7) + (v3 - (v5 * v7))) fun m9 =>
  k71 l1 (l4 + 1) m9)
set_option maxRecDepth 20000 in
theorem w_Tile_cut_b71 {k71 : Int → Int → q_Mem → q_Res} {l1 l4 : Int} {r : Int × q_Mem} {m : q_Mem} {N : Nat} (hN : 81 ≤ N) (hk71 : ∀ (l1 l4 : Int) (m : q_Mem), l1 ∈ (q_Lp : List Int) → k71 l1 l4 m = some r → q_E md_X8_cut 2 N (none) r m 71 [q_A 69, q_A l1, q_N, q_N, q_I l4, q_N, q_N] []) (hl1 : l1 ∈ (q_Lp : List Int)) (h : f_Tile_cut_b71 k71 l1 l4 m = some r) : q_E md_X8_cut 2 N (none) r m 71 [q_A 69, q_A l1, q_N, q_N, q_I l4, q_N, q_N] [] := by
  unfold f_Tile_cut_b71 at h
  refine q_iload (M := md_X8_cut) (pc := 71) dX8_cut_71 rfl ?_
  refine q_aload_n (M := md_X8_cut) (pc := 73) dX8_cut_73 rfl (nn_Lp hl1) ?_
  refine e_gI (M := md_X8_cut) (pc := 74) (v := m l1 5) fl_8_51 dX8_cut_74 (is_Lp hN hl1) rfl ?_
  refine e_icmp_ge (M := md_X8_cut) (pc := 77) (tgt := 149) h rfl rfl dX8_cut_77 (by decide) (fun h => ?_) (fun h => ?_)
  · exact e_vret (M := md_X8_cut) (pc := 149) h rfl dX8_cut_149
  · refine q_aload_n (M := md_X8_cut) (pc := 80) dX8_cut_80 rfl (nn_Lp hl1) ?_
    refine q_getP (M := md_X8_cut) (pc := 81) (v := l1 + 2) fl_8_54 dX8_cut_81 (is_Lp hN hl1) (ph_Lp_9 hl1) ?_
    refine q_iload (M := md_X8_cut) (pc := 84) dX8_cut_84 rfl ?_
    refine e_rd (M := md_X8_cut) (pc := 86) h dX8_cut_86 (ar_Lp_9 hN hl1) (fun v1 h => ?_)
    refine e_ist (M := md_X8_cut) (pc := 87) (ls' := [q_A 69, q_A l1, q_N, q_N, q_I l4, q_I v1, q_N]) dX8_cut_87 (by decide) (q_pl rfl) rfl ?_
    refine q_aload_n (M := md_X8_cut) (pc := 89) dX8_cut_89 rfl (nn_Lp hl1) ?_
    refine q_getP (M := md_X8_cut) (pc := 90) (v := l1 + 3) fl_8_57 dX8_cut_90 (is_Lp hN hl1) (ph_Lp_10 hl1) ?_
    refine q_iload (M := md_X8_cut) (pc := 93) dX8_cut_93 rfl ?_
    refine e_rd (M := md_X8_cut) (pc := 95) h dX8_cut_95 (ar_Lp_10 hN hl1) (fun v2 h => ?_)
    refine e_ist (M := md_X8_cut) (pc := 96) (ls' := [q_A 69, q_A l1, q_N, q_N, q_I l4, q_I v1, q_I v2]) dX8_cut_96 (by decide) (q_pl rfl) rfl ?_
    refine q_aload_n (M := md_X8_cut) (pc := 98) dX8_cut_98 rfl (by decide) ?_
    refine q_dup (M := md_X8_cut) (pc := 99) dX8_cut_99 (show (2 : Nat) ≠ 1 by decide) ?_
    refine e_gI (M := md_X8_cut) (pc := 100) (v := m 69 7) fl_8_48 dX8_cut_100 (is_69 hN) rfl ?_
    refine q_aload_n (M := md_X8_cut) (pc := 103) dX8_cut_103 rfl (nn_Lp hl1) ?_
    refine q_iload (M := md_X8_cut) (pc := 104) dX8_cut_104 rfl ?_
    refine q_iload (M := md_X8_cut) (pc := 106) dX8_cut_106 rfl ?_
    refine e_callVi (M := md_X8_cut) (pc := 108) (d' := 1) (av := [q_I v1, q_I v2]) (c := l1) h ml_8_60 im_X2_shifted se_X2_shifted dX8_cut_108 (fun v he => ok_X2_shifted hN hl1 he) rfl (is_Lp hN hl1) ⟨_, _, rfl⟩ (by decide) (Nat.le_of_ble_eq_true rfl) ⟨by decide, by decide⟩ rfl (fun v3 m4 h => ?_)
    refine q_aload_n (M := md_X8_cut) (pc := 111) dX8_cut_111 rfl (nn_Lp hl1) ?_
    refine e_gI (M := md_X8_cut) (pc := 112) (v := m4 l1 0) fl_8_42 dX8_cut_112 (is_Lp hN hl1) rfl ?_
    refine q_iload (M := md_X8_cut) (pc := 115) dX8_cut_115 rfl ?_
    refine q_aload_n (M := md_X8_cut) (pc := 117) dX8_cut_117 rfl (by decide) ?_
    refine e_gI (M := md_X8_cut) (pc := 118) (v := m4 69 3) fl_8_21 dX8_cut_118 (is_69 hN) rfl ?_
    refine e_callSi (M := md_X8_cut) (pc := 121) (d' := 1) (M' := md_X8_together) (av := [q_I (m4 l1 0), q_I v1, q_I (m4 69 3)]) h ml_8_63 sm_X8_together dX8_cut_121 (fun v he => ok_X8_together hN  he) rfl (Nat.le_of_ble_eq_true rfl) ⟨by decide, by decide⟩ rfl (fun v5 m6 h => ?_)
    refine q_aload_n (M := md_X8_cut) (pc := 124) dX8_cut_124 rfl (nn_Lp hl1) ?_
    refine e_gI (M := md_X8_cut) (pc := 125) (v := m6 l1 1) fl_8_37 dX8_cut_125 (is_Lp hN hl1) rfl ?_
    refine q_iload (M := md_X8_cut) (pc := 128) dX8_cut_128 rfl ?_
    refine q_aload_n (M := md_X8_cut) (pc := 130) dX8_cut_130 rfl (by decide) ?_
    refine e_gI (M := md_X8_cut) (pc := 131) (v := m6 69 4) fl_8_25 dX8_cut_131 (is_69 hN) rfl ?_
    refine e_callSi (M := md_X8_cut) (pc := 134) (d' := 1) (M' := md_X8_together) (av := [q_I (m6 l1 1), q_I v2, q_I (m6 69 4)]) h ml_8_63 sm_X8_together dX8_cut_134 (fun v he => ok_X8_together hN  he) rfl (Nat.le_of_ble_eq_true rfl) ⟨by decide, by decide⟩ rfl (fun v7 m8 h => ?_)
    refine q_imul (M := md_X8_cut) (pc := 137) dX8_cut_137 ?_
    refine q_isub (M := md_X8_cut) (pc := 138) dX8_cut_138 ?_
    refine q_iadd (M := md_X8_cut) (pc := 139) dX8_cut_139 ?_
    refine e_pfI (M := md_X8_cut) (pc := 140) h fl_8_48 dX8_cut_140 (is_69 hN) rfl (fun m9 h => ?_)
    refine e_inc (M := md_X8_cut) (pc := 143) (x := l4) (ls' := [q_A 69, q_A l1, q_N, q_N, q_I (l4 + 1), q_I v1, q_I v2]) dX8_cut_143 rfl (by decide) (q_pl rfl) rfl ?_
    refine q_goto (M := md_X8_cut) (pc := 146) (tgt := 71) dX8_cut_146 (by decide) ?_
    exact q_weak (hk71 _ _ _ hl1 h) ⟨Or.inr rfl, Or.inr rfl, Or.inl rfl, Or.inl rfl, Or.inr rfl, Or.inl rfl, Or.inl rfl, trivial⟩
def f_Tile_cut_l71 : Nat → Int → Int → q_Mem → q_Res
  | 0 => fun _ _ _ => none
  | n + 1 => fun l1 l4 m => f_Tile_cut_b71 (f_Tile_cut_l71 n) l1 l4 m
theorem w_Tile_cut_l71 {r : Int × q_Mem} {N : Nat} (hN : 81 ≤ N) : ∀ (n : Nat) (l1 l4 : Int) (m : q_Mem), l1 ∈ (q_Lp : List Int) → f_Tile_cut_l71 n l1 l4 m = some r → q_E md_X8_cut 2 N (none) r m 71 [q_A 69, q_A l1, q_N, q_N, q_I l4, q_N, q_N] [] := by
  intro n
  induction n with
  | zero => intro l1 l4 m hl1 h; exact q_no h
  | succ n ih =>
    intro l1 l4 m hl1 h
    exact w_Tile_cut_b71 hN (fun l1 l4 m hl1 h => ih l1 l4 m hl1 h) hl1 h
def f_Tile_cut (l1 l2 l3 : Int) (m : q_Mem) : q_Res :=
  q_pf m 69 3 (q_max 1 l2) fun m1 =>
  q_pf m1 69 4 (q_max 1 l3) fun m2 =>
  q_dv (((m2 l1 1) + (m2 69 4)) - 1) (m2 69 4) fun v3 =>
  q_pf m2 69 5 v3 fun m4 =>
  q_dv (((m4 l1 0) + (m4 69 3)) - 1) (m4 69 3) fun v5 =>
  q_pf m4 69 6 (v5 * (m4 69 5)) fun m6 =>
  q_pf m6 69 7 0 fun m7 =>
  f_Tile_cut_l71 q_F l1 0 m7
set_option maxRecDepth 20000 in
theorem ok_X8_cut {l1 l2 l3 : Int} {r : Int × q_Mem} {m : q_Mem} {N : Nat} (hN : 81 ≤ N) (hl1 : l1 ∈ (q_Lp : List Int)) (h : f_Tile_cut l1 l2 l3 m = some r) : q_C md_X8_cut (q_room 2) 0 0 [q_A 69, q_A l1, q_I l2, q_I l3] (q_g N) m (none, q_g N, r.2) := by
  refine q_ofR (by decide) 3 (ls := [q_A 69, q_A l1, q_I l2, q_I l3, q_N, q_N, q_N]) rfl (Nat.le_of_ble_eq_true rfl) ?_
  change q_E md_X8_cut 2 N (none) r m 0 [q_A 69, q_A l1, q_I l2, q_I l3, q_N, q_N, q_N] []
  unfold f_Tile_cut at h
  refine q_aload_n (M := md_X8_cut) (pc := 0) dX8_cut_0 rfl (by decide) ?_
  refine q_iconst (M := md_X8_cut) (pc := 1) dX8_cut_1 ?_
  refine q_iload_n (M := md_X8_cut) (pc := 2) dX8_cut_2 rfl ?_
  refine e_max (M := md_X8_cut) (pc := 3) jl_8_31 dX8_cut_3 (by decide) (Nat.le_of_ble_eq_true rfl) ?_
  refine e_pfI (M := md_X8_cut) (pc := 6) h fl_8_21 dX8_cut_6 (is_69 hN) rfl (fun m1 h => ?_)
  refine q_aload_n (M := md_X8_cut) (pc := 9) dX8_cut_9 rfl (by decide) ?_
  refine q_iconst (M := md_X8_cut) (pc := 10) dX8_cut_10 ?_
  refine q_iload_n (M := md_X8_cut) (pc := 11) dX8_cut_11 rfl ?_
  refine e_max (M := md_X8_cut) (pc := 12) jl_8_31 dX8_cut_12 (by decide) (Nat.le_of_ble_eq_true rfl) ?_
  refine e_pfI (M := md_X8_cut) (pc := 15) h fl_8_25 dX8_cut_15 (is_69 hN) rfl (fun m2 h => ?_)
  refine q_aload_n (M := md_X8_cut) (pc := 18) dX8_cut_18 rfl (by decide) ?_
  refine q_aload_n (M := md_X8_cut) (pc := 19) dX8_cut_19 rfl (nn_Lp hl1) ?_
  refine e_gI (M := md_X8_cut) (pc := 20) (v := m2 l1 1) fl_8_37 dX8_cut_20 (is_Lp hN hl1) rfl ?_
  refine q_aload_n (M := md_X8_cut) (pc := 23) dX8_cut_23 rfl (by decide) ?_
  refine e_gI (M := md_X8_cut) (pc := 24) (v := m2 69 4) fl_8_25 dX8_cut_24 (is_69 hN) rfl ?_
  refine q_iadd (M := md_X8_cut) (pc := 27) dX8_cut_27 ?_
  refine q_iconst (M := md_X8_cut) (pc := 28) dX8_cut_28 ?_
  refine q_isub (M := md_X8_cut) (pc := 29) dX8_cut_29 ?_
  refine q_aload_n (M := md_X8_cut) (pc := 30) dX8_cut_30 rfl (by decide) ?_
  refine e_gI (M := md_X8_cut) (pc := 31) (v := m2 69 4) fl_8_25 dX8_cut_31 (is_69 hN) rfl ?_
  refine e_dv (M := md_X8_cut) (pc := 34) h dX8_cut_34 (fun v3 h => ?_)
  refine e_pfI (M := md_X8_cut) (pc := 35) h fl_8_28 dX8_cut_35 (is_69 hN) rfl (fun m4 h => ?_)
  refine q_aload_n (M := md_X8_cut) (pc := 38) dX8_cut_38 rfl (by decide) ?_
  refine q_aload_n (M := md_X8_cut) (pc := 39) dX8_cut_39 rfl (nn_Lp hl1) ?_
  refine e_gI (M := md_X8_cut) (pc := 40) (v := m4 l1 0) fl_8_42 dX8_cut_40 (is_Lp hN hl1) rfl ?_
  refine q_aload_n (M := md_X8_cut) (pc := 43) dX8_cut_43 rfl (by decide) ?_
  refine e_gI (M := md_X8_cut) (pc := 44) (v := m4 69 3) fl_8_21 dX8_cut_44 (is_69 hN) rfl ?_
  refine q_iadd (M := md_X8_cut) (pc := 47) dX8_cut_47 ?_
  refine q_iconst (M := md_X8_cut) (pc := 48) dX8_cut_48 ?_
  refine q_isub (M := md_X8_cut) (pc := 49) dX8_cut_49 ?_
  refine q_aload_n (M := md_X8_cut) (pc := 50) dX8_cut_50 rfl (by decide) ?_
  refine e_gI (M := md_X8_cut) (pc := 51) (v := m4 69 3) fl_8_21 dX8_cut_51 (is_69 hN) rfl ?_
  refine e_dv (M := md_X8_cut) (pc := 54) h dX8_cut_54 (fun v5 h => ?_)
  refine q_aload_n (M := md_X8_cut) (pc := 55) dX8_cut_55 rfl (by decide) ?_
  refine e_gI (M := md_X8_cut) (pc := 56) (v := m4 69 5) fl_8_28 dX8_cut_56 (is_69 hN) rfl ?_
  refine q_imul (M := md_X8_cut) (pc := 59) dX8_cut_59 ?_
  refine e_pfI (M := md_X8_cut) (pc := 60) h fl_8_45 dX8_cut_60 (is_69 hN) rfl (fun m6 h => ?_)
  refine q_aload_n (M := md_X8_cut) (pc := 63) dX8_cut_63 rfl (by decide) ?_
  refine q_iconst (M := md_X8_cut) (pc := 64) dX8_cut_64 ?_
  refine e_pfI (M := md_X8_cut) (pc := 65) h fl_8_48 dX8_cut_65 (is_69 hN) rfl (fun m7 h => ?_)
  refine q_iconst (M := md_X8_cut) (pc := 68) dX8_cut_68 ?_
  refine e_ist (M := md_X8_cut) (pc := 69) (ls' := [q_A 69, q_A l1, q_I l2, q_I l3, q_I 0, q_N, q_N]) dX8_cut_69 (by decide) (q_pl rfl) rfl ?_
  exact q_weak (w_Tile_cut_l71 hN q_F _ _ _ hl1 h) ⟨Or.inr rfl, Or.inr rfl, Or.inl rfl, Or.inl rfl, Or.inr rfl, Or.inl rfl, Or.inl rfl, trivial⟩
def f_Tile_tileOf (l1 : Int) (m : q_Mem) : q_Res :=
  q_dv l1 10 fun v1 =>
  q_dv v1 (m 69 3) fun v2 =>
  q_md l1 10 fun v3 =>
  q_dv v3 (m 69 4) fun v4 =>
  q_rt ((v2 * (m 69 5)) + v4) m
set_option maxRecDepth 20000 in
theorem ok_X8_tileOf {l1 : Int} {r : Int × q_Mem} {m : q_Mem} {N : Nat} (hN : 81 ≤ N) (h : f_Tile_tileOf l1 m = some r) : q_C md_X8_tileOf (q_room 1) 0 0 [q_A 69, q_I l1] (q_g N) m (some (q_I r.1), q_g N, r.2) := by
  refine q_ofR (by decide) 0 (ls := [q_A 69, q_I l1]) rfl (Nat.le_of_ble_eq_true rfl) ?_
  change q_E md_X8_tileOf 1 N (some 0) r m 0 [q_A 69, q_I l1] []
  unfold f_Tile_tileOf at h
  refine q_iload_n (M := md_X8_tileOf) (pc := 0) dX8_tileOf_0 rfl ?_
  refine q_bipush (M := md_X8_tileOf) (pc := 1) (x := 10) dX8_tileOf_1 (by decide) ?_
  refine e_dv (M := md_X8_tileOf) (pc := 3) h dX8_tileOf_3 (fun v1 h => ?_)
  refine q_aload_n (M := md_X8_tileOf) (pc := 4) dX8_tileOf_4 rfl (by decide) ?_
  refine e_gI (M := md_X8_tileOf) (pc := 5) (v := m 69 3) fl_8_21 dX8_tileOf_5 (is_69 hN) rfl ?_
  refine e_dv (M := md_X8_tileOf) (pc := 8) h dX8_tileOf_8 (fun v2 h => ?_)
  refine q_aload_n (M := md_X8_tileOf) (pc := 9) dX8_tileOf_9 rfl (by decide) ?_
  refine e_gI (M := md_X8_tileOf) (pc := 10) (v := m 69 5) fl_8_28 dX8_tileOf_10 (is_69 hN) rfl ?_
  refine q_imul (M := md_X8_tileOf) (pc := 13) dX8_tileOf_13 ?_
  refine q_iload_n (M := md_X8_tileOf) (pc := 14) dX8_tileOf_14 rfl ?_
  refine q_bipush (M := md_X8_tileOf) (pc := 15) (x := 10) dX8_tileOf_15 (by decide) ?_
  refine e_md (M := md_X8_tileOf) (pc := 17) h dX8_tileOf_17 (fun v3 h => ?_)
  refine q_aload_n (M := md_X8_tileOf) (pc := 18) dX8_tileOf_18 rfl (by decide) ?_
  refine e_gI (M := md_X8_tileOf) (pc := 19) (v := m 69 4) fl_8_25 dX8_tileOf_19 (is_69 hN) rfl ?_
  refine e_dv (M := md_X8_tileOf) (pc := 22) h dX8_tileOf_22 (fun v4 h => ?_)
  refine q_iadd (M := md_X8_tileOf) (pc := 23) dX8_tileOf_23 ?_
  exact e_iret (M := md_X8_tileOf) (pc := 24) h rfl dX8_tileOf_24
def f_Tile_countWaits_b80 (k10 : Int → Int → q_Mem → q_Res) (k34 : Int → Int → Int → Int → Int → q_Mem → q_Res) (l1 l2 l3 l4 l5 : Int) (m : q_Mem) : q_Res :=
  k34 l1 l2 l3 l4 (l5 + 1) m
set_option maxRecDepth 20000 in
theorem w_Tile_countWaits_b80 {k10 : Int → Int → q_Mem → q_Res} {k34 : Int → Int → Int → Int → Int → q_Mem → q_Res} {l1 l2 l3 l4 l5 : Int} {r : Int × q_Mem} {m : q_Mem} {N : Nat} (hN : 81 ≤ N) (hk10 : ∀ (l1 l2 : Int) (m : q_Mem), l1 ∈ (q_Lp : List Int) → k10 l1 l2 m = some r → q_E md_X8_countWaits 3 N (none) r m 10 [q_A 69, q_A l1, q_I l2, q_N, q_N, q_N, q_N] []) (hk34 : ∀ (l1 l2 l3 l4 l5 : Int) (m : q_Mem), l1 ∈ (q_Lp : List Int) → k34 l1 l2 l3 l4 l5 m = some r → q_E md_X8_countWaits 3 N (none) r m 34 [q_A 69, q_A l1, q_I l2, q_I l3, q_I l4, q_I l5, q_N] []) (hl1 : l1 ∈ (q_Lp : List Int)) (h : f_Tile_countWaits_b80 k10 k34 l1 l2 l3 l4 l5 m = some r) : q_E md_X8_countWaits 3 N (none) r m 80 [q_A 69, q_A l1, q_I l2, q_I l3, q_I l4, q_I l5, q_N] [] := by
  unfold f_Tile_countWaits_b80 at h
  refine e_inc (M := md_X8_countWaits) (pc := 80) (x := l5) (ls' := [q_A 69, q_A l1, q_I l2, q_I l3, q_I l4, q_I (l5 + 1), q_N]) dX8_countWaits_80 rfl (by decide) (q_pl rfl) rfl ?_
  refine q_goto (M := md_X8_countWaits) (pc := 83) (tgt := 34) dX8_countWaits_83 (by decide) ?_
  exact q_weak (hk34 _ _ _ _ _ _ hl1 h) ⟨Or.inr rfl, Or.inr rfl, Or.inr rfl, Or.inr rfl, Or.inr rfl, Or.inr rfl, Or.inl rfl, trivial⟩
def f_Tile_countWaits_b34 (k10 : Int → Int → q_Mem → q_Res) (k34 : Int → Int → Int → Int → Int → q_Mem → q_Res) (l1 l2 l3 l4 l5 : Int) (m : q_Mem) : q_Res :=
  if q_w (m l1 5) ≤ q_w l5 then (k10 l1 (l2 + 1) m)
  else (q_bd (f_Loop_target l1 l3 l5 m) fun v1 m2 =>
  if q_w v1 = (-1) then (f_Tile_countWaits_b80 k10 k34 l1 l2 l3 l4 l5 m2)
  else (q_bd (f_Tile_tileOf v1 m2) fun v3 m4 =>
  if q_w v3 = q_w l4 then (f_Tile_countWaits_b80 k10 k34 l1 l2 l3 l4 l5 m4)
  else (q_rd m4 70 100 l4 fun v5 =>
  q_wr m4 70 100 l4 (v5 + 1) fun m6 =>
  f_Tile_countWaits_b80 k10 k34 l1 l2 l3 l4 l5 m6)))
set_option maxRecDepth 20000 in
theorem w_Tile_countWaits_b34 {k10 : Int → Int → q_Mem → q_Res} {k34 : Int → Int → Int → Int → Int → q_Mem → q_Res} {l1 l2 l3 l4 l5 : Int} {r : Int × q_Mem} {m : q_Mem} {N : Nat} (hN : 81 ≤ N) (hk10 : ∀ (l1 l2 : Int) (m : q_Mem), l1 ∈ (q_Lp : List Int) → k10 l1 l2 m = some r → q_E md_X8_countWaits 3 N (none) r m 10 [q_A 69, q_A l1, q_I l2, q_N, q_N, q_N, q_N] []) (hk34 : ∀ (l1 l2 l3 l4 l5 : Int) (m : q_Mem), l1 ∈ (q_Lp : List Int) → k34 l1 l2 l3 l4 l5 m = some r → q_E md_X8_countWaits 3 N (none) r m 34 [q_A 69, q_A l1, q_I l2, q_I l3, q_I l4, q_I l5, q_N] []) (hl1 : l1 ∈ (q_Lp : List Int)) (h : f_Tile_countWaits_b34 k10 k34 l1 l2 l3 l4 l5 m = some r) : q_E md_X8_countWaits 3 N (none) r m 34 [q_A 69, q_A l1, q_I l2, q_I l3, q_I l4, q_I l5, q_N] [] := by
  unfold f_Tile_countWaits_b34 at h
  refine q_iload (M := md_X8_countWaits) (pc := 34) dX8_countWaits_34 rfl ?_
  refine q_aload_n (M := md_X8_countWaits) (pc := 36) dX8_countWaits_36 rfl (nn_Lp hl1) ?_
  refine e_gI (M := md_X8_countWaits) (pc := 37) (v := m l1 5) fl_8_51 dX8_countWaits_37 (is_Lp hN hl1) rfl ?_
  refine e_icmp_ge (M := md_X8_countWaits) (pc := 40) (tgt := 86) h rfl rfl dX8_countWaits_40 (by decide) (fun h => ?_) (fun h => ?_)
  · refine e_inc (M := md_X8_countWaits) (pc := 86) (x := l2) (ls' := [q_A 69, q_A l1, q_I (l2 + 1), q_I l3, q_I l4, q_I l5, q_N]) dX8_countWaits_86 rfl (by decide) (q_pl rfl) rfl ?_
    refine q_goto (M := md_X8_countWaits) (pc := 89) (tgt := 10) dX8_countWaits_89 (by decide) ?_
    exact q_weak (hk10 _ _ _ hl1 h) ⟨Or.inr rfl, Or.inr rfl, Or.inr rfl, Or.inl rfl, Or.inl rfl, Or.inl rfl, Or.inl rfl, trivial⟩
  · refine q_aload_n (M := md_X8_countWaits) (pc := 43) dX8_countWaits_43 rfl (nn_Lp hl1) ?_
    refine q_iload_n (M := md_X8_countWaits) (pc := 44) dX8_countWaits_44 rfl ?_
    refine q_iload (M := md_X8_countWaits) (pc := 45) dX8_countWaits_45 rfl ?_
    refine e_callVi (M := md_X8_countWaits) (pc := 47) (d' := 2) (av := [q_I l3, q_I l5]) (c := l1) h ml_8_102 im_X2_target se_X2_target dX8_countWaits_47 (fun v he => ok_X2_target hN hl1 he) rfl (is_Lp hN hl1) ⟨_, _, rfl⟩ (by decide) (Nat.le_of_ble_eq_true rfl) ⟨by decide, by decide⟩ rfl (fun v1 m2 h => ?_)
    refine e_ist (M := md_X8_countWaits) (pc := 50) (ls' := [q_A 69, q_A l1, q_I l2, q_I l3, q_I l4, q_I l5, q_I v1]) dX8_countWaits_50 (by decide) (q_pl rfl) rfl ?_
    refine q_iload (M := md_X8_countWaits) (pc := 52) dX8_countWaits_52 rfl ?_
    refine q_iconst (M := md_X8_countWaits) (pc := 54) dX8_countWaits_54 ?_
    refine e_icmp_eq (M := md_X8_countWaits) (pc := 55) (tgt := 80) h rfl (q_wlit rfl) dX8_countWaits_55 (by decide) (fun h => ?_) (fun h => ?_)
    · exact q_weak (w_Tile_countWaits_b80 hN hk10 hk34 hl1 h) ⟨Or.inr rfl, Or.inr rfl, Or.inr rfl, Or.inr rfl, Or.inr rfl, Or.inr rfl, Or.inl rfl, trivial⟩
    · refine q_aload_n (M := md_X8_countWaits) (pc := 58) dX8_countWaits_58 rfl (by decide) ?_
      refine q_iload (M := md_X8_countWaits) (pc := 59) dX8_countWaits_59 rfl ?_
      refine e_callVi (M := md_X8_countWaits) (pc := 61) (d' := 1) (av := [q_I v1]) (c := 69) h ml_8_99 im_X8_tileOf se_X8_tileOf dX8_countWaits_61 (fun v he => ok_X8_tileOf hN  he) rfl (is_69 hN) ⟨_, _, rfl⟩ (by decide) (Nat.le_of_ble_eq_true rfl) ⟨by decide, by decide⟩ rfl (fun v3 m4 h => ?_)
      refine q_iload (M := md_X8_countWaits) (pc := 64) dX8_countWaits_64 rfl ?_
      refine e_icmp_eq (M := md_X8_countWaits) (pc := 66) (tgt := 80) h rfl rfl dX8_countWaits_66 (by decide) (fun h => ?_) (fun h => ?_)
      · exact q_weak (w_Tile_countWaits_b80 hN hk10 hk34 hl1 h) ⟨Or.inr rfl, Or.inr rfl, Or.inr rfl, Or.inr rfl, Or.inr rfl, Or.inr rfl, Or.inl rfl, trivial⟩
      · refine q_aload_n (M := md_X8_countWaits) (pc := 69) dX8_countWaits_69 rfl (by decide) ?_
        refine q_getP (M := md_X8_countWaits) (pc := 70) (v := 70) fl_8_9 dX8_countWaits_70 (is_69 hN) rfl ?_
        refine q_iload (M := md_X8_countWaits) (pc := 73) dX8_countWaits_73 rfl ?_
        refine q_dup2 (M := md_X8_countWaits) (pc := 75) dX8_countWaits_75 (show (0 : Nat) ≠ 1 by decide) (show (2 : Nat) ≠ 1 by decide) ?_
        refine e_rd (M := md_X8_countWaits) (pc := 76) h dX8_countWaits_76 (ar_70 hN) (fun v5 h => ?_)
        refine q_iconst (M := md_X8_countWaits) (pc := 77) dX8_countWaits_77 ?_
        refine q_iadd (M := md_X8_countWaits) (pc := 78) dX8_countWaits_78 ?_
        refine e_wr (M := md_X8_countWaits) (pc := 79) h dX8_countWaits_79 (ar_70 hN) (fun m6 h => ?_)
        exact q_weak (w_Tile_countWaits_b80 hN hk10 hk34 hl1 h) ⟨Or.inr rfl, Or.inr rfl, Or.inr rfl, Or.inr rfl, Or.inr rfl, Or.inr rfl, Or.inl rfl, trivial⟩
def f_Tile_countWaits_l34 (k10 : Int → Int → q_Mem → q_Res) : Nat → Int → Int → Int → Int → Int → q_Mem → q_Res
  | 0 => fun _ _ _ _ _ _ => none
  | n + 1 => fun l1 l2 l3 l4 l5 m => f_Tile_countWaits_b34 k10 (f_Tile_countWaits_l34 k10 n) l1 l2 l3 l4 l5 m
theorem w_Tile_countWaits_l34 {k10 : Int → Int → q_Mem → q_Res} {r : Int × q_Mem} {N : Nat} (hN : 81 ≤ N) (hk10 : ∀ (l1 l2 : Int) (m : q_Mem), l1 ∈ (q_Lp : List Int) → k10 l1 l2 m = some r → q_E md_X8_countWaits 3 N (none) r m 10 [q_A 69, q_A l1, q_I l2, q_N, q_N, q_N, q_N] []) : ∀ (n : Nat) (l1 l2 l3 l4 l5 : Int) (m : q_Mem), l1 ∈ (q_Lp : List Int) → f_Tile_countWaits_l34 k10 n l1 l2 l3 l4 l5 m = some r → q_E md_X8_countWaits 3 N (none) r m 34 [q_A 69, q_A l1, q_I l2, q_I l3, q_I l4, q_I l5, q_N] [] := by
  intro n
  induction n with
  | zero => intro l1 l2 l3 l4 l5 m hl1 h; exact q_no h
  | succ n ih =>
    intro l1 l2 l3 l4 l5 m hl1 h
    exact w_Tile_countWaits_b34 hN hk10 (fun l1 l2 l3 l4 l5 m hl1 h => ih l1 l2 l3 l4 l5 m hl1 h) hl1 h
def f_Tile_countWaits_b10 (k10 : Int → Int → q_Mem → q_Res) (l1 l2 : Int) (m : q_Mem) : q_Res :=
  q_bd (f_Loop_points l1 m) fun v1 m2 =>
  if q_w v1 ≤ q_w l2 then (q_rt 0 m2)
  else (q_bd (f_Loop_pointAt l1 l2 m2) fun v3 m4 =>
  q_bd (f_Tile_tileOf v3 m4) fun v5 m6 =>
  f_Tile_countWaits_l34 k10 q_F l1 l2 v3 v5 0 m6)
set_option maxRecDepth 20000 in
theorem w_Tile_countWaits_b10 {k10 : Int → Int → q_Mem → q_Res} {l1 l2 : Int} {r : Int × q_Mem} {m : q_Mem} {N : Nat} (hN : 81 ≤ N) (hk10 : ∀ (l1 l2 : Int) (m : q_Mem), l1 ∈ (q_Lp : List Int) → k10 l1 l2 m = some r → q_E md_X8_countWaits 3 N (none) r m 10 [q_A 69, q_A l1, q_I l2, q_N, q_N, q_N, q_N] []) (hl1 : l1 ∈ (q_Lp : List Int)) (h : f_Tile_countWaits_b10 k10 l1 l2 m = some r) : q_E md_X8_countWaits 3 N (none) r m 10 [q_A 69, q_A l1, q_I l2, q_N, q_N, q_N, q_N] [] := by
  unfold f_Tile_countWaits_b10 at h
  refine q_iload_n (M := md_X8_countWaits) (pc := 10) dX8_countWaits_10 rfl ?_
  refine q_aload_n (M := md_X8_countWaits) (pc := 11) dX8_countWaits_11 rfl (nn_Lp hl1) ?_
  refine e_callVi (M := md_X8_countWaits) (pc := 12) (d' := 1) (av := []) (c := l1) h ml_8_91 im_X2_points se_X2_points dX8_countWaits_12 (fun v he => ok_X2_points hN hl1 he) rfl (is_Lp hN hl1) ⟨_, _, rfl⟩ (by decide) (Nat.le_of_ble_eq_true rfl) ⟨by decide, by decide⟩ rfl (fun v1 m2 h => ?_)
  refine e_icmp_ge (M := md_X8_countWaits) (pc := 15) (tgt := 92) h rfl rfl dX8_countWaits_15 (by decide) (fun h => ?_) (fun h => ?_)
  · exact e_vret (M := md_X8_countWaits) (pc := 92) h rfl dX8_countWaits_92
  · refine q_aload_n (M := md_X8_countWaits) (pc := 18) dX8_countWaits_18 rfl (nn_Lp hl1) ?_
    refine q_iload_n (M := md_X8_countWaits) (pc := 19) dX8_countWaits_19 rfl ?_
    refine e_callVi (M := md_X8_countWaits) (pc := 20) (d' := 1) (av := [q_I l2]) (c := l1) h ml_8_95 im_X2_pointAt se_X2_pointAt dX8_countWaits_20 (fun v he => ok_X2_pointAt hN hl1 he) rfl (is_Lp hN hl1) ⟨_, _, rfl⟩ (by decide) (Nat.le_of_ble_eq_true rfl) ⟨by decide, by decide⟩ rfl (fun v3 m4 h => ?_)
    refine e_ist_n (M := md_X8_countWaits) (pc := 23) (ls' := [q_A 69, q_A l1, q_I l2, q_I v3, q_N, q_N, q_N]) dX8_countWaits_23 (by decide) (q_pl rfl) rfl ?_
    refine q_aload_n (M := md_X8_countWaits) (pc := 24) dX8_countWaits_24 rfl (by decide) ?_
    refine q_iload_n (M := md_X8_countWaits) (pc := 25) dX8_countWaits_25 rfl ?_
    refine e_callVi (M := md_X8_countWaits) (pc := 26) (d' := 1) (av := [q_I v3]) (c := 69) h ml_8_99 im_X8_tileOf se_X8_tileOf dX8_countWaits_26 (fun v he => ok_X8_tileOf hN  he) rfl (is_69 hN) ⟨_, _, rfl⟩ (by decide) (Nat.le_of_ble_eq_true rfl) ⟨by decide, by decide⟩ rfl (fun v5 m6 h => ?_)
    refine e_ist (M := md_X8_countWaits) (pc := 29) (ls' := [q_A 69, q_A l1, q_I l2, q_I v3, q_I v5, q_N, q_N]) dX8_countWaits_29 (by decide) (q_pl rfl) rfl ?_
    refine q_iconst (M := md_X8_countWaits) (pc := 31) dX8_countWaits_31 ?_
    refine e_ist (M := md_X8_countWaits) (pc := 32) (ls' := [q_A 69, q_A l1, q_I l2, q_I v3, q_I v5, q_I 0, q_N]) dX8_countWaits_32 (by decide) (q_pl rfl) rfl ?_
    exact q_weak (w_Tile_countWaits_l34 hN hk10 q_F _ _ _ _ _ _ hl1 h) ⟨Or.inr rfl, Or.inr rfl, Or.inr rfl, Or.inr rfl, Or.inr rfl, Or.inr rfl, Or.inl rfl, trivial⟩
def f_Tile_countWaits_l10 : Nat → Int → Int → q_Mem → q_Res
  | 0 => fun _ _ _ => none
  | n + 1 => fun l1 l2 m => f_Tile_countWaits_b10 (f_Tile_countWaits_l10 n) l1 l2 m
theorem w_Tile_countWaits_l10 {r : Int × q_Mem} {N : Nat} (hN : 81 ≤ N) : ∀ (n : Nat) (l1 l2 : Int) (m : q_Mem), l1 ∈ (q_Lp : List Int) → f_Tile_countWaits_l10 n l1 l2 m = some r → q_E md_X8_countWaits 3 N (none) r m 10 [q_A 69, q_A l1, q_I l2, q_N, q_N, q_N, q_N] [] := by
  intro n
  induction n with
  | zero => intro l1 l2 m hl1 h; exact q_no h
  | succ n ih =>
    intro l1 l2 m hl1 h
    exact w_Tile_countWaits_b10 hN (fun l1 l2 m hl1 h => ih l1 l2 m hl1 h) hl1 h
def f_Tile_countWaits (l1 : Int) (m : q_Mem) : q_Res :=
  q_fi m 70 100 0 fun m1 =>
  f_Tile_countWaits_l10 q_F l1 0 m1
set_option maxRecDepth 20000 in
theorem ok_X8_countWaits {l1 : Int} {r : Int × q_Mem} {m : q_Mem} {N : Nat} (hN : 81 ≤ N) (hl1 : l1 ∈ (q_Lp : List Int)) (h : f_Tile_countWaits l1 m = some r) : q_C md_X8_countWaits (q_room 3) 0 0 [q_A 69, q_A l1] (q_g N) m (none, q_g N, r.2) := by
  refine q_ofR (by decide) 5 (ls := [q_A 69, q_A l1, q_N, q_N, q_N, q_N, q_N]) rfl (Nat.le_of_ble_eq_true rfl) ?_
  change q_E md_X8_countWaits 3 N (none) r m 0 [q_A 69, q_A l1, q_N, q_N, q_N, q_N, q_N] []
  unfold f_Tile_countWaits at h
  refine q_aload_n (M := md_X8_countWaits) (pc := 0) dX8_countWaits_0 rfl (by decide) ?_
  refine q_getP (M := md_X8_countWaits) (pc := 1) (v := 70) fl_8_9 dX8_countWaits_1 (is_69 hN) rfl ?_
  refine q_iconst (M := md_X8_countWaits) (pc := 4) dX8_countWaits_4 ?_
  refine e_fill (M := md_X8_countWaits) (pc := 5) h jl_8_85 dX8_countWaits_5 (ar_70 hN) (by decide) (Nat.le_of_ble_eq_true rfl) (fun m1 h => ?_)
  refine q_iconst (M := md_X8_countWaits) (pc := 8) dX8_countWaits_8 ?_
  refine e_ist_n (M := md_X8_countWaits) (pc := 9) (ls' := [q_A 69, q_A l1, q_I 0, q_N, q_N, q_N, q_N]) dX8_countWaits_9 (by decide) (q_pl rfl) rfl ?_
  exact q_weak (w_Tile_countWaits_l10 hN q_F _ _ _ hl1 h) ⟨Or.inr rfl, Or.inr rfl, Or.inr rfl, Or.inl rfl, Or.inl rfl, Or.inl rfl, Or.inl rfl, trivial⟩
def f_Tile_enqueue (l1 : Int) (m : q_Mem) : q_Res :=
  if 100 ≤ q_w (m 69 8) then (q_rt 0 m)
  else (q_wr m 72 100 (m 69 8) l1 fun m1 =>
  q_pf m1 69 8 ((m1 69 8) + 1) fun m2 =>
  q_rt 0 m2)
set_option maxRecDepth 20000 in
theorem ok_X8_enqueue {l1 : Int} {r : Int × q_Mem} {m : q_Mem} {N : Nat} (hN : 81 ≤ N) (h : f_Tile_enqueue l1 m = some r) : q_C md_X8_enqueue (q_room 1) 0 0 [q_A 69, q_I l1] (q_g N) m (none, q_g N, r.2) := by
  refine q_ofR (by decide) 0 (ls := [q_A 69, q_I l1]) rfl (Nat.le_of_ble_eq_true rfl) ?_
  change q_E md_X8_enqueue 1 N (none) r m 0 [q_A 69, q_I l1] []
  unfold f_Tile_enqueue at h
  refine q_aload_n (M := md_X8_enqueue) (pc := 0) dX8_enqueue_0 rfl (by decide) ?_
  refine e_gI (M := md_X8_enqueue) (pc := 1) (v := m 69 8) fl_8_74 dX8_enqueue_1 (is_69 hN) rfl ?_
  refine q_bipush (M := md_X8_enqueue) (pc := 4) (x := 100) dX8_enqueue_4 (by decide) ?_
  refine e_icmp_ge (M := md_X8_enqueue) (pc := 6) (tgt := 29) h rfl (q_wlit rfl) dX8_enqueue_6 (by decide) (fun h => ?_) (fun h => ?_)
  · exact e_vret (M := md_X8_enqueue) (pc := 29) h rfl dX8_enqueue_29
  · refine q_aload_n (M := md_X8_enqueue) (pc := 9) dX8_enqueue_9 rfl (by decide) ?_
    refine q_getP (M := md_X8_enqueue) (pc := 10) (v := 72) fl_8_18 dX8_enqueue_10 (is_69 hN) rfl ?_
    refine q_aload_n (M := md_X8_enqueue) (pc := 13) dX8_enqueue_13 rfl (by decide) ?_
    refine e_gI (M := md_X8_enqueue) (pc := 14) (v := m 69 8) fl_8_74 dX8_enqueue_14 (is_69 hN) rfl ?_
    refine q_iload_n (M := md_X8_enqueue) (pc := 17) dX8_enqueue_17 rfl ?_
    refine e_wr (M := md_X8_enqueue) (pc := 18) h dX8_enqueue_18 (ar_72 hN) (fun m1 h => ?_)
    refine q_aload_n (M := md_X8_enqueue) (pc := 19) dX8_enqueue_19 rfl (by decide) ?_
    refine q_dup (M := md_X8_enqueue) (pc := 20) dX8_enqueue_20 (show (2 : Nat) ≠ 1 by decide) ?_
    refine e_gI (M := md_X8_enqueue) (pc := 21) (v := m1 69 8) fl_8_74 dX8_enqueue_21 (is_69 hN) rfl ?_
    refine q_iconst (M := md_X8_enqueue) (pc := 24) dX8_enqueue_24 ?_
    refine q_iadd (M := md_X8_enqueue) (pc := 25) dX8_enqueue_25 ?_
    refine e_pfI (M := md_X8_enqueue) (pc := 26) h fl_8_74 dX8_enqueue_26 (is_69 hN) rfl (fun m2 h => ?_)
    exact e_vret (M := md_X8_enqueue) (pc := 29) h rfl dX8_enqueue_29
def f_Tile_releaseReaders_b100 (k3 : Int → Int → Int → Int → q_Mem → q_Res) (l1 l2 l3 l4 : Int) (m : q_Mem) : q_Res :=
  k3 l1 l2 l3 (l4 + 1) m
set_option maxRecDepth 20000 in
theorem w_Tile_releaseReaders_b100 {k3 : Int → Int → Int → Int → q_Mem → q_Res} {l1 l2 l3 l4 : Int} {r : Int × q_Mem} {m : q_Mem} {N : Nat} (hN : 81 ≤ N) (hk3 : ∀ (l1 l2 l3 l4 : Int) (m : q_Mem), l1 ∈ (q_Lp : List Int) → k3 l1 l2 l3 l4 m = some r → q_E md_X8_releaseReaders 3 N (none) r m 3 [q_A 69, q_A l1, q_I l2, q_I l3, q_I l4, q_N, q_N] []) (hl1 : l1 ∈ (q_Lp : List Int)) (h : f_Tile_releaseReaders_b100 k3 l1 l2 l3 l4 m = some r) : q_E md_X8_releaseReaders 3 N (none) r m 100 [q_A 69, q_A l1, q_I l2, q_I l3, q_I l4, q_N, q_N] [] := by
  unfold f_Tile_releaseReaders_b100 at h
  refine e_inc (M := md_X8_releaseReaders) (pc := 100) (x := l4) (ls' := [q_A 69, q_A l1, q_I l2, q_I l3, q_I (l4 + 1), q_N, q_N]) dX8_releaseReaders_100 rfl (by decide) (q_pl rfl) rfl ?_
  refine q_goto (M := md_X8_releaseReaders) (pc := 103) (tgt := 3) dX8_releaseReaders_103 (by decide) ?_
  exact q_weak (hk3 _ _ _ _ _ hl1 h) ⟨Or.inr rfl, Or.inr rfl, Or.inr rfl, Or.inr rfl, Or.inr rfl, Or.inl rfl, Or.inl rfl, trivial⟩
def f_Tile_releaseReaders_b37 (k3 : Int → Int → Int → Int → q_Mem → q_Res) (l1 l2 l3 l4 s0 : Int) (m : q_Mem) : q_Res :=
  if q_w s0 = q_w l3 then (f_Tile_releaseReaders_b100 k3 l1 l2 l3 l4 m)
  else (q_rd m 71 100 s0 fun v1 =>
  q_rd m 71 100 l3 fun v2 =>
  q_wr m 71 100 s0 (q_max v1 (v2 + 1)) fun m3 =>
  q_rd m3 70 100 s0 fun v4 =>
  q_wr m3 70 100 s0 (v4 - 1) fun m5 =>
  q_rd m5 70 100 s0 fun v6 =>
  if q_w v6 = 0 then (q_bd (f_Tile_enqueue s0 m5) fun _ m7 =>
  f_Tile_releaseReaders_b100 k3 l1 l2 l3 l4 m7)
  else (f_Tile_releaseReaders_b100 k3 l1 l2 l3 l4 m5))
set_option maxRecDepth 20000 in
theorem w_Tile_releaseReaders_b37 {k3 : Int → Int → Int → Int → q_Mem → q_Res} {l1 l2 l3 l4 s0 : Int} {r : Int × q_Mem} {m : q_Mem} {N : Nat} (hN : 81 ≤ N) (hk3 : ∀ (l1 l2 l3 l4 : Int) (m : q_Mem), l1 ∈ (q_Lp : List Int) → k3 l1 l2 l3 l4 m = some r → q_E md_X8_releaseReaders 3 N (none) r m 3 [q_A 69, q_A l1, q_I l2, q_I l3, q_I l4, q_N, q_N] []) (hl1 : l1 ∈ (q_Lp : List Int)) (h : f_Tile_releaseReaders_b37 k3 l1 l2 l3 l4 s0 m = some r) : q_E md_X8_releaseReaders 3 N (none) r m 37 [q_A 69, q_A l1, q_I l2, q_I l3, q_I l4, q_N, q_N] [q_I s0] := by
  unfold f_Tile_releaseReaders_b37 at h
  refine e_ist (M := md_X8_releaseReaders) (pc := 37) (ls' := [q_A 69, q_A l1, q_I l2, q_I l3, q_I l4, q_N, q_I s0]) dX8_releaseReaders_37 (by decide) (q_pl rfl) rfl ?_
  refine q_iload (M := md_X8_releaseReaders) (pc := 39) dX8_releaseReaders_39 rfl ?_
  refine q_iload_n (M := md_X8_releaseReaders) (pc := 41) dX8_releaseReaders_41 rfl ?_
  refine e_icmp_ne (M := md_X8_releaseReaders) (pc := 42) (tgt := 48) h rfl rfl dX8_releaseReaders_42 (by decide) (fun h => ?_) (fun h => ?_)
  · refine q_aload_n (M := md_X8_releaseReaders) (pc := 48) dX8_releaseReaders_48 rfl (by decide) ?_
    refine q_getP (M := md_X8_releaseReaders) (pc := 49) (v := 71) fl_8_15 dX8_releaseReaders_49 (is_69 hN) rfl ?_
    refine q_iload (M := md_X8_releaseReaders) (pc := 52) dX8_releaseReaders_52 rfl ?_
    refine q_aload_n (M := md_X8_releaseReaders) (pc := 54) dX8_releaseReaders_54 rfl (by decide) ?_
    refine q_getP (M := md_X8_releaseReaders) (pc := 55) (v := 71) fl_8_15 dX8_releaseReaders_55 (is_69 hN) rfl ?_
    refine q_iload (M := md_X8_releaseReaders) (pc := 58) dX8_releaseReaders_58 rfl ?_
    refine e_rd (M := md_X8_releaseReaders) (pc := 60) h dX8_releaseReaders_60 (ar_71 hN) (fun v1 h => ?_)
    refine q_aload_n (M := md_X8_releaseReaders) (pc := 61) dX8_releaseReaders_61 rfl (by decide) ?_
    refine q_getP (M := md_X8_releaseReaders) (pc := 62) (v := 71) fl_8_15 dX8_releaseReaders_62 (is_69 hN) rfl ?_
    refine q_iload_n (M := md_X8_releaseReaders) (pc := 65) dX8_releaseReaders_65 rfl ?_
    refine e_rd (M := md_X8_releaseReaders) (pc := 66) h dX8_releaseReaders_66 (ar_71 hN) (fun v2 h => ?_)
    refine q_iconst (M := md_X8_releaseReaders) (pc := 67) dX8_releaseReaders_67 ?_
    refine q_iadd (M := md_X8_releaseReaders) (pc := 68) dX8_releaseReaders_68 ?_
    refine e_max (M := md_X8_releaseReaders) (pc := 69) jl_8_31 dX8_releaseReaders_69 (by decide) (Nat.le_of_ble_eq_true rfl) ?_
    refine e_wr (M := md_X8_releaseReaders) (pc := 72) h dX8_releaseReaders_72 (ar_71 hN) (fun m3 h => ?_)
    refine q_aload_n (M := md_X8_releaseReaders) (pc := 73) dX8_releaseReaders_73 rfl (by decide) ?_
    refine q_getP (M := md_X8_releaseReaders) (pc := 74) (v := 70) fl_8_9 dX8_releaseReaders_74 (is_69 hN) rfl ?_
    refine q_iload (M := md_X8_releaseReaders) (pc := 77) dX8_releaseReaders_77 rfl ?_
    refine q_dup2 (M := md_X8_releaseReaders) (pc := 79) dX8_releaseReaders_79 (show (0 : Nat) ≠ 1 by decide) (show (2 : Nat) ≠ 1 by decide) ?_
    refine e_rd (M := md_X8_releaseReaders) (pc := 80) h dX8_releaseReaders_80 (ar_70 hN) (fun v4 h => ?_)
    refine q_iconst (M := md_X8_releaseReaders) (pc := 81) dX8_releaseReaders_81 ?_
    refine q_isub (M := md_X8_releaseReaders) (pc := 82) dX8_releaseReaders_82 ?_
    refine e_wr (M := md_X8_releaseReaders) (pc := 83) h dX8_releaseReaders_83 (ar_70 hN) (fun m5 h => ?_)
    refine q_aload_n (M := md_X8_releaseReaders) (pc := 84) dX8_releaseReaders_84 rfl (by decide) ?_
    refine q_getP (M := md_X8_releaseReaders) (pc := 85) (v := 70) fl_8_9 dX8_releaseReaders_85 (is_69 hN) rfl ?_
    refine q_iload (M := md_X8_releaseReaders) (pc := 88) dX8_releaseReaders_88 rfl ?_
    refine e_rd (M := md_X8_releaseReaders) (pc := 90) h dX8_releaseReaders_90 (ar_70 hN) (fun v6 h => ?_)
    refine e_if_ne (M := md_X8_releaseReaders) (pc := 91) (tgt := 100) h rfl dX8_releaseReaders_91 (by decide) (fun h => ?_) (fun h => ?_)
    · exact q_weak (w_Tile_releaseReaders_b100 hN hk3 hl1 h) ⟨Or.inr rfl, Or.inr rfl, Or.inr rfl, Or.inr rfl, Or.inr rfl, Or.inl rfl, Or.inl rfl, trivial⟩
    · refine q_aload_n (M := md_X8_releaseReaders) (pc := 94) dX8_releaseReaders_94 rfl (by decide) ?_
      refine q_iload (M := md_X8_releaseReaders) (pc := 95) dX8_releaseReaders_95 rfl ?_
      refine e_callVv (M := md_X8_releaseReaders) (pc := 97) (d' := 1) (av := [q_I s0]) (c := 69) h ml_8_77 im_X8_enqueue se_X8_enqueue dX8_releaseReaders_97 (fun v he => ok_X8_enqueue hN  he) rfl (is_69 hN) ⟨_, _, rfl⟩ (by decide) (Nat.le_of_ble_eq_true rfl) ⟨by decide, by decide⟩ rfl (fun _ m7 h => ?_)
      exact q_weak (w_Tile_releaseReaders_b100 hN hk3 hl1 h) ⟨Or.inr rfl, Or.inr rfl, Or.inr rfl, Or.inr rfl, Or.inr rfl, Or.inl rfl, Or.inl rfl, trivial⟩
  · refine q_goto (M := md_X8_releaseReaders) (pc := 45) (tgt := 100) dX8_releaseReaders_45 (by decide) ?_
    exact q_weak (w_Tile_releaseReaders_b100 hN hk3 hl1 h) ⟨Or.inr rfl, Or.inr rfl, Or.inr rfl, Or.inr rfl, Or.inr rfl, Or.inl rfl, Or.inl rfl, trivial⟩
def f_Tile_releaseReaders_b3 (k3 : Int → Int → Int → Int → q_Mem → q_Res) (l1 l2 l3 l4 : Int) (m : q_Mem) : q_Res :=
  if q_w (m l1 5) ≤ q_w l4 then (q_rt 0 m)
  else (q_bd (f_Loop_reader l1 l2 l4 m) fun v1 m2 =>
  if q_w v1 = (-1) then (f_Tile_releaseReaders_b37 k3 l1 l2 l3 l4 l3 m2)
  else (q_bd (f_Tile_tileOf v1 m2) fun v3 m4 =>
  f_Tile_releaseReaders_b37 k3 l1 l2 l3 l4 v3 m4))
set_option maxRecDepth 20000 in
theorem w_Tile_releaseReaders_b3 {k3 : Int → Int → Int → Int → q_Mem → q_Res} {l1 l2 l3 l4 : Int} {r : Int × q_Mem} {m : q_Mem} {N : Nat} (hN : 81 ≤ N) (hk3 : ∀ (l1 l2 l3 l4 : Int) (m : q_Mem), l1 ∈ (q_Lp : List Int) → k3 l1 l2 l3 l4 m = some r → q_E md_X8_releaseReaders 3 N (none) r m 3 [q_A 69, q_A l1, q_I l2, q_I l3, q_I l4, q_N, q_N] []) (hl1 : l1 ∈ (q_Lp : List Int)) (h : f_Tile_releaseReaders_b3 k3 l1 l2 l3 l4 m = some r) : q_E md_X8_releaseReaders 3 N (none) r m 3 [q_A 69, q_A l1, q_I l2, q_I l3, q_I l4, q_N, q_N] [] := by
  unfold f_Tile_releaseReaders_b3 at h
  refine q_iload (M := md_X8_releaseReaders) (pc := 3) dX8_releaseReaders_3 rfl ?_
  refine q_aload_n (M := md_X8_releaseReaders) (pc := 5) dX8_releaseReaders_5 rfl (nn_Lp hl1) ?_
  refine e_gI (M := md_X8_releaseReaders) (pc := 6) (v := m l1 5) fl_8_51 dX8_releaseReaders_6 (is_Lp hN hl1) rfl ?_
  refine e_icmp_ge (M := md_X8_releaseReaders) (pc := 9) (tgt := 106) h rfl rfl dX8_releaseReaders_9 (by decide) (fun h => ?_) (fun h => ?_)
  · exact e_vret (M := md_X8_releaseReaders) (pc := 106) h rfl dX8_releaseReaders_106
  · refine q_aload_n (M := md_X8_releaseReaders) (pc := 12) dX8_releaseReaders_12 rfl (nn_Lp hl1) ?_
    refine q_iload_n (M := md_X8_releaseReaders) (pc := 13) dX8_releaseReaders_13 rfl ?_
    refine q_iload (M := md_X8_releaseReaders) (pc := 14) dX8_releaseReaders_14 rfl ?_
    refine e_callVi (M := md_X8_releaseReaders) (pc := 16) (d' := 2) (av := [q_I l2, q_I l4]) (c := l1) h ml_8_109 im_X2_reader se_X2_reader dX8_releaseReaders_16 (fun v he => ok_X2_reader hN hl1 he) rfl (is_Lp hN hl1) ⟨_, _, rfl⟩ (by decide) (Nat.le_of_ble_eq_true rfl) ⟨by decide, by decide⟩ rfl (fun v1 m2 h => ?_)
    refine e_ist (M := md_X8_releaseReaders) (pc := 19) (ls' := [q_A 69, q_A l1, q_I l2, q_I l3, q_I l4, q_I v1, q_N]) dX8_releaseReaders_19 (by decide) (q_pl rfl) rfl ?_
    refine q_iload (M := md_X8_releaseReaders) (pc := 21) dX8_releaseReaders_21 rfl ?_
    refine q_iconst (M := md_X8_releaseReaders) (pc := 23) dX8_releaseReaders_23 ?_
    refine e_icmp_ne (M := md_X8_releaseReaders) (pc := 24) (tgt := 31) h rfl (q_wlit rfl) dX8_releaseReaders_24 (by decide) (fun h => ?_) (fun h => ?_)
    · refine q_aload_n (M := md_X8_releaseReaders) (pc := 31) dX8_releaseReaders_31 rfl (by decide) ?_
      refine q_iload (M := md_X8_releaseReaders) (pc := 32) dX8_releaseReaders_32 rfl ?_
      refine e_callVi (M := md_X8_releaseReaders) (pc := 34) (d' := 1) (av := [q_I v1]) (c := 69) h ml_8_99 im_X8_tileOf se_X8_tileOf dX8_releaseReaders_34 (fun v he => ok_X8_tileOf hN  he) rfl (is_69 hN) ⟨_, _, rfl⟩ (by decide) (Nat.le_of_ble_eq_true rfl) ⟨by decide, by decide⟩ rfl (fun v3 m4 h => ?_)
      exact q_weak (w_Tile_releaseReaders_b37 hN hk3 hl1 h) ⟨Or.inr rfl, Or.inr rfl, Or.inr rfl, Or.inr rfl, Or.inr rfl, Or.inl rfl, Or.inl rfl, trivial⟩
    · refine q_iload_n (M := md_X8_releaseReaders) (pc := 27) dX8_releaseReaders_27 rfl ?_
      refine q_goto (M := md_X8_releaseReaders) (pc := 28) (tgt := 37) dX8_releaseReaders_28 (by decide) ?_
      exact q_weak (w_Tile_releaseReaders_b37 hN hk3 hl1 h) ⟨Or.inr rfl, Or.inr rfl, Or.inr rfl, Or.inr rfl, Or.inr rfl, Or.inl rfl, Or.inl rfl, trivial⟩
def f_Tile_releaseReaders_l3 : Nat → Int → Int → Int → Int → q_Mem → q_Res
  | 0 => fun _ _ _ _ _ => none
  | n + 1 => fun l1 l2 l3 l4 m => f_Tile_releaseReaders_b3 (f_Tile_releaseReaders_l3 n) l1 l2 l3 l4 m
theorem w_Tile_releaseReaders_l3 {r : Int × q_Mem} {N : Nat} (hN : 81 ≤ N) : ∀ (n : Nat) (l1 l2 l3 l4 : Int) (m : q_Mem), l1 ∈ (q_Lp : List Int) → f_Tile_releaseReaders_l3 n l1 l2 l3 l4 m = some r → q_E md_X8_releaseReaders 3 N (none) r m 3 [q_A 69, q_A l1, q_I l2, q_I l3, q_I l4, q_N, q_N] [] := by
  intro n
  induction n with
  | zero => intro l1 l2 l3 l4 m hl1 h; exact q_no h
  | succ n ih =>
    intro l1 l2 l3 l4 m hl1 h
    exact w_Tile_releaseReaders_b3 hN (fun l1 l2 l3 l4 m hl1 h => ih l1 l2 l3 l4 m hl1 h) hl1 h
def f_Tile_releaseReaders (l1 l2 l3 : Int) (m : q_Mem) : q_Res :=
  f_Tile_releaseReaders_l3 q_F l1 l2 l3 0 m
set_option maxRecDepth 20000 in
theorem ok_X8_releaseReaders {l1 l2 l3 : Int} {r : Int × q_Mem} {m : q_Mem} {N : Nat} (hN : 81 ≤ N) (hl1 : l1 ∈ (q_Lp : List Int)) (h : f_Tile_releaseReaders l1 l2 l3 m = some r) : q_C md_X8_releaseReaders (q_room 3) 0 0 [q_A 69, q_A l1, q_I l2, q_I l3] (q_g N) m (none, q_g N, r.2) := by
  refine q_ofR (by decide) 3 (ls := [q_A 69, q_A l1, q_I l2, q_I l3, q_N, q_N, q_N]) rfl (Nat.le_of_ble_eq_true rfl) ?_
  change q_E md_X8_releaseReaders 3 N (none) r m 0 [q_A 69, q_A l1, q_I l2, q_I l3, q_N, q_N, q_N] []
  unfold f_Tile_releaseReaders at h
  refine q_iconst (M := md_X8_releaseReaders) (pc := 0) dX8_releaseReaders_0 ?_
  refine e_ist (M := md_X8_releaseReaders) (pc := 1) (ls' := [q_A 69, q_A l1, q_I l2, q_I l3, q_I 0, q_N, q_N]) dX8_releaseReaders_1 (by decide) (q_pl rfl) rfl ?_
  exact q_weak (w_Tile_releaseReaders_l3 hN q_F _ _ _ _ _ hl1 h) ⟨Or.inr rfl, Or.inr rfl, Or.inr rfl, Or.inr rfl, Or.inr rfl, Or.inl rfl, Or.inl rfl, trivial⟩
def f_Tile_release_b50 (k28 : Int → Int → Int → Int → Int → q_Mem → q_Res) (k50 : Int → Int → Int → Int → Int → Int → q_Mem → q_Res) (l1 l2 l3 l4 l5 l6 : Int) (m : q_Mem) : q_Res :=
  if q_w (q_min (m l1 1) (l4 + (m 69 4))) ≤ q_w l6 then (k28 l1 l2 l3 l4 (l5 + 1) m)
  else (q_bd (f_Tile_releaseReaders l1 ((l5 * 10) + l6) l2 m) fun _ m1 =>
  k50 l1 l2 l3 l4 l5 (l6 + 1) m1)
set_option maxRecDepth 20000 in
theorem w_Tile_release_b50 {k28 : Int → Int → Int → Int → Int → q_Mem → q_Res} {k50 : Int → Int → Int → Int → Int → Int → q_Mem → q_Res} {l1 l2 l3 l4 l5 l6 : Int} {r : Int × q_Mem} {m : q_Mem} {N : Nat} (hN : 81 ≤ N) (hk28 : ∀ (l1 l2 l3 l4 l5 : Int) (m : q_Mem), l1 ∈ (q_Lp : List Int) → k28 l1 l2 l3 l4 l5 m = some r → q_E md_X8_release 4 N (none) r m 28 [q_A 69, q_A l1, q_I l2, q_I l3, q_I l4, q_I l5, q_N] []) (hk50 : ∀ (l1 l2 l3 l4 l5 l6 : Int) (m : q_Mem), l1 ∈ (q_Lp : List Int) → k50 l1 l2 l3 l4 l5 l6 m = some r → q_E md_X8_release 4 N (none) r m 50 [q_A 69, q_A l1, q_I l2, q_I l3, q_I l4, q_I l5, q_I l6] []) (hl1 : l1 ∈ (q_Lp : List Int)) (h : f_Tile_release_b50 k28 k50 l1 l2 l3 l4 l5 l6 m = some r) : q_E md_X8_release 4 N (none) r m 50 [q_A 69, q_A l1, q_I l2, q_I l3, q_I l4, q_I l5, q_I l6] [] := by
  unfold f_Tile_release_b50 at h
  refine q_iload (M := md_X8_release) (pc := 50) dX8_release_50 rfl ?_
  refine q_aload_n (M := md_X8_release) (pc := 52) dX8_release_52 rfl (nn_Lp hl1) ?_
  refine e_gI (M := md_X8_release) (pc := 53) (v := m l1 1) fl_8_37 dX8_release_53 (is_Lp hN hl1) rfl ?_
  refine q_iload (M := md_X8_release) (pc := 56) dX8_release_56 rfl ?_
  refine q_aload_n (M := md_X8_release) (pc := 58) dX8_release_58 rfl (by decide) ?_
  refine e_gI (M := md_X8_release) (pc := 59) (v := m 69 4) fl_8_25 dX8_release_59 (is_69 hN) rfl ?_
  refine q_iadd (M := md_X8_release) (pc := 62) dX8_release_62 ?_
  refine e_min (M := md_X8_release) (pc := 63) jl_8_67 dX8_release_63 (by decide) (Nat.le_of_ble_eq_true rfl) ?_
  refine e_icmp_ge (M := md_X8_release) (pc := 66) (tgt := 89) h rfl rfl dX8_release_66 (by decide) (fun h => ?_) (fun h => ?_)
  · refine e_inc (M := md_X8_release) (pc := 89) (x := l5) (ls' := [q_A 69, q_A l1, q_I l2, q_I l3, q_I l4, q_I (l5 + 1), q_I l6]) dX8_release_89 rfl (by decide) (q_pl rfl) rfl ?_
    refine q_goto (M := md_X8_release) (pc := 92) (tgt := 28) dX8_release_92 (by decide) ?_
    exact q_weak (hk28 _ _ _ _ _ _ hl1 h) ⟨Or.inr rfl, Or.inr rfl, Or.inr rfl, Or.inr rfl, Or.inr rfl, Or.inr rfl, Or.inl rfl, trivial⟩
  · refine q_aload_n (M := md_X8_release) (pc := 69) dX8_release_69 rfl (by decide) ?_
    refine q_aload_n (M := md_X8_release) (pc := 70) dX8_release_70 rfl (nn_Lp hl1) ?_
    refine q_iload (M := md_X8_release) (pc := 71) dX8_release_71 rfl ?_
    refine q_bipush (M := md_X8_release) (pc := 73) (x := 10) dX8_release_73 (by decide) ?_
    refine q_imul (M := md_X8_release) (pc := 75) dX8_release_75 ?_
    refine q_iload (M := md_X8_release) (pc := 76) dX8_release_76 rfl ?_
    refine q_iadd (M := md_X8_release) (pc := 78) dX8_release_78 ?_
    refine q_iload_n (M := md_X8_release) (pc := 79) dX8_release_79 rfl ?_
    refine e_callVv (M := md_X8_release) (pc := 80) (d' := 3) (av := [q_A l1, q_I ((l5 * 10) + l6), q_I l2]) (c := 69) h ml_8_105 im_X8_releaseReaders se_X8_releaseReaders dX8_release_80 (fun v he => ok_X8_releaseReaders hN hl1 he) rfl (is_69 hN) ⟨_, _, rfl⟩ (by decide) (Nat.le_of_ble_eq_true rfl) ⟨by decide, by decide⟩ rfl (fun _ m1 h => ?_)
    refine e_inc (M := md_X8_release) (pc := 83) (x := l6) (ls' := [q_A 69, q_A l1, q_I l2, q_I l3, q_I l4, q_I l5, q_I (l6 + 1)]) dX8_release_83 rfl (by decide) (q_pl rfl) rfl ?_
    refine q_goto (M := md_X8_release) (pc := 86) (tgt := 50) dX8_release_86 (by decide) ?_
    exact q_weak (hk50 _ _ _ _ _ _ _ hl1 h) ⟨Or.inr rfl, Or.inr rfl, Or.inr rfl, Or.inr rfl, Or.inr rfl, Or.inr rfl, Or.inr rfl, trivial⟩
def f_Tile_release_l50 (k28 : Int → Int → Int → Int → Int → q_Mem → q_Res) : Nat → Int → Int → Int → Int → Int → Int → q_Mem → q_Res
  | 0 => fun _ _ _ _ _ _ _ => none
  | n + 1 => fun l1 l2 l3 l4 l5 l6 m => f_Tile_release_b50 k28 (f_Tile_release_l50 k28 n) l1 l2 l3 l4 l5 l6 m
theorem w_Tile_release_l50 {k28 : Int → Int → Int → Int → Int → q_Mem → q_Res} {r : Int × q_Mem} {N : Nat} (hN : 81 ≤ N) (hk28 : ∀ (l1 l2 l3 l4 l5 : Int) (m : q_Mem), l1 ∈ (q_Lp : List Int) → k28 l1 l2 l3 l4 l5 m = some r → q_E md_X8_release 4 N (none) r m 28 [q_A 69, q_A l1, q_I l2, q_I l3, q_I l4, q_I l5, q_N] []) : ∀ (n : Nat) (l1 l2 l3 l4 l5 l6 : Int) (m : q_Mem), l1 ∈ (q_Lp : List Int) → f_Tile_release_l50 k28 n l1 l2 l3 l4 l5 l6 m = some r → q_E md_X8_release 4 N (none) r m 50 [q_A 69, q_A l1, q_I l2, q_I l3, q_I l4, q_I l5, q_I l6] [] := by
  intro n
  induction n with
  | zero => intro l1 l2 l3 l4 l5 l6 m hl1 h; exact q_no h
  | succ n ih =>
    intro l1 l2 l3 l4 l5 l6 m hl1 h
    exact w_Tile_release_b50 hN hk28 (fun l1 l2 l3 l4 l5 l6 m hl1 h => ih l1 l2 l3 l4 l5 l6 m hl1 h) hl1 h
def f_Tile_release_b28 (k28 : Int → Int → Int → Int → Int → q_Mem → q_Res) (l1 l2 l3 l4 l5 : Int) (m : q_Mem) : q_Res :=
  if q_w (q_min (m l1 0) (l3 + (m 69 3))) ≤ q_w l5 then (q_rt 0 m)
  else (f_Tile_release_l50 k28 q_F l1 l2 l3 l4 l5 l4 m)
set_option maxRecDepth 20000 in
theorem w_Tile_release_b28 {k28 : Int → Int → Int → Int → Int → q_Mem → q_Res} {l1 l2 l3 l4 l5 : Int} {r : Int × q_Mem} {m : q_Mem} {N : Nat} (hN : 81 ≤ N) (hk28 : ∀ (l1 l2 l3 l4 l5 : Int) (m : q_Mem), l1 ∈ (q_Lp : List Int) → k28 l1 l2 l3 l4 l5 m = some r → q_E md_X8_release 4 N (none) r m 28 [q_A 69, q_A l1, q_I l2, q_I l3, q_I l4, q_I l5, q_N] []) (hl1 : l1 ∈ (q_Lp : List Int)) (h : f_Tile_release_b28 k28 l1 l2 l3 l4 l5 m = some r) : q_E md_X8_release 4 N (none) r m 28 [q_A 69, q_A l1, q_I l2, q_I l3, q_I l4, q_I l5, q_N] [] := by
  unfold f_Tile_release_b28 at h
  refine q_iload (M := md_X8_release) (pc := 28) dX8_release_28 rfl ?_
  refine q_aload_n (M := md_X8_release) (pc := 30) dX8_release_30 rfl (nn_Lp hl1) ?_
  refine e_gI (M := md_X8_release) (pc := 31) (v := m l1 0) fl_8_42 dX8_release_31 (is_Lp hN hl1) rfl ?_
  refine q_iload_n (M := md_X8_release) (pc := 34) dX8_release_34 rfl ?_
  refine q_aload_n (M := md_X8_release) (pc := 35) dX8_release_35 rfl (by decide) ?_
  refine e_gI (M := md_X8_release) (pc := 36) (v := m 69 3) fl_8_21 dX8_release_36 (is_69 hN) rfl ?_
  refine q_iadd (M := md_X8_release) (pc := 39) dX8_release_39 ?_
  refine e_min (M := md_X8_release) (pc := 40) jl_8_67 dX8_release_40 (by decide) (Nat.le_of_ble_eq_true rfl) ?_
  refine e_icmp_ge (M := md_X8_release) (pc := 43) (tgt := 95) h rfl rfl dX8_release_43 (by decide) (fun h => ?_) (fun h => ?_)
  · exact e_vret (M := md_X8_release) (pc := 95) h rfl dX8_release_95
  · refine q_iload (M := md_X8_release) (pc := 46) dX8_release_46 rfl ?_
    refine e_ist (M := md_X8_release) (pc := 48) (ls' := [q_A 69, q_A l1, q_I l2, q_I l3, q_I l4, q_I l5, q_I l4]) dX8_release_48 (by decide) (q_pl rfl) rfl ?_
    exact q_weak (w_Tile_release_l50 hN hk28 q_F _ _ _ _ _ _ _ hl1 h) ⟨Or.inr rfl, Or.inr rfl, Or.inr rfl, Or.inr rfl, Or.inr rfl, Or.inr rfl, Or.inr rfl, trivial⟩
def f_Tile_release_l28 : Nat → Int → Int → Int → Int → Int → q_Mem → q_Res
  | 0 => fun _ _ _ _ _ _ => none
  | n + 1 => fun l1 l2 l3 l4 l5 m => f_Tile_release_b28 (f_Tile_release_l28 n) l1 l2 l3 l4 l5 m
theorem w_Tile_release_l28 {r : Int × q_Mem} {N : Nat} (hN : 81 ≤ N) : ∀ (n : Nat) (l1 l2 l3 l4 l5 : Int) (m : q_Mem), l1 ∈ (q_Lp : List Int) → f_Tile_release_l28 n l1 l2 l3 l4 l5 m = some r → q_E md_X8_release 4 N (none) r m 28 [q_A 69, q_A l1, q_I l2, q_I l3, q_I l4, q_I l5, q_N] [] := by
  intro n
  induction n with
  | zero => intro l1 l2 l3 l4 l5 m hl1 h; exact q_no h
  | succ n ih =>
    intro l1 l2 l3 l4 l5 m hl1 h
    exact w_Tile_release_b28 hN (fun l1 l2 l3 l4 l5 m hl1 h => ih l1 l2 l3 l4 l5 m hl1 h) hl1 h
def f_Tile_release (l1 l2 : Int) (m : q_Mem) : q_Res :=
  q_dv l2 (m 69 5) fun v1 =>
  q_md l2 (m 69 5) fun v2 =>
  f_Tile_release_l28 q_F l1 l2 (v1 * (m 69 3)) (v2 * (m 69 4)) (v1 * (m 69 3)) m
set_option maxRecDepth 20000 in
theorem ok_X8_release {l1 l2 : Int} {r : Int × q_Mem} {m : q_Mem} {N : Nat} (hN : 81 ≤ N) (hl1 : l1 ∈ (q_Lp : List Int)) (h : f_Tile_release l1 l2 m = some r) : q_C md_X8_release (q_room 4) 0 0 [q_A 69, q_A l1, q_I l2] (q_g N) m (none, q_g N, r.2) := by
  refine q_ofR (by decide) 4 (ls := [q_A 69, q_A l1, q_I l2, q_N, q_N, q_N, q_N]) rfl (Nat.le_of_ble_eq_true rfl) ?_
  change q_E md_X8_release 4 N (none) r m 0 [q_A 69, q_A l1, q_I l2, q_N, q_N, q_N, q_N] []
  unfold f_Tile_release at h
  refine q_iload_n (M := md_X8_release) (pc := 0) dX8_release_0 rfl ?_
  refine q_aload_n (M := md_X8_release) (pc := 1) dX8_release_1 rfl (by decide) ?_
  refine e_gI (M := md_X8_release) (pc := 2) (v := m 69 5) fl_8_28 dX8_release_2 (is_69 hN) rfl ?_
  refine e_dv (M := md_X8_release) (pc := 5) h dX8_release_5 (fun v1 h => ?_)
  refine q_aload_n (M := md_X8_release) (pc := 6) dX8_release_6 rfl (by decide) ?_
  refine e_gI (M := md_X8_release) (pc := 7) (v := m 69 3) fl_8_21 dX8_release_7 (is_69 hN) rfl ?_
  refine q_imul (M := md_X8_release) (pc := 10) dX8_release_10 ?_
  refine e_ist_n (M := md_X8_release) (pc := 11) (ls' := [q_A 69, q_A l1, q_I l2, q_I (v1 * (m 69 3)), q_N, q_N, q_N]) dX8_release_11 (by decide) (q_pl rfl) rfl ?_
  refine q_iload_n (M := md_X8_release) (pc := 12) dX8_release_12 rfl ?_
  refine q_aload_n (M := md_X8_release) (pc := 13) dX8_release_13 rfl (by decide) ?_
  refine e_gI (M := md_X8_release) (pc := 14) (v := m 69 5) fl_8_28 dX8_release_14 (is_69 hN) rfl ?_
  refine e_md (M := md_X8_release) (pc := 17) h dX8_release_17 (fun v2 h => ?_)
  refine q_aload_n (M := md_X8_release) (pc := 18) dX8_release_18 rfl (by decide) ?_
  refine e_gI (M := md_X8_release) (pc := 19) (v := m 69 4) fl_8_25 dX8_release_19 (is_69 hN) rfl ?_
  refine q_imul (M := md_X8_release) (pc := 22) dX8_release_22 ?_
  refine e_ist (M := md_X8_release) (pc := 23) (ls' := [q_A 69, q_A l1, q_I l2, q_I (v1 * (m 69 3)), q_I (v2 * (m 69 4)), q_N, q_N]) dX8_release_23 (by decide) (q_pl rfl) rfl ?_
  refine q_iload_n (M := md_X8_release) (pc := 25) dX8_release_25 rfl ?_
  refine e_ist (M := md_X8_release) (pc := 26) (ls' := [q_A 69, q_A l1, q_I l2, q_I (v1 * (m 69 3)), q_I (v2 * (m 69 4)), q_I (v1 * (m 69 3)), q_N]) dX8_release_26 (by decide) (q_pl rfl) rfl ?_
  exact q_weak (w_Tile_release_l28 hN q_F _ _ _ _ _ _ hl1 h) ⟨Or.inr rfl, Or.inr rfl, Or.inr rfl, Or.inr rfl, Or.inr rfl, Or.inr rfl, Or.inl rfl, trivial⟩
def f_Tile_longestRow_b41 (k12 : Int → Int → q_Mem → q_Res) (l1 l2 : Int) (m : q_Mem) : q_Res :=
  k12 l1 (l2 + 1) m
set_option maxRecDepth 20000 in
theorem w_Tile_longestRow_b41 {k12 : Int → Int → q_Mem → q_Res} {l1 l2 : Int} {r : Int × q_Mem} {m : q_Mem} {N : Nat} (hN : 81 ≤ N) (hk12 : ∀ (l1 l2 : Int) (m : q_Mem), l1 ∈ (q_Lp : List Int) → k12 l1 l2 m = some r → q_E md_X8_longestRow 5 N (some 0) r m 12 [q_A 69, q_A l1, q_I l2, q_N] []) (hl1 : l1 ∈ (q_Lp : List Int)) (h : f_Tile_longestRow_b41 k12 l1 l2 m = some r) : q_E md_X8_longestRow 5 N (some 0) r m 41 [q_A 69, q_A l1, q_I l2, q_N] [] := by
  unfold f_Tile_longestRow_b41 at h
  refine e_inc (M := md_X8_longestRow) (pc := 41) (x := l2) (ls' := [q_A 69, q_A l1, q_I (l2 + 1), q_N]) dX8_longestRow_41 rfl (by decide) (q_pl rfl) rfl ?_
  refine q_goto (M := md_X8_longestRow) (pc := 44) (tgt := 12) dX8_longestRow_44 (by decide) ?_
  exact q_weak (hk12 _ _ _ hl1 h) ⟨Or.inr rfl, Or.inr rfl, Or.inr rfl, Or.inl rfl, trivial⟩
def f_Tile_longestRow_b98 (l2 : Int) (m : q_Mem) : q_Res :=
  if q_w (m 69 8) = q_w (m 69 6) then (q_rt l2 m)
  else (q_rt 0 m)
set_option maxRecDepth 20000 in
theorem w_Tile_longestRow_b98 {l2 : Int} {r : Int × q_Mem} {m : q_Mem} {N : Nat} (hN : 81 ≤ N) (h : f_Tile_longestRow_b98 l2 m = some r) : q_E md_X8_longestRow 5 N (some 0) r m 98 [q_A 69, q_N, q_I l2, q_N] [] := by
  unfold f_Tile_longestRow_b98 at h
  refine q_aload_n (M := md_X8_longestRow) (pc := 98) dX8_longestRow_98 rfl (by decide) ?_
  refine e_gI (M := md_X8_longestRow) (pc := 99) (v := m 69 8) fl_8_74 dX8_longestRow_99 (is_69 hN) rfl ?_
  refine q_aload_n (M := md_X8_longestRow) (pc := 102) dX8_longestRow_102 rfl (by decide) ?_
  refine e_gI (M := md_X8_longestRow) (pc := 103) (v := m 69 6) fl_8_45 dX8_longestRow_103 (is_69 hN) rfl ?_
  refine e_icmp_ne (M := md_X8_longestRow) (pc := 106) (tgt := 113) h rfl rfl dX8_longestRow_106 (by decide) (fun h => ?_) (fun h => ?_)
  · refine q_iconst (M := md_X8_longestRow) (pc := 113) dX8_longestRow_113 ?_
    exact e_iret (M := md_X8_longestRow) (pc := 114) h rfl dX8_longestRow_114
  · refine q_iload_n (M := md_X8_longestRow) (pc := 109) dX8_longestRow_109 rfl ?_
    refine q_goto (M := md_X8_longestRow) (pc := 110) (tgt := 114) dX8_longestRow_110 (by decide) ?_
    exact e_iret (M := md_X8_longestRow) (pc := 114) h rfl dX8_longestRow_114
def f_Tile_longestRow_b51 (k51 : Int → Int → Int → q_Mem → q_Res) (l1 l2 l3 : Int) (m : q_Mem) : q_Res :=
  if 100 ≤ q_w l3 then (f_Tile_longestRow_b98 l2 m)
  else (if q_w (m 69 8) ≤ q_w l3 then (f_Tile_longestRow_b98 l2 m)
  else (q_rd m 72 100 l3 fun v1 =>
  q_rd m 71 100 v1 fun v2 =>
  q_rd m 72 100 l3 fun v3 =>
  q_bd (f_Tile_release l1 v3 m) fun _ m4 =>
  k51 l1 (q_max l2 v2) (l3 + 1) m4))
set_option maxRecDepth 20000 in
theorem w_Tile_longestRow_b51 {k51 : Int → Int → Int → q_Mem → q_Res} {l1 l2 l3 : Int} {r : Int × q_Mem} {m : q_Mem} {N : Nat} (hN : 81 ≤ N) (hk51 : ∀ (l1 l2 l3 : Int) (m : q_Mem), l1 ∈ (q_Lp : List Int) → k51 l1 l2 l3 m = some r → q_E md_X8_longestRow 5 N (some 0) r m 51 [q_A 69, q_A l1, q_I l2, q_I l3] []) (hl1 : l1 ∈ (q_Lp : List Int)) (h : f_Tile_longestRow_b51 k51 l1 l2 l3 m = some r) : q_E md_X8_longestRow 5 N (some 0) r m 51 [q_A 69, q_A l1, q_I l2, q_I l3] [] := by
  unfold f_Tile_longestRow_b51 at h
  refine q_iload_n (M := md_X8_longestRow) (pc := 51) dX8_longestRow_51 rfl ?_
  refine q_bipush (M := md_X8_longestRow) (pc := 52) (x := 100) dX8_longestRow_52 (by decide) ?_
  refine e_icmp_ge (M := md_X8_longestRow) (pc := 54) (tgt := 98) h rfl (q_wlit rfl) dX8_longestRow_54 (by decide) (fun h => ?_) (fun h => ?_)
  · exact q_weak (w_Tile_longestRow_b98 hN  h) ⟨Or.inr rfl, Or.inl rfl, Or.inr rfl, Or.inl rfl, trivial⟩
  · refine q_iload_n (M := md_X8_longestRow) (pc := 57) dX8_longestRow_57 rfl ?_
    refine q_aload_n (M := md_X8_longestRow) (pc := 58) dX8_longestRow_58 rfl (by decide) ?_
    refine e_gI (M := md_X8_longestRow) (pc := 59) (v := m 69 8) fl_8_74 dX8_longestRow_59 (is_69 hN) rfl ?_
    refine e_icmp_ge (M := md_X8_longestRow) (pc := 62) (tgt := 98) h rfl rfl dX8_longestRow_62 (by decide) (fun h => ?_) (fun h => ?_)
    · exact q_weak (w_Tile_longestRow_b98 hN  h) ⟨Or.inr rfl, Or.inl rfl, Or.inr rfl, Or.inl rfl, trivial⟩
    · refine q_iload_n (M := md_X8_longestRow) (pc := 65) dX8_longestRow_65 rfl ?_
      refine q_aload_n (M := md_X8_longestRow) (pc := 66) dX8_longestRow_66 rfl (by decide) ?_
      refine q_getP (M := md_X8_longestRow) (pc := 67) (v := 71) fl_8_15 dX8_longestRow_67 (is_69 hN) rfl ?_
      refine q_aload_n (M := md_X8_longestRow) (pc := 70) dX8_longestRow_70 rfl (by decide) ?_
      refine q_getP (M := md_X8_longestRow) (pc := 71) (v := 72) fl_8_18 dX8_longestRow_71 (is_69 hN) rfl ?_
      refine q_iload_n (M := md_X8_longestRow) (pc := 74) dX8_longestRow_74 rfl ?_
      refine e_rd (M := md_X8_longestRow) (pc := 75) h dX8_longestRow_75 (ar_72 hN) (fun v1 h => ?_)
      refine e_rd (M := md_X8_longestRow) (pc := 76) h dX8_longestRow_76 (ar_71 hN) (fun v2 h => ?_)
      refine e_max (M := md_X8_longestRow) (pc := 77) jl_8_31 dX8_longestRow_77 (by decide) (Nat.le_of_ble_eq_true rfl) ?_
      refine e_ist_n (M := md_X8_longestRow) (pc := 80) (ls' := [q_A 69, q_A l1, q_I (q_max l2 v2), q_I l3]) dX8_longestRow_80 (by decide) (q_pl rfl) rfl ?_
      refine q_aload_n (M := md_X8_longestRow) (pc := 81) dX8_longestRow_81 rfl (by decide) ?_
      refine q_aload_n (M := md_X8_longestRow) (pc := 82) dX8_longestRow_82 rfl (nn_Lp hl1) ?_
      refine q_aload_n (M := md_X8_longestRow) (pc := 83) dX8_longestRow_83 rfl (by decide) ?_
      refine q_getP (M := md_X8_longestRow) (pc := 84) (v := 72) fl_8_18 dX8_longestRow_84 (is_69 hN) rfl ?_
      refine q_iload_n (M := md_X8_longestRow) (pc := 87) dX8_longestRow_87 rfl ?_
      refine e_rd (M := md_X8_longestRow) (pc := 88) h dX8_longestRow_88 (ar_72 hN) (fun v3 h => ?_)
      refine e_callVv (M := md_X8_longestRow) (pc := 89) (d' := 4) (av := [q_A l1, q_I v3]) (c := 69) h ml_8_81 im_X8_release se_X8_release dX8_longestRow_89 (fun v he => ok_X8_release hN hl1 he) rfl (is_69 hN) ⟨_, _, rfl⟩ (by decide) (Nat.le_of_ble_eq_true rfl) ⟨by decide, by decide⟩ rfl (fun _ m4 h => ?_)
      refine e_inc (M := md_X8_longestRow) (pc := 92) (x := l3) (ls' := [q_A 69, q_A l1, q_I (q_max l2 v2), q_I (l3 + 1)]) dX8_longestRow_92 rfl (by decide) (q_pl rfl) rfl ?_
      refine q_goto (M := md_X8_longestRow) (pc := 95) (tgt := 51) dX8_longestRow_95 (by decide) ?_
      exact q_weak (hk51 _ _ _ _ hl1 h) ⟨Or.inr rfl, Or.inr rfl, Or.inr rfl, Or.inr rfl, trivial⟩
def f_Tile_longestRow_l51 : Nat → Int → Int → Int → q_Mem → q_Res
  | 0 => fun _ _ _ _ => none
  | n + 1 => fun l1 l2 l3 m => f_Tile_longestRow_b51 (f_Tile_longestRow_l51 n) l1 l2 l3 m
theorem w_Tile_longestRow_l51 {r : Int × q_Mem} {N : Nat} (hN : 81 ≤ N) : ∀ (n : Nat) (l1 l2 l3 : Int) (m : q_Mem), l1 ∈ (q_Lp : List Int) → f_Tile_longestRow_l51 n l1 l2 l3 m = some r → q_E md_X8_longestRow 5 N (some 0) r m 51 [q_A 69, q_A l1, q_I l2, q_I l3] [] := by
  intro n
  induction n with
  | zero => intro l1 l2 l3 m hl1 h; exact q_no h
  | succ n ih =>
    intro l1 l2 l3 m hl1 h
    exact w_Tile_longestRow_b51 hN (fun l1 l2 l3 m hl1 h => ih l1 l2 l3 m hl1 h) hl1 h
def f_Tile_longestRow_b12 (k12 : Int → Int → q_Mem → q_Res) (l1 l2 : Int) (m : q_Mem) : q_Res :=
  if q_w (m 69 6) ≤ q_w l2 then (f_Tile_longestRow_l51 q_F l1 0 0 m)
  else (q_wr m 71 100 l2 1 fun m1 =>
  q_rd m1 70 100 l2 fun v2 =>
  if q_w v2 = 0 then (q_bd (f_Tile_enqueue l2 m1) fun _ m3 =>
  f_Tile_longestRow_b41 k12 l1 l2 m3)
  else (f_Tile_longestRow_b41 k12 l1 l2 m1))
set_option maxRecDepth 20000 in
theorem w_Tile_longestRow_b12 {k12 : Int → Int → q_Mem → q_Res} {l1 l2 : Int} {r : Int × q_Mem} {m : q_Mem} {N : Nat} (hN : 81 ≤ N) (hk12 : ∀ (l1 l2 : Int) (m : q_Mem), l1 ∈ (q_Lp : List Int) → k12 l1 l2 m = some r → q_E md_X8_longestRow 5 N (some 0) r m 12 [q_A 69, q_A l1, q_I l2, q_N] []) (hl1 : l1 ∈ (q_Lp : List Int)) (h : f_Tile_longestRow_b12 k12 l1 l2 m = some r) : q_E md_X8_longestRow 5 N (some 0) r m 12 [q_A 69, q_A l1, q_I l2, q_N] [] := by
  unfold f_Tile_longestRow_b12 at h
  refine q_iload_n (M := md_X8_longestRow) (pc := 12) dX8_longestRow_12 rfl ?_
  refine q_aload_n (M := md_X8_longestRow) (pc := 13) dX8_longestRow_13 rfl (by decide) ?_
  refine e_gI (M := md_X8_longestRow) (pc := 14) (v := m 69 6) fl_8_45 dX8_longestRow_14 (is_69 hN) rfl ?_
  refine e_icmp_ge (M := md_X8_longestRow) (pc := 17) (tgt := 47) h rfl rfl dX8_longestRow_17 (by decide) (fun h => ?_) (fun h => ?_)
  · refine q_iconst (M := md_X8_longestRow) (pc := 47) dX8_longestRow_47 ?_
    refine e_ist_n (M := md_X8_longestRow) (pc := 48) (ls' := [q_A 69, q_A l1, q_I 0, q_N]) dX8_longestRow_48 (by decide) (q_pl rfl) rfl ?_
    refine q_iconst (M := md_X8_longestRow) (pc := 49) dX8_longestRow_49 ?_
    refine e_ist_n (M := md_X8_longestRow) (pc := 50) (ls' := [q_A 69, q_A l1, q_I 0, q_I 0]) dX8_longestRow_50 (by decide) (q_pl rfl) rfl ?_
    exact q_weak (w_Tile_longestRow_l51 hN q_F _ _ _ _ hl1 h) ⟨Or.inr rfl, Or.inr rfl, Or.inr rfl, Or.inr rfl, trivial⟩
  · refine q_aload_n (M := md_X8_longestRow) (pc := 20) dX8_longestRow_20 rfl (by decide) ?_
    refine q_getP (M := md_X8_longestRow) (pc := 21) (v := 71) fl_8_15 dX8_longestRow_21 (is_69 hN) rfl ?_
    refine q_iload_n (M := md_X8_longestRow) (pc := 24) dX8_longestRow_24 rfl ?_
    refine q_iconst (M := md_X8_longestRow) (pc := 25) dX8_longestRow_25 ?_
    refine e_wr (M := md_X8_longestRow) (pc := 26) h dX8_longestRow_26 (ar_71 hN) (fun m1 h => ?_)
    refine q_aload_n (M := md_X8_longestRow) (pc := 27) dX8_longestRow_27 rfl (by decide) ?_
    refine q_getP (M := md_X8_longestRow) (pc := 28) (v := 70) fl_8_9 dX8_longestRow_28 (is_69 hN) rfl ?_
    refine q_iload_n (M := md_X8_longestRow) (pc := 31) dX8_longestRow_31 rfl ?_
    refine e_rd (M := md_X8_longestRow) (pc := 32) h dX8_longestRow_32 (ar_70 hN) (fun v2 h => ?_)
    refine e_if_ne (M := md_X8_longestRow) (pc := 33) (tgt := 41) h rfl dX8_longestRow_33 (by decide) (fun h => ?_) (fun h => ?_)
    · exact q_weak (w_Tile_longestRow_b41 hN hk12 hl1 h) ⟨Or.inr rfl, Or.inr rfl, Or.inr rfl, Or.inl rfl, trivial⟩
    · refine q_aload_n (M := md_X8_longestRow) (pc := 36) dX8_longestRow_36 rfl (by decide) ?_
      refine q_iload_n (M := md_X8_longestRow) (pc := 37) dX8_longestRow_37 rfl ?_
      refine e_callVv (M := md_X8_longestRow) (pc := 38) (d' := 1) (av := [q_I l2]) (c := 69) h ml_8_77 im_X8_enqueue se_X8_enqueue dX8_longestRow_38 (fun v he => ok_X8_enqueue hN  he) rfl (is_69 hN) ⟨_, _, rfl⟩ (by decide) (Nat.le_of_ble_eq_true rfl) ⟨by decide, by decide⟩ rfl (fun _ m3 h => ?_)
      exact q_weak (w_Tile_longestRow_b41 hN hk12 hl1 h) ⟨Or.inr rfl, Or.inr rfl, Or.inr rfl, Or.inl rfl, trivial⟩
def f_Tile_longestRow_l12 : Nat → Int → Int → q_Mem → q_Res
  | 0 => fun _ _ _ => none
  | n + 1 => fun l1 l2 m => f_Tile_longestRow_b12 (f_Tile_longestRow_l12 n) l1 l2 m
theorem w_Tile_longestRow_l12 {r : Int × q_Mem} {N : Nat} (hN : 81 ≤ N) : ∀ (n : Nat) (l1 l2 : Int) (m : q_Mem), l1 ∈ (q_Lp : List Int) → f_Tile_longestRow_l12 n l1 l2 m = some r → q_E md_X8_longestRow 5 N (some 0) r m 12 [q_A 69, q_A l1, q_I l2, q_N] [] := by
  intro n
  induction n with
  | zero => intro l1 l2 m hl1 h; exact q_no h
  | succ n ih =>
    intro l1 l2 m hl1 h
    exact w_Tile_longestRow_b12 hN (fun l1 l2 m hl1 h => ih l1 l2 m hl1 h) hl1 h
def f_Tile_longestRow (l1 : Int) (m : q_Mem) : q_Res :=
  q_bd (f_Tile_countWaits l1 m) fun _ m1 =>
  q_pf m1 69 8 0 fun m2 =>
  f_Tile_longestRow_l12 q_F l1 0 m2
set_option maxRecDepth 20000 in
theorem ok_X8_longestRow {l1 : Int} {r : Int × q_Mem} {m : q_Mem} {N : Nat} (hN : 81 ≤ N) (hl1 : l1 ∈ (q_Lp : List Int)) (h : f_Tile_longestRow l1 m = some r) : q_C md_X8_longestRow (q_room 5) 0 0 [q_A 69, q_A l1] (q_g N) m (some (q_I r.1), q_g N, r.2) := by
  refine q_ofR (by decide) 2 (ls := [q_A 69, q_A l1, q_N, q_N]) rfl (Nat.le_of_ble_eq_true rfl) ?_
  change q_E md_X8_longestRow 5 N (some 0) r m 0 [q_A 69, q_A l1, q_N, q_N] []
  unfold f_Tile_longestRow at h
  refine q_aload_n (M := md_X8_longestRow) (pc := 0) dX8_longestRow_0 rfl (by decide) ?_
  refine q_aload_n (M := md_X8_longestRow) (pc := 1) dX8_longestRow_1 rfl (nn_Lp hl1) ?_
  refine e_callVv (M := md_X8_longestRow) (pc := 2) (d' := 3) (av := [q_A l1]) (c := 69) h ml_8_70 im_X8_countWaits se_X8_countWaits dX8_longestRow_2 (fun v he => ok_X8_countWaits hN hl1 he) rfl (is_69 hN) ⟨_, _, rfl⟩ (by decide) (Nat.le_of_ble_eq_true rfl) ⟨by decide, by decide⟩ rfl (fun _ m1 h => ?_)
  refine q_aload_n (M := md_X8_longestRow) (pc := 5) dX8_longestRow_5 rfl (by decide) ?_
  refine q_iconst (M := md_X8_longestRow) (pc := 6) dX8_longestRow_6 ?_
  refine e_pfI (M := md_X8_longestRow) (pc := 7) h fl_8_74 dX8_longestRow_7 (is_69 hN) rfl (fun m2 h => ?_)
  refine q_iconst (M := md_X8_longestRow) (pc := 10) dX8_longestRow_10 ?_
  refine e_ist_n (M := md_X8_longestRow) (pc := 11) (ls' := [q_A 69, q_A l1, q_I 0, q_N]) dX8_longestRow_11 (by decide) (q_pl rfl) rfl ?_
  exact q_weak (w_Tile_longestRow_l12 hN q_F _ _ _ hl1 h) ⟨Or.inr rfl, Or.inr rfl, Or.inr rfl, Or.inl rfl, trivial⟩
def f_Tile_choose_b101 (k7 : Int → Int → Int → q_Mem → q_Res) (k18 : Int → Int → Int → Int → q_Mem → q_Res) (l1 l2 l3 l4 : Int) (m : q_Mem) : q_Res :=
  k18 l1 l2 l3 (l4 + 1) m
set_option maxRecDepth 20000 in
theorem w_Tile_choose_b101 {k7 : Int → Int → Int → q_Mem → q_Res} {k18 : Int → Int → Int → Int → q_Mem → q_Res} {l1 l2 l3 l4 : Int} {r : Int × q_Mem} {m : q_Mem} {N : Nat} (hN : 81 ≤ N) (hk7 : ∀ (l1 l2 l3 : Int) (m : q_Mem), l1 ∈ (q_Lp : List Int) → k7 l1 l2 l3 m = some r → q_E md_X8_choose 6 N (some 0) r m 7 [q_A 69, q_A l1, q_I l2, q_I l3, q_N, q_N] []) (hk18 : ∀ (l1 l2 l3 l4 : Int) (m : q_Mem), l1 ∈ (q_Lp : List Int) → k18 l1 l2 l3 l4 m = some r → q_E md_X8_choose 6 N (some 0) r m 18 [q_A 69, q_A l1, q_I l2, q_I l3, q_I l4, q_N] []) (hl1 : l1 ∈ (q_Lp : List Int)) (h : f_Tile_choose_b101 k7 k18 l1 l2 l3 l4 m = some r) : q_E md_X8_choose 6 N (some 0) r m 101 [q_A 69, q_A l1, q_I l2, q_I l3, q_I l4, q_N] [] := by
  unfold f_Tile_choose_b101 at h
  refine e_inc (M := md_X8_choose) (pc := 101) (x := l4) (ls' := [q_A 69, q_A l1, q_I l2, q_I l3, q_I (l4 + 1), q_N]) dX8_choose_101 rfl (by decide) (q_pl rfl) rfl ?_
  refine q_goto (M := md_X8_choose) (pc := 104) (tgt := 18) dX8_choose_104 (by decide) ?_
  exact q_weak (hk18 _ _ _ _ _ hl1 h) ⟨Or.inr rfl, Or.inr rfl, Or.inr rfl, Or.inr rfl, Or.inr rfl, Or.inl rfl, trivial⟩
def f_Tile_choose_b67 (k7 : Int → Int → Int → q_Mem → q_Res) (k18 : Int → Int → Int → Int → q_Mem → q_Res) (l1 l2 l3 l4 s0 : Int) (m : q_Mem) : q_Res :=
  if q_w s0 = 0 then (f_Tile_choose_b101 k7 k18 l1 l2 l3 l4 m)
  else (q_bd (f_Tile_longestRow l1 m) fun v1 m2 =>
  if q_w v1 ≤ 0 then (f_Tile_choose_b101 k7 k18 l1 l2 l3 l4 m2)
  else (q_pf m2 69 9 l3 fun m3 =>
  q_pf m3 69 10 l4 fun m4 =>
  q_pf m4 69 11 (m4 69 7) fun m5 =>
  f_Tile_choose_b101 k7 k18 l1 l2 l3 l4 m5))
set_option maxRecDepth 20000 in
theorem w_Tile_choose_b67 {k7 : Int → Int → Int → q_Mem → q_Res} {k18 : Int → Int → Int → Int → q_Mem → q_Res} {l1 l2 l3 l4 s0 : Int} {r : Int × q_Mem} {m : q_Mem} {N : Nat} (hN : 81 ≤ N) (hk7 : ∀ (l1 l2 l3 : Int) (m : q_Mem), l1 ∈ (q_Lp : List Int) → k7 l1 l2 l3 m = some r → q_E md_X8_choose 6 N (some 0) r m 7 [q_A 69, q_A l1, q_I l2, q_I l3, q_N, q_N] []) (hk18 : ∀ (l1 l2 l3 l4 : Int) (m : q_Mem), l1 ∈ (q_Lp : List Int) → k18 l1 l2 l3 l4 m = some r → q_E md_X8_choose 6 N (some 0) r m 18 [q_A 69, q_A l1, q_I l2, q_I l3, q_I l4, q_N] []) (hl1 : l1 ∈ (q_Lp : List Int)) (h : f_Tile_choose_b67 k7 k18 l1 l2 l3 l4 s0 m = some r) : q_E md_X8_choose 6 N (some 0) r m 67 [q_A 69, q_A l1, q_I l2, q_I l3, q_I l4, q_N] [q_I s0] := by
  unfold f_Tile_choose_b67 at h
  refine e_ist (M := md_X8_choose) (pc := 67) (ls' := [q_A 69, q_A l1, q_I l2, q_I l3, q_I l4, q_I s0]) dX8_choose_67 (by decide) (q_pl rfl) rfl ?_
  refine q_iload (M := md_X8_choose) (pc := 69) dX8_choose_69 rfl ?_
  refine e_if_eq (M := md_X8_choose) (pc := 71) (tgt := 101) h rfl dX8_choose_71 (by decide) (fun h => ?_) (fun h => ?_)
  · exact q_weak (w_Tile_choose_b101 hN hk7 hk18 hl1 h) ⟨Or.inr rfl, Or.inr rfl, Or.inr rfl, Or.inr rfl, Or.inr rfl, Or.inl rfl, trivial⟩
  · refine q_aload_n (M := md_X8_choose) (pc := 74) dX8_choose_74 rfl (by decide) ?_
    refine q_aload_n (M := md_X8_choose) (pc := 75) dX8_choose_75 rfl (nn_Lp hl1) ?_
    refine e_callVi (M := md_X8_choose) (pc := 76) (d' := 5) (av := [q_A l1]) (c := 69) h ml_8_121 im_X8_longestRow se_X8_longestRow dX8_choose_76 (fun v he => ok_X8_longestRow hN hl1 he) rfl (is_69 hN) ⟨_, _, rfl⟩ (by decide) (Nat.le_of_ble_eq_true rfl) ⟨by decide, by decide⟩ rfl (fun v1 m2 h => ?_)
    refine e_if_le (M := md_X8_choose) (pc := 79) (tgt := 101) h rfl dX8_choose_79 (by decide) (fun h => ?_) (fun h => ?_)
    · exact q_weak (w_Tile_choose_b101 hN hk7 hk18 hl1 h) ⟨Or.inr rfl, Or.inr rfl, Or.inr rfl, Or.inr rfl, Or.inr rfl, Or.inl rfl, trivial⟩
    · refine q_aload_n (M := md_X8_choose) (pc := 82) dX8_choose_82 rfl (by decide) ?_
      refine q_iload_n (M := md_X8_choose) (pc := 83) dX8_choose_83 rfl ?_
      refine e_pfI (M := md_X8_choose) (pc := 84) h fl_8_112 dX8_choose_84 (is_69 hN) rfl (fun m3 h => ?_)
      refine q_aload_n (M := md_X8_choose) (pc := 87) dX8_choose_87 rfl (by decide) ?_
      refine q_iload (M := md_X8_choose) (pc := 88) dX8_choose_88 rfl ?_
      refine e_pfI (M := md_X8_choose) (pc := 90) h fl_8_125 dX8_choose_90 (is_69 hN) rfl (fun m4 h => ?_)
      refine q_aload_n (M := md_X8_choose) (pc := 93) dX8_choose_93 rfl (by decide) ?_
      refine q_aload_n (M := md_X8_choose) (pc := 94) dX8_choose_94 rfl (by decide) ?_
      refine e_gI (M := md_X8_choose) (pc := 95) (v := m4 69 7) fl_8_48 dX8_choose_95 (is_69 hN) rfl ?_
      refine e_pfI (M := md_X8_choose) (pc := 98) h fl_8_118 dX8_choose_98 (is_69 hN) rfl (fun m5 h => ?_)
      exact q_weak (w_Tile_choose_b101 hN hk7 hk18 hl1 h) ⟨Or.inr rfl, Or.inr rfl, Or.inr rfl, Or.inr rfl, Or.inr rfl, Or.inl rfl, trivial⟩
def f_Tile_choose_b62 (k7 : Int → Int → Int → q_Mem → q_Res) (k18 : Int → Int → Int → Int → q_Mem → q_Res) (l1 l2 l3 l4 : Int) (m : q_Mem) : q_Res :=
  f_Tile_choose_b67 k7 k18 l1 l2 l3 l4 1 m
set_option maxRecDepth 20000 in
theorem w_Tile_choose_b62 {k7 : Int → Int → Int → q_Mem → q_Res} {k18 : Int → Int → Int → Int → q_Mem → q_Res} {l1 l2 l3 l4 : Int} {r : Int × q_Mem} {m : q_Mem} {N : Nat} (hN : 81 ≤ N) (hk7 : ∀ (l1 l2 l3 : Int) (m : q_Mem), l1 ∈ (q_Lp : List Int) → k7 l1 l2 l3 m = some r → q_E md_X8_choose 6 N (some 0) r m 7 [q_A 69, q_A l1, q_I l2, q_I l3, q_N, q_N] []) (hk18 : ∀ (l1 l2 l3 l4 : Int) (m : q_Mem), l1 ∈ (q_Lp : List Int) → k18 l1 l2 l3 l4 m = some r → q_E md_X8_choose 6 N (some 0) r m 18 [q_A 69, q_A l1, q_I l2, q_I l3, q_I l4, q_N] []) (hl1 : l1 ∈ (q_Lp : List Int)) (h : f_Tile_choose_b62 k7 k18 l1 l2 l3 l4 m = some r) : q_E md_X8_choose 6 N (some 0) r m 62 [q_A 69, q_A l1, q_I l2, q_I l3, q_I l4, q_N] [] := by
  unfold f_Tile_choose_b62 at h
  refine q_iconst (M := md_X8_choose) (pc := 62) dX8_choose_62 ?_
  refine q_goto (M := md_X8_choose) (pc := 63) (tgt := 67) dX8_choose_63 (by decide) ?_
  exact q_weak (w_Tile_choose_b67 hN hk7 hk18 hl1 h) ⟨Or.inr rfl, Or.inr rfl, Or.inr rfl, Or.inr rfl, Or.inr rfl, Or.inl rfl, trivial⟩
def f_Tile_choose_b107 (k7 : Int → Int → Int → q_Mem → q_Res) (l1 l2 l3 : Int) (m : q_Mem) : q_Res :=
  k7 l1 l2 (l3 + 1) m
set_option maxRecDepth 20000 in
theorem w_Tile_choose_b107 {k7 : Int → Int → Int → q_Mem → q_Res} {l1 l2 l3 : Int} {r : Int × q_Mem} {m : q_Mem} {N : Nat} (hN : 81 ≤ N) (hk7 : ∀ (l1 l2 l3 : Int) (m : q_Mem), l1 ∈ (q_Lp : List Int) → k7 l1 l2 l3 m = some r → q_E md_X8_choose 6 N (some 0) r m 7 [q_A 69, q_A l1, q_I l2, q_I l3, q_N, q_N] []) (hl1 : l1 ∈ (q_Lp : List Int)) (h : f_Tile_choose_b107 k7 l1 l2 l3 m = some r) : q_E md_X8_choose 6 N (some 0) r m 107 [q_A 69, q_A l1, q_I l2, q_I l3, q_N, q_N] [] := by
  unfold f_Tile_choose_b107 at h
  refine e_inc (M := md_X8_choose) (pc := 107) (x := l3) (ls' := [q_A 69, q_A l1, q_I l2, q_I (l3 + 1), q_N, q_N]) dX8_choose_107 rfl (by decide) (q_pl rfl) rfl ?_
  refine q_goto (M := md_X8_choose) (pc := 110) (tgt := 7) dX8_choose_110 (by decide) ?_
  exact q_weak (hk7 _ _ _ _ hl1 h) ⟨Or.inr rfl, Or.inr rfl, Or.inr rfl, Or.inr rfl, Or.inl rfl, Or.inl rfl, trivial⟩
def f_Tile_choose_b18 (k7 : Int → Int → Int → q_Mem → q_Res) (k18 : Int → Int → Int → Int → q_Mem → q_Res) (l1 l2 l3 l4 : Int) (m : q_Mem) : q_Res :=
  if q_w (m l1 1) < q_w l4 then (f_Tile_choose_b107 k7 l1 l2 l3 m)
  else (if q_w l2 < q_w (l3 * l4) then (f_Tile_choose_b107 k7 l1 l2 l3 m)
  else (q_bd (f_Tile_cut l1 l3 l4 m) fun _ m1 =>
  if q_w (m1 69 9) = (-1) then (f_Tile_choose_b62 k7 k18 l1 l2 l3 l4 m1)
  else (if q_w (m1 69 11) ≤ q_w (m1 69 7) then (f_Tile_choose_b67 k7 k18 l1 l2 l3 l4 0 m1)
  else (f_Tile_choose_b62 k7 k18 l1 l2 l3 l4 m1))))
set_option maxRecDepth 20000 in
theorem w_Tile_choose_b18 {k7 : Int → Int → Int → q_Mem → q_Res} {k18 : Int → Int → Int → Int → q_Mem → q_Res} {l1 l2 l3 l4 : Int} {r : Int × q_Mem} {m : q_Mem} {N : Nat} (hN : 81 ≤ N) (hk7 : ∀ (l1 l2 l3 : Int) (m : q_Mem), l1 ∈ (q_Lp : List Int) → k7 l1 l2 l3 m = some r → q_E md_X8_choose 6 N (some 0) r m 7 [q_A 69, q_A l1, q_I l2, q_I l3, q_N, q_N] []) (hk18 : ∀ (l1 l2 l3 l4 : Int) (m : q_Mem), l1 ∈ (q_Lp : List Int) → k18 l1 l2 l3 l4 m = some r → q_E md_X8_choose 6 N (some 0) r m 18 [q_A 69, q_A l1, q_I l2, q_I l3, q_I l4, q_N] []) (hl1 : l1 ∈ (q_Lp : List Int)) (h : f_Tile_choose_b18 k7 k18 l1 l2 l3 l4 m = some r) : q_E md_X8_choose 6 N (some 0) r m 18 [q_A 69, q_A l1, q_I l2, q_I l3, q_I l4, q_N] [] := by
  unfold f_Tile_choose_b18 at h
  refine q_iload (M := md_X8_choose) (pc := 18) dX8_choose_18 rfl ?_
  refine q_aload_n (M := md_X8_choose) (pc := 20) dX8_choose_20 rfl (nn_Lp hl1) ?_
  refine e_gI (M := md_X8_choose) (pc := 21) (v := m l1 1) fl_8_37 dX8_choose_21 (is_Lp hN hl1) rfl ?_
  refine e_icmp_gt (M := md_X8_choose) (pc := 24) (tgt := 107) h rfl rfl dX8_choose_24 (by decide) (fun h => ?_) (fun h => ?_)
  · exact q_weak (w_Tile_choose_b107 hN hk7 hl1 h) ⟨Or.inr rfl, Or.inr rfl, Or.inr rfl, Or.inr rfl, Or.inl rfl, Or.inl rfl, trivial⟩
  · refine q_iload_n (M := md_X8_choose) (pc := 27) dX8_choose_27 rfl ?_
    refine q_iload (M := md_X8_choose) (pc := 28) dX8_choose_28 rfl ?_
    refine q_imul (M := md_X8_choose) (pc := 30) dX8_choose_30 ?_
    refine q_iload_n (M := md_X8_choose) (pc := 31) dX8_choose_31 rfl ?_
    refine e_icmp_gt (M := md_X8_choose) (pc := 32) (tgt := 107) h rfl rfl dX8_choose_32 (by decide) (fun h => ?_) (fun h => ?_)
    · exact q_weak (w_Tile_choose_b107 hN hk7 hl1 h) ⟨Or.inr rfl, Or.inr rfl, Or.inr rfl, Or.inr rfl, Or.inl rfl, Or.inl rfl, trivial⟩
    · refine q_aload_n (M := md_X8_choose) (pc := 35) dX8_choose_35 rfl (by decide) ?_
      refine q_aload_n (M := md_X8_choose) (pc := 36) dX8_choose_36 rfl (nn_Lp hl1) ?_
      refine q_iload_n (M := md_X8_choose) (pc := 37) dX8_choose_37 rfl ?_
      refine q_iload (M := md_X8_choose) (pc := 38) dX8_choose_38 rfl ?_
      refine e_callVv (M := md_X8_choose) (pc := 40) (d' := 2) (av := [q_A l1, q_I l3, q_I l4]) (c := 69) h ml_8_115 im_X8_cut se_X8_cut dX8_choose_40 (fun v he => ok_X8_cut hN hl1 he) rfl (is_69 hN) ⟨_, _, rfl⟩ (by decide) (Nat.le_of_ble_eq_true rfl) ⟨by decide, by decide⟩ rfl (fun _ m1 h => ?_)
      refine q_aload_n (M := md_X8_choose) (pc := 43) dX8_choose_43 rfl (by decide) ?_
      refine e_gI (M := md_X8_choose) (pc := 44) (v := m1 69 9) fl_8_112 dX8_choose_44 (is_69 hN) rfl ?_
      refine q_iconst (M := md_X8_choose) (pc := 47) dX8_choose_47 ?_
      refine e_icmp_eq (M := md_X8_choose) (pc := 48) (tgt := 62) h rfl (q_wlit rfl) dX8_choose_48 (by decide) (fun h => ?_) (fun h => ?_)
      · exact q_weak (w_Tile_choose_b62 hN hk7 hk18 hl1 h) ⟨Or.inr rfl, Or.inr rfl, Or.inr rfl, Or.inr rfl, Or.inr rfl, Or.inl rfl, trivial⟩
      · refine q_aload_n (M := md_X8_choose) (pc := 51) dX8_choose_51 rfl (by decide) ?_
        refine e_gI (M := md_X8_choose) (pc := 52) (v := m1 69 7) fl_8_48 dX8_choose_52 (is_69 hN) rfl ?_
        refine q_aload_n (M := md_X8_choose) (pc := 55) dX8_choose_55 rfl (by decide) ?_
        refine e_gI (M := md_X8_choose) (pc := 56) (v := m1 69 11) fl_8_118 dX8_choose_56 (is_69 hN) rfl ?_
        refine e_icmp_ge (M := md_X8_choose) (pc := 59) (tgt := 66) h rfl rfl dX8_choose_59 (by decide) (fun h => ?_) (fun h => ?_)
        · refine q_iconst (M := md_X8_choose) (pc := 66) dX8_choose_66 ?_
          exact q_weak (w_Tile_choose_b67 hN hk7 hk18 hl1 h) ⟨Or.inr rfl, Or.inr rfl, Or.inr rfl, Or.inr rfl, Or.inr rfl, Or.inl rfl, trivial⟩
        · exact q_weak (w_Tile_choose_b62 hN hk7 hk18 hl1 h) ⟨Or.inr rfl, Or.inr rfl, Or.inr rfl, Or.inr rfl, Or.inr rfl, Or.inl rfl, trivial⟩
def f_Tile_choose_l18 (k7 : Int → Int → Int → q_Mem → q_Res) : Nat → Int → Int → Int → Int → q_Mem → q_Res
  | 0 => fun _ _ _ _ _ => none
  | n + 1 => fun l1 l2 l3 l4 m => f_Tile_choose_b18 k7 (f_Tile_choose_l18 k7 n) l1 l2 l3 l4 m
theorem w_Tile_choose_l18 {k7 : Int → Int → Int → q_Mem → q_Res} {r : Int × q_Mem} {N : Nat} (hN : 81 ≤ N) (hk7 : ∀ (l1 l2 l3 : Int) (m : q_Mem), l1 ∈ (q_Lp : List Int) → k7 l1 l2 l3 m = some r → q_E md_X8_choose 6 N (some 0) r m 7 [q_A 69, q_A l1, q_I l2, q_I l3, q_N, q_N] []) : ∀ (n : Nat) (l1 l2 l3 l4 : Int) (m : q_Mem), l1 ∈ (q_Lp : List Int) → f_Tile_choose_l18 k7 n l1 l2 l3 l4 m = some r → q_E md_X8_choose 6 N (some 0) r m 18 [q_A 69, q_A l1, q_I l2, q_I l3, q_I l4, q_N] [] := by
  intro n
  induction n with
  | zero => intro l1 l2 l3 l4 m hl1 h; exact q_no h
  | succ n ih =>
    intro l1 l2 l3 l4 m hl1 h
    exact w_Tile_choose_b18 hN hk7 (fun l1 l2 l3 l4 m hl1 h => ih l1 l2 l3 l4 m hl1 h) hl1 h
def f_Tile_choose_b7 (k7 : Int → Int → Int → q_Mem → q_Res) (l1 l2 l3 : Int) (m : q_Mem) : q_Res :=
  if q_w (m l1 0) < q_w l3 then (if q_w (m 69 9) = (-1) then (q_rz 0 m)
  else (q_rz 1 m))
  else (f_Tile_choose_l18 k7 q_F l1 l2 l3 1 m)
set_option maxRecDepth 20000 in
theorem w_Tile_choose_b7 {k7 : Int → Int → Int → q_Mem → q_Res} {l1 l2 l3 : Int} {r : Int × q_Mem} {m : q_Mem} {N : Nat} (hN : 81 ≤ N) (hk7 : ∀ (l1 l2 l3 : Int) (m : q_Mem), l1 ∈ (q_Lp : List Int) → k7 l1 l2 l3 m = some r → q_E md_X8_choose 6 N (some 0) r m 7 [q_A 69, q_A l1, q_I l2, q_I l3, q_N, q_N] []) (hl1 : l1 ∈ (q_Lp : List Int)) (h : f_Tile_choose_b7 k7 l1 l2 l3 m = some r) : q_E md_X8_choose 6 N (some 0) r m 7 [q_A 69, q_A l1, q_I l2, q_I l3, q_N, q_N] [] := by
  unfold f_Tile_choose_b7 at h
  refine q_iload_n (M := md_X8_choose) (pc := 7) dX8_choose_7 rfl ?_
  refine q_aload_n (M := md_X8_choose) (pc := 8) dX8_choose_8 rfl (nn_Lp hl1) ?_
  refine e_gI (M := md_X8_choose) (pc := 9) (v := m l1 0) fl_8_42 dX8_choose_9 (is_Lp hN hl1) rfl ?_
  refine e_icmp_gt (M := md_X8_choose) (pc := 12) (tgt := 113) h rfl rfl dX8_choose_12 (by decide) (fun h => ?_) (fun h => ?_)
  · refine q_aload_n (M := md_X8_choose) (pc := 113) dX8_choose_113 rfl (by decide) ?_
    refine e_gI (M := md_X8_choose) (pc := 114) (v := m 69 9) fl_8_112 dX8_choose_114 (is_69 hN) rfl ?_
    refine q_iconst (M := md_X8_choose) (pc := 117) dX8_choose_117 ?_
    refine e_icmp_eq (M := md_X8_choose) (pc := 118) (tgt := 125) h rfl (q_wlit rfl) dX8_choose_118 (by decide) (fun h => ?_) (fun h => ?_)
    · refine q_iconst (M := md_X8_choose) (pc := 125) dX8_choose_125 ?_
      exact e_zret (M := md_X8_choose) (pc := 126) h rfl dX8_choose_126
    · refine q_iconst (M := md_X8_choose) (pc := 121) dX8_choose_121 ?_
      refine q_goto (M := md_X8_choose) (pc := 122) (tgt := 126) dX8_choose_122 (by decide) ?_
      exact e_zret (M := md_X8_choose) (pc := 126) h rfl dX8_choose_126
  · refine q_iconst (M := md_X8_choose) (pc := 15) dX8_choose_15 ?_
    refine e_ist (M := md_X8_choose) (pc := 16) (ls' := [q_A 69, q_A l1, q_I l2, q_I l3, q_I 1, q_N]) dX8_choose_16 (by decide) (q_pl rfl) rfl ?_
    exact q_weak (w_Tile_choose_l18 hN hk7 q_F _ _ _ _ _ hl1 h) ⟨Or.inr rfl, Or.inr rfl, Or.inr rfl, Or.inr rfl, Or.inr rfl, Or.inl rfl, trivial⟩
def f_Tile_choose_l7 : Nat → Int → Int → Int → q_Mem → q_Res
  | 0 => fun _ _ _ _ => none
  | n + 1 => fun l1 l2 l3 m => f_Tile_choose_b7 (f_Tile_choose_l7 n) l1 l2 l3 m
theorem w_Tile_choose_l7 {r : Int × q_Mem} {N : Nat} (hN : 81 ≤ N) : ∀ (n : Nat) (l1 l2 l3 : Int) (m : q_Mem), l1 ∈ (q_Lp : List Int) → f_Tile_choose_l7 n l1 l2 l3 m = some r → q_E md_X8_choose 6 N (some 0) r m 7 [q_A 69, q_A l1, q_I l2, q_I l3, q_N, q_N] [] := by
  intro n
  induction n with
  | zero => intro l1 l2 l3 m hl1 h; exact q_no h
  | succ n ih =>
    intro l1 l2 l3 m hl1 h
    exact w_Tile_choose_b7 hN (fun l1 l2 l3 m hl1 h => ih l1 l2 l3 m hl1 h) hl1 h
def f_Tile_choose (l1 l2 : Int) (m : q_Mem) : q_Res :=
  q_pf m 69 9 (-1) fun m1 =>
  f_Tile_choose_l7 q_F l1 l2 1 m1
set_option maxRecDepth 20000 in
theorem ok_X8_choose {l1 l2 : Int} {r : Int × q_Mem} {m : q_Mem} {N : Nat} (hN : 81 ≤ N) (hl1 : l1 ∈ (q_Lp : List Int)) (h : f_Tile_choose l1 l2 m = some r) : q_C md_X8_choose (q_room 6) 0 0 [q_A 69, q_A l1, q_I l2] (q_g N) m (some (q_I r.1), q_g N, r.2) := by
  refine q_ofR (by decide) 3 (ls := [q_A 69, q_A l1, q_I l2, q_N, q_N, q_N]) rfl (Nat.le_of_ble_eq_true rfl) ?_
  change q_E md_X8_choose 6 N (some 0) r m 0 [q_A 69, q_A l1, q_I l2, q_N, q_N, q_N] []
  unfold f_Tile_choose at h
  refine q_aload_n (M := md_X8_choose) (pc := 0) dX8_choose_0 rfl (by decide) ?_
  refine q_iconst (M := md_X8_choose) (pc := 1) dX8_choose_1 ?_
  refine e_pfI (M := md_X8_choose) (pc := 2) h fl_8_112 dX8_choose_2 (is_69 hN) rfl (fun m1 h => ?_)
  refine q_iconst (M := md_X8_choose) (pc := 5) dX8_choose_5 ?_
  refine e_ist_n (M := md_X8_choose) (pc := 6) (ls' := [q_A 69, q_A l1, q_I l2, q_I 1, q_N, q_N]) dX8_choose_6 (by decide) (q_pl rfl) rfl ?_
  exact q_weak (w_Tile_choose_l7 hN q_F _ _ _ _ hl1 h) ⟨Or.inr rfl, Or.inr rfl, Or.inr rfl, Or.inr rfl, Or.inl rfl, Or.inl rfl, trivial⟩
def f_Web_putInOrder (l1 : Int) (m : q_Mem) : q_Res :=
  if 100 ≤ q_w (m 53 6) then (q_rt 0 m)
  else (q_wr m 56 100 (m 53 6) l1 fun m1 =>
  q_pf m1 53 6 ((m1 53 6) + 1) fun m2 =>
  q_rt 0 m2)
set_option maxRecDepth 20000 in
theorem ok_X9_putInOrder {l1 : Int} {r : Int × q_Mem} {m : q_Mem} {N : Nat} (hN : 81 ≤ N) (h : f_Web_putInOrder l1 m = some r) : q_C md_X9_putInOrder (q_room 1) 0 0 [q_A 53, q_I l1] (q_g N) m (none, q_g N, r.2) := by
  refine q_ofR (by decide) 0 (ls := [q_A 53, q_I l1]) rfl (Nat.le_of_ble_eq_true rfl) ?_
  change q_E md_X9_putInOrder 1 N (none) r m 0 [q_A 53, q_I l1] []
  unfold f_Web_putInOrder at h
  refine q_aload_n (M := md_X9_putInOrder) (pc := 0) dX9_putInOrder_0 rfl (by decide) ?_
  refine e_gI (M := md_X9_putInOrder) (pc := 1) (v := m 53 6) fl_9_36 dX9_putInOrder_1 (is_53 hN) rfl ?_
  refine q_bipush (M := md_X9_putInOrder) (pc := 4) (x := 100) dX9_putInOrder_4 (by decide) ?_
  refine e_icmp_ge (M := md_X9_putInOrder) (pc := 6) (tgt := 29) h rfl (q_wlit rfl) dX9_putInOrder_6 (by decide) (fun h => ?_) (fun h => ?_)
  · exact e_vret (M := md_X9_putInOrder) (pc := 29) h rfl dX9_putInOrder_29
  · refine q_aload_n (M := md_X9_putInOrder) (pc := 9) dX9_putInOrder_9 rfl (by decide) ?_
    refine q_getP (M := md_X9_putInOrder) (pc := 10) (v := 56) fl_9_18 dX9_putInOrder_10 (is_53 hN) rfl ?_
    refine q_aload_n (M := md_X9_putInOrder) (pc := 13) dX9_putInOrder_13 rfl (by decide) ?_
    refine e_gI (M := md_X9_putInOrder) (pc := 14) (v := m 53 6) fl_9_36 dX9_putInOrder_14 (is_53 hN) rfl ?_
    refine q_iload_n (M := md_X9_putInOrder) (pc := 17) dX9_putInOrder_17 rfl ?_
    refine e_wr (M := md_X9_putInOrder) (pc := 18) h dX9_putInOrder_18 (ar_56 hN) (fun m1 h => ?_)
    refine q_aload_n (M := md_X9_putInOrder) (pc := 19) dX9_putInOrder_19 rfl (by decide) ?_
    refine q_dup (M := md_X9_putInOrder) (pc := 20) dX9_putInOrder_20 (show (2 : Nat) ≠ 1 by decide) ?_
    refine e_gI (M := md_X9_putInOrder) (pc := 21) (v := m1 53 6) fl_9_36 dX9_putInOrder_21 (is_53 hN) rfl ?_
    refine q_iconst (M := md_X9_putInOrder) (pc := 24) dX9_putInOrder_24 ?_
    refine q_iadd (M := md_X9_putInOrder) (pc := 25) dX9_putInOrder_25 ?_
    refine e_pfI (M := md_X9_putInOrder) (pc := 26) h fl_9_36 dX9_putInOrder_26 (is_53 hN) rfl (fun m2 h => ?_)
    exact e_vret (M := md_X9_putInOrder) (pc := 29) h rfl dX9_putInOrder_29
def f_Web_deepen_b83 (k5 : Int → Int → Int → Int → q_Mem → q_Res) (l1 l2 l3 l4 : Int) (m : q_Mem) : q_Res :=
  k5 l1 l2 l3 (l4 + 1) m
set_option maxRecDepth 20000 in
theorem w_Web_deepen_b83 {k5 : Int → Int → Int → Int → q_Mem → q_Res} {l1 l2 l3 l4 : Int} {r : Int × q_Mem} {m : q_Mem} {N : Nat} (hN : 81 ≤ N) (hk5 : ∀ (l1 l2 l3 l4 : Int) (m : q_Mem), l1 ∈ (q_Lp : List Int) → k5 l1 l2 l3 l4 m = some r → q_E md_X9_deepen 3 N (none) r m 5 [q_A 53, q_A l1, q_I l2, q_I l3, q_I l4, q_N, q_N] []) (hl1 : l1 ∈ (q_Lp : List Int)) (h : f_Web_deepen_b83 k5 l1 l2 l3 l4 m = some r) : q_E md_X9_deepen 3 N (none) r m 83 [q_A 53, q_A l1, q_I l2, q_I l3, q_I l4, q_N, q_N] [] := by
  unfold f_Web_deepen_b83 at h
  refine e_inc (M := md_X9_deepen) (pc := 83) (x := l4) (ls' := [q_A 53, q_A l1, q_I l2, q_I l3, q_I (l4 + 1), q_N, q_N]) dX9_deepen_83 rfl (by decide) (q_pl rfl) rfl ?_
  refine q_goto (M := md_X9_deepen) (pc := 86) (tgt := 5) dX9_deepen_86 (by decide) ?_
  exact q_weak (hk5 _ _ _ _ _ hl1 h) ⟨Or.inr rfl, Or.inr rfl, Or.inr rfl, Or.inr rfl, Or.inr rfl, Or.inl rfl, Or.inl rfl, trivial⟩
def f_Web_deepen_b41 (k5 : Int → Int → Int → Int → q_Mem → q_Res) (l1 l2 l3 l4 : Int) (m : q_Mem) : q_Res :=
  q_bd (f_Loop_reader l1 l2 l4 m) fun v1 m2 =>
  if q_w v1 = (-1) then (f_Web_deepen_b83 k5 l1 l2 l3 l4 m2)
  else (q_rd m2 57 100 v1 fun v3 =>
  q_wr m2 57 100 v1 (v3 - 1) fun m4 =>
  q_rd m4 57 100 v1 fun v5 =>
  if q_w v5 = 0 then (q_bd (f_Web_putInOrder v1 m4) fun _ m6 =>
  f_Web_deepen_b83 k5 l1 l2 l3 l4 m6)
  else (f_Web_deepen_b83 k5 l1 l2 l3 l4 m4))
set_option maxRecDepth 20000 in
theorem w_Web_deepen_b41 {k5 : Int → Int → Int → Int → q_Mem → q_Res} {l1 l2 l3 l4 : Int} {r : Int × q_Mem} {m : q_Mem} {N : Nat} (hN : 81 ≤ N) (hk5 : ∀ (l1 l2 l3 l4 : Int) (m : q_Mem), l1 ∈ (q_Lp : List Int) → k5 l1 l2 l3 l4 m = some r → q_E md_X9_deepen 3 N (none) r m 5 [q_A 53, q_A l1, q_I l2, q_I l3, q_I l4, q_N, q_N] []) (hl1 : l1 ∈ (q_Lp : List Int)) (h : f_Web_deepen_b41 k5 l1 l2 l3 l4 m = some r) : q_E md_X9_deepen 3 N (none) r m 41 [q_A 53, q_A l1, q_I l2, q_I l3, q_I l4, q_N, q_N] [] := by
  unfold f_Web_deepen_b41 at h
  refine q_aload_n (M := md_X9_deepen) (pc := 41) dX9_deepen_41 rfl (nn_Lp hl1) ?_
  refine q_iload_n (M := md_X9_deepen) (pc := 42) dX9_deepen_42 rfl ?_
  refine q_iload (M := md_X9_deepen) (pc := 43) dX9_deepen_43 rfl ?_
  refine e_callVi (M := md_X9_deepen) (pc := 45) (d' := 2) (av := [q_I l2, q_I l4]) (c := l1) h ml_9_80 im_X2_reader se_X2_reader dX9_deepen_45 (fun v he => ok_X2_reader hN hl1 he) rfl (is_Lp hN hl1) ⟨_, _, rfl⟩ (by decide) (Nat.le_of_ble_eq_true rfl) ⟨by decide, by decide⟩ rfl (fun v1 m2 h => ?_)
  refine e_ist (M := md_X9_deepen) (pc := 48) (ls' := [q_A 53, q_A l1, q_I l2, q_I l3, q_I l4, q_N, q_I v1]) dX9_deepen_48 (by decide) (q_pl rfl) rfl ?_
  refine q_iload (M := md_X9_deepen) (pc := 50) dX9_deepen_50 rfl ?_
  refine q_iconst (M := md_X9_deepen) (pc := 52) dX9_deepen_52 ?_
  refine e_icmp_eq (M := md_X9_deepen) (pc := 53) (tgt := 83) h rfl (q_wlit rfl) dX9_deepen_53 (by decide) (fun h => ?_) (fun h => ?_)
  · exact q_weak (w_Web_deepen_b83 hN hk5 hl1 h) ⟨Or.inr rfl, Or.inr rfl, Or.inr rfl, Or.inr rfl, Or.inr rfl, Or.inl rfl, Or.inl rfl, trivial⟩
  · refine q_aload_n (M := md_X9_deepen) (pc := 56) dX9_deepen_56 rfl (by decide) ?_
    refine q_getP (M := md_X9_deepen) (pc := 57) (v := 57) fl_9_21 dX9_deepen_57 (is_53 hN) rfl ?_
    refine q_iload (M := md_X9_deepen) (pc := 60) dX9_deepen_60 rfl ?_
    refine q_dup2 (M := md_X9_deepen) (pc := 62) dX9_deepen_62 (show (0 : Nat) ≠ 1 by decide) (show (2 : Nat) ≠ 1 by decide) ?_
    refine e_rd (M := md_X9_deepen) (pc := 63) h dX9_deepen_63 (ar_57 hN) (fun v3 h => ?_)
    refine q_iconst (M := md_X9_deepen) (pc := 64) dX9_deepen_64 ?_
    refine q_isub (M := md_X9_deepen) (pc := 65) dX9_deepen_65 ?_
    refine e_wr (M := md_X9_deepen) (pc := 66) h dX9_deepen_66 (ar_57 hN) (fun m4 h => ?_)
    refine q_aload_n (M := md_X9_deepen) (pc := 67) dX9_deepen_67 rfl (by decide) ?_
    refine q_getP (M := md_X9_deepen) (pc := 68) (v := 57) fl_9_21 dX9_deepen_68 (is_53 hN) rfl ?_
    refine q_iload (M := md_X9_deepen) (pc := 71) dX9_deepen_71 rfl ?_
    refine e_rd (M := md_X9_deepen) (pc := 73) h dX9_deepen_73 (ar_57 hN) (fun v5 h => ?_)
    refine e_if_ne (M := md_X9_deepen) (pc := 74) (tgt := 83) h rfl dX9_deepen_74 (by decide) (fun h => ?_) (fun h => ?_)
    · exact q_weak (w_Web_deepen_b83 hN hk5 hl1 h) ⟨Or.inr rfl, Or.inr rfl, Or.inr rfl, Or.inr rfl, Or.inr rfl, Or.inl rfl, Or.inl rfl, trivial⟩
    · refine q_aload_n (M := md_X9_deepen) (pc := 77) dX9_deepen_77 rfl (by decide) ?_
      refine q_iload (M := md_X9_deepen) (pc := 78) dX9_deepen_78 rfl ?_
      refine e_callVv (M := md_X9_deepen) (pc := 80) (d' := 1) (av := [q_I v1]) (c := 53) h ml_9_56 im_X9_putInOrder se_X9_putInOrder dX9_deepen_80 (fun v he => ok_X9_putInOrder hN  he) rfl (is_53 hN) ⟨_, _, rfl⟩ (by decide) (Nat.le_of_ble_eq_true rfl) ⟨by decide, by decide⟩ rfl (fun _ m6 h => ?_)
      exact q_weak (w_Web_deepen_b83 hN hk5 hl1 h) ⟨Or.inr rfl, Or.inr rfl, Or.inr rfl, Or.inr rfl, Or.inr rfl, Or.inl rfl, Or.inl rfl, trivial⟩
def f_Web_deepen_b5 (k5 : Int → Int → Int → Int → q_Mem → q_Res) (l1 l2 l3 l4 : Int) (m : q_Mem) : q_Res :=
  if q_w (m l1 5) ≤ q_w l4 then (q_wr m 54 100 l2 (l3 + 1) fun m1 =>
  q_rd m1 54 100 l2 fun v2 =>
  q_pf m1 53 7 (q_max (m1 53 7) v2) fun m3 =>
  q_rt 0 m3)
  else (q_bd (f_Loop_target l1 l2 l4 m) fun v4 m5 =>
  if q_w v4 = (-1) then (f_Web_deepen_b41 k5 l1 l2 l3 l4 m5)
  else (q_rd m5 54 100 v4 fun v6 =>
  f_Web_deepen_b41 k5 l1 l2 (q_max l3 v6) l4 m5))
set_option maxRecDepth 20000 in
theorem w_Web_deepen_b5 {k5 : Int → Int → Int → Int → q_Mem → q_Res} {l1 l2 l3 l4 : Int} {r : Int × q_Mem} {m : q_Mem} {N : Nat} (hN : 81 ≤ N) (hk5 : ∀ (l1 l2 l3 l4 : Int) (m : q_Mem), l1 ∈ (q_Lp : List Int) → k5 l1 l2 l3 l4 m = some r → q_E md_X9_deepen 3 N (none) r m 5 [q_A 53, q_A l1, q_I l2, q_I l3, q_I l4, q_N, q_N] []) (hl1 : l1 ∈ (q_Lp : List Int)) (h : f_Web_deepen_b5 k5 l1 l2 l3 l4 m = some r) : q_E md_X9_deepen 3 N (none) r m 5 [q_A 53, q_A l1, q_I l2, q_I l3, q_I l4, q_N, q_N] [] := by
  unfold f_Web_deepen_b5 at h
  refine q_iload (M := md_X9_deepen) (pc := 5) dX9_deepen_5 rfl ?_
  refine q_aload_n (M := md_X9_deepen) (pc := 7) dX9_deepen_7 rfl (nn_Lp hl1) ?_
  refine e_gI (M := md_X9_deepen) (pc := 8) (v := m l1 5) fl_9_68 dX9_deepen_8 (is_Lp hN hl1) rfl ?_
  refine e_icmp_ge (M := md_X9_deepen) (pc := 11) (tgt := 89) h rfl rfl dX9_deepen_11 (by decide) (fun h => ?_) (fun h => ?_)
  · refine q_aload_n (M := md_X9_deepen) (pc := 89) dX9_deepen_89 rfl (by decide) ?_
    refine q_getP (M := md_X9_deepen) (pc := 90) (v := 54) fl_9_9 dX9_deepen_90 (is_53 hN) rfl ?_
    refine q_iload_n (M := md_X9_deepen) (pc := 93) dX9_deepen_93 rfl ?_
    refine q_iload_n (M := md_X9_deepen) (pc := 94) dX9_deepen_94 rfl ?_
    refine q_iconst (M := md_X9_deepen) (pc := 95) dX9_deepen_95 ?_
    refine q_iadd (M := md_X9_deepen) (pc := 96) dX9_deepen_96 ?_
    refine e_wr (M := md_X9_deepen) (pc := 97) h dX9_deepen_97 (ar_54 hN) (fun m1 h => ?_)
    refine q_aload_n (M := md_X9_deepen) (pc := 98) dX9_deepen_98 rfl (by decide) ?_
    refine q_aload_n (M := md_X9_deepen) (pc := 99) dX9_deepen_99 rfl (by decide) ?_
    refine e_gI (M := md_X9_deepen) (pc := 100) (v := m1 53 7) fl_9_40 dX9_deepen_100 (is_53 hN) rfl ?_
    refine q_aload_n (M := md_X9_deepen) (pc := 103) dX9_deepen_103 rfl (by decide) ?_
    refine q_getP (M := md_X9_deepen) (pc := 104) (v := 54) fl_9_9 dX9_deepen_104 (is_53 hN) rfl ?_
    refine q_iload_n (M := md_X9_deepen) (pc := 107) dX9_deepen_107 rfl ?_
    refine e_rd (M := md_X9_deepen) (pc := 108) h dX9_deepen_108 (ar_54 hN) (fun v2 h => ?_)
    refine e_max (M := md_X9_deepen) (pc := 109) jl_9_75 dX9_deepen_109 (by decide) (Nat.le_of_ble_eq_true rfl) ?_
    refine e_pfI (M := md_X9_deepen) (pc := 112) h fl_9_40 dX9_deepen_112 (is_53 hN) rfl (fun m3 h => ?_)
    exact e_vret (M := md_X9_deepen) (pc := 115) h rfl dX9_deepen_115
  · refine q_aload_n (M := md_X9_deepen) (pc := 14) dX9_deepen_14 rfl (nn_Lp hl1) ?_
    refine q_iload_n (M := md_X9_deepen) (pc := 15) dX9_deepen_15 rfl ?_
    refine q_iload (M := md_X9_deepen) (pc := 16) dX9_deepen_16 rfl ?_
    refine e_callVi (M := md_X9_deepen) (pc := 18) (d' := 2) (av := [q_I l2, q_I l4]) (c := l1) h ml_9_71 im_X2_target se_X2_target dX9_deepen_18 (fun v he => ok_X2_target hN hl1 he) rfl (is_Lp hN hl1) ⟨_, _, rfl⟩ (by decide) (Nat.le_of_ble_eq_true rfl) ⟨by decide, by decide⟩ rfl (fun v4 m5 h => ?_)
    refine e_ist (M := md_X9_deepen) (pc := 21) (ls' := [q_A 53, q_A l1, q_I l2, q_I l3, q_I l4, q_I v4, q_N]) dX9_deepen_21 (by decide) (q_pl rfl) rfl ?_
    refine q_iload (M := md_X9_deepen) (pc := 23) dX9_deepen_23 rfl ?_
    refine q_iconst (M := md_X9_deepen) (pc := 25) dX9_deepen_25 ?_
    refine e_icmp_eq (M := md_X9_deepen) (pc := 26) (tgt := 41) h rfl (q_wlit rfl) dX9_deepen_26 (by decide) (fun h => ?_) (fun h => ?_)
    · exact q_weak (w_Web_deepen_b41 hN hk5 hl1 h) ⟨Or.inr rfl, Or.inr rfl, Or.inr rfl, Or.inr rfl, Or.inr rfl, Or.inl rfl, Or.inl rfl, trivial⟩
    · refine q_iload_n (M := md_X9_deepen) (pc := 29) dX9_deepen_29 rfl ?_
      refine q_aload_n (M := md_X9_deepen) (pc := 30) dX9_deepen_30 rfl (by decide) ?_
      refine q_getP (M := md_X9_deepen) (pc := 31) (v := 54) fl_9_9 dX9_deepen_31 (is_53 hN) rfl ?_
      refine q_iload (M := md_X9_deepen) (pc := 34) dX9_deepen_34 rfl ?_
      refine e_rd (M := md_X9_deepen) (pc := 36) h dX9_deepen_36 (ar_54 hN) (fun v6 h => ?_)
      refine e_max (M := md_X9_deepen) (pc := 37) jl_9_75 dX9_deepen_37 (by decide) (Nat.le_of_ble_eq_true rfl) ?_
      refine e_ist_n (M := md_X9_deepen) (pc := 40) (ls' := [q_A 53, q_A l1, q_I l2, q_I (q_max l3 v6), q_I l4, q_I v4, q_N]) dX9_deepen_40 (by decide) (q_pl rfl) rfl ?_
      exact q_weak (w_Web_deepen_b41 hN hk5 hl1 h) ⟨Or.inr rfl, Or.inr rfl, Or.inr rfl, Or.inr rfl, Or.inr rfl, Or.inl rfl, Or.inl rfl, trivial⟩
def f_Web_deepen_l5 : Nat → Int → Int → Int → Int → q_Mem → q_Res
  | 0 => fun _ _ _ _ _ => none
  | n + 1 => fun l1 l2 l3 l4 m => f_Web_deepen_b5 (f_Web_deepen_l5 n) l1 l2 l3 l4 m
theorem w_Web_deepen_l5 {r : Int × q_Mem} {N : Nat} (hN : 81 ≤ N) : ∀ (n : Nat) (l1 l2 l3 l4 : Int) (m : q_Mem), l1 ∈ (q_Lp : List Int) → f_Web_deepen_l5 n l1 l2 l3 l4 m = some r → q_E md_X9_deepen 3 N (none) r m 5 [q_A 53, q_A l1, q_I l2, q_I l3, q_I l4, q_N, q_N] [] := by
  intro n
  induction n with
  | zero => intro l1 l2 l3 l4 m hl1 h; exact q_no h
  | succ n ih =>
    intro l1 l2 l3 l4 m hl1 h
    exact w_Web_deepen_b5 hN (fun l1 l2 l3 l4 m hl1 h => ih l1 l2 l3 l4 m hl1 h) hl1 h
def f_Web_deepen (l1 l2 : Int) (m : q_Mem) : q_Res :=
  f_Web_deepen_l5 q_F l1 l2 (-1) 0 m
set_option maxRecDepth 20000 in
theorem ok_X9_deepen {l1 l2 : Int} {r : Int × q_Mem} {m : q_Mem} {N : Nat} (hN : 81 ≤ N) (hl1 : l1 ∈ (q_Lp : List Int)) (h : f_Web_deepen l1 l2 m = some r) : q_C md_X9_deepen (q_room 3) 0 0 [q_A 53, q_A l1, q_I l2] (q_g N) m (none, q_g N, r.2) := by
  refine q_ofR (by decide) 4 (ls := [q_A 53, q_A l1, q_I l2, q_N, q_N, q_N, q_N]) rfl (Nat.le_of_ble_eq_true rfl) ?_
  change q_E md_X9_deepen 3 N (none) r m 0 [q_A 53, q_A l1, q_I l2, q_N, q_N, q_N, q_N] []
  unfold f_Web_deepen at h
  refine q_iconst (M := md_X9_deepen) (pc := 0) dX9_deepen_0 ?_
  refine e_ist_n (M := md_X9_deepen) (pc := 1) (ls' := [q_A 53, q_A l1, q_I l2, q_I (-1), q_N, q_N, q_N]) dX9_deepen_1 (by decide) (q_pl rfl) rfl ?_
  refine q_iconst (M := md_X9_deepen) (pc := 2) dX9_deepen_2 ?_
  refine e_ist (M := md_X9_deepen) (pc := 3) (ls' := [q_A 53, q_A l1, q_I l2, q_I (-1), q_I 0, q_N, q_N]) dX9_deepen_3 (by decide) (q_pl rfl) rfl ?_
  exact q_weak (w_Web_deepen_l5 hN q_F _ _ _ _ _ hl1 h) ⟨Or.inr rfl, Or.inr rfl, Or.inr rfl, Or.inr rfl, Or.inr rfl, Or.inl rfl, Or.inl rfl, trivial⟩
def f_Web_heightOver_b54 (k5 : Int → Int → Int → Int → q_Mem → q_Res) (l1 l2 l3 l4 : Int) (m : q_Mem) : q_Res :=
  k5 l1 l2 l3 (l4 + 1) m
set_option maxRecDepth 20000 in
theorem w_Web_heightOver_b54 {k5 : Int → Int → Int → Int → q_Mem → q_Res} {l1 l2 l3 l4 : Int} {r : Int × q_Mem} {m : q_Mem} {N : Nat} (hN : 81 ≤ N) (hk5 : ∀ (l1 l2 l3 l4 : Int) (m : q_Mem), l1 ∈ (q_Lp : List Int) → k5 l1 l2 l3 l4 m = some r → q_E md_X9_heightOver 3 N (some 0) r m 5 [q_A 53, q_A l1, q_I l2, q_I l3, q_I l4, q_N] []) (hl1 : l1 ∈ (q_Lp : List Int)) (h : f_Web_heightOver_b54 k5 l1 l2 l3 l4 m = some r) : q_E md_X9_heightOver 3 N (some 0) r m 54 [q_A 53, q_A l1, q_I l2, q_I l3, q_I l4, q_N] [] := by
  unfold f_Web_heightOver_b54 at h
  refine e_inc (M := md_X9_heightOver) (pc := 54) (x := l4) (ls' := [q_A 53, q_A l1, q_I l2, q_I l3, q_I (l4 + 1), q_N]) dX9_heightOver_54 rfl (by decide) (q_pl rfl) rfl ?_
  refine q_goto (M := md_X9_heightOver) (pc := 57) (tgt := 5) dX9_heightOver_57 (by decide) ?_
  exact q_weak (hk5 _ _ _ _ _ hl1 h) ⟨Or.inr rfl, Or.inr rfl, Or.inr rfl, Or.inr rfl, Or.inr rfl, Or.inl rfl, trivial⟩
def f_Web_heightOver_b5 (k5 : Int → Int → Int → Int → q_Mem → q_Res) (l1 l2 l3 l4 : Int) (m : q_Mem) : q_Res :=
  if q_w (m l1 5) ≤ q_w l4 then (q_rt (l3 + 1) m)
  else (q_bd (f_Loop_reader l1 l2 l4 m) fun v1 m2 =>
  if q_w v1 = (-1) then (f_Web_heightOver_b54 k5 l1 l2 l3 l4 m2)
  else (q_rd m2 55 100 v1 fun v3 =>
  if q_w v3 = (-1) then (q_rt (-1) m2)
  else (q_rd m2 55 100 v1 fun v4 =>
  f_Web_heightOver_b54 k5 l1 l2 (q_max l3 v4) l4 m2)))
set_option maxRecDepth 20000 in
theorem w_Web_heightOver_b5 {k5 : Int → Int → Int → Int → q_Mem → q_Res} {l1 l2 l3 l4 : Int} {r : Int × q_Mem} {m : q_Mem} {N : Nat} (hN : 81 ≤ N) (hk5 : ∀ (l1 l2 l3 l4 : Int) (m : q_Mem), l1 ∈ (q_Lp : List Int) → k5 l1 l2 l3 l4 m = some r → q_E md_X9_heightOver 3 N (some 0) r m 5 [q_A 53, q_A l1, q_I l2, q_I l3, q_I l4, q_N] []) (hl1 : l1 ∈ (q_Lp : List Int)) (h : f_Web_heightOver_b5 k5 l1 l2 l3 l4 m = some r) : q_E md_X9_heightOver 3 N (some 0) r m 5 [q_A 53, q_A l1, q_I l2, q_I l3, q_I l4, q_N] [] := by
  unfold f_Web_heightOver_b5 at h
  refine q_iload (M := md_X9_heightOver) (pc := 5) dX9_heightOver_5 rfl ?_
  refine q_aload_n (M := md_X9_heightOver) (pc := 7) dX9_heightOver_7 rfl (nn_Lp hl1) ?_
  refine e_gI (M := md_X9_heightOver) (pc := 8) (v := m l1 5) fl_9_68 dX9_heightOver_8 (is_Lp hN hl1) rfl ?_
  refine e_icmp_ge (M := md_X9_heightOver) (pc := 11) (tgt := 60) h rfl rfl dX9_heightOver_11 (by decide) (fun h => ?_) (fun h => ?_)
  · refine q_iload_n (M := md_X9_heightOver) (pc := 60) dX9_heightOver_60 rfl ?_
    refine q_iconst (M := md_X9_heightOver) (pc := 61) dX9_heightOver_61 ?_
    refine q_iadd (M := md_X9_heightOver) (pc := 62) dX9_heightOver_62 ?_
    exact e_iret (M := md_X9_heightOver) (pc := 63) h rfl dX9_heightOver_63
  · refine q_aload_n (M := md_X9_heightOver) (pc := 14) dX9_heightOver_14 rfl (nn_Lp hl1) ?_
    refine q_iload_n (M := md_X9_heightOver) (pc := 15) dX9_heightOver_15 rfl ?_
    refine q_iload (M := md_X9_heightOver) (pc := 16) dX9_heightOver_16 rfl ?_
    refine e_callVi (M := md_X9_heightOver) (pc := 18) (d' := 2) (av := [q_I l2, q_I l4]) (c := l1) h ml_9_80 im_X2_reader se_X2_reader dX9_heightOver_18 (fun v he => ok_X2_reader hN hl1 he) rfl (is_Lp hN hl1) ⟨_, _, rfl⟩ (by decide) (Nat.le_of_ble_eq_true rfl) ⟨by decide, by decide⟩ rfl (fun v1 m2 h => ?_)
    refine e_ist (M := md_X9_heightOver) (pc := 21) (ls' := [q_A 53, q_A l1, q_I l2, q_I l3, q_I l4, q_I v1]) dX9_heightOver_21 (by decide) (q_pl rfl) rfl ?_
    refine q_iload (M := md_X9_heightOver) (pc := 23) dX9_heightOver_23 rfl ?_
    refine q_iconst (M := md_X9_heightOver) (pc := 25) dX9_heightOver_25 ?_
    refine e_icmp_eq (M := md_X9_heightOver) (pc := 26) (tgt := 54) h rfl (q_wlit rfl) dX9_heightOver_26 (by decide) (fun h => ?_) (fun h => ?_)
    · exact q_weak (w_Web_heightOver_b54 hN hk5 hl1 h) ⟨Or.inr rfl, Or.inr rfl, Or.inr rfl, Or.inr rfl, Or.inr rfl, Or.inl rfl, trivial⟩
    · refine q_aload_n (M := md_X9_heightOver) (pc := 29) dX9_heightOver_29 rfl (by decide) ?_
      refine q_getP (M := md_X9_heightOver) (pc := 30) (v := 55) fl_9_15 dX9_heightOver_30 (is_53 hN) rfl ?_
      refine q_iload (M := md_X9_heightOver) (pc := 33) dX9_heightOver_33 rfl ?_
      refine e_rd (M := md_X9_heightOver) (pc := 35) h dX9_heightOver_35 (ar_55 hN) (fun v3 h => ?_)
      refine q_iconst (M := md_X9_heightOver) (pc := 36) dX9_heightOver_36 ?_
      refine e_icmp_ne (M := md_X9_heightOver) (pc := 37) (tgt := 42) h rfl (q_wlit rfl) dX9_heightOver_37 (by decide) (fun h => ?_) (fun h => ?_)
      · refine q_iload_n (M := md_X9_heightOver) (pc := 42) dX9_heightOver_42 rfl ?_
        refine q_aload_n (M := md_X9_heightOver) (pc := 43) dX9_heightOver_43 rfl (by decide) ?_
        refine q_getP (M := md_X9_heightOver) (pc := 44) (v := 55) fl_9_15 dX9_heightOver_44 (is_53 hN) rfl ?_
        refine q_iload (M := md_X9_heightOver) (pc := 47) dX9_heightOver_47 rfl ?_
        refine e_rd (M := md_X9_heightOver) (pc := 49) h dX9_heightOver_49 (ar_55 hN) (fun v4 h => ?_)
        refine e_max (M := md_X9_heightOver) (pc := 50) jl_9_75 dX9_heightOver_50 (by decide) (Nat.le_of_ble_eq_true rfl) ?_
        refine e_ist_n (M := md_X9_heightOver) (pc := 53) (ls' := [q_A 53, q_A l1, q_I l2, q_I (q_max l3 v4), q_I l4, q_I v1]) dX9_heightOver_53 (by decide) (q_pl rfl) rfl ?_
        exact q_weak (w_Web_heightOver_b54 hN hk5 hl1 h) ⟨Or.inr rfl, Or.inr rfl, Or.inr rfl, Or.inr rfl, Or.inr rfl, Or.inl rfl, trivial⟩
      · refine q_iconst (M := md_X9_heightOver) (pc := 40) dX9_heightOver_40 ?_
        exact e_iret (M := md_X9_heightOver) (pc := 41) h rfl dX9_heightOver_41
def f_Web_heightOver_l5 : Nat → Int → Int → Int → Int → q_Mem → q_Res
  | 0 => fun _ _ _ _ _ => none
  | n + 1 => fun l1 l2 l3 l4 m => f_Web_heightOver_b5 (f_Web_heightOver_l5 n) l1 l2 l3 l4 m
theorem w_Web_heightOver_l5 {r : Int × q_Mem} {N : Nat} (hN : 81 ≤ N) : ∀ (n : Nat) (l1 l2 l3 l4 : Int) (m : q_Mem), l1 ∈ (q_Lp : List Int) → f_Web_heightOver_l5 n l1 l2 l3 l4 m = some r → q_E md_X9_heightOver 3 N (some 0) r m 5 [q_A 53, q_A l1, q_I l2, q_I l3, q_I l4, q_N] [] := by
  intro n
  induction n with
  | zero => intro l1 l2 l3 l4 m hl1 h; exact q_no h
  | succ n ih =>
    intro l1 l2 l3 l4 m hl1 h
    exact w_Web_heightOver_b5 hN (fun l1 l2 l3 l4 m hl1 h => ih l1 l2 l3 l4 m hl1 h) hl1 h
def f_Web_heightOver (l1 l2 : Int) (m : q_Mem) : q_Res :=
  f_Web_heightOver_l5 q_F l1 l2 (-1) 0 m
set_option maxRecDepth 20000 in
theorem ok_X9_heightOver {l1 l2 : Int} {r : Int × q_Mem} {m : q_Mem} {N : Nat} (hN : 81 ≤ N) (hl1 : l1 ∈ (q_Lp : List Int)) (h : f_Web_heightOver l1 l2 m = some r) : q_C md_X9_heightOver (q_room 3) 0 0 [q_A 53, q_A l1, q_I l2] (q_g N) m (some (q_I r.1), q_g N, r.2) := by
  refine q_ofR (by decide) 3 (ls := [q_A 53, q_A l1, q_I l2, q_N, q_N, q_N]) rfl (Nat.le_of_ble_eq_true rfl) ?_
  change q_E md_X9_heightOver 3 N (some 0) r m 0 [q_A 53, q_A l1, q_I l2, q_N, q_N, q_N] []
  unfold f_Web_heightOver at h
  refine q_iconst (M := md_X9_heightOver) (pc := 0) dX9_heightOver_0 ?_
  refine e_ist_n (M := md_X9_heightOver) (pc := 1) (ls' := [q_A 53, q_A l1, q_I l2, q_I (-1), q_N, q_N]) dX9_heightOver_1 (by decide) (q_pl rfl) rfl ?_
  refine q_iconst (M := md_X9_heightOver) (pc := 2) dX9_heightOver_2 ?_
  refine e_ist (M := md_X9_heightOver) (pc := 3) (ls' := [q_A 53, q_A l1, q_I l2, q_I (-1), q_I 0, q_N]) dX9_heightOver_3 (by decide) (q_pl rfl) rfl ?_
  exact q_weak (w_Web_heightOver_l5 hN q_F _ _ _ _ _ hl1 h) ⟨Or.inr rfl, Or.inr rfl, Or.inr rfl, Or.inr rfl, Or.inr rfl, Or.inl rfl, trivial⟩
def f_Web_weave_b67 (k28 : Int → Int → q_Mem → q_Res) (l1 l2 : Int) (m : q_Mem) : q_Res :=
  k28 l1 (l2 + 1) m
set_option maxRecDepth 20000 in
theorem w_Web_weave_b67 {k28 : Int → Int → q_Mem → q_Res} {l1 l2 : Int} {r : Int × q_Mem} {m : q_Mem} {N : Nat} (hN : 81 ≤ N) (hk28 : ∀ (l1 l2 : Int) (m : q_Mem), l1 ∈ (q_Lp : List Int) → k28 l1 l2 m = some r → q_E md_X9_weave 4 N (none) r m 28 [q_A 53, q_A l1, q_I l2, q_N] []) (hl1 : l1 ∈ (q_Lp : List Int)) (h : f_Web_weave_b67 k28 l1 l2 m = some r) : q_E md_X9_weave 4 N (none) r m 67 [q_A 53, q_A l1, q_I l2, q_N] [] := by
  unfold f_Web_weave_b67 at h
  refine e_inc (M := md_X9_weave) (pc := 67) (x := l2) (ls' := [q_A 53, q_A l1, q_I (l2 + 1), q_N]) dX9_weave_67 rfl (by decide) (q_pl rfl) rfl ?_
  refine q_goto (M := md_X9_weave) (pc := 70) (tgt := 28) dX9_weave_70 (by decide) ?_
  exact q_weak (hk28 _ _ _ hl1 h) ⟨Or.inr rfl, Or.inr rfl, Or.inr rfl, Or.inl rfl, trivial⟩
def f_Web_weave_b113 (k113 : Int → Int → q_Mem → q_Res) (l1 l2 : Int) (m : q_Mem) : q_Res :=
  if q_w l2 < 0 then (q_rt 0 m)
  else (q_rd m 56 100 l2 fun v1 =>
  q_rd m 56 100 l2 fun v2 =>
  q_bd (f_Web_heightOver l1 v2 m) fun v3 m4 =>
  q_wr m4 55 100 v1 v3 fun m5 =>
  k113 l1 (l2 + (-1)) m5)
set_option maxRecDepth 20000 in
theorem w_Web_weave_b113 {k113 : Int → Int → q_Mem → q_Res} {l1 l2 : Int} {r : Int × q_Mem} {m : q_Mem} {N : Nat} (hN : 81 ≤ N) (hk113 : ∀ (l1 l2 : Int) (m : q_Mem), l1 ∈ (q_Lp : List Int) → k113 l1 l2 m = some r → q_E md_X9_weave 4 N (none) r m 113 [q_A 53, q_A l1, q_I l2, q_N] []) (hl1 : l1 ∈ (q_Lp : List Int)) (h : f_Web_weave_b113 k113 l1 l2 m = some r) : q_E md_X9_weave 4 N (none) r m 113 [q_A 53, q_A l1, q_I l2, q_N] [] := by
  unfold f_Web_weave_b113 at h
  refine q_iload_n (M := md_X9_weave) (pc := 113) dX9_weave_113 rfl ?_
  refine e_if_lt (M := md_X9_weave) (pc := 114) (tgt := 145) h rfl dX9_weave_114 (by decide) (fun h => ?_) (fun h => ?_)
  · exact e_vret (M := md_X9_weave) (pc := 145) h rfl dX9_weave_145
  · refine q_aload_n (M := md_X9_weave) (pc := 117) dX9_weave_117 rfl (by decide) ?_
    refine q_getP (M := md_X9_weave) (pc := 118) (v := 55) fl_9_15 dX9_weave_118 (is_53 hN) rfl ?_
    refine q_aload_n (M := md_X9_weave) (pc := 121) dX9_weave_121 rfl (by decide) ?_
    refine q_getP (M := md_X9_weave) (pc := 122) (v := 56) fl_9_18 dX9_weave_122 (is_53 hN) rfl ?_
    refine q_iload_n (M := md_X9_weave) (pc := 125) dX9_weave_125 rfl ?_
    refine e_rd (M := md_X9_weave) (pc := 126) h dX9_weave_126 (ar_56 hN) (fun v1 h => ?_)
    refine q_aload_n (M := md_X9_weave) (pc := 127) dX9_weave_127 rfl (by decide) ?_
    refine q_aload_n (M := md_X9_weave) (pc := 128) dX9_weave_128 rfl (nn_Lp hl1) ?_
    refine q_aload_n (M := md_X9_weave) (pc := 129) dX9_weave_129 rfl (by decide) ?_
    refine q_getP (M := md_X9_weave) (pc := 130) (v := 56) fl_9_18 dX9_weave_130 (is_53 hN) rfl ?_
    refine q_iload_n (M := md_X9_weave) (pc := 133) dX9_weave_133 rfl ?_
    refine e_rd (M := md_X9_weave) (pc := 134) h dX9_weave_134 (ar_56 hN) (fun v2 h => ?_)
    refine e_callVi (M := md_X9_weave) (pc := 135) (d' := 3) (av := [q_A l1, q_I v2]) (c := 53) h ml_9_64 im_X9_heightOver se_X9_heightOver dX9_weave_135 (fun v he => ok_X9_heightOver hN hl1 he) rfl (is_53 hN) ⟨_, _, rfl⟩ (by decide) (Nat.le_of_ble_eq_true rfl) ⟨by decide, by decide⟩ rfl (fun v3 m4 h => ?_)
    refine e_wr (M := md_X9_weave) (pc := 138) h dX9_weave_138 (ar_55 hN) (fun m5 h => ?_)
    refine e_inc (M := md_X9_weave) (pc := 139) (x := l2) (ls' := [q_A 53, q_A l1, q_I (l2 + (-1)), q_N]) dX9_weave_139 rfl (by decide) (q_pl rfl) rfl ?_
    refine q_goto (M := md_X9_weave) (pc := 142) (tgt := 113) dX9_weave_142 (by decide) ?_
    exact q_weak (hk113 _ _ _ hl1 h) ⟨Or.inr rfl, Or.inr rfl, Or.inr rfl, Or.inl rfl, trivial⟩
def f_Web_weave_l113 : Nat → Int → Int → q_Mem → q_Res
  | 0 => fun _ _ _ => none
  | n + 1 => fun l1 l2 m => f_Web_weave_b113 (f_Web_weave_l113 n) l1 l2 m
theorem w_Web_weave_l113 {r : Int × q_Mem} {N : Nat} (hN : 81 ≤ N) : ∀ (n : Nat) (l1 l2 : Int) (m : q_Mem), l1 ∈ (q_Lp : List Int) → f_Web_weave_l113 n l1 l2 m = some r → q_E md_X9_weave 4 N (none) r m 113 [q_A 53, q_A l1, q_I l2, q_N] [] := by
  intro n
  induction n with
  | zero => intro l1 l2 m hl1 h; exact q_no h
  | succ n ih =>
    intro l1 l2 m hl1 h
    exact w_Web_weave_b113 hN (fun l1 l2 m hl1 h => ih l1 l2 m hl1 h) hl1 h
def f_Web_weave_b106 (l1 : Int) (m : q_Mem) : q_Res :=
  f_Web_weave_l113 q_F l1 ((m 53 6) - 1) m
set_option maxRecDepth 20000 in
theorem w_Web_weave_b106 {l1 : Int} {r : Int × q_Mem} {m : q_Mem} {N : Nat} (hN : 81 ≤ N) (hl1 : l1 ∈ (q_Lp : List Int)) (h : f_Web_weave_b106 l1 m = some r) : q_E md_X9_weave 4 N (none) r m 106 [q_A 53, q_A l1, q_N, q_N] [] := by
  unfold f_Web_weave_b106 at h
  refine q_aload_n (M := md_X9_weave) (pc := 106) dX9_weave_106 rfl (by decide) ?_
  refine e_gI (M := md_X9_weave) (pc := 107) (v := m 53 6) fl_9_36 dX9_weave_107 (is_53 hN) rfl ?_
  refine q_iconst (M := md_X9_weave) (pc := 110) dX9_weave_110 ?_
  refine q_isub (M := md_X9_weave) (pc := 111) dX9_weave_111 ?_
  refine e_ist_n (M := md_X9_weave) (pc := 112) (ls' := [q_A 53, q_A l1, q_I ((m 53 6) - 1), q_N]) dX9_weave_112 (by decide) (q_pl rfl) rfl ?_
  exact q_weak (w_Web_weave_l113 hN q_F _ _ _ hl1 h) ⟨Or.inr rfl, Or.inr rfl, Or.inr rfl, Or.inl rfl, trivial⟩
def f_Web_weave_b75 (k75 : Int → Int → q_Mem → q_Res) (l1 l2 : Int) (m : q_Mem) : q_Res :=
  if 100 ≤ q_w l2 then (f_Web_weave_b106 l1 m)
  else (if q_w (m 53 6) ≤ q_w l2 then (f_Web_weave_b106 l1 m)
  else (q_rd m 56 100 l2 fun v1 =>
  q_bd (f_Web_deepen l1 v1 m) fun _ m2 =>
  k75 l1 (l2 + 1) m2))
set_option maxRecDepth 20000 in
theorem w_Web_weave_b75 {k75 : Int → Int → q_Mem → q_Res} {l1 l2 : Int} {r : Int × q_Mem} {m : q_Mem} {N : Nat} (hN : 81 ≤ N) (hk75 : ∀ (l1 l2 : Int) (m : q_Mem), l1 ∈ (q_Lp : List Int) → k75 l1 l2 m = some r → q_E md_X9_weave 4 N (none) r m 75 [q_A 53, q_A l1, q_I l2, q_N] []) (hl1 : l1 ∈ (q_Lp : List Int)) (h : f_Web_weave_b75 k75 l1 l2 m = some r) : q_E md_X9_weave 4 N (none) r m 75 [q_A 53, q_A l1, q_I l2, q_N] [] := by
  unfold f_Web_weave_b75 at h
  refine q_iload_n (M := md_X9_weave) (pc := 75) dX9_weave_75 rfl ?_
  refine q_bipush (M := md_X9_weave) (pc := 76) (x := 100) dX9_weave_76 (by decide) ?_
  refine e_icmp_ge (M := md_X9_weave) (pc := 78) (tgt := 106) h rfl (q_wlit rfl) dX9_weave_78 (by decide) (fun h => ?_) (fun h => ?_)
  · exact q_weak (w_Web_weave_b106 hN hl1 h) ⟨Or.inr rfl, Or.inr rfl, Or.inl rfl, Or.inl rfl, trivial⟩
  · refine q_iload_n (M := md_X9_weave) (pc := 81) dX9_weave_81 rfl ?_
    refine q_aload_n (M := md_X9_weave) (pc := 82) dX9_weave_82 rfl (by decide) ?_
    refine e_gI (M := md_X9_weave) (pc := 83) (v := m 53 6) fl_9_36 dX9_weave_83 (is_53 hN) rfl ?_
    refine e_icmp_ge (M := md_X9_weave) (pc := 86) (tgt := 106) h rfl rfl dX9_weave_86 (by decide) (fun h => ?_) (fun h => ?_)
    · exact q_weak (w_Web_weave_b106 hN hl1 h) ⟨Or.inr rfl, Or.inr rfl, Or.inl rfl, Or.inl rfl, trivial⟩
    · refine q_aload_n (M := md_X9_weave) (pc := 89) dX9_weave_89 rfl (by decide) ?_
      refine q_aload_n (M := md_X9_weave) (pc := 90) dX9_weave_90 rfl (nn_Lp hl1) ?_
      refine q_aload_n (M := md_X9_weave) (pc := 91) dX9_weave_91 rfl (by decide) ?_
      refine q_getP (M := md_X9_weave) (pc := 92) (v := 56) fl_9_18 dX9_weave_92 (is_53 hN) rfl ?_
      refine q_iload_n (M := md_X9_weave) (pc := 95) dX9_weave_95 rfl ?_
      refine e_rd (M := md_X9_weave) (pc := 96) h dX9_weave_96 (ar_56 hN) (fun v1 h => ?_)
      refine e_callVv (M := md_X9_weave) (pc := 97) (d' := 3) (av := [q_A l1, q_I v1]) (c := 53) h ml_9_60 im_X9_deepen se_X9_deepen dX9_weave_97 (fun v he => ok_X9_deepen hN hl1 he) rfl (is_53 hN) ⟨_, _, rfl⟩ (by decide) (Nat.le_of_ble_eq_true rfl) ⟨by decide, by decide⟩ rfl (fun _ m2 h => ?_)
      refine e_inc (M := md_X9_weave) (pc := 100) (x := l2) (ls' := [q_A 53, q_A l1, q_I (l2 + 1), q_N]) dX9_weave_100 rfl (by decide) (q_pl rfl) rfl ?_
      refine q_goto (M := md_X9_weave) (pc := 103) (tgt := 75) dX9_weave_103 (by decide) ?_
      exact q_weak (hk75 _ _ _ hl1 h) ⟨Or.inr rfl, Or.inr rfl, Or.inr rfl, Or.inl rfl, trivial⟩
def f_Web_weave_l75 : Nat → Int → Int → q_Mem → q_Res
  | 0 => fun _ _ _ => none
  | n + 1 => fun l1 l2 m => f_Web_weave_b75 (f_Web_weave_l75 n) l1 l2 m
theorem w_Web_weave_l75 {r : Int × q_Mem} {N : Nat} (hN : 81 ≤ N) : ∀ (n : Nat) (l1 l2 : Int) (m : q_Mem), l1 ∈ (q_Lp : List Int) → f_Web_weave_l75 n l1 l2 m = some r → q_E md_X9_weave 4 N (none) r m 75 [q_A 53, q_A l1, q_I l2, q_N] [] := by
  intro n
  induction n with
  | zero => intro l1 l2 m hl1 h; exact q_no h
  | succ n ih =>
    intro l1 l2 m hl1 h
    exact w_Web_weave_b75 hN (fun l1 l2 m hl1 h => ih l1 l2 m hl1 h) hl1 h
def f_Web_weave_b28 (k28 : Int → Int → q_Mem → q_Res) (l1 l2 : Int) (m : q_Mem) : q_Res :=
  q_bd (f_Loop_points l1 m) fun v1 m2 =>
  if q_w v1 ≤ q_w l2 then (f_Web_weave_l75 q_F l1 0 m2)
  else (q_bd (f_Loop_pointAt l1 l2 m2) fun v3 m4 =>
  q_bd (f_Loop_readBy l1 v3 m4) fun v5 m6 =>
  q_wr m6 57 100 v3 v5 fun m7 =>
  q_rd m7 57 100 v3 fun v8 =>
  if q_w v8 = 0 then (q_bd (f_Web_putInOrder v3 m7) fun _ m9 =>
  f_Web_weave_b67 k28 l1 l2 m9)
  else (f_Web_weave_b67 k28 l1 l2 m7))
set_option maxRecDepth 20000 in
theorem w_Web_weave_b28 {k28 : Int → Int → q_Mem → q_Res} {l1 l2 : Int} {r : Int × q_Mem} {m : q_Mem} {N : Nat} (hN : 81 ≤ N) (hk28 : ∀ (l1 l2 : Int) (m : q_Mem), l1 ∈ (q_Lp : List Int) → k28 l1 l2 m = some r → q_E md_X9_weave 4 N (none) r m 28 [q_A 53, q_A l1, q_I l2, q_N] []) (hl1 : l1 ∈ (q_Lp : List Int)) (h : f_Web_weave_b28 k28 l1 l2 m = some r) : q_E md_X9_weave 4 N (none) r m 28 [q_A 53, q_A l1, q_I l2, q_N] [] := by
  unfold f_Web_weave_b28 at h
  refine q_iload_n (M := md_X9_weave) (pc := 28) dX9_weave_28 rfl ?_
  refine q_aload_n (M := md_X9_weave) (pc := 29) dX9_weave_29 rfl (nn_Lp hl1) ?_
  refine e_callVi (M := md_X9_weave) (pc := 30) (d' := 1) (av := []) (c := l1) h ml_9_43 im_X2_points se_X2_points dX9_weave_30 (fun v he => ok_X2_points hN hl1 he) rfl (is_Lp hN hl1) ⟨_, _, rfl⟩ (by decide) (Nat.le_of_ble_eq_true rfl) ⟨by decide, by decide⟩ rfl (fun v1 m2 h => ?_)
  refine e_icmp_ge (M := md_X9_weave) (pc := 33) (tgt := 73) h rfl rfl dX9_weave_33 (by decide) (fun h => ?_) (fun h => ?_)
  · refine q_iconst (M := md_X9_weave) (pc := 73) dX9_weave_73 ?_
    refine e_ist_n (M := md_X9_weave) (pc := 74) (ls' := [q_A 53, q_A l1, q_I 0, q_N]) dX9_weave_74 (by decide) (q_pl rfl) rfl ?_
    exact q_weak (w_Web_weave_l75 hN q_F _ _ _ hl1 h) ⟨Or.inr rfl, Or.inr rfl, Or.inr rfl, Or.inl rfl, trivial⟩
  · refine q_aload_n (M := md_X9_weave) (pc := 36) dX9_weave_36 rfl (nn_Lp hl1) ?_
    refine q_iload_n (M := md_X9_weave) (pc := 37) dX9_weave_37 rfl ?_
    refine e_callVi (M := md_X9_weave) (pc := 38) (d' := 1) (av := [q_I l2]) (c := l1) h ml_9_49 im_X2_pointAt se_X2_pointAt dX9_weave_38 (fun v he => ok_X2_pointAt hN hl1 he) rfl (is_Lp hN hl1) ⟨_, _, rfl⟩ (by decide) (Nat.le_of_ble_eq_true rfl) ⟨by decide, by decide⟩ rfl (fun v3 m4 h => ?_)
    refine e_ist_n (M := md_X9_weave) (pc := 41) (ls' := [q_A 53, q_A l1, q_I l2, q_I v3]) dX9_weave_41 (by decide) (q_pl rfl) rfl ?_
    refine q_aload_n (M := md_X9_weave) (pc := 42) dX9_weave_42 rfl (by decide) ?_
    refine q_getP (M := md_X9_weave) (pc := 43) (v := 57) fl_9_21 dX9_weave_43 (is_53 hN) rfl ?_
    refine q_iload_n (M := md_X9_weave) (pc := 46) dX9_weave_46 rfl ?_
    refine q_aload_n (M := md_X9_weave) (pc := 47) dX9_weave_47 rfl (nn_Lp hl1) ?_
    refine q_iload_n (M := md_X9_weave) (pc := 48) dX9_weave_48 rfl ?_
    refine e_callVi (M := md_X9_weave) (pc := 49) (d' := 3) (av := [q_I v3]) (c := l1) h ml_9_53 im_X2_readBy se_X2_readBy dX9_weave_49 (fun v he => ok_X2_readBy hN hl1 he) rfl (is_Lp hN hl1) ⟨_, _, rfl⟩ (by decide) (Nat.le_of_ble_eq_true rfl) ⟨by decide, by decide⟩ rfl (fun v5 m6 h => ?_)
    refine e_wr (M := md_X9_weave) (pc := 52) h dX9_weave_52 (ar_57 hN) (fun m7 h => ?_)
    refine q_aload_n (M := md_X9_weave) (pc := 53) dX9_weave_53 rfl (by decide) ?_
    refine q_getP (M := md_X9_weave) (pc := 54) (v := 57) fl_9_21 dX9_weave_54 (is_53 hN) rfl ?_
    refine q_iload_n (M := md_X9_weave) (pc := 57) dX9_weave_57 rfl ?_
    refine e_rd (M := md_X9_weave) (pc := 58) h dX9_weave_58 (ar_57 hN) (fun v8 h => ?_)
    refine e_if_ne (M := md_X9_weave) (pc := 59) (tgt := 67) h rfl dX9_weave_59 (by decide) (fun h => ?_) (fun h => ?_)
    · exact q_weak (w_Web_weave_b67 hN hk28 hl1 h) ⟨Or.inr rfl, Or.inr rfl, Or.inr rfl, Or.inl rfl, trivial⟩
    · refine q_aload_n (M := md_X9_weave) (pc := 62) dX9_weave_62 rfl (by decide) ?_
      refine q_iload_n (M := md_X9_weave) (pc := 63) dX9_weave_63 rfl ?_
      refine e_callVv (M := md_X9_weave) (pc := 64) (d' := 1) (av := [q_I v3]) (c := 53) h ml_9_56 im_X9_putInOrder se_X9_putInOrder dX9_weave_64 (fun v he => ok_X9_putInOrder hN  he) rfl (is_53 hN) ⟨_, _, rfl⟩ (by decide) (Nat.le_of_ble_eq_true rfl) ⟨by decide, by decide⟩ rfl (fun _ m9 h => ?_)
      exact q_weak (w_Web_weave_b67 hN hk28 hl1 h) ⟨Or.inr rfl, Or.inr rfl, Or.inr rfl, Or.inl rfl, trivial⟩
def f_Web_weave_l28 : Nat → Int → Int → q_Mem → q_Res
  | 0 => fun _ _ _ => none
  | n + 1 => fun l1 l2 m => f_Web_weave_b28 (f_Web_weave_l28 n) l1 l2 m
theorem w_Web_weave_l28 {r : Int × q_Mem} {N : Nat} (hN : 81 ≤ N) : ∀ (n : Nat) (l1 l2 : Int) (m : q_Mem), l1 ∈ (q_Lp : List Int) → f_Web_weave_l28 n l1 l2 m = some r → q_E md_X9_weave 4 N (none) r m 28 [q_A 53, q_A l1, q_I l2, q_N] [] := by
  intro n
  induction n with
  | zero => intro l1 l2 m hl1 h; exact q_no h
  | succ n ih =>
    intro l1 l2 m hl1 h
    exact w_Web_weave_b28 hN (fun l1 l2 m hl1 h => ih l1 l2 m hl1 h) hl1 h
def f_Web_weave (l1 : Int) (m : q_Mem) : q_Res :=
  q_fi m 54 100 (-1) fun m1 =>
  q_fi m1 55 100 (-1) fun m2 =>
  q_pf m2 53 6 0 fun m3 =>
  q_pf m3 53 7 (-1) fun m4 =>
  f_Web_weave_l28 q_F l1 0 m4
set_option maxRecDepth 20000 in
theorem ok_X9_weave {l1 : Int} {r : Int × q_Mem} {m : q_Mem} {N : Nat} (hN : 81 ≤ N) (hl1 : l1 ∈ (q_Lp : List Int)) (h : f_Web_weave l1 m = some r) : q_C md_X9_weave (q_room 4) 0 0 [q_A 53, q_A l1] (q_g N) m (none, q_g N, r.2) := by
  refine q_ofR (by decide) 2 (ls := [q_A 53, q_A l1, q_N, q_N]) rfl (Nat.le_of_ble_eq_true rfl) ?_
  change q_E md_X9_weave 4 N (none) r m 0 [q_A 53, q_A l1, q_N, q_N] []
  unfold f_Web_weave at h
  refine q_aload_n (M := md_X9_weave) (pc := 0) dX9_weave_0 rfl (by decide) ?_
  refine q_getP (M := md_X9_weave) (pc := 1) (v := 54) fl_9_9 dX9_weave_1 (is_53 hN) rfl ?_
  refine q_iconst (M := md_X9_weave) (pc := 4) dX9_weave_4 ?_
  refine e_fill (M := md_X9_weave) (pc := 5) h jl_9_30 dX9_weave_5 (ar_54 hN) (by decide) (Nat.le_of_ble_eq_true rfl) (fun m1 h => ?_)
  refine q_aload_n (M := md_X9_weave) (pc := 8) dX9_weave_8 rfl (by decide) ?_
  refine q_getP (M := md_X9_weave) (pc := 9) (v := 55) fl_9_15 dX9_weave_9 (is_53 hN) rfl ?_
  refine q_iconst (M := md_X9_weave) (pc := 12) dX9_weave_12 ?_
  refine e_fill (M := md_X9_weave) (pc := 13) h jl_9_30 dX9_weave_13 (ar_55 hN) (by decide) (Nat.le_of_ble_eq_true rfl) (fun m2 h => ?_)
  refine q_aload_n (M := md_X9_weave) (pc := 16) dX9_weave_16 rfl (by decide) ?_
  refine q_iconst (M := md_X9_weave) (pc := 17) dX9_weave_17 ?_
  refine e_pfI (M := md_X9_weave) (pc := 18) h fl_9_36 dX9_weave_18 (is_53 hN) rfl (fun m3 h => ?_)
  refine q_aload_n (M := md_X9_weave) (pc := 21) dX9_weave_21 rfl (by decide) ?_
  refine q_iconst (M := md_X9_weave) (pc := 22) dX9_weave_22 ?_
  refine e_pfI (M := md_X9_weave) (pc := 23) h fl_9_40 dX9_weave_23 (is_53 hN) rfl (fun m4 h => ?_)
  refine q_iconst (M := md_X9_weave) (pc := 26) dX9_weave_26 ?_
  refine e_ist_n (M := md_X9_weave) (pc := 27) (ls' := [q_A 53, q_A l1, q_I 0, q_N]) dX9_weave_27 (by decide) (q_pl rfl) rfl ?_
  exact q_weak (w_Web_weave_l28 hN q_F _ _ _ hl1 h) ⟨Or.inr rfl, Or.inr rfl, Or.inr rfl, Or.inl rfl, trivial⟩
def f_Web_isOrdered (l1 : Int) (m : q_Mem) : q_Res :=
  q_rd m 54 100 l1 fun v1 =>
  if q_w v1 = (-1) then (q_rz 0 m)
  else (q_rz 1 m)
set_option maxRecDepth 20000 in
theorem ok_X9_isOrdered {l1 : Int} {r : Int × q_Mem} {m : q_Mem} {N : Nat} (hN : 81 ≤ N) (h : f_Web_isOrdered l1 m = some r) : q_C md_X9_isOrdered (q_room 1) 0 0 [q_A 53, q_I l1] (q_g N) m (some (q_I r.1), q_g N, r.2) := by
  refine q_ofR (by decide) 0 (ls := [q_A 53, q_I l1]) rfl (Nat.le_of_ble_eq_true rfl) ?_
  change q_E md_X9_isOrdered 1 N (some 0) r m 0 [q_A 53, q_I l1] []
  unfold f_Web_isOrdered at h
  refine q_aload_n (M := md_X9_isOrdered) (pc := 0) dX9_isOrdered_0 rfl (by decide) ?_
  refine q_getP (M := md_X9_isOrdered) (pc := 1) (v := 54) fl_9_9 dX9_isOrdered_1 (is_53 hN) rfl ?_
  refine q_iload_n (M := md_X9_isOrdered) (pc := 4) dX9_isOrdered_4 rfl ?_
  refine e_rd (M := md_X9_isOrdered) (pc := 5) h dX9_isOrdered_5 (ar_54 hN) (fun v1 h => ?_)
  refine q_iconst (M := md_X9_isOrdered) (pc := 6) dX9_isOrdered_6 ?_
  refine e_icmp_eq (M := md_X9_isOrdered) (pc := 7) (tgt := 14) h rfl (q_wlit rfl) dX9_isOrdered_7 (by decide) (fun h => ?_) (fun h => ?_)
  · refine q_iconst (M := md_X9_isOrdered) (pc := 14) dX9_isOrdered_14 ?_
    exact e_zret (M := md_X9_isOrdered) (pc := 15) h rfl dX9_isOrdered_15
  · refine q_iconst (M := md_X9_isOrdered) (pc := 10) dX9_isOrdered_10 ?_
    refine q_goto (M := md_X9_isOrdered) (pc := 11) (tgt := 15) dX9_isOrdered_11 (by decide) ?_
    exact e_zret (M := md_X9_isOrdered) (pc := 15) h rfl dX9_isOrdered_15
def f_Web_onLongestRow_b52 (k4 : Int → Int → q_Mem → q_Res) (l1 l2 : Int) (m : q_Mem) : q_Res :=
  k4 l1 (l2 + 1) m
set_option maxRecDepth 20000 in
theorem w_Web_onLongestRow_b52 {k4 : Int → Int → q_Mem → q_Res} {l1 l2 : Int} {r : Int × q_Mem} {m : q_Mem} {N : Nat} (hN : 81 ≤ N) (hk4 : ∀ (l1 l2 : Int) (m : q_Mem), k4 l1 l2 m = some r → q_E md_X9_onLongestRow 1 N (some 0) r m 4 [q_A 53, q_I l1, q_I l2, q_N] []) (h : f_Web_onLongestRow_b52 k4 l1 l2 m = some r) : q_E md_X9_onLongestRow 1 N (some 0) r m 52 [q_A 53, q_I l1, q_I l2, q_N] [] := by
  unfold f_Web_onLongestRow_b52 at h
  refine e_inc (M := md_X9_onLongestRow) (pc := 52) (x := l2) (ls' := [q_A 53, q_I l1, q_I (l2 + 1), q_N]) dX9_onLongestRow_52 rfl (by decide) (q_pl rfl) rfl ?_
  refine q_goto (M := md_X9_onLongestRow) (pc := 55) (tgt := 4) dX9_onLongestRow_55 (by decide) ?_
  exact q_weak (hk4 _ _ _  h) ⟨Or.inr rfl, Or.inr rfl, Or.inr rfl, Or.inl rfl, trivial⟩
def f_Web_onLongestRow_b4 (k4 : Int → Int → q_Mem → q_Res) (l1 l2 : Int) (m : q_Mem) : q_Res :=
  if q_w (m 53 6) ≤ q_w l2 then (q_rt l1 m)
  else (q_rd m 56 100 l2 fun v1 =>
  q_rd m 55 100 v1 fun v2 =>
  if q_w v2 = (-1) then (f_Web_onLongestRow_b52 k4 l1 l2 m)
  else (q_rd m 54 100 v1 fun v3 =>
  q_rd m 55 100 v1 fun v4 =>
  if q_w (v3 + v4) = q_w (m 53 7) then (f_Web_onLongestRow_b52 k4 (l1 + 1) l2 m)
  else (f_Web_onLongestRow_b52 k4 l1 l2 m)))
set_option maxRecDepth 20000 in
theorem w_Web_onLongestRow_b4 {k4 : Int → Int → q_Mem → q_Res} {l1 l2 : Int} {r : Int × q_Mem} {m : q_Mem} {N : Nat} (hN : 81 ≤ N) (hk4 : ∀ (l1 l2 : Int) (m : q_Mem), k4 l1 l2 m = some r → q_E md_X9_onLongestRow 1 N (some 0) r m 4 [q_A 53, q_I l1, q_I l2, q_N] []) (h : f_Web_onLongestRow_b4 k4 l1 l2 m = some r) : q_E md_X9_onLongestRow 1 N (some 0) r m 4 [q_A 53, q_I l1, q_I l2, q_N] [] := by
  unfold f_Web_onLongestRow_b4 at h
  refine q_iload_n (M := md_X9_onLongestRow) (pc := 4) dX9_onLongestRow_4 rfl ?_
  refine q_aload_n (M := md_X9_onLongestRow) (pc := 5) dX9_onLongestRow_5 rfl (by decide) ?_
  refine e_gI (M := md_X9_onLongestRow) (pc := 6) (v := m 53 6) fl_9_36 dX9_onLongestRow_6 (is_53 hN) rfl ?_
  refine e_icmp_ge (M := md_X9_onLongestRow) (pc := 9) (tgt := 58) h rfl rfl dX9_onLongestRow_9 (by decide) (fun h => ?_) (fun h => ?_)
  · refine q_iload_n (M := md_X9_onLongestRow) (pc := 58) dX9_onLongestRow_58 rfl ?_
    exact e_iret (M := md_X9_onLongestRow) (pc := 59) h rfl dX9_onLongestRow_59
  · refine q_aload_n (M := md_X9_onLongestRow) (pc := 12) dX9_onLongestRow_12 rfl (by decide) ?_
    refine q_getP (M := md_X9_onLongestRow) (pc := 13) (v := 56) fl_9_18 dX9_onLongestRow_13 (is_53 hN) rfl ?_
    refine q_iload_n (M := md_X9_onLongestRow) (pc := 16) dX9_onLongestRow_16 rfl ?_
    refine e_rd (M := md_X9_onLongestRow) (pc := 17) h dX9_onLongestRow_17 (ar_56 hN) (fun v1 h => ?_)
    refine e_ist_n (M := md_X9_onLongestRow) (pc := 18) (ls' := [q_A 53, q_I l1, q_I l2, q_I v1]) dX9_onLongestRow_18 (by decide) (q_pl rfl) rfl ?_
    refine q_aload_n (M := md_X9_onLongestRow) (pc := 19) dX9_onLongestRow_19 rfl (by decide) ?_
    refine q_getP (M := md_X9_onLongestRow) (pc := 20) (v := 55) fl_9_15 dX9_onLongestRow_20 (is_53 hN) rfl ?_
    refine q_iload_n (M := md_X9_onLongestRow) (pc := 23) dX9_onLongestRow_23 rfl ?_
    refine e_rd (M := md_X9_onLongestRow) (pc := 24) h dX9_onLongestRow_24 (ar_55 hN) (fun v2 h => ?_)
    refine q_iconst (M := md_X9_onLongestRow) (pc := 25) dX9_onLongestRow_25 ?_
    refine e_icmp_eq (M := md_X9_onLongestRow) (pc := 26) (tgt := 52) h rfl (q_wlit rfl) dX9_onLongestRow_26 (by decide) (fun h => ?_) (fun h => ?_)
    · exact q_weak (w_Web_onLongestRow_b52 hN hk4  h) ⟨Or.inr rfl, Or.inr rfl, Or.inr rfl, Or.inl rfl, trivial⟩
    · refine q_aload_n (M := md_X9_onLongestRow) (pc := 29) dX9_onLongestRow_29 rfl (by decide) ?_
      refine q_getP (M := md_X9_onLongestRow) (pc := 30) (v := 54) fl_9_9 dX9_onLongestRow_30 (is_53 hN) rfl ?_
      refine q_iload_n (M := md_X9_onLongestRow) (pc := 33) dX9_onLongestRow_33 rfl ?_
      refine e_rd (M := md_X9_onLongestRow) (pc := 34) h dX9_onLongestRow_34 (ar_54 hN) (fun v3 h => ?_)
      refine q_aload_n (M := md_X9_onLongestRow) (pc := 35) dX9_onLongestRow_35 rfl (by decide) ?_
      refine q_getP (M := md_X9_onLongestRow) (pc := 36) (v := 55) fl_9_15 dX9_onLongestRow_36 (is_53 hN) rfl ?_
      refine q_iload_n (M := md_X9_onLongestRow) (pc := 39) dX9_onLongestRow_39 rfl ?_
      refine e_rd (M := md_X9_onLongestRow) (pc := 40) h dX9_onLongestRow_40 (ar_55 hN) (fun v4 h => ?_)
      refine q_iadd (M := md_X9_onLongestRow) (pc := 41) dX9_onLongestRow_41 ?_
      refine q_aload_n (M := md_X9_onLongestRow) (pc := 42) dX9_onLongestRow_42 rfl (by decide) ?_
      refine e_gI (M := md_X9_onLongestRow) (pc := 43) (v := m 53 7) fl_9_40 dX9_onLongestRow_43 (is_53 hN) rfl ?_
      refine e_icmp_ne (M := md_X9_onLongestRow) (pc := 46) (tgt := 52) h rfl rfl dX9_onLongestRow_46 (by decide) (fun h => ?_) (fun h => ?_)
      · exact q_weak (w_Web_onLongestRow_b52 hN hk4  h) ⟨Or.inr rfl, Or.inr rfl, Or.inr rfl, Or.inl rfl, trivial⟩
      · refine e_inc (M := md_X9_onLongestRow) (pc := 49) (x := l1) (ls' := [q_A 53, q_I (l1 + 1), q_I l2, q_I v1]) dX9_onLongestRow_49 rfl (by decide) (q_pl rfl) rfl ?_
        exact q_weak (w_Web_onLongestRow_b52 hN hk4  h) ⟨Or.inr rfl, Or.inr rfl, Or.inr rfl, Or.inl rfl, trivial⟩
def f_Web_onLongestRow_l4 : Nat → Int → Int → q_Mem → q_Res
  | 0 => fun _ _ _ => none
  | n + 1 => fun l1 l2 m => f_Web_onLongestRow_b4 (f_Web_onLongestRow_l4 n) l1 l2 m
theorem w_Web_onLongestRow_l4 {r : Int × q_Mem} {N : Nat} (hN : 81 ≤ N) : ∀ (n : Nat) (l1 l2 : Int) (m : q_Mem), f_Web_onLongestRow_l4 n l1 l2 m = some r → q_E md_X9_onLongestRow 1 N (some 0) r m 4 [q_A 53, q_I l1, q_I l2, q_N] [] := by
  intro n
  induction n with
  | zero => intro l1 l2 m h; exact q_no h
  | succ n ih =>
    intro l1 l2 m h
    exact w_Web_onLongestRow_b4 hN (fun l1 l2 m h => ih l1 l2 m h) h
def f_Web_onLongestRow (m : q_Mem) : q_Res :=
  f_Web_onLongestRow_l4 q_F 0 0 m
set_option maxRecDepth 20000 in
theorem ok_X9_onLongestRow {r : Int × q_Mem} {m : q_Mem} {N : Nat} (hN : 81 ≤ N) (h : f_Web_onLongestRow m = some r) : q_C md_X9_onLongestRow (q_room 1) 0 0 [q_A 53] (q_g N) m (some (q_I r.1), q_g N, r.2) := by
  refine q_ofR (by decide) 3 (ls := [q_A 53, q_N, q_N, q_N]) rfl (Nat.le_of_ble_eq_true rfl) ?_
  change q_E md_X9_onLongestRow 1 N (some 0) r m 0 [q_A 53, q_N, q_N, q_N] []
  unfold f_Web_onLongestRow at h
  refine q_iconst (M := md_X9_onLongestRow) (pc := 0) dX9_onLongestRow_0 ?_
  refine e_ist_n (M := md_X9_onLongestRow) (pc := 1) (ls' := [q_A 53, q_I 0, q_N, q_N]) dX9_onLongestRow_1 (by decide) (q_pl rfl) rfl ?_
  refine q_iconst (M := md_X9_onLongestRow) (pc := 2) dX9_onLongestRow_2 ?_
  refine e_ist_n (M := md_X9_onLongestRow) (pc := 3) (ls' := [q_A 53, q_I 0, q_I 0, q_N]) dX9_onLongestRow_3 (by decide) (q_pl rfl) rfl ?_
  exact q_weak (w_Web_onLongestRow_l4 hN q_F _ _ _  h) ⟨Or.inr rfl, Or.inr rfl, Or.inr rfl, Or.inl rfl, trivial⟩
def f_Web_follow_b67 (k6 : Int → Int → Int → Int → q_Mem → q_Res) (l1 l2 l4 l5 : Int) (m : q_Mem) : q_Res :=
  k6 l1 l2 l4 (l5 + 1) m
set_option maxRecDepth 20000 in
theorem w_Web_follow_b67 {k6 : Int → Int → Int → Int → q_Mem → q_Res} {l1 l2 l4 l5 : Int} {r : Int × q_Mem} {m : q_Mem} {N : Nat} (hN : 81 ≤ N) (hk6 : ∀ (l1 l2 l4 l5 : Int) (m : q_Mem), l1 ∈ (q_Lp : List Int) → k6 l1 l2 l4 l5 m = some r → q_E md_X9_follow 3 N (some 0) r m 6 [q_A 53, q_A l1, q_I l2, q_N, q_I l4, q_I l5, q_N] []) (hl1 : l1 ∈ (q_Lp : List Int)) (h : f_Web_follow_b67 k6 l1 l2 l4 l5 m = some r) : q_E md_X9_follow 3 N (some 0) r m 67 [q_A 53, q_A l1, q_I l2, q_N, q_I l4, q_I l5, q_N] [] := by
  unfold f_Web_follow_b67 at h
  refine e_inc (M := md_X9_follow) (pc := 67) (x := l5) (ls' := [q_A 53, q_A l1, q_I l2, q_N, q_I l4, q_I (l5 + 1), q_N]) dX9_follow_67 rfl (by decide) (q_pl rfl) rfl ?_
  refine q_goto (M := md_X9_follow) (pc := 70) (tgt := 6) dX9_follow_70 (by decide) ?_
  exact q_weak (hk6 _ _ _ _ _ hl1 h) ⟨Or.inr rfl, Or.inr rfl, Or.inr rfl, Or.inl rfl, Or.inr rfl, Or.inr rfl, Or.inl rfl, trivial⟩
def f_Web_follow_b6 (k6 : Int → Int → Int → Int → q_Mem → q_Res) (l1 l2 l4 l5 : Int) (m : q_Mem) : q_Res :=
  if q_w (m l1 5) ≤ q_w l5 then (q_rt l4 m)
  else (q_bd (f_Loop_reader l1 l2 l5 m) fun v1 m2 =>
  if q_w v1 = (-1) then (f_Web_follow_b67 k6 l1 l2 l4 l5 m2)
  else (q_rd m2 58 100 v1 fun v3 =>
  if q_w v3 = 0 then (if 100 ≤ q_w l4 then (f_Web_follow_b67 k6 l1 l2 l4 l5 m2)
  else (q_wr m2 58 100 v1 1 fun m4 =>
  q_wr m4 59 100 l4 v1 fun m5 =>
  f_Web_follow_b67 k6 l1 l2 (l4 + 1) l5 m5))
  else (f_Web_follow_b67 k6 l1 l2 l4 l5 m2)))
set_option maxRecDepth 20000 in
theorem w_Web_follow_b6 {k6 : Int → Int → Int → Int → q_Mem → q_Res} {l1 l2 l4 l5 : Int} {r : Int × q_Mem} {m : q_Mem} {N : Nat} (hN : 81 ≤ N) (hk6 : ∀ (l1 l2 l4 l5 : Int) (m : q_Mem), l1 ∈ (q_Lp : List Int) → k6 l1 l2 l4 l5 m = some r → q_E md_X9_follow 3 N (some 0) r m 6 [q_A 53, q_A l1, q_I l2, q_N, q_I l4, q_I l5, q_N] []) (hl1 : l1 ∈ (q_Lp : List Int)) (h : f_Web_follow_b6 k6 l1 l2 l4 l5 m = some r) : q_E md_X9_follow 3 N (some 0) r m 6 [q_A 53, q_A l1, q_I l2, q_N, q_I l4, q_I l5, q_N] [] := by
  unfold f_Web_follow_b6 at h
  refine q_iload (M := md_X9_follow) (pc := 6) dX9_follow_6 rfl ?_
  refine q_aload_n (M := md_X9_follow) (pc := 8) dX9_follow_8 rfl (nn_Lp hl1) ?_
  refine e_gI (M := md_X9_follow) (pc := 9) (v := m l1 5) fl_9_68 dX9_follow_9 (is_Lp hN hl1) rfl ?_
  refine e_icmp_ge (M := md_X9_follow) (pc := 12) (tgt := 73) h rfl rfl dX9_follow_12 (by decide) (fun h => ?_) (fun h => ?_)
  · refine q_iload (M := md_X9_follow) (pc := 73) dX9_follow_73 rfl ?_
    exact e_iret (M := md_X9_follow) (pc := 75) h rfl dX9_follow_75
  · refine q_aload_n (M := md_X9_follow) (pc := 15) dX9_follow_15 rfl (nn_Lp hl1) ?_
    refine q_iload_n (M := md_X9_follow) (pc := 16) dX9_follow_16 rfl ?_
    refine q_iload (M := md_X9_follow) (pc := 17) dX9_follow_17 rfl ?_
    refine e_callVi (M := md_X9_follow) (pc := 19) (d' := 2) (av := [q_I l2, q_I l5]) (c := l1) h ml_9_80 im_X2_reader se_X2_reader dX9_follow_19 (fun v he => ok_X2_reader hN hl1 he) rfl (is_Lp hN hl1) ⟨_, _, rfl⟩ (by decide) (Nat.le_of_ble_eq_true rfl) ⟨by decide, by decide⟩ rfl (fun v1 m2 h => ?_)
    refine e_ist (M := md_X9_follow) (pc := 22) (ls' := [q_A 53, q_A l1, q_I l2, q_N, q_I l4, q_I l5, q_I v1]) dX9_follow_22 (by decide) (q_pl rfl) rfl ?_
    refine q_iload (M := md_X9_follow) (pc := 24) dX9_follow_24 rfl ?_
    refine q_iconst (M := md_X9_follow) (pc := 26) dX9_follow_26 ?_
    refine e_icmp_eq (M := md_X9_follow) (pc := 27) (tgt := 67) h rfl (q_wlit rfl) dX9_follow_27 (by decide) (fun h => ?_) (fun h => ?_)
    · exact q_weak (w_Web_follow_b67 hN hk6 hl1 h) ⟨Or.inr rfl, Or.inr rfl, Or.inr rfl, Or.inl rfl, Or.inr rfl, Or.inr rfl, Or.inl rfl, trivial⟩
    · refine q_aload_n (M := md_X9_follow) (pc := 30) dX9_follow_30 rfl (by decide) ?_
      refine q_getP (M := md_X9_follow) (pc := 31) (v := 58) fl_9_24 dX9_follow_31 (is_53 hN) rfl ?_
      refine q_iload (M := md_X9_follow) (pc := 34) dX9_follow_34 rfl ?_
      refine e_rd (M := md_X9_follow) (pc := 36) h dX9_follow_36 (ar_58 hN) (fun v3 h => ?_)
      refine e_if_ne (M := md_X9_follow) (pc := 37) (tgt := 67) h rfl dX9_follow_37 (by decide) (fun h => ?_) (fun h => ?_)
      · exact q_weak (w_Web_follow_b67 hN hk6 hl1 h) ⟨Or.inr rfl, Or.inr rfl, Or.inr rfl, Or.inl rfl, Or.inr rfl, Or.inr rfl, Or.inl rfl, trivial⟩
      · refine q_iload (M := md_X9_follow) (pc := 40) dX9_follow_40 rfl ?_
        refine q_bipush (M := md_X9_follow) (pc := 42) (x := 100) dX9_follow_42 (by decide) ?_
        refine e_icmp_ge (M := md_X9_follow) (pc := 44) (tgt := 67) h rfl (q_wlit rfl) dX9_follow_44 (by decide) (fun h => ?_) (fun h => ?_)
        · exact q_weak (w_Web_follow_b67 hN hk6 hl1 h) ⟨Or.inr rfl, Or.inr rfl, Or.inr rfl, Or.inl rfl, Or.inr rfl, Or.inr rfl, Or.inl rfl, trivial⟩
        · refine q_aload_n (M := md_X9_follow) (pc := 47) dX9_follow_47 rfl (by decide) ?_
          refine q_getP (M := md_X9_follow) (pc := 48) (v := 58) fl_9_24 dX9_follow_48 (is_53 hN) rfl ?_
          refine q_iload (M := md_X9_follow) (pc := 51) dX9_follow_51 rfl ?_
          refine q_iconst (M := md_X9_follow) (pc := 53) dX9_follow_53 ?_
          refine e_wr (M := md_X9_follow) (pc := 54) h dX9_follow_54 (ar_58 hN) (fun m4 h => ?_)
          refine q_aload_n (M := md_X9_follow) (pc := 55) dX9_follow_55 rfl (by decide) ?_
          refine q_getP (M := md_X9_follow) (pc := 56) (v := 59) fl_9_27 dX9_follow_56 (is_53 hN) rfl ?_
          refine q_iload (M := md_X9_follow) (pc := 59) dX9_follow_59 rfl ?_
          refine q_iload (M := md_X9_follow) (pc := 61) dX9_follow_61 rfl ?_
          refine e_wr (M := md_X9_follow) (pc := 63) h dX9_follow_63 (ar_59 hN) (fun m5 h => ?_)
          refine e_inc (M := md_X9_follow) (pc := 64) (x := l4) (ls' := [q_A 53, q_A l1, q_I l2, q_N, q_I (l4 + 1), q_I l5, q_I v1]) dX9_follow_64 rfl (by decide) (q_pl rfl) rfl ?_
          exact q_weak (w_Web_follow_b67 hN hk6 hl1 h) ⟨Or.inr rfl, Or.inr rfl, Or.inr rfl, Or.inl rfl, Or.inr rfl, Or.inr rfl, Or.inl rfl, trivial⟩
def f_Web_follow_l6 : Nat → Int → Int → Int → Int → q_Mem → q_Res
  | 0 => fun _ _ _ _ _ => none
  | n + 1 => fun l1 l2 l4 l5 m => f_Web_follow_b6 (f_Web_follow_l6 n) l1 l2 l4 l5 m
theorem w_Web_follow_l6 {r : Int × q_Mem} {N : Nat} (hN : 81 ≤ N) : ∀ (n : Nat) (l1 l2 l4 l5 : Int) (m : q_Mem), l1 ∈ (q_Lp : List Int) → f_Web_follow_l6 n l1 l2 l4 l5 m = some r → q_E md_X9_follow 3 N (some 0) r m 6 [q_A 53, q_A l1, q_I l2, q_N, q_I l4, q_I l5, q_N] [] := by
  intro n
  induction n with
  | zero => intro l1 l2 l4 l5 m hl1 h; exact q_no h
  | succ n ih =>
    intro l1 l2 l4 l5 m hl1 h
    exact w_Web_follow_b6 hN (fun l1 l2 l4 l5 m hl1 h => ih l1 l2 l4 l5 m hl1 h) hl1 h
def f_Web_follow (l1 l2 l3 : Int) (m : q_Mem) : q_Res :=
  f_Web_follow_l6 q_F l1 l2 l3 0 m
set_option maxRecDepth 20000 in
theorem ok_X9_follow {l1 l2 l3 : Int} {r : Int × q_Mem} {m : q_Mem} {N : Nat} (hN : 81 ≤ N) (hl1 : l1 ∈ (q_Lp : List Int)) (h : f_Web_follow l1 l2 l3 m = some r) : q_C md_X9_follow (q_room 3) 0 0 [q_A 53, q_A l1, q_I l2, q_I l3] (q_g N) m (some (q_I r.1), q_g N, r.2) := by
  refine q_ofR (by decide) 3 (ls := [q_A 53, q_A l1, q_I l2, q_I l3, q_N, q_N, q_N]) rfl (Nat.le_of_ble_eq_true rfl) ?_
  change q_E md_X9_follow 3 N (some 0) r m 0 [q_A 53, q_A l1, q_I l2, q_I l3, q_N, q_N, q_N] []
  unfold f_Web_follow at h
  refine q_iload_n (M := md_X9_follow) (pc := 0) dX9_follow_0 rfl ?_
  refine e_ist (M := md_X9_follow) (pc := 1) (ls' := [q_A 53, q_A l1, q_I l2, q_I l3, q_I l3, q_N, q_N]) dX9_follow_1 (by decide) (q_pl rfl) rfl ?_
  refine q_iconst (M := md_X9_follow) (pc := 3) dX9_follow_3 ?_
  refine e_ist (M := md_X9_follow) (pc := 4) (ls' := [q_A 53, q_A l1, q_I l2, q_I l3, q_I l3, q_I 0, q_N]) dX9_follow_4 (by decide) (q_pl rfl) rfl ?_
  exact q_weak (w_Web_follow_l6 hN q_F _ _ _ _ _ hl1 h) ⟨Or.inr rfl, Or.inr rfl, Or.inr rfl, Or.inl rfl, Or.inr rfl, Or.inr rfl, Or.inl rfl, trivial⟩
def f_Web_followers_b19 (k19 : Int → Int → Int → q_Mem → q_Res) (l1 l3 l4 : Int) (m : q_Mem) : q_Res :=
  if 100 ≤ q_w l4 then (q_rt l3 m)
  else (if q_w l3 ≤ q_w l4 then (q_rt l3 m)
  else (q_rd m 59 100 l4 fun v1 =>
  q_bd (f_Web_follow l1 v1 l3 m) fun v2 m3 =>
  k19 l1 v2 (l4 + 1) m3))
set_option maxRecDepth 20000 in
theorem w_Web_followers_b19 {k19 : Int → Int → Int → q_Mem → q_Res} {l1 l3 l4 : Int} {r : Int × q_Mem} {m : q_Mem} {N : Nat} (hN : 81 ≤ N) (hk19 : ∀ (l1 l3 l4 : Int) (m : q_Mem), l1 ∈ (q_Lp : List Int) → k19 l1 l3 l4 m = some r → q_E md_X9_followers 4 N (some 0) r m 19 [q_A 53, q_A l1, q_N, q_I l3, q_I l4] []) (hl1 : l1 ∈ (q_Lp : List Int)) (h : f_Web_followers_b19 k19 l1 l3 l4 m = some r) : q_E md_X9_followers 4 N (some 0) r m 19 [q_A 53, q_A l1, q_N, q_I l3, q_I l4] [] := by
  unfold f_Web_followers_b19 at h
  refine q_iload (M := md_X9_followers) (pc := 19) dX9_followers_19 rfl ?_
  refine q_bipush (M := md_X9_followers) (pc := 21) (x := 100) dX9_followers_21 (by decide) ?_
  refine e_icmp_ge (M := md_X9_followers) (pc := 23) (tgt := 52) h rfl (q_wlit rfl) dX9_followers_23 (by decide) (fun h => ?_) (fun h => ?_)
  · refine q_iload_n (M := md_X9_followers) (pc := 52) dX9_followers_52 rfl ?_
    exact e_iret (M := md_X9_followers) (pc := 53) h rfl dX9_followers_53
  · refine q_iload (M := md_X9_followers) (pc := 26) dX9_followers_26 rfl ?_
    refine q_iload_n (M := md_X9_followers) (pc := 28) dX9_followers_28 rfl ?_
    refine e_icmp_ge (M := md_X9_followers) (pc := 29) (tgt := 52) h rfl rfl dX9_followers_29 (by decide) (fun h => ?_) (fun h => ?_)
    · refine q_iload_n (M := md_X9_followers) (pc := 52) dX9_followers_52 rfl ?_
      exact e_iret (M := md_X9_followers) (pc := 53) h rfl dX9_followers_53
    · refine q_aload_n (M := md_X9_followers) (pc := 32) dX9_followers_32 rfl (by decide) ?_
      refine q_aload_n (M := md_X9_followers) (pc := 33) dX9_followers_33 rfl (nn_Lp hl1) ?_
      refine q_aload_n (M := md_X9_followers) (pc := 34) dX9_followers_34 rfl (by decide) ?_
      refine q_getP (M := md_X9_followers) (pc := 35) (v := 59) fl_9_27 dX9_followers_35 (is_53 hN) rfl ?_
      refine q_iload (M := md_X9_followers) (pc := 38) dX9_followers_38 rfl ?_
      refine e_rd (M := md_X9_followers) (pc := 40) h dX9_followers_40 (ar_59 hN) (fun v1 h => ?_)
      refine q_iload_n (M := md_X9_followers) (pc := 41) dX9_followers_41 rfl ?_
      refine e_callVi (M := md_X9_followers) (pc := 42) (d' := 3) (av := [q_A l1, q_I v1, q_I l3]) (c := 53) h ml_9_83 im_X9_follow se_X9_follow dX9_followers_42 (fun v he => ok_X9_follow hN hl1 he) rfl (is_53 hN) ⟨_, _, rfl⟩ (by decide) (Nat.le_of_ble_eq_true rfl) ⟨by decide, by decide⟩ rfl (fun v2 m3 h => ?_)
      refine e_ist_n (M := md_X9_followers) (pc := 45) (ls' := [q_A 53, q_A l1, q_N, q_I v2, q_I l4]) dX9_followers_45 (by decide) (q_pl rfl) rfl ?_
      refine e_inc (M := md_X9_followers) (pc := 46) (x := l4) (ls' := [q_A 53, q_A l1, q_N, q_I v2, q_I (l4 + 1)]) dX9_followers_46 rfl (by decide) (q_pl rfl) rfl ?_
      refine q_goto (M := md_X9_followers) (pc := 49) (tgt := 19) dX9_followers_49 (by decide) ?_
      exact q_weak (hk19 _ _ _ _ hl1 h) ⟨Or.inr rfl, Or.inr rfl, Or.inl rfl, Or.inr rfl, Or.inr rfl, trivial⟩
def f_Web_followers_l19 : Nat → Int → Int → Int → q_Mem → q_Res
  | 0 => fun _ _ _ _ => none
  | n + 1 => fun l1 l3 l4 m => f_Web_followers_b19 (f_Web_followers_l19 n) l1 l3 l4 m
theorem w_Web_followers_l19 {r : Int × q_Mem} {N : Nat} (hN : 81 ≤ N) : ∀ (n : Nat) (l1 l3 l4 : Int) (m : q_Mem), l1 ∈ (q_Lp : List Int) → f_Web_followers_l19 n l1 l3 l4 m = some r → q_E md_X9_followers 4 N (some 0) r m 19 [q_A 53, q_A l1, q_N, q_I l3, q_I l4] [] := by
  intro n
  induction n with
  | zero => intro l1 l3 l4 m hl1 h; exact q_no h
  | succ n ih =>
    intro l1 l3 l4 m hl1 h
    exact w_Web_followers_b19 hN (fun l1 l3 l4 m hl1 h => ih l1 l3 l4 m hl1 h) hl1 h
def f_Web_followers (l1 l2 : Int) (m : q_Mem) : q_Res :=
  q_fi m 58 100 0 fun m1 =>
  q_bd (f_Web_follow l1 l2 0 m1) fun v2 m3 =>
  f_Web_followers_l19 q_F l1 v2 0 m3
set_option maxRecDepth 20000 in
theorem ok_X9_followers {l1 l2 : Int} {r : Int × q_Mem} {m : q_Mem} {N : Nat} (hN : 81 ≤ N) (hl1 : l1 ∈ (q_Lp : List Int)) (h : f_Web_followers l1 l2 m = some r) : q_C md_X9_followers (q_room 4) 0 0 [q_A 53, q_A l1, q_I l2] (q_g N) m (some (q_I r.1), q_g N, r.2) := by
  refine q_ofR (by decide) 2 (ls := [q_A 53, q_A l1, q_I l2, q_N, q_N]) rfl (Nat.le_of_ble_eq_true rfl) ?_
  change q_E md_X9_followers 4 N (some 0) r m 0 [q_A 53, q_A l1, q_I l2, q_N, q_N] []
  unfold f_Web_followers at h
  refine q_aload_n (M := md_X9_followers) (pc := 0) dX9_followers_0 rfl (by decide) ?_
  refine q_getP (M := md_X9_followers) (pc := 1) (v := 58) fl_9_24 dX9_followers_1 (is_53 hN) rfl ?_
  refine q_iconst (M := md_X9_followers) (pc := 4) dX9_followers_4 ?_
  refine e_fill (M := md_X9_followers) (pc := 5) h jl_9_30 dX9_followers_5 (ar_58 hN) (by decide) (Nat.le_of_ble_eq_true rfl) (fun m1 h => ?_)
  refine q_aload_n (M := md_X9_followers) (pc := 8) dX9_followers_8 rfl (by decide) ?_
  refine q_aload_n (M := md_X9_followers) (pc := 9) dX9_followers_9 rfl (nn_Lp hl1) ?_
  refine q_iload_n (M := md_X9_followers) (pc := 10) dX9_followers_10 rfl ?_
  refine q_iconst (M := md_X9_followers) (pc := 11) dX9_followers_11 ?_
  refine e_callVi (M := md_X9_followers) (pc := 12) (d' := 3) (av := [q_A l1, q_I l2, q_I 0]) (c := 53) h ml_9_83 im_X9_follow se_X9_follow dX9_followers_12 (fun v he => ok_X9_follow hN hl1 he) rfl (is_53 hN) ⟨_, _, rfl⟩ (by decide) (Nat.le_of_ble_eq_true rfl) ⟨by decide, by decide⟩ rfl (fun v2 m3 h => ?_)
  refine e_ist_n (M := md_X9_followers) (pc := 15) (ls' := [q_A 53, q_A l1, q_I l2, q_I v2, q_N]) dX9_followers_15 (by decide) (q_pl rfl) rfl ?_
  refine q_iconst (M := md_X9_followers) (pc := 16) dX9_followers_16 ?_
  refine e_ist (M := md_X9_followers) (pc := 17) (ls' := [q_A 53, q_A l1, q_I l2, q_I v2, q_I 0]) dX9_followers_17 (by decide) (q_pl rfl) rfl ?_
  exact q_weak (w_Web_followers_l19 hN q_F _ _ _ _ hl1 h) ⟨Or.inr rfl, Or.inr rfl, Or.inl rfl, Or.inr rfl, Or.inr rfl, trivial⟩
