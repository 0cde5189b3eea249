def f_Hist_restart (m : q_Mem) : q_Res :=
  q_pf m 28 1 0 fun m1 =>
  q_pf m1 28 2 0 fun m2 =>
  q_rd m2 29 21 0 fun v3 => q_one q_Ly v3 <|
  q_rt v3 m2
set_option maxRecDepth 20000 in
theorem ok_X0_restart {r : Int × q_Mem} {m : q_Mem} {N : Nat} (hN : 81 ≤ N) (h : f_Hist_restart m = some r) : q_C md_X0_restart (q_room 1) 0 0 [q_A 28] (q_g N) m (some (q_A r.1), q_g N, r.2) := by
  refine q_ofR (by decide) 0 (ls := [q_A 28]) rfl (Nat.le_of_ble_eq_true rfl) ?_
  change q_E md_X0_restart 1 N (some 2) r m 0 [q_A 28] []
  unfold f_Hist_restart at h
  refine q_aload_n (M := md_X0_restart) (pc := 0) dX0_restart_0 rfl (by decide) ?_
  refine q_iconst (M := md_X0_restart) (pc := 1) dX0_restart_1 ?_
  refine e_pfI (M := md_X0_restart) (pc := 2) h fl_0_16 dX0_restart_2 (is_28 hN) rfl (fun m1 h => ?_)
  refine q_aload_n (M := md_X0_restart) (pc := 5) dX0_restart_5 rfl (by decide) ?_
  refine q_iconst (M := md_X0_restart) (pc := 6) dX0_restart_6 ?_
  refine e_pfI (M := md_X0_restart) (pc := 7) h fl_0_20 dX0_restart_7 (is_28 hN) rfl (fun m2 h => ?_)
  refine q_aload_n (M := md_X0_restart) (pc := 10) dX0_restart_10 rfl (by decide) ?_
  refine q_getP (M := md_X0_restart) (pc := 11) (v := 29) fl_0_11 dX0_restart_11 (is_28 hN) rfl ?_
  refine q_iconst (M := md_X0_restart) (pc := 14) dX0_restart_14 ?_
  refine e_rda (M := md_X0_restart) (pc := 15) h dX0_restart_15 (ar_29 hN) (fun v3 h => ?_)
  obtain ⟨hv3, h⟩ := e_one h
  exact e_aret (M := md_X0_restart) (pc := 16) h rfl (Or.inl ⟨_, rfl⟩) (nn_Ly hv3) dX0_restart_16
def f_Hist_dropOldest_b9 (k9 : Int → Int → q_Mem → q_Res) (l1 l2 : Int) (m : q_Mem) : q_Res :=
  if 20 ≤ q_w l2 then (q_wr m 29 21 20 l1 fun m1 =>
  q_rt 0 m1)
  else (q_rd m 29 21 (l2 + 1) fun v2 => q_one q_Ly v2 <|
  q_wr m 29 21 l2 v2 fun m3 =>
  k9 l1 (l2 + 1) m3)
set_option maxRecDepth 20000 in
theorem w_Hist_dropOldest_b9 {k9 : Int → Int → q_Mem → q_Res} {l1 l2 : Int} {r : Int × q_Mem} {m : q_Mem} {N : Nat} (hN : 81 ≤ N) (hk9 : ∀ (l1 l2 : Int) (m : q_Mem), l1 ∈ (q_Ly : List Int) → k9 l1 l2 m = some r → q_E md_X0_dropOldest 1 N (none) r m 9 [q_A 28, q_A l1, q_I l2] []) (hl1 : l1 ∈ (q_Ly : List Int)) (h : f_Hist_dropOldest_b9 k9 l1 l2 m = some r) : q_E md_X0_dropOldest 1 N (none) r m 9 [q_A 28, q_A l1, q_I l2] [] := by
  unfold f_Hist_dropOldest_b9 at h
  refine q_iload_n (M := md_X0_dropOldest) (pc := 9) dX0_dropOldest_9 rfl ?_
  refine q_bipush (M := md_X0_dropOldest) (pc := 10) (x := 20) dX0_dropOldest_10 (by decide) ?_
  refine e_icmp_ge (M := md_X0_dropOldest) (pc := 12) (tgt := 35) h rfl (q_wlit rfl) dX0_dropOldest_12 (by decide) (fun h => ?_) (fun h => ?_)
  · refine q_aload_n (M := md_X0_dropOldest) (pc := 35) dX0_dropOldest_35 rfl (by decide) ?_
    refine q_getP (M := md_X0_dropOldest) (pc := 36) (v := 29) fl_0_11 dX0_dropOldest_36 (is_28 hN) rfl ?_
    refine q_bipush (M := md_X0_dropOldest) (pc := 39) (x := 20) dX0_dropOldest_39 (by decide) ?_
    refine q_aload_n (M := md_X0_dropOldest) (pc := 41) dX0_dropOldest_41 rfl (nn_Ly hl1) ?_
    refine e_wra (M := md_X0_dropOldest) (pc := 42) h dX0_dropOldest_42 (ar_29 hN) (is_Ly hN hl1) (fun m1 h => ?_)
    exact e_vret (M := md_X0_dropOldest) (pc := 43) h rfl dX0_dropOldest_43
  · refine q_aload_n (M := md_X0_dropOldest) (pc := 15) dX0_dropOldest_15 rfl (by decide) ?_
    refine q_getP (M := md_X0_dropOldest) (pc := 16) (v := 29) fl_0_11 dX0_dropOldest_16 (is_28 hN) rfl ?_
    refine q_iload_n (M := md_X0_dropOldest) (pc := 19) dX0_dropOldest_19 rfl ?_
    refine q_aload_n (M := md_X0_dropOldest) (pc := 20) dX0_dropOldest_20 rfl (by decide) ?_
    refine q_getP (M := md_X0_dropOldest) (pc := 21) (v := 29) fl_0_11 dX0_dropOldest_21 (is_28 hN) rfl ?_
    refine q_iload_n (M := md_X0_dropOldest) (pc := 24) dX0_dropOldest_24 rfl ?_
    refine q_iconst (M := md_X0_dropOldest) (pc := 25) dX0_dropOldest_25 ?_
    refine q_iadd (M := md_X0_dropOldest) (pc := 26) dX0_dropOldest_26 ?_
    refine e_rda (M := md_X0_dropOldest) (pc := 27) h dX0_dropOldest_27 (ar_29 hN) (fun v2 h => ?_)
    obtain ⟨hv2, h⟩ := e_one h
    refine e_wra (M := md_X0_dropOldest) (pc := 28) h dX0_dropOldest_28 (ar_29 hN) (is_Ly hN hv2) (fun m3 h => ?_)
    refine e_inc (M := md_X0_dropOldest) (pc := 29) (x := l2) (ls' := [q_A 28, q_A l1, q_I (l2 + 1)]) dX0_dropOldest_29 rfl (by decide) (q_pl rfl) rfl ?_
    refine q_goto (M := md_X0_dropOldest) (pc := 32) (tgt := 9) dX0_dropOldest_32 (by decide) ?_
    exact q_weak (hk9 _ _ _ hl1 h) ⟨Or.inr rfl, Or.inr rfl, Or.inr rfl, trivial⟩
def f_Hist_dropOldest_l9 : Nat → Int → Int → q_Mem → q_Res
  | 0 => fun _ _ _ => none
  | n + 1 => fun l1 l2 m => f_Hist_dropOldest_b9 (f_Hist_dropOldest_l9 n) l1 l2 m
theorem w_Hist_dropOldest_l9 {r : Int × q_Mem} {N : Nat} (hN : 81 ≤ N) : ∀ (n : Nat) (l1 l2 : Int) (m : q_Mem), l1 ∈ (q_Ly : List Int) → f_Hist_dropOldest_l9 n l1 l2 m = some r → q_E md_X0_dropOldest 1 N (none) r m 9 [q_A 28, q_A l1, q_I l2] [] := by
  intro n
  induction n with
  | zero => intro l1 l2 m hl1 h; exact q_no h
  | succ n ih =>
    intro l1 l2 m hl1 h
    exact w_Hist_dropOldest_b9 hN (fun l1 l2 m hl1 h => ih l1 l2 m hl1 h) hl1 h
def f_Hist_dropOldest (m : q_Mem) : q_Res :=
  q_rd m 29 21 0 fun v1 => q_one q_Ly v1 <|
  f_Hist_dropOldest_l9 q_F v1 0 m
set_option maxRecDepth 20000 in
theorem ok_X0_dropOldest {r : Int × q_Mem} {m : q_Mem} {N : Nat} (hN : 81 ≤ N) (h : f_Hist_dropOldest m = some r) : q_C md_X0_dropOldest (q_room 1) 0 0 [q_A 28] (q_g N) m (none, q_g N, r.2) := by
  refine q_ofR (by decide) 2 (ls := [q_A 28, q_N, q_N]) rfl (Nat.le_of_ble_eq_true rfl) ?_
  change q_E md_X0_dropOldest 1 N (none) r m 0 [q_A 28, q_N, q_N] []
  unfold f_Hist_dropOldest at h
  refine q_aload_n (M := md_X0_dropOldest) (pc := 0) dX0_dropOldest_0 rfl (by decide) ?_
  refine q_getP (M := md_X0_dropOldest) (pc := 1) (v := 29) fl_0_11 dX0_dropOldest_1 (is_28 hN) rfl ?_
  refine q_iconst (M := md_X0_dropOldest) (pc := 4) dX0_dropOldest_4 ?_
  refine e_rda (M := md_X0_dropOldest) (pc := 5) h dX0_dropOldest_5 (ar_29 hN) (fun v1 h => ?_)
  obtain ⟨hv1, h⟩ := e_one h
  refine e_ast_n (M := md_X0_dropOldest) (pc := 6) (ls' := [q_A 28, q_A v1, q_N]) dX0_dropOldest_6 (nn_Ly hv1) (by decide) (q_pl rfl) rfl ?_
  refine q_iconst (M := md_X0_dropOldest) (pc := 7) dX0_dropOldest_7 ?_
  refine e_ist_n (M := md_X0_dropOldest) (pc := 8) (ls' := [q_A 28, q_A v1, q_I 0]) dX0_dropOldest_8 (by decide) (q_pl rfl) rfl ?_
  exact q_weak (w_Hist_dropOldest_l9 hN q_F _ _ _ hv1 h) ⟨Or.inr rfl, Or.inr rfl, Or.inr rfl, trivial⟩
def f_Layo_copy (t l1 : Int) (m : q_Mem) : q_Res :=
  q_pf m t 0 (m l1 0) fun m1 =>
  q_pf m1 t 1 (m1 l1 1) fun m2 =>
  q_pf m2 t 2 (m2 l1 2) fun m3 =>
  q_pf m3 t 3 (m3 l1 3) fun m4 =>
  q_pf m4 t 4 (m4 l1 4) fun m5 =>
  q_pf m5 t 5 (m5 l1 5) fun m6 =>
  q_rt 0 m6
set_option maxRecDepth 20000 in
theorem ok_X1_copy {t l1 : Int} {r : Int × q_Mem} {m : q_Mem} {N : Nat} (hN : 81 ≤ N) (ht : t ∈ q_Ly) (hl1 : l1 ∈ (q_Ly : List Int)) (h : f_Layo_copy t l1 m = some r) : q_C md_X1_copy (q_room 1) 0 0 [q_A t, q_A l1] (q_g N) m (none, q_g N, r.2) := by
  refine q_ofR (by decide) 0 (ls := [q_A t, q_A l1]) rfl (Nat.le_of_ble_eq_true rfl) ?_
  change q_E md_X1_copy 1 N (none) r m 0 [q_A t, q_A l1] []
  unfold f_Layo_copy at h
  refine q_aload_n (M := md_X1_copy) (pc := 0) dX1_copy_0 rfl (nn_Ly ht) ?_
  refine q_aload_n (M := md_X1_copy) (pc := 1) dX1_copy_1 rfl (nn_Ly hl1) ?_
  refine e_gI (M := md_X1_copy) (pc := 2) (v := m l1 0) fl_1_7 dX1_copy_2 (is_Ly hN hl1) rfl ?_
  refine e_pfI (M := md_X1_copy) (pc := 5) h fl_1_7 dX1_copy_5 (is_Ly hN ht) rfl (fun m1 h => ?_)
  refine q_aload_n (M := md_X1_copy) (pc := 8) dX1_copy_8 rfl (nn_Ly ht) ?_
  refine q_aload_n (M := md_X1_copy) (pc := 9) dX1_copy_9 rfl (nn_Ly hl1) ?_
  refine e_gI (M := md_X1_copy) (pc := 10) (v := m1 l1 1) fl_1_13 dX1_copy_10 (is_Ly hN hl1) rfl ?_
  refine e_pfI (M := md_X1_copy) (pc := 13) h fl_1_13 dX1_copy_13 (is_Ly hN ht) rfl (fun m2 h => ?_)
  refine q_aload_n (M := md_X1_copy) (pc := 16) dX1_copy_16 rfl (nn_Ly ht) ?_
  refine q_aload_n (M := md_X1_copy) (pc := 17) dX1_copy_17 rfl (nn_Ly hl1) ?_
  refine e_gI (M := md_X1_copy) (pc := 18) (v := m2 l1 2) fl_1_16 dX1_copy_18 (is_Ly hN hl1) rfl ?_
  refine e_pfI (M := md_X1_copy) (pc := 21) h fl_1_16 dX1_copy_21 (is_Ly hN ht) rfl (fun m3 h => ?_)
  refine q_aload_n (M := md_X1_copy) (pc := 24) dX1_copy_24 rfl (nn_Ly ht) ?_
  refine q_aload_n (M := md_X1_copy) (pc := 25) dX1_copy_25 rfl (nn_Ly hl1) ?_
  refine e_gI (M := md_X1_copy) (pc := 26) (v := m3 l1 3) fl_1_19 dX1_copy_26 (is_Ly hN hl1) rfl ?_
  refine e_pfI (M := md_X1_copy) (pc := 29) h fl_1_19 dX1_copy_29 (is_Ly hN ht) rfl (fun m4 h => ?_)
  refine q_aload_n (M := md_X1_copy) (pc := 32) dX1_copy_32 rfl (nn_Ly ht) ?_
  refine q_aload_n (M := md_X1_copy) (pc := 33) dX1_copy_33 rfl (nn_Ly hl1) ?_
  refine e_gI (M := md_X1_copy) (pc := 34) (v := m4 l1 4) fl_1_22 dX1_copy_34 (is_Ly hN hl1) rfl ?_
  refine e_pfI (M := md_X1_copy) (pc := 37) h fl_1_22 dX1_copy_37 (is_Ly hN ht) rfl (fun m5 h => ?_)
  refine q_aload_n (M := md_X1_copy) (pc := 40) dX1_copy_40 rfl (nn_Ly ht) ?_
  refine q_aload_n (M := md_X1_copy) (pc := 41) dX1_copy_41 rfl (nn_Ly hl1) ?_
  refine e_gL (M := md_X1_copy) (pc := 42) (v := m5 l1 5) fl_1_25 dX1_copy_42 (is_Ly hN hl1) rfl ?_
  refine e_pfL (M := md_X1_copy) (pc := 45) h fl_1_25 dX1_copy_45 (is_Ly hN ht) rfl (fun m6 h => ?_)
  exact e_vret (M := md_X1_copy) (pc := 48) h rfl dX1_copy_48
def f_Hist_open_b26 (m : q_Mem) : q_Res :=
  q_pf m 28 2 (m 28 1) fun m1 =>
  q_rd m1 29 21 (m1 28 1) fun v2 => q_one q_Ly v2 <|
  q_rd m1 29 21 ((m1 28 1) - 1) fun v3 => q_one q_Ly v3 <|
  q_bd (f_Layo_copy v2 v3 m1) fun _ m4 =>
  q_rd m4 29 21 (m4 28 1) fun v5 => q_one q_Ly v5 <|
  q_rt v5 m4
set_option maxRecDepth 20000 in
theorem w_Hist_open_b26 {r : Int × q_Mem} {m : q_Mem} {N : Nat} (hN : 81 ≤ N) (h : f_Hist_open_b26 m = some r) : q_E md_X0_open 2 N (some 2) r m 26 [q_A 28] [] := by
  unfold f_Hist_open_b26 at h
  refine q_aload_n (M := md_X0_open) (pc := 26) dX0_open_26 rfl (by decide) ?_
  refine q_aload_n (M := md_X0_open) (pc := 27) dX0_open_27 rfl (by decide) ?_
  refine e_gI (M := md_X0_open) (pc := 28) (v := m 28 1) fl_0_16 dX0_open_28 (is_28 hN) rfl ?_
  refine e_pfI (M := md_X0_open) (pc := 31) h fl_0_20 dX0_open_31 (is_28 hN) rfl (fun m1 h => ?_)
  refine q_aload_n (M := md_X0_open) (pc := 34) dX0_open_34 rfl (by decide) ?_
  refine q_getP (M := md_X0_open) (pc := 35) (v := 29) fl_0_11 dX0_open_35 (is_28 hN) rfl ?_
  refine q_aload_n (M := md_X0_open) (pc := 38) dX0_open_38 rfl (by decide) ?_
  refine e_gI (M := md_X0_open) (pc := 39) (v := m1 28 1) fl_0_16 dX0_open_39 (is_28 hN) rfl ?_
  refine e_rda (M := md_X0_open) (pc := 42) h dX0_open_42 (ar_29 hN) (fun v2 h => ?_)
  obtain ⟨hv2, h⟩ := e_one h
  refine q_aload_n (M := md_X0_open) (pc := 43) dX0_open_43 rfl (by decide) ?_
  refine q_getP (M := md_X0_open) (pc := 44) (v := 29) fl_0_11 dX0_open_44 (is_28 hN) rfl ?_
  refine q_aload_n (M := md_X0_open) (pc := 47) dX0_open_47 rfl (by decide) ?_
  refine e_gI (M := md_X0_open) (pc := 48) (v := m1 28 1) fl_0_16 dX0_open_48 (is_28 hN) rfl ?_
  refine q_iconst (M := md_X0_open) (pc := 51) dX0_open_51 ?_
  refine q_isub (M := md_X0_open) (pc := 52) dX0_open_52 ?_
  refine e_rda (M := md_X0_open) (pc := 53) h dX0_open_53 (ar_29 hN) (fun v3 h => ?_)
  obtain ⟨hv3, h⟩ := e_one h
  refine e_callVv (M := md_X0_open) (pc := 54) (d' := 1) (av := [q_A v3]) (c := v2) h ml_0_26 im_X1_copy se_X1_copy dX0_open_54 (fun v he => ok_X1_copy hN hv2 hv3 he) rfl (is_Ly hN hv2) ⟨_, _, rfl⟩ (by decide) (Nat.le_of_ble_eq_true rfl) ⟨by decide, by decide⟩ rfl (fun _ m4 h => ?_)
  refine q_aload_n (M := md_X0_open) (pc := 57) dX0_open_57 rfl (by decide) ?_
  refine q_getP (M := md_X0_open) (pc := 58) (v := 29) fl_0_11 dX0_open_58 (is_28 hN) rfl ?_
  refine q_aload_n (M := md_X0_open) (pc := 61) dX0_open_61 rfl (by decide) ?_
  refine e_gI (M := md_X0_open) (pc := 62) (v := m4 28 1) fl_0_16 dX0_open_62 (is_28 hN) rfl ?_
  refine e_rda (M := md_X0_open) (pc := 65) h dX0_open_65 (ar_29 hN) (fun v5 h => ?_)
  obtain ⟨hv5, h⟩ := e_one h
  exact e_aret (M := md_X0_open) (pc := 66) h rfl (Or.inl ⟨_, rfl⟩) (nn_Ly hv5) dX0_open_66
def f_Hist_open (m : q_Mem) : q_Res :=
  if q_w (m 28 1) < 20 then (q_pf m 28 1 ((m 28 1) + 1) fun m1 =>
  f_Hist_open_b26 m1)
  else (q_bd (f_Hist_dropOldest m) fun _ m2 =>
  f_Hist_open_b26 m2)
set_option maxRecDepth 20000 in
theorem ok_X0_open {r : Int × q_Mem} {m : q_Mem} {N : Nat} (hN : 81 ≤ N) (h : f_Hist_open m = some r) : q_C md_X0_open (q_room 2) 0 0 [q_A 28] (q_g N) m (some (q_A r.1), q_g N, r.2) := by
  refine q_ofR (by decide) 0 (ls := [q_A 28]) rfl (Nat.le_of_ble_eq_true rfl) ?_
  change q_E md_X0_open 2 N (some 2) r m 0 [q_A 28] []
  unfold f_Hist_open at h
  refine q_aload_n (M := md_X0_open) (pc := 0) dX0_open_0 rfl (by decide) ?_
  refine e_gI (M := md_X0_open) (pc := 1) (v := m 28 1) fl_0_16 dX0_open_1 (is_28 hN) rfl ?_
  refine q_bipush (M := md_X0_open) (pc := 4) (x := 20) dX0_open_4 (by decide) ?_
  refine e_icmp_lt (M := md_X0_open) (pc := 6) (tgt := 16) h rfl (q_wlit rfl) dX0_open_6 (by decide) (fun h => ?_) (fun h => ?_)
  · refine q_aload_n (M := md_X0_open) (pc := 16) dX0_open_16 rfl (by decide) ?_
    refine q_dup (M := md_X0_open) (pc := 17) dX0_open_17 (show (2 : Nat) ≠ 1 by decide) ?_
    refine e_gI (M := md_X0_open) (pc := 18) (v := m 28 1) fl_0_16 dX0_open_18 (is_28 hN) rfl ?_
    refine q_iconst (M := md_X0_open) (pc := 21) dX0_open_21 ?_
    refine q_iadd (M := md_X0_open) (pc := 22) dX0_open_22 ?_
    refine e_pfI (M := md_X0_open) (pc := 23) h fl_0_16 dX0_open_23 (is_28 hN) rfl (fun m1 h => ?_)
    exact q_weak (w_Hist_open_b26 hN  h) ⟨Or.inr rfl, trivial⟩
  · refine q_aload_n (M := md_X0_open) (pc := 9) dX0_open_9 rfl (by decide) ?_
    refine e_callVv (M := md_X0_open) (pc := 10) (d' := 1) (av := []) (c := 28) h ml_0_23 im_X0_dropOldest se_X0_dropOldest dX0_open_10 (fun v he => ok_X0_dropOldest hN  he) rfl (is_28 hN) ⟨_, _, rfl⟩ (by decide) (Nat.le_of_ble_eq_true rfl) ⟨by decide, by decide⟩ rfl (fun _ m2 h => ?_)
    refine q_goto (M := md_X0_open) (pc := 13) (tgt := 26) dX0_open_13 (by decide) ?_
    exact q_weak (w_Hist_open_b26 hN  h) ⟨Or.inr rfl, trivial⟩
def f_Hist_stepBack (m : q_Mem) : q_Res :=
  if 0 < q_w (m 28 1) then (q_pf m 28 1 ((m 28 1) - 1) fun m1 =>
  q_rz 1 m1)
  else (q_rz 0 m)
set_option maxRecDepth 20000 in
theorem ok_X0_stepBack {r : Int × q_Mem} {m : q_Mem} {N : Nat} (hN : 81 ≤ N) (h : f_Hist_stepBack m = some r) : q_C md_X0_stepBack (q_room 1) 0 0 [q_A 28] (q_g N) m (some (q_I r.1), q_g N, r.2) := by
  refine q_ofR (by decide) 0 (ls := [q_A 28]) rfl (Nat.le_of_ble_eq_true rfl) ?_
  change q_E md_X0_stepBack 1 N (some 0) r m 0 [q_A 28] []
  unfold f_Hist_stepBack at h
  refine q_aload_n (M := md_X0_stepBack) (pc := 0) dX0_stepBack_0 rfl (by decide) ?_
  refine e_gI (M := md_X0_stepBack) (pc := 1) (v := m 28 1) fl_0_16 dX0_stepBack_1 (is_28 hN) rfl ?_
  refine e_if_gt (M := md_X0_stepBack) (pc := 4) (tgt := 9) h rfl dX0_stepBack_4 (by decide) (fun h => ?_) (fun h => ?_)
  · refine q_aload_n (M := md_X0_stepBack) (pc := 9) dX0_stepBack_9 rfl (by decide) ?_
    refine q_dup (M := md_X0_stepBack) (pc := 10) dX0_stepBack_10 (show (2 : Nat) ≠ 1 by decide) ?_
    refine e_gI (M := md_X0_stepBack) (pc := 11) (v := m 28 1) fl_0_16 dX0_stepBack_11 (is_28 hN) rfl ?_
    refine q_iconst (M := md_X0_stepBack) (pc := 14) dX0_stepBack_14 ?_
    refine q_isub (M := md_X0_stepBack) (pc := 15) dX0_stepBack_15 ?_
    refine e_pfI (M := md_X0_stepBack) (pc := 16) h fl_0_16 dX0_stepBack_16 (is_28 hN) rfl (fun m1 h => ?_)
    refine q_iconst (M := md_X0_stepBack) (pc := 19) dX0_stepBack_19 ?_
    exact e_zret (M := md_X0_stepBack) (pc := 20) h rfl dX0_stepBack_20
  · refine q_iconst (M := md_X0_stepBack) (pc := 7) dX0_stepBack_7 ?_
    exact e_zret (M := md_X0_stepBack) (pc := 8) h rfl dX0_stepBack_8
def f_Hist_stepOn (m : q_Mem) : q_Res :=
  if q_w (m 28 1) < q_w (m 28 2) then (q_pf m 28 1 ((m 28 1) + 1) fun m1 =>
  q_rz 1 m1)
  else (q_rz 0 m)
set_option maxRecDepth 20000 in
theorem ok_X0_stepOn {r : Int × q_Mem} {m : q_Mem} {N : Nat} (hN : 81 ≤ N) (h : f_Hist_stepOn m = some r) : q_C md_X0_stepOn (q_room 1) 0 0 [q_A 28] (q_g N) m (some (q_I r.1), q_g N, r.2) := by
  refine q_ofR (by decide) 0 (ls := [q_A 28]) rfl (Nat.le_of_ble_eq_true rfl) ?_
  change q_E md_X0_stepOn 1 N (some 0) r m 0 [q_A 28] []
  unfold f_Hist_stepOn at h
  refine q_aload_n (M := md_X0_stepOn) (pc := 0) dX0_stepOn_0 rfl (by decide) ?_
  refine e_gI (M := md_X0_stepOn) (pc := 1) (v := m 28 1) fl_0_16 dX0_stepOn_1 (is_28 hN) rfl ?_
  refine q_aload_n (M := md_X0_stepOn) (pc := 4) dX0_stepOn_4 rfl (by decide) ?_
  refine e_gI (M := md_X0_stepOn) (pc := 5) (v := m 28 2) fl_0_20 dX0_stepOn_5 (is_28 hN) rfl ?_
  refine e_icmp_lt (M := md_X0_stepOn) (pc := 8) (tgt := 13) h rfl rfl dX0_stepOn_8 (by decide) (fun h => ?_) (fun h => ?_)
  · refine q_aload_n (M := md_X0_stepOn) (pc := 13) dX0_stepOn_13 rfl (by decide) ?_
    refine q_dup (M := md_X0_stepOn) (pc := 14) dX0_stepOn_14 (show (2 : Nat) ≠ 1 by decide) ?_
    refine e_gI (M := md_X0_stepOn) (pc := 15) (v := m 28 1) fl_0_16 dX0_stepOn_15 (is_28 hN) rfl ?_
    refine q_iconst (M := md_X0_stepOn) (pc := 18) dX0_stepOn_18 ?_
    refine q_iadd (M := md_X0_stepOn) (pc := 19) dX0_stepOn_19 ?_
    refine e_pfI (M := md_X0_stepOn) (pc := 20) h fl_0_16 dX0_stepOn_20 (is_28 hN) rfl (fun m1 h => ?_)
    refine q_iconst (M := md_X0_stepOn) (pc := 23) dX0_stepOn_23 ?_
    exact e_zret (M := md_X0_stepOn) (pc := 24) h rfl dX0_stepOn_24
  · refine q_iconst (M := md_X0_stepOn) (pc := 11) dX0_stepOn_11 ?_
    exact e_zret (M := md_X0_stepOn) (pc := 12) h rfl dX0_stepOn_12
def f_Layo_isBroken (t l1 : Int) (m : q_Mem) : q_Res :=
  if q_w (q_lcmp (q_land (q_lushr (m t 5) l1) 1) 0) = 0 then (q_rz 0 m)
  else (q_rz 1 m)
set_option maxRecDepth 20000 in
theorem ok_X1_isBroken {t l1 : Int} {r : Int × q_Mem} {m : q_Mem} {N : Nat} (hN : 81 ≤ N) (ht : t ∈ q_Ly) (h : f_Layo_isBroken t l1 m = some r) : q_C md_X1_isBroken (q_room 1) 0 0 [q_A t, q_I l1] (q_g N) m (some (q_I r.1), q_g N, r.2) := by
  refine q_ofR (by decide) 0 (ls := [q_A t, q_I l1]) rfl (Nat.le_of_ble_eq_true rfl) ?_
  change q_E md_X1_isBroken 1 N (some 0) r m 0 [q_A t, q_I l1] []
  unfold f_Layo_isBroken at h
  refine q_aload_n (M := md_X1_isBroken) (pc := 0) dX1_isBroken_0 rfl (nn_Ly ht) ?_
  refine e_gL (M := md_X1_isBroken) (pc := 1) (v := m t 5) fl_1_25 dX1_isBroken_1 (is_Ly hN ht) rfl ?_
  refine q_iload_n (M := md_X1_isBroken) (pc := 4) dX1_isBroken_4 rfl ?_
  refine q_lushr_ (M := md_X1_isBroken) (pc := 5) dX1_isBroken_5 ?_
  refine q_lconst (M := md_X1_isBroken) (pc := 6) (x := 1) dX1_isBroken_6 (by decide) ?_
  refine q_land_ (M := md_X1_isBroken) (pc := 7) dX1_isBroken_7 ?_
  refine q_lconst (M := md_X1_isBroken) (pc := 8) (x := 0) dX1_isBroken_8 (by decide) ?_
  refine q_lcmp_ (M := md_X1_isBroken) (pc := 9) dX1_isBroken_9 ?_
  refine e_if_eq (M := md_X1_isBroken) (pc := 10) (tgt := 17) h rfl dX1_isBroken_10 (by decide) (fun h => ?_) (fun h => ?_)
  · refine q_iconst (M := md_X1_isBroken) (pc := 17) dX1_isBroken_17 ?_
    exact e_zret (M := md_X1_isBroken) (pc := 18) h rfl dX1_isBroken_18
  · refine q_iconst (M := md_X1_isBroken) (pc := 13) dX1_isBroken_13 ?_
    refine q_goto (M := md_X1_isBroken) (pc := 14) (tgt := 18) dX1_isBroken_14 (by decide) ?_
    exact e_zret (M := md_X1_isBroken) (pc := 18) h rfl dX1_isBroken_18
def f_Loop_clear (t : Int) (m : q_Mem) : q_Res :=
  q_pf m t 0 1 fun m1 =>
  q_pf m1 t 1 1 fun m2 =>
  q_pf m2 t 2 0 fun m3 =>
  q_pf m3 t 3 0 fun m4 =>
  q_pf m4 t 4 0 fun m5 =>
  q_pf m5 t 5 0 fun m6 =>
  q_pf m6 t 6 0 fun m7 =>
  q_pf m7 t 7 0 fun m8 =>
  q_pf m8 (t + 1) 0 1 fun m9 =>
  q_pf m9 (t + 1) 1 1 fun m10 =>
  q_pf m10 (t + 1) 2 1 fun m11 =>
  q_pf m11 (t + 1) 3 0 fun m12 =>
  q_pf m12 (t + 1) 4 1 fun m13 =>
  q_pf m13 (t + 1) 5 0 fun m14 =>
  q_rt 0 m14
set_option maxRecDepth 20000 in
theorem ok_X2_clear {t : Int} {r : Int × q_Mem} {m : q_Mem} {N : Nat} (hN : 81 ≤ N) (ht : t ∈ q_Lp) (h : f_Loop_clear t m = some r) : q_C md_X2_clear (q_room 1) 0 0 [q_A t] (q_g N) m (none, q_g N, r.2) := by
  refine q_ofR (by decide) 0 (ls := [q_A t]) rfl (Nat.le_of_ble_eq_true rfl) ?_
  change q_E md_X2_clear 1 N (none) r m 0 [q_A t] []
  unfold f_Loop_clear at h
  refine q_aload_n (M := md_X2_clear) (pc := 0) dX2_clear_0 rfl (nn_Lp ht) ?_
  refine q_iconst (M := md_X2_clear) (pc := 1) dX2_clear_1 ?_
  refine e_pfI (M := md_X2_clear) (pc := 2) h fl_2_49 dX2_clear_2 (is_Lp hN ht) rfl (fun m1 h => ?_)
  refine q_aload_n (M := md_X2_clear) (pc := 5) dX2_clear_5 rfl (nn_Lp ht) ?_
  refine q_iconst (M := md_X2_clear) (pc := 6) dX2_clear_6 ?_
  refine e_pfI (M := md_X2_clear) (pc := 7) h fl_2_53 dX2_clear_7 (is_Lp hN ht) rfl (fun m2 h => ?_)
  refine q_aload_n (M := md_X2_clear) (pc := 10) dX2_clear_10 rfl (nn_Lp ht) ?_
  refine q_iconst (M := md_X2_clear) (pc := 11) dX2_clear_11 ?_
  refine e_pfI (M := md_X2_clear) (pc := 12) h fl_2_56 dX2_clear_12 (is_Lp hN ht) rfl (fun m3 h => ?_)
  refine q_aload_n (M := md_X2_clear) (pc := 15) dX2_clear_15 rfl (nn_Lp ht) ?_
  refine q_iconst (M := md_X2_clear) (pc := 16) dX2_clear_16 ?_
  refine e_pfI (M := md_X2_clear) (pc := 17) h fl_2_59 dX2_clear_17 (is_Lp hN ht) rfl (fun m4 h => ?_)
  refine q_aload_n (M := md_X2_clear) (pc := 20) dX2_clear_20 rfl (nn_Lp ht) ?_
  refine q_iconst (M := md_X2_clear) (pc := 21) dX2_clear_21 ?_
  refine e_pfI (M := md_X2_clear) (pc := 22) h fl_2_62 dX2_clear_22 (is_Lp hN ht) rfl (fun m5 h => ?_)
  refine q_aload_n (M := md_X2_clear) (pc := 25) dX2_clear_25 rfl (nn_Lp ht) ?_
  refine q_iconst (M := md_X2_clear) (pc := 26) dX2_clear_26 ?_
  refine e_pfI (M := md_X2_clear) (pc := 27) h fl_2_65 dX2_clear_27 (is_Lp hN ht) rfl (fun m6 h => ?_)
  refine q_aload_n (M := md_X2_clear) (pc := 30) dX2_clear_30 rfl (nn_Lp ht) ?_
  refine q_iconst (M := md_X2_clear) (pc := 31) dX2_clear_31 ?_
  refine e_pfI (M := md_X2_clear) (pc := 32) h fl_2_68 dX2_clear_32 (is_Lp hN ht) rfl (fun m7 h => ?_)
  refine q_aload_n (M := md_X2_clear) (pc := 35) dX2_clear_35 rfl (nn_Lp ht) ?_
  refine q_iconst (M := md_X2_clear) (pc := 36) dX2_clear_36 ?_
  refine e_pfI (M := md_X2_clear) (pc := 37) h fl_2_71 dX2_clear_37 (is_Lp hN ht) rfl (fun m8 h => ?_)
  refine q_aload_n (M := md_X2_clear) (pc := 40) dX2_clear_40 rfl (nn_Lp ht) ?_
  refine q_getP (M := md_X2_clear) (pc := 41) (v := t + 1) fl_2_12 dX2_clear_41 (is_Lp hN ht) (ph_Lp_8 ht) ?_
  refine q_iconst (M := md_X2_clear) (pc := 44) dX2_clear_44 ?_
  refine e_pfI (M := md_X2_clear) (pc := 45) h fl_2_74 dX2_clear_45 (is_Ly hN (ly_Lp ht)) rfl (fun m9 h => ?_)
  refine q_aload_n (M := md_X2_clear) (pc := 48) dX2_clear_48 rfl (nn_Lp ht) ?_
  refine q_getP (M := md_X2_clear) (pc := 49) (v := t + 1) fl_2_12 dX2_clear_49 (is_Lp hN ht) (ph_Lp_8 ht) ?_
  refine q_iconst (M := md_X2_clear) (pc := 52) dX2_clear_52 ?_
  refine e_pfI (M := md_X2_clear) (pc := 53) h fl_2_77 dX2_clear_53 (is_Ly hN (ly_Lp ht)) rfl (fun m10 h => ?_)
  refine q_aload_n (M := md_X2_clear) (pc := 56) dX2_clear_56 rfl (nn_Lp ht) ?_
  refine q_getP (M := md_X2_clear) (pc := 57) (v := t + 1) fl_2_12 dX2_clear_57 (is_Lp hN ht) (ph_Lp_8 ht) ?_
  refine q_iconst (M := md_X2_clear) (pc := 60) dX2_clear_60 ?_
  refine e_pfI (M := md_X2_clear) (pc := 61) h fl_2_80 dX2_clear_61 (is_Ly hN (ly_Lp ht)) rfl (fun m11 h => ?_)
  refine q_aload_n (M := md_X2_clear) (pc := 64) dX2_clear_64 rfl (nn_Lp ht) ?_
  refine q_getP (M := md_X2_clear) (pc := 65) (v := t + 1) fl_2_12 dX2_clear_65 (is_Lp hN ht) (ph_Lp_8 ht) ?_
  refine q_iconst (M := md_X2_clear) (pc := 68) dX2_clear_68 ?_
  refine e_pfI (M := md_X2_clear) (pc := 69) h fl_2_83 dX2_clear_69 (is_Ly hN (ly_Lp ht)) rfl (fun m12 h => ?_)
  refine q_aload_n (M := md_X2_clear) (pc := 72) dX2_clear_72 rfl (nn_Lp ht) ?_
  refine q_getP (M := md_X2_clear) (pc := 73) (v := t + 1) fl_2_12 dX2_clear_73 (is_Lp hN ht) (ph_Lp_8 ht) ?_
  refine q_iconst (M := md_X2_clear) (pc := 76) dX2_clear_76 ?_
  refine e_pfI (M := md_X2_clear) (pc := 77) h fl_2_86 dX2_clear_77 (is_Ly hN (ly_Lp ht)) rfl (fun m13 h => ?_)
  refine q_aload_n (M := md_X2_clear) (pc := 80) dX2_clear_80 rfl (nn_Lp ht) ?_
  refine q_getP (M := md_X2_clear) (pc := 81) (v := t + 1) fl_2_12 dX2_clear_81 (is_Lp hN ht) (ph_Lp_8 ht) ?_
  refine q_lconst (M := md_X2_clear) (pc := 84) (x := 0) dX2_clear_84 (by decide) ?_
  refine e_pfL (M := md_X2_clear) (pc := 85) h fl_2_89 dX2_clear_85 (is_Ly hN (ly_Lp ht)) rfl (fun m14 h => ?_)
  exact e_vret (M := md_X2_clear) (pc := 88) h rfl dX2_clear_88
def f_Loop_closeFormula (t : Int) (m : q_Mem) : q_Res :=
  if 6 ≤ q_w (m t 7) then (q_rt 0 m)
  else (q_pf m t 7 ((m t 7) + 1) fun m1 =>
  q_wr m1 (t + 10) 7 (m1 t 7) (m1 t 6) fun m2 =>
  q_rt 0 m2)
set_option maxRecDepth 20000 in
theorem ok_X2_closeFormula {t : Int} {r : Int × q_Mem} {m : q_Mem} {N : Nat} (hN : 81 ≤ N) (ht : t ∈ q_Lp) (h : f_Loop_closeFormula t m = some r) : q_C md_X2_closeFormula (q_room 1) 0 0 [q_A t] (q_g N) m (none, q_g N, r.2) := by
  refine q_ofR (by decide) 0 (ls := [q_A t]) rfl (Nat.le_of_ble_eq_true rfl) ?_
  change q_E md_X2_closeFormula 1 N (none) r m 0 [q_A t] []
  unfold f_Loop_closeFormula at h
  refine q_aload_n (M := md_X2_closeFormula) (pc := 0) dX2_closeFormula_0 rfl (nn_Lp ht) ?_
  refine e_gI (M := md_X2_closeFormula) (pc := 1) (v := m t 7) fl_2_71 dX2_closeFormula_1 (is_Lp hN ht) rfl ?_
  refine q_bipush (M := md_X2_closeFormula) (pc := 4) (x := 6) dX2_closeFormula_4 (by decide) ?_
  refine e_icmp_ge (M := md_X2_closeFormula) (pc := 6) (tgt := 32) h rfl (q_wlit rfl) dX2_closeFormula_6 (by decide) (fun h => ?_) (fun h => ?_)
  · exact e_vret (M := md_X2_closeFormula) (pc := 32) h rfl dX2_closeFormula_32
  · refine q_aload_n (M := md_X2_closeFormula) (pc := 9) dX2_closeFormula_9 rfl (nn_Lp ht) ?_
    refine q_dup (M := md_X2_closeFormula) (pc := 10) dX2_closeFormula_10 (show (2 : Nat) ≠ 1 by decide) ?_
    refine e_gI (M := md_X2_closeFormula) (pc := 11) (v := m t 7) fl_2_71 dX2_closeFormula_11 (is_Lp hN ht) rfl ?_
    refine q_iconst (M := md_X2_closeFormula) (pc := 14) dX2_closeFormula_14 ?_
    refine q_iadd (M := md_X2_closeFormula) (pc := 15) dX2_closeFormula_15 ?_
    refine e_pfI (M := md_X2_closeFormula) (pc := 16) h fl_2_71 dX2_closeFormula_16 (is_Lp hN ht) rfl (fun m1 h => ?_)
    refine q_aload_n (M := md_X2_closeFormula) (pc := 19) dX2_closeFormula_19 rfl (nn_Lp ht) ?_
    refine q_getP (M := md_X2_closeFormula) (pc := 20) (v := t + 10) fl_2_43 dX2_closeFormula_20 (is_Lp hN ht) (ph_Lp_17 ht) ?_
    refine q_aload_n (M := md_X2_closeFormula) (pc := 23) dX2_closeFormula_23 rfl (nn_Lp ht) ?_
    refine e_gI (M := md_X2_closeFormula) (pc := 24) (v := m1 t 7) fl_2_71 dX2_closeFormula_24 (is_Lp hN ht) rfl ?_
    refine q_aload_n (M := md_X2_closeFormula) (pc := 27) dX2_closeFormula_27 rfl (nn_Lp ht) ?_
    refine e_gI (M := md_X2_closeFormula) (pc := 28) (v := m1 t 6) fl_2_68 dX2_closeFormula_28 (is_Lp hN ht) rfl ?_
    refine e_wr (M := md_X2_closeFormula) (pc := 31) h dX2_closeFormula_31 (ar_Lp_17 hN ht) (fun m2 h => ?_)
    exact e_vret (M := md_X2_closeFormula) (pc := 32) h rfl dX2_closeFormula_32
def f_Loop_addNode (t l1 l2 l3 : Int) (m : q_Mem) : q_Res :=
  if q_w (m t 6) < 80 then (q_wr m (t + 7) 80 (m t 6) l1 fun m1 =>
  q_wr m1 (t + 8) 80 (m1 t 6) l2 fun m2 =>
  q_wr m2 (t + 9) 80 (m2 t 6) l3 fun m3 =>
  q_pf m3 t 6 ((m3 t 6) + 1) fun m4 =>
  q_rt ((m4 t 6) - 1) m4)
  else (q_rt (-1) m)
set_option maxRecDepth 20000 in
theorem ok_X2_addNode {t l1 l2 l3 : Int} {r : Int × q_Mem} {m : q_Mem} {N : Nat} (hN : 81 ≤ N) (ht : t ∈ q_Lp) (h : f_Loop_addNode t l1 l2 l3 m = some r) : q_C md_X2_addNode (q_room 1) 0 0 [q_A t, q_I l1, q_I l2, q_I l3] (q_g N) m (some (q_I r.1), q_g N, r.2) := by
  refine q_ofR (by decide) 0 (ls := [q_A t, q_I l1, q_I l2, q_I l3]) rfl (Nat.le_of_ble_eq_true rfl) ?_
  change q_E md_X2_addNode 1 N (some 0) r m 0 [q_A t, q_I l1, q_I l2, q_I l3] []
  unfold f_Loop_addNode at h
  refine q_aload_n (M := md_X2_addNode) (pc := 0) dX2_addNode_0 rfl (nn_Lp ht) ?_
  refine e_gI (M := md_X2_addNode) (pc := 1) (v := m t 6) fl_2_68 dX2_addNode_1 (is_Lp hN ht) rfl ?_
  refine q_bipush (M := md_X2_addNode) (pc := 4) (x := 80) dX2_addNode_4 (by decide) ?_
  refine e_icmp_lt (M := md_X2_addNode) (pc := 6) (tgt := 11) h rfl (q_wlit rfl) dX2_addNode_6 (by decide) (fun h => ?_) (fun h => ?_)
  · refine q_aload_n (M := md_X2_addNode) (pc := 11) dX2_addNode_11 rfl (nn_Lp ht) ?_
    refine q_getP (M := md_X2_addNode) (pc := 12) (v := t + 7) fl_2_34 dX2_addNode_12 (is_Lp hN ht) (ph_Lp_14 ht) ?_
    refine q_aload_n (M := md_X2_addNode) (pc := 15) dX2_addNode_15 rfl (nn_Lp ht) ?_
    refine e_gI (M := md_X2_addNode) (pc := 16) (v := m t 6) fl_2_68 dX2_addNode_16 (is_Lp hN ht) rfl ?_
    refine q_iload_n (M := md_X2_addNode) (pc := 19) dX2_addNode_19 rfl ?_
    refine e_wr (M := md_X2_addNode) (pc := 20) h dX2_addNode_20 (ar_Lp_14 hN ht) (fun m1 h => ?_)
    refine q_aload_n (M := md_X2_addNode) (pc := 21) dX2_addNode_21 rfl (nn_Lp ht) ?_
    refine q_getP (M := md_X2_addNode) (pc := 22) (v := t + 8) fl_2_37 dX2_addNode_22 (is_Lp hN ht) (ph_Lp_15 ht) ?_
    refine q_aload_n (M := md_X2_addNode) (pc := 25) dX2_addNode_25 rfl (nn_Lp ht) ?_
    refine e_gI (M := md_X2_addNode) (pc := 26) (v := m1 t 6) fl_2_68 dX2_addNode_26 (is_Lp hN ht) rfl ?_
    refine q_iload_n (M := md_X2_addNode) (pc := 29) dX2_addNode_29 rfl ?_
    refine e_wr (M := md_X2_addNode) (pc := 30) h dX2_addNode_30 (ar_Lp_15 hN ht) (fun m2 h => ?_)
    refine q_aload_n (M := md_X2_addNode) (pc := 31) dX2_addNode_31 rfl (nn_Lp ht) ?_
    refine q_getP (M := md_X2_addNode) (pc := 32) (v := t + 9) fl_2_40 dX2_addNode_32 (is_Lp hN ht) (ph_Lp_16 ht) ?_
    refine q_aload_n (M := md_X2_addNode) (pc := 35) dX2_addNode_35 rfl (nn_Lp ht) ?_
    refine e_gI (M := md_X2_addNode) (pc := 36) (v := m2 t 6) fl_2_68 dX2_addNode_36 (is_Lp hN ht) rfl ?_
    refine q_iload_n (M := md_X2_addNode) (pc := 39) dX2_addNode_39 rfl ?_
    refine e_wr (M := md_X2_addNode) (pc := 40) h dX2_addNode_40 (ar_Lp_16 hN ht) (fun m3 h => ?_)
    refine q_aload_n (M := md_X2_addNode) (pc := 41) dX2_addNode_41 rfl (nn_Lp ht) ?_
    refine q_dup (M := md_X2_addNode) (pc := 42) dX2_addNode_42 (show (2 : Nat) ≠ 1 by decide) ?_
    refine e_gI (M := md_X2_addNode) (pc := 43) (v := m3 t 6) fl_2_68 dX2_addNode_43 (is_Lp hN ht) rfl ?_
    refine q_iconst (M := md_X2_addNode) (pc := 46) dX2_addNode_46 ?_
    refine q_iadd (M := md_X2_addNode) (pc := 47) dX2_addNode_47 ?_
    refine e_pfI (M := md_X2_addNode) (pc := 48) h fl_2_68 dX2_addNode_48 (is_Lp hN ht) rfl (fun m4 h => ?_)
    refine q_aload_n (M := md_X2_addNode) (pc := 51) dX2_addNode_51 rfl (nn_Lp ht) ?_
    refine e_gI (M := md_X2_addNode) (pc := 52) (v := m4 t 6) fl_2_68 dX2_addNode_52 (is_Lp hN ht) rfl ?_
    refine q_iconst (M := md_X2_addNode) (pc := 55) dX2_addNode_55 ?_
    refine q_isub (M := md_X2_addNode) (pc := 56) dX2_addNode_56 ?_
    exact e_iret (M := md_X2_addNode) (pc := 57) h rfl dX2_addNode_57
  · refine q_iconst (M := md_X2_addNode) (pc := 9) dX2_addNode_9 ?_
    exact e_iret (M := md_X2_addNode) (pc := 10) h rfl dX2_addNode_10
def f_Loop_noteOffset_b54 (t : Int) (k17 : Int → Int → Int → Int → q_Mem → q_Res) (l1 l2 l4 s0 s1 : Int) (m : q_Mem) : q_Res :=
  k17 l1 l2 (q_or s0 s1) (l4 + 1) m
set_option maxRecDepth 20000 in
theorem w_Loop_noteOffset_b54 {t : Int} {k17 : Int → Int → Int → Int → q_Mem → q_Res} {l1 l2 l4 s0 s1 : Int} {r : Int × q_Mem} {m : q_Mem} {N : Nat} (hN : 81 ≤ N) (ht : t ∈ q_Lp) (hk17 : ∀ (l1 l2 l3 l4 : Int) (m : q_Mem), k17 l1 l2 l3 l4 m = some r → q_E md_X2_noteOffset 1 N (none) r m 17 [q_A t, q_I l1, q_I l2, q_I l3, q_I l4] []) (h : f_Loop_noteOffset_b54 t k17 l1 l2 l4 s0 s1 m = some r) : q_E md_X2_noteOffset 1 N (none) r m 54 [q_A t, q_I l1, q_I l2, q_N, q_I l4] [q_I s1, q_I s0] := by
  unfold f_Loop_noteOffset_b54 at h
  refine q_ior (M := md_X2_noteOffset) (pc := 54) dX2_noteOffset_54 ?_
  refine e_ist_n (M := md_X2_noteOffset) (pc := 55) (ls' := [q_A t, q_I l1, q_I l2, q_I (q_or s0 s1), q_I l4]) dX2_noteOffset_55 (by decide) (q_pl rfl) rfl ?_
  refine e_inc (M := md_X2_noteOffset) (pc := 56) (x := l4) (ls' := [q_A t, q_I l1, q_I l2, q_I (q_or s0 s1), q_I (l4 + 1)]) dX2_noteOffset_56 rfl (by decide) (q_pl rfl) rfl ?_
  refine q_goto (M := md_X2_noteOffset) (pc := 59) (tgt := 17) dX2_noteOffset_59 (by decide) ?_
  exact q_weak (hk17 _ _ _ _ _  h) ⟨Or.inr rfl, Or.inr rfl, Or.inr rfl, Or.inr rfl, Or.inr rfl, trivial⟩
def f_Loop_noteOffset_b53 (t : Int) (k17 : Int → Int → Int → Int → q_Mem → q_Res) (l1 l2 l4 s0 : Int) (m : q_Mem) : q_Res :=
  f_Loop_noteOffset_b54 t k17 l1 l2 l4 s0 0 m
set_option maxRecDepth 20000 in
theorem w_Loop_noteOffset_b53 {t : Int} {k17 : Int → Int → Int → Int → q_Mem → q_Res} {l1 l2 l4 s0 : Int} {r : Int × q_Mem} {m : q_Mem} {N : Nat} (hN : 81 ≤ N) (ht : t ∈ q_Lp) (hk17 : ∀ (l1 l2 l3 l4 : Int) (m : q_Mem), k17 l1 l2 l3 l4 m = some r → q_E md_X2_noteOffset 1 N (none) r m 17 [q_A t, q_I l1, q_I l2, q_I l3, q_I l4] []) (h : f_Loop_noteOffset_b53 t k17 l1 l2 l4 s0 m = some r) : q_E md_X2_noteOffset 1 N (none) r m 53 [q_A t, q_I l1, q_I l2, q_N, q_I l4] [q_I s0] := by
  unfold f_Loop_noteOffset_b53 at h
  refine q_iconst (M := md_X2_noteOffset) (pc := 53) dX2_noteOffset_53 ?_
  exact q_weak (w_Loop_noteOffset_b54 hN ht hk17  h) ⟨Or.inr rfl, Or.inr rfl, Or.inr rfl, Or.inl rfl, Or.inr rfl, trivial⟩
def f_Loop_noteOffset_b17 (t : Int) (k17 : Int → Int → Int → Int → q_Mem → q_Res) (l1 l2 l3 l4 : Int) (m : q_Mem) : q_Res :=
  if q_w (m t 5) ≤ q_w l4 then (if q_w l3 = 0 then (if 12 ≤ q_w (m t 5) then (q_rt 0 m)
  else (q_wr m (t + 2) 12 (m t 5) l1 fun m1 =>
  q_wr m1 (t + 3) 12 (m1 t 5) l2 fun m2 =>
  q_pf m2 t 5 ((m2 t 5) + 1) fun m3 =>
  q_rt 0 m3))
  else (q_rt 0 m))
  else (q_rd m (t + 2) 12 l4 fun v4 =>
  if q_w v4 = q_w l1 then (q_rd m (t + 3) 12 l4 fun v5 =>
  if q_w v5 = q_w l2 then (f_Loop_noteOffset_b54 t k17 l1 l2 l4 l3 1 m)
  else (f_Loop_noteOffset_b53 t k17 l1 l2 l4 l3 m))
  else (f_Loop_noteOffset_b53 t k17 l1 l2 l4 l3 m))
set_option maxRecDepth 20000 in
theorem w_Loop_noteOffset_b17 {t : Int} {k17 : Int → Int → Int → Int → q_Mem → q_Res} {l1 l2 l3 l4 : Int} {r : Int × q_Mem} {m : q_Mem} {N : Nat} (hN : 81 ≤ N) (ht : t ∈ q_Lp) (hk17 : ∀ (l1 l2 l3 l4 : Int) (m : q_Mem), k17 l1 l2 l3 l4 m = some r → q_E md_X2_noteOffset 1 N (none) r m 17 [q_A t, q_I l1, q_I l2, q_I l3, q_I l4] []) (h : f_Loop_noteOffset_b17 t k17 l1 l2 l3 l4 m = some r) : q_E md_X2_noteOffset 1 N (none) r m 17 [q_A t, q_I l1, q_I l2, q_I l3, q_I l4] [] := by
  unfold f_Loop_noteOffset_b17 at h
  refine q_iload (M := md_X2_noteOffset) (pc := 17) dX2_noteOffset_17 rfl ?_
  refine q_aload_n (M := md_X2_noteOffset) (pc := 19) dX2_noteOffset_19 rfl (nn_Lp ht) ?_
  refine e_gI (M := md_X2_noteOffset) (pc := 20) (v := m t 5) fl_2_65 dX2_noteOffset_20 (is_Lp hN ht) rfl ?_
  refine e_icmp_ge (M := md_X2_noteOffset) (pc := 23) (tgt := 62) h rfl rfl dX2_noteOffset_23 (by decide) (fun h => ?_) (fun h => ?_)
  · refine q_iload_n (M := md_X2_noteOffset) (pc := 62) dX2_noteOffset_62 rfl ?_
    refine e_if_ne (M := md_X2_noteOffset) (pc := 63) (tgt := 105) h rfl dX2_noteOffset_63 (by decide) (fun h => ?_) (fun h => ?_)
    · exact e_vret (M := md_X2_noteOffset) (pc := 105) h rfl dX2_noteOffset_105
    · refine q_aload_n (M := md_X2_noteOffset) (pc := 66) dX2_noteOffset_66 rfl (nn_Lp ht) ?_
      refine e_gI (M := md_X2_noteOffset) (pc := 67) (v := m t 5) fl_2_65 dX2_noteOffset_67 (is_Lp hN ht) rfl ?_
      refine q_bipush (M := md_X2_noteOffset) (pc := 70) (x := 12) dX2_noteOffset_70 (by decide) ?_
      refine e_icmp_ge (M := md_X2_noteOffset) (pc := 72) (tgt := 105) h rfl (q_wlit rfl) dX2_noteOffset_72 (by decide) (fun h => ?_) (fun h => ?_)
      · exact e_vret (M := md_X2_noteOffset) (pc := 105) h rfl dX2_noteOffset_105
      · refine q_aload_n (M := md_X2_noteOffset) (pc := 75) dX2_noteOffset_75 rfl (nn_Lp ht) ?_
        refine q_getP (M := md_X2_noteOffset) (pc := 76) (v := t + 2) fl_2_18 dX2_noteOffset_76 (is_Lp hN ht) (ph_Lp_9 ht) ?_
        refine q_aload_n (M := md_X2_noteOffset) (pc := 79) dX2_noteOffset_79 rfl (nn_Lp ht) ?_
        refine e_gI (M := md_X2_noteOffset) (pc := 80) (v := m t 5) fl_2_65 dX2_noteOffset_80 (is_Lp hN ht) rfl ?_
        refine q_iload_n (M := md_X2_noteOffset) (pc := 83) dX2_noteOffset_83 rfl ?_
        refine e_wr (M := md_X2_noteOffset) (pc := 84) h dX2_noteOffset_84 (ar_Lp_9 hN ht) (fun m1 h => ?_)
        refine q_aload_n (M := md_X2_noteOffset) (pc := 85) dX2_noteOffset_85 rfl (nn_Lp ht) ?_
        refine q_getP (M := md_X2_noteOffset) (pc := 86) (v := t + 3) fl_2_22 dX2_noteOffset_86 (is_Lp hN ht) (ph_Lp_10 ht) ?_
        refine q_aload_n (M := md_X2_noteOffset) (pc := 89) dX2_noteOffset_89 rfl (nn_Lp ht) ?_
        refine e_gI (M := md_X2_noteOffset) (pc := 90) (v := m1 t 5) fl_2_65 dX2_noteOffset_90 (is_Lp hN ht) rfl ?_
        refine q_iload_n (M := md_X2_noteOffset) (pc := 93) dX2_noteOffset_93 rfl ?_
        refine e_wr (M := md_X2_noteOffset) (pc := 94) h dX2_noteOffset_94 (ar_Lp_10 hN ht) (fun m2 h => ?_)
        refine q_aload_n (M := md_X2_noteOffset) (pc := 95) dX2_noteOffset_95 rfl (nn_Lp ht) ?_
        refine q_dup (M := md_X2_noteOffset) (pc := 96) dX2_noteOffset_96 (show (2 : Nat) ≠ 1 by decide) ?_
        refine e_gI (M := md_X2_noteOffset) (pc := 97) (v := m2 t 5) fl_2_65 dX2_noteOffset_97 (is_Lp hN ht) rfl ?_
        refine q_iconst (M := md_X2_noteOffset) (pc := 100) dX2_noteOffset_100 ?_
        refine q_iadd (M := md_X2_noteOffset) (pc := 101) dX2_noteOffset_101 ?_
        refine e_pfI (M := md_X2_noteOffset) (pc := 102) h fl_2_65 dX2_noteOffset_102 (is_Lp hN ht) rfl (fun m3 h => ?_)
        exact e_vret (M := md_X2_noteOffset) (pc := 105) h rfl dX2_noteOffset_105
  · refine q_iload_n (M := md_X2_noteOffset) (pc := 26) dX2_noteOffset_26 rfl ?_
    refine q_aload_n (M := md_X2_noteOffset) (pc := 27) dX2_noteOffset_27 rfl (nn_Lp ht) ?_
    refine q_getP (M := md_X2_noteOffset) (pc := 28) (v := t + 2) fl_2_18 dX2_noteOffset_28 (is_Lp hN ht) (ph_Lp_9 ht) ?_
    refine q_iload (M := md_X2_noteOffset) (pc := 31) dX2_noteOffset_31 rfl ?_
    refine e_rd (M := md_X2_noteOffset) (pc := 33) h dX2_noteOffset_33 (ar_Lp_9 hN ht) (fun v4 h => ?_)
    refine q_iload_n (M := md_X2_noteOffset) (pc := 34) dX2_noteOffset_34 rfl ?_
    refine e_icmp_ne (M := md_X2_noteOffset) (pc := 35) (tgt := 53) h rfl rfl dX2_noteOffset_35 (by decide) (fun h => ?_) (fun h => ?_)
    · exact q_weak (w_Loop_noteOffset_b53 hN ht hk17  h) ⟨Or.inr rfl, Or.inr rfl, Or.inr rfl, Or.inl rfl, Or.inr rfl, trivial⟩
    · refine q_aload_n (M := md_X2_noteOffset) (pc := 38) dX2_noteOffset_38 rfl (nn_Lp ht) ?_
      refine q_getP (M := md_X2_noteOffset) (pc := 39) (v := t + 3) fl_2_22 dX2_noteOffset_39 (is_Lp hN ht) (ph_Lp_10 ht) ?_
      refine q_iload (M := md_X2_noteOffset) (pc := 42) dX2_noteOffset_42 rfl ?_
      refine e_rd (M := md_X2_noteOffset) (pc := 44) h dX2_noteOffset_44 (ar_Lp_10 hN ht) (fun v5 h => ?_)
      refine q_iload_n (M := md_X2_noteOffset) (pc := 45) dX2_noteOffset_45 rfl ?_
      refine e_icmp_ne (M := md_X2_noteOffset) (pc := 46) (tgt := 53) h rfl rfl dX2_noteOffset_46 (by decide) (fun h => ?_) (fun h => ?_)
      · exact q_weak (w_Loop_noteOffset_b53 hN ht hk17  h) ⟨Or.inr rfl, Or.inr rfl, Or.inr rfl, Or.inl rfl, Or.inr rfl, trivial⟩
      · refine q_iconst (M := md_X2_noteOffset) (pc := 49) dX2_noteOffset_49 ?_
        refine q_goto (M := md_X2_noteOffset) (pc := 50) (tgt := 54) dX2_noteOffset_50 (by decide) ?_
        exact q_weak (w_Loop_noteOffset_b54 hN ht hk17  h) ⟨Or.inr rfl, Or.inr rfl, Or.inr rfl, Or.inl rfl, Or.inr rfl, trivial⟩
def f_Loop_noteOffset_l17 (t : Int) : Nat → Int → Int → Int → Int → q_Mem → q_Res
  | 0 => fun _ _ _ _ _ => none
  | n + 1 => fun l1 l2 l3 l4 m => f_Loop_noteOffset_b17 t (f_Loop_noteOffset_l17 t n) l1 l2 l3 l4 m
theorem w_Loop_noteOffset_l17 {t : Int} {r : Int × q_Mem} {N : Nat} (hN : 81 ≤ N) (ht : t ∈ q_Lp) : ∀ (n : Nat) (l1 l2 l3 l4 : Int) (m : q_Mem), f_Loop_noteOffset_l17 t n l1 l2 l3 l4 m = some r → q_E md_X2_noteOffset 1 N (none) r m 17 [q_A t, q_I l1, q_I l2, q_I l3, q_I l4] [] := by
  intro n
  induction n with
  | zero => intro l1 l2 l3 l4 m h; exact q_no h
  | succ n ih =>
    intro l1 l2 l3 l4 m h
    exact w_Loop_noteOffset_b17 hN ht (fun l1 l2 l3 l4 m h => ih l1 l2 l3 l4 m h) h
def f_Loop_noteOffset_b13 (t : Int) (l1 l2 s0 : Int) (m : q_Mem) : q_Res :=
  f_Loop_noteOffset_l17 t q_F l1 l2 s0 0 m
set_option maxRecDepth 20000 in
theorem w_Loop_noteOffset_b13 {t : Int} {l1 l2 s0 : Int} {r : Int × q_Mem} {m : q_Mem} {N : Nat} (hN : 81 ≤ N) (ht : t ∈ q_Lp) (h : f_Loop_noteOffset_b13 t l1 l2 s0 m = some r) : q_E md_X2_noteOffset 1 N (none) r m 13 [q_A t, q_I l1, q_I l2, q_N, q_N] [q_I s0] := by
  unfold f_Loop_noteOffset_b13 at h
  refine e_ist_n (M := md_X2_noteOffset) (pc := 13) (ls' := [q_A t, q_I l1, q_I l2, q_I s0, q_N]) dX2_noteOffset_13 (by decide) (q_pl rfl) rfl ?_
  refine q_iconst (M := md_X2_noteOffset) (pc := 14) dX2_noteOffset_14 ?_
  refine e_ist (M := md_X2_noteOffset) (pc := 15) (ls' := [q_A t, q_I l1, q_I l2, q_I s0, q_I 0]) dX2_noteOffset_15 (by decide) (q_pl rfl) rfl ?_
  exact q_weak (w_Loop_noteOffset_l17 hN ht q_F _ _ _ _ _  h) ⟨Or.inr rfl, Or.inr rfl, Or.inr rfl, Or.inr rfl, Or.inr rfl, trivial⟩
def f_Loop_noteOffset_b12 (t : Int) (l1 l2 : Int) (m : q_Mem) : q_Res :=
  f_Loop_noteOffset_b13 t l1 l2 0 m
set_option maxRecDepth 20000 in
theorem w_Loop_noteOffset_b12 {t : Int} {l1 l2 : Int} {r : Int × q_Mem} {m : q_Mem} {N : Nat} (hN : 81 ≤ N) (ht : t ∈ q_Lp) (h : f_Loop_noteOffset_b12 t l1 l2 m = some r) : q_E md_X2_noteOffset 1 N (none) r m 12 [q_A t, q_I l1, q_I l2, q_N, q_N] [] := by
  unfold f_Loop_noteOffset_b12 at h
  refine q_iconst (M := md_X2_noteOffset) (pc := 12) dX2_noteOffset_12 ?_
  exact q_weak (w_Loop_noteOffset_b13 hN ht  h) ⟨Or.inr rfl, Or.inr rfl, Or.inr rfl, Or.inl rfl, Or.inl rfl, trivial⟩
def f_Loop_noteOffset (t l1 l2 : Int) (m : q_Mem) : q_Res :=
  if q_w l1 = 0 then (if q_w l2 = 0 then (f_Loop_noteOffset_b13 t l1 l2 1 m)
  else (f_Loop_noteOffset_b12 t l1 l2 m))
  else (f_Loop_noteOffset_b12 t l1 l2 m)
set_option maxRecDepth 20000 in
theorem ok_X2_noteOffset {t l1 l2 : Int} {r : Int × q_Mem} {m : q_Mem} {N : Nat} (hN : 81 ≤ N) (ht : t ∈ q_Lp) (h : f_Loop_noteOffset t l1 l2 m = some r) : q_C md_X2_noteOffset (q_room 1) 0 0 [q_A t, q_I l1, q_I l2] (q_g N) m (none, q_g N, r.2) := by
  refine q_ofR (by decide) 2 (ls := [q_A t, q_I l1, q_I l2, q_N, q_N]) rfl (Nat.le_of_ble_eq_true rfl) ?_
  change q_E md_X2_noteOffset 1 N (none) r m 0 [q_A t, q_I l1, q_I l2, q_N, q_N] []
  unfold f_Loop_noteOffset at h
  refine q_iload_n (M := md_X2_noteOffset) (pc := 0) dX2_noteOffset_0 rfl ?_
  refine e_if_ne (M := md_X2_noteOffset) (pc := 1) (tgt := 12) h rfl dX2_noteOffset_1 (by decide) (fun h => ?_) (fun h => ?_)
  · exact q_weak (w_Loop_noteOffset_b12 hN ht  h) ⟨Or.inr rfl, Or.inr rfl, Or.inr rfl, Or.inl rfl, Or.inl rfl, trivial⟩
  · refine q_iload_n (M := md_X2_noteOffset) (pc := 4) dX2_noteOffset_4 rfl ?_
    refine e_if_ne (M := md_X2_noteOffset) (pc := 5) (tgt := 12) h rfl dX2_noteOffset_5 (by decide) (fun h => ?_) (fun h => ?_)
    · exact q_weak (w_Loop_noteOffset_b12 hN ht  h) ⟨Or.inr rfl, Or.inr rfl, Or.inr rfl, Or.inl rfl, Or.inl rfl, trivial⟩
    · refine q_iconst (M := md_X2_noteOffset) (pc := 8) dX2_noteOffset_8 ?_
      refine q_goto (M := md_X2_noteOffset) (pc := 9) (tgt := 13) dX2_noteOffset_9 (by decide) ?_
      exact q_weak (w_Loop_noteOffset_b13 hN ht  h) ⟨Or.inr rfl, Or.inr rfl, Or.inr rfl, Or.inl rfl, Or.inl rfl, trivial⟩
def f_Loop_addRead (t l1 l2 l3 : Int) (m : q_Mem) : q_Res :=
  if q_w (m t 4) < 12 then (q_wr m (t + 4) 12 (m t 4) l1 fun m1 =>
  q_wr m1 (t + 5) 12 (m1 t 4) l2 fun m2 =>
  q_wr m2 (t + 6) 12 (m2 t 4) l3 fun m3 =>
  q_pf m3 t 4 ((m3 t 4) + 1) fun m4 =>
  q_bd (f_Loop_noteOffset t l2 l3 m4) fun _ m5 =>
  q_bd (f_Loop_addNode t 3 ((m5 t 4) - 1) 0 m5) fun v6 m7 =>
  q_rt v6 m7)
  else (q_rt (-1) m)
set_option maxRecDepth 20000 in
theorem ok_X2_addRead {t l1 l2 l3 : Int} {r : Int × q_Mem} {m : q_Mem} {N : Nat} (hN : 81 ≤ N) (ht : t ∈ q_Lp) (h : f_Loop_addRead t l1 l2 l3 m = some r) : q_C md_X2_addRead (q_room 2) 0 0 [q_A t, q_I l1, q_I l2, q_I l3] (q_g N) m (some (q_I r.1), q_g N, r.2) := by
  refine q_ofR (by decide) 0 (ls := [q_A t, q_I l1, q_I l2, q_I l3]) rfl (Nat.le_of_ble_eq_true rfl) ?_
  change q_E md_X2_addRead 2 N (some 0) r m 0 [q_A t, q_I l1, q_I l2, q_I l3] []
  unfold f_Loop_addRead at h
  refine q_aload_n (M := md_X2_addRead) (pc := 0) dX2_addRead_0 rfl (nn_Lp ht) ?_
  refine e_gI (M := md_X2_addRead) (pc := 1) (v := m t 4) fl_2_62 dX2_addRead_1 (is_Lp hN ht) rfl ?_
  refine q_bipush (M := md_X2_addRead) (pc := 4) (x := 12) dX2_addRead_4 (by decide) ?_
  refine e_icmp_lt (M := md_X2_addRead) (pc := 6) (tgt := 11) h rfl (q_wlit rfl) dX2_addRead_6 (by decide) (fun h => ?_) (fun h => ?_)
  · refine q_aload_n (M := md_X2_addRead) (pc := 11) dX2_addRead_11 rfl (nn_Lp ht) ?_
    refine q_getP (M := md_X2_addRead) (pc := 12) (v := t + 4) fl_2_25 dX2_addRead_12 (is_Lp hN ht) (ph_Lp_11 ht) ?_
    refine q_aload_n (M := md_X2_addRead) (pc := 15) dX2_addRead_15 rfl (nn_Lp ht) ?_
    refine e_gI (M := md_X2_addRead) (pc := 16) (v := m t 4) fl_2_62 dX2_addRead_16 (is_Lp hN ht) rfl ?_
    refine q_iload_n (M := md_X2_addRead) (pc := 19) dX2_addRead_19 rfl ?_
    refine e_wr (M := md_X2_addRead) (pc := 20) h dX2_addRead_20 (ar_Lp_11 hN ht) (fun m1 h => ?_)
    refine q_aload_n (M := md_X2_addRead) (pc := 21) dX2_addRead_21 rfl (nn_Lp ht) ?_
    refine q_getP (M := md_X2_addRead) (pc := 22) (v := t + 5) fl_2_28 dX2_addRead_22 (is_Lp hN ht) (ph_Lp_12 ht) ?_
    refine q_aload_n (M := md_X2_addRead) (pc := 25) dX2_addRead_25 rfl (nn_Lp ht) ?_
    refine e_gI (M := md_X2_addRead) (pc := 26) (v := m1 t 4) fl_2_62 dX2_addRead_26 (is_Lp hN ht) rfl ?_
    refine q_iload_n (M := md_X2_addRead) (pc := 29) dX2_addRead_29 rfl ?_
    refine e_wr (M := md_X2_addRead) (pc := 30) h dX2_addRead_30 (ar_Lp_12 hN ht) (fun m2 h => ?_)
    refine q_aload_n (M := md_X2_addRead) (pc := 31) dX2_addRead_31 rfl (nn_Lp ht) ?_
    refine q_getP (M := md_X2_addRead) (pc := 32) (v := t + 6) fl_2_31 dX2_addRead_32 (is_Lp hN ht) (ph_Lp_13 ht) ?_
    refine q_aload_n (M := md_X2_addRead) (pc := 35) dX2_addRead_35 rfl (nn_Lp ht) ?_
    refine e_gI (M := md_X2_addRead) (pc := 36) (v := m2 t 4) fl_2_62 dX2_addRead_36 (is_Lp hN ht) rfl ?_
    refine q_iload_n (M := md_X2_addRead) (pc := 39) dX2_addRead_39 rfl ?_
    refine e_wr (M := md_X2_addRead) (pc := 40) h dX2_addRead_40 (ar_Lp_13 hN ht) (fun m3 h => ?_)
    refine q_aload_n (M := md_X2_addRead) (pc := 41) dX2_addRead_41 rfl (nn_Lp ht) ?_
    refine q_dup (M := md_X2_addRead) (pc := 42) dX2_addRead_42 (show (2 : Nat) ≠ 1 by decide) ?_
    refine e_gI (M := md_X2_addRead) (pc := 43) (v := m3 t 4) fl_2_62 dX2_addRead_43 (is_Lp hN ht) rfl ?_
    refine q_iconst (M := md_X2_addRead) (pc := 46) dX2_addRead_46 ?_
    refine q_iadd (M := md_X2_addRead) (pc := 47) dX2_addRead_47 ?_
    refine e_pfI (M := md_X2_addRead) (pc := 48) h fl_2_62 dX2_addRead_48 (is_Lp hN ht) rfl (fun m4 h => ?_)
    refine q_aload_n (M := md_X2_addRead) (pc := 51) dX2_addRead_51 rfl (nn_Lp ht) ?_
    refine q_iload_n (M := md_X2_addRead) (pc := 52) dX2_addRead_52 rfl ?_
    refine q_iload_n (M := md_X2_addRead) (pc := 53) dX2_addRead_53 rfl ?_
    refine e_callVv (M := md_X2_addRead) (pc := 54) (d' := 1) (av := [q_I l2, q_I l3]) (c := t) h ml_2_93 im_X2_noteOffset se_X2_noteOffset dX2_addRead_54 (fun v he => ok_X2_noteOffset hN ht he) rfl (is_Lp hN ht) ⟨_, _, rfl⟩ (by decide) (Nat.le_of_ble_eq_true rfl) ⟨by decide, by decide⟩ rfl (fun _ m5 h => ?_)
    refine q_aload_n (M := md_X2_addRead) (pc := 57) dX2_addRead_57 rfl (nn_Lp ht) ?_
    refine q_iconst (M := md_X2_addRead) (pc := 58) dX2_addRead_58 ?_
    refine q_aload_n (M := md_X2_addRead) (pc := 59) dX2_addRead_59 rfl (nn_Lp ht) ?_
    refine e_gI (M := md_X2_addRead) (pc := 60) (v := m5 t 4) fl_2_62 dX2_addRead_60 (is_Lp hN ht) rfl ?_
    refine q_iconst (M := md_X2_addRead) (pc := 63) dX2_addRead_63 ?_
    refine q_isub (M := md_X2_addRead) (pc := 64) dX2_addRead_64 ?_
    refine q_iconst (M := md_X2_addRead) (pc := 65) dX2_addRead_65 ?_
    refine e_callVi (M := md_X2_addRead) (pc := 66) (d' := 1) (av := [q_I 3, q_I ((m5 t 4) - 1), q_I 0]) (c := t) h ml_2_97 im_X2_addNode se_X2_addNode dX2_addRead_66 (fun v he => ok_X2_addNode hN ht he) rfl (is_Lp hN ht) ⟨_, _, rfl⟩ (by decide) (Nat.le_of_ble_eq_true rfl) ⟨by decide, by decide⟩ rfl (fun v6 m7 h => ?_)
    exact e_iret (M := md_X2_addRead) (pc := 69) h rfl dX2_addRead_69
  · refine q_iconst (M := md_X2_addRead) (pc := 9) dX2_addRead_9 ?_
    exact e_iret (M := md_X2_addRead) (pc := 10) h rfl dX2_addRead_10
def f_Loop_isInside (t l1 l2 : Int) (m : q_Mem) : q_Res :=
  if q_w l1 < 0 then (q_rz 0 m)
  else (if q_w (m t 0) ≤ q_w l1 then (q_rz 0 m)
  else (if q_w l2 < 0 then (q_rz 0 m)
  else (if q_w (m t 1) ≤ q_w l2 then (q_rz 0 m)
  else (q_rz 1 m))))
set_option maxRecDepth 20000 in
theorem ok_X2_isInside {t l1 l2 : Int} {r : Int × q_Mem} {m : q_Mem} {N : Nat} (hN : 81 ≤ N) (ht : t ∈ q_Lp) (h : f_Loop_isInside t l1 l2 m = some r) : q_C md_X2_isInside (q_room 1) 0 0 [q_A t, q_I l1, q_I l2] (q_g N) m (some (q_I r.1), q_g N, r.2) := by
  refine q_ofR (by decide) 0 (ls := [q_A t, q_I l1, q_I l2]) rfl (Nat.le_of_ble_eq_true rfl) ?_
  change q_E md_X2_isInside 1 N (some 0) r m 0 [q_A t, q_I l1, q_I l2] []
  unfold f_Loop_isInside at h
  refine q_iload_n (M := md_X2_isInside) (pc := 0) dX2_isInside_0 rfl ?_
  refine e_if_lt (M := md_X2_isInside) (pc := 1) (tgt := 28) h rfl dX2_isInside_1 (by decide) (fun h => ?_) (fun h => ?_)
  · refine q_iconst (M := md_X2_isInside) (pc := 28) dX2_isInside_28 ?_
    exact e_zret (M := md_X2_isInside) (pc := 29) h rfl dX2_isInside_29
  · refine q_iload_n (M := md_X2_isInside) (pc := 4) dX2_isInside_4 rfl ?_
    refine q_aload_n (M := md_X2_isInside) (pc := 5) dX2_isInside_5 rfl (nn_Lp ht) ?_
    refine e_gI (M := md_X2_isInside) (pc := 6) (v := m t 0) fl_2_49 dX2_isInside_6 (is_Lp hN ht) rfl ?_
    refine e_icmp_ge (M := md_X2_isInside) (pc := 9) (tgt := 28) h rfl rfl dX2_isInside_9 (by decide) (fun h => ?_) (fun h => ?_)
    · refine q_iconst (M := md_X2_isInside) (pc := 28) dX2_isInside_28 ?_
      exact e_zret (M := md_X2_isInside) (pc := 29) h rfl dX2_isInside_29
    · refine q_iload_n (M := md_X2_isInside) (pc := 12) dX2_isInside_12 rfl ?_
      refine e_if_lt (M := md_X2_isInside) (pc := 13) (tgt := 28) h rfl dX2_isInside_13 (by decide) (fun h => ?_) (fun h => ?_)
      · refine q_iconst (M := md_X2_isInside) (pc := 28) dX2_isInside_28 ?_
        exact e_zret (M := md_X2_isInside) (pc := 29) h rfl dX2_isInside_29
      · refine q_iload_n (M := md_X2_isInside) (pc := 16) dX2_isInside_16 rfl ?_
        refine q_aload_n (M := md_X2_isInside) (pc := 17) dX2_isInside_17 rfl (nn_Lp ht) ?_
        refine e_gI (M := md_X2_isInside) (pc := 18) (v := m t 1) fl_2_53 dX2_isInside_18 (is_Lp hN ht) rfl ?_
        refine e_icmp_ge (M := md_X2_isInside) (pc := 21) (tgt := 28) h rfl rfl dX2_isInside_21 (by decide) (fun h => ?_) (fun h => ?_)
        · refine q_iconst (M := md_X2_isInside) (pc := 28) dX2_isInside_28 ?_
          exact e_zret (M := md_X2_isInside) (pc := 29) h rfl dX2_isInside_29
        · refine q_iconst (M := md_X2_isInside) (pc := 24) dX2_isInside_24 ?_
          refine q_goto (M := md_X2_isInside) (pc := 25) (tgt := 29) dX2_isInside_25 (by decide) ?_
          exact e_zret (M := md_X2_isInside) (pc := 29) h rfl dX2_isInside_29
def f_Loop_points (t : Int) (m : q_Mem) : q_Res :=
  q_rt ((m t 0) * (m t 1)) m
set_option maxRecDepth 20000 in
theorem ok_X2_points {t : Int} {r : Int × q_Mem} {m : q_Mem} {N : Nat} (hN : 81 ≤ N) (ht : t ∈ q_Lp) (h : f_Loop_points t m = some r) : q_C md_X2_points (q_room 1) 0 0 [q_A t] (q_g N) m (some (q_I r.1), q_g N, r.2) := by
  refine q_ofR (by decide) 0 (ls := [q_A t]) rfl (Nat.le_of_ble_eq_true rfl) ?_
  change q_E md_X2_points 1 N (some 0) r m 0 [q_A t] []
  unfold f_Loop_points at h
  refine q_aload_n (M := md_X2_points) (pc := 0) dX2_points_0 rfl (nn_Lp ht) ?_
  refine e_gI (M := md_X2_points) (pc := 1) (v := m t 0) fl_2_49 dX2_points_1 (is_Lp hN ht) rfl ?_
  refine q_aload_n (M := md_X2_points) (pc := 4) dX2_points_4 rfl (nn_Lp ht) ?_
  refine e_gI (M := md_X2_points) (pc := 5) (v := m t 1) fl_2_53 dX2_points_5 (is_Lp hN ht) rfl ?_
  refine q_imul (M := md_X2_points) (pc := 8) dX2_points_8 ?_
  exact e_iret (M := md_X2_points) (pc := 9) h rfl dX2_points_9
def f_Loop_pointAt (t l1 : Int) (m : q_Mem) : q_Res :=
  q_dv l1 (m t 1) fun v1 =>
  q_md l1 (m t 1) fun v2 =>
  q_rt ((v1 * 10) + v2) m
set_option maxRecDepth 20000 in
theorem ok_X2_pointAt {t l1 : Int} {r : Int × q_Mem} {m : q_Mem} {N : Nat} (hN : 81 ≤ N) (ht : t ∈ q_Lp) (h : f_Loop_pointAt t l1 m = some r) : q_C md_X2_pointAt (q_room 1) 0 0 [q_A t, q_I l1] (q_g N) m (some (q_I r.1), q_g N, r.2) := by
  refine q_ofR (by decide) 0 (ls := [q_A t, q_I l1]) rfl (Nat.le_of_ble_eq_true rfl) ?_
  change q_E md_X2_pointAt 1 N (some 0) r m 0 [q_A t, q_I l1] []
  unfold f_Loop_pointAt at h
  refine q_iload_n (M := md_X2_pointAt) (pc := 0) dX2_pointAt_0 rfl ?_
  refine q_aload_n (M := md_X2_pointAt) (pc := 1) dX2_pointAt_1 rfl (nn_Lp ht) ?_
  refine e_gI (M := md_X2_pointAt) (pc := 2) (v := m t 1) fl_2_53 dX2_pointAt_2 (is_Lp hN ht) rfl ?_
  refine e_dv (M := md_X2_pointAt) (pc := 5) h dX2_pointAt_5 (fun v1 h => ?_)
  refine q_bipush (M := md_X2_pointAt) (pc := 6) (x := 10) dX2_pointAt_6 (by decide) ?_
  refine q_imul (M := md_X2_pointAt) (pc := 8) dX2_pointAt_8 ?_
  refine q_iload_n (M := md_X2_pointAt) (pc := 9) dX2_pointAt_9 rfl ?_
  refine q_aload_n (M := md_X2_pointAt) (pc := 10) dX2_pointAt_10 rfl (nn_Lp ht) ?_
  refine e_gI (M := md_X2_pointAt) (pc := 11) (v := m t 1) fl_2_53 dX2_pointAt_11 (is_Lp hN ht) rfl ?_
  refine e_md (M := md_X2_pointAt) (pc := 14) h dX2_pointAt_14 (fun v2 h => ?_)
  refine q_iadd (M := md_X2_pointAt) (pc := 15) dX2_pointAt_15 ?_
  exact e_iret (M := md_X2_pointAt) (pc := 16) h rfl dX2_pointAt_16
def f_Loop_moved_b49 (t : Int) (l4 l5 s0 : Int) (m : q_Mem) : q_Res :=
  if q_w s0 = 0 then (q_rt (-1) m)
  else (q_rt ((l4 * 10) + l5) m)
set_option maxRecDepth 20000 in
theorem w_Loop_moved_b49 {t : Int} {l4 l5 s0 : Int} {r : Int × q_Mem} {m : q_Mem} {N : Nat} (hN : 81 ≤ N) (ht : t ∈ q_Lp) (h : f_Loop_moved_b49 t l4 l5 s0 m = some r) : q_E md_X2_moved 1 N (some 0) r m 49 [q_N, q_N, q_N, q_N, q_I l4, q_I l5, q_N] [q_I s0] := by
  unfold f_Loop_moved_b49 at h
  refine e_ist (M := md_X2_moved) (pc := 49) (ls' := [q_N, q_N, q_N, q_N, q_I l4, q_I l5, q_I s0]) dX2_moved_49 (by decide) (q_pl rfl) rfl ?_
  refine q_iload (M := md_X2_moved) (pc := 51) dX2_moved_51 rfl ?_
  refine e_if_eq (M := md_X2_moved) (pc := 53) (tgt := 67) h rfl dX2_moved_53 (by decide) (fun h => ?_) (fun h => ?_)
  · refine q_iconst (M := md_X2_moved) (pc := 67) dX2_moved_67 ?_
    exact e_iret (M := md_X2_moved) (pc := 68) h rfl dX2_moved_68
  · refine q_iload (M := md_X2_moved) (pc := 56) dX2_moved_56 rfl ?_
    refine q_bipush (M := md_X2_moved) (pc := 58) (x := 10) dX2_moved_58 (by decide) ?_
    refine q_imul (M := md_X2_moved) (pc := 60) dX2_moved_60 ?_
    refine q_iload (M := md_X2_moved) (pc := 61) dX2_moved_61 rfl ?_
    refine q_iadd (M := md_X2_moved) (pc := 63) dX2_moved_63 ?_
    refine q_goto (M := md_X2_moved) (pc := 64) (tgt := 68) dX2_moved_64 (by decide) ?_
    exact e_iret (M := md_X2_moved) (pc := 68) h rfl dX2_moved_68
def f_Loop_moved_b48 (t : Int) (l4 l5 : Int) (m : q_Mem) : q_Res :=
  f_Loop_moved_b49 t l4 l5 0 m
set_option maxRecDepth 20000 in
theorem w_Loop_moved_b48 {t : Int} {l4 l5 : Int} {r : Int × q_Mem} {m : q_Mem} {N : Nat} (hN : 81 ≤ N) (ht : t ∈ q_Lp) (h : f_Loop_moved_b48 t l4 l5 m = some r) : q_E md_X2_moved 1 N (some 0) r m 48 [q_N, q_N, q_N, q_N, q_I l4, q_I l5, q_N] [] := by
  unfold f_Loop_moved_b48 at h
  refine q_iconst (M := md_X2_moved) (pc := 48) dX2_moved_48 ?_
  exact q_weak (w_Loop_moved_b49 hN ht  h) ⟨Or.inl rfl, Or.inl rfl, Or.inl rfl, Or.inl rfl, Or.inr rfl, Or.inr rfl, Or.inl rfl, trivial⟩
def f_Loop_moved (t l1 l2 l3 : Int) (m : q_Mem) : q_Res :=
  q_dv l1 10 fun v1 =>
  q_md l1 10 fun v2 =>
  if q_w (v1 + l2) < 0 then (f_Loop_moved_b48 t (v1 + l2) (v2 + l3) m)
  else (if q_w (m t 0) ≤ q_w (v1 + l2) then (f_Loop_moved_b48 t (v1 + l2) (v2 + l3) m)
  else (if q_w (v2 + l3) < 0 then (f_Loop_moved_b48 t (v1 + l2) (v2 + l3) m)
  else (if q_w (m t 1) ≤ q_w (v2 + l3) then (f_Loop_moved_b48 t (v1 + l2) (v2 + l3) m)
  else (f_Loop_moved_b49 t (v1 + l2) (v2 + l3) 1 m))))
set_option maxRecDepth 20000 in
theorem ok_X2_moved {t l1 l2 l3 : Int} {r : Int × q_Mem} {m : q_Mem} {N : Nat} (hN : 81 ≤ N) (ht : t ∈ q_Lp) (h : f_Loop_moved t l1 l2 l3 m = some r) : q_C md_X2_moved (q_room 1) 0 0 [q_A t, q_I l1, q_I l2, q_I l3] (q_g N) m (some (q_I r.1), q_g N, r.2) := by
  refine q_ofR (by decide) 3 (ls := [q_A t, q_I l1, q_I l2, q_I l3, q_N, q_N, q_N]) rfl (Nat.le_of_ble_eq_true rfl) ?_
  change q_E md_X2_moved 1 N (some 0) r m 0 [q_A t, q_I l1, q_I l2, q_I l3, q_N, q_N, q_N] []
  unfold f_Loop_moved at h
  refine q_iload_n (M := md_X2_moved) (pc := 0) dX2_moved_0 rfl ?_
  refine q_bipush (M := md_X2_moved) (pc := 1) (x := 10) dX2_moved_1 (by decide) ?_
  refine e_dv (M := md_X2_moved) (pc := 3) h dX2_moved_3 (fun v1 h => ?_)
  refine q_iload_n (M := md_X2_moved) (pc := 4) dX2_moved_4 rfl ?_
  refine q_iadd (M := md_X2_moved) (pc := 5) dX2_moved_5 ?_
  refine e_ist (M := md_X2_moved) (pc := 6) (ls' := [q_A t, q_I l1, q_I l2, q_I l3, q_I (v1 + l2), q_N, q_N]) dX2_moved_6 (by decide) (q_pl rfl) rfl ?_
  refine q_iload_n (M := md_X2_moved) (pc := 8) dX2_moved_8 rfl ?_
  refine q_bipush (M := md_X2_moved) (pc := 9) (x := 10) dX2_moved_9 (by decide) ?_
  refine e_md (M := md_X2_moved) (pc := 11) h dX2_moved_11 (fun v2 h => ?_)
  refine q_iload_n (M := md_X2_moved) (pc := 12) dX2_moved_12 rfl ?_
  refine q_iadd (M := md_X2_moved) (pc := 13) dX2_moved_13 ?_
  refine e_ist (M := md_X2_moved) (pc := 14) (ls' := [q_A t, q_I l1, q_I l2, q_I l3, q_I (v1 + l2), q_I (v2 + l3), q_N]) dX2_moved_14 (by decide) (q_pl rfl) rfl ?_
  refine q_iload (M := md_X2_moved) (pc := 16) dX2_moved_16 rfl ?_
  refine e_if_lt (M := md_X2_moved) (pc := 18) (tgt := 48) h rfl dX2_moved_18 (by decide) (fun h => ?_) (fun h => ?_)
  · exact q_weak (w_Loop_moved_b48 hN ht  h) ⟨Or.inl rfl, Or.inl rfl, Or.inl rfl, Or.inl rfl, Or.inr rfl, Or.inr rfl, Or.inl rfl, trivial⟩
  · refine q_iload (M := md_X2_moved) (pc := 21) dX2_moved_21 rfl ?_
    refine q_aload_n (M := md_X2_moved) (pc := 23) dX2_moved_23 rfl (nn_Lp ht) ?_
    refine e_gI (M := md_X2_moved) (pc := 24) (v := m t 0) fl_2_49 dX2_moved_24 (is_Lp hN ht) rfl ?_
    refine e_icmp_ge (M := md_X2_moved) (pc := 27) (tgt := 48) h rfl rfl dX2_moved_27 (by decide) (fun h => ?_) (fun h => ?_)
    · exact q_weak (w_Loop_moved_b48 hN ht  h) ⟨Or.inl rfl, Or.inl rfl, Or.inl rfl, Or.inl rfl, Or.inr rfl, Or.inr rfl, Or.inl rfl, trivial⟩
    · refine q_iload (M := md_X2_moved) (pc := 30) dX2_moved_30 rfl ?_
      refine e_if_lt (M := md_X2_moved) (pc := 32) (tgt := 48) h rfl dX2_moved_32 (by decide) (fun h => ?_) (fun h => ?_)
      · exact q_weak (w_Loop_moved_b48 hN ht  h) ⟨Or.inl rfl, Or.inl rfl, Or.inl rfl, Or.inl rfl, Or.inr rfl, Or.inr rfl, Or.inl rfl, trivial⟩
      · refine q_iload (M := md_X2_moved) (pc := 35) dX2_moved_35 rfl ?_
        refine q_aload_n (M := md_X2_moved) (pc := 37) dX2_moved_37 rfl (nn_Lp ht) ?_
        refine e_gI (M := md_X2_moved) (pc := 38) (v := m t 1) fl_2_53 dX2_moved_38 (is_Lp hN ht) rfl ?_
        refine e_icmp_ge (M := md_X2_moved) (pc := 41) (tgt := 48) h rfl rfl dX2_moved_41 (by decide) (fun h => ?_) (fun h => ?_)
        · exact q_weak (w_Loop_moved_b48 hN ht  h) ⟨Or.inl rfl, Or.inl rfl, Or.inl rfl, Or.inl rfl, Or.inr rfl, Or.inr rfl, Or.inl rfl, trivial⟩
        · refine q_iconst (M := md_X2_moved) (pc := 44) dX2_moved_44 ?_
          refine q_goto (M := md_X2_moved) (pc := 45) (tgt := 49) dX2_moved_45 (by decide) ?_
          exact q_weak (w_Loop_moved_b49 hN ht  h) ⟨Or.inl rfl, Or.inl rfl, Or.inl rfl, Or.inl rfl, Or.inr rfl, Or.inr rfl, Or.inl rfl, trivial⟩
def f_Loop_target (t l1 l2 : Int) (m : q_Mem) : q_Res :=
  q_rd m (t + 2) 12 l2 fun v1 =>
  q_rd m (t + 3) 12 l2 fun v2 =>
  q_bd (f_Loop_moved t l1 v1 v2 m) fun v3 m4 =>
  q_rt v3 m4
set_option maxRecDepth 20000 in
theorem ok_X2_target {t l1 l2 : Int} {r : Int × q_Mem} {m : q_Mem} {N : Nat} (hN : 81 ≤ N) (ht : t ∈ q_Lp) (h : f_Loop_target t l1 l2 m = some r) : q_C md_X2_target (q_room 2) 0 0 [q_A t, q_I l1, q_I l2] (q_g N) m (some (q_I r.1), q_g N, r.2) := by
  refine q_ofR (by decide) 0 (ls := [q_A t, q_I l1, q_I l2]) rfl (Nat.le_of_ble_eq_true rfl) ?_
  change q_E md_X2_target 2 N (some 0) r m 0 [q_A t, q_I l1, q_I l2] []
  unfold f_Loop_target at h
  refine q_aload_n (M := md_X2_target) (pc := 0) dX2_target_0 rfl (nn_Lp ht) ?_
  refine q_iload_n (M := md_X2_target) (pc := 1) dX2_target_1 rfl ?_
  refine q_aload_n (M := md_X2_target) (pc := 2) dX2_target_2 rfl (nn_Lp ht) ?_
  refine q_getP (M := md_X2_target) (pc := 3) (v := t + 2) fl_2_18 dX2_target_3 (is_Lp hN ht) (ph_Lp_9 ht) ?_
  refine q_iload_n (M := md_X2_target) (pc := 6) dX2_target_6 rfl ?_
  refine e_rd (M := md_X2_target) (pc := 7) h dX2_target_7 (ar_Lp_9 hN ht) (fun v1 h => ?_)
  refine q_aload_n (M := md_X2_target) (pc := 8) dX2_target_8 rfl (nn_Lp ht) ?_
  refine q_getP (M := md_X2_target) (pc := 9) (v := t + 3) fl_2_22 dX2_target_9 (is_Lp hN ht) (ph_Lp_10 ht) ?_
  refine q_iload_n (M := md_X2_target) (pc := 12) dX2_target_12 rfl ?_
  refine e_rd (M := md_X2_target) (pc := 13) h dX2_target_13 (ar_Lp_10 hN ht) (fun v2 h => ?_)
  refine e_callVi (M := md_X2_target) (pc := 14) (d' := 1) (av := [q_I l1, q_I v1, q_I v2]) (c := t) h ml_2_101 im_X2_moved se_X2_moved dX2_target_14 (fun v he => ok_X2_moved hN ht he) rfl (is_Lp hN ht) ⟨_, _, rfl⟩ (by decide) (Nat.le_of_ble_eq_true rfl) ⟨by decide, by decide⟩ rfl (fun v3 m4 h => ?_)
  exact e_iret (M := md_X2_target) (pc := 17) h rfl dX2_target_17
def f_Loop_reader (t l1 l2 : Int) (m : q_Mem) : q_Res :=
  q_rd m (t + 2) 12 l2 fun v1 =>
  q_rd m (t + 3) 12 l2 fun v2 =>
  q_bd (f_Loop_moved t l1 (-v1) (-v2) m) fun v3 m4 =>
  q_rt v3 m4
set_option maxRecDepth 20000 in
theorem ok_X2_reader {t l1 l2 : Int} {r : Int × q_Mem} {m : q_Mem} {N : Nat} (hN : 81 ≤ N) (ht : t ∈ q_Lp) (h : f_Loop_reader t l1 l2 m = some r) : q_C md_X2_reader (q_room 2) 0 0 [q_A t, q_I l1, q_I l2] (q_g N) m (some (q_I r.1), q_g N, r.2) := by
  refine q_ofR (by decide) 0 (ls := [q_A t, q_I l1, q_I l2]) rfl (Nat.le_of_ble_eq_true rfl) ?_
  change q_E md_X2_reader 2 N (some 0) r m 0 [q_A t, q_I l1, q_I l2] []
  unfold f_Loop_reader at h
  refine q_aload_n (M := md_X2_reader) (pc := 0) dX2_reader_0 rfl (nn_Lp ht) ?_
  refine q_iload_n (M := md_X2_reader) (pc := 1) dX2_reader_1 rfl ?_
  refine q_aload_n (M := md_X2_reader) (pc := 2) dX2_reader_2 rfl (nn_Lp ht) ?_
  refine q_getP (M := md_X2_reader) (pc := 3) (v := t + 2) fl_2_18 dX2_reader_3 (is_Lp hN ht) (ph_Lp_9 ht) ?_
  refine q_iload_n (M := md_X2_reader) (pc := 6) dX2_reader_6 rfl ?_
  refine e_rd (M := md_X2_reader) (pc := 7) h dX2_reader_7 (ar_Lp_9 hN ht) (fun v1 h => ?_)
  refine q_ineg (M := md_X2_reader) (pc := 8) dX2_reader_8 ?_
  refine q_aload_n (M := md_X2_reader) (pc := 9) dX2_reader_9 rfl (nn_Lp ht) ?_
  refine q_getP (M := md_X2_reader) (pc := 10) (v := t + 3) fl_2_22 dX2_reader_10 (is_Lp hN ht) (ph_Lp_10 ht) ?_
  refine q_iload_n (M := md_X2_reader) (pc := 13) dX2_reader_13 rfl ?_
  refine e_rd (M := md_X2_reader) (pc := 14) h dX2_reader_14 (ar_Lp_10 hN ht) (fun v2 h => ?_)
  refine q_ineg (M := md_X2_reader) (pc := 15) dX2_reader_15 ?_
  refine e_callVi (M := md_X2_reader) (pc := 16) (d' := 1) (av := [q_I l1, q_I (-v1), q_I (-v2)]) (c := t) h ml_2_101 im_X2_moved se_X2_moved dX2_reader_16 (fun v he => ok_X2_moved hN ht he) rfl (is_Lp hN ht) ⟨_, _, rfl⟩ (by decide) (Nat.le_of_ble_eq_true rfl) ⟨by decide, by decide⟩ rfl (fun v3 m4 h => ?_)
  exact e_iret (M := md_X2_reader) (pc := 19) h rfl dX2_reader_19
def f_Loop_readBy_b25 (t : Int) (k4 : Int → Int → Int → q_Mem → q_Res) (l1 l2 l3 : Int) (m : q_Mem) : q_Res :=
  k4 l1 l2 (l3 + 1) m
set_option maxRecDepth 20000 in
theorem w_Loop_readBy_b25 {t : Int} {k4 : Int → Int → Int → q_Mem → q_Res} {l1 l2 l3 : Int} {r : Int × q_Mem} {m : q_Mem} {N : Nat} (hN : 81 ≤ N) (ht : t ∈ q_Lp) (hk4 : ∀ (l1 l2 l3 : Int) (m : q_Mem), k4 l1 l2 l3 m = some r → q_E md_X2_readBy 3 N (some 0) r m 4 [q_A t, q_I l1, q_I l2, q_I l3] []) (h : f_Loop_readBy_b25 t k4 l1 l2 l3 m = some r) : q_E md_X2_readBy 3 N (some 0) r m 25 [q_A t, q_I l1, q_I l2, q_I l3] [] := by
  unfold f_Loop_readBy_b25 at h
  refine e_inc (M := md_X2_readBy) (pc := 25) (x := l3) (ls' := [q_A t, q_I l1, q_I l2, q_I (l3 + 1)]) dX2_readBy_25 rfl (by decide) (q_pl rfl) rfl ?_
  refine q_goto (M := md_X2_readBy) (pc := 28) (tgt := 4) dX2_readBy_28 (by decide) ?_
  exact q_weak (hk4 _ _ _ _  h) ⟨Or.inr rfl, Or.inr rfl, Or.inr rfl, Or.inr rfl, trivial⟩
def f_Loop_readBy_b4 (t : Int) (k4 : Int → Int → Int → q_Mem → q_Res) (l1 l2 l3 : Int) (m : q_Mem) : q_Res :=
  if q_w (m t 5) ≤ q_w l3 then (q_rt l2 m)
  else (q_bd (f_Loop_target t l1 l3 m) fun v1 m2 =>
  if q_w v1 = (-1) then (f_Loop_readBy_b25 t k4 l1 l2 l3 m2)
  else (f_Loop_readBy_b25 t k4 l1 (l2 + 1) l3 m2))
set_option maxRecDepth 20000 in
theorem w_Loop_readBy_b4 {t : Int} {k4 : Int → Int → Int → q_Mem → q_Res} {l1 l2 l3 : Int} {r : Int × q_Mem} {m : q_Mem} {N : Nat} (hN : 81 ≤ N) (ht : t ∈ q_Lp) (hk4 : ∀ (l1 l2 l3 : Int) (m : q_Mem), k4 l1 l2 l3 m = some r → q_E md_X2_readBy 3 N (some 0) r m 4 [q_A t, q_I l1, q_I l2, q_I l3] []) (h : f_Loop_readBy_b4 t k4 l1 l2 l3 m = some r) : q_E md_X2_readBy 3 N (some 0) r m 4 [q_A t, q_I l1, q_I l2, q_I l3] [] := by
  unfold f_Loop_readBy_b4 at h
  refine q_iload_n (M := md_X2_readBy) (pc := 4) dX2_readBy_4 rfl ?_
  refine q_aload_n (M := md_X2_readBy) (pc := 5) dX2_readBy_5 rfl (nn_Lp ht) ?_
  refine e_gI (M := md_X2_readBy) (pc := 6) (v := m t 5) fl_2_65 dX2_readBy_6 (is_Lp hN ht) rfl ?_
  refine e_icmp_ge (M := md_X2_readBy) (pc := 9) (tgt := 31) h rfl rfl dX2_readBy_9 (by decide) (fun h => ?_) (fun h => ?_)
  · refine q_iload_n (M := md_X2_readBy) (pc := 31) dX2_readBy_31 rfl ?_
    exact e_iret (M := md_X2_readBy) (pc := 32) h rfl dX2_readBy_32
  · refine q_aload_n (M := md_X2_readBy) (pc := 12) dX2_readBy_12 rfl (nn_Lp ht) ?_
    refine q_iload_n (M := md_X2_readBy) (pc := 13) dX2_readBy_13 rfl ?_
    refine q_iload_n (M := md_X2_readBy) (pc := 14) dX2_readBy_14 rfl ?_
    refine e_callVi (M := md_X2_readBy) (pc := 15) (d' := 2) (av := [q_I l1, q_I l3]) (c := t) h ml_2_104 im_X2_target se_X2_target dX2_readBy_15 (fun v he => ok_X2_target hN ht he) rfl (is_Lp hN ht) ⟨_, _, rfl⟩ (by decide) (Nat.le_of_ble_eq_true rfl) ⟨by decide, by decide⟩ rfl (fun v1 m2 h => ?_)
    refine q_iconst (M := md_X2_readBy) (pc := 18) dX2_readBy_18 ?_
    refine e_icmp_eq (M := md_X2_readBy) (pc := 19) (tgt := 25) h rfl (q_wlit rfl) dX2_readBy_19 (by decide) (fun h => ?_) (fun h => ?_)
    · exact q_weak (w_Loop_readBy_b25 hN ht hk4  h) ⟨Or.inr rfl, Or.inr rfl, Or.inr rfl, Or.inr rfl, trivial⟩
    · refine e_inc (M := md_X2_readBy) (pc := 22) (x := l2) (ls' := [q_A t, q_I l1, q_I (l2 + 1), q_I l3]) dX2_readBy_22 rfl (by decide) (q_pl rfl) rfl ?_
      exact q_weak (w_Loop_readBy_b25 hN ht hk4  h) ⟨Or.inr rfl, Or.inr rfl, Or.inr rfl, Or.inr rfl, trivial⟩
def f_Loop_readBy_l4 (t : Int) : Nat → Int → Int → Int → q_Mem → q_Res
  | 0 => fun _ _ _ _ => none
  | n + 1 => fun l1 l2 l3 m => f_Loop_readBy_b4 t (f_Loop_readBy_l4 t n) l1 l2 l3 m
theorem w_Loop_readBy_l4 {t : Int} {r : Int × q_Mem} {N : Nat} (hN : 81 ≤ N) (ht : t ∈ q_Lp) : ∀ (n : Nat) (l1 l2 l3 : Int) (m : q_Mem), f_Loop_readBy_l4 t n l1 l2 l3 m = some r → q_E md_X2_readBy 3 N (some 0) r m 4 [q_A t, q_I l1, q_I l2, q_I l3] [] := by
  intro n
  induction n with
  | zero => intro l1 l2 l3 m h; exact q_no h
  | succ n ih =>
    intro l1 l2 l3 m h
    exact w_Loop_readBy_b4 hN ht (fun l1 l2 l3 m h => ih l1 l2 l3 m h) h
def f_Loop_readBy (t l1 : Int) (m : q_Mem) : q_Res :=
  f_Loop_readBy_l4 t q_F l1 0 0 m
set_option maxRecDepth 20000 in
theorem ok_X2_readBy {t l1 : Int} {r : Int × q_Mem} {m : q_Mem} {N : Nat} (hN : 81 ≤ N) (ht : t ∈ q_Lp) (h : f_Loop_readBy t l1 m = some r) : q_C md_X2_readBy (q_room 3) 0 0 [q_A t, q_I l1] (q_g N) m (some (q_I r.1), q_g N, r.2) := by
  refine q_ofR (by decide) 2 (ls := [q_A t, q_I l1, q_N, q_N]) rfl (Nat.le_of_ble_eq_true rfl) ?_
  change q_E md_X2_readBy 3 N (some 0) r m 0 [q_A t, q_I l1, q_N, q_N] []
  unfold f_Loop_readBy at h
  refine q_iconst (M := md_X2_readBy) (pc := 0) dX2_readBy_0 ?_
  refine e_ist_n (M := md_X2_readBy) (pc := 1) (ls' := [q_A t, q_I l1, q_I 0, q_N]) dX2_readBy_1 (by decide) (q_pl rfl) rfl ?_
  refine q_iconst (M := md_X2_readBy) (pc := 2) dX2_readBy_2 ?_
  refine e_ist_n (M := md_X2_readBy) (pc := 3) (ls' := [q_A t, q_I l1, q_I 0, q_I 0]) dX2_readBy_3 (by decide) (q_pl rfl) rfl ?_
  exact q_weak (w_Loop_readBy_l4 hN ht q_F _ _ _ _  h) ⟨Or.inr rfl, Or.inr rfl, Or.inr rfl, Or.inr rfl, trivial⟩
def f_Loop_readersOf_b25 (t : Int) (k4 : Int → Int → Int → q_Mem → q_Res) (l1 l2 l3 : Int) (m : q_Mem) : q_Res :=
  k4 l1 l2 (l3 + 1) m
set_option maxRecDepth 20000 in
theorem w_Loop_readersOf_b25 {t : Int} {k4 : Int → Int → Int → q_Mem → q_Res} {l1 l2 l3 : Int} {r : Int × q_Mem} {m : q_Mem} {N : Nat} (hN : 81 ≤ N) (ht : t ∈ q_Lp) (hk4 : ∀ (l1 l2 l3 : Int) (m : q_Mem), k4 l1 l2 l3 m = some r → q_E md_X2_readersOf 3 N (some 0) r m 4 [q_A t, q_I l1, q_I l2, q_I l3] []) (h : f_Loop_readersOf_b25 t k4 l1 l2 l3 m = some r) : q_E md_X2_readersOf 3 N (some 0) r m 25 [q_A t, q_I l1, q_I l2, q_I l3] [] := by
  unfold f_Loop_readersOf_b25 at h
  refine e_inc (M := md_X2_readersOf) (pc := 25) (x := l3) (ls' := [q_A t, q_I l1, q_I l2, q_I (l3 + 1)]) dX2_readersOf_25 rfl (by decide) (q_pl rfl) rfl ?_
  refine q_goto (M := md_X2_readersOf) (pc := 28) (tgt := 4) dX2_readersOf_28 (by decide) ?_
  exact q_weak (hk4 _ _ _ _  h) ⟨Or.inr rfl, Or.inr rfl, Or.inr rfl, Or.inr rfl, trivial⟩
def f_Loop_readersOf_b4 (t : Int) (k4 : Int → Int → Int → q_Mem → q_Res) (l1 l2 l3 : Int) (m : q_Mem) : q_Res :=
  if q_w (m t 5) ≤ q_w l3 then (q_rt l2 m)
  else (q_bd (f_Loop_reader t l1 l3 m) fun v1 m2 =>
  if q_w v1 = (-1) then (f_Loop_readersOf_b25 t k4 l1 l2 l3 m2)
  else (f_Loop_readersOf_b25 t k4 l1 (l2 + 1) l3 m2))
set_option maxRecDepth 20000 in
theorem w_Loop_readersOf_b4 {t : Int} {k4 : Int → Int → Int → q_Mem → q_Res} {l1 l2 l3 : Int} {r : Int × q_Mem} {m : q_Mem} {N : Nat} (hN : 81 ≤ N) (ht : t ∈ q_Lp) (hk4 : ∀ (l1 l2 l3 : Int) (m : q_Mem), k4 l1 l2 l3 m = some r → q_E md_X2_readersOf 3 N (some 0) r m 4 [q_A t, q_I l1, q_I l2, q_I l3] []) (h : f_Loop_readersOf_b4 t k4 l1 l2 l3 m = some r) : q_E md_X2_readersOf 3 N (some 0) r m 4 [q_A t, q_I l1, q_I l2, q_I l3] [] := by
  unfold f_Loop_readersOf_b4 at h
  refine q_iload_n (M := md_X2_readersOf) (pc := 4) dX2_readersOf_4 rfl ?_
  refine q_aload_n (M := md_X2_readersOf) (pc := 5) dX2_readersOf_5 rfl (nn_Lp ht) ?_
  refine e_gI (M := md_X2_readersOf) (pc := 6) (v := m t 5) fl_2_65 dX2_readersOf_6 (is_Lp hN ht) rfl ?_
  refine e_icmp_ge (M := md_X2_readersOf) (pc := 9) (tgt := 31) h rfl rfl dX2_readersOf_9 (by decide) (fun h => ?_) (fun h => ?_)
  · refine q_iload_n (M := md_X2_readersOf) (pc := 31) dX2_readersOf_31 rfl ?_
    exact e_iret (M := md_X2_readersOf) (pc := 32) h rfl dX2_readersOf_32
  · refine q_aload_n (M := md_X2_readersOf) (pc := 12) dX2_readersOf_12 rfl (nn_Lp ht) ?_
    refine q_iload_n (M := md_X2_readersOf) (pc := 13) dX2_readersOf_13 rfl ?_
    refine q_iload_n (M := md_X2_readersOf) (pc := 14) dX2_readersOf_14 rfl ?_
    refine e_callVi (M := md_X2_readersOf) (pc := 15) (d' := 2) (av := [q_I l1, q_I l3]) (c := t) h ml_2_108 im_X2_reader se_X2_reader dX2_readersOf_15 (fun v he => ok_X2_reader hN ht he) rfl (is_Lp hN ht) ⟨_, _, rfl⟩ (by decide) (Nat.le_of_ble_eq_true rfl) ⟨by decide, by decide⟩ rfl (fun v1 m2 h => ?_)
    refine q_iconst (M := md_X2_readersOf) (pc := 18) dX2_readersOf_18 ?_
    refine e_icmp_eq (M := md_X2_readersOf) (pc := 19) (tgt := 25) h rfl (q_wlit rfl) dX2_readersOf_19 (by decide) (fun h => ?_) (fun h => ?_)
    · exact q_weak (w_Loop_readersOf_b25 hN ht hk4  h) ⟨Or.inr rfl, Or.inr rfl, Or.inr rfl, Or.inr rfl, trivial⟩
    · refine e_inc (M := md_X2_readersOf) (pc := 22) (x := l2) (ls' := [q_A t, q_I l1, q_I (l2 + 1), q_I l3]) dX2_readersOf_22 rfl (by decide) (q_pl rfl) rfl ?_
      exact q_weak (w_Loop_readersOf_b25 hN ht hk4  h) ⟨Or.inr rfl, Or.inr rfl, Or.inr rfl, Or.inr rfl, trivial⟩
def f_Loop_readersOf_l4 (t : Int) : Nat → Int → Int → Int → q_Mem → q_Res
  | 0 => fun _ _ _ _ => none
  | n + 1 => fun l1 l2 l3 m => f_Loop_readersOf_b4 t (f_Loop_readersOf_l4 t n) l1 l2 l3 m
theorem w_Loop_readersOf_l4 {t : Int} {r : Int × q_Mem} {N : Nat} (hN : 81 ≤ N) (ht : t ∈ q_Lp) : ∀ (n : Nat) (l1 l2 l3 : Int) (m : q_Mem), f_Loop_readersOf_l4 t n l1 l2 l3 m = some r → q_E md_X2_readersOf 3 N (some 0) r m 4 [q_A t, q_I l1, q_I l2, q_I l3] [] := by
  intro n
  induction n with
  | zero => intro l1 l2 l3 m h; exact q_no h
  | succ n ih =>
    intro l1 l2 l3 m h
    exact w_Loop_readersOf_b4 hN ht (fun l1 l2 l3 m h => ih l1 l2 l3 m h) h
def f_Loop_readersOf (t l1 : Int) (m : q_Mem) : q_Res :=
  f_Loop_readersOf_l4 t q_F l1 0 0 m
set_option maxRecDepth 20000 in
theorem ok_X2_readersOf {t l1 : Int} {r : Int × q_Mem} {m : q_Mem} {N : Nat} (hN : 81 ≤ N) (ht : t ∈ q_Lp) (h : f_Loop_readersOf t l1 m = some r) : q_C md_X2_readersOf (q_room 3) 0 0 [q_A t, q_I l1] (q_g N) m (some (q_I r.1), q_g N, r.2) := by
  refine q_ofR (by decide) 2 (ls := [q_A t, q_I l1, q_N, q_N]) rfl (Nat.le_of_ble_eq_true rfl) ?_
  change q_E md_X2_readersOf 3 N (some 0) r m 0 [q_A t, q_I l1, q_N, q_N] []
  unfold f_Loop_readersOf at h
  refine q_iconst (M := md_X2_readersOf) (pc := 0) dX2_readersOf_0 ?_
  refine e_ist_n (M := md_X2_readersOf) (pc := 1) (ls' := [q_A t, q_I l1, q_I 0, q_N]) dX2_readersOf_1 (by decide) (q_pl rfl) rfl ?_
  refine q_iconst (M := md_X2_readersOf) (pc := 2) dX2_readersOf_2 ?_
  refine e_ist_n (M := md_X2_readersOf) (pc := 3) (ls' := [q_A t, q_I l1, q_I 0, q_I 0]) dX2_readersOf_3 (by decide) (q_pl rfl) rfl ?_
  exact q_weak (w_Loop_readersOf_l4 hN ht q_F _ _ _ _  h) ⟨Or.inr rfl, Or.inr rfl, Or.inr rfl, Or.inr rfl, trivial⟩
def f_Loop_edgeReads_b36 (t : Int) (k4 : Int → Int → Int → q_Mem → q_Res) (l1 l2 l3 : Int) (m : q_Mem) : q_Res :=
  k4 l1 l2 (l3 + 1) m
set_option maxRecDepth 20000 in
theorem w_Loop_edgeReads_b36 {t : Int} {k4 : Int → Int → Int → q_Mem → q_Res} {l1 l2 l3 : Int} {r : Int × q_Mem} {m : q_Mem} {N : Nat} (hN : 81 ≤ N) (ht : t ∈ q_Lp) (hk4 : ∀ (l1 l2 l3 : Int) (m : q_Mem), k4 l1 l2 l3 m = some r → q_E md_X2_edgeReads 2 N (some 0) r m 4 [q_A t, q_I l1, q_I l2, q_I l3] []) (h : f_Loop_edgeReads_b36 t k4 l1 l2 l3 m = some r) : q_E md_X2_edgeReads 2 N (some 0) r m 36 [q_A t, q_I l1, q_I l2, q_I l3] [] := by
  unfold f_Loop_edgeReads_b36 at h
  refine e_inc (M := md_X2_edgeReads) (pc := 36) (x := l3) (ls' := [q_A t, q_I l1, q_I l2, q_I (l3 + 1)]) dX2_edgeReads_36 rfl (by decide) (q_pl rfl) rfl ?_
  refine q_goto (M := md_X2_edgeReads) (pc := 39) (tgt := 4) dX2_edgeReads_39 (by decide) ?_
  exact q_weak (hk4 _ _ _ _  h) ⟨Or.inr rfl, Or.inr rfl, Or.inr rfl, Or.inr rfl, trivial⟩
def f_Loop_edgeReads_b4 (t : Int) (k4 : Int → Int → Int → q_Mem → q_Res) (l1 l2 l3 : Int) (m : q_Mem) : q_Res :=
  if q_w (m t 4) ≤ q_w l3 then (q_rt l2 m)
  else (q_rd m (t + 5) 12 l3 fun v1 =>
  q_rd m (t + 6) 12 l3 fun v2 =>
  q_bd (f_Loop_moved t l1 v1 v2 m) fun v3 m4 =>
  if q_w v3 = (-1) then (f_Loop_edgeReads_b36 t k4 l1 (l2 + 1) l3 m4)
  else (f_Loop_edgeReads_b36 t k4 l1 l2 l3 m4))
set_option maxRecDepth 20000 in
theorem w_Loop_edgeReads_b4 {t : Int} {k4 : Int → Int → Int → q_Mem → q_Res} {l1 l2 l3 : Int} {r : Int × q_Mem} {m : q_Mem} {N : Nat} (hN : 81 ≤ N) (ht : t ∈ q_Lp) (hk4 : ∀ (l1 l2 l3 : Int) (m : q_Mem), k4 l1 l2 l3 m = some r → q_E md_X2_edgeReads 2 N (some 0) r m 4 [q_A t, q_I l1, q_I l2, q_I l3] []) (h : f_Loop_edgeReads_b4 t k4 l1 l2 l3 m = some r) : q_E md_X2_edgeReads 2 N (some 0) r m 4 [q_A t, q_I l1, q_I l2, q_I l3] [] := by
  unfold f_Loop_edgeReads_b4 at h
  refine q_iload_n (M := md_X2_edgeReads) (pc := 4) dX2_edgeReads_4 rfl ?_
  refine q_aload_n (M := md_X2_edgeReads) (pc := 5) dX2_edgeReads_5 rfl (nn_Lp ht) ?_
  refine e_gI (M := md_X2_edgeReads) (pc := 6) (v := m t 4) fl_2_62 dX2_edgeReads_6 (is_Lp hN ht) rfl ?_
  refine e_icmp_ge (M := md_X2_edgeReads) (pc := 9) (tgt := 42) h rfl rfl dX2_edgeReads_9 (by decide) (fun h => ?_) (fun h => ?_)
  · refine q_iload_n (M := md_X2_edgeReads) (pc := 42) dX2_edgeReads_42 rfl ?_
    exact e_iret (M := md_X2_edgeReads) (pc := 43) h rfl dX2_edgeReads_43
  · refine q_aload_n (M := md_X2_edgeReads) (pc := 12) dX2_edgeReads_12 rfl (nn_Lp ht) ?_
    refine q_iload_n (M := md_X2_edgeReads) (pc := 13) dX2_edgeReads_13 rfl ?_
    refine q_aload_n (M := md_X2_edgeReads) (pc := 14) dX2_edgeReads_14 rfl (nn_Lp ht) ?_
    refine q_getP (M := md_X2_edgeReads) (pc := 15) (v := t + 5) fl_2_28 dX2_edgeReads_15 (is_Lp hN ht) (ph_Lp_12 ht) ?_
    refine q_iload_n (M := md_X2_edgeReads) (pc := 18) dX2_edgeReads_18 rfl ?_
    refine e_rd (M := md_X2_edgeReads) (pc := 19) h dX2_edgeReads_19 (ar_Lp_12 hN ht) (fun v1 h => ?_)
    refine q_aload_n (M := md_X2_edgeReads) (pc := 20) dX2_edgeReads_20 rfl (nn_Lp ht) ?_
    refine q_getP (M := md_X2_edgeReads) (pc := 21) (v := t + 6) fl_2_31 dX2_edgeReads_21 (is_Lp hN ht) (ph_Lp_13 ht) ?_
    refine q_iload_n (M := md_X2_edgeReads) (pc := 24) dX2_edgeReads_24 rfl ?_
    refine e_rd (M := md_X2_edgeReads) (pc := 25) h dX2_edgeReads_25 (ar_Lp_13 hN ht) (fun v2 h => ?_)
    refine e_callVi (M := md_X2_edgeReads) (pc := 26) (d' := 1) (av := [q_I l1, q_I v1, q_I v2]) (c := t) h ml_2_101 im_X2_moved se_X2_moved dX2_edgeReads_26 (fun v he => ok_X2_moved hN ht he) rfl (is_Lp hN ht) ⟨_, _, rfl⟩ (by decide) (Nat.le_of_ble_eq_true rfl) ⟨by decide, by decide⟩ rfl (fun v3 m4 h => ?_)
    refine q_iconst (M := md_X2_edgeReads) (pc := 29) dX2_edgeReads_29 ?_
    refine e_icmp_ne (M := md_X2_edgeReads) (pc := 30) (tgt := 36) h rfl (q_wlit rfl) dX2_edgeReads_30 (by decide) (fun h => ?_) (fun h => ?_)
    · exact q_weak (w_Loop_edgeReads_b36 hN ht hk4  h) ⟨Or.inr rfl, Or.inr rfl, Or.inr rfl, Or.inr rfl, trivial⟩
    · refine e_inc (M := md_X2_edgeReads) (pc := 33) (x := l2) (ls' := [q_A t, q_I l1, q_I (l2 + 1), q_I l3]) dX2_edgeReads_33 rfl (by decide) (q_pl rfl) rfl ?_
      exact q_weak (w_Loop_edgeReads_b36 hN ht hk4  h) ⟨Or.inr rfl, Or.inr rfl, Or.inr rfl, Or.inr rfl, trivial⟩
def f_Loop_edgeReads_l4 (t : Int) : Nat → Int → Int → Int → q_Mem → q_Res
  | 0 => fun _ _ _ _ => none
  | n + 1 => fun l1 l2 l3 m => f_Loop_edgeReads_b4 t (f_Loop_edgeReads_l4 t n) l1 l2 l3 m
theorem w_Loop_edgeReads_l4 {t : Int} {r : Int × q_Mem} {N : Nat} (hN : 81 ≤ N) (ht : t ∈ q_Lp) : ∀ (n : Nat) (l1 l2 l3 : Int) (m : q_Mem), f_Loop_edgeReads_l4 t n l1 l2 l3 m = some r → q_E md_X2_edgeReads 2 N (some 0) r m 4 [q_A t, q_I l1, q_I l2, q_I l3] [] := by
  intro n
  induction n with
  | zero => intro l1 l2 l3 m h; exact q_no h
  | succ n ih =>
    intro l1 l2 l3 m h
    exact w_Loop_edgeReads_b4 hN ht (fun l1 l2 l3 m h => ih l1 l2 l3 m h) h
def f_Loop_edgeReads (t l1 : Int) (m : q_Mem) : q_Res :=
  f_Loop_edgeReads_l4 t q_F l1 0 0 m
set_option maxRecDepth 20000 in
theorem ok_X2_edgeReads {t l1 : Int} {r : Int × q_Mem} {m : q_Mem} {N : Nat} (hN : 81 ≤ N) (ht : t ∈ q_Lp) (h : f_Loop_edgeReads t l1 m = some r) : q_C md_X2_edgeReads (q_room 2) 0 0 [q_A t, q_I l1] (q_g N) m (some (q_I r.1), q_g N, r.2) := by
  refine q_ofR (by decide) 2 (ls := [q_A t, q_I l1, q_N, q_N]) rfl (Nat.le_of_ble_eq_true rfl) ?_
  change q_E md_X2_edgeReads 2 N (some 0) r m 0 [q_A t, q_I l1, q_N, q_N] []
  unfold f_Loop_edgeReads at h
  refine q_iconst (M := md_X2_edgeReads) (pc := 0) dX2_edgeReads_0 ?_
  refine e_ist_n (M := md_X2_edgeReads) (pc := 1) (ls' := [q_A t, q_I l1, q_I 0, q_N]) dX2_edgeReads_1 (by decide) (q_pl rfl) rfl ?_
  refine q_iconst (M := md_X2_edgeReads) (pc := 2) dX2_edgeReads_2 ?_
  refine e_ist_n (M := md_X2_edgeReads) (pc := 3) (ls' := [q_A t, q_I l1, q_I 0, q_I 0]) dX2_edgeReads_3 (by decide) (q_pl rfl) rfl ?_
  exact q_weak (w_Loop_edgeReads_l4 hN ht q_F _ _ _ _  h) ⟨Or.inr rfl, Or.inr rfl, Or.inr rfl, Or.inr rfl, trivial⟩
def f_Loop_isLawful_b2 (t : Int) (k2 : Int → Int → Int → q_Mem → q_Res) (l1 l2 l3 : Int) (m : q_Mem) : q_Res :=
  if q_w (m t 5) ≤ q_w l3 then (q_rz 1 m)
  else (q_rd m (t + 2) 12 l3 fun v1 =>
  q_rd m (t + 3) 12 l3 fun v2 =>
  if q_w ((l1 * v1) + (l2 * v2)) < 0 then (k2 l1 l2 (l3 + 1) m)
  else (q_rz 0 m))
set_option maxRecDepth 20000 in
theorem w_Loop_isLawful_b2 {t : Int} {k2 : Int → Int → Int → q_Mem → q_Res} {l1 l2 l3 : Int} {r : Int × q_Mem} {m : q_Mem} {N : Nat} (hN : 81 ≤ N) (ht : t ∈ q_Lp) (hk2 : ∀ (l1 l2 l3 : Int) (m : q_Mem), k2 l1 l2 l3 m = some r → q_E md_X2_isLawful 1 N (some 0) r m 2 [q_A t, q_I l1, q_I l2, q_I l3] []) (h : f_Loop_isLawful_b2 t k2 l1 l2 l3 m = some r) : q_E md_X2_isLawful 1 N (some 0) r m 2 [q_A t, q_I l1, q_I l2, q_I l3] [] := by
  unfold f_Loop_isLawful_b2 at h
  refine q_iload_n (M := md_X2_isLawful) (pc := 2) dX2_isLawful_2 rfl ?_
  refine q_aload_n (M := md_X2_isLawful) (pc := 3) dX2_isLawful_3 rfl (nn_Lp ht) ?_
  refine e_gI (M := md_X2_isLawful) (pc := 4) (v := m t 5) fl_2_65 dX2_isLawful_4 (is_Lp hN ht) rfl ?_
  refine e_icmp_ge (M := md_X2_isLawful) (pc := 7) (tgt := 38) h rfl rfl dX2_isLawful_7 (by decide) (fun h => ?_) (fun h => ?_)
  · refine q_iconst (M := md_X2_isLawful) (pc := 38) dX2_isLawful_38 ?_
    exact e_zret (M := md_X2_isLawful) (pc := 39) h rfl dX2_isLawful_39
  · refine q_iload_n (M := md_X2_isLawful) (pc := 10) dX2_isLawful_10 rfl ?_
    refine q_aload_n (M := md_X2_isLawful) (pc := 11) dX2_isLawful_11 rfl (nn_Lp ht) ?_
    refine q_getP (M := md_X2_isLawful) (pc := 12) (v := t + 2) fl_2_18 dX2_isLawful_12 (is_Lp hN ht) (ph_Lp_9 ht) ?_
    refine q_iload_n (M := md_X2_isLawful) (pc := 15) dX2_isLawful_15 rfl ?_
    refine e_rd (M := md_X2_isLawful) (pc := 16) h dX2_isLawful_16 (ar_Lp_9 hN ht) (fun v1 h => ?_)
    refine q_imul (M := md_X2_isLawful) (pc := 17) dX2_isLawful_17 ?_
    refine q_iload_n (M := md_X2_isLawful) (pc := 18) dX2_isLawful_18 rfl ?_
    refine q_aload_n (M := md_X2_isLawful) (pc := 19) dX2_isLawful_19 rfl (nn_Lp ht) ?_
    refine q_getP (M := md_X2_isLawful) (pc := 20) (v := t + 3) fl_2_22 dX2_isLawful_20 (is_Lp hN ht) (ph_Lp_10 ht) ?_
    refine q_iload_n (M := md_X2_isLawful) (pc := 23) dX2_isLawful_23 rfl ?_
    refine e_rd (M := md_X2_isLawful) (pc := 24) h dX2_isLawful_24 (ar_Lp_10 hN ht) (fun v2 h => ?_)
    refine q_imul (M := md_X2_isLawful) (pc := 25) dX2_isLawful_25 ?_
    refine q_iadd (M := md_X2_isLawful) (pc := 26) dX2_isLawful_26 ?_
    refine e_if_lt (M := md_X2_isLawful) (pc := 27) (tgt := 32) h rfl dX2_isLawful_27 (by decide) (fun h => ?_) (fun h => ?_)
    · refine e_inc (M := md_X2_isLawful) (pc := 32) (x := l3) (ls' := [q_A t, q_I l1, q_I l2, q_I (l3 + 1)]) dX2_isLawful_32 rfl (by decide) (q_pl rfl) rfl ?_
      refine q_goto (M := md_X2_isLawful) (pc := 35) (tgt := 2) dX2_isLawful_35 (by decide) ?_
      exact q_weak (hk2 _ _ _ _  h) ⟨Or.inr rfl, Or.inr rfl, Or.inr rfl, Or.inr rfl, trivial⟩
    · refine q_iconst (M := md_X2_isLawful) (pc := 30) dX2_isLawful_30 ?_
      exact e_zret (M := md_X2_isLawful) (pc := 31) h rfl dX2_isLawful_31
def f_Loop_isLawful_l2 (t : Int) : Nat → Int → Int → Int → q_Mem → q_Res
  | 0 => fun _ _ _ _ => none
  | n + 1 => fun l1 l2 l3 m => f_Loop_isLawful_b2 t (f_Loop_isLawful_l2 t n) l1 l2 l3 m
theorem w_Loop_isLawful_l2 {t : Int} {r : Int × q_Mem} {N : Nat} (hN : 81 ≤ N) (ht : t ∈ q_Lp) : ∀ (n : Nat) (l1 l2 l3 : Int) (m : q_Mem), f_Loop_isLawful_l2 t n l1 l2 l3 m = some r → q_E md_X2_isLawful 1 N (some 0) r m 2 [q_A t, q_I l1, q_I l2, q_I l3] [] := by
  intro n
  induction n with
  | zero => intro l1 l2 l3 m h; exact q_no h
  | succ n ih =>
    intro l1 l2 l3 m h
    exact w_Loop_isLawful_b2 hN ht (fun l1 l2 l3 m h => ih l1 l2 l3 m h) h
def f_Loop_isLawful (t l1 l2 : Int) (m : q_Mem) : q_Res :=
  f_Loop_isLawful_l2 t q_F l1 l2 0 m
set_option maxRecDepth 20000 in
theorem ok_X2_isLawful {t l1 l2 : Int} {r : Int × q_Mem} {m : q_Mem} {N : Nat} (hN : 81 ≤ N) (ht : t ∈ q_Lp) (h : f_Loop_isLawful t l1 l2 m = some r) : q_C md_X2_isLawful (q_room 1) 0 0 [q_A t, q_I l1, q_I l2] (q_g N) m (some (q_I r.1), q_g N, r.2) := by
  refine q_ofR (by decide) 1 (ls := [q_A t, q_I l1, q_I l2, q_N]) rfl (Nat.le_of_ble_eq_true rfl) ?_
  change q_E md_X2_isLawful 1 N (some 0) r m 0 [q_A t, q_I l1, q_I l2, q_N] []
  unfold f_Loop_isLawful at h
  refine q_iconst (M := md_X2_isLawful) (pc := 0) dX2_isLawful_0 ?_
  refine e_ist_n (M := md_X2_isLawful) (pc := 1) (ls' := [q_A t, q_I l1, q_I l2, q_I 0]) dX2_isLawful_1 (by decide) (q_pl rfl) rfl ?_
  exact q_weak (w_Loop_isLawful_l2 hN ht q_F _ _ _ _  h) ⟨Or.inr rfl, Or.inr rfl, Or.inr rfl, Or.inr rfl, trivial⟩
def f_Loop_shifted (t l1 l2 : Int) (m : q_Mem) : q_Res :=
  q_rt ((q_max 0 ((m t 0) - (q_abs l1))) * (q_max 0 ((m t 1) - (q_abs l2)))) m
set_option maxRecDepth 20000 in
theorem ok_X2_shifted {t l1 l2 : Int} {r : Int × q_Mem} {m : q_Mem} {N : Nat} (hN : 81 ≤ N) (ht : t ∈ q_Lp) (h : f_Loop_shifted t l1 l2 m = some r) : q_C md_X2_shifted (q_room 1) 0 0 [q_A t, q_I l1, q_I l2] (q_g N) m (some (q_I r.1), q_g N, r.2) := by
  refine q_ofR (by decide) 0 (ls := [q_A t, q_I l1, q_I l2]) rfl (Nat.le_of_ble_eq_true rfl) ?_
  change q_E md_X2_shifted 1 N (some 0) r m 0 [q_A t, q_I l1, q_I l2] []
  unfold f_Loop_shifted at h
  refine q_iconst (M := md_X2_shifted) (pc := 0) dX2_shifted_0 ?_
  refine q_aload_n (M := md_X2_shifted) (pc := 1) dX2_shifted_1 rfl (nn_Lp ht) ?_
  refine e_gI (M := md_X2_shifted) (pc := 2) (v := m t 0) fl_2_49 dX2_shifted_2 (is_Lp hN ht) rfl ?_
  refine q_iload_n (M := md_X2_shifted) (pc := 5) dX2_shifted_5 rfl ?_
  refine e_abs (M := md_X2_shifted) (pc := 6) jl_2_111 dX2_shifted_6 (by decide) (Nat.le_of_ble_eq_true rfl) ?_
  refine q_isub (M := md_X2_shifted) (pc := 9) dX2_shifted_9 ?_
  refine e_max (M := md_X2_shifted) (pc := 10) jl_2_117 dX2_shifted_10 (by decide) (Nat.le_of_ble_eq_true rfl) ?_
  refine q_iconst (M := md_X2_shifted) (pc := 13) dX2_shifted_13 ?_
  refine q_aload_n (M := md_X2_shifted) (pc := 14) dX2_shifted_14 rfl (nn_Lp ht) ?_
  refine e_gI (M := md_X2_shifted) (pc := 15) (v := m t 1) fl_2_53 dX2_shifted_15 (is_Lp hN ht) rfl ?_
  refine q_iload_n (M := md_X2_shifted) (pc := 18) dX2_shifted_18 rfl ?_
  refine e_abs (M := md_X2_shifted) (pc := 19) jl_2_111 dX2_shifted_19 (by decide) (Nat.le_of_ble_eq_true rfl) ?_
  refine q_isub (M := md_X2_shifted) (pc := 22) dX2_shifted_22 ?_
  refine e_max (M := md_X2_shifted) (pc := 23) jl_2_117 dX2_shifted_23 (by decide) (Nat.le_of_ble_eq_true rfl) ?_
  refine q_imul (M := md_X2_shifted) (pc := 26) dX2_shifted_26 ?_
  exact e_iret (M := md_X2_shifted) (pc := 27) h rfl dX2_shifted_27
def f_Loop_latency (t l1 l2 : Int) (m : q_Mem) : q_Res :=
  q_rt ((((q_abs l1) * ((m t 0) - 1)) + ((q_abs l2) * ((m t 1) - 1))) + 1) m
set_option maxRecDepth 20000 in
theorem ok_X2_latency {t l1 l2 : Int} {r : Int × q_Mem} {m : q_Mem} {N : Nat} (hN : 81 ≤ N) (ht : t ∈ q_Lp) (h : f_Loop_latency t l1 l2 m = some r) : q_C md_X2_latency (q_room 1) 0 0 [q_A t, q_I l1, q_I l2] (q_g N) m (some (q_I r.1), q_g N, r.2) := by
  refine q_ofR (by decide) 0 (ls := [q_A t, q_I l1, q_I l2]) rfl (Nat.le_of_ble_eq_true rfl) ?_
  change q_E md_X2_latency 1 N (some 0) r m 0 [q_A t, q_I l1, q_I l2] []
  unfold f_Loop_latency at h
  refine q_iload_n (M := md_X2_latency) (pc := 0) dX2_latency_0 rfl ?_
  refine e_abs (M := md_X2_latency) (pc := 1) jl_2_111 dX2_latency_1 (by decide) (Nat.le_of_ble_eq_true rfl) ?_
  refine q_aload_n (M := md_X2_latency) (pc := 4) dX2_latency_4 rfl (nn_Lp ht) ?_
  refine e_gI (M := md_X2_latency) (pc := 5) (v := m t 0) fl_2_49 dX2_latency_5 (is_Lp hN ht) rfl ?_
  refine q_iconst (M := md_X2_latency) (pc := 8) dX2_latency_8 ?_
  refine q_isub (M := md_X2_latency) (pc := 9) dX2_latency_9 ?_
  refine q_imul (M := md_X2_latency) (pc := 10) dX2_latency_10 ?_
  refine q_iload_n (M := md_X2_latency) (pc := 11) dX2_latency_11 rfl ?_
  refine e_abs (M := md_X2_latency) (pc := 12) jl_2_111 dX2_latency_12 (by decide) (Nat.le_of_ble_eq_true rfl) ?_
  refine q_aload_n (M := md_X2_latency) (pc := 15) dX2_latency_15 rfl (nn_Lp ht) ?_
  refine e_gI (M := md_X2_latency) (pc := 16) (v := m t 1) fl_2_53 dX2_latency_16 (is_Lp hN ht) rfl ?_
  refine q_iconst (M := md_X2_latency) (pc := 19) dX2_latency_19 ?_
  refine q_isub (M := md_X2_latency) (pc := 20) dX2_latency_20 ?_
  refine q_imul (M := md_X2_latency) (pc := 21) dX2_latency_21 ?_
  refine q_iadd (M := md_X2_latency) (pc := 22) dX2_latency_22 ?_
  refine q_iconst (M := md_X2_latency) (pc := 23) dX2_latency_23 ?_
  refine q_iadd (M := md_X2_latency) (pc := 24) dX2_latency_24 ?_
  exact e_iret (M := md_X2_latency) (pc := 25) h rfl dX2_latency_25
def f_Loop_cells (t l1 l2 : Int) (m : q_Mem) : q_Res :=
  q_bd (f_Loop_points t m) fun v1 m2 =>
  q_bd (f_Loop_shifted t l1 l2 m2) fun v3 m4 =>
  q_rt (v1 - v3) m4
set_option maxRecDepth 20000 in
theorem ok_X2_cells {t l1 l2 : Int} {r : Int × q_Mem} {m : q_Mem} {N : Nat} (hN : 81 ≤ N) (ht : t ∈ q_Lp) (h : f_Loop_cells t l1 l2 m = some r) : q_C md_X2_cells (q_room 2) 0 0 [q_A t, q_I l1, q_I l2] (q_g N) m (some (q_I r.1), q_g N, r.2) := by
  refine q_ofR (by decide) 0 (ls := [q_A t, q_I l1, q_I l2]) rfl (Nat.le_of_ble_eq_true rfl) ?_
  change q_E md_X2_cells 2 N (some 0) r m 0 [q_A t, q_I l1, q_I l2] []
  unfold f_Loop_cells at h
  refine q_aload_n (M := md_X2_cells) (pc := 0) dX2_cells_0 rfl (nn_Lp ht) ?_
  refine e_callVi (M := md_X2_cells) (pc := 1) (d' := 1) (av := []) (c := t) h ml_2_120 im_X2_points se_X2_points dX2_cells_1 (fun v he => ok_X2_points hN ht he) rfl (is_Lp hN ht) ⟨_, _, rfl⟩ (by decide) (Nat.le_of_ble_eq_true rfl) ⟨by decide, by decide⟩ rfl (fun v1 m2 h => ?_)
  refine q_aload_n (M := md_X2_cells) (pc := 4) dX2_cells_4 rfl (nn_Lp ht) ?_
  refine q_iload_n (M := md_X2_cells) (pc := 5) dX2_cells_5 rfl ?_
  refine q_iload_n (M := md_X2_cells) (pc := 6) dX2_cells_6 rfl ?_
  refine e_callVi (M := md_X2_cells) (pc := 7) (d' := 1) (av := [q_I l1, q_I l2]) (c := t) h ml_2_124 im_X2_shifted se_X2_shifted dX2_cells_7 (fun v he => ok_X2_shifted hN ht he) rfl (is_Lp hN ht) ⟨_, _, rfl⟩ (by decide) (Nat.le_of_ble_eq_true rfl) ⟨by decide, by decide⟩ rfl (fun v3 m4 h => ?_)
  refine q_isub (M := md_X2_cells) (pc := 10) dX2_cells_10 ?_
  exact e_iret (M := md_X2_cells) (pc := 11) h rfl dX2_cells_11
def f_Loop_clashes (t l1 l2 l3 l4 : Int) (m : q_Mem) : q_Res :=
  if q_w ((l1 * l3) + (l2 * l4)) = 0 then (q_bd (f_Loop_shifted t l3 l4 m) fun v1 m2 =>
  q_rt v1 m2)
  else (q_rt 0 m)
set_option maxRecDepth 20000 in
theorem ok_X2_clashes {t l1 l2 l3 l4 : Int} {r : Int × q_Mem} {m : q_Mem} {N : Nat} (hN : 81 ≤ N) (ht : t ∈ q_Lp) (h : f_Loop_clashes t l1 l2 l3 l4 m = some r) : q_C md_X2_clashes (q_room 2) 0 0 [q_A t, q_I l1, q_I l2, q_I l3, q_I l4] (q_g N) m (some (q_I r.1), q_g N, r.2) := by
  refine q_ofR (by decide) 0 (ls := [q_A t, q_I l1, q_I l2, q_I l3, q_I l4]) rfl (Nat.le_of_ble_eq_true rfl) ?_
  change q_E md_X2_clashes 2 N (some 0) r m 0 [q_A t, q_I l1, q_I l2, q_I l3, q_I l4] []
  unfold f_Loop_clashes at h
  refine q_iload_n (M := md_X2_clashes) (pc := 0) dX2_clashes_0 rfl ?_
  refine q_iload_n (M := md_X2_clashes) (pc := 1) dX2_clashes_1 rfl ?_
  refine q_imul (M := md_X2_clashes) (pc := 2) dX2_clashes_2 ?_
  refine q_iload_n (M := md_X2_clashes) (pc := 3) dX2_clashes_3 rfl ?_
  refine q_iload (M := md_X2_clashes) (pc := 4) dX2_clashes_4 rfl ?_
  refine q_imul (M := md_X2_clashes) (pc := 6) dX2_clashes_6 ?_
  refine q_iadd (M := md_X2_clashes) (pc := 7) dX2_clashes_7 ?_
  refine e_if_ne (M := md_X2_clashes) (pc := 8) (tgt := 21) h rfl dX2_clashes_8 (by decide) (fun h => ?_) (fun h => ?_)
  · refine q_iconst (M := md_X2_clashes) (pc := 21) dX2_clashes_21 ?_
    exact e_iret (M := md_X2_clashes) (pc := 22) h rfl dX2_clashes_22
  · refine q_aload_n (M := md_X2_clashes) (pc := 11) dX2_clashes_11 rfl (nn_Lp ht) ?_
    refine q_iload_n (M := md_X2_clashes) (pc := 12) dX2_clashes_12 rfl ?_
    refine q_iload (M := md_X2_clashes) (pc := 13) dX2_clashes_13 rfl ?_
    refine e_callVi (M := md_X2_clashes) (pc := 15) (d' := 1) (av := [q_I l3, q_I l4]) (c := t) h ml_2_124 im_X2_shifted se_X2_shifted dX2_clashes_15 (fun v he => ok_X2_shifted hN ht he) rfl (is_Lp hN ht) ⟨_, _, rfl⟩ (by decide) (Nat.le_of_ble_eq_true rfl) ⟨by decide, by decide⟩ rfl (fun v1 m2 h => ?_)
    refine q_goto (M := md_X2_clashes) (pc := 18) (tgt := 22) dX2_clashes_18 (by decide) ?_
    exact e_iret (M := md_X2_clashes) (pc := 22) h rfl dX2_clashes_22
def f_Tape_kindOf_b28 (l0 : Int) (m : q_Mem) : q_Res :=
  if q_w l0 = 10 then (q_rt 2 m)
  else if q_w l0 = 32 then (q_rt 2 m)
  else if q_w l0 = 40 then (q_rt l0 m)
  else if q_w l0 = 41 then (q_rt l0 m)
  else if q_w l0 = 42 then (q_rt l0 m)
  else if q_w l0 = 43 then (q_rt l0 m)
  else if q_w l0 = 44 then (q_rt l0 m)
  else if q_w l0 = 45 then (q_rt l0 m)
  else if q_w l0 = 59 then (q_rt l0 m)
  else if q_w l0 = 60 then (q_rt l0 m)
  else if q_w l0 = 61 then (q_rt l0 m)
  else if q_w l0 = 62 then (q_rt l0 m)
  else (q_rt 1 m)
set_option maxRecDepth 20000 in
theorem w_Tape_kindOf_b28 {l0 : Int} {r : Int × q_Mem} {m : q_Mem} {N : Nat} (hN : 81 ≤ N) (h : f_Tape_kindOf_b28 l0 m = some r) : q_E md_X7_kindOf 1 N (some 0) r m 28 [q_I l0] [] := by
  unfold f_Tape_kindOf_b28 at h
  refine q_iload_n (M := md_X7_kindOf) (pc := 28) dX7_kindOf_28 rfl ?_
  by_cases c1 : q_w l0 = 10
  · rw [if_pos c1] at h
    refine q_lookup (M := md_X7_kindOf) (pc := 29) (tgt := 136) dX7_kindOf_29 (by decide) (by rw [c1] <;> decide) (by decide) ?_
    refine q_iconst (M := md_X7_kindOf) (pc := 136) dX7_kindOf_136 ?_
    exact e_iret (M := md_X7_kindOf) (pc := 137) h rfl dX7_kindOf_137
  rw [if_neg c1] at h
  by_cases c2 : q_w l0 = 32
  · rw [if_pos c2] at h
    refine q_lookup (M := md_X7_kindOf) (pc := 29) (tgt := 136) dX7_kindOf_29 (by decide) (by rw [c2] <;> decide) (by decide) ?_
    refine q_iconst (M := md_X7_kindOf) (pc := 136) dX7_kindOf_136 ?_
    exact e_iret (M := md_X7_kindOf) (pc := 137) h rfl dX7_kindOf_137
  rw [if_neg c2] at h
  by_cases c3 : q_w l0 = 40
  · rw [if_pos c3] at h
    refine q_lookup (M := md_X7_kindOf) (pc := 29) (tgt := 138) dX7_kindOf_29 (by decide) (by rw [c3] <;> decide) (by decide) ?_
    refine q_iload_n (M := md_X7_kindOf) (pc := 138) dX7_kindOf_138 rfl ?_
    exact e_iret (M := md_X7_kindOf) (pc := 139) h rfl dX7_kindOf_139
  rw [if_neg c3] at h
  by_cases c4 : q_w l0 = 41
  · rw [if_pos c4] at h
    refine q_lookup (M := md_X7_kindOf) (pc := 29) (tgt := 138) dX7_kindOf_29 (by decide) (by rw [c4] <;> decide) (by decide) ?_
    refine q_iload_n (M := md_X7_kindOf) (pc := 138) dX7_kindOf_138 rfl ?_
    exact e_iret (M := md_X7_kindOf) (pc := 139) h rfl dX7_kindOf_139
  rw [if_neg c4] at h
  by_cases c5 : q_w l0 = 42
  · rw [if_pos c5] at h
    refine q_lookup (M := md_X7_kindOf) (pc := 29) (tgt := 140) dX7_kindOf_29 (by decide) (by rw [c5] <;> decide) (by decide) ?_
    refine q_iload_n (M := md_X7_kindOf) (pc := 140) dX7_kindOf_140 rfl ?_
    exact e_iret (M := md_X7_kindOf) (pc := 141) h rfl dX7_kindOf_141
  rw [if_neg c5] at h
  by_cases c6 : q_w l0 = 43
  · rw [if_pos c6] at h
    refine q_lookup (M := md_X7_kindOf) (pc := 29) (tgt := 140) dX7_kindOf_29 (by decide) (by rw [c6] <;> decide) (by decide) ?_
    refine q_iload_n (M := md_X7_kindOf) (pc := 140) dX7_kindOf_140 rfl ?_
    exact e_iret (M := md_X7_kindOf) (pc := 141) h rfl dX7_kindOf_141
  rw [if_neg c6] at h
  by_cases c7 : q_w l0 = 44
  · rw [if_pos c7] at h
    refine q_lookup (M := md_X7_kindOf) (pc := 29) (tgt := 138) dX7_kindOf_29 (by decide) (by rw [c7] <;> decide) (by decide) ?_
    refine q_iload_n (M := md_X7_kindOf) (pc := 138) dX7_kindOf_138 rfl ?_
    exact e_iret (M := md_X7_kindOf) (pc := 139) h rfl dX7_kindOf_139
  rw [if_neg c7] at h
  by_cases c8 : q_w l0 = 45
  · rw [if_pos c8] at h
    refine q_lookup (M := md_X7_kindOf) (pc := 29) (tgt := 140) dX7_kindOf_29 (by decide) (by rw [c8] <;> decide) (by decide) ?_
    refine q_iload_n (M := md_X7_kindOf) (pc := 140) dX7_kindOf_140 rfl ?_
    exact e_iret (M := md_X7_kindOf) (pc := 141) h rfl dX7_kindOf_141
  rw [if_neg c8] at h
  by_cases c9 : q_w l0 = 59
  · rw [if_pos c9] at h
    refine q_lookup (M := md_X7_kindOf) (pc := 29) (tgt := 138) dX7_kindOf_29 (by decide) (by rw [c9] <;> decide) (by decide) ?_
    refine q_iload_n (M := md_X7_kindOf) (pc := 138) dX7_kindOf_138 rfl ?_
    exact e_iret (M := md_X7_kindOf) (pc := 139) h rfl dX7_kindOf_139
  rw [if_neg c9] at h
  by_cases c10 : q_w l0 = 60
  · rw [if_pos c10] at h
    refine q_lookup (M := md_X7_kindOf) (pc := 29) (tgt := 140) dX7_kindOf_29 (by decide) (by rw [c10] <;> decide) (by decide) ?_
    refine q_iload_n (M := md_X7_kindOf) (pc := 140) dX7_kindOf_140 rfl ?_
    exact e_iret (M := md_X7_kindOf) (pc := 141) h rfl dX7_kindOf_141
  rw [if_neg c10] at h
  by_cases c11 : q_w l0 = 61
  · rw [if_pos c11] at h
    refine q_lookup (M := md_X7_kindOf) (pc := 29) (tgt := 138) dX7_kindOf_29 (by decide) (by rw [c11] <;> decide) (by decide) ?_
    refine q_iload_n (M := md_X7_kindOf) (pc := 138) dX7_kindOf_138 rfl ?_
    exact e_iret (M := md_X7_kindOf) (pc := 139) h rfl dX7_kindOf_139
  rw [if_neg c11] at h
  by_cases c12 : q_w l0 = 62
  · rw [if_pos c12] at h
    refine q_lookup (M := md_X7_kindOf) (pc := 29) (tgt := 140) dX7_kindOf_29 (by decide) (by rw [c12] <;> decide) (by decide) ?_
    refine q_iload_n (M := md_X7_kindOf) (pc := 140) dX7_kindOf_140 rfl ?_
    exact e_iret (M := md_X7_kindOf) (pc := 141) h rfl dX7_kindOf_141
  rw [if_neg c12] at h
  refine q_lookup (M := md_X7_kindOf) (pc := 29) (tgt := 142) (off := 113) dX7_kindOf_29 (by decide) (by simp [Op.lookupswitch.offset, Ne.symm c1, Ne.symm c2, Ne.symm c3, Ne.symm c4, Ne.symm c5, Ne.symm c6, Ne.symm c7, Ne.symm c8, Ne.symm c9, Ne.symm c10, Ne.symm c11, Ne.symm c12]) (by decide) ?_
  refine q_iconst (M := md_X7_kindOf) (pc := 142) dX7_kindOf_142 ?_
  exact e_iret (M := md_X7_kindOf) (pc := 143) h rfl dX7_kindOf_143
def f_Tape_kindOf_b14 (l0 : Int) (m : q_Mem) : q_Res :=
  if q_w l0 < 48 then (f_Tape_kindOf_b28 l0 m)
  else (if 57 < q_w l0 then (f_Tape_kindOf_b28 l0 m)
  else (q_rt 4 m))
set_option maxRecDepth 20000 in
theorem w_Tape_kindOf_b14 {l0 : Int} {r : Int × q_Mem} {m : q_Mem} {N : Nat} (hN : 81 ≤ N) (h : f_Tape_kindOf_b14 l0 m = some r) : q_E md_X7_kindOf 1 N (some 0) r m 14 [q_I l0] [] := by
  unfold f_Tape_kindOf_b14 at h
  refine q_iload_n (M := md_X7_kindOf) (pc := 14) dX7_kindOf_14 rfl ?_
  refine q_bipush (M := md_X7_kindOf) (pc := 15) (x := 48) dX7_kindOf_15 (by decide) ?_
  refine e_icmp_lt (M := md_X7_kindOf) (pc := 17) (tgt := 28) h rfl (q_wlit rfl) dX7_kindOf_17 (by decide) (fun h => ?_) (fun h => ?_)
  · exact q_weak (w_Tape_kindOf_b28 hN  h) ⟨Or.inr rfl, trivial⟩
  · refine q_iload_n (M := md_X7_kindOf) (pc := 20) dX7_kindOf_20 rfl ?_
    refine q_bipush (M := md_X7_kindOf) (pc := 21) (x := 57) dX7_kindOf_21 (by decide) ?_
    refine e_icmp_gt (M := md_X7_kindOf) (pc := 23) (tgt := 28) h rfl (q_wlit rfl) dX7_kindOf_23 (by decide) (fun h => ?_) (fun h => ?_)
    · exact q_weak (w_Tape_kindOf_b28 hN  h) ⟨Or.inr rfl, trivial⟩
    · refine q_iconst (M := md_X7_kindOf) (pc := 26) dX7_kindOf_26 ?_
      exact e_iret (M := md_X7_kindOf) (pc := 27) h rfl dX7_kindOf_27
def f_Tape_kindOf (l0 : Int) (m : q_Mem) : q_Res :=
  if q_w l0 < 97 then (f_Tape_kindOf_b14 l0 m)
  else (if 122 < q_w l0 then (f_Tape_kindOf_b14 l0 m)
  else (q_rt 3 m))
set_option maxRecDepth 20000 in
theorem ok_X7_kindOf {l0 : Int} {r : Int × q_Mem} {m : q_Mem} {N : Nat} (hN : 81 ≤ N) (h : f_Tape_kindOf l0 m = some r) : q_C md_X7_kindOf (q_room 1) 0 0 [q_I l0] (q_g N) m (some (q_I r.1), q_g N, r.2) := by
  refine q_ofR (by decide) 0 (ls := [q_I l0]) rfl (Nat.le_of_ble_eq_true rfl) ?_
  change q_E md_X7_kindOf 1 N (some 0) r m 0 [q_I l0] []
  unfold f_Tape_kindOf at h
  refine q_iload_n (M := md_X7_kindOf) (pc := 0) dX7_kindOf_0 rfl ?_
  refine q_bipush (M := md_X7_kindOf) (pc := 1) (x := 97) dX7_kindOf_1 (by decide) ?_
  refine e_icmp_lt (M := md_X7_kindOf) (pc := 3) (tgt := 14) h rfl (q_wlit rfl) dX7_kindOf_3 (by decide) (fun h => ?_) (fun h => ?_)
  · exact q_weak (w_Tape_kindOf_b14 hN  h) ⟨Or.inr rfl, trivial⟩
  · refine q_iload_n (M := md_X7_kindOf) (pc := 6) dX7_kindOf_6 rfl ?_
    refine q_bipush (M := md_X7_kindOf) (pc := 7) (x := 122) dX7_kindOf_7 (by decide) ?_
    refine e_icmp_gt (M := md_X7_kindOf) (pc := 9) (tgt := 14) h rfl (q_wlit rfl) dX7_kindOf_9 (by decide) (fun h => ?_) (fun h => ?_)
    · exact q_weak (w_Tape_kindOf_b14 hN  h) ⟨Or.inr rfl, trivial⟩
    · refine q_iconst (M := md_X7_kindOf) (pc := 12) dX7_kindOf_12 ?_
      exact e_iret (M := md_X7_kindOf) (pc := 13) h rfl dX7_kindOf_13
def f_Tape_digits_b40 (k7 : Int → Int → q_Mem → q_Res) (l2 s0 : Int) (m : q_Mem) : q_Res :=
  k7 s0 (l2 + 1) m
set_option maxRecDepth 20000 in
theorem w_Tape_digits_b40 {k7 : Int → Int → q_Mem → q_Res} {l2 s0 : Int} {r : Int × q_Mem} {m : q_Mem} {N : Nat} (hN : 81 ≤ N) (hk7 : ∀ (l1 l2 : Int) (m : q_Mem), k7 l1 l2 m = some r → q_E md_X7_digits 1 N (some 0) r m 7 [q_A 1, q_I l1, q_I l2] []) (h : f_Tape_digits_b40 k7 l2 s0 m = some r) : q_E md_X7_digits 1 N (some 0) r m 40 [q_A 1, q_N, q_I l2] [q_I s0] := by
  unfold f_Tape_digits_b40 at h
  refine e_ist_n (M := md_X7_digits) (pc := 40) (ls' := [q_A 1, q_I s0, q_I l2]) dX7_digits_40 (by decide) (q_pl rfl) rfl ?_
  refine e_inc (M := md_X7_digits) (pc := 41) (x := l2) (ls' := [q_A 1, q_I s0, q_I (l2 + 1)]) dX7_digits_41 rfl (by decide) (q_pl rfl) rfl ?_
  refine q_goto (M := md_X7_digits) (pc := 44) (tgt := 7) dX7_digits_44 (by decide) ?_
  exact q_weak (hk7 _ _ _  h) ⟨Or.inr rfl, Or.inr rfl, Or.inr rfl, trivial⟩
def f_Tape_digits_b7 (k7 : Int → Int → q_Mem → q_Res) (l1 l2 : Int) (m : q_Mem) : q_Res :=
  if q_w (m 1 4) ≤ q_w l2 then (q_rt l1 m)
  else (if 100000 ≤ q_w l1 then (f_Tape_digits_b40 k7 l2 100000 m)
  else (q_rd m 2 800 l2 fun v1 =>
  f_Tape_digits_b40 k7 l2 (((l1 * 10) + v1) - 48) m))
set_option maxRecDepth 20000 in
theorem w_Tape_digits_b7 {k7 : Int → Int → q_Mem → q_Res} {l1 l2 : Int} {r : Int × q_Mem} {m : q_Mem} {N : Nat} (hN : 81 ≤ N) (hk7 : ∀ (l1 l2 : Int) (m : q_Mem), k7 l1 l2 m = some r → q_E md_X7_digits 1 N (some 0) r m 7 [q_A 1, q_I l1, q_I l2] []) (h : f_Tape_digits_b7 k7 l1 l2 m = some r) : q_E md_X7_digits 1 N (some 0) r m 7 [q_A 1, q_I l1, q_I l2] [] := by
  unfold f_Tape_digits_b7 at h
  refine q_iload_n (M := md_X7_digits) (pc := 7) dX7_digits_7 rfl ?_
  refine q_aload_n (M := md_X7_digits) (pc := 8) dX7_digits_8 rfl (by decide) ?_
  refine e_gI (M := md_X7_digits) (pc := 9) (v := m 1 4) fl_7_17 dX7_digits_9 (is_1 hN) rfl ?_
  refine e_icmp_ge (M := md_X7_digits) (pc := 12) (tgt := 47) h rfl rfl dX7_digits_12 (by decide) (fun h => ?_) (fun h => ?_)
  · refine q_iload_n (M := md_X7_digits) (pc := 47) dX7_digits_47 rfl ?_
    exact e_iret (M := md_X7_digits) (pc := 48) h rfl dX7_digits_48
  · refine q_iload_n (M := md_X7_digits) (pc := 15) dX7_digits_15 rfl ?_
    refine q_ldc (M := md_X7_digits) (pc := 16) (x := 100000) dX7_digits_16 co_7_40 (by decide) ?_
    refine e_icmp_ge (M := md_X7_digits) (pc := 18) (tgt := 38) h rfl (q_wlit rfl) dX7_digits_18 (by decide) (fun h => ?_) (fun h => ?_)
    · refine q_ldc (M := md_X7_digits) (pc := 38) (x := 100000) dX7_digits_38 co_7_40 (by decide) ?_
      exact q_weak (w_Tape_digits_b40 hN hk7  h) ⟨Or.inr rfl, Or.inl rfl, Or.inr rfl, trivial⟩
    · refine q_iload_n (M := md_X7_digits) (pc := 21) dX7_digits_21 rfl ?_
      refine q_bipush (M := md_X7_digits) (pc := 22) (x := 10) dX7_digits_22 (by decide) ?_
      refine q_imul (M := md_X7_digits) (pc := 24) dX7_digits_24 ?_
      refine q_aload_n (M := md_X7_digits) (pc := 25) dX7_digits_25 rfl (by decide) ?_
      refine q_getP (M := md_X7_digits) (pc := 26) (v := 2) fl_7_9 dX7_digits_26 (is_1 hN) rfl ?_
      refine q_iload_n (M := md_X7_digits) (pc := 29) dX7_digits_29 rfl ?_
      refine e_rdb (M := md_X7_digits) (pc := 30) h dX7_digits_30 (ar_2 hN) (fun v1 h => ?_)
      refine q_iadd (M := md_X7_digits) (pc := 31) dX7_digits_31 ?_
      refine q_bipush (M := md_X7_digits) (pc := 32) (x := 48) dX7_digits_32 (by decide) ?_
      refine q_isub (M := md_X7_digits) (pc := 34) dX7_digits_34 ?_
      refine q_goto (M := md_X7_digits) (pc := 35) (tgt := 40) dX7_digits_35 (by decide) ?_
      exact q_weak (w_Tape_digits_b40 hN hk7  h) ⟨Or.inr rfl, Or.inl rfl, Or.inr rfl, trivial⟩
def f_Tape_digits_l7 : Nat → Int → Int → q_Mem → q_Res
  | 0 => fun _ _ _ => none
  | n + 1 => fun l1 l2 m => f_Tape_digits_b7 (f_Tape_digits_l7 n) l1 l2 m
theorem w_Tape_digits_l7 {r : Int × q_Mem} {N : Nat} (hN : 81 ≤ N) : ∀ (n : Nat) (l1 l2 : Int) (m : q_Mem), f_Tape_digits_l7 n l1 l2 m = some r → q_E md_X7_digits 1 N (some 0) r m 7 [q_A 1, q_I l1, q_I l2] [] := by
  intro n
  induction n with
  | zero => intro l1 l2 m h; exact q_no h
  | succ n ih =>
    intro l1 l2 m h
    exact w_Tape_digits_b7 hN (fun l1 l2 m h => ih l1 l2 m h) h
def f_Tape_digits (m : q_Mem) : q_Res :=
  f_Tape_digits_l7 q_F 0 (m 1 3) m
set_option maxRecDepth 20000 in
theorem ok_X7_digits {r : Int × q_Mem} {m : q_Mem} {N : Nat} (hN : 81 ≤ N) (h : f_Tape_digits m = some r) : q_C md_X7_digits (q_room 1) 0 0 [q_A 1] (q_g N) m (some (q_I r.1), q_g N, r.2) := by
  refine q_ofR (by decide) 2 (ls := [q_A 1, q_N, q_N]) rfl (Nat.le_of_ble_eq_true rfl) ?_
  change q_E md_X7_digits 1 N (some 0) r m 0 [q_A 1, q_N, q_N] []
  unfold f_Tape_digits at h
  refine q_iconst (M := md_X7_digits) (pc := 0) dX7_digits_0 ?_
  refine e_ist_n (M := md_X7_digits) (pc := 1) (ls' := [q_A 1, q_I 0, q_N]) dX7_digits_1 (by decide) (q_pl rfl) rfl ?_
  refine q_aload_n (M := md_X7_digits) (pc := 2) dX7_digits_2 rfl (by decide) ?_
  refine e_gI (M := md_X7_digits) (pc := 3) (v := m 1 3) fl_7_27 dX7_digits_3 (is_1 hN) rfl ?_
  refine e_ist_n (M := md_X7_digits) (pc := 6) (ls' := [q_A 1, q_I 0, q_I (m 1 3)]) dX7_digits_6 (by decide) (q_pl rfl) rfl ?_
  exact q_weak (w_Tape_digits_l7 hN q_F _ _ _  h) ⟨Or.inr rfl, Or.inr rfl, Or.inr rfl, trivial⟩
def f_Tape_step_b177 (s1 : Int) (m : q_Mem) : q_Res :=
  q_pf m 1 5 s1 fun m1 =>
  q_rt 0 m1
set_option maxRecDepth 20000 in
theorem w_Tape_step_b177 {s1 : Int} {r : Int × q_Mem} {m : q_Mem} {N : Nat} (hN : 81 ≤ N) (h : f_Tape_step_b177 s1 m = some r) : q_E md_X7_step 2 N (none) r m 177 [q_N, q_N] [q_I s1, q_A 1] := by
  unfold f_Tape_step_b177 at h
  refine e_pfI (M := md_X7_step) (pc := 177) h fl_7_37 dX7_step_177 (is_1 hN) rfl (fun m1 h => ?_)
  exact e_vret (M := md_X7_step) (pc := 180) h rfl dX7_step_180
def f_Tape_step_b160 (m : q_Mem) : q_Res :=
  if q_w (m 1 2) = 4 then (q_bd (f_Tape_digits m) fun v1 m2 =>
  f_Tape_step_b177 v1 m2)
  else (f_Tape_step_b177 0 m)
set_option maxRecDepth 20000 in
theorem w_Tape_step_b160 {r : Int × q_Mem} {m : q_Mem} {N : Nat} (hN : 81 ≤ N) (h : f_Tape_step_b160 m = some r) : q_E md_X7_step 2 N (none) r m 160 [q_A 1, q_N] [] := by
  unfold f_Tape_step_b160 at h
  refine q_aload_n (M := md_X7_step) (pc := 160) dX7_step_160 rfl (by decide) ?_
  refine q_aload_n (M := md_X7_step) (pc := 161) dX7_step_161 rfl (by decide) ?_
  refine e_gI (M := md_X7_step) (pc := 162) (v := m 1 2) fl_7_30 dX7_step_162 (is_1 hN) rfl ?_
  refine q_iconst (M := md_X7_step) (pc := 165) dX7_step_165 ?_
  refine e_icmp_ne (M := md_X7_step) (pc := 166) (tgt := 176) h rfl (q_wlit rfl) dX7_step_166 (by decide) (fun h => ?_) (fun h => ?_)
  · refine q_iconst (M := md_X7_step) (pc := 176) dX7_step_176 ?_
    exact q_weak (w_Tape_step_b177 hN  h) ⟨Or.inl rfl, Or.inl rfl, trivial⟩
  · refine q_aload_n (M := md_X7_step) (pc := 169) dX7_step_169 rfl (by decide) ?_
    refine e_callVi (M := md_X7_step) (pc := 170) (d' := 1) (av := []) (c := 1) h ml_7_33 im_X7_digits se_X7_digits dX7_step_170 (fun v he => ok_X7_digits hN  he) rfl (is_1 hN) ⟨_, _, rfl⟩ (by decide) (Nat.le_of_ble_eq_true rfl) ⟨by decide, by decide⟩ rfl (fun v1 m2 h => ?_)
    refine q_goto (M := md_X7_step) (pc := 173) (tgt := 177) dX7_step_173 (by decide) ?_
    exact q_weak (w_Tape_step_b177 hN  h) ⟨Or.inl rfl, Or.inl rfl, trivial⟩
def f_Tape_step_b113 (k113 : Int → q_Mem → q_Res) (l1 : Int) (m : q_Mem) : q_Res :=
  if q_w l1 = 0 then (f_Tape_step_b160 m)
  else (if q_w (m 1 1) ≤ q_w (m 1 4) then (f_Tape_step_b160 m)
  else (q_rd m 2 800 (m 1 4) fun v1 =>
  q_bd (f_Tape_kindOf v1 m) fun v2 m3 =>
  if q_w v2 = q_w (m3 1 2) then (q_pf m3 1 4 ((m3 1 4) + 1) fun m4 =>
  k113 l1 m4)
  else (f_Tape_step_b160 m3)))
set_option maxRecDepth 20000 in
theorem w_Tape_step_b113 {k113 : Int → q_Mem → q_Res} {l1 : Int} {r : Int × q_Mem} {m : q_Mem} {N : Nat} (hN : 81 ≤ N) (hk113 : ∀ (l1 : Int) (m : q_Mem), k113 l1 m = some r → q_E md_X7_step 2 N (none) r m 113 [q_A 1, q_I l1] []) (h : f_Tape_step_b113 k113 l1 m = some r) : q_E md_X7_step 2 N (none) r m 113 [q_A 1, q_I l1] [] := by
  unfold f_Tape_step_b113 at h
  refine q_iload_n (M := md_X7_step) (pc := 113) dX7_step_113 rfl ?_
  refine e_if_eq (M := md_X7_step) (pc := 114) (tgt := 160) h rfl dX7_step_114 (by decide) (fun h => ?_) (fun h => ?_)
  · exact q_weak (w_Tape_step_b160 hN  h) ⟨Or.inr rfl, Or.inl rfl, trivial⟩
  · refine q_aload_n (M := md_X7_step) (pc := 117) dX7_step_117 rfl (by decide) ?_
    refine e_gI (M := md_X7_step) (pc := 118) (v := m 1 4) fl_7_17 dX7_step_118 (is_1 hN) rfl ?_
    refine q_aload_n (M := md_X7_step) (pc := 121) dX7_step_121 rfl (by decide) ?_
    refine e_gI (M := md_X7_step) (pc := 122) (v := m 1 1) fl_7_13 dX7_step_122 (is_1 hN) rfl ?_
    refine e_icmp_ge (M := md_X7_step) (pc := 125) (tgt := 160) h rfl rfl dX7_step_125 (by decide) (fun h => ?_) (fun h => ?_)
    · exact q_weak (w_Tape_step_b160 hN  h) ⟨Or.inr rfl, Or.inl rfl, trivial⟩
    · refine q_aload_n (M := md_X7_step) (pc := 128) dX7_step_128 rfl (by decide) ?_
      refine q_getP (M := md_X7_step) (pc := 129) (v := 2) fl_7_9 dX7_step_129 (is_1 hN) rfl ?_
      refine q_aload_n (M := md_X7_step) (pc := 132) dX7_step_132 rfl (by decide) ?_
      refine e_gI (M := md_X7_step) (pc := 133) (v := m 1 4) fl_7_17 dX7_step_133 (is_1 hN) rfl ?_
      refine e_rdb (M := md_X7_step) (pc := 136) h dX7_step_136 (ar_2 hN) (fun v1 h => ?_)
      refine e_callSi (M := md_X7_step) (pc := 137) (d' := 1) (M' := md_X7_kindOf) (av := [q_I v1]) h ml_7_23 sm_X7_kindOf dX7_step_137 (fun v he => ok_X7_kindOf hN  he) rfl (Nat.le_of_ble_eq_true rfl) ⟨by decide, by decide⟩ rfl (fun v2 m3 h => ?_)
      refine q_aload_n (M := md_X7_step) (pc := 140) dX7_step_140 rfl (by decide) ?_
      refine e_gI (M := md_X7_step) (pc := 141) (v := m3 1 2) fl_7_30 dX7_step_141 (is_1 hN) rfl ?_
      refine e_icmp_ne (M := md_X7_step) (pc := 144) (tgt := 160) h rfl rfl dX7_step_144 (by decide) (fun h => ?_) (fun h => ?_)
      · exact q_weak (w_Tape_step_b160 hN  h) ⟨Or.inr rfl, Or.inl rfl, trivial⟩
      · refine q_aload_n (M := md_X7_step) (pc := 147) dX7_step_147 rfl (by decide) ?_
        refine q_dup (M := md_X7_step) (pc := 148) dX7_step_148 (show (2 : Nat) ≠ 1 by decide) ?_
        refine e_gI (M := md_X7_step) (pc := 149) (v := m3 1 4) fl_7_17 dX7_step_149 (is_1 hN) rfl ?_
        refine q_iconst (M := md_X7_step) (pc := 152) dX7_step_152 ?_
        refine q_iadd (M := md_X7_step) (pc := 153) dX7_step_153 ?_
        refine e_pfI (M := md_X7_step) (pc := 154) h fl_7_17 dX7_step_154 (is_1 hN) rfl (fun m4 h => ?_)
        refine q_goto (M := md_X7_step) (pc := 157) (tgt := 113) dX7_step_157 (by decide) ?_
        exact q_weak (hk113 _ _  h) ⟨Or.inr rfl, Or.inr rfl, trivial⟩
def f_Tape_step_l113 : Nat → Int → q_Mem → q_Res
  | 0 => fun _ _ => none
  | n + 1 => fun l1 m => f_Tape_step_b113 (f_Tape_step_l113 n) l1 m
theorem w_Tape_step_l113 {r : Int × q_Mem} {N : Nat} (hN : 81 ≤ N) : ∀ (n : Nat) (l1 : Int) (m : q_Mem), f_Tape_step_l113 n l1 m = some r → q_E md_X7_step 2 N (none) r m 113 [q_A 1, q_I l1] [] := by
  intro n
  induction n with
  | zero => intro l1 m h; exact q_no h
  | succ n ih =>
    intro l1 m h
    exact w_Tape_step_b113 hN (fun l1 m h => ih l1 m h) h
def f_Tape_step_b102 (s0 : Int) (m : q_Mem) : q_Res :=
  q_pf m 1 4 ((m 1 4) + 1) fun m1 =>
  f_Tape_step_l113 q_F s0 m1
set_option maxRecDepth 20000 in
theorem w_Tape_step_b102 {s0 : Int} {r : Int × q_Mem} {m : q_Mem} {N : Nat} (hN : 81 ≤ N) (h : f_Tape_step_b102 s0 m = some r) : q_E md_X7_step 2 N (none) r m 102 [q_A 1, q_N] [q_I s0] := by
  unfold f_Tape_step_b102 at h
  refine e_ist_n (M := md_X7_step) (pc := 102) (ls' := [q_A 1, q_I s0]) dX7_step_102 (by decide) (q_pl rfl) rfl ?_
  refine q_aload_n (M := md_X7_step) (pc := 103) dX7_step_103 rfl (by decide) ?_
  refine q_dup (M := md_X7_step) (pc := 104) dX7_step_104 (show (2 : Nat) ≠ 1 by decide) ?_
  refine e_gI (M := md_X7_step) (pc := 105) (v := m 1 4) fl_7_17 dX7_step_105 (is_1 hN) rfl ?_
  refine q_iconst (M := md_X7_step) (pc := 108) dX7_step_108 ?_
  refine q_iadd (M := md_X7_step) (pc := 109) dX7_step_109 ?_
  refine e_pfI (M := md_X7_step) (pc := 110) h fl_7_17 dX7_step_110 (is_1 hN) rfl (fun m1 h => ?_)
  exact q_weak (w_Tape_step_l113 hN q_F _ _  h) ⟨Or.inr rfl, Or.inr rfl, trivial⟩
def f_Tape_step_b97 (m : q_Mem) : q_Res :=
  f_Tape_step_b102 1 m
set_option maxRecDepth 20000 in
theorem w_Tape_step_b97 {r : Int × q_Mem} {m : q_Mem} {N : Nat} (hN : 81 ≤ N) (h : f_Tape_step_b97 m = some r) : q_E md_X7_step 2 N (none) r m 97 [q_A 1, q_N] [] := by
  unfold f_Tape_step_b97 at h
  refine q_iconst (M := md_X7_step) (pc := 97) dX7_step_97 ?_
  refine q_goto (M := md_X7_step) (pc := 98) (tgt := 102) dX7_step_98 (by decide) ?_
  exact q_weak (w_Tape_step_b102 hN  h) ⟨Or.inr rfl, Or.inl rfl, trivial⟩
def f_Tape_step_b40 (m : q_Mem) : q_Res :=
  q_pf m 1 3 (m 1 4) fun m1 =>
  if q_w (m1 1 4) < q_w (m1 1 1) then (q_rd m1 2 800 (m1 1 4) fun v2 =>
  q_bd (f_Tape_kindOf v2 m1) fun v3 m4 =>
  q_pf m4 1 2 v3 fun m5 =>
  if q_w (m5 1 2) = 3 then (f_Tape_step_b97 m5)
  else (if q_w (m5 1 2) = 4 then (f_Tape_step_b97 m5)
  else (f_Tape_step_b102 0 m5)))
  else (q_pf m1 1 2 0 fun m6 =>
  q_rt 0 m6)
set_option maxRecDepth 20000 in
theorem w_Tape_step_b40 {r : Int × q_Mem} {m : q_Mem} {N : Nat} (hN : 81 ≤ N) (h : f_Tape_step_b40 m = some r) : q_E md_X7_step 2 N (none) r m 40 [q_A 1, q_N] [] := by
  unfold f_Tape_step_b40 at h
  refine q_aload_n (M := md_X7_step) (pc := 40) dX7_step_40 rfl (by decide) ?_
  refine q_aload_n (M := md_X7_step) (pc := 41) dX7_step_41 rfl (by decide) ?_
  refine e_gI (M := md_X7_step) (pc := 42) (v := m 1 4) fl_7_17 dX7_step_42 (is_1 hN) rfl ?_
  refine e_pfI (M := md_X7_step) (pc := 45) h fl_7_27 dX7_step_45 (is_1 hN) rfl (fun m1 h => ?_)
  refine q_aload_n (M := md_X7_step) (pc := 48) dX7_step_48 rfl (by decide) ?_
  refine e_gI (M := md_X7_step) (pc := 49) (v := m1 1 4) fl_7_17 dX7_step_49 (is_1 hN) rfl ?_
  refine q_aload_n (M := md_X7_step) (pc := 52) dX7_step_52 rfl (by decide) ?_
  refine e_gI (M := md_X7_step) (pc := 53) (v := m1 1 1) fl_7_13 dX7_step_53 (is_1 hN) rfl ?_
  refine e_icmp_lt (M := md_X7_step) (pc := 56) (tgt := 65) h rfl rfl dX7_step_56 (by decide) (fun h => ?_) (fun h => ?_)
  · refine q_aload_n (M := md_X7_step) (pc := 65) dX7_step_65 rfl (by decide) ?_
    refine q_aload_n (M := md_X7_step) (pc := 66) dX7_step_66 rfl (by decide) ?_
    refine q_getP (M := md_X7_step) (pc := 67) (v := 2) fl_7_9 dX7_step_67 (is_1 hN) rfl ?_
    refine q_aload_n (M := md_X7_step) (pc := 70) dX7_step_70 rfl (by decide) ?_
    refine e_gI (M := md_X7_step) (pc := 71) (v := m1 1 4) fl_7_17 dX7_step_71 (is_1 hN) rfl ?_
    refine e_rdb (M := md_X7_step) (pc := 74) h dX7_step_74 (ar_2 hN) (fun v2 h => ?_)
    refine e_callSi (M := md_X7_step) (pc := 75) (d' := 1) (M' := md_X7_kindOf) (av := [q_I v2]) h ml_7_23 sm_X7_kindOf dX7_step_75 (fun v he => ok_X7_kindOf hN  he) rfl (Nat.le_of_ble_eq_true rfl) ⟨by decide, by decide⟩ rfl (fun v3 m4 h => ?_)
    refine e_pfI (M := md_X7_step) (pc := 78) h fl_7_30 dX7_step_78 (is_1 hN) rfl (fun m5 h => ?_)
    refine q_aload_n (M := md_X7_step) (pc := 81) dX7_step_81 rfl (by decide) ?_
    refine e_gI (M := md_X7_step) (pc := 82) (v := m5 1 2) fl_7_30 dX7_step_82 (is_1 hN) rfl ?_
    refine q_iconst (M := md_X7_step) (pc := 85) dX7_step_85 ?_
    refine e_icmp_eq (M := md_X7_step) (pc := 86) (tgt := 97) h rfl (q_wlit rfl) dX7_step_86 (by decide) (fun h => ?_) (fun h => ?_)
    · exact q_weak (w_Tape_step_b97 hN  h) ⟨Or.inr rfl, Or.inl rfl, trivial⟩
    · refine q_aload_n (M := md_X7_step) (pc := 89) dX7_step_89 rfl (by decide) ?_
      refine e_gI (M := md_X7_step) (pc := 90) (v := m5 1 2) fl_7_30 dX7_step_90 (is_1 hN) rfl ?_
      refine q_iconst (M := md_X7_step) (pc := 93) dX7_step_93 ?_
      refine e_icmp_ne (M := md_X7_step) (pc := 94) (tgt := 101) h rfl (q_wlit rfl) dX7_step_94 (by decide) (fun h => ?_) (fun h => ?_)
      · refine q_iconst (M := md_X7_step) (pc := 101) dX7_step_101 ?_
        exact q_weak (w_Tape_step_b102 hN  h) ⟨Or.inr rfl, Or.inl rfl, trivial⟩
      · exact q_weak (w_Tape_step_b97 hN  h) ⟨Or.inr rfl, Or.inl rfl, trivial⟩
  · refine q_aload_n (M := md_X7_step) (pc := 59) dX7_step_59 rfl (by decide) ?_
    refine q_iconst (M := md_X7_step) (pc := 60) dX7_step_60 ?_
    refine e_pfI (M := md_X7_step) (pc := 61) h fl_7_30 dX7_step_61 (is_1 hN) rfl (fun m6 h => ?_)
    exact e_vret (M := md_X7_step) (pc := 64) h rfl dX7_step_64
def f_Tape_step_b0 (k0 : q_Mem → q_Res) (m : q_Mem) : q_Res :=
  if q_w (m 1 1) ≤ q_w (m 1 4) then (f_Tape_step_b40 m)
  else (q_rd m 2 800 (m 1 4) fun v1 =>
  q_bd (f_Tape_kindOf v1 m) fun v2 m3 =>
  if q_w v2 = 2 then (q_pf m3 1 4 ((m3 1 4) + 1) fun m4 =>
  k0 m4)
  else (f_Tape_step_b40 m3))
set_option maxRecDepth 20000 in
theorem w_Tape_step_b0 {k0 : q_Mem → q_Res} {r : Int × q_Mem} {m : q_Mem} {N : Nat} (hN : 81 ≤ N) (hk0 : ∀ (m : q_Mem), k0 m = some r → q_E md_X7_step 2 N (none) r m 0 [q_A 1, q_N] []) (h : f_Tape_step_b0 k0 m = some r) : q_E md_X7_step 2 N (none) r m 0 [q_A 1, q_N] [] := by
  unfold f_Tape_step_b0 at h
  refine q_aload_n (M := md_X7_step) (pc := 0) dX7_step_0 rfl (by decide) ?_
  refine e_gI (M := md_X7_step) (pc := 1) (v := m 1 4) fl_7_17 dX7_step_1 (is_1 hN) rfl ?_
  refine q_aload_n (M := md_X7_step) (pc := 4) dX7_step_4 rfl (by decide) ?_
  refine e_gI (M := md_X7_step) (pc := 5) (v := m 1 1) fl_7_13 dX7_step_5 (is_1 hN) rfl ?_
  refine e_icmp_ge (M := md_X7_step) (pc := 8) (tgt := 40) h rfl rfl dX7_step_8 (by decide) (fun h => ?_) (fun h => ?_)
  · exact q_weak (w_Tape_step_b40 hN  h) ⟨Or.inr rfl, Or.inl rfl, trivial⟩
  · refine q_aload_n (M := md_X7_step) (pc := 11) dX7_step_11 rfl (by decide) ?_
    refine q_getP (M := md_X7_step) (pc := 12) (v := 2) fl_7_9 dX7_step_12 (is_1 hN) rfl ?_
    refine q_aload_n (M := md_X7_step) (pc := 15) dX7_step_15 rfl (by decide) ?_
    refine e_gI (M := md_X7_step) (pc := 16) (v := m 1 4) fl_7_17 dX7_step_16 (is_1 hN) rfl ?_
    refine e_rdb (M := md_X7_step) (pc := 19) h dX7_step_19 (ar_2 hN) (fun v1 h => ?_)
    refine e_callSi (M := md_X7_step) (pc := 20) (d' := 1) (M' := md_X7_kindOf) (av := [q_I v1]) h ml_7_23 sm_X7_kindOf dX7_step_20 (fun v he => ok_X7_kindOf hN  he) rfl (Nat.le_of_ble_eq_true rfl) ⟨by decide, by decide⟩ rfl (fun v2 m3 h => ?_)
    refine q_iconst (M := md_X7_step) (pc := 23) dX7_step_23 ?_
    refine e_icmp_ne (M := md_X7_step) (pc := 24) (tgt := 40) h rfl (q_wlit rfl) dX7_step_24 (by decide) (fun h => ?_) (fun h => ?_)
    · exact q_weak (w_Tape_step_b40 hN  h) ⟨Or.inr rfl, Or.inl rfl, trivial⟩
    · refine q_aload_n (M := md_X7_step) (pc := 27) dX7_step_27 rfl (by decide) ?_
      refine q_dup (M := md_X7_step) (pc := 28) dX7_step_28 (show (2 : Nat) ≠ 1 by decide) ?_
      refine e_gI (M := md_X7_step) (pc := 29) (v := m3 1 4) fl_7_17 dX7_step_29 (is_1 hN) rfl ?_
      refine q_iconst (M := md_X7_step) (pc := 32) dX7_step_32 ?_
      refine q_iadd (M := md_X7_step) (pc := 33) dX7_step_33 ?_
      refine e_pfI (M := md_X7_step) (pc := 34) h fl_7_17 dX7_step_34 (is_1 hN) rfl (fun m4 h => ?_)
      refine q_goto (M := md_X7_step) (pc := 37) (tgt := 0) dX7_step_37 (by decide) ?_
      exact q_weak (hk0 _  h) ⟨Or.inr rfl, Or.inl rfl, trivial⟩
def f_Tape_step_l0 : Nat → q_Mem → q_Res
  | 0 => fun _ => none
  | n + 1 => fun m => f_Tape_step_b0 (f_Tape_step_l0 n) m
theorem w_Tape_step_l0 {r : Int × q_Mem} {N : Nat} (hN : 81 ≤ N) : ∀ (n : Nat) (m : q_Mem), f_Tape_step_l0 n m = some r → q_E md_X7_step 2 N (none) r m 0 [q_A 1, q_N] [] := by
  intro n
  induction n with
  | zero => intro m h; exact q_no h
  | succ n ih =>
    intro m h
    exact w_Tape_step_b0 hN (fun m h => ih m h) h
def f_Tape_step (m : q_Mem) : q_Res :=
  f_Tape_step_l0 q_F m
set_option maxRecDepth 20000 in
theorem ok_X7_step {r : Int × q_Mem} {m : q_Mem} {N : Nat} (hN : 81 ≤ N) (h : f_Tape_step m = some r) : q_C md_X7_step (q_room 2) 0 0 [q_A 1] (q_g N) m (none, q_g N, r.2) := by
  refine q_ofR (by decide) 1 (ls := [q_A 1, q_N]) rfl (Nat.le_of_ble_eq_true rfl) ?_
  change q_E md_X7_step 2 N (none) r m 0 [q_A 1, q_N] []
  unfold f_Tape_step at h
  exact q_weak (w_Tape_step_l0 hN q_F _  h) ⟨Or.inr rfl, Or.inl rfl, trivial⟩
def f_Tape_rewind (m : q_Mem) : q_Res :=
  q_pf m 1 4 0 fun m1 =>
  q_bd (f_Tape_step m1) fun _ m2 =>
  q_rt 0 m2
set_option maxRecDepth 20000 in
theorem ok_X7_rewind {r : Int × q_Mem} {m : q_Mem} {N : Nat} (hN : 81 ≤ N) (h : f_Tape_rewind m = some r) : q_C md_X7_rewind (q_room 3) 0 0 [q_A 1] (q_g N) m (none, q_g N, r.2) := by
  refine q_ofR (by decide) 0 (ls := [q_A 1]) rfl (Nat.le_of_ble_eq_true rfl) ?_
  change q_E md_X7_rewind 3 N (none) r m 0 [q_A 1] []
  unfold f_Tape_rewind at h
  refine q_aload_n (M := md_X7_rewind) (pc := 0) dX7_rewind_0 rfl (by decide) ?_
  refine q_iconst (M := md_X7_rewind) (pc := 1) dX7_rewind_1 ?_
  refine e_pfI (M := md_X7_rewind) (pc := 2) h fl_7_17 dX7_rewind_2 (is_1 hN) rfl (fun m1 h => ?_)
  refine q_aload_n (M := md_X7_rewind) (pc := 5) dX7_rewind_5 rfl (by decide) ?_
  refine e_callVv (M := md_X7_rewind) (pc := 6) (d' := 2) (av := []) (c := 1) h ml_7_20 im_X7_step se_X7_step dX7_rewind_6 (fun v he => ok_X7_step hN  he) rfl (is_1 hN) ⟨_, _, rfl⟩ (by decide) (Nat.le_of_ble_eq_true rfl) ⟨by decide, by decide⟩ rfl (fun _ m2 h => ?_)
  exact e_vret (M := md_X7_rewind) (pc := 9) h rfl dX7_rewind_9
def f_Tape_isWord_b28 (k28 : Int → Int → q_Mem → q_Res) (l1 l2 : Int) (m : q_Mem) : q_Res :=
  if q_w ((q_sln l1 : Int)) ≤ q_w l2 then (q_rz 1 m)
  else (q_rd m 2 800 ((m 1 3) + l2) fun v1 =>
  q_ch l1 l2 fun v2 =>
  if q_w v1 = q_w v2 then (k28 l1 (l2 + 1) m)
  else (q_rz 0 m))
set_option maxRecDepth 20000 in
theorem w_Tape_isWord_b28 {k28 : Int → Int → q_Mem → q_Res} {l1 l2 : Int} {r : Int × q_Mem} {m : q_Mem} {N : Nat} (hN : 81 ≤ N) (hk28 : ∀ (l1 l2 : Int) (m : q_Mem), (0 ≤ l1 ∧ l1 < 14) → k28 l1 l2 m = some r → q_E md_X7_isWord 6 N (some 0) r m 28 [q_A 1, q_S l1, q_I l2] []) (hl1 : (0 ≤ l1 ∧ l1 < 14)) (h : f_Tape_isWord_b28 k28 l1 l2 m = some r) : q_E md_X7_isWord 6 N (some 0) r m 28 [q_A 1, q_S l1, q_I l2] [] := by
  unfold f_Tape_isWord_b28 at h
  refine q_iload_n (M := md_X7_isWord) (pc := 28) dX7_isWord_28 rfl ?_
  refine q_aload_nS (M := md_X7_isWord) (pc := 29) dX7_isWord_29 rfl ?_
  refine e_slen (M := md_X7_isWord) (pc := 30) jl_7_41 dX7_isWord_30 hl1 (by decide) (Nat.le_of_ble_eq_true rfl) ?_
  refine e_icmp_ge (M := md_X7_isWord) (pc := 33) (tgt := 63) h rfl rfl dX7_isWord_33 (by decide) (fun h => ?_) (fun h => ?_)
  · refine q_iconst (M := md_X7_isWord) (pc := 63) dX7_isWord_63 ?_
    exact e_zret (M := md_X7_isWord) (pc := 64) h rfl dX7_isWord_64
  · refine q_aload_n (M := md_X7_isWord) (pc := 36) dX7_isWord_36 rfl (by decide) ?_
    refine q_getP (M := md_X7_isWord) (pc := 37) (v := 2) fl_7_9 dX7_isWord_37 (is_1 hN) rfl ?_
    refine q_aload_n (M := md_X7_isWord) (pc := 40) dX7_isWord_40 rfl (by decide) ?_
    refine e_gI (M := md_X7_isWord) (pc := 41) (v := m 1 3) fl_7_27 dX7_isWord_41 (is_1 hN) rfl ?_
    refine q_iload_n (M := md_X7_isWord) (pc := 44) dX7_isWord_44 rfl ?_
    refine q_iadd (M := md_X7_isWord) (pc := 45) dX7_isWord_45 ?_
    refine e_rdb (M := md_X7_isWord) (pc := 46) h dX7_isWord_46 (ar_2 hN) (fun v1 h => ?_)
    refine q_aload_nS (M := md_X7_isWord) (pc := 47) dX7_isWord_47 rfl ?_
    refine q_iload_n (M := md_X7_isWord) (pc := 48) dX7_isWord_48 rfl ?_
    refine e_char (M := md_X7_isWord) (pc := 49) h jl_7_45 dX7_isWord_49 hl1 (by decide) (Nat.le_of_ble_eq_true rfl) (fun v2 h => ?_)
    refine e_icmp_eq (M := md_X7_isWord) (pc := 52) (tgt := 57) h rfl rfl dX7_isWord_52 (by decide) (fun h => ?_) (fun h => ?_)
    · refine e_inc (M := md_X7_isWord) (pc := 57) (x := l2) (ls' := [q_A 1, q_S l1, q_I (l2 + 1)]) dX7_isWord_57 rfl (by decide) (q_pl rfl) rfl ?_
      refine q_goto (M := md_X7_isWord) (pc := 60) (tgt := 28) dX7_isWord_60 (by decide) ?_
      exact q_weak (hk28 _ _ _ hl1 h) ⟨Or.inr rfl, Or.inr rfl, Or.inr rfl, trivial⟩
    · refine q_iconst (M := md_X7_isWord) (pc := 55) dX7_isWord_55 ?_
      exact e_zret (M := md_X7_isWord) (pc := 56) h rfl dX7_isWord_56
def f_Tape_isWord_l28 : Nat → Int → Int → q_Mem → q_Res
  | 0 => fun _ _ _ => none
  | n + 1 => fun l1 l2 m => f_Tape_isWord_b28 (f_Tape_isWord_l28 n) l1 l2 m
theorem w_Tape_isWord_l28 {r : Int × q_Mem} {N : Nat} (hN : 81 ≤ N) : ∀ (n : Nat) (l1 l2 : Int) (m : q_Mem), (0 ≤ l1 ∧ l1 < 14) → f_Tape_isWord_l28 n l1 l2 m = some r → q_E md_X7_isWord 6 N (some 0) r m 28 [q_A 1, q_S l1, q_I l2] [] := by
  intro n
  induction n with
  | zero => intro l1 l2 m hl1 h; exact q_no h
  | succ n ih =>
    intro l1 l2 m hl1 h
    exact w_Tape_isWord_b28 hN (fun l1 l2 m hl1 h => ih l1 l2 m hl1 h) hl1 h
def f_Tape_isWord (l1 : Int) (m : q_Mem) : q_Res :=
  if q_w (m 1 2) = 3 then (if q_w ((m 1 4) - (m 1 3)) = q_w ((q_sln l1 : Int)) then (f_Tape_isWord_l28 q_F l1 0 m)
  else (q_rz 0 m))
  else (q_rz 0 m)
set_option maxRecDepth 20000 in
theorem ok_X7_isWord {l1 : Int} {r : Int × q_Mem} {m : q_Mem} {N : Nat} (hN : 81 ≤ N) (hl1 : 0 ≤ l1 ∧ l1 < 14) (h : f_Tape_isWord l1 m = some r) : q_C md_X7_isWord (q_room 6) 0 0 [q_A 1, q_S l1] (q_g N) m (some (q_I r.1), q_g N, r.2) := by
  refine q_ofR (by decide) 1 (ls := [q_A 1, q_S l1, q_N]) rfl (Nat.le_of_ble_eq_true rfl) ?_
  change q_E md_X7_isWord 6 N (some 0) r m 0 [q_A 1, q_S l1, q_N] []
  unfold f_Tape_isWord at h
  refine q_aload_n (M := md_X7_isWord) (pc := 0) dX7_isWord_0 rfl (by decide) ?_
  refine e_gI (M := md_X7_isWord) (pc := 1) (v := m 1 2) fl_7_30 dX7_isWord_1 (is_1 hN) rfl ?_
  refine q_iconst (M := md_X7_isWord) (pc := 4) dX7_isWord_4 ?_
  refine e_icmp_ne (M := md_X7_isWord) (pc := 5) (tgt := 24) h rfl (q_wlit rfl) dX7_isWord_5 (by decide) (fun h => ?_) (fun h => ?_)
  · refine q_iconst (M := md_X7_isWord) (pc := 24) dX7_isWord_24 ?_
    exact e_zret (M := md_X7_isWord) (pc := 25) h rfl dX7_isWord_25
  · refine q_aload_n (M := md_X7_isWord) (pc := 8) dX7_isWord_8 rfl (by decide) ?_
    refine e_gI (M := md_X7_isWord) (pc := 9) (v := m 1 4) fl_7_17 dX7_isWord_9 (is_1 hN) rfl ?_
    refine q_aload_n (M := md_X7_isWord) (pc := 12) dX7_isWord_12 rfl (by decide) ?_
    refine e_gI (M := md_X7_isWord) (pc := 13) (v := m 1 3) fl_7_27 dX7_isWord_13 (is_1 hN) rfl ?_
    refine q_isub (M := md_X7_isWord) (pc := 16) dX7_isWord_16 ?_
    refine q_aload_nS (M := md_X7_isWord) (pc := 17) dX7_isWord_17 rfl ?_
    refine e_slen (M := md_X7_isWord) (pc := 18) jl_7_41 dX7_isWord_18 hl1 (by decide) (Nat.le_of_ble_eq_true rfl) ?_
    refine e_icmp_eq (M := md_X7_isWord) (pc := 21) (tgt := 26) h rfl rfl dX7_isWord_21 (by decide) (fun h => ?_) (fun h => ?_)
    · refine q_iconst (M := md_X7_isWord) (pc := 26) dX7_isWord_26 ?_
      refine e_ist_n (M := md_X7_isWord) (pc := 27) (ls' := [q_A 1, q_S l1, q_I 0]) dX7_isWord_27 (by decide) (q_pl rfl) rfl ?_
      exact q_weak (w_Tape_isWord_l28 hN q_F _ _ _ hl1 h) ⟨Or.inr rfl, Or.inr rfl, Or.inr rfl, trivial⟩
    · refine q_iconst (M := md_X7_isWord) (pc := 24) dX7_isWord_24 ?_
      exact e_zret (M := md_X7_isWord) (pc := 25) h rfl dX7_isWord_25
def f_Pars_refuse (l1 l2 : Int) (m : q_Mem) : q_Res :=
  q_pf m 25 4 l1 fun m1 =>
  q_pf m1 25 5 l2 fun m2 =>
  q_rz 0 m2
set_option maxRecDepth 20000 in
theorem ok_X3_refuse {l1 l2 : Int} {r : Int × q_Mem} {m : q_Mem} {N : Nat} (hN : 81 ≤ N) (h : f_Pars_refuse l1 l2 m = some r) : q_C md_X3_refuse (q_room 1) 0 0 [q_A 25, q_I l1, q_I l2] (q_g N) m (some (q_I r.1), q_g N, r.2) := by
  refine q_ofR (by decide) 0 (ls := [q_A 25, q_I l1, q_I l2]) rfl (Nat.le_of_ble_eq_true rfl) ?_
  change q_E md_X3_refuse 1 N (some 0) r m 0 [q_A 25, q_I l1, q_I l2] []
  unfold f_Pars_refuse at h
  refine q_aload_n (M := md_X3_refuse) (pc := 0) dX3_refuse_0 rfl (by decide) ?_
  refine q_iload_n (M := md_X3_refuse) (pc := 1) dX3_refuse_1 rfl ?_
  refine e_pfI (M := md_X3_refuse) (pc := 2) h fl_3_35 dX3_refuse_2 (is_25 hN) rfl (fun m1 h => ?_)
  refine q_aload_n (M := md_X3_refuse) (pc := 5) dX3_refuse_5 rfl (by decide) ?_
  refine q_iload_n (M := md_X3_refuse) (pc := 6) dX3_refuse_6 rfl ?_
  refine e_pfI (M := md_X3_refuse) (pc := 7) h fl_3_18 dX3_refuse_7 (is_25 hN) rfl (fun m2 h => ?_)
  refine q_iconst (M := md_X3_refuse) (pc := 10) dX3_refuse_10 ?_
  exact e_zret (M := md_X3_refuse) (pc := 11) h rfl dX3_refuse_11
def f_Pars_passNumber_b110 (m : q_Mem) : q_Res :=
  q_bd (f_Pars_refuse 2 (m 25 10) m) fun v1 m2 =>
  q_rz v1 m2
set_option maxRecDepth 20000 in
theorem w_Pars_passNumber_b110 {r : Int × q_Mem} {m : q_Mem} {N : Nat} (hN : 81 ≤ N) (h : f_Pars_passNumber_b110 m = some r) : q_E md_X3_passNumber 3 N (some 0) r m 110 [q_A 25, q_N, q_N, q_N] [] := by
  unfold f_Pars_passNumber_b110 at h
  refine q_aload_n (M := md_X3_passNumber) (pc := 110) dX3_passNumber_110 rfl (by decide) ?_
  refine q_iconst (M := md_X3_passNumber) (pc := 111) dX3_passNumber_111 ?_
  refine q_aload_n (M := md_X3_passNumber) (pc := 112) dX3_passNumber_112 rfl (by decide) ?_
  refine e_gI (M := md_X3_passNumber) (pc := 113) (v := m 25 10) fl_3_129 dX3_passNumber_113 (is_25 hN) rfl ?_
  refine e_callVi (M := md_X3_passNumber) (pc := 116) (d' := 1) (av := [q_I 2, q_I (m 25 10)]) (c := 25) h ml_3_73 im_X3_refuse se_X3_refuse dX3_passNumber_116 (fun v he => ok_X3_refuse hN  he) rfl (is_25 hN) ⟨_, _, rfl⟩ (by decide) (Nat.le_of_ble_eq_true rfl) ⟨by decide, by decide⟩ rfl (fun v1 m2 h => ?_)
  exact e_zret (M := md_X3_passNumber) (pc := 119) h rfl dX3_passNumber_119
def f_Pars_passNumber_b80 (l1 l2 s1 : Int) (m : q_Mem) : q_Res :=
  q_pf m 25 9 s1 fun m1 =>
  q_pf m1 25 10 (m1 1 3) fun m2 =>
  if q_w (m2 25 9) < q_w l1 then (f_Pars_passNumber_b110 m2)
  else (if q_w (m2 25 9) ≤ q_w l2 then (q_bd (f_Tape_step m2) fun _ m3 =>
  q_rz 1 m3)
  else (f_Pars_passNumber_b110 m2))
set_option maxRecDepth 20000 in
theorem w_Pars_passNumber_b80 {l1 l2 s1 : Int} {r : Int × q_Mem} {m : q_Mem} {N : Nat} (hN : 81 ≤ N) (h : f_Pars_passNumber_b80 l1 l2 s1 m = some r) : q_E md_X3_passNumber 3 N (some 0) r m 80 [q_A 25, q_I l1, q_I l2, q_N] [q_I s1, q_A 25] := by
  unfold f_Pars_passNumber_b80 at h
  refine e_pfI (M := md_X3_passNumber) (pc := 80) h fl_3_85 dX3_passNumber_80 (is_25 hN) rfl (fun m1 h => ?_)
  refine q_aload_n (M := md_X3_passNumber) (pc := 83) dX3_passNumber_83 rfl (by decide) ?_
  refine q_aload_n (M := md_X3_passNumber) (pc := 84) dX3_passNumber_84 rfl (by decide) ?_
  refine q_getP (M := md_X3_passNumber) (pc := 85) (v := 1) fl_3_22 dX3_passNumber_85 (is_25 hN) rfl ?_
  refine e_gI (M := md_X3_passNumber) (pc := 88) (v := m1 1 3) fl_3_72 dX3_passNumber_88 (is_1 hN) rfl ?_
  refine e_pfI (M := md_X3_passNumber) (pc := 91) h fl_3_129 dX3_passNumber_91 (is_25 hN) rfl (fun m2 h => ?_)
  refine q_aload_n (M := md_X3_passNumber) (pc := 94) dX3_passNumber_94 rfl (by decide) ?_
  refine e_gI (M := md_X3_passNumber) (pc := 95) (v := m2 25 9) fl_3_85 dX3_passNumber_95 (is_25 hN) rfl ?_
  refine q_iload_n (M := md_X3_passNumber) (pc := 98) dX3_passNumber_98 rfl ?_
  refine e_icmp_lt (M := md_X3_passNumber) (pc := 99) (tgt := 110) h rfl rfl dX3_passNumber_99 (by decide) (fun h => ?_) (fun h => ?_)
  · exact q_weak (w_Pars_passNumber_b110 hN  h) ⟨Or.inr rfl, Or.inl rfl, Or.inl rfl, Or.inl rfl, trivial⟩
  · refine q_aload_n (M := md_X3_passNumber) (pc := 102) dX3_passNumber_102 rfl (by decide) ?_
    refine e_gI (M := md_X3_passNumber) (pc := 103) (v := m2 25 9) fl_3_85 dX3_passNumber_103 (is_25 hN) rfl ?_
    refine q_iload_n (M := md_X3_passNumber) (pc := 106) dX3_passNumber_106 rfl ?_
    refine e_icmp_le (M := md_X3_passNumber) (pc := 107) (tgt := 120) h rfl rfl dX3_passNumber_107 (by decide) (fun h => ?_) (fun h => ?_)
    · refine q_aload_n (M := md_X3_passNumber) (pc := 120) dX3_passNumber_120 rfl (by decide) ?_
      refine q_getP (M := md_X3_passNumber) (pc := 121) (v := 1) fl_3_22 dX3_passNumber_121 (is_25 hN) rfl ?_
      refine e_callVv (M := md_X3_passNumber) (pc := 124) (d' := 2) (av := []) (c := 1) h ml_3_77 im_X7_step se_X7_step dX3_passNumber_124 (fun v he => ok_X7_step hN  he) rfl (is_1 hN) ⟨_, _, rfl⟩ (by decide) (Nat.le_of_ble_eq_true rfl) ⟨by decide, by decide⟩ rfl (fun _ m3 h => ?_)
      refine q_iconst (M := md_X3_passNumber) (pc := 127) dX3_passNumber_127 ?_
      exact e_zret (M := md_X3_passNumber) (pc := 128) h rfl dX3_passNumber_128
    · exact q_weak (w_Pars_passNumber_b110 hN  h) ⟨Or.inr rfl, Or.inl rfl, Or.inl rfl, Or.inl rfl, trivial⟩
def f_Pars_passNumber_b33 (l1 l2 l3 : Int) (m : q_Mem) : q_Res :=
  if q_w (m 1 2) = 4 then (if q_w l3 = 0 then (f_Pars_passNumber_b80 l1 l2 (m 1 5) m)
  else (f_Pars_passNumber_b80 l1 l2 (-(m 1 5)) m))
  else (q_bd (f_Pars_refuse 1 (m 1 3) m) fun v1 m2 =>
  q_rz v1 m2)
set_option maxRecDepth 20000 in
theorem w_Pars_passNumber_b33 {l1 l2 l3 : Int} {r : Int × q_Mem} {m : q_Mem} {N : Nat} (hN : 81 ≤ N) (h : f_Pars_passNumber_b33 l1 l2 l3 m = some r) : q_E md_X3_passNumber 3 N (some 0) r m 33 [q_A 25, q_I l1, q_I l2, q_I l3] [] := by
  unfold f_Pars_passNumber_b33 at h
  refine q_aload_n (M := md_X3_passNumber) (pc := 33) dX3_passNumber_33 rfl (by decide) ?_
  refine q_getP (M := md_X3_passNumber) (pc := 34) (v := 1) fl_3_22 dX3_passNumber_34 (is_25 hN) rfl ?_
  refine e_gI (M := md_X3_passNumber) (pc := 37) (v := m 1 2) fl_3_53 dX3_passNumber_37 (is_1 hN) rfl ?_
  refine q_iconst (M := md_X3_passNumber) (pc := 40) dX3_passNumber_40 ?_
  refine e_icmp_eq (M := md_X3_passNumber) (pc := 41) (tgt := 57) h rfl (q_wlit rfl) dX3_passNumber_41 (by decide) (fun h => ?_) (fun h => ?_)
  · refine q_aload_n (M := md_X3_passNumber) (pc := 57) dX3_passNumber_57 rfl (by decide) ?_
    refine q_iload_n (M := md_X3_passNumber) (pc := 58) dX3_passNumber_58 rfl ?_
    refine e_if_eq (M := md_X3_passNumber) (pc := 59) (tgt := 73) h rfl dX3_passNumber_59 (by decide) (fun h => ?_) (fun h => ?_)
    · refine q_aload_n (M := md_X3_passNumber) (pc := 73) dX3_passNumber_73 rfl (by decide) ?_
      refine q_getP (M := md_X3_passNumber) (pc := 74) (v := 1) fl_3_22 dX3_passNumber_74 (is_25 hN) rfl ?_
      refine e_gI (M := md_X3_passNumber) (pc := 77) (v := m 1 5) fl_3_132 dX3_passNumber_77 (is_1 hN) rfl ?_
      exact q_weak (w_Pars_passNumber_b80 hN  h) ⟨Or.inr rfl, Or.inr rfl, Or.inr rfl, Or.inl rfl, trivial⟩
    · refine q_aload_n (M := md_X3_passNumber) (pc := 62) dX3_passNumber_62 rfl (by decide) ?_
      refine q_getP (M := md_X3_passNumber) (pc := 63) (v := 1) fl_3_22 dX3_passNumber_63 (is_25 hN) rfl ?_
      refine e_gI (M := md_X3_passNumber) (pc := 66) (v := m 1 5) fl_3_132 dX3_passNumber_66 (is_1 hN) rfl ?_
      refine q_ineg (M := md_X3_passNumber) (pc := 69) dX3_passNumber_69 ?_
      refine q_goto (M := md_X3_passNumber) (pc := 70) (tgt := 80) dX3_passNumber_70 (by decide) ?_
      exact q_weak (w_Pars_passNumber_b80 hN  h) ⟨Or.inr rfl, Or.inr rfl, Or.inr rfl, Or.inl rfl, trivial⟩
  · refine q_aload_n (M := md_X3_passNumber) (pc := 44) dX3_passNumber_44 rfl (by decide) ?_
    refine q_iconst (M := md_X3_passNumber) (pc := 45) dX3_passNumber_45 ?_
    refine q_aload_n (M := md_X3_passNumber) (pc := 46) dX3_passNumber_46 rfl (by decide) ?_
    refine q_getP (M := md_X3_passNumber) (pc := 47) (v := 1) fl_3_22 dX3_passNumber_47 (is_25 hN) rfl ?_
    refine e_gI (M := md_X3_passNumber) (pc := 50) (v := m 1 3) fl_3_72 dX3_passNumber_50 (is_1 hN) rfl ?_
    refine e_callVi (M := md_X3_passNumber) (pc := 53) (d' := 1) (av := [q_I 1, q_I (m 1 3)]) (c := 25) h ml_3_73 im_X3_refuse se_X3_refuse dX3_passNumber_53 (fun v he => ok_X3_refuse hN  he) rfl (is_25 hN) ⟨_, _, rfl⟩ (by decide) (Nat.le_of_ble_eq_true rfl) ⟨by decide, by decide⟩ rfl (fun v1 m2 h => ?_)
    exact e_zret (M := md_X3_passNumber) (pc := 56) h rfl dX3_passNumber_56
def f_Pars_passNumber_b21 (l1 l2 s0 : Int) (m : q_Mem) : q_Res :=
  if q_w s0 = 0 then (f_Pars_passNumber_b33 l1 l2 s0 m)
  else (q_bd (f_Tape_step m) fun _ m1 =>
  f_Pars_passNumber_b33 l1 l2 s0 m1)
set_option maxRecDepth 20000 in
theorem w_Pars_passNumber_b21 {l1 l2 s0 : Int} {r : Int × q_Mem} {m : q_Mem} {N : Nat} (hN : 81 ≤ N) (h : f_Pars_passNumber_b21 l1 l2 s0 m = some r) : q_E md_X3_passNumber 3 N (some 0) r m 21 [q_A 25, q_I l1, q_I l2, q_N] [q_I s0] := by
  unfold f_Pars_passNumber_b21 at h
  refine e_ist_n (M := md_X3_passNumber) (pc := 21) (ls' := [q_A 25, q_I l1, q_I l2, q_I s0]) dX3_passNumber_21 (by decide) (q_pl rfl) rfl ?_
  refine q_iload_n (M := md_X3_passNumber) (pc := 22) dX3_passNumber_22 rfl ?_
  refine e_if_eq (M := md_X3_passNumber) (pc := 23) (tgt := 33) h rfl dX3_passNumber_23 (by decide) (fun h => ?_) (fun h => ?_)
  · exact q_weak (w_Pars_passNumber_b33 hN  h) ⟨Or.inr rfl, Or.inr rfl, Or.inr rfl, Or.inr rfl, trivial⟩
  · refine q_aload_n (M := md_X3_passNumber) (pc := 26) dX3_passNumber_26 rfl (by decide) ?_
    refine q_getP (M := md_X3_passNumber) (pc := 27) (v := 1) fl_3_22 dX3_passNumber_27 (is_25 hN) rfl ?_
    refine e_callVv (M := md_X3_passNumber) (pc := 30) (d' := 2) (av := []) (c := 1) h ml_3_77 im_X7_step se_X7_step dX3_passNumber_30 (fun v he => ok_X7_step hN  he) rfl (is_1 hN) ⟨_, _, rfl⟩ (by decide) (Nat.le_of_ble_eq_true rfl) ⟨by decide, by decide⟩ rfl (fun _ m1 h => ?_)
    exact q_weak (w_Pars_passNumber_b33 hN  h) ⟨Or.inr rfl, Or.inr rfl, Or.inr rfl, Or.inr rfl, trivial⟩
def f_Pars_passNumber_b20 (l1 l2 : Int) (m : q_Mem) : q_Res :=
  f_Pars_passNumber_b21 l1 l2 0 m
set_option maxRecDepth 20000 in
theorem w_Pars_passNumber_b20 {l1 l2 : Int} {r : Int × q_Mem} {m : q_Mem} {N : Nat} (hN : 81 ≤ N) (h : f_Pars_passNumber_b20 l1 l2 m = some r) : q_E md_X3_passNumber 3 N (some 0) r m 20 [q_A 25, q_I l1, q_I l2, q_N] [] := by
  unfold f_Pars_passNumber_b20 at h
  refine q_iconst (M := md_X3_passNumber) (pc := 20) dX3_passNumber_20 ?_
  exact q_weak (w_Pars_passNumber_b21 hN  h) ⟨Or.inr rfl, Or.inr rfl, Or.inr rfl, Or.inl rfl, trivial⟩
def f_Pars_passNumber (l1 l2 : Int) (m : q_Mem) : q_Res :=
  if 0 ≤ q_w l1 then (f_Pars_passNumber_b20 l1 l2 m)
  else (if q_w (m 1 2) = 45 then (f_Pars_passNumber_b21 l1 l2 1 m)
  else (f_Pars_passNumber_b20 l1 l2 m))
set_option maxRecDepth 20000 in
theorem ok_X3_passNumber {l1 l2 : Int} {r : Int × q_Mem} {m : q_Mem} {N : Nat} (hN : 81 ≤ N) (h : f_Pars_passNumber l1 l2 m = some r) : q_C md_X3_passNumber (q_room 3) 0 0 [q_A 25, q_I l1, q_I l2] (q_g N) m (some (q_I r.1), q_g N, r.2) := by
  refine q_ofR (by decide) 1 (ls := [q_A 25, q_I l1, q_I l2, q_N]) rfl (Nat.le_of_ble_eq_true rfl) ?_
  change q_E md_X3_passNumber 3 N (some 0) r m 0 [q_A 25, q_I l1, q_I l2, q_N] []
  unfold f_Pars_passNumber at h
  refine q_iload_n (M := md_X3_passNumber) (pc := 0) dX3_passNumber_0 rfl ?_
  refine e_if_ge (M := md_X3_passNumber) (pc := 1) (tgt := 20) h rfl dX3_passNumber_1 (by decide) (fun h => ?_) (fun h => ?_)
  · exact q_weak (w_Pars_passNumber_b20 hN  h) ⟨Or.inr rfl, Or.inr rfl, Or.inr rfl, Or.inl rfl, trivial⟩
  · refine q_aload_n (M := md_X3_passNumber) (pc := 4) dX3_passNumber_4 rfl (by decide) ?_
    refine q_getP (M := md_X3_passNumber) (pc := 5) (v := 1) fl_3_22 dX3_passNumber_5 (is_25 hN) rfl ?_
    refine e_gI (M := md_X3_passNumber) (pc := 8) (v := m 1 2) fl_3_53 dX3_passNumber_8 (is_1 hN) rfl ?_
    refine q_bipush (M := md_X3_passNumber) (pc := 11) (x := 45) dX3_passNumber_11 (by decide) ?_
    refine e_icmp_ne (M := md_X3_passNumber) (pc := 13) (tgt := 20) h rfl (q_wlit rfl) dX3_passNumber_13 (by decide) (fun h => ?_) (fun h => ?_)
    · exact q_weak (w_Pars_passNumber_b20 hN  h) ⟨Or.inr rfl, Or.inr rfl, Or.inr rfl, Or.inl rfl, trivial⟩
    · refine q_iconst (M := md_X3_passNumber) (pc := 16) dX3_passNumber_16 ?_
      refine q_goto (M := md_X3_passNumber) (pc := 17) (tgt := 21) dX3_passNumber_17 (by decide) ?_
      exact q_weak (w_Pars_passNumber_b21 hN  h) ⟨Or.inr rfl, Or.inr rfl, Or.inr rfl, Or.inl rfl, trivial⟩
def f_Pars_pass (l1 : Int) (m : q_Mem) : q_Res :=
  if q_w (m 1 2) = q_w l1 then (q_bd (f_Tape_step m) fun _ m1 =>
  q_rz 1 m1)
  else (q_bd (f_Pars_refuse 1 (m 1 3) m) fun v2 m3 =>
  q_rz v2 m3)
set_option maxRecDepth 20000 in
theorem ok_X3_pass {l1 : Int} {r : Int × q_Mem} {m : q_Mem} {N : Nat} (hN : 81 ≤ N) (h : f_Pars_pass l1 m = some r) : q_C md_X3_pass (q_room 3) 0 0 [q_A 25, q_I l1] (q_g N) m (some (q_I r.1), q_g N, r.2) := by
  refine q_ofR (by decide) 0 (ls := [q_A 25, q_I l1]) rfl (Nat.le_of_ble_eq_true rfl) ?_
  change q_E md_X3_pass 3 N (some 0) r m 0 [q_A 25, q_I l1] []
  unfold f_Pars_pass at h
  refine q_aload_n (M := md_X3_pass) (pc := 0) dX3_pass_0 rfl (by decide) ?_
  refine q_getP (M := md_X3_pass) (pc := 1) (v := 1) fl_3_22 dX3_pass_1 (is_25 hN) rfl ?_
  refine e_gI (M := md_X3_pass) (pc := 4) (v := m 1 2) fl_3_53 dX3_pass_4 (is_1 hN) rfl ?_
  refine q_iload_n (M := md_X3_pass) (pc := 7) dX3_pass_7 rfl ?_
  refine e_icmp_eq (M := md_X3_pass) (pc := 8) (tgt := 24) h rfl rfl dX3_pass_8 (by decide) (fun h => ?_) (fun h => ?_)
  · refine q_aload_n (M := md_X3_pass) (pc := 24) dX3_pass_24 rfl (by decide) ?_
    refine q_getP (M := md_X3_pass) (pc := 25) (v := 1) fl_3_22 dX3_pass_25 (is_25 hN) rfl ?_
    refine e_callVv (M := md_X3_pass) (pc := 28) (d' := 2) (av := []) (c := 1) h ml_3_77 im_X7_step se_X7_step dX3_pass_28 (fun v he => ok_X7_step hN  he) rfl (is_1 hN) ⟨_, _, rfl⟩ (by decide) (Nat.le_of_ble_eq_true rfl) ⟨by decide, by decide⟩ rfl (fun _ m1 h => ?_)
    refine q_iconst (M := md_X3_pass) (pc := 31) dX3_pass_31 ?_
    exact e_zret (M := md_X3_pass) (pc := 32) h rfl dX3_pass_32
  · refine q_aload_n (M := md_X3_pass) (pc := 11) dX3_pass_11 rfl (by decide) ?_
    refine q_iconst (M := md_X3_pass) (pc := 12) dX3_pass_12 ?_
    refine q_aload_n (M := md_X3_pass) (pc := 13) dX3_pass_13 rfl (by decide) ?_
    refine q_getP (M := md_X3_pass) (pc := 14) (v := 1) fl_3_22 dX3_pass_14 (is_25 hN) rfl ?_
    refine e_gI (M := md_X3_pass) (pc := 17) (v := m 1 3) fl_3_72 dX3_pass_17 (is_1 hN) rfl ?_
    refine e_callVi (M := md_X3_pass) (pc := 20) (d' := 1) (av := [q_I 1, q_I (m 1 3)]) (c := 25) h ml_3_73 im_X3_refuse se_X3_refuse dX3_pass_20 (fun v he => ok_X3_refuse hN  he) rfl (is_25 hN) ⟨_, _, rfl⟩ (by decide) (Nat.le_of_ble_eq_true rfl) ⟨by decide, by decide⟩ rfl (fun v2 m3 h => ?_)
    exact e_zret (M := md_X3_pass) (pc := 23) h rfl dX3_pass_23
def f_Pars_sizeLine (m : q_Mem) : q_Res :=
  q_bd (f_Tape_isWord 0 m) fun v1 m2 =>
  if q_w v1 = 0 then (q_bd (f_Pars_refuse 1 (m2 1 3) m2) fun v14 m15 =>
  q_rz v14 m15)
  else (q_bd (f_Tape_step m2) fun _ m3 =>
  q_bd (f_Pars_passNumber 1 10 m3) fun v4 m5 =>
  if q_w v4 = 0 then (q_rz 0 m5)
  else (q_lt (m5 25 3) fun v6 => q_one q_Lp v6 <|
  q_pf m5 v6 0 (m5 25 9) fun m7 =>
  q_bd (f_Pars_passNumber 1 10 m7) fun v8 m9 =>
  if q_w v8 = 0 then (q_rz 0 m9)
  else (q_lt (m9 25 3) fun v10 => q_one q_Lp v10 <|
  q_pf m9 v10 1 (m9 25 9) fun m11 =>
  q_bd (f_Pars_pass 59 m11) fun v12 m13 =>
  q_rz v12 m13)))
set_option maxRecDepth 20000 in
theorem ok_X3_sizeLine {r : Int × q_Mem} {m : q_Mem} {N : Nat} (hN : 81 ≤ N) (h : f_Pars_sizeLine m = some r) : q_C md_X3_sizeLine (q_room 7) 0 0 [q_A 25] (q_g N) m (some (q_I r.1), q_g N, r.2) := by
  refine q_ofR (by decide) 0 (ls := [q_A 25]) rfl (Nat.le_of_ble_eq_true rfl) ?_
  change q_E md_X3_sizeLine 7 N (some 0) r m 0 [q_A 25] []
  unfold f_Pars_sizeLine at h
  refine q_aload_n (M := md_X3_sizeLine) (pc := 0) dX3_sizeLine_0 rfl (by decide) ?_
  refine q_getP (M := md_X3_sizeLine) (pc := 1) (v := 1) fl_3_22 dX3_sizeLine_1 (is_25 hN) rfl ?_
  refine e_ldcS (M := md_X3_sizeLine) (pc := 4) (i := 0) (tx := "size") dX3_sizeLine_4 (by decide) ?_
  refine e_callVi (M := md_X3_sizeLine) (pc := 6) (d' := 6) (av := [q_S 0]) (c := 1) h ml_3_62 im_X7_isWord se_X7_isWord dX3_sizeLine_6 (fun v he => ok_X7_isWord hN (by decide) he) rfl (is_1 hN) ⟨_, _, rfl⟩ (by decide) (Nat.le_of_ble_eq_true rfl) ⟨by decide, by decide⟩ rfl (fun v1 m2 h => ?_)
  refine e_if_ne (M := md_X3_sizeLine) (pc := 9) (tgt := 25) h rfl dX3_sizeLine_9 (by decide) (fun h => ?_) (fun h => ?_)
  · refine q_aload_n (M := md_X3_sizeLine) (pc := 25) dX3_sizeLine_25 rfl (by decide) ?_
    refine q_getP (M := md_X3_sizeLine) (pc := 26) (v := 1) fl_3_22 dX3_sizeLine_26 (is_25 hN) rfl ?_
    refine e_callVv (M := md_X3_sizeLine) (pc := 29) (d' := 2) (av := []) (c := 1) h ml_3_77 im_X7_step se_X7_step dX3_sizeLine_29 (fun v he => ok_X7_step hN  he) rfl (is_1 hN) ⟨_, _, rfl⟩ (by decide) (Nat.le_of_ble_eq_true rfl) ⟨by decide, by decide⟩ rfl (fun _ m3 h => ?_)
    refine q_aload_n (M := md_X3_sizeLine) (pc := 32) dX3_sizeLine_32 rfl (by decide) ?_
    refine q_iconst (M := md_X3_sizeLine) (pc := 33) dX3_sizeLine_33 ?_
    refine q_bipush (M := md_X3_sizeLine) (pc := 34) (x := 10) dX3_sizeLine_34 (by decide) ?_
    refine e_callVi (M := md_X3_sizeLine) (pc := 36) (d' := 3) (av := [q_I 1, q_I 10]) (c := 25) h ml_3_82 im_X3_passNumber se_X3_passNumber dX3_sizeLine_36 (fun v he => ok_X3_passNumber hN  he) rfl (is_25 hN) ⟨_, _, rfl⟩ (by decide) (Nat.le_of_ble_eq_true rfl) ⟨by decide, by decide⟩ rfl (fun v4 m5 h => ?_)
    refine e_if_ne (M := md_X3_sizeLine) (pc := 39) (tgt := 44) h rfl dX3_sizeLine_39 (by decide) (fun h => ?_) (fun h => ?_)
    · refine q_aload_n (M := md_X3_sizeLine) (pc := 44) dX3_sizeLine_44 rfl (by decide) ?_
      refine e_gR (M := md_X3_sizeLine) (pc := 45) h fl_3_26 dX3_sizeLine_45 (is_25 hN) rfl (fun v6 hv6 h => ?_)
      refine q_aload_n (M := md_X3_sizeLine) (pc := 48) dX3_sizeLine_48 rfl (by decide) ?_
      refine e_gI (M := md_X3_sizeLine) (pc := 49) (v := m5 25 9) fl_3_85 dX3_sizeLine_49 (is_25 hN) rfl ?_
      refine e_pfI (M := md_X3_sizeLine) (pc := 52) h fl_3_88 dX3_sizeLine_52 (is_Lp hN hv6) rfl (fun m7 h => ?_)
      refine q_aload_n (M := md_X3_sizeLine) (pc := 55) dX3_sizeLine_55 rfl (by decide) ?_
      refine q_iconst (M := md_X3_sizeLine) (pc := 56) dX3_sizeLine_56 ?_
      refine q_bipush (M := md_X3_sizeLine) (pc := 57) (x := 10) dX3_sizeLine_57 (by decide) ?_
      refine e_callVi (M := md_X3_sizeLine) (pc := 59) (d' := 3) (av := [q_I 1, q_I 10]) (c := 25) h ml_3_82 im_X3_passNumber se_X3_passNumber dX3_sizeLine_59 (fun v he => ok_X3_passNumber hN  he) rfl (is_25 hN) ⟨_, _, rfl⟩ (by decide) (Nat.le_of_ble_eq_true rfl) ⟨by decide, by decide⟩ rfl (fun v8 m9 h => ?_)
      refine e_if_ne (M := md_X3_sizeLine) (pc := 62) (tgt := 67) h rfl dX3_sizeLine_62 (by decide) (fun h => ?_) (fun h => ?_)
      · refine q_aload_n (M := md_X3_sizeLine) (pc := 67) dX3_sizeLine_67 rfl (by decide) ?_
        refine e_gR (M := md_X3_sizeLine) (pc := 68) h fl_3_26 dX3_sizeLine_68 (is_25 hN) rfl (fun v10 hv10 h => ?_)
        refine q_aload_n (M := md_X3_sizeLine) (pc := 71) dX3_sizeLine_71 rfl (by decide) ?_
        refine e_gI (M := md_X3_sizeLine) (pc := 72) (v := m9 25 9) fl_3_85 dX3_sizeLine_72 (is_25 hN) rfl ?_
        refine e_pfI (M := md_X3_sizeLine) (pc := 75) h fl_3_91 dX3_sizeLine_75 (is_Lp hN hv10) rfl (fun m11 h => ?_)
        refine q_aload_n (M := md_X3_sizeLine) (pc := 78) dX3_sizeLine_78 rfl (by decide) ?_
        refine q_bipush (M := md_X3_sizeLine) (pc := 79) (x := 59) dX3_sizeLine_79 (by decide) ?_
        refine e_callVi (M := md_X3_sizeLine) (pc := 81) (d' := 3) (av := [q_I 59]) (c := 25) h ml_3_94 im_X3_pass se_X3_pass dX3_sizeLine_81 (fun v he => ok_X3_pass hN  he) rfl (is_25 hN) ⟨_, _, rfl⟩ (by decide) (Nat.le_of_ble_eq_true rfl) ⟨by decide, by decide⟩ rfl (fun v12 m13 h => ?_)
        exact e_zret (M := md_X3_sizeLine) (pc := 84) h rfl dX3_sizeLine_84
      · refine q_iconst (M := md_X3_sizeLine) (pc := 65) dX3_sizeLine_65 ?_
        exact e_zret (M := md_X3_sizeLine) (pc := 66) h rfl dX3_sizeLine_66
    · refine q_iconst (M := md_X3_sizeLine) (pc := 42) dX3_sizeLine_42 ?_
      exact e_zret (M := md_X3_sizeLine) (pc := 43) h rfl dX3_sizeLine_43
  · refine q_aload_n (M := md_X3_sizeLine) (pc := 12) dX3_sizeLine_12 rfl (by decide) ?_
    refine q_iconst (M := md_X3_sizeLine) (pc := 13) dX3_sizeLine_13 ?_
    refine q_aload_n (M := md_X3_sizeLine) (pc := 14) dX3_sizeLine_14 rfl (by decide) ?_
    refine q_getP (M := md_X3_sizeLine) (pc := 15) (v := 1) fl_3_22 dX3_sizeLine_15 (is_25 hN) rfl ?_
    refine e_gI (M := md_X3_sizeLine) (pc := 18) (v := m2 1 3) fl_3_72 dX3_sizeLine_18 (is_1 hN) rfl ?_
    refine e_callVi (M := md_X3_sizeLine) (pc := 21) (d' := 1) (av := [q_I 1, q_I (m2 1 3)]) (c := 25) h ml_3_73 im_X3_refuse se_X3_refuse dX3_sizeLine_21 (fun v he => ok_X3_refuse hN  he) rfl (is_25 hN) ⟨_, _, rfl⟩ (by decide) (Nat.le_of_ble_eq_true rfl) ⟨by decide, by decide⟩ rfl (fun v14 m15 h => ?_)
    exact e_zret (M := md_X3_sizeLine) (pc := 24) h rfl dX3_sizeLine_24
def f_Tape_isName (m : q_Mem) : q_Res :=
  if q_w (m 1 2) = 3 then (q_bd (f_Tape_isWord 2 m) fun v1 m2 =>
  if q_w v1 = 0 then (q_bd (f_Tape_isWord 3 m2) fun v3 m4 =>
  if q_w v3 = 0 then (q_bd (f_Tape_isWord 4 m4) fun v5 m6 =>
  if q_w v5 = 0 then (q_bd (f_Tape_isWord 5 m6) fun v7 m8 =>
  if q_w v7 = 0 then (q_bd (f_Tape_isWord 6 m8) fun v9 m10 =>
  if q_w v9 = 0 then (q_bd (f_Tape_isWord 7 m10) fun v11 m12 =>
  if q_w v11 = 0 then (q_bd (f_Tape_isWord 8 m12) fun v13 m14 =>
  if q_w v13 = 0 then (q_rz 1 m14)
  else (q_rz 0 m14))
  else (q_rz 0 m12))
  else (q_rz 0 m10))
  else (q_rz 0 m8))
  else (q_rz 0 m6))
  else (q_rz 0 m4))
  else (q_rz 0 m2))
  else (q_rz 0 m)
set_option maxRecDepth 20000 in
theorem ok_X7_isName {r : Int × q_Mem} {m : q_Mem} {N : Nat} (hN : 81 ≤ N) (h : f_Tape_isName m = some r) : q_C md_X7_isName (q_room 7) 0 0 [q_A 1] (q_g N) m (some (q_I r.1), q_g N, r.2) := by
  refine q_ofR (by decide) 0 (ls := [q_A 1]) rfl (Nat.le_of_ble_eq_true rfl) ?_
  change q_E md_X7_isName 7 N (some 0) r m 0 [q_A 1] []
  unfold f_Tape_isName at h
  refine q_aload_n (M := md_X7_isName) (pc := 0) dX7_isName_0 rfl (by decide) ?_
  refine e_gI (M := md_X7_isName) (pc := 1) (v := m 1 2) fl_7_30 dX7_isName_1 (is_1 hN) rfl ?_
  refine q_iconst (M := md_X7_isName) (pc := 4) dX7_isName_4 ?_
  refine e_icmp_ne (M := md_X7_isName) (pc := 5) (tgt := 75) h rfl (q_wlit rfl) dX7_isName_5 (by decide) (fun h => ?_) (fun h => ?_)
  · refine q_iconst (M := md_X7_isName) (pc := 75) dX7_isName_75 ?_
    exact e_zret (M := md_X7_isName) (pc := 76) h rfl dX7_isName_76
  · refine q_aload_n (M := md_X7_isName) (pc := 8) dX7_isName_8 rfl (by decide) ?_
    refine e_ldcS (M := md_X7_isName) (pc := 9) (i := 2) (tx := "size") dX7_isName_9 (by decide) ?_
    refine e_callVi (M := md_X7_isName) (pc := 11) (d' := 6) (av := [q_S 2]) (c := 1) h ml_7_51 im_X7_isWord se_X7_isWord dX7_isName_11 (fun v he => ok_X7_isWord hN (by decide) he) rfl (is_1 hN) ⟨_, _, rfl⟩ (by decide) (Nat.le_of_ble_eq_true rfl) ⟨by decide, by decide⟩ rfl (fun v1 m2 h => ?_)
    refine e_if_ne (M := md_X7_isName) (pc := 14) (tgt := 75) h rfl dX7_isName_14 (by decide) (fun h => ?_) (fun h => ?_)
    · refine q_iconst (M := md_X7_isName) (pc := 75) dX7_isName_75 ?_
      exact e_zret (M := md_X7_isName) (pc := 76) h rfl dX7_isName_76
    · refine q_aload_n (M := md_X7_isName) (pc := 17) dX7_isName_17 rfl (by decide) ?_
      refine e_ldcS (M := md_X7_isName) (pc := 18) (i := 3) (tx := "let") dX7_isName_18 (by decide) ?_
      refine e_callVi (M := md_X7_isName) (pc := 20) (d' := 6) (av := [q_S 3]) (c := 1) h ml_7_51 im_X7_isWord se_X7_isWord dX7_isName_20 (fun v he => ok_X7_isWord hN (by decide) he) rfl (is_1 hN) ⟨_, _, rfl⟩ (by decide) (Nat.le_of_ble_eq_true rfl) ⟨by decide, by decide⟩ rfl (fun v3 m4 h => ?_)
      refine e_if_ne (M := md_X7_isName) (pc := 23) (tgt := 75) h rfl dX7_isName_23 (by decide) (fun h => ?_) (fun h => ?_)
      · refine q_iconst (M := md_X7_isName) (pc := 75) dX7_isName_75 ?_
        exact e_zret (M := md_X7_isName) (pc := 76) h rfl dX7_isName_76
      · refine q_aload_n (M := md_X7_isName) (pc := 26) dX7_isName_26 rfl (by decide) ?_
        refine e_ldcS (M := md_X7_isName) (pc := 27) (i := 4) (tx := "fire") dX7_isName_27 (by decide) ?_
        refine e_callVi (M := md_X7_isName) (pc := 29) (d' := 6) (av := [q_S 4]) (c := 1) h ml_7_51 im_X7_isWord se_X7_isWord dX7_isName_29 (fun v he => ok_X7_isWord hN (by decide) he) rfl (is_1 hN) ⟨_, _, rfl⟩ (by decide) (Nat.le_of_ble_eq_true rfl) ⟨by decide, by decide⟩ rfl (fun v5 m6 h => ?_)
        refine e_if_ne (M := md_X7_isName) (pc := 32) (tgt := 75) h rfl dX7_isName_32 (by decide) (fun h => ?_) (fun h => ?_)
        · refine q_iconst (M := md_X7_isName) (pc := 75) dX7_isName_75 ?_
          exact e_zret (M := md_X7_isName) (pc := 76) h rfl dX7_isName_76
        · refine q_aload_n (M := md_X7_isName) (pc := 35) dX7_isName_35 rfl (by decide) ?_
          refine e_ldcS (M := md_X7_isName) (pc := 36) (i := 5) (tx := "onto") dX7_isName_36 (by decide) ?_
          refine e_callVi (M := md_X7_isName) (pc := 38) (d' := 6) (av := [q_S 5]) (c := 1) h ml_7_51 im_X7_isWord se_X7_isWord dX7_isName_38 (fun v he => ok_X7_isWord hN (by decide) he) rfl (is_1 hN) ⟨_, _, rfl⟩ (by decide) (Nat.le_of_ble_eq_true rfl) ⟨by decide, by decide⟩ rfl (fun v7 m8 h => ?_)
          refine e_if_ne (M := md_X7_isName) (pc := 41) (tgt := 75) h rfl dX7_isName_41 (by decide) (fun h => ?_) (fun h => ?_)
          · refine q_iconst (M := md_X7_isName) (pc := 75) dX7_isName_75 ?_
            exact e_zret (M := md_X7_isName) (pc := 76) h rfl dX7_isName_76
          · refine q_aload_n (M := md_X7_isName) (pc := 44) dX7_isName_44 rfl (by decide) ?_
            refine e_ldcS (M := md_X7_isName) (pc := 45) (i := 6) (tx := "edge") dX7_isName_45 (by decide) ?_
            refine e_callVi (M := md_X7_isName) (pc := 47) (d' := 6) (av := [q_S 6]) (c := 1) h ml_7_51 im_X7_isWord se_X7_isWord dX7_isName_47 (fun v he => ok_X7_isWord hN (by decide) he) rfl (is_1 hN) ⟨_, _, rfl⟩ (by decide) (Nat.le_of_ble_eq_true rfl) ⟨by decide, by decide⟩ rfl (fun v9 m10 h => ?_)
            refine e_if_ne (M := md_X7_isName) (pc := 50) (tgt := 75) h rfl dX7_isName_50 (by decide) (fun h => ?_) (fun h => ?_)
            · refine q_iconst (M := md_X7_isName) (pc := 75) dX7_isName_75 ?_
              exact e_zret (M := md_X7_isName) (pc := 76) h rfl dX7_isName_76
            · refine q_aload_n (M := md_X7_isName) (pc := 53) dX7_isName_53 rfl (by decide) ?_
              refine e_ldcS (M := md_X7_isName) (pc := 54) (i := 7) (tx := "i") dX7_isName_54 (by decide) ?_
              refine e_callVi (M := md_X7_isName) (pc := 56) (d' := 6) (av := [q_S 7]) (c := 1) h ml_7_51 im_X7_isWord se_X7_isWord dX7_isName_56 (fun v he => ok_X7_isWord hN (by decide) he) rfl (is_1 hN) ⟨_, _, rfl⟩ (by decide) (Nat.le_of_ble_eq_true rfl) ⟨by decide, by decide⟩ rfl (fun v11 m12 h => ?_)
              refine e_if_ne (M := md_X7_isName) (pc := 59) (tgt := 75) h rfl dX7_isName_59 (by decide) (fun h => ?_) (fun h => ?_)
              · refine q_iconst (M := md_X7_isName) (pc := 75) dX7_isName_75 ?_
                exact e_zret (M := md_X7_isName) (pc := 76) h rfl dX7_isName_76
              · refine q_aload_n (M := md_X7_isName) (pc := 62) dX7_isName_62 rfl (by decide) ?_
                refine e_ldcS (M := md_X7_isName) (pc := 63) (i := 8) (tx := "j") dX7_isName_63 (by decide) ?_
                refine e_callVi (M := md_X7_isName) (pc := 65) (d' := 6) (av := [q_S 8]) (c := 1) h ml_7_51 im_X7_isWord se_X7_isWord dX7_isName_65 (fun v he => ok_X7_isWord hN (by decide) he) rfl (is_1 hN) ⟨_, _, rfl⟩ (by decide) (Nat.le_of_ble_eq_true rfl) ⟨by decide, by decide⟩ rfl (fun v13 m14 h => ?_)
                refine e_if_ne (M := md_X7_isName) (pc := 68) (tgt := 75) h rfl dX7_isName_68 (by decide) (fun h => ?_) (fun h => ?_)
                · refine q_iconst (M := md_X7_isName) (pc := 75) dX7_isName_75 ?_
                  exact e_zret (M := md_X7_isName) (pc := 76) h rfl dX7_isName_76
                · refine q_iconst (M := md_X7_isName) (pc := 71) dX7_isName_71 ?_
                  refine q_goto (M := md_X7_isName) (pc := 72) (tgt := 76) dX7_isName_72 (by decide) ?_
                  exact e_zret (M := md_X7_isName) (pc := 76) h rfl dX7_isName_76
def f_Tape_isSameAs_b19 (k19 : Int → Int → Int → q_Mem → q_Res) (l1 l2 l3 : Int) (m : q_Mem) : q_Res :=
  if q_w (l2 - l1) ≤ q_w l3 then (q_rz 1 m)
  else (q_rd m 2 800 (l1 + l3) fun v1 =>
  q_rd m 2 800 ((m 1 3) + l3) fun v2 =>
  if q_w v1 = q_w v2 then (k19 l1 l2 (l3 + 1) m)
  else (q_rz 0 m))
set_option maxRecDepth 20000 in
theorem w_Tape_isSameAs_b19 {k19 : Int → Int → Int → q_Mem → q_Res} {l1 l2 l3 : Int} {r : Int × q_Mem} {m : q_Mem} {N : Nat} (hN : 81 ≤ N) (hk19 : ∀ (l1 l2 l3 : Int) (m : q_Mem), k19 l1 l2 l3 m = some r → q_E md_X7_isSameAs 1 N (some 0) r m 19 [q_A 1, q_I l1, q_I l2, q_I l3] []) (h : f_Tape_isSameAs_b19 k19 l1 l2 l3 m = some r) : q_E md_X7_isSameAs 1 N (some 0) r m 19 [q_A 1, q_I l1, q_I l2, q_I l3] [] := by
  unfold f_Tape_isSameAs_b19 at h
  refine q_iload_n (M := md_X7_isSameAs) (pc := 19) dX7_isSameAs_19 rfl ?_
  refine q_iload_n (M := md_X7_isSameAs) (pc := 20) dX7_isSameAs_20 rfl ?_
  refine q_iload_n (M := md_X7_isSameAs) (pc := 21) dX7_isSameAs_21 rfl ?_
  refine q_isub (M := md_X7_isSameAs) (pc := 22) dX7_isSameAs_22 ?_
  refine e_icmp_ge (M := md_X7_isSameAs) (pc := 23) (tgt := 56) h rfl rfl dX7_isSameAs_23 (by decide) (fun h => ?_) (fun h => ?_)
  · refine q_iconst (M := md_X7_isSameAs) (pc := 56) dX7_isSameAs_56 ?_
    exact e_zret (M := md_X7_isSameAs) (pc := 57) h rfl dX7_isSameAs_57
  · refine q_aload_n (M := md_X7_isSameAs) (pc := 26) dX7_isSameAs_26 rfl (by decide) ?_
    refine q_getP (M := md_X7_isSameAs) (pc := 27) (v := 2) fl_7_9 dX7_isSameAs_27 (is_1 hN) rfl ?_
    refine q_iload_n (M := md_X7_isSameAs) (pc := 30) dX7_isSameAs_30 rfl ?_
    refine q_iload_n (M := md_X7_isSameAs) (pc := 31) dX7_isSameAs_31 rfl ?_
    refine q_iadd (M := md_X7_isSameAs) (pc := 32) dX7_isSameAs_32 ?_
    refine e_rdb (M := md_X7_isSameAs) (pc := 33) h dX7_isSameAs_33 (ar_2 hN) (fun v1 h => ?_)
    refine q_aload_n (M := md_X7_isSameAs) (pc := 34) dX7_isSameAs_34 rfl (by decide) ?_
    refine q_getP (M := md_X7_isSameAs) (pc := 35) (v := 2) fl_7_9 dX7_isSameAs_35 (is_1 hN) rfl ?_
    refine q_aload_n (M := md_X7_isSameAs) (pc := 38) dX7_isSameAs_38 rfl (by decide) ?_
    refine e_gI (M := md_X7_isSameAs) (pc := 39) (v := m 1 3) fl_7_27 dX7_isSameAs_39 (is_1 hN) rfl ?_
    refine q_iload_n (M := md_X7_isSameAs) (pc := 42) dX7_isSameAs_42 rfl ?_
    refine q_iadd (M := md_X7_isSameAs) (pc := 43) dX7_isSameAs_43 ?_
    refine e_rdb (M := md_X7_isSameAs) (pc := 44) h dX7_isSameAs_44 (ar_2 hN) (fun v2 h => ?_)
    refine e_icmp_eq (M := md_X7_isSameAs) (pc := 45) (tgt := 50) h rfl rfl dX7_isSameAs_45 (by decide) (fun h => ?_) (fun h => ?_)
    · refine e_inc (M := md_X7_isSameAs) (pc := 50) (x := l3) (ls' := [q_A 1, q_I l1, q_I l2, q_I (l3 + 1)]) dX7_isSameAs_50 rfl (by decide) (q_pl rfl) rfl ?_
      refine q_goto (M := md_X7_isSameAs) (pc := 53) (tgt := 19) dX7_isSameAs_53 (by decide) ?_
      exact q_weak (hk19 _ _ _ _  h) ⟨Or.inr rfl, Or.inr rfl, Or.inr rfl, Or.inr rfl, trivial⟩
    · refine q_iconst (M := md_X7_isSameAs) (pc := 48) dX7_isSameAs_48 ?_
      exact e_zret (M := md_X7_isSameAs) (pc := 49) h rfl dX7_isSameAs_49
def f_Tape_isSameAs_l19 : Nat → Int → Int → Int → q_Mem → q_Res
  | 0 => fun _ _ _ _ => none
  | n + 1 => fun l1 l2 l3 m => f_Tape_isSameAs_b19 (f_Tape_isSameAs_l19 n) l1 l2 l3 m
theorem w_Tape_isSameAs_l19 {r : Int × q_Mem} {N : Nat} (hN : 81 ≤ N) : ∀ (n : Nat) (l1 l2 l3 : Int) (m : q_Mem), f_Tape_isSameAs_l19 n l1 l2 l3 m = some r → q_E md_X7_isSameAs 1 N (some 0) r m 19 [q_A 1, q_I l1, q_I l2, q_I l3] [] := by
  intro n
  induction n with
  | zero => intro l1 l2 l3 m h; exact q_no h
  | succ n ih =>
    intro l1 l2 l3 m h
    exact w_Tape_isSameAs_b19 hN (fun l1 l2 l3 m h => ih l1 l2 l3 m h) h
def f_Tape_isSameAs (l1 l2 : Int) (m : q_Mem) : q_Res :=
  if q_w (l2 - l1) = q_w ((m 1 4) - (m 1 3)) then (f_Tape_isSameAs_l19 q_F l1 l2 0 m)
  else (q_rz 0 m)
set_option maxRecDepth 20000 in
theorem ok_X7_isSameAs {l1 l2 : Int} {r : Int × q_Mem} {m : q_Mem} {N : Nat} (hN : 81 ≤ N) (h : f_Tape_isSameAs l1 l2 m = some r) : q_C md_X7_isSameAs (q_room 1) 0 0 [q_A 1, q_I l1, q_I l2] (q_g N) m (some (q_I r.1), q_g N, r.2) := by
  refine q_ofR (by decide) 1 (ls := [q_A 1, q_I l1, q_I l2, q_N]) rfl (Nat.le_of_ble_eq_true rfl) ?_
  change q_E md_X7_isSameAs 1 N (some 0) r m 0 [q_A 1, q_I l1, q_I l2, q_N] []
  unfold f_Tape_isSameAs at h
  refine q_iload_n (M := md_X7_isSameAs) (pc := 0) dX7_isSameAs_0 rfl ?_
  refine q_iload_n (M := md_X7_isSameAs) (pc := 1) dX7_isSameAs_1 rfl ?_
  refine q_isub (M := md_X7_isSameAs) (pc := 2) dX7_isSameAs_2 ?_
  refine q_aload_n (M := md_X7_isSameAs) (pc := 3) dX7_isSameAs_3 rfl (by decide) ?_
  refine e_gI (M := md_X7_isSameAs) (pc := 4) (v := m 1 4) fl_7_17 dX7_isSameAs_4 (is_1 hN) rfl ?_
  refine q_aload_n (M := md_X7_isSameAs) (pc := 7) dX7_isSameAs_7 rfl (by decide) ?_
  refine e_gI (M := md_X7_isSameAs) (pc := 8) (v := m 1 3) fl_7_27 dX7_isSameAs_8 (is_1 hN) rfl ?_
  refine q_isub (M := md_X7_isSameAs) (pc := 11) dX7_isSameAs_11 ?_
  refine e_icmp_eq (M := md_X7_isSameAs) (pc := 12) (tgt := 17) h rfl rfl dX7_isSameAs_12 (by decide) (fun h => ?_) (fun h => ?_)
  · refine q_iconst (M := md_X7_isSameAs) (pc := 17) dX7_isSameAs_17 ?_
    refine e_ist_n (M := md_X7_isSameAs) (pc := 18) (ls' := [q_A 1, q_I l1, q_I l2, q_I 0]) dX7_isSameAs_18 (by decide) (q_pl rfl) rfl ?_
    exact q_weak (w_Tape_isSameAs_l19 hN q_F _ _ _ _  h) ⟨Or.inr rfl, Or.inr rfl, Or.inr rfl, Or.inr rfl, trivial⟩
  · refine q_iconst (M := md_X7_isSameAs) (pc := 15) dX7_isSameAs_15 ?_
    exact e_zret (M := md_X7_isSameAs) (pc := 16) h rfl dX7_isSameAs_16
def f_Pars_named_b2 (k2 : Int → q_Mem → q_Res) (l1 : Int) (m : q_Mem) : q_Res :=
  q_lt (m 25 3) fun v1 => q_one q_Lp v1 <|
  if q_w (m v1 2) ≤ q_w l1 then (q_rt (-1) m)
  else (q_rd m 26 3 l1 fun v2 =>
  q_rd m 27 3 l1 fun v3 =>
  q_bd (f_Tape_isSameAs v2 v3 m) fun v4 m5 =>
  if q_w v4 = 0 then (k2 (l1 + 1) m5)
  else (q_rt l1 m5))
set_option maxRecDepth 20000 in
theorem w_Pars_named_b2 {k2 : Int → q_Mem → q_Res} {l1 : Int} {r : Int × q_Mem} {m : q_Mem} {N : Nat} (hN : 81 ≤ N) (hk2 : ∀ (l1 : Int) (m : q_Mem), k2 l1 m = some r → q_E md_X3_named 2 N (some 0) r m 2 [q_A 25, q_I l1] []) (h : f_Pars_named_b2 k2 l1 m = some r) : q_E md_X3_named 2 N (some 0) r m 2 [q_A 25, q_I l1] [] := by
  unfold f_Pars_named_b2 at h
  refine q_iload_n (M := md_X3_named) (pc := 2) dX3_named_2 rfl ?_
  refine q_aload_n (M := md_X3_named) (pc := 3) dX3_named_3 rfl (by decide) ?_
  refine e_gR (M := md_X3_named) (pc := 4) h fl_3_26 dX3_named_4 (is_25 hN) rfl (fun v1 hv1 h => ?_)
  refine e_gI (M := md_X3_named) (pc := 7) (v := m v1 2) fl_3_133 dX3_named_7 (is_Lp hN hv1) rfl ?_
  refine e_icmp_ge (M := md_X3_named) (pc := 10) (tgt := 43) h rfl rfl dX3_named_10 (by decide) (fun h => ?_) (fun h => ?_)
  · refine q_iconst (M := md_X3_named) (pc := 43) dX3_named_43 ?_
    exact e_iret (M := md_X3_named) (pc := 44) h rfl dX3_named_44
  · refine q_aload_n (M := md_X3_named) (pc := 13) dX3_named_13 rfl (by decide) ?_
    refine q_getP (M := md_X3_named) (pc := 14) (v := 1) fl_3_22 dX3_named_14 (is_25 hN) rfl ?_
    refine q_aload_n (M := md_X3_named) (pc := 17) dX3_named_17 rfl (by decide) ?_
    refine q_getP (M := md_X3_named) (pc := 18) (v := 26) fl_3_9 dX3_named_18 (is_25 hN) rfl ?_
    refine q_iload_n (M := md_X3_named) (pc := 21) dX3_named_21 rfl ?_
    refine e_rd (M := md_X3_named) (pc := 22) h dX3_named_22 (ar_26 hN) (fun v2 h => ?_)
    refine q_aload_n (M := md_X3_named) (pc := 23) dX3_named_23 rfl (by decide) ?_
    refine q_getP (M := md_X3_named) (pc := 24) (v := 27) fl_3_15 dX3_named_24 (is_25 hN) rfl ?_
    refine q_iload_n (M := md_X3_named) (pc := 27) dX3_named_27 rfl ?_
    refine e_rd (M := md_X3_named) (pc := 28) h dX3_named_28 (ar_27 hN) (fun v3 h => ?_)
    refine e_callVi (M := md_X3_named) (pc := 29) (d' := 1) (av := [q_I v2, q_I v3]) (c := 1) h ml_3_155 im_X7_isSameAs se_X7_isSameAs dX3_named_29 (fun v he => ok_X7_isSameAs hN  he) rfl (is_1 hN) ⟨_, _, rfl⟩ (by decide) (Nat.le_of_ble_eq_true rfl) ⟨by decide, by decide⟩ rfl (fun v4 m5 h => ?_)
    refine e_if_eq (M := md_X3_named) (pc := 32) (tgt := 37) h rfl dX3_named_32 (by decide) (fun h => ?_) (fun h => ?_)
    · refine e_inc (M := md_X3_named) (pc := 37) (x := l1) (ls' := [q_A 25, q_I (l1 + 1)]) dX3_named_37 rfl (by decide) (q_pl rfl) rfl ?_
      refine q_goto (M := md_X3_named) (pc := 40) (tgt := 2) dX3_named_40 (by decide) ?_
      exact q_weak (hk2 _ _  h) ⟨Or.inr rfl, Or.inr rfl, trivial⟩
    · refine q_iload_n (M := md_X3_named) (pc := 35) dX3_named_35 rfl ?_
      exact e_iret (M := md_X3_named) (pc := 36) h rfl dX3_named_36
def f_Pars_named_l2 : Nat → Int → q_Mem → q_Res
  | 0 => fun _ _ => none
  | n + 1 => fun l1 m => f_Pars_named_b2 (f_Pars_named_l2 n) l1 m
theorem w_Pars_named_l2 {r : Int × q_Mem} {N : Nat} (hN : 81 ≤ N) : ∀ (n : Nat) (l1 : Int) (m : q_Mem), f_Pars_named_l2 n l1 m = some r → q_E md_X3_named 2 N (some 0) r m 2 [q_A 25, q_I l1] [] := by
  intro n
  induction n with
  | zero => intro l1 m h; exact q_no h
  | succ n ih =>
    intro l1 m h
    exact w_Pars_named_b2 hN (fun l1 m h => ih l1 m h) h
def f_Pars_named (m : q_Mem) : q_Res :=
  f_Pars_named_l2 q_F 0 m
set_option maxRecDepth 20000 in
theorem ok_X3_named {r : Int × q_Mem} {m : q_Mem} {N : Nat} (hN : 81 ≤ N) (h : f_Pars_named m = some r) : q_C md_X3_named (q_room 2) 0 0 [q_A 25] (q_g N) m (some (q_I r.1), q_g N, r.2) := by
  refine q_ofR (by decide) 1 (ls := [q_A 25, q_N]) rfl (Nat.le_of_ble_eq_true rfl) ?_
  change q_E md_X3_named 2 N (some 0) r m 0 [q_A 25, q_N] []
  unfold f_Pars_named at h
  refine q_iconst (M := md_X3_named) (pc := 0) dX3_named_0 ?_
  refine e_ist_n (M := md_X3_named) (pc := 1) (ls' := [q_A 25, q_I 0]) dX3_named_1 (by decide) (q_pl rfl) rfl ?_
  exact q_weak (w_Pars_named_l2 hN q_F _ _  h) ⟨Or.inr rfl, Or.inr rfl, trivial⟩
def f_Pars_unitFault_b168 (s0 : Int) (m : q_Mem) : q_Res :=
  if q_w s0 = 0 then (q_rt 0 m)
  else (q_rt 4 m)
set_option maxRecDepth 20000 in
theorem w_Pars_unitFault_b168 {s0 : Int} {r : Int × q_Mem} {m : q_Mem} {N : Nat} (hN : 81 ≤ N) (h : f_Pars_unitFault_b168 s0 m = some r) : q_E md_X3_unitFault 8 N (some 0) r m 168 [q_N, q_N, q_N, q_N, q_N] [q_I s0] := by
  unfold f_Pars_unitFault_b168 at h
  refine e_ist (M := md_X3_unitFault) (pc := 168) (ls' := [q_N, q_N, q_N, q_N, q_I s0]) dX3_unitFault_168 (by decide) (q_pl rfl) rfl ?_
  refine q_iload (M := md_X3_unitFault) (pc := 170) dX3_unitFault_170 rfl ?_
  refine e_if_eq (M := md_X3_unitFault) (pc := 172) (tgt := 179) h rfl dX3_unitFault_172 (by decide) (fun h => ?_) (fun h => ?_)
  · refine q_iconst (M := md_X3_unitFault) (pc := 179) dX3_unitFault_179 ?_
    exact e_iret (M := md_X3_unitFault) (pc := 180) h rfl dX3_unitFault_180
  · refine q_iconst (M := md_X3_unitFault) (pc := 175) dX3_unitFault_175 ?_
    refine q_goto (M := md_X3_unitFault) (pc := 176) (tgt := 180) dX3_unitFault_176 (by decide) ?_
    exact e_iret (M := md_X3_unitFault) (pc := 180) h rfl dX3_unitFault_180
def f_Pars_unitFault_b163 (m : q_Mem) : q_Res :=
  f_Pars_unitFault_b168 1 m
set_option maxRecDepth 20000 in
theorem w_Pars_unitFault_b163 {r : Int × q_Mem} {m : q_Mem} {N : Nat} (hN : 81 ≤ N) (h : f_Pars_unitFault_b163 m = some r) : q_E md_X3_unitFault 8 N (some 0) r m 163 [q_N, q_N, q_N, q_N, q_N] [] := by
  unfold f_Pars_unitFault_b163 at h
  refine q_iconst (M := md_X3_unitFault) (pc := 163) dX3_unitFault_163 ?_
  refine q_goto (M := md_X3_unitFault) (pc := 164) (tgt := 168) dX3_unitFault_164 (by decide) ?_
  exact q_weak (w_Pars_unitFault_b168 hN  h) ⟨Or.inl rfl, Or.inl rfl, Or.inl rfl, Or.inl rfl, Or.inl rfl, trivial⟩
def f_Pars_unitFault_b167 (m : q_Mem) : q_Res :=
  f_Pars_unitFault_b168 0 m
set_option maxRecDepth 20000 in
theorem w_Pars_unitFault_b167 {r : Int × q_Mem} {m : q_Mem} {N : Nat} (hN : 81 ≤ N) (h : f_Pars_unitFault_b167 m = some r) : q_E md_X3_unitFault 8 N (some 0) r m 167 [q_N, q_N, q_N, q_N, q_N] [] := by
  unfold f_Pars_unitFault_b167 at h
  refine q_iconst (M := md_X3_unitFault) (pc := 167) dX3_unitFault_167 ?_
  exact q_weak (w_Pars_unitFault_b168 hN  h) ⟨Or.inl rfl, Or.inl rfl, Or.inl rfl, Or.inl rfl, Or.inl rfl, trivial⟩
def f_Pars_unitFault_b130 (l1 l2 : Int) (m : q_Mem) : q_Res :=
  q_lt (m 25 3) fun v1 => q_one q_Lp v1 <|
  if 40 ≤ q_w (m v1 3) then (f_Pars_unitFault_b163 m)
  else (if 4 < q_w l1 then (f_Pars_unitFault_b163 m)
  else (if q_w l2 = 0 then (f_Pars_unitFault_b167 m)
  else (q_lt (m 25 3) fun v2 => q_one q_Lp v2 <|
  if q_w (m v2 4) < 12 then (f_Pars_unitFault_b167 m)
  else (f_Pars_unitFault_b163 m))))
set_option maxRecDepth 20000 in
theorem w_Pars_unitFault_b130 {l1 l2 : Int} {r : Int × q_Mem} {m : q_Mem} {N : Nat} (hN : 81 ≤ N) (h : f_Pars_unitFault_b130 l1 l2 m = some r) : q_E md_X3_unitFault 8 N (some 0) r m 130 [q_A 25, q_I l1, q_I l2, q_N, q_N] [] := by
  unfold f_Pars_unitFault_b130 at h
  refine q_aload_n (M := md_X3_unitFault) (pc := 130) dX3_unitFault_130 rfl (by decide) ?_
  refine e_gR (M := md_X3_unitFault) (pc := 131) h fl_3_26 dX3_unitFault_131 (is_25 hN) rfl (fun v1 hv1 h => ?_)
  refine e_gI (M := md_X3_unitFault) (pc := 134) (v := m v1 3) fl_3_172 dX3_unitFault_134 (is_Lp hN hv1) rfl ?_
  refine q_bipush (M := md_X3_unitFault) (pc := 137) (x := 40) dX3_unitFault_137 (by decide) ?_
  refine e_icmp_ge (M := md_X3_unitFault) (pc := 139) (tgt := 163) h rfl (q_wlit rfl) dX3_unitFault_139 (by decide) (fun h => ?_) (fun h => ?_)
  · exact q_weak (w_Pars_unitFault_b163 hN  h) ⟨Or.inl rfl, Or.inl rfl, Or.inl rfl, Or.inl rfl, Or.inl rfl, trivial⟩
  · refine q_iload_n (M := md_X3_unitFault) (pc := 142) dX3_unitFault_142 rfl ?_
    refine q_iconst (M := md_X3_unitFault) (pc := 143) dX3_unitFault_143 ?_
    refine e_icmp_gt (M := md_X3_unitFault) (pc := 144) (tgt := 163) h rfl (q_wlit rfl) dX3_unitFault_144 (by decide) (fun h => ?_) (fun h => ?_)
    · exact q_weak (w_Pars_unitFault_b163 hN  h) ⟨Or.inl rfl, Or.inl rfl, Or.inl rfl, Or.inl rfl, Or.inl rfl, trivial⟩
    · refine q_iload_n (M := md_X3_unitFault) (pc := 147) dX3_unitFault_147 rfl ?_
      refine e_if_eq (M := md_X3_unitFault) (pc := 148) (tgt := 167) h rfl dX3_unitFault_148 (by decide) (fun h => ?_) (fun h => ?_)
      · exact q_weak (w_Pars_unitFault_b167 hN  h) ⟨Or.inl rfl, Or.inl rfl, Or.inl rfl, Or.inl rfl, Or.inl rfl, trivial⟩
      · refine q_aload_n (M := md_X3_unitFault) (pc := 151) dX3_unitFault_151 rfl (by decide) ?_
        refine e_gR (M := md_X3_unitFault) (pc := 152) h fl_3_26 dX3_unitFault_152 (is_25 hN) rfl (fun v2 hv2 h => ?_)
        refine e_gI (M := md_X3_unitFault) (pc := 155) (v := m v2 4) fl_3_191 dX3_unitFault_155 (is_Lp hN hv2) rfl ?_
        refine q_bipush (M := md_X3_unitFault) (pc := 158) (x := 12) dX3_unitFault_158 (by decide) ?_
        refine e_icmp_lt (M := md_X3_unitFault) (pc := 160) (tgt := 167) h rfl (q_wlit rfl) dX3_unitFault_160 (by decide) (fun h => ?_) (fun h => ?_)
        · exact q_weak (w_Pars_unitFault_b167 hN  h) ⟨Or.inl rfl, Or.inl rfl, Or.inl rfl, Or.inl rfl, Or.inl rfl, trivial⟩
        · exact q_weak (w_Pars_unitFault_b163 hN  h) ⟨Or.inl rfl, Or.inl rfl, Or.inl rfl, Or.inl rfl, Or.inl rfl, trivial⟩
def f_Pars_unitFault_b109 (l1 l2 : Int) (m : q_Mem) : q_Res :=
  if q_w l2 = 0 then (f_Pars_unitFault_b130 l1 l2 m)
  else (if q_w (m 25 8) = 0 then (q_bd (f_Pars_named m) fun v1 m2 =>
  if q_w v1 = (-1) then (q_rt 3 m2)
  else (f_Pars_unitFault_b130 l1 l2 m2))
  else (q_rt 3 m))
set_option maxRecDepth 20000 in
theorem w_Pars_unitFault_b109 {l1 l2 : Int} {r : Int × q_Mem} {m : q_Mem} {N : Nat} (hN : 81 ≤ N) (h : f_Pars_unitFault_b109 l1 l2 m = some r) : q_E md_X3_unitFault 8 N (some 0) r m 109 [q_A 25, q_I l1, q_I l2, q_N, q_N] [] := by
  unfold f_Pars_unitFault_b109 at h
  refine q_iload_n (M := md_X3_unitFault) (pc := 109) dX3_unitFault_109 rfl ?_
  refine e_if_eq (M := md_X3_unitFault) (pc := 110) (tgt := 130) h rfl dX3_unitFault_110 (by decide) (fun h => ?_) (fun h => ?_)
  · exact q_weak (w_Pars_unitFault_b130 hN  h) ⟨Or.inr rfl, Or.inr rfl, Or.inr rfl, Or.inl rfl, Or.inl rfl, trivial⟩
  · refine q_aload_n (M := md_X3_unitFault) (pc := 113) dX3_unitFault_113 rfl (by decide) ?_
    refine e_gI (M := md_X3_unitFault) (pc := 114) (v := m 25 8) fl_3_45 dX3_unitFault_114 (is_25 hN) rfl ?_
    refine e_if_ne (M := md_X3_unitFault) (pc := 117) (tgt := 128) h rfl dX3_unitFault_117 (by decide) (fun h => ?_) (fun h => ?_)
    · refine q_iconst (M := md_X3_unitFault) (pc := 128) dX3_unitFault_128 ?_
      exact e_iret (M := md_X3_unitFault) (pc := 129) h rfl dX3_unitFault_129
    · refine q_aload_n (M := md_X3_unitFault) (pc := 120) dX3_unitFault_120 rfl (by decide) ?_
      refine e_callVi (M := md_X3_unitFault) (pc := 121) (d' := 2) (av := []) (c := 25) h ml_3_139 im_X3_named se_X3_named dX3_unitFault_121 (fun v he => ok_X3_named hN  he) rfl (is_25 hN) ⟨_, _, rfl⟩ (by decide) (Nat.le_of_ble_eq_true rfl) ⟨by decide, by decide⟩ rfl (fun v1 m2 h => ?_)
      refine q_iconst (M := md_X3_unitFault) (pc := 124) dX3_unitFault_124 ?_
      refine e_icmp_ne (M := md_X3_unitFault) (pc := 125) (tgt := 130) h rfl (q_wlit rfl) dX3_unitFault_125 (by decide) (fun h => ?_) (fun h => ?_)
      · exact q_weak (w_Pars_unitFault_b130 hN  h) ⟨Or.inr rfl, Or.inr rfl, Or.inr rfl, Or.inl rfl, Or.inl rfl, trivial⟩
      · refine q_iconst (M := md_X3_unitFault) (pc := 128) dX3_unitFault_128 ?_
        exact e_iret (M := md_X3_unitFault) (pc := 129) h rfl dX3_unitFault_129
def f_Pars_unitFault_b83 (l1 l2 : Int) (m : q_Mem) : q_Res :=
  if q_w (m 1 2) = 4 then (if q_w (m 1 5) ≤ 999 then (f_Pars_unitFault_b109 l1 l2 m)
  else (q_rt 2 m))
  else (f_Pars_unitFault_b109 l1 l2 m)
set_option maxRecDepth 20000 in
theorem w_Pars_unitFault_b83 {l1 l2 : Int} {r : Int × q_Mem} {m : q_Mem} {N : Nat} (hN : 81 ≤ N) (h : f_Pars_unitFault_b83 l1 l2 m = some r) : q_E md_X3_unitFault 8 N (some 0) r m 83 [q_A 25, q_I l1, q_I l2, q_N, q_N] [] := by
  unfold f_Pars_unitFault_b83 at h
  refine q_aload_n (M := md_X3_unitFault) (pc := 83) dX3_unitFault_83 rfl (by decide) ?_
  refine q_getP (M := md_X3_unitFault) (pc := 84) (v := 1) fl_3_22 dX3_unitFault_84 (is_25 hN) rfl ?_
  refine e_gI (M := md_X3_unitFault) (pc := 87) (v := m 1 2) fl_3_53 dX3_unitFault_87 (is_1 hN) rfl ?_
  refine q_iconst (M := md_X3_unitFault) (pc := 90) dX3_unitFault_90 ?_
  refine e_icmp_ne (M := md_X3_unitFault) (pc := 91) (tgt := 109) h rfl (q_wlit rfl) dX3_unitFault_91 (by decide) (fun h => ?_) (fun h => ?_)
  · exact q_weak (w_Pars_unitFault_b109 hN  h) ⟨Or.inr rfl, Or.inr rfl, Or.inr rfl, Or.inl rfl, Or.inl rfl, trivial⟩
  · refine q_aload_n (M := md_X3_unitFault) (pc := 94) dX3_unitFault_94 rfl (by decide) ?_
    refine q_getP (M := md_X3_unitFault) (pc := 95) (v := 1) fl_3_22 dX3_unitFault_95 (is_25 hN) rfl ?_
    refine e_gI (M := md_X3_unitFault) (pc := 98) (v := m 1 5) fl_3_132 dX3_unitFault_98 (is_1 hN) rfl ?_
    refine q_sipush (M := md_X3_unitFault) (pc := 101) (x := 999) dX3_unitFault_101 (by decide) ?_
    refine e_icmp_le (M := md_X3_unitFault) (pc := 104) (tgt := 109) h rfl (q_wlit rfl) dX3_unitFault_104 (by decide) (fun h => ?_) (fun h => ?_)
    · exact q_weak (w_Pars_unitFault_b109 hN  h) ⟨Or.inr rfl, Or.inr rfl, Or.inr rfl, Or.inl rfl, Or.inl rfl, trivial⟩
    · refine q_iconst (M := md_X3_unitFault) (pc := 107) dX3_unitFault_107 ?_
      exact e_iret (M := md_X3_unitFault) (pc := 108) h rfl dX3_unitFault_108
def f_Pars_unitFault_b72 (l1 l2 s0 : Int) (m : q_Mem) : q_Res :=
  if q_w l2 = 0 then (if q_w s0 = 0 then (q_rt 1 m)
  else (f_Pars_unitFault_b83 l1 l2 m))
  else (f_Pars_unitFault_b83 l1 l2 m)
set_option maxRecDepth 20000 in
theorem w_Pars_unitFault_b72 {l1 l2 s0 : Int} {r : Int × q_Mem} {m : q_Mem} {N : Nat} (hN : 81 ≤ N) (h : f_Pars_unitFault_b72 l1 l2 s0 m = some r) : q_E md_X3_unitFault 8 N (some 0) r m 72 [q_A 25, q_I l1, q_I l2, q_N, q_N] [q_I s0] := by
  unfold f_Pars_unitFault_b72 at h
  refine e_ist_n (M := md_X3_unitFault) (pc := 72) (ls' := [q_A 25, q_I l1, q_I l2, q_I s0, q_N]) dX3_unitFault_72 (by decide) (q_pl rfl) rfl ?_
  refine q_iload_n (M := md_X3_unitFault) (pc := 73) dX3_unitFault_73 rfl ?_
  refine e_if_ne (M := md_X3_unitFault) (pc := 74) (tgt := 83) h rfl dX3_unitFault_74 (by decide) (fun h => ?_) (fun h => ?_)
  · exact q_weak (w_Pars_unitFault_b83 hN  h) ⟨Or.inr rfl, Or.inr rfl, Or.inr rfl, Or.inl rfl, Or.inl rfl, trivial⟩
  · refine q_iload_n (M := md_X3_unitFault) (pc := 77) dX3_unitFault_77 rfl ?_
    refine e_if_ne (M := md_X3_unitFault) (pc := 78) (tgt := 83) h rfl dX3_unitFault_78 (by decide) (fun h => ?_) (fun h => ?_)
    · exact q_weak (w_Pars_unitFault_b83 hN  h) ⟨Or.inr rfl, Or.inr rfl, Or.inr rfl, Or.inl rfl, Or.inl rfl, trivial⟩
    · refine q_iconst (M := md_X3_unitFault) (pc := 81) dX3_unitFault_81 ?_
      exact e_iret (M := md_X3_unitFault) (pc := 82) h rfl dX3_unitFault_82
def f_Pars_unitFault_b67 (l1 l2 : Int) (m : q_Mem) : q_Res :=
  f_Pars_unitFault_b72 l1 l2 1 m
set_option maxRecDepth 20000 in
theorem w_Pars_unitFault_b67 {l1 l2 : Int} {r : Int × q_Mem} {m : q_Mem} {N : Nat} (hN : 81 ≤ N) (h : f_Pars_unitFault_b67 l1 l2 m = some r) : q_E md_X3_unitFault 8 N (some 0) r m 67 [q_A 25, q_I l1, q_I l2, q_N, q_N] [] := by
  unfold f_Pars_unitFault_b67 at h
  refine q_iconst (M := md_X3_unitFault) (pc := 67) dX3_unitFault_67 ?_
  refine q_goto (M := md_X3_unitFault) (pc := 68) (tgt := 72) dX3_unitFault_68 (by decide) ?_
  exact q_weak (w_Pars_unitFault_b72 hN  h) ⟨Or.inr rfl, Or.inr rfl, Or.inr rfl, Or.inl rfl, Or.inl rfl, trivial⟩
def f_Pars_unitFault (l1 : Int) (m : q_Mem) : q_Res :=
  q_bd (f_Tape_isName m) fun v1 m2 =>
  if q_w (m2 1 2) = 4 then (f_Pars_unitFault_b67 l1 v1 m2)
  else (if q_w (m2 1 2) = 40 then (f_Pars_unitFault_b67 l1 v1 m2)
  else (if q_w (m2 1 2) = 45 then (f_Pars_unitFault_b67 l1 v1 m2)
  else (q_bd (f_Tape_isWord 9 m2) fun v3 m4 =>
  if q_w v3 = 0 then (q_bd (f_Tape_isWord 10 m4) fun v5 m6 =>
  if q_w v5 = 0 then (f_Pars_unitFault_b72 l1 v1 0 m6)
  else (f_Pars_unitFault_b67 l1 v1 m6))
  else (f_Pars_unitFault_b67 l1 v1 m4))))
set_option maxRecDepth 20000 in
theorem ok_X3_unitFault {l1 : Int} {r : Int × q_Mem} {m : q_Mem} {N : Nat} (hN : 81 ≤ N) (h : f_Pars_unitFault l1 m = some r) : q_C md_X3_unitFault (q_room 8) 0 0 [q_A 25, q_I l1] (q_g N) m (some (q_I r.1), q_g N, r.2) := by
  refine q_ofR (by decide) 3 (ls := [q_A 25, q_I l1, q_N, q_N, q_N]) rfl (Nat.le_of_ble_eq_true rfl) ?_
  change q_E md_X3_unitFault 8 N (some 0) r m 0 [q_A 25, q_I l1, q_N, q_N, q_N] []
  unfold f_Pars_unitFault at h
  refine q_aload_n (M := md_X3_unitFault) (pc := 0) dX3_unitFault_0 rfl (by decide) ?_
  refine q_getP (M := md_X3_unitFault) (pc := 1) (v := 1) fl_3_22 dX3_unitFault_1 (is_25 hN) rfl ?_
  refine e_callVi (M := md_X3_unitFault) (pc := 4) (d' := 7) (av := []) (c := 1) h ml_3_136 im_X7_isName se_X7_isName dX3_unitFault_4 (fun v he => ok_X7_isName hN  he) rfl (is_1 hN) ⟨_, _, rfl⟩ (by decide) (Nat.le_of_ble_eq_true rfl) ⟨by decide, by decide⟩ rfl (fun v1 m2 h => ?_)
  refine e_ist_n (M := md_X3_unitFault) (pc := 7) (ls' := [q_A 25, q_I l1, q_I v1, q_N, q_N]) dX3_unitFault_7 (by decide) (q_pl rfl) rfl ?_
  refine q_aload_n (M := md_X3_unitFault) (pc := 8) dX3_unitFault_8 rfl (by decide) ?_
  refine q_getP (M := md_X3_unitFault) (pc := 9) (v := 1) fl_3_22 dX3_unitFault_9 (is_25 hN) rfl ?_
  refine e_gI (M := md_X3_unitFault) (pc := 12) (v := m2 1 2) fl_3_53 dX3_unitFault_12 (is_1 hN) rfl ?_
  refine q_iconst (M := md_X3_unitFault) (pc := 15) dX3_unitFault_15 ?_
  refine e_icmp_eq (M := md_X3_unitFault) (pc := 16) (tgt := 67) h rfl (q_wlit rfl) dX3_unitFault_16 (by decide) (fun h => ?_) (fun h => ?_)
  · exact q_weak (w_Pars_unitFault_b67 hN  h) ⟨Or.inr rfl, Or.inr rfl, Or.inr rfl, Or.inl rfl, Or.inl rfl, trivial⟩
  · refine q_aload_n (M := md_X3_unitFault) (pc := 19) dX3_unitFault_19 rfl (by decide) ?_
    refine q_getP (M := md_X3_unitFault) (pc := 20) (v := 1) fl_3_22 dX3_unitFault_20 (is_25 hN) rfl ?_
    refine e_gI (M := md_X3_unitFault) (pc := 23) (v := m2 1 2) fl_3_53 dX3_unitFault_23 (is_1 hN) rfl ?_
    refine q_bipush (M := md_X3_unitFault) (pc := 26) (x := 40) dX3_unitFault_26 (by decide) ?_
    refine e_icmp_eq (M := md_X3_unitFault) (pc := 28) (tgt := 67) h rfl (q_wlit rfl) dX3_unitFault_28 (by decide) (fun h => ?_) (fun h => ?_)
    · exact q_weak (w_Pars_unitFault_b67 hN  h) ⟨Or.inr rfl, Or.inr rfl, Or.inr rfl, Or.inl rfl, Or.inl rfl, trivial⟩
    · refine q_aload_n (M := md_X3_unitFault) (pc := 31) dX3_unitFault_31 rfl (by decide) ?_
      refine q_getP (M := md_X3_unitFault) (pc := 32) (v := 1) fl_3_22 dX3_unitFault_32 (is_25 hN) rfl ?_
      refine e_gI (M := md_X3_unitFault) (pc := 35) (v := m2 1 2) fl_3_53 dX3_unitFault_35 (is_1 hN) rfl ?_
      refine q_bipush (M := md_X3_unitFault) (pc := 38) (x := 45) dX3_unitFault_38 (by decide) ?_
      refine e_icmp_eq (M := md_X3_unitFault) (pc := 40) (tgt := 67) h rfl (q_wlit rfl) dX3_unitFault_40 (by decide) (fun h => ?_) (fun h => ?_)
      · exact q_weak (w_Pars_unitFault_b67 hN  h) ⟨Or.inr rfl, Or.inr rfl, Or.inr rfl, Or.inl rfl, Or.inl rfl, trivial⟩
      · refine q_aload_n (M := md_X3_unitFault) (pc := 43) dX3_unitFault_43 rfl (by decide) ?_
        refine q_getP (M := md_X3_unitFault) (pc := 44) (v := 1) fl_3_22 dX3_unitFault_44 (is_25 hN) rfl ?_
        refine e_ldcS (M := md_X3_unitFault) (pc := 47) (i := 9) (tx := "i") dX3_unitFault_47 (by decide) ?_
        refine e_callVi (M := md_X3_unitFault) (pc := 49) (d' := 6) (av := [q_S 9]) (c := 1) h ml_3_62 im_X7_isWord se_X7_isWord dX3_unitFault_49 (fun v he => ok_X7_isWord hN (by decide) he) rfl (is_1 hN) ⟨_, _, rfl⟩ (by decide) (Nat.le_of_ble_eq_true rfl) ⟨by decide, by decide⟩ rfl (fun v3 m4 h => ?_)
        refine e_if_ne (M := md_X3_unitFault) (pc := 52) (tgt := 67) h rfl dX3_unitFault_52 (by decide) (fun h => ?_) (fun h => ?_)
        · exact q_weak (w_Pars_unitFault_b67 hN  h) ⟨Or.inr rfl, Or.inr rfl, Or.inr rfl, Or.inl rfl, Or.inl rfl, trivial⟩
        · refine q_aload_n (M := md_X3_unitFault) (pc := 55) dX3_unitFault_55 rfl (by decide) ?_
          refine q_getP (M := md_X3_unitFault) (pc := 56) (v := 1) fl_3_22 dX3_unitFault_56 (is_25 hN) rfl ?_
          refine e_ldcS (M := md_X3_unitFault) (pc := 59) (i := 10) (tx := "j") dX3_unitFault_59 (by decide) ?_
          refine e_callVi (M := md_X3_unitFault) (pc := 61) (d' := 6) (av := [q_S 10]) (c := 1) h ml_3_62 im_X7_isWord se_X7_isWord dX3_unitFault_61 (fun v he => ok_X7_isWord hN (by decide) he) rfl (is_1 hN) ⟨_, _, rfl⟩ (by decide) (Nat.le_of_ble_eq_true rfl) ⟨by decide, by decide⟩ rfl (fun v5 m6 h => ?_)
          refine e_if_eq (M := md_X3_unitFault) (pc := 64) (tgt := 71) h rfl dX3_unitFault_64 (by decide) (fun h => ?_) (fun h => ?_)
          · refine q_iconst (M := md_X3_unitFault) (pc := 71) dX3_unitFault_71 ?_
            exact q_weak (w_Pars_unitFault_b72 hN  h) ⟨Or.inr rfl, Or.inr rfl, Or.inr rfl, Or.inl rfl, Or.inl rfl, trivial⟩
          · exact q_weak (w_Pars_unitFault_b67 hN  h) ⟨Or.inr rfl, Or.inr rfl, Or.inr rfl, Or.inl rfl, Or.inl rfl, trivial⟩
def f_Pars_leaf (l1 l2 : Int) (m : q_Mem) : q_Res :=
  q_bd (f_Tape_step m) fun _ m1 =>
  q_lt (m1 25 3) fun v2 => q_one q_Lp v2 <|
  q_bd (f_Loop_addNode v2 l1 l2 0 m1) fun v3 m4 =>
  q_rt v3 m4
set_option maxRecDepth 20000 in
theorem ok_X3_leaf {l1 l2 : Int} {r : Int × q_Mem} {m : q_Mem} {N : Nat} (hN : 81 ≤ N) (h : f_Pars_leaf l1 l2 m = some r) : q_C md_X3_leaf (q_room 3) 0 0 [q_A 25, q_I l1, q_I l2] (q_g N) m (some (q_I r.1), q_g N, r.2) := by
  refine q_ofR (by decide) 0 (ls := [q_A 25, q_I l1, q_I l2]) rfl (Nat.le_of_ble_eq_true rfl) ?_
  change q_E md_X3_leaf 3 N (some 0) r m 0 [q_A 25, q_I l1, q_I l2] []
  unfold f_Pars_leaf at h
  refine q_aload_n (M := md_X3_leaf) (pc := 0) dX3_leaf_0 rfl (by decide) ?_
  refine q_getP (M := md_X3_leaf) (pc := 1) (v := 1) fl_3_22 dX3_leaf_1 (is_25 hN) rfl ?_
  refine e_callVv (M := md_X3_leaf) (pc := 4) (d' := 2) (av := []) (c := 1) h ml_3_77 im_X7_step se_X7_step dX3_leaf_4 (fun v he => ok_X7_step hN  he) rfl (is_1 hN) ⟨_, _, rfl⟩ (by decide) (Nat.le_of_ble_eq_true rfl) ⟨by decide, by decide⟩ rfl (fun _ m1 h => ?_)
  refine q_aload_n (M := md_X3_leaf) (pc := 7) dX3_leaf_7 rfl (by decide) ?_
  refine e_gR (M := md_X3_leaf) (pc := 8) h fl_3_26 dX3_leaf_8 (is_25 hN) rfl (fun v2 hv2 h => ?_)
  refine q_iload_n (M := md_X3_leaf) (pc := 11) dX3_leaf_11 rfl ?_
  refine q_iload_n (M := md_X3_leaf) (pc := 12) dX3_leaf_12 rfl ?_
  refine q_iconst (M := md_X3_leaf) (pc := 13) dX3_leaf_13 ?_
  refine e_callVi (M := md_X3_leaf) (pc := 14) (d' := 1) (av := [q_I l1, q_I l2, q_I 0]) (c := v2) h ml_3_165 im_X2_addNode se_X2_addNode dX3_leaf_14 (fun v he => ok_X2_addNode hN hv2 he) rfl (is_Lp hN hv2) ⟨_, _, rfl⟩ (by decide) (Nat.le_of_ble_eq_true rfl) ⟨by decide, by decide⟩ rfl (fun v3 m4 h => ?_)
  exact e_iret (M := md_X3_leaf) (pc := 17) h rfl dX3_leaf_17
def f_Pars_readUnit_b97 (l1 l2 l3 : Int) (m : q_Mem) : q_Res :=
  q_bd (f_Pars_pass 41 m) fun v1 m2 =>
  if q_w v1 = 0 then (q_rt (-1) m2)
  else (q_lt (m2 25 3) fun v3 => q_one q_Lp v3 <|
  q_bd (f_Loop_addRead v3 l1 l2 l3 m2) fun v4 m5 =>
  q_rt v4 m5)
set_option maxRecDepth 20000 in
theorem w_Pars_readUnit_b97 {l1 l2 l3 : Int} {r : Int × q_Mem} {m : q_Mem} {N : Nat} (hN : 81 ≤ N) (h : f_Pars_readUnit_b97 l1 l2 l3 m = some r) : q_E md_X3_readUnit 4 N (some 0) r m 97 [q_A 25, q_I l1, q_I l2, q_I l3] [] := by
  unfold f_Pars_readUnit_b97 at h
  refine q_aload_n (M := md_X3_readUnit) (pc := 97) dX3_readUnit_97 rfl (by decide) ?_
  refine q_bipush (M := md_X3_readUnit) (pc := 98) (x := 41) dX3_readUnit_98 (by decide) ?_
  refine e_callVi (M := md_X3_readUnit) (pc := 100) (d' := 3) (av := [q_I 41]) (c := 25) h ml_3_94 im_X3_pass se_X3_pass dX3_readUnit_100 (fun v he => ok_X3_pass hN  he) rfl (is_25 hN) ⟨_, _, rfl⟩ (by decide) (Nat.le_of_ble_eq_true rfl) ⟨by decide, by decide⟩ rfl (fun v1 m2 h => ?_)
  refine e_if_eq (M := md_X3_readUnit) (pc := 103) (tgt := 119) h rfl dX3_readUnit_103 (by decide) (fun h => ?_) (fun h => ?_)
  · refine q_iconst (M := md_X3_readUnit) (pc := 119) dX3_readUnit_119 ?_
    exact e_iret (M := md_X3_readUnit) (pc := 120) h rfl dX3_readUnit_120
  · refine q_aload_n (M := md_X3_readUnit) (pc := 106) dX3_readUnit_106 rfl (by decide) ?_
    refine e_gR (M := md_X3_readUnit) (pc := 107) h fl_3_26 dX3_readUnit_107 (is_25 hN) rfl (fun v3 hv3 h => ?_)
    refine q_iload_n (M := md_X3_readUnit) (pc := 110) dX3_readUnit_110 rfl ?_
    refine q_iload_n (M := md_X3_readUnit) (pc := 111) dX3_readUnit_111 rfl ?_
    refine q_iload_n (M := md_X3_readUnit) (pc := 112) dX3_readUnit_112 rfl ?_
    refine e_callVi (M := md_X3_readUnit) (pc := 113) (d' := 2) (av := [q_I l1, q_I l2, q_I l3]) (c := v3) h ml_3_194 im_X2_addRead se_X2_addRead dX3_readUnit_113 (fun v he => ok_X2_addRead hN hv3 he) rfl (is_Lp hN hv3) ⟨_, _, rfl⟩ (by decide) (Nat.le_of_ble_eq_true rfl) ⟨by decide, by decide⟩ rfl (fun v4 m5 h => ?_)
    refine q_goto (M := md_X3_readUnit) (pc := 116) (tgt := 120) dX3_readUnit_116 (by decide) ?_
    exact e_iret (M := md_X3_readUnit) (pc := 120) h rfl dX3_readUnit_120
def f_Pars_readUnit (m : q_Mem) : q_Res :=
  q_bd (f_Pars_named m) fun v1 m2 =>
  q_bd (f_Tape_step m2) fun _ m3 =>
  q_bd (f_Pars_pass 40 m3) fun v4 m5 =>
  if q_w v4 = 0 then (q_rt (-1) m5)
  else (q_bd (f_Pars_passNumber (-3) 3 m5) fun v6 m7 =>
  if q_w v6 = 0 then (q_rt (-1) m7)
  else (q_bd (f_Pars_pass 44 m7) fun v8 m9 =>
  if q_w v8 = 0 then (q_rt (-1) m9)
  else (q_bd (f_Pars_passNumber (-3) 3 m9) fun v10 m11 =>
  if q_w v10 = 0 then (q_rt (-1) m11)
  else (if q_w (m7 25 9) = 0 then (if q_w (m11 25 9) = 0 then (q_lt (m11 25 3) fun v12 => q_one q_Lp v12 <|
  if q_w v1 = q_w ((m11 v12 2) - 1) then (q_bd (f_Pars_refuse 2 (m11 25 10) m11) fun v13 m14 =>
  q_rt (-1) m14)
  else (f_Pars_readUnit_b97 v1 (m7 25 9) (m11 25 9) m11))
  else (f_Pars_readUnit_b97 v1 (m7 25 9) (m11 25 9) m11))
  else (f_Pars_readUnit_b97 v1 (m7 25 9) (m11 25 9) m11)))))
set_option maxRecDepth 20000 in
theorem ok_X3_readUnit {r : Int × q_Mem} {m : q_Mem} {N : Nat} (hN : 81 ≤ N) (h : f_Pars_readUnit m = some r) : q_C md_X3_readUnit (q_room 4) 0 0 [q_A 25] (q_g N) m (some (q_I r.1), q_g N, r.2) := by
  refine q_ofR (by decide) 3 (ls := [q_A 25, q_N, q_N, q_N]) rfl (Nat.le_of_ble_eq_true rfl) ?_
  change q_E md_X3_readUnit 4 N (some 0) r m 0 [q_A 25, q_N, q_N, q_N] []
  unfold f_Pars_readUnit at h
  refine q_aload_n (M := md_X3_readUnit) (pc := 0) dX3_readUnit_0 rfl (by decide) ?_
  refine e_callVi (M := md_X3_readUnit) (pc := 1) (d' := 2) (av := []) (c := 25) h ml_3_139 im_X3_named se_X3_named dX3_readUnit_1 (fun v he => ok_X3_named hN  he) rfl (is_25 hN) ⟨_, _, rfl⟩ (by decide) (Nat.le_of_ble_eq_true rfl) ⟨by decide, by decide⟩ rfl (fun v1 m2 h => ?_)
  refine e_ist_n (M := md_X3_readUnit) (pc := 4) (ls' := [q_A 25, q_I v1, q_N, q_N]) dX3_readUnit_4 (by decide) (q_pl rfl) rfl ?_
  refine q_aload_n (M := md_X3_readUnit) (pc := 5) dX3_readUnit_5 rfl (by decide) ?_
  refine q_getP (M := md_X3_readUnit) (pc := 6) (v := 1) fl_3_22 dX3_readUnit_6 (is_25 hN) rfl ?_
  refine e_callVv (M := md_X3_readUnit) (pc := 9) (d' := 2) (av := []) (c := 1) h ml_3_77 im_X7_step se_X7_step dX3_readUnit_9 (fun v he => ok_X7_step hN  he) rfl (is_1 hN) ⟨_, _, rfl⟩ (by decide) (Nat.le_of_ble_eq_true rfl) ⟨by decide, by decide⟩ rfl (fun _ m3 h => ?_)
  refine q_aload_n (M := md_X3_readUnit) (pc := 12) dX3_readUnit_12 rfl (by decide) ?_
  refine q_bipush (M := md_X3_readUnit) (pc := 13) (x := 40) dX3_readUnit_13 (by decide) ?_
  refine e_callVi (M := md_X3_readUnit) (pc := 15) (d' := 3) (av := [q_I 40]) (c := 25) h ml_3_94 im_X3_pass se_X3_pass dX3_readUnit_15 (fun v he => ok_X3_pass hN  he) rfl (is_25 hN) ⟨_, _, rfl⟩ (by decide) (Nat.le_of_ble_eq_true rfl) ⟨by decide, by decide⟩ rfl (fun v4 m5 h => ?_)
  refine e_if_eq (M := md_X3_readUnit) (pc := 18) (tgt := 31) h rfl dX3_readUnit_18 (by decide) (fun h => ?_) (fun h => ?_)
  · refine q_iconst (M := md_X3_readUnit) (pc := 31) dX3_readUnit_31 ?_
    exact e_iret (M := md_X3_readUnit) (pc := 32) h rfl dX3_readUnit_32
  · refine q_aload_n (M := md_X3_readUnit) (pc := 21) dX3_readUnit_21 rfl (by decide) ?_
    refine q_bipush (M := md_X3_readUnit) (pc := 22) (x := -3) dX3_readUnit_22 (by decide) ?_
    refine q_iconst (M := md_X3_readUnit) (pc := 24) dX3_readUnit_24 ?_
    refine e_callVi (M := md_X3_readUnit) (pc := 25) (d' := 3) (av := [q_I (-3), q_I 3]) (c := 25) h ml_3_82 im_X3_passNumber se_X3_passNumber dX3_readUnit_25 (fun v he => ok_X3_passNumber hN  he) rfl (is_25 hN) ⟨_, _, rfl⟩ (by decide) (Nat.le_of_ble_eq_true rfl) ⟨by decide, by decide⟩ rfl (fun v6 m7 h => ?_)
    refine e_if_ne (M := md_X3_readUnit) (pc := 28) (tgt := 33) h rfl dX3_readUnit_28 (by decide) (fun h => ?_) (fun h => ?_)
    · refine q_aload_n (M := md_X3_readUnit) (pc := 33) dX3_readUnit_33 rfl (by decide) ?_
      refine e_gI (M := md_X3_readUnit) (pc := 34) (v := m7 25 9) fl_3_85 dX3_readUnit_34 (is_25 hN) rfl ?_
      refine e_ist_n (M := md_X3_readUnit) (pc := 37) (ls' := [q_A 25, q_I v1, q_I (m7 25 9), q_N]) dX3_readUnit_37 (by decide) (q_pl rfl) rfl ?_
      refine q_aload_n (M := md_X3_readUnit) (pc := 38) dX3_readUnit_38 rfl (by decide) ?_
      refine q_bipush (M := md_X3_readUnit) (pc := 39) (x := 44) dX3_readUnit_39 (by decide) ?_
      refine e_callVi (M := md_X3_readUnit) (pc := 41) (d' := 3) (av := [q_I 44]) (c := 25) h ml_3_94 im_X3_pass se_X3_pass dX3_readUnit_41 (fun v he => ok_X3_pass hN  he) rfl (is_25 hN) ⟨_, _, rfl⟩ (by decide) (Nat.le_of_ble_eq_true rfl) ⟨by decide, by decide⟩ rfl (fun v8 m9 h => ?_)
      refine e_if_eq (M := md_X3_readUnit) (pc := 44) (tgt := 57) h rfl dX3_readUnit_44 (by decide) (fun h => ?_) (fun h => ?_)
      · refine q_iconst (M := md_X3_readUnit) (pc := 57) dX3_readUnit_57 ?_
        exact e_iret (M := md_X3_readUnit) (pc := 58) h rfl dX3_readUnit_58
      · refine q_aload_n (M := md_X3_readUnit) (pc := 47) dX3_readUnit_47 rfl (by decide) ?_
        refine q_bipush (M := md_X3_readUnit) (pc := 48) (x := -3) dX3_readUnit_48 (by decide) ?_
        refine q_iconst (M := md_X3_readUnit) (pc := 50) dX3_readUnit_50 ?_
        refine e_callVi (M := md_X3_readUnit) (pc := 51) (d' := 3) (av := [q_I (-3), q_I 3]) (c := 25) h ml_3_82 im_X3_passNumber se_X3_passNumber dX3_readUnit_51 (fun v he => ok_X3_passNumber hN  he) rfl (is_25 hN) ⟨_, _, rfl⟩ (by decide) (Nat.le_of_ble_eq_true rfl) ⟨by decide, by decide⟩ rfl (fun v10 m11 h => ?_)
        refine e_if_ne (M := md_X3_readUnit) (pc := 54) (tgt := 59) h rfl dX3_readUnit_54 (by decide) (fun h => ?_) (fun h => ?_)
        · refine q_aload_n (M := md_X3_readUnit) (pc := 59) dX3_readUnit_59 rfl (by decide) ?_
          refine e_gI (M := md_X3_readUnit) (pc := 60) (v := m11 25 9) fl_3_85 dX3_readUnit_60 (is_25 hN) rfl ?_
          refine e_ist_n (M := md_X3_readUnit) (pc := 63) (ls' := [q_A 25, q_I v1, q_I (m7 25 9), q_I (m11 25 9)]) dX3_readUnit_63 (by decide) (q_pl rfl) rfl ?_
          refine q_iload_n (M := md_X3_readUnit) (pc := 64) dX3_readUnit_64 rfl ?_
          refine e_if_ne (M := md_X3_readUnit) (pc := 65) (tgt := 97) h rfl dX3_readUnit_65 (by decide) (fun h => ?_) (fun h => ?_)
          · exact q_weak (w_Pars_readUnit_b97 hN  h) ⟨Or.inr rfl, Or.inr rfl, Or.inr rfl, Or.inr rfl, trivial⟩
          · refine q_iload_n (M := md_X3_readUnit) (pc := 68) dX3_readUnit_68 rfl ?_
            refine e_if_ne (M := md_X3_readUnit) (pc := 69) (tgt := 97) h rfl dX3_readUnit_69 (by decide) (fun h => ?_) (fun h => ?_)
            · exact q_weak (w_Pars_readUnit_b97 hN  h) ⟨Or.inr rfl, Or.inr rfl, Or.inr rfl, Or.inr rfl, trivial⟩
            · refine q_iload_n (M := md_X3_readUnit) (pc := 72) dX3_readUnit_72 rfl ?_
              refine q_aload_n (M := md_X3_readUnit) (pc := 73) dX3_readUnit_73 rfl (by decide) ?_
              refine e_gR (M := md_X3_readUnit) (pc := 74) h fl_3_26 dX3_readUnit_74 (is_25 hN) rfl (fun v12 hv12 h => ?_)
              refine e_gI (M := md_X3_readUnit) (pc := 77) (v := m11 v12 2) fl_3_133 dX3_readUnit_77 (is_Lp hN hv12) rfl ?_
              refine q_iconst (M := md_X3_readUnit) (pc := 80) dX3_readUnit_80 ?_
              refine q_isub (M := md_X3_readUnit) (pc := 81) dX3_readUnit_81 ?_
              refine e_icmp_ne (M := md_X3_readUnit) (pc := 82) (tgt := 97) h rfl rfl dX3_readUnit_82 (by decide) (fun h => ?_) (fun h => ?_)
              · exact q_weak (w_Pars_readUnit_b97 hN  h) ⟨Or.inr rfl, Or.inr rfl, Or.inr rfl, Or.inr rfl, trivial⟩
              · refine q_aload_n (M := md_X3_readUnit) (pc := 85) dX3_readUnit_85 rfl (by decide) ?_
                refine q_iconst (M := md_X3_readUnit) (pc := 86) dX3_readUnit_86 ?_
                refine q_aload_n (M := md_X3_readUnit) (pc := 87) dX3_readUnit_87 rfl (by decide) ?_
                refine e_gI (M := md_X3_readUnit) (pc := 88) (v := m11 25 10) fl_3_129 dX3_readUnit_88 (is_25 hN) rfl ?_
                refine e_callVi (M := md_X3_readUnit) (pc := 91) (d' := 1) (av := [q_I 2, q_I (m11 25 10)]) (c := 25) h ml_3_73 im_X3_refuse se_X3_refuse dX3_readUnit_91 (fun v he => ok_X3_refuse hN  he) rfl (is_25 hN) ⟨_, _, rfl⟩ (by decide) (Nat.le_of_ble_eq_true rfl) ⟨by decide, by decide⟩ rfl (fun v13 m14 h => ?_)
                refine q_pop (M := md_X3_readUnit) (pc := 94) dX3_readUnit_94 (show (0 : Nat) ≠ 1 by decide) ?_
                refine q_iconst (M := md_X3_readUnit) (pc := 95) dX3_readUnit_95 ?_
                exact e_iret (M := md_X3_readUnit) (pc := 96) h rfl dX3_readUnit_96
        · refine q_iconst (M := md_X3_readUnit) (pc := 57) dX3_readUnit_57 ?_
          exact e_iret (M := md_X3_readUnit) (pc := 58) h rfl dX3_readUnit_58
    · refine q_iconst (M := md_X3_readUnit) (pc := 31) dX3_readUnit_31 ?_
      exact e_iret (M := md_X3_readUnit) (pc := 32) h rfl dX3_readUnit_32
def f_Pars_joinAt (l1 : Int) (m : q_Mem) : q_Res :=
  if q_w (m 1 2) = 42 then (if q_w l1 = 2 then (q_rt 9 m)
  else (q_rt (-1) m))
  else if q_w (m 1 2) = 43 then (if q_w l1 = 1 then (q_rt 7 m)
  else (q_rt (-1) m))
  else if q_w (m 1 2) = 45 then (if q_w l1 = 1 then (q_rt 8 m)
  else (q_rt (-1) m))
  else if q_w (m 1 2) = 60 then (if q_w l1 = 0 then (q_rt 5 m)
  else (q_rt (-1) m))
  else if q_w (m 1 2) = 62 then (if q_w l1 = 0 then (q_rt 6 m)
  else (q_rt (-1) m))
  else (q_rt (-1) m)
set_option maxRecDepth 20000 in
theorem ok_X3_joinAt {l1 : Int} {r : Int × q_Mem} {m : q_Mem} {N : Nat} (hN : 81 ≤ N) (h : f_Pars_joinAt l1 m = some r) : q_C md_X3_joinAt (q_room 1) 0 0 [q_A 25, q_I l1] (q_g N) m (some (q_I r.1), q_g N, r.2) := by
  refine q_ofR (by decide) 0 (ls := [q_A 25, q_I l1]) rfl (Nat.le_of_ble_eq_true rfl) ?_
  change q_E md_X3_joinAt 1 N (some 0) r m 0 [q_A 25, q_I l1] []
  unfold f_Pars_joinAt at h
  refine q_aload_n (M := md_X3_joinAt) (pc := 0) dX3_joinAt_0 rfl (by decide) ?_
  refine q_getP (M := md_X3_joinAt) (pc := 1) (v := 1) fl_3_22 dX3_joinAt_1 (is_25 hN) rfl ?_
  refine e_gI (M := md_X3_joinAt) (pc := 4) (v := m 1 2) fl_3_53 dX3_joinAt_4 (is_1 hN) rfl ?_
  by_cases c1 : q_w (m 1 2) = 42
  · rw [if_pos c1] at h
    refine q_lookup (M := md_X3_joinAt) (pc := 7) (tgt := 101) dX3_joinAt_7 (by decide) (by rw [c1] <;> decide) (by decide) ?_
    refine q_iload_n (M := md_X3_joinAt) (pc := 101) dX3_joinAt_101 rfl ?_
    refine q_iconst (M := md_X3_joinAt) (pc := 102) dX3_joinAt_102 ?_
    refine e_icmp_ne (M := md_X3_joinAt) (pc := 103) (tgt := 111) h rfl (q_wlit rfl) dX3_joinAt_103 (by decide) (fun h => ?_) (fun h => ?_)
    · refine q_iconst (M := md_X3_joinAt) (pc := 111) dX3_joinAt_111 ?_
      exact e_iret (M := md_X3_joinAt) (pc := 112) h rfl dX3_joinAt_112
    · refine q_bipush (M := md_X3_joinAt) (pc := 106) (x := 9) dX3_joinAt_106 (by decide) ?_
      refine q_goto (M := md_X3_joinAt) (pc := 108) (tgt := 112) dX3_joinAt_108 (by decide) ?_
      exact e_iret (M := md_X3_joinAt) (pc := 112) h rfl dX3_joinAt_112
  rw [if_neg c1] at h
  by_cases c2 : q_w (m 1 2) = 43
  · rw [if_pos c2] at h
    refine q_lookup (M := md_X3_joinAt) (pc := 7) (tgt := 77) dX3_joinAt_7 (by decide) (by rw [c2] <;> decide) (by decide) ?_
    refine q_iload_n (M := md_X3_joinAt) (pc := 77) dX3_joinAt_77 rfl ?_
    refine q_iconst (M := md_X3_joinAt) (pc := 78) dX3_joinAt_78 ?_
    refine e_icmp_ne (M := md_X3_joinAt) (pc := 79) (tgt := 87) h rfl (q_wlit rfl) dX3_joinAt_79 (by decide) (fun h => ?_) (fun h => ?_)
    · refine q_iconst (M := md_X3_joinAt) (pc := 87) dX3_joinAt_87 ?_
      exact e_iret (M := md_X3_joinAt) (pc := 88) h rfl dX3_joinAt_88
    · refine q_bipush (M := md_X3_joinAt) (pc := 82) (x := 7) dX3_joinAt_82 (by decide) ?_
      refine q_goto (M := md_X3_joinAt) (pc := 84) (tgt := 88) dX3_joinAt_84 (by decide) ?_
      exact e_iret (M := md_X3_joinAt) (pc := 88) h rfl dX3_joinAt_88
  rw [if_neg c2] at h
  by_cases c3 : q_w (m 1 2) = 45
  · rw [if_pos c3] at h
    refine q_lookup (M := md_X3_joinAt) (pc := 7) (tgt := 89) dX3_joinAt_7 (by decide) (by rw [c3] <;> decide) (by decide) ?_
    refine q_iload_n (M := md_X3_joinAt) (pc := 89) dX3_joinAt_89 rfl ?_
    refine q_iconst (M := md_X3_joinAt) (pc := 90) dX3_joinAt_90 ?_
    refine e_icmp_ne (M := md_X3_joinAt) (pc := 91) (tgt := 99) h rfl (q_wlit rfl) dX3_joinAt_91 (by decide) (fun h => ?_) (fun h => ?_)
    · refine q_iconst (M := md_X3_joinAt) (pc := 99) dX3_joinAt_99 ?_
      exact e_iret (M := md_X3_joinAt) (pc := 100) h rfl dX3_joinAt_100
    · refine q_bipush (M := md_X3_joinAt) (pc := 94) (x := 8) dX3_joinAt_94 (by decide) ?_
      refine q_goto (M := md_X3_joinAt) (pc := 96) (tgt := 100) dX3_joinAt_96 (by decide) ?_
      exact e_iret (M := md_X3_joinAt) (pc := 100) h rfl dX3_joinAt_100
  rw [if_neg c3] at h
  by_cases c4 : q_w (m 1 2) = 60
  · rw [if_pos c4] at h
    refine q_lookup (M := md_X3_joinAt) (pc := 7) (tgt := 56) dX3_joinAt_7 (by decide) (by rw [c4] <;> decide) (by decide) ?_
    refine q_iload_n (M := md_X3_joinAt) (pc := 56) dX3_joinAt_56 rfl ?_
    refine e_if_ne (M := md_X3_joinAt) (pc := 57) (tgt := 64) h rfl dX3_joinAt_57 (by decide) (fun h => ?_) (fun h => ?_)
    · refine q_iconst (M := md_X3_joinAt) (pc := 64) dX3_joinAt_64 ?_
      exact e_iret (M := md_X3_joinAt) (pc := 65) h rfl dX3_joinAt_65
    · refine q_iconst (M := md_X3_joinAt) (pc := 60) dX3_joinAt_60 ?_
      refine q_goto (M := md_X3_joinAt) (pc := 61) (tgt := 65) dX3_joinAt_61 (by decide) ?_
      exact e_iret (M := md_X3_joinAt) (pc := 65) h rfl dX3_joinAt_65
  rw [if_neg c4] at h
  by_cases c5 : q_w (m 1 2) = 62
  · rw [if_pos c5] at h
    refine q_lookup (M := md_X3_joinAt) (pc := 7) (tgt := 66) dX3_joinAt_7 (by decide) (by rw [c5] <;> decide) (by decide) ?_
    refine q_iload_n (M := md_X3_joinAt) (pc := 66) dX3_joinAt_66 rfl ?_
    refine e_if_ne (M := md_X3_joinAt) (pc := 67) (tgt := 75) h rfl dX3_joinAt_67 (by decide) (fun h => ?_) (fun h => ?_)
    · refine q_iconst (M := md_X3_joinAt) (pc := 75) dX3_joinAt_75 ?_
      exact e_iret (M := md_X3_joinAt) (pc := 76) h rfl dX3_joinAt_76
    · refine q_bipush (M := md_X3_joinAt) (pc := 70) (x := 6) dX3_joinAt_70 (by decide) ?_
      refine q_goto (M := md_X3_joinAt) (pc := 72) (tgt := 76) dX3_joinAt_72 (by decide) ?_
      exact e_iret (M := md_X3_joinAt) (pc := 76) h rfl dX3_joinAt_76
  rw [if_neg c5] at h
  refine q_lookup (M := md_X3_joinAt) (pc := 7) (tgt := 113) (off := 106) dX3_joinAt_7 (by decide) (by simp [Op.lookupswitch.offset, Ne.symm c1, Ne.symm c2, Ne.symm c3, Ne.symm c4, Ne.symm c5]) (by decide) ?_
  refine q_iconst (M := md_X3_joinAt) (pc := 113) dX3_joinAt_113 ?_
  exact e_iret (M := md_X3_joinAt) (pc := 114) h rfl dX3_joinAt_114
def f_Pars_fireLine (m : q_Mem) : q_Res :=
  q_pz m 25 6 1 fun m1 =>
  q_bd (f_Tape_step m1) fun _ m2 =>
  q_bd (f_Pars_passNumber (-9) 9 m2) fun v3 m4 =>
  if q_w v3 = 0 then (q_rz 0 m4)
  else (q_lt (m4 25 3) fun v5 => q_one q_Lp v5 <|
  q_pf m4 (v5 + 1) 0 (m4 25 9) fun m6 =>
  q_bd (f_Pars_passNumber (-9) 9 m6) fun v7 m8 =>
  if q_w v7 = 0 then (q_rz 0 m8)
  else (q_lt (m8 25 3) fun v9 => q_one q_Lp v9 <|
  q_pf m8 (v9 + 1) 1 (m8 25 9) fun m10 =>
  q_bd (f_Pars_pass 59 m10) fun v11 m12 =>
  q_rz v11 m12))
set_option maxRecDepth 20000 in
theorem ok_X3_fireLine {r : Int × q_Mem} {m : q_Mem} {N : Nat} (hN : 81 ≤ N) (h : f_Pars_fireLine m = some r) : q_C md_X3_fireLine (q_room 4) 0 0 [q_A 25] (q_g N) m (some (q_I r.1), q_g N, r.2) := by
  refine q_ofR (by decide) 0 (ls := [q_A 25]) rfl (Nat.le_of_ble_eq_true rfl) ?_
  change q_E md_X3_fireLine 4 N (some 0) r m 0 [q_A 25] []
  unfold f_Pars_fireLine at h
  refine q_aload_n (M := md_X3_fireLine) (pc := 0) dX3_fireLine_0 rfl (by decide) ?_
  refine q_iconst (M := md_X3_fireLine) (pc := 1) dX3_fireLine_1 ?_
  refine e_pfZ (M := md_X3_fireLine) (pc := 2) h fl_3_38 dX3_fireLine_2 (is_25 hN) rfl (fun m1 h => ?_)
  refine q_aload_n (M := md_X3_fireLine) (pc := 5) dX3_fireLine_5 rfl (by decide) ?_
  refine q_getP (M := md_X3_fireLine) (pc := 6) (v := 1) fl_3_22 dX3_fireLine_6 (is_25 hN) rfl ?_
  refine e_callVv (M := md_X3_fireLine) (pc := 9) (d' := 2) (av := []) (c := 1) h ml_3_77 im_X7_step se_X7_step dX3_fireLine_9 (fun v he => ok_X7_step hN  he) rfl (is_1 hN) ⟨_, _, rfl⟩ (by decide) (Nat.le_of_ble_eq_true rfl) ⟨by decide, by decide⟩ rfl (fun _ m2 h => ?_)
  refine q_aload_n (M := md_X3_fireLine) (pc := 12) dX3_fireLine_12 rfl (by decide) ?_
  refine q_bipush (M := md_X3_fireLine) (pc := 13) (x := -9) dX3_fireLine_13 (by decide) ?_
  refine q_bipush (M := md_X3_fireLine) (pc := 15) (x := 9) dX3_fireLine_15 (by decide) ?_
  refine e_callVi (M := md_X3_fireLine) (pc := 17) (d' := 3) (av := [q_I (-9), q_I 9]) (c := 25) h ml_3_82 im_X3_passNumber se_X3_passNumber dX3_fireLine_17 (fun v he => ok_X3_passNumber hN  he) rfl (is_25 hN) ⟨_, _, rfl⟩ (by decide) (Nat.le_of_ble_eq_true rfl) ⟨by decide, by decide⟩ rfl (fun v3 m4 h => ?_)
  refine e_if_ne (M := md_X3_fireLine) (pc := 20) (tgt := 25) h rfl dX3_fireLine_20 (by decide) (fun h => ?_) (fun h => ?_)
  · refine q_aload_n (M := md_X3_fireLine) (pc := 25) dX3_fireLine_25 rfl (by decide) ?_
    refine e_gR (M := md_X3_fireLine) (pc := 26) h fl_3_26 dX3_fireLine_26 (is_25 hN) rfl (fun v5 hv5 h => ?_)
    refine q_getP (M := md_X3_fireLine) (pc := 29) (v := v5 + 1) fl_3_108 dX3_fireLine_29 (is_Lp hN hv5) (ph_Lp_8 hv5) ?_
    refine q_aload_n (M := md_X3_fireLine) (pc := 32) dX3_fireLine_32 rfl (by decide) ?_
    refine e_gI (M := md_X3_fireLine) (pc := 33) (v := m4 25 9) fl_3_85 dX3_fireLine_33 (is_25 hN) rfl ?_
    refine e_pfI (M := md_X3_fireLine) (pc := 36) h fl_3_112 dX3_fireLine_36 (is_Ly hN (ly_Lp hv5)) rfl (fun m6 h => ?_)
    refine q_aload_n (M := md_X3_fireLine) (pc := 39) dX3_fireLine_39 rfl (by decide) ?_
    refine q_bipush (M := md_X3_fireLine) (pc := 40) (x := -9) dX3_fireLine_40 (by decide) ?_
    refine q_bipush (M := md_X3_fireLine) (pc := 42) (x := 9) dX3_fireLine_42 (by decide) ?_
    refine e_callVi (M := md_X3_fireLine) (pc := 44) (d' := 3) (av := [q_I (-9), q_I 9]) (c := 25) h ml_3_82 im_X3_passNumber se_X3_passNumber dX3_fireLine_44 (fun v he => ok_X3_passNumber hN  he) rfl (is_25 hN) ⟨_, _, rfl⟩ (by decide) (Nat.le_of_ble_eq_true rfl) ⟨by decide, by decide⟩ rfl (fun v7 m8 h => ?_)
    refine e_if_ne (M := md_X3_fireLine) (pc := 47) (tgt := 52) h rfl dX3_fireLine_47 (by decide) (fun h => ?_) (fun h => ?_)
    · refine q_aload_n (M := md_X3_fireLine) (pc := 52) dX3_fireLine_52 rfl (by decide) ?_
      refine e_gR (M := md_X3_fireLine) (pc := 53) h fl_3_26 dX3_fireLine_53 (is_25 hN) rfl (fun v9 hv9 h => ?_)
      refine q_getP (M := md_X3_fireLine) (pc := 56) (v := v9 + 1) fl_3_108 dX3_fireLine_56 (is_Lp hN hv9) (ph_Lp_8 hv9) ?_
      refine q_aload_n (M := md_X3_fireLine) (pc := 59) dX3_fireLine_59 rfl (by decide) ?_
      refine e_gI (M := md_X3_fireLine) (pc := 60) (v := m8 25 9) fl_3_85 dX3_fireLine_60 (is_25 hN) rfl ?_
      refine e_pfI (M := md_X3_fireLine) (pc := 63) h fl_3_117 dX3_fireLine_63 (is_Ly hN (ly_Lp hv9)) rfl (fun m10 h => ?_)
      refine q_aload_n (M := md_X3_fireLine) (pc := 66) dX3_fireLine_66 rfl (by decide) ?_
      refine q_bipush (M := md_X3_fireLine) (pc := 67) (x := 59) dX3_fireLine_67 (by decide) ?_
      refine e_callVi (M := md_X3_fireLine) (pc := 69) (d' := 3) (av := [q_I 59]) (c := 25) h ml_3_94 im_X3_pass se_X3_pass dX3_fireLine_69 (fun v he => ok_X3_pass hN  he) rfl (is_25 hN) ⟨_, _, rfl⟩ (by decide) (Nat.le_of_ble_eq_true rfl) ⟨by decide, by decide⟩ rfl (fun v11 m12 h => ?_)
      exact e_zret (M := md_X3_fireLine) (pc := 72) h rfl dX3_fireLine_72
    · refine q_iconst (M := md_X3_fireLine) (pc := 50) dX3_fireLine_50 ?_
      exact e_zret (M := md_X3_fireLine) (pc := 51) h rfl dX3_fireLine_51
  · refine q_iconst (M := md_X3_fireLine) (pc := 23) dX3_fireLine_23 ?_
    exact e_zret (M := md_X3_fireLine) (pc := 24) h rfl dX3_fireLine_24
def f_PG_isWithin (l0 l1 : Int) (m : q_Mem) : q_Res :=
  if q_w l0 < q_w (-l1) then (q_rz 0 m)
  else (if q_w l1 < q_w l0 then (q_rz 0 m)
  else (q_rz 1 m))
set_option maxRecDepth 20000 in
theorem ok_X10_isWithin {l0 l1 : Int} {r : Int × q_Mem} {m : q_Mem} {N : Nat} (hN : 81 ≤ N) (h : f_PG_isWithin l0 l1 m = some r) : q_C md_X10_isWithin (q_room 1) 0 0 [q_I l0, q_I l1] (q_g N) m (some (q_I r.1), q_g N, r.2) := by
  refine q_ofR (by decide) 0 (ls := [q_I l0, q_I l1]) rfl (Nat.le_of_ble_eq_true rfl) ?_
  change q_E md_X10_isWithin 1 N (some 0) r m 0 [q_I l0, q_I l1] []
  unfold f_PG_isWithin at h
  refine q_iload_n (M := md_X10_isWithin) (pc := 0) dX10_isWithin_0 rfl ?_
  refine q_iload_n (M := md_X10_isWithin) (pc := 1) dX10_isWithin_1 rfl ?_
  refine q_ineg (M := md_X10_isWithin) (pc := 2) dX10_isWithin_2 ?_
  refine e_icmp_lt (M := md_X10_isWithin) (pc := 3) (tgt := 15) h rfl rfl dX10_isWithin_3 (by decide) (fun h => ?_) (fun h => ?_)
  · refine q_iconst (M := md_X10_isWithin) (pc := 15) dX10_isWithin_15 ?_
    exact e_zret (M := md_X10_isWithin) (pc := 16) h rfl dX10_isWithin_16
  · refine q_iload_n (M := md_X10_isWithin) (pc := 6) dX10_isWithin_6 rfl ?_
    refine q_iload_n (M := md_X10_isWithin) (pc := 7) dX10_isWithin_7 rfl ?_
    refine e_icmp_gt (M := md_X10_isWithin) (pc := 8) (tgt := 15) h rfl rfl dX10_isWithin_8 (by decide) (fun h => ?_) (fun h => ?_)
    · refine q_iconst (M := md_X10_isWithin) (pc := 15) dX10_isWithin_15 ?_
      exact e_zret (M := md_X10_isWithin) (pc := 16) h rfl dX10_isWithin_16
    · refine q_iconst (M := md_X10_isWithin) (pc := 11) dX10_isWithin_11 ?_
      refine q_goto (M := md_X10_isWithin) (pc := 12) (tgt := 16) dX10_isWithin_12 (by decide) ?_
      exact e_zret (M := md_X10_isWithin) (pc := 16) h rfl dX10_isWithin_16
def f_PG_divisor_b7 (k7 : Int → Int → Int → q_Mem → q_Res) (l2 l3 l4 : Int) (m : q_Mem) : q_Res :=
  if 6 ≤ q_w l4 then (q_rt l2 m)
  else (if q_w l3 = 0 then (q_rt l2 m)
  else (q_md l2 l3 fun v1 =>
  k7 l3 v1 (l4 + 1) m))
set_option maxRecDepth 20000 in
theorem w_PG_divisor_b7 {k7 : Int → Int → Int → q_Mem → q_Res} {l2 l3 l4 : Int} {r : Int × q_Mem} {m : q_Mem} {N : Nat} (hN : 81 ≤ N) (hk7 : ∀ (l2 l3 l4 : Int) (m : q_Mem), k7 l2 l3 l4 m = some r → q_E md_X10_divisor 1 N (some 0) r m 7 [q_N, q_N, q_I l2, q_I l3, q_I l4, q_N] []) (h : f_PG_divisor_b7 k7 l2 l3 l4 m = some r) : q_E md_X10_divisor 1 N (some 0) r m 7 [q_N, q_N, q_I l2, q_I l3, q_I l4, q_N] [] := by
  unfold f_PG_divisor_b7 at h
  refine q_iload (M := md_X10_divisor) (pc := 7) dX10_divisor_7 rfl ?_
  refine q_bipush (M := md_X10_divisor) (pc := 9) (x := 6) dX10_divisor_9 (by decide) ?_
  refine e_icmp_ge (M := md_X10_divisor) (pc := 11) (tgt := 34) h rfl (q_wlit rfl) dX10_divisor_11 (by decide) (fun h => ?_) (fun h => ?_)
  · refine q_iload_n (M := md_X10_divisor) (pc := 34) dX10_divisor_34 rfl ?_
    exact e_iret (M := md_X10_divisor) (pc := 35) h rfl dX10_divisor_35
  · refine q_iload_n (M := md_X10_divisor) (pc := 14) dX10_divisor_14 rfl ?_
    refine e_if_eq (M := md_X10_divisor) (pc := 15) (tgt := 34) h rfl dX10_divisor_15 (by decide) (fun h => ?_) (fun h => ?_)
    · refine q_iload_n (M := md_X10_divisor) (pc := 34) dX10_divisor_34 rfl ?_
      exact e_iret (M := md_X10_divisor) (pc := 35) h rfl dX10_divisor_35
    · refine q_iload_n (M := md_X10_divisor) (pc := 18) dX10_divisor_18 rfl ?_
      refine q_iload_n (M := md_X10_divisor) (pc := 19) dX10_divisor_19 rfl ?_
      refine e_md (M := md_X10_divisor) (pc := 20) h dX10_divisor_20 (fun v1 h => ?_)
      refine e_ist (M := md_X10_divisor) (pc := 21) (ls' := [q_N, q_N, q_I l2, q_I l3, q_I l4, q_I v1]) dX10_divisor_21 (by decide) (q_pl rfl) rfl ?_
      refine q_iload_n (M := md_X10_divisor) (pc := 23) dX10_divisor_23 rfl ?_
      refine e_ist_n (M := md_X10_divisor) (pc := 24) (ls' := [q_N, q_N, q_I l3, q_I l3, q_I l4, q_I v1]) dX10_divisor_24 (by decide) (q_pl rfl) rfl ?_
      refine q_iload (M := md_X10_divisor) (pc := 25) dX10_divisor_25 rfl ?_
      refine e_ist_n (M := md_X10_divisor) (pc := 27) (ls' := [q_N, q_N, q_I l3, q_I v1, q_I l4, q_I v1]) dX10_divisor_27 (by decide) (q_pl rfl) rfl ?_
      refine e_inc (M := md_X10_divisor) (pc := 28) (x := l4) (ls' := [q_N, q_N, q_I l3, q_I v1, q_I (l4 + 1), q_I v1]) dX10_divisor_28 rfl (by decide) (q_pl rfl) rfl ?_
      refine q_goto (M := md_X10_divisor) (pc := 31) (tgt := 7) dX10_divisor_31 (by decide) ?_
      exact q_weak (hk7 _ _ _ _  h) ⟨Or.inl rfl, Or.inl rfl, Or.inr rfl, Or.inr rfl, Or.inr rfl, Or.inl rfl, trivial⟩
def f_PG_divisor_l7 : Nat → Int → Int → Int → q_Mem → q_Res
  | 0 => fun _ _ _ _ => none
  | n + 1 => fun l2 l3 l4 m => f_PG_divisor_b7 (f_PG_divisor_l7 n) l2 l3 l4 m
theorem w_PG_divisor_l7 {r : Int × q_Mem} {N : Nat} (hN : 81 ≤ N) : ∀ (n : Nat) (l2 l3 l4 : Int) (m : q_Mem), f_PG_divisor_l7 n l2 l3 l4 m = some r → q_E md_X10_divisor 1 N (some 0) r m 7 [q_N, q_N, q_I l2, q_I l3, q_I l4, q_N] [] := by
  intro n
  induction n with
  | zero => intro l2 l3 l4 m h; exact q_no h
  | succ n ih =>
    intro l2 l3 l4 m h
    exact w_PG_divisor_b7 hN (fun l2 l3 l4 m h => ih l2 l3 l4 m h) h
def f_PG_divisor (l0 l1 : Int) (m : q_Mem) : q_Res :=
  f_PG_divisor_l7 q_F l0 l1 0 m
set_option maxRecDepth 20000 in
theorem ok_X10_divisor {l0 l1 : Int} {r : Int × q_Mem} {m : q_Mem} {N : Nat} (hN : 81 ≤ N) (h : f_PG_divisor l0 l1 m = some r) : q_C md_X10_divisor (q_room 1) 0 0 [q_I l0, q_I l1] (q_g N) m (some (q_I r.1), q_g N, r.2) := by
  refine q_ofR (by decide) 4 (ls := [q_I l0, q_I l1, q_N, q_N, q_N, q_N]) rfl (Nat.le_of_ble_eq_true rfl) ?_
  change q_E md_X10_divisor 1 N (some 0) r m 0 [q_I l0, q_I l1, q_N, q_N, q_N, q_N] []
  unfold f_PG_divisor at h
  refine q_iload_n (M := md_X10_divisor) (pc := 0) dX10_divisor_0 rfl ?_
  refine e_ist_n (M := md_X10_divisor) (pc := 1) (ls' := [q_I l0, q_I l1, q_I l0, q_N, q_N, q_N]) dX10_divisor_1 (by decide) (q_pl rfl) rfl ?_
  refine q_iload_n (M := md_X10_divisor) (pc := 2) dX10_divisor_2 rfl ?_
  refine e_ist_n (M := md_X10_divisor) (pc := 3) (ls' := [q_I l0, q_I l1, q_I l0, q_I l1, q_N, q_N]) dX10_divisor_3 (by decide) (q_pl rfl) rfl ?_
  refine q_iconst (M := md_X10_divisor) (pc := 4) dX10_divisor_4 ?_
  refine e_ist (M := md_X10_divisor) (pc := 5) (ls' := [q_I l0, q_I l1, q_I l0, q_I l1, q_I 0, q_N]) dX10_divisor_5 (by decide) (q_pl rfl) rfl ?_
  exact q_weak (w_PG_divisor_l7 hN q_F _ _ _ _  h) ⟨Or.inl rfl, Or.inl rfl, Or.inr rfl, Or.inr rfl, Or.inr rfl, Or.inl rfl, trivial⟩
def f_PG_isLine (l0 l1 : Int) (m : q_Mem) : q_Res :=
  q_bd (f_PG_isWithin l0 3 m) fun v1 m2 =>
  if q_w v1 = 0 then (q_rz 0 m2)
  else (q_bd (f_PG_isWithin l1 3 m2) fun v3 m4 =>
  if q_w v3 = 0 then (q_rz 0 m4)
  else (q_bd (f_PG_divisor (q_abs l0) (q_abs l1) m4) fun v5 m6 =>
  if q_w v5 = 1 then (q_rz 1 m6)
  else (q_rz 0 m6)))
set_option maxRecDepth 20000 in
theorem ok_X10_isLine {l0 l1 : Int} {r : Int × q_Mem} {m : q_Mem} {N : Nat} (hN : 81 ≤ N) (h : f_PG_isLine l0 l1 m = some r) : q_C md_X10_isLine (q_room 2) 0 0 [q_I l0, q_I l1] (q_g N) m (some (q_I r.1), q_g N, r.2) := by
  refine q_ofR (by decide) 0 (ls := [q_I l0, q_I l1]) rfl (Nat.le_of_ble_eq_true rfl) ?_
  change q_E md_X10_isLine 2 N (some 0) r m 0 [q_I l0, q_I l1] []
  unfold f_PG_isLine at h
  refine q_iload_n (M := md_X10_isLine) (pc := 0) dX10_isLine_0 rfl ?_
  refine q_iconst (M := md_X10_isLine) (pc := 1) dX10_isLine_1 ?_
  refine e_callSi (M := md_X10_isLine) (pc := 2) (d' := 1) (M' := md_X10_isWithin) (av := [q_I l0, q_I 3]) h ml_10_127 sm_X10_isWithin dX10_isLine_2 (fun v he => ok_X10_isWithin hN  he) rfl (Nat.le_of_ble_eq_true rfl) ⟨by decide, by decide⟩ rfl (fun v1 m2 h => ?_)
  refine e_if_eq (M := md_X10_isLine) (pc := 5) (tgt := 35) h rfl dX10_isLine_5 (by decide) (fun h => ?_) (fun h => ?_)
  · refine q_iconst (M := md_X10_isLine) (pc := 35) dX10_isLine_35 ?_
    exact e_zret (M := md_X10_isLine) (pc := 36) h rfl dX10_isLine_36
  · refine q_iload_n (M := md_X10_isLine) (pc := 8) dX10_isLine_8 rfl ?_
    refine q_iconst (M := md_X10_isLine) (pc := 9) dX10_isLine_9 ?_
    refine e_callSi (M := md_X10_isLine) (pc := 10) (d' := 1) (M' := md_X10_isWithin) (av := [q_I l1, q_I 3]) h ml_10_127 sm_X10_isWithin dX10_isLine_10 (fun v he => ok_X10_isWithin hN  he) rfl (Nat.le_of_ble_eq_true rfl) ⟨by decide, by decide⟩ rfl (fun v3 m4 h => ?_)
    refine e_if_eq (M := md_X10_isLine) (pc := 13) (tgt := 35) h rfl dX10_isLine_13 (by decide) (fun h => ?_) (fun h => ?_)
    · refine q_iconst (M := md_X10_isLine) (pc := 35) dX10_isLine_35 ?_
      exact e_zret (M := md_X10_isLine) (pc := 36) h rfl dX10_isLine_36
    · refine q_iload_n (M := md_X10_isLine) (pc := 16) dX10_isLine_16 rfl ?_
      refine e_abs (M := md_X10_isLine) (pc := 17) jl_10_398 dX10_isLine_17 (by decide) (Nat.le_of_ble_eq_true rfl) ?_
      refine q_iload_n (M := md_X10_isLine) (pc := 20) dX10_isLine_20 rfl ?_
      refine e_abs (M := md_X10_isLine) (pc := 21) jl_10_398 dX10_isLine_21 (by decide) (Nat.le_of_ble_eq_true rfl) ?_
      refine e_callSi (M := md_X10_isLine) (pc := 24) (d' := 1) (M' := md_X10_divisor) (av := [q_I (q_abs l0), q_I (q_abs l1)]) h ml_10_403 sm_X10_divisor dX10_isLine_24 (fun v he => ok_X10_divisor hN  he) rfl (Nat.le_of_ble_eq_true rfl) ⟨by decide, by decide⟩ rfl (fun v5 m6 h => ?_)
      refine q_iconst (M := md_X10_isLine) (pc := 27) dX10_isLine_27 ?_
      refine e_icmp_ne (M := md_X10_isLine) (pc := 28) (tgt := 35) h rfl (q_wlit rfl) dX10_isLine_28 (by decide) (fun h => ?_) (fun h => ?_)
      · refine q_iconst (M := md_X10_isLine) (pc := 35) dX10_isLine_35 ?_
        exact e_zret (M := md_X10_isLine) (pc := 36) h rfl dX10_isLine_36
      · refine q_iconst (M := md_X10_isLine) (pc := 31) dX10_isLine_31 ?_
        refine q_goto (M := md_X10_isLine) (pc := 32) (tgt := 36) dX10_isLine_32 (by decide) ?_
        exact e_zret (M := md_X10_isLine) (pc := 36) h rfl dX10_isLine_36
def f_Pars_ontoLine (m : q_Mem) : q_Res :=
  q_pz m 25 7 1 fun m1 =>
  q_bd (f_Tape_step m1) fun _ m2 =>
  q_bd (f_Pars_passNumber (-3) 3 m2) fun v3 m4 =>
  if q_w v3 = 0 then (q_rz 0 m4)
  else (q_lt (m4 25 3) fun v5 => q_one q_Lp v5 <|
  q_pf m4 (v5 + 1) 2 (m4 25 9) fun m6 =>
  q_bd (f_Pars_passNumber (-3) 3 m6) fun v7 m8 =>
  if q_w v7 = 0 then (q_rz 0 m8)
  else (q_lt (m8 25 3) fun v9 => q_one q_Lp v9 <|
  q_pf m8 (v9 + 1) 3 (m8 25 9) fun m10 =>
  q_lt (m10 25 3) fun v11 => q_one q_Lp v11 <|
  q_lt (m10 25 3) fun v12 => q_one q_Lp v12 <|
  q_bd (f_PG_isLine (m10 (v11 + 1) 2) (m10 (v12 + 1) 3) m10) fun v13 m14 =>
  if q_w v13 = 0 then (q_bd (f_Pars_refuse 2 (m14 25 10) m14) fun v17 m18 =>
  q_rz v17 m18)
  else (q_bd (f_Pars_pass 59 m14) fun v15 m16 =>
  q_rz v15 m16)))
set_option maxRecDepth 20000 in
theorem ok_X3_ontoLine {r : Int × q_Mem} {m : q_Mem} {N : Nat} (hN : 81 ≤ N) (h : f_Pars_ontoLine m = some r) : q_C md_X3_ontoLine (q_room 4) 0 0 [q_A 25] (q_g N) m (some (q_I r.1), q_g N, r.2) := by
  refine q_ofR (by decide) 0 (ls := [q_A 25]) rfl (Nat.le_of_ble_eq_true rfl) ?_
  change q_E md_X3_ontoLine 4 N (some 0) r m 0 [q_A 25] []
  unfold f_Pars_ontoLine at h
  refine q_aload_n (M := md_X3_ontoLine) (pc := 0) dX3_ontoLine_0 rfl (by decide) ?_
  refine q_iconst (M := md_X3_ontoLine) (pc := 1) dX3_ontoLine_1 ?_
  refine e_pfZ (M := md_X3_ontoLine) (pc := 2) h fl_3_42 dX3_ontoLine_2 (is_25 hN) rfl (fun m1 h => ?_)
  refine q_aload_n (M := md_X3_ontoLine) (pc := 5) dX3_ontoLine_5 rfl (by decide) ?_
  refine q_getP (M := md_X3_ontoLine) (pc := 6) (v := 1) fl_3_22 dX3_ontoLine_6 (is_25 hN) rfl ?_
  refine e_callVv (M := md_X3_ontoLine) (pc := 9) (d' := 2) (av := []) (c := 1) h ml_3_77 im_X7_step se_X7_step dX3_ontoLine_9 (fun v he => ok_X7_step hN  he) rfl (is_1 hN) ⟨_, _, rfl⟩ (by decide) (Nat.le_of_ble_eq_true rfl) ⟨by decide, by decide⟩ rfl (fun _ m2 h => ?_)
  refine q_aload_n (M := md_X3_ontoLine) (pc := 12) dX3_ontoLine_12 rfl (by decide) ?_
  refine q_bipush (M := md_X3_ontoLine) (pc := 13) (x := -3) dX3_ontoLine_13 (by decide) ?_
  refine q_iconst (M := md_X3_ontoLine) (pc := 15) dX3_ontoLine_15 ?_
  refine e_callVi (M := md_X3_ontoLine) (pc := 16) (d' := 3) (av := [q_I (-3), q_I 3]) (c := 25) h ml_3_82 im_X3_passNumber se_X3_passNumber dX3_ontoLine_16 (fun v he => ok_X3_passNumber hN  he) rfl (is_25 hN) ⟨_, _, rfl⟩ (by decide) (Nat.le_of_ble_eq_true rfl) ⟨by decide, by decide⟩ rfl (fun v3 m4 h => ?_)
  refine e_if_ne (M := md_X3_ontoLine) (pc := 19) (tgt := 24) h rfl dX3_ontoLine_19 (by decide) (fun h => ?_) (fun h => ?_)
  · refine q_aload_n (M := md_X3_ontoLine) (pc := 24) dX3_ontoLine_24 rfl (by decide) ?_
    refine e_gR (M := md_X3_ontoLine) (pc := 25) h fl_3_26 dX3_ontoLine_25 (is_25 hN) rfl (fun v5 hv5 h => ?_)
    refine q_getP (M := md_X3_ontoLine) (pc := 28) (v := v5 + 1) fl_3_108 dX3_ontoLine_28 (is_Lp hN hv5) (ph_Lp_8 hv5) ?_
    refine q_aload_n (M := md_X3_ontoLine) (pc := 31) dX3_ontoLine_31 rfl (by decide) ?_
    refine e_gI (M := md_X3_ontoLine) (pc := 32) (v := m4 25 9) fl_3_85 dX3_ontoLine_32 (is_25 hN) rfl ?_
    refine e_pfI (M := md_X3_ontoLine) (pc := 35) h fl_3_120 dX3_ontoLine_35 (is_Ly hN (ly_Lp hv5)) rfl (fun m6 h => ?_)
    refine q_aload_n (M := md_X3_ontoLine) (pc := 38) dX3_ontoLine_38 rfl (by decide) ?_
    refine q_bipush (M := md_X3_ontoLine) (pc := 39) (x := -3) dX3_ontoLine_39 (by decide) ?_
    refine q_iconst (M := md_X3_ontoLine) (pc := 41) dX3_ontoLine_41 ?_
    refine e_callVi (M := md_X3_ontoLine) (pc := 42) (d' := 3) (av := [q_I (-3), q_I 3]) (c := 25) h ml_3_82 im_X3_passNumber se_X3_passNumber dX3_ontoLine_42 (fun v he => ok_X3_passNumber hN  he) rfl (is_25 hN) ⟨_, _, rfl⟩ (by decide) (Nat.le_of_ble_eq_true rfl) ⟨by decide, by decide⟩ rfl (fun v7 m8 h => ?_)
    refine e_if_ne (M := md_X3_ontoLine) (pc := 45) (tgt := 50) h rfl dX3_ontoLine_45 (by decide) (fun h => ?_) (fun h => ?_)
    · refine q_aload_n (M := md_X3_ontoLine) (pc := 50) dX3_ontoLine_50 rfl (by decide) ?_
      refine e_gR (M := md_X3_ontoLine) (pc := 51) h fl_3_26 dX3_ontoLine_51 (is_25 hN) rfl (fun v9 hv9 h => ?_)
      refine q_getP (M := md_X3_ontoLine) (pc := 54) (v := v9 + 1) fl_3_108 dX3_ontoLine_54 (is_Lp hN hv9) (ph_Lp_8 hv9) ?_
      refine q_aload_n (M := md_X3_ontoLine) (pc := 57) dX3_ontoLine_57 rfl (by decide) ?_
      refine e_gI (M := md_X3_ontoLine) (pc := 58) (v := m8 25 9) fl_3_85 dX3_ontoLine_58 (is_25 hN) rfl ?_
      refine e_pfI (M := md_X3_ontoLine) (pc := 61) h fl_3_123 dX3_ontoLine_61 (is_Ly hN (ly_Lp hv9)) rfl (fun m10 h => ?_)
      refine q_aload_n (M := md_X3_ontoLine) (pc := 64) dX3_ontoLine_64 rfl (by decide) ?_
      refine e_gR (M := md_X3_ontoLine) (pc := 65) h fl_3_26 dX3_ontoLine_65 (is_25 hN) rfl (fun v11 hv11 h => ?_)
      refine q_getP (M := md_X3_ontoLine) (pc := 68) (v := v11 + 1) fl_3_108 dX3_ontoLine_68 (is_Lp hN hv11) (ph_Lp_8 hv11) ?_
      refine e_gI (M := md_X3_ontoLine) (pc := 71) (v := m10 (v11 + 1) 2) fl_3_120 dX3_ontoLine_71 (is_Ly hN (ly_Lp hv11)) rfl ?_
      refine q_aload_n (M := md_X3_ontoLine) (pc := 74) dX3_ontoLine_74 rfl (by decide) ?_
      refine e_gR (M := md_X3_ontoLine) (pc := 75) h fl_3_26 dX3_ontoLine_75 (is_25 hN) rfl (fun v12 hv12 h => ?_)
      refine q_getP (M := md_X3_ontoLine) (pc := 78) (v := v12 + 1) fl_3_108 dX3_ontoLine_78 (is_Lp hN hv12) (ph_Lp_8 hv12) ?_
      refine e_gI (M := md_X3_ontoLine) (pc := 81) (v := m10 (v12 + 1) 3) fl_3_123 dX3_ontoLine_81 (is_Ly hN (ly_Lp hv12)) rfl ?_
      refine e_callSNi (M := md_X3_ontoLine) (pc := 84) (d' := 2) (M' := md_X10_isLine) (av := [q_I (m10 (v11 + 1) 2), q_I (m10 (v12 + 1) 3)]) h nl_3_126 sm_X10_isLine dX3_ontoLine_84 (fun v he => ok_X10_isLine hN  he) rfl (Nat.le_of_ble_eq_true rfl) ⟨by decide, by decide⟩ rfl (fun v13 m14 h => ?_)
      refine e_if_ne (M := md_X3_ontoLine) (pc := 87) (tgt := 100) h rfl dX3_ontoLine_87 (by decide) (fun h => ?_) (fun h => ?_)
      · refine q_aload_n (M := md_X3_ontoLine) (pc := 100) dX3_ontoLine_100 rfl (by decide) ?_
        refine q_bipush (M := md_X3_ontoLine) (pc := 101) (x := 59) dX3_ontoLine_101 (by decide) ?_
        refine e_callVi (M := md_X3_ontoLine) (pc := 103) (d' := 3) (av := [q_I 59]) (c := 25) h ml_3_94 im_X3_pass se_X3_pass dX3_ontoLine_103 (fun v he => ok_X3_pass hN  he) rfl (is_25 hN) ⟨_, _, rfl⟩ (by decide) (Nat.le_of_ble_eq_true rfl) ⟨by decide, by decide⟩ rfl (fun v15 m16 h => ?_)
        exact e_zret (M := md_X3_ontoLine) (pc := 106) h rfl dX3_ontoLine_106
      · refine q_aload_n (M := md_X3_ontoLine) (pc := 90) dX3_ontoLine_90 rfl (by decide) ?_
        refine q_iconst (M := md_X3_ontoLine) (pc := 91) dX3_ontoLine_91 ?_
        refine q_aload_n (M := md_X3_ontoLine) (pc := 92) dX3_ontoLine_92 rfl (by decide) ?_
        refine e_gI (M := md_X3_ontoLine) (pc := 93) (v := m14 25 10) fl_3_129 dX3_ontoLine_93 (is_25 hN) rfl ?_
        refine e_callVi (M := md_X3_ontoLine) (pc := 96) (d' := 1) (av := [q_I 2, q_I (m14 25 10)]) (c := 25) h ml_3_73 im_X3_refuse se_X3_refuse dX3_ontoLine_96 (fun v he => ok_X3_refuse hN  he) rfl (is_25 hN) ⟨_, _, rfl⟩ (by decide) (Nat.le_of_ble_eq_true rfl) ⟨by decide, by decide⟩ rfl (fun v17 m18 h => ?_)
        exact e_zret (M := md_X3_ontoLine) (pc := 99) h rfl dX3_ontoLine_99
    · refine q_iconst (M := md_X3_ontoLine) (pc := 48) dX3_ontoLine_48 ?_
      exact e_zret (M := md_X3_ontoLine) (pc := 49) h rfl dX3_ontoLine_49
  · refine q_iconst (M := md_X3_ontoLine) (pc := 22) dX3_ontoLine_22 ?_
    exact e_zret (M := md_X3_ontoLine) (pc := 23) h rfl dX3_ontoLine_23
def f_Pars_layoutLine_b48 (m : q_Mem) : q_Res :=
  q_bd (f_Pars_refuse 1 (m 1 3) m) fun v1 m2 =>
  q_rz v1 m2
set_option maxRecDepth 20000 in
theorem w_Pars_layoutLine_b48 {r : Int × q_Mem} {m : q_Mem} {N : Nat} (hN : 81 ≤ N) (h : f_Pars_layoutLine_b48 m = some r) : q_E md_X3_layoutLine 7 N (some 0) r m 48 [q_A 25] [] := by
  unfold f_Pars_layoutLine_b48 at h
  refine q_aload_n (M := md_X3_layoutLine) (pc := 48) dX3_layoutLine_48 rfl (by decide) ?_
  refine q_iconst (M := md_X3_layoutLine) (pc := 49) dX3_layoutLine_49 ?_
  refine q_aload_n (M := md_X3_layoutLine) (pc := 50) dX3_layoutLine_50 rfl (by decide) ?_
  refine q_getP (M := md_X3_layoutLine) (pc := 51) (v := 1) fl_3_22 dX3_layoutLine_51 (is_25 hN) rfl ?_
  refine e_gI (M := md_X3_layoutLine) (pc := 54) (v := m 1 3) fl_3_72 dX3_layoutLine_54 (is_1 hN) rfl ?_
  refine e_callVi (M := md_X3_layoutLine) (pc := 57) (d' := 1) (av := [q_I 1, q_I (m 1 3)]) (c := 25) h ml_3_73 im_X3_refuse se_X3_refuse dX3_layoutLine_57 (fun v he => ok_X3_refuse hN  he) rfl (is_25 hN) ⟨_, _, rfl⟩ (by decide) (Nat.le_of_ble_eq_true rfl) ⟨by decide, by decide⟩ rfl (fun v1 m2 h => ?_)
  exact e_zret (M := md_X3_layoutLine) (pc := 60) h rfl dX3_layoutLine_60
def f_Pars_layoutLine_b24 (m : q_Mem) : q_Res :=
  q_bd (f_Tape_isWord 13 m) fun v1 m2 =>
  if q_w v1 = 0 then (f_Pars_layoutLine_b48 m2)
  else (if q_w (m2 25 7) = 0 then (q_bd (f_Pars_ontoLine m2) fun v3 m4 =>
  q_rz v3 m4)
  else (f_Pars_layoutLine_b48 m2))
set_option maxRecDepth 20000 in
theorem w_Pars_layoutLine_b24 {r : Int × q_Mem} {m : q_Mem} {N : Nat} (hN : 81 ≤ N) (h : f_Pars_layoutLine_b24 m = some r) : q_E md_X3_layoutLine 7 N (some 0) r m 24 [q_A 25] [] := by
  unfold f_Pars_layoutLine_b24 at h
  refine q_aload_n (M := md_X3_layoutLine) (pc := 24) dX3_layoutLine_24 rfl (by decide) ?_
  refine q_getP (M := md_X3_layoutLine) (pc := 25) (v := 1) fl_3_22 dX3_layoutLine_25 (is_25 hN) rfl ?_
  refine e_ldcS (M := md_X3_layoutLine) (pc := 28) (i := 13) (tx := "onto") dX3_layoutLine_28 (by decide) ?_
  refine e_callVi (M := md_X3_layoutLine) (pc := 30) (d' := 6) (av := [q_S 13]) (c := 1) h ml_3_62 im_X7_isWord se_X7_isWord dX3_layoutLine_30 (fun v he => ok_X7_isWord hN (by decide) he) rfl (is_1 hN) ⟨_, _, rfl⟩ (by decide) (Nat.le_of_ble_eq_true rfl) ⟨by decide, by decide⟩ rfl (fun v1 m2 h => ?_)
  refine e_if_eq (M := md_X3_layoutLine) (pc := 33) (tgt := 48) h rfl dX3_layoutLine_33 (by decide) (fun h => ?_) (fun h => ?_)
  · exact q_weak (w_Pars_layoutLine_b48 hN  h) ⟨Or.inr rfl, trivial⟩
  · refine q_aload_n (M := md_X3_layoutLine) (pc := 36) dX3_layoutLine_36 rfl (by decide) ?_
    refine e_gI (M := md_X3_layoutLine) (pc := 37) (v := m2 25 7) fl_3_42 dX3_layoutLine_37 (is_25 hN) rfl ?_
    refine e_if_ne (M := md_X3_layoutLine) (pc := 40) (tgt := 48) h rfl dX3_layoutLine_40 (by decide) (fun h => ?_) (fun h => ?_)
    · exact q_weak (w_Pars_layoutLine_b48 hN  h) ⟨Or.inr rfl, trivial⟩
    · refine q_aload_n (M := md_X3_layoutLine) (pc := 43) dX3_layoutLine_43 rfl (by decide) ?_
      refine e_callVi (M := md_X3_layoutLine) (pc := 44) (d' := 4) (av := []) (c := 25) h ml_3_105 im_X3_ontoLine se_X3_ontoLine dX3_layoutLine_44 (fun v he => ok_X3_ontoLine hN  he) rfl (is_25 hN) ⟨_, _, rfl⟩ (by decide) (Nat.le_of_ble_eq_true rfl) ⟨by decide, by decide⟩ rfl (fun v3 m4 h => ?_)
      exact e_zret (M := md_X3_layoutLine) (pc := 47) h rfl dX3_layoutLine_47
def f_Pars_layoutLine (m : q_Mem) : q_Res :=
  q_bd (f_Tape_isWord 12 m) fun v1 m2 =>
  if q_w v1 = 0 then (f_Pars_layoutLine_b24 m2)
  else (if q_w (m2 25 6) = 0 then (q_bd (f_Pars_fireLine m2) fun v3 m4 =>
  q_rz v3 m4)
  else (f_Pars_layoutLine_b24 m2))
set_option maxRecDepth 20000 in
theorem ok_X3_layoutLine {r : Int × q_Mem} {m : q_Mem} {N : Nat} (hN : 81 ≤ N) (h : f_Pars_layoutLine m = some r) : q_C md_X3_layoutLine (q_room 7) 0 0 [q_A 25] (q_g N) m (some (q_I r.1), q_g N, r.2) := by
  refine q_ofR (by decide) 0 (ls := [q_A 25]) rfl (Nat.le_of_ble_eq_true rfl) ?_
  change q_E md_X3_layoutLine 7 N (some 0) r m 0 [q_A 25] []
  unfold f_Pars_layoutLine at h
  refine q_aload_n (M := md_X3_layoutLine) (pc := 0) dX3_layoutLine_0 rfl (by decide) ?_
  refine q_getP (M := md_X3_layoutLine) (pc := 1) (v := 1) fl_3_22 dX3_layoutLine_1 (is_25 hN) rfl ?_
  refine e_ldcS (M := md_X3_layoutLine) (pc := 4) (i := 12) (tx := "fire") dX3_layoutLine_4 (by decide) ?_
  refine e_callVi (M := md_X3_layoutLine) (pc := 6) (d' := 6) (av := [q_S 12]) (c := 1) h ml_3_62 im_X7_isWord se_X7_isWord dX3_layoutLine_6 (fun v he => ok_X7_isWord hN (by decide) he) rfl (is_1 hN) ⟨_, _, rfl⟩ (by decide) (Nat.le_of_ble_eq_true rfl) ⟨by decide, by decide⟩ rfl (fun v1 m2 h => ?_)
  refine e_if_eq (M := md_X3_layoutLine) (pc := 9) (tgt := 24) h rfl dX3_layoutLine_9 (by decide) (fun h => ?_) (fun h => ?_)
  · exact q_weak (w_Pars_layoutLine_b24 hN  h) ⟨Or.inr rfl, trivial⟩
  · refine q_aload_n (M := md_X3_layoutLine) (pc := 12) dX3_layoutLine_12 rfl (by decide) ?_
    refine e_gI (M := md_X3_layoutLine) (pc := 13) (v := m2 25 6) fl_3_38 dX3_layoutLine_13 (is_25 hN) rfl ?_
    refine e_if_ne (M := md_X3_layoutLine) (pc := 16) (tgt := 24) h rfl dX3_layoutLine_16 (by decide) (fun h => ?_) (fun h => ?_)
    · exact q_weak (w_Pars_layoutLine_b24 hN  h) ⟨Or.inr rfl, trivial⟩
    · refine q_aload_n (M := md_X3_layoutLine) (pc := 19) dX3_layoutLine_19 rfl (by decide) ?_
      refine e_callVi (M := md_X3_layoutLine) (pc := 20) (d' := 4) (av := []) (c := 25) h ml_3_100 im_X3_fireLine se_X3_fireLine dX3_layoutLine_20 (fun v he => ok_X3_fireLine hN  he) rfl (is_25 hN) ⟨_, _, rfl⟩ (by decide) (Nat.le_of_ble_eq_true rfl) ⟨by decide, by decide⟩ rfl (fun v3 m4 h => ?_)
      exact e_zret (M := md_X3_layoutLine) (pc := 23) h rfl dX3_layoutLine_23
def f_Plac_setTicks_b43 (k43 : Int → Int → Int → Int → q_Mem → q_Res) (l1 l2 l3 l4 : Int) (m : q_Mem) : q_Res :=
  if q_w (m 60 8) ≤ q_w l4 then (q_rt 0 m)
  else (q_bd (f_Loop_pointAt l1 l4 m) fun v1 m2 =>
  q_dv v1 10 fun v3 =>
  q_md v1 10 fun v4 =>
  q_wr m2 61 100 v1 ((((m2 l2 0) * v3) + ((m2 l2 1) * v4)) - l3) fun m5 =>
  q_rd m5 61 100 v1 fun v6 =>
  q_rd m5 65 163 v6 fun v7 =>
  q_wr m5 65 163 v6 (v7 + 1) fun m8 =>
  k43 l1 l2 l3 (l4 + 1) m8)
set_option maxRecDepth 20000 in
theorem w_Plac_setTicks_b43 {k43 : Int → Int → Int → Int → q_Mem → q_Res} {l1 l2 l3 l4 : Int} {r : Int × q_Mem} {m : q_Mem} {N : Nat} (hN : 81 ≤ N) (hk43 : ∀ (l1 l2 l3 l4 : Int) (m : q_Mem), l1 ∈ (q_Lp : List Int) → l2 ∈ (q_Ly : List Int) → k43 l1 l2 l3 l4 m = some r → q_E md_X4_setTicks 2 N (none) r m 43 [q_A 60, q_A l1, q_A l2, q_I l3, q_I l4, q_N] []) (hl1 : l1 ∈ (q_Lp : List Int)) (hl2 : l2 ∈ (q_Ly : List Int)) (h : f_Plac_setTicks_b43 k43 l1 l2 l3 l4 m = some r) : q_E md_X4_setTicks 2 N (none) r m 43 [q_A 60, q_A l1, q_A l2, q_I l3, q_I l4, q_N] [] := by
  unfold f_Plac_setTicks_b43 at h
  refine q_iload (M := md_X4_setTicks) (pc := 43) dX4_setTicks_43 rfl ?_
  refine q_aload_n (M := md_X4_setTicks) (pc := 45) dX4_setTicks_45 rfl (by decide) ?_
  refine e_gI (M := md_X4_setTicks) (pc := 46) (v := m 60 8) fl_4_43 dX4_setTicks_46 (is_60 hN) rfl ?_
  refine e_icmp_ge (M := md_X4_setTicks) (pc := 49) (tgt := 112) h rfl rfl dX4_setTicks_49 (by decide) (fun h => ?_) (fun h => ?_)
  · exact e_vret (M := md_X4_setTicks) (pc := 112) h rfl dX4_setTicks_112
  · refine q_aload_n (M := md_X4_setTicks) (pc := 52) dX4_setTicks_52 rfl (nn_Lp hl1) ?_
    refine q_iload (M := md_X4_setTicks) (pc := 53) dX4_setTicks_53 rfl ?_
    refine e_callVi (M := md_X4_setTicks) (pc := 55) (d' := 1) (av := [q_I l4]) (c := l1) h ml_4_104 im_X2_pointAt se_X2_pointAt dX4_setTicks_55 (fun v he => ok_X2_pointAt hN hl1 he) rfl (is_Lp hN hl1) ⟨_, _, rfl⟩ (by decide) (Nat.le_of_ble_eq_true rfl) ⟨by decide, by decide⟩ rfl (fun v1 m2 h => ?_)
    refine e_ist (M := md_X4_setTicks) (pc := 58) (ls' := [q_A 60, q_A l1, q_A l2, q_I l3, q_I l4, q_I v1]) dX4_setTicks_58 (by decide) (q_pl rfl) rfl ?_
    refine q_aload_n (M := md_X4_setTicks) (pc := 60) dX4_setTicks_60 rfl (by decide) ?_
    refine q_getP (M := md_X4_setTicks) (pc := 61) (v := 61) fl_4_9 dX4_setTicks_61 (is_60 hN) rfl ?_
    refine q_iload (M := md_X4_setTicks) (pc := 64) dX4_setTicks_64 rfl ?_
    refine q_aload_n (M := md_X4_setTicks) (pc := 66) dX4_setTicks_66 rfl (nn_Ly hl2) ?_
    refine e_gI (M := md_X4_setTicks) (pc := 67) (v := m2 l2 0) fl_4_46 dX4_setTicks_67 (is_Ly hN hl2) rfl ?_
    refine q_iload (M := md_X4_setTicks) (pc := 70) dX4_setTicks_70 rfl ?_
    refine q_bipush (M := md_X4_setTicks) (pc := 72) (x := 10) dX4_setTicks_72 (by decide) ?_
    refine e_dv (M := md_X4_setTicks) (pc := 74) h dX4_setTicks_74 (fun v3 h => ?_)
    refine q_imul (M := md_X4_setTicks) (pc := 75) dX4_setTicks_75 ?_
    refine q_aload_n (M := md_X4_setTicks) (pc := 76) dX4_setTicks_76 rfl (nn_Ly hl2) ?_
    refine e_gI (M := md_X4_setTicks) (pc := 77) (v := m2 l2 1) fl_4_51 dX4_setTicks_77 (is_Ly hN hl2) rfl ?_
    refine q_iload (M := md_X4_setTicks) (pc := 80) dX4_setTicks_80 rfl ?_
    refine q_bipush (M := md_X4_setTicks) (pc := 82) (x := 10) dX4_setTicks_82 (by decide) ?_
    refine e_md (M := md_X4_setTicks) (pc := 84) h dX4_setTicks_84 (fun v4 h => ?_)
    refine q_imul (M := md_X4_setTicks) (pc := 85) dX4_setTicks_85 ?_
    refine q_iadd (M := md_X4_setTicks) (pc := 86) dX4_setTicks_86 ?_
    refine q_iload_n (M := md_X4_setTicks) (pc := 87) dX4_setTicks_87 rfl ?_
    refine q_isub (M := md_X4_setTicks) (pc := 88) dX4_setTicks_88 ?_
    refine e_wr (M := md_X4_setTicks) (pc := 89) h dX4_setTicks_89 (ar_61 hN) (fun m5 h => ?_)
    refine q_aload_n (M := md_X4_setTicks) (pc := 90) dX4_setTicks_90 rfl (by decide) ?_
    refine q_getP (M := md_X4_setTicks) (pc := 91) (v := 65) fl_4_25 dX4_setTicks_91 (is_60 hN) rfl ?_
    refine q_aload_n (M := md_X4_setTicks) (pc := 94) dX4_setTicks_94 rfl (by decide) ?_
    refine q_getP (M := md_X4_setTicks) (pc := 95) (v := 61) fl_4_9 dX4_setTicks_95 (is_60 hN) rfl ?_
    refine q_iload (M := md_X4_setTicks) (pc := 98) dX4_setTicks_98 rfl ?_
    refine e_rd (M := md_X4_setTicks) (pc := 100) h dX4_setTicks_100 (ar_61 hN) (fun v6 h => ?_)
    refine q_dup2 (M := md_X4_setTicks) (pc := 101) dX4_setTicks_101 (show (0 : Nat) ≠ 1 by decide) (show (2 : Nat) ≠ 1 by decide) ?_
    refine e_rd (M := md_X4_setTicks) (pc := 102) h dX4_setTicks_102 (ar_65 hN) (fun v7 h => ?_)
    refine q_iconst (M := md_X4_setTicks) (pc := 103) dX4_setTicks_103 ?_
    refine q_iadd (M := md_X4_setTicks) (pc := 104) dX4_setTicks_104 ?_
    refine e_wr (M := md_X4_setTicks) (pc := 105) h dX4_setTicks_105 (ar_65 hN) (fun m8 h => ?_)
    refine e_inc (M := md_X4_setTicks) (pc := 106) (x := l4) (ls' := [q_A 60, q_A l1, q_A l2, q_I l3, q_I (l4 + 1), q_I v1]) dX4_setTicks_106 rfl (by decide) (q_pl rfl) rfl ?_
    refine q_goto (M := md_X4_setTicks) (pc := 109) (tgt := 43) dX4_setTicks_109 (by decide) ?_
    exact q_weak (hk43 _ _ _ _ _ hl1 hl2 h) ⟨Or.inr rfl, Or.inr rfl, Or.inr rfl, Or.inr rfl, Or.inr rfl, Or.inl rfl, trivial⟩
def f_Plac_setTicks_l43 : Nat → Int → Int → Int → Int → q_Mem → q_Res
  | 0 => fun _ _ _ _ _ => none
  | n + 1 => fun l1 l2 l3 l4 m => f_Plac_setTicks_b43 (f_Plac_setTicks_l43 n) l1 l2 l3 l4 m
theorem w_Plac_setTicks_l43 {r : Int × q_Mem} {N : Nat} (hN : 81 ≤ N) : ∀ (n : Nat) (l1 l2 l3 l4 : Int) (m : q_Mem), l1 ∈ (q_Lp : List Int) → l2 ∈ (q_Ly : List Int) → f_Plac_setTicks_l43 n l1 l2 l3 l4 m = some r → q_E md_X4_setTicks 2 N (none) r m 43 [q_A 60, q_A l1, q_A l2, q_I l3, q_I l4, q_N] [] := by
  intro n
  induction n with
  | zero => intro l1 l2 l3 l4 m hl1 hl2 h; exact q_no h
  | succ n ih =>
    intro l1 l2 l3 l4 m hl1 hl2 h
    exact w_Plac_setTicks_b43 hN (fun l1 l2 l3 l4 m hl1 hl2 h => ih l1 l2 l3 l4 m hl1 hl2 h) hl1 hl2 h
def f_Plac_setTicks (l1 l2 : Int) (m : q_Mem) : q_Res :=
  q_fi m 65 163 0 fun m1 =>
  f_Plac_setTicks_l43 q_F l1 l2 ((q_min 0 ((m l2 0) * ((m l1 0) - 1))) + (q_min 0 ((m l2 1) * ((m l1 1) - 1)))) 0 m1
set_option maxRecDepth 20000 in
theorem ok_X4_setTicks {l1 l2 : Int} {r : Int × q_Mem} {m : q_Mem} {N : Nat} (hN : 81 ≤ N) (hl1 : l1 ∈ (q_Lp : List Int)) (hl2 : l2 ∈ (q_Ly : List Int)) (h : f_Plac_setTicks l1 l2 m = some r) : q_C md_X4_setTicks (q_room 2) 0 0 [q_A 60, q_A l1, q_A l2] (q_g N) m (none, q_g N, r.2) := by
  refine q_ofR (by decide) 3 (ls := [q_A 60, q_A l1, q_A l2, q_N, q_N, q_N]) rfl (Nat.le_of_ble_eq_true rfl) ?_
  change q_E md_X4_setTicks 2 N (none) r m 0 [q_A 60, q_A l1, q_A l2, q_N, q_N, q_N] []
  unfold f_Plac_setTicks at h
  refine q_iconst (M := md_X4_setTicks) (pc := 0) dX4_setTicks_0 ?_
  refine q_aload_n (M := md_X4_setTicks) (pc := 1) dX4_setTicks_1 rfl (nn_Ly hl2) ?_
  refine e_gI (M := md_X4_setTicks) (pc := 2) (v := m l2 0) fl_4_46 dX4_setTicks_2 (is_Ly hN hl2) rfl ?_
  refine q_aload_n (M := md_X4_setTicks) (pc := 5) dX4_setTicks_5 rfl (nn_Lp hl1) ?_
  refine e_gI (M := md_X4_setTicks) (pc := 6) (v := m l1 0) fl_4_89 dX4_setTicks_6 (is_Lp hN hl1) rfl ?_
  refine q_iconst (M := md_X4_setTicks) (pc := 9) dX4_setTicks_9 ?_
  refine q_isub (M := md_X4_setTicks) (pc := 10) dX4_setTicks_10 ?_
  refine q_imul (M := md_X4_setTicks) (pc := 11) dX4_setTicks_11 ?_
  refine e_min (M := md_X4_setTicks) (pc := 12) jl_4_92 dX4_setTicks_12 (by decide) (Nat.le_of_ble_eq_true rfl) ?_
  refine q_iconst (M := md_X4_setTicks) (pc := 15) dX4_setTicks_15 ?_
  refine q_aload_n (M := md_X4_setTicks) (pc := 16) dX4_setTicks_16 rfl (nn_Ly hl2) ?_
  refine e_gI (M := md_X4_setTicks) (pc := 17) (v := m l2 1) fl_4_51 dX4_setTicks_17 (is_Ly hN hl2) rfl ?_
  refine q_aload_n (M := md_X4_setTicks) (pc := 20) dX4_setTicks_20 rfl (nn_Lp hl1) ?_
  refine e_gI (M := md_X4_setTicks) (pc := 21) (v := m l1 1) fl_4_95 dX4_setTicks_21 (is_Lp hN hl1) rfl ?_
  refine q_iconst (M := md_X4_setTicks) (pc := 24) dX4_setTicks_24 ?_
  refine q_isub (M := md_X4_setTicks) (pc := 25) dX4_setTicks_25 ?_
  refine q_imul (M := md_X4_setTicks) (pc := 26) dX4_setTicks_26 ?_
  refine e_min (M := md_X4_setTicks) (pc := 27) jl_4_92 dX4_setTicks_27 (by decide) (Nat.le_of_ble_eq_true rfl) ?_
  refine q_iadd (M := md_X4_setTicks) (pc := 30) dX4_setTicks_30 ?_
  refine e_ist_n (M := md_X4_setTicks) (pc := 31) (ls' := [q_A 60, q_A l1, q_A l2, q_I ((q_min 0 ((m l2 0) * ((m l1 0) - 1))) + (q_min 0 ((m l2 1) * ((m l1 1) - 1)))), q_N, q_N]) dX4_setTicks_31 (by decide) (q_pl rfl) rfl ?_
  refine q_aload_n (M := md_X4_setTicks) (pc := 32) dX4_setTicks_32 rfl (by decide) ?_
  refine q_getP (M := md_X4_setTicks) (pc := 33) (v := 65) fl_4_25 dX4_setTicks_33 (is_60 hN) rfl ?_
  refine q_iconst (M := md_X4_setTicks) (pc := 36) dX4_setTicks_36 ?_
  refine e_fill (M := md_X4_setTicks) (pc := 37) h jl_4_98 dX4_setTicks_37 (ar_65 hN) (by decide) (Nat.le_of_ble_eq_true rfl) (fun m1 h => ?_)
  refine q_iconst (M := md_X4_setTicks) (pc := 40) dX4_setTicks_40 ?_
  refine e_ist (M := md_X4_setTicks) (pc := 41) (ls' := [q_A 60, q_A l1, q_A l2, q_I ((q_min 0 ((m l2 0) * ((m l1 0) - 1))) + (q_min 0 ((m l2 1) * ((m l1 1) - 1)))), q_I 0, q_N]) dX4_setTicks_41 (by decide) (q_pl rfl) rfl ?_
  exact q_weak (w_Plac_setTicks_l43 hN q_F _ _ _ _ _ hl1 hl2 h) ⟨Or.inr rfl, Or.inr rfl, Or.inr rfl, Or.inr rfl, Or.inr rfl, Or.inl rfl, trivial⟩
def f_Plac_sortByTick_b36 (k36 : Int → Int → q_Mem → q_Res) (l1 l3 : Int) (m : q_Mem) : q_Res :=
  if q_w (m 60 8) ≤ q_w l3 then (q_rt 0 m)
  else (q_bd (f_Loop_pointAt l1 l3 m) fun v1 m2 =>
  q_rd m2 61 100 v1 fun v3 =>
  q_rd m2 66 163 v3 fun v4 =>
  q_wr m2 64 100 v4 v1 fun m5 =>
  q_rd m5 61 100 v1 fun v6 =>
  q_rd m5 66 163 v6 fun v7 =>
  q_wr m5 66 163 v6 (v7 + 1) fun m8 =>
  k36 l1 (l3 + 1) m8)
set_option maxRecDepth 20000 in
theorem w_Plac_sortByTick_b36 {k36 : Int → Int → q_Mem → q_Res} {l1 l3 : Int} {r : Int × q_Mem} {m : q_Mem} {N : Nat} (hN : 81 ≤ N) (hk36 : ∀ (l1 l3 : Int) (m : q_Mem), l1 ∈ (q_Lp : List Int) → k36 l1 l3 m = some r → q_E md_X4_sortByTick 2 N (none) r m 36 [q_A 60, q_A l1, q_N, q_I l3, q_N] []) (hl1 : l1 ∈ (q_Lp : List Int)) (h : f_Plac_sortByTick_b36 k36 l1 l3 m = some r) : q_E md_X4_sortByTick 2 N (none) r m 36 [q_A 60, q_A l1, q_N, q_I l3, q_N] [] := by
  unfold f_Plac_sortByTick_b36 at h
  refine q_iload_n (M := md_X4_sortByTick) (pc := 36) dX4_sortByTick_36 rfl ?_
  refine q_aload_n (M := md_X4_sortByTick) (pc := 37) dX4_sortByTick_37 rfl (by decide) ?_
  refine e_gI (M := md_X4_sortByTick) (pc := 38) (v := m 60 8) fl_4_43 dX4_sortByTick_38 (is_60 hN) rfl ?_
  refine e_icmp_ge (M := md_X4_sortByTick) (pc := 41) (tgt := 92) h rfl rfl dX4_sortByTick_41 (by decide) (fun h => ?_) (fun h => ?_)
  · exact e_vret (M := md_X4_sortByTick) (pc := 92) h rfl dX4_sortByTick_92
  · refine q_aload_n (M := md_X4_sortByTick) (pc := 44) dX4_sortByTick_44 rfl (nn_Lp hl1) ?_
    refine q_iload_n (M := md_X4_sortByTick) (pc := 45) dX4_sortByTick_45 rfl ?_
    refine e_callVi (M := md_X4_sortByTick) (pc := 46) (d' := 1) (av := [q_I l3]) (c := l1) h ml_4_104 im_X2_pointAt se_X2_pointAt dX4_sortByTick_46 (fun v he => ok_X2_pointAt hN hl1 he) rfl (is_Lp hN hl1) ⟨_, _, rfl⟩ (by decide) (Nat.le_of_ble_eq_true rfl) ⟨by decide, by decide⟩ rfl (fun v1 m2 h => ?_)
    refine e_ist (M := md_X4_sortByTick) (pc := 49) (ls' := [q_A 60, q_A l1, q_N, q_I l3, q_I v1]) dX4_sortByTick_49 (by decide) (q_pl rfl) rfl ?_
    refine q_aload_n (M := md_X4_sortByTick) (pc := 51) dX4_sortByTick_51 rfl (by decide) ?_
    refine q_getP (M := md_X4_sortByTick) (pc := 52) (v := 64) fl_4_22 dX4_sortByTick_52 (is_60 hN) rfl ?_
    refine q_aload_n (M := md_X4_sortByTick) (pc := 55) dX4_sortByTick_55 rfl (by decide) ?_
    refine q_getP (M := md_X4_sortByTick) (pc := 56) (v := 66) fl_4_28 dX4_sortByTick_56 (is_60 hN) rfl ?_
    refine q_aload_n (M := md_X4_sortByTick) (pc := 59) dX4_sortByTick_59 rfl (by decide) ?_
    refine q_getP (M := md_X4_sortByTick) (pc := 60) (v := 61) fl_4_9 dX4_sortByTick_60 (is_60 hN) rfl ?_
    refine q_iload (M := md_X4_sortByTick) (pc := 63) dX4_sortByTick_63 rfl ?_
    refine e_rd (M := md_X4_sortByTick) (pc := 65) h dX4_sortByTick_65 (ar_61 hN) (fun v3 h => ?_)
    refine e_rd (M := md_X4_sortByTick) (pc := 66) h dX4_sortByTick_66 (ar_66 hN) (fun v4 h => ?_)
    refine q_iload (M := md_X4_sortByTick) (pc := 67) dX4_sortByTick_67 rfl ?_
    refine e_wr (M := md_X4_sortByTick) (pc := 69) h dX4_sortByTick_69 (ar_64 hN) (fun m5 h => ?_)
    refine q_aload_n (M := md_X4_sortByTick) (pc := 70) dX4_sortByTick_70 rfl (by decide) ?_
    refine q_getP (M := md_X4_sortByTick) (pc := 71) (v := 66) fl_4_28 dX4_sortByTick_71 (is_60 hN) rfl ?_
    refine q_aload_n (M := md_X4_sortByTick) (pc := 74) dX4_sortByTick_74 rfl (by decide) ?_
    refine q_getP (M := md_X4_sortByTick) (pc := 75) (v := 61) fl_4_9 dX4_sortByTick_75 (is_60 hN) rfl ?_
    refine q_iload (M := md_X4_sortByTick) (pc := 78) dX4_sortByTick_78 rfl ?_
    refine e_rd (M := md_X4_sortByTick) (pc := 80) h dX4_sortByTick_80 (ar_61 hN) (fun v6 h => ?_)
    refine q_dup2 (M := md_X4_sortByTick) (pc := 81) dX4_sortByTick_81 (show (0 : Nat) ≠ 1 by decide) (show (2 : Nat) ≠ 1 by decide) ?_
    refine e_rd (M := md_X4_sortByTick) (pc := 82) h dX4_sortByTick_82 (ar_66 hN) (fun v7 h => ?_)
    refine q_iconst (M := md_X4_sortByTick) (pc := 83) dX4_sortByTick_83 ?_
    refine q_iadd (M := md_X4_sortByTick) (pc := 84) dX4_sortByTick_84 ?_
    refine e_wr (M := md_X4_sortByTick) (pc := 85) h dX4_sortByTick_85 (ar_66 hN) (fun m8 h => ?_)
    refine e_inc (M := md_X4_sortByTick) (pc := 86) (x := l3) (ls' := [q_A 60, q_A l1, q_N, q_I (l3 + 1), q_I v1]) dX4_sortByTick_86 rfl (by decide) (q_pl rfl) rfl ?_
    refine q_goto (M := md_X4_sortByTick) (pc := 89) (tgt := 36) dX4_sortByTick_89 (by decide) ?_
    exact q_weak (hk36 _ _ _ hl1 h) ⟨Or.inr rfl, Or.inr rfl, Or.inl rfl, Or.inr rfl, Or.inl rfl, trivial⟩
def f_Plac_sortByTick_l36 : Nat → Int → Int → q_Mem → q_Res
  | 0 => fun _ _ _ => none
  | n + 1 => fun l1 l3 m => f_Plac_sortByTick_b36 (f_Plac_sortByTick_l36 n) l1 l3 m
theorem w_Plac_sortByTick_l36 {r : Int × q_Mem} {N : Nat} (hN : 81 ≤ N) : ∀ (n : Nat) (l1 l3 : Int) (m : q_Mem), l1 ∈ (q_Lp : List Int) → f_Plac_sortByTick_l36 n l1 l3 m = some r → q_E md_X4_sortByTick 2 N (none) r m 36 [q_A 60, q_A l1, q_N, q_I l3, q_N] [] := by
  intro n
  induction n with
  | zero => intro l1 l3 m hl1 h; exact q_no h
  | succ n ih =>
    intro l1 l3 m hl1 h
    exact w_Plac_sortByTick_b36 hN (fun l1 l3 m hl1 h => ih l1 l3 m hl1 h) hl1 h
def f_Plac_sortByTick_b4 (k4 : Int → Int → Int → q_Mem → q_Res) (l1 l2 l3 : Int) (m : q_Mem) : q_Res :=
  if q_w (m 60 9) ≤ q_w l3 then (f_Plac_sortByTick_l36 q_F l1 0 m)
  else (q_wr m 66 163 l3 l2 fun m1 =>
  q_rd m1 65 163 l3 fun v2 =>
  k4 l1 (l2 + v2) (l3 + 1) m1)
set_option maxRecDepth 20000 in
theorem w_Plac_sortByTick_b4 {k4 : Int → Int → Int → q_Mem → q_Res} {l1 l2 l3 : Int} {r : Int × q_Mem} {m : q_Mem} {N : Nat} (hN : 81 ≤ N) (hk4 : ∀ (l1 l2 l3 : Int) (m : q_Mem), l1 ∈ (q_Lp : List Int) → k4 l1 l2 l3 m = some r → q_E md_X4_sortByTick 2 N (none) r m 4 [q_A 60, q_A l1, q_I l2, q_I l3, q_N] []) (hl1 : l1 ∈ (q_Lp : List Int)) (h : f_Plac_sortByTick_b4 k4 l1 l2 l3 m = some r) : q_E md_X4_sortByTick 2 N (none) r m 4 [q_A 60, q_A l1, q_I l2, q_I l3, q_N] [] := by
  unfold f_Plac_sortByTick_b4 at h
  refine q_iload_n (M := md_X4_sortByTick) (pc := 4) dX4_sortByTick_4 rfl ?_
  refine q_aload_n (M := md_X4_sortByTick) (pc := 5) dX4_sortByTick_5 rfl (by decide) ?_
  refine e_gI (M := md_X4_sortByTick) (pc := 6) (v := m 60 9) fl_4_58 dX4_sortByTick_6 (is_60 hN) rfl ?_
  refine e_icmp_ge (M := md_X4_sortByTick) (pc := 9) (tgt := 34) h rfl rfl dX4_sortByTick_9 (by decide) (fun h => ?_) (fun h => ?_)
  · refine q_iconst (M := md_X4_sortByTick) (pc := 34) dX4_sortByTick_34 ?_
    refine e_ist_n (M := md_X4_sortByTick) (pc := 35) (ls' := [q_A 60, q_A l1, q_I l2, q_I 0, q_N]) dX4_sortByTick_35 (by decide) (q_pl rfl) rfl ?_
    exact q_weak (w_Plac_sortByTick_l36 hN q_F _ _ _ hl1 h) ⟨Or.inr rfl, Or.inr rfl, Or.inl rfl, Or.inr rfl, Or.inl rfl, trivial⟩
  · refine q_aload_n (M := md_X4_sortByTick) (pc := 12) dX4_sortByTick_12 rfl (by decide) ?_
    refine q_getP (M := md_X4_sortByTick) (pc := 13) (v := 66) fl_4_28 dX4_sortByTick_13 (is_60 hN) rfl ?_
    refine q_iload_n (M := md_X4_sortByTick) (pc := 16) dX4_sortByTick_16 rfl ?_
    refine q_iload_n (M := md_X4_sortByTick) (pc := 17) dX4_sortByTick_17 rfl ?_
    refine e_wr (M := md_X4_sortByTick) (pc := 18) h dX4_sortByTick_18 (ar_66 hN) (fun m1 h => ?_)
    refine q_iload_n (M := md_X4_sortByTick) (pc := 19) dX4_sortByTick_19 rfl ?_
    refine q_aload_n (M := md_X4_sortByTick) (pc := 20) dX4_sortByTick_20 rfl (by decide) ?_
    refine q_getP (M := md_X4_sortByTick) (pc := 21) (v := 65) fl_4_25 dX4_sortByTick_21 (is_60 hN) rfl ?_
    refine q_iload_n (M := md_X4_sortByTick) (pc := 24) dX4_sortByTick_24 rfl ?_
    refine e_rd (M := md_X4_sortByTick) (pc := 25) h dX4_sortByTick_25 (ar_65 hN) (fun v2 h => ?_)
    refine q_iadd (M := md_X4_sortByTick) (pc := 26) dX4_sortByTick_26 ?_
    refine e_ist_n (M := md_X4_sortByTick) (pc := 27) (ls' := [q_A 60, q_A l1, q_I (l2 + v2), q_I l3, q_N]) dX4_sortByTick_27 (by decide) (q_pl rfl) rfl ?_
    refine e_inc (M := md_X4_sortByTick) (pc := 28) (x := l3) (ls' := [q_A 60, q_A l1, q_I (l2 + v2), q_I (l3 + 1), q_N]) dX4_sortByTick_28 rfl (by decide) (q_pl rfl) rfl ?_
    refine q_goto (M := md_X4_sortByTick) (pc := 31) (tgt := 4) dX4_sortByTick_31 (by decide) ?_
    exact q_weak (hk4 _ _ _ _ hl1 h) ⟨Or.inr rfl, Or.inr rfl, Or.inr rfl, Or.inr rfl, Or.inl rfl, trivial⟩
def f_Plac_sortByTick_l4 : Nat → Int → Int → Int → q_Mem → q_Res
  | 0 => fun _ _ _ _ => none
  | n + 1 => fun l1 l2 l3 m => f_Plac_sortByTick_b4 (f_Plac_sortByTick_l4 n) l1 l2 l3 m
theorem w_Plac_sortByTick_l4 {r : Int × q_Mem} {N : Nat} (hN : 81 ≤ N) : ∀ (n : Nat) (l1 l2 l3 : Int) (m : q_Mem), l1 ∈ (q_Lp : List Int) → f_Plac_sortByTick_l4 n l1 l2 l3 m = some r → q_E md_X4_sortByTick 2 N (none) r m 4 [q_A 60, q_A l1, q_I l2, q_I l3, q_N] [] := by
  intro n
  induction n with
  | zero => intro l1 l2 l3 m hl1 h; exact q_no h
  | succ n ih =>
    intro l1 l2 l3 m hl1 h
    exact w_Plac_sortByTick_b4 hN (fun l1 l2 l3 m hl1 h => ih l1 l2 l3 m hl1 h) hl1 h
def f_Plac_sortByTick (l1 : Int) (m : q_Mem) : q_Res :=
  f_Plac_sortByTick_l4 q_F l1 0 0 m
set_option maxRecDepth 20000 in
theorem ok_X4_sortByTick {l1 : Int} {r : Int × q_Mem} {m : q_Mem} {N : Nat} (hN : 81 ≤ N) (hl1 : l1 ∈ (q_Lp : List Int)) (h : f_Plac_sortByTick l1 m = some r) : q_C md_X4_sortByTick (q_room 2) 0 0 [q_A 60, q_A l1] (q_g N) m (none, q_g N, r.2) := by
  refine q_ofR (by decide) 3 (ls := [q_A 60, q_A l1, q_N, q_N, q_N]) rfl (Nat.le_of_ble_eq_true rfl) ?_
  change q_E md_X4_sortByTick 2 N (none) r m 0 [q_A 60, q_A l1, q_N, q_N, q_N] []
  unfold f_Plac_sortByTick at h
  refine q_iconst (M := md_X4_sortByTick) (pc := 0) dX4_sortByTick_0 ?_
  refine e_ist_n (M := md_X4_sortByTick) (pc := 1) (ls' := [q_A 60, q_A l1, q_I 0, q_N, q_N]) dX4_sortByTick_1 (by decide) (q_pl rfl) rfl ?_
  refine q_iconst (M := md_X4_sortByTick) (pc := 2) dX4_sortByTick_2 ?_
  refine e_ist_n (M := md_X4_sortByTick) (pc := 3) (ls' := [q_A 60, q_A l1, q_I 0, q_I 0, q_N]) dX4_sortByTick_3 (by decide) (q_pl rfl) rfl ?_
  exact q_weak (w_Plac_sortByTick_l4 hN q_F _ _ _ _ hl1 h) ⟨Or.inr rfl, Or.inr rfl, Or.inr rfl, Or.inr rfl, Or.inl rfl, trivial⟩
def f_Plac_setCells_b157 (k118 : Int → Int → q_Mem → q_Res) (l1 l4 : Int) (m : q_Mem) : q_Res :=
  k118 l1 (l4 + 1) m
set_option maxRecDepth 20000 in
theorem w_Plac_setCells_b157 {k118 : Int → Int → q_Mem → q_Res} {l1 l4 : Int} {r : Int × q_Mem} {m : q_Mem} {N : Nat} (hN : 81 ≤ N) (hk118 : ∀ (l1 l4 : Int) (m : q_Mem), l1 ∈ (q_Lp : List Int) → k118 l1 l4 m = some r → q_E md_X4_setCells 2 N (none) r m 118 [q_A 60, q_A l1, q_N, q_N, q_I l4, q_N] []) (hl1 : l1 ∈ (q_Lp : List Int)) (h : f_Plac_setCells_b157 k118 l1 l4 m = some r) : q_E md_X4_setCells 2 N (none) r m 157 [q_A 60, q_A l1, q_N, q_N, q_I l4, q_N] [] := by
  unfold f_Plac_setCells_b157 at h
  refine e_inc (M := md_X4_setCells) (pc := 157) (x := l4) (ls' := [q_A 60, q_A l1, q_N, q_N, q_I (l4 + 1), q_N]) dX4_setCells_157 rfl (by decide) (q_pl rfl) rfl ?_
  refine q_goto (M := md_X4_setCells) (pc := 160) (tgt := 118) dX4_setCells_160 (by decide) ?_
  exact q_weak (hk118 _ _ _ hl1 h) ⟨Or.inr rfl, Or.inr rfl, Or.inl rfl, Or.inl rfl, Or.inr rfl, Or.inl rfl, trivial⟩
def f_Plac_setCells_b166 (k166 : Int → Int → q_Mem → q_Res) (l1 l4 : Int) (m : q_Mem) : q_Res :=
  if q_w (m 60 8) ≤ q_w l4 then (q_rt 0 m)
  else (q_bd (f_Loop_pointAt l1 l4 m) fun v1 m2 =>
  q_rd m2 62 100 v1 fun v3 =>
  q_rd m2 67 55 v3 fun v4 =>
  q_wr m2 62 100 v1 v4 fun m5 =>
  k166 l1 (l4 + 1) m5)
set_option maxRecDepth 20000 in
theorem w_Plac_setCells_b166 {k166 : Int → Int → q_Mem → q_Res} {l1 l4 : Int} {r : Int × q_Mem} {m : q_Mem} {N : Nat} (hN : 81 ≤ N) (hk166 : ∀ (l1 l4 : Int) (m : q_Mem), l1 ∈ (q_Lp : List Int) → k166 l1 l4 m = some r → q_E md_X4_setCells 2 N (none) r m 166 [q_A 60, q_A l1, q_N, q_N, q_I l4, q_N] []) (hl1 : l1 ∈ (q_Lp : List Int)) (h : f_Plac_setCells_b166 k166 l1 l4 m = some r) : q_E md_X4_setCells 2 N (none) r m 166 [q_A 60, q_A l1, q_N, q_N, q_I l4, q_N] [] := by
  unfold f_Plac_setCells_b166 at h
  refine q_iload (M := md_X4_setCells) (pc := 166) dX4_setCells_166 rfl ?_
  refine q_aload_n (M := md_X4_setCells) (pc := 168) dX4_setCells_168 rfl (by decide) ?_
  refine e_gI (M := md_X4_setCells) (pc := 169) (v := m 60 8) fl_4_43 dX4_setCells_169 (is_60 hN) rfl ?_
  refine e_icmp_ge (M := md_X4_setCells) (pc := 172) (tgt := 208) h rfl rfl dX4_setCells_172 (by decide) (fun h => ?_) (fun h => ?_)
  · exact e_vret (M := md_X4_setCells) (pc := 208) h rfl dX4_setCells_208
  · refine q_aload_n (M := md_X4_setCells) (pc := 175) dX4_setCells_175 rfl (nn_Lp hl1) ?_
    refine q_iload (M := md_X4_setCells) (pc := 176) dX4_setCells_176 rfl ?_
    refine e_callVi (M := md_X4_setCells) (pc := 178) (d' := 1) (av := [q_I l4]) (c := l1) h ml_4_104 im_X2_pointAt se_X2_pointAt dX4_setCells_178 (fun v he => ok_X2_pointAt hN hl1 he) rfl (is_Lp hN hl1) ⟨_, _, rfl⟩ (by decide) (Nat.le_of_ble_eq_true rfl) ⟨by decide, by decide⟩ rfl (fun v1 m2 h => ?_)
    refine e_ist (M := md_X4_setCells) (pc := 181) (ls' := [q_A 60, q_A l1, q_N, q_N, q_I l4, q_I v1]) dX4_setCells_181 (by decide) (q_pl rfl) rfl ?_
    refine q_aload_n (M := md_X4_setCells) (pc := 183) dX4_setCells_183 rfl (by decide) ?_
    refine q_getP (M := md_X4_setCells) (pc := 184) (v := 62) fl_4_15 dX4_setCells_184 (is_60 hN) rfl ?_
    refine q_iload (M := md_X4_setCells) (pc := 187) dX4_setCells_187 rfl ?_
    refine q_aload_n (M := md_X4_setCells) (pc := 189) dX4_setCells_189 rfl (by decide) ?_
    refine q_getP (M := md_X4_setCells) (pc := 190) (v := 67) fl_4_31 dX4_setCells_190 (is_60 hN) rfl ?_
    refine q_aload_n (M := md_X4_setCells) (pc := 193) dX4_setCells_193 rfl (by decide) ?_
    refine q_getP (M := md_X4_setCells) (pc := 194) (v := 62) fl_4_15 dX4_setCells_194 (is_60 hN) rfl ?_
    refine q_iload (M := md_X4_setCells) (pc := 197) dX4_setCells_197 rfl ?_
    refine e_rd (M := md_X4_setCells) (pc := 199) h dX4_setCells_199 (ar_62 hN) (fun v3 h => ?_)
    refine e_rd (M := md_X4_setCells) (pc := 200) h dX4_setCells_200 (ar_67 hN) (fun v4 h => ?_)
    refine e_wr (M := md_X4_setCells) (pc := 201) h dX4_setCells_201 (ar_62 hN) (fun m5 h => ?_)
    refine e_inc (M := md_X4_setCells) (pc := 202) (x := l4) (ls' := [q_A 60, q_A l1, q_N, q_N, q_I (l4 + 1), q_I v1]) dX4_setCells_202 rfl (by decide) (q_pl rfl) rfl ?_
    refine q_goto (M := md_X4_setCells) (pc := 205) (tgt := 166) dX4_setCells_205 (by decide) ?_
    exact q_weak (hk166 _ _ _ hl1 h) ⟨Or.inr rfl, Or.inr rfl, Or.inl rfl, Or.inl rfl, Or.inr rfl, Or.inl rfl, trivial⟩
def f_Plac_setCells_l166 : Nat → Int → Int → q_Mem → q_Res
  | 0 => fun _ _ _ => none
  | n + 1 => fun l1 l4 m => f_Plac_setCells_b166 (f_Plac_setCells_l166 n) l1 l4 m
theorem w_Plac_setCells_l166 {r : Int × q_Mem} {N : Nat} (hN : 81 ≤ N) : ∀ (n : Nat) (l1 l4 : Int) (m : q_Mem), l1 ∈ (q_Lp : List Int) → f_Plac_setCells_l166 n l1 l4 m = some r → q_E md_X4_setCells 2 N (none) r m 166 [q_A 60, q_A l1, q_N, q_N, q_I l4, q_N] [] := by
  intro n
  induction n with
  | zero => intro l1 l4 m hl1 h; exact q_no h
  | succ n ih =>
    intro l1 l4 m hl1 h
    exact w_Plac_setCells_b166 hN (fun l1 l4 m hl1 h => ih l1 l4 m hl1 h) hl1 h
def f_Plac_setCells_b118 (k118 : Int → Int → q_Mem → q_Res) (l1 l4 : Int) (m : q_Mem) : q_Res :=
  if 55 ≤ q_w l4 then (f_Plac_setCells_l166 q_F l1 0 m)
  else (q_rd m 67 55 l4 fun v1 =>
  if q_w v1 = (-1) then (f_Plac_setCells_b157 k118 l1 l4 m)
  else (q_wr m 67 55 l4 (m 60 10) fun m2 =>
  q_pf m2 60 10 ((m2 60 10) + 1) fun m3 =>
  f_Plac_setCells_b157 k118 l1 l4 m3))
set_option maxRecDepth 20000 in
theorem w_Plac_setCells_b118 {k118 : Int → Int → q_Mem → q_Res} {l1 l4 : Int} {r : Int × q_Mem} {m : q_Mem} {N : Nat} (hN : 81 ≤ N) (hk118 : ∀ (l1 l4 : Int) (m : q_Mem), l1 ∈ (q_Lp : List Int) → k118 l1 l4 m = some r → q_E md_X4_setCells 2 N (none) r m 118 [q_A 60, q_A l1, q_N, q_N, q_I l4, q_N] []) (hl1 : l1 ∈ (q_Lp : List Int)) (h : f_Plac_setCells_b118 k118 l1 l4 m = some r) : q_E md_X4_setCells 2 N (none) r m 118 [q_A 60, q_A l1, q_N, q_N, q_I l4, q_N] [] := by
  unfold f_Plac_setCells_b118 at h
  refine q_iload (M := md_X4_setCells) (pc := 118) dX4_setCells_118 rfl ?_
  refine q_bipush (M := md_X4_setCells) (pc := 120) (x := 55) dX4_setCells_120 (by decide) ?_
  refine e_icmp_ge (M := md_X4_setCells) (pc := 122) (tgt := 163) h rfl (q_wlit rfl) dX4_setCells_122 (by decide) (fun h => ?_) (fun h => ?_)
  · refine q_iconst (M := md_X4_setCells) (pc := 163) dX4_setCells_163 ?_
    refine e_ist (M := md_X4_setCells) (pc := 164) (ls' := [q_A 60, q_A l1, q_N, q_N, q_I 0, q_N]) dX4_setCells_164 (by decide) (q_pl rfl) rfl ?_
    exact q_weak (w_Plac_setCells_l166 hN q_F _ _ _ hl1 h) ⟨Or.inr rfl, Or.inr rfl, Or.inl rfl, Or.inl rfl, Or.inr rfl, Or.inl rfl, trivial⟩
  · refine q_aload_n (M := md_X4_setCells) (pc := 125) dX4_setCells_125 rfl (by decide) ?_
    refine q_getP (M := md_X4_setCells) (pc := 126) (v := 67) fl_4_31 dX4_setCells_126 (is_60 hN) rfl ?_
    refine q_iload (M := md_X4_setCells) (pc := 129) dX4_setCells_129 rfl ?_
    refine e_rd (M := md_X4_setCells) (pc := 131) h dX4_setCells_131 (ar_67 hN) (fun v1 h => ?_)
    refine q_iconst (M := md_X4_setCells) (pc := 132) dX4_setCells_132 ?_
    refine e_icmp_eq (M := md_X4_setCells) (pc := 133) (tgt := 157) h rfl (q_wlit rfl) dX4_setCells_133 (by decide) (fun h => ?_) (fun h => ?_)
    · exact q_weak (w_Plac_setCells_b157 hN hk118 hl1 h) ⟨Or.inr rfl, Or.inr rfl, Or.inl rfl, Or.inl rfl, Or.inr rfl, Or.inl rfl, trivial⟩
    · refine q_aload_n (M := md_X4_setCells) (pc := 136) dX4_setCells_136 rfl (by decide) ?_
      refine q_getP (M := md_X4_setCells) (pc := 137) (v := 67) fl_4_31 dX4_setCells_137 (is_60 hN) rfl ?_
      refine q_iload (M := md_X4_setCells) (pc := 140) dX4_setCells_140 rfl ?_
      refine q_aload_n (M := md_X4_setCells) (pc := 142) dX4_setCells_142 rfl (by decide) ?_
      refine e_gI (M := md_X4_setCells) (pc := 143) (v := m 60 10) fl_4_107 dX4_setCells_143 (is_60 hN) rfl ?_
      refine e_wr (M := md_X4_setCells) (pc := 146) h dX4_setCells_146 (ar_67 hN) (fun m2 h => ?_)
      refine q_aload_n (M := md_X4_setCells) (pc := 147) dX4_setCells_147 rfl (by decide) ?_
      refine q_dup (M := md_X4_setCells) (pc := 148) dX4_setCells_148 (show (2 : Nat) ≠ 1 by decide) ?_
      refine e_gI (M := md_X4_setCells) (pc := 149) (v := m2 60 10) fl_4_107 dX4_setCells_149 (is_60 hN) rfl ?_
      refine q_iconst (M := md_X4_setCells) (pc := 152) dX4_setCells_152 ?_
      refine q_iadd (M := md_X4_setCells) (pc := 153) dX4_setCells_153 ?_
      refine e_pfI (M := md_X4_setCells) (pc := 154) h fl_4_107 dX4_setCells_154 (is_60 hN) rfl (fun m3 h => ?_)
      exact q_weak (w_Plac_setCells_b157 hN hk118 hl1 h) ⟨Or.inr rfl, Or.inr rfl, Or.inl rfl, Or.inl rfl, Or.inr rfl, Or.inl rfl, trivial⟩
def f_Plac_setCells_l118 : Nat → Int → Int → q_Mem → q_Res
  | 0 => fun _ _ _ => none
  | n + 1 => fun l1 l4 m => f_Plac_setCells_b118 (f_Plac_setCells_l118 n) l1 l4 m
theorem w_Plac_setCells_l118 {r : Int × q_Mem} {N : Nat} (hN : 81 ≤ N) : ∀ (n : Nat) (l1 l4 : Int) (m : q_Mem), l1 ∈ (q_Lp : List Int) → f_Plac_setCells_l118 n l1 l4 m = some r → q_E md_X4_setCells 2 N (none) r m 118 [q_A 60, q_A l1, q_N, q_N, q_I l4, q_N] [] := by
  intro n
  induction n with
  | zero => intro l1 l4 m hl1 h; exact q_no h
  | succ n ih =>
    intro l1 l4 m hl1 h
    exact w_Plac_setCells_b118 hN (fun l1 l4 m hl1 h => ih l1 l4 m hl1 h) hl1 h
def f_Plac_setCells_b44 (k44 : Int → Int → Int → Int → q_Mem → q_Res) (l1 l2 l3 l4 : Int) (m : q_Mem) : q_Res :=
  if q_w (m 60 8) ≤ q_w l4 then (q_pf m 60 10 0 fun m1 =>
  f_Plac_setCells_l118 q_F l1 0 m1)
  else (q_bd (f_Loop_pointAt l1 l4 m) fun v2 m3 =>
  q_dv v2 10 fun v4 =>
  q_md v2 10 fun v5 =>
  q_wr m3 62 100 v2 ((((m3 l2 3) * v4) - ((m3 l2 2) * v5)) - l3) fun m6 =>
  q_rd m6 62 100 v2 fun v7 =>
  q_wr m6 67 55 v7 0 fun m8 =>
  k44 l1 l2 l3 (l4 + 1) m8)
set_option maxRecDepth 20000 in
theorem w_Plac_setCells_b44 {k44 : Int → Int → Int → Int → q_Mem → q_Res} {l1 l2 l3 l4 : Int} {r : Int × q_Mem} {m : q_Mem} {N : Nat} (hN : 81 ≤ N) (hk44 : ∀ (l1 l2 l3 l4 : Int) (m : q_Mem), l1 ∈ (q_Lp : List Int) → l2 ∈ (q_Ly : List Int) → k44 l1 l2 l3 l4 m = some r → q_E md_X4_setCells 2 N (none) r m 44 [q_A 60, q_A l1, q_A l2, q_I l3, q_I l4, q_N] []) (hl1 : l1 ∈ (q_Lp : List Int)) (hl2 : l2 ∈ (q_Ly : List Int)) (h : f_Plac_setCells_b44 k44 l1 l2 l3 l4 m = some r) : q_E md_X4_setCells 2 N (none) r m 44 [q_A 60, q_A l1, q_A l2, q_I l3, q_I l4, q_N] [] := by
  unfold f_Plac_setCells_b44 at h
  refine q_iload (M := md_X4_setCells) (pc := 44) dX4_setCells_44 rfl ?_
  refine q_aload_n (M := md_X4_setCells) (pc := 46) dX4_setCells_46 rfl (by decide) ?_
  refine e_gI (M := md_X4_setCells) (pc := 47) (v := m 60 8) fl_4_43 dX4_setCells_47 (is_60 hN) rfl ?_
  refine e_icmp_ge (M := md_X4_setCells) (pc := 50) (tgt := 110) h rfl rfl dX4_setCells_50 (by decide) (fun h => ?_) (fun h => ?_)
  · refine q_aload_n (M := md_X4_setCells) (pc := 110) dX4_setCells_110 rfl (by decide) ?_
    refine q_iconst (M := md_X4_setCells) (pc := 111) dX4_setCells_111 ?_
    refine e_pfI (M := md_X4_setCells) (pc := 112) h fl_4_107 dX4_setCells_112 (is_60 hN) rfl (fun m1 h => ?_)
    refine q_iconst (M := md_X4_setCells) (pc := 115) dX4_setCells_115 ?_
    refine e_ist (M := md_X4_setCells) (pc := 116) (ls' := [q_A 60, q_A l1, q_A l2, q_I l3, q_I 0, q_N]) dX4_setCells_116 (by decide) (q_pl rfl) rfl ?_
    exact q_weak (w_Plac_setCells_l118 hN q_F _ _ _ hl1 h) ⟨Or.inr rfl, Or.inr rfl, Or.inl rfl, Or.inl rfl, Or.inr rfl, Or.inl rfl, trivial⟩
  · refine q_aload_n (M := md_X4_setCells) (pc := 53) dX4_setCells_53 rfl (nn_Lp hl1) ?_
    refine q_iload (M := md_X4_setCells) (pc := 54) dX4_setCells_54 rfl ?_
    refine e_callVi (M := md_X4_setCells) (pc := 56) (d' := 1) (av := [q_I l4]) (c := l1) h ml_4_104 im_X2_pointAt se_X2_pointAt dX4_setCells_56 (fun v he => ok_X2_pointAt hN hl1 he) rfl (is_Lp hN hl1) ⟨_, _, rfl⟩ (by decide) (Nat.le_of_ble_eq_true rfl) ⟨by decide, by decide⟩ rfl (fun v2 m3 h => ?_)
    refine e_ist (M := md_X4_setCells) (pc := 59) (ls' := [q_A 60, q_A l1, q_A l2, q_I l3, q_I l4, q_I v2]) dX4_setCells_59 (by decide) (q_pl rfl) rfl ?_
    refine q_aload_n (M := md_X4_setCells) (pc := 61) dX4_setCells_61 rfl (by decide) ?_
    refine q_getP (M := md_X4_setCells) (pc := 62) (v := 62) fl_4_15 dX4_setCells_62 (is_60 hN) rfl ?_
    refine q_iload (M := md_X4_setCells) (pc := 65) dX4_setCells_65 rfl ?_
    refine q_aload_n (M := md_X4_setCells) (pc := 67) dX4_setCells_67 rfl (nn_Ly hl2) ?_
    refine e_gI (M := md_X4_setCells) (pc := 68) (v := m3 l2 3) fl_4_63 dX4_setCells_68 (is_Ly hN hl2) rfl ?_
    refine q_iload (M := md_X4_setCells) (pc := 71) dX4_setCells_71 rfl ?_
    refine q_bipush (M := md_X4_setCells) (pc := 73) (x := 10) dX4_setCells_73 (by decide) ?_
    refine e_dv (M := md_X4_setCells) (pc := 75) h dX4_setCells_75 (fun v4 h => ?_)
    refine q_imul (M := md_X4_setCells) (pc := 76) dX4_setCells_76 ?_
    refine q_aload_n (M := md_X4_setCells) (pc := 77) dX4_setCells_77 rfl (nn_Ly hl2) ?_
    refine e_gI (M := md_X4_setCells) (pc := 78) (v := m3 l2 2) fl_4_60 dX4_setCells_78 (is_Ly hN hl2) rfl ?_
    refine q_iload (M := md_X4_setCells) (pc := 81) dX4_setCells_81 rfl ?_
    refine q_bipush (M := md_X4_setCells) (pc := 83) (x := 10) dX4_setCells_83 (by decide) ?_
    refine e_md (M := md_X4_setCells) (pc := 85) h dX4_setCells_85 (fun v5 h => ?_)
    refine q_imul (M := md_X4_setCells) (pc := 86) dX4_setCells_86 ?_
    refine q_isub (M := md_X4_setCells) (pc := 87) dX4_setCells_87 ?_
    refine q_iload_n (M := md_X4_setCells) (pc := 88) dX4_setCells_88 rfl ?_
    refine q_isub (M := md_X4_setCells) (pc := 89) dX4_setCells_89 ?_
    refine e_wr (M := md_X4_setCells) (pc := 90) h dX4_setCells_90 (ar_62 hN) (fun m6 h => ?_)
    refine q_aload_n (M := md_X4_setCells) (pc := 91) dX4_setCells_91 rfl (by decide) ?_
    refine q_getP (M := md_X4_setCells) (pc := 92) (v := 67) fl_4_31 dX4_setCells_92 (is_60 hN) rfl ?_
    refine q_aload_n (M := md_X4_setCells) (pc := 95) dX4_setCells_95 rfl (by decide) ?_
    refine q_getP (M := md_X4_setCells) (pc := 96) (v := 62) fl_4_15 dX4_setCells_96 (is_60 hN) rfl ?_
    refine q_iload (M := md_X4_setCells) (pc := 99) dX4_setCells_99 rfl ?_
    refine e_rd (M := md_X4_setCells) (pc := 101) h dX4_setCells_101 (ar_62 hN) (fun v7 h => ?_)
    refine q_iconst (M := md_X4_setCells) (pc := 102) dX4_setCells_102 ?_
    refine e_wr (M := md_X4_setCells) (pc := 103) h dX4_setCells_103 (ar_67 hN) (fun m8 h => ?_)
    refine e_inc (M := md_X4_setCells) (pc := 104) (x := l4) (ls' := [q_A 60, q_A l1, q_A l2, q_I l3, q_I (l4 + 1), q_I v2]) dX4_setCells_104 rfl (by decide) (q_pl rfl) rfl ?_
    refine q_goto (M := md_X4_setCells) (pc := 107) (tgt := 44) dX4_setCells_107 (by decide) ?_
    exact q_weak (hk44 _ _ _ _ _ hl1 hl2 h) ⟨Or.inr rfl, Or.inr rfl, Or.inr rfl, Or.inr rfl, Or.inr rfl, Or.inl rfl, trivial⟩
def f_Plac_setCells_l44 : Nat → Int → Int → Int → Int → q_Mem → q_Res
  | 0 => fun _ _ _ _ _ => none
  | n + 1 => fun l1 l2 l3 l4 m => f_Plac_setCells_b44 (f_Plac_setCells_l44 n) l1 l2 l3 l4 m
theorem w_Plac_setCells_l44 {r : Int × q_Mem} {N : Nat} (hN : 81 ≤ N) : ∀ (n : Nat) (l1 l2 l3 l4 : Int) (m : q_Mem), l1 ∈ (q_Lp : List Int) → l2 ∈ (q_Ly : List Int) → f_Plac_setCells_l44 n l1 l2 l3 l4 m = some r → q_E md_X4_setCells 2 N (none) r m 44 [q_A 60, q_A l1, q_A l2, q_I l3, q_I l4, q_N] [] := by
  intro n
  induction n with
  | zero => intro l1 l2 l3 l4 m hl1 hl2 h; exact q_no h
  | succ n ih =>
    intro l1 l2 l3 l4 m hl1 hl2 h
    exact w_Plac_setCells_b44 hN (fun l1 l2 l3 l4 m hl1 hl2 h => ih l1 l2 l3 l4 m hl1 hl2 h) hl1 hl2 h
def f_Plac_setCells (l1 l2 : Int) (m : q_Mem) : q_Res :=
  q_fi m 67 55 (-1) fun m1 =>
  f_Plac_setCells_l44 q_F l1 l2 ((q_min 0 ((m l2 3) * ((m l1 0) - 1))) + (q_min 0 ((-(m l2 2)) * ((m l1 1) - 1)))) 0 m1
set_option maxRecDepth 20000 in
theorem ok_X4_setCells {l1 l2 : Int} {r : Int × q_Mem} {m : q_Mem} {N : Nat} (hN : 81 ≤ N) (hl1 : l1 ∈ (q_Lp : List Int)) (hl2 : l2 ∈ (q_Ly : List Int)) (h : f_Plac_setCells l1 l2 m = some r) : q_C md_X4_setCells (q_room 2) 0 0 [q_A 60, q_A l1, q_A l2] (q_g N) m (none, q_g N, r.2) := by
  refine q_ofR (by decide) 3 (ls := [q_A 60, q_A l1, q_A l2, q_N, q_N, q_N]) rfl (Nat.le_of_ble_eq_true rfl) ?_
  change q_E md_X4_setCells 2 N (none) r m 0 [q_A 60, q_A l1, q_A l2, q_N, q_N, q_N] []
  unfold f_Plac_setCells at h
  refine q_iconst (M := md_X4_setCells) (pc := 0) dX4_setCells_0 ?_
  refine q_aload_n (M := md_X4_setCells) (pc := 1) dX4_setCells_1 rfl (nn_Ly hl2) ?_
  refine e_gI (M := md_X4_setCells) (pc := 2) (v := m l2 3) fl_4_63 dX4_setCells_2 (is_Ly hN hl2) rfl ?_
  refine q_aload_n (M := md_X4_setCells) (pc := 5) dX4_setCells_5 rfl (nn_Lp hl1) ?_
  refine e_gI (M := md_X4_setCells) (pc := 6) (v := m l1 0) fl_4_89 dX4_setCells_6 (is_Lp hN hl1) rfl ?_
  refine q_iconst (M := md_X4_setCells) (pc := 9) dX4_setCells_9 ?_
  refine q_isub (M := md_X4_setCells) (pc := 10) dX4_setCells_10 ?_
  refine q_imul (M := md_X4_setCells) (pc := 11) dX4_setCells_11 ?_
  refine e_min (M := md_X4_setCells) (pc := 12) jl_4_92 dX4_setCells_12 (by decide) (Nat.le_of_ble_eq_true rfl) ?_
  refine q_iconst (M := md_X4_setCells) (pc := 15) dX4_setCells_15 ?_
  refine q_aload_n (M := md_X4_setCells) (pc := 16) dX4_setCells_16 rfl (nn_Ly hl2) ?_
  refine e_gI (M := md_X4_setCells) (pc := 17) (v := m l2 2) fl_4_60 dX4_setCells_17 (is_Ly hN hl2) rfl ?_
  refine q_ineg (M := md_X4_setCells) (pc := 20) dX4_setCells_20 ?_
  refine q_aload_n (M := md_X4_setCells) (pc := 21) dX4_setCells_21 rfl (nn_Lp hl1) ?_
  refine e_gI (M := md_X4_setCells) (pc := 22) (v := m l1 1) fl_4_95 dX4_setCells_22 (is_Lp hN hl1) rfl ?_
  refine q_iconst (M := md_X4_setCells) (pc := 25) dX4_setCells_25 ?_
  refine q_isub (M := md_X4_setCells) (pc := 26) dX4_setCells_26 ?_
  refine q_imul (M := md_X4_setCells) (pc := 27) dX4_setCells_27 ?_
  refine e_min (M := md_X4_setCells) (pc := 28) jl_4_92 dX4_setCells_28 (by decide) (Nat.le_of_ble_eq_true rfl) ?_
  refine q_iadd (M := md_X4_setCells) (pc := 31) dX4_setCells_31 ?_
  refine e_ist_n (M := md_X4_setCells) (pc := 32) (ls' := [q_A 60, q_A l1, q_A l2, q_I ((q_min 0 ((m l2 3) * ((m l1 0) - 1))) + (q_min 0 ((-(m l2 2)) * ((m l1 1) - 1)))), q_N, q_N]) dX4_setCells_32 (by decide) (q_pl rfl) rfl ?_
  refine q_aload_n (M := md_X4_setCells) (pc := 33) dX4_setCells_33 rfl (by decide) ?_
  refine q_getP (M := md_X4_setCells) (pc := 34) (v := 67) fl_4_31 dX4_setCells_34 (is_60 hN) rfl ?_
  refine q_iconst (M := md_X4_setCells) (pc := 37) dX4_setCells_37 ?_
  refine e_fill (M := md_X4_setCells) (pc := 38) h jl_4_98 dX4_setCells_38 (ar_67 hN) (by decide) (Nat.le_of_ble_eq_true rfl) (fun m1 h => ?_)
  refine q_iconst (M := md_X4_setCells) (pc := 41) dX4_setCells_41 ?_
  refine e_ist (M := md_X4_setCells) (pc := 42) (ls' := [q_A 60, q_A l1, q_A l2, q_I ((q_min 0 ((m l2 3) * ((m l1 0) - 1))) + (q_min 0 ((-(m l2 2)) * ((m l1 1) - 1)))), q_I 0, q_N]) dX4_setCells_42 (by decide) (q_pl rfl) rfl ?_
  exact q_weak (w_Plac_setCells_l44 hN q_F _ _ _ _ _ hl1 hl2 h) ⟨Or.inr rfl, Or.inr rfl, Or.inr rfl, Or.inr rfl, Or.inr rfl, Or.inl rfl, trivial⟩
def f_Plac_setClashes_b115 (k66 : Int → Int → Int → Int → q_Mem → q_Res) (l1 l4 l5 l6 s1 s2 : Int) (m : q_Mem) : q_Res :=
  q_wrz m 63 100 s1 s2 fun m1 =>
  k66 l1 l4 l5 (l6 + 1) m1
set_option maxRecDepth 20000 in
theorem w_Plac_setClashes_b115 {k66 : Int → Int → Int → Int → q_Mem → q_Res} {l1 l4 l5 l6 s1 s2 : Int} {r : Int × q_Mem} {m : q_Mem} {N : Nat} (hN : 81 ≤ N) (hk66 : ∀ (l1 l4 l5 l6 : Int) (m : q_Mem), l1 ∈ (q_Lp : List Int) → k66 l1 l4 l5 l6 m = some r → q_E md_X4_setClashes 2 N (none) r m 66 [q_A 60, q_A l1, q_N, q_N, q_I l4, q_I l5, q_I l6, q_N] []) (hl1 : l1 ∈ (q_Lp : List Int)) (h : f_Plac_setClashes_b115 k66 l1 l4 l5 l6 s1 s2 m = some r) : q_E md_X4_setClashes 2 N (none) r m 115 [q_A 60, q_A l1, q_N, q_N, q_I l4, q_I l5, q_I l6, q_N] [q_I s2, q_I s1, q_A 63] := by
  unfold f_Plac_setClashes_b115 at h
  refine e_wrz (M := md_X4_setClashes) (pc := 115) h dX4_setClashes_115 (ar_63 hN) (fun m1 h => ?_)
  refine e_inc (M := md_X4_setClashes) (pc := 116) (x := l6) (ls' := [q_A 60, q_A l1, q_N, q_N, q_I l4, q_I l5, q_I (l6 + 1), q_N]) dX4_setClashes_116 rfl (by decide) (q_pl rfl) rfl ?_
  refine q_goto (M := md_X4_setClashes) (pc := 119) (tgt := 66) dX4_setClashes_119 (by decide) ?_
  exact q_weak (hk66 _ _ _ _ _ hl1 h) ⟨Or.inr rfl, Or.inr rfl, Or.inl rfl, Or.inl rfl, Or.inr rfl, Or.inr rfl, Or.inr rfl, Or.inl rfl, trivial⟩
def f_Plac_setClashes_b114 (k66 : Int → Int → Int → Int → q_Mem → q_Res) (l1 l4 l5 l6 s1 : Int) (m : q_Mem) : q_Res :=
  f_Plac_setClashes_b115 k66 l1 l4 l5 l6 s1 0 m
set_option maxRecDepth 20000 in
theorem w_Plac_setClashes_b114 {k66 : Int → Int → Int → Int → q_Mem → q_Res} {l1 l4 l5 l6 s1 : Int} {r : Int × q_Mem} {m : q_Mem} {N : Nat} (hN : 81 ≤ N) (hk66 : ∀ (l1 l4 l5 l6 : Int) (m : q_Mem), l1 ∈ (q_Lp : List Int) → k66 l1 l4 l5 l6 m = some r → q_E md_X4_setClashes 2 N (none) r m 66 [q_A 60, q_A l1, q_N, q_N, q_I l4, q_I l5, q_I l6, q_N] []) (hl1 : l1 ∈ (q_Lp : List Int)) (h : f_Plac_setClashes_b114 k66 l1 l4 l5 l6 s1 m = some r) : q_E md_X4_setClashes 2 N (none) r m 114 [q_A 60, q_A l1, q_N, q_N, q_I l4, q_I l5, q_I l6, q_N] [q_I s1, q_A 63] := by
  unfold f_Plac_setClashes_b114 at h
  refine q_iconst (M := md_X4_setClashes) (pc := 114) dX4_setClashes_114 ?_
  exact q_weak (w_Plac_setClashes_b115 hN hk66 hl1 h) ⟨Or.inr rfl, Or.inr rfl, Or.inl rfl, Or.inl rfl, Or.inr rfl, Or.inr rfl, Or.inr rfl, Or.inl rfl, trivial⟩
def f_Plac_setClashes_b66 (k66 : Int → Int → Int → Int → q_Mem → q_Res) (l1 l4 l5 l6 : Int) (m : q_Mem) : q_Res :=
  if q_w (m 60 8) ≤ q_w l6 then (q_rt 0 m)
  else (q_bd (f_Loop_pointAt l1 l6 m) fun v1 m2 =>
  if q_w (m2 60 11) = 0 then (q_bd (f_Loop_moved l1 v1 l4 l5 m2) fun v3 m4 =>
  if q_w v3 = (-1) then (f_Plac_setClashes_b114 k66 l1 l4 l5 l6 v1 m4)
  else (f_Plac_setClashes_b115 k66 l1 l4 l5 l6 v1 1 m4))
  else (f_Plac_setClashes_b114 k66 l1 l4 l5 l6 v1 m2))
set_option maxRecDepth 20000 in
theorem w_Plac_setClashes_b66 {k66 : Int → Int → Int → Int → q_Mem → q_Res} {l1 l4 l5 l6 : Int} {r : Int × q_Mem} {m : q_Mem} {N : Nat} (hN : 81 ≤ N) (hk66 : ∀ (l1 l4 l5 l6 : Int) (m : q_Mem), l1 ∈ (q_Lp : List Int) → k66 l1 l4 l5 l6 m = some r → q_E md_X4_setClashes 2 N (none) r m 66 [q_A 60, q_A l1, q_N, q_N, q_I l4, q_I l5, q_I l6, q_N] []) (hl1 : l1 ∈ (q_Lp : List Int)) (h : f_Plac_setClashes_b66 k66 l1 l4 l5 l6 m = some r) : q_E md_X4_setClashes 2 N (none) r m 66 [q_A 60, q_A l1, q_N, q_N, q_I l4, q_I l5, q_I l6, q_N] [] := by
  unfold f_Plac_setClashes_b66 at h
  refine q_iload (M := md_X4_setClashes) (pc := 66) dX4_setClashes_66 rfl ?_
  refine q_aload_n (M := md_X4_setClashes) (pc := 68) dX4_setClashes_68 rfl (by decide) ?_
  refine e_gI (M := md_X4_setClashes) (pc := 69) (v := m 60 8) fl_4_43 dX4_setClashes_69 (is_60 hN) rfl ?_
  refine e_icmp_ge (M := md_X4_setClashes) (pc := 72) (tgt := 122) h rfl rfl dX4_setClashes_72 (by decide) (fun h => ?_) (fun h => ?_)
  · exact e_vret (M := md_X4_setClashes) (pc := 122) h rfl dX4_setClashes_122
  · refine q_aload_n (M := md_X4_setClashes) (pc := 75) dX4_setClashes_75 rfl (nn_Lp hl1) ?_
    refine q_iload (M := md_X4_setClashes) (pc := 76) dX4_setClashes_76 rfl ?_
    refine e_callVi (M := md_X4_setClashes) (pc := 78) (d' := 1) (av := [q_I l6]) (c := l1) h ml_4_104 im_X2_pointAt se_X2_pointAt dX4_setClashes_78 (fun v he => ok_X2_pointAt hN hl1 he) rfl (is_Lp hN hl1) ⟨_, _, rfl⟩ (by decide) (Nat.le_of_ble_eq_true rfl) ⟨by decide, by decide⟩ rfl (fun v1 m2 h => ?_)
    refine e_ist (M := md_X4_setClashes) (pc := 81) (ls' := [q_A 60, q_A l1, q_N, q_N, q_I l4, q_I l5, q_I l6, q_I v1]) dX4_setClashes_81 (by decide) (q_pl rfl) rfl ?_
    refine q_aload_n (M := md_X4_setClashes) (pc := 83) dX4_setClashes_83 rfl (by decide) ?_
    refine q_getP (M := md_X4_setClashes) (pc := 84) (v := 63) fl_4_18 dX4_setClashes_84 (is_60 hN) rfl ?_
    refine q_iload (M := md_X4_setClashes) (pc := 87) dX4_setClashes_87 rfl ?_
    refine q_aload_n (M := md_X4_setClashes) (pc := 89) dX4_setClashes_89 rfl (by decide) ?_
    refine e_gI (M := md_X4_setClashes) (pc := 90) (v := m2 60 11) fl_4_72 dX4_setClashes_90 (is_60 hN) rfl ?_
    refine e_if_ne (M := md_X4_setClashes) (pc := 93) (tgt := 114) h rfl dX4_setClashes_93 (by decide) (fun h => ?_) (fun h => ?_)
    · exact q_weak (w_Plac_setClashes_b114 hN hk66 hl1 h) ⟨Or.inr rfl, Or.inr rfl, Or.inl rfl, Or.inl rfl, Or.inr rfl, Or.inr rfl, Or.inr rfl, Or.inl rfl, trivial⟩
    · refine q_aload_n (M := md_X4_setClashes) (pc := 96) dX4_setClashes_96 rfl (nn_Lp hl1) ?_
      refine q_iload (M := md_X4_setClashes) (pc := 97) dX4_setClashes_97 rfl ?_
      refine q_iload (M := md_X4_setClashes) (pc := 99) dX4_setClashes_99 rfl ?_
      refine q_iload (M := md_X4_setClashes) (pc := 101) dX4_setClashes_101 rfl ?_
      refine e_callVi (M := md_X4_setClashes) (pc := 103) (d' := 1) (av := [q_I v1, q_I l4, q_I l5]) (c := l1) h ml_4_110 im_X2_moved se_X2_moved dX4_setClashes_103 (fun v he => ok_X2_moved hN hl1 he) rfl (is_Lp hN hl1) ⟨_, _, rfl⟩ (by decide) (Nat.le_of_ble_eq_true rfl) ⟨by decide, by decide⟩ rfl (fun v3 m4 h => ?_)
      refine q_iconst (M := md_X4_setClashes) (pc := 106) dX4_setClashes_106 ?_
      refine e_icmp_eq (M := md_X4_setClashes) (pc := 107) (tgt := 114) h rfl (q_wlit rfl) dX4_setClashes_107 (by decide) (fun h => ?_) (fun h => ?_)
      · exact q_weak (w_Plac_setClashes_b114 hN hk66 hl1 h) ⟨Or.inr rfl, Or.inr rfl, Or.inl rfl, Or.inl rfl, Or.inr rfl, Or.inr rfl, Or.inr rfl, Or.inl rfl, trivial⟩
      · refine q_iconst (M := md_X4_setClashes) (pc := 110) dX4_setClashes_110 ?_
        refine q_goto (M := md_X4_setClashes) (pc := 111) (tgt := 115) dX4_setClashes_111 (by decide) ?_
        exact q_weak (w_Plac_setClashes_b115 hN hk66 hl1 h) ⟨Or.inr rfl, Or.inr rfl, Or.inl rfl, Or.inl rfl, Or.inr rfl, Or.inr rfl, Or.inr rfl, Or.inl rfl, trivial⟩
def f_Plac_setClashes_l66 : Nat → Int → Int → Int → Int → q_Mem → q_Res
  | 0 => fun _ _ _ _ _ => none
  | n + 1 => fun l1 l4 l5 l6 m => f_Plac_setClashes_b66 (f_Plac_setClashes_l66 n) l1 l4 l5 l6 m
theorem w_Plac_setClashes_l66 {r : Int × q_Mem} {N : Nat} (hN : 81 ≤ N) : ∀ (n : Nat) (l1 l4 l5 l6 : Int) (m : q_Mem), l1 ∈ (q_Lp : List Int) → f_Plac_setClashes_l66 n l1 l4 l5 l6 m = some r → q_E md_X4_setClashes 2 N (none) r m 66 [q_A 60, q_A l1, q_N, q_N, q_I l4, q_I l5, q_I l6, q_N] [] := by
  intro n
  induction n with
  | zero => intro l1 l4 l5 l6 m hl1 h; exact q_no h
  | succ n ih =>
    intro l1 l4 l5 l6 m hl1 h
    exact w_Plac_setClashes_b66 hN (fun l1 l4 l5 l6 m hl1 h => ih l1 l4 l5 l6 m hl1 h) hl1 h
def f_Plac_setClashes_b61 (l1 l4 s0 : Int) (m : q_Mem) : q_Res :=
  f_Plac_setClashes_l66 q_F l1 l4 s0 0 m
set_option maxRecDepth 20000 in
theorem w_Plac_setClashes_b61 {l1 l4 s0 : Int} {r : Int × q_Mem} {m : q_Mem} {N : Nat} (hN : 81 ≤ N) (hl1 : l1 ∈ (q_Lp : List Int)) (h : f_Plac_setClashes_b61 l1 l4 s0 m = some r) : q_E md_X4_setClashes 2 N (none) r m 61 [q_A 60, q_A l1, q_N, q_N, q_I l4, q_N, q_N, q_N] [q_I s0] := by
  unfold f_Plac_setClashes_b61 at h
  refine e_ist (M := md_X4_setClashes) (pc := 61) (ls' := [q_A 60, q_A l1, q_N, q_N, q_I l4, q_I s0, q_N, q_N]) dX4_setClashes_61 (by decide) (q_pl rfl) rfl ?_
  refine q_iconst (M := md_X4_setClashes) (pc := 63) dX4_setClashes_63 ?_
  refine e_ist (M := md_X4_setClashes) (pc := 64) (ls' := [q_A 60, q_A l1, q_N, q_N, q_I l4, q_I s0, q_I 0, q_N]) dX4_setClashes_64 (by decide) (q_pl rfl) rfl ?_
  exact q_weak (w_Plac_setClashes_l66 hN q_F _ _ _ _ _ hl1 h) ⟨Or.inr rfl, Or.inr rfl, Or.inl rfl, Or.inl rfl, Or.inr rfl, Or.inr rfl, Or.inr rfl, Or.inl rfl, trivial⟩
def f_Plac_setClashes_b43 (l1 l2 l3 s0 : Int) (m : q_Mem) : q_Res :=
  if q_w l3 = 0 then (f_Plac_setClashes_b61 l1 s0 (m l2 3) m)
  else (f_Plac_setClashes_b61 l1 s0 (-(m l2 3)) m)
set_option maxRecDepth 20000 in
theorem w_Plac_setClashes_b43 {l1 l2 l3 s0 : Int} {r : Int × q_Mem} {m : q_Mem} {N : Nat} (hN : 81 ≤ N) (hl1 : l1 ∈ (q_Lp : List Int)) (hl2 : l2 ∈ (q_Ly : List Int)) (h : f_Plac_setClashes_b43 l1 l2 l3 s0 m = some r) : q_E md_X4_setClashes 2 N (none) r m 43 [q_A 60, q_A l1, q_A l2, q_I l3, q_N, q_N, q_N, q_N] [q_I s0] := by
  unfold f_Plac_setClashes_b43 at h
  refine e_ist (M := md_X4_setClashes) (pc := 43) (ls' := [q_A 60, q_A l1, q_A l2, q_I l3, q_I s0, q_N, q_N, q_N]) dX4_setClashes_43 (by decide) (q_pl rfl) rfl ?_
  refine q_iload_n (M := md_X4_setClashes) (pc := 45) dX4_setClashes_45 rfl ?_
  refine e_if_eq (M := md_X4_setClashes) (pc := 46) (tgt := 57) h rfl dX4_setClashes_46 (by decide) (fun h => ?_) (fun h => ?_)
  · refine q_aload_n (M := md_X4_setClashes) (pc := 57) dX4_setClashes_57 rfl (nn_Ly hl2) ?_
    refine e_gI (M := md_X4_setClashes) (pc := 58) (v := m l2 3) fl_4_63 dX4_setClashes_58 (is_Ly hN hl2) rfl ?_
    exact q_weak (w_Plac_setClashes_b61 hN hl1 h) ⟨Or.inr rfl, Or.inr rfl, Or.inl rfl, Or.inl rfl, Or.inr rfl, Or.inl rfl, Or.inl rfl, Or.inl rfl, trivial⟩
  · refine q_aload_n (M := md_X4_setClashes) (pc := 49) dX4_setClashes_49 rfl (nn_Ly hl2) ?_
    refine e_gI (M := md_X4_setClashes) (pc := 50) (v := m l2 3) fl_4_63 dX4_setClashes_50 (is_Ly hN hl2) rfl ?_
    refine q_ineg (M := md_X4_setClashes) (pc := 53) dX4_setClashes_53 ?_
    refine q_goto (M := md_X4_setClashes) (pc := 54) (tgt := 61) dX4_setClashes_54 (by decide) ?_
    exact q_weak (w_Plac_setClashes_b61 hN hl1 h) ⟨Or.inr rfl, Or.inr rfl, Or.inl rfl, Or.inl rfl, Or.inr rfl, Or.inl rfl, Or.inl rfl, Or.inl rfl, trivial⟩
def f_Plac_setClashes_b26 (l1 l2 s0 : Int) (m : q_Mem) : q_Res :=
  if q_w s0 = 0 then (f_Plac_setClashes_b43 l1 l2 s0 (m l2 2) m)
  else (f_Plac_setClashes_b43 l1 l2 s0 (-(m l2 2)) m)
set_option maxRecDepth 20000 in
theorem w_Plac_setClashes_b26 {l1 l2 s0 : Int} {r : Int × q_Mem} {m : q_Mem} {N : Nat} (hN : 81 ≤ N) (hl1 : l1 ∈ (q_Lp : List Int)) (hl2 : l2 ∈ (q_Ly : List Int)) (h : f_Plac_setClashes_b26 l1 l2 s0 m = some r) : q_E md_X4_setClashes 2 N (none) r m 26 [q_A 60, q_A l1, q_A l2, q_N, q_N, q_N, q_N, q_N] [q_I s0] := by
  unfold f_Plac_setClashes_b26 at h
  refine e_ist_n (M := md_X4_setClashes) (pc := 26) (ls' := [q_A 60, q_A l1, q_A l2, q_I s0, q_N, q_N, q_N, q_N]) dX4_setClashes_26 (by decide) (q_pl rfl) rfl ?_
  refine q_iload_n (M := md_X4_setClashes) (pc := 27) dX4_setClashes_27 rfl ?_
  refine e_if_eq (M := md_X4_setClashes) (pc := 28) (tgt := 39) h rfl dX4_setClashes_28 (by decide) (fun h => ?_) (fun h => ?_)
  · refine q_aload_n (M := md_X4_setClashes) (pc := 39) dX4_setClashes_39 rfl (nn_Ly hl2) ?_
    refine e_gI (M := md_X4_setClashes) (pc := 40) (v := m l2 2) fl_4_60 dX4_setClashes_40 (is_Ly hN hl2) rfl ?_
    exact q_weak (w_Plac_setClashes_b43 hN hl1 hl2 h) ⟨Or.inr rfl, Or.inr rfl, Or.inr rfl, Or.inr rfl, Or.inl rfl, Or.inl rfl, Or.inl rfl, Or.inl rfl, trivial⟩
  · refine q_aload_n (M := md_X4_setClashes) (pc := 31) dX4_setClashes_31 rfl (nn_Ly hl2) ?_
    refine e_gI (M := md_X4_setClashes) (pc := 32) (v := m l2 2) fl_4_60 dX4_setClashes_32 (is_Ly hN hl2) rfl ?_
    refine q_ineg (M := md_X4_setClashes) (pc := 35) dX4_setClashes_35 ?_
    refine q_goto (M := md_X4_setClashes) (pc := 36) (tgt := 43) dX4_setClashes_36 (by decide) ?_
    exact q_weak (w_Plac_setClashes_b43 hN hl1 hl2 h) ⟨Or.inr rfl, Or.inr rfl, Or.inr rfl, Or.inr rfl, Or.inl rfl, Or.inl rfl, Or.inl rfl, Or.inl rfl, trivial⟩
def f_Plac_setClashes_b21 (l1 l2 : Int) (m : q_Mem) : q_Res :=
  f_Plac_setClashes_b26 l1 l2 1 m
set_option maxRecDepth 20000 in
theorem w_Plac_setClashes_b21 {l1 l2 : Int} {r : Int × q_Mem} {m : q_Mem} {N : Nat} (hN : 81 ≤ N) (hl1 : l1 ∈ (q_Lp : List Int)) (hl2 : l2 ∈ (q_Ly : List Int)) (h : f_Plac_setClashes_b21 l1 l2 m = some r) : q_E md_X4_setClashes 2 N (none) r m 21 [q_A 60, q_A l1, q_A l2, q_N, q_N, q_N, q_N, q_N] [] := by
  unfold f_Plac_setClashes_b21 at h
  refine q_iconst (M := md_X4_setClashes) (pc := 21) dX4_setClashes_21 ?_
  refine q_goto (M := md_X4_setClashes) (pc := 22) (tgt := 26) dX4_setClashes_22 (by decide) ?_
  exact q_weak (w_Plac_setClashes_b26 hN hl1 hl2 h) ⟨Or.inr rfl, Or.inr rfl, Or.inr rfl, Or.inl rfl, Or.inl rfl, Or.inl rfl, Or.inl rfl, Or.inl rfl, trivial⟩
def f_Plac_setClashes_b25 (l1 l2 : Int) (m : q_Mem) : q_Res :=
  f_Plac_setClashes_b26 l1 l2 0 m
set_option maxRecDepth 20000 in
theorem w_Plac_setClashes_b25 {l1 l2 : Int} {r : Int × q_Mem} {m : q_Mem} {N : Nat} (hN : 81 ≤ N) (hl1 : l1 ∈ (q_Lp : List Int)) (hl2 : l2 ∈ (q_Ly : List Int)) (h : f_Plac_setClashes_b25 l1 l2 m = some r) : q_E md_X4_setClashes 2 N (none) r m 25 [q_A 60, q_A l1, q_A l2, q_N, q_N, q_N, q_N, q_N] [] := by
  unfold f_Plac_setClashes_b25 at h
  refine q_iconst (M := md_X4_setClashes) (pc := 25) dX4_setClashes_25 ?_
  exact q_weak (w_Plac_setClashes_b26 hN hl1 hl2 h) ⟨Or.inr rfl, Or.inr rfl, Or.inr rfl, Or.inl rfl, Or.inl rfl, Or.inl rfl, Or.inl rfl, Or.inl rfl, trivial⟩
def f_Plac_setClashes (l1 l2 : Int) (m : q_Mem) : q_Res :=
  if 0 < q_w (m l2 2) then (f_Plac_setClashes_b21 l1 l2 m)
  else (if q_w (m l2 2) = 0 then (if q_w (m l2 3) ≤ 0 then (f_Plac_setClashes_b25 l1 l2 m)
  else (f_Plac_setClashes_b21 l1 l2 m))
  else (f_Plac_setClashes_b25 l1 l2 m))
set_option maxRecDepth 20000 in
theorem ok_X4_setClashes {l1 l2 : Int} {r : Int × q_Mem} {m : q_Mem} {N : Nat} (hN : 81 ≤ N) (hl1 : l1 ∈ (q_Lp : List Int)) (hl2 : l2 ∈ (q_Ly : List Int)) (h : f_Plac_setClashes l1 l2 m = some r) : q_C md_X4_setClashes (q_room 2) 0 0 [q_A 60, q_A l1, q_A l2] (q_g N) m (none, q_g N, r.2) := by
  refine q_ofR (by decide) 5 (ls := [q_A 60, q_A l1, q_A l2, q_N, q_N, q_N, q_N, q_N]) rfl (Nat.le_of_ble_eq_true rfl) ?_
  change q_E md_X4_setClashes 2 N (none) r m 0 [q_A 60, q_A l1, q_A l2, q_N, q_N, q_N, q_N, q_N] []
  unfold f_Plac_setClashes at h
  refine q_aload_n (M := md_X4_setClashes) (pc := 0) dX4_setClashes_0 rfl (nn_Ly hl2) ?_
  refine e_gI (M := md_X4_setClashes) (pc := 1) (v := m l2 2) fl_4_60 dX4_setClashes_1 (is_Ly hN hl2) rfl ?_
  refine e_if_gt (M := md_X4_setClashes) (pc := 4) (tgt := 21) h rfl dX4_setClashes_4 (by decide) (fun h => ?_) (fun h => ?_)
  · exact q_weak (w_Plac_setClashes_b21 hN hl1 hl2 h) ⟨Or.inr rfl, Or.inr rfl, Or.inr rfl, Or.inl rfl, Or.inl rfl, Or.inl rfl, Or.inl rfl, Or.inl rfl, trivial⟩
  · refine q_aload_n (M := md_X4_setClashes) (pc := 7) dX4_setClashes_7 rfl (nn_Ly hl2) ?_
    refine e_gI (M := md_X4_setClashes) (pc := 8) (v := m l2 2) fl_4_60 dX4_setClashes_8 (is_Ly hN hl2) rfl ?_
    refine e_if_ne (M := md_X4_setClashes) (pc := 11) (tgt := 25) h rfl dX4_setClashes_11 (by decide) (fun h => ?_) (fun h => ?_)
    · exact q_weak (w_Plac_setClashes_b25 hN hl1 hl2 h) ⟨Or.inr rfl, Or.inr rfl, Or.inr rfl, Or.inl rfl, Or.inl rfl, Or.inl rfl, Or.inl rfl, Or.inl rfl, trivial⟩
    · refine q_aload_n (M := md_X4_setClashes) (pc := 14) dX4_setClashes_14 rfl (nn_Ly hl2) ?_
      refine e_gI (M := md_X4_setClashes) (pc := 15) (v := m l2 3) fl_4_63 dX4_setClashes_15 (is_Ly hN hl2) rfl ?_
      refine e_if_le (M := md_X4_setClashes) (pc := 18) (tgt := 25) h rfl dX4_setClashes_18 (by decide) (fun h => ?_) (fun h => ?_)
      · exact q_weak (w_Plac_setClashes_b25 hN hl1 hl2 h) ⟨Or.inr rfl, Or.inr rfl, Or.inr rfl, Or.inl rfl, Or.inl rfl, Or.inl rfl, Or.inl rfl, Or.inl rfl, trivial⟩
      · exact q_weak (w_Plac_setClashes_b21 hN hl1 hl2 h) ⟨Or.inr rfl, Or.inr rfl, Or.inr rfl, Or.inl rfl, Or.inl rfl, Or.inl rfl, Or.inl rfl, Or.inl rfl, trivial⟩
