def f_Mod_greatestDepth_b29 (k4 : Int → Int → q_Mem → q_Res) (l1 l2 : Int) (m : q_Mem) : q_Res :=
  k4 l1 (l2 + 1) m
set_option maxRecDepth 20000 in
theorem w_Mod_greatestDepth_b29 {k4 : Int → Int → q_Mem → q_Res} {l1 l2 : Int} {r : Int × q_Mem} {m : q_Mem} {N : Nat} (hN : 126 ≤ N) (hk4 : ∀ (l1 l2 : Int) (m : q_Mem), k4 l1 l2 m = some r → q_E md_X11_greatestDepth 4 N (some 0) r m 4 [q_A 81, q_I l1, q_I l2] []) (h : f_Mod_greatestDepth_b29 k4 l1 l2 m = some r) : q_E md_X11_greatestDepth 4 N (some 0) r m 29 [q_A 81, q_I l1, q_I l2] [] := by
  unfold f_Mod_greatestDepth_b29 at h
  refine e_inc (M := md_X11_greatestDepth) (pc := 29) (x := l2) (ls' := [q_A 81, q_I l1, q_I (l2 + 1)]) dX11_greatestDepth_29 rfl (by decide) (q_pl rfl) rfl ?_
  refine q_goto (M := md_X11_greatestDepth) (pc := 32) (tgt := 4) dX11_greatestDepth_32 (by decide) ?_
  exact q_weak (hk4 _ _ _  h) ⟨Or.inr rfl, Or.inr rfl, Or.inr rfl, trivial⟩
def f_Mod_greatestDepth_b4 (k4 : Int → Int → q_Mem → q_Res) (l1 l2 : Int) (m : q_Mem) : q_Res :=
  if 100 ≤ q_w l2 then (q_rt l1 m)
  else (q_bd (f_Mod_isThere l2 m) fun v1 m2 =>
  if q_w v1 = 0 then (f_Mod_greatestDepth_b29 k4 l1 l2 m2)
  else (q_rd m2 106 100 l2 fun v3 =>
  q_bd (f_Mod_more l1 v3 m2) fun v4 m5 =>
  f_Mod_greatestDepth_b29 k4 v4 l2 m5))
set_option maxRecDepth 20000 in
theorem w_Mod_greatestDepth_b4 {k4 : Int → Int → q_Mem → q_Res} {l1 l2 : Int} {r : Int × q_Mem} {m : q_Mem} {N : Nat} (hN : 126 ≤ N) (hk4 : ∀ (l1 l2 : Int) (m : q_Mem), k4 l1 l2 m = some r → q_E md_X11_greatestDepth 4 N (some 0) r m 4 [q_A 81, q_I l1, q_I l2] []) (h : f_Mod_greatestDepth_b4 k4 l1 l2 m = some r) : q_E md_X11_greatestDepth 4 N (some 0) r m 4 [q_A 81, q_I l1, q_I l2] [] := by
  unfold f_Mod_greatestDepth_b4 at h
  refine q_iload_n (M := md_X11_greatestDepth) (pc := 4) dX11_greatestDepth_4 rfl ?_
  refine q_bipush (M := md_X11_greatestDepth) (pc := 5) (x := 100) dX11_greatestDepth_5 (by decide) ?_
  refine e_icmp_ge (M := md_X11_greatestDepth) (pc := 7) (tgt := 35) h rfl (q_wlit rfl) dX11_greatestDepth_7 (by decide) (fun h => ?_) (fun h => ?_)
  · refine q_iload_n (M := md_X11_greatestDepth) (pc := 35) dX11_greatestDepth_35 rfl ?_
    exact e_iret (M := md_X11_greatestDepth) (pc := 36) h rfl dX11_greatestDepth_36
  · refine q_aload_n (M := md_X11_greatestDepth) (pc := 10) dX11_greatestDepth_10 rfl (by decide) ?_
    refine q_iload_n (M := md_X11_greatestDepth) (pc := 11) dX11_greatestDepth_11 rfl ?_
    refine e_callVi (M := md_X11_greatestDepth) (pc := 12) (d' := 3) (av := [q_I l2]) (c := 81) h ml_11_333 im_X11_isThere se_X11_isThere dX11_greatestDepth_12 (fun v he => ok_X11_isThere hN  he) rfl (is_81 hN) ⟨_, _, rfl⟩ (by decide) (Nat.le_of_ble_eq_true rfl) ⟨by decide, by decide⟩ rfl (fun v1 m2 h => ?_)
    refine e_if_eq (M := md_X11_greatestDepth) (pc := 15) (tgt := 29) h rfl dX11_greatestDepth_15 (by decide) (fun h => ?_) (fun h => ?_)
    · exact q_weak (w_Mod_greatestDepth_b29 hN hk4  h) ⟨Or.inr rfl, Or.inr rfl, Or.inr rfl, trivial⟩
    · refine q_iload_n (M := md_X11_greatestDepth) (pc := 18) dX11_greatestDepth_18 rfl ?_
      refine q_aload_n (M := md_X11_greatestDepth) (pc := 19) dX11_greatestDepth_19 rfl (by decide) ?_
      refine q_getP (M := md_X11_greatestDepth) (pc := 20) (v := 106) fl_11_87 dX11_greatestDepth_20 (is_81 hN) rfl ?_
      refine q_iload_n (M := md_X11_greatestDepth) (pc := 23) dX11_greatestDepth_23 rfl ?_
      refine e_rd (M := md_X11_greatestDepth) (pc := 24) h dX11_greatestDepth_24 (ar_106 hN) (fun v3 h => ?_)
      refine e_callSi (M := md_X11_greatestDepth) (pc := 25) (d' := 1) (M' := md_X11_more) (av := [q_I l1, q_I v3]) h ml_11_345 sm_X11_more dX11_greatestDepth_25 (fun v he => ok_X11_more hN  he) rfl (Nat.le_of_ble_eq_true rfl) ⟨by decide, by decide⟩ rfl (fun v4 m5 h => ?_)
      refine e_ist_n (M := md_X11_greatestDepth) (pc := 28) (ls' := [q_A 81, q_I v4, q_I l2]) dX11_greatestDepth_28 (by decide) (q_pl rfl) rfl ?_
      exact q_weak (w_Mod_greatestDepth_b29 hN hk4  h) ⟨Or.inr rfl, Or.inr rfl, Or.inr rfl, trivial⟩
def f_Mod_greatestDepth_l4 : Nat → Int → Int → q_Mem → q_Res
  | 0 => fun _ _ _ => none
  | n + 1 => fun l1 l2 m => f_Mod_greatestDepth_b4 (f_Mod_greatestDepth_l4 n) l1 l2 m
theorem w_Mod_greatestDepth_l4 {r : Int × q_Mem} {N : Nat} (hN : 126 ≤ N) : ∀ (n : Nat) (l1 l2 : Int) (m : q_Mem), f_Mod_greatestDepth_l4 n l1 l2 m = some r → q_E md_X11_greatestDepth 4 N (some 0) r m 4 [q_A 81, q_I l1, q_I l2] [] := by
  intro n
  induction n with
  | zero => intro l1 l2 m h; exact q_no h
  | succ n ih =>
    intro l1 l2 m h
    exact w_Mod_greatestDepth_b4 hN (fun l1 l2 m h => ih l1 l2 m h) h
def f_Mod_greatestDepth (m : q_Mem) : q_Res :=
  f_Mod_greatestDepth_l4 q_F (-1) 0 m
set_option maxRecDepth 20000 in
theorem ok_X11_greatestDepth {r : Int × q_Mem} {m : q_Mem} {N : Nat} (hN : 126 ≤ N) (h : f_Mod_greatestDepth m = some r) : q_C md_X11_greatestDepth (q_room 4) 0 0 [q_A 81] (q_g N) m (some (q_I r.1), q_g N, r.2) := by
  refine q_ofR (by decide) 2 (ls := [q_A 81, q_N, q_N]) rfl (Nat.le_of_ble_eq_true rfl) ?_
  change q_E md_X11_greatestDepth 4 N (some 0) r m 0 [q_A 81, q_N, q_N] []
  unfold f_Mod_greatestDepth at h
  refine q_iconst (M := md_X11_greatestDepth) (pc := 0) dX11_greatestDepth_0 ?_
  refine e_ist_n (M := md_X11_greatestDepth) (pc := 1) (ls' := [q_A 81, q_I (-1), q_N]) dX11_greatestDepth_1 (by decide) (q_pl rfl) rfl ?_
  refine q_iconst (M := md_X11_greatestDepth) (pc := 2) dX11_greatestDepth_2 ?_
  refine e_ist_n (M := md_X11_greatestDepth) (pc := 3) (ls' := [q_A 81, q_I (-1), q_I 0]) dX11_greatestDepth_3 (by decide) (q_pl rfl) rfl ?_
  exact q_weak (w_Mod_greatestDepth_l4 hN q_F _ _ _  h) ⟨Or.inr rfl, Or.inr rfl, Or.inr rfl, trivial⟩
def f_Mod_ordered (l1 l2 : Int) (m : q_Mem) : q_Res :=
  q_bd (f_Mod_isPoint l1 l2 m) fun v1 m2 =>
  if q_w v1 = 0 then (q_rt (-1) m2)
  else (q_bd (f_Mod_layDepths m2) fun _ m3 =>
  q_rd m3 106 100 ((10 * l1) + l2) fun v4 =>
  if q_w v4 < 0 then (q_rt 0 m3)
  else (q_rt 1 m3))
set_option maxRecDepth 20000 in
theorem ok_X11_ordered {l1 l2 : Int} {r : Int × q_Mem} {m : q_Mem} {N : Nat} (hN : 126 ≤ N) (h : f_Mod_ordered l1 l2 m = some r) : q_C md_X11_ordered (q_room 6) 0 0 [q_A 81, q_I l1, q_I l2] (q_g N) m (some (q_I r.1), q_g N, r.2) := by
  refine q_ofR (by decide) 0 (ls := [q_A 81, q_I l1, q_I l2]) rfl (Nat.le_of_ble_eq_true rfl) ?_
  change q_E md_X11_ordered 6 N (some 0) r m 0 [q_A 81, q_I l1, q_I l2] []
  unfold f_Mod_ordered at h
  refine q_aload_n (M := md_X11_ordered) (pc := 0) dX11_ordered_0 rfl (by decide) ?_
  refine q_iload_n (M := md_X11_ordered) (pc := 1) dX11_ordered_1 rfl ?_
  refine q_iload_n (M := md_X11_ordered) (pc := 2) dX11_ordered_2 rfl ?_
  refine e_callVi (M := md_X11_ordered) (pc := 3) (d' := 2) (av := [q_I l1, q_I l2]) (c := 81) h ml_11_324 im_X11_isPoint se_X11_isPoint dX11_ordered_3 (fun v he => ok_X11_isPoint hN  he) rfl (is_81 hN) ⟨_, _, rfl⟩ (by decide) (Nat.le_of_ble_eq_true rfl) ⟨by decide, by decide⟩ rfl (fun v1 m2 h => ?_)
  refine e_if_ne (M := md_X11_ordered) (pc := 6) (tgt := 11) h rfl dX11_ordered_6 (by decide) (fun h => ?_) (fun h => ?_)
  · refine q_aload_n (M := md_X11_ordered) (pc := 11) dX11_ordered_11 rfl (by decide) ?_
    refine e_callVv (M := md_X11_ordered) (pc := 12) (d' := 5) (av := []) (c := 81) h ml_11_348 im_X11_layDepths se_X11_layDepths dX11_ordered_12 (fun v he => ok_X11_layDepths hN  he) rfl (is_81 hN) ⟨_, _, rfl⟩ (by decide) (Nat.le_of_ble_eq_true rfl) ⟨by decide, by decide⟩ rfl (fun _ m3 h => ?_)
    refine q_aload_n (M := md_X11_ordered) (pc := 15) dX11_ordered_15 rfl (by decide) ?_
    refine q_getP (M := md_X11_ordered) (pc := 16) (v := 106) fl_11_87 dX11_ordered_16 (is_81 hN) rfl ?_
    refine q_bipush (M := md_X11_ordered) (pc := 19) (x := 10) dX11_ordered_19 (by decide) ?_
    refine q_iload_n (M := md_X11_ordered) (pc := 21) dX11_ordered_21 rfl ?_
    refine q_imul (M := md_X11_ordered) (pc := 22) dX11_ordered_22 ?_
    refine q_iload_n (M := md_X11_ordered) (pc := 23) dX11_ordered_23 rfl ?_
    refine q_iadd (M := md_X11_ordered) (pc := 24) dX11_ordered_24 ?_
    refine e_rd (M := md_X11_ordered) (pc := 25) h dX11_ordered_25 (ar_106 hN) (fun v4 h => ?_)
    refine e_if_lt (M := md_X11_ordered) (pc := 26) (tgt := 33) h rfl dX11_ordered_26 (by decide) (fun h => ?_) (fun h => ?_)
    · refine q_iconst (M := md_X11_ordered) (pc := 33) dX11_ordered_33 ?_
      exact e_iret (M := md_X11_ordered) (pc := 34) h rfl dX11_ordered_34
    · refine q_iconst (M := md_X11_ordered) (pc := 29) dX11_ordered_29 ?_
      refine q_goto (M := md_X11_ordered) (pc := 30) (tgt := 34) dX11_ordered_30 (by decide) ?_
      exact e_iret (M := md_X11_ordered) (pc := 34) h rfl dX11_ordered_34
  · refine q_iconst (M := md_X11_ordered) (pc := 9) dX11_ordered_9 ?_
    exact e_iret (M := md_X11_ordered) (pc := 10) h rfl dX11_ordered_10
def f_Mod_depth (l1 l2 : Int) (m : q_Mem) : q_Res :=
  q_bd (f_Mod_isPoint l1 l2 m) fun v1 m2 =>
  if q_w v1 = 0 then (q_rt (-1) m2)
  else (q_bd (f_Mod_layDepths m2) fun _ m3 =>
  q_rd m3 106 100 ((10 * l1) + l2) fun v4 =>
  q_rt v4 m3)
set_option maxRecDepth 20000 in
theorem ok_X11_depth {l1 l2 : Int} {r : Int × q_Mem} {m : q_Mem} {N : Nat} (hN : 126 ≤ N) (h : f_Mod_depth l1 l2 m = some r) : q_C md_X11_depth (q_room 6) 0 0 [q_A 81, q_I l1, q_I l2] (q_g N) m (some (q_I r.1), q_g N, r.2) := by
  refine q_ofR (by decide) 0 (ls := [q_A 81, q_I l1, q_I l2]) rfl (Nat.le_of_ble_eq_true rfl) ?_
  change q_E md_X11_depth 6 N (some 0) r m 0 [q_A 81, q_I l1, q_I l2] []
  unfold f_Mod_depth at h
  refine q_aload_n (M := md_X11_depth) (pc := 0) dX11_depth_0 rfl (by decide) ?_
  refine q_iload_n (M := md_X11_depth) (pc := 1) dX11_depth_1 rfl ?_
  refine q_iload_n (M := md_X11_depth) (pc := 2) dX11_depth_2 rfl ?_
  refine e_callVi (M := md_X11_depth) (pc := 3) (d' := 2) (av := [q_I l1, q_I l2]) (c := 81) h ml_11_324 im_X11_isPoint se_X11_isPoint dX11_depth_3 (fun v he => ok_X11_isPoint hN  he) rfl (is_81 hN) ⟨_, _, rfl⟩ (by decide) (Nat.le_of_ble_eq_true rfl) ⟨by decide, by decide⟩ rfl (fun v1 m2 h => ?_)
  refine e_if_ne (M := md_X11_depth) (pc := 6) (tgt := 11) h rfl dX11_depth_6 (by decide) (fun h => ?_) (fun h => ?_)
  · refine q_aload_n (M := md_X11_depth) (pc := 11) dX11_depth_11 rfl (by decide) ?_
    refine e_callVv (M := md_X11_depth) (pc := 12) (d' := 5) (av := []) (c := 81) h ml_11_348 im_X11_layDepths se_X11_layDepths dX11_depth_12 (fun v he => ok_X11_layDepths hN  he) rfl (is_81 hN) ⟨_, _, rfl⟩ (by decide) (Nat.le_of_ble_eq_true rfl) ⟨by decide, by decide⟩ rfl (fun _ m3 h => ?_)
    refine q_aload_n (M := md_X11_depth) (pc := 15) dX11_depth_15 rfl (by decide) ?_
    refine q_getP (M := md_X11_depth) (pc := 16) (v := 106) fl_11_87 dX11_depth_16 (is_81 hN) rfl ?_
    refine q_bipush (M := md_X11_depth) (pc := 19) (x := 10) dX11_depth_19 (by decide) ?_
    refine q_iload_n (M := md_X11_depth) (pc := 21) dX11_depth_21 rfl ?_
    refine q_imul (M := md_X11_depth) (pc := 22) dX11_depth_22 ?_
    refine q_iload_n (M := md_X11_depth) (pc := 23) dX11_depth_23 rfl ?_
    refine q_iadd (M := md_X11_depth) (pc := 24) dX11_depth_24 ?_
    refine e_rd (M := md_X11_depth) (pc := 25) h dX11_depth_25 (ar_106 hN) (fun v4 h => ?_)
    exact e_iret (M := md_X11_depth) (pc := 26) h rfl dX11_depth_26
  · refine q_iconst (M := md_X11_depth) (pc := 9) dX11_depth_9 ?_
    exact e_iret (M := md_X11_depth) (pc := 10) h rfl dX11_depth_10
def f_Mod_height (l1 l2 : Int) (m : q_Mem) : q_Res :=
  q_bd (f_Mod_isPoint l1 l2 m) fun v1 m2 =>
  if q_w v1 = 0 then (q_rt (-1) m2)
  else (q_bd (f_Mod_layHeights m2) fun _ m3 =>
  q_rd m3 107 100 ((10 * l1) + l2) fun v4 =>
  q_rt v4 m3)
set_option maxRecDepth 20000 in
theorem ok_X11_height {l1 l2 : Int} {r : Int × q_Mem} {m : q_Mem} {N : Nat} (hN : 126 ≤ N) (h : f_Mod_height l1 l2 m = some r) : q_C md_X11_height (q_room 7) 0 0 [q_A 81, q_I l1, q_I l2] (q_g N) m (some (q_I r.1), q_g N, r.2) := by
  refine q_ofR (by decide) 0 (ls := [q_A 81, q_I l1, q_I l2]) rfl (Nat.le_of_ble_eq_true rfl) ?_
  change q_E md_X11_height 7 N (some 0) r m 0 [q_A 81, q_I l1, q_I l2] []
  unfold f_Mod_height at h
  refine q_aload_n (M := md_X11_height) (pc := 0) dX11_height_0 rfl (by decide) ?_
  refine q_iload_n (M := md_X11_height) (pc := 1) dX11_height_1 rfl ?_
  refine q_iload_n (M := md_X11_height) (pc := 2) dX11_height_2 rfl ?_
  refine e_callVi (M := md_X11_height) (pc := 3) (d' := 2) (av := [q_I l1, q_I l2]) (c := 81) h ml_11_324 im_X11_isPoint se_X11_isPoint dX11_height_3 (fun v he => ok_X11_isPoint hN  he) rfl (is_81 hN) ⟨_, _, rfl⟩ (by decide) (Nat.le_of_ble_eq_true rfl) ⟨by decide, by decide⟩ rfl (fun v1 m2 h => ?_)
  refine e_if_ne (M := md_X11_height) (pc := 6) (tgt := 11) h rfl dX11_height_6 (by decide) (fun h => ?_) (fun h => ?_)
  · refine q_aload_n (M := md_X11_height) (pc := 11) dX11_height_11 rfl (by decide) ?_
    refine e_callVv (M := md_X11_height) (pc := 12) (d' := 6) (av := []) (c := 81) h ml_11_357 im_X11_layHeights se_X11_layHeights dX11_height_12 (fun v he => ok_X11_layHeights hN  he) rfl (is_81 hN) ⟨_, _, rfl⟩ (by decide) (Nat.le_of_ble_eq_true rfl) ⟨by decide, by decide⟩ rfl (fun _ m3 h => ?_)
    refine q_aload_n (M := md_X11_height) (pc := 15) dX11_height_15 rfl (by decide) ?_
    refine q_getP (M := md_X11_height) (pc := 16) (v := 107) fl_11_90 dX11_height_16 (is_81 hN) rfl ?_
    refine q_bipush (M := md_X11_height) (pc := 19) (x := 10) dX11_height_19 (by decide) ?_
    refine q_iload_n (M := md_X11_height) (pc := 21) dX11_height_21 rfl ?_
    refine q_imul (M := md_X11_height) (pc := 22) dX11_height_22 ?_
    refine q_iload_n (M := md_X11_height) (pc := 23) dX11_height_23 rfl ?_
    refine q_iadd (M := md_X11_height) (pc := 24) dX11_height_24 ?_
    refine e_rd (M := md_X11_height) (pc := 25) h dX11_height_25 (ar_107 hN) (fun v4 h => ?_)
    exact e_iret (M := md_X11_height) (pc := 26) h rfl dX11_height_26
  · refine q_iconst (M := md_X11_height) (pc := 9) dX11_height_9 ?_
    exact e_iret (M := md_X11_height) (pc := 10) h rfl dX11_height_10
def f_Mod_critical_b57 (k8 : Int → Int → q_Mem → q_Res) (l2 s0 s1 : Int) (m : q_Mem) : q_Res :=
  k8 (s0 + s1) (l2 + 1) m
set_option maxRecDepth 20000 in
theorem w_Mod_critical_b57 {k8 : Int → Int → q_Mem → q_Res} {l2 s0 s1 : Int} {r : Int × q_Mem} {m : q_Mem} {N : Nat} (hN : 126 ≤ N) (hk8 : ∀ (l1 l2 : Int) (m : q_Mem), k8 l1 l2 m = some r → q_E md_X11_critical 7 N (some 0) r m 8 [q_A 81, q_I l1, q_I l2] []) (h : f_Mod_critical_b57 k8 l2 s0 s1 m = some r) : q_E md_X11_critical 7 N (some 0) r m 57 [q_A 81, q_N, q_I l2] [q_I s1, q_I s0] := by
  unfold f_Mod_critical_b57 at h
  refine q_iadd (M := md_X11_critical) (pc := 57) dX11_critical_57 ?_
  refine e_ist_n (M := md_X11_critical) (pc := 58) (ls' := [q_A 81, q_I (s0 + s1), q_I l2]) dX11_critical_58 (by decide) (q_pl rfl) rfl ?_
  refine e_inc (M := md_X11_critical) (pc := 59) (x := l2) (ls' := [q_A 81, q_I (s0 + s1), q_I (l2 + 1)]) dX11_critical_59 rfl (by decide) (q_pl rfl) rfl ?_
  refine q_goto (M := md_X11_critical) (pc := 62) (tgt := 8) dX11_critical_62 (by decide) ?_
  exact q_weak (hk8 _ _ _  h) ⟨Or.inr rfl, Or.inr rfl, Or.inr rfl, trivial⟩
def f_Mod_critical_b56 (k8 : Int → Int → q_Mem → q_Res) (l2 s0 : Int) (m : q_Mem) : q_Res :=
  f_Mod_critical_b57 k8 l2 s0 0 m
set_option maxRecDepth 20000 in
theorem w_Mod_critical_b56 {k8 : Int → Int → q_Mem → q_Res} {l2 s0 : Int} {r : Int × q_Mem} {m : q_Mem} {N : Nat} (hN : 126 ≤ N) (hk8 : ∀ (l1 l2 : Int) (m : q_Mem), k8 l1 l2 m = some r → q_E md_X11_critical 7 N (some 0) r m 8 [q_A 81, q_I l1, q_I l2] []) (h : f_Mod_critical_b56 k8 l2 s0 m = some r) : q_E md_X11_critical 7 N (some 0) r m 56 [q_A 81, q_N, q_I l2] [q_I s0] := by
  unfold f_Mod_critical_b56 at h
  refine q_iconst (M := md_X11_critical) (pc := 56) dX11_critical_56 ?_
  exact q_weak (w_Mod_critical_b57 hN hk8  h) ⟨Or.inr rfl, Or.inl rfl, Or.inr rfl, trivial⟩
def f_Mod_critical_b8 (k8 : Int → Int → q_Mem → q_Res) (l1 l2 : Int) (m : q_Mem) : q_Res :=
  if 100 ≤ q_w l2 then (q_rt l1 m)
  else (q_bd (f_Mod_isThere l2 m) fun v1 m2 =>
  if q_w v1 = 0 then (f_Mod_critical_b56 k8 l2 l1 m2)
  else (q_rd m2 107 100 l2 fun v3 =>
  if q_w v3 < 0 then (f_Mod_critical_b56 k8 l2 l1 m2)
  else (q_rd m2 106 100 l2 fun v4 =>
  q_rd m2 107 100 l2 fun v5 =>
  q_bd (f_Mod_greatestDepth m2) fun v6 m7 =>
  if q_w (v4 + v5) = q_w v6 then (f_Mod_critical_b57 k8 l2 l1 1 m7)
  else (f_Mod_critical_b56 k8 l2 l1 m7))))
set_option maxRecDepth 20000 in
theorem w_Mod_critical_b8 {k8 : Int → Int → q_Mem → q_Res} {l1 l2 : Int} {r : Int × q_Mem} {m : q_Mem} {N : Nat} (hN : 126 ≤ N) (hk8 : ∀ (l1 l2 : Int) (m : q_Mem), k8 l1 l2 m = some r → q_E md_X11_critical 7 N (some 0) r m 8 [q_A 81, q_I l1, q_I l2] []) (h : f_Mod_critical_b8 k8 l1 l2 m = some r) : q_E md_X11_critical 7 N (some 0) r m 8 [q_A 81, q_I l1, q_I l2] [] := by
  unfold f_Mod_critical_b8 at h
  refine q_iload_n (M := md_X11_critical) (pc := 8) dX11_critical_8 rfl ?_
  refine q_bipush (M := md_X11_critical) (pc := 9) (x := 100) dX11_critical_9 (by decide) ?_
  refine e_icmp_ge (M := md_X11_critical) (pc := 11) (tgt := 65) h rfl (q_wlit rfl) dX11_critical_11 (by decide) (fun h => ?_) (fun h => ?_)
  · refine q_iload_n (M := md_X11_critical) (pc := 65) dX11_critical_65 rfl ?_
    exact e_iret (M := md_X11_critical) (pc := 66) h rfl dX11_critical_66
  · refine q_iload_n (M := md_X11_critical) (pc := 14) dX11_critical_14 rfl ?_
    refine q_aload_n (M := md_X11_critical) (pc := 15) dX11_critical_15 rfl (by decide) ?_
    refine q_iload_n (M := md_X11_critical) (pc := 16) dX11_critical_16 rfl ?_
    refine e_callVi (M := md_X11_critical) (pc := 17) (d' := 3) (av := [q_I l2]) (c := 81) h ml_11_333 im_X11_isThere se_X11_isThere dX11_critical_17 (fun v he => ok_X11_isThere hN  he) rfl (is_81 hN) ⟨_, _, rfl⟩ (by decide) (Nat.le_of_ble_eq_true rfl) ⟨by decide, by decide⟩ rfl (fun v1 m2 h => ?_)
    refine e_if_eq (M := md_X11_critical) (pc := 20) (tgt := 56) h rfl dX11_critical_20 (by decide) (fun h => ?_) (fun h => ?_)
    · exact q_weak (w_Mod_critical_b56 hN hk8  h) ⟨Or.inr rfl, Or.inl rfl, Or.inr rfl, trivial⟩
    · refine q_aload_n (M := md_X11_critical) (pc := 23) dX11_critical_23 rfl (by decide) ?_
      refine q_getP (M := md_X11_critical) (pc := 24) (v := 107) fl_11_90 dX11_critical_24 (is_81 hN) rfl ?_
      refine q_iload_n (M := md_X11_critical) (pc := 27) dX11_critical_27 rfl ?_
      refine e_rd (M := md_X11_critical) (pc := 28) h dX11_critical_28 (ar_107 hN) (fun v3 h => ?_)
      refine e_if_lt (M := md_X11_critical) (pc := 29) (tgt := 56) h rfl dX11_critical_29 (by decide) (fun h => ?_) (fun h => ?_)
      · exact q_weak (w_Mod_critical_b56 hN hk8  h) ⟨Or.inr rfl, Or.inl rfl, Or.inr rfl, trivial⟩
      · refine q_aload_n (M := md_X11_critical) (pc := 32) dX11_critical_32 rfl (by decide) ?_
        refine q_getP (M := md_X11_critical) (pc := 33) (v := 106) fl_11_87 dX11_critical_33 (is_81 hN) rfl ?_
        refine q_iload_n (M := md_X11_critical) (pc := 36) dX11_critical_36 rfl ?_
        refine e_rd (M := md_X11_critical) (pc := 37) h dX11_critical_37 (ar_106 hN) (fun v4 h => ?_)
        refine q_aload_n (M := md_X11_critical) (pc := 38) dX11_critical_38 rfl (by decide) ?_
        refine q_getP (M := md_X11_critical) (pc := 39) (v := 107) fl_11_90 dX11_critical_39 (is_81 hN) rfl ?_
        refine q_iload_n (M := md_X11_critical) (pc := 42) dX11_critical_42 rfl ?_
        refine e_rd (M := md_X11_critical) (pc := 43) h dX11_critical_43 (ar_107 hN) (fun v5 h => ?_)
        refine q_iadd (M := md_X11_critical) (pc := 44) dX11_critical_44 ?_
        refine q_aload_n (M := md_X11_critical) (pc := 45) dX11_critical_45 rfl (by decide) ?_
        refine e_callVi (M := md_X11_critical) (pc := 46) (d' := 4) (av := []) (c := 81) h ml_11_360 im_X11_greatestDepth se_X11_greatestDepth dX11_critical_46 (fun v he => ok_X11_greatestDepth hN  he) rfl (is_81 hN) ⟨_, _, rfl⟩ (by decide) (Nat.le_of_ble_eq_true rfl) ⟨by decide, by decide⟩ rfl (fun v6 m7 h => ?_)
        refine e_icmp_ne (M := md_X11_critical) (pc := 49) (tgt := 56) h rfl rfl dX11_critical_49 (by decide) (fun h => ?_) (fun h => ?_)
        · exact q_weak (w_Mod_critical_b56 hN hk8  h) ⟨Or.inr rfl, Or.inl rfl, Or.inr rfl, trivial⟩
        · refine q_iconst (M := md_X11_critical) (pc := 52) dX11_critical_52 ?_
          refine q_goto (M := md_X11_critical) (pc := 53) (tgt := 57) dX11_critical_53 (by decide) ?_
          exact q_weak (w_Mod_critical_b57 hN hk8  h) ⟨Or.inr rfl, Or.inl rfl, Or.inr rfl, trivial⟩
def f_Mod_critical_l8 : Nat → Int → Int → q_Mem → q_Res
  | 0 => fun _ _ _ => none
  | n + 1 => fun l1 l2 m => f_Mod_critical_b8 (f_Mod_critical_l8 n) l1 l2 m
theorem w_Mod_critical_l8 {r : Int × q_Mem} {N : Nat} (hN : 126 ≤ N) : ∀ (n : Nat) (l1 l2 : Int) (m : q_Mem), f_Mod_critical_l8 n l1 l2 m = some r → q_E md_X11_critical 7 N (some 0) r m 8 [q_A 81, q_I l1, q_I l2] [] := by
  intro n
  induction n with
  | zero => intro l1 l2 m h; exact q_no h
  | succ n ih =>
    intro l1 l2 m h
    exact w_Mod_critical_b8 hN (fun l1 l2 m h => ih l1 l2 m h) h
def f_Mod_critical (m : q_Mem) : q_Res :=
  q_bd (f_Mod_layHeights m) fun _ m1 =>
  f_Mod_critical_l8 q_F 0 0 m1
set_option maxRecDepth 20000 in
theorem ok_X11_critical {r : Int × q_Mem} {m : q_Mem} {N : Nat} (hN : 126 ≤ N) (h : f_Mod_critical m = some r) : q_C md_X11_critical (q_room 7) 0 0 [q_A 81] (q_g N) m (some (q_I r.1), q_g N, r.2) := by
  refine q_ofR (by decide) 2 (ls := [q_A 81, q_N, q_N]) rfl (Nat.le_of_ble_eq_true rfl) ?_
  change q_E md_X11_critical 7 N (some 0) r m 0 [q_A 81, q_N, q_N] []
  unfold f_Mod_critical at h
  refine q_aload_n (M := md_X11_critical) (pc := 0) dX11_critical_0 rfl (by decide) ?_
  refine e_callVv (M := md_X11_critical) (pc := 1) (d' := 6) (av := []) (c := 81) h ml_11_357 im_X11_layHeights se_X11_layHeights dX11_critical_1 (fun v he => ok_X11_layHeights hN  he) rfl (is_81 hN) ⟨_, _, rfl⟩ (by decide) (Nat.le_of_ble_eq_true rfl) ⟨by decide, by decide⟩ rfl (fun _ m1 h => ?_)
  refine q_iconst (M := md_X11_critical) (pc := 4) dX11_critical_4 ?_
  refine e_ist_n (M := md_X11_critical) (pc := 5) (ls' := [q_A 81, q_I 0, q_N]) dX11_critical_5 (by decide) (q_pl rfl) rfl ?_
  refine q_iconst (M := md_X11_critical) (pc := 6) dX11_critical_6 ?_
  refine e_ist_n (M := md_X11_critical) (pc := 7) (ls' := [q_A 81, q_I 0, q_I 0]) dX11_critical_7 (by decide) (q_pl rfl) rfl ?_
  exact q_weak (w_Mod_critical_l8 hN q_F _ _ _  h) ⟨Or.inr rfl, Or.inr rfl, Or.inr rfl, trivial⟩
def f_Mod_near_b76 (k26 : Int → Int → Int → Int → Int → q_Mem → q_Res) (l1 l2 l3 l5 s0 s1 : Int) (m : q_Mem) : q_Res :=
  k26 l1 l2 l3 (s0 + s1) (l5 + 1) m
set_option maxRecDepth 20000 in
theorem w_Mod_near_b76 {k26 : Int → Int → Int → Int → Int → q_Mem → q_Res} {l1 l2 l3 l5 s0 s1 : Int} {r : Int × q_Mem} {m : q_Mem} {N : Nat} (hN : 126 ≤ N) (hk26 : ∀ (l1 l2 l3 l4 l5 : Int) (m : q_Mem), k26 l1 l2 l3 l4 l5 m = some r → q_E md_X11_near 4 N (some 0) r m 26 [q_A 81, q_I l1, q_I l2, q_I l3, q_I l4, q_I l5] []) (h : f_Mod_near_b76 k26 l1 l2 l3 l5 s0 s1 m = some r) : q_E md_X11_near 4 N (some 0) r m 76 [q_A 81, q_I l1, q_I l2, q_I l3, q_N, q_I l5] [q_I s1, q_I s0] := by
  unfold f_Mod_near_b76 at h
  refine q_iadd (M := md_X11_near) (pc := 76) dX11_near_76 ?_
  refine e_ist (M := md_X11_near) (pc := 77) (ls' := [q_A 81, q_I l1, q_I l2, q_I l3, q_I (s0 + s1), q_I l5]) dX11_near_77 (by decide) (q_pl rfl) rfl ?_
  refine e_inc (M := md_X11_near) (pc := 79) (x := l5) (ls' := [q_A 81, q_I l1, q_I l2, q_I l3, q_I (s0 + s1), q_I (l5 + 1)]) dX11_near_79 rfl (by decide) (q_pl rfl) rfl ?_
  refine q_goto (M := md_X11_near) (pc := 82) (tgt := 26) dX11_near_82 (by decide) ?_
  exact q_weak (hk26 _ _ _ _ _ _  h) ⟨Or.inr rfl, Or.inr rfl, Or.inr rfl, Or.inr rfl, Or.inr rfl, Or.inr rfl, trivial⟩
def f_Mod_near_b68 (k26 : Int → Int → Int → Int → Int → q_Mem → q_Res) (l1 l2 l3 l5 s0 s1 : Int) (m : q_Mem) : q_Res :=
  if q_w s1 < 0 then (f_Mod_near_b76 k26 l1 l2 l3 l5 s0 0 m)
  else (f_Mod_near_b76 k26 l1 l2 l3 l5 s0 1 m)
set_option maxRecDepth 20000 in
theorem w_Mod_near_b68 {k26 : Int → Int → Int → Int → Int → q_Mem → q_Res} {l1 l2 l3 l5 s0 s1 : Int} {r : Int × q_Mem} {m : q_Mem} {N : Nat} (hN : 126 ≤ N) (hk26 : ∀ (l1 l2 l3 l4 l5 : Int) (m : q_Mem), k26 l1 l2 l3 l4 l5 m = some r → q_E md_X11_near 4 N (some 0) r m 26 [q_A 81, q_I l1, q_I l2, q_I l3, q_I l4, q_I l5] []) (h : f_Mod_near_b68 k26 l1 l2 l3 l5 s0 s1 m = some r) : q_E md_X11_near 4 N (some 0) r m 68 [q_A 81, q_I l1, q_I l2, q_I l3, q_N, q_I l5] [q_I s1, q_I s0] := by
  unfold f_Mod_near_b68 at h
  refine e_if_lt (M := md_X11_near) (pc := 68) (tgt := 75) h rfl dX11_near_68 (by decide) (fun h => ?_) (fun h => ?_)
  · refine q_iconst (M := md_X11_near) (pc := 75) dX11_near_75 ?_
    exact q_weak (w_Mod_near_b76 hN hk26  h) ⟨Or.inr rfl, Or.inr rfl, Or.inr rfl, Or.inr rfl, Or.inl rfl, Or.inr rfl, trivial⟩
  · refine q_iconst (M := md_X11_near) (pc := 71) dX11_near_71 ?_
    refine q_goto (M := md_X11_near) (pc := 72) (tgt := 76) dX11_near_72 (by decide) ?_
    exact q_weak (w_Mod_near_b76 hN hk26  h) ⟨Or.inr rfl, Or.inr rfl, Or.inr rfl, Or.inr rfl, Or.inl rfl, Or.inr rfl, trivial⟩
def f_Mod_near_b26 (k26 : Int → Int → Int → Int → Int → q_Mem → q_Res) (l1 l2 l3 l4 l5 : Int) (m : q_Mem) : q_Res :=
  q_bd (f_Mod_offsetsNow m) fun v1 m2 =>
  if q_w v1 ≤ q_w l5 then (q_rt l4 m2)
  else (if q_w l3 = 0 then (q_bd (f_Mod_readBy ((10 * l1) + l2) l5 m2) fun v5 m6 =>
  f_Mod_near_b68 k26 l1 l2 l3 l5 l4 v5 m6)
  else (q_bd (f_Mod_readerBy ((10 * l1) + l2) l5 m2) fun v3 m4 =>
  f_Mod_near_b68 k26 l1 l2 l3 l5 l4 v3 m4))
set_option maxRecDepth 20000 in
theorem w_Mod_near_b26 {k26 : Int → Int → Int → Int → Int → q_Mem → q_Res} {l1 l2 l3 l4 l5 : Int} {r : Int × q_Mem} {m : q_Mem} {N : Nat} (hN : 126 ≤ N) (hk26 : ∀ (l1 l2 l3 l4 l5 : Int) (m : q_Mem), k26 l1 l2 l3 l4 l5 m = some r → q_E md_X11_near 4 N (some 0) r m 26 [q_A 81, q_I l1, q_I l2, q_I l3, q_I l4, q_I l5] []) (h : f_Mod_near_b26 k26 l1 l2 l3 l4 l5 m = some r) : q_E md_X11_near 4 N (some 0) r m 26 [q_A 81, q_I l1, q_I l2, q_I l3, q_I l4, q_I l5] [] := by
  unfold f_Mod_near_b26 at h
  refine q_iload (M := md_X11_near) (pc := 26) dX11_near_26 rfl ?_
  refine q_aload_n (M := md_X11_near) (pc := 28) dX11_near_28 rfl (by decide) ?_
  refine e_callVi (M := md_X11_near) (pc := 29) (d' := 1) (av := []) (c := 81) h ml_11_339 im_X11_offsetsNow se_X11_offsetsNow dX11_near_29 (fun v he => ok_X11_offsetsNow hN  he) rfl (is_81 hN) ⟨_, _, rfl⟩ (by decide) (Nat.le_of_ble_eq_true rfl) ⟨by decide, by decide⟩ rfl (fun v1 m2 h => ?_)
  refine e_icmp_ge (M := md_X11_near) (pc := 32) (tgt := 85) h rfl rfl dX11_near_32 (by decide) (fun h => ?_) (fun h => ?_)
  · refine q_iload (M := md_X11_near) (pc := 85) dX11_near_85 rfl ?_
    exact e_iret (M := md_X11_near) (pc := 87) h rfl dX11_near_87
  · refine q_iload (M := md_X11_near) (pc := 35) dX11_near_35 rfl ?_
    refine q_iload_n (M := md_X11_near) (pc := 37) dX11_near_37 rfl ?_
    refine e_if_ne (M := md_X11_near) (pc := 38) (tgt := 56) h rfl dX11_near_38 (by decide) (fun h => ?_) (fun h => ?_)
    · refine q_aload_n (M := md_X11_near) (pc := 56) dX11_near_56 rfl (by decide) ?_
      refine q_bipush (M := md_X11_near) (pc := 57) (x := 10) dX11_near_57 (by decide) ?_
      refine q_iload_n (M := md_X11_near) (pc := 59) dX11_near_59 rfl ?_
      refine q_imul (M := md_X11_near) (pc := 60) dX11_near_60 ?_
      refine q_iload_n (M := md_X11_near) (pc := 61) dX11_near_61 rfl ?_
      refine q_iadd (M := md_X11_near) (pc := 62) dX11_near_62 ?_
      refine q_iload (M := md_X11_near) (pc := 63) dX11_near_63 rfl ?_
      refine e_callVi (M := md_X11_near) (pc := 65) (d' := 3) (av := [q_I ((10 * l1) + l2), q_I l5]) (c := 81) h ml_11_354 im_X11_readerBy se_X11_readerBy dX11_near_65 (fun v he => ok_X11_readerBy hN  he) rfl (is_81 hN) ⟨_, _, rfl⟩ (by decide) (Nat.le_of_ble_eq_true rfl) ⟨by decide, by decide⟩ rfl (fun v3 m4 h => ?_)
      exact q_weak (w_Mod_near_b68 hN hk26  h) ⟨Or.inr rfl, Or.inr rfl, Or.inr rfl, Or.inr rfl, Or.inl rfl, Or.inr rfl, trivial⟩
    · refine q_aload_n (M := md_X11_near) (pc := 41) dX11_near_41 rfl (by decide) ?_
      refine q_bipush (M := md_X11_near) (pc := 42) (x := 10) dX11_near_42 (by decide) ?_
      refine q_iload_n (M := md_X11_near) (pc := 44) dX11_near_44 rfl ?_
      refine q_imul (M := md_X11_near) (pc := 45) dX11_near_45 ?_
      refine q_iload_n (M := md_X11_near) (pc := 46) dX11_near_46 rfl ?_
      refine q_iadd (M := md_X11_near) (pc := 47) dX11_near_47 ?_
      refine q_iload (M := md_X11_near) (pc := 48) dX11_near_48 rfl ?_
      refine e_callVi (M := md_X11_near) (pc := 50) (d' := 3) (av := [q_I ((10 * l1) + l2), q_I l5]) (c := 81) h ml_11_342 im_X11_readBy se_X11_readBy dX11_near_50 (fun v he => ok_X11_readBy hN  he) rfl (is_81 hN) ⟨_, _, rfl⟩ (by decide) (Nat.le_of_ble_eq_true rfl) ⟨by decide, by decide⟩ rfl (fun v5 m6 h => ?_)
      refine q_goto (M := md_X11_near) (pc := 53) (tgt := 68) dX11_near_53 (by decide) ?_
      exact q_weak (w_Mod_near_b68 hN hk26  h) ⟨Or.inr rfl, Or.inr rfl, Or.inr rfl, Or.inr rfl, Or.inl rfl, Or.inr rfl, trivial⟩
def f_Mod_near_l26 : Nat → Int → Int → Int → Int → Int → q_Mem → q_Res
  | 0 => fun _ _ _ _ _ _ => none
  | n + 1 => fun l1 l2 l3 l4 l5 m => f_Mod_near_b26 (f_Mod_near_l26 n) l1 l2 l3 l4 l5 m
theorem w_Mod_near_l26 {r : Int × q_Mem} {N : Nat} (hN : 126 ≤ N) : ∀ (n : Nat) (l1 l2 l3 l4 l5 : Int) (m : q_Mem), f_Mod_near_l26 n l1 l2 l3 l4 l5 m = some r → q_E md_X11_near 4 N (some 0) r m 26 [q_A 81, q_I l1, q_I l2, q_I l3, q_I l4, q_I l5] [] := by
  intro n
  induction n with
  | zero => intro l1 l2 l3 l4 l5 m h; exact q_no h
  | succ n ih =>
    intro l1 l2 l3 l4 l5 m h
    exact w_Mod_near_b26 hN (fun l1 l2 l3 l4 l5 m h => ih l1 l2 l3 l4 l5 m h) h
def f_Mod_near (l1 l2 l3 : Int) (m : q_Mem) : q_Res :=
  q_bd (f_Mod_isPoint l1 l2 m) fun v1 m2 =>
  if q_w v1 = 0 then (q_rt (-1) m2)
  else (q_bd (f_Mod_isIn l3 0 1 m2) fun v3 m4 =>
  if q_w v3 = 0 then (q_rt (-1) m4)
  else (f_Mod_near_l26 q_F l1 l2 l3 0 0 m4))
set_option maxRecDepth 20000 in
theorem ok_X11_near {l1 l2 l3 : Int} {r : Int × q_Mem} {m : q_Mem} {N : Nat} (hN : 126 ≤ N) (h : f_Mod_near l1 l2 l3 m = some r) : q_C md_X11_near (q_room 4) 0 0 [q_A 81, q_I l1, q_I l2, q_I l3] (q_g N) m (some (q_I r.1), q_g N, r.2) := by
  refine q_ofR (by decide) 2 (ls := [q_A 81, q_I l1, q_I l2, q_I l3, q_N, q_N]) rfl (Nat.le_of_ble_eq_true rfl) ?_
  change q_E md_X11_near 4 N (some 0) r m 0 [q_A 81, q_I l1, q_I l2, q_I l3, q_N, q_N] []
  unfold f_Mod_near at h
  refine q_aload_n (M := md_X11_near) (pc := 0) dX11_near_0 rfl (by decide) ?_
  refine q_iload_n (M := md_X11_near) (pc := 1) dX11_near_1 rfl ?_
  refine q_iload_n (M := md_X11_near) (pc := 2) dX11_near_2 rfl ?_
  refine e_callVi (M := md_X11_near) (pc := 3) (d' := 2) (av := [q_I l1, q_I l2]) (c := 81) h ml_11_324 im_X11_isPoint se_X11_isPoint dX11_near_3 (fun v he => ok_X11_isPoint hN  he) rfl (is_81 hN) ⟨_, _, rfl⟩ (by decide) (Nat.le_of_ble_eq_true rfl) ⟨by decide, by decide⟩ rfl (fun v1 m2 h => ?_)
  refine e_if_eq (M := md_X11_near) (pc := 6) (tgt := 18) h rfl dX11_near_6 (by decide) (fun h => ?_) (fun h => ?_)
  · refine q_iconst (M := md_X11_near) (pc := 18) dX11_near_18 ?_
    exact e_iret (M := md_X11_near) (pc := 19) h rfl dX11_near_19
  · refine q_iload_n (M := md_X11_near) (pc := 9) dX11_near_9 rfl ?_
    refine q_iconst (M := md_X11_near) (pc := 10) dX11_near_10 ?_
    refine q_iconst (M := md_X11_near) (pc := 11) dX11_near_11 ?_
    refine e_callSi (M := md_X11_near) (pc := 12) (d' := 1) (M' := md_X11_isIn) (av := [q_I l3, q_I 0, q_I 1]) h ml_11_221 sm_X11_isIn dX11_near_12 (fun v he => ok_X11_isIn hN  he) rfl (Nat.le_of_ble_eq_true rfl) ⟨by decide, by decide⟩ rfl (fun v3 m4 h => ?_)
    refine e_if_ne (M := md_X11_near) (pc := 15) (tgt := 20) h rfl dX11_near_15 (by decide) (fun h => ?_) (fun h => ?_)
    · refine q_iconst (M := md_X11_near) (pc := 20) dX11_near_20 ?_
      refine e_ist (M := md_X11_near) (pc := 21) (ls' := [q_A 81, q_I l1, q_I l2, q_I l3, q_I 0, q_N]) dX11_near_21 (by decide) (q_pl rfl) rfl ?_
      refine q_iconst (M := md_X11_near) (pc := 23) dX11_near_23 ?_
      refine e_ist (M := md_X11_near) (pc := 24) (ls' := [q_A 81, q_I l1, q_I l2, q_I l3, q_I 0, q_I 0]) dX11_near_24 (by decide) (q_pl rfl) rfl ?_
      exact q_weak (w_Mod_near_l26 hN q_F _ _ _ _ _ _  h) ⟨Or.inr rfl, Or.inr rfl, Or.inr rfl, Or.inr rfl, Or.inr rfl, Or.inr rfl, trivial⟩
    · refine q_iconst (M := md_X11_near) (pc := 18) dX11_near_18 ?_
      exact e_iret (M := md_X11_near) (pc := 19) h rfl dX11_near_19
def f_Mod_meetReaders_b60 (k5 : Int → Int → Int → q_Mem → q_Res) (l1 l3 l4 : Int) (m : q_Mem) : q_Res :=
  k5 l1 l3 (l4 + 1) m
set_option maxRecDepth 20000 in
theorem w_Mod_meetReaders_b60 {k5 : Int → Int → Int → q_Mem → q_Res} {l1 l3 l4 : Int} {r : Int × q_Mem} {m : q_Mem} {N : Nat} (hN : 126 ≤ N) (hk5 : ∀ (l1 l3 l4 : Int) (m : q_Mem), k5 l1 l3 l4 m = some r → q_E md_X11_meetReaders 4 N (some 0) r m 5 [q_A 81, q_I l1, q_N, q_I l3, q_I l4, q_N] []) (h : f_Mod_meetReaders_b60 k5 l1 l3 l4 m = some r) : q_E md_X11_meetReaders 4 N (some 0) r m 60 [q_A 81, q_I l1, q_N, q_I l3, q_I l4, q_N] [] := by
  unfold f_Mod_meetReaders_b60 at h
  refine e_inc (M := md_X11_meetReaders) (pc := 60) (x := l4) (ls' := [q_A 81, q_I l1, q_N, q_I l3, q_I (l4 + 1), q_N]) dX11_meetReaders_60 rfl (by decide) (q_pl rfl) rfl ?_
  refine q_goto (M := md_X11_meetReaders) (pc := 63) (tgt := 5) dX11_meetReaders_63 (by decide) ?_
  exact q_weak (hk5 _ _ _ _  h) ⟨Or.inr rfl, Or.inr rfl, Or.inl rfl, Or.inr rfl, Or.inr rfl, Or.inl rfl, trivial⟩
def f_Mod_meetReaders_b5 (k5 : Int → Int → Int → q_Mem → q_Res) (l1 l3 l4 : Int) (m : q_Mem) : q_Res :=
  q_bd (f_Mod_offsetsNow m) fun v1 m2 =>
  if q_w v1 ≤ q_w l4 then (q_rt l3 m2)
  else (q_bd (f_Mod_readerBy l1 l4 m2) fun v3 m4 =>
  if q_w v3 < 0 then (f_Mod_meetReaders_b60 k5 l1 l3 l4 m4)
  else (q_rd m4 108 100 v3 fun v5 =>
  if q_w v5 = 0 then (q_wrz m4 108 100 v3 1 fun m6 =>
  q_wr m6 109 100 l3 v3 fun m7 =>
  f_Mod_meetReaders_b60 k5 l1 (l3 + 1) l4 m7)
  else (f_Mod_meetReaders_b60 k5 l1 l3 l4 m4)))
set_option maxRecDepth 20000 in
theorem w_Mod_meetReaders_b5 {k5 : Int → Int → Int → q_Mem → q_Res} {l1 l3 l4 : Int} {r : Int × q_Mem} {m : q_Mem} {N : Nat} (hN : 126 ≤ N) (hk5 : ∀ (l1 l3 l4 : Int) (m : q_Mem), k5 l1 l3 l4 m = some r → q_E md_X11_meetReaders 4 N (some 0) r m 5 [q_A 81, q_I l1, q_N, q_I l3, q_I l4, q_N] []) (h : f_Mod_meetReaders_b5 k5 l1 l3 l4 m = some r) : q_E md_X11_meetReaders 4 N (some 0) r m 5 [q_A 81, q_I l1, q_N, q_I l3, q_I l4, q_N] [] := by
  unfold f_Mod_meetReaders_b5 at h
  refine q_iload (M := md_X11_meetReaders) (pc := 5) dX11_meetReaders_5 rfl ?_
  refine q_aload_n (M := md_X11_meetReaders) (pc := 7) dX11_meetReaders_7 rfl (by decide) ?_
  refine e_callVi (M := md_X11_meetReaders) (pc := 8) (d' := 1) (av := []) (c := 81) h ml_11_339 im_X11_offsetsNow se_X11_offsetsNow dX11_meetReaders_8 (fun v he => ok_X11_offsetsNow hN  he) rfl (is_81 hN) ⟨_, _, rfl⟩ (by decide) (Nat.le_of_ble_eq_true rfl) ⟨by decide, by decide⟩ rfl (fun v1 m2 h => ?_)
  refine e_icmp_ge (M := md_X11_meetReaders) (pc := 11) (tgt := 66) h rfl rfl dX11_meetReaders_11 (by decide) (fun h => ?_) (fun h => ?_)
  · refine q_iload_n (M := md_X11_meetReaders) (pc := 66) dX11_meetReaders_66 rfl ?_
    exact e_iret (M := md_X11_meetReaders) (pc := 67) h rfl dX11_meetReaders_67
  · refine q_aload_n (M := md_X11_meetReaders) (pc := 14) dX11_meetReaders_14 rfl (by decide) ?_
    refine q_iload_n (M := md_X11_meetReaders) (pc := 15) dX11_meetReaders_15 rfl ?_
    refine q_iload (M := md_X11_meetReaders) (pc := 16) dX11_meetReaders_16 rfl ?_
    refine e_callVi (M := md_X11_meetReaders) (pc := 18) (d' := 3) (av := [q_I l1, q_I l4]) (c := 81) h ml_11_354 im_X11_readerBy se_X11_readerBy dX11_meetReaders_18 (fun v he => ok_X11_readerBy hN  he) rfl (is_81 hN) ⟨_, _, rfl⟩ (by decide) (Nat.le_of_ble_eq_true rfl) ⟨by decide, by decide⟩ rfl (fun v3 m4 h => ?_)
    refine e_ist (M := md_X11_meetReaders) (pc := 21) (ls' := [q_A 81, q_I l1, q_N, q_I l3, q_I l4, q_I v3]) dX11_meetReaders_21 (by decide) (q_pl rfl) rfl ?_
    refine q_iload (M := md_X11_meetReaders) (pc := 23) dX11_meetReaders_23 rfl ?_
    refine e_if_lt (M := md_X11_meetReaders) (pc := 25) (tgt := 60) h rfl dX11_meetReaders_25 (by decide) (fun h => ?_) (fun h => ?_)
    · exact q_weak (w_Mod_meetReaders_b60 hN hk5  h) ⟨Or.inr rfl, Or.inr rfl, Or.inl rfl, Or.inr rfl, Or.inr rfl, Or.inl rfl, trivial⟩
    · refine q_aload_n (M := md_X11_meetReaders) (pc := 28) dX11_meetReaders_28 rfl (by decide) ?_
      refine q_getP (M := md_X11_meetReaders) (pc := 29) (v := 108) fl_11_93 dX11_meetReaders_29 (is_81 hN) rfl ?_
      refine q_iload (M := md_X11_meetReaders) (pc := 32) dX11_meetReaders_32 rfl ?_
      refine e_rdz (M := md_X11_meetReaders) (pc := 34) h dX11_meetReaders_34 (ar_108 hN) (fun v5 h => ?_)
      refine e_if_eq (M := md_X11_meetReaders) (pc := 35) (tgt := 41) h rfl dX11_meetReaders_35 (by decide) (fun h => ?_) (fun h => ?_)
      · refine q_aload_n (M := md_X11_meetReaders) (pc := 41) dX11_meetReaders_41 rfl (by decide) ?_
        refine q_getP (M := md_X11_meetReaders) (pc := 42) (v := 108) fl_11_93 dX11_meetReaders_42 (is_81 hN) rfl ?_
        refine q_iload (M := md_X11_meetReaders) (pc := 45) dX11_meetReaders_45 rfl ?_
        refine q_iconst (M := md_X11_meetReaders) (pc := 47) dX11_meetReaders_47 ?_
        refine e_wrz (M := md_X11_meetReaders) (pc := 48) h dX11_meetReaders_48 (ar_108 hN) (fun m6 h => ?_)
        refine q_aload_n (M := md_X11_meetReaders) (pc := 49) dX11_meetReaders_49 rfl (by decide) ?_
        refine q_getP (M := md_X11_meetReaders) (pc := 50) (v := 109) fl_11_97 dX11_meetReaders_50 (is_81 hN) rfl ?_
        refine q_iload_n (M := md_X11_meetReaders) (pc := 53) dX11_meetReaders_53 rfl ?_
        refine q_iload (M := md_X11_meetReaders) (pc := 54) dX11_meetReaders_54 rfl ?_
        refine e_wr (M := md_X11_meetReaders) (pc := 56) h dX11_meetReaders_56 (ar_109 hN) (fun m7 h => ?_)
        refine e_inc (M := md_X11_meetReaders) (pc := 57) (x := l3) (ls' := [q_A 81, q_I l1, q_N, q_I (l3 + 1), q_I l4, q_I v3]) dX11_meetReaders_57 rfl (by decide) (q_pl rfl) rfl ?_
        exact q_weak (w_Mod_meetReaders_b60 hN hk5  h) ⟨Or.inr rfl, Or.inr rfl, Or.inl rfl, Or.inr rfl, Or.inr rfl, Or.inl rfl, trivial⟩
      · refine q_goto (M := md_X11_meetReaders) (pc := 38) (tgt := 60) dX11_meetReaders_38 (by decide) ?_
        exact q_weak (w_Mod_meetReaders_b60 hN hk5  h) ⟨Or.inr rfl, Or.inr rfl, Or.inl rfl, Or.inr rfl, Or.inr rfl, Or.inl rfl, trivial⟩
def f_Mod_meetReaders_l5 : Nat → Int → Int → Int → q_Mem → q_Res
  | 0 => fun _ _ _ _ => none
  | n + 1 => fun l1 l3 l4 m => f_Mod_meetReaders_b5 (f_Mod_meetReaders_l5 n) l1 l3 l4 m
theorem w_Mod_meetReaders_l5 {r : Int × q_Mem} {N : Nat} (hN : 126 ≤ N) : ∀ (n : Nat) (l1 l3 l4 : Int) (m : q_Mem), f_Mod_meetReaders_l5 n l1 l3 l4 m = some r → q_E md_X11_meetReaders 4 N (some 0) r m 5 [q_A 81, q_I l1, q_N, q_I l3, q_I l4, q_N] [] := by
  intro n
  induction n with
  | zero => intro l1 l3 l4 m h; exact q_no h
  | succ n ih =>
    intro l1 l3 l4 m h
    exact w_Mod_meetReaders_b5 hN (fun l1 l3 l4 m h => ih l1 l3 l4 m h) h
def f_Mod_meetReaders (l1 l2 : Int) (m : q_Mem) : q_Res :=
  f_Mod_meetReaders_l5 q_F l1 l2 0 m
set_option maxRecDepth 20000 in
theorem ok_X11_meetReaders {l1 l2 : Int} {r : Int × q_Mem} {m : q_Mem} {N : Nat} (hN : 126 ≤ N) (h : f_Mod_meetReaders l1 l2 m = some r) : q_C md_X11_meetReaders (q_room 4) 0 0 [q_A 81, q_I l1, q_I l2] (q_g N) m (some (q_I r.1), q_g N, r.2) := by
  refine q_ofR (by decide) 3 (ls := [q_A 81, q_I l1, q_I l2, q_N, q_N, q_N]) rfl (Nat.le_of_ble_eq_true rfl) ?_
  change q_E md_X11_meetReaders 4 N (some 0) r m 0 [q_A 81, q_I l1, q_I l2, q_N, q_N, q_N] []
  unfold f_Mod_meetReaders at h
  refine q_iload_n (M := md_X11_meetReaders) (pc := 0) dX11_meetReaders_0 rfl ?_
  refine e_ist_n (M := md_X11_meetReaders) (pc := 1) (ls' := [q_A 81, q_I l1, q_I l2, q_I l2, q_N, q_N]) dX11_meetReaders_1 (by decide) (q_pl rfl) rfl ?_
  refine q_iconst (M := md_X11_meetReaders) (pc := 2) dX11_meetReaders_2 ?_
  refine e_ist (M := md_X11_meetReaders) (pc := 3) (ls' := [q_A 81, q_I l1, q_I l2, q_I l2, q_I 0, q_N]) dX11_meetReaders_3 (by decide) (q_pl rfl) rfl ?_
  exact q_weak (w_Mod_meetReaders_l5 hN q_F _ _ _ _  h) ⟨Or.inr rfl, Or.inr rfl, Or.inl rfl, Or.inr rfl, Or.inr rfl, Or.inl rfl, trivial⟩
def f_Mod_hangs_b47 (k47 : Int → Int → q_Mem → q_Res) (l3 l4 : Int) (m : q_Mem) : q_Res :=
  if q_w l3 ≤ q_w l4 then (q_rt l3 m)
  else (q_rd m 109 100 l4 fun v1 =>
  q_bd (f_Mod_meetReaders v1 l3 m) fun v2 m3 =>
  k47 v2 (l4 + 1) m3)
set_option maxRecDepth 20000 in
theorem w_Mod_hangs_b47 {k47 : Int → Int → q_Mem → q_Res} {l3 l4 : Int} {r : Int × q_Mem} {m : q_Mem} {N : Nat} (hN : 126 ≤ N) (hk47 : ∀ (l3 l4 : Int) (m : q_Mem), k47 l3 l4 m = some r → q_E md_X11_hangs 5 N (some 0) r m 47 [q_A 81, q_N, q_N, q_I l3, q_I l4] []) (h : f_Mod_hangs_b47 k47 l3 l4 m = some r) : q_E md_X11_hangs 5 N (some 0) r m 47 [q_A 81, q_N, q_N, q_I l3, q_I l4] [] := by
  unfold f_Mod_hangs_b47 at h
  refine q_iload (M := md_X11_hangs) (pc := 47) dX11_hangs_47 rfl ?_
  refine q_iload_n (M := md_X11_hangs) (pc := 49) dX11_hangs_49 rfl ?_
  refine e_icmp_ge (M := md_X11_hangs) (pc := 50) (tgt := 72) h rfl rfl dX11_hangs_50 (by decide) (fun h => ?_) (fun h => ?_)
  · refine q_iload_n (M := md_X11_hangs) (pc := 72) dX11_hangs_72 rfl ?_
    exact e_iret (M := md_X11_hangs) (pc := 73) h rfl dX11_hangs_73
  · refine q_aload_n (M := md_X11_hangs) (pc := 53) dX11_hangs_53 rfl (by decide) ?_
    refine q_aload_n (M := md_X11_hangs) (pc := 54) dX11_hangs_54 rfl (by decide) ?_
    refine q_getP (M := md_X11_hangs) (pc := 55) (v := 109) fl_11_97 dX11_hangs_55 (is_81 hN) rfl ?_
    refine q_iload (M := md_X11_hangs) (pc := 58) dX11_hangs_58 rfl ?_
    refine e_rd (M := md_X11_hangs) (pc := 60) h dX11_hangs_60 (ar_109 hN) (fun v1 h => ?_)
    refine q_iload_n (M := md_X11_hangs) (pc := 61) dX11_hangs_61 rfl ?_
    refine e_callVi (M := md_X11_hangs) (pc := 62) (d' := 4) (av := [q_I v1, q_I l3]) (c := 81) h ml_11_363 im_X11_meetReaders se_X11_meetReaders dX11_hangs_62 (fun v he => ok_X11_meetReaders hN  he) rfl (is_81 hN) ⟨_, _, rfl⟩ (by decide) (Nat.le_of_ble_eq_true rfl) ⟨by decide, by decide⟩ rfl (fun v2 m3 h => ?_)
    refine e_ist_n (M := md_X11_hangs) (pc := 65) (ls' := [q_A 81, q_N, q_N, q_I v2, q_I l4]) dX11_hangs_65 (by decide) (q_pl rfl) rfl ?_
    refine e_inc (M := md_X11_hangs) (pc := 66) (x := l4) (ls' := [q_A 81, q_N, q_N, q_I v2, q_I (l4 + 1)]) dX11_hangs_66 rfl (by decide) (q_pl rfl) rfl ?_
    refine q_goto (M := md_X11_hangs) (pc := 69) (tgt := 47) dX11_hangs_69 (by decide) ?_
    exact q_weak (hk47 _ _ _  h) ⟨Or.inr rfl, Or.inl rfl, Or.inl rfl, Or.inr rfl, Or.inr rfl, trivial⟩
def f_Mod_hangs_l47 : Nat → Int → Int → q_Mem → q_Res
  | 0 => fun _ _ _ => none
  | n + 1 => fun l3 l4 m => f_Mod_hangs_b47 (f_Mod_hangs_l47 n) l3 l4 m
theorem w_Mod_hangs_l47 {r : Int × q_Mem} {N : Nat} (hN : 126 ≤ N) : ∀ (n : Nat) (l3 l4 : Int) (m : q_Mem), f_Mod_hangs_l47 n l3 l4 m = some r → q_E md_X11_hangs 5 N (some 0) r m 47 [q_A 81, q_N, q_N, q_I l3, q_I l4] [] := by
  intro n
  induction n with
  | zero => intro l3 l4 m h; exact q_no h
  | succ n ih =>
    intro l3 l4 m h
    exact w_Mod_hangs_b47 hN (fun l3 l4 m h => ih l3 l4 m h) h
def f_Mod_hangs_b13 (k13 : Int → Int → Int → q_Mem → q_Res) (l1 l2 l3 : Int) (m : q_Mem) : q_Res :=
  if 100 ≤ q_w l3 then (q_bd (f_Mod_meetReaders ((10 * l1) + l2) 0 m) fun v1 m2 =>
  f_Mod_hangs_l47 q_F v1 0 m2)
  else (q_wrz m 108 100 l3 0 fun m3 =>
  k13 l1 l2 (l3 + 1) m3)
set_option maxRecDepth 20000 in
theorem w_Mod_hangs_b13 {k13 : Int → Int → Int → q_Mem → q_Res} {l1 l2 l3 : Int} {r : Int × q_Mem} {m : q_Mem} {N : Nat} (hN : 126 ≤ N) (hk13 : ∀ (l1 l2 l3 : Int) (m : q_Mem), k13 l1 l2 l3 m = some r → q_E md_X11_hangs 5 N (some 0) r m 13 [q_A 81, q_I l1, q_I l2, q_I l3, q_N] []) (h : f_Mod_hangs_b13 k13 l1 l2 l3 m = some r) : q_E md_X11_hangs 5 N (some 0) r m 13 [q_A 81, q_I l1, q_I l2, q_I l3, q_N] [] := by
  unfold f_Mod_hangs_b13 at h
  refine q_iload_n (M := md_X11_hangs) (pc := 13) dX11_hangs_13 rfl ?_
  refine q_bipush (M := md_X11_hangs) (pc := 14) (x := 100) dX11_hangs_14 (by decide) ?_
  refine e_icmp_ge (M := md_X11_hangs) (pc := 16) (tgt := 32) h rfl (q_wlit rfl) dX11_hangs_16 (by decide) (fun h => ?_) (fun h => ?_)
  · refine q_aload_n (M := md_X11_hangs) (pc := 32) dX11_hangs_32 rfl (by decide) ?_
    refine q_bipush (M := md_X11_hangs) (pc := 33) (x := 10) dX11_hangs_33 (by decide) ?_
    refine q_iload_n (M := md_X11_hangs) (pc := 35) dX11_hangs_35 rfl ?_
    refine q_imul (M := md_X11_hangs) (pc := 36) dX11_hangs_36 ?_
    refine q_iload_n (M := md_X11_hangs) (pc := 37) dX11_hangs_37 rfl ?_
    refine q_iadd (M := md_X11_hangs) (pc := 38) dX11_hangs_38 ?_
    refine q_iconst (M := md_X11_hangs) (pc := 39) dX11_hangs_39 ?_
    refine e_callVi (M := md_X11_hangs) (pc := 40) (d' := 4) (av := [q_I ((10 * l1) + l2), q_I 0]) (c := 81) h ml_11_363 im_X11_meetReaders se_X11_meetReaders dX11_hangs_40 (fun v he => ok_X11_meetReaders hN  he) rfl (is_81 hN) ⟨_, _, rfl⟩ (by decide) (Nat.le_of_ble_eq_true rfl) ⟨by decide, by decide⟩ rfl (fun v1 m2 h => ?_)
    refine e_ist_n (M := md_X11_hangs) (pc := 43) (ls' := [q_A 81, q_I l1, q_I l2, q_I v1, q_N]) dX11_hangs_43 (by decide) (q_pl rfl) rfl ?_
    refine q_iconst (M := md_X11_hangs) (pc := 44) dX11_hangs_44 ?_
    refine e_ist (M := md_X11_hangs) (pc := 45) (ls' := [q_A 81, q_I l1, q_I l2, q_I v1, q_I 0]) dX11_hangs_45 (by decide) (q_pl rfl) rfl ?_
    exact q_weak (w_Mod_hangs_l47 hN q_F _ _ _  h) ⟨Or.inr rfl, Or.inl rfl, Or.inl rfl, Or.inr rfl, Or.inr rfl, trivial⟩
  · refine q_aload_n (M := md_X11_hangs) (pc := 19) dX11_hangs_19 rfl (by decide) ?_
    refine q_getP (M := md_X11_hangs) (pc := 20) (v := 108) fl_11_93 dX11_hangs_20 (is_81 hN) rfl ?_
    refine q_iload_n (M := md_X11_hangs) (pc := 23) dX11_hangs_23 rfl ?_
    refine q_iconst (M := md_X11_hangs) (pc := 24) dX11_hangs_24 ?_
    refine e_wrz (M := md_X11_hangs) (pc := 25) h dX11_hangs_25 (ar_108 hN) (fun m3 h => ?_)
    refine e_inc (M := md_X11_hangs) (pc := 26) (x := l3) (ls' := [q_A 81, q_I l1, q_I l2, q_I (l3 + 1), q_N]) dX11_hangs_26 rfl (by decide) (q_pl rfl) rfl ?_
    refine q_goto (M := md_X11_hangs) (pc := 29) (tgt := 13) dX11_hangs_29 (by decide) ?_
    exact q_weak (hk13 _ _ _ _  h) ⟨Or.inr rfl, Or.inr rfl, Or.inr rfl, Or.inr rfl, Or.inl rfl, trivial⟩
def f_Mod_hangs_l13 : Nat → Int → Int → Int → q_Mem → q_Res
  | 0 => fun _ _ _ _ => none
  | n + 1 => fun l1 l2 l3 m => f_Mod_hangs_b13 (f_Mod_hangs_l13 n) l1 l2 l3 m
theorem w_Mod_hangs_l13 {r : Int × q_Mem} {N : Nat} (hN : 126 ≤ N) : ∀ (n : Nat) (l1 l2 l3 : Int) (m : q_Mem), f_Mod_hangs_l13 n l1 l2 l3 m = some r → q_E md_X11_hangs 5 N (some 0) r m 13 [q_A 81, q_I l1, q_I l2, q_I l3, q_N] [] := by
  intro n
  induction n with
  | zero => intro l1 l2 l3 m h; exact q_no h
  | succ n ih =>
    intro l1 l2 l3 m h
    exact w_Mod_hangs_b13 hN (fun l1 l2 l3 m h => ih l1 l2 l3 m h) h
def f_Mod_hangs (l1 l2 : Int) (m : q_Mem) : q_Res :=
  q_bd (f_Mod_isPoint l1 l2 m) fun v1 m2 =>
  if q_w v1 = 0 then (q_rt (-1) m2)
  else (f_Mod_hangs_l13 q_F l1 l2 0 m2)
set_option maxRecDepth 20000 in
theorem ok_X11_hangs {l1 l2 : Int} {r : Int × q_Mem} {m : q_Mem} {N : Nat} (hN : 126 ≤ N) (h : f_Mod_hangs l1 l2 m = some r) : q_C md_X11_hangs (q_room 5) 0 0 [q_A 81, q_I l1, q_I l2] (q_g N) m (some (q_I r.1), q_g N, r.2) := by
  refine q_ofR (by decide) 2 (ls := [q_A 81, q_I l1, q_I l2, q_N, q_N]) rfl (Nat.le_of_ble_eq_true rfl) ?_
  change q_E md_X11_hangs 5 N (some 0) r m 0 [q_A 81, q_I l1, q_I l2, q_N, q_N] []
  unfold f_Mod_hangs at h
  refine q_aload_n (M := md_X11_hangs) (pc := 0) dX11_hangs_0 rfl (by decide) ?_
  refine q_iload_n (M := md_X11_hangs) (pc := 1) dX11_hangs_1 rfl ?_
  refine q_iload_n (M := md_X11_hangs) (pc := 2) dX11_hangs_2 rfl ?_
  refine e_callVi (M := md_X11_hangs) (pc := 3) (d' := 2) (av := [q_I l1, q_I l2]) (c := 81) h ml_11_324 im_X11_isPoint se_X11_isPoint dX11_hangs_3 (fun v he => ok_X11_isPoint hN  he) rfl (is_81 hN) ⟨_, _, rfl⟩ (by decide) (Nat.le_of_ble_eq_true rfl) ⟨by decide, by decide⟩ rfl (fun v1 m2 h => ?_)
  refine e_if_ne (M := md_X11_hangs) (pc := 6) (tgt := 11) h rfl dX11_hangs_6 (by decide) (fun h => ?_) (fun h => ?_)
  · refine q_iconst (M := md_X11_hangs) (pc := 11) dX11_hangs_11 ?_
    refine e_ist_n (M := md_X11_hangs) (pc := 12) (ls' := [q_A 81, q_I l1, q_I l2, q_I 0, q_N]) dX11_hangs_12 (by decide) (q_pl rfl) rfl ?_
    exact q_weak (w_Mod_hangs_l13 hN q_F _ _ _ _  h) ⟨Or.inr rfl, Or.inr rfl, Or.inr rfl, Or.inr rfl, Or.inl rfl, trivial⟩
  · refine q_iconst (M := md_X11_hangs) (pc := 9) dX11_hangs_9 ?_
    exact e_iret (M := md_X11_hangs) (pc := 10) h rfl dX11_hangs_10
def f_Mod_made (l0 l1 l2 : Int) (m : q_Mem) : q_Res :=
  if q_w l0 = 1200 then (q_bd (f_Mod_less l1 l2 m) fun v2 m3 =>
  q_rt v2 m3)
  else if q_w l0 = 1201 then (q_bd (f_Mod_more l1 l2 m) fun v5 m6 =>
  q_rt v5 m6)
  else if q_w l0 = 1202 then (q_rt (l1 + l2) m)
  else if q_w l0 = 1203 then (q_rt (l1 - l2) m)
  else (q_rt (l1 * l2) m)
set_option maxRecDepth 20000 in
theorem ok_X11_made {l0 l1 l2 : Int} {r : Int × q_Mem} {m : q_Mem} {N : Nat} (hN : 126 ≤ N) (h : f_Mod_made l0 l1 l2 m = some r) : q_C md_X11_made (q_room 2) 0 0 [q_I l0, q_I l1, q_I l2] (q_g N) m (some (q_I r.1), q_g N, r.2) := by
  refine q_ofR (by decide) 0 (ls := [q_I l0, q_I l1, q_I l2]) rfl (Nat.le_of_ble_eq_true rfl) ?_
  change q_E md_X11_made 2 N (some 0) r m 0 [q_I l0, q_I l1, q_I l2] []
  unfold f_Mod_made at h
  refine q_iload_n (M := md_X11_made) (pc := 0) dX11_made_0 rfl ?_
  by_cases c1 : q_w l0 = 1200
  · rw [if_pos c1] at h
    refine q_tabIn (M := md_X11_made) (pc := 1) (tgt := 32) dX11_made_1 (by rw [c1] <;> decide) (by rw [c1] <;> decide) (by rw [c1] <;> rfl) (by decide) ?_
    refine q_iload_n (M := md_X11_made) (pc := 32) dX11_made_32 rfl ?_
    refine q_iload_n (M := md_X11_made) (pc := 33) dX11_made_33 rfl ?_
    refine e_callSi (M := md_X11_made) (pc := 34) (d' := 1) (M' := md_X11_less) (av := [q_I l1, q_I l2]) h ml_11_366 sm_X11_less dX11_made_34 (fun v he => ok_X11_less hN  he) rfl (Nat.le_of_ble_eq_true rfl) ⟨by decide, by decide⟩ rfl (fun v2 m3 h => ?_)
    exact e_iret (M := md_X11_made) (pc := 37) h rfl dX11_made_37
  rw [if_neg c1] at h
  by_cases c4 : q_w l0 = 1201
  · rw [if_pos c4] at h
    refine q_tabIn (M := md_X11_made) (pc := 1) (tgt := 38) dX11_made_1 (by rw [c4] <;> decide) (by rw [c4] <;> decide) (by rw [c4] <;> rfl) (by decide) ?_
    refine q_iload_n (M := md_X11_made) (pc := 38) dX11_made_38 rfl ?_
    refine q_iload_n (M := md_X11_made) (pc := 39) dX11_made_39 rfl ?_
    refine e_callSi (M := md_X11_made) (pc := 40) (d' := 1) (M' := md_X11_more) (av := [q_I l1, q_I l2]) h ml_11_345 sm_X11_more dX11_made_40 (fun v he => ok_X11_more hN  he) rfl (Nat.le_of_ble_eq_true rfl) ⟨by decide, by decide⟩ rfl (fun v5 m6 h => ?_)
    exact e_iret (M := md_X11_made) (pc := 43) h rfl dX11_made_43
  rw [if_neg c4] at h
  by_cases c7 : q_w l0 = 1202
  · rw [if_pos c7] at h
    refine q_tabIn (M := md_X11_made) (pc := 1) (tgt := 44) dX11_made_1 (by rw [c7] <;> decide) (by rw [c7] <;> decide) (by rw [c7] <;> rfl) (by decide) ?_
    refine q_iload_n (M := md_X11_made) (pc := 44) dX11_made_44 rfl ?_
    refine q_iload_n (M := md_X11_made) (pc := 45) dX11_made_45 rfl ?_
    refine q_iadd (M := md_X11_made) (pc := 46) dX11_made_46 ?_
    exact e_iret (M := md_X11_made) (pc := 47) h rfl dX11_made_47
  rw [if_neg c7] at h
  by_cases c8 : q_w l0 = 1203
  · rw [if_pos c8] at h
    refine q_tabIn (M := md_X11_made) (pc := 1) (tgt := 48) dX11_made_1 (by rw [c8] <;> decide) (by rw [c8] <;> decide) (by rw [c8] <;> rfl) (by decide) ?_
    refine q_iload_n (M := md_X11_made) (pc := 48) dX11_made_48 rfl ?_
    refine q_iload_n (M := md_X11_made) (pc := 49) dX11_made_49 rfl ?_
    refine q_isub (M := md_X11_made) (pc := 50) dX11_made_50 ?_
    exact e_iret (M := md_X11_made) (pc := 51) h rfl dX11_made_51
  rw [if_neg c8] at h
  refine q_tabOut (M := md_X11_made) (pc := 1) (tgt := 52) dX11_made_1 (by omega) (by decide) ?_
  refine q_iload_n (M := md_X11_made) (pc := 52) dX11_made_52 rfl ?_
  refine q_iload_n (M := md_X11_made) (pc := 53) dX11_made_53 rfl ?_
  refine q_imul (M := md_X11_made) (pc := 54) dX11_made_54 ?_
  exact e_iret (M := md_X11_made) (pc := 55) h rfl dX11_made_55
def f_Mod_edgeFrom (l1 : Int) (m : q_Mem) : q_Res :=
  q_rd m 98 6 ((3 * (m 81 19)) + l1) fun v1 =>
  q_rt v1 m
set_option maxRecDepth 20000 in
theorem ok_X11_edgeFrom {l1 : Int} {r : Int × q_Mem} {m : q_Mem} {N : Nat} (hN : 126 ≤ N) (h : f_Mod_edgeFrom l1 m = some r) : q_C md_X11_edgeFrom (q_room 1) 0 0 [q_A 81, q_I l1] (q_g N) m (some (q_I r.1), q_g N, r.2) := by
  refine q_ofR (by decide) 0 (ls := [q_A 81, q_I l1]) rfl (Nat.le_of_ble_eq_true rfl) ?_
  change q_E md_X11_edgeFrom 1 N (some 0) r m 0 [q_A 81, q_I l1] []
  unfold f_Mod_edgeFrom at h
  refine q_aload_n (M := md_X11_edgeFrom) (pc := 0) dX11_edgeFrom_0 rfl (by decide) ?_
  refine q_getP (M := md_X11_edgeFrom) (pc := 1) (v := 98) fl_11_58 dX11_edgeFrom_1 (is_81 hN) rfl ?_
  refine q_iconst (M := md_X11_edgeFrom) (pc := 4) dX11_edgeFrom_4 ?_
  refine q_aload_n (M := md_X11_edgeFrom) (pc := 5) dX11_edgeFrom_5 rfl (by decide) ?_
  refine e_gI (M := md_X11_edgeFrom) (pc := 6) (v := m 81 19) fl_11_306 dX11_edgeFrom_6 (is_81 hN) rfl ?_
  refine q_imul (M := md_X11_edgeFrom) (pc := 9) dX11_edgeFrom_9 ?_
  refine q_iload_n (M := md_X11_edgeFrom) (pc := 10) dX11_edgeFrom_10 rfl ?_
  refine q_iadd (M := md_X11_edgeFrom) (pc := 11) dX11_edgeFrom_11 ?_
  refine e_rd (M := md_X11_edgeFrom) (pc := 12) h dX11_edgeFrom_12 (ar_98 hN) (fun v1 h => ?_)
  exact e_iret (M := md_X11_edgeFrom) (pc := 13) h rfl dX11_edgeFrom_13
def f_Mod_stepOver_b103 (l6 s0 s1 s2 : Int) (m : q_Mem) : q_Res :=
  q_wr m s0 100 s1 s2 fun m1 =>
  q_rt (l6 + 1) m1
set_option maxRecDepth 20000 in
theorem w_Mod_stepOver_b103 {l6 s0 s1 s2 : Int} {r : Int × q_Mem} {m : q_Mem} {N : Nat} (hN : 126 ≤ N) (hs0 : s0 ∈ ([113, 114] : List Int)) (h : f_Mod_stepOver_b103 l6 s0 s1 s2 m = some r) : q_E md_X11_stepOver 3 N (some 0) r m 103 [q_N, q_N, q_N, q_N, q_N, q_N, q_I l6] [q_I s2, q_I s1, q_A s0] := by
  unfold f_Mod_stepOver_b103 at h
  refine e_wr (M := md_X11_stepOver) (pc := 103) h dX11_stepOver_103 (ar_to hN hs0) (fun m1 h => ?_)
  refine q_iload (M := md_X11_stepOver) (pc := 104) dX11_stepOver_104 rfl ?_
  refine q_iconst (M := md_X11_stepOver) (pc := 106) dX11_stepOver_106 ?_
  refine q_iadd (M := md_X11_stepOver) (pc := 107) dX11_stepOver_107 ?_
  exact e_iret (M := md_X11_stepOver) (pc := 108) h rfl dX11_stepOver_108
def f_Mod_stepOver (l0 l1 l2 l3 l4 l5 : Int) (m : q_Mem) : q_Res :=
  if q_w l0 = 1205 then (q_rd m l5 100 (l1 - 1) fun v6 =>
  q_wr m l5 100 (l1 - 1) (-v6) fun m7 =>
  q_rt l1 m7)
  else (if q_w l0 < 1200 then (if q_w l0 = 1000 then (f_Mod_stepOver_b103 l1 l5 l1 l2 m)
  else (if q_w l0 = 1001 then (f_Mod_stepOver_b103 l1 l5 l1 l3 m)
  else (if q_w l0 < 1100 then (f_Mod_stepOver_b103 l1 l5 l1 l0 m)
  else (f_Mod_stepOver_b103 l1 l5 l1 l4 m))))
  else (q_rd m l5 100 ((l1 + (-1)) - 1) fun v1 =>
  q_rd m l5 100 (l1 + (-1)) fun v2 =>
  q_bd (f_Mod_made l0 v1 v2 m) fun v3 m4 =>
  q_wr m4 l5 100 ((l1 + (-1)) - 1) v3 fun m5 =>
  q_rt (l1 + (-1)) m5))
set_option maxRecDepth 20000 in
theorem ok_X11_stepOver {l0 l1 l2 l3 l4 l5 : Int} {r : Int × q_Mem} {m : q_Mem} {N : Nat} (hN : 126 ≤ N) (hl5 : l5 ∈ ([113, 114] : List Int)) (h : f_Mod_stepOver l0 l1 l2 l3 l4 l5 m = some r) : q_C md_X11_stepOver (q_room 3) 0 0 [q_I l0, q_I l1, q_I l2, q_I l3, q_I l4, q_A l5] (q_g N) m (some (q_I r.1), q_g N, r.2) := by
  refine q_ofR (by decide) 1 (ls := [q_I l0, q_I l1, q_I l2, q_I l3, q_I l4, q_A l5, q_N]) rfl (Nat.le_of_ble_eq_true rfl) ?_
  change q_E md_X11_stepOver 3 N (some 0) r m 0 [q_I l0, q_I l1, q_I l2, q_I l3, q_I l4, q_A l5, q_N] []
  unfold f_Mod_stepOver at h
  refine q_iload_n (M := md_X11_stepOver) (pc := 0) dX11_stepOver_0 rfl ?_
  refine e_ist (M := md_X11_stepOver) (pc := 1) (ls' := [q_I l0, q_I l1, q_I l2, q_I l3, q_I l4, q_A l5, q_I l1]) dX11_stepOver_1 (by decide) (q_pl rfl) rfl ?_
  refine q_iload_n (M := md_X11_stepOver) (pc := 3) dX11_stepOver_3 rfl ?_
  refine q_sipush (M := md_X11_stepOver) (pc := 4) (x := 1205) dX11_stepOver_4 (by decide) ?_
  refine e_icmp_ne (M := md_X11_stepOver) (pc := 7) (tgt := 28) h rfl (q_wlit rfl) dX11_stepOver_7 (by decide) (fun h => ?_) (fun h => ?_)
  · refine q_iload_n (M := md_X11_stepOver) (pc := 28) dX11_stepOver_28 rfl ?_
    refine q_sipush (M := md_X11_stepOver) (pc := 29) (x := 1200) dX11_stepOver_29 (by decide) ?_
    refine e_icmp_lt (M := md_X11_stepOver) (pc := 32) (tgt := 64) h rfl (q_wlit rfl) dX11_stepOver_32 (by decide) (fun h => ?_) (fun h => ?_)
    · refine q_aload (M := md_X11_stepOver) (pc := 64) dX11_stepOver_64 rfl (ar_to hN hl5).1 ?_
      refine q_iload (M := md_X11_stepOver) (pc := 66) dX11_stepOver_66 rfl ?_
      refine q_iload_n (M := md_X11_stepOver) (pc := 68) dX11_stepOver_68 rfl ?_
      refine q_sipush (M := md_X11_stepOver) (pc := 69) (x := 1000) dX11_stepOver_69 (by decide) ?_
      refine e_icmp_ne (M := md_X11_stepOver) (pc := 72) (tgt := 79) h rfl (q_wlit rfl) dX11_stepOver_72 (by decide) (fun h => ?_) (fun h => ?_)
      · refine q_iload_n (M := md_X11_stepOver) (pc := 79) dX11_stepOver_79 rfl ?_
        refine q_sipush (M := md_X11_stepOver) (pc := 80) (x := 1001) dX11_stepOver_80 (by decide) ?_
        refine e_icmp_ne (M := md_X11_stepOver) (pc := 83) (tgt := 90) h rfl (q_wlit rfl) dX11_stepOver_83 (by decide) (fun h => ?_) (fun h => ?_)
        · refine q_iload_n (M := md_X11_stepOver) (pc := 90) dX11_stepOver_90 rfl ?_
          refine q_sipush (M := md_X11_stepOver) (pc := 91) (x := 1100) dX11_stepOver_91 (by decide) ?_
          refine e_icmp_lt (M := md_X11_stepOver) (pc := 94) (tgt := 102) h rfl (q_wlit rfl) dX11_stepOver_94 (by decide) (fun h => ?_) (fun h => ?_)
          · refine q_iload_n (M := md_X11_stepOver) (pc := 102) dX11_stepOver_102 rfl ?_
            exact q_weak (w_Mod_stepOver_b103 hN hl5 h) ⟨Or.inl rfl, Or.inl rfl, Or.inl rfl, Or.inl rfl, Or.inl rfl, Or.inl rfl, Or.inr rfl, trivial⟩
          · refine q_iload (M := md_X11_stepOver) (pc := 97) dX11_stepOver_97 rfl ?_
            refine q_goto (M := md_X11_stepOver) (pc := 99) (tgt := 103) dX11_stepOver_99 (by decide) ?_
            exact q_weak (w_Mod_stepOver_b103 hN hl5 h) ⟨Or.inl rfl, Or.inl rfl, Or.inl rfl, Or.inl rfl, Or.inl rfl, Or.inl rfl, Or.inr rfl, trivial⟩
        · refine q_iload_n (M := md_X11_stepOver) (pc := 86) dX11_stepOver_86 rfl ?_
          refine q_goto (M := md_X11_stepOver) (pc := 87) (tgt := 103) dX11_stepOver_87 (by decide) ?_
          exact q_weak (w_Mod_stepOver_b103 hN hl5 h) ⟨Or.inl rfl, Or.inl rfl, Or.inl rfl, Or.inl rfl, Or.inl rfl, Or.inl rfl, Or.inr rfl, trivial⟩
      · refine q_iload_n (M := md_X11_stepOver) (pc := 75) dX11_stepOver_75 rfl ?_
        refine q_goto (M := md_X11_stepOver) (pc := 76) (tgt := 103) dX11_stepOver_76 (by decide) ?_
        exact q_weak (w_Mod_stepOver_b103 hN hl5 h) ⟨Or.inl rfl, Or.inl rfl, Or.inl rfl, Or.inl rfl, Or.inl rfl, Or.inl rfl, Or.inr rfl, trivial⟩
    · refine e_inc (M := md_X11_stepOver) (pc := 35) (x := l1) (ls' := [q_I l0, q_I l1, q_I l2, q_I l3, q_I l4, q_A l5, q_I (l1 + (-1))]) dX11_stepOver_35 rfl (by decide) (q_pl rfl) rfl ?_
      refine q_aload (M := md_X11_stepOver) (pc := 38) dX11_stepOver_38 rfl (ar_to hN hl5).1 ?_
      refine q_iload (M := md_X11_stepOver) (pc := 40) dX11_stepOver_40 rfl ?_
      refine q_iconst (M := md_X11_stepOver) (pc := 42) dX11_stepOver_42 ?_
      refine q_isub (M := md_X11_stepOver) (pc := 43) dX11_stepOver_43 ?_
      refine q_iload_n (M := md_X11_stepOver) (pc := 44) dX11_stepOver_44 rfl ?_
      refine q_aload (M := md_X11_stepOver) (pc := 45) dX11_stepOver_45 rfl (ar_to hN hl5).1 ?_
      refine q_iload (M := md_X11_stepOver) (pc := 47) dX11_stepOver_47 rfl ?_
      refine q_iconst (M := md_X11_stepOver) (pc := 49) dX11_stepOver_49 ?_
      refine q_isub (M := md_X11_stepOver) (pc := 50) dX11_stepOver_50 ?_
      refine e_rd (M := md_X11_stepOver) (pc := 51) h dX11_stepOver_51 (ar_to hN hl5) (fun v1 h => ?_)
      refine q_aload (M := md_X11_stepOver) (pc := 52) dX11_stepOver_52 rfl (ar_to hN hl5).1 ?_
      refine q_iload (M := md_X11_stepOver) (pc := 54) dX11_stepOver_54 rfl ?_
      refine e_rd (M := md_X11_stepOver) (pc := 56) h dX11_stepOver_56 (ar_to hN hl5) (fun v2 h => ?_)
      refine e_callSi (M := md_X11_stepOver) (pc := 57) (d' := 2) (M' := md_X11_made) (av := [q_I l0, q_I v1, q_I v2]) h ml_11_389 sm_X11_made dX11_stepOver_57 (fun v he => ok_X11_made hN  he) rfl (Nat.le_of_ble_eq_true rfl) ⟨by decide, by decide⟩ rfl (fun v3 m4 h => ?_)
      refine e_wr (M := md_X11_stepOver) (pc := 60) h dX11_stepOver_60 (ar_to hN hl5) (fun m5 h => ?_)
      refine q_iload (M := md_X11_stepOver) (pc := 61) dX11_stepOver_61 rfl ?_
      exact e_iret (M := md_X11_stepOver) (pc := 63) h rfl dX11_stepOver_63
  · refine q_aload (M := md_X11_stepOver) (pc := 10) dX11_stepOver_10 rfl (ar_to hN hl5).1 ?_
    refine q_iload (M := md_X11_stepOver) (pc := 12) dX11_stepOver_12 rfl ?_
    refine q_iconst (M := md_X11_stepOver) (pc := 14) dX11_stepOver_14 ?_
    refine q_isub (M := md_X11_stepOver) (pc := 15) dX11_stepOver_15 ?_
    refine q_aload (M := md_X11_stepOver) (pc := 16) dX11_stepOver_16 rfl (ar_to hN hl5).1 ?_
    refine q_iload (M := md_X11_stepOver) (pc := 18) dX11_stepOver_18 rfl ?_
    refine q_iconst (M := md_X11_stepOver) (pc := 20) dX11_stepOver_20 ?_
    refine q_isub (M := md_X11_stepOver) (pc := 21) dX11_stepOver_21 ?_
    refine e_rd (M := md_X11_stepOver) (pc := 22) h dX11_stepOver_22 (ar_to hN hl5) (fun v6 h => ?_)
    refine q_ineg (M := md_X11_stepOver) (pc := 23) dX11_stepOver_23 ?_
    refine e_wr (M := md_X11_stepOver) (pc := 24) h dX11_stepOver_24 (ar_to hN hl5) (fun m7 h => ?_)
    refine q_iload (M := md_X11_stepOver) (pc := 25) dX11_stepOver_25 rfl ?_
    exact e_iret (M := md_X11_stepOver) (pc := 27) h rfl dX11_stepOver_27
def f_Mod_formula_b6 (k6 : Int → Int → Int → Int → Int → q_Mem → q_Res) (l2 l3 l4 l5 l6 : Int) (m : q_Mem) : q_Res :=
  if q_w l2 ≤ q_w l6 then (q_rd m 114 100 0 fun v1 =>
  q_rt v1 m)
  else (q_rd m 100 200 ((100 * (m 81 19)) + l6) fun v2 =>
  q_bd (f_Mod_stepOver v2 l5 l3 l4 0 114 m) fun v3 m4 =>
  k6 l2 l3 l4 v3 (l6 + 1) m4)
set_option maxRecDepth 20000 in
theorem w_Mod_formula_b6 {k6 : Int → Int → Int → Int → Int → q_Mem → q_Res} {l2 l3 l4 l5 l6 : Int} {r : Int × q_Mem} {m : q_Mem} {N : Nat} (hN : 126 ≤ N) (hk6 : ∀ (l2 l3 l4 l5 l6 : Int) (m : q_Mem), k6 l2 l3 l4 l5 l6 m = some r → q_E md_X11_formula 4 N (some 0) r m 6 [q_A 81, q_N, q_I l2, q_I l3, q_I l4, q_I l5, q_I l6] []) (h : f_Mod_formula_b6 k6 l2 l3 l4 l5 l6 m = some r) : q_E md_X11_formula 4 N (some 0) r m 6 [q_A 81, q_N, q_I l2, q_I l3, q_I l4, q_I l5, q_I l6] [] := by
  unfold f_Mod_formula_b6 at h
  refine q_iload (M := md_X11_formula) (pc := 6) dX11_formula_6 rfl ?_
  refine q_iload_n (M := md_X11_formula) (pc := 8) dX11_formula_8 rfl ?_
  refine e_icmp_ge (M := md_X11_formula) (pc := 9) (tgt := 48) h rfl rfl dX11_formula_9 (by decide) (fun h => ?_) (fun h => ?_)
  · refine q_aload_n (M := md_X11_formula) (pc := 48) dX11_formula_48 rfl (by decide) ?_
    refine q_getP (M := md_X11_formula) (pc := 49) (v := 114) fl_11_112 dX11_formula_49 (is_81 hN) rfl ?_
    refine q_iconst (M := md_X11_formula) (pc := 52) dX11_formula_52 ?_
    refine e_rd (M := md_X11_formula) (pc := 53) h dX11_formula_53 (ar_114 hN) (fun v1 h => ?_)
    exact e_iret (M := md_X11_formula) (pc := 54) h rfl dX11_formula_54
  · refine q_aload_n (M := md_X11_formula) (pc := 12) dX11_formula_12 rfl (by decide) ?_
    refine q_getP (M := md_X11_formula) (pc := 13) (v := 100) fl_11_64 dX11_formula_13 (is_81 hN) rfl ?_
    refine q_bipush (M := md_X11_formula) (pc := 16) (x := 100) dX11_formula_16 (by decide) ?_
    refine q_aload_n (M := md_X11_formula) (pc := 18) dX11_formula_18 rfl (by decide) ?_
    refine e_gI (M := md_X11_formula) (pc := 19) (v := m 81 19) fl_11_306 dX11_formula_19 (is_81 hN) rfl ?_
    refine q_imul (M := md_X11_formula) (pc := 22) dX11_formula_22 ?_
    refine q_iload (M := md_X11_formula) (pc := 23) dX11_formula_23 rfl ?_
    refine q_iadd (M := md_X11_formula) (pc := 25) dX11_formula_25 ?_
    refine e_rd (M := md_X11_formula) (pc := 26) h dX11_formula_26 (ar_100 hN) (fun v2 h => ?_)
    refine q_iload (M := md_X11_formula) (pc := 27) dX11_formula_27 rfl ?_
    refine q_iload_n (M := md_X11_formula) (pc := 29) dX11_formula_29 rfl ?_
    refine q_iload (M := md_X11_formula) (pc := 30) dX11_formula_30 rfl ?_
    refine q_iconst (M := md_X11_formula) (pc := 32) dX11_formula_32 ?_
    refine q_aload_n (M := md_X11_formula) (pc := 33) dX11_formula_33 rfl (by decide) ?_
    refine q_getP (M := md_X11_formula) (pc := 34) (v := 114) fl_11_112 dX11_formula_34 (is_81 hN) rfl ?_
    refine e_callSi (M := md_X11_formula) (pc := 37) (d' := 3) (M' := md_X11_stepOver) (av := [q_I v2, q_I l5, q_I l3, q_I l4, q_I 0, q_A 114]) h ml_11_379 sm_X11_stepOver dX11_formula_37 (fun v he => ok_X11_stepOver hN (by decide) he) rfl (Nat.le_of_ble_eq_true rfl) ⟨by decide, by decide⟩ rfl (fun v3 m4 h => ?_)
    refine e_ist (M := md_X11_formula) (pc := 40) (ls' := [q_A 81, q_N, q_I l2, q_I l3, q_I l4, q_I v3, q_I l6]) dX11_formula_40 (by decide) (q_pl rfl) rfl ?_
    refine e_inc (M := md_X11_formula) (pc := 42) (x := l6) (ls' := [q_A 81, q_N, q_I l2, q_I l3, q_I l4, q_I v3, q_I (l6 + 1)]) dX11_formula_42 rfl (by decide) (q_pl rfl) rfl ?_
    refine q_goto (M := md_X11_formula) (pc := 45) (tgt := 6) dX11_formula_45 (by decide) ?_
    exact q_weak (hk6 _ _ _ _ _ _  h) ⟨Or.inr rfl, Or.inl rfl, Or.inr rfl, Or.inr rfl, Or.inr rfl, Or.inr rfl, Or.inr rfl, trivial⟩
def f_Mod_formula_l6 : Nat → Int → Int → Int → Int → Int → q_Mem → q_Res
  | 0 => fun _ _ _ _ _ _ => none
  | n + 1 => fun l2 l3 l4 l5 l6 m => f_Mod_formula_b6 (f_Mod_formula_l6 n) l2 l3 l4 l5 l6 m
theorem w_Mod_formula_l6 {r : Int × q_Mem} {N : Nat} (hN : 126 ≤ N) : ∀ (n : Nat) (l2 l3 l4 l5 l6 : Int) (m : q_Mem), f_Mod_formula_l6 n l2 l3 l4 l5 l6 m = some r → q_E md_X11_formula 4 N (some 0) r m 6 [q_A 81, q_N, q_I l2, q_I l3, q_I l4, q_I l5, q_I l6] [] := by
  intro n
  induction n with
  | zero => intro l2 l3 l4 l5 l6 m h; exact q_no h
  | succ n ih =>
    intro l2 l3 l4 l5 l6 m h
    exact w_Mod_formula_b6 hN (fun l2 l3 l4 l5 l6 m h => ih l2 l3 l4 l5 l6 m h) h
def f_Mod_formula (l1 l2 l3 l4 : Int) (m : q_Mem) : q_Res :=
  f_Mod_formula_l6 q_F l2 l3 l4 0 l1 m
set_option maxRecDepth 20000 in
theorem ok_X11_formula {l1 l2 l3 l4 : Int} {r : Int × q_Mem} {m : q_Mem} {N : Nat} (hN : 126 ≤ N) (h : f_Mod_formula l1 l2 l3 l4 m = some r) : q_C md_X11_formula (q_room 4) 0 0 [q_A 81, q_I l1, q_I l2, q_I l3, q_I l4] (q_g N) m (some (q_I r.1), q_g N, r.2) := by
  refine q_ofR (by decide) 2 (ls := [q_A 81, q_I l1, q_I l2, q_I l3, q_I l4, q_N, q_N]) rfl (Nat.le_of_ble_eq_true rfl) ?_
  change q_E md_X11_formula 4 N (some 0) r m 0 [q_A 81, q_I l1, q_I l2, q_I l3, q_I l4, q_N, q_N] []
  unfold f_Mod_formula at h
  refine q_iconst (M := md_X11_formula) (pc := 0) dX11_formula_0 ?_
  refine e_ist (M := md_X11_formula) (pc := 1) (ls' := [q_A 81, q_I l1, q_I l2, q_I l3, q_I l4, q_I 0, q_N]) dX11_formula_1 (by decide) (q_pl rfl) rfl ?_
  refine q_iload_n (M := md_X11_formula) (pc := 3) dX11_formula_3 rfl ?_
  refine e_ist (M := md_X11_formula) (pc := 4) (ls' := [q_A 81, q_I l1, q_I l2, q_I l3, q_I l4, q_I 0, q_I l1]) dX11_formula_4 (by decide) (q_pl rfl) rfl ?_
  exact q_weak (w_Mod_formula_l6 hN q_F _ _ _ _ _ _  h) ⟨Or.inr rfl, Or.inl rfl, Or.inr rfl, Or.inr rfl, Or.inr rfl, Or.inr rfl, Or.inr rfl, trivial⟩
def f_Mod_tickOf (l1 : Int) (m : q_Mem) : q_Res :=
  q_rd m 116 100 l1 fun v1 =>
  q_rt v1 m
set_option maxRecDepth 20000 in
theorem ok_X11_tickOf {l1 : Int} {r : Int × q_Mem} {m : q_Mem} {N : Nat} (hN : 126 ≤ N) (h : f_Mod_tickOf l1 m = some r) : q_C md_X11_tickOf (q_room 1) 0 0 [q_A 81, q_I l1] (q_g N) m (some (q_I r.1), q_g N, r.2) := by
  refine q_ofR (by decide) 0 (ls := [q_A 81, q_I l1]) rfl (Nat.le_of_ble_eq_true rfl) ?_
  change q_E md_X11_tickOf 1 N (some 0) r m 0 [q_A 81, q_I l1] []
  unfold f_Mod_tickOf at h
  refine q_aload_n (M := md_X11_tickOf) (pc := 0) dX11_tickOf_0 rfl (by decide) ?_
  refine q_getP (M := md_X11_tickOf) (pc := 1) (v := 116) fl_11_118 dX11_tickOf_1 (is_81 hN) rfl ?_
  refine q_iload_n (M := md_X11_tickOf) (pc := 4) dX11_tickOf_4 rfl ?_
  refine e_rd (M := md_X11_tickOf) (pc := 5) h dX11_tickOf_5 (ar_116 hN) (fun v1 h => ?_)
  exact e_iret (M := md_X11_tickOf) (pc := 6) h rfl dX11_tickOf_6
def f_Mod_readAt_b177 (l5 l8 s0 : Int) (m : q_Mem) : q_Res :=
  if q_w s0 = 0 then (q_rt 0 m)
  else (q_rd m 111 300 ((100 * l5) + l8) fun v1 =>
  q_rt v1 m)
set_option maxRecDepth 20000 in
theorem w_Mod_readAt_b177 {l5 l8 s0 : Int} {r : Int × q_Mem} {m : q_Mem} {N : Nat} (hN : 126 ≤ N) (h : f_Mod_readAt_b177 l5 l8 s0 m = some r) : q_E md_X11_readAt 5 N (some 0) r m 177 [q_A 81, q_N, q_N, q_N, q_N, q_I l5, q_N, q_N, q_I l8, q_N] [q_I s0] := by
  unfold f_Mod_readAt_b177 at h
  refine e_ist (M := md_X11_readAt) (pc := 177) (ls' := [q_A 81, q_N, q_N, q_N, q_N, q_I l5, q_N, q_N, q_I l8, q_I s0]) dX11_readAt_177 (by decide) (q_pl rfl) rfl ?_
  refine q_iload (M := md_X11_readAt) (pc := 179) dX11_readAt_179 rfl ?_
  refine e_if_eq (M := md_X11_readAt) (pc := 181) (tgt := 200) h rfl dX11_readAt_181 (by decide) (fun h => ?_) (fun h => ?_)
  · refine q_iconst (M := md_X11_readAt) (pc := 200) dX11_readAt_200 ?_
    exact e_iret (M := md_X11_readAt) (pc := 201) h rfl dX11_readAt_201
  · refine q_aload_n (M := md_X11_readAt) (pc := 184) dX11_readAt_184 rfl (by decide) ?_
    refine q_getP (M := md_X11_readAt) (pc := 185) (v := 111) fl_11_103 dX11_readAt_185 (is_81 hN) rfl ?_
    refine q_bipush (M := md_X11_readAt) (pc := 188) (x := 100) dX11_readAt_188 (by decide) ?_
    refine q_iload (M := md_X11_readAt) (pc := 190) dX11_readAt_190 rfl ?_
    refine q_imul (M := md_X11_readAt) (pc := 192) dX11_readAt_192 ?_
    refine q_iload (M := md_X11_readAt) (pc := 193) dX11_readAt_193 rfl ?_
    refine q_iadd (M := md_X11_readAt) (pc := 195) dX11_readAt_195 ?_
    refine e_rd (M := md_X11_readAt) (pc := 196) h dX11_readAt_196 (ar_111 hN) (fun v1 h => ?_)
    refine q_goto (M := md_X11_readAt) (pc := 197) (tgt := 201) dX11_readAt_197 (by decide) ?_
    exact e_iret (M := md_X11_readAt) (pc := 201) h rfl dX11_readAt_201
def f_Mod_readAt_b172 (l5 l8 : Int) (m : q_Mem) : q_Res :=
  f_Mod_readAt_b177 l5 l8 1 m
set_option maxRecDepth 20000 in
theorem w_Mod_readAt_b172 {l5 l8 : Int} {r : Int × q_Mem} {m : q_Mem} {N : Nat} (hN : 126 ≤ N) (h : f_Mod_readAt_b172 l5 l8 m = some r) : q_E md_X11_readAt 5 N (some 0) r m 172 [q_A 81, q_N, q_N, q_N, q_N, q_I l5, q_N, q_N, q_I l8, q_N] [] := by
  unfold f_Mod_readAt_b172 at h
  refine q_iconst (M := md_X11_readAt) (pc := 172) dX11_readAt_172 ?_
  refine q_goto (M := md_X11_readAt) (pc := 173) (tgt := 177) dX11_readAt_173 (by decide) ?_
  exact q_weak (w_Mod_readAt_b177 hN  h) ⟨Or.inr rfl, Or.inl rfl, Or.inl rfl, Or.inl rfl, Or.inl rfl, Or.inr rfl, Or.inl rfl, Or.inl rfl, Or.inr rfl, Or.inl rfl, trivial⟩
def f_Mod_readAt_b153 (l2 l3 l5 l8 : Int) (m : q_Mem) : q_Res :=
  q_bd (f_Mod_tickOf l8 m) fun v1 m2 =>
  q_bd (f_Mod_tickOf ((10 * l2) + l3) m2) fun v3 m4 =>
  if q_w v3 ≤ q_w v1 then (f_Mod_readAt_b177 l5 l8 0 m4)
  else (f_Mod_readAt_b172 l5 l8 m4)
set_option maxRecDepth 20000 in
theorem w_Mod_readAt_b153 {l2 l3 l5 l8 : Int} {r : Int × q_Mem} {m : q_Mem} {N : Nat} (hN : 126 ≤ N) (h : f_Mod_readAt_b153 l2 l3 l5 l8 m = some r) : q_E md_X11_readAt 5 N (some 0) r m 153 [q_A 81, q_N, q_I l2, q_I l3, q_N, q_I l5, q_N, q_N, q_I l8, q_N] [] := by
  unfold f_Mod_readAt_b153 at h
  refine q_aload_n (M := md_X11_readAt) (pc := 153) dX11_readAt_153 rfl (by decide) ?_
  refine q_iload (M := md_X11_readAt) (pc := 154) dX11_readAt_154 rfl ?_
  refine e_callVi (M := md_X11_readAt) (pc := 156) (d' := 1) (av := [q_I l8]) (c := 81) h ml_11_376 im_X11_tickOf se_X11_tickOf dX11_readAt_156 (fun v he => ok_X11_tickOf hN  he) rfl (is_81 hN) ⟨_, _, rfl⟩ (by decide) (Nat.le_of_ble_eq_true rfl) ⟨by decide, by decide⟩ rfl (fun v1 m2 h => ?_)
  refine q_aload_n (M := md_X11_readAt) (pc := 159) dX11_readAt_159 rfl (by decide) ?_
  refine q_bipush (M := md_X11_readAt) (pc := 160) (x := 10) dX11_readAt_160 (by decide) ?_
  refine q_iload_n (M := md_X11_readAt) (pc := 162) dX11_readAt_162 rfl ?_
  refine q_imul (M := md_X11_readAt) (pc := 163) dX11_readAt_163 ?_
  refine q_iload_n (M := md_X11_readAt) (pc := 164) dX11_readAt_164 rfl ?_
  refine q_iadd (M := md_X11_readAt) (pc := 165) dX11_readAt_165 ?_
  refine e_callVi (M := md_X11_readAt) (pc := 166) (d' := 1) (av := [q_I ((10 * l2) + l3)]) (c := 81) h ml_11_376 im_X11_tickOf se_X11_tickOf dX11_readAt_166 (fun v he => ok_X11_tickOf hN  he) rfl (is_81 hN) ⟨_, _, rfl⟩ (by decide) (Nat.le_of_ble_eq_true rfl) ⟨by decide, by decide⟩ rfl (fun v3 m4 h => ?_)
  refine e_icmp_ge (M := md_X11_readAt) (pc := 169) (tgt := 176) h rfl rfl dX11_readAt_169 (by decide) (fun h => ?_) (fun h => ?_)
  · refine q_iconst (M := md_X11_readAt) (pc := 176) dX11_readAt_176 ?_
    exact q_weak (w_Mod_readAt_b177 hN  h) ⟨Or.inr rfl, Or.inl rfl, Or.inl rfl, Or.inl rfl, Or.inl rfl, Or.inr rfl, Or.inl rfl, Or.inl rfl, Or.inr rfl, Or.inl rfl, trivial⟩
  · exact q_weak (w_Mod_readAt_b172 hN  h) ⟨Or.inr rfl, Or.inl rfl, Or.inl rfl, Or.inl rfl, Or.inl rfl, Or.inr rfl, Or.inl rfl, Or.inl rfl, Or.inr rfl, Or.inl rfl, trivial⟩
def f_Mod_readAt (l1 l2 l3 l4 : Int) (m : q_Mem) : q_Res :=
  q_rd m 93 24 ((12 * (m 81 19)) + l1) fun v1 =>
  q_rd m 94 24 ((12 * (m 81 19)) + l1) fun v2 =>
  q_rd m 95 24 ((12 * (m 81 19)) + l1) fun v3 =>
  q_bd (f_Mod_isPoint (l2 + v2) (l3 + v3) m) fun v4 m5 =>
  if q_w v4 = 0 then (q_bd (f_Mod_edgeFrom v1 m5) fun v8 m9 =>
  q_rd m9 99 6 ((3 * (m9 81 19)) + v1) fun v10 =>
  q_bd (f_Mod_formula v8 v10 (l2 + v2) (l3 + v3) m9) fun v11 m12 =>
  q_rt v11 m12)
  else (if q_w l4 = 0 then (q_rd m5 110 300 ((100 * v1) + ((10 * (l2 + v2)) + (l3 + v3))) fun v7 =>
  q_rt v7 m5)
  else (if q_w l4 = 2 then (q_rd m5 112 300 ((100 * v1) + ((10 * (l2 + v2)) + (l3 + v3))) fun v6 =>
  q_rt v6 m5)
  else (if q_w (l2 + v2) = q_w l2 then (if q_w (l3 + v3) = q_w l3 then (f_Mod_readAt_b172 v1 ((10 * (l2 + v2)) + (l3 + v3)) m5)
  else (f_Mod_readAt_b153 l2 l3 v1 ((10 * (l2 + v2)) + (l3 + v3)) m5))
  else (f_Mod_readAt_b153 l2 l3 v1 ((10 * (l2 + v2)) + (l3 + v3)) m5))))
set_option maxRecDepth 20000 in
theorem ok_X11_readAt {l1 l2 l3 l4 : Int} {r : Int × q_Mem} {m : q_Mem} {N : Nat} (hN : 126 ≤ N) (h : f_Mod_readAt l1 l2 l3 l4 m = some r) : q_C md_X11_readAt (q_room 5) 0 0 [q_A 81, q_I l1, q_I l2, q_I l3, q_I l4] (q_g N) m (some (q_I r.1), q_g N, r.2) := by
  refine q_ofR (by decide) 5 (ls := [q_A 81, q_I l1, q_I l2, q_I l3, q_I l4, q_N, q_N, q_N, q_N, q_N]) rfl (Nat.le_of_ble_eq_true rfl) ?_
  change q_E md_X11_readAt 5 N (some 0) r m 0 [q_A 81, q_I l1, q_I l2, q_I l3, q_I l4, q_N, q_N, q_N, q_N, q_N] []
  unfold f_Mod_readAt at h
  refine q_aload_n (M := md_X11_readAt) (pc := 0) dX11_readAt_0 rfl (by decide) ?_
  refine q_getP (M := md_X11_readAt) (pc := 1) (v := 93) fl_11_43 dX11_readAt_1 (is_81 hN) rfl ?_
  refine q_bipush (M := md_X11_readAt) (pc := 4) (x := 12) dX11_readAt_4 (by decide) ?_
  refine q_aload_n (M := md_X11_readAt) (pc := 6) dX11_readAt_6 rfl (by decide) ?_
  refine e_gI (M := md_X11_readAt) (pc := 7) (v := m 81 19) fl_11_306 dX11_readAt_7 (is_81 hN) rfl ?_
  refine q_imul (M := md_X11_readAt) (pc := 10) dX11_readAt_10 ?_
  refine q_iload_n (M := md_X11_readAt) (pc := 11) dX11_readAt_11 rfl ?_
  refine q_iadd (M := md_X11_readAt) (pc := 12) dX11_readAt_12 ?_
  refine e_rd (M := md_X11_readAt) (pc := 13) h dX11_readAt_13 (ar_93 hN) (fun v1 h => ?_)
  refine e_ist (M := md_X11_readAt) (pc := 14) (ls' := [q_A 81, q_I l1, q_I l2, q_I l3, q_I l4, q_I v1, q_N, q_N, q_N, q_N]) dX11_readAt_14 (by decide) (q_pl rfl) rfl ?_
  refine q_iload_n (M := md_X11_readAt) (pc := 16) dX11_readAt_16 rfl ?_
  refine q_aload_n (M := md_X11_readAt) (pc := 17) dX11_readAt_17 rfl (by decide) ?_
  refine q_getP (M := md_X11_readAt) (pc := 18) (v := 94) fl_11_46 dX11_readAt_18 (is_81 hN) rfl ?_
  refine q_bipush (M := md_X11_readAt) (pc := 21) (x := 12) dX11_readAt_21 (by decide) ?_
  refine q_aload_n (M := md_X11_readAt) (pc := 23) dX11_readAt_23 rfl (by decide) ?_
  refine e_gI (M := md_X11_readAt) (pc := 24) (v := m 81 19) fl_11_306 dX11_readAt_24 (is_81 hN) rfl ?_
  refine q_imul (M := md_X11_readAt) (pc := 27) dX11_readAt_27 ?_
  refine q_iload_n (M := md_X11_readAt) (pc := 28) dX11_readAt_28 rfl ?_
  refine q_iadd (M := md_X11_readAt) (pc := 29) dX11_readAt_29 ?_
  refine e_rd (M := md_X11_readAt) (pc := 30) h dX11_readAt_30 (ar_94 hN) (fun v2 h => ?_)
  refine q_iadd (M := md_X11_readAt) (pc := 31) dX11_readAt_31 ?_
  refine e_ist (M := md_X11_readAt) (pc := 32) (ls' := [q_A 81, q_I l1, q_I l2, q_I l3, q_I l4, q_I v1, q_I (l2 + v2), q_N, q_N, q_N]) dX11_readAt_32 (by decide) (q_pl rfl) rfl ?_
  refine q_iload_n (M := md_X11_readAt) (pc := 34) dX11_readAt_34 rfl ?_
  refine q_aload_n (M := md_X11_readAt) (pc := 35) dX11_readAt_35 rfl (by decide) ?_
  refine q_getP (M := md_X11_readAt) (pc := 36) (v := 95) fl_11_49 dX11_readAt_36 (is_81 hN) rfl ?_
  refine q_bipush (M := md_X11_readAt) (pc := 39) (x := 12) dX11_readAt_39 (by decide) ?_
  refine q_aload_n (M := md_X11_readAt) (pc := 41) dX11_readAt_41 rfl (by decide) ?_
  refine e_gI (M := md_X11_readAt) (pc := 42) (v := m 81 19) fl_11_306 dX11_readAt_42 (is_81 hN) rfl ?_
  refine q_imul (M := md_X11_readAt) (pc := 45) dX11_readAt_45 ?_
  refine q_iload_n (M := md_X11_readAt) (pc := 46) dX11_readAt_46 rfl ?_
  refine q_iadd (M := md_X11_readAt) (pc := 47) dX11_readAt_47 ?_
  refine e_rd (M := md_X11_readAt) (pc := 48) h dX11_readAt_48 (ar_95 hN) (fun v3 h => ?_)
  refine q_iadd (M := md_X11_readAt) (pc := 49) dX11_readAt_49 ?_
  refine e_ist (M := md_X11_readAt) (pc := 50) (ls' := [q_A 81, q_I l1, q_I l2, q_I l3, q_I l4, q_I v1, q_I (l2 + v2), q_I (l3 + v3), q_N, q_N]) dX11_readAt_50 (by decide) (q_pl rfl) rfl ?_
  refine q_aload_n (M := md_X11_readAt) (pc := 52) dX11_readAt_52 rfl (by decide) ?_
  refine q_iload (M := md_X11_readAt) (pc := 53) dX11_readAt_53 rfl ?_
  refine q_iload (M := md_X11_readAt) (pc := 55) dX11_readAt_55 rfl ?_
  refine e_callVi (M := md_X11_readAt) (pc := 57) (d' := 2) (av := [q_I (l2 + v2), q_I (l3 + v3)]) (c := 81) h ml_11_324 im_X11_isPoint se_X11_isPoint dX11_readAt_57 (fun v he => ok_X11_isPoint hN  he) rfl (is_81 hN) ⟨_, _, rfl⟩ (by decide) (Nat.le_of_ble_eq_true rfl) ⟨by decide, by decide⟩ rfl (fun v4 m5 h => ?_)
  refine e_if_ne (M := md_X11_readAt) (pc := 60) (tgt := 92) h rfl dX11_readAt_60 (by decide) (fun h => ?_) (fun h => ?_)
  · refine q_bipush (M := md_X11_readAt) (pc := 92) (x := 10) dX11_readAt_92 (by decide) ?_
    refine q_iload (M := md_X11_readAt) (pc := 94) dX11_readAt_94 rfl ?_
    refine q_imul (M := md_X11_readAt) (pc := 96) dX11_readAt_96 ?_
    refine q_iload (M := md_X11_readAt) (pc := 97) dX11_readAt_97 rfl ?_
    refine q_iadd (M := md_X11_readAt) (pc := 99) dX11_readAt_99 ?_
    refine e_ist (M := md_X11_readAt) (pc := 100) (ls' := [q_A 81, q_I l1, q_I l2, q_I l3, q_I l4, q_I v1, q_I (l2 + v2), q_I (l3 + v3), q_I ((10 * (l2 + v2)) + (l3 + v3)), q_N]) dX11_readAt_100 (by decide) (q_pl rfl) rfl ?_
    refine q_iload (M := md_X11_readAt) (pc := 102) dX11_readAt_102 rfl ?_
    refine e_if_ne (M := md_X11_readAt) (pc := 104) (tgt := 121) h rfl dX11_readAt_104 (by decide) (fun h => ?_) (fun h => ?_)
    · refine q_iload (M := md_X11_readAt) (pc := 121) dX11_readAt_121 rfl ?_
      refine q_iconst (M := md_X11_readAt) (pc := 123) dX11_readAt_123 ?_
      refine e_icmp_ne (M := md_X11_readAt) (pc := 124) (tgt := 141) h rfl (q_wlit rfl) dX11_readAt_124 (by decide) (fun h => ?_) (fun h => ?_)
      · refine q_iload (M := md_X11_readAt) (pc := 141) dX11_readAt_141 rfl ?_
        refine q_iload_n (M := md_X11_readAt) (pc := 143) dX11_readAt_143 rfl ?_
        refine e_icmp_ne (M := md_X11_readAt) (pc := 144) (tgt := 153) h rfl rfl dX11_readAt_144 (by decide) (fun h => ?_) (fun h => ?_)
        · exact q_weak (w_Mod_readAt_b153 hN  h) ⟨Or.inr rfl, Or.inl rfl, Or.inr rfl, Or.inr rfl, Or.inl rfl, Or.inr rfl, Or.inl rfl, Or.inl rfl, Or.inr rfl, Or.inl rfl, trivial⟩
        · refine q_iload (M := md_X11_readAt) (pc := 147) dX11_readAt_147 rfl ?_
          refine q_iload_n (M := md_X11_readAt) (pc := 149) dX11_readAt_149 rfl ?_
          refine e_icmp_eq (M := md_X11_readAt) (pc := 150) (tgt := 172) h rfl rfl dX11_readAt_150 (by decide) (fun h => ?_) (fun h => ?_)
          · exact q_weak (w_Mod_readAt_b172 hN  h) ⟨Or.inr rfl, Or.inl rfl, Or.inl rfl, Or.inl rfl, Or.inl rfl, Or.inr rfl, Or.inl rfl, Or.inl rfl, Or.inr rfl, Or.inl rfl, trivial⟩
          · exact q_weak (w_Mod_readAt_b153 hN  h) ⟨Or.inr rfl, Or.inl rfl, Or.inr rfl, Or.inr rfl, Or.inl rfl, Or.inr rfl, Or.inl rfl, Or.inl rfl, Or.inr rfl, Or.inl rfl, trivial⟩
      · refine q_aload_n (M := md_X11_readAt) (pc := 127) dX11_readAt_127 rfl (by decide) ?_
        refine q_getP (M := md_X11_readAt) (pc := 128) (v := 112) fl_11_106 dX11_readAt_128 (is_81 hN) rfl ?_
        refine q_bipush (M := md_X11_readAt) (pc := 131) (x := 100) dX11_readAt_131 (by decide) ?_
        refine q_iload (M := md_X11_readAt) (pc := 133) dX11_readAt_133 rfl ?_
        refine q_imul (M := md_X11_readAt) (pc := 135) dX11_readAt_135 ?_
        refine q_iload (M := md_X11_readAt) (pc := 136) dX11_readAt_136 rfl ?_
        refine q_iadd (M := md_X11_readAt) (pc := 138) dX11_readAt_138 ?_
        refine e_rd (M := md_X11_readAt) (pc := 139) h dX11_readAt_139 (ar_112 hN) (fun v6 h => ?_)
        exact e_iret (M := md_X11_readAt) (pc := 140) h rfl dX11_readAt_140
    · refine q_aload_n (M := md_X11_readAt) (pc := 107) dX11_readAt_107 rfl (by decide) ?_
      refine q_getP (M := md_X11_readAt) (pc := 108) (v := 110) fl_11_100 dX11_readAt_108 (is_81 hN) rfl ?_
      refine q_bipush (M := md_X11_readAt) (pc := 111) (x := 100) dX11_readAt_111 (by decide) ?_
      refine q_iload (M := md_X11_readAt) (pc := 113) dX11_readAt_113 rfl ?_
      refine q_imul (M := md_X11_readAt) (pc := 115) dX11_readAt_115 ?_
      refine q_iload (M := md_X11_readAt) (pc := 116) dX11_readAt_116 rfl ?_
      refine q_iadd (M := md_X11_readAt) (pc := 118) dX11_readAt_118 ?_
      refine e_rd (M := md_X11_readAt) (pc := 119) h dX11_readAt_119 (ar_110 hN) (fun v7 h => ?_)
      exact e_iret (M := md_X11_readAt) (pc := 120) h rfl dX11_readAt_120
  · refine q_aload_n (M := md_X11_readAt) (pc := 63) dX11_readAt_63 rfl (by decide) ?_
    refine q_aload_n (M := md_X11_readAt) (pc := 64) dX11_readAt_64 rfl (by decide) ?_
    refine q_iload (M := md_X11_readAt) (pc := 65) dX11_readAt_65 rfl ?_
    refine e_callVi (M := md_X11_readAt) (pc := 67) (d' := 1) (av := [q_I v1]) (c := 81) h ml_11_369 im_X11_edgeFrom se_X11_edgeFrom dX11_readAt_67 (fun v he => ok_X11_edgeFrom hN  he) rfl (is_81 hN) ⟨_, _, rfl⟩ (by decide) (Nat.le_of_ble_eq_true rfl) ⟨by decide, by decide⟩ rfl (fun v8 m9 h => ?_)
    refine q_aload_n (M := md_X11_readAt) (pc := 70) dX11_readAt_70 rfl (by decide) ?_
    refine q_getP (M := md_X11_readAt) (pc := 71) (v := 99) fl_11_61 dX11_readAt_71 (is_81 hN) rfl ?_
    refine q_iconst (M := md_X11_readAt) (pc := 74) dX11_readAt_74 ?_
    refine q_aload_n (M := md_X11_readAt) (pc := 75) dX11_readAt_75 rfl (by decide) ?_
    refine e_gI (M := md_X11_readAt) (pc := 76) (v := m9 81 19) fl_11_306 dX11_readAt_76 (is_81 hN) rfl ?_
    refine q_imul (M := md_X11_readAt) (pc := 79) dX11_readAt_79 ?_
    refine q_iload (M := md_X11_readAt) (pc := 80) dX11_readAt_80 rfl ?_
    refine q_iadd (M := md_X11_readAt) (pc := 82) dX11_readAt_82 ?_
    refine e_rd (M := md_X11_readAt) (pc := 83) h dX11_readAt_83 (ar_99 hN) (fun v10 h => ?_)
    refine q_iload (M := md_X11_readAt) (pc := 84) dX11_readAt_84 rfl ?_
    refine q_iload (M := md_X11_readAt) (pc := 86) dX11_readAt_86 rfl ?_
    refine e_callVi (M := md_X11_readAt) (pc := 88) (d' := 4) (av := [q_I v8, q_I v10, q_I (l2 + v2), q_I (l3 + v3)]) (c := 81) h ml_11_372 im_X11_formula se_X11_formula dX11_readAt_88 (fun v he => ok_X11_formula hN  he) rfl (is_81 hN) ⟨_, _, rfl⟩ (by decide) (Nat.le_of_ble_eq_true rfl) ⟨by decide, by decide⟩ rfl (fun v11 m12 h => ?_)
    exact e_iret (M := md_X11_readAt) (pc := 91) h rfl dX11_readAt_91
def f_Mod_formulaFrom (l1 : Int) (m : q_Mem) : q_Res :=
  if q_w l1 = 0 then (q_rt 0 m)
  else (q_rd m 99 6 (((3 * (m 81 19)) + l1) - 1) fun v1 =>
  q_rt v1 m)
set_option maxRecDepth 20000 in
theorem ok_X11_formulaFrom {l1 : Int} {r : Int × q_Mem} {m : q_Mem} {N : Nat} (hN : 126 ≤ N) (h : f_Mod_formulaFrom l1 m = some r) : q_C md_X11_formulaFrom (q_room 1) 0 0 [q_A 81, q_I l1] (q_g N) m (some (q_I r.1), q_g N, r.2) := by
  refine q_ofR (by decide) 0 (ls := [q_A 81, q_I l1]) rfl (Nat.le_of_ble_eq_true rfl) ?_
  change q_E md_X11_formulaFrom 1 N (some 0) r m 0 [q_A 81, q_I l1] []
  unfold f_Mod_formulaFrom at h
  refine q_iload_n (M := md_X11_formulaFrom) (pc := 0) dX11_formulaFrom_0 rfl ?_
  refine e_if_ne (M := md_X11_formulaFrom) (pc := 1) (tgt := 8) h rfl dX11_formulaFrom_1 (by decide) (fun h => ?_) (fun h => ?_)
  · refine q_aload_n (M := md_X11_formulaFrom) (pc := 8) dX11_formulaFrom_8 rfl (by decide) ?_
    refine q_getP (M := md_X11_formulaFrom) (pc := 9) (v := 99) fl_11_61 dX11_formulaFrom_9 (is_81 hN) rfl ?_
    refine q_iconst (M := md_X11_formulaFrom) (pc := 12) dX11_formulaFrom_12 ?_
    refine q_aload_n (M := md_X11_formulaFrom) (pc := 13) dX11_formulaFrom_13 rfl (by decide) ?_
    refine e_gI (M := md_X11_formulaFrom) (pc := 14) (v := m 81 19) fl_11_306 dX11_formulaFrom_14 (is_81 hN) rfl ?_
    refine q_imul (M := md_X11_formulaFrom) (pc := 17) dX11_formulaFrom_17 ?_
    refine q_iload_n (M := md_X11_formulaFrom) (pc := 18) dX11_formulaFrom_18 rfl ?_
    refine q_iadd (M := md_X11_formulaFrom) (pc := 19) dX11_formulaFrom_19 ?_
    refine q_iconst (M := md_X11_formulaFrom) (pc := 20) dX11_formulaFrom_20 ?_
    refine q_isub (M := md_X11_formulaFrom) (pc := 21) dX11_formulaFrom_21 ?_
    refine e_rd (M := md_X11_formulaFrom) (pc := 22) h dX11_formulaFrom_22 (ar_99 hN) (fun v1 h => ?_)
    exact e_iret (M := md_X11_formulaFrom) (pc := 23) h rfl dX11_formulaFrom_23
  · refine q_iconst (M := md_X11_formulaFrom) (pc := 4) dX11_formulaFrom_4 ?_
    refine q_goto (M := md_X11_formulaFrom) (pc := 5) (tgt := 23) dX11_formulaFrom_5 (by decide) ?_
    exact e_iret (M := md_X11_formulaFrom) (pc := 23) h rfl dX11_formulaFrom_23
def f_Mod_withReads_b85 (k10 : Int → Int → Int → Int → Int → Int → q_Mem → q_Res) (l1 l2 l3 l4 l6 s0 s1 s2 s3 s4 : Int) (m : q_Mem) : q_Res :=
  q_bd (f_Mod_stepOver s0 s1 s2 s3 s4 113 m) fun v1 m2 =>
  k10 l1 l2 l3 l4 v1 (l6 + 1) m2
set_option maxRecDepth 20000 in
theorem w_Mod_withReads_b85 {k10 : Int → Int → Int → Int → Int → Int → q_Mem → q_Res} {l1 l2 l3 l4 l6 s0 s1 s2 s3 s4 : Int} {r : Int × q_Mem} {m : q_Mem} {N : Nat} (hN : 126 ≤ N) (hk10 : ∀ (l1 l2 l3 l4 l5 l6 : Int) (m : q_Mem), k10 l1 l2 l3 l4 l5 l6 m = some r → q_E md_X11_withReads 6 N (some 0) r m 10 [q_A 81, q_I l1, q_I l2, q_I l3, q_I l4, q_I l5, q_I l6, q_N] []) (h : f_Mod_withReads_b85 k10 l1 l2 l3 l4 l6 s0 s1 s2 s3 s4 m = some r) : q_E md_X11_withReads 6 N (some 0) r m 85 [q_A 81, q_I l1, q_I l2, q_I l3, q_I l4, q_N, q_I l6, q_N] [q_I s4, q_I s3, q_I s2, q_I s1, q_I s0] := by
  unfold f_Mod_withReads_b85 at h
  refine q_aload_n (M := md_X11_withReads) (pc := 85) dX11_withReads_85 rfl (by decide) ?_
  refine q_getP (M := md_X11_withReads) (pc := 86) (v := 113) fl_11_109 dX11_withReads_86 (is_81 hN) rfl ?_
  refine e_callSi (M := md_X11_withReads) (pc := 89) (d' := 3) (M' := md_X11_stepOver) (av := [q_I s0, q_I s1, q_I s2, q_I s3, q_I s4, q_A 113]) h ml_11_379 sm_X11_stepOver dX11_withReads_89 (fun v he => ok_X11_stepOver hN (by decide) he) rfl (Nat.le_of_ble_eq_true rfl) ⟨by decide, by decide⟩ rfl (fun v1 m2 h => ?_)
  refine e_ist (M := md_X11_withReads) (pc := 92) (ls' := [q_A 81, q_I l1, q_I l2, q_I l3, q_I l4, q_I v1, q_I l6, q_N]) dX11_withReads_92 (by decide) (q_pl rfl) rfl ?_
  refine e_inc (M := md_X11_withReads) (pc := 94) (x := l6) (ls' := [q_A 81, q_I l1, q_I l2, q_I l3, q_I l4, q_I v1, q_I (l6 + 1), q_N]) dX11_withReads_94 rfl (by decide) (q_pl rfl) rfl ?_
  refine q_goto (M := md_X11_withReads) (pc := 97) (tgt := 10) dX11_withReads_97 (by decide) ?_
  exact q_weak (hk10 _ _ _ _ _ _ _  h) ⟨Or.inr rfl, Or.inr rfl, Or.inr rfl, Or.inr rfl, Or.inr rfl, Or.inr rfl, Or.inr rfl, Or.inl rfl, trivial⟩
def f_Mod_withReads_b84 (k10 : Int → Int → Int → Int → Int → Int → q_Mem → q_Res) (l1 l2 l3 l4 l6 s0 s1 s2 s3 : Int) (m : q_Mem) : q_Res :=
  f_Mod_withReads_b85 k10 l1 l2 l3 l4 l6 s0 s1 s2 s3 0 m
set_option maxRecDepth 20000 in
theorem w_Mod_withReads_b84 {k10 : Int → Int → Int → Int → Int → Int → q_Mem → q_Res} {l1 l2 l3 l4 l6 s0 s1 s2 s3 : Int} {r : Int × q_Mem} {m : q_Mem} {N : Nat} (hN : 126 ≤ N) (hk10 : ∀ (l1 l2 l3 l4 l5 l6 : Int) (m : q_Mem), k10 l1 l2 l3 l4 l5 l6 m = some r → q_E md_X11_withReads 6 N (some 0) r m 10 [q_A 81, q_I l1, q_I l2, q_I l3, q_I l4, q_I l5, q_I l6, q_N] []) (h : f_Mod_withReads_b84 k10 l1 l2 l3 l4 l6 s0 s1 s2 s3 m = some r) : q_E md_X11_withReads 6 N (some 0) r m 84 [q_A 81, q_I l1, q_I l2, q_I l3, q_I l4, q_N, q_I l6, q_N] [q_I s3, q_I s2, q_I s1, q_I s0] := by
  unfold f_Mod_withReads_b84 at h
  refine q_iconst (M := md_X11_withReads) (pc := 84) dX11_withReads_84 ?_
  exact q_weak (w_Mod_withReads_b85 hN hk10  h) ⟨Or.inr rfl, Or.inr rfl, Or.inr rfl, Or.inr rfl, Or.inr rfl, Or.inl rfl, Or.inr rfl, Or.inl rfl, trivial⟩
def f_Mod_withReads_b10 (k10 : Int → Int → Int → Int → Int → Int → q_Mem → q_Res) (l1 l2 l3 l4 l5 l6 : Int) (m : q_Mem) : q_Res :=
  q_rd m 98 6 ((3 * (m 81 19)) + l1) fun v1 =>
  if q_w v1 ≤ q_w l6 then (q_rd m 113 100 0 fun v2 =>
  q_rt v2 m)
  else (q_rd m 100 200 ((100 * (m 81 19)) + l6) fun v3 =>
  if q_w v3 < 1100 then (f_Mod_withReads_b84 k10 l1 l2 l3 l4 l6 v3 l5 l2 l3 m)
  else (if 1112 ≤ q_w v3 then (f_Mod_withReads_b84 k10 l1 l2 l3 l4 l6 v3 l5 l2 l3 m)
  else (q_bd (f_Mod_readAt (v3 - 1100) l2 l3 l4 m) fun v4 m5 =>
  f_Mod_withReads_b85 k10 l1 l2 l3 l4 l6 v3 l5 l2 l3 v4 m5)))
set_option maxRecDepth 20000 in
theorem w_Mod_withReads_b10 {k10 : Int → Int → Int → Int → Int → Int → q_Mem → q_Res} {l1 l2 l3 l4 l5 l6 : Int} {r : Int × q_Mem} {m : q_Mem} {N : Nat} (hN : 126 ≤ N) (hk10 : ∀ (l1 l2 l3 l4 l5 l6 : Int) (m : q_Mem), k10 l1 l2 l3 l4 l5 l6 m = some r → q_E md_X11_withReads 6 N (some 0) r m 10 [q_A 81, q_I l1, q_I l2, q_I l3, q_I l4, q_I l5, q_I l6, q_N] []) (h : f_Mod_withReads_b10 k10 l1 l2 l3 l4 l5 l6 m = some r) : q_E md_X11_withReads 6 N (some 0) r m 10 [q_A 81, q_I l1, q_I l2, q_I l3, q_I l4, q_I l5, q_I l6, q_N] [] := by
  unfold f_Mod_withReads_b10 at h
  refine q_iload (M := md_X11_withReads) (pc := 10) dX11_withReads_10 rfl ?_
  refine q_aload_n (M := md_X11_withReads) (pc := 12) dX11_withReads_12 rfl (by decide) ?_
  refine q_getP (M := md_X11_withReads) (pc := 13) (v := 98) fl_11_58 dX11_withReads_13 (is_81 hN) rfl ?_
  refine q_iconst (M := md_X11_withReads) (pc := 16) dX11_withReads_16 ?_
  refine q_aload_n (M := md_X11_withReads) (pc := 17) dX11_withReads_17 rfl (by decide) ?_
  refine e_gI (M := md_X11_withReads) (pc := 18) (v := m 81 19) fl_11_306 dX11_withReads_18 (is_81 hN) rfl ?_
  refine q_imul (M := md_X11_withReads) (pc := 21) dX11_withReads_21 ?_
  refine q_iload_n (M := md_X11_withReads) (pc := 22) dX11_withReads_22 rfl ?_
  refine q_iadd (M := md_X11_withReads) (pc := 23) dX11_withReads_23 ?_
  refine e_rd (M := md_X11_withReads) (pc := 24) h dX11_withReads_24 (ar_98 hN) (fun v1 h => ?_)
  refine e_icmp_ge (M := md_X11_withReads) (pc := 25) (tgt := 100) h rfl rfl dX11_withReads_25 (by decide) (fun h => ?_) (fun h => ?_)
  · refine q_aload_n (M := md_X11_withReads) (pc := 100) dX11_withReads_100 rfl (by decide) ?_
    refine q_getP (M := md_X11_withReads) (pc := 101) (v := 113) fl_11_109 dX11_withReads_101 (is_81 hN) rfl ?_
    refine q_iconst (M := md_X11_withReads) (pc := 104) dX11_withReads_104 ?_
    refine e_rd (M := md_X11_withReads) (pc := 105) h dX11_withReads_105 (ar_113 hN) (fun v2 h => ?_)
    exact e_iret (M := md_X11_withReads) (pc := 106) h rfl dX11_withReads_106
  · refine q_aload_n (M := md_X11_withReads) (pc := 28) dX11_withReads_28 rfl (by decide) ?_
    refine q_getP (M := md_X11_withReads) (pc := 29) (v := 100) fl_11_64 dX11_withReads_29 (is_81 hN) rfl ?_
    refine q_bipush (M := md_X11_withReads) (pc := 32) (x := 100) dX11_withReads_32 (by decide) ?_
    refine q_aload_n (M := md_X11_withReads) (pc := 34) dX11_withReads_34 rfl (by decide) ?_
    refine e_gI (M := md_X11_withReads) (pc := 35) (v := m 81 19) fl_11_306 dX11_withReads_35 (is_81 hN) rfl ?_
    refine q_imul (M := md_X11_withReads) (pc := 38) dX11_withReads_38 ?_
    refine q_iload (M := md_X11_withReads) (pc := 39) dX11_withReads_39 rfl ?_
    refine q_iadd (M := md_X11_withReads) (pc := 41) dX11_withReads_41 ?_
    refine e_rd (M := md_X11_withReads) (pc := 42) h dX11_withReads_42 (ar_100 hN) (fun v3 h => ?_)
    refine e_ist (M := md_X11_withReads) (pc := 43) (ls' := [q_A 81, q_I l1, q_I l2, q_I l3, q_I l4, q_I l5, q_I l6, q_I v3]) dX11_withReads_43 (by decide) (q_pl rfl) rfl ?_
    refine q_iload (M := md_X11_withReads) (pc := 45) dX11_withReads_45 rfl ?_
    refine q_iload (M := md_X11_withReads) (pc := 47) dX11_withReads_47 rfl ?_
    refine q_iload_n (M := md_X11_withReads) (pc := 49) dX11_withReads_49 rfl ?_
    refine q_iload_n (M := md_X11_withReads) (pc := 50) dX11_withReads_50 rfl ?_
    refine q_iload (M := md_X11_withReads) (pc := 51) dX11_withReads_51 rfl ?_
    refine q_sipush (M := md_X11_withReads) (pc := 53) (x := 1100) dX11_withReads_53 (by decide) ?_
    refine e_icmp_lt (M := md_X11_withReads) (pc := 56) (tgt := 84) h rfl (q_wlit rfl) dX11_withReads_56 (by decide) (fun h => ?_) (fun h => ?_)
    · exact q_weak (w_Mod_withReads_b84 hN hk10  h) ⟨Or.inr rfl, Or.inr rfl, Or.inr rfl, Or.inr rfl, Or.inr rfl, Or.inl rfl, Or.inr rfl, Or.inl rfl, trivial⟩
    · refine q_iload (M := md_X11_withReads) (pc := 59) dX11_withReads_59 rfl ?_
      refine q_sipush (M := md_X11_withReads) (pc := 61) (x := 1112) dX11_withReads_61 (by decide) ?_
      refine e_icmp_ge (M := md_X11_withReads) (pc := 64) (tgt := 84) h rfl (q_wlit rfl) dX11_withReads_64 (by decide) (fun h => ?_) (fun h => ?_)
      · exact q_weak (w_Mod_withReads_b84 hN hk10  h) ⟨Or.inr rfl, Or.inr rfl, Or.inr rfl, Or.inr rfl, Or.inr rfl, Or.inl rfl, Or.inr rfl, Or.inl rfl, trivial⟩
      · refine q_aload_n (M := md_X11_withReads) (pc := 67) dX11_withReads_67 rfl (by decide) ?_
        refine q_iload (M := md_X11_withReads) (pc := 68) dX11_withReads_68 rfl ?_
        refine q_sipush (M := md_X11_withReads) (pc := 70) (x := 1100) dX11_withReads_70 (by decide) ?_
        refine q_isub (M := md_X11_withReads) (pc := 73) dX11_withReads_73 ?_
        refine q_iload_n (M := md_X11_withReads) (pc := 74) dX11_withReads_74 rfl ?_
        refine q_iload_n (M := md_X11_withReads) (pc := 75) dX11_withReads_75 rfl ?_
        refine q_iload (M := md_X11_withReads) (pc := 76) dX11_withReads_76 rfl ?_
        refine e_callVi (M := md_X11_withReads) (pc := 78) (d' := 5) (av := [q_I (v3 - 1100), q_I l2, q_I l3, q_I l4]) (c := 81) h ml_11_386 im_X11_readAt se_X11_readAt dX11_withReads_78 (fun v he => ok_X11_readAt hN  he) rfl (is_81 hN) ⟨_, _, rfl⟩ (by decide) (Nat.le_of_ble_eq_true rfl) ⟨by decide, by decide⟩ rfl (fun v4 m5 h => ?_)
        refine q_goto (M := md_X11_withReads) (pc := 81) (tgt := 85) dX11_withReads_81 (by decide) ?_
        exact q_weak (w_Mod_withReads_b85 hN hk10  h) ⟨Or.inr rfl, Or.inr rfl, Or.inr rfl, Or.inr rfl, Or.inr rfl, Or.inl rfl, Or.inr rfl, Or.inl rfl, trivial⟩
def f_Mod_withReads_l10 : Nat → Int → Int → Int → Int → Int → Int → q_Mem → q_Res
  | 0 => fun _ _ _ _ _ _ _ => none
  | n + 1 => fun l1 l2 l3 l4 l5 l6 m => f_Mod_withReads_b10 (f_Mod_withReads_l10 n) l1 l2 l3 l4 l5 l6 m
theorem w_Mod_withReads_l10 {r : Int × q_Mem} {N : Nat} (hN : 126 ≤ N) : ∀ (n : Nat) (l1 l2 l3 l4 l5 l6 : Int) (m : q_Mem), f_Mod_withReads_l10 n l1 l2 l3 l4 l5 l6 m = some r → q_E md_X11_withReads 6 N (some 0) r m 10 [q_A 81, q_I l1, q_I l2, q_I l3, q_I l4, q_I l5, q_I l6, q_N] [] := by
  intro n
  induction n with
  | zero => intro l1 l2 l3 l4 l5 l6 m h; exact q_no h
  | succ n ih =>
    intro l1 l2 l3 l4 l5 l6 m h
    exact w_Mod_withReads_b10 hN (fun l1 l2 l3 l4 l5 l6 m h => ih l1 l2 l3 l4 l5 l6 m h) h
def f_Mod_withReads (l1 l2 l3 l4 : Int) (m : q_Mem) : q_Res :=
  q_bd (f_Mod_formulaFrom l1 m) fun v1 m2 =>
  f_Mod_withReads_l10 q_F l1 l2 l3 l4 0 v1 m2
set_option maxRecDepth 20000 in
theorem ok_X11_withReads {l1 l2 l3 l4 : Int} {r : Int × q_Mem} {m : q_Mem} {N : Nat} (hN : 126 ≤ N) (h : f_Mod_withReads l1 l2 l3 l4 m = some r) : q_C md_X11_withReads (q_room 6) 0 0 [q_A 81, q_I l1, q_I l2, q_I l3, q_I l4] (q_g N) m (some (q_I r.1), q_g N, r.2) := by
  refine q_ofR (by decide) 3 (ls := [q_A 81, q_I l1, q_I l2, q_I l3, q_I l4, q_N, q_N, q_N]) rfl (Nat.le_of_ble_eq_true rfl) ?_
  change q_E md_X11_withReads 6 N (some 0) r m 0 [q_A 81, q_I l1, q_I l2, q_I l3, q_I l4, q_N, q_N, q_N] []
  unfold f_Mod_withReads at h
  refine q_iconst (M := md_X11_withReads) (pc := 0) dX11_withReads_0 ?_
  refine e_ist (M := md_X11_withReads) (pc := 1) (ls' := [q_A 81, q_I l1, q_I l2, q_I l3, q_I l4, q_I 0, q_N, q_N]) dX11_withReads_1 (by decide) (q_pl rfl) rfl ?_
  refine q_aload_n (M := md_X11_withReads) (pc := 3) dX11_withReads_3 rfl (by decide) ?_
  refine q_iload_n (M := md_X11_withReads) (pc := 4) dX11_withReads_4 rfl ?_
  refine e_callVi (M := md_X11_withReads) (pc := 5) (d' := 1) (av := [q_I l1]) (c := 81) h ml_11_383 im_X11_formulaFrom se_X11_formulaFrom dX11_withReads_5 (fun v he => ok_X11_formulaFrom hN  he) rfl (is_81 hN) ⟨_, _, rfl⟩ (by decide) (Nat.le_of_ble_eq_true rfl) ⟨by decide, by decide⟩ rfl (fun v1 m2 h => ?_)
  refine e_ist (M := md_X11_withReads) (pc := 8) (ls' := [q_A 81, q_I l1, q_I l2, q_I l3, q_I l4, q_I 0, q_I v1, q_N]) dX11_withReads_8 (by decide) (q_pl rfl) rfl ?_
  exact q_weak (w_Mod_withReads_l10 hN q_F _ _ _ _ _ _ _  h) ⟨Or.inr rfl, Or.inr rfl, Or.inr rfl, Or.inr rfl, Or.inr rfl, Or.inr rfl, Or.inr rfl, Or.inl rfl, trivial⟩
def f_Mod_layValues_b106 (k28 : Int → q_Mem → q_Res) (k38 : Int → Int → q_Mem → q_Res) (l1 l2 : Int) (m : q_Mem) : q_Res :=
  k38 l1 (l2 + 1) m
set_option maxRecDepth 20000 in
theorem w_Mod_layValues_b106 {k28 : Int → q_Mem → q_Res} {k38 : Int → Int → q_Mem → q_Res} {l1 l2 : Int} {r : Int × q_Mem} {m : q_Mem} {N : Nat} (hN : 126 ≤ N) (hk28 : ∀ (l1 : Int) (m : q_Mem), k28 l1 m = some r → q_E md_X11_layValues 7 N (none) r m 28 [q_A 81, q_I l1, q_N, q_N] []) (hk38 : ∀ (l1 l2 : Int) (m : q_Mem), k38 l1 l2 m = some r → q_E md_X11_layValues 7 N (none) r m 38 [q_A 81, q_I l1, q_I l2, q_N] []) (h : f_Mod_layValues_b106 k28 k38 l1 l2 m = some r) : q_E md_X11_layValues 7 N (none) r m 106 [q_A 81, q_I l1, q_I l2, q_N] [] := by
  unfold f_Mod_layValues_b106 at h
  refine e_inc (M := md_X11_layValues) (pc := 106) (x := l2) (ls' := [q_A 81, q_I l1, q_I (l2 + 1), q_N]) dX11_layValues_106 rfl (by decide) (q_pl rfl) rfl ?_
  refine q_goto (M := md_X11_layValues) (pc := 109) (tgt := 38) dX11_layValues_109 (by decide) ?_
  exact q_weak (hk38 _ _ _  h) ⟨Or.inr rfl, Or.inr rfl, Or.inr rfl, Or.inl rfl, trivial⟩
def f_Mod_layValues_b67 (k28 : Int → q_Mem → q_Res) (k38 : Int → Int → q_Mem → q_Res) (k67 : Int → Int → Int → q_Mem → q_Res) (l1 l2 l3 : Int) (m : q_Mem) : q_Res :=
  q_bd (f_Mod_many m) fun v1 m2 =>
  if q_w v1 ≤ q_w l3 then (f_Mod_layValues_b106 k28 k38 l1 l2 m2)
  else (q_dv l2 10 fun v3 =>
  q_md l2 10 fun v4 =>
  q_bd (f_Mod_withReads l3 v3 v4 0 m2) fun v5 m6 =>
  q_wr m6 110 300 ((100 * l3) + l2) v5 fun m7 =>
  k67 l1 l2 (l3 + 1) m7)
set_option maxRecDepth 20000 in
theorem w_Mod_layValues_b67 {k28 : Int → q_Mem → q_Res} {k38 : Int → Int → q_Mem → q_Res} {k67 : Int → Int → Int → q_Mem → q_Res} {l1 l2 l3 : Int} {r : Int × q_Mem} {m : q_Mem} {N : Nat} (hN : 126 ≤ N) (hk28 : ∀ (l1 : Int) (m : q_Mem), k28 l1 m = some r → q_E md_X11_layValues 7 N (none) r m 28 [q_A 81, q_I l1, q_N, q_N] []) (hk38 : ∀ (l1 l2 : Int) (m : q_Mem), k38 l1 l2 m = some r → q_E md_X11_layValues 7 N (none) r m 38 [q_A 81, q_I l1, q_I l2, q_N] []) (hk67 : ∀ (l1 l2 l3 : Int) (m : q_Mem), k67 l1 l2 l3 m = some r → q_E md_X11_layValues 7 N (none) r m 67 [q_A 81, q_I l1, q_I l2, q_I l3] []) (h : f_Mod_layValues_b67 k28 k38 k67 l1 l2 l3 m = some r) : q_E md_X11_layValues 7 N (none) r m 67 [q_A 81, q_I l1, q_I l2, q_I l3] [] := by
  unfold f_Mod_layValues_b67 at h
  refine q_iload_n (M := md_X11_layValues) (pc := 67) dX11_layValues_67 rfl ?_
  refine q_aload_n (M := md_X11_layValues) (pc := 68) dX11_layValues_68 rfl (by decide) ?_
  refine e_callVi (M := md_X11_layValues) (pc := 69) (d' := 1) (av := []) (c := 81) h ml_11_315 im_X11_many se_X11_many dX11_layValues_69 (fun v he => ok_X11_many hN  he) rfl (is_81 hN) ⟨_, _, rfl⟩ (by decide) (Nat.le_of_ble_eq_true rfl) ⟨by decide, by decide⟩ rfl (fun v1 m2 h => ?_)
  refine e_icmp_ge (M := md_X11_layValues) (pc := 72) (tgt := 106) h rfl rfl dX11_layValues_72 (by decide) (fun h => ?_) (fun h => ?_)
  · exact q_weak (w_Mod_layValues_b106 hN hk28 hk38  h) ⟨Or.inr rfl, Or.inr rfl, Or.inr rfl, Or.inl rfl, trivial⟩
  · refine q_aload_n (M := md_X11_layValues) (pc := 75) dX11_layValues_75 rfl (by decide) ?_
    refine q_getP (M := md_X11_layValues) (pc := 76) (v := 110) fl_11_100 dX11_layValues_76 (is_81 hN) rfl ?_
    refine q_bipush (M := md_X11_layValues) (pc := 79) (x := 100) dX11_layValues_79 (by decide) ?_
    refine q_iload_n (M := md_X11_layValues) (pc := 81) dX11_layValues_81 rfl ?_
    refine q_imul (M := md_X11_layValues) (pc := 82) dX11_layValues_82 ?_
    refine q_iload_n (M := md_X11_layValues) (pc := 83) dX11_layValues_83 rfl ?_
    refine q_iadd (M := md_X11_layValues) (pc := 84) dX11_layValues_84 ?_
    refine q_aload_n (M := md_X11_layValues) (pc := 85) dX11_layValues_85 rfl (by decide) ?_
    refine q_iload_n (M := md_X11_layValues) (pc := 86) dX11_layValues_86 rfl ?_
    refine q_iload_n (M := md_X11_layValues) (pc := 87) dX11_layValues_87 rfl ?_
    refine q_bipush (M := md_X11_layValues) (pc := 88) (x := 10) dX11_layValues_88 (by decide) ?_
    refine e_dv (M := md_X11_layValues) (pc := 90) h dX11_layValues_90 (fun v3 h => ?_)
    refine q_iload_n (M := md_X11_layValues) (pc := 91) dX11_layValues_91 rfl ?_
    refine q_bipush (M := md_X11_layValues) (pc := 92) (x := 10) dX11_layValues_92 (by decide) ?_
    refine e_md (M := md_X11_layValues) (pc := 94) h dX11_layValues_94 (fun v4 h => ?_)
    refine q_iconst (M := md_X11_layValues) (pc := 95) dX11_layValues_95 ?_
    refine e_callVi (M := md_X11_layValues) (pc := 96) (d' := 6) (av := [q_I l3, q_I v3, q_I v4, q_I 0]) (c := 81) h ml_11_393 im_X11_withReads se_X11_withReads dX11_layValues_96 (fun v he => ok_X11_withReads hN  he) rfl (is_81 hN) ⟨_, _, rfl⟩ (by decide) (Nat.le_of_ble_eq_true rfl) ⟨by decide, by decide⟩ rfl (fun v5 m6 h => ?_)
    refine e_wr (M := md_X11_layValues) (pc := 99) h dX11_layValues_99 (ar_110 hN) (fun m7 h => ?_)
    refine e_inc (M := md_X11_layValues) (pc := 100) (x := l3) (ls' := [q_A 81, q_I l1, q_I l2, q_I (l3 + 1)]) dX11_layValues_100 rfl (by decide) (q_pl rfl) rfl ?_
    refine q_goto (M := md_X11_layValues) (pc := 103) (tgt := 67) dX11_layValues_103 (by decide) ?_
    exact q_weak (hk67 _ _ _ _  h) ⟨Or.inr rfl, Or.inr rfl, Or.inr rfl, Or.inr rfl, trivial⟩
def f_Mod_layValues_l67 (k28 : Int → q_Mem → q_Res) (k38 : Int → Int → q_Mem → q_Res) : Nat → Int → Int → Int → q_Mem → q_Res
  | 0 => fun _ _ _ _ => none
  | n + 1 => fun l1 l2 l3 m => f_Mod_layValues_b67 k28 k38 (f_Mod_layValues_l67 k28 k38 n) l1 l2 l3 m
theorem w_Mod_layValues_l67 {k28 : Int → q_Mem → q_Res} {k38 : Int → Int → q_Mem → q_Res} {r : Int × q_Mem} {N : Nat} (hN : 126 ≤ N) (hk28 : ∀ (l1 : Int) (m : q_Mem), k28 l1 m = some r → q_E md_X11_layValues 7 N (none) r m 28 [q_A 81, q_I l1, q_N, q_N] []) (hk38 : ∀ (l1 l2 : Int) (m : q_Mem), k38 l1 l2 m = some r → q_E md_X11_layValues 7 N (none) r m 38 [q_A 81, q_I l1, q_I l2, q_N] []) : ∀ (n : Nat) (l1 l2 l3 : Int) (m : q_Mem), f_Mod_layValues_l67 k28 k38 n l1 l2 l3 m = some r → q_E md_X11_layValues 7 N (none) r m 67 [q_A 81, q_I l1, q_I l2, q_I l3] [] := by
  intro n
  induction n with
  | zero => intro l1 l2 l3 m h; exact q_no h
  | succ n ih =>
    intro l1 l2 l3 m h
    exact w_Mod_layValues_b67 hN hk28 hk38 (fun l1 l2 l3 m h => ih l1 l2 l3 m h) h
def f_Mod_layValues_b38 (k28 : Int → q_Mem → q_Res) (k38 : Int → Int → q_Mem → q_Res) (l1 l2 : Int) (m : q_Mem) : q_Res :=
  if 100 ≤ q_w l2 then (k28 (l1 + 1) m)
  else (q_bd (f_Mod_isThere l2 m) fun v1 m2 =>
  if q_w v1 = 0 then (f_Mod_layValues_b106 k28 k38 l1 l2 m2)
  else (q_rd m2 106 100 l2 fun v3 =>
  if q_w v3 = q_w l1 then (f_Mod_layValues_l67 k28 k38 q_F l1 l2 0 m2)
  else (f_Mod_layValues_b106 k28 k38 l1 l2 m2)))
set_option maxRecDepth 20000 in
theorem w_Mod_layValues_b38 {k28 : Int → q_Mem → q_Res} {k38 : Int → Int → q_Mem → q_Res} {l1 l2 : Int} {r : Int × q_Mem} {m : q_Mem} {N : Nat} (hN : 126 ≤ N) (hk28 : ∀ (l1 : Int) (m : q_Mem), k28 l1 m = some r → q_E md_X11_layValues 7 N (none) r m 28 [q_A 81, q_I l1, q_N, q_N] []) (hk38 : ∀ (l1 l2 : Int) (m : q_Mem), k38 l1 l2 m = some r → q_E md_X11_layValues 7 N (none) r m 38 [q_A 81, q_I l1, q_I l2, q_N] []) (h : f_Mod_layValues_b38 k28 k38 l1 l2 m = some r) : q_E md_X11_layValues 7 N (none) r m 38 [q_A 81, q_I l1, q_I l2, q_N] [] := by
  unfold f_Mod_layValues_b38 at h
  refine q_iload_n (M := md_X11_layValues) (pc := 38) dX11_layValues_38 rfl ?_
  refine q_bipush (M := md_X11_layValues) (pc := 39) (x := 100) dX11_layValues_39 (by decide) ?_
  refine e_icmp_ge (M := md_X11_layValues) (pc := 41) (tgt := 112) h rfl (q_wlit rfl) dX11_layValues_41 (by decide) (fun h => ?_) (fun h => ?_)
  · refine e_inc (M := md_X11_layValues) (pc := 112) (x := l1) (ls' := [q_A 81, q_I (l1 + 1), q_I l2, q_N]) dX11_layValues_112 rfl (by decide) (q_pl rfl) rfl ?_
    refine q_goto (M := md_X11_layValues) (pc := 115) (tgt := 28) dX11_layValues_115 (by decide) ?_
    exact q_weak (hk28 _ _  h) ⟨Or.inr rfl, Or.inr rfl, Or.inl rfl, Or.inl rfl, trivial⟩
  · refine q_aload_n (M := md_X11_layValues) (pc := 44) dX11_layValues_44 rfl (by decide) ?_
    refine q_iload_n (M := md_X11_layValues) (pc := 45) dX11_layValues_45 rfl ?_
    refine e_callVi (M := md_X11_layValues) (pc := 46) (d' := 3) (av := [q_I l2]) (c := 81) h ml_11_333 im_X11_isThere se_X11_isThere dX11_layValues_46 (fun v he => ok_X11_isThere hN  he) rfl (is_81 hN) ⟨_, _, rfl⟩ (by decide) (Nat.le_of_ble_eq_true rfl) ⟨by decide, by decide⟩ rfl (fun v1 m2 h => ?_)
    refine e_if_eq (M := md_X11_layValues) (pc := 49) (tgt := 106) h rfl dX11_layValues_49 (by decide) (fun h => ?_) (fun h => ?_)
    · exact q_weak (w_Mod_layValues_b106 hN hk28 hk38  h) ⟨Or.inr rfl, Or.inr rfl, Or.inr rfl, Or.inl rfl, trivial⟩
    · refine q_aload_n (M := md_X11_layValues) (pc := 52) dX11_layValues_52 rfl (by decide) ?_
      refine q_getP (M := md_X11_layValues) (pc := 53) (v := 106) fl_11_87 dX11_layValues_53 (is_81 hN) rfl ?_
      refine q_iload_n (M := md_X11_layValues) (pc := 56) dX11_layValues_56 rfl ?_
      refine e_rd (M := md_X11_layValues) (pc := 57) h dX11_layValues_57 (ar_106 hN) (fun v3 h => ?_)
      refine q_iload_n (M := md_X11_layValues) (pc := 58) dX11_layValues_58 rfl ?_
      refine e_icmp_eq (M := md_X11_layValues) (pc := 59) (tgt := 65) h rfl rfl dX11_layValues_59 (by decide) (fun h => ?_) (fun h => ?_)
      · refine q_iconst (M := md_X11_layValues) (pc := 65) dX11_layValues_65 ?_
        refine e_ist_n (M := md_X11_layValues) (pc := 66) (ls' := [q_A 81, q_I l1, q_I l2, q_I 0]) dX11_layValues_66 (by decide) (q_pl rfl) rfl ?_
        exact q_weak (w_Mod_layValues_l67 hN hk28 hk38 q_F _ _ _ _  h) ⟨Or.inr rfl, Or.inr rfl, Or.inr rfl, Or.inr rfl, trivial⟩
      · refine q_goto (M := md_X11_layValues) (pc := 62) (tgt := 106) dX11_layValues_62 (by decide) ?_
        exact q_weak (w_Mod_layValues_b106 hN hk28 hk38  h) ⟨Or.inr rfl, Or.inr rfl, Or.inr rfl, Or.inl rfl, trivial⟩
def f_Mod_layValues_l38 (k28 : Int → q_Mem → q_Res) : Nat → Int → Int → q_Mem → q_Res
  | 0 => fun _ _ _ => none
  | n + 1 => fun l1 l2 m => f_Mod_layValues_b38 k28 (f_Mod_layValues_l38 k28 n) l1 l2 m
theorem w_Mod_layValues_l38 {k28 : Int → q_Mem → q_Res} {r : Int × q_Mem} {N : Nat} (hN : 126 ≤ N) (hk28 : ∀ (l1 : Int) (m : q_Mem), k28 l1 m = some r → q_E md_X11_layValues 7 N (none) r m 28 [q_A 81, q_I l1, q_N, q_N] []) : ∀ (n : Nat) (l1 l2 : Int) (m : q_Mem), f_Mod_layValues_l38 k28 n l1 l2 m = some r → q_E md_X11_layValues 7 N (none) r m 38 [q_A 81, q_I l1, q_I l2, q_N] [] := by
  intro n
  induction n with
  | zero => intro l1 l2 m h; exact q_no h
  | succ n ih =>
    intro l1 l2 m h
    exact w_Mod_layValues_b38 hN hk28 (fun l1 l2 m h => ih l1 l2 m h) h
def f_Mod_layValues_b28 (k28 : Int → q_Mem → q_Res) (l1 : Int) (m : q_Mem) : q_Res :=
  q_bd (f_Mod_greatestDepth m) fun v1 m2 =>
  if q_w v1 < q_w l1 then (q_rt 0 m2)
  else (f_Mod_layValues_l38 k28 q_F l1 0 m2)
set_option maxRecDepth 20000 in
theorem w_Mod_layValues_b28 {k28 : Int → q_Mem → q_Res} {l1 : Int} {r : Int × q_Mem} {m : q_Mem} {N : Nat} (hN : 126 ≤ N) (hk28 : ∀ (l1 : Int) (m : q_Mem), k28 l1 m = some r → q_E md_X11_layValues 7 N (none) r m 28 [q_A 81, q_I l1, q_N, q_N] []) (h : f_Mod_layValues_b28 k28 l1 m = some r) : q_E md_X11_layValues 7 N (none) r m 28 [q_A 81, q_I l1, q_N, q_N] [] := by
  unfold f_Mod_layValues_b28 at h
  refine q_iload_n (M := md_X11_layValues) (pc := 28) dX11_layValues_28 rfl ?_
  refine q_aload_n (M := md_X11_layValues) (pc := 29) dX11_layValues_29 rfl (by decide) ?_
  refine e_callVi (M := md_X11_layValues) (pc := 30) (d' := 4) (av := []) (c := 81) h ml_11_360 im_X11_greatestDepth se_X11_greatestDepth dX11_layValues_30 (fun v he => ok_X11_greatestDepth hN  he) rfl (is_81 hN) ⟨_, _, rfl⟩ (by decide) (Nat.le_of_ble_eq_true rfl) ⟨by decide, by decide⟩ rfl (fun v1 m2 h => ?_)
  refine e_icmp_gt (M := md_X11_layValues) (pc := 33) (tgt := 118) h rfl rfl dX11_layValues_33 (by decide) (fun h => ?_) (fun h => ?_)
  · exact e_vret (M := md_X11_layValues) (pc := 118) h rfl dX11_layValues_118
  · refine q_iconst (M := md_X11_layValues) (pc := 36) dX11_layValues_36 ?_
    refine e_ist_n (M := md_X11_layValues) (pc := 37) (ls' := [q_A 81, q_I l1, q_I 0, q_N]) dX11_layValues_37 (by decide) (q_pl rfl) rfl ?_
    exact q_weak (w_Mod_layValues_l38 hN hk28 q_F _ _ _  h) ⟨Or.inr rfl, Or.inr rfl, Or.inr rfl, Or.inl rfl, trivial⟩
def f_Mod_layValues_l28 : Nat → Int → q_Mem → q_Res
  | 0 => fun _ _ => none
  | n + 1 => fun l1 m => f_Mod_layValues_b28 (f_Mod_layValues_l28 n) l1 m
theorem w_Mod_layValues_l28 {r : Int × q_Mem} {N : Nat} (hN : 126 ≤ N) : ∀ (n : Nat) (l1 : Int) (m : q_Mem), f_Mod_layValues_l28 n l1 m = some r → q_E md_X11_layValues 7 N (none) r m 28 [q_A 81, q_I l1, q_N, q_N] [] := by
  intro n
  induction n with
  | zero => intro l1 m h; exact q_no h
  | succ n ih =>
    intro l1 m h
    exact w_Mod_layValues_b28 hN (fun l1 m h => ih l1 m h) h
def f_Mod_layValues_b6 (k6 : Int → q_Mem → q_Res) (l1 : Int) (m : q_Mem) : q_Res :=
  if 300 ≤ q_w l1 then (f_Mod_layValues_l28 q_F 0 m)
  else (q_wr m 110 300 l1 0 fun m1 =>
  k6 (l1 + 1) m1)
set_option maxRecDepth 20000 in
theorem w_Mod_layValues_b6 {k6 : Int → q_Mem → q_Res} {l1 : Int} {r : Int × q_Mem} {m : q_Mem} {N : Nat} (hN : 126 ≤ N) (hk6 : ∀ (l1 : Int) (m : q_Mem), k6 l1 m = some r → q_E md_X11_layValues 7 N (none) r m 6 [q_A 81, q_I l1, q_N, q_N] []) (h : f_Mod_layValues_b6 k6 l1 m = some r) : q_E md_X11_layValues 7 N (none) r m 6 [q_A 81, q_I l1, q_N, q_N] [] := by
  unfold f_Mod_layValues_b6 at h
  refine q_iload_n (M := md_X11_layValues) (pc := 6) dX11_layValues_6 rfl ?_
  refine q_sipush (M := md_X11_layValues) (pc := 7) (x := 300) dX11_layValues_7 (by decide) ?_
  refine e_icmp_ge (M := md_X11_layValues) (pc := 10) (tgt := 26) h rfl (q_wlit rfl) dX11_layValues_10 (by decide) (fun h => ?_) (fun h => ?_)
  · refine q_iconst (M := md_X11_layValues) (pc := 26) dX11_layValues_26 ?_
    refine e_ist_n (M := md_X11_layValues) (pc := 27) (ls' := [q_A 81, q_I 0, q_N, q_N]) dX11_layValues_27 (by decide) (q_pl rfl) rfl ?_
    exact q_weak (w_Mod_layValues_l28 hN q_F _ _  h) ⟨Or.inr rfl, Or.inr rfl, Or.inl rfl, Or.inl rfl, trivial⟩
  · refine q_aload_n (M := md_X11_layValues) (pc := 13) dX11_layValues_13 rfl (by decide) ?_
    refine q_getP (M := md_X11_layValues) (pc := 14) (v := 110) fl_11_100 dX11_layValues_14 (is_81 hN) rfl ?_
    refine q_iload_n (M := md_X11_layValues) (pc := 17) dX11_layValues_17 rfl ?_
    refine q_iconst (M := md_X11_layValues) (pc := 18) dX11_layValues_18 ?_
    refine e_wr (M := md_X11_layValues) (pc := 19) h dX11_layValues_19 (ar_110 hN) (fun m1 h => ?_)
    refine e_inc (M := md_X11_layValues) (pc := 20) (x := l1) (ls' := [q_A 81, q_I (l1 + 1), q_N, q_N]) dX11_layValues_20 rfl (by decide) (q_pl rfl) rfl ?_
    refine q_goto (M := md_X11_layValues) (pc := 23) (tgt := 6) dX11_layValues_23 (by decide) ?_
    exact q_weak (hk6 _ _  h) ⟨Or.inr rfl, Or.inr rfl, Or.inl rfl, Or.inl rfl, trivial⟩
def f_Mod_layValues_l6 : Nat → Int → q_Mem → q_Res
  | 0 => fun _ _ => none
  | n + 1 => fun l1 m => f_Mod_layValues_b6 (f_Mod_layValues_l6 n) l1 m
theorem w_Mod_layValues_l6 {r : Int × q_Mem} {N : Nat} (hN : 126 ≤ N) : ∀ (n : Nat) (l1 : Int) (m : q_Mem), f_Mod_layValues_l6 n l1 m = some r → q_E md_X11_layValues 7 N (none) r m 6 [q_A 81, q_I l1, q_N, q_N] [] := by
  intro n
  induction n with
  | zero => intro l1 m h; exact q_no h
  | succ n ih =>
    intro l1 m h
    exact w_Mod_layValues_b6 hN (fun l1 m h => ih l1 m h) h
def f_Mod_layValues (m : q_Mem) : q_Res :=
  q_bd (f_Mod_layDepths m) fun _ m1 =>
  f_Mod_layValues_l6 q_F 0 m1
set_option maxRecDepth 20000 in
theorem ok_X11_layValues {r : Int × q_Mem} {m : q_Mem} {N : Nat} (hN : 126 ≤ N) (h : f_Mod_layValues m = some r) : q_C md_X11_layValues (q_room 7) 0 0 [q_A 81] (q_g N) m (none, q_g N, r.2) := by
  refine q_ofR (by decide) 3 (ls := [q_A 81, q_N, q_N, q_N]) rfl (Nat.le_of_ble_eq_true rfl) ?_
  change q_E md_X11_layValues 7 N (none) r m 0 [q_A 81, q_N, q_N, q_N] []
  unfold f_Mod_layValues at h
  refine q_aload_n (M := md_X11_layValues) (pc := 0) dX11_layValues_0 rfl (by decide) ?_
  refine e_callVv (M := md_X11_layValues) (pc := 1) (d' := 5) (av := []) (c := 81) h ml_11_348 im_X11_layDepths se_X11_layDepths dX11_layValues_1 (fun v he => ok_X11_layDepths hN  he) rfl (is_81 hN) ⟨_, _, rfl⟩ (by decide) (Nat.le_of_ble_eq_true rfl) ⟨by decide, by decide⟩ rfl (fun _ m1 h => ?_)
  refine q_iconst (M := md_X11_layValues) (pc := 4) dX11_layValues_4 ?_
  refine e_ist_n (M := md_X11_layValues) (pc := 5) (ls' := [q_A 81, q_I 0, q_N, q_N]) dX11_layValues_5 (by decide) (q_pl rfl) rfl ?_
  exact q_weak (w_Mod_layValues_l6 hN q_F _ _  h) ⟨Or.inr rfl, Or.inr rfl, Or.inl rfl, Or.inl rfl, trivial⟩
def f_Mod_value (l1 l2 l3 : Int) (m : q_Mem) : q_Res :=
  q_bd (f_Mod_isVariable l1 m) fun v1 m2 =>
  if q_w v1 = 0 then (q_rt 0 m2)
  else (q_bd (f_Mod_isPoint l2 l3 m2) fun v3 m4 =>
  if q_w v3 = 0 then (q_rt 0 m4)
  else (q_bd (f_Mod_layValues m4) fun _ m5 =>
  q_rd m5 110 300 (((100 * l1) + (10 * l2)) + l3) fun v6 =>
  q_rt v6 m5))
set_option maxRecDepth 20000 in
theorem ok_X11_value {l1 l2 l3 : Int} {r : Int × q_Mem} {m : q_Mem} {N : Nat} (hN : 126 ≤ N) (h : f_Mod_value l1 l2 l3 m = some r) : q_C md_X11_value (q_room 8) 0 0 [q_A 81, q_I l1, q_I l2, q_I l3] (q_g N) m (some (q_I r.1), q_g N, r.2) := by
  refine q_ofR (by decide) 0 (ls := [q_A 81, q_I l1, q_I l2, q_I l3]) rfl (Nat.le_of_ble_eq_true rfl) ?_
  change q_E md_X11_value 8 N (some 0) r m 0 [q_A 81, q_I l1, q_I l2, q_I l3] []
  unfold f_Mod_value at h
  refine q_aload_n (M := md_X11_value) (pc := 0) dX11_value_0 rfl (by decide) ?_
  refine q_iload_n (M := md_X11_value) (pc := 1) dX11_value_1 rfl ?_
  refine e_callVi (M := md_X11_value) (pc := 2) (d' := 2) (av := [q_I l1]) (c := 81) h ml_11_396 im_X11_isVariable se_X11_isVariable dX11_value_2 (fun v he => ok_X11_isVariable hN  he) rfl (is_81 hN) ⟨_, _, rfl⟩ (by decide) (Nat.le_of_ble_eq_true rfl) ⟨by decide, by decide⟩ rfl (fun v1 m2 h => ?_)
  refine e_if_eq (M := md_X11_value) (pc := 5) (tgt := 17) h rfl dX11_value_5 (by decide) (fun h => ?_) (fun h => ?_)
  · refine q_iconst (M := md_X11_value) (pc := 17) dX11_value_17 ?_
    exact e_iret (M := md_X11_value) (pc := 18) h rfl dX11_value_18
  · refine q_aload_n (M := md_X11_value) (pc := 8) dX11_value_8 rfl (by decide) ?_
    refine q_iload_n (M := md_X11_value) (pc := 9) dX11_value_9 rfl ?_
    refine q_iload_n (M := md_X11_value) (pc := 10) dX11_value_10 rfl ?_
    refine e_callVi (M := md_X11_value) (pc := 11) (d' := 2) (av := [q_I l2, q_I l3]) (c := 81) h ml_11_324 im_X11_isPoint se_X11_isPoint dX11_value_11 (fun v he => ok_X11_isPoint hN  he) rfl (is_81 hN) ⟨_, _, rfl⟩ (by decide) (Nat.le_of_ble_eq_true rfl) ⟨by decide, by decide⟩ rfl (fun v3 m4 h => ?_)
    refine e_if_ne (M := md_X11_value) (pc := 14) (tgt := 19) h rfl dX11_value_14 (by decide) (fun h => ?_) (fun h => ?_)
    · refine q_aload_n (M := md_X11_value) (pc := 19) dX11_value_19 rfl (by decide) ?_
      refine e_callVv (M := md_X11_value) (pc := 20) (d' := 7) (av := []) (c := 81) h ml_11_399 im_X11_layValues se_X11_layValues dX11_value_20 (fun v he => ok_X11_layValues hN  he) rfl (is_81 hN) ⟨_, _, rfl⟩ (by decide) (Nat.le_of_ble_eq_true rfl) ⟨by decide, by decide⟩ rfl (fun _ m5 h => ?_)
      refine q_aload_n (M := md_X11_value) (pc := 23) dX11_value_23 rfl (by decide) ?_
      refine q_getP (M := md_X11_value) (pc := 24) (v := 110) fl_11_100 dX11_value_24 (is_81 hN) rfl ?_
      refine q_bipush (M := md_X11_value) (pc := 27) (x := 100) dX11_value_27 (by decide) ?_
      refine q_iload_n (M := md_X11_value) (pc := 29) dX11_value_29 rfl ?_
      refine q_imul (M := md_X11_value) (pc := 30) dX11_value_30 ?_
      refine q_bipush (M := md_X11_value) (pc := 31) (x := 10) dX11_value_31 (by decide) ?_
      refine q_iload_n (M := md_X11_value) (pc := 33) dX11_value_33 rfl ?_
      refine q_imul (M := md_X11_value) (pc := 34) dX11_value_34 ?_
      refine q_iadd (M := md_X11_value) (pc := 35) dX11_value_35 ?_
      refine q_iload_n (M := md_X11_value) (pc := 36) dX11_value_36 rfl ?_
      refine q_iadd (M := md_X11_value) (pc := 37) dX11_value_37 ?_
      refine e_rd (M := md_X11_value) (pc := 38) h dX11_value_38 (ar_110 hN) (fun v6 h => ?_)
      exact e_iret (M := md_X11_value) (pc := 39) h rfl dX11_value_39
    · refine q_iconst (M := md_X11_value) (pc := 17) dX11_value_17 ?_
      exact e_iret (M := md_X11_value) (pc := 18) h rfl dX11_value_18
def f_Mod_layStirred_b127 (k28 : Int → Int → Int → q_Mem → q_Res) (k39 : Int → Int → Int → Int → q_Mem → q_Res) (k72 : Int → Int → Int → Int → Int → q_Mem → q_Res) (l1 l2 l3 l4 l5 s1 s2 s3 : Int) (m : q_Mem) : q_Res :=
  q_wr m 112 300 s1 (s2 + s3) fun m1 =>
  k72 l1 l2 l3 l4 (l5 + 1) m1
set_option maxRecDepth 20000 in
theorem w_Mod_layStirred_b127 {k28 : Int → Int → Int → q_Mem → q_Res} {k39 : Int → Int → Int → Int → q_Mem → q_Res} {k72 : Int → Int → Int → Int → Int → q_Mem → q_Res} {l1 l2 l3 l4 l5 s1 s2 s3 : Int} {r : Int × q_Mem} {m : q_Mem} {N : Nat} (hN : 126 ≤ N) (hk28 : ∀ (l1 l2 l3 : Int) (m : q_Mem), k28 l1 l2 l3 m = some r → q_E md_X11_layStirred 8 N (none) r m 28 [q_A 81, q_I l1, q_I l2, q_I l3, q_N, q_N] []) (hk39 : ∀ (l1 l2 l3 l4 : Int) (m : q_Mem), k39 l1 l2 l3 l4 m = some r → q_E md_X11_layStirred 8 N (none) r m 39 [q_A 81, q_I l1, q_I l2, q_I l3, q_I l4, q_N] []) (hk72 : ∀ (l1 l2 l3 l4 l5 : Int) (m : q_Mem), k72 l1 l2 l3 l4 l5 m = some r → q_E md_X11_layStirred 8 N (none) r m 72 [q_A 81, q_I l1, q_I l2, q_I l3, q_I l4, q_I l5] []) (h : f_Mod_layStirred_b127 k28 k39 k72 l1 l2 l3 l4 l5 s1 s2 s3 m = some r) : q_E md_X11_layStirred 8 N (none) r m 127 [q_A 81, q_I l1, q_I l2, q_I l3, q_I l4, q_I l5] [q_I s3, q_I s2, q_I s1, q_A 112] := by
  unfold f_Mod_layStirred_b127 at h
  refine q_iadd (M := md_X11_layStirred) (pc := 127) dX11_layStirred_127 ?_
  refine e_wr (M := md_X11_layStirred) (pc := 128) h dX11_layStirred_128 (ar_112 hN) (fun m1 h => ?_)
  refine e_inc (M := md_X11_layStirred) (pc := 129) (x := l5) (ls' := [q_A 81, q_I l1, q_I l2, q_I l3, q_I l4, q_I (l5 + 1)]) dX11_layStirred_129 rfl (by decide) (q_pl rfl) rfl ?_
  refine q_goto (M := md_X11_layStirred) (pc := 132) (tgt := 72) dX11_layStirred_132 (by decide) ?_
  exact q_weak (hk72 _ _ _ _ _ _  h) ⟨Or.inr rfl, Or.inr rfl, Or.inr rfl, Or.inr rfl, Or.inr rfl, Or.inr rfl, trivial⟩
def f_Mod_layStirred_b126 (k28 : Int → Int → Int → q_Mem → q_Res) (k39 : Int → Int → Int → Int → q_Mem → q_Res) (k72 : Int → Int → Int → Int → Int → q_Mem → q_Res) (l1 l2 l3 l4 l5 s1 s2 : Int) (m : q_Mem) : q_Res :=
  f_Mod_layStirred_b127 k28 k39 k72 l1 l2 l3 l4 l5 s1 s2 0 m
set_option maxRecDepth 20000 in
theorem w_Mod_layStirred_b126 {k28 : Int → Int → Int → q_Mem → q_Res} {k39 : Int → Int → Int → Int → q_Mem → q_Res} {k72 : Int → Int → Int → Int → Int → q_Mem → q_Res} {l1 l2 l3 l4 l5 s1 s2 : Int} {r : Int × q_Mem} {m : q_Mem} {N : Nat} (hN : 126 ≤ N) (hk28 : ∀ (l1 l2 l3 : Int) (m : q_Mem), k28 l1 l2 l3 m = some r → q_E md_X11_layStirred 8 N (none) r m 28 [q_A 81, q_I l1, q_I l2, q_I l3, q_N, q_N] []) (hk39 : ∀ (l1 l2 l3 l4 : Int) (m : q_Mem), k39 l1 l2 l3 l4 m = some r → q_E md_X11_layStirred 8 N (none) r m 39 [q_A 81, q_I l1, q_I l2, q_I l3, q_I l4, q_N] []) (hk72 : ∀ (l1 l2 l3 l4 l5 : Int) (m : q_Mem), k72 l1 l2 l3 l4 l5 m = some r → q_E md_X11_layStirred 8 N (none) r m 72 [q_A 81, q_I l1, q_I l2, q_I l3, q_I l4, q_I l5] []) (h : f_Mod_layStirred_b126 k28 k39 k72 l1 l2 l3 l4 l5 s1 s2 m = some r) : q_E md_X11_layStirred 8 N (none) r m 126 [q_A 81, q_I l1, q_I l2, q_I l3, q_I l4, q_I l5] [q_I s2, q_I s1, q_A 112] := by
  unfold f_Mod_layStirred_b126 at h
  refine q_iconst (M := md_X11_layStirred) (pc := 126) dX11_layStirred_126 ?_
  exact q_weak (w_Mod_layStirred_b127 hN hk28 hk39 hk72  h) ⟨Or.inr rfl, Or.inr rfl, Or.inr rfl, Or.inr rfl, Or.inr rfl, Or.inr rfl, trivial⟩
def f_Mod_layStirred_b135 (k28 : Int → Int → Int → q_Mem → q_Res) (k39 : Int → Int → Int → Int → q_Mem → q_Res) (l1 l2 l3 l4 : Int) (m : q_Mem) : q_Res :=
  k39 l1 l2 l3 (l4 + 1) m
set_option maxRecDepth 20000 in
theorem w_Mod_layStirred_b135 {k28 : Int → Int → Int → q_Mem → q_Res} {k39 : Int → Int → Int → Int → q_Mem → q_Res} {l1 l2 l3 l4 : Int} {r : Int × q_Mem} {m : q_Mem} {N : Nat} (hN : 126 ≤ N) (hk28 : ∀ (l1 l2 l3 : Int) (m : q_Mem), k28 l1 l2 l3 m = some r → q_E md_X11_layStirred 8 N (none) r m 28 [q_A 81, q_I l1, q_I l2, q_I l3, q_N, q_N] []) (hk39 : ∀ (l1 l2 l3 l4 : Int) (m : q_Mem), k39 l1 l2 l3 l4 m = some r → q_E md_X11_layStirred 8 N (none) r m 39 [q_A 81, q_I l1, q_I l2, q_I l3, q_I l4, q_N] []) (h : f_Mod_layStirred_b135 k28 k39 l1 l2 l3 l4 m = some r) : q_E md_X11_layStirred 8 N (none) r m 135 [q_A 81, q_I l1, q_I l2, q_I l3, q_I l4, q_N] [] := by
  unfold f_Mod_layStirred_b135 at h
  refine e_inc (M := md_X11_layStirred) (pc := 135) (x := l4) (ls' := [q_A 81, q_I l1, q_I l2, q_I l3, q_I (l4 + 1), q_N]) dX11_layStirred_135 rfl (by decide) (q_pl rfl) rfl ?_
  refine q_goto (M := md_X11_layStirred) (pc := 138) (tgt := 39) dX11_layStirred_138 (by decide) ?_
  exact q_weak (hk39 _ _ _ _ _  h) ⟨Or.inr rfl, Or.inr rfl, Or.inr rfl, Or.inr rfl, Or.inr rfl, Or.inl rfl, trivial⟩
def f_Mod_layStirred_b72 (k28 : Int → Int → Int → q_Mem → q_Res) (k39 : Int → Int → Int → Int → q_Mem → q_Res) (k72 : Int → Int → Int → Int → Int → q_Mem → q_Res) (l1 l2 l3 l4 l5 : Int) (m : q_Mem) : q_Res :=
  q_bd (f_Mod_many m) fun v1 m2 =>
  if q_w v1 ≤ q_w l5 then (f_Mod_layStirred_b135 k28 k39 l1 l2 l3 l4 m2)
  else (q_dv l4 10 fun v3 =>
  q_md l4 10 fun v4 =>
  q_bd (f_Mod_withReads l5 v3 v4 2 m2) fun v5 m6 =>
  if q_w l4 = q_w l2 then (if q_w l5 = q_w l1 then (f_Mod_layStirred_b127 k28 k39 k72 l1 l2 l3 l4 l5 ((100 * l5) + l4) v5 1 m6)
  else (f_Mod_layStirred_b126 k28 k39 k72 l1 l2 l3 l4 l5 ((100 * l5) + l4) v5 m6))
  else (f_Mod_layStirred_b126 k28 k39 k72 l1 l2 l3 l4 l5 ((100 * l5) + l4) v5 m6))
set_option maxRecDepth 20000 in
theorem w_Mod_layStirred_b72 {k28 : Int → Int → Int → q_Mem → q_Res} {k39 : Int → Int → Int → Int → q_Mem → q_Res} {k72 : Int → Int → Int → Int → Int → q_Mem → q_Res} {l1 l2 l3 l4 l5 : Int} {r : Int × q_Mem} {m : q_Mem} {N : Nat} (hN : 126 ≤ N) (hk28 : ∀ (l1 l2 l3 : Int) (m : q_Mem), k28 l1 l2 l3 m = some r → q_E md_X11_layStirred 8 N (none) r m 28 [q_A 81, q_I l1, q_I l2, q_I l3, q_N, q_N] []) (hk39 : ∀ (l1 l2 l3 l4 : Int) (m : q_Mem), k39 l1 l2 l3 l4 m = some r → q_E md_X11_layStirred 8 N (none) r m 39 [q_A 81, q_I l1, q_I l2, q_I l3, q_I l4, q_N] []) (hk72 : ∀ (l1 l2 l3 l4 l5 : Int) (m : q_Mem), k72 l1 l2 l3 l4 l5 m = some r → q_E md_X11_layStirred 8 N (none) r m 72 [q_A 81, q_I l1, q_I l2, q_I l3, q_I l4, q_I l5] []) (h : f_Mod_layStirred_b72 k28 k39 k72 l1 l2 l3 l4 l5 m = some r) : q_E md_X11_layStirred 8 N (none) r m 72 [q_A 81, q_I l1, q_I l2, q_I l3, q_I l4, q_I l5] [] := by
  unfold f_Mod_layStirred_b72 at h
  refine q_iload (M := md_X11_layStirred) (pc := 72) dX11_layStirred_72 rfl ?_
  refine q_aload_n (M := md_X11_layStirred) (pc := 74) dX11_layStirred_74 rfl (by decide) ?_
  refine e_callVi (M := md_X11_layStirred) (pc := 75) (d' := 1) (av := []) (c := 81) h ml_11_315 im_X11_many se_X11_many dX11_layStirred_75 (fun v he => ok_X11_many hN  he) rfl (is_81 hN) ⟨_, _, rfl⟩ (by decide) (Nat.le_of_ble_eq_true rfl) ⟨by decide, by decide⟩ rfl (fun v1 m2 h => ?_)
  refine e_icmp_ge (M := md_X11_layStirred) (pc := 78) (tgt := 135) h rfl rfl dX11_layStirred_78 (by decide) (fun h => ?_) (fun h => ?_)
  · exact q_weak (w_Mod_layStirred_b135 hN hk28 hk39  h) ⟨Or.inr rfl, Or.inr rfl, Or.inr rfl, Or.inr rfl, Or.inr rfl, Or.inl rfl, trivial⟩
  · refine q_aload_n (M := md_X11_layStirred) (pc := 81) dX11_layStirred_81 rfl (by decide) ?_
    refine q_getP (M := md_X11_layStirred) (pc := 82) (v := 112) fl_11_106 dX11_layStirred_82 (is_81 hN) rfl ?_
    refine q_bipush (M := md_X11_layStirred) (pc := 85) (x := 100) dX11_layStirred_85 (by decide) ?_
    refine q_iload (M := md_X11_layStirred) (pc := 87) dX11_layStirred_87 rfl ?_
    refine q_imul (M := md_X11_layStirred) (pc := 89) dX11_layStirred_89 ?_
    refine q_iload (M := md_X11_layStirred) (pc := 90) dX11_layStirred_90 rfl ?_
    refine q_iadd (M := md_X11_layStirred) (pc := 92) dX11_layStirred_92 ?_
    refine q_aload_n (M := md_X11_layStirred) (pc := 93) dX11_layStirred_93 rfl (by decide) ?_
    refine q_iload (M := md_X11_layStirred) (pc := 94) dX11_layStirred_94 rfl ?_
    refine q_iload (M := md_X11_layStirred) (pc := 96) dX11_layStirred_96 rfl ?_
    refine q_bipush (M := md_X11_layStirred) (pc := 98) (x := 10) dX11_layStirred_98 (by decide) ?_
    refine e_dv (M := md_X11_layStirred) (pc := 100) h dX11_layStirred_100 (fun v3 h => ?_)
    refine q_iload (M := md_X11_layStirred) (pc := 101) dX11_layStirred_101 rfl ?_
    refine q_bipush (M := md_X11_layStirred) (pc := 103) (x := 10) dX11_layStirred_103 (by decide) ?_
    refine e_md (M := md_X11_layStirred) (pc := 105) h dX11_layStirred_105 (fun v4 h => ?_)
    refine q_iconst (M := md_X11_layStirred) (pc := 106) dX11_layStirred_106 ?_
    refine e_callVi (M := md_X11_layStirred) (pc := 107) (d' := 6) (av := [q_I l5, q_I v3, q_I v4, q_I 2]) (c := 81) h ml_11_393 im_X11_withReads se_X11_withReads dX11_layStirred_107 (fun v he => ok_X11_withReads hN  he) rfl (is_81 hN) ⟨_, _, rfl⟩ (by decide) (Nat.le_of_ble_eq_true rfl) ⟨by decide, by decide⟩ rfl (fun v5 m6 h => ?_)
    refine q_iload (M := md_X11_layStirred) (pc := 110) dX11_layStirred_110 rfl ?_
    refine q_iload_n (M := md_X11_layStirred) (pc := 112) dX11_layStirred_112 rfl ?_
    refine e_icmp_ne (M := md_X11_layStirred) (pc := 113) (tgt := 126) h rfl rfl dX11_layStirred_113 (by decide) (fun h => ?_) (fun h => ?_)
    · exact q_weak (w_Mod_layStirred_b126 hN hk28 hk39 hk72  h) ⟨Or.inr rfl, Or.inr rfl, Or.inr rfl, Or.inr rfl, Or.inr rfl, Or.inr rfl, trivial⟩
    · refine q_iload (M := md_X11_layStirred) (pc := 116) dX11_layStirred_116 rfl ?_
      refine q_iload_n (M := md_X11_layStirred) (pc := 118) dX11_layStirred_118 rfl ?_
      refine e_icmp_ne (M := md_X11_layStirred) (pc := 119) (tgt := 126) h rfl rfl dX11_layStirred_119 (by decide) (fun h => ?_) (fun h => ?_)
      · exact q_weak (w_Mod_layStirred_b126 hN hk28 hk39 hk72  h) ⟨Or.inr rfl, Or.inr rfl, Or.inr rfl, Or.inr rfl, Or.inr rfl, Or.inr rfl, trivial⟩
      · refine q_iconst (M := md_X11_layStirred) (pc := 122) dX11_layStirred_122 ?_
        refine q_goto (M := md_X11_layStirred) (pc := 123) (tgt := 127) dX11_layStirred_123 (by decide) ?_
        exact q_weak (w_Mod_layStirred_b127 hN hk28 hk39 hk72  h) ⟨Or.inr rfl, Or.inr rfl, Or.inr rfl, Or.inr rfl, Or.inr rfl, Or.inr rfl, trivial⟩
def f_Mod_layStirred_l72 (k28 : Int → Int → Int → q_Mem → q_Res) (k39 : Int → Int → Int → Int → q_Mem → q_Res) : Nat → Int → Int → Int → Int → Int → q_Mem → q_Res
  | 0 => fun _ _ _ _ _ _ => none
  | n + 1 => fun l1 l2 l3 l4 l5 m => f_Mod_layStirred_b72 k28 k39 (f_Mod_layStirred_l72 k28 k39 n) l1 l2 l3 l4 l5 m
theorem w_Mod_layStirred_l72 {k28 : Int → Int → Int → q_Mem → q_Res} {k39 : Int → Int → Int → Int → q_Mem → q_Res} {r : Int × q_Mem} {N : Nat} (hN : 126 ≤ N) (hk28 : ∀ (l1 l2 l3 : Int) (m : q_Mem), k28 l1 l2 l3 m = some r → q_E md_X11_layStirred 8 N (none) r m 28 [q_A 81, q_I l1, q_I l2, q_I l3, q_N, q_N] []) (hk39 : ∀ (l1 l2 l3 l4 : Int) (m : q_Mem), k39 l1 l2 l3 l4 m = some r → q_E md_X11_layStirred 8 N (none) r m 39 [q_A 81, q_I l1, q_I l2, q_I l3, q_I l4, q_N] []) : ∀ (n : Nat) (l1 l2 l3 l4 l5 : Int) (m : q_Mem), f_Mod_layStirred_l72 k28 k39 n l1 l2 l3 l4 l5 m = some r → q_E md_X11_layStirred 8 N (none) r m 72 [q_A 81, q_I l1, q_I l2, q_I l3, q_I l4, q_I l5] [] := by
  intro n
  induction n with
  | zero => intro l1 l2 l3 l4 l5 m h; exact q_no h
  | succ n ih =>
    intro l1 l2 l3 l4 l5 m h
    exact w_Mod_layStirred_b72 hN hk28 hk39 (fun l1 l2 l3 l4 l5 m h => ih l1 l2 l3 l4 l5 m h) h
def f_Mod_layStirred_b39 (k28 : Int → Int → Int → q_Mem → q_Res) (k39 : Int → Int → Int → Int → q_Mem → q_Res) (l1 l2 l3 l4 : Int) (m : q_Mem) : q_Res :=
  if 100 ≤ q_w l4 then (k28 l1 l2 (l3 + 1) m)
  else (q_bd (f_Mod_isThere l4 m) fun v1 m2 =>
  if q_w v1 = 0 then (f_Mod_layStirred_b135 k28 k39 l1 l2 l3 l4 m2)
  else (q_rd m2 106 100 l4 fun v3 =>
  if q_w v3 = q_w l3 then (f_Mod_layStirred_l72 k28 k39 q_F l1 l2 l3 l4 0 m2)
  else (f_Mod_layStirred_b135 k28 k39 l1 l2 l3 l4 m2)))
set_option maxRecDepth 20000 in
theorem w_Mod_layStirred_b39 {k28 : Int → Int → Int → q_Mem → q_Res} {k39 : Int → Int → Int → Int → q_Mem → q_Res} {l1 l2 l3 l4 : Int} {r : Int × q_Mem} {m : q_Mem} {N : Nat} (hN : 126 ≤ N) (hk28 : ∀ (l1 l2 l3 : Int) (m : q_Mem), k28 l1 l2 l3 m = some r → q_E md_X11_layStirred 8 N (none) r m 28 [q_A 81, q_I l1, q_I l2, q_I l3, q_N, q_N] []) (hk39 : ∀ (l1 l2 l3 l4 : Int) (m : q_Mem), k39 l1 l2 l3 l4 m = some r → q_E md_X11_layStirred 8 N (none) r m 39 [q_A 81, q_I l1, q_I l2, q_I l3, q_I l4, q_N] []) (h : f_Mod_layStirred_b39 k28 k39 l1 l2 l3 l4 m = some r) : q_E md_X11_layStirred 8 N (none) r m 39 [q_A 81, q_I l1, q_I l2, q_I l3, q_I l4, q_N] [] := by
  unfold f_Mod_layStirred_b39 at h
  refine q_iload (M := md_X11_layStirred) (pc := 39) dX11_layStirred_39 rfl ?_
  refine q_bipush (M := md_X11_layStirred) (pc := 41) (x := 100) dX11_layStirred_41 (by decide) ?_
  refine e_icmp_ge (M := md_X11_layStirred) (pc := 43) (tgt := 141) h rfl (q_wlit rfl) dX11_layStirred_43 (by decide) (fun h => ?_) (fun h => ?_)
  · refine e_inc (M := md_X11_layStirred) (pc := 141) (x := l3) (ls' := [q_A 81, q_I l1, q_I l2, q_I (l3 + 1), q_I l4, q_N]) dX11_layStirred_141 rfl (by decide) (q_pl rfl) rfl ?_
    refine q_goto (M := md_X11_layStirred) (pc := 144) (tgt := 28) dX11_layStirred_144 (by decide) ?_
    exact q_weak (hk28 _ _ _ _  h) ⟨Or.inr rfl, Or.inr rfl, Or.inr rfl, Or.inr rfl, Or.inl rfl, Or.inl rfl, trivial⟩
  · refine q_aload_n (M := md_X11_layStirred) (pc := 46) dX11_layStirred_46 rfl (by decide) ?_
    refine q_iload (M := md_X11_layStirred) (pc := 47) dX11_layStirred_47 rfl ?_
    refine e_callVi (M := md_X11_layStirred) (pc := 49) (d' := 3) (av := [q_I l4]) (c := 81) h ml_11_333 im_X11_isThere se_X11_isThere dX11_layStirred_49 (fun v he => ok_X11_isThere hN  he) rfl (is_81 hN) ⟨_, _, rfl⟩ (by decide) (Nat.le_of_ble_eq_true rfl) ⟨by decide, by decide⟩ rfl (fun v1 m2 h => ?_)
    refine e_if_eq (M := md_X11_layStirred) (pc := 52) (tgt := 135) h rfl dX11_layStirred_52 (by decide) (fun h => ?_) (fun h => ?_)
    · exact q_weak (w_Mod_layStirred_b135 hN hk28 hk39  h) ⟨Or.inr rfl, Or.inr rfl, Or.inr rfl, Or.inr rfl, Or.inr rfl, Or.inl rfl, trivial⟩
    · refine q_aload_n (M := md_X11_layStirred) (pc := 55) dX11_layStirred_55 rfl (by decide) ?_
      refine q_getP (M := md_X11_layStirred) (pc := 56) (v := 106) fl_11_87 dX11_layStirred_56 (is_81 hN) rfl ?_
      refine q_iload (M := md_X11_layStirred) (pc := 59) dX11_layStirred_59 rfl ?_
      refine e_rd (M := md_X11_layStirred) (pc := 61) h dX11_layStirred_61 (ar_106 hN) (fun v3 h => ?_)
      refine q_iload_n (M := md_X11_layStirred) (pc := 62) dX11_layStirred_62 rfl ?_
      refine e_icmp_eq (M := md_X11_layStirred) (pc := 63) (tgt := 69) h rfl rfl dX11_layStirred_63 (by decide) (fun h => ?_) (fun h => ?_)
      · refine q_iconst (M := md_X11_layStirred) (pc := 69) dX11_layStirred_69 ?_
        refine e_ist (M := md_X11_layStirred) (pc := 70) (ls' := [q_A 81, q_I l1, q_I l2, q_I l3, q_I l4, q_I 0]) dX11_layStirred_70 (by decide) (q_pl rfl) rfl ?_
        exact q_weak (w_Mod_layStirred_l72 hN hk28 hk39 q_F _ _ _ _ _ _  h) ⟨Or.inr rfl, Or.inr rfl, Or.inr rfl, Or.inr rfl, Or.inr rfl, Or.inr rfl, trivial⟩
      · refine q_goto (M := md_X11_layStirred) (pc := 66) (tgt := 135) dX11_layStirred_66 (by decide) ?_
        exact q_weak (w_Mod_layStirred_b135 hN hk28 hk39  h) ⟨Or.inr rfl, Or.inr rfl, Or.inr rfl, Or.inr rfl, Or.inr rfl, Or.inl rfl, trivial⟩
def f_Mod_layStirred_l39 (k28 : Int → Int → Int → q_Mem → q_Res) : Nat → Int → Int → Int → Int → q_Mem → q_Res
  | 0 => fun _ _ _ _ _ => none
  | n + 1 => fun l1 l2 l3 l4 m => f_Mod_layStirred_b39 k28 (f_Mod_layStirred_l39 k28 n) l1 l2 l3 l4 m
theorem w_Mod_layStirred_l39 {k28 : Int → Int → Int → q_Mem → q_Res} {r : Int × q_Mem} {N : Nat} (hN : 126 ≤ N) (hk28 : ∀ (l1 l2 l3 : Int) (m : q_Mem), k28 l1 l2 l3 m = some r → q_E md_X11_layStirred 8 N (none) r m 28 [q_A 81, q_I l1, q_I l2, q_I l3, q_N, q_N] []) : ∀ (n : Nat) (l1 l2 l3 l4 : Int) (m : q_Mem), f_Mod_layStirred_l39 k28 n l1 l2 l3 l4 m = some r → q_E md_X11_layStirred 8 N (none) r m 39 [q_A 81, q_I l1, q_I l2, q_I l3, q_I l4, q_N] [] := by
  intro n
  induction n with
  | zero => intro l1 l2 l3 l4 m h; exact q_no h
  | succ n ih =>
    intro l1 l2 l3 l4 m h
    exact w_Mod_layStirred_b39 hN hk28 (fun l1 l2 l3 l4 m h => ih l1 l2 l3 l4 m h) h
def f_Mod_layStirred_b28 (k28 : Int → Int → Int → q_Mem → q_Res) (l1 l2 l3 : Int) (m : q_Mem) : q_Res :=
  q_bd (f_Mod_greatestDepth m) fun v1 m2 =>
  if q_w v1 < q_w l3 then (q_rt 0 m2)
  else (f_Mod_layStirred_l39 k28 q_F l1 l2 l3 0 m2)
set_option maxRecDepth 20000 in
theorem w_Mod_layStirred_b28 {k28 : Int → Int → Int → q_Mem → q_Res} {l1 l2 l3 : Int} {r : Int × q_Mem} {m : q_Mem} {N : Nat} (hN : 126 ≤ N) (hk28 : ∀ (l1 l2 l3 : Int) (m : q_Mem), k28 l1 l2 l3 m = some r → q_E md_X11_layStirred 8 N (none) r m 28 [q_A 81, q_I l1, q_I l2, q_I l3, q_N, q_N] []) (h : f_Mod_layStirred_b28 k28 l1 l2 l3 m = some r) : q_E md_X11_layStirred 8 N (none) r m 28 [q_A 81, q_I l1, q_I l2, q_I l3, q_N, q_N] [] := by
  unfold f_Mod_layStirred_b28 at h
  refine q_iload_n (M := md_X11_layStirred) (pc := 28) dX11_layStirred_28 rfl ?_
  refine q_aload_n (M := md_X11_layStirred) (pc := 29) dX11_layStirred_29 rfl (by decide) ?_
  refine e_callVi (M := md_X11_layStirred) (pc := 30) (d' := 4) (av := []) (c := 81) h ml_11_360 im_X11_greatestDepth se_X11_greatestDepth dX11_layStirred_30 (fun v he => ok_X11_greatestDepth hN  he) rfl (is_81 hN) ⟨_, _, rfl⟩ (by decide) (Nat.le_of_ble_eq_true rfl) ⟨by decide, by decide⟩ rfl (fun v1 m2 h => ?_)
  refine e_icmp_gt (M := md_X11_layStirred) (pc := 33) (tgt := 147) h rfl rfl dX11_layStirred_33 (by decide) (fun h => ?_) (fun h => ?_)
  · exact e_vret (M := md_X11_layStirred) (pc := 147) h rfl dX11_layStirred_147
  · refine q_iconst (M := md_X11_layStirred) (pc := 36) dX11_layStirred_36 ?_
    refine e_ist (M := md_X11_layStirred) (pc := 37) (ls' := [q_A 81, q_I l1, q_I l2, q_I l3, q_I 0, q_N]) dX11_layStirred_37 (by decide) (q_pl rfl) rfl ?_
    exact q_weak (w_Mod_layStirred_l39 hN hk28 q_F _ _ _ _ _  h) ⟨Or.inr rfl, Or.inr rfl, Or.inr rfl, Or.inr rfl, Or.inr rfl, Or.inl rfl, trivial⟩
def f_Mod_layStirred_l28 : Nat → Int → Int → Int → q_Mem → q_Res
  | 0 => fun _ _ _ _ => none
  | n + 1 => fun l1 l2 l3 m => f_Mod_layStirred_b28 (f_Mod_layStirred_l28 n) l1 l2 l3 m
theorem w_Mod_layStirred_l28 {r : Int × q_Mem} {N : Nat} (hN : 126 ≤ N) : ∀ (n : Nat) (l1 l2 l3 : Int) (m : q_Mem), f_Mod_layStirred_l28 n l1 l2 l3 m = some r → q_E md_X11_layStirred 8 N (none) r m 28 [q_A 81, q_I l1, q_I l2, q_I l3, q_N, q_N] [] := by
  intro n
  induction n with
  | zero => intro l1 l2 l3 m h; exact q_no h
  | succ n ih =>
    intro l1 l2 l3 m h
    exact w_Mod_layStirred_b28 hN (fun l1 l2 l3 m h => ih l1 l2 l3 m h) h
def f_Mod_layStirred_b6 (k6 : Int → Int → Int → q_Mem → q_Res) (l1 l2 l3 : Int) (m : q_Mem) : q_Res :=
  if 300 ≤ q_w l3 then (f_Mod_layStirred_l28 q_F l1 l2 0 m)
  else (q_wr m 112 300 l3 0 fun m1 =>
  k6 l1 l2 (l3 + 1) m1)
set_option maxRecDepth 20000 in
theorem w_Mod_layStirred_b6 {k6 : Int → Int → Int → q_Mem → q_Res} {l1 l2 l3 : Int} {r : Int × q_Mem} {m : q_Mem} {N : Nat} (hN : 126 ≤ N) (hk6 : ∀ (l1 l2 l3 : Int) (m : q_Mem), k6 l1 l2 l3 m = some r → q_E md_X11_layStirred 8 N (none) r m 6 [q_A 81, q_I l1, q_I l2, q_I l3, q_N, q_N] []) (h : f_Mod_layStirred_b6 k6 l1 l2 l3 m = some r) : q_E md_X11_layStirred 8 N (none) r m 6 [q_A 81, q_I l1, q_I l2, q_I l3, q_N, q_N] [] := by
  unfold f_Mod_layStirred_b6 at h
  refine q_iload_n (M := md_X11_layStirred) (pc := 6) dX11_layStirred_6 rfl ?_
  refine q_sipush (M := md_X11_layStirred) (pc := 7) (x := 300) dX11_layStirred_7 (by decide) ?_
  refine e_icmp_ge (M := md_X11_layStirred) (pc := 10) (tgt := 26) h rfl (q_wlit rfl) dX11_layStirred_10 (by decide) (fun h => ?_) (fun h => ?_)
  · refine q_iconst (M := md_X11_layStirred) (pc := 26) dX11_layStirred_26 ?_
    refine e_ist_n (M := md_X11_layStirred) (pc := 27) (ls' := [q_A 81, q_I l1, q_I l2, q_I 0, q_N, q_N]) dX11_layStirred_27 (by decide) (q_pl rfl) rfl ?_
    exact q_weak (w_Mod_layStirred_l28 hN q_F _ _ _ _  h) ⟨Or.inr rfl, Or.inr rfl, Or.inr rfl, Or.inr rfl, Or.inl rfl, Or.inl rfl, trivial⟩
  · refine q_aload_n (M := md_X11_layStirred) (pc := 13) dX11_layStirred_13 rfl (by decide) ?_
    refine q_getP (M := md_X11_layStirred) (pc := 14) (v := 112) fl_11_106 dX11_layStirred_14 (is_81 hN) rfl ?_
    refine q_iload_n (M := md_X11_layStirred) (pc := 17) dX11_layStirred_17 rfl ?_
    refine q_iconst (M := md_X11_layStirred) (pc := 18) dX11_layStirred_18 ?_
    refine e_wr (M := md_X11_layStirred) (pc := 19) h dX11_layStirred_19 (ar_112 hN) (fun m1 h => ?_)
    refine e_inc (M := md_X11_layStirred) (pc := 20) (x := l3) (ls' := [q_A 81, q_I l1, q_I l2, q_I (l3 + 1), q_N, q_N]) dX11_layStirred_20 rfl (by decide) (q_pl rfl) rfl ?_
    refine q_goto (M := md_X11_layStirred) (pc := 23) (tgt := 6) dX11_layStirred_23 (by decide) ?_
    exact q_weak (hk6 _ _ _ _  h) ⟨Or.inr rfl, Or.inr rfl, Or.inr rfl, Or.inr rfl, Or.inl rfl, Or.inl rfl, trivial⟩
def f_Mod_layStirred_l6 : Nat → Int → Int → Int → q_Mem → q_Res
  | 0 => fun _ _ _ _ => none
  | n + 1 => fun l1 l2 l3 m => f_Mod_layStirred_b6 (f_Mod_layStirred_l6 n) l1 l2 l3 m
theorem w_Mod_layStirred_l6 {r : Int × q_Mem} {N : Nat} (hN : 126 ≤ N) : ∀ (n : Nat) (l1 l2 l3 : Int) (m : q_Mem), f_Mod_layStirred_l6 n l1 l2 l3 m = some r → q_E md_X11_layStirred 8 N (none) r m 6 [q_A 81, q_I l1, q_I l2, q_I l3, q_N, q_N] [] := by
  intro n
  induction n with
  | zero => intro l1 l2 l3 m h; exact q_no h
  | succ n ih =>
    intro l1 l2 l3 m h
    exact w_Mod_layStirred_b6 hN (fun l1 l2 l3 m h => ih l1 l2 l3 m h) h
def f_Mod_layStirred (l1 l2 : Int) (m : q_Mem) : q_Res :=
  q_bd (f_Mod_layValues m) fun _ m1 =>
  f_Mod_layStirred_l6 q_F l1 l2 0 m1
set_option maxRecDepth 20000 in
theorem ok_X11_layStirred {l1 l2 : Int} {r : Int × q_Mem} {m : q_Mem} {N : Nat} (hN : 126 ≤ N) (h : f_Mod_layStirred l1 l2 m = some r) : q_C md_X11_layStirred (q_room 8) 0 0 [q_A 81, q_I l1, q_I l2] (q_g N) m (none, q_g N, r.2) := by
  refine q_ofR (by decide) 3 (ls := [q_A 81, q_I l1, q_I l2, q_N, q_N, q_N]) rfl (Nat.le_of_ble_eq_true rfl) ?_
  change q_E md_X11_layStirred 8 N (none) r m 0 [q_A 81, q_I l1, q_I l2, q_N, q_N, q_N] []
  unfold f_Mod_layStirred at h
  refine q_aload_n (M := md_X11_layStirred) (pc := 0) dX11_layStirred_0 rfl (by decide) ?_
  refine e_callVv (M := md_X11_layStirred) (pc := 1) (d' := 7) (av := []) (c := 81) h ml_11_399 im_X11_layValues se_X11_layValues dX11_layStirred_1 (fun v he => ok_X11_layValues hN  he) rfl (is_81 hN) ⟨_, _, rfl⟩ (by decide) (Nat.le_of_ble_eq_true rfl) ⟨by decide, by decide⟩ rfl (fun _ m1 h => ?_)
  refine q_iconst (M := md_X11_layStirred) (pc := 4) dX11_layStirred_4 ?_
  refine e_ist_n (M := md_X11_layStirred) (pc := 5) (ls' := [q_A 81, q_I l1, q_I l2, q_I 0, q_N, q_N]) dX11_layStirred_5 (by decide) (q_pl rfl) rfl ?_
  exact q_weak (w_Mod_layStirred_l6 hN q_F _ _ _ _  h) ⟨Or.inr rfl, Or.inr rfl, Or.inr rfl, Or.inr rfl, Or.inl rfl, Or.inl rfl, trivial⟩
def f_Mod_canStir (l1 l2 l3 : Int) (m : q_Mem) : q_Res :=
  q_bd (f_Mod_isVariable l1 m) fun v1 m2 =>
  if q_w v1 = 0 then (q_rz 0 m2)
  else (q_bd (f_Mod_isPoint l2 l3 m2) fun v3 m4 =>
  if q_w v3 = 0 then (q_rz 0 m4)
  else (q_bd (f_Mod_layDepths m4) fun _ m5 =>
  q_rd m5 106 100 ((10 * l2) + l3) fun v6 =>
  if q_w v6 < 0 then (q_rz 0 m5)
  else (q_rz 1 m5)))
set_option maxRecDepth 20000 in
theorem ok_X11_canStir {l1 l2 l3 : Int} {r : Int × q_Mem} {m : q_Mem} {N : Nat} (hN : 126 ≤ N) (h : f_Mod_canStir l1 l2 l3 m = some r) : q_C md_X11_canStir (q_room 6) 0 0 [q_A 81, q_I l1, q_I l2, q_I l3] (q_g N) m (some (q_I r.1), q_g N, r.2) := by
  refine q_ofR (by decide) 0 (ls := [q_A 81, q_I l1, q_I l2, q_I l3]) rfl (Nat.le_of_ble_eq_true rfl) ?_
  change q_E md_X11_canStir 6 N (some 0) r m 0 [q_A 81, q_I l1, q_I l2, q_I l3] []
  unfold f_Mod_canStir at h
  refine q_aload_n (M := md_X11_canStir) (pc := 0) dX11_canStir_0 rfl (by decide) ?_
  refine q_iload_n (M := md_X11_canStir) (pc := 1) dX11_canStir_1 rfl ?_
  refine e_callVi (M := md_X11_canStir) (pc := 2) (d' := 2) (av := [q_I l1]) (c := 81) h ml_11_396 im_X11_isVariable se_X11_isVariable dX11_canStir_2 (fun v he => ok_X11_isVariable hN  he) rfl (is_81 hN) ⟨_, _, rfl⟩ (by decide) (Nat.le_of_ble_eq_true rfl) ⟨by decide, by decide⟩ rfl (fun v1 m2 h => ?_)
  refine e_if_eq (M := md_X11_canStir) (pc := 5) (tgt := 17) h rfl dX11_canStir_5 (by decide) (fun h => ?_) (fun h => ?_)
  · refine q_iconst (M := md_X11_canStir) (pc := 17) dX11_canStir_17 ?_
    exact e_zret (M := md_X11_canStir) (pc := 18) h rfl dX11_canStir_18
  · refine q_aload_n (M := md_X11_canStir) (pc := 8) dX11_canStir_8 rfl (by decide) ?_
    refine q_iload_n (M := md_X11_canStir) (pc := 9) dX11_canStir_9 rfl ?_
    refine q_iload_n (M := md_X11_canStir) (pc := 10) dX11_canStir_10 rfl ?_
    refine e_callVi (M := md_X11_canStir) (pc := 11) (d' := 2) (av := [q_I l2, q_I l3]) (c := 81) h ml_11_324 im_X11_isPoint se_X11_isPoint dX11_canStir_11 (fun v he => ok_X11_isPoint hN  he) rfl (is_81 hN) ⟨_, _, rfl⟩ (by decide) (Nat.le_of_ble_eq_true rfl) ⟨by decide, by decide⟩ rfl (fun v3 m4 h => ?_)
    refine e_if_ne (M := md_X11_canStir) (pc := 14) (tgt := 19) h rfl dX11_canStir_14 (by decide) (fun h => ?_) (fun h => ?_)
    · refine q_aload_n (M := md_X11_canStir) (pc := 19) dX11_canStir_19 rfl (by decide) ?_
      refine e_callVv (M := md_X11_canStir) (pc := 20) (d' := 5) (av := []) (c := 81) h ml_11_348 im_X11_layDepths se_X11_layDepths dX11_canStir_20 (fun v he => ok_X11_layDepths hN  he) rfl (is_81 hN) ⟨_, _, rfl⟩ (by decide) (Nat.le_of_ble_eq_true rfl) ⟨by decide, by decide⟩ rfl (fun _ m5 h => ?_)
      refine q_aload_n (M := md_X11_canStir) (pc := 23) dX11_canStir_23 rfl (by decide) ?_
      refine q_getP (M := md_X11_canStir) (pc := 24) (v := 106) fl_11_87 dX11_canStir_24 (is_81 hN) rfl ?_
      refine q_bipush (M := md_X11_canStir) (pc := 27) (x := 10) dX11_canStir_27 (by decide) ?_
      refine q_iload_n (M := md_X11_canStir) (pc := 29) dX11_canStir_29 rfl ?_
      refine q_imul (M := md_X11_canStir) (pc := 30) dX11_canStir_30 ?_
      refine q_iload_n (M := md_X11_canStir) (pc := 31) dX11_canStir_31 rfl ?_
      refine q_iadd (M := md_X11_canStir) (pc := 32) dX11_canStir_32 ?_
      refine e_rd (M := md_X11_canStir) (pc := 33) h dX11_canStir_33 (ar_106 hN) (fun v6 h => ?_)
      refine e_if_lt (M := md_X11_canStir) (pc := 34) (tgt := 41) h rfl dX11_canStir_34 (by decide) (fun h => ?_) (fun h => ?_)
      · refine q_iconst (M := md_X11_canStir) (pc := 41) dX11_canStir_41 ?_
        exact e_zret (M := md_X11_canStir) (pc := 42) h rfl dX11_canStir_42
      · refine q_iconst (M := md_X11_canStir) (pc := 37) dX11_canStir_37 ?_
        refine q_goto (M := md_X11_canStir) (pc := 38) (tgt := 42) dX11_canStir_38 (by decide) ?_
        exact e_zret (M := md_X11_canStir) (pc := 42) h rfl dX11_canStir_42
    · refine q_iconst (M := md_X11_canStir) (pc := 17) dX11_canStir_17 ?_
      exact e_zret (M := md_X11_canStir) (pc := 18) h rfl dX11_canStir_18
def f_Mod_stirs_b90 (k29 : Int → Int → q_Mem → q_Res) (k42 : Int → Int → Int → Int → q_Mem → q_Res) (l4 l5 l7 s0 : Int) (m : q_Mem) : q_Res :=
  k42 l4 l5 s0 (l7 + 1) m
set_option maxRecDepth 20000 in
theorem w_Mod_stirs_b90 {k29 : Int → Int → q_Mem → q_Res} {k42 : Int → Int → Int → Int → q_Mem → q_Res} {l4 l5 l7 s0 : Int} {r : Int × q_Mem} {m : q_Mem} {N : Nat} (hN : 126 ≤ N) (hk29 : ∀ (l4 l5 : Int) (m : q_Mem), k29 l4 l5 m = some r → q_E md_X11_stirs 9 N (some 0) r m 29 [q_A 81, q_N, q_N, q_N, q_I l4, q_I l5, q_N, q_N] []) (hk42 : ∀ (l4 l5 l6 l7 : Int) (m : q_Mem), k42 l4 l5 l6 l7 m = some r → q_E md_X11_stirs 9 N (some 0) r m 42 [q_A 81, q_N, q_N, q_N, q_I l4, q_I l5, q_I l6, q_I l7] []) (h : f_Mod_stirs_b90 k29 k42 l4 l5 l7 s0 m = some r) : q_E md_X11_stirs 9 N (some 0) r m 90 [q_A 81, q_N, q_N, q_N, q_I l4, q_I l5, q_N, q_I l7] [q_I s0] := by
  unfold f_Mod_stirs_b90 at h
  refine e_ist (M := md_X11_stirs) (pc := 90) (ls' := [q_A 81, q_N, q_N, q_N, q_I l4, q_I l5, q_I s0, q_I l7]) dX11_stirs_90 (by decide) (q_pl rfl) rfl ?_
  refine e_inc (M := md_X11_stirs) (pc := 92) (x := l7) (ls' := [q_A 81, q_N, q_N, q_N, q_I l4, q_I l5, q_I s0, q_I (l7 + 1)]) dX11_stirs_92 rfl (by decide) (q_pl rfl) rfl ?_
  refine q_goto (M := md_X11_stirs) (pc := 95) (tgt := 42) dX11_stirs_95 (by decide) ?_
  exact q_weak (hk42 _ _ _ _ _  h) ⟨Or.inr rfl, Or.inl rfl, Or.inl rfl, Or.inl rfl, Or.inr rfl, Or.inr rfl, Or.inr rfl, Or.inr rfl, trivial⟩
def f_Mod_stirs_b85 (k29 : Int → Int → q_Mem → q_Res) (k42 : Int → Int → Int → Int → q_Mem → q_Res) (l4 l5 l7 : Int) (m : q_Mem) : q_Res :=
  f_Mod_stirs_b90 k29 k42 l4 l5 l7 1 m
set_option maxRecDepth 20000 in
theorem w_Mod_stirs_b85 {k29 : Int → Int → q_Mem → q_Res} {k42 : Int → Int → Int → Int → q_Mem → q_Res} {l4 l5 l7 : Int} {r : Int × q_Mem} {m : q_Mem} {N : Nat} (hN : 126 ≤ N) (hk29 : ∀ (l4 l5 : Int) (m : q_Mem), k29 l4 l5 m = some r → q_E md_X11_stirs 9 N (some 0) r m 29 [q_A 81, q_N, q_N, q_N, q_I l4, q_I l5, q_N, q_N] []) (hk42 : ∀ (l4 l5 l6 l7 : Int) (m : q_Mem), k42 l4 l5 l6 l7 m = some r → q_E md_X11_stirs 9 N (some 0) r m 42 [q_A 81, q_N, q_N, q_N, q_I l4, q_I l5, q_I l6, q_I l7] []) (h : f_Mod_stirs_b85 k29 k42 l4 l5 l7 m = some r) : q_E md_X11_stirs 9 N (some 0) r m 85 [q_A 81, q_N, q_N, q_N, q_I l4, q_I l5, q_N, q_I l7] [] := by
  unfold f_Mod_stirs_b85 at h
  refine q_iconst (M := md_X11_stirs) (pc := 85) dX11_stirs_85 ?_
  refine q_goto (M := md_X11_stirs) (pc := 86) (tgt := 90) dX11_stirs_86 (by decide) ?_
  exact q_weak (w_Mod_stirs_b90 hN hk29 hk42  h) ⟨Or.inr rfl, Or.inl rfl, Or.inl rfl, Or.inl rfl, Or.inr rfl, Or.inr rfl, Or.inl rfl, Or.inr rfl, trivial⟩
def f_Mod_stirs_b110 (k29 : Int → Int → q_Mem → q_Res) (l5 s0 s1 : Int) (m : q_Mem) : q_Res :=
  k29 (s0 + s1) (l5 + 1) m
set_option maxRecDepth 20000 in
theorem w_Mod_stirs_b110 {k29 : Int → Int → q_Mem → q_Res} {l5 s0 s1 : Int} {r : Int × q_Mem} {m : q_Mem} {N : Nat} (hN : 126 ≤ N) (hk29 : ∀ (l4 l5 : Int) (m : q_Mem), k29 l4 l5 m = some r → q_E md_X11_stirs 9 N (some 0) r m 29 [q_A 81, q_N, q_N, q_N, q_I l4, q_I l5, q_N, q_N] []) (h : f_Mod_stirs_b110 k29 l5 s0 s1 m = some r) : q_E md_X11_stirs 9 N (some 0) r m 110 [q_A 81, q_N, q_N, q_N, q_N, q_I l5, q_N, q_N] [q_I s1, q_I s0] := by
  unfold f_Mod_stirs_b110 at h
  refine q_iadd (M := md_X11_stirs) (pc := 110) dX11_stirs_110 ?_
  refine e_ist (M := md_X11_stirs) (pc := 111) (ls' := [q_A 81, q_N, q_N, q_N, q_I (s0 + s1), q_I l5, q_N, q_N]) dX11_stirs_111 (by decide) (q_pl rfl) rfl ?_
  refine e_inc (M := md_X11_stirs) (pc := 113) (x := l5) (ls' := [q_A 81, q_N, q_N, q_N, q_I (s0 + s1), q_I (l5 + 1), q_N, q_N]) dX11_stirs_113 rfl (by decide) (q_pl rfl) rfl ?_
  refine q_goto (M := md_X11_stirs) (pc := 116) (tgt := 29) dX11_stirs_116 (by decide) ?_
  exact q_weak (hk29 _ _ _  h) ⟨Or.inr rfl, Or.inl rfl, Or.inl rfl, Or.inl rfl, Or.inr rfl, Or.inr rfl, Or.inl rfl, Or.inl rfl, trivial⟩
def f_Mod_stirs_b42 (k29 : Int → Int → q_Mem → q_Res) (k42 : Int → Int → Int → Int → q_Mem → q_Res) (l4 l5 l6 l7 : Int) (m : q_Mem) : q_Res :=
  q_bd (f_Mod_many m) fun v1 m2 =>
  if q_w v1 ≤ q_w l7 then (if q_w l6 = 0 then (f_Mod_stirs_b110 k29 l5 l4 0 m2)
  else (f_Mod_stirs_b110 k29 l5 l4 1 m2))
  else (if q_w l6 = 0 then (q_rd m2 112 300 ((100 * l7) + l5) fun v3 =>
  q_rd m2 110 300 ((100 * l7) + l5) fun v4 =>
  if q_w v3 = q_w v4 then (f_Mod_stirs_b90 k29 k42 l4 l5 l7 0 m2)
  else (f_Mod_stirs_b85 k29 k42 l4 l5 l7 m2))
  else (f_Mod_stirs_b85 k29 k42 l4 l5 l7 m2))
set_option maxRecDepth 20000 in
theorem w_Mod_stirs_b42 {k29 : Int → Int → q_Mem → q_Res} {k42 : Int → Int → Int → Int → q_Mem → q_Res} {l4 l5 l6 l7 : Int} {r : Int × q_Mem} {m : q_Mem} {N : Nat} (hN : 126 ≤ N) (hk29 : ∀ (l4 l5 : Int) (m : q_Mem), k29 l4 l5 m = some r → q_E md_X11_stirs 9 N (some 0) r m 29 [q_A 81, q_N, q_N, q_N, q_I l4, q_I l5, q_N, q_N] []) (hk42 : ∀ (l4 l5 l6 l7 : Int) (m : q_Mem), k42 l4 l5 l6 l7 m = some r → q_E md_X11_stirs 9 N (some 0) r m 42 [q_A 81, q_N, q_N, q_N, q_I l4, q_I l5, q_I l6, q_I l7] []) (h : f_Mod_stirs_b42 k29 k42 l4 l5 l6 l7 m = some r) : q_E md_X11_stirs 9 N (some 0) r m 42 [q_A 81, q_N, q_N, q_N, q_I l4, q_I l5, q_I l6, q_I l7] [] := by
  unfold f_Mod_stirs_b42 at h
  refine q_iload (M := md_X11_stirs) (pc := 42) dX11_stirs_42 rfl ?_
  refine q_aload_n (M := md_X11_stirs) (pc := 44) dX11_stirs_44 rfl (by decide) ?_
  refine e_callVi (M := md_X11_stirs) (pc := 45) (d' := 1) (av := []) (c := 81) h ml_11_315 im_X11_many se_X11_many dX11_stirs_45 (fun v he => ok_X11_many hN  he) rfl (is_81 hN) ⟨_, _, rfl⟩ (by decide) (Nat.le_of_ble_eq_true rfl) ⟨by decide, by decide⟩ rfl (fun v1 m2 h => ?_)
  refine e_icmp_ge (M := md_X11_stirs) (pc := 48) (tgt := 98) h rfl rfl dX11_stirs_48 (by decide) (fun h => ?_) (fun h => ?_)
  · refine q_iload (M := md_X11_stirs) (pc := 98) dX11_stirs_98 rfl ?_
    refine q_iload (M := md_X11_stirs) (pc := 100) dX11_stirs_100 rfl ?_
    refine e_if_eq (M := md_X11_stirs) (pc := 102) (tgt := 109) h rfl dX11_stirs_102 (by decide) (fun h => ?_) (fun h => ?_)
    · refine q_iconst (M := md_X11_stirs) (pc := 109) dX11_stirs_109 ?_
      exact q_weak (w_Mod_stirs_b110 hN hk29  h) ⟨Or.inr rfl, Or.inl rfl, Or.inl rfl, Or.inl rfl, Or.inl rfl, Or.inr rfl, Or.inl rfl, Or.inl rfl, trivial⟩
    · refine q_iconst (M := md_X11_stirs) (pc := 105) dX11_stirs_105 ?_
      refine q_goto (M := md_X11_stirs) (pc := 106) (tgt := 110) dX11_stirs_106 (by decide) ?_
      exact q_weak (w_Mod_stirs_b110 hN hk29  h) ⟨Or.inr rfl, Or.inl rfl, Or.inl rfl, Or.inl rfl, Or.inl rfl, Or.inr rfl, Or.inl rfl, Or.inl rfl, trivial⟩
  · refine q_iload (M := md_X11_stirs) (pc := 51) dX11_stirs_51 rfl ?_
    refine e_if_ne (M := md_X11_stirs) (pc := 53) (tgt := 85) h rfl dX11_stirs_53 (by decide) (fun h => ?_) (fun h => ?_)
    · exact q_weak (w_Mod_stirs_b85 hN hk29 hk42  h) ⟨Or.inr rfl, Or.inl rfl, Or.inl rfl, Or.inl rfl, Or.inr rfl, Or.inr rfl, Or.inl rfl, Or.inr rfl, trivial⟩
    · refine q_aload_n (M := md_X11_stirs) (pc := 56) dX11_stirs_56 rfl (by decide) ?_
      refine q_getP (M := md_X11_stirs) (pc := 57) (v := 112) fl_11_106 dX11_stirs_57 (is_81 hN) rfl ?_
      refine q_bipush (M := md_X11_stirs) (pc := 60) (x := 100) dX11_stirs_60 (by decide) ?_
      refine q_iload (M := md_X11_stirs) (pc := 62) dX11_stirs_62 rfl ?_
      refine q_imul (M := md_X11_stirs) (pc := 64) dX11_stirs_64 ?_
      refine q_iload (M := md_X11_stirs) (pc := 65) dX11_stirs_65 rfl ?_
      refine q_iadd (M := md_X11_stirs) (pc := 67) dX11_stirs_67 ?_
      refine e_rd (M := md_X11_stirs) (pc := 68) h dX11_stirs_68 (ar_112 hN) (fun v3 h => ?_)
      refine q_aload_n (M := md_X11_stirs) (pc := 69) dX11_stirs_69 rfl (by decide) ?_
      refine q_getP (M := md_X11_stirs) (pc := 70) (v := 110) fl_11_100 dX11_stirs_70 (is_81 hN) rfl ?_
      refine q_bipush (M := md_X11_stirs) (pc := 73) (x := 100) dX11_stirs_73 (by decide) ?_
      refine q_iload (M := md_X11_stirs) (pc := 75) dX11_stirs_75 rfl ?_
      refine q_imul (M := md_X11_stirs) (pc := 77) dX11_stirs_77 ?_
      refine q_iload (M := md_X11_stirs) (pc := 78) dX11_stirs_78 rfl ?_
      refine q_iadd (M := md_X11_stirs) (pc := 80) dX11_stirs_80 ?_
      refine e_rd (M := md_X11_stirs) (pc := 81) h dX11_stirs_81 (ar_110 hN) (fun v4 h => ?_)
      refine e_icmp_eq (M := md_X11_stirs) (pc := 82) (tgt := 89) h rfl rfl dX11_stirs_82 (by decide) (fun h => ?_) (fun h => ?_)
      · refine q_iconst (M := md_X11_stirs) (pc := 89) dX11_stirs_89 ?_
        exact q_weak (w_Mod_stirs_b90 hN hk29 hk42  h) ⟨Or.inr rfl, Or.inl rfl, Or.inl rfl, Or.inl rfl, Or.inr rfl, Or.inr rfl, Or.inl rfl, Or.inr rfl, trivial⟩
      · exact q_weak (w_Mod_stirs_b85 hN hk29 hk42  h) ⟨Or.inr rfl, Or.inl rfl, Or.inl rfl, Or.inl rfl, Or.inr rfl, Or.inr rfl, Or.inl rfl, Or.inr rfl, trivial⟩
def f_Mod_stirs_l42 (k29 : Int → Int → q_Mem → q_Res) : Nat → Int → Int → Int → Int → q_Mem → q_Res
  | 0 => fun _ _ _ _ _ => none
  | n + 1 => fun l4 l5 l6 l7 m => f_Mod_stirs_b42 k29 (f_Mod_stirs_l42 k29 n) l4 l5 l6 l7 m
theorem w_Mod_stirs_l42 {k29 : Int → Int → q_Mem → q_Res} {r : Int × q_Mem} {N : Nat} (hN : 126 ≤ N) (hk29 : ∀ (l4 l5 : Int) (m : q_Mem), k29 l4 l5 m = some r → q_E md_X11_stirs 9 N (some 0) r m 29 [q_A 81, q_N, q_N, q_N, q_I l4, q_I l5, q_N, q_N] []) : ∀ (n : Nat) (l4 l5 l6 l7 : Int) (m : q_Mem), f_Mod_stirs_l42 k29 n l4 l5 l6 l7 m = some r → q_E md_X11_stirs 9 N (some 0) r m 42 [q_A 81, q_N, q_N, q_N, q_I l4, q_I l5, q_I l6, q_I l7] [] := by
  intro n
  induction n with
  | zero => intro l4 l5 l6 l7 m h; exact q_no h
  | succ n ih =>
    intro l4 l5 l6 l7 m h
    exact w_Mod_stirs_b42 hN hk29 (fun l4 l5 l6 l7 m h => ih l4 l5 l6 l7 m h) h
def f_Mod_stirs_b29 (k29 : Int → Int → q_Mem → q_Res) (l4 l5 : Int) (m : q_Mem) : q_Res :=
  if 100 ≤ q_w l5 then (q_rt l4 m)
  else (f_Mod_stirs_l42 k29 q_F l4 l5 0 0 m)
set_option maxRecDepth 20000 in
theorem w_Mod_stirs_b29 {k29 : Int → Int → q_Mem → q_Res} {l4 l5 : Int} {r : Int × q_Mem} {m : q_Mem} {N : Nat} (hN : 126 ≤ N) (hk29 : ∀ (l4 l5 : Int) (m : q_Mem), k29 l4 l5 m = some r → q_E md_X11_stirs 9 N (some 0) r m 29 [q_A 81, q_N, q_N, q_N, q_I l4, q_I l5, q_N, q_N] []) (h : f_Mod_stirs_b29 k29 l4 l5 m = some r) : q_E md_X11_stirs 9 N (some 0) r m 29 [q_A 81, q_N, q_N, q_N, q_I l4, q_I l5, q_N, q_N] [] := by
  unfold f_Mod_stirs_b29 at h
  refine q_iload (M := md_X11_stirs) (pc := 29) dX11_stirs_29 rfl ?_
  refine q_bipush (M := md_X11_stirs) (pc := 31) (x := 100) dX11_stirs_31 (by decide) ?_
  refine e_icmp_ge (M := md_X11_stirs) (pc := 33) (tgt := 119) h rfl (q_wlit rfl) dX11_stirs_33 (by decide) (fun h => ?_) (fun h => ?_)
  · refine q_iload (M := md_X11_stirs) (pc := 119) dX11_stirs_119 rfl ?_
    exact e_iret (M := md_X11_stirs) (pc := 121) h rfl dX11_stirs_121
  · refine q_iconst (M := md_X11_stirs) (pc := 36) dX11_stirs_36 ?_
    refine e_ist (M := md_X11_stirs) (pc := 37) (ls' := [q_A 81, q_N, q_N, q_N, q_I l4, q_I l5, q_I 0, q_N]) dX11_stirs_37 (by decide) (q_pl rfl) rfl ?_
    refine q_iconst (M := md_X11_stirs) (pc := 39) dX11_stirs_39 ?_
    refine e_ist (M := md_X11_stirs) (pc := 40) (ls' := [q_A 81, q_N, q_N, q_N, q_I l4, q_I l5, q_I 0, q_I 0]) dX11_stirs_40 (by decide) (q_pl rfl) rfl ?_
    exact q_weak (w_Mod_stirs_l42 hN hk29 q_F _ _ _ _ _  h) ⟨Or.inr rfl, Or.inl rfl, Or.inl rfl, Or.inl rfl, Or.inr rfl, Or.inr rfl, Or.inr rfl, Or.inr rfl, trivial⟩
def f_Mod_stirs_l29 : Nat → Int → Int → q_Mem → q_Res
  | 0 => fun _ _ _ => none
  | n + 1 => fun l4 l5 m => f_Mod_stirs_b29 (f_Mod_stirs_l29 n) l4 l5 m
theorem w_Mod_stirs_l29 {r : Int × q_Mem} {N : Nat} (hN : 126 ≤ N) : ∀ (n : Nat) (l4 l5 : Int) (m : q_Mem), f_Mod_stirs_l29 n l4 l5 m = some r → q_E md_X11_stirs 9 N (some 0) r m 29 [q_A 81, q_N, q_N, q_N, q_I l4, q_I l5, q_N, q_N] [] := by
  intro n
  induction n with
  | zero => intro l4 l5 m h; exact q_no h
  | succ n ih =>
    intro l4 l5 m h
    exact w_Mod_stirs_b29 hN (fun l4 l5 m h => ih l4 l5 m h) h
def f_Mod_stirs (l1 l2 l3 : Int) (m : q_Mem) : q_Res :=
  q_bd (f_Mod_canStir l1 l2 l3 m) fun v1 m2 =>
  if q_w v1 = 0 then (q_rt (-1) m2)
  else (q_bd (f_Mod_layStirred l1 ((10 * l2) + l3) m2) fun _ m3 =>
  f_Mod_stirs_l29 q_F 0 0 m3)
set_option maxRecDepth 20000 in
theorem ok_X11_stirs {l1 l2 l3 : Int} {r : Int × q_Mem} {m : q_Mem} {N : Nat} (hN : 126 ≤ N) (h : f_Mod_stirs l1 l2 l3 m = some r) : q_C md_X11_stirs (q_room 9) 0 0 [q_A 81, q_I l1, q_I l2, q_I l3] (q_g N) m (some (q_I r.1), q_g N, r.2) := by
  refine q_ofR (by decide) 4 (ls := [q_A 81, q_I l1, q_I l2, q_I l3, q_N, q_N, q_N, q_N]) rfl (Nat.le_of_ble_eq_true rfl) ?_
  change q_E md_X11_stirs 9 N (some 0) r m 0 [q_A 81, q_I l1, q_I l2, q_I l3, q_N, q_N, q_N, q_N] []
  unfold f_Mod_stirs at h
  refine q_aload_n (M := md_X11_stirs) (pc := 0) dX11_stirs_0 rfl (by decide) ?_
  refine q_iload_n (M := md_X11_stirs) (pc := 1) dX11_stirs_1 rfl ?_
  refine q_iload_n (M := md_X11_stirs) (pc := 2) dX11_stirs_2 rfl ?_
  refine q_iload_n (M := md_X11_stirs) (pc := 3) dX11_stirs_3 rfl ?_
  refine e_callVi (M := md_X11_stirs) (pc := 4) (d' := 6) (av := [q_I l1, q_I l2, q_I l3]) (c := 81) h ml_11_402 im_X11_canStir se_X11_canStir dX11_stirs_4 (fun v he => ok_X11_canStir hN  he) rfl (is_81 hN) ⟨_, _, rfl⟩ (by decide) (Nat.le_of_ble_eq_true rfl) ⟨by decide, by decide⟩ rfl (fun v1 m2 h => ?_)
  refine e_if_ne (M := md_X11_stirs) (pc := 7) (tgt := 12) h rfl dX11_stirs_7 (by decide) (fun h => ?_) (fun h => ?_)
  · refine q_aload_n (M := md_X11_stirs) (pc := 12) dX11_stirs_12 rfl (by decide) ?_
    refine q_iload_n (M := md_X11_stirs) (pc := 13) dX11_stirs_13 rfl ?_
    refine q_bipush (M := md_X11_stirs) (pc := 14) (x := 10) dX11_stirs_14 (by decide) ?_
    refine q_iload_n (M := md_X11_stirs) (pc := 16) dX11_stirs_16 rfl ?_
    refine q_imul (M := md_X11_stirs) (pc := 17) dX11_stirs_17 ?_
    refine q_iload_n (M := md_X11_stirs) (pc := 18) dX11_stirs_18 rfl ?_
    refine q_iadd (M := md_X11_stirs) (pc := 19) dX11_stirs_19 ?_
    refine e_callVv (M := md_X11_stirs) (pc := 20) (d' := 8) (av := [q_I l1, q_I ((10 * l2) + l3)]) (c := 81) h ml_11_405 im_X11_layStirred se_X11_layStirred dX11_stirs_20 (fun v he => ok_X11_layStirred hN  he) rfl (is_81 hN) ⟨_, _, rfl⟩ (by decide) (Nat.le_of_ble_eq_true rfl) ⟨by decide, by decide⟩ rfl (fun _ m3 h => ?_)
    refine q_iconst (M := md_X11_stirs) (pc := 23) dX11_stirs_23 ?_
    refine e_ist (M := md_X11_stirs) (pc := 24) (ls' := [q_A 81, q_I l1, q_I l2, q_I l3, q_I 0, q_N, q_N, q_N]) dX11_stirs_24 (by decide) (q_pl rfl) rfl ?_
    refine q_iconst (M := md_X11_stirs) (pc := 26) dX11_stirs_26 ?_
    refine e_ist (M := md_X11_stirs) (pc := 27) (ls' := [q_A 81, q_I l1, q_I l2, q_I l3, q_I 0, q_I 0, q_N, q_N]) dX11_stirs_27 (by decide) (q_pl rfl) rfl ?_
    exact q_weak (w_Mod_stirs_l29 hN q_F _ _ _  h) ⟨Or.inr rfl, Or.inl rfl, Or.inl rfl, Or.inl rfl, Or.inr rfl, Or.inr rfl, Or.inl rfl, Or.inl rfl, trivial⟩
  · refine q_iconst (M := md_X11_stirs) (pc := 10) dX11_stirs_10 ?_
    exact e_iret (M := md_X11_stirs) (pc := 11) h rfl dX11_stirs_11
def f_Mod_stirred (l1 l2 l3 : Int) (m : q_Mem) : q_Res :=
  q_bd (f_Mod_canStir l1 l2 l3 m) fun v1 m2 =>
  if q_w v1 = 0 then (q_rt 0 m2)
  else (q_bd (f_Mod_layStirred l1 ((10 * l2) + l3) m2) fun _ m3 =>
  q_bd (f_Mod_rowsNow m3) fun v4 m5 =>
  q_bd (f_Mod_columnsNow m5) fun v6 m7 =>
  q_rd m7 112 300 ((((100 * l1) + (10 * (v4 - 1))) + v6) - 1) fun v8 =>
  q_rt v8 m7)
set_option maxRecDepth 20000 in
theorem ok_X11_stirred {l1 l2 l3 : Int} {r : Int × q_Mem} {m : q_Mem} {N : Nat} (hN : 126 ≤ N) (h : f_Mod_stirred l1 l2 l3 m = some r) : q_C md_X11_stirred (q_room 9) 0 0 [q_A 81, q_I l1, q_I l2, q_I l3] (q_g N) m (some (q_I r.1), q_g N, r.2) := by
  refine q_ofR (by decide) 0 (ls := [q_A 81, q_I l1, q_I l2, q_I l3]) rfl (Nat.le_of_ble_eq_true rfl) ?_
  change q_E md_X11_stirred 9 N (some 0) r m 0 [q_A 81, q_I l1, q_I l2, q_I l3] []
  unfold f_Mod_stirred at h
  refine q_aload_n (M := md_X11_stirred) (pc := 0) dX11_stirred_0 rfl (by decide) ?_
  refine q_iload_n (M := md_X11_stirred) (pc := 1) dX11_stirred_1 rfl ?_
  refine q_iload_n (M := md_X11_stirred) (pc := 2) dX11_stirred_2 rfl ?_
  refine q_iload_n (M := md_X11_stirred) (pc := 3) dX11_stirred_3 rfl ?_
  refine e_callVi (M := md_X11_stirred) (pc := 4) (d' := 6) (av := [q_I l1, q_I l2, q_I l3]) (c := 81) h ml_11_402 im_X11_canStir se_X11_canStir dX11_stirred_4 (fun v he => ok_X11_canStir hN  he) rfl (is_81 hN) ⟨_, _, rfl⟩ (by decide) (Nat.le_of_ble_eq_true rfl) ⟨by decide, by decide⟩ rfl (fun v1 m2 h => ?_)
  refine e_if_ne (M := md_X11_stirred) (pc := 7) (tgt := 12) h rfl dX11_stirred_7 (by decide) (fun h => ?_) (fun h => ?_)
  · refine q_aload_n (M := md_X11_stirred) (pc := 12) dX11_stirred_12 rfl (by decide) ?_
    refine q_iload_n (M := md_X11_stirred) (pc := 13) dX11_stirred_13 rfl ?_
    refine q_bipush (M := md_X11_stirred) (pc := 14) (x := 10) dX11_stirred_14 (by decide) ?_
    refine q_iload_n (M := md_X11_stirred) (pc := 16) dX11_stirred_16 rfl ?_
    refine q_imul (M := md_X11_stirred) (pc := 17) dX11_stirred_17 ?_
    refine q_iload_n (M := md_X11_stirred) (pc := 18) dX11_stirred_18 rfl ?_
    refine q_iadd (M := md_X11_stirred) (pc := 19) dX11_stirred_19 ?_
    refine e_callVv (M := md_X11_stirred) (pc := 20) (d' := 8) (av := [q_I l1, q_I ((10 * l2) + l3)]) (c := 81) h ml_11_405 im_X11_layStirred se_X11_layStirred dX11_stirred_20 (fun v he => ok_X11_layStirred hN  he) rfl (is_81 hN) ⟨_, _, rfl⟩ (by decide) (Nat.le_of_ble_eq_true rfl) ⟨by decide, by decide⟩ rfl (fun _ m3 h => ?_)
    refine q_aload_n (M := md_X11_stirred) (pc := 23) dX11_stirred_23 rfl (by decide) ?_
    refine q_getP (M := md_X11_stirred) (pc := 24) (v := 112) fl_11_106 dX11_stirred_24 (is_81 hN) rfl ?_
    refine q_bipush (M := md_X11_stirred) (pc := 27) (x := 100) dX11_stirred_27 (by decide) ?_
    refine q_iload_n (M := md_X11_stirred) (pc := 29) dX11_stirred_29 rfl ?_
    refine q_imul (M := md_X11_stirred) (pc := 30) dX11_stirred_30 ?_
    refine q_bipush (M := md_X11_stirred) (pc := 31) (x := 10) dX11_stirred_31 (by decide) ?_
    refine q_aload_n (M := md_X11_stirred) (pc := 33) dX11_stirred_33 rfl (by decide) ?_
    refine e_callVi (M := md_X11_stirred) (pc := 34) (d' := 1) (av := []) (c := 81) h ml_11_318 im_X11_rowsNow se_X11_rowsNow dX11_stirred_34 (fun v he => ok_X11_rowsNow hN  he) rfl (is_81 hN) ⟨_, _, rfl⟩ (by decide) (Nat.le_of_ble_eq_true rfl) ⟨by decide, by decide⟩ rfl (fun v4 m5 h => ?_)
    refine q_iconst (M := md_X11_stirred) (pc := 37) dX11_stirred_37 ?_
    refine q_isub (M := md_X11_stirred) (pc := 38) dX11_stirred_38 ?_
    refine q_imul (M := md_X11_stirred) (pc := 39) dX11_stirred_39 ?_
    refine q_iadd (M := md_X11_stirred) (pc := 40) dX11_stirred_40 ?_
    refine q_aload_n (M := md_X11_stirred) (pc := 41) dX11_stirred_41 rfl (by decide) ?_
    refine e_callVi (M := md_X11_stirred) (pc := 42) (d' := 1) (av := []) (c := 81) h ml_11_321 im_X11_columnsNow se_X11_columnsNow dX11_stirred_42 (fun v he => ok_X11_columnsNow hN  he) rfl (is_81 hN) ⟨_, _, rfl⟩ (by decide) (Nat.le_of_ble_eq_true rfl) ⟨by decide, by decide⟩ rfl (fun v6 m7 h => ?_)
    refine q_iadd (M := md_X11_stirred) (pc := 45) dX11_stirred_45 ?_
    refine q_iconst (M := md_X11_stirred) (pc := 46) dX11_stirred_46 ?_
    refine q_isub (M := md_X11_stirred) (pc := 47) dX11_stirred_47 ?_
    refine e_rd (M := md_X11_stirred) (pc := 48) h dX11_stirred_48 (ar_112 hN) (fun v8 h => ?_)
    exact e_iret (M := md_X11_stirred) (pc := 49) h rfl dX11_stirred_49
  · refine q_iconst (M := md_X11_stirred) (pc := 10) dX11_stirred_10 ?_
    exact e_iret (M := md_X11_stirred) (pc := 11) h rfl dX11_stirred_11
def f_Mod_total_b17 (l2 : Int) (m : q_Mem) : q_Res :=
  if q_w l2 = 3 then (q_rt (-1) m)
  else (q_rt 0 m)
set_option maxRecDepth 20000 in
theorem w_Mod_total_b17 {l2 : Int} {r : Int × q_Mem} {m : q_Mem} {N : Nat} (hN : 126 ≤ N) (h : f_Mod_total_b17 l2 m = some r) : q_E md_X11_total 8 N (some 0) r m 17 [q_N, q_N, q_I l2, q_N, q_N, q_N, q_N, q_N] [] := by
  unfold f_Mod_total_b17 at h
  refine q_iload_n (M := md_X11_total) (pc := 17) dX11_total_17 rfl ?_
  refine q_iconst (M := md_X11_total) (pc := 18) dX11_total_18 ?_
  refine e_icmp_ne (M := md_X11_total) (pc := 19) (tgt := 26) h rfl (q_wlit rfl) dX11_total_19 (by decide) (fun h => ?_) (fun h => ?_)
  · refine q_iconst (M := md_X11_total) (pc := 26) dX11_total_26 ?_
    exact e_iret (M := md_X11_total) (pc := 27) h rfl dX11_total_27
  · refine q_iconst (M := md_X11_total) (pc := 22) dX11_total_22 ?_
    refine q_goto (M := md_X11_total) (pc := 23) (tgt := 27) dX11_total_23 (by decide) ?_
    exact e_iret (M := md_X11_total) (pc := 27) h rfl dX11_total_27
def f_Mod_total_b143 (k43 : Int → Int → Int → Int → Int → Int → q_Mem → q_Res) (l1 l2 l3 l4 l5 l6 : Int) (m : q_Mem) : q_Res :=
  k43 l1 l2 l3 l4 l5 (l6 + 1) m
set_option maxRecDepth 20000 in
theorem w_Mod_total_b143 {k43 : Int → Int → Int → Int → Int → Int → q_Mem → q_Res} {l1 l2 l3 l4 l5 l6 : Int} {r : Int × q_Mem} {m : q_Mem} {N : Nat} (hN : 126 ≤ N) (hk43 : ∀ (l1 l2 l3 l4 l5 l6 : Int) (m : q_Mem), k43 l1 l2 l3 l4 l5 l6 m = some r → q_E md_X11_total 8 N (some 0) r m 43 [q_A 81, q_I l1, q_I l2, q_I l3, q_I l4, q_I l5, q_I l6, q_N] []) (h : f_Mod_total_b143 k43 l1 l2 l3 l4 l5 l6 m = some r) : q_E md_X11_total 8 N (some 0) r m 143 [q_A 81, q_I l1, q_I l2, q_I l3, q_I l4, q_I l5, q_I l6, q_N] [] := by
  unfold f_Mod_total_b143 at h
  refine e_inc (M := md_X11_total) (pc := 143) (x := l6) (ls' := [q_A 81, q_I l1, q_I l2, q_I l3, q_I l4, q_I l5, q_I (l6 + 1), q_N]) dX11_total_143 rfl (by decide) (q_pl rfl) rfl ?_
  refine q_goto (M := md_X11_total) (pc := 146) (tgt := 43) dX11_total_146 (by decide) ?_
  exact q_weak (hk43 _ _ _ _ _ _ _  h) ⟨Or.inr rfl, Or.inr rfl, Or.inr rfl, Or.inr rfl, Or.inr rfl, Or.inr rfl, Or.inr rfl, Or.inl rfl, trivial⟩
def f_Mod_total_b139 (k43 : Int → Int → Int → Int → Int → Int → q_Mem → q_Res) (l1 l2 l3 l4 l6 : Int) (m : q_Mem) : q_Res :=
  f_Mod_total_b143 k43 l1 l2 l3 l4 l6 l6 m
set_option maxRecDepth 20000 in
theorem w_Mod_total_b139 {k43 : Int → Int → Int → Int → Int → Int → q_Mem → q_Res} {l1 l2 l3 l4 l6 : Int} {r : Int × q_Mem} {m : q_Mem} {N : Nat} (hN : 126 ≤ N) (hk43 : ∀ (l1 l2 l3 l4 l5 l6 : Int) (m : q_Mem), k43 l1 l2 l3 l4 l5 l6 m = some r → q_E md_X11_total 8 N (some 0) r m 43 [q_A 81, q_I l1, q_I l2, q_I l3, q_I l4, q_I l5, q_I l6, q_N] []) (h : f_Mod_total_b139 k43 l1 l2 l3 l4 l6 m = some r) : q_E md_X11_total 8 N (some 0) r m 139 [q_A 81, q_I l1, q_I l2, q_I l3, q_I l4, q_N, q_I l6, q_N] [] := by
  unfold f_Mod_total_b139 at h
  refine q_iload (M := md_X11_total) (pc := 139) dX11_total_139 rfl ?_
  refine e_ist (M := md_X11_total) (pc := 141) (ls' := [q_A 81, q_I l1, q_I l2, q_I l3, q_I l4, q_I l6, q_I l6, q_N]) dX11_total_141 (by decide) (q_pl rfl) rfl ?_
  exact q_weak (w_Mod_total_b143 hN hk43  h) ⟨Or.inr rfl, Or.inr rfl, Or.inr rfl, Or.inr rfl, Or.inr rfl, Or.inr rfl, Or.inr rfl, Or.inl rfl, trivial⟩
def f_Mod_total_b117 (k43 : Int → Int → Int → Int → Int → Int → q_Mem → q_Res) (l1 l2 l3 l4 l5 l6 l7 : Int) (m : q_Mem) : q_Res :=
  if q_w l5 < 0 then (f_Mod_total_b139 k43 l1 l2 l3 l4 l6 m)
  else (q_rd m 110 300 ((100 * l1) + l5) fun v1 =>
  if q_w v1 ≤ q_w l7 then (f_Mod_total_b143 k43 l1 l2 l3 l4 l5 l6 m)
  else (f_Mod_total_b139 k43 l1 l2 l3 l4 l6 m))
set_option maxRecDepth 20000 in
theorem w_Mod_total_b117 {k43 : Int → Int → Int → Int → Int → Int → q_Mem → q_Res} {l1 l2 l3 l4 l5 l6 l7 : Int} {r : Int × q_Mem} {m : q_Mem} {N : Nat} (hN : 126 ≤ N) (hk43 : ∀ (l1 l2 l3 l4 l5 l6 : Int) (m : q_Mem), k43 l1 l2 l3 l4 l5 l6 m = some r → q_E md_X11_total 8 N (some 0) r m 43 [q_A 81, q_I l1, q_I l2, q_I l3, q_I l4, q_I l5, q_I l6, q_N] []) (h : f_Mod_total_b117 k43 l1 l2 l3 l4 l5 l6 l7 m = some r) : q_E md_X11_total 8 N (some 0) r m 117 [q_A 81, q_I l1, q_I l2, q_I l3, q_I l4, q_I l5, q_I l6, q_I l7] [] := by
  unfold f_Mod_total_b117 at h
  refine q_iload (M := md_X11_total) (pc := 117) dX11_total_117 rfl ?_
  refine e_if_lt (M := md_X11_total) (pc := 119) (tgt := 139) h rfl dX11_total_119 (by decide) (fun h => ?_) (fun h => ?_)
  · exact q_weak (w_Mod_total_b139 hN hk43  h) ⟨Or.inr rfl, Or.inr rfl, Or.inr rfl, Or.inr rfl, Or.inr rfl, Or.inl rfl, Or.inr rfl, Or.inl rfl, trivial⟩
  · refine q_iload (M := md_X11_total) (pc := 122) dX11_total_122 rfl ?_
    refine q_aload_n (M := md_X11_total) (pc := 124) dX11_total_124 rfl (by decide) ?_
    refine q_getP (M := md_X11_total) (pc := 125) (v := 110) fl_11_100 dX11_total_125 (is_81 hN) rfl ?_
    refine q_bipush (M := md_X11_total) (pc := 128) (x := 100) dX11_total_128 (by decide) ?_
    refine q_iload_n (M := md_X11_total) (pc := 130) dX11_total_130 rfl ?_
    refine q_imul (M := md_X11_total) (pc := 131) dX11_total_131 ?_
    refine q_iload (M := md_X11_total) (pc := 132) dX11_total_132 rfl ?_
    refine q_iadd (M := md_X11_total) (pc := 134) dX11_total_134 ?_
    refine e_rd (M := md_X11_total) (pc := 135) h dX11_total_135 (ar_110 hN) (fun v1 h => ?_)
    refine e_icmp_ge (M := md_X11_total) (pc := 136) (tgt := 143) h rfl rfl dX11_total_136 (by decide) (fun h => ?_) (fun h => ?_)
    · exact q_weak (w_Mod_total_b143 hN hk43  h) ⟨Or.inr rfl, Or.inr rfl, Or.inr rfl, Or.inr rfl, Or.inr rfl, Or.inr rfl, Or.inr rfl, Or.inl rfl, trivial⟩
    · exact q_weak (w_Mod_total_b139 hN hk43  h) ⟨Or.inr rfl, Or.inr rfl, Or.inr rfl, Or.inr rfl, Or.inr rfl, Or.inl rfl, Or.inr rfl, Or.inl rfl, trivial⟩
def f_Mod_total_b113 (k43 : Int → Int → Int → Int → Int → Int → q_Mem → q_Res) (l1 l2 l3 l5 l6 l7 : Int) (m : q_Mem) : q_Res :=
  f_Mod_total_b117 k43 l1 l2 l3 l6 l5 l6 l7 m
set_option maxRecDepth 20000 in
theorem w_Mod_total_b113 {k43 : Int → Int → Int → Int → Int → Int → q_Mem → q_Res} {l1 l2 l3 l5 l6 l7 : Int} {r : Int × q_Mem} {m : q_Mem} {N : Nat} (hN : 126 ≤ N) (hk43 : ∀ (l1 l2 l3 l4 l5 l6 : Int) (m : q_Mem), k43 l1 l2 l3 l4 l5 l6 m = some r → q_E md_X11_total 8 N (some 0) r m 43 [q_A 81, q_I l1, q_I l2, q_I l3, q_I l4, q_I l5, q_I l6, q_N] []) (h : f_Mod_total_b113 k43 l1 l2 l3 l5 l6 l7 m = some r) : q_E md_X11_total 8 N (some 0) r m 113 [q_A 81, q_I l1, q_I l2, q_I l3, q_N, q_I l5, q_I l6, q_I l7] [] := by
  unfold f_Mod_total_b113 at h
  refine q_iload (M := md_X11_total) (pc := 113) dX11_total_113 rfl ?_
  refine e_ist (M := md_X11_total) (pc := 115) (ls' := [q_A 81, q_I l1, q_I l2, q_I l3, q_I l6, q_I l5, q_I l6, q_I l7]) dX11_total_115 (by decide) (q_pl rfl) rfl ?_
  exact q_weak (w_Mod_total_b117 hN hk43  h) ⟨Or.inr rfl, Or.inr rfl, Or.inr rfl, Or.inr rfl, Or.inr rfl, Or.inr rfl, Or.inr rfl, Or.inr rfl, trivial⟩
def f_Mod_total_b158 (l2 l3 l4 : Int) (m : q_Mem) : q_Res :=
  if q_w l2 = 0 then (q_rt l3 m)
  else (q_rt l4 m)
set_option maxRecDepth 20000 in
theorem w_Mod_total_b158 {l2 l3 l4 : Int} {r : Int × q_Mem} {m : q_Mem} {N : Nat} (hN : 126 ≤ N) (h : f_Mod_total_b158 l2 l3 l4 m = some r) : q_E md_X11_total 8 N (some 0) r m 158 [q_N, q_N, q_I l2, q_I l3, q_I l4, q_N, q_N, q_N] [] := by
  unfold f_Mod_total_b158 at h
  refine q_iload_n (M := md_X11_total) (pc := 158) dX11_total_158 rfl ?_
  refine e_if_ne (M := md_X11_total) (pc := 159) (tgt := 166) h rfl dX11_total_159 (by decide) (fun h => ?_) (fun h => ?_)
  · refine q_iload (M := md_X11_total) (pc := 166) dX11_total_166 rfl ?_
    exact e_iret (M := md_X11_total) (pc := 168) h rfl dX11_total_168
  · refine q_iload_n (M := md_X11_total) (pc := 162) dX11_total_162 rfl ?_
    refine q_goto (M := md_X11_total) (pc := 163) (tgt := 168) dX11_total_163 (by decide) ?_
    exact e_iret (M := md_X11_total) (pc := 168) h rfl dX11_total_168
def f_Mod_total_b196 (s1 s2 : Int) (m : q_Mem) : q_Res :=
  q_rd m 110 300 (s1 + s2) fun v1 =>
  q_rt v1 m
set_option maxRecDepth 20000 in
theorem w_Mod_total_b196 {s1 s2 : Int} {r : Int × q_Mem} {m : q_Mem} {N : Nat} (hN : 126 ≤ N) (h : f_Mod_total_b196 s1 s2 m = some r) : q_E md_X11_total 8 N (some 0) r m 196 [q_N, q_N, q_N, q_N, q_N, q_N, q_N, q_N] [q_I s2, q_I s1, q_A 110] := by
  unfold f_Mod_total_b196 at h
  refine q_iadd (M := md_X11_total) (pc := 196) dX11_total_196 ?_
  refine e_rd (M := md_X11_total) (pc := 197) h dX11_total_197 (ar_110 hN) (fun v1 h => ?_)
  exact e_iret (M := md_X11_total) (pc := 198) h rfl dX11_total_198
def f_Mod_total_b43 (k43 : Int → Int → Int → Int → Int → Int → q_Mem → q_Res) (l1 l2 l3 l4 l5 l6 : Int) (m : q_Mem) : q_Res :=
  if 100 ≤ q_w l6 then (if q_w l2 = 0 then (f_Mod_total_b158 l2 l3 l4 m)
  else (if q_w l2 = 3 then (f_Mod_total_b158 l2 l3 l4 m)
  else (if 0 ≤ q_w l4 then (if q_w l2 = 1 then (f_Mod_total_b196 (100 * l1) l4 m)
  else (f_Mod_total_b196 (100 * l1) l5 m))
  else (q_rt 0 m))))
  else (q_bd (f_Mod_isThere l6 m) fun v1 m2 =>
  if q_w v1 = 0 then (f_Mod_total_b143 k43 l1 l2 l3 l4 l5 l6 m2)
  else (q_rd m2 106 100 l6 fun v3 =>
  if 0 ≤ q_w v3 then (q_rd m2 110 300 ((100 * l1) + l6) fun v4 =>
  if q_w l4 < 0 then (f_Mod_total_b113 k43 l1 l2 (l3 + v4) l5 l6 v4 m2)
  else (q_rd m2 110 300 ((100 * l1) + l4) fun v5 =>
  if q_w v4 ≤ q_w v5 then (f_Mod_total_b117 k43 l1 l2 (l3 + v4) l4 l5 l6 v4 m2)
  else (f_Mod_total_b113 k43 l1 l2 (l3 + v4) l5 l6 v4 m2)))
  else (f_Mod_total_b143 k43 l1 l2 l3 l4 l5 l6 m2)))
set_option maxRecDepth 20000 in
theorem w_Mod_total_b43 {k43 : Int → Int → Int → Int → Int → Int → q_Mem → q_Res} {l1 l2 l3 l4 l5 l6 : Int} {r : Int × q_Mem} {m : q_Mem} {N : Nat} (hN : 126 ≤ N) (hk43 : ∀ (l1 l2 l3 l4 l5 l6 : Int) (m : q_Mem), k43 l1 l2 l3 l4 l5 l6 m = some r → q_E md_X11_total 8 N (some 0) r m 43 [q_A 81, q_I l1, q_I l2, q_I l3, q_I l4, q_I l5, q_I l6, q_N] []) (h : f_Mod_total_b43 k43 l1 l2 l3 l4 l5 l6 m = some r) : q_E md_X11_total 8 N (some 0) r m 43 [q_A 81, q_I l1, q_I l2, q_I l3, q_I l4, q_I l5, q_I l6, q_N] [] := by
  unfold f_Mod_total_b43 at h
  refine q_iload (M := md_X11_total) (pc := 43) dX11_total_43 rfl ?_
  refine q_bipush (M := md_X11_total) (pc := 45) (x := 100) dX11_total_45 (by decide) ?_
  refine e_icmp_ge (M := md_X11_total) (pc := 47) (tgt := 149) h rfl (q_wlit rfl) dX11_total_47 (by decide) (fun h => ?_) (fun h => ?_)
  · refine q_iload_n (M := md_X11_total) (pc := 149) dX11_total_149 rfl ?_
    refine e_if_eq (M := md_X11_total) (pc := 150) (tgt := 158) h rfl dX11_total_150 (by decide) (fun h => ?_) (fun h => ?_)
    · exact q_weak (w_Mod_total_b158 hN  h) ⟨Or.inl rfl, Or.inl rfl, Or.inr rfl, Or.inr rfl, Or.inr rfl, Or.inl rfl, Or.inl rfl, Or.inl rfl, trivial⟩
    · refine q_iload_n (M := md_X11_total) (pc := 153) dX11_total_153 rfl ?_
      refine q_iconst (M := md_X11_total) (pc := 154) dX11_total_154 ?_
      refine e_icmp_ne (M := md_X11_total) (pc := 155) (tgt := 169) h rfl (q_wlit rfl) dX11_total_155 (by decide) (fun h => ?_) (fun h => ?_)
      · refine q_iload (M := md_X11_total) (pc := 169) dX11_total_169 rfl ?_
        refine e_if_ge (M := md_X11_total) (pc := 171) (tgt := 176) h rfl dX11_total_171 (by decide) (fun h => ?_) (fun h => ?_)
        · refine q_aload_n (M := md_X11_total) (pc := 176) dX11_total_176 rfl (by decide) ?_
          refine q_getP (M := md_X11_total) (pc := 177) (v := 110) fl_11_100 dX11_total_177 (is_81 hN) rfl ?_
          refine q_bipush (M := md_X11_total) (pc := 180) (x := 100) dX11_total_180 (by decide) ?_
          refine q_iload_n (M := md_X11_total) (pc := 182) dX11_total_182 rfl ?_
          refine q_imul (M := md_X11_total) (pc := 183) dX11_total_183 ?_
          refine q_iload_n (M := md_X11_total) (pc := 184) dX11_total_184 rfl ?_
          refine q_iconst (M := md_X11_total) (pc := 185) dX11_total_185 ?_
          refine e_icmp_ne (M := md_X11_total) (pc := 186) (tgt := 194) h rfl (q_wlit rfl) dX11_total_186 (by decide) (fun h => ?_) (fun h => ?_)
          · refine q_iload (M := md_X11_total) (pc := 194) dX11_total_194 rfl ?_
            exact q_weak (w_Mod_total_b196 hN  h) ⟨Or.inl rfl, Or.inl rfl, Or.inl rfl, Or.inl rfl, Or.inl rfl, Or.inl rfl, Or.inl rfl, Or.inl rfl, trivial⟩
          · refine q_iload (M := md_X11_total) (pc := 189) dX11_total_189 rfl ?_
            refine q_goto (M := md_X11_total) (pc := 191) (tgt := 196) dX11_total_191 (by decide) ?_
            exact q_weak (w_Mod_total_b196 hN  h) ⟨Or.inl rfl, Or.inl rfl, Or.inl rfl, Or.inl rfl, Or.inl rfl, Or.inl rfl, Or.inl rfl, Or.inl rfl, trivial⟩
        · refine q_iconst (M := md_X11_total) (pc := 174) dX11_total_174 ?_
          exact e_iret (M := md_X11_total) (pc := 175) h rfl dX11_total_175
      · exact q_weak (w_Mod_total_b158 hN  h) ⟨Or.inl rfl, Or.inl rfl, Or.inr rfl, Or.inr rfl, Or.inr rfl, Or.inl rfl, Or.inl rfl, Or.inl rfl, trivial⟩
  · refine q_aload_n (M := md_X11_total) (pc := 50) dX11_total_50 rfl (by decide) ?_
    refine q_iload (M := md_X11_total) (pc := 51) dX11_total_51 rfl ?_
    refine e_callVi (M := md_X11_total) (pc := 53) (d' := 3) (av := [q_I l6]) (c := 81) h ml_11_333 im_X11_isThere se_X11_isThere dX11_total_53 (fun v he => ok_X11_isThere hN  he) rfl (is_81 hN) ⟨_, _, rfl⟩ (by decide) (Nat.le_of_ble_eq_true rfl) ⟨by decide, by decide⟩ rfl (fun v1 m2 h => ?_)
    refine e_if_eq (M := md_X11_total) (pc := 56) (tgt := 143) h rfl dX11_total_56 (by decide) (fun h => ?_) (fun h => ?_)
    · exact q_weak (w_Mod_total_b143 hN hk43  h) ⟨Or.inr rfl, Or.inr rfl, Or.inr rfl, Or.inr rfl, Or.inr rfl, Or.inr rfl, Or.inr rfl, Or.inl rfl, trivial⟩
    · refine q_aload_n (M := md_X11_total) (pc := 59) dX11_total_59 rfl (by decide) ?_
      refine q_getP (M := md_X11_total) (pc := 60) (v := 106) fl_11_87 dX11_total_60 (is_81 hN) rfl ?_
      refine q_iload (M := md_X11_total) (pc := 63) dX11_total_63 rfl ?_
      refine e_rd (M := md_X11_total) (pc := 65) h dX11_total_65 (ar_106 hN) (fun v3 h => ?_)
      refine e_if_ge (M := md_X11_total) (pc := 66) (tgt := 72) h rfl dX11_total_66 (by decide) (fun h => ?_) (fun h => ?_)
      · refine q_aload_n (M := md_X11_total) (pc := 72) dX11_total_72 rfl (by decide) ?_
        refine q_getP (M := md_X11_total) (pc := 73) (v := 110) fl_11_100 dX11_total_73 (is_81 hN) rfl ?_
        refine q_bipush (M := md_X11_total) (pc := 76) (x := 100) dX11_total_76 (by decide) ?_
        refine q_iload_n (M := md_X11_total) (pc := 78) dX11_total_78 rfl ?_
        refine q_imul (M := md_X11_total) (pc := 79) dX11_total_79 ?_
        refine q_iload (M := md_X11_total) (pc := 80) dX11_total_80 rfl ?_
        refine q_iadd (M := md_X11_total) (pc := 82) dX11_total_82 ?_
        refine e_rd (M := md_X11_total) (pc := 83) h dX11_total_83 (ar_110 hN) (fun v4 h => ?_)
        refine e_ist (M := md_X11_total) (pc := 84) (ls' := [q_A 81, q_I l1, q_I l2, q_I l3, q_I l4, q_I l5, q_I l6, q_I v4]) dX11_total_84 (by decide) (q_pl rfl) rfl ?_
        refine q_iload_n (M := md_X11_total) (pc := 86) dX11_total_86 rfl ?_
        refine q_iload (M := md_X11_total) (pc := 87) dX11_total_87 rfl ?_
        refine q_iadd (M := md_X11_total) (pc := 89) dX11_total_89 ?_
        refine e_ist_n (M := md_X11_total) (pc := 90) (ls' := [q_A 81, q_I l1, q_I l2, q_I (l3 + v4), q_I l4, q_I l5, q_I l6, q_I v4]) dX11_total_90 (by decide) (q_pl rfl) rfl ?_
        refine q_iload (M := md_X11_total) (pc := 91) dX11_total_91 rfl ?_
        refine e_if_lt (M := md_X11_total) (pc := 93) (tgt := 113) h rfl dX11_total_93 (by decide) (fun h => ?_) (fun h => ?_)
        · exact q_weak (w_Mod_total_b113 hN hk43  h) ⟨Or.inr rfl, Or.inr rfl, Or.inr rfl, Or.inr rfl, Or.inl rfl, Or.inr rfl, Or.inr rfl, Or.inr rfl, trivial⟩
        · refine q_iload (M := md_X11_total) (pc := 96) dX11_total_96 rfl ?_
          refine q_aload_n (M := md_X11_total) (pc := 98) dX11_total_98 rfl (by decide) ?_
          refine q_getP (M := md_X11_total) (pc := 99) (v := 110) fl_11_100 dX11_total_99 (is_81 hN) rfl ?_
          refine q_bipush (M := md_X11_total) (pc := 102) (x := 100) dX11_total_102 (by decide) ?_
          refine q_iload_n (M := md_X11_total) (pc := 104) dX11_total_104 rfl ?_
          refine q_imul (M := md_X11_total) (pc := 105) dX11_total_105 ?_
          refine q_iload (M := md_X11_total) (pc := 106) dX11_total_106 rfl ?_
          refine q_iadd (M := md_X11_total) (pc := 108) dX11_total_108 ?_
          refine e_rd (M := md_X11_total) (pc := 109) h dX11_total_109 (ar_110 hN) (fun v5 h => ?_)
          refine e_icmp_le (M := md_X11_total) (pc := 110) (tgt := 117) h rfl rfl dX11_total_110 (by decide) (fun h => ?_) (fun h => ?_)
          · exact q_weak (w_Mod_total_b117 hN hk43  h) ⟨Or.inr rfl, Or.inr rfl, Or.inr rfl, Or.inr rfl, Or.inr rfl, Or.inr rfl, Or.inr rfl, Or.inr rfl, trivial⟩
          · exact q_weak (w_Mod_total_b113 hN hk43  h) ⟨Or.inr rfl, Or.inr rfl, Or.inr rfl, Or.inr rfl, Or.inl rfl, Or.inr rfl, Or.inr rfl, Or.inr rfl, trivial⟩
      · refine q_goto (M := md_X11_total) (pc := 69) (tgt := 143) dX11_total_69 (by decide) ?_
        exact q_weak (w_Mod_total_b143 hN hk43  h) ⟨Or.inr rfl, Or.inr rfl, Or.inr rfl, Or.inr rfl, Or.inr rfl, Or.inr rfl, Or.inr rfl, Or.inl rfl, trivial⟩
def f_Mod_total_l43 : Nat → Int → Int → Int → Int → Int → Int → q_Mem → q_Res
  | 0 => fun _ _ _ _ _ _ _ => none
  | n + 1 => fun l1 l2 l3 l4 l5 l6 m => f_Mod_total_b43 (f_Mod_total_l43 n) l1 l2 l3 l4 l5 l6 m
theorem w_Mod_total_l43 {r : Int × q_Mem} {N : Nat} (hN : 126 ≤ N) : ∀ (n : Nat) (l1 l2 l3 l4 l5 l6 : Int) (m : q_Mem), f_Mod_total_l43 n l1 l2 l3 l4 l5 l6 m = some r → q_E md_X11_total 8 N (some 0) r m 43 [q_A 81, q_I l1, q_I l2, q_I l3, q_I l4, q_I l5, q_I l6, q_N] [] := by
  intro n
  induction n with
  | zero => intro l1 l2 l3 l4 l5 l6 m h; exact q_no h
  | succ n ih =>
    intro l1 l2 l3 l4 l5 l6 m h
    exact w_Mod_total_b43 hN (fun l1 l2 l3 l4 l5 l6 m h => ih l1 l2 l3 l4 l5 l6 m h) h
def f_Mod_total (l1 l2 : Int) (m : q_Mem) : q_Res :=
  q_bd (f_Mod_isVariable l1 m) fun v1 m2 =>
  if q_w v1 = 0 then (f_Mod_total_b17 l2 m2)
  else (q_bd (f_Mod_isIn l2 0 3 m2) fun v3 m4 =>
  if q_w v3 = 0 then (f_Mod_total_b17 l2 m4)
  else (q_bd (f_Mod_layValues m4) fun _ m5 =>
  f_Mod_total_l43 q_F l1 l2 0 (-1) (-1) 0 m5))
set_option maxRecDepth 20000 in
theorem ok_X11_total {l1 l2 : Int} {r : Int × q_Mem} {m : q_Mem} {N : Nat} (hN : 126 ≤ N) (h : f_Mod_total l1 l2 m = some r) : q_C md_X11_total (q_room 8) 0 0 [q_A 81, q_I l1, q_I l2] (q_g N) m (some (q_I r.1), q_g N, r.2) := by
  refine q_ofR (by decide) 5 (ls := [q_A 81, q_I l1, q_I l2, q_N, q_N, q_N, q_N, q_N]) rfl (Nat.le_of_ble_eq_true rfl) ?_
  change q_E md_X11_total 8 N (some 0) r m 0 [q_A 81, q_I l1, q_I l2, q_N, q_N, q_N, q_N, q_N] []
  unfold f_Mod_total at h
  refine q_aload_n (M := md_X11_total) (pc := 0) dX11_total_0 rfl (by decide) ?_
  refine q_iload_n (M := md_X11_total) (pc := 1) dX11_total_1 rfl ?_
  refine e_callVi (M := md_X11_total) (pc := 2) (d' := 2) (av := [q_I l1]) (c := 81) h ml_11_396 im_X11_isVariable se_X11_isVariable dX11_total_2 (fun v he => ok_X11_isVariable hN  he) rfl (is_81 hN) ⟨_, _, rfl⟩ (by decide) (Nat.le_of_ble_eq_true rfl) ⟨by decide, by decide⟩ rfl (fun v1 m2 h => ?_)
  refine e_if_eq (M := md_X11_total) (pc := 5) (tgt := 17) h rfl dX11_total_5 (by decide) (fun h => ?_) (fun h => ?_)
  · exact q_weak (w_Mod_total_b17 hN  h) ⟨Or.inl rfl, Or.inl rfl, Or.inr rfl, Or.inl rfl, Or.inl rfl, Or.inl rfl, Or.inl rfl, Or.inl rfl, trivial⟩
  · refine q_iload_n (M := md_X11_total) (pc := 8) dX11_total_8 rfl ?_
    refine q_iconst (M := md_X11_total) (pc := 9) dX11_total_9 ?_
    refine q_iconst (M := md_X11_total) (pc := 10) dX11_total_10 ?_
    refine e_callSi (M := md_X11_total) (pc := 11) (d' := 1) (M' := md_X11_isIn) (av := [q_I l2, q_I 0, q_I 3]) h ml_11_221 sm_X11_isIn dX11_total_11 (fun v he => ok_X11_isIn hN  he) rfl (Nat.le_of_ble_eq_true rfl) ⟨by decide, by decide⟩ rfl (fun v3 m4 h => ?_)
    refine e_if_ne (M := md_X11_total) (pc := 14) (tgt := 28) h rfl dX11_total_14 (by decide) (fun h => ?_) (fun h => ?_)
    · refine q_aload_n (M := md_X11_total) (pc := 28) dX11_total_28 rfl (by decide) ?_
      refine e_callVv (M := md_X11_total) (pc := 29) (d' := 7) (av := []) (c := 81) h ml_11_399 im_X11_layValues se_X11_layValues dX11_total_29 (fun v he => ok_X11_layValues hN  he) rfl (is_81 hN) ⟨_, _, rfl⟩ (by decide) (Nat.le_of_ble_eq_true rfl) ⟨by decide, by decide⟩ rfl (fun _ m5 h => ?_)
      refine q_iconst (M := md_X11_total) (pc := 32) dX11_total_32 ?_
      refine e_ist_n (M := md_X11_total) (pc := 33) (ls' := [q_A 81, q_I l1, q_I l2, q_I 0, q_N, q_N, q_N, q_N]) dX11_total_33 (by decide) (q_pl rfl) rfl ?_
      refine q_iconst (M := md_X11_total) (pc := 34) dX11_total_34 ?_
      refine e_ist (M := md_X11_total) (pc := 35) (ls' := [q_A 81, q_I l1, q_I l2, q_I 0, q_I (-1), q_N, q_N, q_N]) dX11_total_35 (by decide) (q_pl rfl) rfl ?_
      refine q_iconst (M := md_X11_total) (pc := 37) dX11_total_37 ?_
      refine e_ist (M := md_X11_total) (pc := 38) (ls' := [q_A 81, q_I l1, q_I l2, q_I 0, q_I (-1), q_I (-1), q_N, q_N]) dX11_total_38 (by decide) (q_pl rfl) rfl ?_
      refine q_iconst (M := md_X11_total) (pc := 40) dX11_total_40 ?_
      refine e_ist (M := md_X11_total) (pc := 41) (ls' := [q_A 81, q_I l1, q_I l2, q_I 0, q_I (-1), q_I (-1), q_I 0, q_N]) dX11_total_41 (by decide) (q_pl rfl) rfl ?_
      exact q_weak (w_Mod_total_l43 hN q_F _ _ _ _ _ _ _  h) ⟨Or.inr rfl, Or.inr rfl, Or.inr rfl, Or.inr rfl, Or.inr rfl, Or.inr rfl, Or.inr rfl, Or.inl rfl, trivial⟩
    · exact q_weak (w_Mod_total_b17 hN  h) ⟨Or.inl rfl, Or.inl rfl, Or.inr rfl, Or.inl rfl, Or.inl rfl, Or.inl rfl, Or.inl rfl, Or.inl rfl, trivial⟩
def f_Mod_layTicks_b48 (k12 : Int → Int → Int → Int → q_Mem → q_Res) (l1 l2 l3 l4 : Int) (m : q_Mem) : q_Res :=
  k12 l1 l2 l3 (l4 + 1) m
set_option maxRecDepth 20000 in
theorem w_Mod_layTicks_b48 {k12 : Int → Int → Int → Int → q_Mem → q_Res} {l1 l2 l3 l4 : Int} {r : Int × q_Mem} {m : q_Mem} {N : Nat} (hN : 126 ≤ N) (hk12 : ∀ (l1 l2 l3 l4 : Int) (m : q_Mem), k12 l1 l2 l3 l4 m = some r → q_E md_X11_layTicks 4 N (none) r m 12 [q_A 81, q_I l1, q_I l2, q_I l3, q_I l4] []) (h : f_Mod_layTicks_b48 k12 l1 l2 l3 l4 m = some r) : q_E md_X11_layTicks 4 N (none) r m 48 [q_A 81, q_I l1, q_I l2, q_I l3, q_I l4] [] := by
  unfold f_Mod_layTicks_b48 at h
  refine e_inc (M := md_X11_layTicks) (pc := 48) (x := l4) (ls' := [q_A 81, q_I l1, q_I l2, q_I l3, q_I (l4 + 1)]) dX11_layTicks_48 rfl (by decide) (q_pl rfl) rfl ?_
  refine q_goto (M := md_X11_layTicks) (pc := 51) (tgt := 12) dX11_layTicks_51 (by decide) ?_
  exact q_weak (hk12 _ _ _ _ _  h) ⟨Or.inr rfl, Or.inr rfl, Or.inr rfl, Or.inr rfl, Or.inr rfl, trivial⟩
def f_Mod_layTicks_b120 (k57 : Int → Int → Int → Int → q_Mem → q_Res) (l1 l2 l3 l4 : Int) (m : q_Mem) : q_Res :=
  k57 l1 l2 l3 (l4 + 1) m
set_option maxRecDepth 20000 in
theorem w_Mod_layTicks_b120 {k57 : Int → Int → Int → Int → q_Mem → q_Res} {l1 l2 l3 l4 : Int} {r : Int × q_Mem} {m : q_Mem} {N : Nat} (hN : 126 ≤ N) (hk57 : ∀ (l1 l2 l3 l4 : Int) (m : q_Mem), k57 l1 l2 l3 l4 m = some r → q_E md_X11_layTicks 4 N (none) r m 57 [q_A 81, q_I l1, q_I l2, q_I l3, q_I l4] []) (h : f_Mod_layTicks_b120 k57 l1 l2 l3 l4 m = some r) : q_E md_X11_layTicks 4 N (none) r m 120 [q_A 81, q_I l1, q_I l2, q_I l3, q_I l4] [] := by
  unfold f_Mod_layTicks_b120 at h
  refine e_inc (M := md_X11_layTicks) (pc := 120) (x := l4) (ls' := [q_A 81, q_I l1, q_I l2, q_I l3, q_I (l4 + 1)]) dX11_layTicks_120 rfl (by decide) (q_pl rfl) rfl ?_
  refine q_goto (M := md_X11_layTicks) (pc := 123) (tgt := 57) dX11_layTicks_123 (by decide) ?_
  exact q_weak (hk57 _ _ _ _ _  h) ⟨Or.inr rfl, Or.inr rfl, Or.inr rfl, Or.inr rfl, Or.inr rfl, trivial⟩
def f_Mod_layTicks_b57 (k57 : Int → Int → Int → Int → q_Mem → q_Res) (l1 l2 l3 l4 : Int) (m : q_Mem) : q_Res :=
  if 100 ≤ q_w l4 then (q_rt 0 m)
  else (q_bd (f_Mod_isThere l4 m) fun v1 m2 =>
  if q_w v1 = 0 then (f_Mod_layTicks_b120 k57 l1 l2 l3 l4 m2)
  else (q_dv l4 10 fun v3 =>
  q_md l4 10 fun v4 =>
  q_wr m2 116 100 l4 (((l1 * v3) + (l2 * v4)) - l3) fun m5 =>
  q_rd m5 116 100 l4 fun v6 =>
  q_bd (f_Mod_more (m5 81 53) (v6 + 1) m5) fun v7 m8 =>
  q_pf m8 81 53 v7 fun m9 =>
  f_Mod_layTicks_b120 k57 l1 l2 l3 l4 m9))
set_option maxRecDepth 20000 in
theorem w_Mod_layTicks_b57 {k57 : Int → Int → Int → Int → q_Mem → q_Res} {l1 l2 l3 l4 : Int} {r : Int × q_Mem} {m : q_Mem} {N : Nat} (hN : 126 ≤ N) (hk57 : ∀ (l1 l2 l3 l4 : Int) (m : q_Mem), k57 l1 l2 l3 l4 m = some r → q_E md_X11_layTicks 4 N (none) r m 57 [q_A 81, q_I l1, q_I l2, q_I l3, q_I l4] []) (h : f_Mod_layTicks_b57 k57 l1 l2 l3 l4 m = some r) : q_E md_X11_layTicks 4 N (none) r m 57 [q_A 81, q_I l1, q_I l2, q_I l3, q_I l4] [] := by
  unfold f_Mod_layTicks_b57 at h
  refine q_iload (M := md_X11_layTicks) (pc := 57) dX11_layTicks_57 rfl ?_
  refine q_bipush (M := md_X11_layTicks) (pc := 59) (x := 100) dX11_layTicks_59 (by decide) ?_
  refine e_icmp_ge (M := md_X11_layTicks) (pc := 61) (tgt := 126) h rfl (q_wlit rfl) dX11_layTicks_61 (by decide) (fun h => ?_) (fun h => ?_)
  · exact e_vret (M := md_X11_layTicks) (pc := 126) h rfl dX11_layTicks_126
  · refine q_aload_n (M := md_X11_layTicks) (pc := 64) dX11_layTicks_64 rfl (by decide) ?_
    refine q_iload (M := md_X11_layTicks) (pc := 65) dX11_layTicks_65 rfl ?_
    refine e_callVi (M := md_X11_layTicks) (pc := 67) (d' := 3) (av := [q_I l4]) (c := 81) h ml_11_333 im_X11_isThere se_X11_isThere dX11_layTicks_67 (fun v he => ok_X11_isThere hN  he) rfl (is_81 hN) ⟨_, _, rfl⟩ (by decide) (Nat.le_of_ble_eq_true rfl) ⟨by decide, by decide⟩ rfl (fun v1 m2 h => ?_)
    refine e_if_ne (M := md_X11_layTicks) (pc := 70) (tgt := 76) h rfl dX11_layTicks_70 (by decide) (fun h => ?_) (fun h => ?_)
    · refine q_aload_n (M := md_X11_layTicks) (pc := 76) dX11_layTicks_76 rfl (by decide) ?_
      refine q_getP (M := md_X11_layTicks) (pc := 77) (v := 116) fl_11_118 dX11_layTicks_77 (is_81 hN) rfl ?_
      refine q_iload (M := md_X11_layTicks) (pc := 80) dX11_layTicks_80 rfl ?_
      refine q_iload_n (M := md_X11_layTicks) (pc := 82) dX11_layTicks_82 rfl ?_
      refine q_iload (M := md_X11_layTicks) (pc := 83) dX11_layTicks_83 rfl ?_
      refine q_bipush (M := md_X11_layTicks) (pc := 85) (x := 10) dX11_layTicks_85 (by decide) ?_
      refine e_dv (M := md_X11_layTicks) (pc := 87) h dX11_layTicks_87 (fun v3 h => ?_)
      refine q_imul (M := md_X11_layTicks) (pc := 88) dX11_layTicks_88 ?_
      refine q_iload_n (M := md_X11_layTicks) (pc := 89) dX11_layTicks_89 rfl ?_
      refine q_iload (M := md_X11_layTicks) (pc := 90) dX11_layTicks_90 rfl ?_
      refine q_bipush (M := md_X11_layTicks) (pc := 92) (x := 10) dX11_layTicks_92 (by decide) ?_
      refine e_md (M := md_X11_layTicks) (pc := 94) h dX11_layTicks_94 (fun v4 h => ?_)
      refine q_imul (M := md_X11_layTicks) (pc := 95) dX11_layTicks_95 ?_
      refine q_iadd (M := md_X11_layTicks) (pc := 96) dX11_layTicks_96 ?_
      refine q_iload_n (M := md_X11_layTicks) (pc := 97) dX11_layTicks_97 rfl ?_
      refine q_isub (M := md_X11_layTicks) (pc := 98) dX11_layTicks_98 ?_
      refine e_wr (M := md_X11_layTicks) (pc := 99) h dX11_layTicks_99 (ar_116 hN) (fun m5 h => ?_)
      refine q_aload_n (M := md_X11_layTicks) (pc := 100) dX11_layTicks_100 rfl (by decide) ?_
      refine q_aload_n (M := md_X11_layTicks) (pc := 101) dX11_layTicks_101 rfl (by decide) ?_
      refine e_gI (M := md_X11_layTicks) (pc := 102) (v := m5 81 53) fl_11_415 dX11_layTicks_102 (is_81 hN) rfl ?_
      refine q_aload_n (M := md_X11_layTicks) (pc := 105) dX11_layTicks_105 rfl (by decide) ?_
      refine q_getP (M := md_X11_layTicks) (pc := 106) (v := 116) fl_11_118 dX11_layTicks_106 (is_81 hN) rfl ?_
      refine q_iload (M := md_X11_layTicks) (pc := 109) dX11_layTicks_109 rfl ?_
      refine e_rd (M := md_X11_layTicks) (pc := 111) h dX11_layTicks_111 (ar_116 hN) (fun v6 h => ?_)
      refine q_iconst (M := md_X11_layTicks) (pc := 112) dX11_layTicks_112 ?_
      refine q_iadd (M := md_X11_layTicks) (pc := 113) dX11_layTicks_113 ?_
      refine e_callSi (M := md_X11_layTicks) (pc := 114) (d' := 1) (M' := md_X11_more) (av := [q_I (m5 81 53), q_I (v6 + 1)]) h ml_11_345 sm_X11_more dX11_layTicks_114 (fun v he => ok_X11_more hN  he) rfl (Nat.le_of_ble_eq_true rfl) ⟨by decide, by decide⟩ rfl (fun v7 m8 h => ?_)
      refine e_pfI (M := md_X11_layTicks) (pc := 117) h fl_11_415 dX11_layTicks_117 (is_81 hN) rfl (fun m9 h => ?_)
      exact q_weak (w_Mod_layTicks_b120 hN hk57  h) ⟨Or.inr rfl, Or.inr rfl, Or.inr rfl, Or.inr rfl, Or.inr rfl, trivial⟩
    · refine q_goto (M := md_X11_layTicks) (pc := 73) (tgt := 120) dX11_layTicks_73 (by decide) ?_
      exact q_weak (w_Mod_layTicks_b120 hN hk57  h) ⟨Or.inr rfl, Or.inr rfl, Or.inr rfl, Or.inr rfl, Or.inr rfl, trivial⟩
def f_Mod_layTicks_l57 : Nat → Int → Int → Int → Int → q_Mem → q_Res
  | 0 => fun _ _ _ _ _ => none
  | n + 1 => fun l1 l2 l3 l4 m => f_Mod_layTicks_b57 (f_Mod_layTicks_l57 n) l1 l2 l3 l4 m
theorem w_Mod_layTicks_l57 {r : Int × q_Mem} {N : Nat} (hN : 126 ≤ N) : ∀ (n : Nat) (l1 l2 l3 l4 : Int) (m : q_Mem), f_Mod_layTicks_l57 n l1 l2 l3 l4 m = some r → q_E md_X11_layTicks 4 N (none) r m 57 [q_A 81, q_I l1, q_I l2, q_I l3, q_I l4] [] := by
  intro n
  induction n with
  | zero => intro l1 l2 l3 l4 m h; exact q_no h
  | succ n ih =>
    intro l1 l2 l3 l4 m h
    exact w_Mod_layTicks_b57 hN (fun l1 l2 l3 l4 m h => ih l1 l2 l3 l4 m h) h
def f_Mod_layTicks_b12 (k12 : Int → Int → Int → Int → q_Mem → q_Res) (l1 l2 l3 l4 : Int) (m : q_Mem) : q_Res :=
  if 100 ≤ q_w l4 then (f_Mod_layTicks_l57 q_F l1 l2 l3 0 m)
  else (q_bd (f_Mod_isThere l4 m) fun v1 m2 =>
  if q_w v1 = 0 then (f_Mod_layTicks_b48 k12 l1 l2 l3 l4 m2)
  else (q_dv l4 10 fun v3 =>
  q_md l4 10 fun v4 =>
  q_bd (f_Mod_less l3 ((l1 * v3) + (l2 * v4)) m2) fun v5 m6 =>
  f_Mod_layTicks_b48 k12 l1 l2 v5 l4 m6))
set_option maxRecDepth 20000 in
theorem w_Mod_layTicks_b12 {k12 : Int → Int → Int → Int → q_Mem → q_Res} {l1 l2 l3 l4 : Int} {r : Int × q_Mem} {m : q_Mem} {N : Nat} (hN : 126 ≤ N) (hk12 : ∀ (l1 l2 l3 l4 : Int) (m : q_Mem), k12 l1 l2 l3 l4 m = some r → q_E md_X11_layTicks 4 N (none) r m 12 [q_A 81, q_I l1, q_I l2, q_I l3, q_I l4] []) (h : f_Mod_layTicks_b12 k12 l1 l2 l3 l4 m = some r) : q_E md_X11_layTicks 4 N (none) r m 12 [q_A 81, q_I l1, q_I l2, q_I l3, q_I l4] [] := by
  unfold f_Mod_layTicks_b12 at h
  refine q_iload (M := md_X11_layTicks) (pc := 12) dX11_layTicks_12 rfl ?_
  refine q_bipush (M := md_X11_layTicks) (pc := 14) (x := 100) dX11_layTicks_14 (by decide) ?_
  refine e_icmp_ge (M := md_X11_layTicks) (pc := 16) (tgt := 54) h rfl (q_wlit rfl) dX11_layTicks_16 (by decide) (fun h => ?_) (fun h => ?_)
  · refine q_iconst (M := md_X11_layTicks) (pc := 54) dX11_layTicks_54 ?_
    refine e_ist (M := md_X11_layTicks) (pc := 55) (ls' := [q_A 81, q_I l1, q_I l2, q_I l3, q_I 0]) dX11_layTicks_55 (by decide) (q_pl rfl) rfl ?_
    exact q_weak (w_Mod_layTicks_l57 hN q_F _ _ _ _ _  h) ⟨Or.inr rfl, Or.inr rfl, Or.inr rfl, Or.inr rfl, Or.inr rfl, trivial⟩
  · refine q_aload_n (M := md_X11_layTicks) (pc := 19) dX11_layTicks_19 rfl (by decide) ?_
    refine q_iload (M := md_X11_layTicks) (pc := 20) dX11_layTicks_20 rfl ?_
    refine e_callVi (M := md_X11_layTicks) (pc := 22) (d' := 3) (av := [q_I l4]) (c := 81) h ml_11_333 im_X11_isThere se_X11_isThere dX11_layTicks_22 (fun v he => ok_X11_isThere hN  he) rfl (is_81 hN) ⟨_, _, rfl⟩ (by decide) (Nat.le_of_ble_eq_true rfl) ⟨by decide, by decide⟩ rfl (fun v1 m2 h => ?_)
    refine e_if_eq (M := md_X11_layTicks) (pc := 25) (tgt := 48) h rfl dX11_layTicks_25 (by decide) (fun h => ?_) (fun h => ?_)
    · exact q_weak (w_Mod_layTicks_b48 hN hk12  h) ⟨Or.inr rfl, Or.inr rfl, Or.inr rfl, Or.inr rfl, Or.inr rfl, trivial⟩
    · refine q_iload_n (M := md_X11_layTicks) (pc := 28) dX11_layTicks_28 rfl ?_
      refine q_iload_n (M := md_X11_layTicks) (pc := 29) dX11_layTicks_29 rfl ?_
      refine q_iload (M := md_X11_layTicks) (pc := 30) dX11_layTicks_30 rfl ?_
      refine q_bipush (M := md_X11_layTicks) (pc := 32) (x := 10) dX11_layTicks_32 (by decide) ?_
      refine e_dv (M := md_X11_layTicks) (pc := 34) h dX11_layTicks_34 (fun v3 h => ?_)
      refine q_imul (M := md_X11_layTicks) (pc := 35) dX11_layTicks_35 ?_
      refine q_iload_n (M := md_X11_layTicks) (pc := 36) dX11_layTicks_36 rfl ?_
      refine q_iload (M := md_X11_layTicks) (pc := 37) dX11_layTicks_37 rfl ?_
      refine q_bipush (M := md_X11_layTicks) (pc := 39) (x := 10) dX11_layTicks_39 (by decide) ?_
      refine e_md (M := md_X11_layTicks) (pc := 41) h dX11_layTicks_41 (fun v4 h => ?_)
      refine q_imul (M := md_X11_layTicks) (pc := 42) dX11_layTicks_42 ?_
      refine q_iadd (M := md_X11_layTicks) (pc := 43) dX11_layTicks_43 ?_
      refine e_callSi (M := md_X11_layTicks) (pc := 44) (d' := 1) (M' := md_X11_less) (av := [q_I l3, q_I ((l1 * v3) + (l2 * v4))]) h ml_11_366 sm_X11_less dX11_layTicks_44 (fun v he => ok_X11_less hN  he) rfl (Nat.le_of_ble_eq_true rfl) ⟨by decide, by decide⟩ rfl (fun v5 m6 h => ?_)
      refine e_ist_n (M := md_X11_layTicks) (pc := 47) (ls' := [q_A 81, q_I l1, q_I l2, q_I v5, q_I l4]) dX11_layTicks_47 (by decide) (q_pl rfl) rfl ?_
      exact q_weak (w_Mod_layTicks_b48 hN hk12  h) ⟨Or.inr rfl, Or.inr rfl, Or.inr rfl, Or.inr rfl, Or.inr rfl, trivial⟩
def f_Mod_layTicks_l12 : Nat → Int → Int → Int → Int → q_Mem → q_Res
  | 0 => fun _ _ _ _ _ => none
  | n + 1 => fun l1 l2 l3 l4 m => f_Mod_layTicks_b12 (f_Mod_layTicks_l12 n) l1 l2 l3 l4 m
theorem w_Mod_layTicks_l12 {r : Int × q_Mem} {N : Nat} (hN : 126 ≤ N) : ∀ (n : Nat) (l1 l2 l3 l4 : Int) (m : q_Mem), f_Mod_layTicks_l12 n l1 l2 l3 l4 m = some r → q_E md_X11_layTicks 4 N (none) r m 12 [q_A 81, q_I l1, q_I l2, q_I l3, q_I l4] [] := by
  intro n
  induction n with
  | zero => intro l1 l2 l3 l4 m h; exact q_no h
  | succ n ih =>
    intro l1 l2 l3 l4 m h
    exact w_Mod_layTicks_b12 hN (fun l1 l2 l3 l4 m h => ih l1 l2 l3 l4 m h) h
def f_Mod_layTicks (l1 l2 : Int) (m : q_Mem) : q_Res :=
  q_pf m 81 53 0 fun m1 =>
  f_Mod_layTicks_l12 q_F l1 l2 1000000 0 m1
set_option maxRecDepth 20000 in
theorem ok_X11_layTicks {l1 l2 : Int} {r : Int × q_Mem} {m : q_Mem} {N : Nat} (hN : 126 ≤ N) (h : f_Mod_layTicks l1 l2 m = some r) : q_C md_X11_layTicks (q_room 4) 0 0 [q_A 81, q_I l1, q_I l2] (q_g N) m (none, q_g N, r.2) := by
  refine q_ofR (by decide) 2 (ls := [q_A 81, q_I l1, q_I l2, q_N, q_N]) rfl (Nat.le_of_ble_eq_true rfl) ?_
  change q_E md_X11_layTicks 4 N (none) r m 0 [q_A 81, q_I l1, q_I l2, q_N, q_N] []
  unfold f_Mod_layTicks at h
  refine q_ldc_w (M := md_X11_layTicks) (pc := 0) (x := 1000000) dX11_layTicks_0 co_11_414 (by decide) ?_
  refine e_ist_n (M := md_X11_layTicks) (pc := 3) (ls' := [q_A 81, q_I l1, q_I l2, q_I 1000000, q_N]) dX11_layTicks_3 (by decide) (q_pl rfl) rfl ?_
  refine q_aload_n (M := md_X11_layTicks) (pc := 4) dX11_layTicks_4 rfl (by decide) ?_
  refine q_iconst (M := md_X11_layTicks) (pc := 5) dX11_layTicks_5 ?_
  refine e_pfI (M := md_X11_layTicks) (pc := 6) h fl_11_415 dX11_layTicks_6 (is_81 hN) rfl (fun m1 h => ?_)
  refine q_iconst (M := md_X11_layTicks) (pc := 9) dX11_layTicks_9 ?_
  refine e_ist (M := md_X11_layTicks) (pc := 10) (ls' := [q_A 81, q_I l1, q_I l2, q_I 1000000, q_I 0]) dX11_layTicks_10 (by decide) (q_pl rfl) rfl ?_
  exact q_weak (w_Mod_layTicks_l12 hN q_F _ _ _ _ _  h) ⟨Or.inr rfl, Or.inr rfl, Or.inr rfl, Or.inr rfl, Or.inr rfl, trivial⟩
def f_Mod_layCells_b60 (k24 : Int → Int → Int → q_Mem → q_Res) (l1 l2 l3 : Int) (m : q_Mem) : q_Res :=
  k24 l1 l2 (l3 + 1) m
set_option maxRecDepth 20000 in
theorem w_Mod_layCells_b60 {k24 : Int → Int → Int → q_Mem → q_Res} {l1 l2 l3 : Int} {r : Int × q_Mem} {m : q_Mem} {N : Nat} (hN : 126 ≤ N) (hk24 : ∀ (l1 l2 l3 : Int) (m : q_Mem), k24 l1 l2 l3 m = some r → q_E md_X11_layCells 4 N (none) r m 24 [q_A 81, q_I l1, q_I l2, q_I l3] []) (h : f_Mod_layCells_b60 k24 l1 l2 l3 m = some r) : q_E md_X11_layCells 4 N (none) r m 60 [q_A 81, q_I l1, q_I l2, q_I l3] [] := by
  unfold f_Mod_layCells_b60 at h
  refine e_inc (M := md_X11_layCells) (pc := 60) (x := l3) (ls' := [q_A 81, q_I l1, q_I l2, q_I (l3 + 1)]) dX11_layCells_60 rfl (by decide) (q_pl rfl) rfl ?_
  refine q_goto (M := md_X11_layCells) (pc := 63) (tgt := 24) dX11_layCells_63 (by decide) ?_
  exact q_weak (hk24 _ _ _ _  h) ⟨Or.inr rfl, Or.inr rfl, Or.inr rfl, Or.inr rfl, trivial⟩
def f_Mod_layCells_b112 (k73 : Int → Int → Int → q_Mem → q_Res) (l1 l2 l3 : Int) (m : q_Mem) : q_Res :=
  k73 l1 l2 (l3 + 1) m
set_option maxRecDepth 20000 in
theorem w_Mod_layCells_b112 {k73 : Int → Int → Int → q_Mem → q_Res} {l1 l2 l3 : Int} {r : Int × q_Mem} {m : q_Mem} {N : Nat} (hN : 126 ≤ N) (hk73 : ∀ (l1 l2 l3 : Int) (m : q_Mem), k73 l1 l2 l3 m = some r → q_E md_X11_layCells 4 N (none) r m 73 [q_A 81, q_I l1, q_I l2, q_I l3] []) (h : f_Mod_layCells_b112 k73 l1 l2 l3 m = some r) : q_E md_X11_layCells 4 N (none) r m 112 [q_A 81, q_I l1, q_I l2, q_I l3] [] := by
  unfold f_Mod_layCells_b112 at h
  refine e_inc (M := md_X11_layCells) (pc := 112) (x := l3) (ls' := [q_A 81, q_I l1, q_I l2, q_I (l3 + 1)]) dX11_layCells_112 rfl (by decide) (q_pl rfl) rfl ?_
  refine q_goto (M := md_X11_layCells) (pc := 115) (tgt := 73) dX11_layCells_115 (by decide) ?_
  exact q_weak (hk73 _ _ _ _  h) ⟨Or.inr rfl, Or.inr rfl, Or.inr rfl, Or.inr rfl, trivial⟩
def f_Mod_layCells_b164 (k120 : Int → Int → Int → q_Mem → q_Res) (l1 l2 l3 s1 s2 : Int) (m : q_Mem) : q_Res :=
  q_wr m 117 100 s1 s2 fun m1 =>
  k120 l1 l2 (l3 + 1) m1
set_option maxRecDepth 20000 in
theorem w_Mod_layCells_b164 {k120 : Int → Int → Int → q_Mem → q_Res} {l1 l2 l3 s1 s2 : Int} {r : Int × q_Mem} {m : q_Mem} {N : Nat} (hN : 126 ≤ N) (hk120 : ∀ (l1 l2 l3 : Int) (m : q_Mem), k120 l1 l2 l3 m = some r → q_E md_X11_layCells 4 N (none) r m 120 [q_A 81, q_I l1, q_I l2, q_I l3] []) (h : f_Mod_layCells_b164 k120 l1 l2 l3 s1 s2 m = some r) : q_E md_X11_layCells 4 N (none) r m 164 [q_A 81, q_I l1, q_I l2, q_I l3] [q_I s2, q_I s1, q_A 117] := by
  unfold f_Mod_layCells_b164 at h
  refine e_wr (M := md_X11_layCells) (pc := 164) h dX11_layCells_164 (ar_117 hN) (fun m1 h => ?_)
  refine e_inc (M := md_X11_layCells) (pc := 165) (x := l3) (ls' := [q_A 81, q_I l1, q_I l2, q_I (l3 + 1)]) dX11_layCells_165 rfl (by decide) (q_pl rfl) rfl ?_
  refine q_goto (M := md_X11_layCells) (pc := 168) (tgt := 120) dX11_layCells_168 (by decide) ?_
  exact q_weak (hk120 _ _ _ _  h) ⟨Or.inr rfl, Or.inr rfl, Or.inr rfl, Or.inr rfl, trivial⟩
def f_Mod_layCells_b120 (k120 : Int → Int → Int → q_Mem → q_Res) (l1 l2 l3 : Int) (m : q_Mem) : q_Res :=
  if 100 ≤ q_w l3 then (q_rt 0 m)
  else (q_bd (f_Mod_isThere l3 m) fun v1 m2 =>
  if q_w v1 = 0 then (f_Mod_layCells_b164 k120 l1 l2 l3 l3 (-1) m2)
  else (q_dv l3 10 fun v3 =>
  q_md l3 10 fun v4 =>
  q_rd m2 119 128 ((64 + (l2 * v3)) - (l1 * v4)) fun v5 =>
  f_Mod_layCells_b164 k120 l1 l2 l3 l3 v5 m2))
set_option maxRecDepth 20000 in
theorem w_Mod_layCells_b120 {k120 : Int → Int → Int → q_Mem → q_Res} {l1 l2 l3 : Int} {r : Int × q_Mem} {m : q_Mem} {N : Nat} (hN : 126 ≤ N) (hk120 : ∀ (l1 l2 l3 : Int) (m : q_Mem), k120 l1 l2 l3 m = some r → q_E md_X11_layCells 4 N (none) r m 120 [q_A 81, q_I l1, q_I l2, q_I l3] []) (h : f_Mod_layCells_b120 k120 l1 l2 l3 m = some r) : q_E md_X11_layCells 4 N (none) r m 120 [q_A 81, q_I l1, q_I l2, q_I l3] [] := by
  unfold f_Mod_layCells_b120 at h
  refine q_iload_n (M := md_X11_layCells) (pc := 120) dX11_layCells_120 rfl ?_
  refine q_bipush (M := md_X11_layCells) (pc := 121) (x := 100) dX11_layCells_121 (by decide) ?_
  refine e_icmp_ge (M := md_X11_layCells) (pc := 123) (tgt := 171) h rfl (q_wlit rfl) dX11_layCells_123 (by decide) (fun h => ?_) (fun h => ?_)
  · exact e_vret (M := md_X11_layCells) (pc := 171) h rfl dX11_layCells_171
  · refine q_aload_n (M := md_X11_layCells) (pc := 126) dX11_layCells_126 rfl (by decide) ?_
    refine q_getP (M := md_X11_layCells) (pc := 127) (v := 117) fl_11_121 dX11_layCells_127 (is_81 hN) rfl ?_
    refine q_iload_n (M := md_X11_layCells) (pc := 130) dX11_layCells_130 rfl ?_
    refine q_aload_n (M := md_X11_layCells) (pc := 131) dX11_layCells_131 rfl (by decide) ?_
    refine q_iload_n (M := md_X11_layCells) (pc := 132) dX11_layCells_132 rfl ?_
    refine e_callVi (M := md_X11_layCells) (pc := 133) (d' := 3) (av := [q_I l3]) (c := 81) h ml_11_333 im_X11_isThere se_X11_isThere dX11_layCells_133 (fun v he => ok_X11_isThere hN  he) rfl (is_81 hN) ⟨_, _, rfl⟩ (by decide) (Nat.le_of_ble_eq_true rfl) ⟨by decide, by decide⟩ rfl (fun v1 m2 h => ?_)
    refine e_if_eq (M := md_X11_layCells) (pc := 136) (tgt := 163) h rfl dX11_layCells_136 (by decide) (fun h => ?_) (fun h => ?_)
    · refine q_iconst (M := md_X11_layCells) (pc := 163) dX11_layCells_163 ?_
      exact q_weak (w_Mod_layCells_b164 hN hk120  h) ⟨Or.inr rfl, Or.inr rfl, Or.inr rfl, Or.inr rfl, trivial⟩
    · refine q_aload_n (M := md_X11_layCells) (pc := 139) dX11_layCells_139 rfl (by decide) ?_
      refine q_getP (M := md_X11_layCells) (pc := 140) (v := 119) fl_11_127 dX11_layCells_140 (is_81 hN) rfl ?_
      refine q_bipush (M := md_X11_layCells) (pc := 143) (x := 64) dX11_layCells_143 (by decide) ?_
      refine q_iload_n (M := md_X11_layCells) (pc := 145) dX11_layCells_145 rfl ?_
      refine q_iload_n (M := md_X11_layCells) (pc := 146) dX11_layCells_146 rfl ?_
      refine q_bipush (M := md_X11_layCells) (pc := 147) (x := 10) dX11_layCells_147 (by decide) ?_
      refine e_dv (M := md_X11_layCells) (pc := 149) h dX11_layCells_149 (fun v3 h => ?_)
      refine q_imul (M := md_X11_layCells) (pc := 150) dX11_layCells_150 ?_
      refine q_iadd (M := md_X11_layCells) (pc := 151) dX11_layCells_151 ?_
      refine q_iload_n (M := md_X11_layCells) (pc := 152) dX11_layCells_152 rfl ?_
      refine q_iload_n (M := md_X11_layCells) (pc := 153) dX11_layCells_153 rfl ?_
      refine q_bipush (M := md_X11_layCells) (pc := 154) (x := 10) dX11_layCells_154 (by decide) ?_
      refine e_md (M := md_X11_layCells) (pc := 156) h dX11_layCells_156 (fun v4 h => ?_)
      refine q_imul (M := md_X11_layCells) (pc := 157) dX11_layCells_157 ?_
      refine q_isub (M := md_X11_layCells) (pc := 158) dX11_layCells_158 ?_
      refine e_rd (M := md_X11_layCells) (pc := 159) h dX11_layCells_159 (ar_119 hN) (fun v5 h => ?_)
      refine q_goto (M := md_X11_layCells) (pc := 160) (tgt := 164) dX11_layCells_160 (by decide) ?_
      exact q_weak (w_Mod_layCells_b164 hN hk120  h) ⟨Or.inr rfl, Or.inr rfl, Or.inr rfl, Or.inr rfl, trivial⟩
def f_Mod_layCells_l120 : Nat → Int → Int → Int → q_Mem → q_Res
  | 0 => fun _ _ _ _ => none
  | n + 1 => fun l1 l2 l3 m => f_Mod_layCells_b120 (f_Mod_layCells_l120 n) l1 l2 l3 m
theorem w_Mod_layCells_l120 {r : Int × q_Mem} {N : Nat} (hN : 126 ≤ N) : ∀ (n : Nat) (l1 l2 l3 : Int) (m : q_Mem), f_Mod_layCells_l120 n l1 l2 l3 m = some r → q_E md_X11_layCells 4 N (none) r m 120 [q_A 81, q_I l1, q_I l2, q_I l3] [] := by
  intro n
  induction n with
  | zero => intro l1 l2 l3 m h; exact q_no h
  | succ n ih =>
    intro l1 l2 l3 m h
    exact w_Mod_layCells_b120 hN (fun l1 l2 l3 m h => ih l1 l2 l3 m h) h
def f_Mod_layCells_b73 (k73 : Int → Int → Int → q_Mem → q_Res) (l1 l2 l3 : Int) (m : q_Mem) : q_Res :=
  if 128 ≤ q_w l3 then (f_Mod_layCells_l120 q_F l1 l2 0 m)
  else (q_rd m 119 128 l3 fun v1 =>
  if 0 ≤ q_w v1 then (q_wr m 119 128 l3 (m 81 54) fun m2 =>
  q_pf m2 81 54 ((m2 81 54) + 1) fun m3 =>
  f_Mod_layCells_b112 k73 l1 l2 l3 m3)
  else (f_Mod_layCells_b112 k73 l1 l2 l3 m))
set_option maxRecDepth 20000 in
theorem w_Mod_layCells_b73 {k73 : Int → Int → Int → q_Mem → q_Res} {l1 l2 l3 : Int} {r : Int × q_Mem} {m : q_Mem} {N : Nat} (hN : 126 ≤ N) (hk73 : ∀ (l1 l2 l3 : Int) (m : q_Mem), k73 l1 l2 l3 m = some r → q_E md_X11_layCells 4 N (none) r m 73 [q_A 81, q_I l1, q_I l2, q_I l3] []) (h : f_Mod_layCells_b73 k73 l1 l2 l3 m = some r) : q_E md_X11_layCells 4 N (none) r m 73 [q_A 81, q_I l1, q_I l2, q_I l3] [] := by
  unfold f_Mod_layCells_b73 at h
  refine q_iload_n (M := md_X11_layCells) (pc := 73) dX11_layCells_73 rfl ?_
  refine q_sipush (M := md_X11_layCells) (pc := 74) (x := 128) dX11_layCells_74 (by decide) ?_
  refine e_icmp_ge (M := md_X11_layCells) (pc := 77) (tgt := 118) h rfl (q_wlit rfl) dX11_layCells_77 (by decide) (fun h => ?_) (fun h => ?_)
  · refine q_iconst (M := md_X11_layCells) (pc := 118) dX11_layCells_118 ?_
    refine e_ist_n (M := md_X11_layCells) (pc := 119) (ls' := [q_A 81, q_I l1, q_I l2, q_I 0]) dX11_layCells_119 (by decide) (q_pl rfl) rfl ?_
    exact q_weak (w_Mod_layCells_l120 hN q_F _ _ _ _  h) ⟨Or.inr rfl, Or.inr rfl, Or.inr rfl, Or.inr rfl, trivial⟩
  · refine q_aload_n (M := md_X11_layCells) (pc := 80) dX11_layCells_80 rfl (by decide) ?_
    refine q_getP (M := md_X11_layCells) (pc := 81) (v := 119) fl_11_127 dX11_layCells_81 (is_81 hN) rfl ?_
    refine q_iload_n (M := md_X11_layCells) (pc := 84) dX11_layCells_84 rfl ?_
    refine e_rd (M := md_X11_layCells) (pc := 85) h dX11_layCells_85 (ar_119 hN) (fun v1 h => ?_)
    refine e_if_ge (M := md_X11_layCells) (pc := 86) (tgt := 92) h rfl dX11_layCells_86 (by decide) (fun h => ?_) (fun h => ?_)
    · refine q_aload_n (M := md_X11_layCells) (pc := 92) dX11_layCells_92 rfl (by decide) ?_
      refine q_getP (M := md_X11_layCells) (pc := 93) (v := 119) fl_11_127 dX11_layCells_93 (is_81 hN) rfl ?_
      refine q_iload_n (M := md_X11_layCells) (pc := 96) dX11_layCells_96 rfl ?_
      refine q_aload_n (M := md_X11_layCells) (pc := 97) dX11_layCells_97 rfl (by decide) ?_
      refine e_gI (M := md_X11_layCells) (pc := 98) (v := m 81 54) fl_11_418 dX11_layCells_98 (is_81 hN) rfl ?_
      refine e_wr (M := md_X11_layCells) (pc := 101) h dX11_layCells_101 (ar_119 hN) (fun m2 h => ?_)
      refine q_aload_n (M := md_X11_layCells) (pc := 102) dX11_layCells_102 rfl (by decide) ?_
      refine q_dup (M := md_X11_layCells) (pc := 103) dX11_layCells_103 (show (2 : Nat) ≠ 1 by decide) ?_
      refine e_gI (M := md_X11_layCells) (pc := 104) (v := m2 81 54) fl_11_418 dX11_layCells_104 (is_81 hN) rfl ?_
      refine q_iconst (M := md_X11_layCells) (pc := 107) dX11_layCells_107 ?_
      refine q_iadd (M := md_X11_layCells) (pc := 108) dX11_layCells_108 ?_
      refine e_pfI (M := md_X11_layCells) (pc := 109) h fl_11_418 dX11_layCells_109 (is_81 hN) rfl (fun m3 h => ?_)
      exact q_weak (w_Mod_layCells_b112 hN hk73  h) ⟨Or.inr rfl, Or.inr rfl, Or.inr rfl, Or.inr rfl, trivial⟩
    · refine q_goto (M := md_X11_layCells) (pc := 89) (tgt := 112) dX11_layCells_89 (by decide) ?_
      exact q_weak (w_Mod_layCells_b112 hN hk73  h) ⟨Or.inr rfl, Or.inr rfl, Or.inr rfl, Or.inr rfl, trivial⟩
def f_Mod_layCells_l73 : Nat → Int → Int → Int → q_Mem → q_Res
  | 0 => fun _ _ _ _ => none
  | n + 1 => fun l1 l2 l3 m => f_Mod_layCells_b73 (f_Mod_layCells_l73 n) l1 l2 l3 m
theorem w_Mod_layCells_l73 {r : Int × q_Mem} {N : Nat} (hN : 126 ≤ N) : ∀ (n : Nat) (l1 l2 l3 : Int) (m : q_Mem), f_Mod_layCells_l73 n l1 l2 l3 m = some r → q_E md_X11_layCells 4 N (none) r m 73 [q_A 81, q_I l1, q_I l2, q_I l3] [] := by
  intro n
  induction n with
  | zero => intro l1 l2 l3 m h; exact q_no h
  | succ n ih =>
    intro l1 l2 l3 m h
    exact w_Mod_layCells_b73 hN (fun l1 l2 l3 m h => ih l1 l2 l3 m h) h
def f_Mod_layCells_b24 (k24 : Int → Int → Int → q_Mem → q_Res) (l1 l2 l3 : Int) (m : q_Mem) : q_Res :=
  if 100 ≤ q_w l3 then (q_pf m 81 54 0 fun m1 =>
  f_Mod_layCells_l73 q_F l1 l2 0 m1)
  else (q_bd (f_Mod_isThere l3 m) fun v2 m3 =>
  if q_w v2 = 0 then (f_Mod_layCells_b60 k24 l1 l2 l3 m3)
  else (q_dv l3 10 fun v4 =>
  q_md l3 10 fun v5 =>
  q_wr m3 119 128 ((64 + (l2 * v4)) - (l1 * v5)) 0 fun m6 =>
  f_Mod_layCells_b60 k24 l1 l2 l3 m6))
set_option maxRecDepth 20000 in
theorem w_Mod_layCells_b24 {k24 : Int → Int → Int → q_Mem → q_Res} {l1 l2 l3 : Int} {r : Int × q_Mem} {m : q_Mem} {N : Nat} (hN : 126 ≤ N) (hk24 : ∀ (l1 l2 l3 : Int) (m : q_Mem), k24 l1 l2 l3 m = some r → q_E md_X11_layCells 4 N (none) r m 24 [q_A 81, q_I l1, q_I l2, q_I l3] []) (h : f_Mod_layCells_b24 k24 l1 l2 l3 m = some r) : q_E md_X11_layCells 4 N (none) r m 24 [q_A 81, q_I l1, q_I l2, q_I l3] [] := by
  unfold f_Mod_layCells_b24 at h
  refine q_iload_n (M := md_X11_layCells) (pc := 24) dX11_layCells_24 rfl ?_
  refine q_bipush (M := md_X11_layCells) (pc := 25) (x := 100) dX11_layCells_25 (by decide) ?_
  refine e_icmp_ge (M := md_X11_layCells) (pc := 27) (tgt := 66) h rfl (q_wlit rfl) dX11_layCells_27 (by decide) (fun h => ?_) (fun h => ?_)
  · refine q_aload_n (M := md_X11_layCells) (pc := 66) dX11_layCells_66 rfl (by decide) ?_
    refine q_iconst (M := md_X11_layCells) (pc := 67) dX11_layCells_67 ?_
    refine e_pfI (M := md_X11_layCells) (pc := 68) h fl_11_418 dX11_layCells_68 (is_81 hN) rfl (fun m1 h => ?_)
    refine q_iconst (M := md_X11_layCells) (pc := 71) dX11_layCells_71 ?_
    refine e_ist_n (M := md_X11_layCells) (pc := 72) (ls' := [q_A 81, q_I l1, q_I l2, q_I 0]) dX11_layCells_72 (by decide) (q_pl rfl) rfl ?_
    exact q_weak (w_Mod_layCells_l73 hN q_F _ _ _ _  h) ⟨Or.inr rfl, Or.inr rfl, Or.inr rfl, Or.inr rfl, trivial⟩
  · refine q_aload_n (M := md_X11_layCells) (pc := 30) dX11_layCells_30 rfl (by decide) ?_
    refine q_iload_n (M := md_X11_layCells) (pc := 31) dX11_layCells_31 rfl ?_
    refine e_callVi (M := md_X11_layCells) (pc := 32) (d' := 3) (av := [q_I l3]) (c := 81) h ml_11_333 im_X11_isThere se_X11_isThere dX11_layCells_32 (fun v he => ok_X11_isThere hN  he) rfl (is_81 hN) ⟨_, _, rfl⟩ (by decide) (Nat.le_of_ble_eq_true rfl) ⟨by decide, by decide⟩ rfl (fun v2 m3 h => ?_)
    refine e_if_eq (M := md_X11_layCells) (pc := 35) (tgt := 60) h rfl dX11_layCells_35 (by decide) (fun h => ?_) (fun h => ?_)
    · exact q_weak (w_Mod_layCells_b60 hN hk24  h) ⟨Or.inr rfl, Or.inr rfl, Or.inr rfl, Or.inr rfl, trivial⟩
    · refine q_aload_n (M := md_X11_layCells) (pc := 38) dX11_layCells_38 rfl (by decide) ?_
      refine q_getP (M := md_X11_layCells) (pc := 39) (v := 119) fl_11_127 dX11_layCells_39 (is_81 hN) rfl ?_
      refine q_bipush (M := md_X11_layCells) (pc := 42) (x := 64) dX11_layCells_42 (by decide) ?_
      refine q_iload_n (M := md_X11_layCells) (pc := 44) dX11_layCells_44 rfl ?_
      refine q_iload_n (M := md_X11_layCells) (pc := 45) dX11_layCells_45 rfl ?_
      refine q_bipush (M := md_X11_layCells) (pc := 46) (x := 10) dX11_layCells_46 (by decide) ?_
      refine e_dv (M := md_X11_layCells) (pc := 48) h dX11_layCells_48 (fun v4 h => ?_)
      refine q_imul (M := md_X11_layCells) (pc := 49) dX11_layCells_49 ?_
      refine q_iadd (M := md_X11_layCells) (pc := 50) dX11_layCells_50 ?_
      refine q_iload_n (M := md_X11_layCells) (pc := 51) dX11_layCells_51 rfl ?_
      refine q_iload_n (M := md_X11_layCells) (pc := 52) dX11_layCells_52 rfl ?_
      refine q_bipush (M := md_X11_layCells) (pc := 53) (x := 10) dX11_layCells_53 (by decide) ?_
      refine e_md (M := md_X11_layCells) (pc := 55) h dX11_layCells_55 (fun v5 h => ?_)
      refine q_imul (M := md_X11_layCells) (pc := 56) dX11_layCells_56 ?_
      refine q_isub (M := md_X11_layCells) (pc := 57) dX11_layCells_57 ?_
      refine q_iconst (M := md_X11_layCells) (pc := 58) dX11_layCells_58 ?_
      refine e_wr (M := md_X11_layCells) (pc := 59) h dX11_layCells_59 (ar_119 hN) (fun m6 h => ?_)
      exact q_weak (w_Mod_layCells_b60 hN hk24  h) ⟨Or.inr rfl, Or.inr rfl, Or.inr rfl, Or.inr rfl, trivial⟩
def f_Mod_layCells_l24 : Nat → Int → Int → Int → q_Mem → q_Res
  | 0 => fun _ _ _ _ => none
  | n + 1 => fun l1 l2 l3 m => f_Mod_layCells_b24 (f_Mod_layCells_l24 n) l1 l2 l3 m
theorem w_Mod_layCells_l24 {r : Int × q_Mem} {N : Nat} (hN : 126 ≤ N) : ∀ (n : Nat) (l1 l2 l3 : Int) (m : q_Mem), f_Mod_layCells_l24 n l1 l2 l3 m = some r → q_E md_X11_layCells 4 N (none) r m 24 [q_A 81, q_I l1, q_I l2, q_I l3] [] := by
  intro n
  induction n with
  | zero => intro l1 l2 l3 m h; exact q_no h
  | succ n ih =>
    intro l1 l2 l3 m h
    exact w_Mod_layCells_b24 hN (fun l1 l2 l3 m h => ih l1 l2 l3 m h) h
def f_Mod_layCells_b2 (k2 : Int → Int → Int → q_Mem → q_Res) (l1 l2 l3 : Int) (m : q_Mem) : q_Res :=
  if 128 ≤ q_w l3 then (f_Mod_layCells_l24 q_F l1 l2 0 m)
  else (q_wr m 119 128 l3 (-1) fun m1 =>
  k2 l1 l2 (l3 + 1) m1)
set_option maxRecDepth 20000 in
theorem w_Mod_layCells_b2 {k2 : Int → Int → Int → q_Mem → q_Res} {l1 l2 l3 : Int} {r : Int × q_Mem} {m : q_Mem} {N : Nat} (hN : 126 ≤ N) (hk2 : ∀ (l1 l2 l3 : Int) (m : q_Mem), k2 l1 l2 l3 m = some r → q_E md_X11_layCells 4 N (none) r m 2 [q_A 81, q_I l1, q_I l2, q_I l3] []) (h : f_Mod_layCells_b2 k2 l1 l2 l3 m = some r) : q_E md_X11_layCells 4 N (none) r m 2 [q_A 81, q_I l1, q_I l2, q_I l3] [] := by
  unfold f_Mod_layCells_b2 at h
  refine q_iload_n (M := md_X11_layCells) (pc := 2) dX11_layCells_2 rfl ?_
  refine q_sipush (M := md_X11_layCells) (pc := 3) (x := 128) dX11_layCells_3 (by decide) ?_
  refine e_icmp_ge (M := md_X11_layCells) (pc := 6) (tgt := 22) h rfl (q_wlit rfl) dX11_layCells_6 (by decide) (fun h => ?_) (fun h => ?_)
  · refine q_iconst (M := md_X11_layCells) (pc := 22) dX11_layCells_22 ?_
    refine e_ist_n (M := md_X11_layCells) (pc := 23) (ls' := [q_A 81, q_I l1, q_I l2, q_I 0]) dX11_layCells_23 (by decide) (q_pl rfl) rfl ?_
    exact q_weak (w_Mod_layCells_l24 hN q_F _ _ _ _  h) ⟨Or.inr rfl, Or.inr rfl, Or.inr rfl, Or.inr rfl, trivial⟩
  · refine q_aload_n (M := md_X11_layCells) (pc := 9) dX11_layCells_9 rfl (by decide) ?_
    refine q_getP (M := md_X11_layCells) (pc := 10) (v := 119) fl_11_127 dX11_layCells_10 (is_81 hN) rfl ?_
    refine q_iload_n (M := md_X11_layCells) (pc := 13) dX11_layCells_13 rfl ?_
    refine q_iconst (M := md_X11_layCells) (pc := 14) dX11_layCells_14 ?_
    refine e_wr (M := md_X11_layCells) (pc := 15) h dX11_layCells_15 (ar_119 hN) (fun m1 h => ?_)
    refine e_inc (M := md_X11_layCells) (pc := 16) (x := l3) (ls' := [q_A 81, q_I l1, q_I l2, q_I (l3 + 1)]) dX11_layCells_16 rfl (by decide) (q_pl rfl) rfl ?_
    refine q_goto (M := md_X11_layCells) (pc := 19) (tgt := 2) dX11_layCells_19 (by decide) ?_
    exact q_weak (hk2 _ _ _ _  h) ⟨Or.inr rfl, Or.inr rfl, Or.inr rfl, Or.inr rfl, trivial⟩
def f_Mod_layCells_l2 : Nat → Int → Int → Int → q_Mem → q_Res
  | 0 => fun _ _ _ _ => none
  | n + 1 => fun l1 l2 l3 m => f_Mod_layCells_b2 (f_Mod_layCells_l2 n) l1 l2 l3 m
theorem w_Mod_layCells_l2 {r : Int × q_Mem} {N : Nat} (hN : 126 ≤ N) : ∀ (n : Nat) (l1 l2 l3 : Int) (m : q_Mem), f_Mod_layCells_l2 n l1 l2 l3 m = some r → q_E md_X11_layCells 4 N (none) r m 2 [q_A 81, q_I l1, q_I l2, q_I l3] [] := by
  intro n
  induction n with
  | zero => intro l1 l2 l3 m h; exact q_no h
  | succ n ih =>
    intro l1 l2 l3 m h
    exact w_Mod_layCells_b2 hN (fun l1 l2 l3 m h => ih l1 l2 l3 m h) h
def f_Mod_layCells (l1 l2 : Int) (m : q_Mem) : q_Res :=
  f_Mod_layCells_l2 q_F l1 l2 0 m
set_option maxRecDepth 20000 in
theorem ok_X11_layCells {l1 l2 : Int} {r : Int × q_Mem} {m : q_Mem} {N : Nat} (hN : 126 ≤ N) (h : f_Mod_layCells l1 l2 m = some r) : q_C md_X11_layCells (q_room 4) 0 0 [q_A 81, q_I l1, q_I l2] (q_g N) m (none, q_g N, r.2) := by
  refine q_ofR (by decide) 1 (ls := [q_A 81, q_I l1, q_I l2, q_N]) rfl (Nat.le_of_ble_eq_true rfl) ?_
  change q_E md_X11_layCells 4 N (none) r m 0 [q_A 81, q_I l1, q_I l2, q_N] []
  unfold f_Mod_layCells at h
  refine q_iconst (M := md_X11_layCells) (pc := 0) dX11_layCells_0 ?_
  refine e_ist_n (M := md_X11_layCells) (pc := 1) (ls' := [q_A 81, q_I l1, q_I l2, q_I 0]) dX11_layCells_1 (by decide) (q_pl rfl) rfl ?_
  exact q_weak (w_Mod_layCells_l2 hN q_F _ _ _ _  h) ⟨Or.inr rfl, Or.inr rfl, Or.inr rfl, Or.inr rfl, trivial⟩
def f_Mod_layClashes_b92 (k7 : Int → q_Mem → q_Res) (k22 : Int → Int → q_Mem → q_Res) (l1 l2 s1 s2 : Int) (m : q_Mem) : q_Res :=
  q_wrz m 118 100 s1 s2 fun m1 =>
  k22 l1 (l2 + 1) m1
set_option maxRecDepth 20000 in
theorem w_Mod_layClashes_b92 {k7 : Int → q_Mem → q_Res} {k22 : Int → Int → q_Mem → q_Res} {l1 l2 s1 s2 : Int} {r : Int × q_Mem} {m : q_Mem} {N : Nat} (hN : 126 ≤ N) (hk7 : ∀ (l1 : Int) (m : q_Mem), k7 l1 m = some r → q_E md_X11_layClashes 4 N (none) r m 7 [q_A 81, q_I l1, q_N] []) (hk22 : ∀ (l1 l2 : Int) (m : q_Mem), k22 l1 l2 m = some r → q_E md_X11_layClashes 4 N (none) r m 22 [q_A 81, q_I l1, q_I l2] []) (h : f_Mod_layClashes_b92 k7 k22 l1 l2 s1 s2 m = some r) : q_E md_X11_layClashes 4 N (none) r m 92 [q_A 81, q_I l1, q_I l2] [q_I s2, q_I s1, q_A 118] := by
  unfold f_Mod_layClashes_b92 at h
  refine e_wrz (M := md_X11_layClashes) (pc := 92) h dX11_layClashes_92 (ar_118 hN) (fun m1 h => ?_)
  refine e_inc (M := md_X11_layClashes) (pc := 93) (x := l2) (ls' := [q_A 81, q_I l1, q_I (l2 + 1)]) dX11_layClashes_93 rfl (by decide) (q_pl rfl) rfl ?_
  refine q_goto (M := md_X11_layClashes) (pc := 96) (tgt := 22) dX11_layClashes_96 (by decide) ?_
  exact q_weak (hk22 _ _ _  h) ⟨Or.inr rfl, Or.inr rfl, Or.inr rfl, trivial⟩
def f_Mod_layClashes_b87 (k7 : Int → q_Mem → q_Res) (k22 : Int → Int → q_Mem → q_Res) (l1 l2 s1 : Int) (m : q_Mem) : q_Res :=
  f_Mod_layClashes_b92 k7 k22 l1 l2 s1 1 m
set_option maxRecDepth 20000 in
theorem w_Mod_layClashes_b87 {k7 : Int → q_Mem → q_Res} {k22 : Int → Int → q_Mem → q_Res} {l1 l2 s1 : Int} {r : Int × q_Mem} {m : q_Mem} {N : Nat} (hN : 126 ≤ N) (hk7 : ∀ (l1 : Int) (m : q_Mem), k7 l1 m = some r → q_E md_X11_layClashes 4 N (none) r m 7 [q_A 81, q_I l1, q_N] []) (hk22 : ∀ (l1 l2 : Int) (m : q_Mem), k22 l1 l2 m = some r → q_E md_X11_layClashes 4 N (none) r m 22 [q_A 81, q_I l1, q_I l2] []) (h : f_Mod_layClashes_b87 k7 k22 l1 l2 s1 m = some r) : q_E md_X11_layClashes 4 N (none) r m 87 [q_A 81, q_I l1, q_I l2] [q_I s1, q_A 118] := by
  unfold f_Mod_layClashes_b87 at h
  refine q_iconst (M := md_X11_layClashes) (pc := 87) dX11_layClashes_87 ?_
  refine q_goto (M := md_X11_layClashes) (pc := 88) (tgt := 92) dX11_layClashes_88 (by decide) ?_
  exact q_weak (w_Mod_layClashes_b92 hN hk7 hk22  h) ⟨Or.inr rfl, Or.inr rfl, Or.inr rfl, trivial⟩
def f_Mod_layClashes_b91 (k7 : Int → q_Mem → q_Res) (k22 : Int → Int → q_Mem → q_Res) (l1 l2 s1 : Int) (m : q_Mem) : q_Res :=
  f_Mod_layClashes_b92 k7 k22 l1 l2 s1 0 m
set_option maxRecDepth 20000 in
theorem w_Mod_layClashes_b91 {k7 : Int → q_Mem → q_Res} {k22 : Int → Int → q_Mem → q_Res} {l1 l2 s1 : Int} {r : Int × q_Mem} {m : q_Mem} {N : Nat} (hN : 126 ≤ N) (hk7 : ∀ (l1 : Int) (m : q_Mem), k7 l1 m = some r → q_E md_X11_layClashes 4 N (none) r m 7 [q_A 81, q_I l1, q_N] []) (hk22 : ∀ (l1 l2 : Int) (m : q_Mem), k22 l1 l2 m = some r → q_E md_X11_layClashes 4 N (none) r m 22 [q_A 81, q_I l1, q_I l2] []) (h : f_Mod_layClashes_b91 k7 k22 l1 l2 s1 m = some r) : q_E md_X11_layClashes 4 N (none) r m 91 [q_A 81, q_I l1, q_I l2] [q_I s1, q_A 118] := by
  unfold f_Mod_layClashes_b91 at h
  refine q_iconst (M := md_X11_layClashes) (pc := 91) dX11_layClashes_91 ?_
  exact q_weak (w_Mod_layClashes_b92 hN hk7 hk22  h) ⟨Or.inr rfl, Or.inr rfl, Or.inr rfl, trivial⟩
def f_Mod_layClashes_b118 (k7 : Int → q_Mem → q_Res) (l1 s1 s2 : Int) (m : q_Mem) : q_Res :=
  q_pf m 81 55 (s1 + s2) fun m1 =>
  k7 (l1 + 1) m1
set_option maxRecDepth 20000 in
theorem w_Mod_layClashes_b118 {k7 : Int → q_Mem → q_Res} {l1 s1 s2 : Int} {r : Int × q_Mem} {m : q_Mem} {N : Nat} (hN : 126 ≤ N) (hk7 : ∀ (l1 : Int) (m : q_Mem), k7 l1 m = some r → q_E md_X11_layClashes 4 N (none) r m 7 [q_A 81, q_I l1, q_N] []) (h : f_Mod_layClashes_b118 k7 l1 s1 s2 m = some r) : q_E md_X11_layClashes 4 N (none) r m 118 [q_A 81, q_I l1, q_N] [q_I s2, q_I s1, q_A 81] := by
  unfold f_Mod_layClashes_b118 at h
  refine q_iadd (M := md_X11_layClashes) (pc := 118) dX11_layClashes_118 ?_
  refine e_pfI (M := md_X11_layClashes) (pc := 119) h fl_11_421 dX11_layClashes_119 (is_81 hN) rfl (fun m1 h => ?_)
  refine e_inc (M := md_X11_layClashes) (pc := 122) (x := l1) (ls' := [q_A 81, q_I (l1 + 1), q_N]) dX11_layClashes_122 rfl (by decide) (q_pl rfl) rfl ?_
  refine q_goto (M := md_X11_layClashes) (pc := 125) (tgt := 7) dX11_layClashes_125 (by decide) ?_
  exact q_weak (hk7 _ _  h) ⟨Or.inr rfl, Or.inr rfl, Or.inl rfl, trivial⟩
def f_Mod_layClashes_b99 (k7 : Int → q_Mem → q_Res) (l1 : Int) (m : q_Mem) : q_Res :=
  q_rd m 118 100 l1 fun v1 =>
  if q_w v1 = 0 then (f_Mod_layClashes_b118 k7 l1 (m 81 55) 0 m)
  else (f_Mod_layClashes_b118 k7 l1 (m 81 55) 1 m)
set_option maxRecDepth 20000 in
theorem w_Mod_layClashes_b99 {k7 : Int → q_Mem → q_Res} {l1 : Int} {r : Int × q_Mem} {m : q_Mem} {N : Nat} (hN : 126 ≤ N) (hk7 : ∀ (l1 : Int) (m : q_Mem), k7 l1 m = some r → q_E md_X11_layClashes 4 N (none) r m 7 [q_A 81, q_I l1, q_N] []) (h : f_Mod_layClashes_b99 k7 l1 m = some r) : q_E md_X11_layClashes 4 N (none) r m 99 [q_A 81, q_I l1, q_N] [] := by
  unfold f_Mod_layClashes_b99 at h
  refine q_aload_n (M := md_X11_layClashes) (pc := 99) dX11_layClashes_99 rfl (by decide) ?_
  refine q_dup (M := md_X11_layClashes) (pc := 100) dX11_layClashes_100 (show (2 : Nat) ≠ 1 by decide) ?_
  refine e_gI (M := md_X11_layClashes) (pc := 101) (v := m 81 55) fl_11_421 dX11_layClashes_101 (is_81 hN) rfl ?_
  refine q_aload_n (M := md_X11_layClashes) (pc := 104) dX11_layClashes_104 rfl (by decide) ?_
  refine q_getP (M := md_X11_layClashes) (pc := 105) (v := 118) fl_11_124 dX11_layClashes_105 (is_81 hN) rfl ?_
  refine q_iload_n (M := md_X11_layClashes) (pc := 108) dX11_layClashes_108 rfl ?_
  refine e_rdz (M := md_X11_layClashes) (pc := 109) h dX11_layClashes_109 (ar_118 hN) (fun v1 h => ?_)
  refine e_if_eq (M := md_X11_layClashes) (pc := 110) (tgt := 117) h rfl dX11_layClashes_110 (by decide) (fun h => ?_) (fun h => ?_)
  · refine q_iconst (M := md_X11_layClashes) (pc := 117) dX11_layClashes_117 ?_
    exact q_weak (w_Mod_layClashes_b118 hN hk7  h) ⟨Or.inr rfl, Or.inr rfl, Or.inl rfl, trivial⟩
  · refine q_iconst (M := md_X11_layClashes) (pc := 113) dX11_layClashes_113 ?_
    refine q_goto (M := md_X11_layClashes) (pc := 114) (tgt := 118) dX11_layClashes_114 (by decide) ?_
    exact q_weak (w_Mod_layClashes_b118 hN hk7  h) ⟨Or.inr rfl, Or.inr rfl, Or.inl rfl, trivial⟩
def f_Mod_layClashes_b22 (k7 : Int → q_Mem → q_Res) (k22 : Int → Int → q_Mem → q_Res) (l1 l2 : Int) (m : q_Mem) : q_Res :=
  if q_w l1 ≤ q_w l2 then (f_Mod_layClashes_b99 k7 l1 m)
  else (q_bd (f_Mod_isThere l1 m) fun v1 m2 =>
  if q_w v1 = 0 then (f_Mod_layClashes_b99 k7 l1 m2)
  else (q_rd m2 118 100 l1 fun v3 =>
  if q_w v3 = 0 then (q_bd (f_Mod_isThere l2 m2) fun v4 m5 =>
  if q_w v4 = 0 then (f_Mod_layClashes_b91 k7 k22 l1 l2 l1 m5)
  else (q_rd m5 116 100 l2 fun v6 =>
  q_rd m5 116 100 l1 fun v7 =>
  if q_w v6 = q_w v7 then (q_rd m5 117 100 l2 fun v8 =>
  q_rd m5 117 100 l1 fun v9 =>
  if q_w v8 = q_w v9 then (f_Mod_layClashes_b87 k7 k22 l1 l2 l1 m5)
  else (f_Mod_layClashes_b91 k7 k22 l1 l2 l1 m5))
  else (f_Mod_layClashes_b91 k7 k22 l1 l2 l1 m5)))
  else (f_Mod_layClashes_b87 k7 k22 l1 l2 l1 m2)))
set_option maxRecDepth 20000 in
theorem w_Mod_layClashes_b22 {k7 : Int → q_Mem → q_Res} {k22 : Int → Int → q_Mem → q_Res} {l1 l2 : Int} {r : Int × q_Mem} {m : q_Mem} {N : Nat} (hN : 126 ≤ N) (hk7 : ∀ (l1 : Int) (m : q_Mem), k7 l1 m = some r → q_E md_X11_layClashes 4 N (none) r m 7 [q_A 81, q_I l1, q_N] []) (hk22 : ∀ (l1 l2 : Int) (m : q_Mem), k22 l1 l2 m = some r → q_E md_X11_layClashes 4 N (none) r m 22 [q_A 81, q_I l1, q_I l2] []) (h : f_Mod_layClashes_b22 k7 k22 l1 l2 m = some r) : q_E md_X11_layClashes 4 N (none) r m 22 [q_A 81, q_I l1, q_I l2] [] := by
  unfold f_Mod_layClashes_b22 at h
  refine q_iload_n (M := md_X11_layClashes) (pc := 22) dX11_layClashes_22 rfl ?_
  refine q_iload_n (M := md_X11_layClashes) (pc := 23) dX11_layClashes_23 rfl ?_
  refine e_icmp_ge (M := md_X11_layClashes) (pc := 24) (tgt := 99) h rfl rfl dX11_layClashes_24 (by decide) (fun h => ?_) (fun h => ?_)
  · exact q_weak (w_Mod_layClashes_b99 hN hk7  h) ⟨Or.inr rfl, Or.inr rfl, Or.inl rfl, trivial⟩
  · refine q_aload_n (M := md_X11_layClashes) (pc := 27) dX11_layClashes_27 rfl (by decide) ?_
    refine q_iload_n (M := md_X11_layClashes) (pc := 28) dX11_layClashes_28 rfl ?_
    refine e_callVi (M := md_X11_layClashes) (pc := 29) (d' := 3) (av := [q_I l1]) (c := 81) h ml_11_333 im_X11_isThere se_X11_isThere dX11_layClashes_29 (fun v he => ok_X11_isThere hN  he) rfl (is_81 hN) ⟨_, _, rfl⟩ (by decide) (Nat.le_of_ble_eq_true rfl) ⟨by decide, by decide⟩ rfl (fun v1 m2 h => ?_)
    refine e_if_eq (M := md_X11_layClashes) (pc := 32) (tgt := 99) h rfl dX11_layClashes_32 (by decide) (fun h => ?_) (fun h => ?_)
    · exact q_weak (w_Mod_layClashes_b99 hN hk7  h) ⟨Or.inr rfl, Or.inr rfl, Or.inl rfl, trivial⟩
    · refine q_aload_n (M := md_X11_layClashes) (pc := 35) dX11_layClashes_35 rfl (by decide) ?_
      refine q_getP (M := md_X11_layClashes) (pc := 36) (v := 118) fl_11_124 dX11_layClashes_36 (is_81 hN) rfl ?_
      refine q_iload_n (M := md_X11_layClashes) (pc := 39) dX11_layClashes_39 rfl ?_
      refine q_aload_n (M := md_X11_layClashes) (pc := 40) dX11_layClashes_40 rfl (by decide) ?_
      refine q_getP (M := md_X11_layClashes) (pc := 41) (v := 118) fl_11_124 dX11_layClashes_41 (is_81 hN) rfl ?_
      refine q_iload_n (M := md_X11_layClashes) (pc := 44) dX11_layClashes_44 rfl ?_
      refine e_rdz (M := md_X11_layClashes) (pc := 45) h dX11_layClashes_45 (ar_118 hN) (fun v3 h => ?_)
      refine e_if_ne (M := md_X11_layClashes) (pc := 46) (tgt := 87) h rfl dX11_layClashes_46 (by decide) (fun h => ?_) (fun h => ?_)
      · exact q_weak (w_Mod_layClashes_b87 hN hk7 hk22  h) ⟨Or.inr rfl, Or.inr rfl, Or.inr rfl, trivial⟩
      · refine q_aload_n (M := md_X11_layClashes) (pc := 49) dX11_layClashes_49 rfl (by decide) ?_
        refine q_iload_n (M := md_X11_layClashes) (pc := 50) dX11_layClashes_50 rfl ?_
        refine e_callVi (M := md_X11_layClashes) (pc := 51) (d' := 3) (av := [q_I l2]) (c := 81) h ml_11_333 im_X11_isThere se_X11_isThere dX11_layClashes_51 (fun v he => ok_X11_isThere hN  he) rfl (is_81 hN) ⟨_, _, rfl⟩ (by decide) (Nat.le_of_ble_eq_true rfl) ⟨by decide, by decide⟩ rfl (fun v4 m5 h => ?_)
        refine e_if_eq (M := md_X11_layClashes) (pc := 54) (tgt := 91) h rfl dX11_layClashes_54 (by decide) (fun h => ?_) (fun h => ?_)
        · exact q_weak (w_Mod_layClashes_b91 hN hk7 hk22  h) ⟨Or.inr rfl, Or.inr rfl, Or.inr rfl, trivial⟩
        · refine q_aload_n (M := md_X11_layClashes) (pc := 57) dX11_layClashes_57 rfl (by decide) ?_
          refine q_getP (M := md_X11_layClashes) (pc := 58) (v := 116) fl_11_118 dX11_layClashes_58 (is_81 hN) rfl ?_
          refine q_iload_n (M := md_X11_layClashes) (pc := 61) dX11_layClashes_61 rfl ?_
          refine e_rd (M := md_X11_layClashes) (pc := 62) h dX11_layClashes_62 (ar_116 hN) (fun v6 h => ?_)
          refine q_aload_n (M := md_X11_layClashes) (pc := 63) dX11_layClashes_63 rfl (by decide) ?_
          refine q_getP (M := md_X11_layClashes) (pc := 64) (v := 116) fl_11_118 dX11_layClashes_64 (is_81 hN) rfl ?_
          refine q_iload_n (M := md_X11_layClashes) (pc := 67) dX11_layClashes_67 rfl ?_
          refine e_rd (M := md_X11_layClashes) (pc := 68) h dX11_layClashes_68 (ar_116 hN) (fun v7 h => ?_)
          refine e_icmp_ne (M := md_X11_layClashes) (pc := 69) (tgt := 91) h rfl rfl dX11_layClashes_69 (by decide) (fun h => ?_) (fun h => ?_)
          · exact q_weak (w_Mod_layClashes_b91 hN hk7 hk22  h) ⟨Or.inr rfl, Or.inr rfl, Or.inr rfl, trivial⟩
          · refine q_aload_n (M := md_X11_layClashes) (pc := 72) dX11_layClashes_72 rfl (by decide) ?_
            refine q_getP (M := md_X11_layClashes) (pc := 73) (v := 117) fl_11_121 dX11_layClashes_73 (is_81 hN) rfl ?_
            refine q_iload_n (M := md_X11_layClashes) (pc := 76) dX11_layClashes_76 rfl ?_
            refine e_rd (M := md_X11_layClashes) (pc := 77) h dX11_layClashes_77 (ar_117 hN) (fun v8 h => ?_)
            refine q_aload_n (M := md_X11_layClashes) (pc := 78) dX11_layClashes_78 rfl (by decide) ?_
            refine q_getP (M := md_X11_layClashes) (pc := 79) (v := 117) fl_11_121 dX11_layClashes_79 (is_81 hN) rfl ?_
            refine q_iload_n (M := md_X11_layClashes) (pc := 82) dX11_layClashes_82 rfl ?_
            refine e_rd (M := md_X11_layClashes) (pc := 83) h dX11_layClashes_83 (ar_117 hN) (fun v9 h => ?_)
            refine e_icmp_ne (M := md_X11_layClashes) (pc := 84) (tgt := 91) h rfl rfl dX11_layClashes_84 (by decide) (fun h => ?_) (fun h => ?_)
            · exact q_weak (w_Mod_layClashes_b91 hN hk7 hk22  h) ⟨Or.inr rfl, Or.inr rfl, Or.inr rfl, trivial⟩
            · exact q_weak (w_Mod_layClashes_b87 hN hk7 hk22  h) ⟨Or.inr rfl, Or.inr rfl, Or.inr rfl, trivial⟩
def f_Mod_layClashes_l22 (k7 : Int → q_Mem → q_Res) : Nat → Int → Int → q_Mem → q_Res
  | 0 => fun _ _ _ => none
  | n + 1 => fun l1 l2 m => f_Mod_layClashes_b22 k7 (f_Mod_layClashes_l22 k7 n) l1 l2 m
theorem w_Mod_layClashes_l22 {k7 : Int → q_Mem → q_Res} {r : Int × q_Mem} {N : Nat} (hN : 126 ≤ N) (hk7 : ∀ (l1 : Int) (m : q_Mem), k7 l1 m = some r → q_E md_X11_layClashes 4 N (none) r m 7 [q_A 81, q_I l1, q_N] []) : ∀ (n : Nat) (l1 l2 : Int) (m : q_Mem), f_Mod_layClashes_l22 k7 n l1 l2 m = some r → q_E md_X11_layClashes 4 N (none) r m 22 [q_A 81, q_I l1, q_I l2] [] := by
  intro n
  induction n with
  | zero => intro l1 l2 m h; exact q_no h
  | succ n ih =>
    intro l1 l2 m h
    exact w_Mod_layClashes_b22 hN hk7 (fun l1 l2 m h => ih l1 l2 m h) h
def f_Mod_layClashes_b7 (k7 : Int → q_Mem → q_Res) (l1 : Int) (m : q_Mem) : q_Res :=
  if 100 ≤ q_w l1 then (q_rt 0 m)
  else (q_wrz m 118 100 l1 0 fun m1 =>
  f_Mod_layClashes_l22 k7 q_F l1 0 m1)
set_option maxRecDepth 20000 in
theorem w_Mod_layClashes_b7 {k7 : Int → q_Mem → q_Res} {l1 : Int} {r : Int × q_Mem} {m : q_Mem} {N : Nat} (hN : 126 ≤ N) (hk7 : ∀ (l1 : Int) (m : q_Mem), k7 l1 m = some r → q_E md_X11_layClashes 4 N (none) r m 7 [q_A 81, q_I l1, q_N] []) (h : f_Mod_layClashes_b7 k7 l1 m = some r) : q_E md_X11_layClashes 4 N (none) r m 7 [q_A 81, q_I l1, q_N] [] := by
  unfold f_Mod_layClashes_b7 at h
  refine q_iload_n (M := md_X11_layClashes) (pc := 7) dX11_layClashes_7 rfl ?_
  refine q_bipush (M := md_X11_layClashes) (pc := 8) (x := 100) dX11_layClashes_8 (by decide) ?_
  refine e_icmp_ge (M := md_X11_layClashes) (pc := 10) (tgt := 128) h rfl (q_wlit rfl) dX11_layClashes_10 (by decide) (fun h => ?_) (fun h => ?_)
  · exact e_vret (M := md_X11_layClashes) (pc := 128) h rfl dX11_layClashes_128
  · refine q_aload_n (M := md_X11_layClashes) (pc := 13) dX11_layClashes_13 rfl (by decide) ?_
    refine q_getP (M := md_X11_layClashes) (pc := 14) (v := 118) fl_11_124 dX11_layClashes_14 (is_81 hN) rfl ?_
    refine q_iload_n (M := md_X11_layClashes) (pc := 17) dX11_layClashes_17 rfl ?_
    refine q_iconst (M := md_X11_layClashes) (pc := 18) dX11_layClashes_18 ?_
    refine e_wrz (M := md_X11_layClashes) (pc := 19) h dX11_layClashes_19 (ar_118 hN) (fun m1 h => ?_)
    refine q_iconst (M := md_X11_layClashes) (pc := 20) dX11_layClashes_20 ?_
    refine e_ist_n (M := md_X11_layClashes) (pc := 21) (ls' := [q_A 81, q_I l1, q_I 0]) dX11_layClashes_21 (by decide) (q_pl rfl) rfl ?_
    exact q_weak (w_Mod_layClashes_l22 hN hk7 q_F _ _ _  h) ⟨Or.inr rfl, Or.inr rfl, Or.inr rfl, trivial⟩
def f_Mod_layClashes_l7 : Nat → Int → q_Mem → q_Res
  | 0 => fun _ _ => none
  | n + 1 => fun l1 m => f_Mod_layClashes_b7 (f_Mod_layClashes_l7 n) l1 m
theorem w_Mod_layClashes_l7 {r : Int × q_Mem} {N : Nat} (hN : 126 ≤ N) : ∀ (n : Nat) (l1 : Int) (m : q_Mem), f_Mod_layClashes_l7 n l1 m = some r → q_E md_X11_layClashes 4 N (none) r m 7 [q_A 81, q_I l1, q_N] [] := by
  intro n
  induction n with
  | zero => intro l1 m h; exact q_no h
  | succ n ih =>
    intro l1 m h
    exact w_Mod_layClashes_b7 hN (fun l1 m h => ih l1 m h) h
def f_Mod_layClashes (m : q_Mem) : q_Res :=
  q_pf m 81 55 0 fun m1 =>
  f_Mod_layClashes_l7 q_F 0 m1
set_option maxRecDepth 20000 in
theorem ok_X11_layClashes {r : Int × q_Mem} {m : q_Mem} {N : Nat} (hN : 126 ≤ N) (h : f_Mod_layClashes m = some r) : q_C md_X11_layClashes (q_room 4) 0 0 [q_A 81] (q_g N) m (none, q_g N, r.2) := by
  refine q_ofR (by decide) 2 (ls := [q_A 81, q_N, q_N]) rfl (Nat.le_of_ble_eq_true rfl) ?_
  change q_E md_X11_layClashes 4 N (none) r m 0 [q_A 81, q_N, q_N] []
  unfold f_Mod_layClashes at h
  refine q_aload_n (M := md_X11_layClashes) (pc := 0) dX11_layClashes_0 rfl (by decide) ?_
  refine q_iconst (M := md_X11_layClashes) (pc := 1) dX11_layClashes_1 ?_
  refine e_pfI (M := md_X11_layClashes) (pc := 2) h fl_11_421 dX11_layClashes_2 (is_81 hN) rfl (fun m1 h => ?_)
  refine q_iconst (M := md_X11_layClashes) (pc := 5) dX11_layClashes_5 ?_
  refine e_ist_n (M := md_X11_layClashes) (pc := 6) (ls' := [q_A 81, q_I 0, q_N]) dX11_layClashes_6 (by decide) (q_pl rfl) rfl ?_
  exact q_weak (w_Mod_layClashes_l7 hN q_F _ _  h) ⟨Or.inr rfl, Or.inr rfl, Or.inl rfl, trivial⟩
def f_Mod_layPlan (l1 l2 l3 l4 : Int) (m : q_Mem) : q_Res :=
  q_bd (f_Mod_layTicks l1 l2 m) fun _ m1 =>
  q_bd (f_Mod_layCells l3 l4 m1) fun _ m2 =>
  q_bd (f_Mod_layClashes m2) fun _ m3 =>
  q_rt 0 m3
set_option maxRecDepth 20000 in
theorem ok_X11_layPlan {l1 l2 l3 l4 : Int} {r : Int × q_Mem} {m : q_Mem} {N : Nat} (hN : 126 ≤ N) (h : f_Mod_layPlan l1 l2 l3 l4 m = some r) : q_C md_X11_layPlan (q_room 5) 0 0 [q_A 81, q_I l1, q_I l2, q_I l3, q_I l4] (q_g N) m (none, q_g N, r.2) := by
  refine q_ofR (by decide) 0 (ls := [q_A 81, q_I l1, q_I l2, q_I l3, q_I l4]) rfl (Nat.le_of_ble_eq_true rfl) ?_
  change q_E md_X11_layPlan 5 N (none) r m 0 [q_A 81, q_I l1, q_I l2, q_I l3, q_I l4] []
  unfold f_Mod_layPlan at h
  refine q_aload_n (M := md_X11_layPlan) (pc := 0) dX11_layPlan_0 rfl (by decide) ?_
  refine q_iload_n (M := md_X11_layPlan) (pc := 1) dX11_layPlan_1 rfl ?_
  refine q_iload_n (M := md_X11_layPlan) (pc := 2) dX11_layPlan_2 rfl ?_
  refine e_callVv (M := md_X11_layPlan) (pc := 3) (d' := 4) (av := [q_I l1, q_I l2]) (c := 81) h ml_11_424 im_X11_layTicks se_X11_layTicks dX11_layPlan_3 (fun v he => ok_X11_layTicks hN  he) rfl (is_81 hN) ⟨_, _, rfl⟩ (by decide) (Nat.le_of_ble_eq_true rfl) ⟨by decide, by decide⟩ rfl (fun _ m1 h => ?_)
  refine q_aload_n (M := md_X11_layPlan) (pc := 6) dX11_layPlan_6 rfl (by decide) ?_
  refine q_iload_n (M := md_X11_layPlan) (pc := 7) dX11_layPlan_7 rfl ?_
  refine q_iload (M := md_X11_layPlan) (pc := 8) dX11_layPlan_8 rfl ?_
  refine e_callVv (M := md_X11_layPlan) (pc := 10) (d' := 4) (av := [q_I l3, q_I l4]) (c := 81) h ml_11_427 im_X11_layCells se_X11_layCells dX11_layPlan_10 (fun v he => ok_X11_layCells hN  he) rfl (is_81 hN) ⟨_, _, rfl⟩ (by decide) (Nat.le_of_ble_eq_true rfl) ⟨by decide, by decide⟩ rfl (fun _ m2 h => ?_)
  refine q_aload_n (M := md_X11_layPlan) (pc := 13) dX11_layPlan_13 rfl (by decide) ?_
  refine e_callVv (M := md_X11_layPlan) (pc := 14) (d' := 4) (av := []) (c := 81) h ml_11_430 im_X11_layClashes se_X11_layClashes dX11_layPlan_14 (fun v he => ok_X11_layClashes hN  he) rfl (is_81 hN) ⟨_, _, rfl⟩ (by decide) (Nat.le_of_ble_eq_true rfl) ⟨by decide, by decide⟩ rfl (fun _ m3 h => ?_)
  exact e_vret (M := md_X11_layPlan) (pc := 17) h rfl dX11_layPlan_17
def f_Mod_layNow (m : q_Mem) : q_Res :=
  q_rd m 115 69 0 fun v1 =>
  q_rd m 115 69 1 fun v2 =>
  q_rd m 115 69 2 fun v3 =>
  q_rd m 115 69 3 fun v4 =>
  q_bd (f_Mod_layPlan v1 v2 v3 v4 m) fun _ m5 =>
  q_rt 0 m5
set_option maxRecDepth 20000 in
theorem ok_X11_layNow {r : Int × q_Mem} {m : q_Mem} {N : Nat} (hN : 126 ≤ N) (h : f_Mod_layNow m = some r) : q_C md_X11_layNow (q_room 6) 0 0 [q_A 81] (q_g N) m (none, q_g N, r.2) := by
  refine q_ofR (by decide) 0 (ls := [q_A 81]) rfl (Nat.le_of_ble_eq_true rfl) ?_
  change q_E md_X11_layNow 6 N (none) r m 0 [q_A 81] []
  unfold f_Mod_layNow at h
  refine q_aload_n (M := md_X11_layNow) (pc := 0) dX11_layNow_0 rfl (by decide) ?_
  refine q_aload_n (M := md_X11_layNow) (pc := 1) dX11_layNow_1 rfl (by decide) ?_
  refine q_getP (M := md_X11_layNow) (pc := 2) (v := 115) fl_11_115 dX11_layNow_2 (is_81 hN) rfl ?_
  refine q_iconst (M := md_X11_layNow) (pc := 5) dX11_layNow_5 ?_
  refine e_rd (M := md_X11_layNow) (pc := 6) h dX11_layNow_6 (ar_115 hN) (fun v1 h => ?_)
  refine q_aload_n (M := md_X11_layNow) (pc := 7) dX11_layNow_7 rfl (by decide) ?_
  refine q_getP (M := md_X11_layNow) (pc := 8) (v := 115) fl_11_115 dX11_layNow_8 (is_81 hN) rfl ?_
  refine q_iconst (M := md_X11_layNow) (pc := 11) dX11_layNow_11 ?_
  refine e_rd (M := md_X11_layNow) (pc := 12) h dX11_layNow_12 (ar_115 hN) (fun v2 h => ?_)
  refine q_aload_n (M := md_X11_layNow) (pc := 13) dX11_layNow_13 rfl (by decide) ?_
  refine q_getP (M := md_X11_layNow) (pc := 14) (v := 115) fl_11_115 dX11_layNow_14 (is_81 hN) rfl ?_
  refine q_iconst (M := md_X11_layNow) (pc := 17) dX11_layNow_17 ?_
  refine e_rd (M := md_X11_layNow) (pc := 18) h dX11_layNow_18 (ar_115 hN) (fun v3 h => ?_)
  refine q_aload_n (M := md_X11_layNow) (pc := 19) dX11_layNow_19 rfl (by decide) ?_
  refine q_getP (M := md_X11_layNow) (pc := 20) (v := 115) fl_11_115 dX11_layNow_20 (is_81 hN) rfl ?_
  refine q_iconst (M := md_X11_layNow) (pc := 23) dX11_layNow_23 ?_
  refine e_rd (M := md_X11_layNow) (pc := 24) h dX11_layNow_24 (ar_115 hN) (fun v4 h => ?_)
  refine e_callVv (M := md_X11_layNow) (pc := 25) (d' := 5) (av := [q_I v1, q_I v2, q_I v3, q_I v4]) (c := 81) h ml_11_433 im_X11_layPlan se_X11_layPlan dX11_layNow_25 (fun v he => ok_X11_layPlan hN  he) rfl (is_81 hN) ⟨_, _, rfl⟩ (by decide) (Nat.le_of_ble_eq_true rfl) ⟨by decide, by decide⟩ rfl (fun _ m5 h => ?_)
  exact e_vret (M := md_X11_layNow) (pc := 28) h rfl dX11_layNow_28
def f_Mod_isLawful_b2 (k2 : Int → Int → Int → q_Mem → q_Res) (l1 l2 l3 : Int) (m : q_Mem) : q_Res :=
  q_bd (f_Mod_offsetsNow m) fun v1 m2 =>
  if q_w v1 ≤ q_w l3 then (q_rz 1 m2)
  else (q_bd (f_Mod_byA l3 m2) fun v3 m4 =>
  q_bd (f_Mod_byB l3 m4) fun v5 m6 =>
  if q_w ((l1 * v3) + (l2 * v5)) < 0 then (k2 l1 l2 (l3 + 1) m6)
  else (q_rz 0 m6))
set_option maxRecDepth 20000 in
theorem w_Mod_isLawful_b2 {k2 : Int → Int → Int → q_Mem → q_Res} {l1 l2 l3 : Int} {r : Int × q_Mem} {m : q_Mem} {N : Nat} (hN : 126 ≤ N) (hk2 : ∀ (l1 l2 l3 : Int) (m : q_Mem), k2 l1 l2 l3 m = some r → q_E md_X11_isLawful 2 N (some 0) r m 2 [q_A 81, q_I l1, q_I l2, q_I l3] []) (h : f_Mod_isLawful_b2 k2 l1 l2 l3 m = some r) : q_E md_X11_isLawful 2 N (some 0) r m 2 [q_A 81, q_I l1, q_I l2, q_I l3] [] := by
  unfold f_Mod_isLawful_b2 at h
  refine q_iload_n (M := md_X11_isLawful) (pc := 2) dX11_isLawful_2 rfl ?_
  refine q_aload_n (M := md_X11_isLawful) (pc := 3) dX11_isLawful_3 rfl (by decide) ?_
  refine e_callVi (M := md_X11_isLawful) (pc := 4) (d' := 1) (av := []) (c := 81) h ml_11_339 im_X11_offsetsNow se_X11_offsetsNow dX11_isLawful_4 (fun v he => ok_X11_offsetsNow hN  he) rfl (is_81 hN) ⟨_, _, rfl⟩ (by decide) (Nat.le_of_ble_eq_true rfl) ⟨by decide, by decide⟩ rfl (fun v1 m2 h => ?_)
  refine e_icmp_ge (M := md_X11_isLawful) (pc := 7) (tgt := 36) h rfl rfl dX11_isLawful_7 (by decide) (fun h => ?_) (fun h => ?_)
  · refine q_iconst (M := md_X11_isLawful) (pc := 36) dX11_isLawful_36 ?_
    exact e_zret (M := md_X11_isLawful) (pc := 37) h rfl dX11_isLawful_37
  · refine q_iload_n (M := md_X11_isLawful) (pc := 10) dX11_isLawful_10 rfl ?_
    refine q_aload_n (M := md_X11_isLawful) (pc := 11) dX11_isLawful_11 rfl (by decide) ?_
    refine q_iload_n (M := md_X11_isLawful) (pc := 12) dX11_isLawful_12 rfl ?_
    refine e_callVi (M := md_X11_isLawful) (pc := 13) (d' := 1) (av := [q_I l3]) (c := 81) h ml_11_327 im_X11_byA se_X11_byA dX11_isLawful_13 (fun v he => ok_X11_byA hN  he) rfl (is_81 hN) ⟨_, _, rfl⟩ (by decide) (Nat.le_of_ble_eq_true rfl) ⟨by decide, by decide⟩ rfl (fun v3 m4 h => ?_)
    refine q_imul (M := md_X11_isLawful) (pc := 16) dX11_isLawful_16 ?_
    refine q_iload_n (M := md_X11_isLawful) (pc := 17) dX11_isLawful_17 rfl ?_
    refine q_aload_n (M := md_X11_isLawful) (pc := 18) dX11_isLawful_18 rfl (by decide) ?_
    refine q_iload_n (M := md_X11_isLawful) (pc := 19) dX11_isLawful_19 rfl ?_
    refine e_callVi (M := md_X11_isLawful) (pc := 20) (d' := 1) (av := [q_I l3]) (c := 81) h ml_11_330 im_X11_byB se_X11_byB dX11_isLawful_20 (fun v he => ok_X11_byB hN  he) rfl (is_81 hN) ⟨_, _, rfl⟩ (by decide) (Nat.le_of_ble_eq_true rfl) ⟨by decide, by decide⟩ rfl (fun v5 m6 h => ?_)
    refine q_imul (M := md_X11_isLawful) (pc := 23) dX11_isLawful_23 ?_
    refine q_iadd (M := md_X11_isLawful) (pc := 24) dX11_isLawful_24 ?_
    refine e_if_lt (M := md_X11_isLawful) (pc := 25) (tgt := 30) h rfl dX11_isLawful_25 (by decide) (fun h => ?_) (fun h => ?_)
    · refine e_inc (M := md_X11_isLawful) (pc := 30) (x := l3) (ls' := [q_A 81, q_I l1, q_I l2, q_I (l3 + 1)]) dX11_isLawful_30 rfl (by decide) (q_pl rfl) rfl ?_
      refine q_goto (M := md_X11_isLawful) (pc := 33) (tgt := 2) dX11_isLawful_33 (by decide) ?_
      exact q_weak (hk2 _ _ _ _  h) ⟨Or.inr rfl, Or.inr rfl, Or.inr rfl, Or.inr rfl, trivial⟩
    · refine q_iconst (M := md_X11_isLawful) (pc := 28) dX11_isLawful_28 ?_
      exact e_zret (M := md_X11_isLawful) (pc := 29) h rfl dX11_isLawful_29
def f_Mod_isLawful_l2 : Nat → Int → Int → Int → q_Mem → q_Res
  | 0 => fun _ _ _ _ => none
  | n + 1 => fun l1 l2 l3 m => f_Mod_isLawful_b2 (f_Mod_isLawful_l2 n) l1 l2 l3 m
theorem w_Mod_isLawful_l2 {r : Int × q_Mem} {N : Nat} (hN : 126 ≤ N) : ∀ (n : Nat) (l1 l2 l3 : Int) (m : q_Mem), f_Mod_isLawful_l2 n l1 l2 l3 m = some r → q_E md_X11_isLawful 2 N (some 0) r m 2 [q_A 81, q_I l1, q_I l2, q_I l3] [] := by
  intro n
  induction n with
  | zero => intro l1 l2 l3 m h; exact q_no h
  | succ n ih =>
    intro l1 l2 l3 m h
    exact w_Mod_isLawful_b2 hN (fun l1 l2 l3 m h => ih l1 l2 l3 m h) h
def f_Mod_isLawful (l1 l2 : Int) (m : q_Mem) : q_Res :=
  f_Mod_isLawful_l2 q_F l1 l2 0 m
set_option maxRecDepth 20000 in
theorem ok_X11_isLawful {l1 l2 : Int} {r : Int × q_Mem} {m : q_Mem} {N : Nat} (hN : 126 ≤ N) (h : f_Mod_isLawful l1 l2 m = some r) : q_C md_X11_isLawful (q_room 2) 0 0 [q_A 81, q_I l1, q_I l2] (q_g N) m (some (q_I r.1), q_g N, r.2) := by
  refine q_ofR (by decide) 1 (ls := [q_A 81, q_I l1, q_I l2, q_N]) rfl (Nat.le_of_ble_eq_true rfl) ?_
  change q_E md_X11_isLawful 2 N (some 0) r m 0 [q_A 81, q_I l1, q_I l2, q_N] []
  unfold f_Mod_isLawful at h
  refine q_iconst (M := md_X11_isLawful) (pc := 0) dX11_isLawful_0 ?_
  refine e_ist_n (M := md_X11_isLawful) (pc := 1) (ls' := [q_A 81, q_I l1, q_I l2, q_I 0]) dX11_isLawful_1 (by decide) (q_pl rfl) rfl ?_
  exact q_weak (w_Mod_isLawful_l2 hN q_F _ _ _ _  h) ⟨Or.inr rfl, Or.inr rfl, Or.inr rfl, Or.inr rfl, trivial⟩
def f_Mod_isLine (l0 l1 : Int) (m : q_Mem) : q_Res :=
  q_bd (f_Mod_isIn l0 (-3) 3 m) fun v1 m2 =>
  if q_w v1 = 0 then (q_rz 0 m2)
  else (q_bd (f_Mod_isIn l1 (-3) 3 m2) fun v3 m4 =>
  if q_w v3 = 0 then (q_rz 0 m4)
  else (q_bd (f_Mod_common l0 l1 m4) fun v5 m6 =>
  if q_w v5 = 1 then (q_rz 1 m6)
  else (q_rz 0 m6)))
set_option maxRecDepth 20000 in
theorem ok_X11_isLine {l0 l1 : Int} {r : Int × q_Mem} {m : q_Mem} {N : Nat} (hN : 126 ≤ N) (h : f_Mod_isLine l0 l1 m = some r) : q_C md_X11_isLine (q_room 3) 0 0 [q_I l0, q_I l1] (q_g N) m (some (q_I r.1), q_g N, r.2) := by
  refine q_ofR (by decide) 0 (ls := [q_I l0, q_I l1]) rfl (Nat.le_of_ble_eq_true rfl) ?_
  change q_E md_X11_isLine 3 N (some 0) r m 0 [q_I l0, q_I l1] []
  unfold f_Mod_isLine at h
  refine q_iload_n (M := md_X11_isLine) (pc := 0) dX11_isLine_0 rfl ?_
  refine q_bipush (M := md_X11_isLine) (pc := 1) (x := -3) dX11_isLine_1 (by decide) ?_
  refine q_iconst (M := md_X11_isLine) (pc := 3) dX11_isLine_3 ?_
  refine e_callSi (M := md_X11_isLine) (pc := 4) (d' := 1) (M' := md_X11_isIn) (av := [q_I l0, q_I (-3), q_I 3]) h ml_11_221 sm_X11_isIn dX11_isLine_4 (fun v he => ok_X11_isIn hN  he) rfl (Nat.le_of_ble_eq_true rfl) ⟨by decide, by decide⟩ rfl (fun v1 m2 h => ?_)
  refine e_if_eq (M := md_X11_isLine) (pc := 7) (tgt := 33) h rfl dX11_isLine_7 (by decide) (fun h => ?_) (fun h => ?_)
  · refine q_iconst (M := md_X11_isLine) (pc := 33) dX11_isLine_33 ?_
    exact e_zret (M := md_X11_isLine) (pc := 34) h rfl dX11_isLine_34
  · refine q_iload_n (M := md_X11_isLine) (pc := 10) dX11_isLine_10 rfl ?_
    refine q_bipush (M := md_X11_isLine) (pc := 11) (x := -3) dX11_isLine_11 (by decide) ?_
    refine q_iconst (M := md_X11_isLine) (pc := 13) dX11_isLine_13 ?_
    refine e_callSi (M := md_X11_isLine) (pc := 14) (d' := 1) (M' := md_X11_isIn) (av := [q_I l1, q_I (-3), q_I 3]) h ml_11_221 sm_X11_isIn dX11_isLine_14 (fun v he => ok_X11_isIn hN  he) rfl (Nat.le_of_ble_eq_true rfl) ⟨by decide, by decide⟩ rfl (fun v3 m4 h => ?_)
    refine e_if_eq (M := md_X11_isLine) (pc := 17) (tgt := 33) h rfl dX11_isLine_17 (by decide) (fun h => ?_) (fun h => ?_)
    · refine q_iconst (M := md_X11_isLine) (pc := 33) dX11_isLine_33 ?_
      exact e_zret (M := md_X11_isLine) (pc := 34) h rfl dX11_isLine_34
    · refine q_iload_n (M := md_X11_isLine) (pc := 20) dX11_isLine_20 rfl ?_
      refine q_iload_n (M := md_X11_isLine) (pc := 21) dX11_isLine_21 rfl ?_
      refine e_callSi (M := md_X11_isLine) (pc := 22) (d' := 2) (M' := md_X11_common) (av := [q_I l0, q_I l1]) h ml_11_251 sm_X11_common dX11_isLine_22 (fun v he => ok_X11_common hN  he) rfl (Nat.le_of_ble_eq_true rfl) ⟨by decide, by decide⟩ rfl (fun v5 m6 h => ?_)
      refine q_iconst (M := md_X11_isLine) (pc := 25) dX11_isLine_25 ?_
      refine e_icmp_ne (M := md_X11_isLine) (pc := 26) (tgt := 33) h rfl (q_wlit rfl) dX11_isLine_26 (by decide) (fun h => ?_) (fun h => ?_)
      · refine q_iconst (M := md_X11_isLine) (pc := 33) dX11_isLine_33 ?_
        exact e_zret (M := md_X11_isLine) (pc := 34) h rfl dX11_isLine_34
      · refine q_iconst (M := md_X11_isLine) (pc := 29) dX11_isLine_29 ?_
        refine q_goto (M := md_X11_isLine) (pc := 30) (tgt := 34) dX11_isLine_30 (by decide) ?_
        exact e_zret (M := md_X11_isLine) (pc := 34) h rfl dX11_isLine_34
def f_Mod_points (m : q_Mem) : q_Res :=
  q_bd (f_Mod_rowsNow m) fun v1 m2 =>
  q_bd (f_Mod_columnsNow m2) fun v3 m4 =>
  q_rt (v1 * v3) m4
set_option maxRecDepth 20000 in
theorem ok_X11_points {r : Int × q_Mem} {m : q_Mem} {N : Nat} (hN : 126 ≤ N) (h : f_Mod_points m = some r) : q_C md_X11_points (q_room 2) 0 0 [q_A 81] (q_g N) m (some (q_I r.1), q_g N, r.2) := by
  refine q_ofR (by decide) 0 (ls := [q_A 81]) rfl (Nat.le_of_ble_eq_true rfl) ?_
  change q_E md_X11_points 2 N (some 0) r m 0 [q_A 81] []
  unfold f_Mod_points at h
  refine q_aload_n (M := md_X11_points) (pc := 0) dX11_points_0 rfl (by decide) ?_
  refine e_callVi (M := md_X11_points) (pc := 1) (d' := 1) (av := []) (c := 81) h ml_11_318 im_X11_rowsNow se_X11_rowsNow dX11_points_1 (fun v he => ok_X11_rowsNow hN  he) rfl (is_81 hN) ⟨_, _, rfl⟩ (by decide) (Nat.le_of_ble_eq_true rfl) ⟨by decide, by decide⟩ rfl (fun v1 m2 h => ?_)
  refine q_aload_n (M := md_X11_points) (pc := 4) dX11_points_4 rfl (by decide) ?_
  refine e_callVi (M := md_X11_points) (pc := 5) (d' := 1) (av := []) (c := 81) h ml_11_321 im_X11_columnsNow se_X11_columnsNow dX11_points_5 (fun v he => ok_X11_columnsNow hN  he) rfl (is_81 hN) ⟨_, _, rfl⟩ (by decide) (Nat.le_of_ble_eq_true rfl) ⟨by decide, by decide⟩ rfl (fun v3 m4 h => ?_)
  refine q_imul (M := md_X11_points) (pc := 8) dX11_points_8 ?_
  exact e_iret (M := md_X11_points) (pc := 9) h rfl dX11_points_9
def f_Mod_unordered_b37 (k8 : Int → Int → q_Mem → q_Res) (l2 s0 s1 : Int) (m : q_Mem) : q_Res :=
  k8 (s0 + s1) (l2 + 1) m
set_option maxRecDepth 20000 in
theorem w_Mod_unordered_b37 {k8 : Int → Int → q_Mem → q_Res} {l2 s0 s1 : Int} {r : Int × q_Mem} {m : q_Mem} {N : Nat} (hN : 126 ≤ N) (hk8 : ∀ (l1 l2 : Int) (m : q_Mem), k8 l1 l2 m = some r → q_E md_X11_unordered 6 N (some 0) r m 8 [q_A 81, q_I l1, q_I l2] []) (h : f_Mod_unordered_b37 k8 l2 s0 s1 m = some r) : q_E md_X11_unordered 6 N (some 0) r m 37 [q_A 81, q_N, q_I l2] [q_I s1, q_I s0] := by
  unfold f_Mod_unordered_b37 at h
  refine q_iadd (M := md_X11_unordered) (pc := 37) dX11_unordered_37 ?_
  refine e_ist_n (M := md_X11_unordered) (pc := 38) (ls' := [q_A 81, q_I (s0 + s1), q_I l2]) dX11_unordered_38 (by decide) (q_pl rfl) rfl ?_
  refine e_inc (M := md_X11_unordered) (pc := 39) (x := l2) (ls' := [q_A 81, q_I (s0 + s1), q_I (l2 + 1)]) dX11_unordered_39 rfl (by decide) (q_pl rfl) rfl ?_
  refine q_goto (M := md_X11_unordered) (pc := 42) (tgt := 8) dX11_unordered_42 (by decide) ?_
  exact q_weak (hk8 _ _ _  h) ⟨Or.inr rfl, Or.inr rfl, Or.inr rfl, trivial⟩
def f_Mod_unordered_b36 (k8 : Int → Int → q_Mem → q_Res) (l2 s0 : Int) (m : q_Mem) : q_Res :=
  f_Mod_unordered_b37 k8 l2 s0 0 m
set_option maxRecDepth 20000 in
theorem w_Mod_unordered_b36 {k8 : Int → Int → q_Mem → q_Res} {l2 s0 : Int} {r : Int × q_Mem} {m : q_Mem} {N : Nat} (hN : 126 ≤ N) (hk8 : ∀ (l1 l2 : Int) (m : q_Mem), k8 l1 l2 m = some r → q_E md_X11_unordered 6 N (some 0) r m 8 [q_A 81, q_I l1, q_I l2] []) (h : f_Mod_unordered_b36 k8 l2 s0 m = some r) : q_E md_X11_unordered 6 N (some 0) r m 36 [q_A 81, q_N, q_I l2] [q_I s0] := by
  unfold f_Mod_unordered_b36 at h
  refine q_iconst (M := md_X11_unordered) (pc := 36) dX11_unordered_36 ?_
  exact q_weak (w_Mod_unordered_b37 hN hk8  h) ⟨Or.inr rfl, Or.inl rfl, Or.inr rfl, trivial⟩
def f_Mod_unordered_b8 (k8 : Int → Int → q_Mem → q_Res) (l1 l2 : Int) (m : q_Mem) : q_Res :=
  if 100 ≤ q_w l2 then (q_rt l1 m)
  else (q_bd (f_Mod_isThere l2 m) fun v1 m2 =>
  if q_w v1 = 0 then (f_Mod_unordered_b36 k8 l2 l1 m2)
  else (q_rd m2 106 100 l2 fun v3 =>
  if 0 ≤ q_w v3 then (f_Mod_unordered_b36 k8 l2 l1 m2)
  else (f_Mod_unordered_b37 k8 l2 l1 1 m2)))
set_option maxRecDepth 20000 in
theorem w_Mod_unordered_b8 {k8 : Int → Int → q_Mem → q_Res} {l1 l2 : Int} {r : Int × q_Mem} {m : q_Mem} {N : Nat} (hN : 126 ≤ N) (hk8 : ∀ (l1 l2 : Int) (m : q_Mem), k8 l1 l2 m = some r → q_E md_X11_unordered 6 N (some 0) r m 8 [q_A 81, q_I l1, q_I l2] []) (h : f_Mod_unordered_b8 k8 l1 l2 m = some r) : q_E md_X11_unordered 6 N (some 0) r m 8 [q_A 81, q_I l1, q_I l2] [] := by
  unfold f_Mod_unordered_b8 at h
  refine q_iload_n (M := md_X11_unordered) (pc := 8) dX11_unordered_8 rfl ?_
  refine q_bipush (M := md_X11_unordered) (pc := 9) (x := 100) dX11_unordered_9 (by decide) ?_
  refine e_icmp_ge (M := md_X11_unordered) (pc := 11) (tgt := 45) h rfl (q_wlit rfl) dX11_unordered_11 (by decide) (fun h => ?_) (fun h => ?_)
  · refine q_iload_n (M := md_X11_unordered) (pc := 45) dX11_unordered_45 rfl ?_
    exact e_iret (M := md_X11_unordered) (pc := 46) h rfl dX11_unordered_46
  · refine q_iload_n (M := md_X11_unordered) (pc := 14) dX11_unordered_14 rfl ?_
    refine q_aload_n (M := md_X11_unordered) (pc := 15) dX11_unordered_15 rfl (by decide) ?_
    refine q_iload_n (M := md_X11_unordered) (pc := 16) dX11_unordered_16 rfl ?_
    refine e_callVi (M := md_X11_unordered) (pc := 17) (d' := 3) (av := [q_I l2]) (c := 81) h ml_11_333 im_X11_isThere se_X11_isThere dX11_unordered_17 (fun v he => ok_X11_isThere hN  he) rfl (is_81 hN) ⟨_, _, rfl⟩ (by decide) (Nat.le_of_ble_eq_true rfl) ⟨by decide, by decide⟩ rfl (fun v1 m2 h => ?_)
    refine e_if_eq (M := md_X11_unordered) (pc := 20) (tgt := 36) h rfl dX11_unordered_20 (by decide) (fun h => ?_) (fun h => ?_)
    · exact q_weak (w_Mod_unordered_b36 hN hk8  h) ⟨Or.inr rfl, Or.inl rfl, Or.inr rfl, trivial⟩
    · refine q_aload_n (M := md_X11_unordered) (pc := 23) dX11_unordered_23 rfl (by decide) ?_
      refine q_getP (M := md_X11_unordered) (pc := 24) (v := 106) fl_11_87 dX11_unordered_24 (is_81 hN) rfl ?_
      refine q_iload_n (M := md_X11_unordered) (pc := 27) dX11_unordered_27 rfl ?_
      refine e_rd (M := md_X11_unordered) (pc := 28) h dX11_unordered_28 (ar_106 hN) (fun v3 h => ?_)
      refine e_if_ge (M := md_X11_unordered) (pc := 29) (tgt := 36) h rfl dX11_unordered_29 (by decide) (fun h => ?_) (fun h => ?_)
      · exact q_weak (w_Mod_unordered_b36 hN hk8  h) ⟨Or.inr rfl, Or.inl rfl, Or.inr rfl, trivial⟩
      · refine q_iconst (M := md_X11_unordered) (pc := 32) dX11_unordered_32 ?_
        refine q_goto (M := md_X11_unordered) (pc := 33) (tgt := 37) dX11_unordered_33 (by decide) ?_
        exact q_weak (w_Mod_unordered_b37 hN hk8  h) ⟨Or.inr rfl, Or.inl rfl, Or.inr rfl, trivial⟩
def f_Mod_unordered_l8 : Nat → Int → Int → q_Mem → q_Res
  | 0 => fun _ _ _ => none
  | n + 1 => fun l1 l2 m => f_Mod_unordered_b8 (f_Mod_unordered_l8 n) l1 l2 m
theorem w_Mod_unordered_l8 {r : Int × q_Mem} {N : Nat} (hN : 126 ≤ N) : ∀ (n : Nat) (l1 l2 : Int) (m : q_Mem), f_Mod_unordered_l8 n l1 l2 m = some r → q_E md_X11_unordered 6 N (some 0) r m 8 [q_A 81, q_I l1, q_I l2] [] := by
  intro n
  induction n with
  | zero => intro l1 l2 m h; exact q_no h
  | succ n ih =>
    intro l1 l2 m h
    exact w_Mod_unordered_b8 hN (fun l1 l2 m h => ih l1 l2 m h) h
def f_Mod_unordered (m : q_Mem) : q_Res :=
  q_bd (f_Mod_layDepths m) fun _ m1 =>
  f_Mod_unordered_l8 q_F 0 0 m1
set_option maxRecDepth 20000 in
theorem ok_X11_unordered {r : Int × q_Mem} {m : q_Mem} {N : Nat} (hN : 126 ≤ N) (h : f_Mod_unordered m = some r) : q_C md_X11_unordered (q_room 6) 0 0 [q_A 81] (q_g N) m (some (q_I r.1), q_g N, r.2) := by
  refine q_ofR (by decide) 2 (ls := [q_A 81, q_N, q_N]) rfl (Nat.le_of_ble_eq_true rfl) ?_
  change q_E md_X11_unordered 6 N (some 0) r m 0 [q_A 81, q_N, q_N] []
  unfold f_Mod_unordered at h
  refine q_iconst (M := md_X11_unordered) (pc := 0) dX11_unordered_0 ?_
  refine e_ist_n (M := md_X11_unordered) (pc := 1) (ls' := [q_A 81, q_I 0, q_N]) dX11_unordered_1 (by decide) (q_pl rfl) rfl ?_
  refine q_aload_n (M := md_X11_unordered) (pc := 2) dX11_unordered_2 rfl (by decide) ?_
  refine e_callVv (M := md_X11_unordered) (pc := 3) (d' := 5) (av := []) (c := 81) h ml_11_348 im_X11_layDepths se_X11_layDepths dX11_unordered_3 (fun v he => ok_X11_layDepths hN  he) rfl (is_81 hN) ⟨_, _, rfl⟩ (by decide) (Nat.le_of_ble_eq_true rfl) ⟨by decide, by decide⟩ rfl (fun _ m1 h => ?_)
  refine q_iconst (M := md_X11_unordered) (pc := 6) dX11_unordered_6 ?_
  refine e_ist_n (M := md_X11_unordered) (pc := 7) (ls' := [q_A 81, q_I 0, q_I 0]) dX11_unordered_7 (by decide) (q_pl rfl) rfl ?_
  exact q_weak (w_Mod_unordered_l8 hN q_F _ _ _  h) ⟨Or.inr rfl, Or.inr rfl, Or.inr rfl, trivial⟩
def f_Mod_plan (l1 : Int) (m : q_Mem) : q_Res :=
  q_bd (f_Mod_layNow m) fun _ m1 =>
  if q_w l1 = 0 then (q_rd m1 115 69 0 fun v3 =>
  q_rd m1 115 69 1 fun v4 =>
  q_bd (f_Mod_isLawful v3 v4 m1) fun v5 m6 =>
  if q_w v5 = 0 then (q_rt 0 m6)
  else (q_rt 1 m6))
  else if q_w l1 = 1 then (q_rt (m1 81 53) m1)
  else if q_w l1 = 2 then (q_rt (m1 81 54) m1)
  else if q_w l1 = 3 then (q_rt (m1 81 55) m1)
  else if q_w l1 = 4 then (q_bd (f_Mod_points m1) fun v11 m12 =>
  q_rt ((((m1 81 53) * (m1 81 54)) - v11) + (m12 81 55)) m12)
  else if q_w l1 = 5 then (q_bd (f_Mod_layDepths m1) fun _ m14 =>
  q_bd (f_Mod_greatestDepth m14) fun v15 m16 =>
  q_rt (v15 + 1) m16)
  else if q_w l1 = 6 then (q_bd (f_Mod_unordered m1) fun v18 m19 =>
  q_rt v18 m19)
  else (q_rt (-1) m1)
set_option maxRecDepth 20000 in
theorem ok_X11_plan {l1 : Int} {r : Int × q_Mem} {m : q_Mem} {N : Nat} (hN : 126 ≤ N) (h : f_Mod_plan l1 m = some r) : q_C md_X11_plan (q_room 7) 0 0 [q_A 81, q_I l1] (q_g N) m (some (q_I r.1), q_g N, r.2) := by
  refine q_ofR (by decide) 0 (ls := [q_A 81, q_I l1]) rfl (Nat.le_of_ble_eq_true rfl) ?_
  change q_E md_X11_plan 7 N (some 0) r m 0 [q_A 81, q_I l1] []
  unfold f_Mod_plan at h
  refine q_aload_n (M := md_X11_plan) (pc := 0) dX11_plan_0 rfl (by decide) ?_
  refine e_callVv (M := md_X11_plan) (pc := 1) (d' := 6) (av := []) (c := 81) h ml_11_437 im_X11_layNow se_X11_layNow dX11_plan_1 (fun v he => ok_X11_layNow hN  he) rfl (is_81 hN) ⟨_, _, rfl⟩ (by decide) (Nat.le_of_ble_eq_true rfl) ⟨by decide, by decide⟩ rfl (fun _ m1 h => ?_)
  refine q_iload_n (M := md_X11_plan) (pc := 4) dX11_plan_4 rfl ?_
  by_cases c2 : q_w l1 = 0
  · rw [if_pos c2] at h
    refine q_tabIn (M := md_X11_plan) (pc := 5) (tgt := 48) dX11_plan_5 (by rw [c2] <;> decide) (by rw [c2] <;> decide) (by rw [c2] <;> rfl) (by decide) ?_
    refine q_aload_n (M := md_X11_plan) (pc := 48) dX11_plan_48 rfl (by decide) ?_
    refine q_aload_n (M := md_X11_plan) (pc := 49) dX11_plan_49 rfl (by decide) ?_
    refine q_getP (M := md_X11_plan) (pc := 50) (v := 115) fl_11_115 dX11_plan_50 (is_81 hN) rfl ?_
    refine q_iconst (M := md_X11_plan) (pc := 53) dX11_plan_53 ?_
    refine e_rd (M := md_X11_plan) (pc := 54) h dX11_plan_54 (ar_115 hN) (fun v3 h => ?_)
    refine q_aload_n (M := md_X11_plan) (pc := 55) dX11_plan_55 rfl (by decide) ?_
    refine q_getP (M := md_X11_plan) (pc := 56) (v := 115) fl_11_115 dX11_plan_56 (is_81 hN) rfl ?_
    refine q_iconst (M := md_X11_plan) (pc := 59) dX11_plan_59 ?_
    refine e_rd (M := md_X11_plan) (pc := 60) h dX11_plan_60 (ar_115 hN) (fun v4 h => ?_)
    refine e_callVi (M := md_X11_plan) (pc := 61) (d' := 2) (av := [q_I v3, q_I v4]) (c := 81) h ml_11_440 im_X11_isLawful se_X11_isLawful dX11_plan_61 (fun v he => ok_X11_isLawful hN  he) rfl (is_81 hN) ⟨_, _, rfl⟩ (by decide) (Nat.le_of_ble_eq_true rfl) ⟨by decide, by decide⟩ rfl (fun v5 m6 h => ?_)
    refine e_if_eq (M := md_X11_plan) (pc := 64) (tgt := 71) h rfl dX11_plan_64 (by decide) (fun h => ?_) (fun h => ?_)
    · refine q_iconst (M := md_X11_plan) (pc := 71) dX11_plan_71 ?_
      exact e_iret (M := md_X11_plan) (pc := 72) h rfl dX11_plan_72
    · refine q_iconst (M := md_X11_plan) (pc := 67) dX11_plan_67 ?_
      refine q_goto (M := md_X11_plan) (pc := 68) (tgt := 72) dX11_plan_68 (by decide) ?_
      exact e_iret (M := md_X11_plan) (pc := 72) h rfl dX11_plan_72
  rw [if_neg c2] at h
  by_cases c7 : q_w l1 = 1
  · rw [if_pos c7] at h
    refine q_tabIn (M := md_X11_plan) (pc := 5) (tgt := 73) dX11_plan_5 (by rw [c7] <;> decide) (by rw [c7] <;> decide) (by rw [c7] <;> rfl) (by decide) ?_
    refine q_aload_n (M := md_X11_plan) (pc := 73) dX11_plan_73 rfl (by decide) ?_
    refine e_gI (M := md_X11_plan) (pc := 74) (v := m1 81 53) fl_11_415 dX11_plan_74 (is_81 hN) rfl ?_
    exact e_iret (M := md_X11_plan) (pc := 77) h rfl dX11_plan_77
  rw [if_neg c7] at h
  by_cases c8 : q_w l1 = 2
  · rw [if_pos c8] at h
    refine q_tabIn (M := md_X11_plan) (pc := 5) (tgt := 78) dX11_plan_5 (by rw [c8] <;> decide) (by rw [c8] <;> decide) (by rw [c8] <;> rfl) (by decide) ?_
    refine q_aload_n (M := md_X11_plan) (pc := 78) dX11_plan_78 rfl (by decide) ?_
    refine e_gI (M := md_X11_plan) (pc := 79) (v := m1 81 54) fl_11_418 dX11_plan_79 (is_81 hN) rfl ?_
    exact e_iret (M := md_X11_plan) (pc := 82) h rfl dX11_plan_82
  rw [if_neg c8] at h
  by_cases c9 : q_w l1 = 3
  · rw [if_pos c9] at h
    refine q_tabIn (M := md_X11_plan) (pc := 5) (tgt := 83) dX11_plan_5 (by rw [c9] <;> decide) (by rw [c9] <;> decide) (by rw [c9] <;> rfl) (by decide) ?_
    refine q_aload_n (M := md_X11_plan) (pc := 83) dX11_plan_83 rfl (by decide) ?_
    refine e_gI (M := md_X11_plan) (pc := 84) (v := m1 81 55) fl_11_421 dX11_plan_84 (is_81 hN) rfl ?_
    exact e_iret (M := md_X11_plan) (pc := 87) h rfl dX11_plan_87
  rw [if_neg c9] at h
  by_cases c10 : q_w l1 = 4
  · rw [if_pos c10] at h
    refine q_tabIn (M := md_X11_plan) (pc := 5) (tgt := 88) dX11_plan_5 (by rw [c10] <;> decide) (by rw [c10] <;> decide) (by rw [c10] <;> rfl) (by decide) ?_
    refine q_aload_n (M := md_X11_plan) (pc := 88) dX11_plan_88 rfl (by decide) ?_
    refine e_gI (M := md_X11_plan) (pc := 89) (v := m1 81 53) fl_11_415 dX11_plan_89 (is_81 hN) rfl ?_
    refine q_aload_n (M := md_X11_plan) (pc := 92) dX11_plan_92 rfl (by decide) ?_
    refine e_gI (M := md_X11_plan) (pc := 93) (v := m1 81 54) fl_11_418 dX11_plan_93 (is_81 hN) rfl ?_
    refine q_imul (M := md_X11_plan) (pc := 96) dX11_plan_96 ?_
    refine q_aload_n (M := md_X11_plan) (pc := 97) dX11_plan_97 rfl (by decide) ?_
    refine e_callVi (M := md_X11_plan) (pc := 98) (d' := 2) (av := []) (c := 81) h ml_11_443 im_X11_points se_X11_points dX11_plan_98 (fun v he => ok_X11_points hN  he) rfl (is_81 hN) ⟨_, _, rfl⟩ (by decide) (Nat.le_of_ble_eq_true rfl) ⟨by decide, by decide⟩ rfl (fun v11 m12 h => ?_)
    refine q_isub (M := md_X11_plan) (pc := 101) dX11_plan_101 ?_
    refine q_aload_n (M := md_X11_plan) (pc := 102) dX11_plan_102 rfl (by decide) ?_
    refine e_gI (M := md_X11_plan) (pc := 103) (v := m12 81 55) fl_11_421 dX11_plan_103 (is_81 hN) rfl ?_
    refine q_iadd (M := md_X11_plan) (pc := 106) dX11_plan_106 ?_
    exact e_iret (M := md_X11_plan) (pc := 107) h rfl dX11_plan_107
  rw [if_neg c10] at h
  by_cases c13 : q_w l1 = 5
  · rw [if_pos c13] at h
    refine q_tabIn (M := md_X11_plan) (pc := 5) (tgt := 108) dX11_plan_5 (by rw [c13] <;> decide) (by rw [c13] <;> decide) (by rw [c13] <;> rfl) (by decide) ?_
    refine q_aload_n (M := md_X11_plan) (pc := 108) dX11_plan_108 rfl (by decide) ?_
    refine e_callVv (M := md_X11_plan) (pc := 109) (d' := 5) (av := []) (c := 81) h ml_11_348 im_X11_layDepths se_X11_layDepths dX11_plan_109 (fun v he => ok_X11_layDepths hN  he) rfl (is_81 hN) ⟨_, _, rfl⟩ (by decide) (Nat.le_of_ble_eq_true rfl) ⟨by decide, by decide⟩ rfl (fun _ m14 h => ?_)
    refine q_aload_n (M := md_X11_plan) (pc := 112) dX11_plan_112 rfl (by decide) ?_
    refine e_callVi (M := md_X11_plan) (pc := 113) (d' := 4) (av := []) (c := 81) h ml_11_360 im_X11_greatestDepth se_X11_greatestDepth dX11_plan_113 (fun v he => ok_X11_greatestDepth hN  he) rfl (is_81 hN) ⟨_, _, rfl⟩ (by decide) (Nat.le_of_ble_eq_true rfl) ⟨by decide, by decide⟩ rfl (fun v15 m16 h => ?_)
    refine q_iconst (M := md_X11_plan) (pc := 116) dX11_plan_116 ?_
    refine q_iadd (M := md_X11_plan) (pc := 117) dX11_plan_117 ?_
    exact e_iret (M := md_X11_plan) (pc := 118) h rfl dX11_plan_118
  rw [if_neg c13] at h
  by_cases c17 : q_w l1 = 6
  · rw [if_pos c17] at h
    refine q_tabIn (M := md_X11_plan) (pc := 5) (tgt := 119) dX11_plan_5 (by rw [c17] <;> decide) (by rw [c17] <;> decide) (by rw [c17] <;> rfl) (by decide) ?_
    refine q_aload_n (M := md_X11_plan) (pc := 119) dX11_plan_119 rfl (by decide) ?_
    refine e_callVi (M := md_X11_plan) (pc := 120) (d' := 6) (av := []) (c := 81) h ml_11_446 im_X11_unordered se_X11_unordered dX11_plan_120 (fun v he => ok_X11_unordered hN  he) rfl (is_81 hN) ⟨_, _, rfl⟩ (by decide) (Nat.le_of_ble_eq_true rfl) ⟨by decide, by decide⟩ rfl (fun v18 m19 h => ?_)
    exact e_iret (M := md_X11_plan) (pc := 123) h rfl dX11_plan_123
  rw [if_neg c17] at h
  refine q_tabOut (M := md_X11_plan) (pc := 5) (tgt := 124) dX11_plan_5 (by omega) (by decide) ?_
  refine q_iconst (M := md_X11_plan) (pc := 124) dX11_plan_124 ?_
  exact e_iret (M := md_X11_plan) (pc := 125) h rfl dX11_plan_125
def f_Mod_tick (l1 l2 : Int) (m : q_Mem) : q_Res :=
  q_bd (f_Mod_isPoint l1 l2 m) fun v1 m2 =>
  if q_w v1 = 0 then (q_rt (-1) m2)
  else (q_bd (f_Mod_layNow m2) fun _ m3 =>
  q_rd m3 116 100 ((10 * l1) + l2) fun v4 =>
  q_rt v4 m3)
set_option maxRecDepth 20000 in
theorem ok_X11_tick {l1 l2 : Int} {r : Int × q_Mem} {m : q_Mem} {N : Nat} (hN : 126 ≤ N) (h : f_Mod_tick l1 l2 m = some r) : q_C md_X11_tick (q_room 7) 0 0 [q_A 81, q_I l1, q_I l2] (q_g N) m (some (q_I r.1), q_g N, r.2) := by
  refine q_ofR (by decide) 0 (ls := [q_A 81, q_I l1, q_I l2]) rfl (Nat.le_of_ble_eq_true rfl) ?_
  change q_E md_X11_tick 7 N (some 0) r m 0 [q_A 81, q_I l1, q_I l2] []
  unfold f_Mod_tick at h
  refine q_aload_n (M := md_X11_tick) (pc := 0) dX11_tick_0 rfl (by decide) ?_
  refine q_iload_n (M := md_X11_tick) (pc := 1) dX11_tick_1 rfl ?_
  refine q_iload_n (M := md_X11_tick) (pc := 2) dX11_tick_2 rfl ?_
  refine e_callVi (M := md_X11_tick) (pc := 3) (d' := 2) (av := [q_I l1, q_I l2]) (c := 81) h ml_11_324 im_X11_isPoint se_X11_isPoint dX11_tick_3 (fun v he => ok_X11_isPoint hN  he) rfl (is_81 hN) ⟨_, _, rfl⟩ (by decide) (Nat.le_of_ble_eq_true rfl) ⟨by decide, by decide⟩ rfl (fun v1 m2 h => ?_)
  refine e_if_ne (M := md_X11_tick) (pc := 6) (tgt := 11) h rfl dX11_tick_6 (by decide) (fun h => ?_) (fun h => ?_)
  · refine q_aload_n (M := md_X11_tick) (pc := 11) dX11_tick_11 rfl (by decide) ?_
    refine e_callVv (M := md_X11_tick) (pc := 12) (d' := 6) (av := []) (c := 81) h ml_11_437 im_X11_layNow se_X11_layNow dX11_tick_12 (fun v he => ok_X11_layNow hN  he) rfl (is_81 hN) ⟨_, _, rfl⟩ (by decide) (Nat.le_of_ble_eq_true rfl) ⟨by decide, by decide⟩ rfl (fun _ m3 h => ?_)
    refine q_aload_n (M := md_X11_tick) (pc := 15) dX11_tick_15 rfl (by decide) ?_
    refine q_getP (M := md_X11_tick) (pc := 16) (v := 116) fl_11_118 dX11_tick_16 (is_81 hN) rfl ?_
    refine q_bipush (M := md_X11_tick) (pc := 19) (x := 10) dX11_tick_19 (by decide) ?_
    refine q_iload_n (M := md_X11_tick) (pc := 21) dX11_tick_21 rfl ?_
    refine q_imul (M := md_X11_tick) (pc := 22) dX11_tick_22 ?_
    refine q_iload_n (M := md_X11_tick) (pc := 23) dX11_tick_23 rfl ?_
    refine q_iadd (M := md_X11_tick) (pc := 24) dX11_tick_24 ?_
    refine e_rd (M := md_X11_tick) (pc := 25) h dX11_tick_25 (ar_116 hN) (fun v4 h => ?_)
    exact e_iret (M := md_X11_tick) (pc := 26) h rfl dX11_tick_26
  · refine q_iconst (M := md_X11_tick) (pc := 9) dX11_tick_9 ?_
    exact e_iret (M := md_X11_tick) (pc := 10) h rfl dX11_tick_10
def f_Mod_cell (l1 l2 : Int) (m : q_Mem) : q_Res :=
  q_bd (f_Mod_isPoint l1 l2 m) fun v1 m2 =>
  if q_w v1 = 0 then (q_rt (-1) m2)
  else (q_bd (f_Mod_layNow m2) fun _ m3 =>
  q_rd m3 117 100 ((10 * l1) + l2) fun v4 =>
  q_rt v4 m3)
set_option maxRecDepth 20000 in
theorem ok_X11_cell {l1 l2 : Int} {r : Int × q_Mem} {m : q_Mem} {N : Nat} (hN : 126 ≤ N) (h : f_Mod_cell l1 l2 m = some r) : q_C md_X11_cell (q_room 7) 0 0 [q_A 81, q_I l1, q_I l2] (q_g N) m (some (q_I r.1), q_g N, r.2) := by
  refine q_ofR (by decide) 0 (ls := [q_A 81, q_I l1, q_I l2]) rfl (Nat.le_of_ble_eq_true rfl) ?_
  change q_E md_X11_cell 7 N (some 0) r m 0 [q_A 81, q_I l1, q_I l2] []
  unfold f_Mod_cell at h
  refine q_aload_n (M := md_X11_cell) (pc := 0) dX11_cell_0 rfl (by decide) ?_
  refine q_iload_n (M := md_X11_cell) (pc := 1) dX11_cell_1 rfl ?_
  refine q_iload_n (M := md_X11_cell) (pc := 2) dX11_cell_2 rfl ?_
  refine e_callVi (M := md_X11_cell) (pc := 3) (d' := 2) (av := [q_I l1, q_I l2]) (c := 81) h ml_11_324 im_X11_isPoint se_X11_isPoint dX11_cell_3 (fun v he => ok_X11_isPoint hN  he) rfl (is_81 hN) ⟨_, _, rfl⟩ (by decide) (Nat.le_of_ble_eq_true rfl) ⟨by decide, by decide⟩ rfl (fun v1 m2 h => ?_)
  refine e_if_ne (M := md_X11_cell) (pc := 6) (tgt := 11) h rfl dX11_cell_6 (by decide) (fun h => ?_) (fun h => ?_)
  · refine q_aload_n (M := md_X11_cell) (pc := 11) dX11_cell_11 rfl (by decide) ?_
    refine e_callVv (M := md_X11_cell) (pc := 12) (d' := 6) (av := []) (c := 81) h ml_11_437 im_X11_layNow se_X11_layNow dX11_cell_12 (fun v he => ok_X11_layNow hN  he) rfl (is_81 hN) ⟨_, _, rfl⟩ (by decide) (Nat.le_of_ble_eq_true rfl) ⟨by decide, by decide⟩ rfl (fun _ m3 h => ?_)
    refine q_aload_n (M := md_X11_cell) (pc := 15) dX11_cell_15 rfl (by decide) ?_
    refine q_getP (M := md_X11_cell) (pc := 16) (v := 117) fl_11_121 dX11_cell_16 (is_81 hN) rfl ?_
    refine q_bipush (M := md_X11_cell) (pc := 19) (x := 10) dX11_cell_19 (by decide) ?_
    refine q_iload_n (M := md_X11_cell) (pc := 21) dX11_cell_21 rfl ?_
    refine q_imul (M := md_X11_cell) (pc := 22) dX11_cell_22 ?_
    refine q_iload_n (M := md_X11_cell) (pc := 23) dX11_cell_23 rfl ?_
    refine q_iadd (M := md_X11_cell) (pc := 24) dX11_cell_24 ?_
    refine e_rd (M := md_X11_cell) (pc := 25) h dX11_cell_25 (ar_117 hN) (fun v4 h => ?_)
    exact e_iret (M := md_X11_cell) (pc := 26) h rfl dX11_cell_26
  · refine q_iconst (M := md_X11_cell) (pc := 9) dX11_cell_9 ?_
    exact e_iret (M := md_X11_cell) (pc := 10) h rfl dX11_cell_10
def f_Mod_point_b42 (k6 : Int → Int → Int → q_Mem → q_Res) (l1 l2 l3 : Int) (m : q_Mem) : q_Res :=
  k6 l1 l2 (l3 + 1) m
set_option maxRecDepth 20000 in
theorem w_Mod_point_b42 {k6 : Int → Int → Int → q_Mem → q_Res} {l1 l2 l3 : Int} {r : Int × q_Mem} {m : q_Mem} {N : Nat} (hN : 126 ≤ N) (hk6 : ∀ (l1 l2 l3 : Int) (m : q_Mem), k6 l1 l2 l3 m = some r → q_E md_X11_point 7 N (some 0) r m 6 [q_A 81, q_I l1, q_I l2, q_I l3] []) (h : f_Mod_point_b42 k6 l1 l2 l3 m = some r) : q_E md_X11_point 7 N (some 0) r m 42 [q_A 81, q_I l1, q_I l2, q_I l3] [] := by
  unfold f_Mod_point_b42 at h
  refine e_inc (M := md_X11_point) (pc := 42) (x := l3) (ls' := [q_A 81, q_I l1, q_I l2, q_I (l3 + 1)]) dX11_point_42 rfl (by decide) (q_pl rfl) rfl ?_
  refine q_goto (M := md_X11_point) (pc := 45) (tgt := 6) dX11_point_45 (by decide) ?_
  exact q_weak (hk6 _ _ _ _  h) ⟨Or.inr rfl, Or.inr rfl, Or.inr rfl, Or.inr rfl, trivial⟩
def f_Mod_point_b6 (k6 : Int → Int → Int → q_Mem → q_Res) (l1 l2 l3 : Int) (m : q_Mem) : q_Res :=
  if 100 ≤ q_w l3 then (q_rt (-1) m)
  else (q_bd (f_Mod_isThere l3 m) fun v1 m2 =>
  if q_w v1 = 0 then (f_Mod_point_b42 k6 l1 l2 l3 m2)
  else (q_rd m2 117 100 l3 fun v3 =>
  if q_w v3 = q_w l1 then (q_rd m2 116 100 l3 fun v4 =>
  if q_w v4 = q_w l2 then (q_rt l3 m2)
  else (f_Mod_point_b42 k6 l1 l2 l3 m2))
  else (f_Mod_point_b42 k6 l1 l2 l3 m2)))
set_option maxRecDepth 20000 in
theorem w_Mod_point_b6 {k6 : Int → Int → Int → q_Mem → q_Res} {l1 l2 l3 : Int} {r : Int × q_Mem} {m : q_Mem} {N : Nat} (hN : 126 ≤ N) (hk6 : ∀ (l1 l2 l3 : Int) (m : q_Mem), k6 l1 l2 l3 m = some r → q_E md_X11_point 7 N (some 0) r m 6 [q_A 81, q_I l1, q_I l2, q_I l3] []) (h : f_Mod_point_b6 k6 l1 l2 l3 m = some r) : q_E md_X11_point 7 N (some 0) r m 6 [q_A 81, q_I l1, q_I l2, q_I l3] [] := by
  unfold f_Mod_point_b6 at h
  refine q_iload_n (M := md_X11_point) (pc := 6) dX11_point_6 rfl ?_
  refine q_bipush (M := md_X11_point) (pc := 7) (x := 100) dX11_point_7 (by decide) ?_
  refine e_icmp_ge (M := md_X11_point) (pc := 9) (tgt := 48) h rfl (q_wlit rfl) dX11_point_9 (by decide) (fun h => ?_) (fun h => ?_)
  · refine q_iconst (M := md_X11_point) (pc := 48) dX11_point_48 ?_
    exact e_iret (M := md_X11_point) (pc := 49) h rfl dX11_point_49
  · refine q_aload_n (M := md_X11_point) (pc := 12) dX11_point_12 rfl (by decide) ?_
    refine q_iload_n (M := md_X11_point) (pc := 13) dX11_point_13 rfl ?_
    refine e_callVi (M := md_X11_point) (pc := 14) (d' := 3) (av := [q_I l3]) (c := 81) h ml_11_333 im_X11_isThere se_X11_isThere dX11_point_14 (fun v he => ok_X11_isThere hN  he) rfl (is_81 hN) ⟨_, _, rfl⟩ (by decide) (Nat.le_of_ble_eq_true rfl) ⟨by decide, by decide⟩ rfl (fun v1 m2 h => ?_)
    refine e_if_eq (M := md_X11_point) (pc := 17) (tgt := 42) h rfl dX11_point_17 (by decide) (fun h => ?_) (fun h => ?_)
    · exact q_weak (w_Mod_point_b42 hN hk6  h) ⟨Or.inr rfl, Or.inr rfl, Or.inr rfl, Or.inr rfl, trivial⟩
    · refine q_aload_n (M := md_X11_point) (pc := 20) dX11_point_20 rfl (by decide) ?_
      refine q_getP (M := md_X11_point) (pc := 21) (v := 117) fl_11_121 dX11_point_21 (is_81 hN) rfl ?_
      refine q_iload_n (M := md_X11_point) (pc := 24) dX11_point_24 rfl ?_
      refine e_rd (M := md_X11_point) (pc := 25) h dX11_point_25 (ar_117 hN) (fun v3 h => ?_)
      refine q_iload_n (M := md_X11_point) (pc := 26) dX11_point_26 rfl ?_
      refine e_icmp_ne (M := md_X11_point) (pc := 27) (tgt := 42) h rfl rfl dX11_point_27 (by decide) (fun h => ?_) (fun h => ?_)
      · exact q_weak (w_Mod_point_b42 hN hk6  h) ⟨Or.inr rfl, Or.inr rfl, Or.inr rfl, Or.inr rfl, trivial⟩
      · refine q_aload_n (M := md_X11_point) (pc := 30) dX11_point_30 rfl (by decide) ?_
        refine q_getP (M := md_X11_point) (pc := 31) (v := 116) fl_11_118 dX11_point_31 (is_81 hN) rfl ?_
        refine q_iload_n (M := md_X11_point) (pc := 34) dX11_point_34 rfl ?_
        refine e_rd (M := md_X11_point) (pc := 35) h dX11_point_35 (ar_116 hN) (fun v4 h => ?_)
        refine q_iload_n (M := md_X11_point) (pc := 36) dX11_point_36 rfl ?_
        refine e_icmp_ne (M := md_X11_point) (pc := 37) (tgt := 42) h rfl rfl dX11_point_37 (by decide) (fun h => ?_) (fun h => ?_)
        · exact q_weak (w_Mod_point_b42 hN hk6  h) ⟨Or.inr rfl, Or.inr rfl, Or.inr rfl, Or.inr rfl, trivial⟩
        · refine q_iload_n (M := md_X11_point) (pc := 40) dX11_point_40 rfl ?_
          exact e_iret (M := md_X11_point) (pc := 41) h rfl dX11_point_41
def f_Mod_point_l6 : Nat → Int → Int → Int → q_Mem → q_Res
  | 0 => fun _ _ _ _ => none
  | n + 1 => fun l1 l2 l3 m => f_Mod_point_b6 (f_Mod_point_l6 n) l1 l2 l3 m
theorem w_Mod_point_l6 {r : Int × q_Mem} {N : Nat} (hN : 126 ≤ N) : ∀ (n : Nat) (l1 l2 l3 : Int) (m : q_Mem), f_Mod_point_l6 n l1 l2 l3 m = some r → q_E md_X11_point 7 N (some 0) r m 6 [q_A 81, q_I l1, q_I l2, q_I l3] [] := by
  intro n
  induction n with
  | zero => intro l1 l2 l3 m h; exact q_no h
  | succ n ih =>
    intro l1 l2 l3 m h
    exact w_Mod_point_b6 hN (fun l1 l2 l3 m h => ih l1 l2 l3 m h) h
def f_Mod_point (l1 l2 : Int) (m : q_Mem) : q_Res :=
  q_bd (f_Mod_layNow m) fun _ m1 =>
  f_Mod_point_l6 q_F l1 l2 0 m1
set_option maxRecDepth 20000 in
theorem ok_X11_point {l1 l2 : Int} {r : Int × q_Mem} {m : q_Mem} {N : Nat} (hN : 126 ≤ N) (h : f_Mod_point l1 l2 m = some r) : q_C md_X11_point (q_room 7) 0 0 [q_A 81, q_I l1, q_I l2] (q_g N) m (some (q_I r.1), q_g N, r.2) := by
  refine q_ofR (by decide) 1 (ls := [q_A 81, q_I l1, q_I l2, q_N]) rfl (Nat.le_of_ble_eq_true rfl) ?_
  change q_E md_X11_point 7 N (some 0) r m 0 [q_A 81, q_I l1, q_I l2, q_N] []
  unfold f_Mod_point at h
  refine q_aload_n (M := md_X11_point) (pc := 0) dX11_point_0 rfl (by decide) ?_
  refine e_callVv (M := md_X11_point) (pc := 1) (d' := 6) (av := []) (c := 81) h ml_11_437 im_X11_layNow se_X11_layNow dX11_point_1 (fun v he => ok_X11_layNow hN  he) rfl (is_81 hN) ⟨_, _, rfl⟩ (by decide) (Nat.le_of_ble_eq_true rfl) ⟨by decide, by decide⟩ rfl (fun _ m1 h => ?_)
  refine q_iconst (M := md_X11_point) (pc := 4) dX11_point_4 ?_
  refine e_ist_n (M := md_X11_point) (pc := 5) (ls' := [q_A 81, q_I l1, q_I l2, q_I 0]) dX11_point_5 (by decide) (q_pl rfl) rfl ?_
  exact q_weak (w_Mod_point_l6 hN q_F _ _ _ _  h) ⟨Or.inr rfl, Or.inr rfl, Or.inr rfl, Or.inr rfl, trivial⟩
def f_Mod_waveAt_b34 (k4 : Int → Int → Int → q_Mem → q_Res) (l1 l3 s0 s1 : Int) (m : q_Mem) : q_Res :=
  k4 l1 (s0 + s1) (l3 + 1) m
set_option maxRecDepth 20000 in
theorem w_Mod_waveAt_b34 {k4 : Int → Int → Int → q_Mem → q_Res} {l1 l3 s0 s1 : Int} {r : Int × q_Mem} {m : q_Mem} {N : Nat} (hN : 126 ≤ N) (hk4 : ∀ (l1 l2 l3 : Int) (m : q_Mem), k4 l1 l2 l3 m = some r → q_E md_X11_waveAt 4 N (some 0) r m 4 [q_A 81, q_I l1, q_I l2, q_I l3] []) (h : f_Mod_waveAt_b34 k4 l1 l3 s0 s1 m = some r) : q_E md_X11_waveAt 4 N (some 0) r m 34 [q_A 81, q_I l1, q_N, q_I l3] [q_I s1, q_I s0] := by
  unfold f_Mod_waveAt_b34 at h
  refine q_iadd (M := md_X11_waveAt) (pc := 34) dX11_waveAt_34 ?_
  refine e_ist_n (M := md_X11_waveAt) (pc := 35) (ls' := [q_A 81, q_I l1, q_I (s0 + s1), q_I l3]) dX11_waveAt_35 (by decide) (q_pl rfl) rfl ?_
  refine e_inc (M := md_X11_waveAt) (pc := 36) (x := l3) (ls' := [q_A 81, q_I l1, q_I (s0 + s1), q_I (l3 + 1)]) dX11_waveAt_36 rfl (by decide) (q_pl rfl) rfl ?_
  refine q_goto (M := md_X11_waveAt) (pc := 39) (tgt := 4) dX11_waveAt_39 (by decide) ?_
  exact q_weak (hk4 _ _ _ _  h) ⟨Or.inr rfl, Or.inr rfl, Or.inr rfl, Or.inr rfl, trivial⟩
def f_Mod_waveAt_b33 (k4 : Int → Int → Int → q_Mem → q_Res) (l1 l3 s0 : Int) (m : q_Mem) : q_Res :=
  f_Mod_waveAt_b34 k4 l1 l3 s0 0 m
set_option maxRecDepth 20000 in
theorem w_Mod_waveAt_b33 {k4 : Int → Int → Int → q_Mem → q_Res} {l1 l3 s0 : Int} {r : Int × q_Mem} {m : q_Mem} {N : Nat} (hN : 126 ≤ N) (hk4 : ∀ (l1 l2 l3 : Int) (m : q_Mem), k4 l1 l2 l3 m = some r → q_E md_X11_waveAt 4 N (some 0) r m 4 [q_A 81, q_I l1, q_I l2, q_I l3] []) (h : f_Mod_waveAt_b33 k4 l1 l3 s0 m = some r) : q_E md_X11_waveAt 4 N (some 0) r m 33 [q_A 81, q_I l1, q_N, q_I l3] [q_I s0] := by
  unfold f_Mod_waveAt_b33 at h
  refine q_iconst (M := md_X11_waveAt) (pc := 33) dX11_waveAt_33 ?_
  exact q_weak (w_Mod_waveAt_b34 hN hk4  h) ⟨Or.inr rfl, Or.inr rfl, Or.inl rfl, Or.inr rfl, trivial⟩
def f_Mod_waveAt_b4 (k4 : Int → Int → Int → q_Mem → q_Res) (l1 l2 l3 : Int) (m : q_Mem) : q_Res :=
  if 100 ≤ q_w l3 then (q_rt l2 m)
  else (q_bd (f_Mod_isThere l3 m) fun v1 m2 =>
  if q_w v1 = 0 then (f_Mod_waveAt_b33 k4 l1 l3 l2 m2)
  else (q_rd m2 116 100 l3 fun v3 =>
  if q_w v3 = q_w l1 then (f_Mod_waveAt_b34 k4 l1 l3 l2 1 m2)
  else (f_Mod_waveAt_b33 k4 l1 l3 l2 m2)))
set_option maxRecDepth 20000 in
theorem w_Mod_waveAt_b4 {k4 : Int → Int → Int → q_Mem → q_Res} {l1 l2 l3 : Int} {r : Int × q_Mem} {m : q_Mem} {N : Nat} (hN : 126 ≤ N) (hk4 : ∀ (l1 l2 l3 : Int) (m : q_Mem), k4 l1 l2 l3 m = some r → q_E md_X11_waveAt 4 N (some 0) r m 4 [q_A 81, q_I l1, q_I l2, q_I l3] []) (h : f_Mod_waveAt_b4 k4 l1 l2 l3 m = some r) : q_E md_X11_waveAt 4 N (some 0) r m 4 [q_A 81, q_I l1, q_I l2, q_I l3] [] := by
  unfold f_Mod_waveAt_b4 at h
  refine q_iload_n (M := md_X11_waveAt) (pc := 4) dX11_waveAt_4 rfl ?_
  refine q_bipush (M := md_X11_waveAt) (pc := 5) (x := 100) dX11_waveAt_5 (by decide) ?_
  refine e_icmp_ge (M := md_X11_waveAt) (pc := 7) (tgt := 42) h rfl (q_wlit rfl) dX11_waveAt_7 (by decide) (fun h => ?_) (fun h => ?_)
  · refine q_iload_n (M := md_X11_waveAt) (pc := 42) dX11_waveAt_42 rfl ?_
    exact e_iret (M := md_X11_waveAt) (pc := 43) h rfl dX11_waveAt_43
  · refine q_iload_n (M := md_X11_waveAt) (pc := 10) dX11_waveAt_10 rfl ?_
    refine q_aload_n (M := md_X11_waveAt) (pc := 11) dX11_waveAt_11 rfl (by decide) ?_
    refine q_iload_n (M := md_X11_waveAt) (pc := 12) dX11_waveAt_12 rfl ?_
    refine e_callVi (M := md_X11_waveAt) (pc := 13) (d' := 3) (av := [q_I l3]) (c := 81) h ml_11_333 im_X11_isThere se_X11_isThere dX11_waveAt_13 (fun v he => ok_X11_isThere hN  he) rfl (is_81 hN) ⟨_, _, rfl⟩ (by decide) (Nat.le_of_ble_eq_true rfl) ⟨by decide, by decide⟩ rfl (fun v1 m2 h => ?_)
    refine e_if_eq (M := md_X11_waveAt) (pc := 16) (tgt := 33) h rfl dX11_waveAt_16 (by decide) (fun h => ?_) (fun h => ?_)
    · exact q_weak (w_Mod_waveAt_b33 hN hk4  h) ⟨Or.inr rfl, Or.inr rfl, Or.inl rfl, Or.inr rfl, trivial⟩
    · refine q_aload_n (M := md_X11_waveAt) (pc := 19) dX11_waveAt_19 rfl (by decide) ?_
      refine q_getP (M := md_X11_waveAt) (pc := 20) (v := 116) fl_11_118 dX11_waveAt_20 (is_81 hN) rfl ?_
      refine q_iload_n (M := md_X11_waveAt) (pc := 23) dX11_waveAt_23 rfl ?_
      refine e_rd (M := md_X11_waveAt) (pc := 24) h dX11_waveAt_24 (ar_116 hN) (fun v3 h => ?_)
      refine q_iload_n (M := md_X11_waveAt) (pc := 25) dX11_waveAt_25 rfl ?_
      refine e_icmp_ne (M := md_X11_waveAt) (pc := 26) (tgt := 33) h rfl rfl dX11_waveAt_26 (by decide) (fun h => ?_) (fun h => ?_)
      · exact q_weak (w_Mod_waveAt_b33 hN hk4  h) ⟨Or.inr rfl, Or.inr rfl, Or.inl rfl, Or.inr rfl, trivial⟩
      · refine q_iconst (M := md_X11_waveAt) (pc := 29) dX11_waveAt_29 ?_
        refine q_goto (M := md_X11_waveAt) (pc := 30) (tgt := 34) dX11_waveAt_30 (by decide) ?_
        exact q_weak (w_Mod_waveAt_b34 hN hk4  h) ⟨Or.inr rfl, Or.inr rfl, Or.inl rfl, Or.inr rfl, trivial⟩
def f_Mod_waveAt_l4 : Nat → Int → Int → Int → q_Mem → q_Res
  | 0 => fun _ _ _ _ => none
  | n + 1 => fun l1 l2 l3 m => f_Mod_waveAt_b4 (f_Mod_waveAt_l4 n) l1 l2 l3 m
theorem w_Mod_waveAt_l4 {r : Int × q_Mem} {N : Nat} (hN : 126 ≤ N) : ∀ (n : Nat) (l1 l2 l3 : Int) (m : q_Mem), f_Mod_waveAt_l4 n l1 l2 l3 m = some r → q_E md_X11_waveAt 4 N (some 0) r m 4 [q_A 81, q_I l1, q_I l2, q_I l3] [] := by
  intro n
  induction n with
  | zero => intro l1 l2 l3 m h; exact q_no h
  | succ n ih =>
    intro l1 l2 l3 m h
    exact w_Mod_waveAt_b4 hN (fun l1 l2 l3 m h => ih l1 l2 l3 m h) h
def f_Mod_waveAt (l1 : Int) (m : q_Mem) : q_Res :=
  f_Mod_waveAt_l4 q_F l1 0 0 m
set_option maxRecDepth 20000 in
theorem ok_X11_waveAt {l1 : Int} {r : Int × q_Mem} {m : q_Mem} {N : Nat} (hN : 126 ≤ N) (h : f_Mod_waveAt l1 m = some r) : q_C md_X11_waveAt (q_room 4) 0 0 [q_A 81, q_I l1] (q_g N) m (some (q_I r.1), q_g N, r.2) := by
  refine q_ofR (by decide) 2 (ls := [q_A 81, q_I l1, q_N, q_N]) rfl (Nat.le_of_ble_eq_true rfl) ?_
  change q_E md_X11_waveAt 4 N (some 0) r m 0 [q_A 81, q_I l1, q_N, q_N] []
  unfold f_Mod_waveAt at h
  refine q_iconst (M := md_X11_waveAt) (pc := 0) dX11_waveAt_0 ?_
  refine e_ist_n (M := md_X11_waveAt) (pc := 1) (ls' := [q_A 81, q_I l1, q_I 0, q_N]) dX11_waveAt_1 (by decide) (q_pl rfl) rfl ?_
  refine q_iconst (M := md_X11_waveAt) (pc := 2) dX11_waveAt_2 ?_
  refine e_ist_n (M := md_X11_waveAt) (pc := 3) (ls' := [q_A 81, q_I l1, q_I 0, q_I 0]) dX11_waveAt_3 (by decide) (q_pl rfl) rfl ?_
  exact q_weak (w_Mod_waveAt_l4 hN q_F _ _ _ _  h) ⟨Or.inr rfl, Or.inr rfl, Or.inr rfl, Or.inr rfl, trivial⟩
def f_Mod_wave (l1 : Int) (m : q_Mem) : q_Res :=
  if 0 ≤ q_w l1 then (q_bd (f_Mod_layNow m) fun _ m1 =>
  q_bd (f_Mod_waveAt l1 m1) fun v2 m3 =>
  q_rt v2 m3)
  else (q_rt (-1) m)
set_option maxRecDepth 20000 in
theorem ok_X11_wave {l1 : Int} {r : Int × q_Mem} {m : q_Mem} {N : Nat} (hN : 126 ≤ N) (h : f_Mod_wave l1 m = some r) : q_C md_X11_wave (q_room 7) 0 0 [q_A 81, q_I l1] (q_g N) m (some (q_I r.1), q_g N, r.2) := by
  refine q_ofR (by decide) 0 (ls := [q_A 81, q_I l1]) rfl (Nat.le_of_ble_eq_true rfl) ?_
  change q_E md_X11_wave 7 N (some 0) r m 0 [q_A 81, q_I l1] []
  unfold f_Mod_wave at h
  refine q_iload_n (M := md_X11_wave) (pc := 0) dX11_wave_0 rfl ?_
  refine e_if_ge (M := md_X11_wave) (pc := 1) (tgt := 6) h rfl dX11_wave_1 (by decide) (fun h => ?_) (fun h => ?_)
  · refine q_aload_n (M := md_X11_wave) (pc := 6) dX11_wave_6 rfl (by decide) ?_
    refine e_callVv (M := md_X11_wave) (pc := 7) (d' := 6) (av := []) (c := 81) h ml_11_437 im_X11_layNow se_X11_layNow dX11_wave_7 (fun v he => ok_X11_layNow hN  he) rfl (is_81 hN) ⟨_, _, rfl⟩ (by decide) (Nat.le_of_ble_eq_true rfl) ⟨by decide, by decide⟩ rfl (fun _ m1 h => ?_)
    refine q_aload_n (M := md_X11_wave) (pc := 10) dX11_wave_10 rfl (by decide) ?_
    refine q_iload_n (M := md_X11_wave) (pc := 11) dX11_wave_11 rfl ?_
    refine e_callVi (M := md_X11_wave) (pc := 12) (d' := 4) (av := [q_I l1]) (c := 81) h ml_11_449 im_X11_waveAt se_X11_waveAt dX11_wave_12 (fun v he => ok_X11_waveAt hN  he) rfl (is_81 hN) ⟨_, _, rfl⟩ (by decide) (Nat.le_of_ble_eq_true rfl) ⟨by decide, by decide⟩ rfl (fun v2 m3 h => ?_)
    exact e_iret (M := md_X11_wave) (pc := 15) h rfl dX11_wave_15
  · refine q_iconst (M := md_X11_wave) (pc := 4) dX11_wave_4 ?_
    exact e_iret (M := md_X11_wave) (pc := 5) h rfl dX11_wave_5
def f_Mod_peak_b63 (k22 : Int → Int → Int → Int → q_Mem → q_Res) (l1 l2 l4 s0 s1 : Int) (m : q_Mem) : q_Res :=
  k22 l1 l2 (s0 + s1) (l4 + 1) m
set_option maxRecDepth 20000 in
theorem w_Mod_peak_b63 {k22 : Int → Int → Int → Int → q_Mem → q_Res} {l1 l2 l4 s0 s1 : Int} {r : Int × q_Mem} {m : q_Mem} {N : Nat} (hN : 126 ≤ N) (hk22 : ∀ (l1 l2 l3 l4 : Int) (m : q_Mem), k22 l1 l2 l3 l4 m = some r → q_E md_X11_peak 7 N (some 0) r m 22 [q_A 81, q_I l1, q_I l2, q_I l3, q_I l4] []) (h : f_Mod_peak_b63 k22 l1 l2 l4 s0 s1 m = some r) : q_E md_X11_peak 7 N (some 0) r m 63 [q_A 81, q_I l1, q_I l2, q_N, q_I l4] [q_I s1, q_I s0] := by
  unfold f_Mod_peak_b63 at h
  refine q_iadd (M := md_X11_peak) (pc := 63) dX11_peak_63 ?_
  refine e_ist_n (M := md_X11_peak) (pc := 64) (ls' := [q_A 81, q_I l1, q_I l2, q_I (s0 + s1), q_I l4]) dX11_peak_64 (by decide) (q_pl rfl) rfl ?_
  refine e_inc (M := md_X11_peak) (pc := 65) (x := l4) (ls' := [q_A 81, q_I l1, q_I l2, q_I (s0 + s1), q_I (l4 + 1)]) dX11_peak_65 rfl (by decide) (q_pl rfl) rfl ?_
  refine q_goto (M := md_X11_peak) (pc := 68) (tgt := 22) dX11_peak_68 (by decide) ?_
  exact q_weak (hk22 _ _ _ _ _  h) ⟨Or.inr rfl, Or.inr rfl, Or.inr rfl, Or.inr rfl, Or.inr rfl, trivial⟩
def f_Mod_peak_b48 (k22 : Int → Int → Int → Int → q_Mem → q_Res) (l1 l2 l3 l4 : Int) (m : q_Mem) : q_Res :=
  q_bd (f_Mod_waveAt l4 m) fun v1 m2 =>
  if q_w v1 = 0 then (f_Mod_peak_b63 k22 l1 l2 l4 l3 1 m2)
  else (f_Mod_peak_b63 k22 l1 l2 l4 l3 0 m2)
set_option maxRecDepth 20000 in
theorem w_Mod_peak_b48 {k22 : Int → Int → Int → Int → q_Mem → q_Res} {l1 l2 l3 l4 : Int} {r : Int × q_Mem} {m : q_Mem} {N : Nat} (hN : 126 ≤ N) (hk22 : ∀ (l1 l2 l3 l4 : Int) (m : q_Mem), k22 l1 l2 l3 l4 m = some r → q_E md_X11_peak 7 N (some 0) r m 22 [q_A 81, q_I l1, q_I l2, q_I l3, q_I l4] []) (h : f_Mod_peak_b48 k22 l1 l2 l3 l4 m = some r) : q_E md_X11_peak 7 N (some 0) r m 48 [q_A 81, q_I l1, q_I l2, q_I l3, q_I l4] [] := by
  unfold f_Mod_peak_b48 at h
  refine q_iload_n (M := md_X11_peak) (pc := 48) dX11_peak_48 rfl ?_
  refine q_aload_n (M := md_X11_peak) (pc := 49) dX11_peak_49 rfl (by decide) ?_
  refine q_iload (M := md_X11_peak) (pc := 50) dX11_peak_50 rfl ?_
  refine e_callVi (M := md_X11_peak) (pc := 52) (d' := 4) (av := [q_I l4]) (c := 81) h ml_11_449 im_X11_waveAt se_X11_waveAt dX11_peak_52 (fun v he => ok_X11_waveAt hN  he) rfl (is_81 hN) ⟨_, _, rfl⟩ (by decide) (Nat.le_of_ble_eq_true rfl) ⟨by decide, by decide⟩ rfl (fun v1 m2 h => ?_)
  refine e_if_ne (M := md_X11_peak) (pc := 55) (tgt := 62) h rfl dX11_peak_55 (by decide) (fun h => ?_) (fun h => ?_)
  · refine q_iconst (M := md_X11_peak) (pc := 62) dX11_peak_62 ?_
    exact q_weak (w_Mod_peak_b63 hN hk22  h) ⟨Or.inr rfl, Or.inr rfl, Or.inr rfl, Or.inl rfl, Or.inr rfl, trivial⟩
  · refine q_iconst (M := md_X11_peak) (pc := 58) dX11_peak_58 ?_
    refine q_goto (M := md_X11_peak) (pc := 59) (tgt := 63) dX11_peak_59 (by decide) ?_
    exact q_weak (w_Mod_peak_b63 hN hk22  h) ⟨Or.inr rfl, Or.inr rfl, Or.inr rfl, Or.inl rfl, Or.inr rfl, trivial⟩
def f_Mod_peak_b22 (k22 : Int → Int → Int → Int → q_Mem → q_Res) (l1 l2 l3 l4 : Int) (m : q_Mem) : q_Res :=
  if q_w (m 81 53) ≤ q_w l4 then (if q_w l1 = 0 then (q_rt l2 m)
  else (if q_w l1 = 1 then (q_bd (f_Mod_waveAt l2 m) fun v1 m2 =>
  q_rt v1 m2)
  else (q_rt l3 m)))
  else (q_bd (f_Mod_waveAt l4 m) fun v3 m4 =>
  q_bd (f_Mod_waveAt l2 m4) fun v5 m6 =>
  if q_w v3 ≤ q_w v5 then (f_Mod_peak_b48 k22 l1 l2 l3 l4 m6)
  else (f_Mod_peak_b48 k22 l1 l4 l3 l4 m6))
set_option maxRecDepth 20000 in
theorem w_Mod_peak_b22 {k22 : Int → Int → Int → Int → q_Mem → q_Res} {l1 l2 l3 l4 : Int} {r : Int × q_Mem} {m : q_Mem} {N : Nat} (hN : 126 ≤ N) (hk22 : ∀ (l1 l2 l3 l4 : Int) (m : q_Mem), k22 l1 l2 l3 l4 m = some r → q_E md_X11_peak 7 N (some 0) r m 22 [q_A 81, q_I l1, q_I l2, q_I l3, q_I l4] []) (h : f_Mod_peak_b22 k22 l1 l2 l3 l4 m = some r) : q_E md_X11_peak 7 N (some 0) r m 22 [q_A 81, q_I l1, q_I l2, q_I l3, q_I l4] [] := by
  unfold f_Mod_peak_b22 at h
  refine q_iload (M := md_X11_peak) (pc := 22) dX11_peak_22 rfl ?_
  refine q_aload_n (M := md_X11_peak) (pc := 24) dX11_peak_24 rfl (by decide) ?_
  refine e_gI (M := md_X11_peak) (pc := 25) (v := m 81 53) fl_11_415 dX11_peak_25 (is_81 hN) rfl ?_
  refine e_icmp_ge (M := md_X11_peak) (pc := 28) (tgt := 71) h rfl rfl dX11_peak_28 (by decide) (fun h => ?_) (fun h => ?_)
  · refine q_iload_n (M := md_X11_peak) (pc := 71) dX11_peak_71 rfl ?_
    refine e_if_ne (M := md_X11_peak) (pc := 72) (tgt := 79) h rfl dX11_peak_72 (by decide) (fun h => ?_) (fun h => ?_)
    · refine q_iload_n (M := md_X11_peak) (pc := 79) dX11_peak_79 rfl ?_
      refine q_iconst (M := md_X11_peak) (pc := 80) dX11_peak_80 ?_
      refine e_icmp_ne (M := md_X11_peak) (pc := 81) (tgt := 92) h rfl (q_wlit rfl) dX11_peak_81 (by decide) (fun h => ?_) (fun h => ?_)
      · refine q_iload_n (M := md_X11_peak) (pc := 92) dX11_peak_92 rfl ?_
        exact e_iret (M := md_X11_peak) (pc := 93) h rfl dX11_peak_93
      · refine q_aload_n (M := md_X11_peak) (pc := 84) dX11_peak_84 rfl (by decide) ?_
        refine q_iload_n (M := md_X11_peak) (pc := 85) dX11_peak_85 rfl ?_
        refine e_callVi (M := md_X11_peak) (pc := 86) (d' := 4) (av := [q_I l2]) (c := 81) h ml_11_449 im_X11_waveAt se_X11_waveAt dX11_peak_86 (fun v he => ok_X11_waveAt hN  he) rfl (is_81 hN) ⟨_, _, rfl⟩ (by decide) (Nat.le_of_ble_eq_true rfl) ⟨by decide, by decide⟩ rfl (fun v1 m2 h => ?_)
        refine q_goto (M := md_X11_peak) (pc := 89) (tgt := 93) dX11_peak_89 (by decide) ?_
        exact e_iret (M := md_X11_peak) (pc := 93) h rfl dX11_peak_93
    · refine q_iload_n (M := md_X11_peak) (pc := 75) dX11_peak_75 rfl ?_
      refine q_goto (M := md_X11_peak) (pc := 76) (tgt := 93) dX11_peak_76 (by decide) ?_
      exact e_iret (M := md_X11_peak) (pc := 93) h rfl dX11_peak_93
  · refine q_aload_n (M := md_X11_peak) (pc := 31) dX11_peak_31 rfl (by decide) ?_
    refine q_iload (M := md_X11_peak) (pc := 32) dX11_peak_32 rfl ?_
    refine e_callVi (M := md_X11_peak) (pc := 34) (d' := 4) (av := [q_I l4]) (c := 81) h ml_11_449 im_X11_waveAt se_X11_waveAt dX11_peak_34 (fun v he => ok_X11_waveAt hN  he) rfl (is_81 hN) ⟨_, _, rfl⟩ (by decide) (Nat.le_of_ble_eq_true rfl) ⟨by decide, by decide⟩ rfl (fun v3 m4 h => ?_)
    refine q_aload_n (M := md_X11_peak) (pc := 37) dX11_peak_37 rfl (by decide) ?_
    refine q_iload_n (M := md_X11_peak) (pc := 38) dX11_peak_38 rfl ?_
    refine e_callVi (M := md_X11_peak) (pc := 39) (d' := 4) (av := [q_I l2]) (c := 81) h ml_11_449 im_X11_waveAt se_X11_waveAt dX11_peak_39 (fun v he => ok_X11_waveAt hN  he) rfl (is_81 hN) ⟨_, _, rfl⟩ (by decide) (Nat.le_of_ble_eq_true rfl) ⟨by decide, by decide⟩ rfl (fun v5 m6 h => ?_)
    refine e_icmp_le (M := md_X11_peak) (pc := 42) (tgt := 48) h rfl rfl dX11_peak_42 (by decide) (fun h => ?_) (fun h => ?_)
    · exact q_weak (w_Mod_peak_b48 hN hk22  h) ⟨Or.inr rfl, Or.inr rfl, Or.inr rfl, Or.inr rfl, Or.inr rfl, trivial⟩
    · refine q_iload (M := md_X11_peak) (pc := 45) dX11_peak_45 rfl ?_
      refine e_ist_n (M := md_X11_peak) (pc := 47) (ls' := [q_A 81, q_I l1, q_I l4, q_I l3, q_I l4]) dX11_peak_47 (by decide) (q_pl rfl) rfl ?_
      exact q_weak (w_Mod_peak_b48 hN hk22  h) ⟨Or.inr rfl, Or.inr rfl, Or.inr rfl, Or.inr rfl, Or.inr rfl, trivial⟩
def f_Mod_peak_l22 : Nat → Int → Int → Int → Int → q_Mem → q_Res
  | 0 => fun _ _ _ _ _ => none
  | n + 1 => fun l1 l2 l3 l4 m => f_Mod_peak_b22 (f_Mod_peak_l22 n) l1 l2 l3 l4 m
theorem w_Mod_peak_l22 {r : Int × q_Mem} {N : Nat} (hN : 126 ≤ N) : ∀ (n : Nat) (l1 l2 l3 l4 : Int) (m : q_Mem), f_Mod_peak_l22 n l1 l2 l3 l4 m = some r → q_E md_X11_peak 7 N (some 0) r m 22 [q_A 81, q_I l1, q_I l2, q_I l3, q_I l4] [] := by
  intro n
  induction n with
  | zero => intro l1 l2 l3 l4 m h; exact q_no h
  | succ n ih =>
    intro l1 l2 l3 l4 m h
    exact w_Mod_peak_b22 hN (fun l1 l2 l3 l4 m h => ih l1 l2 l3 l4 m h) h
def f_Mod_peak (l1 : Int) (m : q_Mem) : q_Res :=
  q_bd (f_Mod_isIn l1 0 2 m) fun v1 m2 =>
  if q_w v1 = 0 then (q_rt (-1) m2)
  else (q_bd (f_Mod_layNow m2) fun _ m3 =>
  f_Mod_peak_l22 q_F l1 0 0 0 m3)
set_option maxRecDepth 20000 in
theorem ok_X11_peak {l1 : Int} {r : Int × q_Mem} {m : q_Mem} {N : Nat} (hN : 126 ≤ N) (h : f_Mod_peak l1 m = some r) : q_C md_X11_peak (q_room 7) 0 0 [q_A 81, q_I l1] (q_g N) m (some (q_I r.1), q_g N, r.2) := by
  refine q_ofR (by decide) 3 (ls := [q_A 81, q_I l1, q_N, q_N, q_N]) rfl (Nat.le_of_ble_eq_true rfl) ?_
  change q_E md_X11_peak 7 N (some 0) r m 0 [q_A 81, q_I l1, q_N, q_N, q_N] []
  unfold f_Mod_peak at h
  refine q_iload_n (M := md_X11_peak) (pc := 0) dX11_peak_0 rfl ?_
  refine q_iconst (M := md_X11_peak) (pc := 1) dX11_peak_1 ?_
  refine q_iconst (M := md_X11_peak) (pc := 2) dX11_peak_2 ?_
  refine e_callSi (M := md_X11_peak) (pc := 3) (d' := 1) (M' := md_X11_isIn) (av := [q_I l1, q_I 0, q_I 2]) h ml_11_221 sm_X11_isIn dX11_peak_3 (fun v he => ok_X11_isIn hN  he) rfl (Nat.le_of_ble_eq_true rfl) ⟨by decide, by decide⟩ rfl (fun v1 m2 h => ?_)
  refine e_if_ne (M := md_X11_peak) (pc := 6) (tgt := 11) h rfl dX11_peak_6 (by decide) (fun h => ?_) (fun h => ?_)
  · refine q_aload_n (M := md_X11_peak) (pc := 11) dX11_peak_11 rfl (by decide) ?_
    refine e_callVv (M := md_X11_peak) (pc := 12) (d' := 6) (av := []) (c := 81) h ml_11_437 im_X11_layNow se_X11_layNow dX11_peak_12 (fun v he => ok_X11_layNow hN  he) rfl (is_81 hN) ⟨_, _, rfl⟩ (by decide) (Nat.le_of_ble_eq_true rfl) ⟨by decide, by decide⟩ rfl (fun _ m3 h => ?_)
    refine q_iconst (M := md_X11_peak) (pc := 15) dX11_peak_15 ?_
    refine e_ist_n (M := md_X11_peak) (pc := 16) (ls' := [q_A 81, q_I l1, q_I 0, q_N, q_N]) dX11_peak_16 (by decide) (q_pl rfl) rfl ?_
    refine q_iconst (M := md_X11_peak) (pc := 17) dX11_peak_17 ?_
    refine e_ist_n (M := md_X11_peak) (pc := 18) (ls' := [q_A 81, q_I l1, q_I 0, q_I 0, q_N]) dX11_peak_18 (by decide) (q_pl rfl) rfl ?_
    refine q_iconst (M := md_X11_peak) (pc := 19) dX11_peak_19 ?_
    refine e_ist (M := md_X11_peak) (pc := 20) (ls' := [q_A 81, q_I l1, q_I 0, q_I 0, q_I 0]) dX11_peak_20 (by decide) (q_pl rfl) rfl ?_
    exact q_weak (w_Mod_peak_l22 hN q_F _ _ _ _ _  h) ⟨Or.inr rfl, Or.inr rfl, Or.inr rfl, Or.inr rfl, Or.inr rfl, trivial⟩
  · refine q_iconst (M := md_X11_peak) (pc := 9) dX11_peak_9 ?_
    exact e_iret (M := md_X11_peak) (pc := 10) h rfl dX11_peak_10
def f_Mod_readersBy_b33 (k4 : Int → Int → Int → q_Mem → q_Res) (l1 l3 s0 s1 : Int) (m : q_Mem) : q_Res :=
  k4 l1 (s0 + s1) (l3 + 1) m
set_option maxRecDepth 20000 in
theorem w_Mod_readersBy_b33 {k4 : Int → Int → Int → q_Mem → q_Res} {l1 l3 s0 s1 : Int} {r : Int × q_Mem} {m : q_Mem} {N : Nat} (hN : 126 ≤ N) (hk4 : ∀ (l1 l2 l3 : Int) (m : q_Mem), k4 l1 l2 l3 m = some r → q_E md_X11_readersBy 4 N (some 0) r m 4 [q_A 81, q_I l1, q_I l2, q_I l3] []) (h : f_Mod_readersBy_b33 k4 l1 l3 s0 s1 m = some r) : q_E md_X11_readersBy 4 N (some 0) r m 33 [q_A 81, q_I l1, q_N, q_I l3] [q_I s1, q_I s0] := by
  unfold f_Mod_readersBy_b33 at h
  refine q_iadd (M := md_X11_readersBy) (pc := 33) dX11_readersBy_33 ?_
  refine e_ist_n (M := md_X11_readersBy) (pc := 34) (ls' := [q_A 81, q_I l1, q_I (s0 + s1), q_I l3]) dX11_readersBy_34 (by decide) (q_pl rfl) rfl ?_
  refine e_inc (M := md_X11_readersBy) (pc := 35) (x := l3) (ls' := [q_A 81, q_I l1, q_I (s0 + s1), q_I (l3 + 1)]) dX11_readersBy_35 rfl (by decide) (q_pl rfl) rfl ?_
  refine q_goto (M := md_X11_readersBy) (pc := 38) (tgt := 4) dX11_readersBy_38 (by decide) ?_
  exact q_weak (hk4 _ _ _ _  h) ⟨Or.inr rfl, Or.inr rfl, Or.inr rfl, Or.inr rfl, trivial⟩
def f_Mod_readersBy_b32 (k4 : Int → Int → Int → q_Mem → q_Res) (l1 l3 s0 : Int) (m : q_Mem) : q_Res :=
  f_Mod_readersBy_b33 k4 l1 l3 s0 0 m
set_option maxRecDepth 20000 in
theorem w_Mod_readersBy_b32 {k4 : Int → Int → Int → q_Mem → q_Res} {l1 l3 s0 : Int} {r : Int × q_Mem} {m : q_Mem} {N : Nat} (hN : 126 ≤ N) (hk4 : ∀ (l1 l2 l3 : Int) (m : q_Mem), k4 l1 l2 l3 m = some r → q_E md_X11_readersBy 4 N (some 0) r m 4 [q_A 81, q_I l1, q_I l2, q_I l3] []) (h : f_Mod_readersBy_b32 k4 l1 l3 s0 m = some r) : q_E md_X11_readersBy 4 N (some 0) r m 32 [q_A 81, q_I l1, q_N, q_I l3] [q_I s0] := by
  unfold f_Mod_readersBy_b32 at h
  refine q_iconst (M := md_X11_readersBy) (pc := 32) dX11_readersBy_32 ?_
  exact q_weak (w_Mod_readersBy_b33 hN hk4  h) ⟨Or.inr rfl, Or.inr rfl, Or.inl rfl, Or.inr rfl, trivial⟩
def f_Mod_readersBy_b4 (k4 : Int → Int → Int → q_Mem → q_Res) (l1 l2 l3 : Int) (m : q_Mem) : q_Res :=
  if 100 ≤ q_w l3 then (q_rt l2 m)
  else (q_bd (f_Mod_isThere l3 m) fun v1 m2 =>
  if q_w v1 = 0 then (f_Mod_readersBy_b32 k4 l1 l3 l2 m2)
  else (q_bd (f_Mod_readBy l3 l1 m2) fun v3 m4 =>
  if q_w v3 < 0 then (f_Mod_readersBy_b32 k4 l1 l3 l2 m4)
  else (f_Mod_readersBy_b33 k4 l1 l3 l2 1 m4)))
set_option maxRecDepth 20000 in
theorem w_Mod_readersBy_b4 {k4 : Int → Int → Int → q_Mem → q_Res} {l1 l2 l3 : Int} {r : Int × q_Mem} {m : q_Mem} {N : Nat} (hN : 126 ≤ N) (hk4 : ∀ (l1 l2 l3 : Int) (m : q_Mem), k4 l1 l2 l3 m = some r → q_E md_X11_readersBy 4 N (some 0) r m 4 [q_A 81, q_I l1, q_I l2, q_I l3] []) (h : f_Mod_readersBy_b4 k4 l1 l2 l3 m = some r) : q_E md_X11_readersBy 4 N (some 0) r m 4 [q_A 81, q_I l1, q_I l2, q_I l3] [] := by
  unfold f_Mod_readersBy_b4 at h
  refine q_iload_n (M := md_X11_readersBy) (pc := 4) dX11_readersBy_4 rfl ?_
  refine q_bipush (M := md_X11_readersBy) (pc := 5) (x := 100) dX11_readersBy_5 (by decide) ?_
  refine e_icmp_ge (M := md_X11_readersBy) (pc := 7) (tgt := 41) h rfl (q_wlit rfl) dX11_readersBy_7 (by decide) (fun h => ?_) (fun h => ?_)
  · refine q_iload_n (M := md_X11_readersBy) (pc := 41) dX11_readersBy_41 rfl ?_
    exact e_iret (M := md_X11_readersBy) (pc := 42) h rfl dX11_readersBy_42
  · refine q_iload_n (M := md_X11_readersBy) (pc := 10) dX11_readersBy_10 rfl ?_
    refine q_aload_n (M := md_X11_readersBy) (pc := 11) dX11_readersBy_11 rfl (by decide) ?_
    refine q_iload_n (M := md_X11_readersBy) (pc := 12) dX11_readersBy_12 rfl ?_
    refine e_callVi (M := md_X11_readersBy) (pc := 13) (d' := 3) (av := [q_I l3]) (c := 81) h ml_11_333 im_X11_isThere se_X11_isThere dX11_readersBy_13 (fun v he => ok_X11_isThere hN  he) rfl (is_81 hN) ⟨_, _, rfl⟩ (by decide) (Nat.le_of_ble_eq_true rfl) ⟨by decide, by decide⟩ rfl (fun v1 m2 h => ?_)
    refine e_if_eq (M := md_X11_readersBy) (pc := 16) (tgt := 32) h rfl dX11_readersBy_16 (by decide) (fun h => ?_) (fun h => ?_)
    · exact q_weak (w_Mod_readersBy_b32 hN hk4  h) ⟨Or.inr rfl, Or.inr rfl, Or.inl rfl, Or.inr rfl, trivial⟩
    · refine q_aload_n (M := md_X11_readersBy) (pc := 19) dX11_readersBy_19 rfl (by decide) ?_
      refine q_iload_n (M := md_X11_readersBy) (pc := 20) dX11_readersBy_20 rfl ?_
      refine q_iload_n (M := md_X11_readersBy) (pc := 21) dX11_readersBy_21 rfl ?_
      refine e_callVi (M := md_X11_readersBy) (pc := 22) (d' := 3) (av := [q_I l3, q_I l1]) (c := 81) h ml_11_342 im_X11_readBy se_X11_readBy dX11_readersBy_22 (fun v he => ok_X11_readBy hN  he) rfl (is_81 hN) ⟨_, _, rfl⟩ (by decide) (Nat.le_of_ble_eq_true rfl) ⟨by decide, by decide⟩ rfl (fun v3 m4 h => ?_)
      refine e_if_lt (M := md_X11_readersBy) (pc := 25) (tgt := 32) h rfl dX11_readersBy_25 (by decide) (fun h => ?_) (fun h => ?_)
      · exact q_weak (w_Mod_readersBy_b32 hN hk4  h) ⟨Or.inr rfl, Or.inr rfl, Or.inl rfl, Or.inr rfl, trivial⟩
      · refine q_iconst (M := md_X11_readersBy) (pc := 28) dX11_readersBy_28 ?_
        refine q_goto (M := md_X11_readersBy) (pc := 29) (tgt := 33) dX11_readersBy_29 (by decide) ?_
        exact q_weak (w_Mod_readersBy_b33 hN hk4  h) ⟨Or.inr rfl, Or.inr rfl, Or.inl rfl, Or.inr rfl, trivial⟩
def f_Mod_readersBy_l4 : Nat → Int → Int → Int → q_Mem → q_Res
  | 0 => fun _ _ _ _ => none
  | n + 1 => fun l1 l2 l3 m => f_Mod_readersBy_b4 (f_Mod_readersBy_l4 n) l1 l2 l3 m
theorem w_Mod_readersBy_l4 {r : Int × q_Mem} {N : Nat} (hN : 126 ≤ N) : ∀ (n : Nat) (l1 l2 l3 : Int) (m : q_Mem), f_Mod_readersBy_l4 n l1 l2 l3 m = some r → q_E md_X11_readersBy 4 N (some 0) r m 4 [q_A 81, q_I l1, q_I l2, q_I l3] [] := by
  intro n
  induction n with
  | zero => intro l1 l2 l3 m h; exact q_no h
  | succ n ih =>
    intro l1 l2 l3 m h
    exact w_Mod_readersBy_b4 hN (fun l1 l2 l3 m h => ih l1 l2 l3 m h) h
def f_Mod_readersBy (l1 : Int) (m : q_Mem) : q_Res :=
  f_Mod_readersBy_l4 q_F l1 0 0 m
set_option maxRecDepth 20000 in
theorem ok_X11_readersBy {l1 : Int} {r : Int × q_Mem} {m : q_Mem} {N : Nat} (hN : 126 ≤ N) (h : f_Mod_readersBy l1 m = some r) : q_C md_X11_readersBy (q_room 4) 0 0 [q_A 81, q_I l1] (q_g N) m (some (q_I r.1), q_g N, r.2) := by
  refine q_ofR (by decide) 2 (ls := [q_A 81, q_I l1, q_N, q_N]) rfl (Nat.le_of_ble_eq_true rfl) ?_
  change q_E md_X11_readersBy 4 N (some 0) r m 0 [q_A 81, q_I l1, q_N, q_N] []
  unfold f_Mod_readersBy at h
  refine q_iconst (M := md_X11_readersBy) (pc := 0) dX11_readersBy_0 ?_
  refine e_ist_n (M := md_X11_readersBy) (pc := 1) (ls' := [q_A 81, q_I l1, q_I 0, q_N]) dX11_readersBy_1 (by decide) (q_pl rfl) rfl ?_
  refine q_iconst (M := md_X11_readersBy) (pc := 2) dX11_readersBy_2 ?_
  refine e_ist_n (M := md_X11_readersBy) (pc := 3) (ls' := [q_A 81, q_I l1, q_I 0, q_I 0]) dX11_readersBy_3 (by decide) (q_pl rfl) rfl ?_
  exact q_weak (w_Mod_readersBy_l4 hN q_F _ _ _ _  h) ⟨Or.inr rfl, Or.inr rfl, Or.inr rfl, Or.inr rfl, trivial⟩
def f_Mod_offset (l1 l2 : Int) (m : q_Mem) : q_Res :=
  q_bd (f_Mod_offsetsNow m) fun v1 m2 =>
  q_bd (f_Mod_isIn l1 0 (v1 - 1) m2) fun v3 m4 =>
  if q_w v3 = 0 then (q_rt (-1000) m4)
  else (q_bd (f_Mod_byA l1 m4) fun v5 m6 =>
  q_bd (f_Mod_byB l1 m6) fun v7 m8 =>
  q_rd m8 115 69 0 fun v9 =>
  q_rd m8 115 69 1 fun v10 =>
  if q_w l2 = 0 then (q_rt v5 m8)
  else if q_w l2 = 1 then (q_rt v7 m8)
  else if q_w l2 = 2 then (q_bd (f_Mod_readersBy l1 m8) fun v14 m15 =>
  q_rt v14 m15)
  else if q_w l2 = 3 then (q_rd m8 115 69 3 fun v17 =>
  q_rd m8 115 69 2 fun v18 =>
  q_rt ((v17 * v5) - (v18 * v7)) m8)
  else if q_w l2 = 4 then (q_rt (-((v9 * v5) + (v10 * v7))) m8)
  else if q_w l2 = 5 then (if 0 ≤ q_w (-((v9 * v5) + (v10 * v7))) then (q_bd (f_Mod_readersBy l1 m8) fun v21 m22 =>
  q_rt ((-((v9 * v5) + (v10 * v7))) * v21) m22)
  else (q_rt 0 m8))
  else (q_rt (-1000) m8))
set_option maxRecDepth 20000 in
theorem ok_X11_offset {l1 l2 : Int} {r : Int × q_Mem} {m : q_Mem} {N : Nat} (hN : 126 ≤ N) (h : f_Mod_offset l1 l2 m = some r) : q_C md_X11_offset (q_room 5) 0 0 [q_A 81, q_I l1, q_I l2] (q_g N) m (some (q_I r.1), q_g N, r.2) := by
  refine q_ofR (by decide) 3 (ls := [q_A 81, q_I l1, q_I l2, q_N, q_N, q_N]) rfl (Nat.le_of_ble_eq_true rfl) ?_
  change q_E md_X11_offset 5 N (some 0) r m 0 [q_A 81, q_I l1, q_I l2, q_N, q_N, q_N] []
  unfold f_Mod_offset at h
  refine q_iload_n (M := md_X11_offset) (pc := 0) dX11_offset_0 rfl ?_
  refine q_iconst (M := md_X11_offset) (pc := 1) dX11_offset_1 ?_
  refine q_aload_n (M := md_X11_offset) (pc := 2) dX11_offset_2 rfl (by decide) ?_
  refine e_callVi (M := md_X11_offset) (pc := 3) (d' := 1) (av := []) (c := 81) h ml_11_339 im_X11_offsetsNow se_X11_offsetsNow dX11_offset_3 (fun v he => ok_X11_offsetsNow hN  he) rfl (is_81 hN) ⟨_, _, rfl⟩ (by decide) (Nat.le_of_ble_eq_true rfl) ⟨by decide, by decide⟩ rfl (fun v1 m2 h => ?_)
  refine q_iconst (M := md_X11_offset) (pc := 6) dX11_offset_6 ?_
  refine q_isub (M := md_X11_offset) (pc := 7) dX11_offset_7 ?_
  refine e_callSi (M := md_X11_offset) (pc := 8) (d' := 1) (M' := md_X11_isIn) (av := [q_I l1, q_I 0, q_I (v1 - 1)]) h ml_11_221 sm_X11_isIn dX11_offset_8 (fun v he => ok_X11_isIn hN  he) rfl (Nat.le_of_ble_eq_true rfl) ⟨by decide, by decide⟩ rfl (fun v3 m4 h => ?_)
  refine e_if_ne (M := md_X11_offset) (pc := 11) (tgt := 18) h rfl dX11_offset_11 (by decide) (fun h => ?_) (fun h => ?_)
  · refine q_aload_n (M := md_X11_offset) (pc := 18) dX11_offset_18 rfl (by decide) ?_
    refine q_iload_n (M := md_X11_offset) (pc := 19) dX11_offset_19 rfl ?_
    refine e_callVi (M := md_X11_offset) (pc := 20) (d' := 1) (av := [q_I l1]) (c := 81) h ml_11_327 im_X11_byA se_X11_byA dX11_offset_20 (fun v he => ok_X11_byA hN  he) rfl (is_81 hN) ⟨_, _, rfl⟩ (by decide) (Nat.le_of_ble_eq_true rfl) ⟨by decide, by decide⟩ rfl (fun v5 m6 h => ?_)
    refine e_ist_n (M := md_X11_offset) (pc := 23) (ls' := [q_A 81, q_I l1, q_I l2, q_I v5, q_N, q_N]) dX11_offset_23 (by decide) (q_pl rfl) rfl ?_
    refine q_aload_n (M := md_X11_offset) (pc := 24) dX11_offset_24 rfl (by decide) ?_
    refine q_iload_n (M := md_X11_offset) (pc := 25) dX11_offset_25 rfl ?_
    refine e_callVi (M := md_X11_offset) (pc := 26) (d' := 1) (av := [q_I l1]) (c := 81) h ml_11_330 im_X11_byB se_X11_byB dX11_offset_26 (fun v he => ok_X11_byB hN  he) rfl (is_81 hN) ⟨_, _, rfl⟩ (by decide) (Nat.le_of_ble_eq_true rfl) ⟨by decide, by decide⟩ rfl (fun v7 m8 h => ?_)
    refine e_ist (M := md_X11_offset) (pc := 29) (ls' := [q_A 81, q_I l1, q_I l2, q_I v5, q_I v7, q_N]) dX11_offset_29 (by decide) (q_pl rfl) rfl ?_
    refine q_aload_n (M := md_X11_offset) (pc := 31) dX11_offset_31 rfl (by decide) ?_
    refine q_getP (M := md_X11_offset) (pc := 32) (v := 115) fl_11_115 dX11_offset_32 (is_81 hN) rfl ?_
    refine q_iconst (M := md_X11_offset) (pc := 35) dX11_offset_35 ?_
    refine e_rd (M := md_X11_offset) (pc := 36) h dX11_offset_36 (ar_115 hN) (fun v9 h => ?_)
    refine q_iload_n (M := md_X11_offset) (pc := 37) dX11_offset_37 rfl ?_
    refine q_imul (M := md_X11_offset) (pc := 38) dX11_offset_38 ?_
    refine q_aload_n (M := md_X11_offset) (pc := 39) dX11_offset_39 rfl (by decide) ?_
    refine q_getP (M := md_X11_offset) (pc := 40) (v := 115) fl_11_115 dX11_offset_40 (is_81 hN) rfl ?_
    refine q_iconst (M := md_X11_offset) (pc := 43) dX11_offset_43 ?_
    refine e_rd (M := md_X11_offset) (pc := 44) h dX11_offset_44 (ar_115 hN) (fun v10 h => ?_)
    refine q_iload (M := md_X11_offset) (pc := 45) dX11_offset_45 rfl ?_
    refine q_imul (M := md_X11_offset) (pc := 47) dX11_offset_47 ?_
    refine q_iadd (M := md_X11_offset) (pc := 48) dX11_offset_48 ?_
    refine q_ineg (M := md_X11_offset) (pc := 49) dX11_offset_49 ?_
    refine e_ist (M := md_X11_offset) (pc := 50) (ls' := [q_A 81, q_I l1, q_I l2, q_I v5, q_I v7, q_I (-((v9 * v5) + (v10 * v7)))]) dX11_offset_50 (by decide) (q_pl rfl) rfl ?_
    refine q_iload_n (M := md_X11_offset) (pc := 52) dX11_offset_52 rfl ?_
    by_cases c11 : q_w l2 = 0
    · rw [if_pos c11] at h
      refine q_tabIn (M := md_X11_offset) (pc := 53) (tgt := 92) dX11_offset_53 (by rw [c11] <;> decide) (by rw [c11] <;> decide) (by rw [c11] <;> rfl) (by decide) ?_
      refine q_iload_n (M := md_X11_offset) (pc := 92) dX11_offset_92 rfl ?_
      exact e_iret (M := md_X11_offset) (pc := 93) h rfl dX11_offset_93
    rw [if_neg c11] at h
    by_cases c12 : q_w l2 = 1
    · rw [if_pos c12] at h
      refine q_tabIn (M := md_X11_offset) (pc := 53) (tgt := 94) dX11_offset_53 (by rw [c12] <;> decide) (by rw [c12] <;> decide) (by rw [c12] <;> rfl) (by decide) ?_
      refine q_iload (M := md_X11_offset) (pc := 94) dX11_offset_94 rfl ?_
      exact e_iret (M := md_X11_offset) (pc := 96) h rfl dX11_offset_96
    rw [if_neg c12] at h
    by_cases c13 : q_w l2 = 2
    · rw [if_pos c13] at h
      refine q_tabIn (M := md_X11_offset) (pc := 53) (tgt := 97) dX11_offset_53 (by rw [c13] <;> decide) (by rw [c13] <;> decide) (by rw [c13] <;> rfl) (by decide) ?_
      refine q_aload_n (M := md_X11_offset) (pc := 97) dX11_offset_97 rfl (by decide) ?_
      refine q_iload_n (M := md_X11_offset) (pc := 98) dX11_offset_98 rfl ?_
      refine e_callVi (M := md_X11_offset) (pc := 99) (d' := 4) (av := [q_I l1]) (c := 81) h ml_11_452 im_X11_readersBy se_X11_readersBy dX11_offset_99 (fun v he => ok_X11_readersBy hN  he) rfl (is_81 hN) ⟨_, _, rfl⟩ (by decide) (Nat.le_of_ble_eq_true rfl) ⟨by decide, by decide⟩ rfl (fun v14 m15 h => ?_)
      exact e_iret (M := md_X11_offset) (pc := 102) h rfl dX11_offset_102
    rw [if_neg c13] at h
    by_cases c16 : q_w l2 = 3
    · rw [if_pos c16] at h
      refine q_tabIn (M := md_X11_offset) (pc := 53) (tgt := 103) dX11_offset_53 (by rw [c16] <;> decide) (by rw [c16] <;> decide) (by rw [c16] <;> rfl) (by decide) ?_
      refine q_aload_n (M := md_X11_offset) (pc := 103) dX11_offset_103 rfl (by decide) ?_
      refine q_getP (M := md_X11_offset) (pc := 104) (v := 115) fl_11_115 dX11_offset_104 (is_81 hN) rfl ?_
      refine q_iconst (M := md_X11_offset) (pc := 107) dX11_offset_107 ?_
      refine e_rd (M := md_X11_offset) (pc := 108) h dX11_offset_108 (ar_115 hN) (fun v17 h => ?_)
      refine q_iload_n (M := md_X11_offset) (pc := 109) dX11_offset_109 rfl ?_
      refine q_imul (M := md_X11_offset) (pc := 110) dX11_offset_110 ?_
      refine q_aload_n (M := md_X11_offset) (pc := 111) dX11_offset_111 rfl (by decide) ?_
      refine q_getP (M := md_X11_offset) (pc := 112) (v := 115) fl_11_115 dX11_offset_112 (is_81 hN) rfl ?_
      refine q_iconst (M := md_X11_offset) (pc := 115) dX11_offset_115 ?_
      refine e_rd (M := md_X11_offset) (pc := 116) h dX11_offset_116 (ar_115 hN) (fun v18 h => ?_)
      refine q_iload (M := md_X11_offset) (pc := 117) dX11_offset_117 rfl ?_
      refine q_imul (M := md_X11_offset) (pc := 119) dX11_offset_119 ?_
      refine q_isub (M := md_X11_offset) (pc := 120) dX11_offset_120 ?_
      exact e_iret (M := md_X11_offset) (pc := 121) h rfl dX11_offset_121
    rw [if_neg c16] at h
    by_cases c19 : q_w l2 = 4
    · rw [if_pos c19] at h
      refine q_tabIn (M := md_X11_offset) (pc := 53) (tgt := 122) dX11_offset_53 (by rw [c19] <;> decide) (by rw [c19] <;> decide) (by rw [c19] <;> rfl) (by decide) ?_
      refine q_iload (M := md_X11_offset) (pc := 122) dX11_offset_122 rfl ?_
      exact e_iret (M := md_X11_offset) (pc := 124) h rfl dX11_offset_124
    rw [if_neg c19] at h
    by_cases c20 : q_w l2 = 5
    · rw [if_pos c20] at h
      refine q_tabIn (M := md_X11_offset) (pc := 53) (tgt := 125) dX11_offset_53 (by rw [c20] <;> decide) (by rw [c20] <;> decide) (by rw [c20] <;> rfl) (by decide) ?_
      refine q_iload (M := md_X11_offset) (pc := 125) dX11_offset_125 rfl ?_
      refine e_if_ge (M := md_X11_offset) (pc := 127) (tgt := 134) h rfl dX11_offset_127 (by decide) (fun h => ?_) (fun h => ?_)
      · refine q_iload (M := md_X11_offset) (pc := 134) dX11_offset_134 rfl ?_
        refine q_aload_n (M := md_X11_offset) (pc := 136) dX11_offset_136 rfl (by decide) ?_
        refine q_iload_n (M := md_X11_offset) (pc := 137) dX11_offset_137 rfl ?_
        refine e_callVi (M := md_X11_offset) (pc := 138) (d' := 4) (av := [q_I l1]) (c := 81) h ml_11_452 im_X11_readersBy se_X11_readersBy dX11_offset_138 (fun v he => ok_X11_readersBy hN  he) rfl (is_81 hN) ⟨_, _, rfl⟩ (by decide) (Nat.le_of_ble_eq_true rfl) ⟨by decide, by decide⟩ rfl (fun v21 m22 h => ?_)
        refine q_imul (M := md_X11_offset) (pc := 141) dX11_offset_141 ?_
        exact e_iret (M := md_X11_offset) (pc := 142) h rfl dX11_offset_142
      · refine q_iconst (M := md_X11_offset) (pc := 130) dX11_offset_130 ?_
        refine q_goto (M := md_X11_offset) (pc := 131) (tgt := 142) dX11_offset_131 (by decide) ?_
        exact e_iret (M := md_X11_offset) (pc := 142) h rfl dX11_offset_142
    rw [if_neg c20] at h
    refine q_tabOut (M := md_X11_offset) (pc := 53) (tgt := 143) dX11_offset_53 (by omega) (by decide) ?_
    refine q_sipush (M := md_X11_offset) (pc := 143) (x := -1000) dX11_offset_143 (by decide) ?_
    exact e_iret (M := md_X11_offset) (pc := 146) h rfl dX11_offset_146
  · refine q_sipush (M := md_X11_offset) (pc := 14) (x := -1000) dX11_offset_14 (by decide) ?_
    exact e_iret (M := md_X11_offset) (pc := 17) h rfl dX11_offset_17
def f_Mod_isBroken (l1 : Int) (m : q_Mem) : q_Res :=
  q_rd m 115 69 (5 + l1) fun v1 =>
  if q_w v1 = 1 then (q_rz 1 m)
  else (q_rz 0 m)
set_option maxRecDepth 20000 in
theorem ok_X11_isBroken {l1 : Int} {r : Int × q_Mem} {m : q_Mem} {N : Nat} (hN : 126 ≤ N) (h : f_Mod_isBroken l1 m = some r) : q_C md_X11_isBroken (q_room 1) 0 0 [q_A 81, q_I l1] (q_g N) m (some (q_I r.1), q_g N, r.2) := by
  refine q_ofR (by decide) 0 (ls := [q_A 81, q_I l1]) rfl (Nat.le_of_ble_eq_true rfl) ?_
  change q_E md_X11_isBroken 1 N (some 0) r m 0 [q_A 81, q_I l1] []
  unfold f_Mod_isBroken at h
  refine q_aload_n (M := md_X11_isBroken) (pc := 0) dX11_isBroken_0 rfl (by decide) ?_
  refine q_getP (M := md_X11_isBroken) (pc := 1) (v := 115) fl_11_115 dX11_isBroken_1 (is_81 hN) rfl ?_
  refine q_iconst (M := md_X11_isBroken) (pc := 4) dX11_isBroken_4 ?_
  refine q_iload_n (M := md_X11_isBroken) (pc := 5) dX11_isBroken_5 rfl ?_
  refine q_iadd (M := md_X11_isBroken) (pc := 6) dX11_isBroken_6 ?_
  refine e_rd (M := md_X11_isBroken) (pc := 7) h dX11_isBroken_7 (ar_115 hN) (fun v1 h => ?_)
  refine q_iconst (M := md_X11_isBroken) (pc := 8) dX11_isBroken_8 ?_
  refine e_icmp_ne (M := md_X11_isBroken) (pc := 9) (tgt := 16) h rfl (q_wlit rfl) dX11_isBroken_9 (by decide) (fun h => ?_) (fun h => ?_)
  · refine q_iconst (M := md_X11_isBroken) (pc := 16) dX11_isBroken_16 ?_
    exact e_zret (M := md_X11_isBroken) (pc := 17) h rfl dX11_isBroken_17
  · refine q_iconst (M := md_X11_isBroken) (pc := 12) dX11_isBroken_12 ?_
    refine q_goto (M := md_X11_isBroken) (pc := 13) (tgt := 17) dX11_isBroken_13 (by decide) ?_
    exact e_zret (M := md_X11_isBroken) (pc := 17) h rfl dX11_isBroken_17
def f_Mod_layRun_b124 (k24 : Int → q_Mem → q_Res) (k34 : Int → Int → q_Mem → q_Res) (l1 l2 : Int) (m : q_Mem) : q_Res :=
  k34 l1 (l2 + 1) m
set_option maxRecDepth 20000 in
theorem w_Mod_layRun_b124 {k24 : Int → q_Mem → q_Res} {k34 : Int → Int → q_Mem → q_Res} {l1 l2 : Int} {r : Int × q_Mem} {m : q_Mem} {N : Nat} (hN : 126 ≤ N) (hk24 : ∀ (l1 : Int) (m : q_Mem), k24 l1 m = some r → q_E md_X11_layRun 7 N (none) r m 24 [q_A 81, q_I l1, q_N, q_N] []) (hk34 : ∀ (l1 l2 : Int) (m : q_Mem), k34 l1 l2 m = some r → q_E md_X11_layRun 7 N (none) r m 34 [q_A 81, q_I l1, q_I l2, q_N] []) (h : f_Mod_layRun_b124 k24 k34 l1 l2 m = some r) : q_E md_X11_layRun 7 N (none) r m 124 [q_A 81, q_I l1, q_I l2, q_N] [] := by
  unfold f_Mod_layRun_b124 at h
  refine e_inc (M := md_X11_layRun) (pc := 124) (x := l2) (ls' := [q_A 81, q_I l1, q_I (l2 + 1), q_N]) dX11_layRun_124 rfl (by decide) (q_pl rfl) rfl ?_
  refine q_goto (M := md_X11_layRun) (pc := 127) (tgt := 34) dX11_layRun_127 (by decide) ?_
  exact q_weak (hk34 _ _ _  h) ⟨Or.inr rfl, Or.inr rfl, Or.inr rfl, Or.inl rfl, trivial⟩
def f_Mod_layRun_b85 (k24 : Int → q_Mem → q_Res) (k34 : Int → Int → q_Mem → q_Res) (k85 : Int → Int → Int → q_Mem → q_Res) (l1 l2 l3 : Int) (m : q_Mem) : q_Res :=
  q_bd (f_Mod_many m) fun v1 m2 =>
  if q_w v1 ≤ q_w l3 then (f_Mod_layRun_b124 k24 k34 l1 l2 m2)
  else (q_dv l2 10 fun v3 =>
  q_md l2 10 fun v4 =>
  q_bd (f_Mod_withReads l3 v3 v4 1 m2) fun v5 m6 =>
  q_wr m6 111 300 ((100 * l3) + l2) v5 fun m7 =>
  k85 l1 l2 (l3 + 1) m7)
set_option maxRecDepth 20000 in
theorem w_Mod_layRun_b85 {k24 : Int → q_Mem → q_Res} {k34 : Int → Int → q_Mem → q_Res} {k85 : Int → Int → Int → q_Mem → q_Res} {l1 l2 l3 : Int} {r : Int × q_Mem} {m : q_Mem} {N : Nat} (hN : 126 ≤ N) (hk24 : ∀ (l1 : Int) (m : q_Mem), k24 l1 m = some r → q_E md_X11_layRun 7 N (none) r m 24 [q_A 81, q_I l1, q_N, q_N] []) (hk34 : ∀ (l1 l2 : Int) (m : q_Mem), k34 l1 l2 m = some r → q_E md_X11_layRun 7 N (none) r m 34 [q_A 81, q_I l1, q_I l2, q_N] []) (hk85 : ∀ (l1 l2 l3 : Int) (m : q_Mem), k85 l1 l2 l3 m = some r → q_E md_X11_layRun 7 N (none) r m 85 [q_A 81, q_I l1, q_I l2, q_I l3] []) (h : f_Mod_layRun_b85 k24 k34 k85 l1 l2 l3 m = some r) : q_E md_X11_layRun 7 N (none) r m 85 [q_A 81, q_I l1, q_I l2, q_I l3] [] := by
  unfold f_Mod_layRun_b85 at h
  refine q_iload_n (M := md_X11_layRun) (pc := 85) dX11_layRun_85 rfl ?_
  refine q_aload_n (M := md_X11_layRun) (pc := 86) dX11_layRun_86 rfl (by decide) ?_
  refine e_callVi (M := md_X11_layRun) (pc := 87) (d' := 1) (av := []) (c := 81) h ml_11_315 im_X11_many se_X11_many dX11_layRun_87 (fun v he => ok_X11_many hN  he) rfl (is_81 hN) ⟨_, _, rfl⟩ (by decide) (Nat.le_of_ble_eq_true rfl) ⟨by decide, by decide⟩ rfl (fun v1 m2 h => ?_)
  refine e_icmp_ge (M := md_X11_layRun) (pc := 90) (tgt := 124) h rfl rfl dX11_layRun_90 (by decide) (fun h => ?_) (fun h => ?_)
  · exact q_weak (w_Mod_layRun_b124 hN hk24 hk34  h) ⟨Or.inr rfl, Or.inr rfl, Or.inr rfl, Or.inl rfl, trivial⟩
  · refine q_aload_n (M := md_X11_layRun) (pc := 93) dX11_layRun_93 rfl (by decide) ?_
    refine q_getP (M := md_X11_layRun) (pc := 94) (v := 111) fl_11_103 dX11_layRun_94 (is_81 hN) rfl ?_
    refine q_bipush (M := md_X11_layRun) (pc := 97) (x := 100) dX11_layRun_97 (by decide) ?_
    refine q_iload_n (M := md_X11_layRun) (pc := 99) dX11_layRun_99 rfl ?_
    refine q_imul (M := md_X11_layRun) (pc := 100) dX11_layRun_100 ?_
    refine q_iload_n (M := md_X11_layRun) (pc := 101) dX11_layRun_101 rfl ?_
    refine q_iadd (M := md_X11_layRun) (pc := 102) dX11_layRun_102 ?_
    refine q_aload_n (M := md_X11_layRun) (pc := 103) dX11_layRun_103 rfl (by decide) ?_
    refine q_iload_n (M := md_X11_layRun) (pc := 104) dX11_layRun_104 rfl ?_
    refine q_iload_n (M := md_X11_layRun) (pc := 105) dX11_layRun_105 rfl ?_
    refine q_bipush (M := md_X11_layRun) (pc := 106) (x := 10) dX11_layRun_106 (by decide) ?_
    refine e_dv (M := md_X11_layRun) (pc := 108) h dX11_layRun_108 (fun v3 h => ?_)
    refine q_iload_n (M := md_X11_layRun) (pc := 109) dX11_layRun_109 rfl ?_
    refine q_bipush (M := md_X11_layRun) (pc := 110) (x := 10) dX11_layRun_110 (by decide) ?_
    refine e_md (M := md_X11_layRun) (pc := 112) h dX11_layRun_112 (fun v4 h => ?_)
    refine q_iconst (M := md_X11_layRun) (pc := 113) dX11_layRun_113 ?_
    refine e_callVi (M := md_X11_layRun) (pc := 114) (d' := 6) (av := [q_I l3, q_I v3, q_I v4, q_I 1]) (c := 81) h ml_11_393 im_X11_withReads se_X11_withReads dX11_layRun_114 (fun v he => ok_X11_withReads hN  he) rfl (is_81 hN) ⟨_, _, rfl⟩ (by decide) (Nat.le_of_ble_eq_true rfl) ⟨by decide, by decide⟩ rfl (fun v5 m6 h => ?_)
    refine e_wr (M := md_X11_layRun) (pc := 117) h dX11_layRun_117 (ar_111 hN) (fun m7 h => ?_)
    refine e_inc (M := md_X11_layRun) (pc := 118) (x := l3) (ls' := [q_A 81, q_I l1, q_I l2, q_I (l3 + 1)]) dX11_layRun_118 rfl (by decide) (q_pl rfl) rfl ?_
    refine q_goto (M := md_X11_layRun) (pc := 121) (tgt := 85) dX11_layRun_121 (by decide) ?_
    exact q_weak (hk85 _ _ _ _  h) ⟨Or.inr rfl, Or.inr rfl, Or.inr rfl, Or.inr rfl, trivial⟩
def f_Mod_layRun_l85 (k24 : Int → q_Mem → q_Res) (k34 : Int → Int → q_Mem → q_Res) : Nat → Int → Int → Int → q_Mem → q_Res
  | 0 => fun _ _ _ _ => none
  | n + 1 => fun l1 l2 l3 m => f_Mod_layRun_b85 k24 k34 (f_Mod_layRun_l85 k24 k34 n) l1 l2 l3 m
theorem w_Mod_layRun_l85 {k24 : Int → q_Mem → q_Res} {k34 : Int → Int → q_Mem → q_Res} {r : Int × q_Mem} {N : Nat} (hN : 126 ≤ N) (hk24 : ∀ (l1 : Int) (m : q_Mem), k24 l1 m = some r → q_E md_X11_layRun 7 N (none) r m 24 [q_A 81, q_I l1, q_N, q_N] []) (hk34 : ∀ (l1 l2 : Int) (m : q_Mem), k34 l1 l2 m = some r → q_E md_X11_layRun 7 N (none) r m 34 [q_A 81, q_I l1, q_I l2, q_N] []) : ∀ (n : Nat) (l1 l2 l3 : Int) (m : q_Mem), f_Mod_layRun_l85 k24 k34 n l1 l2 l3 m = some r → q_E md_X11_layRun 7 N (none) r m 85 [q_A 81, q_I l1, q_I l2, q_I l3] [] := by
  intro n
  induction n with
  | zero => intro l1 l2 l3 m h; exact q_no h
  | succ n ih =>
    intro l1 l2 l3 m h
    exact w_Mod_layRun_b85 hN hk24 hk34 (fun l1 l2 l3 m h => ih l1 l2 l3 m h) h
def f_Mod_layRun_b34 (k24 : Int → q_Mem → q_Res) (k34 : Int → Int → q_Mem → q_Res) (l1 l2 : Int) (m : q_Mem) : q_Res :=
  if 100 ≤ q_w l2 then (k24 (l1 + 1) m)
  else (q_bd (f_Mod_isThere l2 m) fun v1 m2 =>
  if q_w v1 = 0 then (f_Mod_layRun_b124 k24 k34 l1 l2 m2)
  else (q_rd m2 116 100 l2 fun v3 =>
  if q_w v3 = q_w l1 then (q_rd m2 118 100 l2 fun v4 =>
  if q_w v4 = 0 then (q_rd m2 117 100 l2 fun v5 =>
  q_bd (f_Mod_isBroken v5 m2) fun v6 m7 =>
  if q_w v6 = 0 then (f_Mod_layRun_l85 k24 k34 q_F l1 l2 0 m7)
  else (f_Mod_layRun_b124 k24 k34 l1 l2 m7))
  else (f_Mod_layRun_b124 k24 k34 l1 l2 m2))
  else (f_Mod_layRun_b124 k24 k34 l1 l2 m2)))
set_option maxRecDepth 20000 in
theorem w_Mod_layRun_b34 {k24 : Int → q_Mem → q_Res} {k34 : Int → Int → q_Mem → q_Res} {l1 l2 : Int} {r : Int × q_Mem} {m : q_Mem} {N : Nat} (hN : 126 ≤ N) (hk24 : ∀ (l1 : Int) (m : q_Mem), k24 l1 m = some r → q_E md_X11_layRun 7 N (none) r m 24 [q_A 81, q_I l1, q_N, q_N] []) (hk34 : ∀ (l1 l2 : Int) (m : q_Mem), k34 l1 l2 m = some r → q_E md_X11_layRun 7 N (none) r m 34 [q_A 81, q_I l1, q_I l2, q_N] []) (h : f_Mod_layRun_b34 k24 k34 l1 l2 m = some r) : q_E md_X11_layRun 7 N (none) r m 34 [q_A 81, q_I l1, q_I l2, q_N] [] := by
  unfold f_Mod_layRun_b34 at h
  refine q_iload_n (M := md_X11_layRun) (pc := 34) dX11_layRun_34 rfl ?_
  refine q_bipush (M := md_X11_layRun) (pc := 35) (x := 100) dX11_layRun_35 (by decide) ?_
  refine e_icmp_ge (M := md_X11_layRun) (pc := 37) (tgt := 130) h rfl (q_wlit rfl) dX11_layRun_37 (by decide) (fun h => ?_) (fun h => ?_)
  · refine e_inc (M := md_X11_layRun) (pc := 130) (x := l1) (ls' := [q_A 81, q_I (l1 + 1), q_I l2, q_N]) dX11_layRun_130 rfl (by decide) (q_pl rfl) rfl ?_
    refine q_goto (M := md_X11_layRun) (pc := 133) (tgt := 24) dX11_layRun_133 (by decide) ?_
    exact q_weak (hk24 _ _  h) ⟨Or.inr rfl, Or.inr rfl, Or.inl rfl, Or.inl rfl, trivial⟩
  · refine q_aload_n (M := md_X11_layRun) (pc := 40) dX11_layRun_40 rfl (by decide) ?_
    refine q_iload_n (M := md_X11_layRun) (pc := 41) dX11_layRun_41 rfl ?_
    refine e_callVi (M := md_X11_layRun) (pc := 42) (d' := 3) (av := [q_I l2]) (c := 81) h ml_11_333 im_X11_isThere se_X11_isThere dX11_layRun_42 (fun v he => ok_X11_isThere hN  he) rfl (is_81 hN) ⟨_, _, rfl⟩ (by decide) (Nat.le_of_ble_eq_true rfl) ⟨by decide, by decide⟩ rfl (fun v1 m2 h => ?_)
    refine e_if_eq (M := md_X11_layRun) (pc := 45) (tgt := 124) h rfl dX11_layRun_45 (by decide) (fun h => ?_) (fun h => ?_)
    · exact q_weak (w_Mod_layRun_b124 hN hk24 hk34  h) ⟨Or.inr rfl, Or.inr rfl, Or.inr rfl, Or.inl rfl, trivial⟩
    · refine q_aload_n (M := md_X11_layRun) (pc := 48) dX11_layRun_48 rfl (by decide) ?_
      refine q_getP (M := md_X11_layRun) (pc := 49) (v := 116) fl_11_118 dX11_layRun_49 (is_81 hN) rfl ?_
      refine q_iload_n (M := md_X11_layRun) (pc := 52) dX11_layRun_52 rfl ?_
      refine e_rd (M := md_X11_layRun) (pc := 53) h dX11_layRun_53 (ar_116 hN) (fun v3 h => ?_)
      refine q_iload_n (M := md_X11_layRun) (pc := 54) dX11_layRun_54 rfl ?_
      refine e_icmp_ne (M := md_X11_layRun) (pc := 55) (tgt := 124) h rfl rfl dX11_layRun_55 (by decide) (fun h => ?_) (fun h => ?_)
      · exact q_weak (w_Mod_layRun_b124 hN hk24 hk34  h) ⟨Or.inr rfl, Or.inr rfl, Or.inr rfl, Or.inl rfl, trivial⟩
      · refine q_aload_n (M := md_X11_layRun) (pc := 58) dX11_layRun_58 rfl (by decide) ?_
        refine q_getP (M := md_X11_layRun) (pc := 59) (v := 118) fl_11_124 dX11_layRun_59 (is_81 hN) rfl ?_
        refine q_iload_n (M := md_X11_layRun) (pc := 62) dX11_layRun_62 rfl ?_
        refine e_rdz (M := md_X11_layRun) (pc := 63) h dX11_layRun_63 (ar_118 hN) (fun v4 h => ?_)
        refine e_if_ne (M := md_X11_layRun) (pc := 64) (tgt := 124) h rfl dX11_layRun_64 (by decide) (fun h => ?_) (fun h => ?_)
        · exact q_weak (w_Mod_layRun_b124 hN hk24 hk34  h) ⟨Or.inr rfl, Or.inr rfl, Or.inr rfl, Or.inl rfl, trivial⟩
        · refine q_aload_n (M := md_X11_layRun) (pc := 67) dX11_layRun_67 rfl (by decide) ?_
          refine q_aload_n (M := md_X11_layRun) (pc := 68) dX11_layRun_68 rfl (by decide) ?_
          refine q_getP (M := md_X11_layRun) (pc := 69) (v := 117) fl_11_121 dX11_layRun_69 (is_81 hN) rfl ?_
          refine q_iload_n (M := md_X11_layRun) (pc := 72) dX11_layRun_72 rfl ?_
          refine e_rd (M := md_X11_layRun) (pc := 73) h dX11_layRun_73 (ar_117 hN) (fun v5 h => ?_)
          refine e_callVi (M := md_X11_layRun) (pc := 74) (d' := 1) (av := [q_I v5]) (c := 81) h ml_11_455 im_X11_isBroken se_X11_isBroken dX11_layRun_74 (fun v he => ok_X11_isBroken hN  he) rfl (is_81 hN) ⟨_, _, rfl⟩ (by decide) (Nat.le_of_ble_eq_true rfl) ⟨by decide, by decide⟩ rfl (fun v6 m7 h => ?_)
          refine e_if_eq (M := md_X11_layRun) (pc := 77) (tgt := 83) h rfl dX11_layRun_77 (by decide) (fun h => ?_) (fun h => ?_)
          · refine q_iconst (M := md_X11_layRun) (pc := 83) dX11_layRun_83 ?_
            refine e_ist_n (M := md_X11_layRun) (pc := 84) (ls' := [q_A 81, q_I l1, q_I l2, q_I 0]) dX11_layRun_84 (by decide) (q_pl rfl) rfl ?_
            exact q_weak (w_Mod_layRun_l85 hN hk24 hk34 q_F _ _ _ _  h) ⟨Or.inr rfl, Or.inr rfl, Or.inr rfl, Or.inr rfl, trivial⟩
          · refine q_goto (M := md_X11_layRun) (pc := 80) (tgt := 124) dX11_layRun_80 (by decide) ?_
            exact q_weak (w_Mod_layRun_b124 hN hk24 hk34  h) ⟨Or.inr rfl, Or.inr rfl, Or.inr rfl, Or.inl rfl, trivial⟩
def f_Mod_layRun_l34 (k24 : Int → q_Mem → q_Res) : Nat → Int → Int → q_Mem → q_Res
  | 0 => fun _ _ _ => none
  | n + 1 => fun l1 l2 m => f_Mod_layRun_b34 k24 (f_Mod_layRun_l34 k24 n) l1 l2 m
theorem w_Mod_layRun_l34 {k24 : Int → q_Mem → q_Res} {r : Int × q_Mem} {N : Nat} (hN : 126 ≤ N) (hk24 : ∀ (l1 : Int) (m : q_Mem), k24 l1 m = some r → q_E md_X11_layRun 7 N (none) r m 24 [q_A 81, q_I l1, q_N, q_N] []) : ∀ (n : Nat) (l1 l2 : Int) (m : q_Mem), f_Mod_layRun_l34 k24 n l1 l2 m = some r → q_E md_X11_layRun 7 N (none) r m 34 [q_A 81, q_I l1, q_I l2, q_N] [] := by
  intro n
  induction n with
  | zero => intro l1 l2 m h; exact q_no h
  | succ n ih =>
    intro l1 l2 m h
    exact w_Mod_layRun_b34 hN hk24 (fun l1 l2 m h => ih l1 l2 m h) h
def f_Mod_layRun_b24 (k24 : Int → q_Mem → q_Res) (l1 : Int) (m : q_Mem) : q_Res :=
  if q_w (m 81 53) ≤ q_w l1 then (q_rt 0 m)
  else (f_Mod_layRun_l34 k24 q_F l1 0 m)
set_option maxRecDepth 20000 in
theorem w_Mod_layRun_b24 {k24 : Int → q_Mem → q_Res} {l1 : Int} {r : Int × q_Mem} {m : q_Mem} {N : Nat} (hN : 126 ≤ N) (hk24 : ∀ (l1 : Int) (m : q_Mem), k24 l1 m = some r → q_E md_X11_layRun 7 N (none) r m 24 [q_A 81, q_I l1, q_N, q_N] []) (h : f_Mod_layRun_b24 k24 l1 m = some r) : q_E md_X11_layRun 7 N (none) r m 24 [q_A 81, q_I l1, q_N, q_N] [] := by
  unfold f_Mod_layRun_b24 at h
  refine q_iload_n (M := md_X11_layRun) (pc := 24) dX11_layRun_24 rfl ?_
  refine q_aload_n (M := md_X11_layRun) (pc := 25) dX11_layRun_25 rfl (by decide) ?_
  refine e_gI (M := md_X11_layRun) (pc := 26) (v := m 81 53) fl_11_415 dX11_layRun_26 (is_81 hN) rfl ?_
  refine e_icmp_ge (M := md_X11_layRun) (pc := 29) (tgt := 136) h rfl rfl dX11_layRun_29 (by decide) (fun h => ?_) (fun h => ?_)
  · exact e_vret (M := md_X11_layRun) (pc := 136) h rfl dX11_layRun_136
  · refine q_iconst (M := md_X11_layRun) (pc := 32) dX11_layRun_32 ?_
    refine e_ist_n (M := md_X11_layRun) (pc := 33) (ls' := [q_A 81, q_I l1, q_I 0, q_N]) dX11_layRun_33 (by decide) (q_pl rfl) rfl ?_
    exact q_weak (w_Mod_layRun_l34 hN hk24 q_F _ _ _  h) ⟨Or.inr rfl, Or.inr rfl, Or.inr rfl, Or.inl rfl, trivial⟩
def f_Mod_layRun_l24 : Nat → Int → q_Mem → q_Res
  | 0 => fun _ _ => none
  | n + 1 => fun l1 m => f_Mod_layRun_b24 (f_Mod_layRun_l24 n) l1 m
theorem w_Mod_layRun_l24 {r : Int × q_Mem} {N : Nat} (hN : 126 ≤ N) : ∀ (n : Nat) (l1 : Int) (m : q_Mem), f_Mod_layRun_l24 n l1 m = some r → q_E md_X11_layRun 7 N (none) r m 24 [q_A 81, q_I l1, q_N, q_N] [] := by
  intro n
  induction n with
  | zero => intro l1 m h; exact q_no h
  | succ n ih =>
    intro l1 m h
    exact w_Mod_layRun_b24 hN (fun l1 m h => ih l1 m h) h
def f_Mod_layRun_b2 (k2 : Int → q_Mem → q_Res) (l1 : Int) (m : q_Mem) : q_Res :=
  if 300 ≤ q_w l1 then (f_Mod_layRun_l24 q_F 0 m)
  else (q_wr m 111 300 l1 0 fun m1 =>
  k2 (l1 + 1) m1)
set_option maxRecDepth 20000 in
theorem w_Mod_layRun_b2 {k2 : Int → q_Mem → q_Res} {l1 : Int} {r : Int × q_Mem} {m : q_Mem} {N : Nat} (hN : 126 ≤ N) (hk2 : ∀ (l1 : Int) (m : q_Mem), k2 l1 m = some r → q_E md_X11_layRun 7 N (none) r m 2 [q_A 81, q_I l1, q_N, q_N] []) (h : f_Mod_layRun_b2 k2 l1 m = some r) : q_E md_X11_layRun 7 N (none) r m 2 [q_A 81, q_I l1, q_N, q_N] [] := by
  unfold f_Mod_layRun_b2 at h
  refine q_iload_n (M := md_X11_layRun) (pc := 2) dX11_layRun_2 rfl ?_
  refine q_sipush (M := md_X11_layRun) (pc := 3) (x := 300) dX11_layRun_3 (by decide) ?_
  refine e_icmp_ge (M := md_X11_layRun) (pc := 6) (tgt := 22) h rfl (q_wlit rfl) dX11_layRun_6 (by decide) (fun h => ?_) (fun h => ?_)
  · refine q_iconst (M := md_X11_layRun) (pc := 22) dX11_layRun_22 ?_
    refine e_ist_n (M := md_X11_layRun) (pc := 23) (ls' := [q_A 81, q_I 0, q_N, q_N]) dX11_layRun_23 (by decide) (q_pl rfl) rfl ?_
    exact q_weak (w_Mod_layRun_l24 hN q_F _ _  h) ⟨Or.inr rfl, Or.inr rfl, Or.inl rfl, Or.inl rfl, trivial⟩
  · refine q_aload_n (M := md_X11_layRun) (pc := 9) dX11_layRun_9 rfl (by decide) ?_
    refine q_getP (M := md_X11_layRun) (pc := 10) (v := 111) fl_11_103 dX11_layRun_10 (is_81 hN) rfl ?_
    refine q_iload_n (M := md_X11_layRun) (pc := 13) dX11_layRun_13 rfl ?_
    refine q_iconst (M := md_X11_layRun) (pc := 14) dX11_layRun_14 ?_
    refine e_wr (M := md_X11_layRun) (pc := 15) h dX11_layRun_15 (ar_111 hN) (fun m1 h => ?_)
    refine e_inc (M := md_X11_layRun) (pc := 16) (x := l1) (ls' := [q_A 81, q_I (l1 + 1), q_N, q_N]) dX11_layRun_16 rfl (by decide) (q_pl rfl) rfl ?_
    refine q_goto (M := md_X11_layRun) (pc := 19) (tgt := 2) dX11_layRun_19 (by decide) ?_
    exact q_weak (hk2 _ _  h) ⟨Or.inr rfl, Or.inr rfl, Or.inl rfl, Or.inl rfl, trivial⟩
def f_Mod_layRun_l2 : Nat → Int → q_Mem → q_Res
  | 0 => fun _ _ => none
  | n + 1 => fun l1 m => f_Mod_layRun_b2 (f_Mod_layRun_l2 n) l1 m
theorem w_Mod_layRun_l2 {r : Int × q_Mem} {N : Nat} (hN : 126 ≤ N) : ∀ (n : Nat) (l1 : Int) (m : q_Mem), f_Mod_layRun_l2 n l1 m = some r → q_E md_X11_layRun 7 N (none) r m 2 [q_A 81, q_I l1, q_N, q_N] [] := by
  intro n
  induction n with
  | zero => intro l1 m h; exact q_no h
  | succ n ih =>
    intro l1 m h
    exact w_Mod_layRun_b2 hN (fun l1 m h => ih l1 m h) h
def f_Mod_layRun (m : q_Mem) : q_Res :=
  f_Mod_layRun_l2 q_F 0 m
set_option maxRecDepth 20000 in
theorem ok_X11_layRun {r : Int × q_Mem} {m : q_Mem} {N : Nat} (hN : 126 ≤ N) (h : f_Mod_layRun m = some r) : q_C md_X11_layRun (q_room 7) 0 0 [q_A 81] (q_g N) m (none, q_g N, r.2) := by
  refine q_ofR (by decide) 3 (ls := [q_A 81, q_N, q_N, q_N]) rfl (Nat.le_of_ble_eq_true rfl) ?_
  change q_E md_X11_layRun 7 N (none) r m 0 [q_A 81, q_N, q_N, q_N] []
  unfold f_Mod_layRun at h
  refine q_iconst (M := md_X11_layRun) (pc := 0) dX11_layRun_0 ?_
  refine e_ist_n (M := md_X11_layRun) (pc := 1) (ls' := [q_A 81, q_I 0, q_N, q_N]) dX11_layRun_1 (by decide) (q_pl rfl) rfl ?_
  exact q_weak (w_Mod_layRun_l2 hN q_F _ _  h) ⟨Or.inr rfl, Or.inr rfl, Or.inl rfl, Or.inl rfl, trivial⟩
