/-! THE CONSTRUCTORS: the class's own -/
theorem q_nf_le : ∀ k, k < 12 → q_nf k ≤ 71 := by decide +kernel
theorem q_ws_phi {b : Nat} {ad : Nat → Nat} {cs : Nat → ClassId} {m : q_Mem} {N : Nat} {phi phi' : Nat → Nat → Int} (h : ∀ c, c < N → ∀ j, j < 71 → phi c j = phi' c j) : q_ws b ad cs (N, q_lay, phi) m = q_ws b ad cs (N, q_lay, phi') m := by
  unfold q_ws
  refine List.map_congr_left fun c hc => ?_
  have hc' : c < N := List.mem_range.mp hc
  have : q_cell b ad cs (N, q_lay, phi) m c = q_cell b ad cs (N, q_lay, phi') m c := by
    unfold q_cell
    by_cases hk : ((N, q_lay, phi).2.1 c).1 < 12
    · rw [if_pos hk, if_pos (show ((N, q_lay, phi').2.1 c).1 < 12 from hk)]
      congr 2
      refine List.map_congr_left fun j hj => ?_
      have hj' : j < 71 := Nat.lt_of_lt_of_le (List.mem_range.mp hj) (q_nf_le _ hk)
      show q_cv b ad (if _ then (2, phi c j) else _) = q_cv b ad (if _ then (2, phi' c j) else _)
      rw [h c hc' j hj']
    · rw [if_neg hk, if_neg (show ¬ ((N, q_lay, phi').2.1 c).1 < 12 from hk)]
  rw [this]
theorem q_R_phi {M : q_M} {rm : Room} {mc ms : Nat} {y : Option q_V × q_G × q_Mem} {cu su : Nat} {m : q_Mem} {pc : Nat} {ls st : List q_V} {N : Nat} {phi phi' : Nat → Nat → Int} (h : ∀ c, c < N → ∀ j, j < 71 → phi c j = phi' c j) (kk : q_R M rm mc ms y cu su (N, q_lay, phi') m pc ls st) : q_R M rm mc ms y cu su (N, q_lay, phi) m pc ls st := by
  intro p l e s mi args below meth c H locs D cs b ad adV ar C hP hz hS hl
  refine kk p l e s mi args below meth c H locs D cs b ad adV ar C ?_ hz hS hl
  rw [← q_ws_phi h]
  exact hP
def xp_phi : Nat → Nat → Int := (q_pu (q_pu (q_pu (q_pu (q_pu (q_pu (q_pu (q_pu (q_pu (q_pu (q_pu (q_pu (q_pu (q_pu (q_pu (q_pu (q_pu (q_pu (q_pu (q_pu (q_pu (q_pu (q_pu (q_pu (q_pu (q_pu (q_pu (q_pu (q_pu (q_pu (q_pu (q_pu (q_pu (q_pu (q_pu (q_pu (q_pu (q_pu (q_pu (q_pu (q_pu (q_pu (q_pu (q_pu (q_pu (q_pu (q_pu (q_pu (q_pu (q_pu (q_pu (q_pu (q_pu (q_pu (q_pu (q_pu (fun _ _ => -1) 1 0 2) 0 0 1) 3 8 4) 3 9 5) 3 10 6) 3 11 7) 3 12 8) 3 13 9) 3 14 10) 3 15 11) 3 16 12) 3 17 13) 14 8 15) 14 9 16) 14 10 17) 14 11 18) 14 12 19) 14 13 20) 14 14 21) 14 15 22) 14 16 23) 14 17 24) 25 1 26) 25 2 27) 25 0 1) 0 3 25) 28 0 29) 0 4 28) 0 5 51) 0 6 52) 53 0 54) 53 1 55) 53 2 56) 53 3 57) 53 4 58) 53 5 59) 0 7 53) 60 0 61) 60 1 62) 60 2 63) 60 3 64) 60 4 65) 60 5 66) 60 6 67) 60 7 68) 0 8 60) 69 0 70) 69 1 71) 69 2 72) 0 9 69) 0 10 73) 0 11 74) 0 12 75) 0 13 76) 77 0 78) 0 14 77)
def xp_mem : q_Mem := (q_up (q_up (q_up (q_up (q_up (q_up (q_up (q_up (q_mH (q_up (q_up (q_up (q_mL 14 (q_up (q_mL 3 q_m0) 0 1 3)) 0 2 14) 25 5 (-1)) 25 3 14) 21) 69 3 (1)) 69 4 (1)) 69 5 (1)) 77 1 3) 77 2 54) 77 3 74) 51 (q_w 0) 79) 51 (q_w 1) 80)
theorem xp_ok : ∀ c, c < 81 → ∀ j, j < 71 → xp_phi c j = q_phi c j := by decide +kernel
set_option maxRecDepth 20000 in
set_option maxHeartbeats 4000000 in
theorem k_PG {r : Int × q_Mem} (h : f_PG_takeUp xp_mem = some r) : q_C md_X10_init (q_rmC 8 80 4368) 80 4368 [q_A 0] (1, q_lay, fun _ _ => -1) q_m0 (none, q_g 81, r.2) := by
  have hB : q_B 1 q_m0 := fun _ _ => rfl
  have hF : q_Fb 1 (fun _ _ => -1) := fun _ _ => rfl
  refine q_ofR (by decide) 1 (ls := [q_A 0, q_N]) rfl (Nat.le_of_ble_eq_true rfl) ?_
  refine q_aload_n (M := md_X10_init) (pc := 0) dX10_init_0 rfl (by decide) ?_
  refine q_obj (M := md_X10_init) (pc := 1) dX10_init_1 jl_10_3 jm_Obj jc_Obj (by decide) (Nat.le_of_ble_eq_true rfl) (Nat.le_of_ble_eq_true rfl) ?_
  refine q_aload_n (M := md_X10_init) (pc := 4) dX10_init_4 rfl (by decide) ?_
  refine q_newO (M := md_X10_init) (pc := 5) (N := 1) cl_7 kl_10_9 ins_7 in_7 dX10_init_5 (by decide +kernel) (hF 1 (Nat.le_refl _)) (hB 1 (Nat.le_refl _)) tk_7 (by decide) (by decide) ?_
  have hB1 := q_B_le (N' := 2) hB (by decide)
  have hF1 := q_Fb_le (N' := 2) hF (by decide)
  refine q_dup (M := md_X10_init) (pc := 8) dX10_init_8 (show (2 : Nat) ≠ 1 by decide) ?_
  refine q_callIN (M := md_X10_init) (pc := 9) (M' := md_X7_init) (rm' := (q_rmC 2 1 800)) (mc' := 1) (ms' := 800) (av := []) (r := 1) (v := none) nl_10_11 im_X7_init rfl rfl dX10_init_9 (k_Tape hB1 hF1) rfl (by decide) (Nat.le_of_ble_eq_true rfl) ⟨rfl, rfl, by decide, by decide, by decide, by decide⟩ ?_
  have hF2 := q_Fb_pu (r := 1) (j := 0) (v := 2) hF1 (by decide)
  have hB3 := q_B_le (N' := 3) hB1 (by decide)
  have hF3 := q_Fb_le (N' := 3) hF2 (by decide)
  refine q_putF (M := md_X10_init) (pc := 12) (r := 0) (x := 1) fl_10_12 ⟨_, _, rfl⟩ (Or.inl ⟨_, rfl⟩) rfl dX10_init_12 (q_isc (r := 0) (by decide) (by decide +kernel)) (by decide) ?_
  have hF4 := q_Fb_pu (r := 0) (j := 0) (v := 1) hF3 (by decide)
  refine q_aload_n (M := md_X10_init) (pc := 15) dX10_init_15 rfl (by decide) ?_
  refine q_newO (M := md_X10_init) (pc := 16) (N := 3) cl_2 kl_10_16 ins_2 in_2 dX10_init_16 (by decide +kernel) (hF4 3 (Nat.le_refl _)) (hB3 3 (Nat.le_refl _)) tk_2 (by decide) (by decide) ?_
  have hB5 := q_B_le (N' := 4) hB3 (by decide)
  have hF5 := q_Fb_le (N' := 4) hF4 (by decide)
  refine q_dup (M := md_X10_init) (pc := 19) dX10_init_19 (show (2 : Nat) ≠ 1 by decide) ?_
  refine q_callI (M := md_X10_init) (pc := 20) (M' := md_X2_init) (rm' := (q_rmC 3 10 313)) (mc' := 10) (ms' := 313) (av := []) (r := 3) (v := none) ml_10_18 im_X2_init rfl rfl dX10_init_20 (k_Loop3 hB5 hF5) rfl (by decide) (Nat.le_of_ble_eq_true rfl) ⟨rfl, rfl, by decide, by decide, by decide, by decide⟩ ?_
  have hB6 := q_B_mL (t := 3) (q_B_le (N' := 14) hB5 (by decide)) (by decide)
  have hF7 := q_Fb_pu (r := 3) (j := 8) (v := 4) hF5 (by decide)
  have hF8 := q_Fb_pu (r := 3) (j := 9) (v := 5) hF7 (by decide)
  have hF9 := q_Fb_pu (r := 3) (j := 10) (v := 6) hF8 (by decide)
  have hF10 := q_Fb_pu (r := 3) (j := 11) (v := 7) hF9 (by decide)
  have hF11 := q_Fb_pu (r := 3) (j := 12) (v := 8) hF10 (by decide)
  have hF12 := q_Fb_pu (r := 3) (j := 13) (v := 9) hF11 (by decide)
  have hF13 := q_Fb_pu (r := 3) (j := 14) (v := 10) hF12 (by decide)
  have hF14 := q_Fb_pu (r := 3) (j := 15) (v := 11) hF13 (by decide)
  have hF15 := q_Fb_pu (r := 3) (j := 16) (v := 12) hF14 (by decide)
  have hF16 := q_Fb_pu (r := 3) (j := 17) (v := 13) hF15 (by decide)
  have hB17 := q_B_le (N' := 14) hB6 (by decide)
  have hF17 := q_Fb_le (N' := 14) hF16 (by decide)
  refine q_putR (M := md_X10_init) (pc := 23) (r := 0) (x := 3) fl_10_19 (Or.inl ⟨_, rfl⟩) dX10_init_23 (q_isc (r := 0) (by decide) (by decide +kernel)) (by decide) ?_
  have hB18 := q_B_up (r := 0) (j := 1) (v := 3) hB17 (by decide)
  refine q_aload_n (M := md_X10_init) (pc := 26) dX10_init_26 rfl (by decide) ?_
  refine q_newO (M := md_X10_init) (pc := 27) (N := 14) cl_2 kl_10_16 ins_2 in_2 dX10_init_27 (by decide +kernel) (hF17 14 (Nat.le_refl _)) (hB18 14 (Nat.le_refl _)) tk_2 (by decide) (by decide) ?_
  have hB19 := q_B_le (N' := 15) hB18 (by decide)
  have hF19 := q_Fb_le (N' := 15) hF17 (by decide)
  refine q_dup (M := md_X10_init) (pc := 30) dX10_init_30 (show (2 : Nat) ≠ 1 by decide) ?_
  refine q_callI (M := md_X10_init) (pc := 31) (M' := md_X2_init) (rm' := (q_rmC 3 10 313)) (mc' := 10) (ms' := 313) (av := []) (r := 14) (v := none) ml_10_18 im_X2_init rfl rfl dX10_init_31 (k_Loop14 hB19 hF19) rfl (by decide) (Nat.le_of_ble_eq_true rfl) ⟨rfl, rfl, by decide, by decide, by decide, by decide⟩ ?_
  have hB20 := q_B_mL (t := 14) (q_B_le (N' := 25) hB19 (by decide)) (by decide)
  have hF21 := q_Fb_pu (r := 14) (j := 8) (v := 15) hF19 (by decide)
  have hF22 := q_Fb_pu (r := 14) (j := 9) (v := 16) hF21 (by decide)
  have hF23 := q_Fb_pu (r := 14) (j := 10) (v := 17) hF22 (by decide)
  have hF24 := q_Fb_pu (r := 14) (j := 11) (v := 18) hF23 (by decide)
  have hF25 := q_Fb_pu (r := 14) (j := 12) (v := 19) hF24 (by decide)
  have hF26 := q_Fb_pu (r := 14) (j := 13) (v := 20) hF25 (by decide)
  have hF27 := q_Fb_pu (r := 14) (j := 14) (v := 21) hF26 (by decide)
  have hF28 := q_Fb_pu (r := 14) (j := 15) (v := 22) hF27 (by decide)
  have hF29 := q_Fb_pu (r := 14) (j := 16) (v := 23) hF28 (by decide)
  have hF30 := q_Fb_pu (r := 14) (j := 17) (v := 24) hF29 (by decide)
  have hB31 := q_B_le (N' := 25) hB20 (by decide)
  have hF31 := q_Fb_le (N' := 25) hF30 (by decide)
  refine q_putR (M := md_X10_init) (pc := 34) (r := 0) (x := 14) fl_10_23 (Or.inl ⟨_, rfl⟩) dX10_init_34 (q_isc (r := 0) (by decide) (by decide +kernel)) (by decide) ?_
  have hB32 := q_B_up (r := 0) (j := 2) (v := 14) hB31 (by decide)
  refine q_aload_n (M := md_X10_init) (pc := 37) dX10_init_37 rfl (by decide) ?_
  refine q_newO (M := md_X10_init) (pc := 38) (N := 25) cl_3 kl_10_26 ins_3 in_3 dX10_init_38 (by decide +kernel) (hF31 25 (Nat.le_refl _)) (hB32 25 (Nat.le_refl _)) tk_3 (by decide) (by decide) ?_
  have hB33 := q_B_le (N' := 26) hB32 (by decide)
  have hF33 := q_Fb_le (N' := 26) hF31 (by decide)
  refine q_dup (M := md_X10_init) (pc := 41) dX10_init_41 (show (2 : Nat) ≠ 1 by decide) ?_
  refine q_aload_n (M := md_X10_init) (pc := 42) dX10_init_42 rfl (by decide) ?_
  refine q_getP (M := md_X10_init) (pc := 43) (r := 0) (v := 1) fl_10_12 dX10_init_43 (q_isc (r := 0) (by decide) (by decide +kernel)) rfl ?_
  refine q_aload_n (M := md_X10_init) (pc := 46) dX10_init_46 rfl (by decide) ?_
  refine q_getf (M := md_X10_init) (pc := 47) (r := 0) (v := q_A 14) fl_10_23 dX10_init_47 (q_isc (r := 0) (by decide) (by decide +kernel)) rfl ?_
  refine q_callI (M := md_X10_init) (pc := 50) (M' := md_X3_init) (rm' := (q_rmC 2 2 6)) (mc' := 2) (ms' := 6) (av := [q_A 1, q_A 14]) (r := 25) (v := none) ml_10_28 im_X3_init rfl rfl dX10_init_50 (k_Pars hB33 hF33) rfl (by decide) (Nat.le_of_ble_eq_true rfl) ⟨rfl, rfl, by decide, by decide, by decide, by decide⟩ ?_
  have hB34 := q_B_up (r := 25) (j := 5) (v := (-1)) hB33 (by decide)
  have hB35 := q_B_up (r := 25) (j := 3) (v := 14) hB34 (by decide)
  have hF36 := q_Fb_pu (r := 25) (j := 1) (v := 26) hF33 (by decide)
  have hF37 := q_Fb_pu (r := 25) (j := 2) (v := 27) hF36 (by decide)
  have hF38 := q_Fb_pu (r := 25) (j := 0) (v := 1) hF37 (by decide)
  have hB39 := q_B_le (N' := 28) hB35 (by decide)
  have hF39 := q_Fb_le (N' := 28) hF38 (by decide)
  refine q_putF (M := md_X10_init) (pc := 53) (r := 0) (x := 25) fl_10_31 ⟨_, _, rfl⟩ (Or.inl ⟨_, rfl⟩) rfl dX10_init_53 (q_isc (r := 0) (by decide) (by decide +kernel)) (by decide) ?_
  have hF40 := q_Fb_pu (r := 0) (j := 3) (v := 25) hF39 (by decide)
  refine q_aload_n (M := md_X10_init) (pc := 56) dX10_init_56 rfl (by decide) ?_
  refine q_newO (M := md_X10_init) (pc := 57) (N := 28) cl_0 kl_10_35 ins_0 in_0 dX10_init_57 (by decide +kernel) (hF40 28 (Nat.le_refl _)) (hB39 28 (Nat.le_refl _)) tk_0 (by decide) (by decide) ?_
  have hB41 := q_B_le (N' := 29) hB39 (by decide)
  have hF41 := q_Fb_le (N' := 29) hF40 (by decide)
  refine q_dup (M := md_X10_init) (pc := 60) dX10_init_60 (show (2 : Nat) ≠ 1 by decide) ?_
  refine q_callI (M := md_X10_init) (pc := 61) (M' := md_X0_init) (rm' := (q_rmC 2 22 147)) (mc' := 22) (ms' := 147) (av := []) (r := 28) (v := none) ml_10_37 im_X0_init rfl rfl dX10_init_61 (k_Hist hB41 hF41) rfl (by decide) (Nat.le_of_ble_eq_true rfl) ⟨rfl, rfl, by decide, by decide, by decide, by decide⟩ ?_
  have hB42 := q_B_mH (i := 21) (q_B_le (N' := 30) hB41 (by decide)) (by decide)
  have hF43 := q_Fb_pu (r := 28) (j := 0) (v := 29) hF41 (by decide)
  have hB44 := q_B_le (N' := 51) hB42 (by decide)
  have hF44 := q_Fb_le (N' := 51) hF43 (by decide)
  refine q_putF (M := md_X10_init) (pc := 64) (r := 0) (x := 28) fl_10_38 ⟨_, _, rfl⟩ (Or.inl ⟨_, rfl⟩) rfl dX10_init_64 (q_isc (r := 0) (by decide) (by decide +kernel)) (by decide) ?_
  have hF45 := q_Fb_pu (r := 0) (j := 4) (v := 28) hF44 (by decide)
  refine q_aload_n (M := md_X10_init) (pc := 67) dX10_init_67 rfl (by decide) ?_
  refine q_iconst (M := md_X10_init) (pc := 68) dX10_init_68 ?_
  refine q_newQ (M := md_X10_init) (pc := 69) (N := 51) (n := 2) kl_10_42 dX10_init_69 (by decide +kernel) (q_wlit rfl) (by decide) (hB44 51 (Nat.le_refl _)) (by decide) (by decide) ?_
  have hB46 := q_B_le (N' := 52) hB44 (by decide)
  have hF46 := q_Fb_le (N' := 52) hF45 (by decide)
  refine q_putF (M := md_X10_init) (pc := 72) (r := 0) (x := 51) fl_10_44 ⟨_, _, rfl⟩ (Or.inr ⟨_, rfl⟩) rfl dX10_init_72 (q_isc (r := 0) (by decide) (by decide +kernel)) (by decide) ?_
  have hF47 := q_Fb_pu (r := 0) (j := 5) (v := 51) hF46 (by decide)
  refine q_aload_n (M := md_X10_init) (pc := 75) dX10_init_75 rfl (by decide) ?_
  refine q_iconst (M := md_X10_init) (pc := 76) dX10_init_76 ?_
  refine q_newA (M := md_X10_init) (pc := 77) (N := 52) (k := 2) (n := 2) (atype := .boolean) rfl (Or.inr (Or.inr ⟨rfl, rfl⟩)) ac_boolean dX10_init_77 (by decide +kernel) (q_wlit rfl) (by decide) (hB46 52 (Nat.le_refl _)) (by decide) (by decide) ?_
  have hB48 := q_B_le (N' := 53) hB46 (by decide)
  have hF48 := q_Fb_le (N' := 53) hF47 (by decide)
  refine q_putF (M := md_X10_init) (pc := 79) (r := 0) (x := 52) fl_10_48 ⟨_, _, rfl⟩ (Or.inr ⟨_, rfl⟩) rfl dX10_init_79 (q_isc (r := 0) (by decide) (by decide +kernel)) (by decide) ?_
  have hF49 := q_Fb_pu (r := 0) (j := 6) (v := 52) hF48 (by decide)
  refine q_aload_n (M := md_X10_init) (pc := 82) dX10_init_82 rfl (by decide) ?_
  refine q_newO (M := md_X10_init) (pc := 83) (N := 53) cl_9 kl_10_52 ins_9 in_9 dX10_init_83 (by decide +kernel) (hF49 53 (Nat.le_refl _)) (hB48 53 (Nat.le_refl _)) tk_9 (by decide) (by decide) ?_
  have hB50 := q_B_le (N' := 54) hB48 (by decide)
  have hF50 := q_Fb_le (N' := 54) hF49 (by decide)
  refine q_dup (M := md_X10_init) (pc := 86) dX10_init_86 (show (2 : Nat) ≠ 1 by decide) ?_
  refine q_callIN (M := md_X10_init) (pc := 87) (M' := md_X9_init) (rm' := (q_rmC 2 6 600)) (mc' := 6) (ms' := 600) (av := []) (r := 53) (v := none) nl_10_54 im_X9_init rfl rfl dX10_init_87 (k_Web hB50 hF50) rfl (by decide) (Nat.le_of_ble_eq_true rfl) ⟨rfl, rfl, by decide, by decide, by decide, by decide⟩ ?_
  have hF51 := q_Fb_pu (r := 53) (j := 0) (v := 54) hF50 (by decide)
  have hF52 := q_Fb_pu (r := 53) (j := 1) (v := 55) hF51 (by decide)
  have hF53 := q_Fb_pu (r := 53) (j := 2) (v := 56) hF52 (by decide)
  have hF54 := q_Fb_pu (r := 53) (j := 3) (v := 57) hF53 (by decide)
  have hF55 := q_Fb_pu (r := 53) (j := 4) (v := 58) hF54 (by decide)
  have hF56 := q_Fb_pu (r := 53) (j := 5) (v := 59) hF55 (by decide)
  have hB57 := q_B_le (N' := 60) hB50 (by decide)
  have hF57 := q_Fb_le (N' := 60) hF56 (by decide)
  refine q_putF (M := md_X10_init) (pc := 90) (r := 0) (x := 53) fl_10_55 ⟨_, _, rfl⟩ (Or.inl ⟨_, rfl⟩) rfl dX10_init_90 (q_isc (r := 0) (by decide) (by decide +kernel)) (by decide) ?_
  have hF58 := q_Fb_pu (r := 0) (j := 7) (v := 53) hF57 (by decide)
  refine q_aload_n (M := md_X10_init) (pc := 93) dX10_init_93 rfl (by decide) ?_
  refine q_newO (M := md_X10_init) (pc := 94) (N := 60) cl_4 kl_10_59 ins_4 in_4 dX10_init_94 (by decide +kernel) (hF58 60 (Nat.le_refl _)) (hB57 60 (Nat.le_refl _)) tk_4 (by decide) (by decide) ?_
  have hB59 := q_B_le (N' := 61) hB57 (by decide)
  have hF59 := q_Fb_le (N' := 61) hF58 (by decide)
  refine q_dup (M := md_X10_init) (pc := 97) dX10_init_97 (show (2 : Nat) ≠ 1 by decide) ?_
  refine q_callIN (M := md_X10_init) (pc := 98) (M' := md_X4_init) (rm' := (q_rmC 2 8 793)) (mc' := 8) (ms' := 793) (av := []) (r := 60) (v := none) nl_10_61 im_X4_init rfl rfl dX10_init_98 (k_Plac hB59 hF59) rfl (by decide) (Nat.le_of_ble_eq_true rfl) ⟨rfl, rfl, by decide, by decide, by decide, by decide⟩ ?_
  have hF60 := q_Fb_pu (r := 60) (j := 0) (v := 61) hF59 (by decide)
  have hF61 := q_Fb_pu (r := 60) (j := 1) (v := 62) hF60 (by decide)
  have hF62 := q_Fb_pu (r := 60) (j := 2) (v := 63) hF61 (by decide)
  have hF63 := q_Fb_pu (r := 60) (j := 3) (v := 64) hF62 (by decide)
  have hF64 := q_Fb_pu (r := 60) (j := 4) (v := 65) hF63 (by decide)
  have hF65 := q_Fb_pu (r := 60) (j := 5) (v := 66) hF64 (by decide)
  have hF66 := q_Fb_pu (r := 60) (j := 6) (v := 67) hF65 (by decide)
  have hF67 := q_Fb_pu (r := 60) (j := 7) (v := 68) hF66 (by decide)
  have hB68 := q_B_le (N' := 69) hB59 (by decide)
  have hF68 := q_Fb_le (N' := 69) hF67 (by decide)
  refine q_putF (M := md_X10_init) (pc := 101) (r := 0) (x := 60) fl_10_62 ⟨_, _, rfl⟩ (Or.inl ⟨_, rfl⟩) rfl dX10_init_101 (q_isc (r := 0) (by decide) (by decide +kernel)) (by decide) ?_
  have hF69 := q_Fb_pu (r := 0) (j := 8) (v := 60) hF68 (by decide)
  refine q_aload_n (M := md_X10_init) (pc := 104) dX10_init_104 rfl (by decide) ?_
  refine q_newO (M := md_X10_init) (pc := 105) (N := 69) cl_8 kl_10_66 ins_8 in_8 dX10_init_105 (by decide +kernel) (hF69 69 (Nat.le_refl _)) (hB68 69 (Nat.le_refl _)) tk_8 (by decide) (by decide) ?_
  have hB70 := q_B_le (N' := 70) hB68 (by decide)
  have hF70 := q_Fb_le (N' := 70) hF69 (by decide)
  refine q_dup (M := md_X10_init) (pc := 108) dX10_init_108 (show (2 : Nat) ≠ 1 by decide) ?_
  refine q_callIN (M := md_X10_init) (pc := 109) (M' := md_X8_init) (rm' := (q_rmC 2 3 300)) (mc' := 3) (ms' := 300) (av := []) (r := 69) (v := none) nl_10_68 im_X8_init rfl rfl dX10_init_109 (k_Tile hB70 hF70) rfl (by decide) (Nat.le_of_ble_eq_true rfl) ⟨rfl, rfl, by decide, by decide, by decide, by decide⟩ ?_
  have hB71 := q_B_up (r := 69) (j := 3) (v := (1)) hB70 (by decide)
  have hB72 := q_B_up (r := 69) (j := 4) (v := (1)) hB71 (by decide)
  have hB73 := q_B_up (r := 69) (j := 5) (v := (1)) hB72 (by decide)
  have hF74 := q_Fb_pu (r := 69) (j := 0) (v := 70) hF70 (by decide)
  have hF75 := q_Fb_pu (r := 69) (j := 1) (v := 71) hF74 (by decide)
  have hF76 := q_Fb_pu (r := 69) (j := 2) (v := 72) hF75 (by decide)
  have hB77 := q_B_le (N' := 73) hB73 (by decide)
  have hF77 := q_Fb_le (N' := 73) hF76 (by decide)
  refine q_putF (M := md_X10_init) (pc := 112) (r := 0) (x := 69) fl_10_69 ⟨_, _, rfl⟩ (Or.inl ⟨_, rfl⟩) rfl dX10_init_112 (q_isc (r := 0) (by decide) (by decide +kernel)) (by decide) ?_
  have hF78 := q_Fb_pu (r := 0) (j := 9) (v := 69) hF77 (by decide)
  refine q_aload_n (M := md_X10_init) (pc := 115) dX10_init_115 rfl (by decide) ?_
  refine q_newO (M := md_X10_init) (pc := 116) (N := 73) cl_6 kl_10_73 ins_6 in_6 dX10_init_116 (by decide +kernel) (hF78 73 (Nat.le_refl _)) (hB77 73 (Nat.le_refl _)) tk_6 (by decide) (by decide) ?_
  have hB79 := q_B_le (N' := 74) hB77 (by decide)
  have hF79 := q_Fb_le (N' := 74) hF78 (by decide)
  refine q_dup (M := md_X10_init) (pc := 119) dX10_init_119 (show (2 : Nat) ≠ 1 by decide) ?_
  refine q_callIN (M := md_X10_init) (pc := 120) (M' := md_X6_init) (rm' := (q_rmC 2 0 0)) (mc' := 0) (ms' := 0) (av := []) (r := 73) (v := none) nl_10_75 im_X6_init rfl rfl dX10_init_120 (k_Sear hB79 hF79) rfl (by decide) (Nat.le_of_ble_eq_true rfl) ⟨rfl, rfl, by decide, by decide, by decide, by decide⟩ ?_
  refine q_putF (M := md_X10_init) (pc := 123) (r := 0) (x := 73) fl_10_76 ⟨_, _, rfl⟩ (Or.inl ⟨_, rfl⟩) rfl dX10_init_123 (q_isc (r := 0) (by decide) (by decide +kernel)) (by decide) ?_
  have hF80 := q_Fb_pu (r := 0) (j := 10) (v := 73) hF79 (by decide)
  refine q_aload_n (M := md_X10_init) (pc := 126) dX10_init_126 rfl (by decide) ?_
  refine q_sipush (M := md_X10_init) (pc := 127) (x := 300) dX10_init_127 (by decide) ?_
  refine q_newA (M := md_X10_init) (pc := 130) (N := 74) (k := 0) (n := 300) (atype := .int) rfl (Or.inl ⟨rfl, rfl⟩) ac_int dX10_init_130 (by decide +kernel) (q_wlit rfl) (by decide) (hB79 74 (Nat.le_refl _)) (by decide) (by decide) ?_
  have hB81 := q_B_le (N' := 75) hB79 (by decide)
  have hF81 := q_Fb_le (N' := 75) hF80 (by decide)
  refine q_putF (M := md_X10_init) (pc := 132) (r := 0) (x := 74) fl_10_80 ⟨_, _, rfl⟩ (Or.inr ⟨_, rfl⟩) rfl dX10_init_132 (q_isc (r := 0) (by decide) (by decide +kernel)) (by decide) ?_
  have hF82 := q_Fb_pu (r := 0) (j := 11) (v := 74) hF81 (by decide)
  refine q_aload_n (M := md_X10_init) (pc := 135) dX10_init_135 rfl (by decide) ?_
  refine q_sipush (M := md_X10_init) (pc := 136) (x := 300) dX10_init_136 (by decide) ?_
  refine q_newA (M := md_X10_init) (pc := 139) (N := 75) (k := 0) (n := 300) (atype := .int) rfl (Or.inl ⟨rfl, rfl⟩) ac_int dX10_init_139 (by decide +kernel) (q_wlit rfl) (by decide) (hB81 75 (Nat.le_refl _)) (by decide) (by decide) ?_
  have hB83 := q_B_le (N' := 76) hB81 (by decide)
  have hF83 := q_Fb_le (N' := 76) hF82 (by decide)
  refine q_putF (M := md_X10_init) (pc := 141) (r := 0) (x := 75) fl_10_84 ⟨_, _, rfl⟩ (Or.inr ⟨_, rfl⟩) rfl dX10_init_141 (q_isc (r := 0) (by decide) (by decide +kernel)) (by decide) ?_
  have hF84 := q_Fb_pu (r := 0) (j := 12) (v := 75) hF83 (by decide)
  refine q_aload_n (M := md_X10_init) (pc := 144) dX10_init_144 rfl (by decide) ?_
  refine q_sipush (M := md_X10_init) (pc := 145) (x := 300) dX10_init_145 (by decide) ?_
  refine q_newA (M := md_X10_init) (pc := 148) (N := 76) (k := 0) (n := 300) (atype := .int) rfl (Or.inl ⟨rfl, rfl⟩) ac_int dX10_init_148 (by decide +kernel) (q_wlit rfl) (by decide) (hB83 76 (Nat.le_refl _)) (by decide) (by decide) ?_
  have hB85 := q_B_le (N' := 77) hB83 (by decide)
  have hF85 := q_Fb_le (N' := 77) hF84 (by decide)
  refine q_putF (M := md_X10_init) (pc := 150) (r := 0) (x := 76) fl_10_87 ⟨_, _, rfl⟩ (Or.inr ⟨_, rfl⟩) rfl dX10_init_150 (q_isc (r := 0) (by decide) (by decide +kernel)) (by decide) ?_
  have hF86 := q_Fb_pu (r := 0) (j := 13) (v := 76) hF85 (by decide)
  refine q_aload_n (M := md_X10_init) (pc := 153) dX10_init_153 rfl (by decide) ?_
  refine q_newO (M := md_X10_init) (pc := 154) (N := 77) cl_5 kl_10_90 ins_5 in_5 dX10_init_154 (by decide +kernel) (hF86 77 (Nat.le_refl _)) (hB85 77 (Nat.le_refl _)) tk_5 (by decide) (by decide) ?_
  have hB87 := q_B_le (N' := 78) hB85 (by decide)
  have hF87 := q_Fb_le (N' := 78) hF86 (by decide)
  refine q_dup (M := md_X10_init) (pc := 157) dX10_init_157 (show (2 : Nat) ≠ 1 by decide) ?_
  refine q_aload_n (M := md_X10_init) (pc := 158) dX10_init_158 rfl (by decide) ?_
  refine q_getf (M := md_X10_init) (pc := 159) (r := 0) (v := q_A 3) fl_10_19 dX10_init_159 (q_isc (r := 0) (by decide) (by decide +kernel)) rfl ?_
  refine q_aload_n (M := md_X10_init) (pc := 162) dX10_init_162 rfl (by decide) ?_
  refine q_getP (M := md_X10_init) (pc := 163) (r := 0) (v := 53) fl_10_55 dX10_init_163 (q_isc (r := 0) (by decide) (by decide +kernel)) rfl ?_
  refine q_getP (M := md_X10_init) (pc := 166) (r := 53) (v := 54) fl_10_92 dX10_init_166 (q_isc (r := 53) (by decide) (by decide +kernel)) rfl ?_
  refine q_aload_n (M := md_X10_init) (pc := 169) dX10_init_169 rfl (by decide) ?_
  refine q_getP (M := md_X10_init) (pc := 170) (r := 0) (v := 74) fl_10_80 dX10_init_170 (q_isc (r := 0) (by decide) (by decide +kernel)) rfl ?_
  refine q_callI (M := md_X10_init) (pc := 173) (M' := md_X5_init) (rm' := (q_rmC 2 1 80)) (mc' := 1) (ms' := 80) (av := [q_A 3, q_A 54, q_A 74]) (r := 77) (v := none) ml_10_95 im_X5_init rfl rfl dX10_init_173 (k_Reck hB87 hF87) rfl (by decide) (Nat.le_of_ble_eq_true rfl) ⟨rfl, rfl, by decide, by decide, by decide, by decide⟩ ?_
  have hB88 := q_B_up (r := 77) (j := 1) (v := 3) hB87 (by decide)
  have hB89 := q_B_up (r := 77) (j := 2) (v := 54) hB88 (by decide)
  have hB90 := q_B_up (r := 77) (j := 3) (v := 74) hB89 (by decide)
  have hF91 := q_Fb_pu (r := 77) (j := 0) (v := 78) hF87 (by decide)
  have hB92 := q_B_le (N' := 79) hB90 (by decide)
  have hF92 := q_Fb_le (N' := 79) hF91 (by decide)
  refine q_putF (M := md_X10_init) (pc := 176) (r := 0) (x := 77) fl_10_98 ⟨_, _, rfl⟩ (Or.inl ⟨_, rfl⟩) rfl dX10_init_176 (q_isc (r := 0) (by decide) (by decide +kernel)) (by decide) ?_
  have hF93 := q_Fb_pu (r := 0) (j := 14) (v := 77) hF92 (by decide)
  refine q_iconst (M := md_X10_init) (pc := 179) dX10_init_179 ?_
  refine q_istore_n (M := md_X10_init) (pc := 180) dX10_init_180 (by decide) (q_pl rfl) ?_
  refine q_iload_n (M := md_X10_init) (pc := 181) dX10_init_181 rfl ?_
  refine q_iconst (M := md_X10_init) (pc := 182) dX10_init_182 ?_
  refine q_icmp_ge (M := md_X10_init) (pc := 183) (tgt := 205) dX10_init_183 (by decide) (fun h => absurd h (by decide)) (fun _ => ?_)
  refine q_aload_n (M := md_X10_init) (pc := 186) dX10_init_186 rfl (by decide) ?_
  refine q_getP (M := md_X10_init) (pc := 187) (r := 0) (v := 51) fl_10_44 dX10_init_187 (q_isc (r := 0) (by decide) (by decide +kernel)) rfl ?_
  refine q_iload_n (M := md_X10_init) (pc := 190) dX10_init_190 rfl ?_
  refine q_newO (M := md_X10_init) (pc := 191) (N := 79) cl_1 kl_10_42 ins_1 in_1 dX10_init_191 (by decide +kernel) (hF93 79 (Nat.le_refl _)) (hB92 79 (Nat.le_refl _)) tk_1 (by decide) (by decide) ?_
  have hB94 := q_B_le (N' := 80) hB92 (by decide)
  have hF94 := q_Fb_le (N' := 80) hF93 (by decide)
  refine q_dup (M := md_X10_init) (pc := 194) dX10_init_194 (show (2 : Nat) ≠ 1 by decide) ?_
  refine q_callIN (M := md_X10_init) (pc := 195) (M' := md_X1_init) (rm' := q_rmC 1 0 0) (mc' := 0) (ms' := 0) (av := []) (r := 79) (v := none) nl_10_102 im_X1_init rfl rfl dX10_init_195 (k_Lay (by decide)) rfl (by decide) (Nat.le_of_ble_eq_true rfl) ⟨rfl, rfl, by decide, by decide, by decide, by decide⟩ ?_
  refine q_aast (M := md_X10_init) (pc := 198) (n := 2) (r := 51) (x := 0) (z := 79) dX10_init_198 (q_arc (by decide) (by decide +kernel)) (by decide) (by decide) (q_isc (r := 79) (by decide) (by decide +kernel)) ?_
  have hB95 := q_B_up (r := 51) (j := q_w 0) (v := 79) hB94 (by decide)
  refine q_iinc (M := md_X10_init) (pc := 199) (x := 0) dX10_init_199 rfl (by decide) (q_pl rfl) ?_
  refine q_goto (M := md_X10_init) (pc := 202) (tgt := 181) dX10_init_202 (by decide) ?_
  refine q_iload_n (M := md_X10_init) (pc := 181) dX10_init_181 rfl ?_
  refine q_iconst (M := md_X10_init) (pc := 182) dX10_init_182 ?_
  refine q_icmp_ge (M := md_X10_init) (pc := 183) (tgt := 205) dX10_init_183 (by decide) (fun h => absurd h (by decide)) (fun _ => ?_)
  refine q_aload_n (M := md_X10_init) (pc := 186) dX10_init_186 rfl (by decide) ?_
  refine q_getP (M := md_X10_init) (pc := 187) (r := 0) (v := 51) fl_10_44 dX10_init_187 (q_isc (r := 0) (by decide) (by decide +kernel)) rfl ?_
  refine q_iload_n (M := md_X10_init) (pc := 190) dX10_init_190 rfl ?_
  refine q_newO (M := md_X10_init) (pc := 191) (N := 80) cl_1 kl_10_42 ins_1 in_1 dX10_init_191 (by decide +kernel) (hF94 80 (Nat.le_refl _)) (hB95 80 (Nat.le_refl _)) tk_1 (by decide) (by decide) ?_
  have hB96 := q_B_le (N' := 81) hB95 (by decide)
  have hF96 := q_Fb_le (N' := 81) hF94 (by decide)
  refine q_dup (M := md_X10_init) (pc := 194) dX10_init_194 (show (2 : Nat) ≠ 1 by decide) ?_
  refine q_callIN (M := md_X10_init) (pc := 195) (M' := md_X1_init) (rm' := q_rmC 1 0 0) (mc' := 0) (ms' := 0) (av := []) (r := 80) (v := none) nl_10_102 im_X1_init rfl rfl dX10_init_195 (k_Lay (by decide)) rfl (by decide) (Nat.le_of_ble_eq_true rfl) ⟨rfl, rfl, by decide, by decide, by decide, by decide⟩ ?_
  refine q_aast (M := md_X10_init) (pc := 198) (n := 2) (r := 51) (x := 1) (z := 80) dX10_init_198 (q_arc (by decide) (by decide +kernel)) (by decide) (by decide) (q_isc (r := 80) (by decide) (by decide +kernel)) ?_
  have hB97 := q_B_up (r := 51) (j := q_w 1) (v := 80) hB96 (by decide)
  refine q_iinc (M := md_X10_init) (pc := 199) (x := 1) dX10_init_199 rfl (by decide) (q_pl rfl) ?_
  refine q_goto (M := md_X10_init) (pc := 202) (tgt := 181) dX10_init_202 (by decide) ?_
  refine q_iload_n (M := md_X10_init) (pc := 181) dX10_init_181 rfl ?_
  refine q_iconst (M := md_X10_init) (pc := 182) dX10_init_182 ?_
  refine q_icmp_ge (M := md_X10_init) (pc := 183) (tgt := 205) dX10_init_183 (by decide) (fun _ => ?_) (fun h => absurd (by decide) h)
  refine q_aload_n (M := md_X10_init) (pc := 205) dX10_init_205 rfl (by decide) ?_
  refine q_R_phi (phi' := q_phi) xp_ok ?_
  refine q_callV (M := md_X10_init) (pc := 206) (M' := md_X10_takeUp) (rm' := q_room 6) (mc' := 0) (ms' := 0) (k := 10) (av := []) (r := 0) (v := none) (m' := r.2) (g' := q_g 81) ml_10_103 im_X10_takeUp se_X10_takeUp dX10_init_206 (ok_X10_takeUp (by decide) h) rfl (q_isc (r := 0) (by decide) (by decide +kernel)) ⟨_, _, rfl⟩ (by decide) (Nat.le_of_ble_eq_true rfl) ⟨rfl, rfl, by decide, by decide, by decide, by decide⟩ ?_
  exact q_vret (M := md_X10_init) (pc := 209) rfl dX10_init_209 rfl (Nat.le_refl _) (Nat.le_refl _)
