/-! THE CONSTRUCTORS: the model's own -/
def mp_phi (phi : Nat → Nat → Int) : Nat → Nat → Int := (q_pu (q_pu (q_pu (q_pu (q_pu (q_pu (q_pu (q_pu (q_pu (q_pu (q_pu (q_pu (q_pu (q_pu (q_pu (q_pu (q_pu (q_pu (q_pu (q_pu (q_pu (q_pu (q_pu (q_pu (q_pu (q_pu (q_pu (q_pu (q_pu (q_pu (q_pu (q_pu (q_pu (q_pu (q_pu (q_pu (q_pu (q_pu (q_pu (q_pu (q_pu (q_pu (q_pu (q_pu phi 81 0 82) 81 1 83) 81 2 84) 81 3 85) 81 4 86) 81 5 87) 81 6 88) 81 7 89) 81 8 90) 81 9 91) 81 10 92) 81 11 93) 81 12 94) 81 13 95) 81 14 96) 81 15 97) 81 16 98) 81 17 99) 81 18 100) 81 20 101) 81 32 102) 81 33 103) 81 34 104) 81 37 105) 81 40 106) 81 41 107) 81 42 108) 81 43 109) 81 44 110) 81 45 111) 81 46 112) 81 47 113) 81 48 114) 81 49 115) 81 50 116) 81 51 117) 81 52 118) 81 56 119) 81 63 120) 81 64 121) 81 65 122) 81 66 123) 81 67 124) 81 68 125)
def mp_mem (m : q_Mem) : q_Mem := (q_up (q_up (q_up (q_up (q_up (q_up (q_up (q_up (q_up (q_up (q_up (q_up (q_up (q_up (q_up (q_up (q_up (q_up (q_up (q_up (q_up (q_up (q_up (q_up (q_up (q_up (q_up (q_up (q_up m 81 31 (-1)) 102 (q_w 0) (q_i2b 115)) 102 (q_w 1) (q_i2b 105)) 102 (q_w 2) (q_i2b 122)) 102 (q_w 3) (q_i2b 101)) 102 (q_w 4) (q_i2b 32)) 102 (q_w 5) (q_i2b 108)) 102 (q_w 6) (q_i2b 101)) 102 (q_w 7) (q_i2b 116)) 102 (q_w 8) (q_i2b 32)) 102 (q_w 9) (q_i2b 102)) 102 (q_w 10) (q_i2b 105)) 102 (q_w 11) (q_i2b 114)) 102 (q_w 12) (q_i2b 101)) 102 (q_w 13) (q_i2b 32)) 102 (q_w 14) (q_i2b 111)) 102 (q_w 15) (q_i2b 110)) 102 (q_w 16) (q_i2b 116)) 102 (q_w 17) (q_i2b 111)) 102 (q_w 18) (q_i2b 32)) 102 (q_w 19) (q_i2b 101)) 102 (q_w 20) (q_i2b 100)) 102 (q_w 21) (q_i2b 103)) 102 (q_w 22) (q_i2b 101)) 102 (q_w 23) (q_i2b 32)) 102 (q_w 24) (q_i2b 105)) 102 (q_w 25) (q_i2b 32)) 102 (q_w 26) (q_i2b 106)) 102 (q_w 27) (q_i2b 32))
def xq_phi : Nat → Nat → Int := fun c j => if c < 81 then q_phi c j else -1
theorem mp_ok : ∀ c, c < 126 → ∀ j, j < 71 → mp_phi xq_phi c j = q_phi c j := by decide +kernel
set_option maxRecDepth 20000 in
set_option maxHeartbeats 4000000 in
theorem k_Mod {m : q_Mem} {r1 r2 : Int × q_Mem} (hB : q_B 82 m) (h1 : f_Mod_clearBank 0 (mp_mem m) = some r1) (h2 : f_Mod_startAnew r1.2 = some r2) : q_C md_X11_init (q_rmC 8 44 14986) 44 14986 [q_A 81] (82, q_lay, xq_phi) m (none, q_g 126, r2.2) := by
  have hF : q_Fb 82 xq_phi := fun c hc => by
    funext j
    exact if_neg (by omega)
  refine q_ofR (by decide) 0 (ls := [q_A 81]) rfl (Nat.le_of_ble_eq_true rfl) ?_
  refine q_aload_n (M := md_X11_init) (pc := 0) dX11_init_0 rfl (by decide) ?_
  refine q_obj (M := md_X11_init) (pc := 1) dX11_init_1 jl_11_1 jm_Obj jc_Obj (by decide) (Nat.le_of_ble_eq_true rfl) (Nat.le_of_ble_eq_true rfl) ?_
  refine q_aload_n (M := md_X11_init) (pc := 4) dX11_init_4 rfl (by decide) ?_
  refine q_iconst (M := md_X11_init) (pc := 5) dX11_init_5 ?_
  refine q_newA (M := md_X11_init) (pc := 6) (N := 82) (k := 0) (n := 2) (atype := .int) rfl (Or.inl ⟨rfl, rfl⟩) ac_int dX11_init_6 (by decide +kernel) (q_wlit rfl) (by decide) (hB 82 (Nat.le_refl _)) (by decide) (by decide) ?_
  have hB1 := q_B_le (N' := 83) hB (by decide)
  have hF1 := q_Fb_le (N' := 83) hF (by decide)
  refine q_putF (M := md_X11_init) (pc := 8) (r := 81) (x := 82) fl_11_7 ⟨_, _, rfl⟩ (Or.inr ⟨_, rfl⟩) rfl dX11_init_8 (q_isc (r := 81) (by decide) (by decide +kernel)) (by decide) ?_
  have hF2 := q_Fb_pu (r := 81) (j := 0) (v := 82) hF1 (by decide)
  refine q_aload_n (M := md_X11_init) (pc := 11) dX11_init_11 rfl (by decide) ?_
  refine q_iconst (M := md_X11_init) (pc := 12) dX11_init_12 ?_
  refine q_newA (M := md_X11_init) (pc := 13) (N := 83) (k := 0) (n := 2) (atype := .int) rfl (Or.inl ⟨rfl, rfl⟩) ac_int dX11_init_13 (by decide +kernel) (q_wlit rfl) (by decide) (hB1 83 (Nat.le_refl _)) (by decide) (by decide) ?_
  have hB3 := q_B_le (N' := 84) hB1 (by decide)
  have hF3 := q_Fb_le (N' := 84) hF2 (by decide)
  refine q_putF (M := md_X11_init) (pc := 15) (r := 81) (x := 83) fl_11_13 ⟨_, _, rfl⟩ (Or.inr ⟨_, rfl⟩) rfl dX11_init_15 (q_isc (r := 81) (by decide) (by decide +kernel)) (by decide) ?_
  have hF4 := q_Fb_pu (r := 81) (j := 1) (v := 83) hF3 (by decide)
  refine q_aload_n (M := md_X11_init) (pc := 18) dX11_init_18 rfl (by decide) ?_
  refine q_iconst (M := md_X11_init) (pc := 19) dX11_init_19 ?_
  refine q_newA (M := md_X11_init) (pc := 20) (N := 84) (k := 0) (n := 2) (atype := .int) rfl (Or.inl ⟨rfl, rfl⟩) ac_int dX11_init_20 (by decide +kernel) (q_wlit rfl) (by decide) (hB3 84 (Nat.le_refl _)) (by decide) (by decide) ?_
  have hB5 := q_B_le (N' := 85) hB3 (by decide)
  have hF5 := q_Fb_le (N' := 85) hF4 (by decide)
  refine q_putF (M := md_X11_init) (pc := 22) (r := 81) (x := 84) fl_11_16 ⟨_, _, rfl⟩ (Or.inr ⟨_, rfl⟩) rfl dX11_init_22 (q_isc (r := 81) (by decide) (by decide +kernel)) (by decide) ?_
  have hF6 := q_Fb_pu (r := 81) (j := 2) (v := 84) hF5 (by decide)
  refine q_aload_n (M := md_X11_init) (pc := 25) dX11_init_25 rfl (by decide) ?_
  refine q_iconst (M := md_X11_init) (pc := 26) dX11_init_26 ?_
  refine q_newA (M := md_X11_init) (pc := 27) (N := 85) (k := 0) (n := 2) (atype := .int) rfl (Or.inl ⟨rfl, rfl⟩) ac_int dX11_init_27 (by decide +kernel) (q_wlit rfl) (by decide) (hB5 85 (Nat.le_refl _)) (by decide) (by decide) ?_
  have hB7 := q_B_le (N' := 86) hB5 (by decide)
  have hF7 := q_Fb_le (N' := 86) hF6 (by decide)
  refine q_putF (M := md_X11_init) (pc := 29) (r := 81) (x := 85) fl_11_19 ⟨_, _, rfl⟩ (Or.inr ⟨_, rfl⟩) rfl dX11_init_29 (q_isc (r := 81) (by decide) (by decide +kernel)) (by decide) ?_
  have hF8 := q_Fb_pu (r := 81) (j := 3) (v := 85) hF7 (by decide)
  refine q_aload_n (M := md_X11_init) (pc := 32) dX11_init_32 rfl (by decide) ?_
  refine q_iconst (M := md_X11_init) (pc := 33) dX11_init_33 ?_
  refine q_newA (M := md_X11_init) (pc := 34) (N := 86) (k := 0) (n := 2) (atype := .int) rfl (Or.inl ⟨rfl, rfl⟩) ac_int dX11_init_34 (by decide +kernel) (q_wlit rfl) (by decide) (hB7 86 (Nat.le_refl _)) (by decide) (by decide) ?_
  have hB9 := q_B_le (N' := 87) hB7 (by decide)
  have hF9 := q_Fb_le (N' := 87) hF8 (by decide)
  refine q_putF (M := md_X11_init) (pc := 36) (r := 81) (x := 86) fl_11_22 ⟨_, _, rfl⟩ (Or.inr ⟨_, rfl⟩) rfl dX11_init_36 (q_isc (r := 81) (by decide) (by decide +kernel)) (by decide) ?_
  have hF10 := q_Fb_pu (r := 81) (j := 4) (v := 86) hF9 (by decide)
  refine q_aload_n (M := md_X11_init) (pc := 39) dX11_init_39 rfl (by decide) ?_
  refine q_iconst (M := md_X11_init) (pc := 40) dX11_init_40 ?_
  refine q_newA (M := md_X11_init) (pc := 41) (N := 87) (k := 0) (n := 2) (atype := .int) rfl (Or.inl ⟨rfl, rfl⟩) ac_int dX11_init_41 (by decide +kernel) (q_wlit rfl) (by decide) (hB9 87 (Nat.le_refl _)) (by decide) (by decide) ?_
  have hB11 := q_B_le (N' := 88) hB9 (by decide)
  have hF11 := q_Fb_le (N' := 88) hF10 (by decide)
  refine q_putF (M := md_X11_init) (pc := 43) (r := 81) (x := 87) fl_11_25 ⟨_, _, rfl⟩ (Or.inr ⟨_, rfl⟩) rfl dX11_init_43 (q_isc (r := 81) (by decide) (by decide +kernel)) (by decide) ?_
  have hF12 := q_Fb_pu (r := 81) (j := 5) (v := 87) hF11 (by decide)
  refine q_aload_n (M := md_X11_init) (pc := 46) dX11_init_46 rfl (by decide) ?_
  refine q_iconst (M := md_X11_init) (pc := 47) dX11_init_47 ?_
  refine q_newA (M := md_X11_init) (pc := 48) (N := 88) (k := 0) (n := 2) (atype := .int) rfl (Or.inl ⟨rfl, rfl⟩) ac_int dX11_init_48 (by decide +kernel) (q_wlit rfl) (by decide) (hB11 88 (Nat.le_refl _)) (by decide) (by decide) ?_
  have hB13 := q_B_le (N' := 89) hB11 (by decide)
  have hF13 := q_Fb_le (N' := 89) hF12 (by decide)
  refine q_putF (M := md_X11_init) (pc := 50) (r := 81) (x := 88) fl_11_28 ⟨_, _, rfl⟩ (Or.inr ⟨_, rfl⟩) rfl dX11_init_50 (q_isc (r := 81) (by decide) (by decide +kernel)) (by decide) ?_
  have hF14 := q_Fb_pu (r := 81) (j := 6) (v := 88) hF13 (by decide)
  refine q_aload_n (M := md_X11_init) (pc := 53) dX11_init_53 rfl (by decide) ?_
  refine q_iconst (M := md_X11_init) (pc := 54) dX11_init_54 ?_
  refine q_newA (M := md_X11_init) (pc := 55) (N := 89) (k := 0) (n := 2) (atype := .int) rfl (Or.inl ⟨rfl, rfl⟩) ac_int dX11_init_55 (by decide +kernel) (q_wlit rfl) (by decide) (hB13 89 (Nat.le_refl _)) (by decide) (by decide) ?_
  have hB15 := q_B_le (N' := 90) hB13 (by decide)
  have hF15 := q_Fb_le (N' := 90) hF14 (by decide)
  refine q_putF (M := md_X11_init) (pc := 57) (r := 81) (x := 89) fl_11_31 ⟨_, _, rfl⟩ (Or.inr ⟨_, rfl⟩) rfl dX11_init_57 (q_isc (r := 81) (by decide) (by decide +kernel)) (by decide) ?_
  have hF16 := q_Fb_pu (r := 81) (j := 7) (v := 89) hF15 (by decide)
  refine q_aload_n (M := md_X11_init) (pc := 60) dX11_init_60 rfl (by decide) ?_
  refine q_iconst (M := md_X11_init) (pc := 61) dX11_init_61 ?_
  refine q_newA (M := md_X11_init) (pc := 62) (N := 90) (k := 0) (n := 2) (atype := .int) rfl (Or.inl ⟨rfl, rfl⟩) ac_int dX11_init_62 (by decide +kernel) (q_wlit rfl) (by decide) (hB15 90 (Nat.le_refl _)) (by decide) (by decide) ?_
  have hB17 := q_B_le (N' := 91) hB15 (by decide)
  have hF17 := q_Fb_le (N' := 91) hF16 (by decide)
  refine q_putF (M := md_X11_init) (pc := 64) (r := 81) (x := 90) fl_11_34 ⟨_, _, rfl⟩ (Or.inr ⟨_, rfl⟩) rfl dX11_init_64 (q_isc (r := 81) (by decide) (by decide +kernel)) (by decide) ?_
  have hF18 := q_Fb_pu (r := 81) (j := 8) (v := 90) hF17 (by decide)
  refine q_aload_n (M := md_X11_init) (pc := 67) dX11_init_67 rfl (by decide) ?_
  refine q_iconst (M := md_X11_init) (pc := 68) dX11_init_68 ?_
  refine q_newA (M := md_X11_init) (pc := 69) (N := 91) (k := 0) (n := 2) (atype := .int) rfl (Or.inl ⟨rfl, rfl⟩) ac_int dX11_init_69 (by decide +kernel) (q_wlit rfl) (by decide) (hB17 91 (Nat.le_refl _)) (by decide) (by decide) ?_
  have hB19 := q_B_le (N' := 92) hB17 (by decide)
  have hF19 := q_Fb_le (N' := 92) hF18 (by decide)
  refine q_putF (M := md_X11_init) (pc := 71) (r := 81) (x := 91) fl_11_37 ⟨_, _, rfl⟩ (Or.inr ⟨_, rfl⟩) rfl dX11_init_71 (q_isc (r := 81) (by decide) (by decide +kernel)) (by decide) ?_
  have hF20 := q_Fb_pu (r := 81) (j := 9) (v := 91) hF19 (by decide)
  refine q_aload_n (M := md_X11_init) (pc := 74) dX11_init_74 rfl (by decide) ?_
  refine q_iconst (M := md_X11_init) (pc := 75) dX11_init_75 ?_
  refine q_newA (M := md_X11_init) (pc := 76) (N := 92) (k := 0) (n := 2) (atype := .int) rfl (Or.inl ⟨rfl, rfl⟩) ac_int dX11_init_76 (by decide +kernel) (q_wlit rfl) (by decide) (hB19 92 (Nat.le_refl _)) (by decide) (by decide) ?_
  have hB21 := q_B_le (N' := 93) hB19 (by decide)
  have hF21 := q_Fb_le (N' := 93) hF20 (by decide)
  refine q_putF (M := md_X11_init) (pc := 78) (r := 81) (x := 92) fl_11_40 ⟨_, _, rfl⟩ (Or.inr ⟨_, rfl⟩) rfl dX11_init_78 (q_isc (r := 81) (by decide) (by decide +kernel)) (by decide) ?_
  have hF22 := q_Fb_pu (r := 81) (j := 10) (v := 92) hF21 (by decide)
  refine q_aload_n (M := md_X11_init) (pc := 81) dX11_init_81 rfl (by decide) ?_
  refine q_bipush (M := md_X11_init) (pc := 82) (x := 24) dX11_init_82 (by decide) ?_
  refine q_newA (M := md_X11_init) (pc := 84) (N := 93) (k := 0) (n := 24) (atype := .int) rfl (Or.inl ⟨rfl, rfl⟩) ac_int dX11_init_84 (by decide +kernel) (q_wlit rfl) (by decide) (hB21 93 (Nat.le_refl _)) (by decide) (by decide) ?_
  have hB23 := q_B_le (N' := 94) hB21 (by decide)
  have hF23 := q_Fb_le (N' := 94) hF22 (by decide)
  refine q_putF (M := md_X11_init) (pc := 86) (r := 81) (x := 93) fl_11_43 ⟨_, _, rfl⟩ (Or.inr ⟨_, rfl⟩) rfl dX11_init_86 (q_isc (r := 81) (by decide) (by decide +kernel)) (by decide) ?_
  have hF24 := q_Fb_pu (r := 81) (j := 11) (v := 93) hF23 (by decide)
  refine q_aload_n (M := md_X11_init) (pc := 89) dX11_init_89 rfl (by decide) ?_
  refine q_bipush (M := md_X11_init) (pc := 90) (x := 24) dX11_init_90 (by decide) ?_
  refine q_newA (M := md_X11_init) (pc := 92) (N := 94) (k := 0) (n := 24) (atype := .int) rfl (Or.inl ⟨rfl, rfl⟩) ac_int dX11_init_92 (by decide +kernel) (q_wlit rfl) (by decide) (hB23 94 (Nat.le_refl _)) (by decide) (by decide) ?_
  have hB25 := q_B_le (N' := 95) hB23 (by decide)
  have hF25 := q_Fb_le (N' := 95) hF24 (by decide)
  refine q_putF (M := md_X11_init) (pc := 94) (r := 81) (x := 94) fl_11_46 ⟨_, _, rfl⟩ (Or.inr ⟨_, rfl⟩) rfl dX11_init_94 (q_isc (r := 81) (by decide) (by decide +kernel)) (by decide) ?_
  have hF26 := q_Fb_pu (r := 81) (j := 12) (v := 94) hF25 (by decide)
  refine q_aload_n (M := md_X11_init) (pc := 97) dX11_init_97 rfl (by decide) ?_
  refine q_bipush (M := md_X11_init) (pc := 98) (x := 24) dX11_init_98 (by decide) ?_
  refine q_newA (M := md_X11_init) (pc := 100) (N := 95) (k := 0) (n := 24) (atype := .int) rfl (Or.inl ⟨rfl, rfl⟩) ac_int dX11_init_100 (by decide +kernel) (q_wlit rfl) (by decide) (hB25 95 (Nat.le_refl _)) (by decide) (by decide) ?_
  have hB27 := q_B_le (N' := 96) hB25 (by decide)
  have hF27 := q_Fb_le (N' := 96) hF26 (by decide)
  refine q_putF (M := md_X11_init) (pc := 102) (r := 81) (x := 95) fl_11_49 ⟨_, _, rfl⟩ (Or.inr ⟨_, rfl⟩) rfl dX11_init_102 (q_isc (r := 81) (by decide) (by decide +kernel)) (by decide) ?_
  have hF28 := q_Fb_pu (r := 81) (j := 13) (v := 95) hF27 (by decide)
  refine q_aload_n (M := md_X11_init) (pc := 105) dX11_init_105 rfl (by decide) ?_
  refine q_bipush (M := md_X11_init) (pc := 106) (x := 24) dX11_init_106 (by decide) ?_
  refine q_newA (M := md_X11_init) (pc := 108) (N := 96) (k := 0) (n := 24) (atype := .int) rfl (Or.inl ⟨rfl, rfl⟩) ac_int dX11_init_108 (by decide +kernel) (q_wlit rfl) (by decide) (hB27 96 (Nat.le_refl _)) (by decide) (by decide) ?_
  have hB29 := q_B_le (N' := 97) hB27 (by decide)
  have hF29 := q_Fb_le (N' := 97) hF28 (by decide)
  refine q_putF (M := md_X11_init) (pc := 110) (r := 81) (x := 96) fl_11_52 ⟨_, _, rfl⟩ (Or.inr ⟨_, rfl⟩) rfl dX11_init_110 (q_isc (r := 81) (by decide) (by decide +kernel)) (by decide) ?_
  have hF30 := q_Fb_pu (r := 81) (j := 14) (v := 96) hF29 (by decide)
  refine q_aload_n (M := md_X11_init) (pc := 113) dX11_init_113 rfl (by decide) ?_
  refine q_bipush (M := md_X11_init) (pc := 114) (x := 24) dX11_init_114 (by decide) ?_
  refine q_newA (M := md_X11_init) (pc := 116) (N := 97) (k := 0) (n := 24) (atype := .int) rfl (Or.inl ⟨rfl, rfl⟩) ac_int dX11_init_116 (by decide +kernel) (q_wlit rfl) (by decide) (hB29 97 (Nat.le_refl _)) (by decide) (by decide) ?_
  have hB31 := q_B_le (N' := 98) hB29 (by decide)
  have hF31 := q_Fb_le (N' := 98) hF30 (by decide)
  refine q_putF (M := md_X11_init) (pc := 118) (r := 81) (x := 97) fl_11_55 ⟨_, _, rfl⟩ (Or.inr ⟨_, rfl⟩) rfl dX11_init_118 (q_isc (r := 81) (by decide) (by decide +kernel)) (by decide) ?_
  have hF32 := q_Fb_pu (r := 81) (j := 15) (v := 97) hF31 (by decide)
  refine q_aload_n (M := md_X11_init) (pc := 121) dX11_init_121 rfl (by decide) ?_
  refine q_bipush (M := md_X11_init) (pc := 122) (x := 6) dX11_init_122 (by decide) ?_
  refine q_newA (M := md_X11_init) (pc := 124) (N := 98) (k := 0) (n := 6) (atype := .int) rfl (Or.inl ⟨rfl, rfl⟩) ac_int dX11_init_124 (by decide +kernel) (q_wlit rfl) (by decide) (hB31 98 (Nat.le_refl _)) (by decide) (by decide) ?_
  have hB33 := q_B_le (N' := 99) hB31 (by decide)
  have hF33 := q_Fb_le (N' := 99) hF32 (by decide)
  refine q_putF (M := md_X11_init) (pc := 126) (r := 81) (x := 98) fl_11_58 ⟨_, _, rfl⟩ (Or.inr ⟨_, rfl⟩) rfl dX11_init_126 (q_isc (r := 81) (by decide) (by decide +kernel)) (by decide) ?_
  have hF34 := q_Fb_pu (r := 81) (j := 16) (v := 98) hF33 (by decide)
  refine q_aload_n (M := md_X11_init) (pc := 129) dX11_init_129 rfl (by decide) ?_
  refine q_bipush (M := md_X11_init) (pc := 130) (x := 6) dX11_init_130 (by decide) ?_
  refine q_newA (M := md_X11_init) (pc := 132) (N := 99) (k := 0) (n := 6) (atype := .int) rfl (Or.inl ⟨rfl, rfl⟩) ac_int dX11_init_132 (by decide +kernel) (q_wlit rfl) (by decide) (hB33 99 (Nat.le_refl _)) (by decide) (by decide) ?_
  have hB35 := q_B_le (N' := 100) hB33 (by decide)
  have hF35 := q_Fb_le (N' := 100) hF34 (by decide)
  refine q_putF (M := md_X11_init) (pc := 134) (r := 81) (x := 99) fl_11_61 ⟨_, _, rfl⟩ (Or.inr ⟨_, rfl⟩) rfl dX11_init_134 (q_isc (r := 81) (by decide) (by decide +kernel)) (by decide) ?_
  have hF36 := q_Fb_pu (r := 81) (j := 17) (v := 99) hF35 (by decide)
  refine q_aload_n (M := md_X11_init) (pc := 137) dX11_init_137 rfl (by decide) ?_
  refine q_sipush (M := md_X11_init) (pc := 138) (x := 200) dX11_init_138 (by decide) ?_
  refine q_newA (M := md_X11_init) (pc := 141) (N := 100) (k := 0) (n := 200) (atype := .int) rfl (Or.inl ⟨rfl, rfl⟩) ac_int dX11_init_141 (by decide +kernel) (q_wlit rfl) (by decide) (hB35 100 (Nat.le_refl _)) (by decide) (by decide) ?_
  have hB37 := q_B_le (N' := 101) hB35 (by decide)
  have hF37 := q_Fb_le (N' := 101) hF36 (by decide)
  refine q_putF (M := md_X11_init) (pc := 143) (r := 81) (x := 100) fl_11_64 ⟨_, _, rfl⟩ (Or.inr ⟨_, rfl⟩) rfl dX11_init_143 (q_isc (r := 81) (by decide) (by decide +kernel)) (by decide) ?_
  have hF38 := q_Fb_pu (r := 81) (j := 18) (v := 100) hF37 (by decide)
  refine q_aload_n (M := md_X11_init) (pc := 146) dX11_init_146 rfl (by decide) ?_
  refine q_sipush (M := md_X11_init) (pc := 147) (x := 800) dX11_init_147 (by decide) ?_
  refine q_newA (M := md_X11_init) (pc := 150) (N := 101) (k := 1) (n := 800) (atype := .byte) rfl (Or.inr (Or.inl ⟨rfl, rfl⟩)) ac_byte dX11_init_150 (by decide +kernel) (q_wlit rfl) (by decide) (hB37 101 (Nat.le_refl _)) (by decide) (by decide) ?_
  have hB39 := q_B_le (N' := 102) hB37 (by decide)
  have hF39 := q_Fb_le (N' := 102) hF38 (by decide)
  refine q_putF (M := md_X11_init) (pc := 152) (r := 81) (x := 101) fl_11_67 ⟨_, _, rfl⟩ (Or.inr ⟨_, rfl⟩) rfl dX11_init_152 (q_isc (r := 81) (by decide) (by decide +kernel)) (by decide) ?_
  have hF40 := q_Fb_pu (r := 81) (j := 20) (v := 101) hF39 (by decide)
  refine q_aload_n (M := md_X11_init) (pc := 155) dX11_init_155 rfl (by decide) ?_
  refine q_iconst (M := md_X11_init) (pc := 156) dX11_init_156 ?_
  refine q_putI (M := md_X11_init) (pc := 157) (r := 81) fl_11_71 dX11_init_157 (q_isc (r := 81) (by decide) (by decide +kernel)) ?_
  have hB41 := q_B_up (r := 81) (j := 31) (v := (-1)) hB39 (by decide)
  refine q_aload_n (M := md_X11_init) (pc := 160) dX11_init_160 rfl (by decide) ?_
  refine q_bipush (M := md_X11_init) (pc := 161) (x := 28) dX11_init_161 (by decide) ?_
  refine q_newA (M := md_X11_init) (pc := 163) (N := 102) (k := 1) (n := 28) (atype := .byte) rfl (Or.inr (Or.inl ⟨rfl, rfl⟩)) ac_byte dX11_init_163 (by decide +kernel) (q_wlit rfl) (by decide) (hB41 102 (Nat.le_refl _)) (by decide) (by decide) ?_
  have hB42 := q_B_le (N' := 103) hB41 (by decide)
  have hF42 := q_Fb_le (N' := 103) hF40 (by decide)
  refine q_dup (M := md_X11_init) (pc := 165) dX11_init_165 (show (2 : Nat) ≠ 1 by decide) ?_
  refine q_iconst (M := md_X11_init) (pc := 166) dX11_init_166 ?_
  refine q_bipush (M := md_X11_init) (pc := 167) (x := 115) dX11_init_167 (by decide) ?_
  refine q_bast (M := md_X11_init) (pc := 169) (n := 28) (r := 102) (x := 0) (z := 115) dX11_init_169 (q_arc (by decide) (by decide +kernel)) (by decide) (by decide) ?_
  have hB43 := q_B_up (r := 102) (j := q_w 0) (v := q_i2b 115) hB42 (by decide)
  refine q_dup (M := md_X11_init) (pc := 170) dX11_init_170 (show (2 : Nat) ≠ 1 by decide) ?_
  refine q_iconst (M := md_X11_init) (pc := 171) dX11_init_171 ?_
  refine q_bipush (M := md_X11_init) (pc := 172) (x := 105) dX11_init_172 (by decide) ?_
  refine q_bast (M := md_X11_init) (pc := 174) (n := 28) (r := 102) (x := 1) (z := 105) dX11_init_174 (q_arc (by decide) (by decide +kernel)) (by decide) (by decide) ?_
  have hB44 := q_B_up (r := 102) (j := q_w 1) (v := q_i2b 105) hB43 (by decide)
  refine q_dup (M := md_X11_init) (pc := 175) dX11_init_175 (show (2 : Nat) ≠ 1 by decide) ?_
  refine q_iconst (M := md_X11_init) (pc := 176) dX11_init_176 ?_
  refine q_bipush (M := md_X11_init) (pc := 177) (x := 122) dX11_init_177 (by decide) ?_
  refine q_bast (M := md_X11_init) (pc := 179) (n := 28) (r := 102) (x := 2) (z := 122) dX11_init_179 (q_arc (by decide) (by decide +kernel)) (by decide) (by decide) ?_
  have hB45 := q_B_up (r := 102) (j := q_w 2) (v := q_i2b 122) hB44 (by decide)
  refine q_dup (M := md_X11_init) (pc := 180) dX11_init_180 (show (2 : Nat) ≠ 1 by decide) ?_
  refine q_iconst (M := md_X11_init) (pc := 181) dX11_init_181 ?_
  refine q_bipush (M := md_X11_init) (pc := 182) (x := 101) dX11_init_182 (by decide) ?_
  refine q_bast (M := md_X11_init) (pc := 184) (n := 28) (r := 102) (x := 3) (z := 101) dX11_init_184 (q_arc (by decide) (by decide +kernel)) (by decide) (by decide) ?_
  have hB46 := q_B_up (r := 102) (j := q_w 3) (v := q_i2b 101) hB45 (by decide)
  refine q_dup (M := md_X11_init) (pc := 185) dX11_init_185 (show (2 : Nat) ≠ 1 by decide) ?_
  refine q_iconst (M := md_X11_init) (pc := 186) dX11_init_186 ?_
  refine q_bipush (M := md_X11_init) (pc := 187) (x := 32) dX11_init_187 (by decide) ?_
  refine q_bast (M := md_X11_init) (pc := 189) (n := 28) (r := 102) (x := 4) (z := 32) dX11_init_189 (q_arc (by decide) (by decide +kernel)) (by decide) (by decide) ?_
  have hB47 := q_B_up (r := 102) (j := q_w 4) (v := q_i2b 32) hB46 (by decide)
  refine q_dup (M := md_X11_init) (pc := 190) dX11_init_190 (show (2 : Nat) ≠ 1 by decide) ?_
  refine q_iconst (M := md_X11_init) (pc := 191) dX11_init_191 ?_
  refine q_bipush (M := md_X11_init) (pc := 192) (x := 108) dX11_init_192 (by decide) ?_
  refine q_bast (M := md_X11_init) (pc := 194) (n := 28) (r := 102) (x := 5) (z := 108) dX11_init_194 (q_arc (by decide) (by decide +kernel)) (by decide) (by decide) ?_
  have hB48 := q_B_up (r := 102) (j := q_w 5) (v := q_i2b 108) hB47 (by decide)
  refine q_dup (M := md_X11_init) (pc := 195) dX11_init_195 (show (2 : Nat) ≠ 1 by decide) ?_
  refine q_bipush (M := md_X11_init) (pc := 196) (x := 6) dX11_init_196 (by decide) ?_
  refine q_bipush (M := md_X11_init) (pc := 198) (x := 101) dX11_init_198 (by decide) ?_
  refine q_bast (M := md_X11_init) (pc := 200) (n := 28) (r := 102) (x := 6) (z := 101) dX11_init_200 (q_arc (by decide) (by decide +kernel)) (by decide) (by decide) ?_
  have hB49 := q_B_up (r := 102) (j := q_w 6) (v := q_i2b 101) hB48 (by decide)
  refine q_dup (M := md_X11_init) (pc := 201) dX11_init_201 (show (2 : Nat) ≠ 1 by decide) ?_
  refine q_bipush (M := md_X11_init) (pc := 202) (x := 7) dX11_init_202 (by decide) ?_
  refine q_bipush (M := md_X11_init) (pc := 204) (x := 116) dX11_init_204 (by decide) ?_
  refine q_bast (M := md_X11_init) (pc := 206) (n := 28) (r := 102) (x := 7) (z := 116) dX11_init_206 (q_arc (by decide) (by decide +kernel)) (by decide) (by decide) ?_
  have hB50 := q_B_up (r := 102) (j := q_w 7) (v := q_i2b 116) hB49 (by decide)
  refine q_dup (M := md_X11_init) (pc := 207) dX11_init_207 (show (2 : Nat) ≠ 1 by decide) ?_
  refine q_bipush (M := md_X11_init) (pc := 208) (x := 8) dX11_init_208 (by decide) ?_
  refine q_bipush (M := md_X11_init) (pc := 210) (x := 32) dX11_init_210 (by decide) ?_
  refine q_bast (M := md_X11_init) (pc := 212) (n := 28) (r := 102) (x := 8) (z := 32) dX11_init_212 (q_arc (by decide) (by decide +kernel)) (by decide) (by decide) ?_
  have hB51 := q_B_up (r := 102) (j := q_w 8) (v := q_i2b 32) hB50 (by decide)
  refine q_dup (M := md_X11_init) (pc := 213) dX11_init_213 (show (2 : Nat) ≠ 1 by decide) ?_
  refine q_bipush (M := md_X11_init) (pc := 214) (x := 9) dX11_init_214 (by decide) ?_
  refine q_bipush (M := md_X11_init) (pc := 216) (x := 102) dX11_init_216 (by decide) ?_
  refine q_bast (M := md_X11_init) (pc := 218) (n := 28) (r := 102) (x := 9) (z := 102) dX11_init_218 (q_arc (by decide) (by decide +kernel)) (by decide) (by decide) ?_
  have hB52 := q_B_up (r := 102) (j := q_w 9) (v := q_i2b 102) hB51 (by decide)
  refine q_dup (M := md_X11_init) (pc := 219) dX11_init_219 (show (2 : Nat) ≠ 1 by decide) ?_
  refine q_bipush (M := md_X11_init) (pc := 220) (x := 10) dX11_init_220 (by decide) ?_
  refine q_bipush (M := md_X11_init) (pc := 222) (x := 105) dX11_init_222 (by decide) ?_
  refine q_bast (M := md_X11_init) (pc := 224) (n := 28) (r := 102) (x := 10) (z := 105) dX11_init_224 (q_arc (by decide) (by decide +kernel)) (by decide) (by decide) ?_
  have hB53 := q_B_up (r := 102) (j := q_w 10) (v := q_i2b 105) hB52 (by decide)
  refine q_dup (M := md_X11_init) (pc := 225) dX11_init_225 (show (2 : Nat) ≠ 1 by decide) ?_
  refine q_bipush (M := md_X11_init) (pc := 226) (x := 11) dX11_init_226 (by decide) ?_
  refine q_bipush (M := md_X11_init) (pc := 228) (x := 114) dX11_init_228 (by decide) ?_
  refine q_bast (M := md_X11_init) (pc := 230) (n := 28) (r := 102) (x := 11) (z := 114) dX11_init_230 (q_arc (by decide) (by decide +kernel)) (by decide) (by decide) ?_
  have hB54 := q_B_up (r := 102) (j := q_w 11) (v := q_i2b 114) hB53 (by decide)
  refine q_dup (M := md_X11_init) (pc := 231) dX11_init_231 (show (2 : Nat) ≠ 1 by decide) ?_
  refine q_bipush (M := md_X11_init) (pc := 232) (x := 12) dX11_init_232 (by decide) ?_
  refine q_bipush (M := md_X11_init) (pc := 234) (x := 101) dX11_init_234 (by decide) ?_
  refine q_bast (M := md_X11_init) (pc := 236) (n := 28) (r := 102) (x := 12) (z := 101) dX11_init_236 (q_arc (by decide) (by decide +kernel)) (by decide) (by decide) ?_
  have hB55 := q_B_up (r := 102) (j := q_w 12) (v := q_i2b 101) hB54 (by decide)
  refine q_dup (M := md_X11_init) (pc := 237) dX11_init_237 (show (2 : Nat) ≠ 1 by decide) ?_
  refine q_bipush (M := md_X11_init) (pc := 238) (x := 13) dX11_init_238 (by decide) ?_
  refine q_bipush (M := md_X11_init) (pc := 240) (x := 32) dX11_init_240 (by decide) ?_
  refine q_bast (M := md_X11_init) (pc := 242) (n := 28) (r := 102) (x := 13) (z := 32) dX11_init_242 (q_arc (by decide) (by decide +kernel)) (by decide) (by decide) ?_
  have hB56 := q_B_up (r := 102) (j := q_w 13) (v := q_i2b 32) hB55 (by decide)
  refine q_dup (M := md_X11_init) (pc := 243) dX11_init_243 (show (2 : Nat) ≠ 1 by decide) ?_
  refine q_bipush (M := md_X11_init) (pc := 244) (x := 14) dX11_init_244 (by decide) ?_
  refine q_bipush (M := md_X11_init) (pc := 246) (x := 111) dX11_init_246 (by decide) ?_
  refine q_bast (M := md_X11_init) (pc := 248) (n := 28) (r := 102) (x := 14) (z := 111) dX11_init_248 (q_arc (by decide) (by decide +kernel)) (by decide) (by decide) ?_
  have hB57 := q_B_up (r := 102) (j := q_w 14) (v := q_i2b 111) hB56 (by decide)
  refine q_dup (M := md_X11_init) (pc := 249) dX11_init_249 (show (2 : Nat) ≠ 1 by decide) ?_
  refine q_bipush (M := md_X11_init) (pc := 250) (x := 15) dX11_init_250 (by decide) ?_
  refine q_bipush (M := md_X11_init) (pc := 252) (x := 110) dX11_init_252 (by decide) ?_
  refine q_bast (M := md_X11_init) (pc := 254) (n := 28) (r := 102) (x := 15) (z := 110) dX11_init_254 (q_arc (by decide) (by decide +kernel)) (by decide) (by decide) ?_
  have hB58 := q_B_up (r := 102) (j := q_w 15) (v := q_i2b 110) hB57 (by decide)
  refine q_dup (M := md_X11_init) (pc := 255) dX11_init_255 (show (2 : Nat) ≠ 1 by decide) ?_
  refine q_bipush (M := md_X11_init) (pc := 256) (x := 16) dX11_init_256 (by decide) ?_
  refine q_bipush (M := md_X11_init) (pc := 258) (x := 116) dX11_init_258 (by decide) ?_
  refine q_bast (M := md_X11_init) (pc := 260) (n := 28) (r := 102) (x := 16) (z := 116) dX11_init_260 (q_arc (by decide) (by decide +kernel)) (by decide) (by decide) ?_
  have hB59 := q_B_up (r := 102) (j := q_w 16) (v := q_i2b 116) hB58 (by decide)
  refine q_dup (M := md_X11_init) (pc := 261) dX11_init_261 (show (2 : Nat) ≠ 1 by decide) ?_
  refine q_bipush (M := md_X11_init) (pc := 262) (x := 17) dX11_init_262 (by decide) ?_
  refine q_bipush (M := md_X11_init) (pc := 264) (x := 111) dX11_init_264 (by decide) ?_
  refine q_bast (M := md_X11_init) (pc := 266) (n := 28) (r := 102) (x := 17) (z := 111) dX11_init_266 (q_arc (by decide) (by decide +kernel)) (by decide) (by decide) ?_
  have hB60 := q_B_up (r := 102) (j := q_w 17) (v := q_i2b 111) hB59 (by decide)
  refine q_dup (M := md_X11_init) (pc := 267) dX11_init_267 (show (2 : Nat) ≠ 1 by decide) ?_
  refine q_bipush (M := md_X11_init) (pc := 268) (x := 18) dX11_init_268 (by decide) ?_
  refine q_bipush (M := md_X11_init) (pc := 270) (x := 32) dX11_init_270 (by decide) ?_
  refine q_bast (M := md_X11_init) (pc := 272) (n := 28) (r := 102) (x := 18) (z := 32) dX11_init_272 (q_arc (by decide) (by decide +kernel)) (by decide) (by decide) ?_
  have hB61 := q_B_up (r := 102) (j := q_w 18) (v := q_i2b 32) hB60 (by decide)
  refine q_dup (M := md_X11_init) (pc := 273) dX11_init_273 (show (2 : Nat) ≠ 1 by decide) ?_
  refine q_bipush (M := md_X11_init) (pc := 274) (x := 19) dX11_init_274 (by decide) ?_
  refine q_bipush (M := md_X11_init) (pc := 276) (x := 101) dX11_init_276 (by decide) ?_
  refine q_bast (M := md_X11_init) (pc := 278) (n := 28) (r := 102) (x := 19) (z := 101) dX11_init_278 (q_arc (by decide) (by decide +kernel)) (by decide) (by decide) ?_
  have hB62 := q_B_up (r := 102) (j := q_w 19) (v := q_i2b 101) hB61 (by decide)
  refine q_dup (M := md_X11_init) (pc := 279) dX11_init_279 (show (2 : Nat) ≠ 1 by decide) ?_
  refine q_bipush (M := md_X11_init) (pc := 280) (x := 20) dX11_init_280 (by decide) ?_
  refine q_bipush (M := md_X11_init) (pc := 282) (x := 100) dX11_init_282 (by decide) ?_
  refine q_bast (M := md_X11_init) (pc := 284) (n := 28) (r := 102) (x := 20) (z := 100) dX11_init_284 (q_arc (by decide) (by decide +kernel)) (by decide) (by decide) ?_
  have hB63 := q_B_up (r := 102) (j := q_w 20) (v := q_i2b 100) hB62 (by decide)
  refine q_dup (M := md_X11_init) (pc := 285) dX11_init_285 (show (2 : Nat) ≠ 1 by decide) ?_
  refine q_bipush (M := md_X11_init) (pc := 286) (x := 21) dX11_init_286 (by decide) ?_
  refine q_bipush (M := md_X11_init) (pc := 288) (x := 103) dX11_init_288 (by decide) ?_
  refine q_bast (M := md_X11_init) (pc := 290) (n := 28) (r := 102) (x := 21) (z := 103) dX11_init_290 (q_arc (by decide) (by decide +kernel)) (by decide) (by decide) ?_
  have hB64 := q_B_up (r := 102) (j := q_w 21) (v := q_i2b 103) hB63 (by decide)
  refine q_dup (M := md_X11_init) (pc := 291) dX11_init_291 (show (2 : Nat) ≠ 1 by decide) ?_
  refine q_bipush (M := md_X11_init) (pc := 292) (x := 22) dX11_init_292 (by decide) ?_
  refine q_bipush (M := md_X11_init) (pc := 294) (x := 101) dX11_init_294 (by decide) ?_
  refine q_bast (M := md_X11_init) (pc := 296) (n := 28) (r := 102) (x := 22) (z := 101) dX11_init_296 (q_arc (by decide) (by decide +kernel)) (by decide) (by decide) ?_
  have hB65 := q_B_up (r := 102) (j := q_w 22) (v := q_i2b 101) hB64 (by decide)
  refine q_dup (M := md_X11_init) (pc := 297) dX11_init_297 (show (2 : Nat) ≠ 1 by decide) ?_
  refine q_bipush (M := md_X11_init) (pc := 298) (x := 23) dX11_init_298 (by decide) ?_
  refine q_bipush (M := md_X11_init) (pc := 300) (x := 32) dX11_init_300 (by decide) ?_
  refine q_bast (M := md_X11_init) (pc := 302) (n := 28) (r := 102) (x := 23) (z := 32) dX11_init_302 (q_arc (by decide) (by decide +kernel)) (by decide) (by decide) ?_
  have hB66 := q_B_up (r := 102) (j := q_w 23) (v := q_i2b 32) hB65 (by decide)
  refine q_dup (M := md_X11_init) (pc := 303) dX11_init_303 (show (2 : Nat) ≠ 1 by decide) ?_
  refine q_bipush (M := md_X11_init) (pc := 304) (x := 24) dX11_init_304 (by decide) ?_
  refine q_bipush (M := md_X11_init) (pc := 306) (x := 105) dX11_init_306 (by decide) ?_
  refine q_bast (M := md_X11_init) (pc := 308) (n := 28) (r := 102) (x := 24) (z := 105) dX11_init_308 (q_arc (by decide) (by decide +kernel)) (by decide) (by decide) ?_
  have hB67 := q_B_up (r := 102) (j := q_w 24) (v := q_i2b 105) hB66 (by decide)
  refine q_dup (M := md_X11_init) (pc := 309) dX11_init_309 (show (2 : Nat) ≠ 1 by decide) ?_
  refine q_bipush (M := md_X11_init) (pc := 310) (x := 25) dX11_init_310 (by decide) ?_
  refine q_bipush (M := md_X11_init) (pc := 312) (x := 32) dX11_init_312 (by decide) ?_
  refine q_bast (M := md_X11_init) (pc := 314) (n := 28) (r := 102) (x := 25) (z := 32) dX11_init_314 (q_arc (by decide) (by decide +kernel)) (by decide) (by decide) ?_
  have hB68 := q_B_up (r := 102) (j := q_w 25) (v := q_i2b 32) hB67 (by decide)
  refine q_dup (M := md_X11_init) (pc := 315) dX11_init_315 (show (2 : Nat) ≠ 1 by decide) ?_
  refine q_bipush (M := md_X11_init) (pc := 316) (x := 26) dX11_init_316 (by decide) ?_
  refine q_bipush (M := md_X11_init) (pc := 318) (x := 106) dX11_init_318 (by decide) ?_
  refine q_bast (M := md_X11_init) (pc := 320) (n := 28) (r := 102) (x := 26) (z := 106) dX11_init_320 (q_arc (by decide) (by decide +kernel)) (by decide) (by decide) ?_
  have hB69 := q_B_up (r := 102) (j := q_w 26) (v := q_i2b 106) hB68 (by decide)
  refine q_dup (M := md_X11_init) (pc := 321) dX11_init_321 (show (2 : Nat) ≠ 1 by decide) ?_
  refine q_bipush (M := md_X11_init) (pc := 322) (x := 27) dX11_init_322 (by decide) ?_
  refine q_bipush (M := md_X11_init) (pc := 324) (x := 32) dX11_init_324 (by decide) ?_
  refine q_bast (M := md_X11_init) (pc := 326) (n := 28) (r := 102) (x := 27) (z := 32) dX11_init_326 (q_arc (by decide) (by decide +kernel)) (by decide) (by decide) ?_
  have hB70 := q_B_up (r := 102) (j := q_w 27) (v := q_i2b 32) hB69 (by decide)
  refine q_putF (M := md_X11_init) (pc := 327) (r := 81) (x := 102) fl_11_75 ⟨_, _, rfl⟩ (Or.inr ⟨_, rfl⟩) rfl dX11_init_327 (q_isc (r := 81) (by decide) (by decide +kernel)) (by decide) ?_
  have hF71 := q_Fb_pu (r := 81) (j := 32) (v := 102) hF42 (by decide)
  refine q_aload_n (M := md_X11_init) (pc := 330) dX11_init_330 rfl (by decide) ?_
  refine q_iconst (M := md_X11_init) (pc := 331) dX11_init_331 ?_
  refine q_newA (M := md_X11_init) (pc := 332) (N := 103) (k := 0) (n := 3) (atype := .int) rfl (Or.inl ⟨rfl, rfl⟩) ac_int dX11_init_332 (by decide +kernel) (q_wlit rfl) (by decide) (hB70 103 (Nat.le_refl _)) (by decide) (by decide) ?_
  have hB72 := q_B_le (N' := 104) hB70 (by decide)
  have hF72 := q_Fb_le (N' := 104) hF71 (by decide)
  refine q_putF (M := md_X11_init) (pc := 334) (r := 81) (x := 103) fl_11_78 ⟨_, _, rfl⟩ (Or.inr ⟨_, rfl⟩) rfl dX11_init_334 (q_isc (r := 81) (by decide) (by decide +kernel)) (by decide) ?_
  have hF73 := q_Fb_pu (r := 81) (j := 33) (v := 103) hF72 (by decide)
  refine q_aload_n (M := md_X11_init) (pc := 337) dX11_init_337 rfl (by decide) ?_
  refine q_iconst (M := md_X11_init) (pc := 338) dX11_init_338 ?_
  refine q_newA (M := md_X11_init) (pc := 339) (N := 104) (k := 0) (n := 3) (atype := .int) rfl (Or.inl ⟨rfl, rfl⟩) ac_int dX11_init_339 (by decide +kernel) (q_wlit rfl) (by decide) (hB72 104 (Nat.le_refl _)) (by decide) (by decide) ?_
  have hB74 := q_B_le (N' := 105) hB72 (by decide)
  have hF74 := q_Fb_le (N' := 105) hF73 (by decide)
  refine q_putF (M := md_X11_init) (pc := 341) (r := 81) (x := 104) fl_11_81 ⟨_, _, rfl⟩ (Or.inr ⟨_, rfl⟩) rfl dX11_init_341 (q_isc (r := 81) (by decide) (by decide +kernel)) (by decide) ?_
  have hF75 := q_Fb_pu (r := 81) (j := 34) (v := 104) hF74 (by decide)
  refine q_aload_n (M := md_X11_init) (pc := 344) dX11_init_344 rfl (by decide) ?_
  refine q_bipush (M := md_X11_init) (pc := 345) (x := 100) dX11_init_345 (by decide) ?_
  refine q_newA (M := md_X11_init) (pc := 347) (N := 105) (k := 0) (n := 100) (atype := .int) rfl (Or.inl ⟨rfl, rfl⟩) ac_int dX11_init_347 (by decide +kernel) (q_wlit rfl) (by decide) (hB74 105 (Nat.le_refl _)) (by decide) (by decide) ?_
  have hB76 := q_B_le (N' := 106) hB74 (by decide)
  have hF76 := q_Fb_le (N' := 106) hF75 (by decide)
  refine q_putF (M := md_X11_init) (pc := 349) (r := 81) (x := 105) fl_11_84 ⟨_, _, rfl⟩ (Or.inr ⟨_, rfl⟩) rfl dX11_init_349 (q_isc (r := 81) (by decide) (by decide +kernel)) (by decide) ?_
  have hF77 := q_Fb_pu (r := 81) (j := 37) (v := 105) hF76 (by decide)
  refine q_aload_n (M := md_X11_init) (pc := 352) dX11_init_352 rfl (by decide) ?_
  refine q_bipush (M := md_X11_init) (pc := 353) (x := 100) dX11_init_353 (by decide) ?_
  refine q_newA (M := md_X11_init) (pc := 355) (N := 106) (k := 0) (n := 100) (atype := .int) rfl (Or.inl ⟨rfl, rfl⟩) ac_int dX11_init_355 (by decide +kernel) (q_wlit rfl) (by decide) (hB76 106 (Nat.le_refl _)) (by decide) (by decide) ?_
  have hB78 := q_B_le (N' := 107) hB76 (by decide)
  have hF78 := q_Fb_le (N' := 107) hF77 (by decide)
  refine q_putF (M := md_X11_init) (pc := 357) (r := 81) (x := 106) fl_11_87 ⟨_, _, rfl⟩ (Or.inr ⟨_, rfl⟩) rfl dX11_init_357 (q_isc (r := 81) (by decide) (by decide +kernel)) (by decide) ?_
  have hF79 := q_Fb_pu (r := 81) (j := 40) (v := 106) hF78 (by decide)
  refine q_aload_n (M := md_X11_init) (pc := 360) dX11_init_360 rfl (by decide) ?_
  refine q_bipush (M := md_X11_init) (pc := 361) (x := 100) dX11_init_361 (by decide) ?_
  refine q_newA (M := md_X11_init) (pc := 363) (N := 107) (k := 0) (n := 100) (atype := .int) rfl (Or.inl ⟨rfl, rfl⟩) ac_int dX11_init_363 (by decide +kernel) (q_wlit rfl) (by decide) (hB78 107 (Nat.le_refl _)) (by decide) (by decide) ?_
  have hB80 := q_B_le (N' := 108) hB78 (by decide)
  have hF80 := q_Fb_le (N' := 108) hF79 (by decide)
  refine q_putF (M := md_X11_init) (pc := 365) (r := 81) (x := 107) fl_11_90 ⟨_, _, rfl⟩ (Or.inr ⟨_, rfl⟩) rfl dX11_init_365 (q_isc (r := 81) (by decide) (by decide +kernel)) (by decide) ?_
  have hF81 := q_Fb_pu (r := 81) (j := 41) (v := 107) hF80 (by decide)
  refine q_aload_n (M := md_X11_init) (pc := 368) dX11_init_368 rfl (by decide) ?_
  refine q_bipush (M := md_X11_init) (pc := 369) (x := 100) dX11_init_369 (by decide) ?_
  refine q_newA (M := md_X11_init) (pc := 371) (N := 108) (k := 2) (n := 100) (atype := .boolean) rfl (Or.inr (Or.inr ⟨rfl, rfl⟩)) ac_boolean dX11_init_371 (by decide +kernel) (q_wlit rfl) (by decide) (hB80 108 (Nat.le_refl _)) (by decide) (by decide) ?_
  have hB82 := q_B_le (N' := 109) hB80 (by decide)
  have hF82 := q_Fb_le (N' := 109) hF81 (by decide)
  refine q_putF (M := md_X11_init) (pc := 373) (r := 81) (x := 108) fl_11_93 ⟨_, _, rfl⟩ (Or.inr ⟨_, rfl⟩) rfl dX11_init_373 (q_isc (r := 81) (by decide) (by decide +kernel)) (by decide) ?_
  have hF83 := q_Fb_pu (r := 81) (j := 42) (v := 108) hF82 (by decide)
  refine q_aload_n (M := md_X11_init) (pc := 376) dX11_init_376 rfl (by decide) ?_
  refine q_bipush (M := md_X11_init) (pc := 377) (x := 100) dX11_init_377 (by decide) ?_
  refine q_newA (M := md_X11_init) (pc := 379) (N := 109) (k := 0) (n := 100) (atype := .int) rfl (Or.inl ⟨rfl, rfl⟩) ac_int dX11_init_379 (by decide +kernel) (q_wlit rfl) (by decide) (hB82 109 (Nat.le_refl _)) (by decide) (by decide) ?_
  have hB84 := q_B_le (N' := 110) hB82 (by decide)
  have hF84 := q_Fb_le (N' := 110) hF83 (by decide)
  refine q_putF (M := md_X11_init) (pc := 381) (r := 81) (x := 109) fl_11_97 ⟨_, _, rfl⟩ (Or.inr ⟨_, rfl⟩) rfl dX11_init_381 (q_isc (r := 81) (by decide) (by decide +kernel)) (by decide) ?_
  have hF85 := q_Fb_pu (r := 81) (j := 43) (v := 109) hF84 (by decide)
  refine q_aload_n (M := md_X11_init) (pc := 384) dX11_init_384 rfl (by decide) ?_
  refine q_sipush (M := md_X11_init) (pc := 385) (x := 300) dX11_init_385 (by decide) ?_
  refine q_newA (M := md_X11_init) (pc := 388) (N := 110) (k := 0) (n := 300) (atype := .int) rfl (Or.inl ⟨rfl, rfl⟩) ac_int dX11_init_388 (by decide +kernel) (q_wlit rfl) (by decide) (hB84 110 (Nat.le_refl _)) (by decide) (by decide) ?_
  have hB86 := q_B_le (N' := 111) hB84 (by decide)
  have hF86 := q_Fb_le (N' := 111) hF85 (by decide)
  refine q_putF (M := md_X11_init) (pc := 390) (r := 81) (x := 110) fl_11_100 ⟨_, _, rfl⟩ (Or.inr ⟨_, rfl⟩) rfl dX11_init_390 (q_isc (r := 81) (by decide) (by decide +kernel)) (by decide) ?_
  have hF87 := q_Fb_pu (r := 81) (j := 44) (v := 110) hF86 (by decide)
  refine q_aload_n (M := md_X11_init) (pc := 393) dX11_init_393 rfl (by decide) ?_
  refine q_sipush (M := md_X11_init) (pc := 394) (x := 300) dX11_init_394 (by decide) ?_
  refine q_newA (M := md_X11_init) (pc := 397) (N := 111) (k := 0) (n := 300) (atype := .int) rfl (Or.inl ⟨rfl, rfl⟩) ac_int dX11_init_397 (by decide +kernel) (q_wlit rfl) (by decide) (hB86 111 (Nat.le_refl _)) (by decide) (by decide) ?_
  have hB88 := q_B_le (N' := 112) hB86 (by decide)
  have hF88 := q_Fb_le (N' := 112) hF87 (by decide)
  refine q_putF (M := md_X11_init) (pc := 399) (r := 81) (x := 111) fl_11_103 ⟨_, _, rfl⟩ (Or.inr ⟨_, rfl⟩) rfl dX11_init_399 (q_isc (r := 81) (by decide) (by decide +kernel)) (by decide) ?_
  have hF89 := q_Fb_pu (r := 81) (j := 45) (v := 111) hF88 (by decide)
  refine q_aload_n (M := md_X11_init) (pc := 402) dX11_init_402 rfl (by decide) ?_
  refine q_sipush (M := md_X11_init) (pc := 403) (x := 300) dX11_init_403 (by decide) ?_
  refine q_newA (M := md_X11_init) (pc := 406) (N := 112) (k := 0) (n := 300) (atype := .int) rfl (Or.inl ⟨rfl, rfl⟩) ac_int dX11_init_406 (by decide +kernel) (q_wlit rfl) (by decide) (hB88 112 (Nat.le_refl _)) (by decide) (by decide) ?_
  have hB90 := q_B_le (N' := 113) hB88 (by decide)
  have hF90 := q_Fb_le (N' := 113) hF89 (by decide)
  refine q_putF (M := md_X11_init) (pc := 408) (r := 81) (x := 112) fl_11_106 ⟨_, _, rfl⟩ (Or.inr ⟨_, rfl⟩) rfl dX11_init_408 (q_isc (r := 81) (by decide) (by decide +kernel)) (by decide) ?_
  have hF91 := q_Fb_pu (r := 81) (j := 46) (v := 112) hF90 (by decide)
  refine q_aload_n (M := md_X11_init) (pc := 411) dX11_init_411 rfl (by decide) ?_
  refine q_bipush (M := md_X11_init) (pc := 412) (x := 100) dX11_init_412 (by decide) ?_
  refine q_newA (M := md_X11_init) (pc := 414) (N := 113) (k := 0) (n := 100) (atype := .int) rfl (Or.inl ⟨rfl, rfl⟩) ac_int dX11_init_414 (by decide +kernel) (q_wlit rfl) (by decide) (hB90 113 (Nat.le_refl _)) (by decide) (by decide) ?_
  have hB92 := q_B_le (N' := 114) hB90 (by decide)
  have hF92 := q_Fb_le (N' := 114) hF91 (by decide)
  refine q_putF (M := md_X11_init) (pc := 416) (r := 81) (x := 113) fl_11_109 ⟨_, _, rfl⟩ (Or.inr ⟨_, rfl⟩) rfl dX11_init_416 (q_isc (r := 81) (by decide) (by decide +kernel)) (by decide) ?_
  have hF93 := q_Fb_pu (r := 81) (j := 47) (v := 113) hF92 (by decide)
  refine q_aload_n (M := md_X11_init) (pc := 419) dX11_init_419 rfl (by decide) ?_
  refine q_bipush (M := md_X11_init) (pc := 420) (x := 100) dX11_init_420 (by decide) ?_
  refine q_newA (M := md_X11_init) (pc := 422) (N := 114) (k := 0) (n := 100) (atype := .int) rfl (Or.inl ⟨rfl, rfl⟩) ac_int dX11_init_422 (by decide +kernel) (q_wlit rfl) (by decide) (hB92 114 (Nat.le_refl _)) (by decide) (by decide) ?_
  have hB94 := q_B_le (N' := 115) hB92 (by decide)
  have hF94 := q_Fb_le (N' := 115) hF93 (by decide)
  refine q_putF (M := md_X11_init) (pc := 424) (r := 81) (x := 114) fl_11_112 ⟨_, _, rfl⟩ (Or.inr ⟨_, rfl⟩) rfl dX11_init_424 (q_isc (r := 81) (by decide) (by decide +kernel)) (by decide) ?_
  have hF95 := q_Fb_pu (r := 81) (j := 48) (v := 114) hF94 (by decide)
  refine q_aload_n (M := md_X11_init) (pc := 427) dX11_init_427 rfl (by decide) ?_
  refine q_bipush (M := md_X11_init) (pc := 428) (x := 69) dX11_init_428 (by decide) ?_
  refine q_newA (M := md_X11_init) (pc := 430) (N := 115) (k := 0) (n := 69) (atype := .int) rfl (Or.inl ⟨rfl, rfl⟩) ac_int dX11_init_430 (by decide +kernel) (q_wlit rfl) (by decide) (hB94 115 (Nat.le_refl _)) (by decide) (by decide) ?_
  have hB96 := q_B_le (N' := 116) hB94 (by decide)
  have hF96 := q_Fb_le (N' := 116) hF95 (by decide)
  refine q_putF (M := md_X11_init) (pc := 432) (r := 81) (x := 115) fl_11_115 ⟨_, _, rfl⟩ (Or.inr ⟨_, rfl⟩) rfl dX11_init_432 (q_isc (r := 81) (by decide) (by decide +kernel)) (by decide) ?_
  have hF97 := q_Fb_pu (r := 81) (j := 49) (v := 115) hF96 (by decide)
  refine q_aload_n (M := md_X11_init) (pc := 435) dX11_init_435 rfl (by decide) ?_
  refine q_bipush (M := md_X11_init) (pc := 436) (x := 100) dX11_init_436 (by decide) ?_
  refine q_newA (M := md_X11_init) (pc := 438) (N := 116) (k := 0) (n := 100) (atype := .int) rfl (Or.inl ⟨rfl, rfl⟩) ac_int dX11_init_438 (by decide +kernel) (q_wlit rfl) (by decide) (hB96 116 (Nat.le_refl _)) (by decide) (by decide) ?_
  have hB98 := q_B_le (N' := 117) hB96 (by decide)
  have hF98 := q_Fb_le (N' := 117) hF97 (by decide)
  refine q_putF (M := md_X11_init) (pc := 440) (r := 81) (x := 116) fl_11_118 ⟨_, _, rfl⟩ (Or.inr ⟨_, rfl⟩) rfl dX11_init_440 (q_isc (r := 81) (by decide) (by decide +kernel)) (by decide) ?_
  have hF99 := q_Fb_pu (r := 81) (j := 50) (v := 116) hF98 (by decide)
  refine q_aload_n (M := md_X11_init) (pc := 443) dX11_init_443 rfl (by decide) ?_
  refine q_bipush (M := md_X11_init) (pc := 444) (x := 100) dX11_init_444 (by decide) ?_
  refine q_newA (M := md_X11_init) (pc := 446) (N := 117) (k := 0) (n := 100) (atype := .int) rfl (Or.inl ⟨rfl, rfl⟩) ac_int dX11_init_446 (by decide +kernel) (q_wlit rfl) (by decide) (hB98 117 (Nat.le_refl _)) (by decide) (by decide) ?_
  have hB100 := q_B_le (N' := 118) hB98 (by decide)
  have hF100 := q_Fb_le (N' := 118) hF99 (by decide)
  refine q_putF (M := md_X11_init) (pc := 448) (r := 81) (x := 117) fl_11_121 ⟨_, _, rfl⟩ (Or.inr ⟨_, rfl⟩) rfl dX11_init_448 (q_isc (r := 81) (by decide) (by decide +kernel)) (by decide) ?_
  have hF101 := q_Fb_pu (r := 81) (j := 51) (v := 117) hF100 (by decide)
  refine q_aload_n (M := md_X11_init) (pc := 451) dX11_init_451 rfl (by decide) ?_
  refine q_bipush (M := md_X11_init) (pc := 452) (x := 100) dX11_init_452 (by decide) ?_
  refine q_newA (M := md_X11_init) (pc := 454) (N := 118) (k := 2) (n := 100) (atype := .boolean) rfl (Or.inr (Or.inr ⟨rfl, rfl⟩)) ac_boolean dX11_init_454 (by decide +kernel) (q_wlit rfl) (by decide) (hB100 118 (Nat.le_refl _)) (by decide) (by decide) ?_
  have hB102 := q_B_le (N' := 119) hB100 (by decide)
  have hF102 := q_Fb_le (N' := 119) hF101 (by decide)
  refine q_putF (M := md_X11_init) (pc := 456) (r := 81) (x := 118) fl_11_124 ⟨_, _, rfl⟩ (Or.inr ⟨_, rfl⟩) rfl dX11_init_456 (q_isc (r := 81) (by decide) (by decide +kernel)) (by decide) ?_
  have hF103 := q_Fb_pu (r := 81) (j := 52) (v := 118) hF102 (by decide)
  refine q_aload_n (M := md_X11_init) (pc := 459) dX11_init_459 rfl (by decide) ?_
  refine q_sipush (M := md_X11_init) (pc := 460) (x := 128) dX11_init_460 (by decide) ?_
  refine q_newA (M := md_X11_init) (pc := 463) (N := 119) (k := 0) (n := 128) (atype := .int) rfl (Or.inl ⟨rfl, rfl⟩) ac_int dX11_init_463 (by decide +kernel) (q_wlit rfl) (by decide) (hB102 119 (Nat.le_refl _)) (by decide) (by decide) ?_
  have hB104 := q_B_le (N' := 120) hB102 (by decide)
  have hF104 := q_Fb_le (N' := 120) hF103 (by decide)
  refine q_putF (M := md_X11_init) (pc := 465) (r := 81) (x := 119) fl_11_127 ⟨_, _, rfl⟩ (Or.inr ⟨_, rfl⟩) rfl dX11_init_465 (q_isc (r := 81) (by decide) (by decide +kernel)) (by decide) ?_
  have hF105 := q_Fb_pu (r := 81) (j := 56) (v := 119) hF104 (by decide)
  refine q_aload_n (M := md_X11_init) (pc := 468) dX11_init_468 rfl (by decide) ?_
  refine q_bipush (M := md_X11_init) (pc := 469) (x := 12) dX11_init_469 (by decide) ?_
  refine q_newA (M := md_X11_init) (pc := 471) (N := 120) (k := 0) (n := 12) (atype := .int) rfl (Or.inl ⟨rfl, rfl⟩) ac_int dX11_init_471 (by decide +kernel) (q_wlit rfl) (by decide) (hB104 120 (Nat.le_refl _)) (by decide) (by decide) ?_
  have hB106 := q_B_le (N' := 121) hB104 (by decide)
  have hF106 := q_Fb_le (N' := 121) hF105 (by decide)
  refine q_putF (M := md_X11_init) (pc := 473) (r := 81) (x := 120) fl_11_130 ⟨_, _, rfl⟩ (Or.inr ⟨_, rfl⟩) rfl dX11_init_473 (q_isc (r := 81) (by decide) (by decide +kernel)) (by decide) ?_
  have hF107 := q_Fb_pu (r := 81) (j := 63) (v := 120) hF106 (by decide)
  refine q_aload_n (M := md_X11_init) (pc := 476) dX11_init_476 rfl (by decide) ?_
  refine q_bipush (M := md_X11_init) (pc := 477) (x := 100) dX11_init_477 (by decide) ?_
  refine q_newA (M := md_X11_init) (pc := 479) (N := 121) (k := 0) (n := 100) (atype := .int) rfl (Or.inl ⟨rfl, rfl⟩) ac_int dX11_init_479 (by decide +kernel) (q_wlit rfl) (by decide) (hB106 121 (Nat.le_refl _)) (by decide) (by decide) ?_
  have hB108 := q_B_le (N' := 122) hB106 (by decide)
  have hF108 := q_Fb_le (N' := 122) hF107 (by decide)
  refine q_putF (M := md_X11_init) (pc := 481) (r := 81) (x := 121) fl_11_133 ⟨_, _, rfl⟩ (Or.inr ⟨_, rfl⟩) rfl dX11_init_481 (q_isc (r := 81) (by decide) (by decide +kernel)) (by decide) ?_
  have hF109 := q_Fb_pu (r := 81) (j := 64) (v := 121) hF108 (by decide)
  refine q_aload_n (M := md_X11_init) (pc := 484) dX11_init_484 rfl (by decide) ?_
  refine q_sipush (M := md_X11_init) (pc := 485) (x := 10000) dX11_init_485 (by decide) ?_
  refine q_newA (M := md_X11_init) (pc := 488) (N := 122) (k := 2) (n := 10000) (atype := .boolean) rfl (Or.inr (Or.inr ⟨rfl, rfl⟩)) ac_boolean dX11_init_488 (by decide +kernel) (q_wlit rfl) (by decide) (hB108 122 (Nat.le_refl _)) (by decide) (by decide) ?_
  have hB110 := q_B_le (N' := 123) hB108 (by decide)
  have hF110 := q_Fb_le (N' := 123) hF109 (by decide)
  refine q_putF (M := md_X11_init) (pc := 490) (r := 81) (x := 122) fl_11_136 ⟨_, _, rfl⟩ (Or.inr ⟨_, rfl⟩) rfl dX11_init_490 (q_isc (r := 81) (by decide) (by decide +kernel)) (by decide) ?_
  have hF111 := q_Fb_pu (r := 81) (j := 65) (v := 122) hF110 (by decide)
  refine q_aload_n (M := md_X11_init) (pc := 493) dX11_init_493 rfl (by decide) ?_
  refine q_sipush (M := md_X11_init) (pc := 494) (x := 1449) dX11_init_494 (by decide) ?_
  refine q_newA (M := md_X11_init) (pc := 497) (N := 123) (k := 0) (n := 1449) (atype := .int) rfl (Or.inl ⟨rfl, rfl⟩) ac_int dX11_init_497 (by decide +kernel) (q_wlit rfl) (by decide) (hB110 123 (Nat.le_refl _)) (by decide) (by decide) ?_
  have hB112 := q_B_le (N' := 124) hB110 (by decide)
  have hF112 := q_Fb_le (N' := 124) hF111 (by decide)
  refine q_putF (M := md_X11_init) (pc := 499) (r := 81) (x := 123) fl_11_139 ⟨_, _, rfl⟩ (Or.inr ⟨_, rfl⟩) rfl dX11_init_499 (q_isc (r := 81) (by decide) (by decide +kernel)) (by decide) ?_
  have hF113 := q_Fb_pu (r := 81) (j := 66) (v := 123) hF112 (by decide)
  refine q_aload_n (M := md_X11_init) (pc := 502) dX11_init_502 rfl (by decide) ?_
  refine q_sipush (M := md_X11_init) (pc := 503) (x := 138) dX11_init_503 (by decide) ?_
  refine q_newA (M := md_X11_init) (pc := 506) (N := 124) (k := 0) (n := 138) (atype := .int) rfl (Or.inl ⟨rfl, rfl⟩) ac_int dX11_init_506 (by decide +kernel) (q_wlit rfl) (by decide) (hB112 124 (Nat.le_refl _)) (by decide) (by decide) ?_
  have hB114 := q_B_le (N' := 125) hB112 (by decide)
  have hF114 := q_Fb_le (N' := 125) hF113 (by decide)
  refine q_putF (M := md_X11_init) (pc := 508) (r := 81) (x := 124) fl_11_142 ⟨_, _, rfl⟩ (Or.inr ⟨_, rfl⟩) rfl dX11_init_508 (q_isc (r := 81) (by decide) (by decide +kernel)) (by decide) ?_
  have hF115 := q_Fb_pu (r := 81) (j := 67) (v := 124) hF114 (by decide)
  refine q_aload_n (M := md_X11_init) (pc := 511) dX11_init_511 rfl (by decide) ?_
  refine q_iconst (M := md_X11_init) (pc := 512) dX11_init_512 ?_
  refine q_newA (M := md_X11_init) (pc := 513) (N := 125) (k := 2) (n := 2) (atype := .boolean) rfl (Or.inr (Or.inr ⟨rfl, rfl⟩)) ac_boolean dX11_init_513 (by decide +kernel) (q_wlit rfl) (by decide) (hB114 125 (Nat.le_refl _)) (by decide) (by decide) ?_
  have hB116 := q_B_le (N' := 126) hB114 (by decide)
  have hF116 := q_Fb_le (N' := 126) hF115 (by decide)
  refine q_putF (M := md_X11_init) (pc := 515) (r := 81) (x := 125) fl_11_145 ⟨_, _, rfl⟩ (Or.inr ⟨_, rfl⟩) rfl dX11_init_515 (q_isc (r := 81) (by decide) (by decide +kernel)) (by decide) ?_
  have hF117 := q_Fb_pu (r := 81) (j := 68) (v := 125) hF116 (by decide)
  refine q_aload_n (M := md_X11_init) (pc := 518) dX11_init_518 rfl (by decide) ?_
  refine q_iconst (M := md_X11_init) (pc := 519) dX11_init_519 ?_
  refine q_R_phi (phi' := q_phi) mp_ok ?_
  refine q_callV (M := md_X11_init) (pc := 520) (M' := md_X11_clearBank) (rm' := q_room 1) (mc' := 0) (ms' := 0) (k := 11) (av := [q_I 0]) (r := 81) (v := none) (m' := r1.2) (g' := q_g 126) ml_11_148 im_X11_clearBank se_X11_clearBank dX11_init_520 (ok_X11_clearBank (by decide) h1) rfl (q_isc (r := 81) (by decide) (by decide +kernel)) ⟨_, _, rfl⟩ (by decide) (Nat.le_of_ble_eq_true rfl) ⟨rfl, rfl, by decide, by decide, by decide, by decide⟩ ?_
  refine q_aload_n (M := md_X11_init) (pc := 523) (x := 81) dX11_init_523 rfl (by decide) ?_
  refine q_callV (M := md_X11_init) (pc := 524) (M' := md_X11_startAnew) (rm' := q_room 1) (mc' := 0) (ms' := 0) (k := 11) (av := []) (r := 81) (v := none) (m' := r2.2) (g' := q_g 126) ml_11_152 im_X11_startAnew se_X11_startAnew dX11_init_524 (ok_X11_startAnew (by decide) h2) rfl (q_isc (r := 81) (by decide) (by decide +kernel)) ⟨_, _, rfl⟩ (by decide) (Nat.le_of_ble_eq_true rfl) ⟨rfl, rfl, by decide, by decide, by decide, by decide⟩ ?_
  exact q_vret (M := md_X11_init) (pc := 527) rfl dX11_init_527 rfl (Nat.le_refl _) (Nat.le_refl _)
