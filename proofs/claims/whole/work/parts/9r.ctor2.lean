/-! THE CONSTRUCTORS: the small ones -/
def q_rmC (d C S : Nat) : Room := { frames := d, cells := C, slots := S, locals := 64 * d }
/-- what lies behind is blank -/
def q_B (N : Nat) (m : q_Mem) : Prop := ∀ c : Nat, N ≤ c → m c = q_m0 c
def q_Fb (N : Nat) (phi : Nat → Nat → Int) : Prop := ∀ c : Nat, N ≤ c → phi c = fun _ => -1
theorem q_B_le {N N' : Nat} {m : q_Mem} (h : q_B N m) (hn : N ≤ N') : q_B N' m := fun c hc => h c (Nat.le_trans hn hc)
theorem q_Fb_le {N N' : Nat} {phi : Nat → Nat → Int} (h : q_Fb N phi) (hn : N ≤ N') : q_Fb N' phi := fun c hc => h c (Nat.le_trans hn hc)
theorem q_B_up {N : Nat} {m : q_Mem} {r j v : Int} (h : q_B N m) (hr : r < N) : q_B N (q_up m r j v) := fun c hc => by rw [q_up_f (by omega)]; exact h c hc
theorem q_Fb_pu {N r j : Nat} {v : Int} {phi : Nat → Nat → Int} (h : q_Fb N phi) (hr : r < N) : q_Fb N (q_pu phi r j v) := fun c hc => by
  rw [← h c hc]
  funext j'
  exact if_neg (by omega)
theorem q_isc {N r k : Nat} {phi : Nat → Nat → Int} (h1 : r < N) (h2 : (q_lay r).1 = k) : q_is (N, q_lay, phi) r k := ⟨by omega, by rw [Int.toNat_natCast]; exact h1, by rw [Int.toNat_natCast]; exact h2⟩
theorem q_arc {N r k n : Nat} {phi : Nat → Nat → Int} (h1 : r < N) (h2 : q_lay r = (k, n)) : q_ar (N, q_lay, phi) r k n := ⟨by omega, by rw [Int.toNat_natCast]; exact h1, by rw [Int.toNat_natCast]; exact h2⟩
theorem tk_0 : ∀ j, j < 3 → q_tyok (tyX0 j) (q_so 0 j) = true := by decide +kernel
theorem tk_1 : ∀ j, j < 6 → q_tyok (tyX1 j) (q_so 1 j) = true := by decide +kernel
theorem tk_2 : ∀ j, j < 18 → q_tyok (tyX2 j) (q_so 2 j) = true := by decide +kernel
theorem tk_3 : ∀ j, j < 11 → q_tyok (tyX3 j) (q_so 3 j) = true := by decide +kernel
theorem tk_4 : ∀ j, j < 12 → q_tyok (tyX4 j) (q_so 4 j) = true := by decide +kernel
theorem tk_5 : ∀ j, j < 6 → q_tyok (tyX5 j) (q_so 5 j) = true := by decide +kernel
theorem tk_6 : ∀ j, j < 6 → q_tyok (tyX6 j) (q_so 6 j) = true := by decide +kernel
theorem tk_7 : ∀ j, j < 6 → q_tyok (tyX7 j) (q_so 7 j) = true := by decide +kernel
theorem tk_8 : ∀ j, j < 12 → q_tyok (tyX8 j) (q_so 8 j) = true := by decide +kernel
theorem tk_9 : ∀ j, j < 8 → q_tyok (tyX9 j) (q_so 9 j) = true := by decide +kernel
theorem tk_10 : ∀ j, j < 16 → q_tyok (tyX10 j) (q_so 10 j) = true := by decide +kernel
theorem tk_11 : ∀ j, j < 71 → q_tyok (tyX11 j) (q_so 11 j) = true := by decide +kernel
theorem k_Lay {N : Nat} {phi : Nat → Nat → Int} {m : q_Mem} {c : Int} (hc : 0 ≤ c) : q_C md_X1_init (q_rmC 1 0 0) 0 0 [q_A c] (N, q_lay, phi) m (none, (N, q_lay, phi), m) := by
  refine q_ofR (by decide) 0 (ls := [q_A c]) rfl (Nat.le_of_ble_eq_true rfl) ?_
  refine q_aload_n (M := md_X1_init) (pc := 0) dX1_init_0 rfl hc ?_
  refine q_obj (M := md_X1_init) (pc := 1) dX1_init_1 jl_1_1 jm_Obj jc_Obj hc (Nat.le_of_ble_eq_true rfl) (Nat.le_of_ble_eq_true rfl) ?_
  exact q_vret (M := md_X1_init) (pc := 4) rfl dX1_init_4 rfl (Nat.le_refl _) (Nat.le_refl _)
def q_mL (t : Int) (m : q_Mem) : q_Mem := (q_up (q_up (q_up (q_up (q_up (q_up (q_up (q_up (q_up (q_up (q_up (q_up (q_up (q_up m t 0 1) t 1 1) t 2 0) t 3 0) t 4 0) t 5 0) t 6 0) t 7 0) (t + 1) 0 1) (t + 1) 1 1) (t + 1) 2 1) (t + 1) 3 0) (t + 1) 4 1) (t + 1) 5 0)
theorem k_clear {g : q_G} {m : q_Mem} {t : Int} (h1 : q_is g t 2) (h2 : q_is g (t + 1) 1) (h3 : g.2.2 t.toNat 8 = t + 1) : q_C md_X2_clear (q_room 1) 0 0 [q_A t] g m (none, g, q_mL t m) := by
  have h0 := h1.1
  refine q_ofR (by decide) 0 (ls := [q_A t]) rfl (Nat.le_of_ble_eq_true rfl) ?_
  refine q_aload_n (M := md_X2_clear) (pc := 0) dX2_clear_0 rfl h0 ?_
  refine q_iconst (M := md_X2_clear) (pc := 1) dX2_clear_1 ?_
  refine q_putI (M := md_X2_clear) (pc := 2) fl_2_49 dX2_clear_2 h1 ?_
  refine q_aload_n (M := md_X2_clear) (pc := 5) dX2_clear_5 rfl h0 ?_
  refine q_iconst (M := md_X2_clear) (pc := 6) dX2_clear_6 ?_
  refine q_putI (M := md_X2_clear) (pc := 7) fl_2_53 dX2_clear_7 h1 ?_
  refine q_aload_n (M := md_X2_clear) (pc := 10) dX2_clear_10 rfl h0 ?_
  refine q_iconst (M := md_X2_clear) (pc := 11) dX2_clear_11 ?_
  refine q_putI (M := md_X2_clear) (pc := 12) fl_2_56 dX2_clear_12 h1 ?_
  refine q_aload_n (M := md_X2_clear) (pc := 15) dX2_clear_15 rfl h0 ?_
  refine q_iconst (M := md_X2_clear) (pc := 16) dX2_clear_16 ?_
  refine q_putI (M := md_X2_clear) (pc := 17) fl_2_59 dX2_clear_17 h1 ?_
  refine q_aload_n (M := md_X2_clear) (pc := 20) dX2_clear_20 rfl h0 ?_
  refine q_iconst (M := md_X2_clear) (pc := 21) dX2_clear_21 ?_
  refine q_putI (M := md_X2_clear) (pc := 22) fl_2_62 dX2_clear_22 h1 ?_
  refine q_aload_n (M := md_X2_clear) (pc := 25) dX2_clear_25 rfl h0 ?_
  refine q_iconst (M := md_X2_clear) (pc := 26) dX2_clear_26 ?_
  refine q_putI (M := md_X2_clear) (pc := 27) fl_2_65 dX2_clear_27 h1 ?_
  refine q_aload_n (M := md_X2_clear) (pc := 30) dX2_clear_30 rfl h0 ?_
  refine q_iconst (M := md_X2_clear) (pc := 31) dX2_clear_31 ?_
  refine q_putI (M := md_X2_clear) (pc := 32) fl_2_68 dX2_clear_32 h1 ?_
  refine q_aload_n (M := md_X2_clear) (pc := 35) dX2_clear_35 rfl h0 ?_
  refine q_iconst (M := md_X2_clear) (pc := 36) dX2_clear_36 ?_
  refine q_putI (M := md_X2_clear) (pc := 37) fl_2_71 dX2_clear_37 h1 ?_
  refine q_aload_n (M := md_X2_clear) (pc := 40) dX2_clear_40 rfl h0 ?_
  refine q_getP (M := md_X2_clear) (pc := 41) (v := t + 1) fl_2_12 dX2_clear_41 h1 h3 ?_
  refine q_iconst (M := md_X2_clear) (pc := 44) dX2_clear_44 ?_
  refine q_putI (M := md_X2_clear) (pc := 45) fl_2_74 dX2_clear_45 h2 ?_
  refine q_aload_n (M := md_X2_clear) (pc := 48) dX2_clear_48 rfl h0 ?_
  refine q_getP (M := md_X2_clear) (pc := 49) (v := t + 1) fl_2_12 dX2_clear_49 h1 h3 ?_
  refine q_iconst (M := md_X2_clear) (pc := 52) dX2_clear_52 ?_
  refine q_putI (M := md_X2_clear) (pc := 53) fl_2_77 dX2_clear_53 h2 ?_
  refine q_aload_n (M := md_X2_clear) (pc := 56) dX2_clear_56 rfl h0 ?_
  refine q_getP (M := md_X2_clear) (pc := 57) (v := t + 1) fl_2_12 dX2_clear_57 h1 h3 ?_
  refine q_iconst (M := md_X2_clear) (pc := 60) dX2_clear_60 ?_
  refine q_putI (M := md_X2_clear) (pc := 61) fl_2_80 dX2_clear_61 h2 ?_
  refine q_aload_n (M := md_X2_clear) (pc := 64) dX2_clear_64 rfl h0 ?_
  refine q_getP (M := md_X2_clear) (pc := 65) (v := t + 1) fl_2_12 dX2_clear_65 h1 h3 ?_
  refine q_iconst (M := md_X2_clear) (pc := 68) dX2_clear_68 ?_
  refine q_putI (M := md_X2_clear) (pc := 69) fl_2_83 dX2_clear_69 h2 ?_
  refine q_aload_n (M := md_X2_clear) (pc := 72) dX2_clear_72 rfl h0 ?_
  refine q_getP (M := md_X2_clear) (pc := 73) (v := t + 1) fl_2_12 dX2_clear_73 h1 h3 ?_
  refine q_iconst (M := md_X2_clear) (pc := 76) dX2_clear_76 ?_
  refine q_putI (M := md_X2_clear) (pc := 77) fl_2_86 dX2_clear_77 h2 ?_
  refine q_aload_n (M := md_X2_clear) (pc := 80) dX2_clear_80 rfl h0 ?_
  refine q_getP (M := md_X2_clear) (pc := 81) (v := t + 1) fl_2_12 dX2_clear_81 h1 h3 ?_
  refine q_lconst (M := md_X2_clear) (pc := 84) (x := 0) dX2_clear_84 (by decide) ?_
  refine q_putL (M := md_X2_clear) (pc := 85) fl_2_89 dX2_clear_85 h2 ?_
  exact q_vret (M := md_X2_clear) (pc := 88) rfl dX2_clear_88 rfl (Nat.le_refl _) (Nat.le_refl _)
set_option maxRecDepth 20000 in
theorem k_Tape {m : q_Mem} {phi : Nat → Nat → Int} (hB : q_B 2 m) (hF : q_Fb 2 phi) : q_C md_X7_init (q_rmC 2 1 800) 1 800 [q_A 1] (2, q_lay, phi) m (none, (3, q_lay, (q_pu phi 1 0 2)), m) := by
  refine q_ofR (by decide) 0 (ls := [q_A 1]) rfl (Nat.le_of_ble_eq_true rfl) ?_
  refine q_aload_n (M := md_X7_init) (pc := 0) dX7_init_0 rfl (by decide) ?_
  refine q_obj (M := md_X7_init) (pc := 1) dX7_init_1 jl_7_1 jm_Obj jc_Obj (by decide) (Nat.le_of_ble_eq_true rfl) (Nat.le_of_ble_eq_true rfl) ?_
  refine q_aload_n (M := md_X7_init) (pc := 4) dX7_init_4 rfl (by decide) ?_
  refine q_sipush (M := md_X7_init) (pc := 5) (x := 800) dX7_init_5 (by decide) ?_
  refine q_newA (M := md_X7_init) (pc := 8) (N := 2) (k := 1) (n := 800) (atype := .byte) rfl (Or.inr (Or.inl ⟨rfl, rfl⟩)) ac_byte dX7_init_8 (by decide +kernel) (q_wlit rfl) (by decide) (hB 2 (Nat.le_refl _)) (by decide) (by decide) ?_
  have hB1 := q_B_le (N' := 3) hB (by decide)
  have hF1 := q_Fb_le (N' := 3) hF (by decide)
  refine q_putF (M := md_X7_init) (pc := 10) (r := 1) (x := 2) fl_7_9 ⟨_, _, rfl⟩ (Or.inr ⟨_, rfl⟩) rfl dX7_init_10 (q_isc (r := 1) (by decide) (by decide +kernel)) (by decide) ?_
  have hF2 := q_Fb_pu (r := 1) (j := 0) (v := 2) hF1 (by decide)
  exact q_vret (M := md_X7_init) (pc := 13) rfl dX7_init_13 rfl (Nat.le_refl _) (Nat.le_refl _)
set_option maxRecDepth 20000 in
theorem k_Web {m : q_Mem} {phi : Nat → Nat → Int} (hB : q_B 54 m) (hF : q_Fb 54 phi) : q_C md_X9_init (q_rmC 2 6 600) 6 600 [q_A 53] (54, q_lay, phi) m (none, (60, q_lay, (q_pu (q_pu (q_pu (q_pu (q_pu (q_pu phi 53 0 54) 53 1 55) 53 2 56) 53 3 57) 53 4 58) 53 5 59)), m) := by
  refine q_ofR (by decide) 0 (ls := [q_A 53]) rfl (Nat.le_of_ble_eq_true rfl) ?_
  refine q_aload_n (M := md_X9_init) (pc := 0) dX9_init_0 rfl (by decide) ?_
  refine q_obj (M := md_X9_init) (pc := 1) dX9_init_1 jl_9_3 jm_Obj jc_Obj (by decide) (Nat.le_of_ble_eq_true rfl) (Nat.le_of_ble_eq_true rfl) ?_
  refine q_aload_n (M := md_X9_init) (pc := 4) dX9_init_4 rfl (by decide) ?_
  refine q_bipush (M := md_X9_init) (pc := 5) (x := 100) dX9_init_5 (by decide) ?_
  refine q_newA (M := md_X9_init) (pc := 7) (N := 54) (k := 0) (n := 100) (atype := .int) rfl (Or.inl ⟨rfl, rfl⟩) ac_int dX9_init_7 (by decide +kernel) (q_wlit rfl) (by decide) (hB 54 (Nat.le_refl _)) (by decide) (by decide) ?_
  have hB1 := q_B_le (N' := 55) hB (by decide)
  have hF1 := q_Fb_le (N' := 55) hF (by decide)
  refine q_putF (M := md_X9_init) (pc := 9) (r := 53) (x := 54) fl_9_9 ⟨_, _, rfl⟩ (Or.inr ⟨_, rfl⟩) rfl dX9_init_9 (q_isc (r := 53) (by decide) (by decide +kernel)) (by decide) ?_
  have hF2 := q_Fb_pu (r := 53) (j := 0) (v := 54) hF1 (by decide)
  refine q_aload_n (M := md_X9_init) (pc := 12) dX9_init_12 rfl (by decide) ?_
  refine q_bipush (M := md_X9_init) (pc := 13) (x := 100) dX9_init_13 (by decide) ?_
  refine q_newA (M := md_X9_init) (pc := 15) (N := 55) (k := 0) (n := 100) (atype := .int) rfl (Or.inl ⟨rfl, rfl⟩) ac_int dX9_init_15 (by decide +kernel) (q_wlit rfl) (by decide) (hB1 55 (Nat.le_refl _)) (by decide) (by decide) ?_
  have hB3 := q_B_le (N' := 56) hB1 (by decide)
  have hF3 := q_Fb_le (N' := 56) hF2 (by decide)
  refine q_putF (M := md_X9_init) (pc := 17) (r := 53) (x := 55) fl_9_15 ⟨_, _, rfl⟩ (Or.inr ⟨_, rfl⟩) rfl dX9_init_17 (q_isc (r := 53) (by decide) (by decide +kernel)) (by decide) ?_
  have hF4 := q_Fb_pu (r := 53) (j := 1) (v := 55) hF3 (by decide)
  refine q_aload_n (M := md_X9_init) (pc := 20) dX9_init_20 rfl (by decide) ?_
  refine q_bipush (M := md_X9_init) (pc := 21) (x := 100) dX9_init_21 (by decide) ?_
  refine q_newA (M := md_X9_init) (pc := 23) (N := 56) (k := 0) (n := 100) (atype := .int) rfl (Or.inl ⟨rfl, rfl⟩) ac_int dX9_init_23 (by decide +kernel) (q_wlit rfl) (by decide) (hB3 56 (Nat.le_refl _)) (by decide) (by decide) ?_
  have hB5 := q_B_le (N' := 57) hB3 (by decide)
  have hF5 := q_Fb_le (N' := 57) hF4 (by decide)
  refine q_putF (M := md_X9_init) (pc := 25) (r := 53) (x := 56) fl_9_18 ⟨_, _, rfl⟩ (Or.inr ⟨_, rfl⟩) rfl dX9_init_25 (q_isc (r := 53) (by decide) (by decide +kernel)) (by decide) ?_
  have hF6 := q_Fb_pu (r := 53) (j := 2) (v := 56) hF5 (by decide)
  refine q_aload_n (M := md_X9_init) (pc := 28) dX9_init_28 rfl (by decide) ?_
  refine q_bipush (M := md_X9_init) (pc := 29) (x := 100) dX9_init_29 (by decide) ?_
  refine q_newA (M := md_X9_init) (pc := 31) (N := 57) (k := 0) (n := 100) (atype := .int) rfl (Or.inl ⟨rfl, rfl⟩) ac_int dX9_init_31 (by decide +kernel) (q_wlit rfl) (by decide) (hB5 57 (Nat.le_refl _)) (by decide) (by decide) ?_
  have hB7 := q_B_le (N' := 58) hB5 (by decide)
  have hF7 := q_Fb_le (N' := 58) hF6 (by decide)
  refine q_putF (M := md_X9_init) (pc := 33) (r := 53) (x := 57) fl_9_21 ⟨_, _, rfl⟩ (Or.inr ⟨_, rfl⟩) rfl dX9_init_33 (q_isc (r := 53) (by decide) (by decide +kernel)) (by decide) ?_
  have hF8 := q_Fb_pu (r := 53) (j := 3) (v := 57) hF7 (by decide)
  refine q_aload_n (M := md_X9_init) (pc := 36) dX9_init_36 rfl (by decide) ?_
  refine q_bipush (M := md_X9_init) (pc := 37) (x := 100) dX9_init_37 (by decide) ?_
  refine q_newA (M := md_X9_init) (pc := 39) (N := 58) (k := 0) (n := 100) (atype := .int) rfl (Or.inl ⟨rfl, rfl⟩) ac_int dX9_init_39 (by decide +kernel) (q_wlit rfl) (by decide) (hB7 58 (Nat.le_refl _)) (by decide) (by decide) ?_
  have hB9 := q_B_le (N' := 59) hB7 (by decide)
  have hF9 := q_Fb_le (N' := 59) hF8 (by decide)
  refine q_putF (M := md_X9_init) (pc := 41) (r := 53) (x := 58) fl_9_24 ⟨_, _, rfl⟩ (Or.inr ⟨_, rfl⟩) rfl dX9_init_41 (q_isc (r := 53) (by decide) (by decide +kernel)) (by decide) ?_
  have hF10 := q_Fb_pu (r := 53) (j := 4) (v := 58) hF9 (by decide)
  refine q_aload_n (M := md_X9_init) (pc := 44) dX9_init_44 rfl (by decide) ?_
  refine q_bipush (M := md_X9_init) (pc := 45) (x := 100) dX9_init_45 (by decide) ?_
  refine q_newA (M := md_X9_init) (pc := 47) (N := 59) (k := 0) (n := 100) (atype := .int) rfl (Or.inl ⟨rfl, rfl⟩) ac_int dX9_init_47 (by decide +kernel) (q_wlit rfl) (by decide) (hB9 59 (Nat.le_refl _)) (by decide) (by decide) ?_
  have hB11 := q_B_le (N' := 60) hB9 (by decide)
  have hF11 := q_Fb_le (N' := 60) hF10 (by decide)
  refine q_putF (M := md_X9_init) (pc := 49) (r := 53) (x := 59) fl_9_27 ⟨_, _, rfl⟩ (Or.inr ⟨_, rfl⟩) rfl dX9_init_49 (q_isc (r := 53) (by decide) (by decide +kernel)) (by decide) ?_
  have hF12 := q_Fb_pu (r := 53) (j := 5) (v := 59) hF11 (by decide)
  exact q_vret (M := md_X9_init) (pc := 52) rfl dX9_init_52 rfl (Nat.le_refl _) (Nat.le_refl _)
set_option maxRecDepth 20000 in
theorem k_Plac {m : q_Mem} {phi : Nat → Nat → Int} (hB : q_B 61 m) (hF : q_Fb 61 phi) : q_C md_X4_init (q_rmC 2 8 793) 8 793 [q_A 60] (61, q_lay, phi) m (none, (69, q_lay, (q_pu (q_pu (q_pu (q_pu (q_pu (q_pu (q_pu (q_pu phi 60 0 61) 60 1 62) 60 2 63) 60 3 64) 60 4 65) 60 5 66) 60 6 67) 60 7 68)), m) := by
  refine q_ofR (by decide) 0 (ls := [q_A 60]) rfl (Nat.le_of_ble_eq_true rfl) ?_
  refine q_aload_n (M := md_X4_init) (pc := 0) dX4_init_0 rfl (by decide) ?_
  refine q_obj (M := md_X4_init) (pc := 1) dX4_init_1 jl_4_3 jm_Obj jc_Obj (by decide) (Nat.le_of_ble_eq_true rfl) (Nat.le_of_ble_eq_true rfl) ?_
  refine q_aload_n (M := md_X4_init) (pc := 4) dX4_init_4 rfl (by decide) ?_
  refine q_bipush (M := md_X4_init) (pc := 5) (x := 100) dX4_init_5 (by decide) ?_
  refine q_newA (M := md_X4_init) (pc := 7) (N := 61) (k := 0) (n := 100) (atype := .int) rfl (Or.inl ⟨rfl, rfl⟩) ac_int dX4_init_7 (by decide +kernel) (q_wlit rfl) (by decide) (hB 61 (Nat.le_refl _)) (by decide) (by decide) ?_
  have hB1 := q_B_le (N' := 62) hB (by decide)
  have hF1 := q_Fb_le (N' := 62) hF (by decide)
  refine q_putF (M := md_X4_init) (pc := 9) (r := 60) (x := 61) fl_4_9 ⟨_, _, rfl⟩ (Or.inr ⟨_, rfl⟩) rfl dX4_init_9 (q_isc (r := 60) (by decide) (by decide +kernel)) (by decide) ?_
  have hF2 := q_Fb_pu (r := 60) (j := 0) (v := 61) hF1 (by decide)
  refine q_aload_n (M := md_X4_init) (pc := 12) dX4_init_12 rfl (by decide) ?_
  refine q_bipush (M := md_X4_init) (pc := 13) (x := 100) dX4_init_13 (by decide) ?_
  refine q_newA (M := md_X4_init) (pc := 15) (N := 62) (k := 0) (n := 100) (atype := .int) rfl (Or.inl ⟨rfl, rfl⟩) ac_int dX4_init_15 (by decide +kernel) (q_wlit rfl) (by decide) (hB1 62 (Nat.le_refl _)) (by decide) (by decide) ?_
  have hB3 := q_B_le (N' := 63) hB1 (by decide)
  have hF3 := q_Fb_le (N' := 63) hF2 (by decide)
  refine q_putF (M := md_X4_init) (pc := 17) (r := 60) (x := 62) fl_4_15 ⟨_, _, rfl⟩ (Or.inr ⟨_, rfl⟩) rfl dX4_init_17 (q_isc (r := 60) (by decide) (by decide +kernel)) (by decide) ?_
  have hF4 := q_Fb_pu (r := 60) (j := 1) (v := 62) hF3 (by decide)
  refine q_aload_n (M := md_X4_init) (pc := 20) dX4_init_20 rfl (by decide) ?_
  refine q_bipush (M := md_X4_init) (pc := 21) (x := 100) dX4_init_21 (by decide) ?_
  refine q_newA (M := md_X4_init) (pc := 23) (N := 63) (k := 2) (n := 100) (atype := .boolean) rfl (Or.inr (Or.inr ⟨rfl, rfl⟩)) ac_boolean dX4_init_23 (by decide +kernel) (q_wlit rfl) (by decide) (hB3 63 (Nat.le_refl _)) (by decide) (by decide) ?_
  have hB5 := q_B_le (N' := 64) hB3 (by decide)
  have hF5 := q_Fb_le (N' := 64) hF4 (by decide)
  refine q_putF (M := md_X4_init) (pc := 25) (r := 60) (x := 63) fl_4_18 ⟨_, _, rfl⟩ (Or.inr ⟨_, rfl⟩) rfl dX4_init_25 (q_isc (r := 60) (by decide) (by decide +kernel)) (by decide) ?_
  have hF6 := q_Fb_pu (r := 60) (j := 2) (v := 63) hF5 (by decide)
  refine q_aload_n (M := md_X4_init) (pc := 28) dX4_init_28 rfl (by decide) ?_
  refine q_bipush (M := md_X4_init) (pc := 29) (x := 100) dX4_init_29 (by decide) ?_
  refine q_newA (M := md_X4_init) (pc := 31) (N := 64) (k := 0) (n := 100) (atype := .int) rfl (Or.inl ⟨rfl, rfl⟩) ac_int dX4_init_31 (by decide +kernel) (q_wlit rfl) (by decide) (hB5 64 (Nat.le_refl _)) (by decide) (by decide) ?_
  have hB7 := q_B_le (N' := 65) hB5 (by decide)
  have hF7 := q_Fb_le (N' := 65) hF6 (by decide)
  refine q_putF (M := md_X4_init) (pc := 33) (r := 60) (x := 64) fl_4_22 ⟨_, _, rfl⟩ (Or.inr ⟨_, rfl⟩) rfl dX4_init_33 (q_isc (r := 60) (by decide) (by decide +kernel)) (by decide) ?_
  have hF8 := q_Fb_pu (r := 60) (j := 3) (v := 64) hF7 (by decide)
  refine q_aload_n (M := md_X4_init) (pc := 36) dX4_init_36 rfl (by decide) ?_
  refine q_sipush (M := md_X4_init) (pc := 37) (x := 163) dX4_init_37 (by decide) ?_
  refine q_newA (M := md_X4_init) (pc := 40) (N := 65) (k := 0) (n := 163) (atype := .int) rfl (Or.inl ⟨rfl, rfl⟩) ac_int dX4_init_40 (by decide +kernel) (q_wlit rfl) (by decide) (hB7 65 (Nat.le_refl _)) (by decide) (by decide) ?_
  have hB9 := q_B_le (N' := 66) hB7 (by decide)
  have hF9 := q_Fb_le (N' := 66) hF8 (by decide)
  refine q_putF (M := md_X4_init) (pc := 42) (r := 60) (x := 65) fl_4_25 ⟨_, _, rfl⟩ (Or.inr ⟨_, rfl⟩) rfl dX4_init_42 (q_isc (r := 60) (by decide) (by decide +kernel)) (by decide) ?_
  have hF10 := q_Fb_pu (r := 60) (j := 4) (v := 65) hF9 (by decide)
  refine q_aload_n (M := md_X4_init) (pc := 45) dX4_init_45 rfl (by decide) ?_
  refine q_sipush (M := md_X4_init) (pc := 46) (x := 163) dX4_init_46 (by decide) ?_
  refine q_newA (M := md_X4_init) (pc := 49) (N := 66) (k := 0) (n := 163) (atype := .int) rfl (Or.inl ⟨rfl, rfl⟩) ac_int dX4_init_49 (by decide +kernel) (q_wlit rfl) (by decide) (hB9 66 (Nat.le_refl _)) (by decide) (by decide) ?_
  have hB11 := q_B_le (N' := 67) hB9 (by decide)
  have hF11 := q_Fb_le (N' := 67) hF10 (by decide)
  refine q_putF (M := md_X4_init) (pc := 51) (r := 60) (x := 66) fl_4_28 ⟨_, _, rfl⟩ (Or.inr ⟨_, rfl⟩) rfl dX4_init_51 (q_isc (r := 60) (by decide) (by decide +kernel)) (by decide) ?_
  have hF12 := q_Fb_pu (r := 60) (j := 5) (v := 66) hF11 (by decide)
  refine q_aload_n (M := md_X4_init) (pc := 54) dX4_init_54 rfl (by decide) ?_
  refine q_bipush (M := md_X4_init) (pc := 55) (x := 55) dX4_init_55 (by decide) ?_
  refine q_newA (M := md_X4_init) (pc := 57) (N := 67) (k := 0) (n := 55) (atype := .int) rfl (Or.inl ⟨rfl, rfl⟩) ac_int dX4_init_57 (by decide +kernel) (q_wlit rfl) (by decide) (hB11 67 (Nat.le_refl _)) (by decide) (by decide) ?_
  have hB13 := q_B_le (N' := 68) hB11 (by decide)
  have hF13 := q_Fb_le (N' := 68) hF12 (by decide)
  refine q_putF (M := md_X4_init) (pc := 59) (r := 60) (x := 67) fl_4_31 ⟨_, _, rfl⟩ (Or.inr ⟨_, rfl⟩) rfl dX4_init_59 (q_isc (r := 60) (by decide) (by decide +kernel)) (by decide) ?_
  have hF14 := q_Fb_pu (r := 60) (j := 6) (v := 67) hF13 (by decide)
  refine q_aload_n (M := md_X4_init) (pc := 62) dX4_init_62 rfl (by decide) ?_
  refine q_bipush (M := md_X4_init) (pc := 63) (x := 12) dX4_init_63 (by decide) ?_
  refine q_newA (M := md_X4_init) (pc := 65) (N := 68) (k := 0) (n := 12) (atype := .int) rfl (Or.inl ⟨rfl, rfl⟩) ac_int dX4_init_65 (by decide +kernel) (q_wlit rfl) (by decide) (hB13 68 (Nat.le_refl _)) (by decide) (by decide) ?_
  have hB15 := q_B_le (N' := 69) hB13 (by decide)
  have hF15 := q_Fb_le (N' := 69) hF14 (by decide)
  refine q_putF (M := md_X4_init) (pc := 67) (r := 60) (x := 68) fl_4_34 ⟨_, _, rfl⟩ (Or.inr ⟨_, rfl⟩) rfl dX4_init_67 (q_isc (r := 60) (by decide) (by decide +kernel)) (by decide) ?_
  have hF16 := q_Fb_pu (r := 60) (j := 7) (v := 68) hF15 (by decide)
  exact q_vret (M := md_X4_init) (pc := 70) rfl dX4_init_70 rfl (Nat.le_refl _) (Nat.le_refl _)
set_option maxRecDepth 20000 in
theorem k_Tile {m : q_Mem} {phi : Nat → Nat → Int} (hB : q_B 70 m) (hF : q_Fb 70 phi) : q_C md_X8_init (q_rmC 2 3 300) 3 300 [q_A 69] (70, q_lay, phi) m (none, (73, q_lay, (q_pu (q_pu (q_pu phi 69 0 70) 69 1 71) 69 2 72)), (q_up (q_up (q_up m 69 3 (1)) 69 4 (1)) 69 5 (1))) := by
  refine q_ofR (by decide) 0 (ls := [q_A 69]) rfl (Nat.le_of_ble_eq_true rfl) ?_
  refine q_aload_n (M := md_X8_init) (pc := 0) dX8_init_0 rfl (by decide) ?_
  refine q_obj (M := md_X8_init) (pc := 1) dX8_init_1 jl_8_3 jm_Obj jc_Obj (by decide) (Nat.le_of_ble_eq_true rfl) (Nat.le_of_ble_eq_true rfl) ?_
  refine q_aload_n (M := md_X8_init) (pc := 4) dX8_init_4 rfl (by decide) ?_
  refine q_bipush (M := md_X8_init) (pc := 5) (x := 100) dX8_init_5 (by decide) ?_
  refine q_newA (M := md_X8_init) (pc := 7) (N := 70) (k := 0) (n := 100) (atype := .int) rfl (Or.inl ⟨rfl, rfl⟩) ac_int dX8_init_7 (by decide +kernel) (q_wlit rfl) (by decide) (hB 70 (Nat.le_refl _)) (by decide) (by decide) ?_
  have hB1 := q_B_le (N' := 71) hB (by decide)
  have hF1 := q_Fb_le (N' := 71) hF (by decide)
  refine q_putF (M := md_X8_init) (pc := 9) (r := 69) (x := 70) fl_8_9 ⟨_, _, rfl⟩ (Or.inr ⟨_, rfl⟩) rfl dX8_init_9 (q_isc (r := 69) (by decide) (by decide +kernel)) (by decide) ?_
  have hF2 := q_Fb_pu (r := 69) (j := 0) (v := 70) hF1 (by decide)
  refine q_aload_n (M := md_X8_init) (pc := 12) dX8_init_12 rfl (by decide) ?_
  refine q_bipush (M := md_X8_init) (pc := 13) (x := 100) dX8_init_13 (by decide) ?_
  refine q_newA (M := md_X8_init) (pc := 15) (N := 71) (k := 0) (n := 100) (atype := .int) rfl (Or.inl ⟨rfl, rfl⟩) ac_int dX8_init_15 (by decide +kernel) (q_wlit rfl) (by decide) (hB1 71 (Nat.le_refl _)) (by decide) (by decide) ?_
  have hB3 := q_B_le (N' := 72) hB1 (by decide)
  have hF3 := q_Fb_le (N' := 72) hF2 (by decide)
  refine q_putF (M := md_X8_init) (pc := 17) (r := 69) (x := 71) fl_8_15 ⟨_, _, rfl⟩ (Or.inr ⟨_, rfl⟩) rfl dX8_init_17 (q_isc (r := 69) (by decide) (by decide +kernel)) (by decide) ?_
  have hF4 := q_Fb_pu (r := 69) (j := 1) (v := 71) hF3 (by decide)
  refine q_aload_n (M := md_X8_init) (pc := 20) dX8_init_20 rfl (by decide) ?_
  refine q_bipush (M := md_X8_init) (pc := 21) (x := 100) dX8_init_21 (by decide) ?_
  refine q_newA (M := md_X8_init) (pc := 23) (N := 72) (k := 0) (n := 100) (atype := .int) rfl (Or.inl ⟨rfl, rfl⟩) ac_int dX8_init_23 (by decide +kernel) (q_wlit rfl) (by decide) (hB3 72 (Nat.le_refl _)) (by decide) (by decide) ?_
  have hB5 := q_B_le (N' := 73) hB3 (by decide)
  have hF5 := q_Fb_le (N' := 73) hF4 (by decide)
  refine q_putF (M := md_X8_init) (pc := 25) (r := 69) (x := 72) fl_8_18 ⟨_, _, rfl⟩ (Or.inr ⟨_, rfl⟩) rfl dX8_init_25 (q_isc (r := 69) (by decide) (by decide +kernel)) (by decide) ?_
  have hF6 := q_Fb_pu (r := 69) (j := 2) (v := 72) hF5 (by decide)
  refine q_aload_n (M := md_X8_init) (pc := 28) dX8_init_28 rfl (by decide) ?_
  refine q_iconst (M := md_X8_init) (pc := 29) dX8_init_29 ?_
  refine q_putI (M := md_X8_init) (pc := 30) (r := 69) fl_8_21 dX8_init_30 (q_isc (r := 69) (by decide) (by decide +kernel)) ?_
  have hB7 := q_B_up (r := 69) (j := 3) (v := (1)) hB5 (by decide)
  refine q_aload_n (M := md_X8_init) (pc := 33) dX8_init_33 rfl (by decide) ?_
  refine q_iconst (M := md_X8_init) (pc := 34) dX8_init_34 ?_
  refine q_putI (M := md_X8_init) (pc := 35) (r := 69) fl_8_25 dX8_init_35 (q_isc (r := 69) (by decide) (by decide +kernel)) ?_
  have hB8 := q_B_up (r := 69) (j := 4) (v := (1)) hB7 (by decide)
  refine q_aload_n (M := md_X8_init) (pc := 38) dX8_init_38 rfl (by decide) ?_
  refine q_iconst (M := md_X8_init) (pc := 39) dX8_init_39 ?_
  refine q_putI (M := md_X8_init) (pc := 40) (r := 69) fl_8_28 dX8_init_40 (q_isc (r := 69) (by decide) (by decide +kernel)) ?_
  have hB9 := q_B_up (r := 69) (j := 5) (v := (1)) hB8 (by decide)
  exact q_vret (M := md_X8_init) (pc := 43) rfl dX8_init_43 rfl (Nat.le_refl _) (Nat.le_refl _)
set_option maxRecDepth 20000 in
theorem k_Sear {m : q_Mem} {phi : Nat → Nat → Int} (hB : q_B 74 m) (hF : q_Fb 74 phi) : q_C md_X6_init (q_rmC 2 0 0) 0 0 [q_A 73] (74, q_lay, phi) m (none, (74, q_lay, phi), m) := by
  refine q_ofR (by decide) 0 (ls := [q_A 73]) rfl (Nat.le_of_ble_eq_true rfl) ?_
  refine q_aload_n (M := md_X6_init) (pc := 0) dX6_init_0 rfl (by decide) ?_
  refine q_obj (M := md_X6_init) (pc := 1) dX6_init_1 jl_6_3 jm_Obj jc_Obj (by decide) (Nat.le_of_ble_eq_true rfl) (Nat.le_of_ble_eq_true rfl) ?_
  exact q_vret (M := md_X6_init) (pc := 4) rfl dX6_init_4 rfl (Nat.le_refl _) (Nat.le_refl _)
set_option maxRecDepth 20000 in
theorem k_Pars {m : q_Mem} {phi : Nat → Nat → Int} (hB : q_B 26 m) (hF : q_Fb 26 phi) : q_C md_X3_init (q_rmC 2 2 6) 2 6 [q_A 25, q_A 1, q_A 14] (26, q_lay, phi) m (none, (28, q_lay, (q_pu (q_pu (q_pu phi 25 1 26) 25 2 27) 25 0 1)), (q_up (q_up m 25 5 (-1)) 25 3 14)) := by
  refine q_ofR (by decide) 0 (ls := [q_A 25, q_A 1, q_A 14]) rfl (Nat.le_of_ble_eq_true rfl) ?_
  refine q_aload_n (M := md_X3_init) (pc := 0) dX3_init_0 rfl (by decide) ?_
  refine q_obj (M := md_X3_init) (pc := 1) dX3_init_1 jl_3_3 jm_Obj jc_Obj (by decide) (Nat.le_of_ble_eq_true rfl) (Nat.le_of_ble_eq_true rfl) ?_
  refine q_aload_n (M := md_X3_init) (pc := 4) dX3_init_4 rfl (by decide) ?_
  refine q_iconst (M := md_X3_init) (pc := 5) dX3_init_5 ?_
  refine q_newA (M := md_X3_init) (pc := 6) (N := 26) (k := 0) (n := 3) (atype := .int) rfl (Or.inl ⟨rfl, rfl⟩) ac_int dX3_init_6 (by decide +kernel) (q_wlit rfl) (by decide) (hB 26 (Nat.le_refl _)) (by decide) (by decide) ?_
  have hB1 := q_B_le (N' := 27) hB (by decide)
  have hF1 := q_Fb_le (N' := 27) hF (by decide)
  refine q_putF (M := md_X3_init) (pc := 8) (r := 25) (x := 26) fl_3_9 ⟨_, _, rfl⟩ (Or.inr ⟨_, rfl⟩) rfl dX3_init_8 (q_isc (r := 25) (by decide) (by decide +kernel)) (by decide) ?_
  have hF2 := q_Fb_pu (r := 25) (j := 1) (v := 26) hF1 (by decide)
  refine q_aload_n (M := md_X3_init) (pc := 11) dX3_init_11 rfl (by decide) ?_
  refine q_iconst (M := md_X3_init) (pc := 12) dX3_init_12 ?_
  refine q_newA (M := md_X3_init) (pc := 13) (N := 27) (k := 0) (n := 3) (atype := .int) rfl (Or.inl ⟨rfl, rfl⟩) ac_int dX3_init_13 (by decide +kernel) (q_wlit rfl) (by decide) (hB1 27 (Nat.le_refl _)) (by decide) (by decide) ?_
  have hB3 := q_B_le (N' := 28) hB1 (by decide)
  have hF3 := q_Fb_le (N' := 28) hF2 (by decide)
  refine q_putF (M := md_X3_init) (pc := 15) (r := 25) (x := 27) fl_3_15 ⟨_, _, rfl⟩ (Or.inr ⟨_, rfl⟩) rfl dX3_init_15 (q_isc (r := 25) (by decide) (by decide +kernel)) (by decide) ?_
  have hF4 := q_Fb_pu (r := 25) (j := 2) (v := 27) hF3 (by decide)
  refine q_aload_n (M := md_X3_init) (pc := 18) dX3_init_18 rfl (by decide) ?_
  refine q_iconst (M := md_X3_init) (pc := 19) dX3_init_19 ?_
  refine q_putI (M := md_X3_init) (pc := 20) (r := 25) fl_3_18 dX3_init_20 (q_isc (r := 25) (by decide) (by decide +kernel)) ?_
  have hB5 := q_B_up (r := 25) (j := 5) (v := (-1)) hB3 (by decide)
  refine q_aload_n (M := md_X3_init) (pc := 23) dX3_init_23 rfl (by decide) ?_
  refine q_aload_n (M := md_X3_init) (pc := 24) dX3_init_24 rfl (by decide) ?_
  refine q_putF (M := md_X3_init) (pc := 25) (r := 25) (x := 1) fl_3_22 ⟨_, _, rfl⟩ (Or.inl ⟨_, rfl⟩) rfl dX3_init_25 (q_isc (r := 25) (by decide) (by decide +kernel)) (by decide) ?_
  have hF6 := q_Fb_pu (r := 25) (j := 0) (v := 1) hF4 (by decide)
  refine q_aload_n (M := md_X3_init) (pc := 28) dX3_init_28 rfl (by decide) ?_
  refine q_aload_n (M := md_X3_init) (pc := 29) dX3_init_29 rfl (by decide) ?_
  refine q_putR (M := md_X3_init) (pc := 30) (r := 25) (x := 14) fl_3_26 (Or.inl ⟨_, rfl⟩) dX3_init_30 (q_isc (r := 25) (by decide) (by decide +kernel)) (by decide) ?_
  have hB7 := q_B_up (r := 25) (j := 3) (v := 14) hB5 (by decide)
  exact q_vret (M := md_X3_init) (pc := 33) rfl dX3_init_33 rfl (Nat.le_refl _) (Nat.le_refl _)
set_option maxRecDepth 20000 in
theorem k_Reck {m : q_Mem} {phi : Nat → Nat → Int} (hB : q_B 78 m) (hF : q_Fb 78 phi) : q_C md_X5_init (q_rmC 2 1 80) 1 80 [q_A 77, q_A 3, q_A 54, q_A 74] (78, q_lay, phi) m (none, (79, q_lay, (q_pu phi 77 0 78)), (q_up (q_up (q_up m 77 1 3) 77 2 54) 77 3 74)) := by
  refine q_ofR (by decide) 0 (ls := [q_A 77, q_A 3, q_A 54, q_A 74]) rfl (Nat.le_of_ble_eq_true rfl) ?_
  refine q_aload_n (M := md_X5_init) (pc := 0) dX5_init_0 rfl (by decide) ?_
  refine q_obj (M := md_X5_init) (pc := 1) dX5_init_1 jl_5_3 jm_Obj jc_Obj (by decide) (Nat.le_of_ble_eq_true rfl) (Nat.le_of_ble_eq_true rfl) ?_
  refine q_aload_n (M := md_X5_init) (pc := 4) dX5_init_4 rfl (by decide) ?_
  refine q_bipush (M := md_X5_init) (pc := 5) (x := 80) dX5_init_5 (by decide) ?_
  refine q_newA (M := md_X5_init) (pc := 7) (N := 78) (k := 0) (n := 80) (atype := .int) rfl (Or.inl ⟨rfl, rfl⟩) ac_int dX5_init_7 (by decide +kernel) (q_wlit rfl) (by decide) (hB 78 (Nat.le_refl _)) (by decide) (by decide) ?_
  have hB1 := q_B_le (N' := 79) hB (by decide)
  have hF1 := q_Fb_le (N' := 79) hF (by decide)
  refine q_putF (M := md_X5_init) (pc := 9) (r := 77) (x := 78) fl_5_11 ⟨_, _, rfl⟩ (Or.inr ⟨_, rfl⟩) rfl dX5_init_9 (q_isc (r := 77) (by decide) (by decide +kernel)) (by decide) ?_
  have hF2 := q_Fb_pu (r := 77) (j := 0) (v := 78) hF1 (by decide)
  refine q_aload_n (M := md_X5_init) (pc := 12) dX5_init_12 rfl (by decide) ?_
  refine q_aload_n (M := md_X5_init) (pc := 13) dX5_init_13 rfl (by decide) ?_
  refine q_putR (M := md_X5_init) (pc := 14) (r := 77) (x := 3) fl_5_17 (Or.inl ⟨_, rfl⟩) dX5_init_14 (q_isc (r := 77) (by decide) (by decide +kernel)) (by decide) ?_
  have hB3 := q_B_up (r := 77) (j := 1) (v := 3) hB1 (by decide)
  refine q_aload_n (M := md_X5_init) (pc := 17) dX5_init_17 rfl (by decide) ?_
  refine q_aload_n (M := md_X5_init) (pc := 18) dX5_init_18 rfl (by decide) ?_
  refine q_putR (M := md_X5_init) (pc := 19) (r := 77) (x := 54) fl_5_21 (Or.inr ⟨_, rfl⟩) dX5_init_19 (q_isc (r := 77) (by decide) (by decide +kernel)) (by decide) ?_
  have hB4 := q_B_up (r := 77) (j := 2) (v := 54) hB3 (by decide)
  refine q_aload_n (M := md_X5_init) (pc := 22) dX5_init_22 rfl (by decide) ?_
  refine q_aload_n (M := md_X5_init) (pc := 23) dX5_init_23 rfl (by decide) ?_
  refine q_putR (M := md_X5_init) (pc := 24) (r := 77) (x := 74) fl_5_24 (Or.inr ⟨_, rfl⟩) dX5_init_24 (q_isc (r := 77) (by decide) (by decide +kernel)) (by decide) ?_
  have hB5 := q_B_up (r := 77) (j := 3) (v := 74) hB4 (by decide)
  exact q_vret (M := md_X5_init) (pc := 27) rfl dX5_init_27 rfl (Nat.le_refl _) (Nat.le_refl _)
set_option maxRecDepth 20000 in
theorem k_Loop3 {m : q_Mem} {phi : Nat → Nat → Int} (hB : q_B 4 m) (hF : q_Fb 4 phi) : q_C md_X2_init (q_rmC 3 10 313) 10 313 [q_A 3] (4, q_lay, phi) m (none, (14, q_lay, (q_pu (q_pu (q_pu (q_pu (q_pu (q_pu (q_pu (q_pu (q_pu (q_pu phi 3 8 4) 3 9 5) 3 10 6) 3 11 7) 3 12 8) 3 13 9) 3 14 10) 3 15 11) 3 16 12) 3 17 13)), (q_mL 3 m)) := by
  refine q_ofR (by decide) 0 (ls := [q_A 3]) rfl (Nat.le_of_ble_eq_true rfl) ?_
  refine q_aload_n (M := md_X2_init) (pc := 0) dX2_init_0 rfl (by decide) ?_
  refine q_obj (M := md_X2_init) (pc := 1) dX2_init_1 jl_2_3 jm_Obj jc_Obj (by decide) (Nat.le_of_ble_eq_true rfl) (Nat.le_of_ble_eq_true rfl) ?_
  refine q_aload_n (M := md_X2_init) (pc := 4) dX2_init_4 rfl (by decide) ?_
  refine q_newO (M := md_X2_init) (pc := 5) (N := 4) cl_1 kl_2_9 ins_1 in_1 dX2_init_5 (by decide +kernel) (hF 4 (Nat.le_refl _)) (hB 4 (Nat.le_refl _)) tk_1 (by decide) (by decide) ?_
  have hB1 := q_B_le (N' := 5) hB (by decide)
  have hF1 := q_Fb_le (N' := 5) hF (by decide)
  refine q_dup (M := md_X2_init) (pc := 8) dX2_init_8 (show (2 : Nat) ≠ 1 by decide) ?_
  refine q_callIN (M := md_X2_init) (pc := 9) (M' := md_X1_init) (rm' := q_rmC 1 0 0) (mc' := 0) (ms' := 0) (av := []) (r := 4) (v := none) nl_2_11 im_X1_init rfl rfl dX2_init_9 (k_Lay (by decide)) rfl (by decide) (Nat.le_of_ble_eq_true rfl) ⟨rfl, rfl, by decide, by decide, by decide, by decide⟩ ?_
  refine q_putF (M := md_X2_init) (pc := 12) (r := 3) (x := 4) fl_2_12 ⟨_, _, rfl⟩ (Or.inl ⟨_, rfl⟩) rfl dX2_init_12 (q_isc (r := 3) (by decide) (by decide +kernel)) (by decide) ?_
  have hF2 := q_Fb_pu (r := 3) (j := 8) (v := 4) hF1 (by decide)
  refine q_aload_n (M := md_X2_init) (pc := 15) dX2_init_15 rfl (by decide) ?_
  refine q_bipush (M := md_X2_init) (pc := 16) (x := 12) dX2_init_16 (by decide) ?_
  refine q_newA (M := md_X2_init) (pc := 18) (N := 5) (k := 0) (n := 12) (atype := .int) rfl (Or.inl ⟨rfl, rfl⟩) ac_int dX2_init_18 (by decide +kernel) (q_wlit rfl) (by decide) (hB1 5 (Nat.le_refl _)) (by decide) (by decide) ?_
  have hB3 := q_B_le (N' := 6) hB1 (by decide)
  have hF3 := q_Fb_le (N' := 6) hF2 (by decide)
  refine q_putF (M := md_X2_init) (pc := 20) (r := 3) (x := 5) fl_2_18 ⟨_, _, rfl⟩ (Or.inr ⟨_, rfl⟩) rfl dX2_init_20 (q_isc (r := 3) (by decide) (by decide +kernel)) (by decide) ?_
  have hF4 := q_Fb_pu (r := 3) (j := 9) (v := 5) hF3 (by decide)
  refine q_aload_n (M := md_X2_init) (pc := 23) dX2_init_23 rfl (by decide) ?_
  refine q_bipush (M := md_X2_init) (pc := 24) (x := 12) dX2_init_24 (by decide) ?_
  refine q_newA (M := md_X2_init) (pc := 26) (N := 6) (k := 0) (n := 12) (atype := .int) rfl (Or.inl ⟨rfl, rfl⟩) ac_int dX2_init_26 (by decide +kernel) (q_wlit rfl) (by decide) (hB3 6 (Nat.le_refl _)) (by decide) (by decide) ?_
  have hB5 := q_B_le (N' := 7) hB3 (by decide)
  have hF5 := q_Fb_le (N' := 7) hF4 (by decide)
  refine q_putF (M := md_X2_init) (pc := 28) (r := 3) (x := 6) fl_2_22 ⟨_, _, rfl⟩ (Or.inr ⟨_, rfl⟩) rfl dX2_init_28 (q_isc (r := 3) (by decide) (by decide +kernel)) (by decide) ?_
  have hF6 := q_Fb_pu (r := 3) (j := 10) (v := 6) hF5 (by decide)
  refine q_aload_n (M := md_X2_init) (pc := 31) dX2_init_31 rfl (by decide) ?_
  refine q_bipush (M := md_X2_init) (pc := 32) (x := 12) dX2_init_32 (by decide) ?_
  refine q_newA (M := md_X2_init) (pc := 34) (N := 7) (k := 0) (n := 12) (atype := .int) rfl (Or.inl ⟨rfl, rfl⟩) ac_int dX2_init_34 (by decide +kernel) (q_wlit rfl) (by decide) (hB5 7 (Nat.le_refl _)) (by decide) (by decide) ?_
  have hB7 := q_B_le (N' := 8) hB5 (by decide)
  have hF7 := q_Fb_le (N' := 8) hF6 (by decide)
  refine q_putF (M := md_X2_init) (pc := 36) (r := 3) (x := 7) fl_2_25 ⟨_, _, rfl⟩ (Or.inr ⟨_, rfl⟩) rfl dX2_init_36 (q_isc (r := 3) (by decide) (by decide +kernel)) (by decide) ?_
  have hF8 := q_Fb_pu (r := 3) (j := 11) (v := 7) hF7 (by decide)
  refine q_aload_n (M := md_X2_init) (pc := 39) dX2_init_39 rfl (by decide) ?_
  refine q_bipush (M := md_X2_init) (pc := 40) (x := 12) dX2_init_40 (by decide) ?_
  refine q_newA (M := md_X2_init) (pc := 42) (N := 8) (k := 0) (n := 12) (atype := .int) rfl (Or.inl ⟨rfl, rfl⟩) ac_int dX2_init_42 (by decide +kernel) (q_wlit rfl) (by decide) (hB7 8 (Nat.le_refl _)) (by decide) (by decide) ?_
  have hB9 := q_B_le (N' := 9) hB7 (by decide)
  have hF9 := q_Fb_le (N' := 9) hF8 (by decide)
  refine q_putF (M := md_X2_init) (pc := 44) (r := 3) (x := 8) fl_2_28 ⟨_, _, rfl⟩ (Or.inr ⟨_, rfl⟩) rfl dX2_init_44 (q_isc (r := 3) (by decide) (by decide +kernel)) (by decide) ?_
  have hF10 := q_Fb_pu (r := 3) (j := 12) (v := 8) hF9 (by decide)
  refine q_aload_n (M := md_X2_init) (pc := 47) dX2_init_47 rfl (by decide) ?_
  refine q_bipush (M := md_X2_init) (pc := 48) (x := 12) dX2_init_48 (by decide) ?_
  refine q_newA (M := md_X2_init) (pc := 50) (N := 9) (k := 0) (n := 12) (atype := .int) rfl (Or.inl ⟨rfl, rfl⟩) ac_int dX2_init_50 (by decide +kernel) (q_wlit rfl) (by decide) (hB9 9 (Nat.le_refl _)) (by decide) (by decide) ?_
  have hB11 := q_B_le (N' := 10) hB9 (by decide)
  have hF11 := q_Fb_le (N' := 10) hF10 (by decide)
  refine q_putF (M := md_X2_init) (pc := 52) (r := 3) (x := 9) fl_2_31 ⟨_, _, rfl⟩ (Or.inr ⟨_, rfl⟩) rfl dX2_init_52 (q_isc (r := 3) (by decide) (by decide +kernel)) (by decide) ?_
  have hF12 := q_Fb_pu (r := 3) (j := 13) (v := 9) hF11 (by decide)
  refine q_aload_n (M := md_X2_init) (pc := 55) dX2_init_55 rfl (by decide) ?_
  refine q_bipush (M := md_X2_init) (pc := 56) (x := 80) dX2_init_56 (by decide) ?_
  refine q_newA (M := md_X2_init) (pc := 58) (N := 10) (k := 0) (n := 80) (atype := .int) rfl (Or.inl ⟨rfl, rfl⟩) ac_int dX2_init_58 (by decide +kernel) (q_wlit rfl) (by decide) (hB11 10 (Nat.le_refl _)) (by decide) (by decide) ?_
  have hB13 := q_B_le (N' := 11) hB11 (by decide)
  have hF13 := q_Fb_le (N' := 11) hF12 (by decide)
  refine q_putF (M := md_X2_init) (pc := 60) (r := 3) (x := 10) fl_2_34 ⟨_, _, rfl⟩ (Or.inr ⟨_, rfl⟩) rfl dX2_init_60 (q_isc (r := 3) (by decide) (by decide +kernel)) (by decide) ?_
  have hF14 := q_Fb_pu (r := 3) (j := 14) (v := 10) hF13 (by decide)
  refine q_aload_n (M := md_X2_init) (pc := 63) dX2_init_63 rfl (by decide) ?_
  refine q_bipush (M := md_X2_init) (pc := 64) (x := 80) dX2_init_64 (by decide) ?_
  refine q_newA (M := md_X2_init) (pc := 66) (N := 11) (k := 0) (n := 80) (atype := .int) rfl (Or.inl ⟨rfl, rfl⟩) ac_int dX2_init_66 (by decide +kernel) (q_wlit rfl) (by decide) (hB13 11 (Nat.le_refl _)) (by decide) (by decide) ?_
  have hB15 := q_B_le (N' := 12) hB13 (by decide)
  have hF15 := q_Fb_le (N' := 12) hF14 (by decide)
  refine q_putF (M := md_X2_init) (pc := 68) (r := 3) (x := 11) fl_2_37 ⟨_, _, rfl⟩ (Or.inr ⟨_, rfl⟩) rfl dX2_init_68 (q_isc (r := 3) (by decide) (by decide +kernel)) (by decide) ?_
  have hF16 := q_Fb_pu (r := 3) (j := 15) (v := 11) hF15 (by decide)
  refine q_aload_n (M := md_X2_init) (pc := 71) dX2_init_71 rfl (by decide) ?_
  refine q_bipush (M := md_X2_init) (pc := 72) (x := 80) dX2_init_72 (by decide) ?_
  refine q_newA (M := md_X2_init) (pc := 74) (N := 12) (k := 0) (n := 80) (atype := .int) rfl (Or.inl ⟨rfl, rfl⟩) ac_int dX2_init_74 (by decide +kernel) (q_wlit rfl) (by decide) (hB15 12 (Nat.le_refl _)) (by decide) (by decide) ?_
  have hB17 := q_B_le (N' := 13) hB15 (by decide)
  have hF17 := q_Fb_le (N' := 13) hF16 (by decide)
  refine q_putF (M := md_X2_init) (pc := 76) (r := 3) (x := 12) fl_2_40 ⟨_, _, rfl⟩ (Or.inr ⟨_, rfl⟩) rfl dX2_init_76 (q_isc (r := 3) (by decide) (by decide +kernel)) (by decide) ?_
  have hF18 := q_Fb_pu (r := 3) (j := 16) (v := 12) hF17 (by decide)
  refine q_aload_n (M := md_X2_init) (pc := 79) dX2_init_79 rfl (by decide) ?_
  refine q_bipush (M := md_X2_init) (pc := 80) (x := 7) dX2_init_80 (by decide) ?_
  refine q_newA (M := md_X2_init) (pc := 82) (N := 13) (k := 0) (n := 7) (atype := .int) rfl (Or.inl ⟨rfl, rfl⟩) ac_int dX2_init_82 (by decide +kernel) (q_wlit rfl) (by decide) (hB17 13 (Nat.le_refl _)) (by decide) (by decide) ?_
  have hB19 := q_B_le (N' := 14) hB17 (by decide)
  have hF19 := q_Fb_le (N' := 14) hF18 (by decide)
  refine q_putF (M := md_X2_init) (pc := 84) (r := 3) (x := 13) fl_2_43 ⟨_, _, rfl⟩ (Or.inr ⟨_, rfl⟩) rfl dX2_init_84 (q_isc (r := 3) (by decide) (by decide +kernel)) (by decide) ?_
  have hF20 := q_Fb_pu (r := 3) (j := 17) (v := 13) hF19 (by decide)
  refine q_aload_n (M := md_X2_init) (pc := 87) dX2_init_87 rfl (by decide) ?_
  refine q_callV (M := md_X2_init) (pc := 88) (M' := md_X2_clear) (rm' := q_room 1) (mc' := 0) (ms' := 0) (k := 2) (av := []) (r := 3) (v := none) (m' := q_mL 3 m) ml_2_46 im_X2_clear se_X2_clear dX2_init_88 (k_clear (q_isc (r := 3) (by decide) (by decide +kernel)) (q_isc (r := 4) (by decide) (by decide +kernel)) rfl) rfl (q_isc (r := 3) (by decide) (by decide +kernel)) ⟨_, _, rfl⟩ (by decide) (Nat.le_of_ble_eq_true rfl) ⟨rfl, rfl, by decide, by decide, by decide, by decide⟩ ?_
  exact q_vret (M := md_X2_init) (pc := 91) rfl dX2_init_91 rfl (Nat.le_refl _) (Nat.le_refl _)
set_option maxRecDepth 20000 in
theorem k_Loop14 {m : q_Mem} {phi : Nat → Nat → Int} (hB : q_B 15 m) (hF : q_Fb 15 phi) : q_C md_X2_init (q_rmC 3 10 313) 10 313 [q_A 14] (15, q_lay, phi) m (none, (25, q_lay, (q_pu (q_pu (q_pu (q_pu (q_pu (q_pu (q_pu (q_pu (q_pu (q_pu phi 14 8 15) 14 9 16) 14 10 17) 14 11 18) 14 12 19) 14 13 20) 14 14 21) 14 15 22) 14 16 23) 14 17 24)), (q_mL 14 m)) := by
  refine q_ofR (by decide) 0 (ls := [q_A 14]) rfl (Nat.le_of_ble_eq_true rfl) ?_
  refine q_aload_n (M := md_X2_init) (pc := 0) dX2_init_0 rfl (by decide) ?_
  refine q_obj (M := md_X2_init) (pc := 1) dX2_init_1 jl_2_3 jm_Obj jc_Obj (by decide) (Nat.le_of_ble_eq_true rfl) (Nat.le_of_ble_eq_true rfl) ?_
  refine q_aload_n (M := md_X2_init) (pc := 4) dX2_init_4 rfl (by decide) ?_
  refine q_newO (M := md_X2_init) (pc := 5) (N := 15) cl_1 kl_2_9 ins_1 in_1 dX2_init_5 (by decide +kernel) (hF 15 (Nat.le_refl _)) (hB 15 (Nat.le_refl _)) tk_1 (by decide) (by decide) ?_
  have hB1 := q_B_le (N' := 16) hB (by decide)
  have hF1 := q_Fb_le (N' := 16) hF (by decide)
  refine q_dup (M := md_X2_init) (pc := 8) dX2_init_8 (show (2 : Nat) ≠ 1 by decide) ?_
  refine q_callIN (M := md_X2_init) (pc := 9) (M' := md_X1_init) (rm' := q_rmC 1 0 0) (mc' := 0) (ms' := 0) (av := []) (r := 15) (v := none) nl_2_11 im_X1_init rfl rfl dX2_init_9 (k_Lay (by decide)) rfl (by decide) (Nat.le_of_ble_eq_true rfl) ⟨rfl, rfl, by decide, by decide, by decide, by decide⟩ ?_
  refine q_putF (M := md_X2_init) (pc := 12) (r := 14) (x := 15) fl_2_12 ⟨_, _, rfl⟩ (Or.inl ⟨_, rfl⟩) rfl dX2_init_12 (q_isc (r := 14) (by decide) (by decide +kernel)) (by decide) ?_
  have hF2 := q_Fb_pu (r := 14) (j := 8) (v := 15) hF1 (by decide)
  refine q_aload_n (M := md_X2_init) (pc := 15) dX2_init_15 rfl (by decide) ?_
  refine q_bipush (M := md_X2_init) (pc := 16) (x := 12) dX2_init_16 (by decide) ?_
  refine q_newA (M := md_X2_init) (pc := 18) (N := 16) (k := 0) (n := 12) (atype := .int) rfl (Or.inl ⟨rfl, rfl⟩) ac_int dX2_init_18 (by decide +kernel) (q_wlit rfl) (by decide) (hB1 16 (Nat.le_refl _)) (by decide) (by decide) ?_
  have hB3 := q_B_le (N' := 17) hB1 (by decide)
  have hF3 := q_Fb_le (N' := 17) hF2 (by decide)
  refine q_putF (M := md_X2_init) (pc := 20) (r := 14) (x := 16) fl_2_18 ⟨_, _, rfl⟩ (Or.inr ⟨_, rfl⟩) rfl dX2_init_20 (q_isc (r := 14) (by decide) (by decide +kernel)) (by decide) ?_
  have hF4 := q_Fb_pu (r := 14) (j := 9) (v := 16) hF3 (by decide)
  refine q_aload_n (M := md_X2_init) (pc := 23) dX2_init_23 rfl (by decide) ?_
  refine q_bipush (M := md_X2_init) (pc := 24) (x := 12) dX2_init_24 (by decide) ?_
  refine q_newA (M := md_X2_init) (pc := 26) (N := 17) (k := 0) (n := 12) (atype := .int) rfl (Or.inl ⟨rfl, rfl⟩) ac_int dX2_init_26 (by decide +kernel) (q_wlit rfl) (by decide) (hB3 17 (Nat.le_refl _)) (by decide) (by decide) ?_
  have hB5 := q_B_le (N' := 18) hB3 (by decide)
  have hF5 := q_Fb_le (N' := 18) hF4 (by decide)
  refine q_putF (M := md_X2_init) (pc := 28) (r := 14) (x := 17) fl_2_22 ⟨_, _, rfl⟩ (Or.inr ⟨_, rfl⟩) rfl dX2_init_28 (q_isc (r := 14) (by decide) (by decide +kernel)) (by decide) ?_
  have hF6 := q_Fb_pu (r := 14) (j := 10) (v := 17) hF5 (by decide)
  refine q_aload_n (M := md_X2_init) (pc := 31) dX2_init_31 rfl (by decide) ?_
  refine q_bipush (M := md_X2_init) (pc := 32) (x := 12) dX2_init_32 (by decide) ?_
  refine q_newA (M := md_X2_init) (pc := 34) (N := 18) (k := 0) (n := 12) (atype := .int) rfl (Or.inl ⟨rfl, rfl⟩) ac_int dX2_init_34 (by decide +kernel) (q_wlit rfl) (by decide) (hB5 18 (Nat.le_refl _)) (by decide) (by decide) ?_
  have hB7 := q_B_le (N' := 19) hB5 (by decide)
  have hF7 := q_Fb_le (N' := 19) hF6 (by decide)
  refine q_putF (M := md_X2_init) (pc := 36) (r := 14) (x := 18) fl_2_25 ⟨_, _, rfl⟩ (Or.inr ⟨_, rfl⟩) rfl dX2_init_36 (q_isc (r := 14) (by decide) (by decide +kernel)) (by decide) ?_
  have hF8 := q_Fb_pu (r := 14) (j := 11) (v := 18) hF7 (by decide)
  refine q_aload_n (M := md_X2_init) (pc := 39) dX2_init_39 rfl (by decide) ?_
  refine q_bipush (M := md_X2_init) (pc := 40) (x := 12) dX2_init_40 (by decide) ?_
  refine q_newA (M := md_X2_init) (pc := 42) (N := 19) (k := 0) (n := 12) (atype := .int) rfl (Or.inl ⟨rfl, rfl⟩) ac_int dX2_init_42 (by decide +kernel) (q_wlit rfl) (by decide) (hB7 19 (Nat.le_refl _)) (by decide) (by decide) ?_
  have hB9 := q_B_le (N' := 20) hB7 (by decide)
  have hF9 := q_Fb_le (N' := 20) hF8 (by decide)
  refine q_putF (M := md_X2_init) (pc := 44) (r := 14) (x := 19) fl_2_28 ⟨_, _, rfl⟩ (Or.inr ⟨_, rfl⟩) rfl dX2_init_44 (q_isc (r := 14) (by decide) (by decide +kernel)) (by decide) ?_
  have hF10 := q_Fb_pu (r := 14) (j := 12) (v := 19) hF9 (by decide)
  refine q_aload_n (M := md_X2_init) (pc := 47) dX2_init_47 rfl (by decide) ?_
  refine q_bipush (M := md_X2_init) (pc := 48) (x := 12) dX2_init_48 (by decide) ?_
  refine q_newA (M := md_X2_init) (pc := 50) (N := 20) (k := 0) (n := 12) (atype := .int) rfl (Or.inl ⟨rfl, rfl⟩) ac_int dX2_init_50 (by decide +kernel) (q_wlit rfl) (by decide) (hB9 20 (Nat.le_refl _)) (by decide) (by decide) ?_
  have hB11 := q_B_le (N' := 21) hB9 (by decide)
  have hF11 := q_Fb_le (N' := 21) hF10 (by decide)
  refine q_putF (M := md_X2_init) (pc := 52) (r := 14) (x := 20) fl_2_31 ⟨_, _, rfl⟩ (Or.inr ⟨_, rfl⟩) rfl dX2_init_52 (q_isc (r := 14) (by decide) (by decide +kernel)) (by decide) ?_
  have hF12 := q_Fb_pu (r := 14) (j := 13) (v := 20) hF11 (by decide)
  refine q_aload_n (M := md_X2_init) (pc := 55) dX2_init_55 rfl (by decide) ?_
  refine q_bipush (M := md_X2_init) (pc := 56) (x := 80) dX2_init_56 (by decide) ?_
  refine q_newA (M := md_X2_init) (pc := 58) (N := 21) (k := 0) (n := 80) (atype := .int) rfl (Or.inl ⟨rfl, rfl⟩) ac_int dX2_init_58 (by decide +kernel) (q_wlit rfl) (by decide) (hB11 21 (Nat.le_refl _)) (by decide) (by decide) ?_
  have hB13 := q_B_le (N' := 22) hB11 (by decide)
  have hF13 := q_Fb_le (N' := 22) hF12 (by decide)
  refine q_putF (M := md_X2_init) (pc := 60) (r := 14) (x := 21) fl_2_34 ⟨_, _, rfl⟩ (Or.inr ⟨_, rfl⟩) rfl dX2_init_60 (q_isc (r := 14) (by decide) (by decide +kernel)) (by decide) ?_
  have hF14 := q_Fb_pu (r := 14) (j := 14) (v := 21) hF13 (by decide)
  refine q_aload_n (M := md_X2_init) (pc := 63) dX2_init_63 rfl (by decide) ?_
  refine q_bipush (M := md_X2_init) (pc := 64) (x := 80) dX2_init_64 (by decide) ?_
  refine q_newA (M := md_X2_init) (pc := 66) (N := 22) (k := 0) (n := 80) (atype := .int) rfl (Or.inl ⟨rfl, rfl⟩) ac_int dX2_init_66 (by decide +kernel) (q_wlit rfl) (by decide) (hB13 22 (Nat.le_refl _)) (by decide) (by decide) ?_
  have hB15 := q_B_le (N' := 23) hB13 (by decide)
  have hF15 := q_Fb_le (N' := 23) hF14 (by decide)
  refine q_putF (M := md_X2_init) (pc := 68) (r := 14) (x := 22) fl_2_37 ⟨_, _, rfl⟩ (Or.inr ⟨_, rfl⟩) rfl dX2_init_68 (q_isc (r := 14) (by decide) (by decide +kernel)) (by decide) ?_
  have hF16 := q_Fb_pu (r := 14) (j := 15) (v := 22) hF15 (by decide)
  refine q_aload_n (M := md_X2_init) (pc := 71) dX2_init_71 rfl (by decide) ?_
  refine q_bipush (M := md_X2_init) (pc := 72) (x := 80) dX2_init_72 (by decide) ?_
  refine q_newA (M := md_X2_init) (pc := 74) (N := 23) (k := 0) (n := 80) (atype := .int) rfl (Or.inl ⟨rfl, rfl⟩) ac_int dX2_init_74 (by decide +kernel) (q_wlit rfl) (by decide) (hB15 23 (Nat.le_refl _)) (by decide) (by decide) ?_
  have hB17 := q_B_le (N' := 24) hB15 (by decide)
  have hF17 := q_Fb_le (N' := 24) hF16 (by decide)
  refine q_putF (M := md_X2_init) (pc := 76) (r := 14) (x := 23) fl_2_40 ⟨_, _, rfl⟩ (Or.inr ⟨_, rfl⟩) rfl dX2_init_76 (q_isc (r := 14) (by decide) (by decide +kernel)) (by decide) ?_
  have hF18 := q_Fb_pu (r := 14) (j := 16) (v := 23) hF17 (by decide)
  refine q_aload_n (M := md_X2_init) (pc := 79) dX2_init_79 rfl (by decide) ?_
  refine q_bipush (M := md_X2_init) (pc := 80) (x := 7) dX2_init_80 (by decide) ?_
  refine q_newA (M := md_X2_init) (pc := 82) (N := 24) (k := 0) (n := 7) (atype := .int) rfl (Or.inl ⟨rfl, rfl⟩) ac_int dX2_init_82 (by decide +kernel) (q_wlit rfl) (by decide) (hB17 24 (Nat.le_refl _)) (by decide) (by decide) ?_
  have hB19 := q_B_le (N' := 25) hB17 (by decide)
  have hF19 := q_Fb_le (N' := 25) hF18 (by decide)
  refine q_putF (M := md_X2_init) (pc := 84) (r := 14) (x := 24) fl_2_43 ⟨_, _, rfl⟩ (Or.inr ⟨_, rfl⟩) rfl dX2_init_84 (q_isc (r := 14) (by decide) (by decide +kernel)) (by decide) ?_
  have hF20 := q_Fb_pu (r := 14) (j := 17) (v := 24) hF19 (by decide)
  refine q_aload_n (M := md_X2_init) (pc := 87) dX2_init_87 rfl (by decide) ?_
  refine q_callV (M := md_X2_init) (pc := 88) (M' := md_X2_clear) (rm' := q_room 1) (mc' := 0) (ms' := 0) (k := 2) (av := []) (r := 14) (v := none) (m' := q_mL 14 m) ml_2_46 im_X2_clear se_X2_clear dX2_init_88 (k_clear (q_isc (r := 14) (by decide) (by decide +kernel)) (q_isc (r := 15) (by decide) (by decide +kernel)) rfl) rfl (q_isc (r := 14) (by decide) (by decide +kernel)) ⟨_, _, rfl⟩ (by decide) (Nat.le_of_ble_eq_true rfl) ⟨rfl, rfl, by decide, by decide, by decide, by decide⟩ ?_
  exact q_vret (M := md_X2_init) (pc := 91) rfl dX2_init_91 rfl (Nat.le_refl _) (Nat.le_refl _)
theorem q_B_mL {N : Nat} {m : q_Mem} {t : Int} (h : q_B N m) (ht : t + 1 < N) : q_B N (q_mL t m) := by
  unfold q_mL
  exact q_B_up (q_B_up (q_B_up (q_B_up (q_B_up (q_B_up (q_B_up (q_B_up (q_B_up (q_B_up (q_B_up (q_B_up (q_B_up (q_B_up (h) (by omega)) (by omega)) (by omega)) (by omega)) (by omega)) (by omega)) (by omega)) (by omega)) (by omega)) (by omega)) (by omega)) (by omega)) (by omega)) (by omega)
def q_mH (m : q_Mem) (i : Int) : q_Mem := fun c j => if c = 29 ∧ 0 ≤ j ∧ j < i then 30 + j else m c j
theorem q_B_mH {N : Nat} {m : q_Mem} {i : Int} (h : q_B N m) (hN : 29 < N) : q_B N (q_mH m i) := fun c hc => by
  rw [← h c hc]
  funext j
  exact if_neg (by omega)
set_option maxRecDepth 20000 in
theorem k_Hist {m : q_Mem} {phi : Nat → Nat → Int} (hB : q_B 29 m) (hF : q_Fb 29 phi) : q_C md_X0_init (q_rmC 2 22 147) 22 147 [q_A 28] (29, q_lay, phi) m (none, (51, q_lay, q_pu phi 28 0 29), q_mH m 21) := by
  refine q_ofR (by decide) 1 (ls := [q_A 28, q_N]) rfl (Nat.le_of_ble_eq_true rfl) ?_
  refine q_aload_n (M := md_X0_init) (pc := 0) dX0_init_0 rfl (by decide) ?_
  refine q_obj (M := md_X0_init) (pc := 1) dX0_init_1 jl_0_1 jm_Obj jc_Obj (by decide) (Nat.le_of_ble_eq_true rfl) (Nat.le_of_ble_eq_true rfl) ?_
  refine q_aload_n (M := md_X0_init) (pc := 4) dX0_init_4 rfl (by decide) ?_
  refine q_bipush (M := md_X0_init) (pc := 5) (x := 21) dX0_init_5 (by decide) ?_
  refine q_newQ (M := md_X0_init) (pc := 7) (N := 29) (n := 21) kl_0_9 dX0_init_7 (by decide +kernel) (q_wlit rfl) (by decide) (hB 29 (Nat.le_refl _)) (by decide) (by decide) ?_
  refine q_putF (M := md_X0_init) (pc := 10) (r := 28) (x := 29) fl_0_11 ⟨_, _, rfl⟩ (Or.inr ⟨_, rfl⟩) rfl dX0_init_10 (q_isc (r := 28) (by decide) (by decide +kernel)) (by decide) ?_
  refine q_iconst (M := md_X0_init) (pc := 13) dX0_init_13 ?_
  refine q_istore_n (M := md_X0_init) (pc := 14) dX0_init_14 (by decide) (q_pl rfl) ?_
  have hl : ∀ i : Nat, i < 21 → (q_lay (30 + i)).1 = 1 := by decide +kernel
  have hB2 : q_B 30 m := q_B_le hB (by decide)
  have hF2 : q_Fb 30 (q_pu phi 28 0 29) := q_Fb_pu (q_Fb_le hF (by decide)) (by decide)
  have loop : ∀ (d i : Nat), i + d = 21 → q_R md_X0_init (q_rmC 2 22 147) 22 147 (none, (51, q_lay, q_pu phi 28 0 29), q_mH m 21) (1 + i) (21 + 6 * i) (30 + i, q_lay, q_pu phi 28 0 29) (q_mH m i) 15 [q_A 28, q_I i] [] := by
    intro d
    induction d with
    | zero =>
      intro i hi
      have hi : i = 21 := by omega
      subst hi
      refine q_iload_n (M := md_X0_init) (pc := 15) (x := 21) dX0_init_15 rfl ?_
      refine q_bipush (M := md_X0_init) (pc := 16) (x := 20) dX0_init_16 (by decide) ?_
      refine q_icmp_gt (M := md_X0_init) (pc := 18) (tgt := 40) dX0_init_18 (by decide) (fun _ => ?_) (fun h => absurd (by decide) h)
      exact q_vret (M := md_X0_init) (pc := 40) rfl dX0_init_40 rfl (Nat.le_refl _) (Nat.le_refl _)
    | succ d ih =>
      intro i hi
      have hw : q_w (i : Int) = i := q_w_id (by omega) (by omega)
      refine q_iload_n (M := md_X0_init) (pc := 15) (x := i) dX0_init_15 rfl ?_
      refine q_bipush (M := md_X0_init) (pc := 16) (x := 20) dX0_init_16 (by decide) ?_
      refine q_icmp_gt (M := md_X0_init) (pc := 18) (tgt := 40) dX0_init_18 (by decide) (fun h => ?_) (fun _ => ?_)
      · rw [hw, q_wlit (x := 20) rfl] at h
        omega
      refine q_aload_n (M := md_X0_init) (pc := 21) (x := 28) dX0_init_21 rfl (by decide) ?_
      refine q_getP (M := md_X0_init) (pc := 22) (r := 28) (v := 29) fl_0_11 dX0_init_22 (q_isc (r := 28) (by omega) (by decide +kernel)) rfl ?_
      refine q_iload_n (M := md_X0_init) (pc := 25) (x := i) dX0_init_25 rfl ?_
      refine q_newO (M := md_X0_init) (pc := 26) (N := 30 + i) cl_1 kl_0_9 ins_1 in_1 dX0_init_26 (hl i (by omega)) (hF2 (30 + i) (by omega)) (q_B_mH (i := i) hB2 (by decide) (30 + i) (by omega)) tk_1 (by show 1 + i + 1 ≤ 22; omega) (by show 21 + 6 * i + 6 ≤ 147; omega) ?_
      refine q_dup (M := md_X0_init) (pc := 29) dX0_init_29 (show (2 : Nat) ≠ 1 by decide) ?_
      refine q_callIN (M := md_X0_init) (pc := 30) (M' := md_X1_init) (rm' := q_rmC 1 0 0) (mc' := 0) (ms' := 0) (av := []) (r := ((30 + i : Nat) : Int)) (v := none) nl_0_15 im_X1_init rfl rfl dX0_init_30 (k_Lay (by omega)) rfl (by omega) (Nat.le_of_ble_eq_true rfl) ⟨rfl, rfl, by decide, by decide, by show 1 + i + 1 + 0 ≤ 22; omega, by show 21 + 6 * i + 6 + 0 ≤ 147; omega⟩ ?_
      refine q_aast (M := md_X0_init) (pc := 33) (n := 21) (r := 29) (x := i) (z := ((30 + i : Nat) : Int)) dX0_init_33 (q_arc (r := 29) (by omega) (by decide +kernel)) (by omega) (by omega) (q_isc (r := 30 + i) (by omega) (hl i (by omega))) ?_
      refine q_iinc (M := md_X0_init) (pc := 34) (x := i) dX0_init_34 rfl (by decide) (q_pl rfl) ?_
      refine q_goto (M := md_X0_init) (pc := 37) (tgt := 15) dX0_init_37 (by decide) ?_
      have em : q_up (q_mH m i) 29 (q_w i) ((30 + i : Nat) : Int) = q_mH m ((i + 1 : Nat) : Int) := by
        rw [hw]
        funext c j
        unfold q_up q_mH
        by_cases c1 : c = 29
        · by_cases c2 : j = i
          · rw [if_pos c1, if_pos c2, if_pos (by omega)]; omega
          · rw [if_pos c1, if_neg c2]
            by_cases c3 : 0 ≤ j ∧ j < i
            · rw [if_pos ⟨c1, c3⟩, if_pos (by omega)]
            · rw [if_neg (by omega), if_neg (by omega)]
        · rw [if_neg c1, if_neg (by omega), if_neg (by omega)]
      have := ih (i + 1) (by omega)
      rw [em]
      have e1 : 1 + i + 1 + 0 = 1 + (i + 1) := by omega
      have e2 : 21 + 6 * i + 6 + 0 = 21 + 6 * (i + 1) := by omega
      rw [e1, e2]
      exact this
  have h0 := loop 21 0 (by omega)
  have e0 : q_mH m ((0 : Nat) : Int) = m := by
    funext c j
    exact if_neg (by omega)
  rw [e0] at h0
  exact h0
