theorem dX0_init_0 : decode cX0_init 0 = .ok (.aload_n 0, 1) := by decide +kernel
theorem dX0_init_1 : decode cX0_init 1 = .ok (.invokespecial 1, 3) := by decide +kernel
theorem dX0_init_4 : decode cX0_init 4 = .ok (.aload_n 0, 1) := by decide +kernel
theorem dX0_init_5 : decode cX0_init 5 = .ok (.bipush 21, 2) := by decide +kernel
theorem dX0_init_7 : decode cX0_init 7 = .ok (.anewarray 9, 3) := by decide +kernel
theorem dX0_init_10 : decode cX0_init 10 = .ok (.putfield 11, 3) := by decide +kernel
theorem dX0_init_13 : decode cX0_init 13 = .ok (.iconst 0, 1) := by decide +kernel
theorem dX0_init_14 : decode cX0_init 14 = .ok (.istore_n 1, 1) := by decide +kernel
theorem dX0_init_15 : decode cX0_init 15 = .ok (.iload_n 1, 1) := by decide +kernel
theorem dX0_init_16 : decode cX0_init 16 = .ok (.bipush 20, 2) := by decide +kernel
theorem dX0_init_18 : decode cX0_init 18 = .ok (.if_icmp .gt 22, 3) := by decide +kernel
theorem dX0_init_21 : decode cX0_init 21 = .ok (.aload_n 0, 1) := by decide +kernel
theorem dX0_init_22 : decode cX0_init 22 = .ok (.getfield 11, 3) := by decide +kernel
theorem dX0_init_25 : decode cX0_init 25 = .ok (.iload_n 1, 1) := by decide +kernel
theorem dX0_init_26 : decode cX0_init 26 = .ok (.new 9, 3) := by decide +kernel
theorem dX0_init_29 : decode cX0_init 29 = .ok (.dup, 1) := by decide +kernel
theorem dX0_init_30 : decode cX0_init 30 = .ok (.invokespecial 15, 3) := by decide +kernel
theorem dX0_init_33 : decode cX0_init 33 = .ok (.aastore, 1) := by decide +kernel
theorem dX0_init_34 : decode cX0_init 34 = .ok (.iinc 1 1, 3) := by decide +kernel
theorem dX0_init_37 : decode cX0_init 37 = .ok (.goto (-22), 3) := by decide +kernel
theorem dX0_init_40 : decode cX0_init 40 = .ok (.return_, 1) := by decide +kernel
theorem dX0_restart_0 : decode cX0_restart 0 = .ok (.aload_n 0, 1) := by decide +kernel
theorem dX0_restart_1 : decode cX0_restart 1 = .ok (.iconst 0, 1) := by decide +kernel
theorem dX0_restart_2 : decode cX0_restart 2 = .ok (.putfield 16, 3) := by decide +kernel
theorem dX0_restart_5 : decode cX0_restart 5 = .ok (.aload_n 0, 1) := by decide +kernel
theorem dX0_restart_6 : decode cX0_restart 6 = .ok (.iconst 0, 1) := by decide +kernel
theorem dX0_restart_7 : decode cX0_restart 7 = .ok (.putfield 20, 3) := by decide +kernel
theorem dX0_restart_10 : decode cX0_restart 10 = .ok (.aload_n 0, 1) := by decide +kernel
theorem dX0_restart_11 : decode cX0_restart 11 = .ok (.getfield 11, 3) := by decide +kernel
theorem dX0_restart_14 : decode cX0_restart 14 = .ok (.iconst 0, 1) := by decide +kernel
theorem dX0_restart_15 : decode cX0_restart 15 = .ok (.aaload, 1) := by decide +kernel
theorem dX0_restart_16 : decode cX0_restart 16 = .ok (.areturn, 1) := by decide +kernel
theorem dX0_open_0 : decode cX0_open 0 = .ok (.aload_n 0, 1) := by decide +kernel
theorem dX0_open_1 : decode cX0_open 1 = .ok (.getfield 16, 3) := by decide +kernel
theorem dX0_open_4 : decode cX0_open 4 = .ok (.bipush 20, 2) := by decide +kernel
theorem dX0_open_6 : decode cX0_open 6 = .ok (.if_icmp .lt 10, 3) := by decide +kernel
theorem dX0_open_9 : decode cX0_open 9 = .ok (.aload_n 0, 1) := by decide +kernel
theorem dX0_open_10 : decode cX0_open 10 = .ok (.invokevirtual 23, 3) := by decide +kernel
theorem dX0_open_13 : decode cX0_open 13 = .ok (.goto 13, 3) := by decide +kernel
theorem dX0_open_16 : decode cX0_open 16 = .ok (.aload_n 0, 1) := by decide +kernel
theorem dX0_open_17 : decode cX0_open 17 = .ok (.dup, 1) := by decide +kernel
theorem dX0_open_18 : decode cX0_open 18 = .ok (.getfield 16, 3) := by decide +kernel
theorem dX0_open_21 : decode cX0_open 21 = .ok (.iconst 1, 1) := by decide +kernel
theorem dX0_open_22 : decode cX0_open 22 = .ok (.iadd, 1) := by decide +kernel
theorem dX0_open_23 : decode cX0_open 23 = .ok (.putfield 16, 3) := by decide +kernel
theorem dX0_open_26 : decode cX0_open 26 = .ok (.aload_n 0, 1) := by decide +kernel
theorem dX0_open_27 : decode cX0_open 27 = .ok (.aload_n 0, 1) := by decide +kernel
theorem dX0_open_28 : decode cX0_open 28 = .ok (.getfield 16, 3) := by decide +kernel
theorem dX0_open_31 : decode cX0_open 31 = .ok (.putfield 20, 3) := by decide +kernel
theorem dX0_open_34 : decode cX0_open 34 = .ok (.aload_n 0, 1) := by decide +kernel
theorem dX0_open_35 : decode cX0_open 35 = .ok (.getfield 11, 3) := by decide +kernel
theorem dX0_open_38 : decode cX0_open 38 = .ok (.aload_n 0, 1) := by decide +kernel
theorem dX0_open_39 : decode cX0_open 39 = .ok (.getfield 16, 3) := by decide +kernel
theorem dX0_open_42 : decode cX0_open 42 = .ok (.aaload, 1) := by decide +kernel
theorem dX0_open_43 : decode cX0_open 43 = .ok (.aload_n 0, 1) := by decide +kernel
theorem dX0_open_44 : decode cX0_open 44 = .ok (.getfield 11, 3) := by decide +kernel
theorem dX0_open_47 : decode cX0_open 47 = .ok (.aload_n 0, 1) := by decide +kernel
theorem dX0_open_48 : decode cX0_open 48 = .ok (.getfield 16, 3) := by decide +kernel
theorem dX0_open_51 : decode cX0_open 51 = .ok (.iconst 1, 1) := by decide +kernel
theorem dX0_open_52 : decode cX0_open 52 = .ok (.isub, 1) := by decide +kernel
theorem dX0_open_53 : decode cX0_open 53 = .ok (.aaload, 1) := by decide +kernel
theorem dX0_open_54 : decode cX0_open 54 = .ok (.invokevirtual 26, 3) := by decide +kernel
theorem dX0_open_57 : decode cX0_open 57 = .ok (.aload_n 0, 1) := by decide +kernel
theorem dX0_open_58 : decode cX0_open 58 = .ok (.getfield 11, 3) := by decide +kernel
theorem dX0_open_61 : decode cX0_open 61 = .ok (.aload_n 0, 1) := by decide +kernel
theorem dX0_open_62 : decode cX0_open 62 = .ok (.getfield 16, 3) := by decide +kernel
theorem dX0_open_65 : decode cX0_open 65 = .ok (.aaload, 1) := by decide +kernel
theorem dX0_open_66 : decode cX0_open 66 = .ok (.areturn, 1) := by decide +kernel
theorem dX0_dropOldest_0 : decode cX0_dropOldest 0 = .ok (.aload_n 0, 1) := by decide +kernel
theorem dX0_dropOldest_1 : decode cX0_dropOldest 1 = .ok (.getfield 11, 3) := by decide +kernel
theorem dX0_dropOldest_4 : decode cX0_dropOldest 4 = .ok (.iconst 0, 1) := by decide +kernel
theorem dX0_dropOldest_5 : decode cX0_dropOldest 5 = .ok (.aaload, 1) := by decide +kernel
theorem dX0_dropOldest_6 : decode cX0_dropOldest 6 = .ok (.astore_n 1, 1) := by decide +kernel
theorem dX0_dropOldest_7 : decode cX0_dropOldest 7 = .ok (.iconst 0, 1) := by decide +kernel
theorem dX0_dropOldest_8 : decode cX0_dropOldest 8 = .ok (.istore_n 2, 1) := by decide +kernel
theorem dX0_dropOldest_9 : decode cX0_dropOldest 9 = .ok (.iload_n 2, 1) := by decide +kernel
theorem dX0_dropOldest_10 : decode cX0_dropOldest 10 = .ok (.bipush 20, 2) := by decide +kernel
theorem dX0_dropOldest_12 : decode cX0_dropOldest 12 = .ok (.if_icmp .ge 23, 3) := by decide +kernel
theorem dX0_dropOldest_15 : decode cX0_dropOldest 15 = .ok (.aload_n 0, 1) := by decide +kernel
theorem dX0_dropOldest_16 : decode cX0_dropOldest 16 = .ok (.getfield 11, 3) := by decide +kernel
theorem dX0_dropOldest_19 : decode cX0_dropOldest 19 = .ok (.iload_n 2, 1) := by decide +kernel
theorem dX0_dropOldest_20 : decode cX0_dropOldest 20 = .ok (.aload_n 0, 1) := by decide +kernel
theorem dX0_dropOldest_21 : decode cX0_dropOldest 21 = .ok (.getfield 11, 3) := by decide +kernel
theorem dX0_dropOldest_24 : decode cX0_dropOldest 24 = .ok (.iload_n 2, 1) := by decide +kernel
theorem dX0_dropOldest_25 : decode cX0_dropOldest 25 = .ok (.iconst 1, 1) := by decide +kernel
theorem dX0_dropOldest_26 : decode cX0_dropOldest 26 = .ok (.iadd, 1) := by decide +kernel
theorem dX0_dropOldest_27 : decode cX0_dropOldest 27 = .ok (.aaload, 1) := by decide +kernel
theorem dX0_dropOldest_28 : decode cX0_dropOldest 28 = .ok (.aastore, 1) := by decide +kernel
theorem dX0_dropOldest_29 : decode cX0_dropOldest 29 = .ok (.iinc 2 1, 3) := by decide +kernel
theorem dX0_dropOldest_32 : decode cX0_dropOldest 32 = .ok (.goto (-23), 3) := by decide +kernel
theorem dX0_dropOldest_35 : decode cX0_dropOldest 35 = .ok (.aload_n 0, 1) := by decide +kernel
theorem dX0_dropOldest_36 : decode cX0_dropOldest 36 = .ok (.getfield 11, 3) := by decide +kernel
theorem dX0_dropOldest_39 : decode cX0_dropOldest 39 = .ok (.bipush 20, 2) := by decide +kernel
theorem dX0_dropOldest_41 : decode cX0_dropOldest 41 = .ok (.aload_n 1, 1) := by decide +kernel
theorem dX0_dropOldest_42 : decode cX0_dropOldest 42 = .ok (.aastore, 1) := by decide +kernel
theorem dX0_dropOldest_43 : decode cX0_dropOldest 43 = .ok (.return_, 1) := by decide +kernel
theorem dX0_stepBack_0 : decode cX0_stepBack 0 = .ok (.aload_n 0, 1) := by decide +kernel
theorem dX0_stepBack_1 : decode cX0_stepBack 1 = .ok (.getfield 16, 3) := by decide +kernel
theorem dX0_stepBack_4 : decode cX0_stepBack 4 = .ok (.ifCond .gt 5, 3) := by decide +kernel
theorem dX0_stepBack_7 : decode cX0_stepBack 7 = .ok (.iconst 0, 1) := by decide +kernel
theorem dX0_stepBack_8 : decode cX0_stepBack 8 = .ok (.ireturn, 1) := by decide +kernel
theorem dX0_stepBack_9 : decode cX0_stepBack 9 = .ok (.aload_n 0, 1) := by decide +kernel
theorem dX0_stepBack_10 : decode cX0_stepBack 10 = .ok (.dup, 1) := by decide +kernel
theorem dX0_stepBack_11 : decode cX0_stepBack 11 = .ok (.getfield 16, 3) := by decide +kernel
theorem dX0_stepBack_14 : decode cX0_stepBack 14 = .ok (.iconst 1, 1) := by decide +kernel
theorem dX0_stepBack_15 : decode cX0_stepBack 15 = .ok (.isub, 1) := by decide +kernel
theorem dX0_stepBack_16 : decode cX0_stepBack 16 = .ok (.putfield 16, 3) := by decide +kernel
theorem dX0_stepBack_19 : decode cX0_stepBack 19 = .ok (.iconst 1, 1) := by decide +kernel
theorem dX0_stepBack_20 : decode cX0_stepBack 20 = .ok (.ireturn, 1) := by decide +kernel
theorem dX0_stepOn_0 : decode cX0_stepOn 0 = .ok (.aload_n 0, 1) := by decide +kernel
theorem dX0_stepOn_1 : decode cX0_stepOn 1 = .ok (.getfield 16, 3) := by decide +kernel
theorem dX0_stepOn_4 : decode cX0_stepOn 4 = .ok (.aload_n 0, 1) := by decide +kernel
theorem dX0_stepOn_5 : decode cX0_stepOn 5 = .ok (.getfield 20, 3) := by decide +kernel
theorem dX0_stepOn_8 : decode cX0_stepOn 8 = .ok (.if_icmp .lt 5, 3) := by decide +kernel
theorem dX0_stepOn_11 : decode cX0_stepOn 11 = .ok (.iconst 0, 1) := by decide +kernel
theorem dX0_stepOn_12 : decode cX0_stepOn 12 = .ok (.ireturn, 1) := by decide +kernel
theorem dX0_stepOn_13 : decode cX0_stepOn 13 = .ok (.aload_n 0, 1) := by decide +kernel
theorem dX0_stepOn_14 : decode cX0_stepOn 14 = .ok (.dup, 1) := by decide +kernel
theorem dX0_stepOn_15 : decode cX0_stepOn 15 = .ok (.getfield 16, 3) := by decide +kernel
theorem dX0_stepOn_18 : decode cX0_stepOn 18 = .ok (.iconst 1, 1) := by decide +kernel
theorem dX0_stepOn_19 : decode cX0_stepOn 19 = .ok (.iadd, 1) := by decide +kernel
theorem dX0_stepOn_20 : decode cX0_stepOn 20 = .ok (.putfield 16, 3) := by decide +kernel
theorem dX0_stepOn_23 : decode cX0_stepOn 23 = .ok (.iconst 1, 1) := by decide +kernel
theorem dX0_stepOn_24 : decode cX0_stepOn 24 = .ok (.ireturn, 1) := by decide +kernel
theorem dX1_init_0 : decode cX1_init 0 = .ok (.aload_n 0, 1) := by decide +kernel
theorem dX1_init_1 : decode cX1_init 1 = .ok (.invokespecial 1, 3) := by decide +kernel
theorem dX1_init_4 : decode cX1_init 4 = .ok (.return_, 1) := by decide +kernel
theorem dX1_copy_0 : decode cX1_copy 0 = .ok (.aload_n 0, 1) := by decide +kernel
theorem dX1_copy_1 : decode cX1_copy 1 = .ok (.aload_n 1, 1) := by decide +kernel
theorem dX1_copy_2 : decode cX1_copy 2 = .ok (.getfield 7, 3) := by decide +kernel
theorem dX1_copy_5 : decode cX1_copy 5 = .ok (.putfield 7, 3) := by decide +kernel
theorem dX1_copy_8 : decode cX1_copy 8 = .ok (.aload_n 0, 1) := by decide +kernel
theorem dX1_copy_9 : decode cX1_copy 9 = .ok (.aload_n 1, 1) := by decide +kernel
theorem dX1_copy_10 : decode cX1_copy 10 = .ok (.getfield 13, 3) := by decide +kernel
theorem dX1_copy_13 : decode cX1_copy 13 = .ok (.putfield 13, 3) := by decide +kernel
theorem dX1_copy_16 : decode cX1_copy 16 = .ok (.aload_n 0, 1) := by decide +kernel
theorem dX1_copy_17 : decode cX1_copy 17 = .ok (.aload_n 1, 1) := by decide +kernel
theorem dX1_copy_18 : decode cX1_copy 18 = .ok (.getfield 16, 3) := by decide +kernel
theorem dX1_copy_21 : decode cX1_copy 21 = .ok (.putfield 16, 3) := by decide +kernel
theorem dX1_copy_24 : decode cX1_copy 24 = .ok (.aload_n 0, 1) := by decide +kernel
theorem dX1_copy_25 : decode cX1_copy 25 = .ok (.aload_n 1, 1) := by decide +kernel
theorem dX1_copy_26 : decode cX1_copy 26 = .ok (.getfield 19, 3) := by decide +kernel
theorem dX1_copy_29 : decode cX1_copy 29 = .ok (.putfield 19, 3) := by decide +kernel
theorem dX1_copy_32 : decode cX1_copy 32 = .ok (.aload_n 0, 1) := by decide +kernel
theorem dX1_copy_33 : decode cX1_copy 33 = .ok (.aload_n 1, 1) := by decide +kernel
theorem dX1_copy_34 : decode cX1_copy 34 = .ok (.getfield 22, 3) := by decide +kernel
theorem dX1_copy_37 : decode cX1_copy 37 = .ok (.putfield 22, 3) := by decide +kernel
theorem dX1_copy_40 : decode cX1_copy 40 = .ok (.aload_n 0, 1) := by decide +kernel
theorem dX1_copy_41 : decode cX1_copy 41 = .ok (.aload_n 1, 1) := by decide +kernel
theorem dX1_copy_42 : decode cX1_copy 42 = .ok (.getfield 25, 3) := by decide +kernel
theorem dX1_copy_45 : decode cX1_copy 45 = .ok (.putfield 25, 3) := by decide +kernel
theorem dX1_copy_48 : decode cX1_copy 48 = .ok (.return_, 1) := by decide +kernel
theorem dX1_isBroken_0 : decode cX1_isBroken 0 = .ok (.aload_n 0, 1) := by decide +kernel
theorem dX1_isBroken_1 : decode cX1_isBroken 1 = .ok (.getfield 25, 3) := by decide +kernel
theorem dX1_isBroken_4 : decode cX1_isBroken 4 = .ok (.iload_n 1, 1) := by decide +kernel
theorem dX1_isBroken_5 : decode cX1_isBroken 5 = .ok (.lushr, 1) := by decide +kernel
theorem dX1_isBroken_6 : decode cX1_isBroken 6 = .ok (.lconst 1, 1) := by decide +kernel
theorem dX1_isBroken_7 : decode cX1_isBroken 7 = .ok (.land, 1) := by decide +kernel
theorem dX1_isBroken_8 : decode cX1_isBroken 8 = .ok (.lconst 0, 1) := by decide +kernel
theorem dX1_isBroken_9 : decode cX1_isBroken 9 = .ok (.lcmp, 1) := by decide +kernel
theorem dX1_isBroken_10 : decode cX1_isBroken 10 = .ok (.ifCond .eq 7, 3) := by decide +kernel
theorem dX1_isBroken_13 : decode cX1_isBroken 13 = .ok (.iconst 1, 1) := by decide +kernel
theorem dX1_isBroken_14 : decode cX1_isBroken 14 = .ok (.goto 4, 3) := by decide +kernel
theorem dX1_isBroken_17 : decode cX1_isBroken 17 = .ok (.iconst 0, 1) := by decide +kernel
theorem dX1_isBroken_18 : decode cX1_isBroken 18 = .ok (.ireturn, 1) := by decide +kernel
theorem dX2_init_0 : decode cX2_init 0 = .ok (.aload_n 0, 1) := by decide +kernel
theorem dX2_init_1 : decode cX2_init 1 = .ok (.invokespecial 3, 3) := by decide +kernel
theorem dX2_init_4 : decode cX2_init 4 = .ok (.aload_n 0, 1) := by decide +kernel
theorem dX2_init_5 : decode cX2_init 5 = .ok (.new 9, 3) := by decide +kernel
theorem dX2_init_8 : decode cX2_init 8 = .ok (.dup, 1) := by decide +kernel
theorem dX2_init_9 : decode cX2_init 9 = .ok (.invokespecial 11, 3) := by decide +kernel
theorem dX2_init_12 : decode cX2_init 12 = .ok (.putfield 12, 3) := by decide +kernel
theorem dX2_init_15 : decode cX2_init 15 = .ok (.aload_n 0, 1) := by decide +kernel
theorem dX2_init_16 : decode cX2_init 16 = .ok (.bipush 12, 2) := by decide +kernel
theorem dX2_init_18 : decode cX2_init 18 = .ok (.newarray .int, 2) := by decide +kernel
theorem dX2_init_20 : decode cX2_init 20 = .ok (.putfield 18, 3) := by decide +kernel
theorem dX2_init_23 : decode cX2_init 23 = .ok (.aload_n 0, 1) := by decide +kernel
theorem dX2_init_24 : decode cX2_init 24 = .ok (.bipush 12, 2) := by decide +kernel
theorem dX2_init_26 : decode cX2_init 26 = .ok (.newarray .int, 2) := by decide +kernel
theorem dX2_init_28 : decode cX2_init 28 = .ok (.putfield 22, 3) := by decide +kernel
theorem dX2_init_31 : decode cX2_init 31 = .ok (.aload_n 0, 1) := by decide +kernel
theorem dX2_init_32 : decode cX2_init 32 = .ok (.bipush 12, 2) := by decide +kernel
theorem dX2_init_34 : decode cX2_init 34 = .ok (.newarray .int, 2) := by decide +kernel
theorem dX2_init_36 : decode cX2_init 36 = .ok (.putfield 25, 3) := by decide +kernel
theorem dX2_init_39 : decode cX2_init 39 = .ok (.aload_n 0, 1) := by decide +kernel
theorem dX2_init_40 : decode cX2_init 40 = .ok (.bipush 12, 2) := by decide +kernel
theorem dX2_init_42 : decode cX2_init 42 = .ok (.newarray .int, 2) := by decide +kernel
theorem dX2_init_44 : decode cX2_init 44 = .ok (.putfield 28, 3) := by decide +kernel
theorem dX2_init_47 : decode cX2_init 47 = .ok (.aload_n 0, 1) := by decide +kernel
theorem dX2_init_48 : decode cX2_init 48 = .ok (.bipush 12, 2) := by decide +kernel
theorem dX2_init_50 : decode cX2_init 50 = .ok (.newarray .int, 2) := by decide +kernel
theorem dX2_init_52 : decode cX2_init 52 = .ok (.putfield 31, 3) := by decide +kernel
theorem dX2_init_55 : decode cX2_init 55 = .ok (.aload_n 0, 1) := by decide +kernel
theorem dX2_init_56 : decode cX2_init 56 = .ok (.bipush 80, 2) := by decide +kernel
theorem dX2_init_58 : decode cX2_init 58 = .ok (.newarray .int, 2) := by decide +kernel
theorem dX2_init_60 : decode cX2_init 60 = .ok (.putfield 34, 3) := by decide +kernel
theorem dX2_init_63 : decode cX2_init 63 = .ok (.aload_n 0, 1) := by decide +kernel
theorem dX2_init_64 : decode cX2_init 64 = .ok (.bipush 80, 2) := by decide +kernel
theorem dX2_init_66 : decode cX2_init 66 = .ok (.newarray .int, 2) := by decide +kernel
theorem dX2_init_68 : decode cX2_init 68 = .ok (.putfield 37, 3) := by decide +kernel
theorem dX2_init_71 : decode cX2_init 71 = .ok (.aload_n 0, 1) := by decide +kernel
theorem dX2_init_72 : decode cX2_init 72 = .ok (.bipush 80, 2) := by decide +kernel
theorem dX2_init_74 : decode cX2_init 74 = .ok (.newarray .int, 2) := by decide +kernel
theorem dX2_init_76 : decode cX2_init 76 = .ok (.putfield 40, 3) := by decide +kernel
theorem dX2_init_79 : decode cX2_init 79 = .ok (.aload_n 0, 1) := by decide +kernel
theorem dX2_init_80 : decode cX2_init 80 = .ok (.bipush 7, 2) := by decide +kernel
theorem dX2_init_82 : decode cX2_init 82 = .ok (.newarray .int, 2) := by decide +kernel
theorem dX2_init_84 : decode cX2_init 84 = .ok (.putfield 43, 3) := by decide +kernel
theorem dX2_init_87 : decode cX2_init 87 = .ok (.aload_n 0, 1) := by decide +kernel
theorem dX2_init_88 : decode cX2_init 88 = .ok (.invokevirtual 46, 3) := by decide +kernel
theorem dX2_init_91 : decode cX2_init 91 = .ok (.return_, 1) := by decide +kernel
theorem dX2_clear_0 : decode cX2_clear 0 = .ok (.aload_n 0, 1) := by decide +kernel
theorem dX2_clear_1 : decode cX2_clear 1 = .ok (.iconst 1, 1) := by decide +kernel
theorem dX2_clear_2 : decode cX2_clear 2 = .ok (.putfield 49, 3) := by decide +kernel
theorem dX2_clear_5 : decode cX2_clear 5 = .ok (.aload_n 0, 1) := by decide +kernel
theorem dX2_clear_6 : decode cX2_clear 6 = .ok (.iconst 1, 1) := by decide +kernel
theorem dX2_clear_7 : decode cX2_clear 7 = .ok (.putfield 53, 3) := by decide +kernel
theorem dX2_clear_10 : decode cX2_clear 10 = .ok (.aload_n 0, 1) := by decide +kernel
theorem dX2_clear_11 : decode cX2_clear 11 = .ok (.iconst 0, 1) := by decide +kernel
theorem dX2_clear_12 : decode cX2_clear 12 = .ok (.putfield 56, 3) := by decide +kernel
theorem dX2_clear_15 : decode cX2_clear 15 = .ok (.aload_n 0, 1) := by decide +kernel
theorem dX2_clear_16 : decode cX2_clear 16 = .ok (.iconst 0, 1) := by decide +kernel
theorem dX2_clear_17 : decode cX2_clear 17 = .ok (.putfield 59, 3) := by decide +kernel
theorem dX2_clear_20 : decode cX2_clear 20 = .ok (.aload_n 0, 1) := by decide +kernel
theorem dX2_clear_21 : decode cX2_clear 21 = .ok (.iconst 0, 1) := by decide +kernel
theorem dX2_clear_22 : decode cX2_clear 22 = .ok (.putfield 62, 3) := by decide +kernel
theorem dX2_clear_25 : decode cX2_clear 25 = .ok (.aload_n 0, 1) := by decide +kernel
theorem dX2_clear_26 : decode cX2_clear 26 = .ok (.iconst 0, 1) := by decide +kernel
theorem dX2_clear_27 : decode cX2_clear 27 = .ok (.putfield 65, 3) := by decide +kernel
theorem dX2_clear_30 : decode cX2_clear 30 = .ok (.aload_n 0, 1) := by decide +kernel
theorem dX2_clear_31 : decode cX2_clear 31 = .ok (.iconst 0, 1) := by decide +kernel
theorem dX2_clear_32 : decode cX2_clear 32 = .ok (.putfield 68, 3) := by decide +kernel
theorem dX2_clear_35 : decode cX2_clear 35 = .ok (.aload_n 0, 1) := by decide +kernel
theorem dX2_clear_36 : decode cX2_clear 36 = .ok (.iconst 0, 1) := by decide +kernel
theorem dX2_clear_37 : decode cX2_clear 37 = .ok (.putfield 71, 3) := by decide +kernel
theorem dX2_clear_40 : decode cX2_clear 40 = .ok (.aload_n 0, 1) := by decide +kernel
theorem dX2_clear_41 : decode cX2_clear 41 = .ok (.getfield 12, 3) := by decide +kernel
theorem dX2_clear_44 : decode cX2_clear 44 = .ok (.iconst 1, 1) := by decide +kernel
theorem dX2_clear_45 : decode cX2_clear 45 = .ok (.putfield 74, 3) := by decide +kernel
theorem dX2_clear_48 : decode cX2_clear 48 = .ok (.aload_n 0, 1) := by decide +kernel
theorem dX2_clear_49 : decode cX2_clear 49 = .ok (.getfield 12, 3) := by decide +kernel
theorem dX2_clear_52 : decode cX2_clear 52 = .ok (.iconst 1, 1) := by decide +kernel
theorem dX2_clear_53 : decode cX2_clear 53 = .ok (.putfield 77, 3) := by decide +kernel
theorem dX2_clear_56 : decode cX2_clear 56 = .ok (.aload_n 0, 1) := by decide +kernel
theorem dX2_clear_57 : decode cX2_clear 57 = .ok (.getfield 12, 3) := by decide +kernel
theorem dX2_clear_60 : decode cX2_clear 60 = .ok (.iconst 1, 1) := by decide +kernel
theorem dX2_clear_61 : decode cX2_clear 61 = .ok (.putfield 80, 3) := by decide +kernel
theorem dX2_clear_64 : decode cX2_clear 64 = .ok (.aload_n 0, 1) := by decide +kernel
theorem dX2_clear_65 : decode cX2_clear 65 = .ok (.getfield 12, 3) := by decide +kernel
theorem dX2_clear_68 : decode cX2_clear 68 = .ok (.iconst 0, 1) := by decide +kernel
theorem dX2_clear_69 : decode cX2_clear 69 = .ok (.putfield 83, 3) := by decide +kernel
theorem dX2_clear_72 : decode cX2_clear 72 = .ok (.aload_n 0, 1) := by decide +kernel
theorem dX2_clear_73 : decode cX2_clear 73 = .ok (.getfield 12, 3) := by decide +kernel
theorem dX2_clear_76 : decode cX2_clear 76 = .ok (.iconst 1, 1) := by decide +kernel
theorem dX2_clear_77 : decode cX2_clear 77 = .ok (.putfield 86, 3) := by decide +kernel
theorem dX2_clear_80 : decode cX2_clear 80 = .ok (.aload_n 0, 1) := by decide +kernel
theorem dX2_clear_81 : decode cX2_clear 81 = .ok (.getfield 12, 3) := by decide +kernel
theorem dX2_clear_84 : decode cX2_clear 84 = .ok (.lconst 0, 1) := by decide +kernel
theorem dX2_clear_85 : decode cX2_clear 85 = .ok (.putfield 89, 3) := by decide +kernel
theorem dX2_clear_88 : decode cX2_clear 88 = .ok (.return_, 1) := by decide +kernel
theorem dX2_closeFormula_0 : decode cX2_closeFormula 0 = .ok (.aload_n 0, 1) := by decide +kernel
theorem dX2_closeFormula_1 : decode cX2_closeFormula 1 = .ok (.getfield 71, 3) := by decide +kernel
theorem dX2_closeFormula_4 : decode cX2_closeFormula 4 = .ok (.bipush 6, 2) := by decide +kernel
theorem dX2_closeFormula_6 : decode cX2_closeFormula 6 = .ok (.if_icmp .ge 26, 3) := by decide +kernel
theorem dX2_closeFormula_9 : decode cX2_closeFormula 9 = .ok (.aload_n 0, 1) := by decide +kernel
theorem dX2_closeFormula_10 : decode cX2_closeFormula 10 = .ok (.dup, 1) := by decide +kernel
theorem dX2_closeFormula_11 : decode cX2_closeFormula 11 = .ok (.getfield 71, 3) := by decide +kernel
theorem dX2_closeFormula_14 : decode cX2_closeFormula 14 = .ok (.iconst 1, 1) := by decide +kernel
theorem dX2_closeFormula_15 : decode cX2_closeFormula 15 = .ok (.iadd, 1) := by decide +kernel
theorem dX2_closeFormula_16 : decode cX2_closeFormula 16 = .ok (.putfield 71, 3) := by decide +kernel
theorem dX2_closeFormula_19 : decode cX2_closeFormula 19 = .ok (.aload_n 0, 1) := by decide +kernel
theorem dX2_closeFormula_20 : decode cX2_closeFormula 20 = .ok (.getfield 43, 3) := by decide +kernel
theorem dX2_closeFormula_23 : decode cX2_closeFormula 23 = .ok (.aload_n 0, 1) := by decide +kernel
theorem dX2_closeFormula_24 : decode cX2_closeFormula 24 = .ok (.getfield 71, 3) := by decide +kernel
theorem dX2_closeFormula_27 : decode cX2_closeFormula 27 = .ok (.aload_n 0, 1) := by decide +kernel
theorem dX2_closeFormula_28 : decode cX2_closeFormula 28 = .ok (.getfield 68, 3) := by decide +kernel
theorem dX2_closeFormula_31 : decode cX2_closeFormula 31 = .ok (.iastore, 1) := by decide +kernel
theorem dX2_closeFormula_32 : decode cX2_closeFormula 32 = .ok (.return_, 1) := by decide +kernel
theorem dX2_addNode_0 : decode cX2_addNode 0 = .ok (.aload_n 0, 1) := by decide +kernel
theorem dX2_addNode_1 : decode cX2_addNode 1 = .ok (.getfield 68, 3) := by decide +kernel
theorem dX2_addNode_4 : decode cX2_addNode 4 = .ok (.bipush 80, 2) := by decide +kernel
theorem dX2_addNode_6 : decode cX2_addNode 6 = .ok (.if_icmp .lt 5, 3) := by decide +kernel
theorem dX2_addNode_9 : decode cX2_addNode 9 = .ok (.iconst (-1), 1) := by decide +kernel
theorem dX2_addNode_10 : decode cX2_addNode 10 = .ok (.ireturn, 1) := by decide +kernel
theorem dX2_addNode_11 : decode cX2_addNode 11 = .ok (.aload_n 0, 1) := by decide +kernel
theorem dX2_addNode_12 : decode cX2_addNode 12 = .ok (.getfield 34, 3) := by decide +kernel
theorem dX2_addNode_15 : decode cX2_addNode 15 = .ok (.aload_n 0, 1) := by decide +kernel
theorem dX2_addNode_16 : decode cX2_addNode 16 = .ok (.getfield 68, 3) := by decide +kernel
theorem dX2_addNode_19 : decode cX2_addNode 19 = .ok (.iload_n 1, 1) := by decide +kernel
theorem dX2_addNode_20 : decode cX2_addNode 20 = .ok (.iastore, 1) := by decide +kernel
theorem dX2_addNode_21 : decode cX2_addNode 21 = .ok (.aload_n 0, 1) := by decide +kernel
theorem dX2_addNode_22 : decode cX2_addNode 22 = .ok (.getfield 37, 3) := by decide +kernel
theorem dX2_addNode_25 : decode cX2_addNode 25 = .ok (.aload_n 0, 1) := by decide +kernel
theorem dX2_addNode_26 : decode cX2_addNode 26 = .ok (.getfield 68, 3) := by decide +kernel
theorem dX2_addNode_29 : decode cX2_addNode 29 = .ok (.iload_n 2, 1) := by decide +kernel
theorem dX2_addNode_30 : decode cX2_addNode 30 = .ok (.iastore, 1) := by decide +kernel
theorem dX2_addNode_31 : decode cX2_addNode 31 = .ok (.aload_n 0, 1) := by decide +kernel
theorem dX2_addNode_32 : decode cX2_addNode 32 = .ok (.getfield 40, 3) := by decide +kernel
theorem dX2_addNode_35 : decode cX2_addNode 35 = .ok (.aload_n 0, 1) := by decide +kernel
theorem dX2_addNode_36 : decode cX2_addNode 36 = .ok (.getfield 68, 3) := by decide +kernel
theorem dX2_addNode_39 : decode cX2_addNode 39 = .ok (.iload_n 3, 1) := by decide +kernel
theorem dX2_addNode_40 : decode cX2_addNode 40 = .ok (.iastore, 1) := by decide +kernel
theorem dX2_addNode_41 : decode cX2_addNode 41 = .ok (.aload_n 0, 1) := by decide +kernel
theorem dX2_addNode_42 : decode cX2_addNode 42 = .ok (.dup, 1) := by decide +kernel
theorem dX2_addNode_43 : decode cX2_addNode 43 = .ok (.getfield 68, 3) := by decide +kernel
theorem dX2_addNode_46 : decode cX2_addNode 46 = .ok (.iconst 1, 1) := by decide +kernel
theorem dX2_addNode_47 : decode cX2_addNode 47 = .ok (.iadd, 1) := by decide +kernel
theorem dX2_addNode_48 : decode cX2_addNode 48 = .ok (.putfield 68, 3) := by decide +kernel
theorem dX2_addNode_51 : decode cX2_addNode 51 = .ok (.aload_n 0, 1) := by decide +kernel
theorem dX2_addNode_52 : decode cX2_addNode 52 = .ok (.getfield 68, 3) := by decide +kernel
theorem dX2_addNode_55 : decode cX2_addNode 55 = .ok (.iconst 1, 1) := by decide +kernel
theorem dX2_addNode_56 : decode cX2_addNode 56 = .ok (.isub, 1) := by decide +kernel
theorem dX2_addNode_57 : decode cX2_addNode 57 = .ok (.ireturn, 1) := by decide +kernel
theorem dX2_addRead_0 : decode cX2_addRead 0 = .ok (.aload_n 0, 1) := by decide +kernel
theorem dX2_addRead_1 : decode cX2_addRead 1 = .ok (.getfield 62, 3) := by decide +kernel
theorem dX2_addRead_4 : decode cX2_addRead 4 = .ok (.bipush 12, 2) := by decide +kernel
theorem dX2_addRead_6 : decode cX2_addRead 6 = .ok (.if_icmp .lt 5, 3) := by decide +kernel
theorem dX2_addRead_9 : decode cX2_addRead 9 = .ok (.iconst (-1), 1) := by decide +kernel
theorem dX2_addRead_10 : decode cX2_addRead 10 = .ok (.ireturn, 1) := by decide +kernel
theorem dX2_addRead_11 : decode cX2_addRead 11 = .ok (.aload_n 0, 1) := by decide +kernel
theorem dX2_addRead_12 : decode cX2_addRead 12 = .ok (.getfield 25, 3) := by decide +kernel
theorem dX2_addRead_15 : decode cX2_addRead 15 = .ok (.aload_n 0, 1) := by decide +kernel
theorem dX2_addRead_16 : decode cX2_addRead 16 = .ok (.getfield 62, 3) := by decide +kernel
theorem dX2_addRead_19 : decode cX2_addRead 19 = .ok (.iload_n 1, 1) := by decide +kernel
theorem dX2_addRead_20 : decode cX2_addRead 20 = .ok (.iastore, 1) := by decide +kernel
theorem dX2_addRead_21 : decode cX2_addRead 21 = .ok (.aload_n 0, 1) := by decide +kernel
theorem dX2_addRead_22 : decode cX2_addRead 22 = .ok (.getfield 28, 3) := by decide +kernel
theorem dX2_addRead_25 : decode cX2_addRead 25 = .ok (.aload_n 0, 1) := by decide +kernel
theorem dX2_addRead_26 : decode cX2_addRead 26 = .ok (.getfield 62, 3) := by decide +kernel
theorem dX2_addRead_29 : decode cX2_addRead 29 = .ok (.iload_n 2, 1) := by decide +kernel
theorem dX2_addRead_30 : decode cX2_addRead 30 = .ok (.iastore, 1) := by decide +kernel
theorem dX2_addRead_31 : decode cX2_addRead 31 = .ok (.aload_n 0, 1) := by decide +kernel
theorem dX2_addRead_32 : decode cX2_addRead 32 = .ok (.getfield 31, 3) := by decide +kernel
theorem dX2_addRead_35 : decode cX2_addRead 35 = .ok (.aload_n 0, 1) := by decide +kernel
theorem dX2_addRead_36 : decode cX2_addRead 36 = .ok (.getfield 62, 3) := by decide +kernel
theorem dX2_addRead_39 : decode cX2_addRead 39 = .ok (.iload_n 3, 1) := by decide +kernel
theorem dX2_addRead_40 : decode cX2_addRead 40 = .ok (.iastore, 1) := by decide +kernel
theorem dX2_addRead_41 : decode cX2_addRead 41 = .ok (.aload_n 0, 1) := by decide +kernel
theorem dX2_addRead_42 : decode cX2_addRead 42 = .ok (.dup, 1) := by decide +kernel
theorem dX2_addRead_43 : decode cX2_addRead 43 = .ok (.getfield 62, 3) := by decide +kernel
theorem dX2_addRead_46 : decode cX2_addRead 46 = .ok (.iconst 1, 1) := by decide +kernel
theorem dX2_addRead_47 : decode cX2_addRead 47 = .ok (.iadd, 1) := by decide +kernel
theorem dX2_addRead_48 : decode cX2_addRead 48 = .ok (.putfield 62, 3) := by decide +kernel
theorem dX2_addRead_51 : decode cX2_addRead 51 = .ok (.aload_n 0, 1) := by decide +kernel
theorem dX2_addRead_52 : decode cX2_addRead 52 = .ok (.iload_n 2, 1) := by decide +kernel
theorem dX2_addRead_53 : decode cX2_addRead 53 = .ok (.iload_n 3, 1) := by decide +kernel
theorem dX2_addRead_54 : decode cX2_addRead 54 = .ok (.invokevirtual 93, 3) := by decide +kernel
theorem dX2_addRead_57 : decode cX2_addRead 57 = .ok (.aload_n 0, 1) := by decide +kernel
theorem dX2_addRead_58 : decode cX2_addRead 58 = .ok (.iconst 3, 1) := by decide +kernel
theorem dX2_addRead_59 : decode cX2_addRead 59 = .ok (.aload_n 0, 1) := by decide +kernel
theorem dX2_addRead_60 : decode cX2_addRead 60 = .ok (.getfield 62, 3) := by decide +kernel
theorem dX2_addRead_63 : decode cX2_addRead 63 = .ok (.iconst 1, 1) := by decide +kernel
theorem dX2_addRead_64 : decode cX2_addRead 64 = .ok (.isub, 1) := by decide +kernel
theorem dX2_addRead_65 : decode cX2_addRead 65 = .ok (.iconst 0, 1) := by decide +kernel
theorem dX2_addRead_66 : decode cX2_addRead 66 = .ok (.invokevirtual 97, 3) := by decide +kernel
theorem dX2_addRead_69 : decode cX2_addRead 69 = .ok (.ireturn, 1) := by decide +kernel
theorem dX2_noteOffset_0 : decode cX2_noteOffset 0 = .ok (.iload_n 1, 1) := by decide +kernel
theorem dX2_noteOffset_1 : decode cX2_noteOffset 1 = .ok (.ifCond .ne 11, 3) := by decide +kernel
theorem dX2_noteOffset_4 : decode cX2_noteOffset 4 = .ok (.iload_n 2, 1) := by decide +kernel
theorem dX2_noteOffset_5 : decode cX2_noteOffset 5 = .ok (.ifCond .ne 7, 3) := by decide +kernel
theorem dX2_noteOffset_8 : decode cX2_noteOffset 8 = .ok (.iconst 1, 1) := by decide +kernel
theorem dX2_noteOffset_9 : decode cX2_noteOffset 9 = .ok (.goto 4, 3) := by decide +kernel
theorem dX2_noteOffset_12 : decode cX2_noteOffset 12 = .ok (.iconst 0, 1) := by decide +kernel
theorem dX2_noteOffset_13 : decode cX2_noteOffset 13 = .ok (.istore_n 3, 1) := by decide +kernel
theorem dX2_noteOffset_14 : decode cX2_noteOffset 14 = .ok (.iconst 0, 1) := by decide +kernel
theorem dX2_noteOffset_15 : decode cX2_noteOffset 15 = .ok (.istore 4, 2) := by decide +kernel
theorem dX2_noteOffset_17 : decode cX2_noteOffset 17 = .ok (.iload 4, 2) := by decide +kernel
theorem dX2_noteOffset_19 : decode cX2_noteOffset 19 = .ok (.aload_n 0, 1) := by decide +kernel
theorem dX2_noteOffset_20 : decode cX2_noteOffset 20 = .ok (.getfield 65, 3) := by decide +kernel
theorem dX2_noteOffset_23 : decode cX2_noteOffset 23 = .ok (.if_icmp .ge 39, 3) := by decide +kernel
theorem dX2_noteOffset_26 : decode cX2_noteOffset 26 = .ok (.iload_n 3, 1) := by decide +kernel
theorem dX2_noteOffset_27 : decode cX2_noteOffset 27 = .ok (.aload_n 0, 1) := by decide +kernel
theorem dX2_noteOffset_28 : decode cX2_noteOffset 28 = .ok (.getfield 18, 3) := by decide +kernel
theorem dX2_noteOffset_31 : decode cX2_noteOffset 31 = .ok (.iload 4, 2) := by decide +kernel
theorem dX2_noteOffset_33 : decode cX2_noteOffset 33 = .ok (.iaload, 1) := by decide +kernel
theorem dX2_noteOffset_34 : decode cX2_noteOffset 34 = .ok (.iload_n 1, 1) := by decide +kernel
theorem dX2_noteOffset_35 : decode cX2_noteOffset 35 = .ok (.if_icmp .ne 18, 3) := by decide +kernel
theorem dX2_noteOffset_38 : decode cX2_noteOffset 38 = .ok (.aload_n 0, 1) := by decide +kernel
theorem dX2_noteOffset_39 : decode cX2_noteOffset 39 = .ok (.getfield 22, 3) := by decide +kernel
theorem dX2_noteOffset_42 : decode cX2_noteOffset 42 = .ok (.iload 4, 2) := by decide +kernel
theorem dX2_noteOffset_44 : decode cX2_noteOffset 44 = .ok (.iaload, 1) := by decide +kernel
theorem dX2_noteOffset_45 : decode cX2_noteOffset 45 = .ok (.iload_n 2, 1) := by decide +kernel
theorem dX2_noteOffset_46 : decode cX2_noteOffset 46 = .ok (.if_icmp .ne 7, 3) := by decide +kernel
theorem dX2_noteOffset_49 : decode cX2_noteOffset 49 = .ok (.iconst 1, 1) := by decide +kernel
theorem dX2_noteOffset_50 : decode cX2_noteOffset 50 = .ok (.goto 4, 3) := by decide +kernel
theorem dX2_noteOffset_53 : decode cX2_noteOffset 53 = .ok (.iconst 0, 1) := by decide +kernel
theorem dX2_noteOffset_54 : decode cX2_noteOffset 54 = .ok (.ior, 1) := by decide +kernel
theorem dX2_noteOffset_55 : decode cX2_noteOffset 55 = .ok (.istore_n 3, 1) := by decide +kernel
theorem dX2_noteOffset_56 : decode cX2_noteOffset 56 = .ok (.iinc 4 1, 3) := by decide +kernel
theorem dX2_noteOffset_59 : decode cX2_noteOffset 59 = .ok (.goto (-42), 3) := by decide +kernel
theorem dX2_noteOffset_62 : decode cX2_noteOffset 62 = .ok (.iload_n 3, 1) := by decide +kernel
theorem dX2_noteOffset_63 : decode cX2_noteOffset 63 = .ok (.ifCond .ne 42, 3) := by decide +kernel
theorem dX2_noteOffset_66 : decode cX2_noteOffset 66 = .ok (.aload_n 0, 1) := by decide +kernel
theorem dX2_noteOffset_67 : decode cX2_noteOffset 67 = .ok (.getfield 65, 3) := by decide +kernel
theorem dX2_noteOffset_70 : decode cX2_noteOffset 70 = .ok (.bipush 12, 2) := by decide +kernel
theorem dX2_noteOffset_72 : decode cX2_noteOffset 72 = .ok (.if_icmp .ge 33, 3) := by decide +kernel
theorem dX2_noteOffset_75 : decode cX2_noteOffset 75 = .ok (.aload_n 0, 1) := by decide +kernel
theorem dX2_noteOffset_76 : decode cX2_noteOffset 76 = .ok (.getfield 18, 3) := by decide +kernel
theorem dX2_noteOffset_79 : decode cX2_noteOffset 79 = .ok (.aload_n 0, 1) := by decide +kernel
theorem dX2_noteOffset_80 : decode cX2_noteOffset 80 = .ok (.getfield 65, 3) := by decide +kernel
theorem dX2_noteOffset_83 : decode cX2_noteOffset 83 = .ok (.iload_n 1, 1) := by decide +kernel
theorem dX2_noteOffset_84 : decode cX2_noteOffset 84 = .ok (.iastore, 1) := by decide +kernel
theorem dX2_noteOffset_85 : decode cX2_noteOffset 85 = .ok (.aload_n 0, 1) := by decide +kernel
theorem dX2_noteOffset_86 : decode cX2_noteOffset 86 = .ok (.getfield 22, 3) := by decide +kernel
theorem dX2_noteOffset_89 : decode cX2_noteOffset 89 = .ok (.aload_n 0, 1) := by decide +kernel
theorem dX2_noteOffset_90 : decode cX2_noteOffset 90 = .ok (.getfield 65, 3) := by decide +kernel
theorem dX2_noteOffset_93 : decode cX2_noteOffset 93 = .ok (.iload_n 2, 1) := by decide +kernel
theorem dX2_noteOffset_94 : decode cX2_noteOffset 94 = .ok (.iastore, 1) := by decide +kernel
theorem dX2_noteOffset_95 : decode cX2_noteOffset 95 = .ok (.aload_n 0, 1) := by decide +kernel
theorem dX2_noteOffset_96 : decode cX2_noteOffset 96 = .ok (.dup, 1) := by decide +kernel
theorem dX2_noteOffset_97 : decode cX2_noteOffset 97 = .ok (.getfield 65, 3) := by decide +kernel
theorem dX2_noteOffset_100 : decode cX2_noteOffset 100 = .ok (.iconst 1, 1) := by decide +kernel
theorem dX2_noteOffset_101 : decode cX2_noteOffset 101 = .ok (.iadd, 1) := by decide +kernel
theorem dX2_noteOffset_102 : decode cX2_noteOffset 102 = .ok (.putfield 65, 3) := by decide +kernel
theorem dX2_noteOffset_105 : decode cX2_noteOffset 105 = .ok (.return_, 1) := by decide +kernel
theorem dX2_isInside_0 : decode cX2_isInside 0 = .ok (.iload_n 1, 1) := by decide +kernel
theorem dX2_isInside_1 : decode cX2_isInside 1 = .ok (.ifCond .lt 27, 3) := by decide +kernel
theorem dX2_isInside_4 : decode cX2_isInside 4 = .ok (.iload_n 1, 1) := by decide +kernel
theorem dX2_isInside_5 : decode cX2_isInside 5 = .ok (.aload_n 0, 1) := by decide +kernel
theorem dX2_isInside_6 : decode cX2_isInside 6 = .ok (.getfield 49, 3) := by decide +kernel
theorem dX2_isInside_9 : decode cX2_isInside 9 = .ok (.if_icmp .ge 19, 3) := by decide +kernel
theorem dX2_isInside_12 : decode cX2_isInside 12 = .ok (.iload_n 2, 1) := by decide +kernel
theorem dX2_isInside_13 : decode cX2_isInside 13 = .ok (.ifCond .lt 15, 3) := by decide +kernel
theorem dX2_isInside_16 : decode cX2_isInside 16 = .ok (.iload_n 2, 1) := by decide +kernel
theorem dX2_isInside_17 : decode cX2_isInside 17 = .ok (.aload_n 0, 1) := by decide +kernel
theorem dX2_isInside_18 : decode cX2_isInside 18 = .ok (.getfield 53, 3) := by decide +kernel
theorem dX2_isInside_21 : decode cX2_isInside 21 = .ok (.if_icmp .ge 7, 3) := by decide +kernel
theorem dX2_isInside_24 : decode cX2_isInside 24 = .ok (.iconst 1, 1) := by decide +kernel
theorem dX2_isInside_25 : decode cX2_isInside 25 = .ok (.goto 4, 3) := by decide +kernel
theorem dX2_isInside_28 : decode cX2_isInside 28 = .ok (.iconst 0, 1) := by decide +kernel
theorem dX2_isInside_29 : decode cX2_isInside 29 = .ok (.ireturn, 1) := by decide +kernel
theorem dX2_points_0 : decode cX2_points 0 = .ok (.aload_n 0, 1) := by decide +kernel
theorem dX2_points_1 : decode cX2_points 1 = .ok (.getfield 49, 3) := by decide +kernel
theorem dX2_points_4 : decode cX2_points 4 = .ok (.aload_n 0, 1) := by decide +kernel
theorem dX2_points_5 : decode cX2_points 5 = .ok (.getfield 53, 3) := by decide +kernel
theorem dX2_points_8 : decode cX2_points 8 = .ok (.imul, 1) := by decide +kernel
theorem dX2_points_9 : decode cX2_points 9 = .ok (.ireturn, 1) := by decide +kernel
theorem dX2_pointAt_0 : decode cX2_pointAt 0 = .ok (.iload_n 1, 1) := by decide +kernel
theorem dX2_pointAt_1 : decode cX2_pointAt 1 = .ok (.aload_n 0, 1) := by decide +kernel
theorem dX2_pointAt_2 : decode cX2_pointAt 2 = .ok (.getfield 53, 3) := by decide +kernel
theorem dX2_pointAt_5 : decode cX2_pointAt 5 = .ok (.idiv, 1) := by decide +kernel
theorem dX2_pointAt_6 : decode cX2_pointAt 6 = .ok (.bipush 10, 2) := by decide +kernel
theorem dX2_pointAt_8 : decode cX2_pointAt 8 = .ok (.imul, 1) := by decide +kernel
theorem dX2_pointAt_9 : decode cX2_pointAt 9 = .ok (.iload_n 1, 1) := by decide +kernel
theorem dX2_pointAt_10 : decode cX2_pointAt 10 = .ok (.aload_n 0, 1) := by decide +kernel
theorem dX2_pointAt_11 : decode cX2_pointAt 11 = .ok (.getfield 53, 3) := by decide +kernel
theorem dX2_pointAt_14 : decode cX2_pointAt 14 = .ok (.irem, 1) := by decide +kernel
theorem dX2_pointAt_15 : decode cX2_pointAt 15 = .ok (.iadd, 1) := by decide +kernel
theorem dX2_pointAt_16 : decode cX2_pointAt 16 = .ok (.ireturn, 1) := by decide +kernel
theorem dX2_target_0 : decode cX2_target 0 = .ok (.aload_n 0, 1) := by decide +kernel
theorem dX2_target_1 : decode cX2_target 1 = .ok (.iload_n 1, 1) := by decide +kernel
theorem dX2_target_2 : decode cX2_target 2 = .ok (.aload_n 0, 1) := by decide +kernel
theorem dX2_target_3 : decode cX2_target 3 = .ok (.getfield 18, 3) := by decide +kernel
theorem dX2_target_6 : decode cX2_target 6 = .ok (.iload_n 2, 1) := by decide +kernel
theorem dX2_target_7 : decode cX2_target 7 = .ok (.iaload, 1) := by decide +kernel
theorem dX2_target_8 : decode cX2_target 8 = .ok (.aload_n 0, 1) := by decide +kernel
theorem dX2_target_9 : decode cX2_target 9 = .ok (.getfield 22, 3) := by decide +kernel
theorem dX2_target_12 : decode cX2_target 12 = .ok (.iload_n 2, 1) := by decide +kernel
theorem dX2_target_13 : decode cX2_target 13 = .ok (.iaload, 1) := by decide +kernel
theorem dX2_target_14 : decode cX2_target 14 = .ok (.invokevirtual 101, 3) := by decide +kernel
theorem dX2_target_17 : decode cX2_target 17 = .ok (.ireturn, 1) := by decide +kernel
theorem dX2_reader_0 : decode cX2_reader 0 = .ok (.aload_n 0, 1) := by decide +kernel
theorem dX2_reader_1 : decode cX2_reader 1 = .ok (.iload_n 1, 1) := by decide +kernel
theorem dX2_reader_2 : decode cX2_reader 2 = .ok (.aload_n 0, 1) := by decide +kernel
theorem dX2_reader_3 : decode cX2_reader 3 = .ok (.getfield 18, 3) := by decide +kernel
theorem dX2_reader_6 : decode cX2_reader 6 = .ok (.iload_n 2, 1) := by decide +kernel
theorem dX2_reader_7 : decode cX2_reader 7 = .ok (.iaload, 1) := by decide +kernel
theorem dX2_reader_8 : decode cX2_reader 8 = .ok (.ineg, 1) := by decide +kernel
theorem dX2_reader_9 : decode cX2_reader 9 = .ok (.aload_n 0, 1) := by decide +kernel
theorem dX2_reader_10 : decode cX2_reader 10 = .ok (.getfield 22, 3) := by decide +kernel
theorem dX2_reader_13 : decode cX2_reader 13 = .ok (.iload_n 2, 1) := by decide +kernel
theorem dX2_reader_14 : decode cX2_reader 14 = .ok (.iaload, 1) := by decide +kernel
theorem dX2_reader_15 : decode cX2_reader 15 = .ok (.ineg, 1) := by decide +kernel
theorem dX2_reader_16 : decode cX2_reader 16 = .ok (.invokevirtual 101, 3) := by decide +kernel
theorem dX2_reader_19 : decode cX2_reader 19 = .ok (.ireturn, 1) := by decide +kernel
theorem dX2_moved_0 : decode cX2_moved 0 = .ok (.iload_n 1, 1) := by decide +kernel
theorem dX2_moved_1 : decode cX2_moved 1 = .ok (.bipush 10, 2) := by decide +kernel
theorem dX2_moved_3 : decode cX2_moved 3 = .ok (.idiv, 1) := by decide +kernel
theorem dX2_moved_4 : decode cX2_moved 4 = .ok (.iload_n 2, 1) := by decide +kernel
theorem dX2_moved_5 : decode cX2_moved 5 = .ok (.iadd, 1) := by decide +kernel
theorem dX2_moved_6 : decode cX2_moved 6 = .ok (.istore 4, 2) := by decide +kernel
theorem dX2_moved_8 : decode cX2_moved 8 = .ok (.iload_n 1, 1) := by decide +kernel
theorem dX2_moved_9 : decode cX2_moved 9 = .ok (.bipush 10, 2) := by decide +kernel
theorem dX2_moved_11 : decode cX2_moved 11 = .ok (.irem, 1) := by decide +kernel
theorem dX2_moved_12 : decode cX2_moved 12 = .ok (.iload_n 3, 1) := by decide +kernel
theorem dX2_moved_13 : decode cX2_moved 13 = .ok (.iadd, 1) := by decide +kernel
theorem dX2_moved_14 : decode cX2_moved 14 = .ok (.istore 5, 2) := by decide +kernel
theorem dX2_moved_16 : decode cX2_moved 16 = .ok (.iload 4, 2) := by decide +kernel
theorem dX2_moved_18 : decode cX2_moved 18 = .ok (.ifCond .lt 30, 3) := by decide +kernel
theorem dX2_moved_21 : decode cX2_moved 21 = .ok (.iload 4, 2) := by decide +kernel
theorem dX2_moved_23 : decode cX2_moved 23 = .ok (.aload_n 0, 1) := by decide +kernel
theorem dX2_moved_24 : decode cX2_moved 24 = .ok (.getfield 49, 3) := by decide +kernel
theorem dX2_moved_27 : decode cX2_moved 27 = .ok (.if_icmp .ge 21, 3) := by decide +kernel
theorem dX2_moved_30 : decode cX2_moved 30 = .ok (.iload 5, 2) := by decide +kernel
theorem dX2_moved_32 : decode cX2_moved 32 = .ok (.ifCond .lt 16, 3) := by decide +kernel
theorem dX2_moved_35 : decode cX2_moved 35 = .ok (.iload 5, 2) := by decide +kernel
theorem dX2_moved_37 : decode cX2_moved 37 = .ok (.aload_n 0, 1) := by decide +kernel
theorem dX2_moved_38 : decode cX2_moved 38 = .ok (.getfield 53, 3) := by decide +kernel
theorem dX2_moved_41 : decode cX2_moved 41 = .ok (.if_icmp .ge 7, 3) := by decide +kernel
theorem dX2_moved_44 : decode cX2_moved 44 = .ok (.iconst 1, 1) := by decide +kernel
theorem dX2_moved_45 : decode cX2_moved 45 = .ok (.goto 4, 3) := by decide +kernel
theorem dX2_moved_48 : decode cX2_moved 48 = .ok (.iconst 0, 1) := by decide +kernel
theorem dX2_moved_49 : decode cX2_moved 49 = .ok (.istore 6, 2) := by decide +kernel
theorem dX2_moved_51 : decode cX2_moved 51 = .ok (.iload 6, 2) := by decide +kernel
theorem dX2_moved_53 : decode cX2_moved 53 = .ok (.ifCond .eq 14, 3) := by decide +kernel
theorem dX2_moved_56 : decode cX2_moved 56 = .ok (.iload 4, 2) := by decide +kernel
theorem dX2_moved_58 : decode cX2_moved 58 = .ok (.bipush 10, 2) := by decide +kernel
theorem dX2_moved_60 : decode cX2_moved 60 = .ok (.imul, 1) := by decide +kernel
theorem dX2_moved_61 : decode cX2_moved 61 = .ok (.iload 5, 2) := by decide +kernel
theorem dX2_moved_63 : decode cX2_moved 63 = .ok (.iadd, 1) := by decide +kernel
theorem dX2_moved_64 : decode cX2_moved 64 = .ok (.goto 4, 3) := by decide +kernel
theorem dX2_moved_67 : decode cX2_moved 67 = .ok (.iconst (-1), 1) := by decide +kernel
theorem dX2_moved_68 : decode cX2_moved 68 = .ok (.ireturn, 1) := by decide +kernel
theorem dX2_readBy_0 : decode cX2_readBy 0 = .ok (.iconst 0, 1) := by decide +kernel
theorem dX2_readBy_1 : decode cX2_readBy 1 = .ok (.istore_n 2, 1) := by decide +kernel
theorem dX2_readBy_2 : decode cX2_readBy 2 = .ok (.iconst 0, 1) := by decide +kernel
theorem dX2_readBy_3 : decode cX2_readBy 3 = .ok (.istore_n 3, 1) := by decide +kernel
theorem dX2_readBy_4 : decode cX2_readBy 4 = .ok (.iload_n 3, 1) := by decide +kernel
theorem dX2_readBy_5 : decode cX2_readBy 5 = .ok (.aload_n 0, 1) := by decide +kernel
theorem dX2_readBy_6 : decode cX2_readBy 6 = .ok (.getfield 65, 3) := by decide +kernel
theorem dX2_readBy_9 : decode cX2_readBy 9 = .ok (.if_icmp .ge 22, 3) := by decide +kernel
theorem dX2_readBy_12 : decode cX2_readBy 12 = .ok (.aload_n 0, 1) := by decide +kernel
theorem dX2_readBy_13 : decode cX2_readBy 13 = .ok (.iload_n 1, 1) := by decide +kernel
theorem dX2_readBy_14 : decode cX2_readBy 14 = .ok (.iload_n 3, 1) := by decide +kernel
theorem dX2_readBy_15 : decode cX2_readBy 15 = .ok (.invokevirtual 104, 3) := by decide +kernel
theorem dX2_readBy_18 : decode cX2_readBy 18 = .ok (.iconst (-1), 1) := by decide +kernel
theorem dX2_readBy_19 : decode cX2_readBy 19 = .ok (.if_icmp .eq 6, 3) := by decide +kernel
theorem dX2_readBy_22 : decode cX2_readBy 22 = .ok (.iinc 2 1, 3) := by decide +kernel
theorem dX2_readBy_25 : decode cX2_readBy 25 = .ok (.iinc 3 1, 3) := by decide +kernel
theorem dX2_readBy_28 : decode cX2_readBy 28 = .ok (.goto (-24), 3) := by decide +kernel
theorem dX2_readBy_31 : decode cX2_readBy 31 = .ok (.iload_n 2, 1) := by decide +kernel
theorem dX2_readBy_32 : decode cX2_readBy 32 = .ok (.ireturn, 1) := by decide +kernel
theorem dX2_readersOf_0 : decode cX2_readersOf 0 = .ok (.iconst 0, 1) := by decide +kernel
theorem dX2_readersOf_1 : decode cX2_readersOf 1 = .ok (.istore_n 2, 1) := by decide +kernel
theorem dX2_readersOf_2 : decode cX2_readersOf 2 = .ok (.iconst 0, 1) := by decide +kernel
theorem dX2_readersOf_3 : decode cX2_readersOf 3 = .ok (.istore_n 3, 1) := by decide +kernel
theorem dX2_readersOf_4 : decode cX2_readersOf 4 = .ok (.iload_n 3, 1) := by decide +kernel
theorem dX2_readersOf_5 : decode cX2_readersOf 5 = .ok (.aload_n 0, 1) := by decide +kernel
theorem dX2_readersOf_6 : decode cX2_readersOf 6 = .ok (.getfield 65, 3) := by decide +kernel
theorem dX2_readersOf_9 : decode cX2_readersOf 9 = .ok (.if_icmp .ge 22, 3) := by decide +kernel
theorem dX2_readersOf_12 : decode cX2_readersOf 12 = .ok (.aload_n 0, 1) := by decide +kernel
theorem dX2_readersOf_13 : decode cX2_readersOf 13 = .ok (.iload_n 1, 1) := by decide +kernel
theorem dX2_readersOf_14 : decode cX2_readersOf 14 = .ok (.iload_n 3, 1) := by decide +kernel
theorem dX2_readersOf_15 : decode cX2_readersOf 15 = .ok (.invokevirtual 108, 3) := by decide +kernel
theorem dX2_readersOf_18 : decode cX2_readersOf 18 = .ok (.iconst (-1), 1) := by decide +kernel
theorem dX2_readersOf_19 : decode cX2_readersOf 19 = .ok (.if_icmp .eq 6, 3) := by decide +kernel
theorem dX2_readersOf_22 : decode cX2_readersOf 22 = .ok (.iinc 2 1, 3) := by decide +kernel
theorem dX2_readersOf_25 : decode cX2_readersOf 25 = .ok (.iinc 3 1, 3) := by decide +kernel
theorem dX2_readersOf_28 : decode cX2_readersOf 28 = .ok (.goto (-24), 3) := by decide +kernel
theorem dX2_readersOf_31 : decode cX2_readersOf 31 = .ok (.iload_n 2, 1) := by decide +kernel
theorem dX2_readersOf_32 : decode cX2_readersOf 32 = .ok (.ireturn, 1) := by decide +kernel
theorem dX2_edgeReads_0 : decode cX2_edgeReads 0 = .ok (.iconst 0, 1) := by decide +kernel
theorem dX2_edgeReads_1 : decode cX2_edgeReads 1 = .ok (.istore_n 2, 1) := by decide +kernel
theorem dX2_edgeReads_2 : decode cX2_edgeReads 2 = .ok (.iconst 0, 1) := by decide +kernel
theorem dX2_edgeReads_3 : decode cX2_edgeReads 3 = .ok (.istore_n 3, 1) := by decide +kernel
theorem dX2_edgeReads_4 : decode cX2_edgeReads 4 = .ok (.iload_n 3, 1) := by decide +kernel
theorem dX2_edgeReads_5 : decode cX2_edgeReads 5 = .ok (.aload_n 0, 1) := by decide +kernel
theorem dX2_edgeReads_6 : decode cX2_edgeReads 6 = .ok (.getfield 62, 3) := by decide +kernel
theorem dX2_edgeReads_9 : decode cX2_edgeReads 9 = .ok (.if_icmp .ge 33, 3) := by decide +kernel
theorem dX2_edgeReads_12 : decode cX2_edgeReads 12 = .ok (.aload_n 0, 1) := by decide +kernel
theorem dX2_edgeReads_13 : decode cX2_edgeReads 13 = .ok (.iload_n 1, 1) := by decide +kernel
theorem dX2_edgeReads_14 : decode cX2_edgeReads 14 = .ok (.aload_n 0, 1) := by decide +kernel
theorem dX2_edgeReads_15 : decode cX2_edgeReads 15 = .ok (.getfield 28, 3) := by decide +kernel
theorem dX2_edgeReads_18 : decode cX2_edgeReads 18 = .ok (.iload_n 3, 1) := by decide +kernel
theorem dX2_edgeReads_19 : decode cX2_edgeReads 19 = .ok (.iaload, 1) := by decide +kernel
theorem dX2_edgeReads_20 : decode cX2_edgeReads 20 = .ok (.aload_n 0, 1) := by decide +kernel
theorem dX2_edgeReads_21 : decode cX2_edgeReads 21 = .ok (.getfield 31, 3) := by decide +kernel
theorem dX2_edgeReads_24 : decode cX2_edgeReads 24 = .ok (.iload_n 3, 1) := by decide +kernel
theorem dX2_edgeReads_25 : decode cX2_edgeReads 25 = .ok (.iaload, 1) := by decide +kernel
theorem dX2_edgeReads_26 : decode cX2_edgeReads 26 = .ok (.invokevirtual 101, 3) := by decide +kernel
theorem dX2_edgeReads_29 : decode cX2_edgeReads 29 = .ok (.iconst (-1), 1) := by decide +kernel
theorem dX2_edgeReads_30 : decode cX2_edgeReads 30 = .ok (.if_icmp .ne 6, 3) := by decide +kernel
theorem dX2_edgeReads_33 : decode cX2_edgeReads 33 = .ok (.iinc 2 1, 3) := by decide +kernel
theorem dX2_edgeReads_36 : decode cX2_edgeReads 36 = .ok (.iinc 3 1, 3) := by decide +kernel
theorem dX2_edgeReads_39 : decode cX2_edgeReads 39 = .ok (.goto (-35), 3) := by decide +kernel
theorem dX2_edgeReads_42 : decode cX2_edgeReads 42 = .ok (.iload_n 2, 1) := by decide +kernel
theorem dX2_edgeReads_43 : decode cX2_edgeReads 43 = .ok (.ireturn, 1) := by decide +kernel
theorem dX2_isLawful_0 : decode cX2_isLawful 0 = .ok (.iconst 0, 1) := by decide +kernel
theorem dX2_isLawful_1 : decode cX2_isLawful 1 = .ok (.istore_n 3, 1) := by decide +kernel
theorem dX2_isLawful_2 : decode cX2_isLawful 2 = .ok (.iload_n 3, 1) := by decide +kernel
theorem dX2_isLawful_3 : decode cX2_isLawful 3 = .ok (.aload_n 0, 1) := by decide +kernel
theorem dX2_isLawful_4 : decode cX2_isLawful 4 = .ok (.getfield 65, 3) := by decide +kernel
theorem dX2_isLawful_7 : decode cX2_isLawful 7 = .ok (.if_icmp .ge 31, 3) := by decide +kernel
theorem dX2_isLawful_10 : decode cX2_isLawful 10 = .ok (.iload_n 1, 1) := by decide +kernel
theorem dX2_isLawful_11 : decode cX2_isLawful 11 = .ok (.aload_n 0, 1) := by decide +kernel
theorem dX2_isLawful_12 : decode cX2_isLawful 12 = .ok (.getfield 18, 3) := by decide +kernel
theorem dX2_isLawful_15 : decode cX2_isLawful 15 = .ok (.iload_n 3, 1) := by decide +kernel
theorem dX2_isLawful_16 : decode cX2_isLawful 16 = .ok (.iaload, 1) := by decide +kernel
theorem dX2_isLawful_17 : decode cX2_isLawful 17 = .ok (.imul, 1) := by decide +kernel
theorem dX2_isLawful_18 : decode cX2_isLawful 18 = .ok (.iload_n 2, 1) := by decide +kernel
theorem dX2_isLawful_19 : decode cX2_isLawful 19 = .ok (.aload_n 0, 1) := by decide +kernel
theorem dX2_isLawful_20 : decode cX2_isLawful 20 = .ok (.getfield 22, 3) := by decide +kernel
theorem dX2_isLawful_23 : decode cX2_isLawful 23 = .ok (.iload_n 3, 1) := by decide +kernel
theorem dX2_isLawful_24 : decode cX2_isLawful 24 = .ok (.iaload, 1) := by decide +kernel
theorem dX2_isLawful_25 : decode cX2_isLawful 25 = .ok (.imul, 1) := by decide +kernel
theorem dX2_isLawful_26 : decode cX2_isLawful 26 = .ok (.iadd, 1) := by decide +kernel
theorem dX2_isLawful_27 : decode cX2_isLawful 27 = .ok (.ifCond .lt 5, 3) := by decide +kernel
theorem dX2_isLawful_30 : decode cX2_isLawful 30 = .ok (.iconst 0, 1) := by decide +kernel
theorem dX2_isLawful_31 : decode cX2_isLawful 31 = .ok (.ireturn, 1) := by decide +kernel
theorem dX2_isLawful_32 : decode cX2_isLawful 32 = .ok (.iinc 3 1, 3) := by decide +kernel
theorem dX2_isLawful_35 : decode cX2_isLawful 35 = .ok (.goto (-33), 3) := by decide +kernel
theorem dX2_isLawful_38 : decode cX2_isLawful 38 = .ok (.iconst 1, 1) := by decide +kernel
theorem dX2_isLawful_39 : decode cX2_isLawful 39 = .ok (.ireturn, 1) := by decide +kernel
theorem dX2_shifted_0 : decode cX2_shifted 0 = .ok (.iconst 0, 1) := by decide +kernel
theorem dX2_shifted_1 : decode cX2_shifted 1 = .ok (.aload_n 0, 1) := by decide +kernel
theorem dX2_shifted_2 : decode cX2_shifted 2 = .ok (.getfield 49, 3) := by decide +kernel
theorem dX2_shifted_5 : decode cX2_shifted 5 = .ok (.iload_n 1, 1) := by decide +kernel
theorem dX2_shifted_6 : decode cX2_shifted 6 = .ok (.invokestatic 111, 3) := by decide +kernel
theorem dX2_shifted_9 : decode cX2_shifted 9 = .ok (.isub, 1) := by decide +kernel
theorem dX2_shifted_10 : decode cX2_shifted 10 = .ok (.invokestatic 117, 3) := by decide +kernel
theorem dX2_shifted_13 : decode cX2_shifted 13 = .ok (.iconst 0, 1) := by decide +kernel
theorem dX2_shifted_14 : decode cX2_shifted 14 = .ok (.aload_n 0, 1) := by decide +kernel
theorem dX2_shifted_15 : decode cX2_shifted 15 = .ok (.getfield 53, 3) := by decide +kernel
theorem dX2_shifted_18 : decode cX2_shifted 18 = .ok (.iload_n 2, 1) := by decide +kernel
theorem dX2_shifted_19 : decode cX2_shifted 19 = .ok (.invokestatic 111, 3) := by decide +kernel
theorem dX2_shifted_22 : decode cX2_shifted 22 = .ok (.isub, 1) := by decide +kernel
theorem dX2_shifted_23 : decode cX2_shifted 23 = .ok (.invokestatic 117, 3) := by decide +kernel
theorem dX2_shifted_26 : decode cX2_shifted 26 = .ok (.imul, 1) := by decide +kernel
theorem dX2_shifted_27 : decode cX2_shifted 27 = .ok (.ireturn, 1) := by decide +kernel
theorem dX2_latency_0 : decode cX2_latency 0 = .ok (.iload_n 1, 1) := by decide +kernel
theorem dX2_latency_1 : decode cX2_latency 1 = .ok (.invokestatic 111, 3) := by decide +kernel
theorem dX2_latency_4 : decode cX2_latency 4 = .ok (.aload_n 0, 1) := by decide +kernel
theorem dX2_latency_5 : decode cX2_latency 5 = .ok (.getfield 49, 3) := by decide +kernel
theorem dX2_latency_8 : decode cX2_latency 8 = .ok (.iconst 1, 1) := by decide +kernel
theorem dX2_latency_9 : decode cX2_latency 9 = .ok (.isub, 1) := by decide +kernel
theorem dX2_latency_10 : decode cX2_latency 10 = .ok (.imul, 1) := by decide +kernel
theorem dX2_latency_11 : decode cX2_latency 11 = .ok (.iload_n 2, 1) := by decide +kernel
theorem dX2_latency_12 : decode cX2_latency 12 = .ok (.invokestatic 111, 3) := by decide +kernel
theorem dX2_latency_15 : decode cX2_latency 15 = .ok (.aload_n 0, 1) := by decide +kernel
theorem dX2_latency_16 : decode cX2_latency 16 = .ok (.getfield 53, 3) := by decide +kernel
theorem dX2_latency_19 : decode cX2_latency 19 = .ok (.iconst 1, 1) := by decide +kernel
theorem dX2_latency_20 : decode cX2_latency 20 = .ok (.isub, 1) := by decide +kernel
theorem dX2_latency_21 : decode cX2_latency 21 = .ok (.imul, 1) := by decide +kernel
theorem dX2_latency_22 : decode cX2_latency 22 = .ok (.iadd, 1) := by decide +kernel
theorem dX2_latency_23 : decode cX2_latency 23 = .ok (.iconst 1, 1) := by decide +kernel
theorem dX2_latency_24 : decode cX2_latency 24 = .ok (.iadd, 1) := by decide +kernel
theorem dX2_latency_25 : decode cX2_latency 25 = .ok (.ireturn, 1) := by decide +kernel
theorem dX2_cells_0 : decode cX2_cells 0 = .ok (.aload_n 0, 1) := by decide +kernel
theorem dX2_cells_1 : decode cX2_cells 1 = .ok (.invokevirtual 120, 3) := by decide +kernel
theorem dX2_cells_4 : decode cX2_cells 4 = .ok (.aload_n 0, 1) := by decide +kernel
theorem dX2_cells_5 : decode cX2_cells 5 = .ok (.iload_n 1, 1) := by decide +kernel
theorem dX2_cells_6 : decode cX2_cells 6 = .ok (.iload_n 2, 1) := by decide +kernel
theorem dX2_cells_7 : decode cX2_cells 7 = .ok (.invokevirtual 124, 3) := by decide +kernel
theorem dX2_cells_10 : decode cX2_cells 10 = .ok (.isub, 1) := by decide +kernel
theorem dX2_cells_11 : decode cX2_cells 11 = .ok (.ireturn, 1) := by decide +kernel
theorem dX2_clashes_0 : decode cX2_clashes 0 = .ok (.iload_n 1, 1) := by decide +kernel
theorem dX2_clashes_1 : decode cX2_clashes 1 = .ok (.iload_n 3, 1) := by decide +kernel
theorem dX2_clashes_2 : decode cX2_clashes 2 = .ok (.imul, 1) := by decide +kernel
theorem dX2_clashes_3 : decode cX2_clashes 3 = .ok (.iload_n 2, 1) := by decide +kernel
theorem dX2_clashes_4 : decode cX2_clashes 4 = .ok (.iload 4, 2) := by decide +kernel
theorem dX2_clashes_6 : decode cX2_clashes 6 = .ok (.imul, 1) := by decide +kernel
theorem dX2_clashes_7 : decode cX2_clashes 7 = .ok (.iadd, 1) := by decide +kernel
theorem dX2_clashes_8 : decode cX2_clashes 8 = .ok (.ifCond .ne 13, 3) := by decide +kernel
theorem dX2_clashes_11 : decode cX2_clashes 11 = .ok (.aload_n 0, 1) := by decide +kernel
theorem dX2_clashes_12 : decode cX2_clashes 12 = .ok (.iload_n 3, 1) := by decide +kernel
theorem dX2_clashes_13 : decode cX2_clashes 13 = .ok (.iload 4, 2) := by decide +kernel
theorem dX2_clashes_15 : decode cX2_clashes 15 = .ok (.invokevirtual 124, 3) := by decide +kernel
theorem dX2_clashes_18 : decode cX2_clashes 18 = .ok (.goto 4, 3) := by decide +kernel
theorem dX2_clashes_21 : decode cX2_clashes 21 = .ok (.iconst 0, 1) := by decide +kernel
theorem dX2_clashes_22 : decode cX2_clashes 22 = .ok (.ireturn, 1) := by decide +kernel
theorem dX3_init_0 : decode cX3_init 0 = .ok (.aload_n 0, 1) := by decide +kernel
theorem dX3_init_1 : decode cX3_init 1 = .ok (.invokespecial 3, 3) := by decide +kernel
theorem dX3_init_4 : decode cX3_init 4 = .ok (.aload_n 0, 1) := by decide +kernel
theorem dX3_init_5 : decode cX3_init 5 = .ok (.iconst 3, 1) := by decide +kernel
theorem dX3_init_6 : decode cX3_init 6 = .ok (.newarray .int, 2) := by decide +kernel
theorem dX3_init_8 : decode cX3_init 8 = .ok (.putfield 9, 3) := by decide +kernel
theorem dX3_init_11 : decode cX3_init 11 = .ok (.aload_n 0, 1) := by decide +kernel
theorem dX3_init_12 : decode cX3_init 12 = .ok (.iconst 3, 1) := by decide +kernel
theorem dX3_init_13 : decode cX3_init 13 = .ok (.newarray .int, 2) := by decide +kernel
theorem dX3_init_15 : decode cX3_init 15 = .ok (.putfield 15, 3) := by decide +kernel
theorem dX3_init_18 : decode cX3_init 18 = .ok (.aload_n 0, 1) := by decide +kernel
theorem dX3_init_19 : decode cX3_init 19 = .ok (.iconst (-1), 1) := by decide +kernel
theorem dX3_init_20 : decode cX3_init 20 = .ok (.putfield 18, 3) := by decide +kernel
theorem dX3_init_23 : decode cX3_init 23 = .ok (.aload_n 0, 1) := by decide +kernel
theorem dX3_init_24 : decode cX3_init 24 = .ok (.aload_n 1, 1) := by decide +kernel
theorem dX3_init_25 : decode cX3_init 25 = .ok (.putfield 22, 3) := by decide +kernel
theorem dX3_init_28 : decode cX3_init 28 = .ok (.aload_n 0, 1) := by decide +kernel
theorem dX3_init_29 : decode cX3_init 29 = .ok (.aload_n 2, 1) := by decide +kernel
theorem dX3_init_30 : decode cX3_init 30 = .ok (.putfield 26, 3) := by decide +kernel
theorem dX3_init_33 : decode cX3_init 33 = .ok (.return_, 1) := by decide +kernel
theorem dX3_parse_0 : decode cX3_parse 0 = .ok (.aload_n 0, 1) := by decide +kernel
theorem dX3_parse_1 : decode cX3_parse 1 = .ok (.aload_n 1, 1) := by decide +kernel
theorem dX3_parse_2 : decode cX3_parse 2 = .ok (.putfield 26, 3) := by decide +kernel
theorem dX3_parse_5 : decode cX3_parse 5 = .ok (.aload_n 0, 1) := by decide +kernel
theorem dX3_parse_6 : decode cX3_parse 6 = .ok (.getfield 26, 3) := by decide +kernel
theorem dX3_parse_9 : decode cX3_parse 9 = .ok (.invokevirtual 30, 3) := by decide +kernel
theorem dX3_parse_12 : decode cX3_parse 12 = .ok (.aload_n 0, 1) := by decide +kernel
theorem dX3_parse_13 : decode cX3_parse 13 = .ok (.iconst 0, 1) := by decide +kernel
theorem dX3_parse_14 : decode cX3_parse 14 = .ok (.putfield 35, 3) := by decide +kernel
theorem dX3_parse_17 : decode cX3_parse 17 = .ok (.aload_n 0, 1) := by decide +kernel
theorem dX3_parse_18 : decode cX3_parse 18 = .ok (.iconst (-1), 1) := by decide +kernel
theorem dX3_parse_19 : decode cX3_parse 19 = .ok (.putfield 18, 3) := by decide +kernel
theorem dX3_parse_22 : decode cX3_parse 22 = .ok (.aload_n 0, 1) := by decide +kernel
theorem dX3_parse_23 : decode cX3_parse 23 = .ok (.iconst 0, 1) := by decide +kernel
theorem dX3_parse_24 : decode cX3_parse 24 = .ok (.putfield 38, 3) := by decide +kernel
theorem dX3_parse_27 : decode cX3_parse 27 = .ok (.aload_n 0, 1) := by decide +kernel
theorem dX3_parse_28 : decode cX3_parse 28 = .ok (.iconst 0, 1) := by decide +kernel
theorem dX3_parse_29 : decode cX3_parse 29 = .ok (.putfield 42, 3) := by decide +kernel
theorem dX3_parse_32 : decode cX3_parse 32 = .ok (.aload_n 0, 1) := by decide +kernel
theorem dX3_parse_33 : decode cX3_parse 33 = .ok (.iconst 0, 1) := by decide +kernel
theorem dX3_parse_34 : decode cX3_parse 34 = .ok (.putfield 45, 3) := by decide +kernel
theorem dX3_parse_37 : decode cX3_parse 37 = .ok (.aload_n 0, 1) := by decide +kernel
theorem dX3_parse_38 : decode cX3_parse 38 = .ok (.getfield 22, 3) := by decide +kernel
theorem dX3_parse_41 : decode cX3_parse 41 = .ok (.invokevirtual 48, 3) := by decide +kernel
theorem dX3_parse_44 : decode cX3_parse 44 = .ok (.aload_n 0, 1) := by decide +kernel
theorem dX3_parse_45 : decode cX3_parse 45 = .ok (.getfield 22, 3) := by decide +kernel
theorem dX3_parse_48 : decode cX3_parse 48 = .ok (.getfield 53, 3) := by decide +kernel
theorem dX3_parse_51 : decode cX3_parse 51 = .ok (.ifCond .eq 10, 3) := by decide +kernel
theorem dX3_parse_54 : decode cX3_parse 54 = .ok (.aload_n 0, 1) := by decide +kernel
theorem dX3_parse_55 : decode cX3_parse 55 = .ok (.invokevirtual 56, 3) := by decide +kernel
theorem dX3_parse_58 : decode cX3_parse 58 = .ok (.ifCond .eq 7, 3) := by decide +kernel
theorem dX3_parse_61 : decode cX3_parse 61 = .ok (.iconst 1, 1) := by decide +kernel
theorem dX3_parse_62 : decode cX3_parse 62 = .ok (.goto 4, 3) := by decide +kernel
theorem dX3_parse_65 : decode cX3_parse 65 = .ok (.iconst 0, 1) := by decide +kernel
theorem dX3_parse_66 : decode cX3_parse 66 = .ok (.istore_n 2, 1) := by decide +kernel
theorem dX3_parse_67 : decode cX3_parse 67 = .ok (.iconst 0, 1) := by decide +kernel
theorem dX3_parse_68 : decode cX3_parse 68 = .ok (.istore_n 3, 1) := by decide +kernel
theorem dX3_parse_69 : decode cX3_parse 69 = .ok (.iload_n 3, 1) := by decide +kernel
theorem dX3_parse_70 : decode cX3_parse 70 = .ok (.sipush 800, 3) := by decide +kernel
theorem dX3_parse_73 : decode cX3_parse 73 = .ok (.if_icmp .ge 47, 3) := by decide +kernel
theorem dX3_parse_76 : decode cX3_parse 76 = .ok (.iload_n 2, 1) := by decide +kernel
theorem dX3_parse_77 : decode cX3_parse 77 = .ok (.ifCond .eq 43, 3) := by decide +kernel
theorem dX3_parse_80 : decode cX3_parse 80 = .ok (.aload_n 0, 1) := by decide +kernel
theorem dX3_parse_81 : decode cX3_parse 81 = .ok (.getfield 22, 3) := by decide +kernel
theorem dX3_parse_84 : decode cX3_parse 84 = .ok (.getfield 53, 3) := by decide +kernel
theorem dX3_parse_87 : decode cX3_parse 87 = .ok (.ifCond .eq 33, 3) := by decide +kernel
theorem dX3_parse_90 : decode cX3_parse 90 = .ok (.aload_n 0, 1) := by decide +kernel
theorem dX3_parse_91 : decode cX3_parse 91 = .ok (.getfield 22, 3) := by decide +kernel
theorem dX3_parse_94 : decode cX3_parse 94 = .ok (.ldc 60, 2) := by decide +kernel
theorem dX3_parse_96 : decode cX3_parse 96 = .ok (.invokevirtual 62, 3) := by decide +kernel
theorem dX3_parse_99 : decode cX3_parse 99 = .ok (.ifCond .eq 10, 3) := by decide +kernel
theorem dX3_parse_102 : decode cX3_parse 102 = .ok (.aload_n 0, 1) := by decide +kernel
theorem dX3_parse_103 : decode cX3_parse 103 = .ok (.invokevirtual 66, 3) := by decide +kernel
theorem dX3_parse_106 : decode cX3_parse 106 = .ok (.goto 7, 3) := by decide +kernel
theorem dX3_parse_109 : decode cX3_parse 109 = .ok (.aload_n 0, 1) := by decide +kernel
theorem dX3_parse_110 : decode cX3_parse 110 = .ok (.invokevirtual 69, 3) := by decide +kernel
theorem dX3_parse_113 : decode cX3_parse 113 = .ok (.istore_n 2, 1) := by decide +kernel
theorem dX3_parse_114 : decode cX3_parse 114 = .ok (.iinc 3 1, 3) := by decide +kernel
theorem dX3_parse_117 : decode cX3_parse 117 = .ok (.goto (-48), 3) := by decide +kernel
theorem dX3_parse_120 : decode cX3_parse 120 = .ok (.return_, 1) := by decide +kernel
theorem dX3_refuse_0 : decode cX3_refuse 0 = .ok (.aload_n 0, 1) := by decide +kernel
theorem dX3_refuse_1 : decode cX3_refuse 1 = .ok (.iload_n 1, 1) := by decide +kernel
theorem dX3_refuse_2 : decode cX3_refuse 2 = .ok (.putfield 35, 3) := by decide +kernel
theorem dX3_refuse_5 : decode cX3_refuse 5 = .ok (.aload_n 0, 1) := by decide +kernel
theorem dX3_refuse_6 : decode cX3_refuse 6 = .ok (.iload_n 2, 1) := by decide +kernel
theorem dX3_refuse_7 : decode cX3_refuse 7 = .ok (.putfield 18, 3) := by decide +kernel
theorem dX3_refuse_10 : decode cX3_refuse 10 = .ok (.iconst 0, 1) := by decide +kernel
theorem dX3_refuse_11 : decode cX3_refuse 11 = .ok (.ireturn, 1) := by decide +kernel
theorem dX3_pass_0 : decode cX3_pass 0 = .ok (.aload_n 0, 1) := by decide +kernel
theorem dX3_pass_1 : decode cX3_pass 1 = .ok (.getfield 22, 3) := by decide +kernel
theorem dX3_pass_4 : decode cX3_pass 4 = .ok (.getfield 53, 3) := by decide +kernel
theorem dX3_pass_7 : decode cX3_pass 7 = .ok (.iload_n 1, 1) := by decide +kernel
theorem dX3_pass_8 : decode cX3_pass 8 = .ok (.if_icmp .eq 16, 3) := by decide +kernel
theorem dX3_pass_11 : decode cX3_pass 11 = .ok (.aload_n 0, 1) := by decide +kernel
theorem dX3_pass_12 : decode cX3_pass 12 = .ok (.iconst 1, 1) := by decide +kernel
theorem dX3_pass_13 : decode cX3_pass 13 = .ok (.aload_n 0, 1) := by decide +kernel
theorem dX3_pass_14 : decode cX3_pass 14 = .ok (.getfield 22, 3) := by decide +kernel
theorem dX3_pass_17 : decode cX3_pass 17 = .ok (.getfield 72, 3) := by decide +kernel
theorem dX3_pass_20 : decode cX3_pass 20 = .ok (.invokevirtual 73, 3) := by decide +kernel
theorem dX3_pass_23 : decode cX3_pass 23 = .ok (.ireturn, 1) := by decide +kernel
theorem dX3_pass_24 : decode cX3_pass 24 = .ok (.aload_n 0, 1) := by decide +kernel
theorem dX3_pass_25 : decode cX3_pass 25 = .ok (.getfield 22, 3) := by decide +kernel
theorem dX3_pass_28 : decode cX3_pass 28 = .ok (.invokevirtual 77, 3) := by decide +kernel
theorem dX3_pass_31 : decode cX3_pass 31 = .ok (.iconst 1, 1) := by decide +kernel
theorem dX3_pass_32 : decode cX3_pass 32 = .ok (.ireturn, 1) := by decide +kernel
theorem dX3_sizeLine_0 : decode cX3_sizeLine 0 = .ok (.aload_n 0, 1) := by decide +kernel
theorem dX3_sizeLine_1 : decode cX3_sizeLine 1 = .ok (.getfield 22, 3) := by decide +kernel
theorem dX3_sizeLine_4 : decode cX3_sizeLine 4 = .ok (.ldc 80, 2) := by decide +kernel
theorem dX3_sizeLine_6 : decode cX3_sizeLine 6 = .ok (.invokevirtual 62, 3) := by decide +kernel
theorem dX3_sizeLine_9 : decode cX3_sizeLine 9 = .ok (.ifCond .ne 16, 3) := by decide +kernel
theorem dX3_sizeLine_12 : decode cX3_sizeLine 12 = .ok (.aload_n 0, 1) := by decide +kernel
theorem dX3_sizeLine_13 : decode cX3_sizeLine 13 = .ok (.iconst 1, 1) := by decide +kernel
theorem dX3_sizeLine_14 : decode cX3_sizeLine 14 = .ok (.aload_n 0, 1) := by decide +kernel
theorem dX3_sizeLine_15 : decode cX3_sizeLine 15 = .ok (.getfield 22, 3) := by decide +kernel
theorem dX3_sizeLine_18 : decode cX3_sizeLine 18 = .ok (.getfield 72, 3) := by decide +kernel
theorem dX3_sizeLine_21 : decode cX3_sizeLine 21 = .ok (.invokevirtual 73, 3) := by decide +kernel
theorem dX3_sizeLine_24 : decode cX3_sizeLine 24 = .ok (.ireturn, 1) := by decide +kernel
theorem dX3_sizeLine_25 : decode cX3_sizeLine 25 = .ok (.aload_n 0, 1) := by decide +kernel
theorem dX3_sizeLine_26 : decode cX3_sizeLine 26 = .ok (.getfield 22, 3) := by decide +kernel
theorem dX3_sizeLine_29 : decode cX3_sizeLine 29 = .ok (.invokevirtual 77, 3) := by decide +kernel
theorem dX3_sizeLine_32 : decode cX3_sizeLine 32 = .ok (.aload_n 0, 1) := by decide +kernel
theorem dX3_sizeLine_33 : decode cX3_sizeLine 33 = .ok (.iconst 1, 1) := by decide +kernel
theorem dX3_sizeLine_34 : decode cX3_sizeLine 34 = .ok (.bipush 10, 2) := by decide +kernel
theorem dX3_sizeLine_36 : decode cX3_sizeLine 36 = .ok (.invokevirtual 82, 3) := by decide +kernel
theorem dX3_sizeLine_39 : decode cX3_sizeLine 39 = .ok (.ifCond .ne 5, 3) := by decide +kernel
theorem dX3_sizeLine_42 : decode cX3_sizeLine 42 = .ok (.iconst 0, 1) := by decide +kernel
theorem dX3_sizeLine_43 : decode cX3_sizeLine 43 = .ok (.ireturn, 1) := by decide +kernel
theorem dX3_sizeLine_44 : decode cX3_sizeLine 44 = .ok (.aload_n 0, 1) := by decide +kernel
theorem dX3_sizeLine_45 : decode cX3_sizeLine 45 = .ok (.getfield 26, 3) := by decide +kernel
theorem dX3_sizeLine_48 : decode cX3_sizeLine 48 = .ok (.aload_n 0, 1) := by decide +kernel
theorem dX3_sizeLine_49 : decode cX3_sizeLine 49 = .ok (.getfield 85, 3) := by decide +kernel
theorem dX3_sizeLine_52 : decode cX3_sizeLine 52 = .ok (.putfield 88, 3) := by decide +kernel
theorem dX3_sizeLine_55 : decode cX3_sizeLine 55 = .ok (.aload_n 0, 1) := by decide +kernel
theorem dX3_sizeLine_56 : decode cX3_sizeLine 56 = .ok (.iconst 1, 1) := by decide +kernel
theorem dX3_sizeLine_57 : decode cX3_sizeLine 57 = .ok (.bipush 10, 2) := by decide +kernel
theorem dX3_sizeLine_59 : decode cX3_sizeLine 59 = .ok (.invokevirtual 82, 3) := by decide +kernel
theorem dX3_sizeLine_62 : decode cX3_sizeLine 62 = .ok (.ifCond .ne 5, 3) := by decide +kernel
theorem dX3_sizeLine_65 : decode cX3_sizeLine 65 = .ok (.iconst 0, 1) := by decide +kernel
theorem dX3_sizeLine_66 : decode cX3_sizeLine 66 = .ok (.ireturn, 1) := by decide +kernel
theorem dX3_sizeLine_67 : decode cX3_sizeLine 67 = .ok (.aload_n 0, 1) := by decide +kernel
theorem dX3_sizeLine_68 : decode cX3_sizeLine 68 = .ok (.getfield 26, 3) := by decide +kernel
theorem dX3_sizeLine_71 : decode cX3_sizeLine 71 = .ok (.aload_n 0, 1) := by decide +kernel
theorem dX3_sizeLine_72 : decode cX3_sizeLine 72 = .ok (.getfield 85, 3) := by decide +kernel
theorem dX3_sizeLine_75 : decode cX3_sizeLine 75 = .ok (.putfield 91, 3) := by decide +kernel
theorem dX3_sizeLine_78 : decode cX3_sizeLine 78 = .ok (.aload_n 0, 1) := by decide +kernel
theorem dX3_sizeLine_79 : decode cX3_sizeLine 79 = .ok (.bipush 59, 2) := by decide +kernel
theorem dX3_sizeLine_81 : decode cX3_sizeLine 81 = .ok (.invokevirtual 94, 3) := by decide +kernel
theorem dX3_sizeLine_84 : decode cX3_sizeLine 84 = .ok (.ireturn, 1) := by decide +kernel
theorem dX3_layoutLine_0 : decode cX3_layoutLine 0 = .ok (.aload_n 0, 1) := by decide +kernel
theorem dX3_layoutLine_1 : decode cX3_layoutLine 1 = .ok (.getfield 22, 3) := by decide +kernel
theorem dX3_layoutLine_4 : decode cX3_layoutLine 4 = .ok (.ldc 98, 2) := by decide +kernel
theorem dX3_layoutLine_6 : decode cX3_layoutLine 6 = .ok (.invokevirtual 62, 3) := by decide +kernel
theorem dX3_layoutLine_9 : decode cX3_layoutLine 9 = .ok (.ifCond .eq 15, 3) := by decide +kernel
theorem dX3_layoutLine_12 : decode cX3_layoutLine 12 = .ok (.aload_n 0, 1) := by decide +kernel
theorem dX3_layoutLine_13 : decode cX3_layoutLine 13 = .ok (.getfield 38, 3) := by decide +kernel
theorem dX3_layoutLine_16 : decode cX3_layoutLine 16 = .ok (.ifCond .ne 8, 3) := by decide +kernel
theorem dX3_layoutLine_19 : decode cX3_layoutLine 19 = .ok (.aload_n 0, 1) := by decide +kernel
theorem dX3_layoutLine_20 : decode cX3_layoutLine 20 = .ok (.invokevirtual 100, 3) := by decide +kernel
theorem dX3_layoutLine_23 : decode cX3_layoutLine 23 = .ok (.ireturn, 1) := by decide +kernel
theorem dX3_layoutLine_24 : decode cX3_layoutLine 24 = .ok (.aload_n 0, 1) := by decide +kernel
theorem dX3_layoutLine_25 : decode cX3_layoutLine 25 = .ok (.getfield 22, 3) := by decide +kernel
theorem dX3_layoutLine_28 : decode cX3_layoutLine 28 = .ok (.ldc 103, 2) := by decide +kernel
theorem dX3_layoutLine_30 : decode cX3_layoutLine 30 = .ok (.invokevirtual 62, 3) := by decide +kernel
theorem dX3_layoutLine_33 : decode cX3_layoutLine 33 = .ok (.ifCond .eq 15, 3) := by decide +kernel
theorem dX3_layoutLine_36 : decode cX3_layoutLine 36 = .ok (.aload_n 0, 1) := by decide +kernel
theorem dX3_layoutLine_37 : decode cX3_layoutLine 37 = .ok (.getfield 42, 3) := by decide +kernel
theorem dX3_layoutLine_40 : decode cX3_layoutLine 40 = .ok (.ifCond .ne 8, 3) := by decide +kernel
theorem dX3_layoutLine_43 : decode cX3_layoutLine 43 = .ok (.aload_n 0, 1) := by decide +kernel
theorem dX3_layoutLine_44 : decode cX3_layoutLine 44 = .ok (.invokevirtual 105, 3) := by decide +kernel
theorem dX3_layoutLine_47 : decode cX3_layoutLine 47 = .ok (.ireturn, 1) := by decide +kernel
theorem dX3_layoutLine_48 : decode cX3_layoutLine 48 = .ok (.aload_n 0, 1) := by decide +kernel
theorem dX3_layoutLine_49 : decode cX3_layoutLine 49 = .ok (.iconst 1, 1) := by decide +kernel
theorem dX3_layoutLine_50 : decode cX3_layoutLine 50 = .ok (.aload_n 0, 1) := by decide +kernel
theorem dX3_layoutLine_51 : decode cX3_layoutLine 51 = .ok (.getfield 22, 3) := by decide +kernel
theorem dX3_layoutLine_54 : decode cX3_layoutLine 54 = .ok (.getfield 72, 3) := by decide +kernel
theorem dX3_layoutLine_57 : decode cX3_layoutLine 57 = .ok (.invokevirtual 73, 3) := by decide +kernel
theorem dX3_layoutLine_60 : decode cX3_layoutLine 60 = .ok (.ireturn, 1) := by decide +kernel
theorem dX3_fireLine_0 : decode cX3_fireLine 0 = .ok (.aload_n 0, 1) := by decide +kernel
theorem dX3_fireLine_1 : decode cX3_fireLine 1 = .ok (.iconst 1, 1) := by decide +kernel
theorem dX3_fireLine_2 : decode cX3_fireLine 2 = .ok (.putfield 38, 3) := by decide +kernel
theorem dX3_fireLine_5 : decode cX3_fireLine 5 = .ok (.aload_n 0, 1) := by decide +kernel
theorem dX3_fireLine_6 : decode cX3_fireLine 6 = .ok (.getfield 22, 3) := by decide +kernel
theorem dX3_fireLine_9 : decode cX3_fireLine 9 = .ok (.invokevirtual 77, 3) := by decide +kernel
theorem dX3_fireLine_12 : decode cX3_fireLine 12 = .ok (.aload_n 0, 1) := by decide +kernel
theorem dX3_fireLine_13 : decode cX3_fireLine 13 = .ok (.bipush (-9), 2) := by decide +kernel
theorem dX3_fireLine_15 : decode cX3_fireLine 15 = .ok (.bipush 9, 2) := by decide +kernel
theorem dX3_fireLine_17 : decode cX3_fireLine 17 = .ok (.invokevirtual 82, 3) := by decide +kernel
theorem dX3_fireLine_20 : decode cX3_fireLine 20 = .ok (.ifCond .ne 5, 3) := by decide +kernel
theorem dX3_fireLine_23 : decode cX3_fireLine 23 = .ok (.iconst 0, 1) := by decide +kernel
theorem dX3_fireLine_24 : decode cX3_fireLine 24 = .ok (.ireturn, 1) := by decide +kernel
theorem dX3_fireLine_25 : decode cX3_fireLine 25 = .ok (.aload_n 0, 1) := by decide +kernel
theorem dX3_fireLine_26 : decode cX3_fireLine 26 = .ok (.getfield 26, 3) := by decide +kernel
theorem dX3_fireLine_29 : decode cX3_fireLine 29 = .ok (.getfield 108, 3) := by decide +kernel
theorem dX3_fireLine_32 : decode cX3_fireLine 32 = .ok (.aload_n 0, 1) := by decide +kernel
theorem dX3_fireLine_33 : decode cX3_fireLine 33 = .ok (.getfield 85, 3) := by decide +kernel
theorem dX3_fireLine_36 : decode cX3_fireLine 36 = .ok (.putfield 112, 3) := by decide +kernel
theorem dX3_fireLine_39 : decode cX3_fireLine 39 = .ok (.aload_n 0, 1) := by decide +kernel
theorem dX3_fireLine_40 : decode cX3_fireLine 40 = .ok (.bipush (-9), 2) := by decide +kernel
theorem dX3_fireLine_42 : decode cX3_fireLine 42 = .ok (.bipush 9, 2) := by decide +kernel
theorem dX3_fireLine_44 : decode cX3_fireLine 44 = .ok (.invokevirtual 82, 3) := by decide +kernel
theorem dX3_fireLine_47 : decode cX3_fireLine 47 = .ok (.ifCond .ne 5, 3) := by decide +kernel
theorem dX3_fireLine_50 : decode cX3_fireLine 50 = .ok (.iconst 0, 1) := by decide +kernel
theorem dX3_fireLine_51 : decode cX3_fireLine 51 = .ok (.ireturn, 1) := by decide +kernel
theorem dX3_fireLine_52 : decode cX3_fireLine 52 = .ok (.aload_n 0, 1) := by decide +kernel
theorem dX3_fireLine_53 : decode cX3_fireLine 53 = .ok (.getfield 26, 3) := by decide +kernel
theorem dX3_fireLine_56 : decode cX3_fireLine 56 = .ok (.getfield 108, 3) := by decide +kernel
theorem dX3_fireLine_59 : decode cX3_fireLine 59 = .ok (.aload_n 0, 1) := by decide +kernel
theorem dX3_fireLine_60 : decode cX3_fireLine 60 = .ok (.getfield 85, 3) := by decide +kernel
theorem dX3_fireLine_63 : decode cX3_fireLine 63 = .ok (.putfield 117, 3) := by decide +kernel
theorem dX3_fireLine_66 : decode cX3_fireLine 66 = .ok (.aload_n 0, 1) := by decide +kernel
theorem dX3_fireLine_67 : decode cX3_fireLine 67 = .ok (.bipush 59, 2) := by decide +kernel
theorem dX3_fireLine_69 : decode cX3_fireLine 69 = .ok (.invokevirtual 94, 3) := by decide +kernel
theorem dX3_fireLine_72 : decode cX3_fireLine 72 = .ok (.ireturn, 1) := by decide +kernel
theorem dX3_ontoLine_0 : decode cX3_ontoLine 0 = .ok (.aload_n 0, 1) := by decide +kernel
theorem dX3_ontoLine_1 : decode cX3_ontoLine 1 = .ok (.iconst 1, 1) := by decide +kernel
theorem dX3_ontoLine_2 : decode cX3_ontoLine 2 = .ok (.putfield 42, 3) := by decide +kernel
theorem dX3_ontoLine_5 : decode cX3_ontoLine 5 = .ok (.aload_n 0, 1) := by decide +kernel
theorem dX3_ontoLine_6 : decode cX3_ontoLine 6 = .ok (.getfield 22, 3) := by decide +kernel
theorem dX3_ontoLine_9 : decode cX3_ontoLine 9 = .ok (.invokevirtual 77, 3) := by decide +kernel
theorem dX3_ontoLine_12 : decode cX3_ontoLine 12 = .ok (.aload_n 0, 1) := by decide +kernel
theorem dX3_ontoLine_13 : decode cX3_ontoLine 13 = .ok (.bipush (-3), 2) := by decide +kernel
theorem dX3_ontoLine_15 : decode cX3_ontoLine 15 = .ok (.iconst 3, 1) := by decide +kernel
theorem dX3_ontoLine_16 : decode cX3_ontoLine 16 = .ok (.invokevirtual 82, 3) := by decide +kernel
theorem dX3_ontoLine_19 : decode cX3_ontoLine 19 = .ok (.ifCond .ne 5, 3) := by decide +kernel
theorem dX3_ontoLine_22 : decode cX3_ontoLine 22 = .ok (.iconst 0, 1) := by decide +kernel
theorem dX3_ontoLine_23 : decode cX3_ontoLine 23 = .ok (.ireturn, 1) := by decide +kernel
theorem dX3_ontoLine_24 : decode cX3_ontoLine 24 = .ok (.aload_n 0, 1) := by decide +kernel
theorem dX3_ontoLine_25 : decode cX3_ontoLine 25 = .ok (.getfield 26, 3) := by decide +kernel
theorem dX3_ontoLine_28 : decode cX3_ontoLine 28 = .ok (.getfield 108, 3) := by decide +kernel
theorem dX3_ontoLine_31 : decode cX3_ontoLine 31 = .ok (.aload_n 0, 1) := by decide +kernel
theorem dX3_ontoLine_32 : decode cX3_ontoLine 32 = .ok (.getfield 85, 3) := by decide +kernel
theorem dX3_ontoLine_35 : decode cX3_ontoLine 35 = .ok (.putfield 120, 3) := by decide +kernel
theorem dX3_ontoLine_38 : decode cX3_ontoLine 38 = .ok (.aload_n 0, 1) := by decide +kernel
theorem dX3_ontoLine_39 : decode cX3_ontoLine 39 = .ok (.bipush (-3), 2) := by decide +kernel
theorem dX3_ontoLine_41 : decode cX3_ontoLine 41 = .ok (.iconst 3, 1) := by decide +kernel
theorem dX3_ontoLine_42 : decode cX3_ontoLine 42 = .ok (.invokevirtual 82, 3) := by decide +kernel
theorem dX3_ontoLine_45 : decode cX3_ontoLine 45 = .ok (.ifCond .ne 5, 3) := by decide +kernel
theorem dX3_ontoLine_48 : decode cX3_ontoLine 48 = .ok (.iconst 0, 1) := by decide +kernel
theorem dX3_ontoLine_49 : decode cX3_ontoLine 49 = .ok (.ireturn, 1) := by decide +kernel
theorem dX3_ontoLine_50 : decode cX3_ontoLine 50 = .ok (.aload_n 0, 1) := by decide +kernel
theorem dX3_ontoLine_51 : decode cX3_ontoLine 51 = .ok (.getfield 26, 3) := by decide +kernel
theorem dX3_ontoLine_54 : decode cX3_ontoLine 54 = .ok (.getfield 108, 3) := by decide +kernel
theorem dX3_ontoLine_57 : decode cX3_ontoLine 57 = .ok (.aload_n 0, 1) := by decide +kernel
theorem dX3_ontoLine_58 : decode cX3_ontoLine 58 = .ok (.getfield 85, 3) := by decide +kernel
theorem dX3_ontoLine_61 : decode cX3_ontoLine 61 = .ok (.putfield 123, 3) := by decide +kernel
theorem dX3_ontoLine_64 : decode cX3_ontoLine 64 = .ok (.aload_n 0, 1) := by decide +kernel
theorem dX3_ontoLine_65 : decode cX3_ontoLine 65 = .ok (.getfield 26, 3) := by decide +kernel
theorem dX3_ontoLine_68 : decode cX3_ontoLine 68 = .ok (.getfield 108, 3) := by decide +kernel
theorem dX3_ontoLine_71 : decode cX3_ontoLine 71 = .ok (.getfield 120, 3) := by decide +kernel
theorem dX3_ontoLine_74 : decode cX3_ontoLine 74 = .ok (.aload_n 0, 1) := by decide +kernel
theorem dX3_ontoLine_75 : decode cX3_ontoLine 75 = .ok (.getfield 26, 3) := by decide +kernel
theorem dX3_ontoLine_78 : decode cX3_ontoLine 78 = .ok (.getfield 108, 3) := by decide +kernel
theorem dX3_ontoLine_81 : decode cX3_ontoLine 81 = .ok (.getfield 123, 3) := by decide +kernel
theorem dX3_ontoLine_84 : decode cX3_ontoLine 84 = .ok (.invokestatic 126, 3) := by decide +kernel
theorem dX3_ontoLine_87 : decode cX3_ontoLine 87 = .ok (.ifCond .ne 13, 3) := by decide +kernel
theorem dX3_ontoLine_90 : decode cX3_ontoLine 90 = .ok (.aload_n 0, 1) := by decide +kernel
theorem dX3_ontoLine_91 : decode cX3_ontoLine 91 = .ok (.iconst 2, 1) := by decide +kernel
theorem dX3_ontoLine_92 : decode cX3_ontoLine 92 = .ok (.aload_n 0, 1) := by decide +kernel
theorem dX3_ontoLine_93 : decode cX3_ontoLine 93 = .ok (.getfield 129, 3) := by decide +kernel
theorem dX3_ontoLine_96 : decode cX3_ontoLine 96 = .ok (.invokevirtual 73, 3) := by decide +kernel
theorem dX3_ontoLine_99 : decode cX3_ontoLine 99 = .ok (.ireturn, 1) := by decide +kernel
theorem dX3_ontoLine_100 : decode cX3_ontoLine 100 = .ok (.aload_n 0, 1) := by decide +kernel
theorem dX3_ontoLine_101 : decode cX3_ontoLine 101 = .ok (.bipush 59, 2) := by decide +kernel
theorem dX3_ontoLine_103 : decode cX3_ontoLine 103 = .ok (.invokevirtual 94, 3) := by decide +kernel
theorem dX3_ontoLine_106 : decode cX3_ontoLine 106 = .ok (.ireturn, 1) := by decide +kernel
theorem dX3_passNumber_0 : decode cX3_passNumber 0 = .ok (.iload_n 1, 1) := by decide +kernel
theorem dX3_passNumber_1 : decode cX3_passNumber 1 = .ok (.ifCond .ge 19, 3) := by decide +kernel
theorem dX3_passNumber_4 : decode cX3_passNumber 4 = .ok (.aload_n 0, 1) := by decide +kernel
theorem dX3_passNumber_5 : decode cX3_passNumber 5 = .ok (.getfield 22, 3) := by decide +kernel
theorem dX3_passNumber_8 : decode cX3_passNumber 8 = .ok (.getfield 53, 3) := by decide +kernel
theorem dX3_passNumber_11 : decode cX3_passNumber 11 = .ok (.bipush 45, 2) := by decide +kernel
theorem dX3_passNumber_13 : decode cX3_passNumber 13 = .ok (.if_icmp .ne 7, 3) := by decide +kernel
theorem dX3_passNumber_16 : decode cX3_passNumber 16 = .ok (.iconst 1, 1) := by decide +kernel
theorem dX3_passNumber_17 : decode cX3_passNumber 17 = .ok (.goto 4, 3) := by decide +kernel
theorem dX3_passNumber_20 : decode cX3_passNumber 20 = .ok (.iconst 0, 1) := by decide +kernel
theorem dX3_passNumber_21 : decode cX3_passNumber 21 = .ok (.istore_n 3, 1) := by decide +kernel
theorem dX3_passNumber_22 : decode cX3_passNumber 22 = .ok (.iload_n 3, 1) := by decide +kernel
theorem dX3_passNumber_23 : decode cX3_passNumber 23 = .ok (.ifCond .eq 10, 3) := by decide +kernel
theorem dX3_passNumber_26 : decode cX3_passNumber 26 = .ok (.aload_n 0, 1) := by decide +kernel
theorem dX3_passNumber_27 : decode cX3_passNumber 27 = .ok (.getfield 22, 3) := by decide +kernel
theorem dX3_passNumber_30 : decode cX3_passNumber 30 = .ok (.invokevirtual 77, 3) := by decide +kernel
theorem dX3_passNumber_33 : decode cX3_passNumber 33 = .ok (.aload_n 0, 1) := by decide +kernel
theorem dX3_passNumber_34 : decode cX3_passNumber 34 = .ok (.getfield 22, 3) := by decide +kernel
theorem dX3_passNumber_37 : decode cX3_passNumber 37 = .ok (.getfield 53, 3) := by decide +kernel
theorem dX3_passNumber_40 : decode cX3_passNumber 40 = .ok (.iconst 4, 1) := by decide +kernel
theorem dX3_passNumber_41 : decode cX3_passNumber 41 = .ok (.if_icmp .eq 16, 3) := by decide +kernel
theorem dX3_passNumber_44 : decode cX3_passNumber 44 = .ok (.aload_n 0, 1) := by decide +kernel
theorem dX3_passNumber_45 : decode cX3_passNumber 45 = .ok (.iconst 1, 1) := by decide +kernel
theorem dX3_passNumber_46 : decode cX3_passNumber 46 = .ok (.aload_n 0, 1) := by decide +kernel
theorem dX3_passNumber_47 : decode cX3_passNumber 47 = .ok (.getfield 22, 3) := by decide +kernel
theorem dX3_passNumber_50 : decode cX3_passNumber 50 = .ok (.getfield 72, 3) := by decide +kernel
theorem dX3_passNumber_53 : decode cX3_passNumber 53 = .ok (.invokevirtual 73, 3) := by decide +kernel
theorem dX3_passNumber_56 : decode cX3_passNumber 56 = .ok (.ireturn, 1) := by decide +kernel
theorem dX3_passNumber_57 : decode cX3_passNumber 57 = .ok (.aload_n 0, 1) := by decide +kernel
theorem dX3_passNumber_58 : decode cX3_passNumber 58 = .ok (.iload_n 3, 1) := by decide +kernel
theorem dX3_passNumber_59 : decode cX3_passNumber 59 = .ok (.ifCond .eq 14, 3) := by decide +kernel
theorem dX3_passNumber_62 : decode cX3_passNumber 62 = .ok (.aload_n 0, 1) := by decide +kernel
theorem dX3_passNumber_63 : decode cX3_passNumber 63 = .ok (.getfield 22, 3) := by decide +kernel
theorem dX3_passNumber_66 : decode cX3_passNumber 66 = .ok (.getfield 132, 3) := by decide +kernel
theorem dX3_passNumber_69 : decode cX3_passNumber 69 = .ok (.ineg, 1) := by decide +kernel
theorem dX3_passNumber_70 : decode cX3_passNumber 70 = .ok (.goto 10, 3) := by decide +kernel
theorem dX3_passNumber_73 : decode cX3_passNumber 73 = .ok (.aload_n 0, 1) := by decide +kernel
theorem dX3_passNumber_74 : decode cX3_passNumber 74 = .ok (.getfield 22, 3) := by decide +kernel
theorem dX3_passNumber_77 : decode cX3_passNumber 77 = .ok (.getfield 132, 3) := by decide +kernel
theorem dX3_passNumber_80 : decode cX3_passNumber 80 = .ok (.putfield 85, 3) := by decide +kernel
theorem dX3_passNumber_83 : decode cX3_passNumber 83 = .ok (.aload_n 0, 1) := by decide +kernel
theorem dX3_passNumber_84 : decode cX3_passNumber 84 = .ok (.aload_n 0, 1) := by decide +kernel
theorem dX3_passNumber_85 : decode cX3_passNumber 85 = .ok (.getfield 22, 3) := by decide +kernel
theorem dX3_passNumber_88 : decode cX3_passNumber 88 = .ok (.getfield 72, 3) := by decide +kernel
theorem dX3_passNumber_91 : decode cX3_passNumber 91 = .ok (.putfield 129, 3) := by decide +kernel
theorem dX3_passNumber_94 : decode cX3_passNumber 94 = .ok (.aload_n 0, 1) := by decide +kernel
theorem dX3_passNumber_95 : decode cX3_passNumber 95 = .ok (.getfield 85, 3) := by decide +kernel
theorem dX3_passNumber_98 : decode cX3_passNumber 98 = .ok (.iload_n 1, 1) := by decide +kernel
theorem dX3_passNumber_99 : decode cX3_passNumber 99 = .ok (.if_icmp .lt 11, 3) := by decide +kernel
theorem dX3_passNumber_102 : decode cX3_passNumber 102 = .ok (.aload_n 0, 1) := by decide +kernel
theorem dX3_passNumber_103 : decode cX3_passNumber 103 = .ok (.getfield 85, 3) := by decide +kernel
theorem dX3_passNumber_106 : decode cX3_passNumber 106 = .ok (.iload_n 2, 1) := by decide +kernel
theorem dX3_passNumber_107 : decode cX3_passNumber 107 = .ok (.if_icmp .le 13, 3) := by decide +kernel
theorem dX3_passNumber_110 : decode cX3_passNumber 110 = .ok (.aload_n 0, 1) := by decide +kernel
theorem dX3_passNumber_111 : decode cX3_passNumber 111 = .ok (.iconst 2, 1) := by decide +kernel
theorem dX3_passNumber_112 : decode cX3_passNumber 112 = .ok (.aload_n 0, 1) := by decide +kernel
theorem dX3_passNumber_113 : decode cX3_passNumber 113 = .ok (.getfield 129, 3) := by decide +kernel
theorem dX3_passNumber_116 : decode cX3_passNumber 116 = .ok (.invokevirtual 73, 3) := by decide +kernel
theorem dX3_passNumber_119 : decode cX3_passNumber 119 = .ok (.ireturn, 1) := by decide +kernel
theorem dX3_passNumber_120 : decode cX3_passNumber 120 = .ok (.aload_n 0, 1) := by decide +kernel
theorem dX3_passNumber_121 : decode cX3_passNumber 121 = .ok (.getfield 22, 3) := by decide +kernel
theorem dX3_passNumber_124 : decode cX3_passNumber 124 = .ok (.invokevirtual 77, 3) := by decide +kernel
theorem dX3_passNumber_127 : decode cX3_passNumber 127 = .ok (.iconst 1, 1) := by decide +kernel
theorem dX3_passNumber_128 : decode cX3_passNumber 128 = .ok (.ireturn, 1) := by decide +kernel
theorem dX3_letLine_0 : decode cX3_letLine 0 = .ok (.aload_n 0, 1) := by decide +kernel
theorem dX3_letLine_1 : decode cX3_letLine 1 = .ok (.getfield 26, 3) := by decide +kernel
theorem dX3_letLine_4 : decode cX3_letLine 4 = .ok (.getfield 133, 3) := by decide +kernel
theorem dX3_letLine_7 : decode cX3_letLine 7 = .ok (.iconst 3, 1) := by decide +kernel
theorem dX3_letLine_8 : decode cX3_letLine 8 = .ok (.if_icmp .lt 16, 3) := by decide +kernel
theorem dX3_letLine_11 : decode cX3_letLine 11 = .ok (.aload_n 0, 1) := by decide +kernel
theorem dX3_letLine_12 : decode cX3_letLine 12 = .ok (.iconst 4, 1) := by decide +kernel
theorem dX3_letLine_13 : decode cX3_letLine 13 = .ok (.aload_n 0, 1) := by decide +kernel
theorem dX3_letLine_14 : decode cX3_letLine 14 = .ok (.getfield 22, 3) := by decide +kernel
theorem dX3_letLine_17 : decode cX3_letLine 17 = .ok (.getfield 72, 3) := by decide +kernel
theorem dX3_letLine_20 : decode cX3_letLine 20 = .ok (.invokevirtual 73, 3) := by decide +kernel
theorem dX3_letLine_23 : decode cX3_letLine 23 = .ok (.ireturn, 1) := by decide +kernel
theorem dX3_letLine_24 : decode cX3_letLine 24 = .ok (.aload_n 0, 1) := by decide +kernel
theorem dX3_letLine_25 : decode cX3_letLine 25 = .ok (.getfield 22, 3) := by decide +kernel
theorem dX3_letLine_28 : decode cX3_letLine 28 = .ok (.invokevirtual 77, 3) := by decide +kernel
theorem dX3_letLine_31 : decode cX3_letLine 31 = .ok (.aload_n 0, 1) := by decide +kernel
theorem dX3_letLine_32 : decode cX3_letLine 32 = .ok (.getfield 22, 3) := by decide +kernel
theorem dX3_letLine_35 : decode cX3_letLine 35 = .ok (.invokevirtual 136, 3) := by decide +kernel
theorem dX3_letLine_38 : decode cX3_letLine 38 = .ok (.ifCond .ne 16, 3) := by decide +kernel
theorem dX3_letLine_41 : decode cX3_letLine 41 = .ok (.aload_n 0, 1) := by decide +kernel
theorem dX3_letLine_42 : decode cX3_letLine 42 = .ok (.iconst 1, 1) := by decide +kernel
theorem dX3_letLine_43 : decode cX3_letLine 43 = .ok (.aload_n 0, 1) := by decide +kernel
theorem dX3_letLine_44 : decode cX3_letLine 44 = .ok (.getfield 22, 3) := by decide +kernel
theorem dX3_letLine_47 : decode cX3_letLine 47 = .ok (.getfield 72, 3) := by decide +kernel
theorem dX3_letLine_50 : decode cX3_letLine 50 = .ok (.invokevirtual 73, 3) := by decide +kernel
theorem dX3_letLine_53 : decode cX3_letLine 53 = .ok (.ireturn, 1) := by decide +kernel
theorem dX3_letLine_54 : decode cX3_letLine 54 = .ok (.aload_n 0, 1) := by decide +kernel
theorem dX3_letLine_55 : decode cX3_letLine 55 = .ok (.invokevirtual 139, 3) := by decide +kernel
theorem dX3_letLine_58 : decode cX3_letLine 58 = .ok (.iconst (-1), 1) := by decide +kernel
theorem dX3_letLine_59 : decode cX3_letLine 59 = .ok (.if_icmp .eq 16, 3) := by decide +kernel
theorem dX3_letLine_62 : decode cX3_letLine 62 = .ok (.aload_n 0, 1) := by decide +kernel
theorem dX3_letLine_63 : decode cX3_letLine 63 = .ok (.iconst 3, 1) := by decide +kernel
theorem dX3_letLine_64 : decode cX3_letLine 64 = .ok (.aload_n 0, 1) := by decide +kernel
theorem dX3_letLine_65 : decode cX3_letLine 65 = .ok (.getfield 22, 3) := by decide +kernel
theorem dX3_letLine_68 : decode cX3_letLine 68 = .ok (.getfield 72, 3) := by decide +kernel
theorem dX3_letLine_71 : decode cX3_letLine 71 = .ok (.invokevirtual 73, 3) := by decide +kernel
theorem dX3_letLine_74 : decode cX3_letLine 74 = .ok (.ireturn, 1) := by decide +kernel
theorem dX3_letLine_75 : decode cX3_letLine 75 = .ok (.aload_n 0, 1) := by decide +kernel
theorem dX3_letLine_76 : decode cX3_letLine 76 = .ok (.getfield 9, 3) := by decide +kernel
theorem dX3_letLine_79 : decode cX3_letLine 79 = .ok (.aload_n 0, 1) := by decide +kernel
theorem dX3_letLine_80 : decode cX3_letLine 80 = .ok (.getfield 26, 3) := by decide +kernel
theorem dX3_letLine_83 : decode cX3_letLine 83 = .ok (.getfield 133, 3) := by decide +kernel
theorem dX3_letLine_86 : decode cX3_letLine 86 = .ok (.aload_n 0, 1) := by decide +kernel
theorem dX3_letLine_87 : decode cX3_letLine 87 = .ok (.getfield 22, 3) := by decide +kernel
theorem dX3_letLine_90 : decode cX3_letLine 90 = .ok (.getfield 72, 3) := by decide +kernel
theorem dX3_letLine_93 : decode cX3_letLine 93 = .ok (.iastore, 1) := by decide +kernel
theorem dX3_letLine_94 : decode cX3_letLine 94 = .ok (.aload_n 0, 1) := by decide +kernel
theorem dX3_letLine_95 : decode cX3_letLine 95 = .ok (.getfield 15, 3) := by decide +kernel
theorem dX3_letLine_98 : decode cX3_letLine 98 = .ok (.aload_n 0, 1) := by decide +kernel
theorem dX3_letLine_99 : decode cX3_letLine 99 = .ok (.getfield 26, 3) := by decide +kernel
theorem dX3_letLine_102 : decode cX3_letLine 102 = .ok (.getfield 133, 3) := by decide +kernel
theorem dX3_letLine_105 : decode cX3_letLine 105 = .ok (.aload_n 0, 1) := by decide +kernel
theorem dX3_letLine_106 : decode cX3_letLine 106 = .ok (.getfield 22, 3) := by decide +kernel
theorem dX3_letLine_109 : decode cX3_letLine 109 = .ok (.getfield 143, 3) := by decide +kernel
theorem dX3_letLine_112 : decode cX3_letLine 112 = .ok (.iastore, 1) := by decide +kernel
theorem dX3_letLine_113 : decode cX3_letLine 113 = .ok (.aload_n 0, 1) := by decide +kernel
theorem dX3_letLine_114 : decode cX3_letLine 114 = .ok (.getfield 26, 3) := by decide +kernel
theorem dX3_letLine_117 : decode cX3_letLine 117 = .ok (.dup, 1) := by decide +kernel
theorem dX3_letLine_118 : decode cX3_letLine 118 = .ok (.getfield 133, 3) := by decide +kernel
theorem dX3_letLine_121 : decode cX3_letLine 121 = .ok (.iconst 1, 1) := by decide +kernel
theorem dX3_letLine_122 : decode cX3_letLine 122 = .ok (.iadd, 1) := by decide +kernel
theorem dX3_letLine_123 : decode cX3_letLine 123 = .ok (.putfield 133, 3) := by decide +kernel
theorem dX3_letLine_126 : decode cX3_letLine 126 = .ok (.aload_n 0, 1) := by decide +kernel
theorem dX3_letLine_127 : decode cX3_letLine 127 = .ok (.getfield 22, 3) := by decide +kernel
theorem dX3_letLine_130 : decode cX3_letLine 130 = .ok (.invokevirtual 77, 3) := by decide +kernel
theorem dX3_letLine_133 : decode cX3_letLine 133 = .ok (.aload_n 0, 1) := by decide +kernel
theorem dX3_letLine_134 : decode cX3_letLine 134 = .ok (.bipush 61, 2) := by decide +kernel
theorem dX3_letLine_136 : decode cX3_letLine 136 = .ok (.invokevirtual 94, 3) := by decide +kernel
theorem dX3_letLine_139 : decode cX3_letLine 139 = .ok (.ifCond .eq 13, 3) := by decide +kernel
theorem dX3_letLine_142 : decode cX3_letLine 142 = .ok (.aload_n 0, 1) := by decide +kernel
theorem dX3_letLine_143 : decode cX3_letLine 143 = .ok (.iconst 0, 1) := by decide +kernel
theorem dX3_letLine_144 : decode cX3_letLine 144 = .ok (.iconst 0, 1) := by decide +kernel
theorem dX3_letLine_145 : decode cX3_letLine 145 = .ok (.invokevirtual 146, 3) := by decide +kernel
theorem dX3_letLine_148 : decode cX3_letLine 148 = .ok (.iconst (-1), 1) := by decide +kernel
theorem dX3_letLine_149 : decode cX3_letLine 149 = .ok (.if_icmp .ne 5, 3) := by decide +kernel
theorem dX3_letLine_152 : decode cX3_letLine 152 = .ok (.iconst 0, 1) := by decide +kernel
theorem dX3_letLine_153 : decode cX3_letLine 153 = .ok (.ireturn, 1) := by decide +kernel
theorem dX3_letLine_154 : decode cX3_letLine 154 = .ok (.aload_n 0, 1) := by decide +kernel
theorem dX3_letLine_155 : decode cX3_letLine 155 = .ok (.getfield 26, 3) := by decide +kernel
theorem dX3_letLine_158 : decode cX3_letLine 158 = .ok (.invokevirtual 150, 3) := by decide +kernel
theorem dX3_letLine_161 : decode cX3_letLine 161 = .ok (.aload_n 0, 1) := by decide +kernel
theorem dX3_letLine_162 : decode cX3_letLine 162 = .ok (.aload_n 0, 1) := by decide +kernel
theorem dX3_letLine_163 : decode cX3_letLine 163 = .ok (.getfield 22, 3) := by decide +kernel
theorem dX3_letLine_166 : decode cX3_letLine 166 = .ok (.ldc 153, 2) := by decide +kernel
theorem dX3_letLine_168 : decode cX3_letLine 168 = .ok (.invokevirtual 62, 3) := by decide +kernel
theorem dX3_letLine_171 : decode cX3_letLine 171 = .ok (.putfield 45, 3) := by decide +kernel
theorem dX3_letLine_174 : decode cX3_letLine 174 = .ok (.aload_n 0, 1) := by decide +kernel
theorem dX3_letLine_175 : decode cX3_letLine 175 = .ok (.getfield 45, 3) := by decide +kernel
theorem dX3_letLine_178 : decode cX3_letLine 178 = .ok (.ifCond .eq 22, 3) := by decide +kernel
theorem dX3_letLine_181 : decode cX3_letLine 181 = .ok (.aload_n 0, 1) := by decide +kernel
theorem dX3_letLine_182 : decode cX3_letLine 182 = .ok (.getfield 22, 3) := by decide +kernel
theorem dX3_letLine_185 : decode cX3_letLine 185 = .ok (.invokevirtual 77, 3) := by decide +kernel
theorem dX3_letLine_188 : decode cX3_letLine 188 = .ok (.aload_n 0, 1) := by decide +kernel
theorem dX3_letLine_189 : decode cX3_letLine 189 = .ok (.iconst 0, 1) := by decide +kernel
theorem dX3_letLine_190 : decode cX3_letLine 190 = .ok (.iconst 0, 1) := by decide +kernel
theorem dX3_letLine_191 : decode cX3_letLine 191 = .ok (.invokevirtual 146, 3) := by decide +kernel
theorem dX3_letLine_194 : decode cX3_letLine 194 = .ok (.iconst (-1), 1) := by decide +kernel
theorem dX3_letLine_195 : decode cX3_letLine 195 = .ok (.if_icmp .ne 5, 3) := by decide +kernel
theorem dX3_letLine_198 : decode cX3_letLine 198 = .ok (.iconst 0, 1) := by decide +kernel
theorem dX3_letLine_199 : decode cX3_letLine 199 = .ok (.ireturn, 1) := by decide +kernel
theorem dX3_letLine_200 : decode cX3_letLine 200 = .ok (.aload_n 0, 1) := by decide +kernel
theorem dX3_letLine_201 : decode cX3_letLine 201 = .ok (.getfield 26, 3) := by decide +kernel
theorem dX3_letLine_204 : decode cX3_letLine 204 = .ok (.invokevirtual 150, 3) := by decide +kernel
theorem dX3_letLine_207 : decode cX3_letLine 207 = .ok (.aload_n 0, 1) := by decide +kernel
theorem dX3_letLine_208 : decode cX3_letLine 208 = .ok (.iconst 0, 1) := by decide +kernel
theorem dX3_letLine_209 : decode cX3_letLine 209 = .ok (.putfield 45, 3) := by decide +kernel
theorem dX3_letLine_212 : decode cX3_letLine 212 = .ok (.aload_n 0, 1) := by decide +kernel
theorem dX3_letLine_213 : decode cX3_letLine 213 = .ok (.bipush 59, 2) := by decide +kernel
theorem dX3_letLine_215 : decode cX3_letLine 215 = .ok (.invokevirtual 94, 3) := by decide +kernel
theorem dX3_letLine_218 : decode cX3_letLine 218 = .ok (.ireturn, 1) := by decide +kernel
theorem dX3_named_0 : decode cX3_named 0 = .ok (.iconst 0, 1) := by decide +kernel
theorem dX3_named_1 : decode cX3_named 1 = .ok (.istore_n 1, 1) := by decide +kernel
theorem dX3_named_2 : decode cX3_named 2 = .ok (.iload_n 1, 1) := by decide +kernel
theorem dX3_named_3 : decode cX3_named 3 = .ok (.aload_n 0, 1) := by decide +kernel
theorem dX3_named_4 : decode cX3_named 4 = .ok (.getfield 26, 3) := by decide +kernel
theorem dX3_named_7 : decode cX3_named 7 = .ok (.getfield 133, 3) := by decide +kernel
theorem dX3_named_10 : decode cX3_named 10 = .ok (.if_icmp .ge 33, 3) := by decide +kernel
theorem dX3_named_13 : decode cX3_named 13 = .ok (.aload_n 0, 1) := by decide +kernel
theorem dX3_named_14 : decode cX3_named 14 = .ok (.getfield 22, 3) := by decide +kernel
theorem dX3_named_17 : decode cX3_named 17 = .ok (.aload_n 0, 1) := by decide +kernel
theorem dX3_named_18 : decode cX3_named 18 = .ok (.getfield 9, 3) := by decide +kernel
theorem dX3_named_21 : decode cX3_named 21 = .ok (.iload_n 1, 1) := by decide +kernel
theorem dX3_named_22 : decode cX3_named 22 = .ok (.iaload, 1) := by decide +kernel
theorem dX3_named_23 : decode cX3_named 23 = .ok (.aload_n 0, 1) := by decide +kernel
theorem dX3_named_24 : decode cX3_named 24 = .ok (.getfield 15, 3) := by decide +kernel
theorem dX3_named_27 : decode cX3_named 27 = .ok (.iload_n 1, 1) := by decide +kernel
theorem dX3_named_28 : decode cX3_named 28 = .ok (.iaload, 1) := by decide +kernel
theorem dX3_named_29 : decode cX3_named 29 = .ok (.invokevirtual 155, 3) := by decide +kernel
theorem dX3_named_32 : decode cX3_named 32 = .ok (.ifCond .eq 5, 3) := by decide +kernel
theorem dX3_named_35 : decode cX3_named 35 = .ok (.iload_n 1, 1) := by decide +kernel
theorem dX3_named_36 : decode cX3_named 36 = .ok (.ireturn, 1) := by decide +kernel
theorem dX3_named_37 : decode cX3_named 37 = .ok (.iinc 1 1, 3) := by decide +kernel
theorem dX3_named_40 : decode cX3_named 40 = .ok (.goto (-38), 3) := by decide +kernel
theorem dX3_named_43 : decode cX3_named 43 = .ok (.iconst (-1), 1) := by decide +kernel
theorem dX3_named_44 : decode cX3_named 44 = .ok (.ireturn, 1) := by decide +kernel
theorem dX3_chain_0 : decode cX3_chain 0 = .ok (.iload_n 1, 1) := by decide +kernel
theorem dX3_chain_1 : decode cX3_chain 1 = .ok (.iconst 3, 1) := by decide +kernel
theorem dX3_chain_2 : decode cX3_chain 2 = .ok (.if_icmp .lt 9, 3) := by decide +kernel
theorem dX3_chain_5 : decode cX3_chain 5 = .ok (.aload_n 0, 1) := by decide +kernel
theorem dX3_chain_6 : decode cX3_chain 6 = .ok (.iload_n 2, 1) := by decide +kernel
theorem dX3_chain_7 : decode cX3_chain 7 = .ok (.invokevirtual 158, 3) := by decide +kernel
theorem dX3_chain_10 : decode cX3_chain 10 = .ok (.ireturn, 1) := by decide +kernel
theorem dX3_chain_11 : decode cX3_chain 11 = .ok (.aload_n 0, 1) := by decide +kernel
theorem dX3_chain_12 : decode cX3_chain 12 = .ok (.iload_n 1, 1) := by decide +kernel
theorem dX3_chain_13 : decode cX3_chain 13 = .ok (.iconst 1, 1) := by decide +kernel
theorem dX3_chain_14 : decode cX3_chain 14 = .ok (.iadd, 1) := by decide +kernel
theorem dX3_chain_15 : decode cX3_chain 15 = .ok (.iload_n 2, 1) := by decide +kernel
theorem dX3_chain_16 : decode cX3_chain 16 = .ok (.invokevirtual 146, 3) := by decide +kernel
theorem dX3_chain_19 : decode cX3_chain 19 = .ok (.istore_n 3, 1) := by decide +kernel
theorem dX3_chain_20 : decode cX3_chain 20 = .ok (.iconst 0, 1) := by decide +kernel
theorem dX3_chain_21 : decode cX3_chain 21 = .ok (.istore 4, 2) := by decide +kernel
theorem dX3_chain_23 : decode cX3_chain 23 = .ok (.iload 4, 2) := by decide +kernel
theorem dX3_chain_25 : decode cX3_chain 25 = .ok (.bipush 40, 2) := by decide +kernel
theorem dX3_chain_27 : decode cX3_chain 27 = .ok (.if_icmp .ge 69, 3) := by decide +kernel
theorem dX3_chain_30 : decode cX3_chain 30 = .ok (.iload_n 3, 1) := by decide +kernel
theorem dX3_chain_31 : decode cX3_chain 31 = .ok (.iconst (-1), 1) := by decide +kernel
theorem dX3_chain_32 : decode cX3_chain 32 = .ok (.if_icmp .eq 64, 3) := by decide +kernel
theorem dX3_chain_35 : decode cX3_chain 35 = .ok (.aload_n 0, 1) := by decide +kernel
theorem dX3_chain_36 : decode cX3_chain 36 = .ok (.iload_n 1, 1) := by decide +kernel
theorem dX3_chain_37 : decode cX3_chain 37 = .ok (.invokevirtual 162, 3) := by decide +kernel
theorem dX3_chain_40 : decode cX3_chain 40 = .ok (.istore 5, 2) := by decide +kernel
theorem dX3_chain_42 : decode cX3_chain 42 = .ok (.iload 5, 2) := by decide +kernel
theorem dX3_chain_44 : decode cX3_chain 44 = .ok (.iconst (-1), 1) := by decide +kernel
theorem dX3_chain_45 : decode cX3_chain 45 = .ok (.if_icmp .ne 5, 3) := by decide +kernel
theorem dX3_chain_48 : decode cX3_chain 48 = .ok (.iload_n 3, 1) := by decide +kernel
theorem dX3_chain_49 : decode cX3_chain 49 = .ok (.ireturn, 1) := by decide +kernel
theorem dX3_chain_50 : decode cX3_chain 50 = .ok (.aload_n 0, 1) := by decide +kernel
theorem dX3_chain_51 : decode cX3_chain 51 = .ok (.getfield 22, 3) := by decide +kernel
theorem dX3_chain_54 : decode cX3_chain 54 = .ok (.invokevirtual 77, 3) := by decide +kernel
theorem dX3_chain_57 : decode cX3_chain 57 = .ok (.aload_n 0, 1) := by decide +kernel
theorem dX3_chain_58 : decode cX3_chain 58 = .ok (.iload_n 1, 1) := by decide +kernel
theorem dX3_chain_59 : decode cX3_chain 59 = .ok (.iconst 1, 1) := by decide +kernel
theorem dX3_chain_60 : decode cX3_chain 60 = .ok (.iadd, 1) := by decide +kernel
theorem dX3_chain_61 : decode cX3_chain 61 = .ok (.iload_n 2, 1) := by decide +kernel
theorem dX3_chain_62 : decode cX3_chain 62 = .ok (.invokevirtual 146, 3) := by decide +kernel
theorem dX3_chain_65 : decode cX3_chain 65 = .ok (.istore 6, 2) := by decide +kernel
theorem dX3_chain_67 : decode cX3_chain 67 = .ok (.iload 6, 2) := by decide +kernel
theorem dX3_chain_69 : decode cX3_chain 69 = .ok (.iconst (-1), 1) := by decide +kernel
theorem dX3_chain_70 : decode cX3_chain 70 = .ok (.if_icmp .ne 7, 3) := by decide +kernel
theorem dX3_chain_73 : decode cX3_chain 73 = .ok (.iconst (-1), 1) := by decide +kernel
theorem dX3_chain_74 : decode cX3_chain 74 = .ok (.goto 15, 3) := by decide +kernel
theorem dX3_chain_77 : decode cX3_chain 77 = .ok (.aload_n 0, 1) := by decide +kernel
theorem dX3_chain_78 : decode cX3_chain 78 = .ok (.getfield 26, 3) := by decide +kernel
theorem dX3_chain_81 : decode cX3_chain 81 = .ok (.iload 5, 2) := by decide +kernel
theorem dX3_chain_83 : decode cX3_chain 83 = .ok (.iload_n 3, 1) := by decide +kernel
theorem dX3_chain_84 : decode cX3_chain 84 = .ok (.iload 6, 2) := by decide +kernel
theorem dX3_chain_86 : decode cX3_chain 86 = .ok (.invokevirtual 165, 3) := by decide +kernel
theorem dX3_chain_89 : decode cX3_chain 89 = .ok (.istore_n 3, 1) := by decide +kernel
theorem dX3_chain_90 : decode cX3_chain 90 = .ok (.iinc 4 1, 3) := by decide +kernel
theorem dX3_chain_93 : decode cX3_chain 93 = .ok (.goto (-70), 3) := by decide +kernel
theorem dX3_chain_96 : decode cX3_chain 96 = .ok (.iload_n 3, 1) := by decide +kernel
theorem dX3_chain_97 : decode cX3_chain 97 = .ok (.ireturn, 1) := by decide +kernel
theorem dX3_joinAt_0 : decode cX3_joinAt 0 = .ok (.aload_n 0, 1) := by decide +kernel
theorem dX3_joinAt_1 : decode cX3_joinAt 1 = .ok (.getfield 22, 3) := by decide +kernel
theorem dX3_joinAt_4 : decode cX3_joinAt 4 = .ok (.getfield 53, 3) := by decide +kernel
theorem dX3_joinAt_7 : decode cX3_joinAt 7 = .ok (.lookupswitch 106 #[(42, 94), (43, 70), (45, 82), (60, 49), (62, 59)], 49) := by decide +kernel
theorem dX3_joinAt_56 : decode cX3_joinAt 56 = .ok (.iload_n 1, 1) := by decide +kernel
theorem dX3_joinAt_57 : decode cX3_joinAt 57 = .ok (.ifCond .ne 7, 3) := by decide +kernel
theorem dX3_joinAt_60 : decode cX3_joinAt 60 = .ok (.iconst 5, 1) := by decide +kernel
theorem dX3_joinAt_61 : decode cX3_joinAt 61 = .ok (.goto 4, 3) := by decide +kernel
theorem dX3_joinAt_64 : decode cX3_joinAt 64 = .ok (.iconst (-1), 1) := by decide +kernel
theorem dX3_joinAt_65 : decode cX3_joinAt 65 = .ok (.ireturn, 1) := by decide +kernel
theorem dX3_joinAt_66 : decode cX3_joinAt 66 = .ok (.iload_n 1, 1) := by decide +kernel
theorem dX3_joinAt_67 : decode cX3_joinAt 67 = .ok (.ifCond .ne 8, 3) := by decide +kernel
theorem dX3_joinAt_70 : decode cX3_joinAt 70 = .ok (.bipush 6, 2) := by decide +kernel
theorem dX3_joinAt_72 : decode cX3_joinAt 72 = .ok (.goto 4, 3) := by decide +kernel
theorem dX3_joinAt_75 : decode cX3_joinAt 75 = .ok (.iconst (-1), 1) := by decide +kernel
theorem dX3_joinAt_76 : decode cX3_joinAt 76 = .ok (.ireturn, 1) := by decide +kernel
theorem dX3_joinAt_77 : decode cX3_joinAt 77 = .ok (.iload_n 1, 1) := by decide +kernel
theorem dX3_joinAt_78 : decode cX3_joinAt 78 = .ok (.iconst 1, 1) := by decide +kernel
theorem dX3_joinAt_79 : decode cX3_joinAt 79 = .ok (.if_icmp .ne 8, 3) := by decide +kernel
theorem dX3_joinAt_82 : decode cX3_joinAt 82 = .ok (.bipush 7, 2) := by decide +kernel
theorem dX3_joinAt_84 : decode cX3_joinAt 84 = .ok (.goto 4, 3) := by decide +kernel
theorem dX3_joinAt_87 : decode cX3_joinAt 87 = .ok (.iconst (-1), 1) := by decide +kernel
theorem dX3_joinAt_88 : decode cX3_joinAt 88 = .ok (.ireturn, 1) := by decide +kernel
theorem dX3_joinAt_89 : decode cX3_joinAt 89 = .ok (.iload_n 1, 1) := by decide +kernel
theorem dX3_joinAt_90 : decode cX3_joinAt 90 = .ok (.iconst 1, 1) := by decide +kernel
theorem dX3_joinAt_91 : decode cX3_joinAt 91 = .ok (.if_icmp .ne 8, 3) := by decide +kernel
theorem dX3_joinAt_94 : decode cX3_joinAt 94 = .ok (.bipush 8, 2) := by decide +kernel
theorem dX3_joinAt_96 : decode cX3_joinAt 96 = .ok (.goto 4, 3) := by decide +kernel
theorem dX3_joinAt_99 : decode cX3_joinAt 99 = .ok (.iconst (-1), 1) := by decide +kernel
theorem dX3_joinAt_100 : decode cX3_joinAt 100 = .ok (.ireturn, 1) := by decide +kernel
theorem dX3_joinAt_101 : decode cX3_joinAt 101 = .ok (.iload_n 1, 1) := by decide +kernel
theorem dX3_joinAt_102 : decode cX3_joinAt 102 = .ok (.iconst 2, 1) := by decide +kernel
theorem dX3_joinAt_103 : decode cX3_joinAt 103 = .ok (.if_icmp .ne 8, 3) := by decide +kernel
theorem dX3_joinAt_106 : decode cX3_joinAt 106 = .ok (.bipush 9, 2) := by decide +kernel
theorem dX3_joinAt_108 : decode cX3_joinAt 108 = .ok (.goto 4, 3) := by decide +kernel
theorem dX3_joinAt_111 : decode cX3_joinAt 111 = .ok (.iconst (-1), 1) := by decide +kernel
theorem dX3_joinAt_112 : decode cX3_joinAt 112 = .ok (.ireturn, 1) := by decide +kernel
theorem dX3_joinAt_113 : decode cX3_joinAt 113 = .ok (.iconst (-1), 1) := by decide +kernel
theorem dX3_joinAt_114 : decode cX3_joinAt 114 = .ok (.ireturn, 1) := by decide +kernel
theorem dX3_unit_0 : decode cX3_unit 0 = .ok (.aload_n 0, 1) := by decide +kernel
theorem dX3_unit_1 : decode cX3_unit 1 = .ok (.iload_n 1, 1) := by decide +kernel
theorem dX3_unit_2 : decode cX3_unit 2 = .ok (.invokevirtual 169, 3) := by decide +kernel
theorem dX3_unit_5 : decode cX3_unit 5 = .ok (.istore_n 2, 1) := by decide +kernel
theorem dX3_unit_6 : decode cX3_unit 6 = .ok (.iload_n 2, 1) := by decide +kernel
theorem dX3_unit_7 : decode cX3_unit 7 = .ok (.ifCond .eq 18, 3) := by decide +kernel
theorem dX3_unit_10 : decode cX3_unit 10 = .ok (.aload_n 0, 1) := by decide +kernel
theorem dX3_unit_11 : decode cX3_unit 11 = .ok (.iload_n 2, 1) := by decide +kernel
theorem dX3_unit_12 : decode cX3_unit 12 = .ok (.aload_n 0, 1) := by decide +kernel
theorem dX3_unit_13 : decode cX3_unit 13 = .ok (.getfield 22, 3) := by decide +kernel
theorem dX3_unit_16 : decode cX3_unit 16 = .ok (.getfield 72, 3) := by decide +kernel
theorem dX3_unit_19 : decode cX3_unit 19 = .ok (.invokevirtual 73, 3) := by decide +kernel
theorem dX3_unit_22 : decode cX3_unit 22 = .ok (.pop, 1) := by decide +kernel
theorem dX3_unit_23 : decode cX3_unit 23 = .ok (.iconst (-1), 1) := by decide +kernel
theorem dX3_unit_24 : decode cX3_unit 24 = .ok (.ireturn, 1) := by decide +kernel
theorem dX3_unit_25 : decode cX3_unit 25 = .ok (.aload_n 0, 1) := by decide +kernel
theorem dX3_unit_26 : decode cX3_unit 26 = .ok (.getfield 26, 3) := by decide +kernel
theorem dX3_unit_29 : decode cX3_unit 29 = .ok (.dup, 1) := by decide +kernel
theorem dX3_unit_30 : decode cX3_unit 30 = .ok (.getfield 172, 3) := by decide +kernel
theorem dX3_unit_33 : decode cX3_unit 33 = .ok (.iconst 1, 1) := by decide +kernel
theorem dX3_unit_34 : decode cX3_unit 34 = .ok (.iadd, 1) := by decide +kernel
theorem dX3_unit_35 : decode cX3_unit 35 = .ok (.putfield 172, 3) := by decide +kernel
theorem dX3_unit_38 : decode cX3_unit 38 = .ok (.aload_n 0, 1) := by decide +kernel
theorem dX3_unit_39 : decode cX3_unit 39 = .ok (.getfield 22, 3) := by decide +kernel
theorem dX3_unit_42 : decode cX3_unit 42 = .ok (.getfield 53, 3) := by decide +kernel
theorem dX3_unit_45 : decode cX3_unit 45 = .ok (.lookupswitch 60 #[(4, 35), (40, 48), (45, 54)], 35) := by decide +kernel
theorem dX3_unit_80 : decode cX3_unit 80 = .ok (.aload_n 0, 1) := by decide +kernel
theorem dX3_unit_81 : decode cX3_unit 81 = .ok (.iconst 0, 1) := by decide +kernel
theorem dX3_unit_82 : decode cX3_unit 82 = .ok (.aload_n 0, 1) := by decide +kernel
theorem dX3_unit_83 : decode cX3_unit 83 = .ok (.getfield 22, 3) := by decide +kernel
theorem dX3_unit_86 : decode cX3_unit 86 = .ok (.getfield 132, 3) := by decide +kernel
theorem dX3_unit_89 : decode cX3_unit 89 = .ok (.invokevirtual 175, 3) := by decide +kernel
theorem dX3_unit_92 : decode cX3_unit 92 = .ok (.ireturn, 1) := by decide +kernel
theorem dX3_unit_93 : decode cX3_unit 93 = .ok (.aload_n 0, 1) := by decide +kernel
theorem dX3_unit_94 : decode cX3_unit 94 = .ok (.iload_n 1, 1) := by decide +kernel
theorem dX3_unit_95 : decode cX3_unit 95 = .ok (.invokevirtual 178, 3) := by decide +kernel
theorem dX3_unit_98 : decode cX3_unit 98 = .ok (.ireturn, 1) := by decide +kernel
theorem dX3_unit_99 : decode cX3_unit 99 = .ok (.aload_n 0, 1) := by decide +kernel
theorem dX3_unit_100 : decode cX3_unit 100 = .ok (.iload_n 1, 1) := by decide +kernel
theorem dX3_unit_101 : decode cX3_unit 101 = .ok (.invokevirtual 181, 3) := by decide +kernel
theorem dX3_unit_104 : decode cX3_unit 104 = .ok (.ireturn, 1) := by decide +kernel
theorem dX3_unit_105 : decode cX3_unit 105 = .ok (.aload_n 0, 1) := by decide +kernel
theorem dX3_unit_106 : decode cX3_unit 106 = .ok (.getfield 22, 3) := by decide +kernel
theorem dX3_unit_109 : decode cX3_unit 109 = .ok (.ldc 184, 2) := by decide +kernel
theorem dX3_unit_111 : decode cX3_unit 111 = .ok (.invokevirtual 62, 3) := by decide +kernel
theorem dX3_unit_114 : decode cX3_unit 114 = .ok (.ifCond .eq 10, 3) := by decide +kernel
theorem dX3_unit_117 : decode cX3_unit 117 = .ok (.aload_n 0, 1) := by decide +kernel
theorem dX3_unit_118 : decode cX3_unit 118 = .ok (.iconst 1, 1) := by decide +kernel
theorem dX3_unit_119 : decode cX3_unit 119 = .ok (.iconst 0, 1) := by decide +kernel
theorem dX3_unit_120 : decode cX3_unit 120 = .ok (.invokevirtual 175, 3) := by decide +kernel
theorem dX3_unit_123 : decode cX3_unit 123 = .ok (.ireturn, 1) := by decide +kernel
theorem dX3_unit_124 : decode cX3_unit 124 = .ok (.aload_n 0, 1) := by decide +kernel
theorem dX3_unit_125 : decode cX3_unit 125 = .ok (.getfield 22, 3) := by decide +kernel
theorem dX3_unit_128 : decode cX3_unit 128 = .ok (.ldc 186, 2) := by decide +kernel
theorem dX3_unit_130 : decode cX3_unit 130 = .ok (.invokevirtual 62, 3) := by decide +kernel
theorem dX3_unit_133 : decode cX3_unit 133 = .ok (.ifCond .eq 12, 3) := by decide +kernel
theorem dX3_unit_136 : decode cX3_unit 136 = .ok (.aload_n 0, 1) := by decide +kernel
theorem dX3_unit_137 : decode cX3_unit 137 = .ok (.iconst 2, 1) := by decide +kernel
theorem dX3_unit_138 : decode cX3_unit 138 = .ok (.iconst 0, 1) := by decide +kernel
theorem dX3_unit_139 : decode cX3_unit 139 = .ok (.invokevirtual 175, 3) := by decide +kernel
theorem dX3_unit_142 : decode cX3_unit 142 = .ok (.goto 7, 3) := by decide +kernel
theorem dX3_unit_145 : decode cX3_unit 145 = .ok (.aload_n 0, 1) := by decide +kernel
theorem dX3_unit_146 : decode cX3_unit 146 = .ok (.invokevirtual 188, 3) := by decide +kernel
theorem dX3_unit_149 : decode cX3_unit 149 = .ok (.ireturn, 1) := by decide +kernel
theorem dX3_unitFault_0 : decode cX3_unitFault 0 = .ok (.aload_n 0, 1) := by decide +kernel
theorem dX3_unitFault_1 : decode cX3_unitFault 1 = .ok (.getfield 22, 3) := by decide +kernel
theorem dX3_unitFault_4 : decode cX3_unitFault 4 = .ok (.invokevirtual 136, 3) := by decide +kernel
theorem dX3_unitFault_7 : decode cX3_unitFault 7 = .ok (.istore_n 2, 1) := by decide +kernel
theorem dX3_unitFault_8 : decode cX3_unitFault 8 = .ok (.aload_n 0, 1) := by decide +kernel
theorem dX3_unitFault_9 : decode cX3_unitFault 9 = .ok (.getfield 22, 3) := by decide +kernel
theorem dX3_unitFault_12 : decode cX3_unitFault 12 = .ok (.getfield 53, 3) := by decide +kernel
theorem dX3_unitFault_15 : decode cX3_unitFault 15 = .ok (.iconst 4, 1) := by decide +kernel
theorem dX3_unitFault_16 : decode cX3_unitFault 16 = .ok (.if_icmp .eq 51, 3) := by decide +kernel
theorem dX3_unitFault_19 : decode cX3_unitFault 19 = .ok (.aload_n 0, 1) := by decide +kernel
theorem dX3_unitFault_20 : decode cX3_unitFault 20 = .ok (.getfield 22, 3) := by decide +kernel
theorem dX3_unitFault_23 : decode cX3_unitFault 23 = .ok (.getfield 53, 3) := by decide +kernel
theorem dX3_unitFault_26 : decode cX3_unitFault 26 = .ok (.bipush 40, 2) := by decide +kernel
theorem dX3_unitFault_28 : decode cX3_unitFault 28 = .ok (.if_icmp .eq 39, 3) := by decide +kernel
theorem dX3_unitFault_31 : decode cX3_unitFault 31 = .ok (.aload_n 0, 1) := by decide +kernel
theorem dX3_unitFault_32 : decode cX3_unitFault 32 = .ok (.getfield 22, 3) := by decide +kernel
theorem dX3_unitFault_35 : decode cX3_unitFault 35 = .ok (.getfield 53, 3) := by decide +kernel
theorem dX3_unitFault_38 : decode cX3_unitFault 38 = .ok (.bipush 45, 2) := by decide +kernel
theorem dX3_unitFault_40 : decode cX3_unitFault 40 = .ok (.if_icmp .eq 27, 3) := by decide +kernel
theorem dX3_unitFault_43 : decode cX3_unitFault 43 = .ok (.aload_n 0, 1) := by decide +kernel
theorem dX3_unitFault_44 : decode cX3_unitFault 44 = .ok (.getfield 22, 3) := by decide +kernel
theorem dX3_unitFault_47 : decode cX3_unitFault 47 = .ok (.ldc 184, 2) := by decide +kernel
theorem dX3_unitFault_49 : decode cX3_unitFault 49 = .ok (.invokevirtual 62, 3) := by decide +kernel
theorem dX3_unitFault_52 : decode cX3_unitFault 52 = .ok (.ifCond .ne 15, 3) := by decide +kernel
theorem dX3_unitFault_55 : decode cX3_unitFault 55 = .ok (.aload_n 0, 1) := by decide +kernel
theorem dX3_unitFault_56 : decode cX3_unitFault 56 = .ok (.getfield 22, 3) := by decide +kernel
theorem dX3_unitFault_59 : decode cX3_unitFault 59 = .ok (.ldc 186, 2) := by decide +kernel
theorem dX3_unitFault_61 : decode cX3_unitFault 61 = .ok (.invokevirtual 62, 3) := by decide +kernel
theorem dX3_unitFault_64 : decode cX3_unitFault 64 = .ok (.ifCond .eq 7, 3) := by decide +kernel
theorem dX3_unitFault_67 : decode cX3_unitFault 67 = .ok (.iconst 1, 1) := by decide +kernel
theorem dX3_unitFault_68 : decode cX3_unitFault 68 = .ok (.goto 4, 3) := by decide +kernel
theorem dX3_unitFault_71 : decode cX3_unitFault 71 = .ok (.iconst 0, 1) := by decide +kernel
theorem dX3_unitFault_72 : decode cX3_unitFault 72 = .ok (.istore_n 3, 1) := by decide +kernel
theorem dX3_unitFault_73 : decode cX3_unitFault 73 = .ok (.iload_n 2, 1) := by decide +kernel
theorem dX3_unitFault_74 : decode cX3_unitFault 74 = .ok (.ifCond .ne 9, 3) := by decide +kernel
theorem dX3_unitFault_77 : decode cX3_unitFault 77 = .ok (.iload_n 3, 1) := by decide +kernel
theorem dX3_unitFault_78 : decode cX3_unitFault 78 = .ok (.ifCond .ne 5, 3) := by decide +kernel
theorem dX3_unitFault_81 : decode cX3_unitFault 81 = .ok (.iconst 1, 1) := by decide +kernel
theorem dX3_unitFault_82 : decode cX3_unitFault 82 = .ok (.ireturn, 1) := by decide +kernel
theorem dX3_unitFault_83 : decode cX3_unitFault 83 = .ok (.aload_n 0, 1) := by decide +kernel
theorem dX3_unitFault_84 : decode cX3_unitFault 84 = .ok (.getfield 22, 3) := by decide +kernel
theorem dX3_unitFault_87 : decode cX3_unitFault 87 = .ok (.getfield 53, 3) := by decide +kernel
theorem dX3_unitFault_90 : decode cX3_unitFault 90 = .ok (.iconst 4, 1) := by decide +kernel
theorem dX3_unitFault_91 : decode cX3_unitFault 91 = .ok (.if_icmp .ne 18, 3) := by decide +kernel
theorem dX3_unitFault_94 : decode cX3_unitFault 94 = .ok (.aload_n 0, 1) := by decide +kernel
theorem dX3_unitFault_95 : decode cX3_unitFault 95 = .ok (.getfield 22, 3) := by decide +kernel
theorem dX3_unitFault_98 : decode cX3_unitFault 98 = .ok (.getfield 132, 3) := by decide +kernel
theorem dX3_unitFault_101 : decode cX3_unitFault 101 = .ok (.sipush 999, 3) := by decide +kernel
theorem dX3_unitFault_104 : decode cX3_unitFault 104 = .ok (.if_icmp .le 5, 3) := by decide +kernel
theorem dX3_unitFault_107 : decode cX3_unitFault 107 = .ok (.iconst 2, 1) := by decide +kernel
theorem dX3_unitFault_108 : decode cX3_unitFault 108 = .ok (.ireturn, 1) := by decide +kernel
theorem dX3_unitFault_109 : decode cX3_unitFault 109 = .ok (.iload_n 2, 1) := by decide +kernel
theorem dX3_unitFault_110 : decode cX3_unitFault 110 = .ok (.ifCond .eq 20, 3) := by decide +kernel
theorem dX3_unitFault_113 : decode cX3_unitFault 113 = .ok (.aload_n 0, 1) := by decide +kernel
theorem dX3_unitFault_114 : decode cX3_unitFault 114 = .ok (.getfield 45, 3) := by decide +kernel
theorem dX3_unitFault_117 : decode cX3_unitFault 117 = .ok (.ifCond .ne 11, 3) := by decide +kernel
theorem dX3_unitFault_120 : decode cX3_unitFault 120 = .ok (.aload_n 0, 1) := by decide +kernel
theorem dX3_unitFault_121 : decode cX3_unitFault 121 = .ok (.invokevirtual 139, 3) := by decide +kernel
theorem dX3_unitFault_124 : decode cX3_unitFault 124 = .ok (.iconst (-1), 1) := by decide +kernel
theorem dX3_unitFault_125 : decode cX3_unitFault 125 = .ok (.if_icmp .ne 5, 3) := by decide +kernel
theorem dX3_unitFault_128 : decode cX3_unitFault 128 = .ok (.iconst 3, 1) := by decide +kernel
theorem dX3_unitFault_129 : decode cX3_unitFault 129 = .ok (.ireturn, 1) := by decide +kernel
theorem dX3_unitFault_130 : decode cX3_unitFault 130 = .ok (.aload_n 0, 1) := by decide +kernel
theorem dX3_unitFault_131 : decode cX3_unitFault 131 = .ok (.getfield 26, 3) := by decide +kernel
theorem dX3_unitFault_134 : decode cX3_unitFault 134 = .ok (.getfield 172, 3) := by decide +kernel
theorem dX3_unitFault_137 : decode cX3_unitFault 137 = .ok (.bipush 40, 2) := by decide +kernel
theorem dX3_unitFault_139 : decode cX3_unitFault 139 = .ok (.if_icmp .ge 24, 3) := by decide +kernel
theorem dX3_unitFault_142 : decode cX3_unitFault 142 = .ok (.iload_n 1, 1) := by decide +kernel
theorem dX3_unitFault_143 : decode cX3_unitFault 143 = .ok (.iconst 4, 1) := by decide +kernel
theorem dX3_unitFault_144 : decode cX3_unitFault 144 = .ok (.if_icmp .gt 19, 3) := by decide +kernel
theorem dX3_unitFault_147 : decode cX3_unitFault 147 = .ok (.iload_n 2, 1) := by decide +kernel
theorem dX3_unitFault_148 : decode cX3_unitFault 148 = .ok (.ifCond .eq 19, 3) := by decide +kernel
theorem dX3_unitFault_151 : decode cX3_unitFault 151 = .ok (.aload_n 0, 1) := by decide +kernel
theorem dX3_unitFault_152 : decode cX3_unitFault 152 = .ok (.getfield 26, 3) := by decide +kernel
theorem dX3_unitFault_155 : decode cX3_unitFault 155 = .ok (.getfield 191, 3) := by decide +kernel
theorem dX3_unitFault_158 : decode cX3_unitFault 158 = .ok (.bipush 12, 2) := by decide +kernel
theorem dX3_unitFault_160 : decode cX3_unitFault 160 = .ok (.if_icmp .lt 7, 3) := by decide +kernel
theorem dX3_unitFault_163 : decode cX3_unitFault 163 = .ok (.iconst 1, 1) := by decide +kernel
theorem dX3_unitFault_164 : decode cX3_unitFault 164 = .ok (.goto 4, 3) := by decide +kernel
theorem dX3_unitFault_167 : decode cX3_unitFault 167 = .ok (.iconst 0, 1) := by decide +kernel
theorem dX3_unitFault_168 : decode cX3_unitFault 168 = .ok (.istore 4, 2) := by decide +kernel
theorem dX3_unitFault_170 : decode cX3_unitFault 170 = .ok (.iload 4, 2) := by decide +kernel
theorem dX3_unitFault_172 : decode cX3_unitFault 172 = .ok (.ifCond .eq 7, 3) := by decide +kernel
theorem dX3_unitFault_175 : decode cX3_unitFault 175 = .ok (.iconst 4, 1) := by decide +kernel
theorem dX3_unitFault_176 : decode cX3_unitFault 176 = .ok (.goto 4, 3) := by decide +kernel
theorem dX3_unitFault_179 : decode cX3_unitFault 179 = .ok (.iconst 0, 1) := by decide +kernel
theorem dX3_unitFault_180 : decode cX3_unitFault 180 = .ok (.ireturn, 1) := by decide +kernel
theorem dX3_leaf_0 : decode cX3_leaf 0 = .ok (.aload_n 0, 1) := by decide +kernel
theorem dX3_leaf_1 : decode cX3_leaf 1 = .ok (.getfield 22, 3) := by decide +kernel
theorem dX3_leaf_4 : decode cX3_leaf 4 = .ok (.invokevirtual 77, 3) := by decide +kernel
theorem dX3_leaf_7 : decode cX3_leaf 7 = .ok (.aload_n 0, 1) := by decide +kernel
theorem dX3_leaf_8 : decode cX3_leaf 8 = .ok (.getfield 26, 3) := by decide +kernel
theorem dX3_leaf_11 : decode cX3_leaf 11 = .ok (.iload_n 1, 1) := by decide +kernel
theorem dX3_leaf_12 : decode cX3_leaf 12 = .ok (.iload_n 2, 1) := by decide +kernel
theorem dX3_leaf_13 : decode cX3_leaf 13 = .ok (.iconst 0, 1) := by decide +kernel
theorem dX3_leaf_14 : decode cX3_leaf 14 = .ok (.invokevirtual 165, 3) := by decide +kernel
theorem dX3_leaf_17 : decode cX3_leaf 17 = .ok (.ireturn, 1) := by decide +kernel
theorem dX3_bracket_0 : decode cX3_bracket 0 = .ok (.aload_n 0, 1) := by decide +kernel
theorem dX3_bracket_1 : decode cX3_bracket 1 = .ok (.getfield 22, 3) := by decide +kernel
theorem dX3_bracket_4 : decode cX3_bracket 4 = .ok (.invokevirtual 77, 3) := by decide +kernel
theorem dX3_bracket_7 : decode cX3_bracket 7 = .ok (.aload_n 0, 1) := by decide +kernel
theorem dX3_bracket_8 : decode cX3_bracket 8 = .ok (.iconst 0, 1) := by decide +kernel
theorem dX3_bracket_9 : decode cX3_bracket 9 = .ok (.iload_n 1, 1) := by decide +kernel
theorem dX3_bracket_10 : decode cX3_bracket 10 = .ok (.iconst 1, 1) := by decide +kernel
theorem dX3_bracket_11 : decode cX3_bracket 11 = .ok (.iadd, 1) := by decide +kernel
theorem dX3_bracket_12 : decode cX3_bracket 12 = .ok (.invokevirtual 146, 3) := by decide +kernel
theorem dX3_bracket_15 : decode cX3_bracket 15 = .ok (.istore_n 2, 1) := by decide +kernel
theorem dX3_bracket_16 : decode cX3_bracket 16 = .ok (.iload_n 2, 1) := by decide +kernel
theorem dX3_bracket_17 : decode cX3_bracket 17 = .ok (.iconst (-1), 1) := by decide +kernel
theorem dX3_bracket_18 : decode cX3_bracket 18 = .ok (.if_icmp .eq 16, 3) := by decide +kernel
theorem dX3_bracket_21 : decode cX3_bracket 21 = .ok (.aload_n 0, 1) := by decide +kernel
theorem dX3_bracket_22 : decode cX3_bracket 22 = .ok (.bipush 41, 2) := by decide +kernel
theorem dX3_bracket_24 : decode cX3_bracket 24 = .ok (.invokevirtual 94, 3) := by decide +kernel
theorem dX3_bracket_27 : decode cX3_bracket 27 = .ok (.ifCond .eq 7, 3) := by decide +kernel
theorem dX3_bracket_30 : decode cX3_bracket 30 = .ok (.iload_n 2, 1) := by decide +kernel
theorem dX3_bracket_31 : decode cX3_bracket 31 = .ok (.goto 4, 3) := by decide +kernel
theorem dX3_bracket_34 : decode cX3_bracket 34 = .ok (.iconst (-1), 1) := by decide +kernel
theorem dX3_bracket_35 : decode cX3_bracket 35 = .ok (.ireturn, 1) := by decide +kernel
theorem dX3_negated_0 : decode cX3_negated 0 = .ok (.aload_n 0, 1) := by decide +kernel
theorem dX3_negated_1 : decode cX3_negated 1 = .ok (.getfield 22, 3) := by decide +kernel
theorem dX3_negated_4 : decode cX3_negated 4 = .ok (.invokevirtual 77, 3) := by decide +kernel
theorem dX3_negated_7 : decode cX3_negated 7 = .ok (.aload_n 0, 1) := by decide +kernel
theorem dX3_negated_8 : decode cX3_negated 8 = .ok (.iload_n 1, 1) := by decide +kernel
theorem dX3_negated_9 : decode cX3_negated 9 = .ok (.iconst 1, 1) := by decide +kernel
theorem dX3_negated_10 : decode cX3_negated 10 = .ok (.iadd, 1) := by decide +kernel
theorem dX3_negated_11 : decode cX3_negated 11 = .ok (.invokevirtual 158, 3) := by decide +kernel
theorem dX3_negated_14 : decode cX3_negated 14 = .ok (.istore_n 2, 1) := by decide +kernel
theorem dX3_negated_15 : decode cX3_negated 15 = .ok (.iload_n 2, 1) := by decide +kernel
theorem dX3_negated_16 : decode cX3_negated 16 = .ok (.iconst (-1), 1) := by decide +kernel
theorem dX3_negated_17 : decode cX3_negated 17 = .ok (.if_icmp .ne 7, 3) := by decide +kernel
theorem dX3_negated_20 : decode cX3_negated 20 = .ok (.iconst (-1), 1) := by decide +kernel
theorem dX3_negated_21 : decode cX3_negated 21 = .ok (.goto 13, 3) := by decide +kernel
theorem dX3_negated_24 : decode cX3_negated 24 = .ok (.aload_n 0, 1) := by decide +kernel
theorem dX3_negated_25 : decode cX3_negated 25 = .ok (.getfield 26, 3) := by decide +kernel
theorem dX3_negated_28 : decode cX3_negated 28 = .ok (.iconst 4, 1) := by decide +kernel
theorem dX3_negated_29 : decode cX3_negated 29 = .ok (.iload_n 2, 1) := by decide +kernel
theorem dX3_negated_30 : decode cX3_negated 30 = .ok (.iconst 0, 1) := by decide +kernel
theorem dX3_negated_31 : decode cX3_negated 31 = .ok (.invokevirtual 165, 3) := by decide +kernel
theorem dX3_negated_34 : decode cX3_negated 34 = .ok (.ireturn, 1) := by decide +kernel
theorem dX3_readUnit_0 : decode cX3_readUnit 0 = .ok (.aload_n 0, 1) := by decide +kernel
theorem dX3_readUnit_1 : decode cX3_readUnit 1 = .ok (.invokevirtual 139, 3) := by decide +kernel
theorem dX3_readUnit_4 : decode cX3_readUnit 4 = .ok (.istore_n 1, 1) := by decide +kernel
theorem dX3_readUnit_5 : decode cX3_readUnit 5 = .ok (.aload_n 0, 1) := by decide +kernel
theorem dX3_readUnit_6 : decode cX3_readUnit 6 = .ok (.getfield 22, 3) := by decide +kernel
theorem dX3_readUnit_9 : decode cX3_readUnit 9 = .ok (.invokevirtual 77, 3) := by decide +kernel
theorem dX3_readUnit_12 : decode cX3_readUnit 12 = .ok (.aload_n 0, 1) := by decide +kernel
theorem dX3_readUnit_13 : decode cX3_readUnit 13 = .ok (.bipush 40, 2) := by decide +kernel
theorem dX3_readUnit_15 : decode cX3_readUnit 15 = .ok (.invokevirtual 94, 3) := by decide +kernel
theorem dX3_readUnit_18 : decode cX3_readUnit 18 = .ok (.ifCond .eq 13, 3) := by decide +kernel
theorem dX3_readUnit_21 : decode cX3_readUnit 21 = .ok (.aload_n 0, 1) := by decide +kernel
theorem dX3_readUnit_22 : decode cX3_readUnit 22 = .ok (.bipush (-3), 2) := by decide +kernel
theorem dX3_readUnit_24 : decode cX3_readUnit 24 = .ok (.iconst 3, 1) := by decide +kernel
theorem dX3_readUnit_25 : decode cX3_readUnit 25 = .ok (.invokevirtual 82, 3) := by decide +kernel
theorem dX3_readUnit_28 : decode cX3_readUnit 28 = .ok (.ifCond .ne 5, 3) := by decide +kernel
theorem dX3_readUnit_31 : decode cX3_readUnit 31 = .ok (.iconst (-1), 1) := by decide +kernel
theorem dX3_readUnit_32 : decode cX3_readUnit 32 = .ok (.ireturn, 1) := by decide +kernel
theorem dX3_readUnit_33 : decode cX3_readUnit 33 = .ok (.aload_n 0, 1) := by decide +kernel
theorem dX3_readUnit_34 : decode cX3_readUnit 34 = .ok (.getfield 85, 3) := by decide +kernel
theorem dX3_readUnit_37 : decode cX3_readUnit 37 = .ok (.istore_n 2, 1) := by decide +kernel
theorem dX3_readUnit_38 : decode cX3_readUnit 38 = .ok (.aload_n 0, 1) := by decide +kernel
theorem dX3_readUnit_39 : decode cX3_readUnit 39 = .ok (.bipush 44, 2) := by decide +kernel
theorem dX3_readUnit_41 : decode cX3_readUnit 41 = .ok (.invokevirtual 94, 3) := by decide +kernel
theorem dX3_readUnit_44 : decode cX3_readUnit 44 = .ok (.ifCond .eq 13, 3) := by decide +kernel
theorem dX3_readUnit_47 : decode cX3_readUnit 47 = .ok (.aload_n 0, 1) := by decide +kernel
theorem dX3_readUnit_48 : decode cX3_readUnit 48 = .ok (.bipush (-3), 2) := by decide +kernel
theorem dX3_readUnit_50 : decode cX3_readUnit 50 = .ok (.iconst 3, 1) := by decide +kernel
theorem dX3_readUnit_51 : decode cX3_readUnit 51 = .ok (.invokevirtual 82, 3) := by decide +kernel
theorem dX3_readUnit_54 : decode cX3_readUnit 54 = .ok (.ifCond .ne 5, 3) := by decide +kernel
theorem dX3_readUnit_57 : decode cX3_readUnit 57 = .ok (.iconst (-1), 1) := by decide +kernel
theorem dX3_readUnit_58 : decode cX3_readUnit 58 = .ok (.ireturn, 1) := by decide +kernel
theorem dX3_readUnit_59 : decode cX3_readUnit 59 = .ok (.aload_n 0, 1) := by decide +kernel
theorem dX3_readUnit_60 : decode cX3_readUnit 60 = .ok (.getfield 85, 3) := by decide +kernel
theorem dX3_readUnit_63 : decode cX3_readUnit 63 = .ok (.istore_n 3, 1) := by decide +kernel
theorem dX3_readUnit_64 : decode cX3_readUnit 64 = .ok (.iload_n 2, 1) := by decide +kernel
theorem dX3_readUnit_65 : decode cX3_readUnit 65 = .ok (.ifCond .ne 32, 3) := by decide +kernel
theorem dX3_readUnit_68 : decode cX3_readUnit 68 = .ok (.iload_n 3, 1) := by decide +kernel
theorem dX3_readUnit_69 : decode cX3_readUnit 69 = .ok (.ifCond .ne 28, 3) := by decide +kernel
theorem dX3_readUnit_72 : decode cX3_readUnit 72 = .ok (.iload_n 1, 1) := by decide +kernel
theorem dX3_readUnit_73 : decode cX3_readUnit 73 = .ok (.aload_n 0, 1) := by decide +kernel
theorem dX3_readUnit_74 : decode cX3_readUnit 74 = .ok (.getfield 26, 3) := by decide +kernel
theorem dX3_readUnit_77 : decode cX3_readUnit 77 = .ok (.getfield 133, 3) := by decide +kernel
theorem dX3_readUnit_80 : decode cX3_readUnit 80 = .ok (.iconst 1, 1) := by decide +kernel
theorem dX3_readUnit_81 : decode cX3_readUnit 81 = .ok (.isub, 1) := by decide +kernel
theorem dX3_readUnit_82 : decode cX3_readUnit 82 = .ok (.if_icmp .ne 15, 3) := by decide +kernel
theorem dX3_readUnit_85 : decode cX3_readUnit 85 = .ok (.aload_n 0, 1) := by decide +kernel
theorem dX3_readUnit_86 : decode cX3_readUnit 86 = .ok (.iconst 2, 1) := by decide +kernel
theorem dX3_readUnit_87 : decode cX3_readUnit 87 = .ok (.aload_n 0, 1) := by decide +kernel
theorem dX3_readUnit_88 : decode cX3_readUnit 88 = .ok (.getfield 129, 3) := by decide +kernel
theorem dX3_readUnit_91 : decode cX3_readUnit 91 = .ok (.invokevirtual 73, 3) := by decide +kernel
theorem dX3_readUnit_94 : decode cX3_readUnit 94 = .ok (.pop, 1) := by decide +kernel
theorem dX3_readUnit_95 : decode cX3_readUnit 95 = .ok (.iconst (-1), 1) := by decide +kernel
theorem dX3_readUnit_96 : decode cX3_readUnit 96 = .ok (.ireturn, 1) := by decide +kernel
theorem dX3_readUnit_97 : decode cX3_readUnit 97 = .ok (.aload_n 0, 1) := by decide +kernel
theorem dX3_readUnit_98 : decode cX3_readUnit 98 = .ok (.bipush 41, 2) := by decide +kernel
theorem dX3_readUnit_100 : decode cX3_readUnit 100 = .ok (.invokevirtual 94, 3) := by decide +kernel
theorem dX3_readUnit_103 : decode cX3_readUnit 103 = .ok (.ifCond .eq 16, 3) := by decide +kernel
theorem dX3_readUnit_106 : decode cX3_readUnit 106 = .ok (.aload_n 0, 1) := by decide +kernel
theorem dX3_readUnit_107 : decode cX3_readUnit 107 = .ok (.getfield 26, 3) := by decide +kernel
theorem dX3_readUnit_110 : decode cX3_readUnit 110 = .ok (.iload_n 1, 1) := by decide +kernel
theorem dX3_readUnit_111 : decode cX3_readUnit 111 = .ok (.iload_n 2, 1) := by decide +kernel
theorem dX3_readUnit_112 : decode cX3_readUnit 112 = .ok (.iload_n 3, 1) := by decide +kernel
theorem dX3_readUnit_113 : decode cX3_readUnit 113 = .ok (.invokevirtual 194, 3) := by decide +kernel
theorem dX3_readUnit_116 : decode cX3_readUnit 116 = .ok (.goto 4, 3) := by decide +kernel
theorem dX3_readUnit_119 : decode cX3_readUnit 119 = .ok (.iconst (-1), 1) := by decide +kernel
theorem dX3_readUnit_120 : decode cX3_readUnit 120 = .ok (.ireturn, 1) := by decide +kernel
theorem dX4_init_0 : decode cX4_init 0 = .ok (.aload_n 0, 1) := by decide +kernel
theorem dX4_init_1 : decode cX4_init 1 = .ok (.invokespecial 3, 3) := by decide +kernel
theorem dX4_init_4 : decode cX4_init 4 = .ok (.aload_n 0, 1) := by decide +kernel
theorem dX4_init_5 : decode cX4_init 5 = .ok (.bipush 100, 2) := by decide +kernel
theorem dX4_init_7 : decode cX4_init 7 = .ok (.newarray .int, 2) := by decide +kernel
theorem dX4_init_9 : decode cX4_init 9 = .ok (.putfield 9, 3) := by decide +kernel
theorem dX4_init_12 : decode cX4_init 12 = .ok (.aload_n 0, 1) := by decide +kernel
theorem dX4_init_13 : decode cX4_init 13 = .ok (.bipush 100, 2) := by decide +kernel
theorem dX4_init_15 : decode cX4_init 15 = .ok (.newarray .int, 2) := by decide +kernel
theorem dX4_init_17 : decode cX4_init 17 = .ok (.putfield 15, 3) := by decide +kernel
theorem dX4_init_20 : decode cX4_init 20 = .ok (.aload_n 0, 1) := by decide +kernel
theorem dX4_init_21 : decode cX4_init 21 = .ok (.bipush 100, 2) := by decide +kernel
theorem dX4_init_23 : decode cX4_init 23 = .ok (.newarray .boolean, 2) := by decide +kernel
theorem dX4_init_25 : decode cX4_init 25 = .ok (.putfield 18, 3) := by decide +kernel
theorem dX4_init_28 : decode cX4_init 28 = .ok (.aload_n 0, 1) := by decide +kernel
theorem dX4_init_29 : decode cX4_init 29 = .ok (.bipush 100, 2) := by decide +kernel
theorem dX4_init_31 : decode cX4_init 31 = .ok (.newarray .int, 2) := by decide +kernel
theorem dX4_init_33 : decode cX4_init 33 = .ok (.putfield 22, 3) := by decide +kernel
theorem dX4_init_36 : decode cX4_init 36 = .ok (.aload_n 0, 1) := by decide +kernel
theorem dX4_init_37 : decode cX4_init 37 = .ok (.sipush 163, 3) := by decide +kernel
theorem dX4_init_40 : decode cX4_init 40 = .ok (.newarray .int, 2) := by decide +kernel
theorem dX4_init_42 : decode cX4_init 42 = .ok (.putfield 25, 3) := by decide +kernel
theorem dX4_init_45 : decode cX4_init 45 = .ok (.aload_n 0, 1) := by decide +kernel
theorem dX4_init_46 : decode cX4_init 46 = .ok (.sipush 163, 3) := by decide +kernel
theorem dX4_init_49 : decode cX4_init 49 = .ok (.newarray .int, 2) := by decide +kernel
theorem dX4_init_51 : decode cX4_init 51 = .ok (.putfield 28, 3) := by decide +kernel
theorem dX4_init_54 : decode cX4_init 54 = .ok (.aload_n 0, 1) := by decide +kernel
theorem dX4_init_55 : decode cX4_init 55 = .ok (.bipush 55, 2) := by decide +kernel
theorem dX4_init_57 : decode cX4_init 57 = .ok (.newarray .int, 2) := by decide +kernel
theorem dX4_init_59 : decode cX4_init 59 = .ok (.putfield 31, 3) := by decide +kernel
theorem dX4_init_62 : decode cX4_init 62 = .ok (.aload_n 0, 1) := by decide +kernel
theorem dX4_init_63 : decode cX4_init 63 = .ok (.bipush 12, 2) := by decide +kernel
theorem dX4_init_65 : decode cX4_init 65 = .ok (.newarray .int, 2) := by decide +kernel
theorem dX4_init_67 : decode cX4_init 67 = .ok (.putfield 34, 3) := by decide +kernel
theorem dX4_init_70 : decode cX4_init 70 = .ok (.return_, 1) := by decide +kernel
theorem dX4_place_0 : decode cX4_place 0 = .ok (.aload_n 0, 1) := by decide +kernel
theorem dX4_place_1 : decode cX4_place 1 = .ok (.aload_n 1, 1) := by decide +kernel
theorem dX4_place_2 : decode cX4_place 2 = .ok (.invokevirtual 37, 3) := by decide +kernel
theorem dX4_place_5 : decode cX4_place 5 = .ok (.putfield 43, 3) := by decide +kernel
theorem dX4_place_8 : decode cX4_place 8 = .ok (.aload_n 0, 1) := by decide +kernel
theorem dX4_place_9 : decode cX4_place 9 = .ok (.aload_n 1, 1) := by decide +kernel
theorem dX4_place_10 : decode cX4_place 10 = .ok (.aload_n 2, 1) := by decide +kernel
theorem dX4_place_11 : decode cX4_place 11 = .ok (.getfield 46, 3) := by decide +kernel
theorem dX4_place_14 : decode cX4_place 14 = .ok (.aload_n 2, 1) := by decide +kernel
theorem dX4_place_15 : decode cX4_place 15 = .ok (.getfield 51, 3) := by decide +kernel
theorem dX4_place_18 : decode cX4_place 18 = .ok (.invokevirtual 54, 3) := by decide +kernel
theorem dX4_place_21 : decode cX4_place 21 = .ok (.putfield 58, 3) := by decide +kernel
theorem dX4_place_24 : decode cX4_place 24 = .ok (.aload_n 0, 1) := by decide +kernel
theorem dX4_place_25 : decode cX4_place 25 = .ok (.aload_n 2, 1) := by decide +kernel
theorem dX4_place_26 : decode cX4_place 26 = .ok (.getfield 46, 3) := by decide +kernel
theorem dX4_place_29 : decode cX4_place 29 = .ok (.aload_n 2, 1) := by decide +kernel
theorem dX4_place_30 : decode cX4_place 30 = .ok (.getfield 60, 3) := by decide +kernel
theorem dX4_place_33 : decode cX4_place 33 = .ok (.imul, 1) := by decide +kernel
theorem dX4_place_34 : decode cX4_place 34 = .ok (.aload_n 2, 1) := by decide +kernel
theorem dX4_place_35 : decode cX4_place 35 = .ok (.getfield 51, 3) := by decide +kernel
theorem dX4_place_38 : decode cX4_place 38 = .ok (.aload_n 2, 1) := by decide +kernel
theorem dX4_place_39 : decode cX4_place 39 = .ok (.getfield 63, 3) := by decide +kernel
theorem dX4_place_42 : decode cX4_place 42 = .ok (.imul, 1) := by decide +kernel
theorem dX4_place_43 : decode cX4_place 43 = .ok (.iadd, 1) := by decide +kernel
theorem dX4_place_44 : decode cX4_place 44 = .ok (.invokestatic 66, 3) := by decide +kernel
theorem dX4_place_47 : decode cX4_place 47 = .ok (.putfield 72, 3) := by decide +kernel
theorem dX4_place_50 : decode cX4_place 50 = .ok (.aload_n 0, 1) := by decide +kernel
theorem dX4_place_51 : decode cX4_place 51 = .ok (.aload_n 1, 1) := by decide +kernel
theorem dX4_place_52 : decode cX4_place 52 = .ok (.aload_n 2, 1) := by decide +kernel
theorem dX4_place_53 : decode cX4_place 53 = .ok (.invokevirtual 75, 3) := by decide +kernel
theorem dX4_place_56 : decode cX4_place 56 = .ok (.aload_n 0, 1) := by decide +kernel
theorem dX4_place_57 : decode cX4_place 57 = .ok (.aload_n 1, 1) := by decide +kernel
theorem dX4_place_58 : decode cX4_place 58 = .ok (.invokevirtual 79, 3) := by decide +kernel
theorem dX4_place_61 : decode cX4_place 61 = .ok (.aload_n 0, 1) := by decide +kernel
theorem dX4_place_62 : decode cX4_place 62 = .ok (.aload_n 1, 1) := by decide +kernel
theorem dX4_place_63 : decode cX4_place 63 = .ok (.aload_n 2, 1) := by decide +kernel
theorem dX4_place_64 : decode cX4_place 64 = .ok (.invokevirtual 83, 3) := by decide +kernel
theorem dX4_place_67 : decode cX4_place 67 = .ok (.aload_n 0, 1) := by decide +kernel
theorem dX4_place_68 : decode cX4_place 68 = .ok (.aload_n 1, 1) := by decide +kernel
theorem dX4_place_69 : decode cX4_place 69 = .ok (.aload_n 2, 1) := by decide +kernel
theorem dX4_place_70 : decode cX4_place 70 = .ok (.invokevirtual 86, 3) := by decide +kernel
theorem dX4_place_73 : decode cX4_place 73 = .ok (.return_, 1) := by decide +kernel
theorem dX4_setTicks_0 : decode cX4_setTicks 0 = .ok (.iconst 0, 1) := by decide +kernel
theorem dX4_setTicks_1 : decode cX4_setTicks 1 = .ok (.aload_n 2, 1) := by decide +kernel
theorem dX4_setTicks_2 : decode cX4_setTicks 2 = .ok (.getfield 46, 3) := by decide +kernel
theorem dX4_setTicks_5 : decode cX4_setTicks 5 = .ok (.aload_n 1, 1) := by decide +kernel
theorem dX4_setTicks_6 : decode cX4_setTicks 6 = .ok (.getfield 89, 3) := by decide +kernel
theorem dX4_setTicks_9 : decode cX4_setTicks 9 = .ok (.iconst 1, 1) := by decide +kernel
theorem dX4_setTicks_10 : decode cX4_setTicks 10 = .ok (.isub, 1) := by decide +kernel
theorem dX4_setTicks_11 : decode cX4_setTicks 11 = .ok (.imul, 1) := by decide +kernel
theorem dX4_setTicks_12 : decode cX4_setTicks 12 = .ok (.invokestatic 92, 3) := by decide +kernel
theorem dX4_setTicks_15 : decode cX4_setTicks 15 = .ok (.iconst 0, 1) := by decide +kernel
theorem dX4_setTicks_16 : decode cX4_setTicks 16 = .ok (.aload_n 2, 1) := by decide +kernel
theorem dX4_setTicks_17 : decode cX4_setTicks 17 = .ok (.getfield 51, 3) := by decide +kernel
theorem dX4_setTicks_20 : decode cX4_setTicks 20 = .ok (.aload_n 1, 1) := by decide +kernel
theorem dX4_setTicks_21 : decode cX4_setTicks 21 = .ok (.getfield 95, 3) := by decide +kernel
theorem dX4_setTicks_24 : decode cX4_setTicks 24 = .ok (.iconst 1, 1) := by decide +kernel
theorem dX4_setTicks_25 : decode cX4_setTicks 25 = .ok (.isub, 1) := by decide +kernel
theorem dX4_setTicks_26 : decode cX4_setTicks 26 = .ok (.imul, 1) := by decide +kernel
theorem dX4_setTicks_27 : decode cX4_setTicks 27 = .ok (.invokestatic 92, 3) := by decide +kernel
theorem dX4_setTicks_30 : decode cX4_setTicks 30 = .ok (.iadd, 1) := by decide +kernel
theorem dX4_setTicks_31 : decode cX4_setTicks 31 = .ok (.istore_n 3, 1) := by decide +kernel
theorem dX4_setTicks_32 : decode cX4_setTicks 32 = .ok (.aload_n 0, 1) := by decide +kernel
theorem dX4_setTicks_33 : decode cX4_setTicks 33 = .ok (.getfield 25, 3) := by decide +kernel
theorem dX4_setTicks_36 : decode cX4_setTicks 36 = .ok (.iconst 0, 1) := by decide +kernel
theorem dX4_setTicks_37 : decode cX4_setTicks 37 = .ok (.invokestatic 98, 3) := by decide +kernel
theorem dX4_setTicks_40 : decode cX4_setTicks 40 = .ok (.iconst 0, 1) := by decide +kernel
theorem dX4_setTicks_41 : decode cX4_setTicks 41 = .ok (.istore 4, 2) := by decide +kernel
theorem dX4_setTicks_43 : decode cX4_setTicks 43 = .ok (.iload 4, 2) := by decide +kernel
theorem dX4_setTicks_45 : decode cX4_setTicks 45 = .ok (.aload_n 0, 1) := by decide +kernel
theorem dX4_setTicks_46 : decode cX4_setTicks 46 = .ok (.getfield 43, 3) := by decide +kernel
theorem dX4_setTicks_49 : decode cX4_setTicks 49 = .ok (.if_icmp .ge 63, 3) := by decide +kernel
theorem dX4_setTicks_52 : decode cX4_setTicks 52 = .ok (.aload_n 1, 1) := by decide +kernel
theorem dX4_setTicks_53 : decode cX4_setTicks 53 = .ok (.iload 4, 2) := by decide +kernel
theorem dX4_setTicks_55 : decode cX4_setTicks 55 = .ok (.invokevirtual 104, 3) := by decide +kernel
theorem dX4_setTicks_58 : decode cX4_setTicks 58 = .ok (.istore 5, 2) := by decide +kernel
theorem dX4_setTicks_60 : decode cX4_setTicks 60 = .ok (.aload_n 0, 1) := by decide +kernel
theorem dX4_setTicks_61 : decode cX4_setTicks 61 = .ok (.getfield 9, 3) := by decide +kernel
theorem dX4_setTicks_64 : decode cX4_setTicks 64 = .ok (.iload 5, 2) := by decide +kernel
theorem dX4_setTicks_66 : decode cX4_setTicks 66 = .ok (.aload_n 2, 1) := by decide +kernel
theorem dX4_setTicks_67 : decode cX4_setTicks 67 = .ok (.getfield 46, 3) := by decide +kernel
theorem dX4_setTicks_70 : decode cX4_setTicks 70 = .ok (.iload 5, 2) := by decide +kernel
theorem dX4_setTicks_72 : decode cX4_setTicks 72 = .ok (.bipush 10, 2) := by decide +kernel
theorem dX4_setTicks_74 : decode cX4_setTicks 74 = .ok (.idiv, 1) := by decide +kernel
theorem dX4_setTicks_75 : decode cX4_setTicks 75 = .ok (.imul, 1) := by decide +kernel
theorem dX4_setTicks_76 : decode cX4_setTicks 76 = .ok (.aload_n 2, 1) := by decide +kernel
theorem dX4_setTicks_77 : decode cX4_setTicks 77 = .ok (.getfield 51, 3) := by decide +kernel
theorem dX4_setTicks_80 : decode cX4_setTicks 80 = .ok (.iload 5, 2) := by decide +kernel
theorem dX4_setTicks_82 : decode cX4_setTicks 82 = .ok (.bipush 10, 2) := by decide +kernel
theorem dX4_setTicks_84 : decode cX4_setTicks 84 = .ok (.irem, 1) := by decide +kernel
theorem dX4_setTicks_85 : decode cX4_setTicks 85 = .ok (.imul, 1) := by decide +kernel
theorem dX4_setTicks_86 : decode cX4_setTicks 86 = .ok (.iadd, 1) := by decide +kernel
theorem dX4_setTicks_87 : decode cX4_setTicks 87 = .ok (.iload_n 3, 1) := by decide +kernel
theorem dX4_setTicks_88 : decode cX4_setTicks 88 = .ok (.isub, 1) := by decide +kernel
theorem dX4_setTicks_89 : decode cX4_setTicks 89 = .ok (.iastore, 1) := by decide +kernel
theorem dX4_setTicks_90 : decode cX4_setTicks 90 = .ok (.aload_n 0, 1) := by decide +kernel
theorem dX4_setTicks_91 : decode cX4_setTicks 91 = .ok (.getfield 25, 3) := by decide +kernel
theorem dX4_setTicks_94 : decode cX4_setTicks 94 = .ok (.aload_n 0, 1) := by decide +kernel
theorem dX4_setTicks_95 : decode cX4_setTicks 95 = .ok (.getfield 9, 3) := by decide +kernel
theorem dX4_setTicks_98 : decode cX4_setTicks 98 = .ok (.iload 5, 2) := by decide +kernel
theorem dX4_setTicks_100 : decode cX4_setTicks 100 = .ok (.iaload, 1) := by decide +kernel
theorem dX4_setTicks_101 : decode cX4_setTicks 101 = .ok (.dup2, 1) := by decide +kernel
theorem dX4_setTicks_102 : decode cX4_setTicks 102 = .ok (.iaload, 1) := by decide +kernel
theorem dX4_setTicks_103 : decode cX4_setTicks 103 = .ok (.iconst 1, 1) := by decide +kernel
theorem dX4_setTicks_104 : decode cX4_setTicks 104 = .ok (.iadd, 1) := by decide +kernel
theorem dX4_setTicks_105 : decode cX4_setTicks 105 = .ok (.iastore, 1) := by decide +kernel
theorem dX4_setTicks_106 : decode cX4_setTicks 106 = .ok (.iinc 4 1, 3) := by decide +kernel
theorem dX4_setTicks_109 : decode cX4_setTicks 109 = .ok (.goto (-66), 3) := by decide +kernel
theorem dX4_setTicks_112 : decode cX4_setTicks 112 = .ok (.return_, 1) := by decide +kernel
theorem dX4_sortByTick_0 : decode cX4_sortByTick 0 = .ok (.iconst 0, 1) := by decide +kernel
theorem dX4_sortByTick_1 : decode cX4_sortByTick 1 = .ok (.istore_n 2, 1) := by decide +kernel
theorem dX4_sortByTick_2 : decode cX4_sortByTick 2 = .ok (.iconst 0, 1) := by decide +kernel
theorem dX4_sortByTick_3 : decode cX4_sortByTick 3 = .ok (.istore_n 3, 1) := by decide +kernel
theorem dX4_sortByTick_4 : decode cX4_sortByTick 4 = .ok (.iload_n 3, 1) := by decide +kernel
theorem dX4_sortByTick_5 : decode cX4_sortByTick 5 = .ok (.aload_n 0, 1) := by decide +kernel
theorem dX4_sortByTick_6 : decode cX4_sortByTick 6 = .ok (.getfield 58, 3) := by decide +kernel
theorem dX4_sortByTick_9 : decode cX4_sortByTick 9 = .ok (.if_icmp .ge 25, 3) := by decide +kernel
theorem dX4_sortByTick_12 : decode cX4_sortByTick 12 = .ok (.aload_n 0, 1) := by decide +kernel
theorem dX4_sortByTick_13 : decode cX4_sortByTick 13 = .ok (.getfield 28, 3) := by decide +kernel
theorem dX4_sortByTick_16 : decode cX4_sortByTick 16 = .ok (.iload_n 3, 1) := by decide +kernel
theorem dX4_sortByTick_17 : decode cX4_sortByTick 17 = .ok (.iload_n 2, 1) := by decide +kernel
theorem dX4_sortByTick_18 : decode cX4_sortByTick 18 = .ok (.iastore, 1) := by decide +kernel
theorem dX4_sortByTick_19 : decode cX4_sortByTick 19 = .ok (.iload_n 2, 1) := by decide +kernel
theorem dX4_sortByTick_20 : decode cX4_sortByTick 20 = .ok (.aload_n 0, 1) := by decide +kernel
theorem dX4_sortByTick_21 : decode cX4_sortByTick 21 = .ok (.getfield 25, 3) := by decide +kernel
theorem dX4_sortByTick_24 : decode cX4_sortByTick 24 = .ok (.iload_n 3, 1) := by decide +kernel
theorem dX4_sortByTick_25 : decode cX4_sortByTick 25 = .ok (.iaload, 1) := by decide +kernel
theorem dX4_sortByTick_26 : decode cX4_sortByTick 26 = .ok (.iadd, 1) := by decide +kernel
theorem dX4_sortByTick_27 : decode cX4_sortByTick 27 = .ok (.istore_n 2, 1) := by decide +kernel
theorem dX4_sortByTick_28 : decode cX4_sortByTick 28 = .ok (.iinc 3 1, 3) := by decide +kernel
theorem dX4_sortByTick_31 : decode cX4_sortByTick 31 = .ok (.goto (-27), 3) := by decide +kernel
theorem dX4_sortByTick_34 : decode cX4_sortByTick 34 = .ok (.iconst 0, 1) := by decide +kernel
theorem dX4_sortByTick_35 : decode cX4_sortByTick 35 = .ok (.istore_n 3, 1) := by decide +kernel
theorem dX4_sortByTick_36 : decode cX4_sortByTick 36 = .ok (.iload_n 3, 1) := by decide +kernel
theorem dX4_sortByTick_37 : decode cX4_sortByTick 37 = .ok (.aload_n 0, 1) := by decide +kernel
theorem dX4_sortByTick_38 : decode cX4_sortByTick 38 = .ok (.getfield 43, 3) := by decide +kernel
theorem dX4_sortByTick_41 : decode cX4_sortByTick 41 = .ok (.if_icmp .ge 51, 3) := by decide +kernel
theorem dX4_sortByTick_44 : decode cX4_sortByTick 44 = .ok (.aload_n 1, 1) := by decide +kernel
theorem dX4_sortByTick_45 : decode cX4_sortByTick 45 = .ok (.iload_n 3, 1) := by decide +kernel
theorem dX4_sortByTick_46 : decode cX4_sortByTick 46 = .ok (.invokevirtual 104, 3) := by decide +kernel
theorem dX4_sortByTick_49 : decode cX4_sortByTick 49 = .ok (.istore 4, 2) := by decide +kernel
theorem dX4_sortByTick_51 : decode cX4_sortByTick 51 = .ok (.aload_n 0, 1) := by decide +kernel
theorem dX4_sortByTick_52 : decode cX4_sortByTick 52 = .ok (.getfield 22, 3) := by decide +kernel
theorem dX4_sortByTick_55 : decode cX4_sortByTick 55 = .ok (.aload_n 0, 1) := by decide +kernel
theorem dX4_sortByTick_56 : decode cX4_sortByTick 56 = .ok (.getfield 28, 3) := by decide +kernel
theorem dX4_sortByTick_59 : decode cX4_sortByTick 59 = .ok (.aload_n 0, 1) := by decide +kernel
theorem dX4_sortByTick_60 : decode cX4_sortByTick 60 = .ok (.getfield 9, 3) := by decide +kernel
theorem dX4_sortByTick_63 : decode cX4_sortByTick 63 = .ok (.iload 4, 2) := by decide +kernel
theorem dX4_sortByTick_65 : decode cX4_sortByTick 65 = .ok (.iaload, 1) := by decide +kernel
theorem dX4_sortByTick_66 : decode cX4_sortByTick 66 = .ok (.iaload, 1) := by decide +kernel
theorem dX4_sortByTick_67 : decode cX4_sortByTick 67 = .ok (.iload 4, 2) := by decide +kernel
theorem dX4_sortByTick_69 : decode cX4_sortByTick 69 = .ok (.iastore, 1) := by decide +kernel
theorem dX4_sortByTick_70 : decode cX4_sortByTick 70 = .ok (.aload_n 0, 1) := by decide +kernel
theorem dX4_sortByTick_71 : decode cX4_sortByTick 71 = .ok (.getfield 28, 3) := by decide +kernel
theorem dX4_sortByTick_74 : decode cX4_sortByTick 74 = .ok (.aload_n 0, 1) := by decide +kernel
theorem dX4_sortByTick_75 : decode cX4_sortByTick 75 = .ok (.getfield 9, 3) := by decide +kernel
theorem dX4_sortByTick_78 : decode cX4_sortByTick 78 = .ok (.iload 4, 2) := by decide +kernel
theorem dX4_sortByTick_80 : decode cX4_sortByTick 80 = .ok (.iaload, 1) := by decide +kernel
theorem dX4_sortByTick_81 : decode cX4_sortByTick 81 = .ok (.dup2, 1) := by decide +kernel
theorem dX4_sortByTick_82 : decode cX4_sortByTick 82 = .ok (.iaload, 1) := by decide +kernel
theorem dX4_sortByTick_83 : decode cX4_sortByTick 83 = .ok (.iconst 1, 1) := by decide +kernel
theorem dX4_sortByTick_84 : decode cX4_sortByTick 84 = .ok (.iadd, 1) := by decide +kernel
theorem dX4_sortByTick_85 : decode cX4_sortByTick 85 = .ok (.iastore, 1) := by decide +kernel
theorem dX4_sortByTick_86 : decode cX4_sortByTick 86 = .ok (.iinc 3 1, 3) := by decide +kernel
theorem dX4_sortByTick_89 : decode cX4_sortByTick 89 = .ok (.goto (-53), 3) := by decide +kernel
theorem dX4_sortByTick_92 : decode cX4_sortByTick 92 = .ok (.return_, 1) := by decide +kernel
theorem dX4_setCells_0 : decode cX4_setCells 0 = .ok (.iconst 0, 1) := by decide +kernel
theorem dX4_setCells_1 : decode cX4_setCells 1 = .ok (.aload_n 2, 1) := by decide +kernel
theorem dX4_setCells_2 : decode cX4_setCells 2 = .ok (.getfield 63, 3) := by decide +kernel
theorem dX4_setCells_5 : decode cX4_setCells 5 = .ok (.aload_n 1, 1) := by decide +kernel
theorem dX4_setCells_6 : decode cX4_setCells 6 = .ok (.getfield 89, 3) := by decide +kernel
theorem dX4_setCells_9 : decode cX4_setCells 9 = .ok (.iconst 1, 1) := by decide +kernel
theorem dX4_setCells_10 : decode cX4_setCells 10 = .ok (.isub, 1) := by decide +kernel
theorem dX4_setCells_11 : decode cX4_setCells 11 = .ok (.imul, 1) := by decide +kernel
theorem dX4_setCells_12 : decode cX4_setCells 12 = .ok (.invokestatic 92, 3) := by decide +kernel
theorem dX4_setCells_15 : decode cX4_setCells 15 = .ok (.iconst 0, 1) := by decide +kernel
theorem dX4_setCells_16 : decode cX4_setCells 16 = .ok (.aload_n 2, 1) := by decide +kernel
theorem dX4_setCells_17 : decode cX4_setCells 17 = .ok (.getfield 60, 3) := by decide +kernel
theorem dX4_setCells_20 : decode cX4_setCells 20 = .ok (.ineg, 1) := by decide +kernel
theorem dX4_setCells_21 : decode cX4_setCells 21 = .ok (.aload_n 1, 1) := by decide +kernel
theorem dX4_setCells_22 : decode cX4_setCells 22 = .ok (.getfield 95, 3) := by decide +kernel
theorem dX4_setCells_25 : decode cX4_setCells 25 = .ok (.iconst 1, 1) := by decide +kernel
theorem dX4_setCells_26 : decode cX4_setCells 26 = .ok (.isub, 1) := by decide +kernel
theorem dX4_setCells_27 : decode cX4_setCells 27 = .ok (.imul, 1) := by decide +kernel
theorem dX4_setCells_28 : decode cX4_setCells 28 = .ok (.invokestatic 92, 3) := by decide +kernel
theorem dX4_setCells_31 : decode cX4_setCells 31 = .ok (.iadd, 1) := by decide +kernel
theorem dX4_setCells_32 : decode cX4_setCells 32 = .ok (.istore_n 3, 1) := by decide +kernel
theorem dX4_setCells_33 : decode cX4_setCells 33 = .ok (.aload_n 0, 1) := by decide +kernel
theorem dX4_setCells_34 : decode cX4_setCells 34 = .ok (.getfield 31, 3) := by decide +kernel
theorem dX4_setCells_37 : decode cX4_setCells 37 = .ok (.iconst (-1), 1) := by decide +kernel
theorem dX4_setCells_38 : decode cX4_setCells 38 = .ok (.invokestatic 98, 3) := by decide +kernel
theorem dX4_setCells_41 : decode cX4_setCells 41 = .ok (.iconst 0, 1) := by decide +kernel
theorem dX4_setCells_42 : decode cX4_setCells 42 = .ok (.istore 4, 2) := by decide +kernel
theorem dX4_setCells_44 : decode cX4_setCells 44 = .ok (.iload 4, 2) := by decide +kernel
theorem dX4_setCells_46 : decode cX4_setCells 46 = .ok (.aload_n 0, 1) := by decide +kernel
theorem dX4_setCells_47 : decode cX4_setCells 47 = .ok (.getfield 43, 3) := by decide +kernel
theorem dX4_setCells_50 : decode cX4_setCells 50 = .ok (.if_icmp .ge 60, 3) := by decide +kernel
theorem dX4_setCells_53 : decode cX4_setCells 53 = .ok (.aload_n 1, 1) := by decide +kernel
theorem dX4_setCells_54 : decode cX4_setCells 54 = .ok (.iload 4, 2) := by decide +kernel
theorem dX4_setCells_56 : decode cX4_setCells 56 = .ok (.invokevirtual 104, 3) := by decide +kernel
theorem dX4_setCells_59 : decode cX4_setCells 59 = .ok (.istore 5, 2) := by decide +kernel
theorem dX4_setCells_61 : decode cX4_setCells 61 = .ok (.aload_n 0, 1) := by decide +kernel
theorem dX4_setCells_62 : decode cX4_setCells 62 = .ok (.getfield 15, 3) := by decide +kernel
theorem dX4_setCells_65 : decode cX4_setCells 65 = .ok (.iload 5, 2) := by decide +kernel
theorem dX4_setCells_67 : decode cX4_setCells 67 = .ok (.aload_n 2, 1) := by decide +kernel
theorem dX4_setCells_68 : decode cX4_setCells 68 = .ok (.getfield 63, 3) := by decide +kernel
theorem dX4_setCells_71 : decode cX4_setCells 71 = .ok (.iload 5, 2) := by decide +kernel
theorem dX4_setCells_73 : decode cX4_setCells 73 = .ok (.bipush 10, 2) := by decide +kernel
theorem dX4_setCells_75 : decode cX4_setCells 75 = .ok (.idiv, 1) := by decide +kernel
theorem dX4_setCells_76 : decode cX4_setCells 76 = .ok (.imul, 1) := by decide +kernel
theorem dX4_setCells_77 : decode cX4_setCells 77 = .ok (.aload_n 2, 1) := by decide +kernel
theorem dX4_setCells_78 : decode cX4_setCells 78 = .ok (.getfield 60, 3) := by decide +kernel
theorem dX4_setCells_81 : decode cX4_setCells 81 = .ok (.iload 5, 2) := by decide +kernel
theorem dX4_setCells_83 : decode cX4_setCells 83 = .ok (.bipush 10, 2) := by decide +kernel
theorem dX4_setCells_85 : decode cX4_setCells 85 = .ok (.irem, 1) := by decide +kernel
theorem dX4_setCells_86 : decode cX4_setCells 86 = .ok (.imul, 1) := by decide +kernel
theorem dX4_setCells_87 : decode cX4_setCells 87 = .ok (.isub, 1) := by decide +kernel
theorem dX4_setCells_88 : decode cX4_setCells 88 = .ok (.iload_n 3, 1) := by decide +kernel
theorem dX4_setCells_89 : decode cX4_setCells 89 = .ok (.isub, 1) := by decide +kernel
theorem dX4_setCells_90 : decode cX4_setCells 90 = .ok (.iastore, 1) := by decide +kernel
theorem dX4_setCells_91 : decode cX4_setCells 91 = .ok (.aload_n 0, 1) := by decide +kernel
theorem dX4_setCells_92 : decode cX4_setCells 92 = .ok (.getfield 31, 3) := by decide +kernel
theorem dX4_setCells_95 : decode cX4_setCells 95 = .ok (.aload_n 0, 1) := by decide +kernel
theorem dX4_setCells_96 : decode cX4_setCells 96 = .ok (.getfield 15, 3) := by decide +kernel
theorem dX4_setCells_99 : decode cX4_setCells 99 = .ok (.iload 5, 2) := by decide +kernel
theorem dX4_setCells_101 : decode cX4_setCells 101 = .ok (.iaload, 1) := by decide +kernel
theorem dX4_setCells_102 : decode cX4_setCells 102 = .ok (.iconst 0, 1) := by decide +kernel
theorem dX4_setCells_103 : decode cX4_setCells 103 = .ok (.iastore, 1) := by decide +kernel
theorem dX4_setCells_104 : decode cX4_setCells 104 = .ok (.iinc 4 1, 3) := by decide +kernel
theorem dX4_setCells_107 : decode cX4_setCells 107 = .ok (.goto (-63), 3) := by decide +kernel
theorem dX4_setCells_110 : decode cX4_setCells 110 = .ok (.aload_n 0, 1) := by decide +kernel
theorem dX4_setCells_111 : decode cX4_setCells 111 = .ok (.iconst 0, 1) := by decide +kernel
theorem dX4_setCells_112 : decode cX4_setCells 112 = .ok (.putfield 107, 3) := by decide +kernel
theorem dX4_setCells_115 : decode cX4_setCells 115 = .ok (.iconst 0, 1) := by decide +kernel
theorem dX4_setCells_116 : decode cX4_setCells 116 = .ok (.istore 4, 2) := by decide +kernel
theorem dX4_setCells_118 : decode cX4_setCells 118 = .ok (.iload 4, 2) := by decide +kernel
theorem dX4_setCells_120 : decode cX4_setCells 120 = .ok (.bipush 55, 2) := by decide +kernel
theorem dX4_setCells_122 : decode cX4_setCells 122 = .ok (.if_icmp .ge 41, 3) := by decide +kernel
theorem dX4_setCells_125 : decode cX4_setCells 125 = .ok (.aload_n 0, 1) := by decide +kernel
theorem dX4_setCells_126 : decode cX4_setCells 126 = .ok (.getfield 31, 3) := by decide +kernel
theorem dX4_setCells_129 : decode cX4_setCells 129 = .ok (.iload 4, 2) := by decide +kernel
theorem dX4_setCells_131 : decode cX4_setCells 131 = .ok (.iaload, 1) := by decide +kernel
theorem dX4_setCells_132 : decode cX4_setCells 132 = .ok (.iconst (-1), 1) := by decide +kernel
theorem dX4_setCells_133 : decode cX4_setCells 133 = .ok (.if_icmp .eq 24, 3) := by decide +kernel
theorem dX4_setCells_136 : decode cX4_setCells 136 = .ok (.aload_n 0, 1) := by decide +kernel
theorem dX4_setCells_137 : decode cX4_setCells 137 = .ok (.getfield 31, 3) := by decide +kernel
theorem dX4_setCells_140 : decode cX4_setCells 140 = .ok (.iload 4, 2) := by decide +kernel
theorem dX4_setCells_142 : decode cX4_setCells 142 = .ok (.aload_n 0, 1) := by decide +kernel
theorem dX4_setCells_143 : decode cX4_setCells 143 = .ok (.getfield 107, 3) := by decide +kernel
theorem dX4_setCells_146 : decode cX4_setCells 146 = .ok (.iastore, 1) := by decide +kernel
theorem dX4_setCells_147 : decode cX4_setCells 147 = .ok (.aload_n 0, 1) := by decide +kernel
theorem dX4_setCells_148 : decode cX4_setCells 148 = .ok (.dup, 1) := by decide +kernel
theorem dX4_setCells_149 : decode cX4_setCells 149 = .ok (.getfield 107, 3) := by decide +kernel
theorem dX4_setCells_152 : decode cX4_setCells 152 = .ok (.iconst 1, 1) := by decide +kernel
theorem dX4_setCells_153 : decode cX4_setCells 153 = .ok (.iadd, 1) := by decide +kernel
theorem dX4_setCells_154 : decode cX4_setCells 154 = .ok (.putfield 107, 3) := by decide +kernel
theorem dX4_setCells_157 : decode cX4_setCells 157 = .ok (.iinc 4 1, 3) := by decide +kernel
theorem dX4_setCells_160 : decode cX4_setCells 160 = .ok (.goto (-42), 3) := by decide +kernel
theorem dX4_setCells_163 : decode cX4_setCells 163 = .ok (.iconst 0, 1) := by decide +kernel
theorem dX4_setCells_164 : decode cX4_setCells 164 = .ok (.istore 4, 2) := by decide +kernel
theorem dX4_setCells_166 : decode cX4_setCells 166 = .ok (.iload 4, 2) := by decide +kernel
theorem dX4_setCells_168 : decode cX4_setCells 168 = .ok (.aload_n 0, 1) := by decide +kernel
theorem dX4_setCells_169 : decode cX4_setCells 169 = .ok (.getfield 43, 3) := by decide +kernel
theorem dX4_setCells_172 : decode cX4_setCells 172 = .ok (.if_icmp .ge 36, 3) := by decide +kernel
theorem dX4_setCells_175 : decode cX4_setCells 175 = .ok (.aload_n 1, 1) := by decide +kernel
theorem dX4_setCells_176 : decode cX4_setCells 176 = .ok (.iload 4, 2) := by decide +kernel
theorem dX4_setCells_178 : decode cX4_setCells 178 = .ok (.invokevirtual 104, 3) := by decide +kernel
theorem dX4_setCells_181 : decode cX4_setCells 181 = .ok (.istore 5, 2) := by decide +kernel
theorem dX4_setCells_183 : decode cX4_setCells 183 = .ok (.aload_n 0, 1) := by decide +kernel
theorem dX4_setCells_184 : decode cX4_setCells 184 = .ok (.getfield 15, 3) := by decide +kernel
theorem dX4_setCells_187 : decode cX4_setCells 187 = .ok (.iload 5, 2) := by decide +kernel
theorem dX4_setCells_189 : decode cX4_setCells 189 = .ok (.aload_n 0, 1) := by decide +kernel
theorem dX4_setCells_190 : decode cX4_setCells 190 = .ok (.getfield 31, 3) := by decide +kernel
theorem dX4_setCells_193 : decode cX4_setCells 193 = .ok (.aload_n 0, 1) := by decide +kernel
theorem dX4_setCells_194 : decode cX4_setCells 194 = .ok (.getfield 15, 3) := by decide +kernel
theorem dX4_setCells_197 : decode cX4_setCells 197 = .ok (.iload 5, 2) := by decide +kernel
theorem dX4_setCells_199 : decode cX4_setCells 199 = .ok (.iaload, 1) := by decide +kernel
theorem dX4_setCells_200 : decode cX4_setCells 200 = .ok (.iaload, 1) := by decide +kernel
theorem dX4_setCells_201 : decode cX4_setCells 201 = .ok (.iastore, 1) := by decide +kernel
theorem dX4_setCells_202 : decode cX4_setCells 202 = .ok (.iinc 4 1, 3) := by decide +kernel
theorem dX4_setCells_205 : decode cX4_setCells 205 = .ok (.goto (-39), 3) := by decide +kernel
theorem dX4_setCells_208 : decode cX4_setCells 208 = .ok (.return_, 1) := by decide +kernel
theorem dX4_setClashes_0 : decode cX4_setClashes 0 = .ok (.aload_n 2, 1) := by decide +kernel
theorem dX4_setClashes_1 : decode cX4_setClashes 1 = .ok (.getfield 60, 3) := by decide +kernel
theorem dX4_setClashes_4 : decode cX4_setClashes 4 = .ok (.ifCond .gt 17, 3) := by decide +kernel
theorem dX4_setClashes_7 : decode cX4_setClashes 7 = .ok (.aload_n 2, 1) := by decide +kernel
theorem dX4_setClashes_8 : decode cX4_setClashes 8 = .ok (.getfield 60, 3) := by decide +kernel
theorem dX4_setClashes_11 : decode cX4_setClashes 11 = .ok (.ifCond .ne 14, 3) := by decide +kernel
theorem dX4_setClashes_14 : decode cX4_setClashes 14 = .ok (.aload_n 2, 1) := by decide +kernel
theorem dX4_setClashes_15 : decode cX4_setClashes 15 = .ok (.getfield 63, 3) := by decide +kernel
theorem dX4_setClashes_18 : decode cX4_setClashes 18 = .ok (.ifCond .le 7, 3) := by decide +kernel
theorem dX4_setClashes_21 : decode cX4_setClashes 21 = .ok (.iconst 1, 1) := by decide +kernel
theorem dX4_setClashes_22 : decode cX4_setClashes 22 = .ok (.goto 4, 3) := by decide +kernel
theorem dX4_setClashes_25 : decode cX4_setClashes 25 = .ok (.iconst 0, 1) := by decide +kernel
theorem dX4_setClashes_26 : decode cX4_setClashes 26 = .ok (.istore_n 3, 1) := by decide +kernel
theorem dX4_setClashes_27 : decode cX4_setClashes 27 = .ok (.iload_n 3, 1) := by decide +kernel
theorem dX4_setClashes_28 : decode cX4_setClashes 28 = .ok (.ifCond .eq 11, 3) := by decide +kernel
theorem dX4_setClashes_31 : decode cX4_setClashes 31 = .ok (.aload_n 2, 1) := by decide +kernel
theorem dX4_setClashes_32 : decode cX4_setClashes 32 = .ok (.getfield 60, 3) := by decide +kernel
theorem dX4_setClashes_35 : decode cX4_setClashes 35 = .ok (.ineg, 1) := by decide +kernel
theorem dX4_setClashes_36 : decode cX4_setClashes 36 = .ok (.goto 7, 3) := by decide +kernel
theorem dX4_setClashes_39 : decode cX4_setClashes 39 = .ok (.aload_n 2, 1) := by decide +kernel
theorem dX4_setClashes_40 : decode cX4_setClashes 40 = .ok (.getfield 60, 3) := by decide +kernel
theorem dX4_setClashes_43 : decode cX4_setClashes 43 = .ok (.istore 4, 2) := by decide +kernel
theorem dX4_setClashes_45 : decode cX4_setClashes 45 = .ok (.iload_n 3, 1) := by decide +kernel
theorem dX4_setClashes_46 : decode cX4_setClashes 46 = .ok (.ifCond .eq 11, 3) := by decide +kernel
theorem dX4_setClashes_49 : decode cX4_setClashes 49 = .ok (.aload_n 2, 1) := by decide +kernel
theorem dX4_setClashes_50 : decode cX4_setClashes 50 = .ok (.getfield 63, 3) := by decide +kernel
theorem dX4_setClashes_53 : decode cX4_setClashes 53 = .ok (.ineg, 1) := by decide +kernel
theorem dX4_setClashes_54 : decode cX4_setClashes 54 = .ok (.goto 7, 3) := by decide +kernel
theorem dX4_setClashes_57 : decode cX4_setClashes 57 = .ok (.aload_n 2, 1) := by decide +kernel
theorem dX4_setClashes_58 : decode cX4_setClashes 58 = .ok (.getfield 63, 3) := by decide +kernel
theorem dX4_setClashes_61 : decode cX4_setClashes 61 = .ok (.istore 5, 2) := by decide +kernel
theorem dX4_setClashes_63 : decode cX4_setClashes 63 = .ok (.iconst 0, 1) := by decide +kernel
theorem dX4_setClashes_64 : decode cX4_setClashes 64 = .ok (.istore 6, 2) := by decide +kernel
theorem dX4_setClashes_66 : decode cX4_setClashes 66 = .ok (.iload 6, 2) := by decide +kernel
theorem dX4_setClashes_68 : decode cX4_setClashes 68 = .ok (.aload_n 0, 1) := by decide +kernel
theorem dX4_setClashes_69 : decode cX4_setClashes 69 = .ok (.getfield 43, 3) := by decide +kernel
theorem dX4_setClashes_72 : decode cX4_setClashes 72 = .ok (.if_icmp .ge 50, 3) := by decide +kernel
theorem dX4_setClashes_75 : decode cX4_setClashes 75 = .ok (.aload_n 1, 1) := by decide +kernel
theorem dX4_setClashes_76 : decode cX4_setClashes 76 = .ok (.iload 6, 2) := by decide +kernel
theorem dX4_setClashes_78 : decode cX4_setClashes 78 = .ok (.invokevirtual 104, 3) := by decide +kernel
theorem dX4_setClashes_81 : decode cX4_setClashes 81 = .ok (.istore 7, 2) := by decide +kernel
theorem dX4_setClashes_83 : decode cX4_setClashes 83 = .ok (.aload_n 0, 1) := by decide +kernel
theorem dX4_setClashes_84 : decode cX4_setClashes 84 = .ok (.getfield 18, 3) := by decide +kernel
theorem dX4_setClashes_87 : decode cX4_setClashes 87 = .ok (.iload 7, 2) := by decide +kernel
theorem dX4_setClashes_89 : decode cX4_setClashes 89 = .ok (.aload_n 0, 1) := by decide +kernel
theorem dX4_setClashes_90 : decode cX4_setClashes 90 = .ok (.getfield 72, 3) := by decide +kernel
theorem dX4_setClashes_93 : decode cX4_setClashes 93 = .ok (.ifCond .ne 21, 3) := by decide +kernel
theorem dX4_setClashes_96 : decode cX4_setClashes 96 = .ok (.aload_n 1, 1) := by decide +kernel
theorem dX4_setClashes_97 : decode cX4_setClashes 97 = .ok (.iload 7, 2) := by decide +kernel
theorem dX4_setClashes_99 : decode cX4_setClashes 99 = .ok (.iload 4, 2) := by decide +kernel
theorem dX4_setClashes_101 : decode cX4_setClashes 101 = .ok (.iload 5, 2) := by decide +kernel
theorem dX4_setClashes_103 : decode cX4_setClashes 103 = .ok (.invokevirtual 110, 3) := by decide +kernel
theorem dX4_setClashes_106 : decode cX4_setClashes 106 = .ok (.iconst (-1), 1) := by decide +kernel
theorem dX4_setClashes_107 : decode cX4_setClashes 107 = .ok (.if_icmp .eq 7, 3) := by decide +kernel
theorem dX4_setClashes_110 : decode cX4_setClashes 110 = .ok (.iconst 1, 1) := by decide +kernel
theorem dX4_setClashes_111 : decode cX4_setClashes 111 = .ok (.goto 4, 3) := by decide +kernel
theorem dX4_setClashes_114 : decode cX4_setClashes 114 = .ok (.iconst 0, 1) := by decide +kernel
theorem dX4_setClashes_115 : decode cX4_setClashes 115 = .ok (.bastore, 1) := by decide +kernel
theorem dX4_setClashes_116 : decode cX4_setClashes 116 = .ok (.iinc 6 1, 3) := by decide +kernel
theorem dX4_setClashes_119 : decode cX4_setClashes 119 = .ok (.goto (-53), 3) := by decide +kernel
theorem dX4_setClashes_122 : decode cX4_setClashes 122 = .ok (.return_, 1) := by decide +kernel
theorem dX4_pointsOf_0 : decode cX4_pointsOf 0 = .ok (.iconst 0, 1) := by decide +kernel
theorem dX4_pointsOf_1 : decode cX4_pointsOf 1 = .ok (.istore_n 2, 1) := by decide +kernel
theorem dX4_pointsOf_2 : decode cX4_pointsOf 2 = .ok (.iconst 0, 1) := by decide +kernel
theorem dX4_pointsOf_3 : decode cX4_pointsOf 3 = .ok (.istore_n 3, 1) := by decide +kernel
theorem dX4_pointsOf_4 : decode cX4_pointsOf 4 = .ok (.iload_n 3, 1) := by decide +kernel
theorem dX4_pointsOf_5 : decode cX4_pointsOf 5 = .ok (.aload_n 0, 1) := by decide +kernel
theorem dX4_pointsOf_6 : decode cX4_pointsOf 6 = .ok (.getfield 43, 3) := by decide +kernel
theorem dX4_pointsOf_9 : decode cX4_pointsOf 9 = .ok (.if_icmp .ge 27, 3) := by decide +kernel
theorem dX4_pointsOf_12 : decode cX4_pointsOf 12 = .ok (.aload_n 0, 1) := by decide +kernel
theorem dX4_pointsOf_13 : decode cX4_pointsOf 13 = .ok (.getfield 15, 3) := by decide +kernel
theorem dX4_pointsOf_16 : decode cX4_pointsOf 16 = .ok (.aload_n 0, 1) := by decide +kernel
theorem dX4_pointsOf_17 : decode cX4_pointsOf 17 = .ok (.getfield 22, 3) := by decide +kernel
theorem dX4_pointsOf_20 : decode cX4_pointsOf 20 = .ok (.iload_n 3, 1) := by decide +kernel
theorem dX4_pointsOf_21 : decode cX4_pointsOf 21 = .ok (.iaload, 1) := by decide +kernel
theorem dX4_pointsOf_22 : decode cX4_pointsOf 22 = .ok (.iaload, 1) := by decide +kernel
theorem dX4_pointsOf_23 : decode cX4_pointsOf 23 = .ok (.iload_n 1, 1) := by decide +kernel
theorem dX4_pointsOf_24 : decode cX4_pointsOf 24 = .ok (.if_icmp .ne 6, 3) := by decide +kernel
theorem dX4_pointsOf_27 : decode cX4_pointsOf 27 = .ok (.iinc 2 1, 3) := by decide +kernel
theorem dX4_pointsOf_30 : decode cX4_pointsOf 30 = .ok (.iinc 3 1, 3) := by decide +kernel
theorem dX4_pointsOf_33 : decode cX4_pointsOf 33 = .ok (.goto (-29), 3) := by decide +kernel
theorem dX4_pointsOf_36 : decode cX4_pointsOf 36 = .ok (.iload_n 2, 1) := by decide +kernel
theorem dX4_pointsOf_37 : decode cX4_pointsOf 37 = .ok (.ireturn, 1) := by decide +kernel
theorem dX4_firstTickOf_0 : decode cX4_firstTickOf 0 = .ok (.iconst 0, 1) := by decide +kernel
theorem dX4_firstTickOf_1 : decode cX4_firstTickOf 1 = .ok (.istore_n 2, 1) := by decide +kernel
theorem dX4_firstTickOf_2 : decode cX4_firstTickOf 2 = .ok (.iload_n 2, 1) := by decide +kernel
theorem dX4_firstTickOf_3 : decode cX4_firstTickOf 3 = .ok (.aload_n 0, 1) := by decide +kernel
theorem dX4_firstTickOf_4 : decode cX4_firstTickOf 4 = .ok (.getfield 43, 3) := by decide +kernel
theorem dX4_firstTickOf_7 : decode cX4_firstTickOf 7 = .ok (.if_icmp .ge 36, 3) := by decide +kernel
theorem dX4_firstTickOf_10 : decode cX4_firstTickOf 10 = .ok (.aload_n 0, 1) := by decide +kernel
theorem dX4_firstTickOf_11 : decode cX4_firstTickOf 11 = .ok (.getfield 15, 3) := by decide +kernel
theorem dX4_firstTickOf_14 : decode cX4_firstTickOf 14 = .ok (.aload_n 0, 1) := by decide +kernel
theorem dX4_firstTickOf_15 : decode cX4_firstTickOf 15 = .ok (.getfield 22, 3) := by decide +kernel
theorem dX4_firstTickOf_18 : decode cX4_firstTickOf 18 = .ok (.iload_n 2, 1) := by decide +kernel
theorem dX4_firstTickOf_19 : decode cX4_firstTickOf 19 = .ok (.iaload, 1) := by decide +kernel
theorem dX4_firstTickOf_20 : decode cX4_firstTickOf 20 = .ok (.iaload, 1) := by decide +kernel
theorem dX4_firstTickOf_21 : decode cX4_firstTickOf 21 = .ok (.iload_n 1, 1) := by decide +kernel
theorem dX4_firstTickOf_22 : decode cX4_firstTickOf 22 = .ok (.if_icmp .ne 15, 3) := by decide +kernel
theorem dX4_firstTickOf_25 : decode cX4_firstTickOf 25 = .ok (.aload_n 0, 1) := by decide +kernel
theorem dX4_firstTickOf_26 : decode cX4_firstTickOf 26 = .ok (.getfield 9, 3) := by decide +kernel
theorem dX4_firstTickOf_29 : decode cX4_firstTickOf 29 = .ok (.aload_n 0, 1) := by decide +kernel
theorem dX4_firstTickOf_30 : decode cX4_firstTickOf 30 = .ok (.getfield 22, 3) := by decide +kernel
theorem dX4_firstTickOf_33 : decode cX4_firstTickOf 33 = .ok (.iload_n 2, 1) := by decide +kernel
theorem dX4_firstTickOf_34 : decode cX4_firstTickOf 34 = .ok (.iaload, 1) := by decide +kernel
theorem dX4_firstTickOf_35 : decode cX4_firstTickOf 35 = .ok (.iaload, 1) := by decide +kernel
theorem dX4_firstTickOf_36 : decode cX4_firstTickOf 36 = .ok (.ireturn, 1) := by decide +kernel
theorem dX4_firstTickOf_37 : decode cX4_firstTickOf 37 = .ok (.iinc 2 1, 3) := by decide +kernel
theorem dX4_firstTickOf_40 : decode cX4_firstTickOf 40 = .ok (.goto (-38), 3) := by decide +kernel
theorem dX4_firstTickOf_43 : decode cX4_firstTickOf 43 = .ok (.iconst (-1), 1) := by decide +kernel
theorem dX4_firstTickOf_44 : decode cX4_firstTickOf 44 = .ok (.ireturn, 1) := by decide +kernel
theorem dX4_lastTickOf_0 : decode cX4_lastTickOf 0 = .ok (.aload_n 0, 1) := by decide +kernel
theorem dX4_lastTickOf_1 : decode cX4_lastTickOf 1 = .ok (.getfield 43, 3) := by decide +kernel
theorem dX4_lastTickOf_4 : decode cX4_lastTickOf 4 = .ok (.iconst 1, 1) := by decide +kernel
theorem dX4_lastTickOf_5 : decode cX4_lastTickOf 5 = .ok (.isub, 1) := by decide +kernel
theorem dX4_lastTickOf_6 : decode cX4_lastTickOf 6 = .ok (.istore_n 2, 1) := by decide +kernel
theorem dX4_lastTickOf_7 : decode cX4_lastTickOf 7 = .ok (.iload_n 2, 1) := by decide +kernel
theorem dX4_lastTickOf_8 : decode cX4_lastTickOf 8 = .ok (.ifCond .lt 36, 3) := by decide +kernel
theorem dX4_lastTickOf_11 : decode cX4_lastTickOf 11 = .ok (.aload_n 0, 1) := by decide +kernel
theorem dX4_lastTickOf_12 : decode cX4_lastTickOf 12 = .ok (.getfield 15, 3) := by decide +kernel
theorem dX4_lastTickOf_15 : decode cX4_lastTickOf 15 = .ok (.aload_n 0, 1) := by decide +kernel
theorem dX4_lastTickOf_16 : decode cX4_lastTickOf 16 = .ok (.getfield 22, 3) := by decide +kernel
theorem dX4_lastTickOf_19 : decode cX4_lastTickOf 19 = .ok (.iload_n 2, 1) := by decide +kernel
theorem dX4_lastTickOf_20 : decode cX4_lastTickOf 20 = .ok (.iaload, 1) := by decide +kernel
theorem dX4_lastTickOf_21 : decode cX4_lastTickOf 21 = .ok (.iaload, 1) := by decide +kernel
theorem dX4_lastTickOf_22 : decode cX4_lastTickOf 22 = .ok (.iload_n 1, 1) := by decide +kernel
theorem dX4_lastTickOf_23 : decode cX4_lastTickOf 23 = .ok (.if_icmp .ne 15, 3) := by decide +kernel
theorem dX4_lastTickOf_26 : decode cX4_lastTickOf 26 = .ok (.aload_n 0, 1) := by decide +kernel
theorem dX4_lastTickOf_27 : decode cX4_lastTickOf 27 = .ok (.getfield 9, 3) := by decide +kernel
theorem dX4_lastTickOf_30 : decode cX4_lastTickOf 30 = .ok (.aload_n 0, 1) := by decide +kernel
theorem dX4_lastTickOf_31 : decode cX4_lastTickOf 31 = .ok (.getfield 22, 3) := by decide +kernel
theorem dX4_lastTickOf_34 : decode cX4_lastTickOf 34 = .ok (.iload_n 2, 1) := by decide +kernel
theorem dX4_lastTickOf_35 : decode cX4_lastTickOf 35 = .ok (.iaload, 1) := by decide +kernel
theorem dX4_lastTickOf_36 : decode cX4_lastTickOf 36 = .ok (.iaload, 1) := by decide +kernel
theorem dX4_lastTickOf_37 : decode cX4_lastTickOf 37 = .ok (.ireturn, 1) := by decide +kernel
theorem dX4_lastTickOf_38 : decode cX4_lastTickOf 38 = .ok (.iinc 2 (-1), 3) := by decide +kernel
theorem dX4_lastTickOf_41 : decode cX4_lastTickOf 41 = .ok (.goto (-34), 3) := by decide +kernel
theorem dX4_lastTickOf_44 : decode cX4_lastTickOf 44 = .ok (.iconst (-1), 1) := by decide +kernel
theorem dX4_lastTickOf_45 : decode cX4_lastTickOf 45 = .ok (.ireturn, 1) := by decide +kernel
theorem dX4_longestPause_0 : decode cX4_longestPause 0 = .ok (.aload_n 0, 1) := by decide +kernel
theorem dX4_longestPause_1 : decode cX4_longestPause 1 = .ok (.iload_n 1, 1) := by decide +kernel
theorem dX4_longestPause_2 : decode cX4_longestPause 2 = .ok (.invokevirtual 114, 3) := by decide +kernel
theorem dX4_longestPause_5 : decode cX4_longestPause 5 = .ok (.iconst 1, 1) := by decide +kernel
theorem dX4_longestPause_6 : decode cX4_longestPause 6 = .ok (.if_icmp .le 19, 3) := by decide +kernel
theorem dX4_longestPause_9 : decode cX4_longestPause 9 = .ok (.aload_n 0, 1) := by decide +kernel
theorem dX4_longestPause_10 : decode cX4_longestPause 10 = .ok (.getfield 72, 3) := by decide +kernel
theorem dX4_longestPause_13 : decode cX4_longestPause 13 = .ok (.ifCond .le 12, 3) := by decide +kernel
theorem dX4_longestPause_16 : decode cX4_longestPause 16 = .ok (.aload_n 0, 1) := by decide +kernel
theorem dX4_longestPause_17 : decode cX4_longestPause 17 = .ok (.getfield 72, 3) := by decide +kernel
theorem dX4_longestPause_20 : decode cX4_longestPause 20 = .ok (.iconst 1, 1) := by decide +kernel
theorem dX4_longestPause_21 : decode cX4_longestPause 21 = .ok (.isub, 1) := by decide +kernel
theorem dX4_longestPause_22 : decode cX4_longestPause 22 = .ok (.goto 4, 3) := by decide +kernel
theorem dX4_longestPause_25 : decode cX4_longestPause 25 = .ok (.iconst 0, 1) := by decide +kernel
theorem dX4_longestPause_26 : decode cX4_longestPause 26 = .ok (.ireturn, 1) := by decide +kernel
theorem dX4_fullestTick_0 : decode cX4_fullestTick 0 = .ok (.iconst 0, 1) := by decide +kernel
theorem dX4_fullestTick_1 : decode cX4_fullestTick 1 = .ok (.istore_n 1, 1) := by decide +kernel
theorem dX4_fullestTick_2 : decode cX4_fullestTick 2 = .ok (.iconst 1, 1) := by decide +kernel
theorem dX4_fullestTick_3 : decode cX4_fullestTick 3 = .ok (.istore_n 2, 1) := by decide +kernel
theorem dX4_fullestTick_4 : decode cX4_fullestTick 4 = .ok (.iload_n 2, 1) := by decide +kernel
theorem dX4_fullestTick_5 : decode cX4_fullestTick 5 = .ok (.aload_n 0, 1) := by decide +kernel
theorem dX4_fullestTick_6 : decode cX4_fullestTick 6 = .ok (.getfield 58, 3) := by decide +kernel
theorem dX4_fullestTick_9 : decode cX4_fullestTick 9 = .ok (.if_icmp .ge 26, 3) := by decide +kernel
theorem dX4_fullestTick_12 : decode cX4_fullestTick 12 = .ok (.aload_n 0, 1) := by decide +kernel
theorem dX4_fullestTick_13 : decode cX4_fullestTick 13 = .ok (.getfield 25, 3) := by decide +kernel
theorem dX4_fullestTick_16 : decode cX4_fullestTick 16 = .ok (.iload_n 2, 1) := by decide +kernel
theorem dX4_fullestTick_17 : decode cX4_fullestTick 17 = .ok (.iaload, 1) := by decide +kernel
theorem dX4_fullestTick_18 : decode cX4_fullestTick 18 = .ok (.aload_n 0, 1) := by decide +kernel
theorem dX4_fullestTick_19 : decode cX4_fullestTick 19 = .ok (.getfield 25, 3) := by decide +kernel
theorem dX4_fullestTick_22 : decode cX4_fullestTick 22 = .ok (.iload_n 1, 1) := by decide +kernel
theorem dX4_fullestTick_23 : decode cX4_fullestTick 23 = .ok (.iaload, 1) := by decide +kernel
theorem dX4_fullestTick_24 : decode cX4_fullestTick 24 = .ok (.if_icmp .le 5, 3) := by decide +kernel
theorem dX4_fullestTick_27 : decode cX4_fullestTick 27 = .ok (.iload_n 2, 1) := by decide +kernel
theorem dX4_fullestTick_28 : decode cX4_fullestTick 28 = .ok (.istore_n 1, 1) := by decide +kernel
theorem dX4_fullestTick_29 : decode cX4_fullestTick 29 = .ok (.iinc 2 1, 3) := by decide +kernel
theorem dX4_fullestTick_32 : decode cX4_fullestTick 32 = .ok (.goto (-28), 3) := by decide +kernel
theorem dX4_fullestTick_35 : decode cX4_fullestTick 35 = .ok (.iload_n 1, 1) := by decide +kernel
theorem dX4_fullestTick_36 : decode cX4_fullestTick 36 = .ok (.ireturn, 1) := by decide +kernel
theorem dX4_emptyTicks_0 : decode cX4_emptyTicks 0 = .ok (.iconst 0, 1) := by decide +kernel
theorem dX4_emptyTicks_1 : decode cX4_emptyTicks 1 = .ok (.istore_n 1, 1) := by decide +kernel
theorem dX4_emptyTicks_2 : decode cX4_emptyTicks 2 = .ok (.iconst 0, 1) := by decide +kernel
theorem dX4_emptyTicks_3 : decode cX4_emptyTicks 3 = .ok (.istore_n 2, 1) := by decide +kernel
theorem dX4_emptyTicks_4 : decode cX4_emptyTicks 4 = .ok (.iload_n 2, 1) := by decide +kernel
theorem dX4_emptyTicks_5 : decode cX4_emptyTicks 5 = .ok (.aload_n 0, 1) := by decide +kernel
theorem dX4_emptyTicks_6 : decode cX4_emptyTicks 6 = .ok (.getfield 58, 3) := by decide +kernel
theorem dX4_emptyTicks_9 : decode cX4_emptyTicks 9 = .ok (.if_icmp .ge 21, 3) := by decide +kernel
theorem dX4_emptyTicks_12 : decode cX4_emptyTicks 12 = .ok (.aload_n 0, 1) := by decide +kernel
theorem dX4_emptyTicks_13 : decode cX4_emptyTicks 13 = .ok (.getfield 25, 3) := by decide +kernel
theorem dX4_emptyTicks_16 : decode cX4_emptyTicks 16 = .ok (.iload_n 2, 1) := by decide +kernel
theorem dX4_emptyTicks_17 : decode cX4_emptyTicks 17 = .ok (.iaload, 1) := by decide +kernel
theorem dX4_emptyTicks_18 : decode cX4_emptyTicks 18 = .ok (.ifCond .ne 6, 3) := by decide +kernel
theorem dX4_emptyTicks_21 : decode cX4_emptyTicks 21 = .ok (.iinc 1 1, 3) := by decide +kernel
theorem dX4_emptyTicks_24 : decode cX4_emptyTicks 24 = .ok (.iinc 2 1, 3) := by decide +kernel
theorem dX4_emptyTicks_27 : decode cX4_emptyTicks 27 = .ok (.goto (-23), 3) := by decide +kernel
theorem dX4_emptyTicks_30 : decode cX4_emptyTicks 30 = .ok (.iload_n 1, 1) := by decide +kernel
theorem dX4_emptyTicks_31 : decode cX4_emptyTicks 31 = .ok (.ireturn, 1) := by decide +kernel
theorem dX4_beatsBy_0 : decode cX4_beatsBy 0 = .ok (.aload_n 0, 1) := by decide +kernel
theorem dX4_beatsBy_1 : decode cX4_beatsBy 1 = .ok (.getfield 107, 3) := by decide +kernel
theorem dX4_beatsBy_4 : decode cX4_beatsBy 4 = .ok (.iload_n 1, 1) := by decide +kernel
theorem dX4_beatsBy_5 : decode cX4_beatsBy 5 = .ok (.iadd, 1) := by decide +kernel
theorem dX4_beatsBy_6 : decode cX4_beatsBy 6 = .ok (.iconst 1, 1) := by decide +kernel
theorem dX4_beatsBy_7 : decode cX4_beatsBy 7 = .ok (.isub, 1) := by decide +kernel
theorem dX4_beatsBy_8 : decode cX4_beatsBy 8 = .ok (.iload_n 1, 1) := by decide +kernel
theorem dX4_beatsBy_9 : decode cX4_beatsBy 9 = .ok (.idiv, 1) := by decide +kernel
theorem dX4_beatsBy_10 : decode cX4_beatsBy 10 = .ok (.istore_n 3, 1) := by decide +kernel
theorem dX4_beatsBy_11 : decode cX4_beatsBy 11 = .ok (.iconst 0, 1) := by decide +kernel
theorem dX4_beatsBy_12 : decode cX4_beatsBy 12 = .ok (.istore 4, 2) := by decide +kernel
theorem dX4_beatsBy_14 : decode cX4_beatsBy 14 = .ok (.iconst 0, 1) := by decide +kernel
theorem dX4_beatsBy_15 : decode cX4_beatsBy 15 = .ok (.istore 5, 2) := by decide +kernel
theorem dX4_beatsBy_17 : decode cX4_beatsBy 17 = .ok (.iconst 0, 1) := by decide +kernel
theorem dX4_beatsBy_18 : decode cX4_beatsBy 18 = .ok (.istore 6, 2) := by decide +kernel
theorem dX4_beatsBy_20 : decode cX4_beatsBy 20 = .ok (.iload 6, 2) := by decide +kernel
theorem dX4_beatsBy_22 : decode cX4_beatsBy 22 = .ok (.aload_n 0, 1) := by decide +kernel
theorem dX4_beatsBy_23 : decode cX4_beatsBy 23 = .ok (.getfield 43, 3) := by decide +kernel
theorem dX4_beatsBy_26 : decode cX4_beatsBy 26 = .ok (.if_icmp .ge 117, 3) := by decide +kernel
theorem dX4_beatsBy_29 : decode cX4_beatsBy 29 = .ok (.aload_n 0, 1) := by decide +kernel
theorem dX4_beatsBy_30 : decode cX4_beatsBy 30 = .ok (.getfield 22, 3) := by decide +kernel
theorem dX4_beatsBy_33 : decode cX4_beatsBy 33 = .ok (.iload 6, 2) := by decide +kernel
theorem dX4_beatsBy_35 : decode cX4_beatsBy 35 = .ok (.iaload, 1) := by decide +kernel
theorem dX4_beatsBy_36 : decode cX4_beatsBy 36 = .ok (.istore 7, 2) := by decide +kernel
theorem dX4_beatsBy_38 : decode cX4_beatsBy 38 = .ok (.iload 6, 2) := by decide +kernel
theorem dX4_beatsBy_40 : decode cX4_beatsBy 40 = .ok (.ifCond .eq 27, 3) := by decide +kernel
theorem dX4_beatsBy_43 : decode cX4_beatsBy 43 = .ok (.aload_n 0, 1) := by decide +kernel
theorem dX4_beatsBy_44 : decode cX4_beatsBy 44 = .ok (.getfield 9, 3) := by decide +kernel
theorem dX4_beatsBy_47 : decode cX4_beatsBy 47 = .ok (.iload 7, 2) := by decide +kernel
theorem dX4_beatsBy_49 : decode cX4_beatsBy 49 = .ok (.iaload, 1) := by decide +kernel
theorem dX4_beatsBy_50 : decode cX4_beatsBy 50 = .ok (.aload_n 0, 1) := by decide +kernel
theorem dX4_beatsBy_51 : decode cX4_beatsBy 51 = .ok (.getfield 9, 3) := by decide +kernel
theorem dX4_beatsBy_54 : decode cX4_beatsBy 54 = .ok (.aload_n 0, 1) := by decide +kernel
theorem dX4_beatsBy_55 : decode cX4_beatsBy 55 = .ok (.getfield 22, 3) := by decide +kernel
theorem dX4_beatsBy_58 : decode cX4_beatsBy 58 = .ok (.iload 6, 2) := by decide +kernel
theorem dX4_beatsBy_60 : decode cX4_beatsBy 60 = .ok (.iconst 1, 1) := by decide +kernel
theorem dX4_beatsBy_61 : decode cX4_beatsBy 61 = .ok (.isub, 1) := by decide +kernel
theorem dX4_beatsBy_62 : decode cX4_beatsBy 62 = .ok (.iaload, 1) := by decide +kernel
theorem dX4_beatsBy_63 : decode cX4_beatsBy 63 = .ok (.iaload, 1) := by decide +kernel
theorem dX4_beatsBy_64 : decode cX4_beatsBy 64 = .ok (.if_icmp .eq 21, 3) := by decide +kernel
theorem dX4_beatsBy_67 : decode cX4_beatsBy 67 = .ok (.iload 4, 2) := by decide +kernel
theorem dX4_beatsBy_69 : decode cX4_beatsBy 69 = .ok (.iload 5, 2) := by decide +kernel
theorem dX4_beatsBy_71 : decode cX4_beatsBy 71 = .ok (.iadd, 1) := by decide +kernel
theorem dX4_beatsBy_72 : decode cX4_beatsBy 72 = .ok (.istore 4, 2) := by decide +kernel
theorem dX4_beatsBy_74 : decode cX4_beatsBy 74 = .ok (.iconst 0, 1) := by decide +kernel
theorem dX4_beatsBy_75 : decode cX4_beatsBy 75 = .ok (.istore 5, 2) := by decide +kernel
theorem dX4_beatsBy_77 : decode cX4_beatsBy 77 = .ok (.aload_n 0, 1) := by decide +kernel
theorem dX4_beatsBy_78 : decode cX4_beatsBy 78 = .ok (.getfield 34, 3) := by decide +kernel
theorem dX4_beatsBy_81 : decode cX4_beatsBy 81 = .ok (.iconst 0, 1) := by decide +kernel
theorem dX4_beatsBy_82 : decode cX4_beatsBy 82 = .ok (.invokestatic 98, 3) := by decide +kernel
theorem dX4_beatsBy_85 : decode cX4_beatsBy 85 = .ok (.iload_n 2, 1) := by decide +kernel
theorem dX4_beatsBy_86 : decode cX4_beatsBy 86 = .ok (.ifCond .eq 15, 3) := by decide +kernel
theorem dX4_beatsBy_89 : decode cX4_beatsBy 89 = .ok (.aload_n 0, 1) := by decide +kernel
theorem dX4_beatsBy_90 : decode cX4_beatsBy 90 = .ok (.getfield 15, 3) := by decide +kernel
theorem dX4_beatsBy_93 : decode cX4_beatsBy 93 = .ok (.iload 7, 2) := by decide +kernel
theorem dX4_beatsBy_95 : decode cX4_beatsBy 95 = .ok (.iaload, 1) := by decide +kernel
theorem dX4_beatsBy_96 : decode cX4_beatsBy 96 = .ok (.iload_n 1, 1) := by decide +kernel
theorem dX4_beatsBy_97 : decode cX4_beatsBy 97 = .ok (.irem, 1) := by decide +kernel
theorem dX4_beatsBy_98 : decode cX4_beatsBy 98 = .ok (.goto 12, 3) := by decide +kernel
theorem dX4_beatsBy_101 : decode cX4_beatsBy 101 = .ok (.aload_n 0, 1) := by decide +kernel
theorem dX4_beatsBy_102 : decode cX4_beatsBy 102 = .ok (.getfield 15, 3) := by decide +kernel
theorem dX4_beatsBy_105 : decode cX4_beatsBy 105 = .ok (.iload 7, 2) := by decide +kernel
theorem dX4_beatsBy_107 : decode cX4_beatsBy 107 = .ok (.iaload, 1) := by decide +kernel
theorem dX4_beatsBy_108 : decode cX4_beatsBy 108 = .ok (.iload_n 3, 1) := by decide +kernel
theorem dX4_beatsBy_109 : decode cX4_beatsBy 109 = .ok (.idiv, 1) := by decide +kernel
theorem dX4_beatsBy_110 : decode cX4_beatsBy 110 = .ok (.istore 8, 2) := by decide +kernel
theorem dX4_beatsBy_112 : decode cX4_beatsBy 112 = .ok (.aload_n 0, 1) := by decide +kernel
theorem dX4_beatsBy_113 : decode cX4_beatsBy 113 = .ok (.getfield 34, 3) := by decide +kernel
theorem dX4_beatsBy_116 : decode cX4_beatsBy 116 = .ok (.iload 8, 2) := by decide +kernel
theorem dX4_beatsBy_118 : decode cX4_beatsBy 118 = .ok (.dup2, 1) := by decide +kernel
theorem dX4_beatsBy_119 : decode cX4_beatsBy 119 = .ok (.iaload, 1) := by decide +kernel
theorem dX4_beatsBy_120 : decode cX4_beatsBy 120 = .ok (.iconst 1, 1) := by decide +kernel
theorem dX4_beatsBy_121 : decode cX4_beatsBy 121 = .ok (.iadd, 1) := by decide +kernel
theorem dX4_beatsBy_122 : decode cX4_beatsBy 122 = .ok (.iastore, 1) := by decide +kernel
theorem dX4_beatsBy_123 : decode cX4_beatsBy 123 = .ok (.iload 5, 2) := by decide +kernel
theorem dX4_beatsBy_125 : decode cX4_beatsBy 125 = .ok (.aload_n 0, 1) := by decide +kernel
theorem dX4_beatsBy_126 : decode cX4_beatsBy 126 = .ok (.getfield 34, 3) := by decide +kernel
theorem dX4_beatsBy_129 : decode cX4_beatsBy 129 = .ok (.iload 8, 2) := by decide +kernel
theorem dX4_beatsBy_131 : decode cX4_beatsBy 131 = .ok (.iaload, 1) := by decide +kernel
theorem dX4_beatsBy_132 : decode cX4_beatsBy 132 = .ok (.invokestatic 117, 3) := by decide +kernel
theorem dX4_beatsBy_135 : decode cX4_beatsBy 135 = .ok (.istore 5, 2) := by decide +kernel
theorem dX4_beatsBy_137 : decode cX4_beatsBy 137 = .ok (.iinc 6 1, 3) := by decide +kernel
theorem dX4_beatsBy_140 : decode cX4_beatsBy 140 = .ok (.goto (-120), 3) := by decide +kernel
theorem dX4_beatsBy_143 : decode cX4_beatsBy 143 = .ok (.iload 4, 2) := by decide +kernel
theorem dX4_beatsBy_145 : decode cX4_beatsBy 145 = .ok (.iload 5, 2) := by decide +kernel
theorem dX4_beatsBy_147 : decode cX4_beatsBy 147 = .ok (.iadd, 1) := by decide +kernel
theorem dX4_beatsBy_148 : decode cX4_beatsBy 148 = .ok (.ireturn, 1) := by decide +kernel
theorem dX5_init_0 : decode cX5_init 0 = .ok (.aload_n 0, 1) := by decide +kernel
theorem dX5_init_1 : decode cX5_init 1 = .ok (.invokespecial 3, 3) := by decide +kernel
theorem dX5_init_4 : decode cX5_init 4 = .ok (.aload_n 0, 1) := by decide +kernel
theorem dX5_init_5 : decode cX5_init 5 = .ok (.bipush 80, 2) := by decide +kernel
theorem dX5_init_7 : decode cX5_init 7 = .ok (.newarray .int, 2) := by decide +kernel
theorem dX5_init_9 : decode cX5_init 9 = .ok (.putfield 11, 3) := by decide +kernel
theorem dX5_init_12 : decode cX5_init 12 = .ok (.aload_n 0, 1) := by decide +kernel
theorem dX5_init_13 : decode cX5_init 13 = .ok (.aload_n 1, 1) := by decide +kernel
theorem dX5_init_14 : decode cX5_init 14 = .ok (.putfield 17, 3) := by decide +kernel
theorem dX5_init_17 : decode cX5_init 17 = .ok (.aload_n 0, 1) := by decide +kernel
theorem dX5_init_18 : decode cX5_init 18 = .ok (.aload_n 2, 1) := by decide +kernel
theorem dX5_init_19 : decode cX5_init 19 = .ok (.putfield 21, 3) := by decide +kernel
theorem dX5_init_22 : decode cX5_init 22 = .ok (.aload_n 0, 1) := by decide +kernel
theorem dX5_init_23 : decode cX5_init 23 = .ok (.aload_n 3, 1) := by decide +kernel
theorem dX5_init_24 : decode cX5_init 24 = .ok (.putfield 24, 3) := by decide +kernel
theorem dX5_init_27 : decode cX5_init 27 = .ok (.return_, 1) := by decide +kernel
theorem dX5_begin_0 : decode cX5_begin 0 = .ok (.aload_n 0, 1) := by decide +kernel
theorem dX5_begin_1 : decode cX5_begin 1 = .ok (.aload_n 1, 1) := by decide +kernel
theorem dX5_begin_2 : decode cX5_begin 2 = .ok (.putfield 17, 3) := by decide +kernel
theorem dX5_begin_5 : decode cX5_begin 5 = .ok (.aload_n 0, 1) := by decide +kernel
theorem dX5_begin_6 : decode cX5_begin 6 = .ok (.aload_n 2, 1) := by decide +kernel
theorem dX5_begin_7 : decode cX5_begin 7 = .ok (.putfield 21, 3) := by decide +kernel
theorem dX5_begin_10 : decode cX5_begin 10 = .ok (.aload_n 0, 1) := by decide +kernel
theorem dX5_begin_11 : decode cX5_begin 11 = .ok (.aload_n 3, 1) := by decide +kernel
theorem dX5_begin_12 : decode cX5_begin 12 = .ok (.putfield 24, 3) := by decide +kernel
theorem dX5_begin_15 : decode cX5_begin 15 = .ok (.aload_n 0, 1) := by decide +kernel
theorem dX5_begin_16 : decode cX5_begin 16 = .ok (.getfield 24, 3) := by decide +kernel
theorem dX5_begin_19 : decode cX5_begin 19 = .ok (.iconst 0, 1) := by decide +kernel
theorem dX5_begin_20 : decode cX5_begin 20 = .ok (.invokestatic 27, 3) := by decide +kernel
theorem dX5_begin_23 : decode cX5_begin 23 = .ok (.aload_n 0, 1) := by decide +kernel
theorem dX5_begin_24 : decode cX5_begin 24 = .ok (.iconst (-1), 1) := by decide +kernel
theorem dX5_begin_25 : decode cX5_begin 25 = .ok (.iconst (-1), 1) := by decide +kernel
theorem dX5_begin_26 : decode cX5_begin 26 = .ok (.invokevirtual 33, 3) := by decide +kernel
theorem dX5_begin_29 : decode cX5_begin 29 = .ok (.return_, 1) := by decide +kernel
theorem dX5_stir_0 : decode cX5_stir 0 = .ok (.aload_n 0, 1) := by decide +kernel
theorem dX5_stir_1 : decode cX5_stir 1 = .ok (.iload_n 1, 1) := by decide +kernel
theorem dX5_stir_2 : decode cX5_stir 2 = .ok (.putfield 37, 3) := by decide +kernel
theorem dX5_stir_5 : decode cX5_stir 5 = .ok (.aload_n 0, 1) := by decide +kernel
theorem dX5_stir_6 : decode cX5_stir 6 = .ok (.iload_n 2, 1) := by decide +kernel
theorem dX5_stir_7 : decode cX5_stir 7 = .ok (.putfield 41, 3) := by decide +kernel
theorem dX5_stir_10 : decode cX5_stir 10 = .ok (.return_, 1) := by decide +kernel
theorem dX5_reckon_0 : decode cX5_reckon 0 = .ok (.iconst 0, 1) := by decide +kernel
theorem dX5_reckon_1 : decode cX5_reckon 1 = .ok (.istore_n 2, 1) := by decide +kernel
theorem dX5_reckon_2 : decode cX5_reckon 2 = .ok (.iload_n 2, 1) := by decide +kernel
theorem dX5_reckon_3 : decode cX5_reckon 3 = .ok (.aload_n 0, 1) := by decide +kernel
theorem dX5_reckon_4 : decode cX5_reckon 4 = .ok (.getfield 17, 3) := by decide +kernel
theorem dX5_reckon_7 : decode cX5_reckon 7 = .ok (.getfield 44, 3) := by decide +kernel
theorem dX5_reckon_10 : decode cX5_reckon 10 = .ok (.if_icmp .ge 141, 3) := by decide +kernel
theorem dX5_reckon_13 : decode cX5_reckon 13 = .ok (.iconst 0, 1) := by decide +kernel
theorem dX5_reckon_14 : decode cX5_reckon 14 = .ok (.istore_n 3, 1) := by decide +kernel
theorem dX5_reckon_15 : decode cX5_reckon 15 = .ok (.aload_n 0, 1) := by decide +kernel
theorem dX5_reckon_16 : decode cX5_reckon 16 = .ok (.getfield 17, 3) := by decide +kernel
theorem dX5_reckon_19 : decode cX5_reckon 19 = .ok (.getfield 47, 3) := by decide +kernel
theorem dX5_reckon_22 : decode cX5_reckon 22 = .ok (.iconst 2, 1) := by decide +kernel
theorem dX5_reckon_23 : decode cX5_reckon 23 = .ok (.iload_n 2, 1) := by decide +kernel
theorem dX5_reckon_24 : decode cX5_reckon 24 = .ok (.imul, 1) := by decide +kernel
theorem dX5_reckon_25 : decode cX5_reckon 25 = .ok (.iaload, 1) := by decide +kernel
theorem dX5_reckon_26 : decode cX5_reckon 26 = .ok (.istore 4, 2) := by decide +kernel
theorem dX5_reckon_28 : decode cX5_reckon 28 = .ok (.iload 4, 2) := by decide +kernel
theorem dX5_reckon_30 : decode cX5_reckon 30 = .ok (.aload_n 0, 1) := by decide +kernel
theorem dX5_reckon_31 : decode cX5_reckon 31 = .ok (.getfield 17, 3) := by decide +kernel
theorem dX5_reckon_34 : decode cX5_reckon 34 = .ok (.getfield 47, 3) := by decide +kernel
theorem dX5_reckon_37 : decode cX5_reckon 37 = .ok (.iconst 2, 1) := by decide +kernel
theorem dX5_reckon_38 : decode cX5_reckon 38 = .ok (.iload_n 2, 1) := by decide +kernel
theorem dX5_reckon_39 : decode cX5_reckon 39 = .ok (.imul, 1) := by decide +kernel
theorem dX5_reckon_40 : decode cX5_reckon 40 = .ok (.iconst 1, 1) := by decide +kernel
theorem dX5_reckon_41 : decode cX5_reckon 41 = .ok (.iadd, 1) := by decide +kernel
theorem dX5_reckon_42 : decode cX5_reckon 42 = .ok (.iaload, 1) := by decide +kernel
theorem dX5_reckon_43 : decode cX5_reckon 43 = .ok (.if_icmp .ge 64, 3) := by decide +kernel
theorem dX5_reckon_46 : decode cX5_reckon 46 = .ok (.aload_n 0, 1) := by decide +kernel
theorem dX5_reckon_47 : decode cX5_reckon 47 = .ok (.getfield 17, 3) := by decide +kernel
theorem dX5_reckon_50 : decode cX5_reckon 50 = .ok (.getfield 50, 3) := by decide +kernel
theorem dX5_reckon_53 : decode cX5_reckon 53 = .ok (.iload 4, 2) := by decide +kernel
theorem dX5_reckon_55 : decode cX5_reckon 55 = .ok (.iaload, 1) := by decide +kernel
theorem dX5_reckon_56 : decode cX5_reckon 56 = .ok (.iconst 3, 1) := by decide +kernel
theorem dX5_reckon_57 : decode cX5_reckon 57 = .ok (.if_icmp .ne 21, 3) := by decide +kernel
theorem dX5_reckon_60 : decode cX5_reckon 60 = .ok (.aload_n 0, 1) := by decide +kernel
theorem dX5_reckon_61 : decode cX5_reckon 61 = .ok (.aload_n 0, 1) := by decide +kernel
theorem dX5_reckon_62 : decode cX5_reckon 62 = .ok (.getfield 17, 3) := by decide +kernel
theorem dX5_reckon_65 : decode cX5_reckon 65 = .ok (.getfield 53, 3) := by decide +kernel
theorem dX5_reckon_68 : decode cX5_reckon 68 = .ok (.iload 4, 2) := by decide +kernel
theorem dX5_reckon_70 : decode cX5_reckon 70 = .ok (.iaload, 1) := by decide +kernel
theorem dX5_reckon_71 : decode cX5_reckon 71 = .ok (.iload_n 1, 1) := by decide +kernel
theorem dX5_reckon_72 : decode cX5_reckon 72 = .ok (.invokevirtual 56, 3) := by decide +kernel
theorem dX5_reckon_75 : decode cX5_reckon 75 = .ok (.goto 17, 3) := by decide +kernel
theorem dX5_reckon_78 : decode cX5_reckon 78 = .ok (.aload_n 0, 1) := by decide +kernel
theorem dX5_reckon_79 : decode cX5_reckon 79 = .ok (.iload 4, 2) := by decide +kernel
theorem dX5_reckon_81 : decode cX5_reckon 81 = .ok (.iload_n 1, 1) := by decide +kernel
theorem dX5_reckon_82 : decode cX5_reckon 82 = .ok (.bipush 10, 2) := by decide +kernel
theorem dX5_reckon_84 : decode cX5_reckon 84 = .ok (.idiv, 1) := by decide +kernel
theorem dX5_reckon_85 : decode cX5_reckon 85 = .ok (.iload_n 1, 1) := by decide +kernel
theorem dX5_reckon_86 : decode cX5_reckon 86 = .ok (.bipush 10, 2) := by decide +kernel
theorem dX5_reckon_88 : decode cX5_reckon 88 = .ok (.irem, 1) := by decide +kernel
theorem dX5_reckon_89 : decode cX5_reckon 89 = .ok (.invokevirtual 60, 3) := by decide +kernel
theorem dX5_reckon_92 : decode cX5_reckon 92 = .ok (.istore_n 3, 1) := by decide +kernel
theorem dX5_reckon_93 : decode cX5_reckon 93 = .ok (.aload_n 0, 1) := by decide +kernel
theorem dX5_reckon_94 : decode cX5_reckon 94 = .ok (.getfield 11, 3) := by decide +kernel
theorem dX5_reckon_97 : decode cX5_reckon 97 = .ok (.iload 4, 2) := by decide +kernel
theorem dX5_reckon_99 : decode cX5_reckon 99 = .ok (.iload_n 3, 1) := by decide +kernel
theorem dX5_reckon_100 : decode cX5_reckon 100 = .ok (.iastore, 1) := by decide +kernel
theorem dX5_reckon_101 : decode cX5_reckon 101 = .ok (.iinc 4 1, 3) := by decide +kernel
theorem dX5_reckon_104 : decode cX5_reckon 104 = .ok (.goto (-76), 3) := by decide +kernel
theorem dX5_reckon_107 : decode cX5_reckon 107 = .ok (.iload_n 2, 1) := by decide +kernel
theorem dX5_reckon_108 : decode cX5_reckon 108 = .ok (.aload_n 0, 1) := by decide +kernel
theorem dX5_reckon_109 : decode cX5_reckon 109 = .ok (.getfield 37, 3) := by decide +kernel
theorem dX5_reckon_112 : decode cX5_reckon 112 = .ok (.if_icmp .ne 15, 3) := by decide +kernel
theorem dX5_reckon_115 : decode cX5_reckon 115 = .ok (.iload_n 1, 1) := by decide +kernel
theorem dX5_reckon_116 : decode cX5_reckon 116 = .ok (.aload_n 0, 1) := by decide +kernel
theorem dX5_reckon_117 : decode cX5_reckon 117 = .ok (.getfield 41, 3) := by decide +kernel
theorem dX5_reckon_120 : decode cX5_reckon 120 = .ok (.if_icmp .ne 7, 3) := by decide +kernel
theorem dX5_reckon_123 : decode cX5_reckon 123 = .ok (.iconst 1, 1) := by decide +kernel
theorem dX5_reckon_124 : decode cX5_reckon 124 = .ok (.goto 4, 3) := by decide +kernel
theorem dX5_reckon_127 : decode cX5_reckon 127 = .ok (.iconst 0, 1) := by decide +kernel
theorem dX5_reckon_128 : decode cX5_reckon 128 = .ok (.istore 4, 2) := by decide +kernel
theorem dX5_reckon_130 : decode cX5_reckon 130 = .ok (.aload_n 0, 1) := by decide +kernel
theorem dX5_reckon_131 : decode cX5_reckon 131 = .ok (.getfield 24, 3) := by decide +kernel
theorem dX5_reckon_134 : decode cX5_reckon 134 = .ok (.iload_n 2, 1) := by decide +kernel
theorem dX5_reckon_135 : decode cX5_reckon 135 = .ok (.bipush 100, 2) := by decide +kernel
theorem dX5_reckon_137 : decode cX5_reckon 137 = .ok (.imul, 1) := by decide +kernel
theorem dX5_reckon_138 : decode cX5_reckon 138 = .ok (.iload_n 1, 1) := by decide +kernel
theorem dX5_reckon_139 : decode cX5_reckon 139 = .ok (.iadd, 1) := by decide +kernel
theorem dX5_reckon_140 : decode cX5_reckon 140 = .ok (.iload_n 3, 1) := by decide +kernel
theorem dX5_reckon_141 : decode cX5_reckon 141 = .ok (.iload 4, 2) := by decide +kernel
theorem dX5_reckon_143 : decode cX5_reckon 143 = .ok (.iadd, 1) := by decide +kernel
theorem dX5_reckon_144 : decode cX5_reckon 144 = .ok (.iastore, 1) := by decide +kernel
theorem dX5_reckon_145 : decode cX5_reckon 145 = .ok (.iinc 2 1, 3) := by decide +kernel
theorem dX5_reckon_148 : decode cX5_reckon 148 = .ok (.goto (-146), 3) := by decide +kernel
theorem dX5_reckon_151 : decode cX5_reckon 151 = .ok (.return_, 1) := by decide +kernel
theorem dX5_fetch_0 : decode cX5_fetch 0 = .ok (.aload_n 0, 1) := by decide +kernel
theorem dX5_fetch_1 : decode cX5_fetch 1 = .ok (.getfield 17, 3) := by decide +kernel
theorem dX5_fetch_4 : decode cX5_fetch 4 = .ok (.getfield 64, 3) := by decide +kernel
theorem dX5_fetch_7 : decode cX5_fetch 7 = .ok (.iload_n 1, 1) := by decide +kernel
theorem dX5_fetch_8 : decode cX5_fetch 8 = .ok (.iaload, 1) := by decide +kernel
theorem dX5_fetch_9 : decode cX5_fetch 9 = .ok (.istore_n 3, 1) := by decide +kernel
theorem dX5_fetch_10 : decode cX5_fetch 10 = .ok (.aload_n 0, 1) := by decide +kernel
theorem dX5_fetch_11 : decode cX5_fetch 11 = .ok (.getfield 17, 3) := by decide +kernel
theorem dX5_fetch_14 : decode cX5_fetch 14 = .ok (.iload_n 2, 1) := by decide +kernel
theorem dX5_fetch_15 : decode cX5_fetch 15 = .ok (.aload_n 0, 1) := by decide +kernel
theorem dX5_fetch_16 : decode cX5_fetch 16 = .ok (.getfield 17, 3) := by decide +kernel
theorem dX5_fetch_19 : decode cX5_fetch 19 = .ok (.getfield 67, 3) := by decide +kernel
theorem dX5_fetch_22 : decode cX5_fetch 22 = .ok (.iload_n 1, 1) := by decide +kernel
theorem dX5_fetch_23 : decode cX5_fetch 23 = .ok (.iaload, 1) := by decide +kernel
theorem dX5_fetch_24 : decode cX5_fetch 24 = .ok (.aload_n 0, 1) := by decide +kernel
theorem dX5_fetch_25 : decode cX5_fetch 25 = .ok (.getfield 17, 3) := by decide +kernel
theorem dX5_fetch_28 : decode cX5_fetch 28 = .ok (.getfield 70, 3) := by decide +kernel
theorem dX5_fetch_31 : decode cX5_fetch 31 = .ok (.iload_n 1, 1) := by decide +kernel
theorem dX5_fetch_32 : decode cX5_fetch 32 = .ok (.iaload, 1) := by decide +kernel
theorem dX5_fetch_33 : decode cX5_fetch 33 = .ok (.invokevirtual 73, 3) := by decide +kernel
theorem dX5_fetch_36 : decode cX5_fetch 36 = .ok (.istore 4, 2) := by decide +kernel
theorem dX5_fetch_38 : decode cX5_fetch 38 = .ok (.iload 4, 2) := by decide +kernel
theorem dX5_fetch_40 : decode cX5_fetch 40 = .ok (.iconst (-1), 1) := by decide +kernel
theorem dX5_fetch_41 : decode cX5_fetch 41 = .ok (.if_icmp .ne 37, 3) := by decide +kernel
theorem dX5_fetch_44 : decode cX5_fetch 44 = .ok (.aload_n 0, 1) := by decide +kernel
theorem dX5_fetch_45 : decode cX5_fetch 45 = .ok (.iload_n 3, 1) := by decide +kernel
theorem dX5_fetch_46 : decode cX5_fetch 46 = .ok (.iload_n 2, 1) := by decide +kernel
theorem dX5_fetch_47 : decode cX5_fetch 47 = .ok (.bipush 10, 2) := by decide +kernel
theorem dX5_fetch_49 : decode cX5_fetch 49 = .ok (.idiv, 1) := by decide +kernel
theorem dX5_fetch_50 : decode cX5_fetch 50 = .ok (.aload_n 0, 1) := by decide +kernel
theorem dX5_fetch_51 : decode cX5_fetch 51 = .ok (.getfield 17, 3) := by decide +kernel
theorem dX5_fetch_54 : decode cX5_fetch 54 = .ok (.getfield 67, 3) := by decide +kernel
theorem dX5_fetch_57 : decode cX5_fetch 57 = .ok (.iload_n 1, 1) := by decide +kernel
theorem dX5_fetch_58 : decode cX5_fetch 58 = .ok (.iaload, 1) := by decide +kernel
theorem dX5_fetch_59 : decode cX5_fetch 59 = .ok (.iadd, 1) := by decide +kernel
theorem dX5_fetch_60 : decode cX5_fetch 60 = .ok (.iload_n 2, 1) := by decide +kernel
theorem dX5_fetch_61 : decode cX5_fetch 61 = .ok (.bipush 10, 2) := by decide +kernel
theorem dX5_fetch_63 : decode cX5_fetch 63 = .ok (.irem, 1) := by decide +kernel
theorem dX5_fetch_64 : decode cX5_fetch 64 = .ok (.aload_n 0, 1) := by decide +kernel
theorem dX5_fetch_65 : decode cX5_fetch 65 = .ok (.getfield 17, 3) := by decide +kernel
theorem dX5_fetch_68 : decode cX5_fetch 68 = .ok (.getfield 70, 3) := by decide +kernel
theorem dX5_fetch_71 : decode cX5_fetch 71 = .ok (.iload_n 1, 1) := by decide +kernel
theorem dX5_fetch_72 : decode cX5_fetch 72 = .ok (.iaload, 1) := by decide +kernel
theorem dX5_fetch_73 : decode cX5_fetch 73 = .ok (.iadd, 1) := by decide +kernel
theorem dX5_fetch_74 : decode cX5_fetch 74 = .ok (.invokevirtual 76, 3) := by decide +kernel
theorem dX5_fetch_77 : decode cX5_fetch 77 = .ok (.ireturn, 1) := by decide +kernel
theorem dX5_fetch_78 : decode cX5_fetch 78 = .ok (.iload 4, 2) := by decide +kernel
theorem dX5_fetch_80 : decode cX5_fetch 80 = .ok (.iload_n 2, 1) := by decide +kernel
theorem dX5_fetch_81 : decode cX5_fetch 81 = .ok (.if_icmp .eq 19, 3) := by decide +kernel
theorem dX5_fetch_84 : decode cX5_fetch 84 = .ok (.aload_n 0, 1) := by decide +kernel
theorem dX5_fetch_85 : decode cX5_fetch 85 = .ok (.getfield 21, 3) := by decide +kernel
theorem dX5_fetch_88 : decode cX5_fetch 88 = .ok (.iload 4, 2) := by decide +kernel
theorem dX5_fetch_90 : decode cX5_fetch 90 = .ok (.iaload, 1) := by decide +kernel
theorem dX5_fetch_91 : decode cX5_fetch 91 = .ok (.aload_n 0, 1) := by decide +kernel
theorem dX5_fetch_92 : decode cX5_fetch 92 = .ok (.getfield 21, 3) := by decide +kernel
theorem dX5_fetch_95 : decode cX5_fetch 95 = .ok (.iload_n 2, 1) := by decide +kernel
theorem dX5_fetch_96 : decode cX5_fetch 96 = .ok (.iaload, 1) := by decide +kernel
theorem dX5_fetch_97 : decode cX5_fetch 97 = .ok (.if_icmp .ge 7, 3) := by decide +kernel
theorem dX5_fetch_100 : decode cX5_fetch 100 = .ok (.iconst 1, 1) := by decide +kernel
theorem dX5_fetch_101 : decode cX5_fetch 101 = .ok (.goto 4, 3) := by decide +kernel
theorem dX5_fetch_104 : decode cX5_fetch 104 = .ok (.iconst 0, 1) := by decide +kernel
theorem dX5_fetch_105 : decode cX5_fetch 105 = .ok (.istore 5, 2) := by decide +kernel
theorem dX5_fetch_107 : decode cX5_fetch 107 = .ok (.iload 5, 2) := by decide +kernel
theorem dX5_fetch_109 : decode cX5_fetch 109 = .ok (.ifCond .eq 18, 3) := by decide +kernel
theorem dX5_fetch_112 : decode cX5_fetch 112 = .ok (.aload_n 0, 1) := by decide +kernel
theorem dX5_fetch_113 : decode cX5_fetch 113 = .ok (.getfield 24, 3) := by decide +kernel
theorem dX5_fetch_116 : decode cX5_fetch 116 = .ok (.iload_n 3, 1) := by decide +kernel
theorem dX5_fetch_117 : decode cX5_fetch 117 = .ok (.bipush 100, 2) := by decide +kernel
theorem dX5_fetch_119 : decode cX5_fetch 119 = .ok (.imul, 1) := by decide +kernel
theorem dX5_fetch_120 : decode cX5_fetch 120 = .ok (.iload 4, 2) := by decide +kernel
theorem dX5_fetch_122 : decode cX5_fetch 122 = .ok (.iadd, 1) := by decide +kernel
theorem dX5_fetch_123 : decode cX5_fetch 123 = .ok (.iaload, 1) := by decide +kernel
theorem dX5_fetch_124 : decode cX5_fetch 124 = .ok (.goto 4, 3) := by decide +kernel
theorem dX5_fetch_127 : decode cX5_fetch 127 = .ok (.iconst 0, 1) := by decide +kernel
theorem dX5_fetch_128 : decode cX5_fetch 128 = .ok (.ireturn, 1) := by decide +kernel
theorem dX5_edgeAt_0 : decode cX5_edgeAt 0 = .ok (.iconst 0, 1) := by decide +kernel
theorem dX5_edgeAt_1 : decode cX5_edgeAt 1 = .ok (.istore 4, 2) := by decide +kernel
theorem dX5_edgeAt_3 : decode cX5_edgeAt 3 = .ok (.aload_n 0, 1) := by decide +kernel
theorem dX5_edgeAt_4 : decode cX5_edgeAt 4 = .ok (.getfield 17, 3) := by decide +kernel
theorem dX5_edgeAt_7 : decode cX5_edgeAt 7 = .ok (.getfield 47, 3) := by decide +kernel
theorem dX5_edgeAt_10 : decode cX5_edgeAt 10 = .ok (.iconst 2, 1) := by decide +kernel
theorem dX5_edgeAt_11 : decode cX5_edgeAt 11 = .ok (.iload_n 1, 1) := by decide +kernel
theorem dX5_edgeAt_12 : decode cX5_edgeAt 12 = .ok (.imul, 1) := by decide +kernel
theorem dX5_edgeAt_13 : decode cX5_edgeAt 13 = .ok (.iconst 1, 1) := by decide +kernel
theorem dX5_edgeAt_14 : decode cX5_edgeAt 14 = .ok (.iadd, 1) := by decide +kernel
theorem dX5_edgeAt_15 : decode cX5_edgeAt 15 = .ok (.iaload, 1) := by decide +kernel
theorem dX5_edgeAt_16 : decode cX5_edgeAt 16 = .ok (.istore 5, 2) := by decide +kernel
theorem dX5_edgeAt_18 : decode cX5_edgeAt 18 = .ok (.iload 5, 2) := by decide +kernel
theorem dX5_edgeAt_20 : decode cX5_edgeAt 20 = .ok (.aload_n 0, 1) := by decide +kernel
theorem dX5_edgeAt_21 : decode cX5_edgeAt 21 = .ok (.getfield 17, 3) := by decide +kernel
theorem dX5_edgeAt_24 : decode cX5_edgeAt 24 = .ok (.getfield 47, 3) := by decide +kernel
theorem dX5_edgeAt_27 : decode cX5_edgeAt 27 = .ok (.iconst 2, 1) := by decide +kernel
theorem dX5_edgeAt_28 : decode cX5_edgeAt 28 = .ok (.iload_n 1, 1) := by decide +kernel
theorem dX5_edgeAt_29 : decode cX5_edgeAt 29 = .ok (.imul, 1) := by decide +kernel
theorem dX5_edgeAt_30 : decode cX5_edgeAt 30 = .ok (.iconst 2, 1) := by decide +kernel
theorem dX5_edgeAt_31 : decode cX5_edgeAt 31 = .ok (.iadd, 1) := by decide +kernel
theorem dX5_edgeAt_32 : decode cX5_edgeAt 32 = .ok (.iaload, 1) := by decide +kernel
theorem dX5_edgeAt_33 : decode cX5_edgeAt 33 = .ok (.if_icmp .ge 28, 3) := by decide +kernel
theorem dX5_edgeAt_36 : decode cX5_edgeAt 36 = .ok (.aload_n 0, 1) := by decide +kernel
theorem dX5_edgeAt_37 : decode cX5_edgeAt 37 = .ok (.iload 5, 2) := by decide +kernel
theorem dX5_edgeAt_39 : decode cX5_edgeAt 39 = .ok (.iload_n 2, 1) := by decide +kernel
theorem dX5_edgeAt_40 : decode cX5_edgeAt 40 = .ok (.iload_n 3, 1) := by decide +kernel
theorem dX5_edgeAt_41 : decode cX5_edgeAt 41 = .ok (.invokevirtual 60, 3) := by decide +kernel
theorem dX5_edgeAt_44 : decode cX5_edgeAt 44 = .ok (.istore 4, 2) := by decide +kernel
theorem dX5_edgeAt_46 : decode cX5_edgeAt 46 = .ok (.aload_n 0, 1) := by decide +kernel
theorem dX5_edgeAt_47 : decode cX5_edgeAt 47 = .ok (.getfield 11, 3) := by decide +kernel
theorem dX5_edgeAt_50 : decode cX5_edgeAt 50 = .ok (.iload 5, 2) := by decide +kernel
theorem dX5_edgeAt_52 : decode cX5_edgeAt 52 = .ok (.iload 4, 2) := by decide +kernel
theorem dX5_edgeAt_54 : decode cX5_edgeAt 54 = .ok (.iastore, 1) := by decide +kernel
theorem dX5_edgeAt_55 : decode cX5_edgeAt 55 = .ok (.iinc 5 1, 3) := by decide +kernel
theorem dX5_edgeAt_58 : decode cX5_edgeAt 58 = .ok (.goto (-40), 3) := by decide +kernel
theorem dX5_edgeAt_61 : decode cX5_edgeAt 61 = .ok (.iload 4, 2) := by decide +kernel
theorem dX5_edgeAt_63 : decode cX5_edgeAt 63 = .ok (.ireturn, 1) := by decide +kernel
theorem dX5_join_0 : decode cX5_join 0 = .ok (.aload_n 0, 1) := by decide +kernel
theorem dX5_join_1 : decode cX5_join 1 = .ok (.getfield 17, 3) := by decide +kernel
theorem dX5_join_4 : decode cX5_join 4 = .ok (.getfield 53, 3) := by decide +kernel
theorem dX5_join_7 : decode cX5_join 7 = .ok (.iload_n 1, 1) := by decide +kernel
theorem dX5_join_8 : decode cX5_join 8 = .ok (.iaload, 1) := by decide +kernel
theorem dX5_join_9 : decode cX5_join 9 = .ok (.istore 4, 2) := by decide +kernel
theorem dX5_join_11 : decode cX5_join 11 = .ok (.aload_n 0, 1) := by decide +kernel
theorem dX5_join_12 : decode cX5_join 12 = .ok (.getfield 17, 3) := by decide +kernel
theorem dX5_join_15 : decode cX5_join 15 = .ok (.getfield 79, 3) := by decide +kernel
theorem dX5_join_18 : decode cX5_join 18 = .ok (.iload_n 1, 1) := by decide +kernel
theorem dX5_join_19 : decode cX5_join 19 = .ok (.iaload, 1) := by decide +kernel
theorem dX5_join_20 : decode cX5_join 20 = .ok (.istore 5, 2) := by decide +kernel
theorem dX5_join_22 : decode cX5_join 22 = .ok (.aload_n 0, 1) := by decide +kernel
theorem dX5_join_23 : decode cX5_join 23 = .ok (.getfield 17, 3) := by decide +kernel
theorem dX5_join_26 : decode cX5_join 26 = .ok (.getfield 50, 3) := by decide +kernel
theorem dX5_join_29 : decode cX5_join 29 = .ok (.iload_n 1, 1) := by decide +kernel
theorem dX5_join_30 : decode cX5_join 30 = .ok (.iaload, 1) := by decide +kernel
theorem dX5_join_31 : decode cX5_join 31 = .ok (.tableswitch 187 0 9 #[53, 56, 58, 187, 60, 69, 104, 139, 155, 171], 53) := by decide +kernel
theorem dX5_join_84 : decode cX5_join 84 = .ok (.iload 4, 2) := by decide +kernel
theorem dX5_join_86 : decode cX5_join 86 = .ok (.ireturn, 1) := by decide +kernel
theorem dX5_join_87 : decode cX5_join 87 = .ok (.iload_n 2, 1) := by decide +kernel
theorem dX5_join_88 : decode cX5_join 88 = .ok (.ireturn, 1) := by decide +kernel
theorem dX5_join_89 : decode cX5_join 89 = .ok (.iload_n 3, 1) := by decide +kernel
theorem dX5_join_90 : decode cX5_join 90 = .ok (.ireturn, 1) := by decide +kernel
theorem dX5_join_91 : decode cX5_join 91 = .ok (.aload_n 0, 1) := by decide +kernel
theorem dX5_join_92 : decode cX5_join 92 = .ok (.getfield 11, 3) := by decide +kernel
theorem dX5_join_95 : decode cX5_join 95 = .ok (.iload 4, 2) := by decide +kernel
theorem dX5_join_97 : decode cX5_join 97 = .ok (.iaload, 1) := by decide +kernel
theorem dX5_join_98 : decode cX5_join 98 = .ok (.ineg, 1) := by decide +kernel
theorem dX5_join_99 : decode cX5_join 99 = .ok (.ireturn, 1) := by decide +kernel
theorem dX5_join_100 : decode cX5_join 100 = .ok (.aload_n 0, 1) := by decide +kernel
theorem dX5_join_101 : decode cX5_join 101 = .ok (.getfield 11, 3) := by decide +kernel
theorem dX5_join_104 : decode cX5_join 104 = .ok (.iload 4, 2) := by decide +kernel
theorem dX5_join_106 : decode cX5_join 106 = .ok (.iaload, 1) := by decide +kernel
theorem dX5_join_107 : decode cX5_join 107 = .ok (.aload_n 0, 1) := by decide +kernel
theorem dX5_join_108 : decode cX5_join 108 = .ok (.getfield 11, 3) := by decide +kernel
theorem dX5_join_111 : decode cX5_join 111 = .ok (.iload 5, 2) := by decide +kernel
theorem dX5_join_113 : decode cX5_join 113 = .ok (.iaload, 1) := by decide +kernel
theorem dX5_join_114 : decode cX5_join 114 = .ok (.if_icmp .ge 13, 3) := by decide +kernel
theorem dX5_join_117 : decode cX5_join 117 = .ok (.aload_n 0, 1) := by decide +kernel
theorem dX5_join_118 : decode cX5_join 118 = .ok (.getfield 11, 3) := by decide +kernel
theorem dX5_join_121 : decode cX5_join 121 = .ok (.iload 4, 2) := by decide +kernel
theorem dX5_join_123 : decode cX5_join 123 = .ok (.iaload, 1) := by decide +kernel
theorem dX5_join_124 : decode cX5_join 124 = .ok (.goto 10, 3) := by decide +kernel
theorem dX5_join_127 : decode cX5_join 127 = .ok (.aload_n 0, 1) := by decide +kernel
theorem dX5_join_128 : decode cX5_join 128 = .ok (.getfield 11, 3) := by decide +kernel
theorem dX5_join_131 : decode cX5_join 131 = .ok (.iload 5, 2) := by decide +kernel
theorem dX5_join_133 : decode cX5_join 133 = .ok (.iaload, 1) := by decide +kernel
theorem dX5_join_134 : decode cX5_join 134 = .ok (.ireturn, 1) := by decide +kernel
theorem dX5_join_135 : decode cX5_join 135 = .ok (.aload_n 0, 1) := by decide +kernel
theorem dX5_join_136 : decode cX5_join 136 = .ok (.getfield 11, 3) := by decide +kernel
theorem dX5_join_139 : decode cX5_join 139 = .ok (.iload 4, 2) := by decide +kernel
theorem dX5_join_141 : decode cX5_join 141 = .ok (.iaload, 1) := by decide +kernel
theorem dX5_join_142 : decode cX5_join 142 = .ok (.aload_n 0, 1) := by decide +kernel
theorem dX5_join_143 : decode cX5_join 143 = .ok (.getfield 11, 3) := by decide +kernel
theorem dX5_join_146 : decode cX5_join 146 = .ok (.iload 5, 2) := by decide +kernel
theorem dX5_join_148 : decode cX5_join 148 = .ok (.iaload, 1) := by decide +kernel
theorem dX5_join_149 : decode cX5_join 149 = .ok (.if_icmp .le 13, 3) := by decide +kernel
theorem dX5_join_152 : decode cX5_join 152 = .ok (.aload_n 0, 1) := by decide +kernel
theorem dX5_join_153 : decode cX5_join 153 = .ok (.getfield 11, 3) := by decide +kernel
theorem dX5_join_156 : decode cX5_join 156 = .ok (.iload 4, 2) := by decide +kernel
theorem dX5_join_158 : decode cX5_join 158 = .ok (.iaload, 1) := by decide +kernel
theorem dX5_join_159 : decode cX5_join 159 = .ok (.goto 10, 3) := by decide +kernel
theorem dX5_join_162 : decode cX5_join 162 = .ok (.aload_n 0, 1) := by decide +kernel
theorem dX5_join_163 : decode cX5_join 163 = .ok (.getfield 11, 3) := by decide +kernel
theorem dX5_join_166 : decode cX5_join 166 = .ok (.iload 5, 2) := by decide +kernel
theorem dX5_join_168 : decode cX5_join 168 = .ok (.iaload, 1) := by decide +kernel
theorem dX5_join_169 : decode cX5_join 169 = .ok (.ireturn, 1) := by decide +kernel
theorem dX5_join_170 : decode cX5_join 170 = .ok (.aload_n 0, 1) := by decide +kernel
theorem dX5_join_171 : decode cX5_join 171 = .ok (.getfield 11, 3) := by decide +kernel
theorem dX5_join_174 : decode cX5_join 174 = .ok (.iload 4, 2) := by decide +kernel
theorem dX5_join_176 : decode cX5_join 176 = .ok (.iaload, 1) := by decide +kernel
theorem dX5_join_177 : decode cX5_join 177 = .ok (.aload_n 0, 1) := by decide +kernel
theorem dX5_join_178 : decode cX5_join 178 = .ok (.getfield 11, 3) := by decide +kernel
theorem dX5_join_181 : decode cX5_join 181 = .ok (.iload 5, 2) := by decide +kernel
theorem dX5_join_183 : decode cX5_join 183 = .ok (.iaload, 1) := by decide +kernel
theorem dX5_join_184 : decode cX5_join 184 = .ok (.iadd, 1) := by decide +kernel
theorem dX5_join_185 : decode cX5_join 185 = .ok (.ireturn, 1) := by decide +kernel
theorem dX5_join_186 : decode cX5_join 186 = .ok (.aload_n 0, 1) := by decide +kernel
theorem dX5_join_187 : decode cX5_join 187 = .ok (.getfield 11, 3) := by decide +kernel
theorem dX5_join_190 : decode cX5_join 190 = .ok (.iload 4, 2) := by decide +kernel
theorem dX5_join_192 : decode cX5_join 192 = .ok (.iaload, 1) := by decide +kernel
theorem dX5_join_193 : decode cX5_join 193 = .ok (.aload_n 0, 1) := by decide +kernel
theorem dX5_join_194 : decode cX5_join 194 = .ok (.getfield 11, 3) := by decide +kernel
theorem dX5_join_197 : decode cX5_join 197 = .ok (.iload 5, 2) := by decide +kernel
theorem dX5_join_199 : decode cX5_join 199 = .ok (.iaload, 1) := by decide +kernel
theorem dX5_join_200 : decode cX5_join 200 = .ok (.isub, 1) := by decide +kernel
theorem dX5_join_201 : decode cX5_join 201 = .ok (.ireturn, 1) := by decide +kernel
theorem dX5_join_202 : decode cX5_join 202 = .ok (.aload_n 0, 1) := by decide +kernel
theorem dX5_join_203 : decode cX5_join 203 = .ok (.getfield 11, 3) := by decide +kernel
theorem dX5_join_206 : decode cX5_join 206 = .ok (.iload 4, 2) := by decide +kernel
theorem dX5_join_208 : decode cX5_join 208 = .ok (.iaload, 1) := by decide +kernel
theorem dX5_join_209 : decode cX5_join 209 = .ok (.aload_n 0, 1) := by decide +kernel
theorem dX5_join_210 : decode cX5_join 210 = .ok (.getfield 11, 3) := by decide +kernel
theorem dX5_join_213 : decode cX5_join 213 = .ok (.iload 5, 2) := by decide +kernel
theorem dX5_join_215 : decode cX5_join 215 = .ok (.iaload, 1) := by decide +kernel
theorem dX5_join_216 : decode cX5_join 216 = .ok (.imul, 1) := by decide +kernel
theorem dX5_join_217 : decode cX5_join 217 = .ok (.ireturn, 1) := by decide +kernel
theorem dX5_join_218 : decode cX5_join 218 = .ok (.iconst 0, 1) := by decide +kernel
theorem dX5_join_219 : decode cX5_join 219 = .ok (.ireturn, 1) := by decide +kernel
theorem dX6_init_0 : decode cX6_init 0 = .ok (.aload_n 0, 1) := by decide +kernel
theorem dX6_init_1 : decode cX6_init 1 = .ok (.invokespecial 3, 3) := by decide +kernel
theorem dX6_init_4 : decode cX6_init 4 = .ok (.return_, 1) := by decide +kernel
theorem dX6_clear_0 : decode cX6_clear 0 = .ok (.aload_n 0, 1) := by decide +kernel
theorem dX6_clear_1 : decode cX6_clear 1 = .ok (.iconst 0, 1) := by decide +kernel
theorem dX6_clear_2 : decode cX6_clear 2 = .ok (.putfield 9, 3) := by decide +kernel
theorem dX6_clear_5 : decode cX6_clear 5 = .ok (.return_, 1) := by decide +kernel
theorem dX6_ifFound_0 : decode cX6_ifFound 0 = .ok (.aload_n 0, 1) := by decide +kernel
theorem dX6_ifFound_1 : decode cX6_ifFound 1 = .ok (.getfield 9, 3) := by decide +kernel
theorem dX6_ifFound_4 : decode cX6_ifFound 4 = .ok (.ifCond .le 7, 3) := by decide +kernel
theorem dX6_ifFound_7 : decode cX6_ifFound 7 = .ok (.iload_n 1, 1) := by decide +kernel
theorem dX6_ifFound_8 : decode cX6_ifFound 8 = .ok (.goto 6, 3) := by decide +kernel
theorem dX6_ifFound_11 : decode cX6_ifFound 11 = .ok (.sipush (-1000), 3) := by decide +kernel
theorem dX6_ifFound_14 : decode cX6_ifFound 14 = .ok (.ireturn, 1) := by decide +kernel
theorem dX6_trySchedules_0 : decode cX6_trySchedules 0 = .ok (.iload_n 2, 1) := by decide +kernel
theorem dX6_trySchedules_1 : decode cX6_trySchedules 1 = .ok (.ineg, 1) := by decide +kernel
theorem dX6_trySchedules_2 : decode cX6_trySchedules 2 = .ok (.istore 5, 2) := by decide +kernel
theorem dX6_trySchedules_4 : decode cX6_trySchedules 4 = .ok (.iload 5, 2) := by decide +kernel
theorem dX6_trySchedules_6 : decode cX6_trySchedules 6 = .ok (.iload_n 2, 1) := by decide +kernel
theorem dX6_trySchedules_7 : decode cX6_trySchedules 7 = .ok (.if_icmp .gt 76, 3) := by decide +kernel
theorem dX6_trySchedules_10 : decode cX6_trySchedules 10 = .ok (.iload_n 2, 1) := by decide +kernel
theorem dX6_trySchedules_11 : decode cX6_trySchedules 11 = .ok (.ineg, 1) := by decide +kernel
theorem dX6_trySchedules_12 : decode cX6_trySchedules 12 = .ok (.istore 6, 2) := by decide +kernel
theorem dX6_trySchedules_14 : decode cX6_trySchedules 14 = .ok (.iload 6, 2) := by decide +kernel
theorem dX6_trySchedules_16 : decode cX6_trySchedules 16 = .ok (.iload_n 2, 1) := by decide +kernel
theorem dX6_trySchedules_17 : decode cX6_trySchedules 17 = .ok (.if_icmp .gt 60, 3) := by decide +kernel
theorem dX6_trySchedules_20 : decode cX6_trySchedules 20 = .ok (.aload_n 1, 1) := by decide +kernel
theorem dX6_trySchedules_21 : decode cX6_trySchedules 21 = .ok (.iload 5, 2) := by decide +kernel
theorem dX6_trySchedules_23 : decode cX6_trySchedules 23 = .ok (.iload 6, 2) := by decide +kernel
theorem dX6_trySchedules_25 : decode cX6_trySchedules 25 = .ok (.invokevirtual 15, 3) := by decide +kernel
theorem dX6_trySchedules_28 : decode cX6_trySchedules 28 = .ok (.ifCond .eq 43, 3) := by decide +kernel
theorem dX6_trySchedules_31 : decode cX6_trySchedules 31 = .ok (.aload_n 1, 1) := by decide +kernel
theorem dX6_trySchedules_32 : decode cX6_trySchedules 32 = .ok (.iload 5, 2) := by decide +kernel
theorem dX6_trySchedules_34 : decode cX6_trySchedules 34 = .ok (.iload 6, 2) := by decide +kernel
theorem dX6_trySchedules_36 : decode cX6_trySchedules 36 = .ok (.iload_n 3, 1) := by decide +kernel
theorem dX6_trySchedules_37 : decode cX6_trySchedules 37 = .ok (.iload 4, 2) := by decide +kernel
theorem dX6_trySchedules_39 : decode cX6_trySchedules 39 = .ok (.invokevirtual 21, 3) := by decide +kernel
theorem dX6_trySchedules_42 : decode cX6_trySchedules 42 = .ok (.ifCond .ne 29, 3) := by decide +kernel
theorem dX6_trySchedules_45 : decode cX6_trySchedules 45 = .ok (.aload_n 0, 1) := by decide +kernel
theorem dX6_trySchedules_46 : decode cX6_trySchedules 46 = .ok (.aload_n 1, 1) := by decide +kernel
theorem dX6_trySchedules_47 : decode cX6_trySchedules 47 = .ok (.iload 5, 2) := by decide +kernel
theorem dX6_trySchedules_49 : decode cX6_trySchedules 49 = .ok (.iload 6, 2) := by decide +kernel
theorem dX6_trySchedules_51 : decode cX6_trySchedules 51 = .ok (.invokevirtual 25, 3) := by decide +kernel
theorem dX6_trySchedules_54 : decode cX6_trySchedules 54 = .ok (.invokevirtual 29, 3) := by decide +kernel
theorem dX6_trySchedules_57 : decode cX6_trySchedules 57 = .ok (.ifCond .eq 14, 3) := by decide +kernel
theorem dX6_trySchedules_60 : decode cX6_trySchedules 60 = .ok (.aload_n 0, 1) := by decide +kernel
theorem dX6_trySchedules_61 : decode cX6_trySchedules 61 = .ok (.iload 5, 2) := by decide +kernel
theorem dX6_trySchedules_63 : decode cX6_trySchedules 63 = .ok (.iload 6, 2) := by decide +kernel
theorem dX6_trySchedules_65 : decode cX6_trySchedules 65 = .ok (.iload_n 3, 1) := by decide +kernel
theorem dX6_trySchedules_66 : decode cX6_trySchedules 66 = .ok (.iload 4, 2) := by decide +kernel
theorem dX6_trySchedules_68 : decode cX6_trySchedules 68 = .ok (.invokevirtual 33, 3) := by decide +kernel
theorem dX6_trySchedules_71 : decode cX6_trySchedules 71 = .ok (.iinc 6 1, 3) := by decide +kernel
theorem dX6_trySchedules_74 : decode cX6_trySchedules 74 = .ok (.goto (-60), 3) := by decide +kernel
theorem dX6_trySchedules_77 : decode cX6_trySchedules 77 = .ok (.iinc 5 1, 3) := by decide +kernel
theorem dX6_trySchedules_80 : decode cX6_trySchedules 80 = .ok (.goto (-76), 3) := by decide +kernel
theorem dX6_trySchedules_83 : decode cX6_trySchedules 83 = .ok (.return_, 1) := by decide +kernel
theorem dX6_tryLines_0 : decode cX6_tryLines 0 = .ok (.bipush (-3), 2) := by decide +kernel
theorem dX6_tryLines_2 : decode cX6_tryLines 2 = .ok (.istore 5, 2) := by decide +kernel
theorem dX6_tryLines_4 : decode cX6_tryLines 4 = .ok (.iload 5, 2) := by decide +kernel
theorem dX6_tryLines_6 : decode cX6_tryLines 6 = .ok (.iconst 3, 1) := by decide +kernel
theorem dX6_tryLines_7 : decode cX6_tryLines 7 = .ok (.if_icmp .gt 76, 3) := by decide +kernel
theorem dX6_tryLines_10 : decode cX6_tryLines 10 = .ok (.bipush (-3), 2) := by decide +kernel
theorem dX6_tryLines_12 : decode cX6_tryLines 12 = .ok (.istore 6, 2) := by decide +kernel
theorem dX6_tryLines_14 : decode cX6_tryLines 14 = .ok (.iload 6, 2) := by decide +kernel
theorem dX6_tryLines_16 : decode cX6_tryLines 16 = .ok (.iconst 3, 1) := by decide +kernel
theorem dX6_tryLines_17 : decode cX6_tryLines 17 = .ok (.if_icmp .gt 60, 3) := by decide +kernel
theorem dX6_tryLines_20 : decode cX6_tryLines 20 = .ok (.iload 5, 2) := by decide +kernel
theorem dX6_tryLines_22 : decode cX6_tryLines 22 = .ok (.iload 6, 2) := by decide +kernel
theorem dX6_tryLines_24 : decode cX6_tryLines 24 = .ok (.invokestatic 37, 3) := by decide +kernel
theorem dX6_tryLines_27 : decode cX6_tryLines 27 = .ok (.ifCond .eq 44, 3) := by decide +kernel
theorem dX6_tryLines_30 : decode cX6_tryLines 30 = .ok (.aload_n 1, 1) := by decide +kernel
theorem dX6_tryLines_31 : decode cX6_tryLines 31 = .ok (.iload_n 2, 1) := by decide +kernel
theorem dX6_tryLines_32 : decode cX6_tryLines 32 = .ok (.iload_n 3, 1) := by decide +kernel
theorem dX6_tryLines_33 : decode cX6_tryLines 33 = .ok (.iload 5, 2) := by decide +kernel
theorem dX6_tryLines_35 : decode cX6_tryLines 35 = .ok (.iload 6, 2) := by decide +kernel
theorem dX6_tryLines_37 : decode cX6_tryLines 37 = .ok (.invokevirtual 21, 3) := by decide +kernel
theorem dX6_tryLines_40 : decode cX6_tryLines 40 = .ok (.ifCond .ne 31, 3) := by decide +kernel
theorem dX6_tryLines_43 : decode cX6_tryLines 43 = .ok (.aload_n 0, 1) := by decide +kernel
theorem dX6_tryLines_44 : decode cX6_tryLines 44 = .ok (.iload 4, 2) := by decide +kernel
theorem dX6_tryLines_46 : decode cX6_tryLines 46 = .ok (.aload_n 1, 1) := by decide +kernel
theorem dX6_tryLines_47 : decode cX6_tryLines 47 = .ok (.iload 5, 2) := by decide +kernel
theorem dX6_tryLines_49 : decode cX6_tryLines 49 = .ok (.iload 6, 2) := by decide +kernel
theorem dX6_tryLines_51 : decode cX6_tryLines 51 = .ok (.invokevirtual 40, 3) := by decide +kernel
theorem dX6_tryLines_54 : decode cX6_tryLines 54 = .ok (.imul, 1) := by decide +kernel
theorem dX6_tryLines_55 : decode cX6_tryLines 55 = .ok (.invokevirtual 29, 3) := by decide +kernel
theorem dX6_tryLines_58 : decode cX6_tryLines 58 = .ok (.ifCond .eq 13, 3) := by decide +kernel
theorem dX6_tryLines_61 : decode cX6_tryLines 61 = .ok (.aload_n 0, 1) := by decide +kernel
theorem dX6_tryLines_62 : decode cX6_tryLines 62 = .ok (.iload_n 2, 1) := by decide +kernel
theorem dX6_tryLines_63 : decode cX6_tryLines 63 = .ok (.iload_n 3, 1) := by decide +kernel
theorem dX6_tryLines_64 : decode cX6_tryLines 64 = .ok (.iload 5, 2) := by decide +kernel
theorem dX6_tryLines_66 : decode cX6_tryLines 66 = .ok (.iload 6, 2) := by decide +kernel
theorem dX6_tryLines_68 : decode cX6_tryLines 68 = .ok (.invokevirtual 33, 3) := by decide +kernel
theorem dX6_tryLines_71 : decode cX6_tryLines 71 = .ok (.iinc 6 1, 3) := by decide +kernel
theorem dX6_tryLines_74 : decode cX6_tryLines 74 = .ok (.goto (-60), 3) := by decide +kernel
theorem dX6_tryLines_77 : decode cX6_tryLines 77 = .ok (.iinc 5 1, 3) := by decide +kernel
theorem dX6_tryLines_80 : decode cX6_tryLines 80 = .ok (.goto (-76), 3) := by decide +kernel
theorem dX6_tryLines_83 : decode cX6_tryLines 83 = .ok (.return_, 1) := by decide +kernel
theorem dX6_tryPairs_0 : decode cX6_tryPairs 0 = .ok (.iload_n 2, 1) := by decide +kernel
theorem dX6_tryPairs_1 : decode cX6_tryPairs 1 = .ok (.ineg, 1) := by decide +kernel
theorem dX6_tryPairs_2 : decode cX6_tryPairs 2 = .ok (.istore_n 3, 1) := by decide +kernel
theorem dX6_tryPairs_3 : decode cX6_tryPairs 3 = .ok (.iload_n 3, 1) := by decide +kernel
theorem dX6_tryPairs_4 : decode cX6_tryPairs 4 = .ok (.iload_n 2, 1) := by decide +kernel
theorem dX6_tryPairs_5 : decode cX6_tryPairs 5 = .ok (.if_icmp .gt 50, 3) := by decide +kernel
theorem dX6_tryPairs_8 : decode cX6_tryPairs 8 = .ok (.iload_n 2, 1) := by decide +kernel
theorem dX6_tryPairs_9 : decode cX6_tryPairs 9 = .ok (.ineg, 1) := by decide +kernel
theorem dX6_tryPairs_10 : decode cX6_tryPairs 10 = .ok (.istore 4, 2) := by decide +kernel
theorem dX6_tryPairs_12 : decode cX6_tryPairs 12 = .ok (.iload 4, 2) := by decide +kernel
theorem dX6_tryPairs_14 : decode cX6_tryPairs 14 = .ok (.iload_n 2, 1) := by decide +kernel
theorem dX6_tryPairs_15 : decode cX6_tryPairs 15 = .ok (.if_icmp .gt 34, 3) := by decide +kernel
theorem dX6_tryPairs_18 : decode cX6_tryPairs 18 = .ok (.aload_n 1, 1) := by decide +kernel
theorem dX6_tryPairs_19 : decode cX6_tryPairs 19 = .ok (.iload_n 3, 1) := by decide +kernel
theorem dX6_tryPairs_20 : decode cX6_tryPairs 20 = .ok (.iload 4, 2) := by decide +kernel
theorem dX6_tryPairs_22 : decode cX6_tryPairs 22 = .ok (.invokevirtual 15, 3) := by decide +kernel
theorem dX6_tryPairs_25 : decode cX6_tryPairs 25 = .ok (.ifCond .eq 18, 3) := by decide +kernel
theorem dX6_tryPairs_28 : decode cX6_tryPairs 28 = .ok (.aload_n 0, 1) := by decide +kernel
theorem dX6_tryPairs_29 : decode cX6_tryPairs 29 = .ok (.aload_n 1, 1) := by decide +kernel
theorem dX6_tryPairs_30 : decode cX6_tryPairs 30 = .ok (.iload_n 3, 1) := by decide +kernel
theorem dX6_tryPairs_31 : decode cX6_tryPairs 31 = .ok (.iload 4, 2) := by decide +kernel
theorem dX6_tryPairs_33 : decode cX6_tryPairs 33 = .ok (.aload_n 1, 1) := by decide +kernel
theorem dX6_tryPairs_34 : decode cX6_tryPairs 34 = .ok (.iload_n 3, 1) := by decide +kernel
theorem dX6_tryPairs_35 : decode cX6_tryPairs 35 = .ok (.iload 4, 2) := by decide +kernel
theorem dX6_tryPairs_37 : decode cX6_tryPairs 37 = .ok (.invokevirtual 25, 3) := by decide +kernel
theorem dX6_tryPairs_40 : decode cX6_tryPairs 40 = .ok (.invokevirtual 43, 3) := by decide +kernel
theorem dX6_tryPairs_43 : decode cX6_tryPairs 43 = .ok (.iinc 4 1, 3) := by decide +kernel
theorem dX6_tryPairs_46 : decode cX6_tryPairs 46 = .ok (.goto (-34), 3) := by decide +kernel
theorem dX6_tryPairs_49 : decode cX6_tryPairs 49 = .ok (.iinc 3 1, 3) := by decide +kernel
theorem dX6_tryPairs_52 : decode cX6_tryPairs 52 = .ok (.goto (-49), 3) := by decide +kernel
theorem dX6_tryPairs_55 : decode cX6_tryPairs 55 = .ok (.return_, 1) := by decide +kernel
theorem dX6_isBetter_0 : decode cX6_isBetter 0 = .ok (.aload_n 0, 1) := by decide +kernel
theorem dX6_isBetter_1 : decode cX6_isBetter 1 = .ok (.dup, 1) := by decide +kernel
theorem dX6_isBetter_2 : decode cX6_isBetter 2 = .ok (.getfield 9, 3) := by decide +kernel
theorem dX6_isBetter_5 : decode cX6_isBetter 5 = .ok (.iconst 1, 1) := by decide +kernel
theorem dX6_isBetter_6 : decode cX6_isBetter 6 = .ok (.iadd, 1) := by decide +kernel
theorem dX6_isBetter_7 : decode cX6_isBetter 7 = .ok (.putfield 9, 3) := by decide +kernel
theorem dX6_isBetter_10 : decode cX6_isBetter 10 = .ok (.aload_n 0, 1) := by decide +kernel
theorem dX6_isBetter_11 : decode cX6_isBetter 11 = .ok (.getfield 9, 3) := by decide +kernel
theorem dX6_isBetter_14 : decode cX6_isBetter 14 = .ok (.iconst 1, 1) := by decide +kernel
theorem dX6_isBetter_15 : decode cX6_isBetter 15 = .ok (.if_icmp .le 13, 3) := by decide +kernel
theorem dX6_isBetter_18 : decode cX6_isBetter 18 = .ok (.iload_n 1, 1) := by decide +kernel
theorem dX6_isBetter_19 : decode cX6_isBetter 19 = .ok (.aload_n 0, 1) := by decide +kernel
theorem dX6_isBetter_20 : decode cX6_isBetter 20 = .ok (.getfield 47, 3) := by decide +kernel
theorem dX6_isBetter_23 : decode cX6_isBetter 23 = .ok (.if_icmp .lt 5, 3) := by decide +kernel
theorem dX6_isBetter_26 : decode cX6_isBetter 26 = .ok (.iconst 0, 1) := by decide +kernel
theorem dX6_isBetter_27 : decode cX6_isBetter 27 = .ok (.ireturn, 1) := by decide +kernel
theorem dX6_isBetter_28 : decode cX6_isBetter 28 = .ok (.aload_n 0, 1) := by decide +kernel
theorem dX6_isBetter_29 : decode cX6_isBetter 29 = .ok (.iload_n 1, 1) := by decide +kernel
theorem dX6_isBetter_30 : decode cX6_isBetter 30 = .ok (.putfield 47, 3) := by decide +kernel
theorem dX6_isBetter_33 : decode cX6_isBetter 33 = .ok (.iconst 1, 1) := by decide +kernel
theorem dX6_isBetter_34 : decode cX6_isBetter 34 = .ok (.ireturn, 1) := by decide +kernel
theorem dX6_keep_0 : decode cX6_keep 0 = .ok (.aload_n 0, 1) := by decide +kernel
theorem dX6_keep_1 : decode cX6_keep 1 = .ok (.iload_n 1, 1) := by decide +kernel
theorem dX6_keep_2 : decode cX6_keep 2 = .ok (.putfield 50, 3) := by decide +kernel
theorem dX6_keep_5 : decode cX6_keep 5 = .ok (.aload_n 0, 1) := by decide +kernel
theorem dX6_keep_6 : decode cX6_keep 6 = .ok (.iload_n 2, 1) := by decide +kernel
theorem dX6_keep_7 : decode cX6_keep 7 = .ok (.putfield 53, 3) := by decide +kernel
theorem dX6_keep_10 : decode cX6_keep 10 = .ok (.aload_n 0, 1) := by decide +kernel
theorem dX6_keep_11 : decode cX6_keep 11 = .ok (.iload_n 3, 1) := by decide +kernel
theorem dX6_keep_12 : decode cX6_keep 12 = .ok (.putfield 56, 3) := by decide +kernel
theorem dX6_keep_15 : decode cX6_keep 15 = .ok (.aload_n 0, 1) := by decide +kernel
theorem dX6_keep_16 : decode cX6_keep 16 = .ok (.iload 4, 2) := by decide +kernel
theorem dX6_keep_18 : decode cX6_keep 18 = .ok (.putfield 59, 3) := by decide +kernel
theorem dX6_keep_21 : decode cX6_keep 21 = .ok (.return_, 1) := by decide +kernel
theorem dX7_init_0 : decode cX7_init 0 = .ok (.aload_n 0, 1) := by decide +kernel
theorem dX7_init_1 : decode cX7_init 1 = .ok (.invokespecial 1, 3) := by decide +kernel
theorem dX7_init_4 : decode cX7_init 4 = .ok (.aload_n 0, 1) := by decide +kernel
theorem dX7_init_5 : decode cX7_init 5 = .ok (.sipush 800, 3) := by decide +kernel
theorem dX7_init_8 : decode cX7_init 8 = .ok (.newarray .byte, 2) := by decide +kernel
theorem dX7_init_10 : decode cX7_init 10 = .ok (.putfield 9, 3) := by decide +kernel
theorem dX7_init_13 : decode cX7_init 13 = .ok (.return_, 1) := by decide +kernel
theorem dX7_put_0 : decode cX7_put 0 = .ok (.bipush 24, 2) := by decide +kernel
theorem dX7_put_2 : decode cX7_put 2 = .ok (.istore_n 2, 1) := by decide +kernel
theorem dX7_put_3 : decode cX7_put 3 = .ok (.iload_n 2, 1) := by decide +kernel
theorem dX7_put_4 : decode cX7_put 4 = .ok (.ifCond .lt 42, 3) := by decide +kernel
theorem dX7_put_7 : decode cX7_put 7 = .ok (.aload_n 0, 1) := by decide +kernel
theorem dX7_put_8 : decode cX7_put 8 = .ok (.getfield 13, 3) := by decide +kernel
theorem dX7_put_11 : decode cX7_put 11 = .ok (.sipush 800, 3) := by decide +kernel
theorem dX7_put_14 : decode cX7_put 14 = .ok (.if_icmp .ge 32, 3) := by decide +kernel
theorem dX7_put_17 : decode cX7_put 17 = .ok (.aload_n 0, 1) := by decide +kernel
theorem dX7_put_18 : decode cX7_put 18 = .ok (.getfield 9, 3) := by decide +kernel
theorem dX7_put_21 : decode cX7_put 21 = .ok (.aload_n 0, 1) := by decide +kernel
theorem dX7_put_22 : decode cX7_put 22 = .ok (.getfield 13, 3) := by decide +kernel
theorem dX7_put_25 : decode cX7_put 25 = .ok (.iload_n 1, 1) := by decide +kernel
theorem dX7_put_26 : decode cX7_put 26 = .ok (.iload_n 2, 1) := by decide +kernel
theorem dX7_put_27 : decode cX7_put 27 = .ok (.iushr, 1) := by decide +kernel
theorem dX7_put_28 : decode cX7_put 28 = .ok (.i2b, 1) := by decide +kernel
theorem dX7_put_29 : decode cX7_put 29 = .ok (.bastore, 1) := by decide +kernel
theorem dX7_put_30 : decode cX7_put 30 = .ok (.aload_n 0, 1) := by decide +kernel
theorem dX7_put_31 : decode cX7_put 31 = .ok (.dup, 1) := by decide +kernel
theorem dX7_put_32 : decode cX7_put 32 = .ok (.getfield 13, 3) := by decide +kernel
theorem dX7_put_35 : decode cX7_put 35 = .ok (.iconst 1, 1) := by decide +kernel
theorem dX7_put_36 : decode cX7_put 36 = .ok (.iadd, 1) := by decide +kernel
theorem dX7_put_37 : decode cX7_put 37 = .ok (.putfield 13, 3) := by decide +kernel
theorem dX7_put_40 : decode cX7_put 40 = .ok (.iinc 2 (-8), 3) := by decide +kernel
theorem dX7_put_43 : decode cX7_put 43 = .ok (.goto (-40), 3) := by decide +kernel
theorem dX7_put_46 : decode cX7_put 46 = .ok (.return_, 1) := by decide +kernel
theorem dX7_rewind_0 : decode cX7_rewind 0 = .ok (.aload_n 0, 1) := by decide +kernel
theorem dX7_rewind_1 : decode cX7_rewind 1 = .ok (.iconst 0, 1) := by decide +kernel
theorem dX7_rewind_2 : decode cX7_rewind 2 = .ok (.putfield 17, 3) := by decide +kernel
theorem dX7_rewind_5 : decode cX7_rewind 5 = .ok (.aload_n 0, 1) := by decide +kernel
theorem dX7_rewind_6 : decode cX7_rewind 6 = .ok (.invokevirtual 20, 3) := by decide +kernel
theorem dX7_rewind_9 : decode cX7_rewind 9 = .ok (.return_, 1) := by decide +kernel
theorem dX7_step_0 : decode cX7_step 0 = .ok (.aload_n 0, 1) := by decide +kernel
theorem dX7_step_1 : decode cX7_step 1 = .ok (.getfield 17, 3) := by decide +kernel
theorem dX7_step_4 : decode cX7_step 4 = .ok (.aload_n 0, 1) := by decide +kernel
theorem dX7_step_5 : decode cX7_step 5 = .ok (.getfield 13, 3) := by decide +kernel
theorem dX7_step_8 : decode cX7_step 8 = .ok (.if_icmp .ge 32, 3) := by decide +kernel
theorem dX7_step_11 : decode cX7_step 11 = .ok (.aload_n 0, 1) := by decide +kernel
theorem dX7_step_12 : decode cX7_step 12 = .ok (.getfield 9, 3) := by decide +kernel
theorem dX7_step_15 : decode cX7_step 15 = .ok (.aload_n 0, 1) := by decide +kernel
theorem dX7_step_16 : decode cX7_step 16 = .ok (.getfield 17, 3) := by decide +kernel
theorem dX7_step_19 : decode cX7_step 19 = .ok (.baload, 1) := by decide +kernel
theorem dX7_step_20 : decode cX7_step 20 = .ok (.invokestatic 23, 3) := by decide +kernel
theorem dX7_step_23 : decode cX7_step 23 = .ok (.iconst 2, 1) := by decide +kernel
theorem dX7_step_24 : decode cX7_step 24 = .ok (.if_icmp .ne 16, 3) := by decide +kernel
theorem dX7_step_27 : decode cX7_step 27 = .ok (.aload_n 0, 1) := by decide +kernel
theorem dX7_step_28 : decode cX7_step 28 = .ok (.dup, 1) := by decide +kernel
theorem dX7_step_29 : decode cX7_step 29 = .ok (.getfield 17, 3) := by decide +kernel
theorem dX7_step_32 : decode cX7_step 32 = .ok (.iconst 1, 1) := by decide +kernel
theorem dX7_step_33 : decode cX7_step 33 = .ok (.iadd, 1) := by decide +kernel
theorem dX7_step_34 : decode cX7_step 34 = .ok (.putfield 17, 3) := by decide +kernel
theorem dX7_step_37 : decode cX7_step 37 = .ok (.goto (-37), 3) := by decide +kernel
theorem dX7_step_40 : decode cX7_step 40 = .ok (.aload_n 0, 1) := by decide +kernel
theorem dX7_step_41 : decode cX7_step 41 = .ok (.aload_n 0, 1) := by decide +kernel
theorem dX7_step_42 : decode cX7_step 42 = .ok (.getfield 17, 3) := by decide +kernel
theorem dX7_step_45 : decode cX7_step 45 = .ok (.putfield 27, 3) := by decide +kernel
theorem dX7_step_48 : decode cX7_step 48 = .ok (.aload_n 0, 1) := by decide +kernel
theorem dX7_step_49 : decode cX7_step 49 = .ok (.getfield 17, 3) := by decide +kernel
theorem dX7_step_52 : decode cX7_step 52 = .ok (.aload_n 0, 1) := by decide +kernel
theorem dX7_step_53 : decode cX7_step 53 = .ok (.getfield 13, 3) := by decide +kernel
theorem dX7_step_56 : decode cX7_step 56 = .ok (.if_icmp .lt 9, 3) := by decide +kernel
theorem dX7_step_59 : decode cX7_step 59 = .ok (.aload_n 0, 1) := by decide +kernel
theorem dX7_step_60 : decode cX7_step 60 = .ok (.iconst 0, 1) := by decide +kernel
theorem dX7_step_61 : decode cX7_step 61 = .ok (.putfield 30, 3) := by decide +kernel
theorem dX7_step_64 : decode cX7_step 64 = .ok (.return_, 1) := by decide +kernel
theorem dX7_step_65 : decode cX7_step 65 = .ok (.aload_n 0, 1) := by decide +kernel
theorem dX7_step_66 : decode cX7_step 66 = .ok (.aload_n 0, 1) := by decide +kernel
theorem dX7_step_67 : decode cX7_step 67 = .ok (.getfield 9, 3) := by decide +kernel
theorem dX7_step_70 : decode cX7_step 70 = .ok (.aload_n 0, 1) := by decide +kernel
theorem dX7_step_71 : decode cX7_step 71 = .ok (.getfield 17, 3) := by decide +kernel
theorem dX7_step_74 : decode cX7_step 74 = .ok (.baload, 1) := by decide +kernel
theorem dX7_step_75 : decode cX7_step 75 = .ok (.invokestatic 23, 3) := by decide +kernel
theorem dX7_step_78 : decode cX7_step 78 = .ok (.putfield 30, 3) := by decide +kernel
theorem dX7_step_81 : decode cX7_step 81 = .ok (.aload_n 0, 1) := by decide +kernel
theorem dX7_step_82 : decode cX7_step 82 = .ok (.getfield 30, 3) := by decide +kernel
theorem dX7_step_85 : decode cX7_step 85 = .ok (.iconst 3, 1) := by decide +kernel
theorem dX7_step_86 : decode cX7_step 86 = .ok (.if_icmp .eq 11, 3) := by decide +kernel
theorem dX7_step_89 : decode cX7_step 89 = .ok (.aload_n 0, 1) := by decide +kernel
theorem dX7_step_90 : decode cX7_step 90 = .ok (.getfield 30, 3) := by decide +kernel
theorem dX7_step_93 : decode cX7_step 93 = .ok (.iconst 4, 1) := by decide +kernel
theorem dX7_step_94 : decode cX7_step 94 = .ok (.if_icmp .ne 7, 3) := by decide +kernel
theorem dX7_step_97 : decode cX7_step 97 = .ok (.iconst 1, 1) := by decide +kernel
theorem dX7_step_98 : decode cX7_step 98 = .ok (.goto 4, 3) := by decide +kernel
theorem dX7_step_101 : decode cX7_step 101 = .ok (.iconst 0, 1) := by decide +kernel
theorem dX7_step_102 : decode cX7_step 102 = .ok (.istore_n 1, 1) := by decide +kernel
theorem dX7_step_103 : decode cX7_step 103 = .ok (.aload_n 0, 1) := by decide +kernel
theorem dX7_step_104 : decode cX7_step 104 = .ok (.dup, 1) := by decide +kernel
theorem dX7_step_105 : decode cX7_step 105 = .ok (.getfield 17, 3) := by decide +kernel
theorem dX7_step_108 : decode cX7_step 108 = .ok (.iconst 1, 1) := by decide +kernel
theorem dX7_step_109 : decode cX7_step 109 = .ok (.iadd, 1) := by decide +kernel
theorem dX7_step_110 : decode cX7_step 110 = .ok (.putfield 17, 3) := by decide +kernel
theorem dX7_step_113 : decode cX7_step 113 = .ok (.iload_n 1, 1) := by decide +kernel
theorem dX7_step_114 : decode cX7_step 114 = .ok (.ifCond .eq 46, 3) := by decide +kernel
theorem dX7_step_117 : decode cX7_step 117 = .ok (.aload_n 0, 1) := by decide +kernel
theorem dX7_step_118 : decode cX7_step 118 = .ok (.getfield 17, 3) := by decide +kernel
theorem dX7_step_121 : decode cX7_step 121 = .ok (.aload_n 0, 1) := by decide +kernel
theorem dX7_step_122 : decode cX7_step 122 = .ok (.getfield 13, 3) := by decide +kernel
theorem dX7_step_125 : decode cX7_step 125 = .ok (.if_icmp .ge 35, 3) := by decide +kernel
theorem dX7_step_128 : decode cX7_step 128 = .ok (.aload_n 0, 1) := by decide +kernel
theorem dX7_step_129 : decode cX7_step 129 = .ok (.getfield 9, 3) := by decide +kernel
theorem dX7_step_132 : decode cX7_step 132 = .ok (.aload_n 0, 1) := by decide +kernel
theorem dX7_step_133 : decode cX7_step 133 = .ok (.getfield 17, 3) := by decide +kernel
theorem dX7_step_136 : decode cX7_step 136 = .ok (.baload, 1) := by decide +kernel
theorem dX7_step_137 : decode cX7_step 137 = .ok (.invokestatic 23, 3) := by decide +kernel
theorem dX7_step_140 : decode cX7_step 140 = .ok (.aload_n 0, 1) := by decide +kernel
theorem dX7_step_141 : decode cX7_step 141 = .ok (.getfield 30, 3) := by decide +kernel
theorem dX7_step_144 : decode cX7_step 144 = .ok (.if_icmp .ne 16, 3) := by decide +kernel
theorem dX7_step_147 : decode cX7_step 147 = .ok (.aload_n 0, 1) := by decide +kernel
theorem dX7_step_148 : decode cX7_step 148 = .ok (.dup, 1) := by decide +kernel
theorem dX7_step_149 : decode cX7_step 149 = .ok (.getfield 17, 3) := by decide +kernel
theorem dX7_step_152 : decode cX7_step 152 = .ok (.iconst 1, 1) := by decide +kernel
theorem dX7_step_153 : decode cX7_step 153 = .ok (.iadd, 1) := by decide +kernel
theorem dX7_step_154 : decode cX7_step 154 = .ok (.putfield 17, 3) := by decide +kernel
theorem dX7_step_157 : decode cX7_step 157 = .ok (.goto (-44), 3) := by decide +kernel
theorem dX7_step_160 : decode cX7_step 160 = .ok (.aload_n 0, 1) := by decide +kernel
theorem dX7_step_161 : decode cX7_step 161 = .ok (.aload_n 0, 1) := by decide +kernel
theorem dX7_step_162 : decode cX7_step 162 = .ok (.getfield 30, 3) := by decide +kernel
theorem dX7_step_165 : decode cX7_step 165 = .ok (.iconst 4, 1) := by decide +kernel
theorem dX7_step_166 : decode cX7_step 166 = .ok (.if_icmp .ne 10, 3) := by decide +kernel
theorem dX7_step_169 : decode cX7_step 169 = .ok (.aload_n 0, 1) := by decide +kernel
theorem dX7_step_170 : decode cX7_step 170 = .ok (.invokevirtual 33, 3) := by decide +kernel
theorem dX7_step_173 : decode cX7_step 173 = .ok (.goto 4, 3) := by decide +kernel
theorem dX7_step_176 : decode cX7_step 176 = .ok (.iconst 0, 1) := by decide +kernel
theorem dX7_step_177 : decode cX7_step 177 = .ok (.putfield 37, 3) := by decide +kernel
theorem dX7_step_180 : decode cX7_step 180 = .ok (.return_, 1) := by decide +kernel
theorem dX7_kindOf_0 : decode cX7_kindOf 0 = .ok (.iload_n 0, 1) := by decide +kernel
theorem dX7_kindOf_1 : decode cX7_kindOf 1 = .ok (.bipush 97, 2) := by decide +kernel
theorem dX7_kindOf_3 : decode cX7_kindOf 3 = .ok (.if_icmp .lt 11, 3) := by decide +kernel
theorem dX7_kindOf_6 : decode cX7_kindOf 6 = .ok (.iload_n 0, 1) := by decide +kernel
theorem dX7_kindOf_7 : decode cX7_kindOf 7 = .ok (.bipush 122, 2) := by decide +kernel
theorem dX7_kindOf_9 : decode cX7_kindOf 9 = .ok (.if_icmp .gt 5, 3) := by decide +kernel
theorem dX7_kindOf_12 : decode cX7_kindOf 12 = .ok (.iconst 3, 1) := by decide +kernel
theorem dX7_kindOf_13 : decode cX7_kindOf 13 = .ok (.ireturn, 1) := by decide +kernel
theorem dX7_kindOf_14 : decode cX7_kindOf 14 = .ok (.iload_n 0, 1) := by decide +kernel
theorem dX7_kindOf_15 : decode cX7_kindOf 15 = .ok (.bipush 48, 2) := by decide +kernel
theorem dX7_kindOf_17 : decode cX7_kindOf 17 = .ok (.if_icmp .lt 11, 3) := by decide +kernel
theorem dX7_kindOf_20 : decode cX7_kindOf 20 = .ok (.iload_n 0, 1) := by decide +kernel
theorem dX7_kindOf_21 : decode cX7_kindOf 21 = .ok (.bipush 57, 2) := by decide +kernel
theorem dX7_kindOf_23 : decode cX7_kindOf 23 = .ok (.if_icmp .gt 5, 3) := by decide +kernel
theorem dX7_kindOf_26 : decode cX7_kindOf 26 = .ok (.iconst 4, 1) := by decide +kernel
theorem dX7_kindOf_27 : decode cX7_kindOf 27 = .ok (.ireturn, 1) := by decide +kernel
theorem dX7_kindOf_28 : decode cX7_kindOf 28 = .ok (.iload_n 0, 1) := by decide +kernel
theorem dX7_kindOf_29 : decode cX7_kindOf 29 = .ok (.lookupswitch 113 #[(10, 107), (32, 107), (40, 109), (41, 109), (42, 111), (43, 111), (44, 109), (45, 111), (59, 109), (60, 111), (61, 109), (62, 111)], 107) := by decide +kernel
theorem dX7_kindOf_136 : decode cX7_kindOf 136 = .ok (.iconst 2, 1) := by decide +kernel
theorem dX7_kindOf_137 : decode cX7_kindOf 137 = .ok (.ireturn, 1) := by decide +kernel
theorem dX7_kindOf_138 : decode cX7_kindOf 138 = .ok (.iload_n 0, 1) := by decide +kernel
theorem dX7_kindOf_139 : decode cX7_kindOf 139 = .ok (.ireturn, 1) := by decide +kernel
theorem dX7_kindOf_140 : decode cX7_kindOf 140 = .ok (.iload_n 0, 1) := by decide +kernel
theorem dX7_kindOf_141 : decode cX7_kindOf 141 = .ok (.ireturn, 1) := by decide +kernel
theorem dX7_kindOf_142 : decode cX7_kindOf 142 = .ok (.iconst 1, 1) := by decide +kernel
theorem dX7_kindOf_143 : decode cX7_kindOf 143 = .ok (.ireturn, 1) := by decide +kernel
theorem dX7_digits_0 : decode cX7_digits 0 = .ok (.iconst 0, 1) := by decide +kernel
theorem dX7_digits_1 : decode cX7_digits 1 = .ok (.istore_n 1, 1) := by decide +kernel
theorem dX7_digits_2 : decode cX7_digits 2 = .ok (.aload_n 0, 1) := by decide +kernel
theorem dX7_digits_3 : decode cX7_digits 3 = .ok (.getfield 27, 3) := by decide +kernel
theorem dX7_digits_6 : decode cX7_digits 6 = .ok (.istore_n 2, 1) := by decide +kernel
theorem dX7_digits_7 : decode cX7_digits 7 = .ok (.iload_n 2, 1) := by decide +kernel
theorem dX7_digits_8 : decode cX7_digits 8 = .ok (.aload_n 0, 1) := by decide +kernel
theorem dX7_digits_9 : decode cX7_digits 9 = .ok (.getfield 17, 3) := by decide +kernel
theorem dX7_digits_12 : decode cX7_digits 12 = .ok (.if_icmp .ge 35, 3) := by decide +kernel
theorem dX7_digits_15 : decode cX7_digits 15 = .ok (.iload_n 1, 1) := by decide +kernel
theorem dX7_digits_16 : decode cX7_digits 16 = .ok (.ldc 40, 2) := by decide +kernel
theorem dX7_digits_18 : decode cX7_digits 18 = .ok (.if_icmp .ge 20, 3) := by decide +kernel
theorem dX7_digits_21 : decode cX7_digits 21 = .ok (.iload_n 1, 1) := by decide +kernel
theorem dX7_digits_22 : decode cX7_digits 22 = .ok (.bipush 10, 2) := by decide +kernel
theorem dX7_digits_24 : decode cX7_digits 24 = .ok (.imul, 1) := by decide +kernel
theorem dX7_digits_25 : decode cX7_digits 25 = .ok (.aload_n 0, 1) := by decide +kernel
theorem dX7_digits_26 : decode cX7_digits 26 = .ok (.getfield 9, 3) := by decide +kernel
theorem dX7_digits_29 : decode cX7_digits 29 = .ok (.iload_n 2, 1) := by decide +kernel
theorem dX7_digits_30 : decode cX7_digits 30 = .ok (.baload, 1) := by decide +kernel
theorem dX7_digits_31 : decode cX7_digits 31 = .ok (.iadd, 1) := by decide +kernel
theorem dX7_digits_32 : decode cX7_digits 32 = .ok (.bipush 48, 2) := by decide +kernel
theorem dX7_digits_34 : decode cX7_digits 34 = .ok (.isub, 1) := by decide +kernel
theorem dX7_digits_35 : decode cX7_digits 35 = .ok (.goto 5, 3) := by decide +kernel
theorem dX7_digits_38 : decode cX7_digits 38 = .ok (.ldc 40, 2) := by decide +kernel
theorem dX7_digits_40 : decode cX7_digits 40 = .ok (.istore_n 1, 1) := by decide +kernel
theorem dX7_digits_41 : decode cX7_digits 41 = .ok (.iinc 2 1, 3) := by decide +kernel
theorem dX7_digits_44 : decode cX7_digits 44 = .ok (.goto (-37), 3) := by decide +kernel
theorem dX7_digits_47 : decode cX7_digits 47 = .ok (.iload_n 1, 1) := by decide +kernel
theorem dX7_digits_48 : decode cX7_digits 48 = .ok (.ireturn, 1) := by decide +kernel
theorem dX7_isWord_0 : decode cX7_isWord 0 = .ok (.aload_n 0, 1) := by decide +kernel
theorem dX7_isWord_1 : decode cX7_isWord 1 = .ok (.getfield 30, 3) := by decide +kernel
theorem dX7_isWord_4 : decode cX7_isWord 4 = .ok (.iconst 3, 1) := by decide +kernel
theorem dX7_isWord_5 : decode cX7_isWord 5 = .ok (.if_icmp .ne 19, 3) := by decide +kernel
theorem dX7_isWord_8 : decode cX7_isWord 8 = .ok (.aload_n 0, 1) := by decide +kernel
theorem dX7_isWord_9 : decode cX7_isWord 9 = .ok (.getfield 17, 3) := by decide +kernel
theorem dX7_isWord_12 : decode cX7_isWord 12 = .ok (.aload_n 0, 1) := by decide +kernel
theorem dX7_isWord_13 : decode cX7_isWord 13 = .ok (.getfield 27, 3) := by decide +kernel
theorem dX7_isWord_16 : decode cX7_isWord 16 = .ok (.isub, 1) := by decide +kernel
theorem dX7_isWord_17 : decode cX7_isWord 17 = .ok (.aload_n 1, 1) := by decide +kernel
theorem dX7_isWord_18 : decode cX7_isWord 18 = .ok (.invokevirtual 41, 3) := by decide +kernel
theorem dX7_isWord_21 : decode cX7_isWord 21 = .ok (.if_icmp .eq 5, 3) := by decide +kernel
theorem dX7_isWord_24 : decode cX7_isWord 24 = .ok (.iconst 0, 1) := by decide +kernel
theorem dX7_isWord_25 : decode cX7_isWord 25 = .ok (.ireturn, 1) := by decide +kernel
theorem dX7_isWord_26 : decode cX7_isWord 26 = .ok (.iconst 0, 1) := by decide +kernel
theorem dX7_isWord_27 : decode cX7_isWord 27 = .ok (.istore_n 2, 1) := by decide +kernel
theorem dX7_isWord_28 : decode cX7_isWord 28 = .ok (.iload_n 2, 1) := by decide +kernel
theorem dX7_isWord_29 : decode cX7_isWord 29 = .ok (.aload_n 1, 1) := by decide +kernel
theorem dX7_isWord_30 : decode cX7_isWord 30 = .ok (.invokevirtual 41, 3) := by decide +kernel
theorem dX7_isWord_33 : decode cX7_isWord 33 = .ok (.if_icmp .ge 30, 3) := by decide +kernel
theorem dX7_isWord_36 : decode cX7_isWord 36 = .ok (.aload_n 0, 1) := by decide +kernel
theorem dX7_isWord_37 : decode cX7_isWord 37 = .ok (.getfield 9, 3) := by decide +kernel
theorem dX7_isWord_40 : decode cX7_isWord 40 = .ok (.aload_n 0, 1) := by decide +kernel
theorem dX7_isWord_41 : decode cX7_isWord 41 = .ok (.getfield 27, 3) := by decide +kernel
theorem dX7_isWord_44 : decode cX7_isWord 44 = .ok (.iload_n 2, 1) := by decide +kernel
theorem dX7_isWord_45 : decode cX7_isWord 45 = .ok (.iadd, 1) := by decide +kernel
theorem dX7_isWord_46 : decode cX7_isWord 46 = .ok (.baload, 1) := by decide +kernel
theorem dX7_isWord_47 : decode cX7_isWord 47 = .ok (.aload_n 1, 1) := by decide +kernel
theorem dX7_isWord_48 : decode cX7_isWord 48 = .ok (.iload_n 2, 1) := by decide +kernel
theorem dX7_isWord_49 : decode cX7_isWord 49 = .ok (.invokevirtual 45, 3) := by decide +kernel
theorem dX7_isWord_52 : decode cX7_isWord 52 = .ok (.if_icmp .eq 5, 3) := by decide +kernel
theorem dX7_isWord_55 : decode cX7_isWord 55 = .ok (.iconst 0, 1) := by decide +kernel
theorem dX7_isWord_56 : decode cX7_isWord 56 = .ok (.ireturn, 1) := by decide +kernel
theorem dX7_isWord_57 : decode cX7_isWord 57 = .ok (.iinc 2 1, 3) := by decide +kernel
theorem dX7_isWord_60 : decode cX7_isWord 60 = .ok (.goto (-32), 3) := by decide +kernel
theorem dX7_isWord_63 : decode cX7_isWord 63 = .ok (.iconst 1, 1) := by decide +kernel
theorem dX7_isWord_64 : decode cX7_isWord 64 = .ok (.ireturn, 1) := by decide +kernel
theorem dX7_isName_0 : decode cX7_isName 0 = .ok (.aload_n 0, 1) := by decide +kernel
theorem dX7_isName_1 : decode cX7_isName 1 = .ok (.getfield 30, 3) := by decide +kernel
theorem dX7_isName_4 : decode cX7_isName 4 = .ok (.iconst 3, 1) := by decide +kernel
theorem dX7_isName_5 : decode cX7_isName 5 = .ok (.if_icmp .ne 70, 3) := by decide +kernel
theorem dX7_isName_8 : decode cX7_isName 8 = .ok (.aload_n 0, 1) := by decide +kernel
theorem dX7_isName_9 : decode cX7_isName 9 = .ok (.ldc 49, 2) := by decide +kernel
theorem dX7_isName_11 : decode cX7_isName 11 = .ok (.invokevirtual 51, 3) := by decide +kernel
theorem dX7_isName_14 : decode cX7_isName 14 = .ok (.ifCond .ne 61, 3) := by decide +kernel
theorem dX7_isName_17 : decode cX7_isName 17 = .ok (.aload_n 0, 1) := by decide +kernel
theorem dX7_isName_18 : decode cX7_isName 18 = .ok (.ldc 55, 2) := by decide +kernel
theorem dX7_isName_20 : decode cX7_isName 20 = .ok (.invokevirtual 51, 3) := by decide +kernel
theorem dX7_isName_23 : decode cX7_isName 23 = .ok (.ifCond .ne 52, 3) := by decide +kernel
theorem dX7_isName_26 : decode cX7_isName 26 = .ok (.aload_n 0, 1) := by decide +kernel
theorem dX7_isName_27 : decode cX7_isName 27 = .ok (.ldc 57, 2) := by decide +kernel
theorem dX7_isName_29 : decode cX7_isName 29 = .ok (.invokevirtual 51, 3) := by decide +kernel
theorem dX7_isName_32 : decode cX7_isName 32 = .ok (.ifCond .ne 43, 3) := by decide +kernel
theorem dX7_isName_35 : decode cX7_isName 35 = .ok (.aload_n 0, 1) := by decide +kernel
theorem dX7_isName_36 : decode cX7_isName 36 = .ok (.ldc 59, 2) := by decide +kernel
theorem dX7_isName_38 : decode cX7_isName 38 = .ok (.invokevirtual 51, 3) := by decide +kernel
theorem dX7_isName_41 : decode cX7_isName 41 = .ok (.ifCond .ne 34, 3) := by decide +kernel
theorem dX7_isName_44 : decode cX7_isName 44 = .ok (.aload_n 0, 1) := by decide +kernel
theorem dX7_isName_45 : decode cX7_isName 45 = .ok (.ldc 61, 2) := by decide +kernel
theorem dX7_isName_47 : decode cX7_isName 47 = .ok (.invokevirtual 51, 3) := by decide +kernel
theorem dX7_isName_50 : decode cX7_isName 50 = .ok (.ifCond .ne 25, 3) := by decide +kernel
theorem dX7_isName_53 : decode cX7_isName 53 = .ok (.aload_n 0, 1) := by decide +kernel
theorem dX7_isName_54 : decode cX7_isName 54 = .ok (.ldc 63, 2) := by decide +kernel
theorem dX7_isName_56 : decode cX7_isName 56 = .ok (.invokevirtual 51, 3) := by decide +kernel
theorem dX7_isName_59 : decode cX7_isName 59 = .ok (.ifCond .ne 16, 3) := by decide +kernel
theorem dX7_isName_62 : decode cX7_isName 62 = .ok (.aload_n 0, 1) := by decide +kernel
theorem dX7_isName_63 : decode cX7_isName 63 = .ok (.ldc 65, 2) := by decide +kernel
theorem dX7_isName_65 : decode cX7_isName 65 = .ok (.invokevirtual 51, 3) := by decide +kernel
theorem dX7_isName_68 : decode cX7_isName 68 = .ok (.ifCond .ne 7, 3) := by decide +kernel
theorem dX7_isName_71 : decode cX7_isName 71 = .ok (.iconst 1, 1) := by decide +kernel
theorem dX7_isName_72 : decode cX7_isName 72 = .ok (.goto 4, 3) := by decide +kernel
theorem dX7_isName_75 : decode cX7_isName 75 = .ok (.iconst 0, 1) := by decide +kernel
theorem dX7_isName_76 : decode cX7_isName 76 = .ok (.ireturn, 1) := by decide +kernel
theorem dX7_isSameAs_0 : decode cX7_isSameAs 0 = .ok (.iload_n 2, 1) := by decide +kernel
theorem dX7_isSameAs_1 : decode cX7_isSameAs 1 = .ok (.iload_n 1, 1) := by decide +kernel
theorem dX7_isSameAs_2 : decode cX7_isSameAs 2 = .ok (.isub, 1) := by decide +kernel
theorem dX7_isSameAs_3 : decode cX7_isSameAs 3 = .ok (.aload_n 0, 1) := by decide +kernel
theorem dX7_isSameAs_4 : decode cX7_isSameAs 4 = .ok (.getfield 17, 3) := by decide +kernel
theorem dX7_isSameAs_7 : decode cX7_isSameAs 7 = .ok (.aload_n 0, 1) := by decide +kernel
theorem dX7_isSameAs_8 : decode cX7_isSameAs 8 = .ok (.getfield 27, 3) := by decide +kernel
theorem dX7_isSameAs_11 : decode cX7_isSameAs 11 = .ok (.isub, 1) := by decide +kernel
theorem dX7_isSameAs_12 : decode cX7_isSameAs 12 = .ok (.if_icmp .eq 5, 3) := by decide +kernel
theorem dX7_isSameAs_15 : decode cX7_isSameAs 15 = .ok (.iconst 0, 1) := by decide +kernel
theorem dX7_isSameAs_16 : decode cX7_isSameAs 16 = .ok (.ireturn, 1) := by decide +kernel
theorem dX7_isSameAs_17 : decode cX7_isSameAs 17 = .ok (.iconst 0, 1) := by decide +kernel
theorem dX7_isSameAs_18 : decode cX7_isSameAs 18 = .ok (.istore_n 3, 1) := by decide +kernel
theorem dX7_isSameAs_19 : decode cX7_isSameAs 19 = .ok (.iload_n 3, 1) := by decide +kernel
theorem dX7_isSameAs_20 : decode cX7_isSameAs 20 = .ok (.iload_n 2, 1) := by decide +kernel
theorem dX7_isSameAs_21 : decode cX7_isSameAs 21 = .ok (.iload_n 1, 1) := by decide +kernel
theorem dX7_isSameAs_22 : decode cX7_isSameAs 22 = .ok (.isub, 1) := by decide +kernel
theorem dX7_isSameAs_23 : decode cX7_isSameAs 23 = .ok (.if_icmp .ge 33, 3) := by decide +kernel
theorem dX7_isSameAs_26 : decode cX7_isSameAs 26 = .ok (.aload_n 0, 1) := by decide +kernel
theorem dX7_isSameAs_27 : decode cX7_isSameAs 27 = .ok (.getfield 9, 3) := by decide +kernel
theorem dX7_isSameAs_30 : decode cX7_isSameAs 30 = .ok (.iload_n 1, 1) := by decide +kernel
theorem dX7_isSameAs_31 : decode cX7_isSameAs 31 = .ok (.iload_n 3, 1) := by decide +kernel
theorem dX7_isSameAs_32 : decode cX7_isSameAs 32 = .ok (.iadd, 1) := by decide +kernel
theorem dX7_isSameAs_33 : decode cX7_isSameAs 33 = .ok (.baload, 1) := by decide +kernel
theorem dX7_isSameAs_34 : decode cX7_isSameAs 34 = .ok (.aload_n 0, 1) := by decide +kernel
theorem dX7_isSameAs_35 : decode cX7_isSameAs 35 = .ok (.getfield 9, 3) := by decide +kernel
theorem dX7_isSameAs_38 : decode cX7_isSameAs 38 = .ok (.aload_n 0, 1) := by decide +kernel
theorem dX7_isSameAs_39 : decode cX7_isSameAs 39 = .ok (.getfield 27, 3) := by decide +kernel
theorem dX7_isSameAs_42 : decode cX7_isSameAs 42 = .ok (.iload_n 3, 1) := by decide +kernel
theorem dX7_isSameAs_43 : decode cX7_isSameAs 43 = .ok (.iadd, 1) := by decide +kernel
theorem dX7_isSameAs_44 : decode cX7_isSameAs 44 = .ok (.baload, 1) := by decide +kernel
theorem dX7_isSameAs_45 : decode cX7_isSameAs 45 = .ok (.if_icmp .eq 5, 3) := by decide +kernel
theorem dX7_isSameAs_48 : decode cX7_isSameAs 48 = .ok (.iconst 0, 1) := by decide +kernel
theorem dX7_isSameAs_49 : decode cX7_isSameAs 49 = .ok (.ireturn, 1) := by decide +kernel
theorem dX7_isSameAs_50 : decode cX7_isSameAs 50 = .ok (.iinc 3 1, 3) := by decide +kernel
theorem dX7_isSameAs_53 : decode cX7_isSameAs 53 = .ok (.goto (-34), 3) := by decide +kernel
theorem dX7_isSameAs_56 : decode cX7_isSameAs 56 = .ok (.iconst 1, 1) := by decide +kernel
theorem dX7_isSameAs_57 : decode cX7_isSameAs 57 = .ok (.ireturn, 1) := by decide +kernel
theorem dX8_init_0 : decode cX8_init 0 = .ok (.aload_n 0, 1) := by decide +kernel
theorem dX8_init_1 : decode cX8_init 1 = .ok (.invokespecial 3, 3) := by decide +kernel
theorem dX8_init_4 : decode cX8_init 4 = .ok (.aload_n 0, 1) := by decide +kernel
theorem dX8_init_5 : decode cX8_init 5 = .ok (.bipush 100, 2) := by decide +kernel
theorem dX8_init_7 : decode cX8_init 7 = .ok (.newarray .int, 2) := by decide +kernel
theorem dX8_init_9 : decode cX8_init 9 = .ok (.putfield 9, 3) := by decide +kernel
theorem dX8_init_12 : decode cX8_init 12 = .ok (.aload_n 0, 1) := by decide +kernel
theorem dX8_init_13 : decode cX8_init 13 = .ok (.bipush 100, 2) := by decide +kernel
theorem dX8_init_15 : decode cX8_init 15 = .ok (.newarray .int, 2) := by decide +kernel
theorem dX8_init_17 : decode cX8_init 17 = .ok (.putfield 15, 3) := by decide +kernel
theorem dX8_init_20 : decode cX8_init 20 = .ok (.aload_n 0, 1) := by decide +kernel
theorem dX8_init_21 : decode cX8_init 21 = .ok (.bipush 100, 2) := by decide +kernel
theorem dX8_init_23 : decode cX8_init 23 = .ok (.newarray .int, 2) := by decide +kernel
theorem dX8_init_25 : decode cX8_init 25 = .ok (.putfield 18, 3) := by decide +kernel
theorem dX8_init_28 : decode cX8_init 28 = .ok (.aload_n 0, 1) := by decide +kernel
theorem dX8_init_29 : decode cX8_init 29 = .ok (.iconst 1, 1) := by decide +kernel
theorem dX8_init_30 : decode cX8_init 30 = .ok (.putfield 21, 3) := by decide +kernel
theorem dX8_init_33 : decode cX8_init 33 = .ok (.aload_n 0, 1) := by decide +kernel
theorem dX8_init_34 : decode cX8_init 34 = .ok (.iconst 1, 1) := by decide +kernel
theorem dX8_init_35 : decode cX8_init 35 = .ok (.putfield 25, 3) := by decide +kernel
theorem dX8_init_38 : decode cX8_init 38 = .ok (.aload_n 0, 1) := by decide +kernel
theorem dX8_init_39 : decode cX8_init 39 = .ok (.iconst 1, 1) := by decide +kernel
theorem dX8_init_40 : decode cX8_init 40 = .ok (.putfield 28, 3) := by decide +kernel
theorem dX8_init_43 : decode cX8_init 43 = .ok (.return_, 1) := by decide +kernel
theorem dX8_cut_0 : decode cX8_cut 0 = .ok (.aload_n 0, 1) := by decide +kernel
theorem dX8_cut_1 : decode cX8_cut 1 = .ok (.iconst 1, 1) := by decide +kernel
theorem dX8_cut_2 : decode cX8_cut 2 = .ok (.iload_n 2, 1) := by decide +kernel
theorem dX8_cut_3 : decode cX8_cut 3 = .ok (.invokestatic 31, 3) := by decide +kernel
theorem dX8_cut_6 : decode cX8_cut 6 = .ok (.putfield 21, 3) := by decide +kernel
theorem dX8_cut_9 : decode cX8_cut 9 = .ok (.aload_n 0, 1) := by decide +kernel
theorem dX8_cut_10 : decode cX8_cut 10 = .ok (.iconst 1, 1) := by decide +kernel
theorem dX8_cut_11 : decode cX8_cut 11 = .ok (.iload_n 3, 1) := by decide +kernel
theorem dX8_cut_12 : decode cX8_cut 12 = .ok (.invokestatic 31, 3) := by decide +kernel
theorem dX8_cut_15 : decode cX8_cut 15 = .ok (.putfield 25, 3) := by decide +kernel
theorem dX8_cut_18 : decode cX8_cut 18 = .ok (.aload_n 0, 1) := by decide +kernel
theorem dX8_cut_19 : decode cX8_cut 19 = .ok (.aload_n 1, 1) := by decide +kernel
theorem dX8_cut_20 : decode cX8_cut 20 = .ok (.getfield 37, 3) := by decide +kernel
theorem dX8_cut_23 : decode cX8_cut 23 = .ok (.aload_n 0, 1) := by decide +kernel
theorem dX8_cut_24 : decode cX8_cut 24 = .ok (.getfield 25, 3) := by decide +kernel
theorem dX8_cut_27 : decode cX8_cut 27 = .ok (.iadd, 1) := by decide +kernel
theorem dX8_cut_28 : decode cX8_cut 28 = .ok (.iconst 1, 1) := by decide +kernel
theorem dX8_cut_29 : decode cX8_cut 29 = .ok (.isub, 1) := by decide +kernel
theorem dX8_cut_30 : decode cX8_cut 30 = .ok (.aload_n 0, 1) := by decide +kernel
theorem dX8_cut_31 : decode cX8_cut 31 = .ok (.getfield 25, 3) := by decide +kernel
theorem dX8_cut_34 : decode cX8_cut 34 = .ok (.idiv, 1) := by decide +kernel
theorem dX8_cut_35 : decode cX8_cut 35 = .ok (.putfield 28, 3) := by decide +kernel
theorem dX8_cut_38 : decode cX8_cut 38 = .ok (.aload_n 0, 1) := by decide +kernel
theorem dX8_cut_39 : decode cX8_cut 39 = .ok (.aload_n 1, 1) := by decide +kernel
theorem dX8_cut_40 : decode cX8_cut 40 = .ok (.getfield 42, 3) := by decide +kernel
theorem dX8_cut_43 : decode cX8_cut 43 = .ok (.aload_n 0, 1) := by decide +kernel
theorem dX8_cut_44 : decode cX8_cut 44 = .ok (.getfield 21, 3) := by decide +kernel
theorem dX8_cut_47 : decode cX8_cut 47 = .ok (.iadd, 1) := by decide +kernel
theorem dX8_cut_48 : decode cX8_cut 48 = .ok (.iconst 1, 1) := by decide +kernel
theorem dX8_cut_49 : decode cX8_cut 49 = .ok (.isub, 1) := by decide +kernel
theorem dX8_cut_50 : decode cX8_cut 50 = .ok (.aload_n 0, 1) := by decide +kernel
theorem dX8_cut_51 : decode cX8_cut 51 = .ok (.getfield 21, 3) := by decide +kernel
theorem dX8_cut_54 : decode cX8_cut 54 = .ok (.idiv, 1) := by decide +kernel
theorem dX8_cut_55 : decode cX8_cut 55 = .ok (.aload_n 0, 1) := by decide +kernel
theorem dX8_cut_56 : decode cX8_cut 56 = .ok (.getfield 28, 3) := by decide +kernel
theorem dX8_cut_59 : decode cX8_cut 59 = .ok (.imul, 1) := by decide +kernel
theorem dX8_cut_60 : decode cX8_cut 60 = .ok (.putfield 45, 3) := by decide +kernel
theorem dX8_cut_63 : decode cX8_cut 63 = .ok (.aload_n 0, 1) := by decide +kernel
theorem dX8_cut_64 : decode cX8_cut 64 = .ok (.iconst 0, 1) := by decide +kernel
theorem dX8_cut_65 : decode cX8_cut 65 = .ok (.putfield 48, 3) := by decide +kernel
theorem dX8_cut_68 : decode cX8_cut 68 = .ok (.iconst 0, 1) := by decide +kernel
theorem dX8_cut_69 : decode cX8_cut 69 = .ok (.istore 4, 2) := by decide +kernel
theorem dX8_cut_71 : decode cX8_cut 71 = .ok (.iload 4, 2) := by decide +kernel
theorem dX8_cut_73 : decode cX8_cut 73 = .ok (.aload_n 1, 1) := by decide +kernel
theorem dX8_cut_74 : decode cX8_cut 74 = .ok (.getfield 51, 3) := by decide +kernel
theorem dX8_cut_77 : decode cX8_cut 77 = .ok (.if_icmp .ge 72, 3) := by decide +kernel
theorem dX8_cut_80 : decode cX8_cut 80 = .ok (.aload_n 1, 1) := by decide +kernel
theorem dX8_cut_81 : decode cX8_cut 81 = .ok (.getfield 54, 3) := by decide +kernel
theorem dX8_cut_84 : decode cX8_cut 84 = .ok (.iload 4, 2) := by decide +kernel
theorem dX8_cut_86 : decode cX8_cut 86 = .ok (.iaload, 1) := by decide +kernel
theorem dX8_cut_87 : decode cX8_cut 87 = .ok (.istore 5, 2) := by decide +kernel
theorem dX8_cut_89 : decode cX8_cut 89 = .ok (.aload_n 1, 1) := by decide +kernel
theorem dX8_cut_90 : decode cX8_cut 90 = .ok (.getfield 57, 3) := by decide +kernel
theorem dX8_cut_93 : decode cX8_cut 93 = .ok (.iload 4, 2) := by decide +kernel
theorem dX8_cut_95 : decode cX8_cut 95 = .ok (.iaload, 1) := by decide +kernel
theorem dX8_cut_96 : decode cX8_cut 96 = .ok (.istore 6, 2) := by decide +kernel
theorem dX8_cut_98 : decode cX8_cut 98 = .ok (.aload_n 0, 1) := by decide +kernel
theorem dX8_cut_99 : decode cX8_cut 99 = .ok (.dup, 1) := by decide +kernel
theorem dX8_cut_100 : decode cX8_cut 100 = .ok (.getfield 48, 3) := by decide +kernel
theorem dX8_cut_103 : decode cX8_cut 103 = .ok (.aload_n 1, 1) := by decide +kernel
theorem dX8_cut_104 : decode cX8_cut 104 = .ok (.iload 5, 2) := by decide +kernel
theorem dX8_cut_106 : decode cX8_cut 106 = .ok (.iload 6, 2) := by decide +kernel
theorem dX8_cut_108 : decode cX8_cut 108 = .ok (.invokevirtual 60, 3) := by decide +kernel
theorem dX8_cut_111 : decode cX8_cut 111 = .ok (.aload_n 1, 1) := by decide +kernel
theorem dX8_cut_112 : decode cX8_cut 112 = .ok (.getfield 42, 3) := by decide +kernel
theorem dX8_cut_115 : decode cX8_cut 115 = .ok (.iload 5, 2) := by decide +kernel
theorem dX8_cut_117 : decode cX8_cut 117 = .ok (.aload_n 0, 1) := by decide +kernel
theorem dX8_cut_118 : decode cX8_cut 118 = .ok (.getfield 21, 3) := by decide +kernel
theorem dX8_cut_121 : decode cX8_cut 121 = .ok (.invokestatic 63, 3) := by decide +kernel
theorem dX8_cut_124 : decode cX8_cut 124 = .ok (.aload_n 1, 1) := by decide +kernel
theorem dX8_cut_125 : decode cX8_cut 125 = .ok (.getfield 37, 3) := by decide +kernel
theorem dX8_cut_128 : decode cX8_cut 128 = .ok (.iload 6, 2) := by decide +kernel
theorem dX8_cut_130 : decode cX8_cut 130 = .ok (.aload_n 0, 1) := by decide +kernel
theorem dX8_cut_131 : decode cX8_cut 131 = .ok (.getfield 25, 3) := by decide +kernel
theorem dX8_cut_134 : decode cX8_cut 134 = .ok (.invokestatic 63, 3) := by decide +kernel
theorem dX8_cut_137 : decode cX8_cut 137 = .ok (.imul, 1) := by decide +kernel
theorem dX8_cut_138 : decode cX8_cut 138 = .ok (.isub, 1) := by decide +kernel
theorem dX8_cut_139 : decode cX8_cut 139 = .ok (.iadd, 1) := by decide +kernel
theorem dX8_cut_140 : decode cX8_cut 140 = .ok (.putfield 48, 3) := by decide +kernel
theorem dX8_cut_143 : decode cX8_cut 143 = .ok (.iinc 4 1, 3) := by decide +kernel
theorem dX8_cut_146 : decode cX8_cut 146 = .ok (.goto (-75), 3) := by decide +kernel
theorem dX8_cut_149 : decode cX8_cut 149 = .ok (.return_, 1) := by decide +kernel
theorem dX8_together_0 : decode cX8_together 0 = .ok (.iconst 0, 1) := by decide +kernel
theorem dX8_together_1 : decode cX8_together 1 = .ok (.istore_n 3, 1) := by decide +kernel
theorem dX8_together_2 : decode cX8_together 2 = .ok (.iconst 0, 1) := by decide +kernel
theorem dX8_together_3 : decode cX8_together 3 = .ok (.iload_n 1, 1) := by decide +kernel
theorem dX8_together_4 : decode cX8_together 4 = .ok (.ineg, 1) := by decide +kernel
theorem dX8_together_5 : decode cX8_together 5 = .ok (.invokestatic 31, 3) := by decide +kernel
theorem dX8_together_8 : decode cX8_together 8 = .ok (.istore 4, 2) := by decide +kernel
theorem dX8_together_10 : decode cX8_together 10 = .ok (.iload 4, 2) := by decide +kernel
theorem dX8_together_12 : decode cX8_together 12 = .ok (.iload_n 0, 1) := by decide +kernel
theorem dX8_together_13 : decode cX8_together 13 = .ok (.iload_n 0, 1) := by decide +kernel
theorem dX8_together_14 : decode cX8_together 14 = .ok (.iload_n 1, 1) := by decide +kernel
theorem dX8_together_15 : decode cX8_together 15 = .ok (.isub, 1) := by decide +kernel
theorem dX8_together_16 : decode cX8_together 16 = .ok (.invokestatic 67, 3) := by decide +kernel
theorem dX8_together_19 : decode cX8_together 19 = .ok (.if_icmp .ge 25, 3) := by decide +kernel
theorem dX8_together_22 : decode cX8_together 22 = .ok (.iload 4, 2) := by decide +kernel
theorem dX8_together_24 : decode cX8_together 24 = .ok (.iload_n 2, 1) := by decide +kernel
theorem dX8_together_25 : decode cX8_together 25 = .ok (.idiv, 1) := by decide +kernel
theorem dX8_together_26 : decode cX8_together 26 = .ok (.iload 4, 2) := by decide +kernel
theorem dX8_together_28 : decode cX8_together 28 = .ok (.iload_n 1, 1) := by decide +kernel
theorem dX8_together_29 : decode cX8_together 29 = .ok (.iadd, 1) := by decide +kernel
theorem dX8_together_30 : decode cX8_together 30 = .ok (.iload_n 2, 1) := by decide +kernel
theorem dX8_together_31 : decode cX8_together 31 = .ok (.idiv, 1) := by decide +kernel
theorem dX8_together_32 : decode cX8_together 32 = .ok (.if_icmp .ne 6, 3) := by decide +kernel
theorem dX8_together_35 : decode cX8_together 35 = .ok (.iinc 3 1, 3) := by decide +kernel
theorem dX8_together_38 : decode cX8_together 38 = .ok (.iinc 4 1, 3) := by decide +kernel
theorem dX8_together_41 : decode cX8_together 41 = .ok (.goto (-31), 3) := by decide +kernel
theorem dX8_together_44 : decode cX8_together 44 = .ok (.iload_n 3, 1) := by decide +kernel
theorem dX8_together_45 : decode cX8_together 45 = .ok (.ireturn, 1) := by decide +kernel
theorem dX8_longestRow_0 : decode cX8_longestRow 0 = .ok (.aload_n 0, 1) := by decide +kernel
theorem dX8_longestRow_1 : decode cX8_longestRow 1 = .ok (.aload_n 1, 1) := by decide +kernel
theorem dX8_longestRow_2 : decode cX8_longestRow 2 = .ok (.invokevirtual 70, 3) := by decide +kernel
theorem dX8_longestRow_5 : decode cX8_longestRow 5 = .ok (.aload_n 0, 1) := by decide +kernel
theorem dX8_longestRow_6 : decode cX8_longestRow 6 = .ok (.iconst 0, 1) := by decide +kernel
theorem dX8_longestRow_7 : decode cX8_longestRow 7 = .ok (.putfield 74, 3) := by decide +kernel
theorem dX8_longestRow_10 : decode cX8_longestRow 10 = .ok (.iconst 0, 1) := by decide +kernel
theorem dX8_longestRow_11 : decode cX8_longestRow 11 = .ok (.istore_n 2, 1) := by decide +kernel
theorem dX8_longestRow_12 : decode cX8_longestRow 12 = .ok (.iload_n 2, 1) := by decide +kernel
theorem dX8_longestRow_13 : decode cX8_longestRow 13 = .ok (.aload_n 0, 1) := by decide +kernel
theorem dX8_longestRow_14 : decode cX8_longestRow 14 = .ok (.getfield 45, 3) := by decide +kernel
theorem dX8_longestRow_17 : decode cX8_longestRow 17 = .ok (.if_icmp .ge 30, 3) := by decide +kernel
theorem dX8_longestRow_20 : decode cX8_longestRow 20 = .ok (.aload_n 0, 1) := by decide +kernel
theorem dX8_longestRow_21 : decode cX8_longestRow 21 = .ok (.getfield 15, 3) := by decide +kernel
theorem dX8_longestRow_24 : decode cX8_longestRow 24 = .ok (.iload_n 2, 1) := by decide +kernel
theorem dX8_longestRow_25 : decode cX8_longestRow 25 = .ok (.iconst 1, 1) := by decide +kernel
theorem dX8_longestRow_26 : decode cX8_longestRow 26 = .ok (.iastore, 1) := by decide +kernel
theorem dX8_longestRow_27 : decode cX8_longestRow 27 = .ok (.aload_n 0, 1) := by decide +kernel
theorem dX8_longestRow_28 : decode cX8_longestRow 28 = .ok (.getfield 9, 3) := by decide +kernel
theorem dX8_longestRow_31 : decode cX8_longestRow 31 = .ok (.iload_n 2, 1) := by decide +kernel
theorem dX8_longestRow_32 : decode cX8_longestRow 32 = .ok (.iaload, 1) := by decide +kernel
theorem dX8_longestRow_33 : decode cX8_longestRow 33 = .ok (.ifCond .ne 8, 3) := by decide +kernel
theorem dX8_longestRow_36 : decode cX8_longestRow 36 = .ok (.aload_n 0, 1) := by decide +kernel
theorem dX8_longestRow_37 : decode cX8_longestRow 37 = .ok (.iload_n 2, 1) := by decide +kernel
theorem dX8_longestRow_38 : decode cX8_longestRow 38 = .ok (.invokevirtual 77, 3) := by decide +kernel
theorem dX8_longestRow_41 : decode cX8_longestRow 41 = .ok (.iinc 2 1, 3) := by decide +kernel
theorem dX8_longestRow_44 : decode cX8_longestRow 44 = .ok (.goto (-32), 3) := by decide +kernel
theorem dX8_longestRow_47 : decode cX8_longestRow 47 = .ok (.iconst 0, 1) := by decide +kernel
theorem dX8_longestRow_48 : decode cX8_longestRow 48 = .ok (.istore_n 2, 1) := by decide +kernel
theorem dX8_longestRow_49 : decode cX8_longestRow 49 = .ok (.iconst 0, 1) := by decide +kernel
theorem dX8_longestRow_50 : decode cX8_longestRow 50 = .ok (.istore_n 3, 1) := by decide +kernel
theorem dX8_longestRow_51 : decode cX8_longestRow 51 = .ok (.iload_n 3, 1) := by decide +kernel
theorem dX8_longestRow_52 : decode cX8_longestRow 52 = .ok (.bipush 100, 2) := by decide +kernel
theorem dX8_longestRow_54 : decode cX8_longestRow 54 = .ok (.if_icmp .ge 44, 3) := by decide +kernel
theorem dX8_longestRow_57 : decode cX8_longestRow 57 = .ok (.iload_n 3, 1) := by decide +kernel
theorem dX8_longestRow_58 : decode cX8_longestRow 58 = .ok (.aload_n 0, 1) := by decide +kernel
theorem dX8_longestRow_59 : decode cX8_longestRow 59 = .ok (.getfield 74, 3) := by decide +kernel
theorem dX8_longestRow_62 : decode cX8_longestRow 62 = .ok (.if_icmp .ge 36, 3) := by decide +kernel
theorem dX8_longestRow_65 : decode cX8_longestRow 65 = .ok (.iload_n 2, 1) := by decide +kernel
theorem dX8_longestRow_66 : decode cX8_longestRow 66 = .ok (.aload_n 0, 1) := by decide +kernel
theorem dX8_longestRow_67 : decode cX8_longestRow 67 = .ok (.getfield 15, 3) := by decide +kernel
theorem dX8_longestRow_70 : decode cX8_longestRow 70 = .ok (.aload_n 0, 1) := by decide +kernel
theorem dX8_longestRow_71 : decode cX8_longestRow 71 = .ok (.getfield 18, 3) := by decide +kernel
theorem dX8_longestRow_74 : decode cX8_longestRow 74 = .ok (.iload_n 3, 1) := by decide +kernel
theorem dX8_longestRow_75 : decode cX8_longestRow 75 = .ok (.iaload, 1) := by decide +kernel
theorem dX8_longestRow_76 : decode cX8_longestRow 76 = .ok (.iaload, 1) := by decide +kernel
theorem dX8_longestRow_77 : decode cX8_longestRow 77 = .ok (.invokestatic 31, 3) := by decide +kernel
theorem dX8_longestRow_80 : decode cX8_longestRow 80 = .ok (.istore_n 2, 1) := by decide +kernel
theorem dX8_longestRow_81 : decode cX8_longestRow 81 = .ok (.aload_n 0, 1) := by decide +kernel
theorem dX8_longestRow_82 : decode cX8_longestRow 82 = .ok (.aload_n 1, 1) := by decide +kernel
theorem dX8_longestRow_83 : decode cX8_longestRow 83 = .ok (.aload_n 0, 1) := by decide +kernel
theorem dX8_longestRow_84 : decode cX8_longestRow 84 = .ok (.getfield 18, 3) := by decide +kernel
theorem dX8_longestRow_87 : decode cX8_longestRow 87 = .ok (.iload_n 3, 1) := by decide +kernel
theorem dX8_longestRow_88 : decode cX8_longestRow 88 = .ok (.iaload, 1) := by decide +kernel
theorem dX8_longestRow_89 : decode cX8_longestRow 89 = .ok (.invokevirtual 81, 3) := by decide +kernel
theorem dX8_longestRow_92 : decode cX8_longestRow 92 = .ok (.iinc 3 1, 3) := by decide +kernel
theorem dX8_longestRow_95 : decode cX8_longestRow 95 = .ok (.goto (-44), 3) := by decide +kernel
theorem dX8_longestRow_98 : decode cX8_longestRow 98 = .ok (.aload_n 0, 1) := by decide +kernel
theorem dX8_longestRow_99 : decode cX8_longestRow 99 = .ok (.getfield 74, 3) := by decide +kernel
theorem dX8_longestRow_102 : decode cX8_longestRow 102 = .ok (.aload_n 0, 1) := by decide +kernel
theorem dX8_longestRow_103 : decode cX8_longestRow 103 = .ok (.getfield 45, 3) := by decide +kernel
theorem dX8_longestRow_106 : decode cX8_longestRow 106 = .ok (.if_icmp .ne 7, 3) := by decide +kernel
theorem dX8_longestRow_109 : decode cX8_longestRow 109 = .ok (.iload_n 2, 1) := by decide +kernel
theorem dX8_longestRow_110 : decode cX8_longestRow 110 = .ok (.goto 4, 3) := by decide +kernel
theorem dX8_longestRow_113 : decode cX8_longestRow 113 = .ok (.iconst 0, 1) := by decide +kernel
theorem dX8_longestRow_114 : decode cX8_longestRow 114 = .ok (.ireturn, 1) := by decide +kernel
theorem dX8_countWaits_0 : decode cX8_countWaits 0 = .ok (.aload_n 0, 1) := by decide +kernel
theorem dX8_countWaits_1 : decode cX8_countWaits 1 = .ok (.getfield 9, 3) := by decide +kernel
theorem dX8_countWaits_4 : decode cX8_countWaits 4 = .ok (.iconst 0, 1) := by decide +kernel
theorem dX8_countWaits_5 : decode cX8_countWaits 5 = .ok (.invokestatic 85, 3) := by decide +kernel
theorem dX8_countWaits_8 : decode cX8_countWaits 8 = .ok (.iconst 0, 1) := by decide +kernel
theorem dX8_countWaits_9 : decode cX8_countWaits 9 = .ok (.istore_n 2, 1) := by decide +kernel
theorem dX8_countWaits_10 : decode cX8_countWaits 10 = .ok (.iload_n 2, 1) := by decide +kernel
theorem dX8_countWaits_11 : decode cX8_countWaits 11 = .ok (.aload_n 1, 1) := by decide +kernel
theorem dX8_countWaits_12 : decode cX8_countWaits 12 = .ok (.invokevirtual 91, 3) := by decide +kernel
theorem dX8_countWaits_15 : decode cX8_countWaits 15 = .ok (.if_icmp .ge 77, 3) := by decide +kernel
theorem dX8_countWaits_18 : decode cX8_countWaits 18 = .ok (.aload_n 1, 1) := by decide +kernel
theorem dX8_countWaits_19 : decode cX8_countWaits 19 = .ok (.iload_n 2, 1) := by decide +kernel
theorem dX8_countWaits_20 : decode cX8_countWaits 20 = .ok (.invokevirtual 95, 3) := by decide +kernel
theorem dX8_countWaits_23 : decode cX8_countWaits 23 = .ok (.istore_n 3, 1) := by decide +kernel
theorem dX8_countWaits_24 : decode cX8_countWaits 24 = .ok (.aload_n 0, 1) := by decide +kernel
theorem dX8_countWaits_25 : decode cX8_countWaits 25 = .ok (.iload_n 3, 1) := by decide +kernel
theorem dX8_countWaits_26 : decode cX8_countWaits 26 = .ok (.invokevirtual 99, 3) := by decide +kernel
theorem dX8_countWaits_29 : decode cX8_countWaits 29 = .ok (.istore 4, 2) := by decide +kernel
theorem dX8_countWaits_31 : decode cX8_countWaits 31 = .ok (.iconst 0, 1) := by decide +kernel
theorem dX8_countWaits_32 : decode cX8_countWaits 32 = .ok (.istore 5, 2) := by decide +kernel
theorem dX8_countWaits_34 : decode cX8_countWaits 34 = .ok (.iload 5, 2) := by decide +kernel
theorem dX8_countWaits_36 : decode cX8_countWaits 36 = .ok (.aload_n 1, 1) := by decide +kernel
theorem dX8_countWaits_37 : decode cX8_countWaits 37 = .ok (.getfield 51, 3) := by decide +kernel
theorem dX8_countWaits_40 : decode cX8_countWaits 40 = .ok (.if_icmp .ge 46, 3) := by decide +kernel
theorem dX8_countWaits_43 : decode cX8_countWaits 43 = .ok (.aload_n 1, 1) := by decide +kernel
theorem dX8_countWaits_44 : decode cX8_countWaits 44 = .ok (.iload_n 3, 1) := by decide +kernel
theorem dX8_countWaits_45 : decode cX8_countWaits 45 = .ok (.iload 5, 2) := by decide +kernel
theorem dX8_countWaits_47 : decode cX8_countWaits 47 = .ok (.invokevirtual 102, 3) := by decide +kernel
theorem dX8_countWaits_50 : decode cX8_countWaits 50 = .ok (.istore 6, 2) := by decide +kernel
theorem dX8_countWaits_52 : decode cX8_countWaits 52 = .ok (.iload 6, 2) := by decide +kernel
theorem dX8_countWaits_54 : decode cX8_countWaits 54 = .ok (.iconst (-1), 1) := by decide +kernel
theorem dX8_countWaits_55 : decode cX8_countWaits 55 = .ok (.if_icmp .eq 25, 3) := by decide +kernel
theorem dX8_countWaits_58 : decode cX8_countWaits 58 = .ok (.aload_n 0, 1) := by decide +kernel
theorem dX8_countWaits_59 : decode cX8_countWaits 59 = .ok (.iload 6, 2) := by decide +kernel
theorem dX8_countWaits_61 : decode cX8_countWaits 61 = .ok (.invokevirtual 99, 3) := by decide +kernel
theorem dX8_countWaits_64 : decode cX8_countWaits 64 = .ok (.iload 4, 2) := by decide +kernel
theorem dX8_countWaits_66 : decode cX8_countWaits 66 = .ok (.if_icmp .eq 14, 3) := by decide +kernel
theorem dX8_countWaits_69 : decode cX8_countWaits 69 = .ok (.aload_n 0, 1) := by decide +kernel
theorem dX8_countWaits_70 : decode cX8_countWaits 70 = .ok (.getfield 9, 3) := by decide +kernel
theorem dX8_countWaits_73 : decode cX8_countWaits 73 = .ok (.iload 4, 2) := by decide +kernel
