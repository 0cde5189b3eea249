theorem dX11_scanNumber_5 : decode cX11_scanNumber 5 = .ok (.aload_n 0, 1) := by decide +kernel
theorem dX11_scanNumber_6 : decode cX11_scanNumber 6 = .ok (.iconst 0, 1) := by decide +kernel
theorem dX11_scanNumber_7 : decode cX11_scanNumber 7 = .ok (.putfield 203, 3) := by decide +kernel
theorem dX11_scanNumber_10 : decode cX11_scanNumber 10 = .ok (.aload_n 0, 1) := by decide +kernel
theorem dX11_scanNumber_11 : decode cX11_scanNumber 11 = .ok (.aload_n 0, 1) := by decide +kernel
theorem dX11_scanNumber_12 : decode cX11_scanNumber 12 = .ok (.getfield 168, 3) := by decide +kernel
theorem dX11_scanNumber_15 : decode cX11_scanNumber 15 = .ok (.putfield 165, 3) := by decide +kernel
theorem dX11_scanNumber_18 : decode cX11_scanNumber 18 = .ok (.aload_n 0, 1) := by decide +kernel
theorem dX11_scanNumber_19 : decode cX11_scanNumber 19 = .ok (.aload_n 0, 1) := by decide +kernel
theorem dX11_scanNumber_20 : decode cX11_scanNumber 20 = .ok (.getfield 165, 3) := by decide +kernel
theorem dX11_scanNumber_23 : decode cX11_scanNumber 23 = .ok (.invokevirtual 175, 3) := by decide +kernel
theorem dX11_scanNumber_26 : decode cX11_scanNumber 26 = .ok (.invokestatic 187, 3) := by decide +kernel
theorem dX11_scanNumber_29 : decode cX11_scanNumber 29 = .ok (.ifCond .eq 56, 3) := by decide +kernel
theorem dX11_scanNumber_32 : decode cX11_scanNumber 32 = .ok (.aload_n 0, 1) := by decide +kernel
theorem dX11_scanNumber_33 : decode cX11_scanNumber 33 = .ok (.aload_n 0, 1) := by decide +kernel
theorem dX11_scanNumber_34 : decode cX11_scanNumber 34 = .ok (.getfield 203, 3) := by decide +kernel
theorem dX11_scanNumber_37 : decode cX11_scanNumber 37 = .ok (.sipush 999, 3) := by decide +kernel
theorem dX11_scanNumber_40 : decode cX11_scanNumber 40 = .ok (.if_icmp .le 10, 3) := by decide +kernel
theorem dX11_scanNumber_43 : decode cX11_scanNumber 43 = .ok (.aload_n 0, 1) := by decide +kernel
theorem dX11_scanNumber_44 : decode cX11_scanNumber 44 = .ok (.getfield 203, 3) := by decide +kernel
theorem dX11_scanNumber_47 : decode cX11_scanNumber 47 = .ok (.goto 22, 3) := by decide +kernel
theorem dX11_scanNumber_50 : decode cX11_scanNumber 50 = .ok (.bipush 10, 2) := by decide +kernel
theorem dX11_scanNumber_52 : decode cX11_scanNumber 52 = .ok (.aload_n 0, 1) := by decide +kernel
theorem dX11_scanNumber_53 : decode cX11_scanNumber 53 = .ok (.getfield 203, 3) := by decide +kernel
theorem dX11_scanNumber_56 : decode cX11_scanNumber 56 = .ok (.imul, 1) := by decide +kernel
theorem dX11_scanNumber_57 : decode cX11_scanNumber 57 = .ok (.aload_n 0, 1) := by decide +kernel
theorem dX11_scanNumber_58 : decode cX11_scanNumber 58 = .ok (.aload_n 0, 1) := by decide +kernel
theorem dX11_scanNumber_59 : decode cX11_scanNumber 59 = .ok (.getfield 165, 3) := by decide +kernel
theorem dX11_scanNumber_62 : decode cX11_scanNumber 62 = .ok (.invokevirtual 175, 3) := by decide +kernel
theorem dX11_scanNumber_65 : decode cX11_scanNumber 65 = .ok (.iadd, 1) := by decide +kernel
theorem dX11_scanNumber_66 : decode cX11_scanNumber 66 = .ok (.bipush 48, 2) := by decide +kernel
theorem dX11_scanNumber_68 : decode cX11_scanNumber 68 = .ok (.isub, 1) := by decide +kernel
theorem dX11_scanNumber_69 : decode cX11_scanNumber 69 = .ok (.putfield 203, 3) := by decide +kernel
theorem dX11_scanNumber_72 : decode cX11_scanNumber 72 = .ok (.aload_n 0, 1) := by decide +kernel
theorem dX11_scanNumber_73 : decode cX11_scanNumber 73 = .ok (.dup, 1) := by decide +kernel
theorem dX11_scanNumber_74 : decode cX11_scanNumber 74 = .ok (.getfield 165, 3) := by decide +kernel
theorem dX11_scanNumber_77 : decode cX11_scanNumber 77 = .ok (.iconst 1, 1) := by decide +kernel
theorem dX11_scanNumber_78 : decode cX11_scanNumber 78 = .ok (.iadd, 1) := by decide +kernel
theorem dX11_scanNumber_79 : decode cX11_scanNumber 79 = .ok (.putfield 165, 3) := by decide +kernel
theorem dX11_scanNumber_82 : decode cX11_scanNumber 82 = .ok (.goto (-64), 3) := by decide +kernel
theorem dX11_scanNumber_85 : decode cX11_scanNumber 85 = .ok (.return_, 1) := by decide +kernel
theorem dX11_fail_0 : decode cX11_fail 0 = .ok (.aload_n 0, 1) := by decide +kernel
theorem dX11_fail_1 : decode cX11_fail 1 = .ok (.getfield 206, 3) := by decide +kernel
theorem dX11_fail_4 : decode cX11_fail 4 = .ok (.ifCond .le 4, 3) := by decide +kernel
theorem dX11_fail_7 : decode cX11_fail 7 = .ok (.return_, 1) := by decide +kernel
theorem dX11_fail_8 : decode cX11_fail 8 = .ok (.aload_n 0, 1) := by decide +kernel
theorem dX11_fail_9 : decode cX11_fail 9 = .ok (.iload_n 1, 1) := by decide +kernel
theorem dX11_fail_10 : decode cX11_fail 10 = .ok (.putfield 206, 3) := by decide +kernel
theorem dX11_fail_13 : decode cX11_fail 13 = .ok (.aload_n 0, 1) := by decide +kernel
theorem dX11_fail_14 : decode cX11_fail 14 = .ok (.aload_n 0, 1) := by decide +kernel
theorem dX11_fail_15 : decode cX11_fail 15 = .ok (.getfield 168, 3) := by decide +kernel
theorem dX11_fail_18 : decode cX11_fail 18 = .ok (.putfield 209, 3) := by decide +kernel
theorem dX11_fail_21 : decode cX11_fail 21 = .ok (.return_, 1) := by decide +kernel
theorem dX11_isAt_0 : decode cX11_isAt 0 = .ok (.aload_n 0, 1) := by decide +kernel
theorem dX11_isAt_1 : decode cX11_isAt 1 = .ok (.getfield 206, 3) := by decide +kernel
theorem dX11_isAt_4 : decode cX11_isAt 4 = .ok (.ifCond .ne 27, 3) := by decide +kernel
theorem dX11_isAt_7 : decode cX11_isAt 7 = .ok (.aload_n 0, 1) := by decide +kernel
theorem dX11_isAt_8 : decode cX11_isAt 8 = .ok (.getfield 178, 3) := by decide +kernel
theorem dX11_isAt_11 : decode cX11_isAt 11 = .ok (.iconst 4, 1) := by decide +kernel
theorem dX11_isAt_12 : decode cX11_isAt 12 = .ok (.if_icmp .ne 19, 3) := by decide +kernel
theorem dX11_isAt_15 : decode cX11_isAt 15 = .ok (.aload_n 0, 1) := by decide +kernel
theorem dX11_isAt_16 : decode cX11_isAt 16 = .ok (.aload_n 0, 1) := by decide +kernel
theorem dX11_isAt_17 : decode cX11_isAt 17 = .ok (.getfield 168, 3) := by decide +kernel
theorem dX11_isAt_20 : decode cX11_isAt 20 = .ok (.invokevirtual 175, 3) := by decide +kernel
theorem dX11_isAt_23 : decode cX11_isAt 23 = .ok (.iload_n 1, 1) := by decide +kernel
theorem dX11_isAt_24 : decode cX11_isAt 24 = .ok (.if_icmp .ne 7, 3) := by decide +kernel
theorem dX11_isAt_27 : decode cX11_isAt 27 = .ok (.iconst 1, 1) := by decide +kernel
theorem dX11_isAt_28 : decode cX11_isAt 28 = .ok (.goto 4, 3) := by decide +kernel
theorem dX11_isAt_31 : decode cX11_isAt 31 = .ok (.iconst 0, 1) := by decide +kernel
theorem dX11_isAt_32 : decode cX11_isAt 32 = .ok (.ireturn, 1) := by decide +kernel
theorem dX11_isWord_0 : decode cX11_isWord 0 = .ok (.aload_n 0, 1) := by decide +kernel
theorem dX11_isWord_1 : decode cX11_isWord 1 = .ok (.getfield 206, 3) := by decide +kernel
theorem dX11_isWord_4 : decode cX11_isWord 4 = .ok (.ifCond .ne 23, 3) := by decide +kernel
theorem dX11_isWord_7 : decode cX11_isWord 7 = .ok (.aload_n 0, 1) := by decide +kernel
theorem dX11_isWord_8 : decode cX11_isWord 8 = .ok (.getfield 178, 3) := by decide +kernel
theorem dX11_isWord_11 : decode cX11_isWord 11 = .ok (.iconst 2, 1) := by decide +kernel
theorem dX11_isWord_12 : decode cX11_isWord 12 = .ok (.if_icmp .ne 15, 3) := by decide +kernel
theorem dX11_isWord_15 : decode cX11_isWord 15 = .ok (.aload_n 0, 1) := by decide +kernel
theorem dX11_isWord_16 : decode cX11_isWord 16 = .ok (.getfield 196, 3) := by decide +kernel
theorem dX11_isWord_19 : decode cX11_isWord 19 = .ok (.iload_n 1, 1) := by decide +kernel
theorem dX11_isWord_20 : decode cX11_isWord 20 = .ok (.if_icmp .ne 7, 3) := by decide +kernel
theorem dX11_isWord_23 : decode cX11_isWord 23 = .ok (.iconst 1, 1) := by decide +kernel
theorem dX11_isWord_24 : decode cX11_isWord 24 = .ok (.goto 4, 3) := by decide +kernel
theorem dX11_isWord_27 : decode cX11_isWord 27 = .ok (.iconst 0, 1) := by decide +kernel
theorem dX11_isWord_28 : decode cX11_isWord 28 = .ok (.ireturn, 1) := by decide +kernel
theorem dX11_isName_0 : decode cX11_isName 0 = .ok (.aload_n 0, 1) := by decide +kernel
theorem dX11_isName_1 : decode cX11_isName 1 = .ok (.getfield 206, 3) := by decide +kernel
theorem dX11_isName_4 : decode cX11_isName 4 = .ok (.ifCond .ne 23, 3) := by decide +kernel
theorem dX11_isName_7 : decode cX11_isName 7 = .ok (.aload_n 0, 1) := by decide +kernel
theorem dX11_isName_8 : decode cX11_isName 8 = .ok (.getfield 178, 3) := by decide +kernel
theorem dX11_isName_11 : decode cX11_isName 11 = .ok (.iconst 2, 1) := by decide +kernel
theorem dX11_isName_12 : decode cX11_isName 12 = .ok (.if_icmp .ne 15, 3) := by decide +kernel
theorem dX11_isName_15 : decode cX11_isName 15 = .ok (.aload_n 0, 1) := by decide +kernel
theorem dX11_isName_16 : decode cX11_isName 16 = .ok (.getfield 196, 3) := by decide +kernel
theorem dX11_isName_19 : decode cX11_isName 19 = .ok (.iconst (-1), 1) := by decide +kernel
theorem dX11_isName_20 : decode cX11_isName 20 = .ok (.if_icmp .ne 7, 3) := by decide +kernel
theorem dX11_isName_23 : decode cX11_isName 23 = .ok (.iconst 1, 1) := by decide +kernel
theorem dX11_isName_24 : decode cX11_isName 24 = .ok (.goto 4, 3) := by decide +kernel
theorem dX11_isName_27 : decode cX11_isName 27 = .ok (.iconst 0, 1) := by decide +kernel
theorem dX11_isName_28 : decode cX11_isName 28 = .ok (.ireturn, 1) := by decide +kernel
theorem dX11_need_0 : decode cX11_need 0 = .ok (.aload_n 0, 1) := by decide +kernel
theorem dX11_need_1 : decode cX11_need 1 = .ok (.iload_n 1, 1) := by decide +kernel
theorem dX11_need_2 : decode cX11_need 2 = .ok (.invokevirtual 212, 3) := by decide +kernel
theorem dX11_need_5 : decode cX11_need 5 = .ok (.ifCond .eq 10, 3) := by decide +kernel
theorem dX11_need_8 : decode cX11_need 8 = .ok (.aload_n 0, 1) := by decide +kernel
theorem dX11_need_9 : decode cX11_need 9 = .ok (.invokevirtual 215, 3) := by decide +kernel
theorem dX11_need_12 : decode cX11_need 12 = .ok (.goto 8, 3) := by decide +kernel
theorem dX11_need_15 : decode cX11_need 15 = .ok (.aload_n 0, 1) := by decide +kernel
theorem dX11_need_16 : decode cX11_need 16 = .ok (.iconst 1, 1) := by decide +kernel
theorem dX11_need_17 : decode cX11_need 17 = .ok (.invokevirtual 218, 3) := by decide +kernel
theorem dX11_need_20 : decode cX11_need 20 = .ok (.return_, 1) := by decide +kernel
theorem dX11_signed_0 : decode cX11_signed 0 = .ok (.aload_n 0, 1) := by decide +kernel
theorem dX11_signed_1 : decode cX11_signed 1 = .ok (.bipush 45, 2) := by decide +kernel
theorem dX11_signed_3 : decode cX11_signed 3 = .ok (.invokevirtual 212, 3) := by decide +kernel
theorem dX11_signed_6 : decode cX11_signed 6 = .ok (.istore_n 3, 1) := by decide +kernel
theorem dX11_signed_7 : decode cX11_signed 7 = .ok (.iload_n 3, 1) := by decide +kernel
theorem dX11_signed_8 : decode cX11_signed 8 = .ok (.ifCond .eq 7, 3) := by decide +kernel
theorem dX11_signed_11 : decode cX11_signed 11 = .ok (.aload_n 0, 1) := by decide +kernel
theorem dX11_signed_12 : decode cX11_signed 12 = .ok (.invokevirtual 215, 3) := by decide +kernel
theorem dX11_signed_15 : decode cX11_signed 15 = .ok (.aload_n 0, 1) := by decide +kernel
theorem dX11_signed_16 : decode cX11_signed 16 = .ok (.getfield 178, 3) := by decide +kernel
theorem dX11_signed_19 : decode cX11_signed 19 = .ok (.iconst 3, 1) := by decide +kernel
theorem dX11_signed_20 : decode cX11_signed 20 = .ok (.if_icmp .eq 8, 3) := by decide +kernel
theorem dX11_signed_23 : decode cX11_signed 23 = .ok (.aload_n 0, 1) := by decide +kernel
theorem dX11_signed_24 : decode cX11_signed 24 = .ok (.iconst 1, 1) := by decide +kernel
theorem dX11_signed_25 : decode cX11_signed 25 = .ok (.invokevirtual 218, 3) := by decide +kernel
theorem dX11_signed_28 : decode cX11_signed 28 = .ok (.iload_n 3, 1) := by decide +kernel
theorem dX11_signed_29 : decode cX11_signed 29 = .ok (.ifCond .eq 11, 3) := by decide +kernel
theorem dX11_signed_32 : decode cX11_signed 32 = .ok (.aload_n 0, 1) := by decide +kernel
theorem dX11_signed_33 : decode cX11_signed 33 = .ok (.getfield 203, 3) := by decide +kernel
theorem dX11_signed_36 : decode cX11_signed 36 = .ok (.ineg, 1) := by decide +kernel
theorem dX11_signed_37 : decode cX11_signed 37 = .ok (.goto 7, 3) := by decide +kernel
theorem dX11_signed_40 : decode cX11_signed 40 = .ok (.aload_n 0, 1) := by decide +kernel
theorem dX11_signed_41 : decode cX11_signed 41 = .ok (.getfield 203, 3) := by decide +kernel
theorem dX11_signed_44 : decode cX11_signed 44 = .ok (.istore 4, 2) := by decide +kernel
theorem dX11_signed_46 : decode cX11_signed 46 = .ok (.iload 4, 2) := by decide +kernel
theorem dX11_signed_48 : decode cX11_signed 48 = .ok (.iload_n 1, 1) := by decide +kernel
theorem dX11_signed_49 : decode cX11_signed 49 = .ok (.iload_n 2, 1) := by decide +kernel
theorem dX11_signed_50 : decode cX11_signed 50 = .ok (.invokestatic 221, 3) := by decide +kernel
theorem dX11_signed_53 : decode cX11_signed 53 = .ok (.ifCond .ne 8, 3) := by decide +kernel
theorem dX11_signed_56 : decode cX11_signed 56 = .ok (.aload_n 0, 1) := by decide +kernel
theorem dX11_signed_57 : decode cX11_signed 57 = .ok (.iconst 2, 1) := by decide +kernel
theorem dX11_signed_58 : decode cX11_signed 58 = .ok (.invokevirtual 218, 3) := by decide +kernel
theorem dX11_signed_61 : decode cX11_signed 61 = .ok (.iload 4, 2) := by decide +kernel
theorem dX11_signed_63 : decode cX11_signed 63 = .ok (.ireturn, 1) := by decide +kernel
theorem dX11_numeral_0 : decode cX11_numeral 0 = .ok (.iconst 0, 1) := by decide +kernel
theorem dX11_numeral_1 : decode cX11_numeral 1 = .ok (.istore_n 3, 1) := by decide +kernel
theorem dX11_numeral_2 : decode cX11_numeral 2 = .ok (.aload_n 0, 1) := by decide +kernel
theorem dX11_numeral_3 : decode cX11_numeral 3 = .ok (.getfield 178, 3) := by decide +kernel
theorem dX11_numeral_6 : decode cX11_numeral 6 = .ok (.iconst 3, 1) := by decide +kernel
theorem dX11_numeral_7 : decode cX11_numeral 7 = .ok (.if_icmp .eq 11, 3) := by decide +kernel
theorem dX11_numeral_10 : decode cX11_numeral 10 = .ok (.aload_n 0, 1) := by decide +kernel
theorem dX11_numeral_11 : decode cX11_numeral 11 = .ok (.iconst 1, 1) := by decide +kernel
theorem dX11_numeral_12 : decode cX11_numeral 12 = .ok (.invokevirtual 218, 3) := by decide +kernel
theorem dX11_numeral_15 : decode cX11_numeral 15 = .ok (.goto 10, 3) := by decide +kernel
theorem dX11_numeral_18 : decode cX11_numeral 18 = .ok (.aload_n 0, 1) := by decide +kernel
theorem dX11_numeral_19 : decode cX11_numeral 19 = .ok (.iload_n 1, 1) := by decide +kernel
theorem dX11_numeral_20 : decode cX11_numeral 20 = .ok (.iload_n 2, 1) := by decide +kernel
theorem dX11_numeral_21 : decode cX11_numeral 21 = .ok (.invokevirtual 225, 3) := by decide +kernel
theorem dX11_numeral_24 : decode cX11_numeral 24 = .ok (.istore_n 3, 1) := by decide +kernel
theorem dX11_numeral_25 : decode cX11_numeral 25 = .ok (.aload_n 0, 1) := by decide +kernel
theorem dX11_numeral_26 : decode cX11_numeral 26 = .ok (.getfield 206, 3) := by decide +kernel
theorem dX11_numeral_29 : decode cX11_numeral 29 = .ok (.ifCond .ne 7, 3) := by decide +kernel
theorem dX11_numeral_32 : decode cX11_numeral 32 = .ok (.aload_n 0, 1) := by decide +kernel
theorem dX11_numeral_33 : decode cX11_numeral 33 = .ok (.invokevirtual 215, 3) := by decide +kernel
theorem dX11_numeral_36 : decode cX11_numeral 36 = .ok (.iload_n 3, 1) := by decide +kernel
theorem dX11_numeral_37 : decode cX11_numeral 37 = .ok (.ireturn, 1) := by decide +kernel
theorem dX11_readAll_0 : decode cX11_readAll 0 = .ok (.aload_n 0, 1) := by decide +kernel
theorem dX11_readAll_1 : decode cX11_readAll 1 = .ok (.invokevirtual 215, 3) := by decide +kernel
theorem dX11_readAll_4 : decode cX11_readAll 4 = .ok (.aload_n 0, 1) := by decide +kernel
theorem dX11_readAll_5 : decode cX11_readAll 5 = .ok (.getfield 178, 3) := by decide +kernel
theorem dX11_readAll_8 : decode cX11_readAll 8 = .ok (.ifCond .ne 4, 3) := by decide +kernel
theorem dX11_readAll_11 : decode cX11_readAll 11 = .ok (.return_, 1) := by decide +kernel
theorem dX11_readAll_12 : decode cX11_readAll 12 = .ok (.aload_n 0, 1) := by decide +kernel
theorem dX11_readAll_13 : decode cX11_readAll 13 = .ok (.iconst 0, 1) := by decide +kernel
theorem dX11_readAll_14 : decode cX11_readAll 14 = .ok (.invokevirtual 229, 3) := by decide +kernel
theorem dX11_readAll_17 : decode cX11_readAll 17 = .ok (.ifCond .ne 8, 3) := by decide +kernel
theorem dX11_readAll_20 : decode cX11_readAll 20 = .ok (.aload_n 0, 1) := by decide +kernel
theorem dX11_readAll_21 : decode cX11_readAll 21 = .ok (.iconst 1, 1) := by decide +kernel
theorem dX11_readAll_22 : decode cX11_readAll 22 = .ok (.invokevirtual 218, 3) := by decide +kernel
theorem dX11_readAll_25 : decode cX11_readAll 25 = .ok (.aload_n 0, 1) := by decide +kernel
theorem dX11_readAll_26 : decode cX11_readAll 26 = .ok (.getfield 206, 3) := by decide +kernel
theorem dX11_readAll_29 : decode cX11_readAll 29 = .ok (.ifCond .ne 7, 3) := by decide +kernel
theorem dX11_readAll_32 : decode cX11_readAll 32 = .ok (.aload_n 0, 1) := by decide +kernel
theorem dX11_readAll_33 : decode cX11_readAll 33 = .ok (.invokevirtual 215, 3) := by decide +kernel
theorem dX11_readAll_36 : decode cX11_readAll 36 = .ok (.aload_n 0, 1) := by decide +kernel
theorem dX11_readAll_37 : decode cX11_readAll 37 = .ok (.getfield 7, 3) := by decide +kernel
theorem dX11_readAll_40 : decode cX11_readAll 40 = .ok (.iload_n 1, 1) := by decide +kernel
theorem dX11_readAll_41 : decode cX11_readAll 41 = .ok (.aload_n 0, 1) := by decide +kernel
theorem dX11_readAll_42 : decode cX11_readAll 42 = .ok (.iconst 1, 1) := by decide +kernel
theorem dX11_readAll_43 : decode cX11_readAll 43 = .ok (.bipush 10, 2) := by decide +kernel
theorem dX11_readAll_45 : decode cX11_readAll 45 = .ok (.invokevirtual 232, 3) := by decide +kernel
theorem dX11_readAll_48 : decode cX11_readAll 48 = .ok (.iastore, 1) := by decide +kernel
theorem dX11_readAll_49 : decode cX11_readAll 49 = .ok (.aload_n 0, 1) := by decide +kernel
theorem dX11_readAll_50 : decode cX11_readAll 50 = .ok (.getfield 13, 3) := by decide +kernel
theorem dX11_readAll_53 : decode cX11_readAll 53 = .ok (.iload_n 1, 1) := by decide +kernel
theorem dX11_readAll_54 : decode cX11_readAll 54 = .ok (.aload_n 0, 1) := by decide +kernel
theorem dX11_readAll_55 : decode cX11_readAll 55 = .ok (.iconst 1, 1) := by decide +kernel
theorem dX11_readAll_56 : decode cX11_readAll 56 = .ok (.bipush 10, 2) := by decide +kernel
theorem dX11_readAll_58 : decode cX11_readAll 58 = .ok (.invokevirtual 232, 3) := by decide +kernel
theorem dX11_readAll_61 : decode cX11_readAll 61 = .ok (.iastore, 1) := by decide +kernel
theorem dX11_readAll_62 : decode cX11_readAll 62 = .ok (.aload_n 0, 1) := by decide +kernel
theorem dX11_readAll_63 : decode cX11_readAll 63 = .ok (.bipush 59, 2) := by decide +kernel
theorem dX11_readAll_65 : decode cX11_readAll 65 = .ok (.invokevirtual 235, 3) := by decide +kernel
theorem dX11_readAll_68 : decode cX11_readAll 68 = .ok (.aload_n 0, 1) := by decide +kernel
theorem dX11_readAll_69 : decode cX11_readAll 69 = .ok (.getfield 206, 3) := by decide +kernel
theorem dX11_readAll_72 : decode cX11_readAll 72 = .ok (.ifCond .ne 24, 3) := by decide +kernel
theorem dX11_readAll_75 : decode cX11_readAll 75 = .ok (.aload_n 0, 1) := by decide +kernel
theorem dX11_readAll_76 : decode cX11_readAll 76 = .ok (.getfield 178, 3) := by decide +kernel
theorem dX11_readAll_79 : decode cX11_readAll 79 = .ok (.ifCond .eq 17, 3) := by decide +kernel
theorem dX11_readAll_82 : decode cX11_readAll 82 = .ok (.aload_n 0, 1) := by decide +kernel
theorem dX11_readAll_83 : decode cX11_readAll 83 = .ok (.iload_n 1, 1) := by decide +kernel
theorem dX11_readAll_84 : decode cX11_readAll 84 = .ok (.invokevirtual 238, 3) := by decide +kernel
theorem dX11_readAll_87 : decode cX11_readAll 87 = .ok (.aload_n 0, 1) := by decide +kernel
theorem dX11_readAll_88 : decode cX11_readAll 88 = .ok (.bipush 59, 2) := by decide +kernel
theorem dX11_readAll_90 : decode cX11_readAll 90 = .ok (.invokevirtual 235, 3) := by decide +kernel
theorem dX11_readAll_93 : decode cX11_readAll 93 = .ok (.goto (-25), 3) := by decide +kernel
theorem dX11_readAll_96 : decode cX11_readAll 96 = .ok (.return_, 1) := by decide +kernel
theorem dX11_readLine_0 : decode cX11_readLine 0 = .ok (.aload_n 0, 1) := by decide +kernel
theorem dX11_readLine_1 : decode cX11_readLine 1 = .ok (.iconst 1, 1) := by decide +kernel
theorem dX11_readLine_2 : decode cX11_readLine 2 = .ok (.invokevirtual 229, 3) := by decide +kernel
theorem dX11_readLine_5 : decode cX11_readLine 5 = .ok (.ifCond .eq 11, 3) := by decide +kernel
theorem dX11_readLine_8 : decode cX11_readLine 8 = .ok (.aload_n 0, 1) := by decide +kernel
theorem dX11_readLine_9 : decode cX11_readLine 9 = .ok (.iload_n 1, 1) := by decide +kernel
theorem dX11_readLine_10 : decode cX11_readLine 10 = .ok (.invokevirtual 241, 3) := by decide +kernel
theorem dX11_readLine_13 : decode cX11_readLine 13 = .ok (.goto 184, 3) := by decide +kernel
theorem dX11_readLine_16 : decode cX11_readLine 16 = .ok (.aload_n 0, 1) := by decide +kernel
theorem dX11_readLine_17 : decode cX11_readLine 17 = .ok (.iconst 2, 1) := by decide +kernel
theorem dX11_readLine_18 : decode cX11_readLine 18 = .ok (.invokevirtual 229, 3) := by decide +kernel
theorem dX11_readLine_21 : decode cX11_readLine 21 = .ok (.ifCond .eq 72, 3) := by decide +kernel
theorem dX11_readLine_24 : decode cX11_readLine 24 = .ok (.aload_n 0, 1) := by decide +kernel
theorem dX11_readLine_25 : decode cX11_readLine 25 = .ok (.getfield 244, 3) := by decide +kernel
theorem dX11_readLine_28 : decode cX11_readLine 28 = .ok (.ifCond .ne 65, 3) := by decide +kernel
theorem dX11_readLine_31 : decode cX11_readLine 31 = .ok (.aload_n 0, 1) := by decide +kernel
theorem dX11_readLine_32 : decode cX11_readLine 32 = .ok (.iconst 1, 1) := by decide +kernel
theorem dX11_readLine_33 : decode cX11_readLine 33 = .ok (.putfield 244, 3) := by decide +kernel
theorem dX11_readLine_36 : decode cX11_readLine 36 = .ok (.aload_n 0, 1) := by decide +kernel
theorem dX11_readLine_37 : decode cX11_readLine 37 = .ok (.invokevirtual 215, 3) := by decide +kernel
theorem dX11_readLine_40 : decode cX11_readLine 40 = .ok (.aload_n 0, 1) := by decide +kernel
theorem dX11_readLine_41 : decode cX11_readLine 41 = .ok (.getfield 28, 3) := by decide +kernel
theorem dX11_readLine_44 : decode cX11_readLine 44 = .ok (.iload_n 1, 1) := by decide +kernel
theorem dX11_readLine_45 : decode cX11_readLine 45 = .ok (.aload_n 0, 1) := by decide +kernel
theorem dX11_readLine_46 : decode cX11_readLine 46 = .ok (.bipush (-9), 2) := by decide +kernel
theorem dX11_readLine_48 : decode cX11_readLine 48 = .ok (.bipush 9, 2) := by decide +kernel
theorem dX11_readLine_50 : decode cX11_readLine 50 = .ok (.invokevirtual 225, 3) := by decide +kernel
theorem dX11_readLine_53 : decode cX11_readLine 53 = .ok (.iastore, 1) := by decide +kernel
theorem dX11_readLine_54 : decode cX11_readLine 54 = .ok (.aload_n 0, 1) := by decide +kernel
theorem dX11_readLine_55 : decode cX11_readLine 55 = .ok (.getfield 206, 3) := by decide +kernel
theorem dX11_readLine_58 : decode cX11_readLine 58 = .ok (.ifCond .ne 7, 3) := by decide +kernel
theorem dX11_readLine_61 : decode cX11_readLine 61 = .ok (.aload_n 0, 1) := by decide +kernel
theorem dX11_readLine_62 : decode cX11_readLine 62 = .ok (.invokevirtual 215, 3) := by decide +kernel
theorem dX11_readLine_65 : decode cX11_readLine 65 = .ok (.aload_n 0, 1) := by decide +kernel
theorem dX11_readLine_66 : decode cX11_readLine 66 = .ok (.getfield 31, 3) := by decide +kernel
theorem dX11_readLine_69 : decode cX11_readLine 69 = .ok (.iload_n 1, 1) := by decide +kernel
theorem dX11_readLine_70 : decode cX11_readLine 70 = .ok (.aload_n 0, 1) := by decide +kernel
theorem dX11_readLine_71 : decode cX11_readLine 71 = .ok (.bipush (-9), 2) := by decide +kernel
theorem dX11_readLine_73 : decode cX11_readLine 73 = .ok (.bipush 9, 2) := by decide +kernel
theorem dX11_readLine_75 : decode cX11_readLine 75 = .ok (.invokevirtual 225, 3) := by decide +kernel
theorem dX11_readLine_78 : decode cX11_readLine 78 = .ok (.iastore, 1) := by decide +kernel
theorem dX11_readLine_79 : decode cX11_readLine 79 = .ok (.aload_n 0, 1) := by decide +kernel
theorem dX11_readLine_80 : decode cX11_readLine 80 = .ok (.getfield 206, 3) := by decide +kernel
theorem dX11_readLine_83 : decode cX11_readLine 83 = .ok (.ifCond .ne 114, 3) := by decide +kernel
theorem dX11_readLine_86 : decode cX11_readLine 86 = .ok (.aload_n 0, 1) := by decide +kernel
theorem dX11_readLine_87 : decode cX11_readLine 87 = .ok (.invokevirtual 215, 3) := by decide +kernel
theorem dX11_readLine_90 : decode cX11_readLine 90 = .ok (.goto 107, 3) := by decide +kernel
theorem dX11_readLine_93 : decode cX11_readLine 93 = .ok (.aload_n 0, 1) := by decide +kernel
theorem dX11_readLine_94 : decode cX11_readLine 94 = .ok (.iconst 3, 1) := by decide +kernel
theorem dX11_readLine_95 : decode cX11_readLine 95 = .ok (.invokevirtual 229, 3) := by decide +kernel
theorem dX11_readLine_98 : decode cX11_readLine 98 = .ok (.ifCond .eq 94, 3) := by decide +kernel
theorem dX11_readLine_101 : decode cX11_readLine 101 = .ok (.aload_n 0, 1) := by decide +kernel
theorem dX11_readLine_102 : decode cX11_readLine 102 = .ok (.getfield 248, 3) := by decide +kernel
theorem dX11_readLine_105 : decode cX11_readLine 105 = .ok (.ifCond .ne 87, 3) := by decide +kernel
theorem dX11_readLine_108 : decode cX11_readLine 108 = .ok (.aload_n 0, 1) := by decide +kernel
theorem dX11_readLine_109 : decode cX11_readLine 109 = .ok (.iconst 1, 1) := by decide +kernel
theorem dX11_readLine_110 : decode cX11_readLine 110 = .ok (.putfield 248, 3) := by decide +kernel
theorem dX11_readLine_113 : decode cX11_readLine 113 = .ok (.aload_n 0, 1) := by decide +kernel
theorem dX11_readLine_114 : decode cX11_readLine 114 = .ok (.invokevirtual 215, 3) := by decide +kernel
theorem dX11_readLine_117 : decode cX11_readLine 117 = .ok (.aload_n 0, 1) := by decide +kernel
theorem dX11_readLine_118 : decode cX11_readLine 118 = .ok (.getfield 34, 3) := by decide +kernel
theorem dX11_readLine_121 : decode cX11_readLine 121 = .ok (.iload_n 1, 1) := by decide +kernel
theorem dX11_readLine_122 : decode cX11_readLine 122 = .ok (.aload_n 0, 1) := by decide +kernel
theorem dX11_readLine_123 : decode cX11_readLine 123 = .ok (.bipush (-3), 2) := by decide +kernel
theorem dX11_readLine_125 : decode cX11_readLine 125 = .ok (.iconst 3, 1) := by decide +kernel
theorem dX11_readLine_126 : decode cX11_readLine 126 = .ok (.invokevirtual 225, 3) := by decide +kernel
theorem dX11_readLine_129 : decode cX11_readLine 129 = .ok (.iastore, 1) := by decide +kernel
theorem dX11_readLine_130 : decode cX11_readLine 130 = .ok (.aload_n 0, 1) := by decide +kernel
theorem dX11_readLine_131 : decode cX11_readLine 131 = .ok (.getfield 206, 3) := by decide +kernel
theorem dX11_readLine_134 : decode cX11_readLine 134 = .ok (.ifCond .ne 7, 3) := by decide +kernel
theorem dX11_readLine_137 : decode cX11_readLine 137 = .ok (.aload_n 0, 1) := by decide +kernel
theorem dX11_readLine_138 : decode cX11_readLine 138 = .ok (.invokevirtual 215, 3) := by decide +kernel
theorem dX11_readLine_141 : decode cX11_readLine 141 = .ok (.aload_n 0, 1) := by decide +kernel
theorem dX11_readLine_142 : decode cX11_readLine 142 = .ok (.getfield 37, 3) := by decide +kernel
theorem dX11_readLine_145 : decode cX11_readLine 145 = .ok (.iload_n 1, 1) := by decide +kernel
theorem dX11_readLine_146 : decode cX11_readLine 146 = .ok (.aload_n 0, 1) := by decide +kernel
theorem dX11_readLine_147 : decode cX11_readLine 147 = .ok (.bipush (-3), 2) := by decide +kernel
theorem dX11_readLine_149 : decode cX11_readLine 149 = .ok (.iconst 3, 1) := by decide +kernel
theorem dX11_readLine_150 : decode cX11_readLine 150 = .ok (.invokevirtual 225, 3) := by decide +kernel
theorem dX11_readLine_153 : decode cX11_readLine 153 = .ok (.iastore, 1) := by decide +kernel
theorem dX11_readLine_154 : decode cX11_readLine 154 = .ok (.aload_n 0, 1) := by decide +kernel
theorem dX11_readLine_155 : decode cX11_readLine 155 = .ok (.getfield 34, 3) := by decide +kernel
theorem dX11_readLine_158 : decode cX11_readLine 158 = .ok (.iload_n 1, 1) := by decide +kernel
theorem dX11_readLine_159 : decode cX11_readLine 159 = .ok (.iaload, 1) := by decide +kernel
theorem dX11_readLine_160 : decode cX11_readLine 160 = .ok (.aload_n 0, 1) := by decide +kernel
theorem dX11_readLine_161 : decode cX11_readLine 161 = .ok (.getfield 37, 3) := by decide +kernel
theorem dX11_readLine_164 : decode cX11_readLine 164 = .ok (.iload_n 1, 1) := by decide +kernel
theorem dX11_readLine_165 : decode cX11_readLine 165 = .ok (.iaload, 1) := by decide +kernel
theorem dX11_readLine_166 : decode cX11_readLine 166 = .ok (.invokestatic 251, 3) := by decide +kernel
theorem dX11_readLine_169 : decode cX11_readLine 169 = .ok (.iconst 1, 1) := by decide +kernel
theorem dX11_readLine_170 : decode cX11_readLine 170 = .ok (.if_icmp .eq 8, 3) := by decide +kernel
theorem dX11_readLine_173 : decode cX11_readLine 173 = .ok (.aload_n 0, 1) := by decide +kernel
theorem dX11_readLine_174 : decode cX11_readLine 174 = .ok (.iconst 2, 1) := by decide +kernel
theorem dX11_readLine_175 : decode cX11_readLine 175 = .ok (.invokevirtual 218, 3) := by decide +kernel
theorem dX11_readLine_178 : decode cX11_readLine 178 = .ok (.aload_n 0, 1) := by decide +kernel
theorem dX11_readLine_179 : decode cX11_readLine 179 = .ok (.getfield 206, 3) := by decide +kernel
theorem dX11_readLine_182 : decode cX11_readLine 182 = .ok (.ifCond .ne 15, 3) := by decide +kernel
theorem dX11_readLine_185 : decode cX11_readLine 185 = .ok (.aload_n 0, 1) := by decide +kernel
theorem dX11_readLine_186 : decode cX11_readLine 186 = .ok (.invokevirtual 215, 3) := by decide +kernel
theorem dX11_readLine_189 : decode cX11_readLine 189 = .ok (.goto 8, 3) := by decide +kernel
theorem dX11_readLine_192 : decode cX11_readLine 192 = .ok (.aload_n 0, 1) := by decide +kernel
theorem dX11_readLine_193 : decode cX11_readLine 193 = .ok (.iconst 1, 1) := by decide +kernel
theorem dX11_readLine_194 : decode cX11_readLine 194 = .ok (.invokevirtual 218, 3) := by decide +kernel
theorem dX11_readLine_197 : decode cX11_readLine 197 = .ok (.return_, 1) := by decide +kernel
theorem dX11_isNamed_0 : decode cX11_isNamed 0 = .ok (.aload_n 0, 1) := by decide +kernel
theorem dX11_isNamed_1 : decode cX11_isNamed 1 = .ok (.getfield 81, 3) := by decide +kernel
theorem dX11_isNamed_4 : decode cX11_isNamed 4 = .ok (.iload_n 1, 1) := by decide +kernel
theorem dX11_isNamed_5 : decode cX11_isNamed 5 = .ok (.iaload, 1) := by decide +kernel
theorem dX11_isNamed_6 : decode cX11_isNamed 6 = .ok (.aload_n 0, 1) := by decide +kernel
theorem dX11_isNamed_7 : decode cX11_isNamed 7 = .ok (.getfield 165, 3) := by decide +kernel
theorem dX11_isNamed_10 : decode cX11_isNamed 10 = .ok (.aload_n 0, 1) := by decide +kernel
theorem dX11_isNamed_11 : decode cX11_isNamed 11 = .ok (.getfield 168, 3) := by decide +kernel
theorem dX11_isNamed_14 : decode cX11_isNamed 14 = .ok (.isub, 1) := by decide +kernel
theorem dX11_isNamed_15 : decode cX11_isNamed 15 = .ok (.if_icmp .eq 5, 3) := by decide +kernel
theorem dX11_isNamed_18 : decode cX11_isNamed 18 = .ok (.iconst 0, 1) := by decide +kernel
theorem dX11_isNamed_19 : decode cX11_isNamed 19 = .ok (.ireturn, 1) := by decide +kernel
theorem dX11_isNamed_20 : decode cX11_isNamed 20 = .ok (.iconst 0, 1) := by decide +kernel
theorem dX11_isNamed_21 : decode cX11_isNamed 21 = .ok (.istore_n 2, 1) := by decide +kernel
theorem dX11_isNamed_22 : decode cX11_isNamed 22 = .ok (.iload_n 2, 1) := by decide +kernel
theorem dX11_isNamed_23 : decode cX11_isNamed 23 = .ok (.aload_n 0, 1) := by decide +kernel
theorem dX11_isNamed_24 : decode cX11_isNamed 24 = .ok (.getfield 81, 3) := by decide +kernel
theorem dX11_isNamed_27 : decode cX11_isNamed 27 = .ok (.iload_n 1, 1) := by decide +kernel
theorem dX11_isNamed_28 : decode cX11_isNamed 28 = .ok (.iaload, 1) := by decide +kernel
theorem dX11_isNamed_29 : decode cX11_isNamed 29 = .ok (.if_icmp .ge 38, 3) := by decide +kernel
theorem dX11_isNamed_32 : decode cX11_isNamed 32 = .ok (.aload_n 0, 1) := by decide +kernel
theorem dX11_isNamed_33 : decode cX11_isNamed 33 = .ok (.getfield 67, 3) := by decide +kernel
theorem dX11_isNamed_36 : decode cX11_isNamed 36 = .ok (.aload_n 0, 1) := by decide +kernel
theorem dX11_isNamed_37 : decode cX11_isNamed 37 = .ok (.getfield 78, 3) := by decide +kernel
theorem dX11_isNamed_40 : decode cX11_isNamed 40 = .ok (.iload_n 1, 1) := by decide +kernel
theorem dX11_isNamed_41 : decode cX11_isNamed 41 = .ok (.iaload, 1) := by decide +kernel
theorem dX11_isNamed_42 : decode cX11_isNamed 42 = .ok (.iload_n 2, 1) := by decide +kernel
theorem dX11_isNamed_43 : decode cX11_isNamed 43 = .ok (.iadd, 1) := by decide +kernel
theorem dX11_isNamed_44 : decode cX11_isNamed 44 = .ok (.baload, 1) := by decide +kernel
theorem dX11_isNamed_45 : decode cX11_isNamed 45 = .ok (.aload_n 0, 1) := by decide +kernel
theorem dX11_isNamed_46 : decode cX11_isNamed 46 = .ok (.getfield 67, 3) := by decide +kernel
theorem dX11_isNamed_49 : decode cX11_isNamed 49 = .ok (.aload_n 0, 1) := by decide +kernel
theorem dX11_isNamed_50 : decode cX11_isNamed 50 = .ok (.getfield 168, 3) := by decide +kernel
theorem dX11_isNamed_53 : decode cX11_isNamed 53 = .ok (.iload_n 2, 1) := by decide +kernel
theorem dX11_isNamed_54 : decode cX11_isNamed 54 = .ok (.iadd, 1) := by decide +kernel
theorem dX11_isNamed_55 : decode cX11_isNamed 55 = .ok (.baload, 1) := by decide +kernel
theorem dX11_isNamed_56 : decode cX11_isNamed 56 = .ok (.if_icmp .eq 5, 3) := by decide +kernel
theorem dX11_isNamed_59 : decode cX11_isNamed 59 = .ok (.iconst 0, 1) := by decide +kernel
theorem dX11_isNamed_60 : decode cX11_isNamed 60 = .ok (.ireturn, 1) := by decide +kernel
theorem dX11_isNamed_61 : decode cX11_isNamed 61 = .ok (.iinc 2 1, 3) := by decide +kernel
theorem dX11_isNamed_64 : decode cX11_isNamed 64 = .ok (.goto (-42), 3) := by decide +kernel
theorem dX11_isNamed_67 : decode cX11_isNamed 67 = .ok (.iconst 1, 1) := by decide +kernel
theorem dX11_isNamed_68 : decode cX11_isNamed 68 = .ok (.ireturn, 1) := by decide +kernel
theorem dX11_named_0 : decode cX11_named 0 = .ok (.iconst 0, 1) := by decide +kernel
theorem dX11_named_1 : decode cX11_named 1 = .ok (.istore_n 2, 1) := by decide +kernel
theorem dX11_named_2 : decode cX11_named 2 = .ok (.iload_n 2, 1) := by decide +kernel
theorem dX11_named_3 : decode cX11_named 3 = .ok (.iload_n 1, 1) := by decide +kernel
theorem dX11_named_4 : decode cX11_named 4 = .ok (.if_icmp .ge 19, 3) := by decide +kernel
theorem dX11_named_7 : decode cX11_named 7 = .ok (.aload_n 0, 1) := by decide +kernel
theorem dX11_named_8 : decode cX11_named 8 = .ok (.iload_n 2, 1) := by decide +kernel
theorem dX11_named_9 : decode cX11_named 9 = .ok (.invokevirtual 254, 3) := by decide +kernel
theorem dX11_named_12 : decode cX11_named 12 = .ok (.ifCond .eq 5, 3) := by decide +kernel
theorem dX11_named_15 : decode cX11_named 15 = .ok (.iload_n 2, 1) := by decide +kernel
theorem dX11_named_16 : decode cX11_named 16 = .ok (.ireturn, 1) := by decide +kernel
theorem dX11_named_17 : decode cX11_named 17 = .ok (.iinc 2 1, 3) := by decide +kernel
theorem dX11_named_20 : decode cX11_named 20 = .ok (.goto (-18), 3) := by decide +kernel
theorem dX11_named_23 : decode cX11_named 23 = .ok (.iconst (-1), 1) := by decide +kernel
theorem dX11_named_24 : decode cX11_named 24 = .ok (.ireturn, 1) := by decide +kernel
theorem dX11_readLet_0 : decode cX11_readLet 0 = .ok (.aload_n 0, 1) := by decide +kernel
theorem dX11_readLet_1 : decode cX11_readLet 1 = .ok (.getfield 16, 3) := by decide +kernel
theorem dX11_readLet_4 : decode cX11_readLet 4 = .ok (.iload_n 1, 1) := by decide +kernel
theorem dX11_readLet_5 : decode cX11_readLet 5 = .ok (.iaload, 1) := by decide +kernel
theorem dX11_readLet_6 : decode cX11_readLet 6 = .ok (.istore_n 2, 1) := by decide +kernel
theorem dX11_readLet_7 : decode cX11_readLet 7 = .ok (.iload_n 2, 1) := by decide +kernel
theorem dX11_readLet_8 : decode cX11_readLet 8 = .ok (.iconst 3, 1) := by decide +kernel
theorem dX11_readLet_9 : decode cX11_readLet 9 = .ok (.if_icmp .ne 8, 3) := by decide +kernel
theorem dX11_readLet_12 : decode cX11_readLet 12 = .ok (.aload_n 0, 1) := by decide +kernel
theorem dX11_readLet_13 : decode cX11_readLet 13 = .ok (.iconst 4, 1) := by decide +kernel
theorem dX11_readLet_14 : decode cX11_readLet 14 = .ok (.invokevirtual 218, 3) := by decide +kernel
theorem dX11_readLet_17 : decode cX11_readLet 17 = .ok (.aload_n 0, 1) := by decide +kernel
theorem dX11_readLet_18 : decode cX11_readLet 18 = .ok (.getfield 206, 3) := by decide +kernel
theorem dX11_readLet_21 : decode cX11_readLet 21 = .ok (.ifCond .le 4, 3) := by decide +kernel
theorem dX11_readLet_24 : decode cX11_readLet 24 = .ok (.return_, 1) := by decide +kernel
theorem dX11_readLet_25 : decode cX11_readLet 25 = .ok (.aload_n 0, 1) := by decide +kernel
theorem dX11_readLet_26 : decode cX11_readLet 26 = .ok (.invokevirtual 215, 3) := by decide +kernel
theorem dX11_readLet_29 : decode cX11_readLet 29 = .ok (.aload_n 0, 1) := by decide +kernel
theorem dX11_readLet_30 : decode cX11_readLet 30 = .ok (.invokevirtual 257, 3) := by decide +kernel
theorem dX11_readLet_33 : decode cX11_readLet 33 = .ok (.ifCond .ne 11, 3) := by decide +kernel
theorem dX11_readLet_36 : decode cX11_readLet 36 = .ok (.aload_n 0, 1) := by decide +kernel
theorem dX11_readLet_37 : decode cX11_readLet 37 = .ok (.iconst 1, 1) := by decide +kernel
theorem dX11_readLet_38 : decode cX11_readLet 38 = .ok (.invokevirtual 218, 3) := by decide +kernel
theorem dX11_readLet_41 : decode cX11_readLet 41 = .ok (.goto 16, 3) := by decide +kernel
theorem dX11_readLet_44 : decode cX11_readLet 44 = .ok (.aload_n 0, 1) := by decide +kernel
theorem dX11_readLet_45 : decode cX11_readLet 45 = .ok (.iload_n 2, 1) := by decide +kernel
theorem dX11_readLet_46 : decode cX11_readLet 46 = .ok (.invokevirtual 261, 3) := by decide +kernel
theorem dX11_readLet_49 : decode cX11_readLet 49 = .ok (.ifCond .lt 8, 3) := by decide +kernel
theorem dX11_readLet_52 : decode cX11_readLet 52 = .ok (.aload_n 0, 1) := by decide +kernel
theorem dX11_readLet_53 : decode cX11_readLet 53 = .ok (.iconst 3, 1) := by decide +kernel
theorem dX11_readLet_54 : decode cX11_readLet 54 = .ok (.invokevirtual 218, 3) := by decide +kernel
theorem dX11_readLet_57 : decode cX11_readLet 57 = .ok (.aload_n 0, 1) := by decide +kernel
theorem dX11_readLet_58 : decode cX11_readLet 58 = .ok (.getfield 206, 3) := by decide +kernel
theorem dX11_readLet_61 : decode cX11_readLet 61 = .ok (.ifCond .le 4, 3) := by decide +kernel
theorem dX11_readLet_64 : decode cX11_readLet 64 = .ok (.return_, 1) := by decide +kernel
theorem dX11_readLet_65 : decode cX11_readLet 65 = .ok (.aload_n 0, 1) := by decide +kernel
theorem dX11_readLet_66 : decode cX11_readLet 66 = .ok (.getfield 78, 3) := by decide +kernel
theorem dX11_readLet_69 : decode cX11_readLet 69 = .ok (.iload_n 2, 1) := by decide +kernel
theorem dX11_readLet_70 : decode cX11_readLet 70 = .ok (.aload_n 0, 1) := by decide +kernel
theorem dX11_readLet_71 : decode cX11_readLet 71 = .ok (.getfield 168, 3) := by decide +kernel
theorem dX11_readLet_74 : decode cX11_readLet 74 = .ok (.iastore, 1) := by decide +kernel
theorem dX11_readLet_75 : decode cX11_readLet 75 = .ok (.aload_n 0, 1) := by decide +kernel
theorem dX11_readLet_76 : decode cX11_readLet 76 = .ok (.getfield 81, 3) := by decide +kernel
theorem dX11_readLet_79 : decode cX11_readLet 79 = .ok (.iload_n 2, 1) := by decide +kernel
theorem dX11_readLet_80 : decode cX11_readLet 80 = .ok (.aload_n 0, 1) := by decide +kernel
theorem dX11_readLet_81 : decode cX11_readLet 81 = .ok (.getfield 165, 3) := by decide +kernel
theorem dX11_readLet_84 : decode cX11_readLet 84 = .ok (.aload_n 0, 1) := by decide +kernel
theorem dX11_readLet_85 : decode cX11_readLet 85 = .ok (.getfield 168, 3) := by decide +kernel
theorem dX11_readLet_88 : decode cX11_readLet 88 = .ok (.isub, 1) := by decide +kernel
theorem dX11_readLet_89 : decode cX11_readLet 89 = .ok (.iastore, 1) := by decide +kernel
theorem dX11_readLet_90 : decode cX11_readLet 90 = .ok (.aload_n 0, 1) := by decide +kernel
theorem dX11_readLet_91 : decode cX11_readLet 91 = .ok (.invokevirtual 215, 3) := by decide +kernel
theorem dX11_readLet_94 : decode cX11_readLet 94 = .ok (.aload_n 0, 1) := by decide +kernel
theorem dX11_readLet_95 : decode cX11_readLet 95 = .ok (.bipush 61, 2) := by decide +kernel
theorem dX11_readLet_97 : decode cX11_readLet 97 = .ok (.invokevirtual 235, 3) := by decide +kernel
theorem dX11_readLet_100 : decode cX11_readLet 100 = .ok (.aload_n 0, 1) := by decide +kernel
theorem dX11_readLet_101 : decode cX11_readLet 101 = .ok (.iload_n 1, 1) := by decide +kernel
theorem dX11_readLet_102 : decode cX11_readLet 102 = .ok (.iload_n 2, 1) := by decide +kernel
theorem dX11_readLet_103 : decode cX11_readLet 103 = .ok (.iconst 1, 1) := by decide +kernel
theorem dX11_readLet_104 : decode cX11_readLet 104 = .ok (.iadd, 1) := by decide +kernel
theorem dX11_readLet_105 : decode cX11_readLet 105 = .ok (.invokevirtual 264, 3) := by decide +kernel
theorem dX11_readLet_108 : decode cX11_readLet 108 = .ok (.aload_n 0, 1) := by decide +kernel
theorem dX11_readLet_109 : decode cX11_readLet 109 = .ok (.getfield 58, 3) := by decide +kernel
theorem dX11_readLet_112 : decode cX11_readLet 112 = .ok (.iconst 3, 1) := by decide +kernel
theorem dX11_readLet_113 : decode cX11_readLet 113 = .ok (.iload_n 1, 1) := by decide +kernel
theorem dX11_readLet_114 : decode cX11_readLet 114 = .ok (.imul, 1) := by decide +kernel
theorem dX11_readLet_115 : decode cX11_readLet 115 = .ok (.iload_n 2, 1) := by decide +kernel
theorem dX11_readLet_116 : decode cX11_readLet 116 = .ok (.iadd, 1) := by decide +kernel
theorem dX11_readLet_117 : decode cX11_readLet 117 = .ok (.aload_n 0, 1) := by decide +kernel
theorem dX11_readLet_118 : decode cX11_readLet 118 = .ok (.getfield 40, 3) := by decide +kernel
theorem dX11_readLet_121 : decode cX11_readLet 121 = .ok (.iload_n 1, 1) := by decide +kernel
theorem dX11_readLet_122 : decode cX11_readLet 122 = .ok (.iaload, 1) := by decide +kernel
theorem dX11_readLet_123 : decode cX11_readLet 123 = .ok (.iastore, 1) := by decide +kernel
theorem dX11_readLet_124 : decode cX11_readLet 124 = .ok (.aload_n 0, 1) := by decide +kernel
theorem dX11_readLet_125 : decode cX11_readLet 125 = .ok (.iconst 4, 1) := by decide +kernel
theorem dX11_readLet_126 : decode cX11_readLet 126 = .ok (.invokevirtual 229, 3) := by decide +kernel
theorem dX11_readLet_129 : decode cX11_readLet 129 = .ok (.ifCond .eq 16, 3) := by decide +kernel
theorem dX11_readLet_132 : decode cX11_readLet 132 = .ok (.aload_n 0, 1) := by decide +kernel
theorem dX11_readLet_133 : decode cX11_readLet 133 = .ok (.invokevirtual 215, 3) := by decide +kernel
theorem dX11_readLet_136 : decode cX11_readLet 136 = .ok (.aload_n 0, 1) := by decide +kernel
theorem dX11_readLet_137 : decode cX11_readLet 137 = .ok (.iload_n 1, 1) := by decide +kernel
theorem dX11_readLet_138 : decode cX11_readLet 138 = .ok (.iconst 0, 1) := by decide +kernel
theorem dX11_readLet_139 : decode cX11_readLet 139 = .ok (.invokevirtual 264, 3) := by decide +kernel
theorem dX11_readLet_142 : decode cX11_readLet 142 = .ok (.goto 9, 3) := by decide +kernel
theorem dX11_readLet_145 : decode cX11_readLet 145 = .ok (.aload_n 0, 1) := by decide +kernel
theorem dX11_readLet_146 : decode cX11_readLet 146 = .ok (.iload_n 1, 1) := by decide +kernel
theorem dX11_readLet_147 : decode cX11_readLet 147 = .ok (.iconst 0, 1) := by decide +kernel
theorem dX11_readLet_148 : decode cX11_readLet 148 = .ok (.invokevirtual 268, 3) := by decide +kernel
theorem dX11_readLet_151 : decode cX11_readLet 151 = .ok (.aload_n 0, 1) := by decide +kernel
theorem dX11_readLet_152 : decode cX11_readLet 152 = .ok (.getfield 61, 3) := by decide +kernel
theorem dX11_readLet_155 : decode cX11_readLet 155 = .ok (.iconst 3, 1) := by decide +kernel
theorem dX11_readLet_156 : decode cX11_readLet 156 = .ok (.iload_n 1, 1) := by decide +kernel
theorem dX11_readLet_157 : decode cX11_readLet 157 = .ok (.imul, 1) := by decide +kernel
theorem dX11_readLet_158 : decode cX11_readLet 158 = .ok (.iload_n 2, 1) := by decide +kernel
theorem dX11_readLet_159 : decode cX11_readLet 159 = .ok (.iadd, 1) := by decide +kernel
theorem dX11_readLet_160 : decode cX11_readLet 160 = .ok (.aload_n 0, 1) := by decide +kernel
theorem dX11_readLet_161 : decode cX11_readLet 161 = .ok (.getfield 40, 3) := by decide +kernel
theorem dX11_readLet_164 : decode cX11_readLet 164 = .ok (.iload_n 1, 1) := by decide +kernel
theorem dX11_readLet_165 : decode cX11_readLet 165 = .ok (.iaload, 1) := by decide +kernel
theorem dX11_readLet_166 : decode cX11_readLet 166 = .ok (.iastore, 1) := by decide +kernel
theorem dX11_readLet_167 : decode cX11_readLet 167 = .ok (.aload_n 0, 1) := by decide +kernel
theorem dX11_readLet_168 : decode cX11_readLet 168 = .ok (.getfield 16, 3) := by decide +kernel
theorem dX11_readLet_171 : decode cX11_readLet 171 = .ok (.iload_n 1, 1) := by decide +kernel
theorem dX11_readLet_172 : decode cX11_readLet 172 = .ok (.dup2, 1) := by decide +kernel
theorem dX11_readLet_173 : decode cX11_readLet 173 = .ok (.iaload, 1) := by decide +kernel
theorem dX11_readLet_174 : decode cX11_readLet 174 = .ok (.iconst 1, 1) := by decide +kernel
theorem dX11_readLet_175 : decode cX11_readLet 175 = .ok (.iadd, 1) := by decide +kernel
theorem dX11_readLet_176 : decode cX11_readLet 176 = .ok (.iastore, 1) := by decide +kernel
theorem dX11_readLet_177 : decode cX11_readLet 177 = .ok (.return_, 1) := by decide +kernel
theorem dX11_lay_0 : decode cX11_lay 0 = .ok (.aload_n 0, 1) := by decide +kernel
theorem dX11_lay_1 : decode cX11_lay 1 = .ok (.getfield 64, 3) := by decide +kernel
theorem dX11_lay_4 : decode cX11_lay 4 = .ok (.bipush 100, 2) := by decide +kernel
theorem dX11_lay_6 : decode cX11_lay 6 = .ok (.iload_n 1, 1) := by decide +kernel
theorem dX11_lay_7 : decode cX11_lay 7 = .ok (.imul, 1) := by decide +kernel
theorem dX11_lay_8 : decode cX11_lay 8 = .ok (.aload_n 0, 1) := by decide +kernel
theorem dX11_lay_9 : decode cX11_lay 9 = .ok (.getfield 40, 3) := by decide +kernel
theorem dX11_lay_12 : decode cX11_lay 12 = .ok (.iload_n 1, 1) := by decide +kernel
theorem dX11_lay_13 : decode cX11_lay 13 = .ok (.iaload, 1) := by decide +kernel
theorem dX11_lay_14 : decode cX11_lay 14 = .ok (.iadd, 1) := by decide +kernel
theorem dX11_lay_15 : decode cX11_lay 15 = .ok (.iload_n 2, 1) := by decide +kernel
theorem dX11_lay_16 : decode cX11_lay 16 = .ok (.iastore, 1) := by decide +kernel
theorem dX11_lay_17 : decode cX11_lay 17 = .ok (.aload_n 0, 1) := by decide +kernel
theorem dX11_lay_18 : decode cX11_lay 18 = .ok (.getfield 40, 3) := by decide +kernel
theorem dX11_lay_21 : decode cX11_lay 21 = .ok (.iload_n 1, 1) := by decide +kernel
theorem dX11_lay_22 : decode cX11_lay 22 = .ok (.dup2, 1) := by decide +kernel
theorem dX11_lay_23 : decode cX11_lay 23 = .ok (.iaload, 1) := by decide +kernel
theorem dX11_lay_24 : decode cX11_lay 24 = .ok (.iconst 1, 1) := by decide +kernel
theorem dX11_lay_25 : decode cX11_lay 25 = .ok (.iadd, 1) := by decide +kernel
theorem dX11_lay_26 : decode cX11_lay 26 = .ok (.iastore, 1) := by decide +kernel
theorem dX11_lay_27 : decode cX11_lay 27 = .ok (.return_, 1) := by decide +kernel
theorem dX11_layWaiting_0 : decode cX11_layWaiting 0 = .ok (.aload_n 0, 1) := by decide +kernel
theorem dX11_layWaiting_1 : decode cX11_layWaiting 1 = .ok (.dup, 1) := by decide +kernel
theorem dX11_layWaiting_2 : decode cX11_layWaiting 2 = .ok (.getfield 271, 3) := by decide +kernel
theorem dX11_layWaiting_5 : decode cX11_layWaiting 5 = .ok (.iconst 1, 1) := by decide +kernel
theorem dX11_layWaiting_6 : decode cX11_layWaiting 6 = .ok (.isub, 1) := by decide +kernel
theorem dX11_layWaiting_7 : decode cX11_layWaiting 7 = .ok (.putfield 271, 3) := by decide +kernel
theorem dX11_layWaiting_10 : decode cX11_layWaiting 10 = .ok (.aload_n 0, 1) := by decide +kernel
theorem dX11_layWaiting_11 : decode cX11_layWaiting 11 = .ok (.iload_n 1, 1) := by decide +kernel
theorem dX11_layWaiting_12 : decode cX11_layWaiting 12 = .ok (.aload_n 0, 1) := by decide +kernel
theorem dX11_layWaiting_13 : decode cX11_layWaiting 13 = .ok (.getfield 84, 3) := by decide +kernel
theorem dX11_layWaiting_16 : decode cX11_layWaiting 16 = .ok (.aload_n 0, 1) := by decide +kernel
theorem dX11_layWaiting_17 : decode cX11_layWaiting 17 = .ok (.getfield 271, 3) := by decide +kernel
theorem dX11_layWaiting_20 : decode cX11_layWaiting 20 = .ok (.iaload, 1) := by decide +kernel
theorem dX11_layWaiting_21 : decode cX11_layWaiting 21 = .ok (.invokevirtual 268, 3) := by decide +kernel
theorem dX11_layWaiting_24 : decode cX11_layWaiting 24 = .ok (.return_, 1) := by decide +kernel
theorem dX11_push_0 : decode cX11_push 0 = .ok (.aload_n 0, 1) := by decide +kernel
theorem dX11_push_1 : decode cX11_push 1 = .ok (.getfield 84, 3) := by decide +kernel
theorem dX11_push_4 : decode cX11_push 4 = .ok (.aload_n 0, 1) := by decide +kernel
theorem dX11_push_5 : decode cX11_push 5 = .ok (.getfield 271, 3) := by decide +kernel
theorem dX11_push_8 : decode cX11_push 8 = .ok (.iload_n 1, 1) := by decide +kernel
theorem dX11_push_9 : decode cX11_push 9 = .ok (.iastore, 1) := by decide +kernel
theorem dX11_push_10 : decode cX11_push 10 = .ok (.aload_n 0, 1) := by decide +kernel
theorem dX11_push_11 : decode cX11_push 11 = .ok (.dup, 1) := by decide +kernel
theorem dX11_push_12 : decode cX11_push 12 = .ok (.getfield 271, 3) := by decide +kernel
theorem dX11_push_15 : decode cX11_push 15 = .ok (.iconst 1, 1) := by decide +kernel
theorem dX11_push_16 : decode cX11_push 16 = .ok (.iadd, 1) := by decide +kernel
theorem dX11_push_17 : decode cX11_push 17 = .ok (.putfield 271, 3) := by decide +kernel
theorem dX11_push_20 : decode cX11_push 20 = .ok (.return_, 1) := by decide +kernel
theorem dX11_bindsBy_0 : decode cX11_bindsBy 0 = .ok (.iload_n 0, 1) := by decide +kernel
theorem dX11_bindsBy_1 : decode cX11_bindsBy 1 = .ok (.sipush 1200, 3) := by decide +kernel
theorem dX11_bindsBy_4 : decode cX11_bindsBy 4 = .ok (.if_icmp .eq 10, 3) := by decide +kernel
theorem dX11_bindsBy_7 : decode cX11_bindsBy 7 = .ok (.iload_n 0, 1) := by decide +kernel
theorem dX11_bindsBy_8 : decode cX11_bindsBy 8 = .ok (.sipush 1201, 3) := by decide +kernel
theorem dX11_bindsBy_11 : decode cX11_bindsBy 11 = .ok (.if_icmp .ne 7, 3) := by decide +kernel
theorem dX11_bindsBy_14 : decode cX11_bindsBy 14 = .ok (.iconst 1, 1) := by decide +kernel
theorem dX11_bindsBy_15 : decode cX11_bindsBy 15 = .ok (.goto 33, 3) := by decide +kernel
theorem dX11_bindsBy_18 : decode cX11_bindsBy 18 = .ok (.iload_n 0, 1) := by decide +kernel
theorem dX11_bindsBy_19 : decode cX11_bindsBy 19 = .ok (.sipush 1202, 3) := by decide +kernel
theorem dX11_bindsBy_22 : decode cX11_bindsBy 22 = .ok (.if_icmp .eq 10, 3) := by decide +kernel
theorem dX11_bindsBy_25 : decode cX11_bindsBy 25 = .ok (.iload_n 0, 1) := by decide +kernel
theorem dX11_bindsBy_26 : decode cX11_bindsBy 26 = .ok (.sipush 1203, 3) := by decide +kernel
theorem dX11_bindsBy_29 : decode cX11_bindsBy 29 = .ok (.if_icmp .ne 7, 3) := by decide +kernel
theorem dX11_bindsBy_32 : decode cX11_bindsBy 32 = .ok (.iconst 2, 1) := by decide +kernel
theorem dX11_bindsBy_33 : decode cX11_bindsBy 33 = .ok (.goto 15, 3) := by decide +kernel
theorem dX11_bindsBy_36 : decode cX11_bindsBy 36 = .ok (.iload_n 0, 1) := by decide +kernel
theorem dX11_bindsBy_37 : decode cX11_bindsBy 37 = .ok (.sipush 1204, 3) := by decide +kernel
theorem dX11_bindsBy_40 : decode cX11_bindsBy 40 = .ok (.if_icmp .ne 7, 3) := by decide +kernel
theorem dX11_bindsBy_43 : decode cX11_bindsBy 43 = .ok (.iconst 3, 1) := by decide +kernel
theorem dX11_bindsBy_44 : decode cX11_bindsBy 44 = .ok (.goto 4, 3) := by decide +kernel
theorem dX11_bindsBy_47 : decode cX11_bindsBy 47 = .ok (.iconst 0, 1) := by decide +kernel
theorem dX11_bindsBy_48 : decode cX11_bindsBy 48 = .ok (.ireturn, 1) := by decide +kernel
theorem dX11_between_0 : decode cX11_between 0 = .ok (.aload_n 0, 1) := by decide +kernel
theorem dX11_between_1 : decode cX11_between 1 = .ok (.bipush 60, 2) := by decide +kernel
theorem dX11_between_3 : decode cX11_between 3 = .ok (.invokevirtual 212, 3) := by decide +kernel
theorem dX11_between_6 : decode cX11_between 6 = .ok (.ifCond .eq 9, 3) := by decide +kernel
theorem dX11_between_9 : decode cX11_between 9 = .ok (.sipush 1200, 3) := by decide +kernel
theorem dX11_between_12 : decode cX11_between 12 = .ok (.goto 64, 3) := by decide +kernel
theorem dX11_between_15 : decode cX11_between 15 = .ok (.aload_n 0, 1) := by decide +kernel
theorem dX11_between_16 : decode cX11_between 16 = .ok (.bipush 62, 2) := by decide +kernel
theorem dX11_between_18 : decode cX11_between 18 = .ok (.invokevirtual 212, 3) := by decide +kernel
theorem dX11_between_21 : decode cX11_between 21 = .ok (.ifCond .eq 9, 3) := by decide +kernel
theorem dX11_between_24 : decode cX11_between 24 = .ok (.sipush 1201, 3) := by decide +kernel
theorem dX11_between_27 : decode cX11_between 27 = .ok (.goto 49, 3) := by decide +kernel
theorem dX11_between_30 : decode cX11_between 30 = .ok (.aload_n 0, 1) := by decide +kernel
theorem dX11_between_31 : decode cX11_between 31 = .ok (.bipush 43, 2) := by decide +kernel
theorem dX11_between_33 : decode cX11_between 33 = .ok (.invokevirtual 212, 3) := by decide +kernel
theorem dX11_between_36 : decode cX11_between 36 = .ok (.ifCond .eq 9, 3) := by decide +kernel
theorem dX11_between_39 : decode cX11_between 39 = .ok (.sipush 1202, 3) := by decide +kernel
theorem dX11_between_42 : decode cX11_between 42 = .ok (.goto 34, 3) := by decide +kernel
theorem dX11_between_45 : decode cX11_between 45 = .ok (.aload_n 0, 1) := by decide +kernel
theorem dX11_between_46 : decode cX11_between 46 = .ok (.bipush 45, 2) := by decide +kernel
theorem dX11_between_48 : decode cX11_between 48 = .ok (.invokevirtual 212, 3) := by decide +kernel
theorem dX11_between_51 : decode cX11_between 51 = .ok (.ifCond .eq 9, 3) := by decide +kernel
theorem dX11_between_54 : decode cX11_between 54 = .ok (.sipush 1203, 3) := by decide +kernel
theorem dX11_between_57 : decode cX11_between 57 = .ok (.goto 19, 3) := by decide +kernel
theorem dX11_between_60 : decode cX11_between 60 = .ok (.aload_n 0, 1) := by decide +kernel
theorem dX11_between_61 : decode cX11_between 61 = .ok (.bipush 42, 2) := by decide +kernel
theorem dX11_between_63 : decode cX11_between 63 = .ok (.invokevirtual 212, 3) := by decide +kernel
theorem dX11_between_66 : decode cX11_between 66 = .ok (.ifCond .eq 9, 3) := by decide +kernel
theorem dX11_between_69 : decode cX11_between 69 = .ok (.sipush 1204, 3) := by decide +kernel
theorem dX11_between_72 : decode cX11_between 72 = .ok (.goto 4, 3) := by decide +kernel
theorem dX11_between_75 : decode cX11_between 75 = .ok (.iconst (-1), 1) := by decide +kernel
theorem dX11_between_76 : decode cX11_between 76 = .ok (.ireturn, 1) := by decide +kernel
theorem dX11_readFormula_0 : decode cX11_readFormula 0 = .ok (.aload_n 0, 1) := by decide +kernel
theorem dX11_readFormula_1 : decode cX11_readFormula 1 = .ok (.iconst 0, 1) := by decide +kernel
theorem dX11_readFormula_2 : decode cX11_readFormula 2 = .ok (.putfield 271, 3) := by decide +kernel
theorem dX11_readFormula_5 : decode cX11_readFormula 5 = .ok (.aload_n 0, 1) := by decide +kernel
theorem dX11_readFormula_6 : decode cX11_readFormula 6 = .ok (.iconst 0, 1) := by decide +kernel
theorem dX11_readFormula_7 : decode cX11_readFormula 7 = .ok (.putfield 274, 3) := by decide +kernel
theorem dX11_readFormula_10 : decode cX11_readFormula 10 = .ok (.iconst 1, 1) := by decide +kernel
theorem dX11_readFormula_11 : decode cX11_readFormula 11 = .ok (.istore_n 3, 1) := by decide +kernel
theorem dX11_readFormula_12 : decode cX11_readFormula 12 = .ok (.iconst 1, 1) := by decide +kernel
theorem dX11_readFormula_13 : decode cX11_readFormula 13 = .ok (.istore 4, 2) := by decide +kernel
theorem dX11_readFormula_15 : decode cX11_readFormula 15 = .ok (.aload_n 0, 1) := by decide +kernel
theorem dX11_readFormula_16 : decode cX11_readFormula 16 = .ok (.getfield 206, 3) := by decide +kernel
theorem dX11_readFormula_19 : decode cX11_readFormula 19 = .ok (.ifCond .ne 118, 3) := by decide +kernel
theorem dX11_readFormula_22 : decode cX11_readFormula 22 = .ok (.iload 4, 2) := by decide +kernel
theorem dX11_readFormula_24 : decode cX11_readFormula 24 = .ok (.ifCond .eq 113, 3) := by decide +kernel
theorem dX11_readFormula_27 : decode cX11_readFormula 27 = .ok (.iload_n 3, 1) := by decide +kernel
theorem dX11_readFormula_28 : decode cX11_readFormula 28 = .ok (.ifCond .eq 13, 3) := by decide +kernel
theorem dX11_readFormula_31 : decode cX11_readFormula 31 = .ok (.aload_n 0, 1) := by decide +kernel
theorem dX11_readFormula_32 : decode cX11_readFormula 32 = .ok (.iload_n 1, 1) := by decide +kernel
theorem dX11_readFormula_33 : decode cX11_readFormula 33 = .ok (.iload_n 2, 1) := by decide +kernel
theorem dX11_readFormula_34 : decode cX11_readFormula 34 = .ok (.invokevirtual 277, 3) := by decide +kernel
theorem dX11_readFormula_37 : decode cX11_readFormula 37 = .ok (.istore_n 3, 1) := by decide +kernel
theorem dX11_readFormula_38 : decode cX11_readFormula 38 = .ok (.goto (-23), 3) := by decide +kernel
theorem dX11_readFormula_41 : decode cX11_readFormula 41 = .ok (.aload_n 0, 1) := by decide +kernel
theorem dX11_readFormula_42 : decode cX11_readFormula 42 = .ok (.bipush 41, 2) := by decide +kernel
theorem dX11_readFormula_44 : decode cX11_readFormula 44 = .ok (.invokevirtual 212, 3) := by decide +kernel
theorem dX11_readFormula_47 : decode cX11_readFormula 47 = .ok (.ifCond .eq 18, 3) := by decide +kernel
theorem dX11_readFormula_50 : decode cX11_readFormula 50 = .ok (.aload_n 0, 1) := by decide +kernel
theorem dX11_readFormula_51 : decode cX11_readFormula 51 = .ok (.getfield 274, 3) := by decide +kernel
theorem dX11_readFormula_54 : decode cX11_readFormula 54 = .ok (.ifCond .le 11, 3) := by decide +kernel
theorem dX11_readFormula_57 : decode cX11_readFormula 57 = .ok (.aload_n 0, 1) := by decide +kernel
theorem dX11_readFormula_58 : decode cX11_readFormula 58 = .ok (.iload_n 1, 1) := by decide +kernel
theorem dX11_readFormula_59 : decode cX11_readFormula 59 = .ok (.invokevirtual 280, 3) := by decide +kernel
theorem dX11_readFormula_62 : decode cX11_readFormula 62 = .ok (.goto (-47), 3) := by decide +kernel
theorem dX11_readFormula_65 : decode cX11_readFormula 65 = .ok (.aload_n 0, 1) := by decide +kernel
theorem dX11_readFormula_66 : decode cX11_readFormula 66 = .ok (.invokevirtual 283, 3) := by decide +kernel
theorem dX11_readFormula_69 : decode cX11_readFormula 69 = .ok (.iconst (-1), 1) := by decide +kernel
theorem dX11_readFormula_70 : decode cX11_readFormula 70 = .ok (.if_icmp .eq 61, 3) := by decide +kernel
theorem dX11_readFormula_73 : decode cX11_readFormula 73 = .ok (.aload_n 0, 1) := by decide +kernel
theorem dX11_readFormula_74 : decode cX11_readFormula 74 = .ok (.invokevirtual 283, 3) := by decide +kernel
theorem dX11_readFormula_77 : decode cX11_readFormula 77 = .ok (.istore 5, 2) := by decide +kernel
theorem dX11_readFormula_79 : decode cX11_readFormula 79 = .ok (.aload_n 0, 1) := by decide +kernel
theorem dX11_readFormula_80 : decode cX11_readFormula 80 = .ok (.getfield 271, 3) := by decide +kernel
theorem dX11_readFormula_83 : decode cX11_readFormula 83 = .ok (.ifCond .le 33, 3) := by decide +kernel
theorem dX11_readFormula_86 : decode cX11_readFormula 86 = .ok (.aload_n 0, 1) := by decide +kernel
theorem dX11_readFormula_87 : decode cX11_readFormula 87 = .ok (.getfield 84, 3) := by decide +kernel
theorem dX11_readFormula_90 : decode cX11_readFormula 90 = .ok (.aload_n 0, 1) := by decide +kernel
theorem dX11_readFormula_91 : decode cX11_readFormula 91 = .ok (.getfield 271, 3) := by decide +kernel
theorem dX11_readFormula_94 : decode cX11_readFormula 94 = .ok (.iconst 1, 1) := by decide +kernel
theorem dX11_readFormula_95 : decode cX11_readFormula 95 = .ok (.isub, 1) := by decide +kernel
theorem dX11_readFormula_96 : decode cX11_readFormula 96 = .ok (.iaload, 1) := by decide +kernel
theorem dX11_readFormula_97 : decode cX11_readFormula 97 = .ok (.invokestatic 287, 3) := by decide +kernel
theorem dX11_readFormula_100 : decode cX11_readFormula 100 = .ok (.iload 5, 2) := by decide +kernel
theorem dX11_readFormula_102 : decode cX11_readFormula 102 = .ok (.invokestatic 287, 3) := by decide +kernel
theorem dX11_readFormula_105 : decode cX11_readFormula 105 = .ok (.if_icmp .lt 11, 3) := by decide +kernel
theorem dX11_readFormula_108 : decode cX11_readFormula 108 = .ok (.aload_n 0, 1) := by decide +kernel
theorem dX11_readFormula_109 : decode cX11_readFormula 109 = .ok (.iload_n 1, 1) := by decide +kernel
theorem dX11_readFormula_110 : decode cX11_readFormula 110 = .ok (.invokevirtual 290, 3) := by decide +kernel
theorem dX11_readFormula_113 : decode cX11_readFormula 113 = .ok (.goto (-34), 3) := by decide +kernel
theorem dX11_readFormula_116 : decode cX11_readFormula 116 = .ok (.aload_n 0, 1) := by decide +kernel
theorem dX11_readFormula_117 : decode cX11_readFormula 117 = .ok (.iload 5, 2) := by decide +kernel
theorem dX11_readFormula_119 : decode cX11_readFormula 119 = .ok (.invokevirtual 293, 3) := by decide +kernel
theorem dX11_readFormula_122 : decode cX11_readFormula 122 = .ok (.aload_n 0, 1) := by decide +kernel
theorem dX11_readFormula_123 : decode cX11_readFormula 123 = .ok (.invokevirtual 215, 3) := by decide +kernel
theorem dX11_readFormula_126 : decode cX11_readFormula 126 = .ok (.iconst 1, 1) := by decide +kernel
theorem dX11_readFormula_127 : decode cX11_readFormula 127 = .ok (.istore_n 3, 1) := by decide +kernel
theorem dX11_readFormula_128 : decode cX11_readFormula 128 = .ok (.goto (-113), 3) := by decide +kernel
theorem dX11_readFormula_131 : decode cX11_readFormula 131 = .ok (.iconst 0, 1) := by decide +kernel
theorem dX11_readFormula_132 : decode cX11_readFormula 132 = .ok (.istore 4, 2) := by decide +kernel
theorem dX11_readFormula_134 : decode cX11_readFormula 134 = .ok (.goto (-119), 3) := by decide +kernel
theorem dX11_readFormula_137 : decode cX11_readFormula 137 = .ok (.aload_n 0, 1) := by decide +kernel
theorem dX11_readFormula_138 : decode cX11_readFormula 138 = .ok (.getfield 206, 3) := by decide +kernel
theorem dX11_readFormula_141 : decode cX11_readFormula 141 = .ok (.ifCond .ne 15, 3) := by decide +kernel
theorem dX11_readFormula_144 : decode cX11_readFormula 144 = .ok (.aload_n 0, 1) := by decide +kernel
theorem dX11_readFormula_145 : decode cX11_readFormula 145 = .ok (.getfield 274, 3) := by decide +kernel
theorem dX11_readFormula_148 : decode cX11_readFormula 148 = .ok (.ifCond .le 8, 3) := by decide +kernel
theorem dX11_readFormula_151 : decode cX11_readFormula 151 = .ok (.aload_n 0, 1) := by decide +kernel
theorem dX11_readFormula_152 : decode cX11_readFormula 152 = .ok (.iconst 1, 1) := by decide +kernel
theorem dX11_readFormula_153 : decode cX11_readFormula 153 = .ok (.invokevirtual 218, 3) := by decide +kernel
theorem dX11_readFormula_156 : decode cX11_readFormula 156 = .ok (.aload_n 0, 1) := by decide +kernel
theorem dX11_readFormula_157 : decode cX11_readFormula 157 = .ok (.getfield 206, 3) := by decide +kernel
theorem dX11_readFormula_160 : decode cX11_readFormula 160 = .ok (.ifCond .ne 18, 3) := by decide +kernel
theorem dX11_readFormula_163 : decode cX11_readFormula 163 = .ok (.aload_n 0, 1) := by decide +kernel
theorem dX11_readFormula_164 : decode cX11_readFormula 164 = .ok (.getfield 271, 3) := by decide +kernel
theorem dX11_readFormula_167 : decode cX11_readFormula 167 = .ok (.ifCond .le 11, 3) := by decide +kernel
theorem dX11_readFormula_170 : decode cX11_readFormula 170 = .ok (.aload_n 0, 1) := by decide +kernel
theorem dX11_readFormula_171 : decode cX11_readFormula 171 = .ok (.iload_n 1, 1) := by decide +kernel
theorem dX11_readFormula_172 : decode cX11_readFormula 172 = .ok (.invokevirtual 290, 3) := by decide +kernel
theorem dX11_readFormula_175 : decode cX11_readFormula 175 = .ok (.goto (-19), 3) := by decide +kernel
theorem dX11_readFormula_178 : decode cX11_readFormula 178 = .ok (.return_, 1) := by decide +kernel
theorem dX11_close_0 : decode cX11_close 0 = .ok (.aload_n 0, 1) := by decide +kernel
theorem dX11_close_1 : decode cX11_close 1 = .ok (.getfield 84, 3) := by decide +kernel
theorem dX11_close_4 : decode cX11_close 4 = .ok (.aload_n 0, 1) := by decide +kernel
theorem dX11_close_5 : decode cX11_close 5 = .ok (.getfield 271, 3) := by decide +kernel
theorem dX11_close_8 : decode cX11_close 8 = .ok (.iconst 1, 1) := by decide +kernel
theorem dX11_close_9 : decode cX11_close 9 = .ok (.isub, 1) := by decide +kernel
theorem dX11_close_10 : decode cX11_close 10 = .ok (.iaload, 1) := by decide +kernel
theorem dX11_close_11 : decode cX11_close 11 = .ok (.sipush 1206, 3) := by decide +kernel
theorem dX11_close_14 : decode cX11_close 14 = .ok (.if_icmp .eq 11, 3) := by decide +kernel
theorem dX11_close_17 : decode cX11_close 17 = .ok (.aload_n 0, 1) := by decide +kernel
theorem dX11_close_18 : decode cX11_close 18 = .ok (.iload_n 1, 1) := by decide +kernel
theorem dX11_close_19 : decode cX11_close 19 = .ok (.invokevirtual 290, 3) := by decide +kernel
theorem dX11_close_22 : decode cX11_close 22 = .ok (.goto (-22), 3) := by decide +kernel
theorem dX11_close_25 : decode cX11_close 25 = .ok (.aload_n 0, 1) := by decide +kernel
theorem dX11_close_26 : decode cX11_close 26 = .ok (.dup, 1) := by decide +kernel
theorem dX11_close_27 : decode cX11_close 27 = .ok (.getfield 271, 3) := by decide +kernel
theorem dX11_close_30 : decode cX11_close 30 = .ok (.iconst 1, 1) := by decide +kernel
theorem dX11_close_31 : decode cX11_close 31 = .ok (.isub, 1) := by decide +kernel
theorem dX11_close_32 : decode cX11_close 32 = .ok (.putfield 271, 3) := by decide +kernel
theorem dX11_close_35 : decode cX11_close 35 = .ok (.aload_n 0, 1) := by decide +kernel
theorem dX11_close_36 : decode cX11_close 36 = .ok (.dup, 1) := by decide +kernel
theorem dX11_close_37 : decode cX11_close 37 = .ok (.getfield 274, 3) := by decide +kernel
theorem dX11_close_40 : decode cX11_close 40 = .ok (.iconst 1, 1) := by decide +kernel
theorem dX11_close_41 : decode cX11_close 41 = .ok (.isub, 1) := by decide +kernel
theorem dX11_close_42 : decode cX11_close 42 = .ok (.putfield 274, 3) := by decide +kernel
theorem dX11_close_45 : decode cX11_close 45 = .ok (.aload_n 0, 1) := by decide +kernel
theorem dX11_close_46 : decode cX11_close 46 = .ok (.invokevirtual 215, 3) := by decide +kernel
theorem dX11_close_49 : decode cX11_close 49 = .ok (.aload_n 0, 1) := by decide +kernel
theorem dX11_close_50 : decode cX11_close 50 = .ok (.iload_n 1, 1) := by decide +kernel
theorem dX11_close_51 : decode cX11_close 51 = .ok (.invokevirtual 296, 3) := by decide +kernel
theorem dX11_close_54 : decode cX11_close 54 = .ok (.return_, 1) := by decide +kernel
theorem dX11_closeMinus_0 : decode cX11_closeMinus 0 = .ok (.aload_n 0, 1) := by decide +kernel
theorem dX11_closeMinus_1 : decode cX11_closeMinus 1 = .ok (.getfield 271, 3) := by decide +kernel
theorem dX11_closeMinus_4 : decode cX11_closeMinus 4 = .ok (.ifCond .le 38, 3) := by decide +kernel
theorem dX11_closeMinus_7 : decode cX11_closeMinus 7 = .ok (.aload_n 0, 1) := by decide +kernel
theorem dX11_closeMinus_8 : decode cX11_closeMinus 8 = .ok (.getfield 84, 3) := by decide +kernel
theorem dX11_closeMinus_11 : decode cX11_closeMinus 11 = .ok (.aload_n 0, 1) := by decide +kernel
theorem dX11_closeMinus_12 : decode cX11_closeMinus 12 = .ok (.getfield 271, 3) := by decide +kernel
theorem dX11_closeMinus_15 : decode cX11_closeMinus 15 = .ok (.iconst 1, 1) := by decide +kernel
theorem dX11_closeMinus_16 : decode cX11_closeMinus 16 = .ok (.isub, 1) := by decide +kernel
theorem dX11_closeMinus_17 : decode cX11_closeMinus 17 = .ok (.iaload, 1) := by decide +kernel
theorem dX11_closeMinus_18 : decode cX11_closeMinus 18 = .ok (.sipush 1205, 3) := by decide +kernel
theorem dX11_closeMinus_21 : decode cX11_closeMinus 21 = .ok (.if_icmp .ne 21, 3) := by decide +kernel
theorem dX11_closeMinus_24 : decode cX11_closeMinus 24 = .ok (.aload_n 0, 1) := by decide +kernel
theorem dX11_closeMinus_25 : decode cX11_closeMinus 25 = .ok (.iload_n 1, 1) := by decide +kernel
theorem dX11_closeMinus_26 : decode cX11_closeMinus 26 = .ok (.invokevirtual 290, 3) := by decide +kernel
theorem dX11_closeMinus_29 : decode cX11_closeMinus 29 = .ok (.aload_n 0, 1) := by decide +kernel
theorem dX11_closeMinus_30 : decode cX11_closeMinus 30 = .ok (.dup, 1) := by decide +kernel
theorem dX11_closeMinus_31 : decode cX11_closeMinus 31 = .ok (.getfield 274, 3) := by decide +kernel
theorem dX11_closeMinus_34 : decode cX11_closeMinus 34 = .ok (.iconst 1, 1) := by decide +kernel
theorem dX11_closeMinus_35 : decode cX11_closeMinus 35 = .ok (.isub, 1) := by decide +kernel
theorem dX11_closeMinus_36 : decode cX11_closeMinus 36 = .ok (.putfield 274, 3) := by decide +kernel
theorem dX11_closeMinus_39 : decode cX11_closeMinus 39 = .ok (.goto (-39), 3) := by decide +kernel
theorem dX11_closeMinus_42 : decode cX11_closeMinus 42 = .ok (.return_, 1) := by decide +kernel
theorem dX11_readUnit_0 : decode cX11_readUnit 0 = .ok (.aload_n 0, 1) := by decide +kernel
theorem dX11_readUnit_1 : decode cX11_readUnit 1 = .ok (.bipush 40, 2) := by decide +kernel
theorem dX11_readUnit_3 : decode cX11_readUnit 3 = .ok (.invokevirtual 212, 3) := by decide +kernel
theorem dX11_readUnit_6 : decode cX11_readUnit 6 = .ok (.ifCond .ne 12, 3) := by decide +kernel
theorem dX11_readUnit_9 : decode cX11_readUnit 9 = .ok (.aload_n 0, 1) := by decide +kernel
theorem dX11_readUnit_10 : decode cX11_readUnit 10 = .ok (.bipush 45, 2) := by decide +kernel
theorem dX11_readUnit_12 : decode cX11_readUnit 12 = .ok (.invokevirtual 212, 3) := by decide +kernel
theorem dX11_readUnit_15 : decode cX11_readUnit 15 = .ok (.ifCond .eq 7, 3) := by decide +kernel
theorem dX11_readUnit_18 : decode cX11_readUnit 18 = .ok (.iconst 1, 1) := by decide +kernel
theorem dX11_readUnit_19 : decode cX11_readUnit 19 = .ok (.goto 4, 3) := by decide +kernel
theorem dX11_readUnit_22 : decode cX11_readUnit 22 = .ok (.iconst 0, 1) := by decide +kernel
theorem dX11_readUnit_23 : decode cX11_readUnit 23 = .ok (.istore_n 3, 1) := by decide +kernel
theorem dX11_readUnit_24 : decode cX11_readUnit 24 = .ok (.aload_n 0, 1) := by decide +kernel
theorem dX11_readUnit_25 : decode cX11_readUnit 25 = .ok (.iconst 5, 1) := by decide +kernel
theorem dX11_readUnit_26 : decode cX11_readUnit 26 = .ok (.invokevirtual 229, 3) := by decide +kernel
theorem dX11_readUnit_29 : decode cX11_readUnit 29 = .ok (.ifCond .ne 12, 3) := by decide +kernel
theorem dX11_readUnit_32 : decode cX11_readUnit 32 = .ok (.aload_n 0, 1) := by decide +kernel
theorem dX11_readUnit_33 : decode cX11_readUnit 33 = .ok (.bipush 6, 2) := by decide +kernel
theorem dX11_readUnit_35 : decode cX11_readUnit 35 = .ok (.invokevirtual 229, 3) := by decide +kernel
theorem dX11_readUnit_38 : decode cX11_readUnit 38 = .ok (.ifCond .eq 7, 3) := by decide +kernel
theorem dX11_readUnit_41 : decode cX11_readUnit 41 = .ok (.iconst 1, 1) := by decide +kernel
theorem dX11_readUnit_42 : decode cX11_readUnit 42 = .ok (.goto 4, 3) := by decide +kernel
theorem dX11_readUnit_45 : decode cX11_readUnit 45 = .ok (.iconst 0, 1) := by decide +kernel
theorem dX11_readUnit_46 : decode cX11_readUnit 46 = .ok (.istore 4, 2) := by decide +kernel
theorem dX11_readUnit_48 : decode cX11_readUnit 48 = .ok (.iload_n 3, 1) := by decide +kernel
theorem dX11_readUnit_49 : decode cX11_readUnit 49 = .ok (.ifCond .ne 31, 3) := by decide +kernel
theorem dX11_readUnit_52 : decode cX11_readUnit 52 = .ok (.iload 4, 2) := by decide +kernel
theorem dX11_readUnit_54 : decode cX11_readUnit 54 = .ok (.ifCond .ne 26, 3) := by decide +kernel
theorem dX11_readUnit_57 : decode cX11_readUnit 57 = .ok (.aload_n 0, 1) := by decide +kernel
theorem dX11_readUnit_58 : decode cX11_readUnit 58 = .ok (.invokevirtual 257, 3) := by decide +kernel
theorem dX11_readUnit_61 : decode cX11_readUnit 61 = .ok (.ifCond .ne 19, 3) := by decide +kernel
theorem dX11_readUnit_64 : decode cX11_readUnit 64 = .ok (.aload_n 0, 1) := by decide +kernel
theorem dX11_readUnit_65 : decode cX11_readUnit 65 = .ok (.getfield 178, 3) := by decide +kernel
theorem dX11_readUnit_68 : decode cX11_readUnit 68 = .ok (.iconst 3, 1) := by decide +kernel
theorem dX11_readUnit_69 : decode cX11_readUnit 69 = .ok (.if_icmp .eq 11, 3) := by decide +kernel
theorem dX11_readUnit_72 : decode cX11_readUnit 72 = .ok (.aload_n 0, 1) := by decide +kernel
theorem dX11_readUnit_73 : decode cX11_readUnit 73 = .ok (.iconst 1, 1) := by decide +kernel
theorem dX11_readUnit_74 : decode cX11_readUnit 74 = .ok (.invokevirtual 218, 3) := by decide +kernel
theorem dX11_readUnit_77 : decode cX11_readUnit 77 = .ok (.goto 94, 3) := by decide +kernel
theorem dX11_readUnit_80 : decode cX11_readUnit 80 = .ok (.aload_n 0, 1) := by decide +kernel
theorem dX11_readUnit_81 : decode cX11_readUnit 81 = .ok (.getfield 178, 3) := by decide +kernel
theorem dX11_readUnit_84 : decode cX11_readUnit 84 = .ok (.iconst 3, 1) := by decide +kernel
theorem dX11_readUnit_85 : decode cX11_readUnit 85 = .ok (.if_icmp .ne 21, 3) := by decide +kernel
theorem dX11_readUnit_88 : decode cX11_readUnit 88 = .ok (.aload_n 0, 1) := by decide +kernel
theorem dX11_readUnit_89 : decode cX11_readUnit 89 = .ok (.getfield 203, 3) := by decide +kernel
theorem dX11_readUnit_92 : decode cX11_readUnit 92 = .ok (.sipush 999, 3) := by decide +kernel
theorem dX11_readUnit_95 : decode cX11_readUnit 95 = .ok (.if_icmp .le 11, 3) := by decide +kernel
theorem dX11_readUnit_98 : decode cX11_readUnit 98 = .ok (.aload_n 0, 1) := by decide +kernel
theorem dX11_readUnit_99 : decode cX11_readUnit 99 = .ok (.iconst 2, 1) := by decide +kernel
theorem dX11_readUnit_100 : decode cX11_readUnit 100 = .ok (.invokevirtual 218, 3) := by decide +kernel
theorem dX11_readUnit_103 : decode cX11_readUnit 103 = .ok (.goto 68, 3) := by decide +kernel
theorem dX11_readUnit_106 : decode cX11_readUnit 106 = .ok (.aload_n 0, 1) := by decide +kernel
theorem dX11_readUnit_107 : decode cX11_readUnit 107 = .ok (.invokevirtual 257, 3) := by decide +kernel
theorem dX11_readUnit_110 : decode cX11_readUnit 110 = .ok (.ifCond .eq 19, 3) := by decide +kernel
theorem dX11_readUnit_113 : decode cX11_readUnit 113 = .ok (.aload_n 0, 1) := by decide +kernel
theorem dX11_readUnit_114 : decode cX11_readUnit 114 = .ok (.iload_n 2, 1) := by decide +kernel
theorem dX11_readUnit_115 : decode cX11_readUnit 115 = .ok (.invokevirtual 261, 3) := by decide +kernel
theorem dX11_readUnit_118 : decode cX11_readUnit 118 = .ok (.ifCond .ge 11, 3) := by decide +kernel
theorem dX11_readUnit_121 : decode cX11_readUnit 121 = .ok (.aload_n 0, 1) := by decide +kernel
theorem dX11_readUnit_122 : decode cX11_readUnit 122 = .ok (.iconst 3, 1) := by decide +kernel
theorem dX11_readUnit_123 : decode cX11_readUnit 123 = .ok (.invokevirtual 218, 3) := by decide +kernel
theorem dX11_readUnit_126 : decode cX11_readUnit 126 = .ok (.goto 45, 3) := by decide +kernel
theorem dX11_readUnit_129 : decode cX11_readUnit 129 = .ok (.aload_n 0, 1) := by decide +kernel
theorem dX11_readUnit_130 : decode cX11_readUnit 130 = .ok (.getfield 19, 3) := by decide +kernel
theorem dX11_readUnit_133 : decode cX11_readUnit 133 = .ok (.iload_n 1, 1) := by decide +kernel
theorem dX11_readUnit_134 : decode cX11_readUnit 134 = .ok (.iaload, 1) := by decide +kernel
theorem dX11_readUnit_135 : decode cX11_readUnit 135 = .ok (.bipush 40, 2) := by decide +kernel
theorem dX11_readUnit_137 : decode cX11_readUnit 137 = .ok (.if_icmp .eq 29, 3) := by decide +kernel
theorem dX11_readUnit_140 : decode cX11_readUnit 140 = .ok (.aload_n 0, 1) := by decide +kernel
theorem dX11_readUnit_141 : decode cX11_readUnit 141 = .ok (.getfield 274, 3) := by decide +kernel
theorem dX11_readUnit_144 : decode cX11_readUnit 144 = .ok (.iconst 4, 1) := by decide +kernel
theorem dX11_readUnit_145 : decode cX11_readUnit 145 = .ok (.if_icmp .gt 21, 3) := by decide +kernel
theorem dX11_readUnit_148 : decode cX11_readUnit 148 = .ok (.aload_n 0, 1) := by decide +kernel
theorem dX11_readUnit_149 : decode cX11_readUnit 149 = .ok (.invokevirtual 257, 3) := by decide +kernel
theorem dX11_readUnit_152 : decode cX11_readUnit 152 = .ok (.ifCond .eq 19, 3) := by decide +kernel
theorem dX11_readUnit_155 : decode cX11_readUnit 155 = .ok (.aload_n 0, 1) := by decide +kernel
theorem dX11_readUnit_156 : decode cX11_readUnit 156 = .ok (.getfield 22, 3) := by decide +kernel
theorem dX11_readUnit_159 : decode cX11_readUnit 159 = .ok (.iload_n 1, 1) := by decide +kernel
theorem dX11_readUnit_160 : decode cX11_readUnit 160 = .ok (.iaload, 1) := by decide +kernel
theorem dX11_readUnit_161 : decode cX11_readUnit 161 = .ok (.bipush 12, 2) := by decide +kernel
theorem dX11_readUnit_163 : decode cX11_readUnit 163 = .ok (.if_icmp .ne 8, 3) := by decide +kernel
theorem dX11_readUnit_166 : decode cX11_readUnit 166 = .ok (.aload_n 0, 1) := by decide +kernel
theorem dX11_readUnit_167 : decode cX11_readUnit 167 = .ok (.iconst 4, 1) := by decide +kernel
theorem dX11_readUnit_168 : decode cX11_readUnit 168 = .ok (.invokevirtual 218, 3) := by decide +kernel
theorem dX11_readUnit_171 : decode cX11_readUnit 171 = .ok (.aload_n 0, 1) := by decide +kernel
theorem dX11_readUnit_172 : decode cX11_readUnit 172 = .ok (.getfield 206, 3) := by decide +kernel
theorem dX11_readUnit_175 : decode cX11_readUnit 175 = .ok (.ifCond .le 5, 3) := by decide +kernel
theorem dX11_readUnit_178 : decode cX11_readUnit 178 = .ok (.iconst 0, 1) := by decide +kernel
theorem dX11_readUnit_179 : decode cX11_readUnit 179 = .ok (.ireturn, 1) := by decide +kernel
theorem dX11_readUnit_180 : decode cX11_readUnit 180 = .ok (.aload_n 0, 1) := by decide +kernel
theorem dX11_readUnit_181 : decode cX11_readUnit 181 = .ok (.getfield 19, 3) := by decide +kernel
theorem dX11_readUnit_184 : decode cX11_readUnit 184 = .ok (.iload_n 1, 1) := by decide +kernel
theorem dX11_readUnit_185 : decode cX11_readUnit 185 = .ok (.dup2, 1) := by decide +kernel
theorem dX11_readUnit_186 : decode cX11_readUnit 186 = .ok (.iaload, 1) := by decide +kernel
theorem dX11_readUnit_187 : decode cX11_readUnit 187 = .ok (.iconst 1, 1) := by decide +kernel
theorem dX11_readUnit_188 : decode cX11_readUnit 188 = .ok (.iadd, 1) := by decide +kernel
theorem dX11_readUnit_189 : decode cX11_readUnit 189 = .ok (.iastore, 1) := by decide +kernel
theorem dX11_readUnit_190 : decode cX11_readUnit 190 = .ok (.iload_n 3, 1) := by decide +kernel
theorem dX11_readUnit_191 : decode cX11_readUnit 191 = .ok (.ifCond .eq 41, 3) := by decide +kernel
theorem dX11_readUnit_194 : decode cX11_readUnit 194 = .ok (.aload_n 0, 1) := by decide +kernel
theorem dX11_readUnit_195 : decode cX11_readUnit 195 = .ok (.aload_n 0, 1) := by decide +kernel
theorem dX11_readUnit_196 : decode cX11_readUnit 196 = .ok (.bipush 40, 2) := by decide +kernel
theorem dX11_readUnit_198 : decode cX11_readUnit 198 = .ok (.invokevirtual 212, 3) := by decide +kernel
theorem dX11_readUnit_201 : decode cX11_readUnit 201 = .ok (.ifCond .eq 9, 3) := by decide +kernel
theorem dX11_readUnit_204 : decode cX11_readUnit 204 = .ok (.sipush 1206, 3) := by decide +kernel
theorem dX11_readUnit_207 : decode cX11_readUnit 207 = .ok (.goto 6, 3) := by decide +kernel
theorem dX11_readUnit_210 : decode cX11_readUnit 210 = .ok (.sipush 1205, 3) := by decide +kernel
theorem dX11_readUnit_213 : decode cX11_readUnit 213 = .ok (.invokevirtual 293, 3) := by decide +kernel
theorem dX11_readUnit_216 : decode cX11_readUnit 216 = .ok (.aload_n 0, 1) := by decide +kernel
theorem dX11_readUnit_217 : decode cX11_readUnit 217 = .ok (.dup, 1) := by decide +kernel
theorem dX11_readUnit_218 : decode cX11_readUnit 218 = .ok (.getfield 274, 3) := by decide +kernel
theorem dX11_readUnit_221 : decode cX11_readUnit 221 = .ok (.iconst 1, 1) := by decide +kernel
theorem dX11_readUnit_222 : decode cX11_readUnit 222 = .ok (.iadd, 1) := by decide +kernel
theorem dX11_readUnit_223 : decode cX11_readUnit 223 = .ok (.putfield 274, 3) := by decide +kernel
theorem dX11_readUnit_226 : decode cX11_readUnit 226 = .ok (.aload_n 0, 1) := by decide +kernel
theorem dX11_readUnit_227 : decode cX11_readUnit 227 = .ok (.invokevirtual 215, 3) := by decide +kernel
theorem dX11_readUnit_230 : decode cX11_readUnit 230 = .ok (.iconst 1, 1) := by decide +kernel
theorem dX11_readUnit_231 : decode cX11_readUnit 231 = .ok (.ireturn, 1) := by decide +kernel
theorem dX11_readUnit_232 : decode cX11_readUnit 232 = .ok (.aload_n 0, 1) := by decide +kernel
theorem dX11_readUnit_233 : decode cX11_readUnit 233 = .ok (.invokevirtual 257, 3) := by decide +kernel
theorem dX11_readUnit_236 : decode cX11_readUnit 236 = .ok (.ifCond .eq 19, 3) := by decide +kernel
theorem dX11_readUnit_239 : decode cX11_readUnit 239 = .ok (.aload_n 0, 1) := by decide +kernel
theorem dX11_readUnit_240 : decode cX11_readUnit 240 = .ok (.iload_n 1, 1) := by decide +kernel
theorem dX11_readUnit_241 : decode cX11_readUnit 241 = .ok (.aload_n 0, 1) := by decide +kernel
theorem dX11_readUnit_242 : decode cX11_readUnit 242 = .ok (.iload_n 2, 1) := by decide +kernel
theorem dX11_readUnit_243 : decode cX11_readUnit 243 = .ok (.invokevirtual 261, 3) := by decide +kernel
theorem dX11_readUnit_246 : decode cX11_readUnit 246 = .ok (.iload_n 2, 1) := by decide +kernel
theorem dX11_readUnit_247 : decode cX11_readUnit 247 = .ok (.iconst 1, 1) := by decide +kernel
theorem dX11_readUnit_248 : decode cX11_readUnit 248 = .ok (.isub, 1) := by decide +kernel
theorem dX11_readUnit_249 : decode cX11_readUnit 249 = .ok (.invokevirtual 299, 3) := by decide +kernel
theorem dX11_readUnit_252 : decode cX11_readUnit 252 = .ok (.goto 44, 3) := by decide +kernel
theorem dX11_readUnit_255 : decode cX11_readUnit 255 = .ok (.aload_n 0, 1) := by decide +kernel
theorem dX11_readUnit_256 : decode cX11_readUnit 256 = .ok (.iload_n 1, 1) := by decide +kernel
theorem dX11_readUnit_257 : decode cX11_readUnit 257 = .ok (.aload_n 0, 1) := by decide +kernel
theorem dX11_readUnit_258 : decode cX11_readUnit 258 = .ok (.getfield 178, 3) := by decide +kernel
theorem dX11_readUnit_261 : decode cX11_readUnit 261 = .ok (.iconst 3, 1) := by decide +kernel
theorem dX11_readUnit_262 : decode cX11_readUnit 262 = .ok (.if_icmp .ne 10, 3) := by decide +kernel
theorem dX11_readUnit_265 : decode cX11_readUnit 265 = .ok (.aload_n 0, 1) := by decide +kernel
theorem dX11_readUnit_266 : decode cX11_readUnit 266 = .ok (.getfield 203, 3) := by decide +kernel
theorem dX11_readUnit_269 : decode cX11_readUnit 269 = .ok (.goto 20, 3) := by decide +kernel
theorem dX11_readUnit_272 : decode cX11_readUnit 272 = .ok (.aload_n 0, 1) := by decide +kernel
theorem dX11_readUnit_273 : decode cX11_readUnit 273 = .ok (.getfield 196, 3) := by decide +kernel
theorem dX11_readUnit_276 : decode cX11_readUnit 276 = .ok (.iconst 5, 1) := by decide +kernel
theorem dX11_readUnit_277 : decode cX11_readUnit 277 = .ok (.if_icmp .ne 9, 3) := by decide +kernel
theorem dX11_readUnit_280 : decode cX11_readUnit 280 = .ok (.sipush 1000, 3) := by decide +kernel
theorem dX11_readUnit_283 : decode cX11_readUnit 283 = .ok (.goto 6, 3) := by decide +kernel
theorem dX11_readUnit_286 : decode cX11_readUnit 286 = .ok (.sipush 1001, 3) := by decide +kernel
theorem dX11_readUnit_289 : decode cX11_readUnit 289 = .ok (.invokevirtual 268, 3) := by decide +kernel
theorem dX11_readUnit_292 : decode cX11_readUnit 292 = .ok (.aload_n 0, 1) := by decide +kernel
theorem dX11_readUnit_293 : decode cX11_readUnit 293 = .ok (.invokevirtual 215, 3) := by decide +kernel
theorem dX11_readUnit_296 : decode cX11_readUnit 296 = .ok (.aload_n 0, 1) := by decide +kernel
theorem dX11_readUnit_297 : decode cX11_readUnit 297 = .ok (.getfield 206, 3) := by decide +kernel
theorem dX11_readUnit_300 : decode cX11_readUnit 300 = .ok (.ifCond .ne 8, 3) := by decide +kernel
theorem dX11_readUnit_303 : decode cX11_readUnit 303 = .ok (.aload_n 0, 1) := by decide +kernel
theorem dX11_readUnit_304 : decode cX11_readUnit 304 = .ok (.iload_n 1, 1) := by decide +kernel
theorem dX11_readUnit_305 : decode cX11_readUnit 305 = .ok (.invokevirtual 296, 3) := by decide +kernel
theorem dX11_readUnit_308 : decode cX11_readUnit 308 = .ok (.iconst 0, 1) := by decide +kernel
theorem dX11_readUnit_309 : decode cX11_readUnit 309 = .ok (.ireturn, 1) := by decide +kernel
theorem dX11_readRead_0 : decode cX11_readRead 0 = .ok (.aload_n 0, 1) := by decide +kernel
theorem dX11_readRead_1 : decode cX11_readRead 1 = .ok (.invokevirtual 215, 3) := by decide +kernel
theorem dX11_readRead_4 : decode cX11_readRead 4 = .ok (.aload_n 0, 1) := by decide +kernel
theorem dX11_readRead_5 : decode cX11_readRead 5 = .ok (.bipush 40, 2) := by decide +kernel
theorem dX11_readRead_7 : decode cX11_readRead 7 = .ok (.invokevirtual 235, 3) := by decide +kernel
theorem dX11_readRead_10 : decode cX11_readRead 10 = .ok (.aload_n 0, 1) := by decide +kernel
theorem dX11_readRead_11 : decode cX11_readRead 11 = .ok (.bipush (-3), 2) := by decide +kernel
theorem dX11_readRead_13 : decode cX11_readRead 13 = .ok (.iconst 3, 1) := by decide +kernel
theorem dX11_readRead_14 : decode cX11_readRead 14 = .ok (.invokevirtual 225, 3) := by decide +kernel
theorem dX11_readRead_17 : decode cX11_readRead 17 = .ok (.istore 4, 2) := by decide +kernel
theorem dX11_readRead_19 : decode cX11_readRead 19 = .ok (.aload_n 0, 1) := by decide +kernel
theorem dX11_readRead_20 : decode cX11_readRead 20 = .ok (.getfield 206, 3) := by decide +kernel
theorem dX11_readRead_23 : decode cX11_readRead 23 = .ok (.ifCond .ne 7, 3) := by decide +kernel
theorem dX11_readRead_26 : decode cX11_readRead 26 = .ok (.aload_n 0, 1) := by decide +kernel
theorem dX11_readRead_27 : decode cX11_readRead 27 = .ok (.invokevirtual 215, 3) := by decide +kernel
theorem dX11_readRead_30 : decode cX11_readRead 30 = .ok (.aload_n 0, 1) := by decide +kernel
theorem dX11_readRead_31 : decode cX11_readRead 31 = .ok (.bipush 44, 2) := by decide +kernel
theorem dX11_readRead_33 : decode cX11_readRead 33 = .ok (.invokevirtual 235, 3) := by decide +kernel
theorem dX11_readRead_36 : decode cX11_readRead 36 = .ok (.aload_n 0, 1) := by decide +kernel
theorem dX11_readRead_37 : decode cX11_readRead 37 = .ok (.bipush (-3), 2) := by decide +kernel
theorem dX11_readRead_39 : decode cX11_readRead 39 = .ok (.iconst 3, 1) := by decide +kernel
theorem dX11_readRead_40 : decode cX11_readRead 40 = .ok (.invokevirtual 225, 3) := by decide +kernel
theorem dX11_readRead_43 : decode cX11_readRead 43 = .ok (.istore 5, 2) := by decide +kernel
theorem dX11_readRead_45 : decode cX11_readRead 45 = .ok (.iload_n 2, 1) := by decide +kernel
theorem dX11_readRead_46 : decode cX11_readRead 46 = .ok (.iload_n 3, 1) := by decide +kernel
theorem dX11_readRead_47 : decode cX11_readRead 47 = .ok (.if_icmp .ne 18, 3) := by decide +kernel
theorem dX11_readRead_50 : decode cX11_readRead 50 = .ok (.iload 4, 2) := by decide +kernel
theorem dX11_readRead_52 : decode cX11_readRead 52 = .ok (.ifCond .ne 13, 3) := by decide +kernel
theorem dX11_readRead_55 : decode cX11_readRead 55 = .ok (.iload 5, 2) := by decide +kernel
theorem dX11_readRead_57 : decode cX11_readRead 57 = .ok (.ifCond .ne 8, 3) := by decide +kernel
theorem dX11_readRead_60 : decode cX11_readRead 60 = .ok (.aload_n 0, 1) := by decide +kernel
theorem dX11_readRead_61 : decode cX11_readRead 61 = .ok (.iconst 2, 1) := by decide +kernel
theorem dX11_readRead_62 : decode cX11_readRead 62 = .ok (.invokevirtual 218, 3) := by decide +kernel
theorem dX11_readRead_65 : decode cX11_readRead 65 = .ok (.aload_n 0, 1) := by decide +kernel
theorem dX11_readRead_66 : decode cX11_readRead 66 = .ok (.getfield 206, 3) := by decide +kernel
theorem dX11_readRead_69 : decode cX11_readRead 69 = .ok (.ifCond .le 4, 3) := by decide +kernel
theorem dX11_readRead_72 : decode cX11_readRead 72 = .ok (.return_, 1) := by decide +kernel
theorem dX11_readRead_73 : decode cX11_readRead 73 = .ok (.aload_n 0, 1) := by decide +kernel
theorem dX11_readRead_74 : decode cX11_readRead 74 = .ok (.invokevirtual 215, 3) := by decide +kernel
theorem dX11_readRead_77 : decode cX11_readRead 77 = .ok (.aload_n 0, 1) := by decide +kernel
theorem dX11_readRead_78 : decode cX11_readRead 78 = .ok (.bipush 41, 2) := by decide +kernel
theorem dX11_readRead_80 : decode cX11_readRead 80 = .ok (.invokevirtual 235, 3) := by decide +kernel
theorem dX11_readRead_83 : decode cX11_readRead 83 = .ok (.bipush 12, 2) := by decide +kernel
theorem dX11_readRead_85 : decode cX11_readRead 85 = .ok (.iload_n 1, 1) := by decide +kernel
theorem dX11_readRead_86 : decode cX11_readRead 86 = .ok (.imul, 1) := by decide +kernel
theorem dX11_readRead_87 : decode cX11_readRead 87 = .ok (.aload_n 0, 1) := by decide +kernel
theorem dX11_readRead_88 : decode cX11_readRead 88 = .ok (.getfield 22, 3) := by decide +kernel
theorem dX11_readRead_91 : decode cX11_readRead 91 = .ok (.iload_n 1, 1) := by decide +kernel
theorem dX11_readRead_92 : decode cX11_readRead 92 = .ok (.iaload, 1) := by decide +kernel
theorem dX11_readRead_93 : decode cX11_readRead 93 = .ok (.iadd, 1) := by decide +kernel
theorem dX11_readRead_94 : decode cX11_readRead 94 = .ok (.istore 6, 2) := by decide +kernel
theorem dX11_readRead_96 : decode cX11_readRead 96 = .ok (.aload_n 0, 1) := by decide +kernel
theorem dX11_readRead_97 : decode cX11_readRead 97 = .ok (.getfield 43, 3) := by decide +kernel
theorem dX11_readRead_100 : decode cX11_readRead 100 = .ok (.iload 6, 2) := by decide +kernel
theorem dX11_readRead_102 : decode cX11_readRead 102 = .ok (.iload_n 2, 1) := by decide +kernel
theorem dX11_readRead_103 : decode cX11_readRead 103 = .ok (.iastore, 1) := by decide +kernel
theorem dX11_readRead_104 : decode cX11_readRead 104 = .ok (.aload_n 0, 1) := by decide +kernel
theorem dX11_readRead_105 : decode cX11_readRead 105 = .ok (.getfield 46, 3) := by decide +kernel
theorem dX11_readRead_108 : decode cX11_readRead 108 = .ok (.iload 6, 2) := by decide +kernel
theorem dX11_readRead_110 : decode cX11_readRead 110 = .ok (.iload 4, 2) := by decide +kernel
theorem dX11_readRead_112 : decode cX11_readRead 112 = .ok (.iastore, 1) := by decide +kernel
theorem dX11_readRead_113 : decode cX11_readRead 113 = .ok (.aload_n 0, 1) := by decide +kernel
theorem dX11_readRead_114 : decode cX11_readRead 114 = .ok (.getfield 49, 3) := by decide +kernel
theorem dX11_readRead_117 : decode cX11_readRead 117 = .ok (.iload 6, 2) := by decide +kernel
theorem dX11_readRead_119 : decode cX11_readRead 119 = .ok (.iload 5, 2) := by decide +kernel
theorem dX11_readRead_121 : decode cX11_readRead 121 = .ok (.iastore, 1) := by decide +kernel
theorem dX11_readRead_122 : decode cX11_readRead 122 = .ok (.aload_n 0, 1) := by decide +kernel
theorem dX11_readRead_123 : decode cX11_readRead 123 = .ok (.iload_n 1, 1) := by decide +kernel
theorem dX11_readRead_124 : decode cX11_readRead 124 = .ok (.sipush 1100, 3) := by decide +kernel
theorem dX11_readRead_127 : decode cX11_readRead 127 = .ok (.aload_n 0, 1) := by decide +kernel
theorem dX11_readRead_128 : decode cX11_readRead 128 = .ok (.getfield 22, 3) := by decide +kernel
theorem dX11_readRead_131 : decode cX11_readRead 131 = .ok (.iload_n 1, 1) := by decide +kernel
theorem dX11_readRead_132 : decode cX11_readRead 132 = .ok (.iaload, 1) := by decide +kernel
theorem dX11_readRead_133 : decode cX11_readRead 133 = .ok (.iadd, 1) := by decide +kernel
theorem dX11_readRead_134 : decode cX11_readRead 134 = .ok (.invokevirtual 268, 3) := by decide +kernel
theorem dX11_readRead_137 : decode cX11_readRead 137 = .ok (.aload_n 0, 1) := by decide +kernel
theorem dX11_readRead_138 : decode cX11_readRead 138 = .ok (.getfield 22, 3) := by decide +kernel
theorem dX11_readRead_141 : decode cX11_readRead 141 = .ok (.iload_n 1, 1) := by decide +kernel
theorem dX11_readRead_142 : decode cX11_readRead 142 = .ok (.dup2, 1) := by decide +kernel
theorem dX11_readRead_143 : decode cX11_readRead 143 = .ok (.iaload, 1) := by decide +kernel
theorem dX11_readRead_144 : decode cX11_readRead 144 = .ok (.iconst 1, 1) := by decide +kernel
theorem dX11_readRead_145 : decode cX11_readRead 145 = .ok (.iadd, 1) := by decide +kernel
theorem dX11_readRead_146 : decode cX11_readRead 146 = .ok (.iastore, 1) := by decide +kernel
theorem dX11_readRead_147 : decode cX11_readRead 147 = .ok (.aload_n 0, 1) := by decide +kernel
theorem dX11_readRead_148 : decode cX11_readRead 148 = .ok (.iload_n 1, 1) := by decide +kernel
theorem dX11_readRead_149 : decode cX11_readRead 149 = .ok (.iload 4, 2) := by decide +kernel
theorem dX11_readRead_151 : decode cX11_readRead 151 = .ok (.iload 5, 2) := by decide +kernel
theorem dX11_readRead_153 : decode cX11_readRead 153 = .ok (.invokevirtual 303, 3) := by decide +kernel
theorem dX11_readRead_156 : decode cX11_readRead 156 = .ok (.return_, 1) := by decide +kernel
theorem dX11_addOffset_0 : decode cX11_addOffset 0 = .ok (.iload_n 2, 1) := by decide +kernel
theorem dX11_addOffset_1 : decode cX11_addOffset 1 = .ok (.ifCond .ne 11, 3) := by decide +kernel
theorem dX11_addOffset_4 : decode cX11_addOffset 4 = .ok (.iload_n 3, 1) := by decide +kernel
theorem dX11_addOffset_5 : decode cX11_addOffset 5 = .ok (.ifCond .ne 7, 3) := by decide +kernel
theorem dX11_addOffset_8 : decode cX11_addOffset 8 = .ok (.iconst 1, 1) := by decide +kernel
theorem dX11_addOffset_9 : decode cX11_addOffset 9 = .ok (.goto 4, 3) := by decide +kernel
theorem dX11_addOffset_12 : decode cX11_addOffset 12 = .ok (.iconst 0, 1) := by decide +kernel
theorem dX11_addOffset_13 : decode cX11_addOffset 13 = .ok (.istore 4, 2) := by decide +kernel
theorem dX11_addOffset_15 : decode cX11_addOffset 15 = .ok (.iconst 0, 1) := by decide +kernel
theorem dX11_addOffset_16 : decode cX11_addOffset 16 = .ok (.istore 5, 2) := by decide +kernel
theorem dX11_addOffset_18 : decode cX11_addOffset 18 = .ok (.iload 5, 2) := by decide +kernel
theorem dX11_addOffset_20 : decode cX11_addOffset 20 = .ok (.aload_n 0, 1) := by decide +kernel
theorem dX11_addOffset_21 : decode cX11_addOffset 21 = .ok (.getfield 25, 3) := by decide +kernel
theorem dX11_addOffset_24 : decode cX11_addOffset 24 = .ok (.iload_n 1, 1) := by decide +kernel
theorem dX11_addOffset_25 : decode cX11_addOffset 25 = .ok (.iaload, 1) := by decide +kernel
theorem dX11_addOffset_26 : decode cX11_addOffset 26 = .ok (.if_icmp .ge 53, 3) := by decide +kernel
theorem dX11_addOffset_29 : decode cX11_addOffset 29 = .ok (.iload 4, 2) := by decide +kernel
theorem dX11_addOffset_31 : decode cX11_addOffset 31 = .ok (.ifCond .ne 35, 3) := by decide +kernel
theorem dX11_addOffset_34 : decode cX11_addOffset 34 = .ok (.aload_n 0, 1) := by decide +kernel
theorem dX11_addOffset_35 : decode cX11_addOffset 35 = .ok (.getfield 52, 3) := by decide +kernel
theorem dX11_addOffset_38 : decode cX11_addOffset 38 = .ok (.bipush 12, 2) := by decide +kernel
theorem dX11_addOffset_40 : decode cX11_addOffset 40 = .ok (.iload_n 1, 1) := by decide +kernel
theorem dX11_addOffset_41 : decode cX11_addOffset 41 = .ok (.imul, 1) := by decide +kernel
theorem dX11_addOffset_42 : decode cX11_addOffset 42 = .ok (.iload 5, 2) := by decide +kernel
theorem dX11_addOffset_44 : decode cX11_addOffset 44 = .ok (.iadd, 1) := by decide +kernel
theorem dX11_addOffset_45 : decode cX11_addOffset 45 = .ok (.iaload, 1) := by decide +kernel
theorem dX11_addOffset_46 : decode cX11_addOffset 46 = .ok (.iload_n 2, 1) := by decide +kernel
theorem dX11_addOffset_47 : decode cX11_addOffset 47 = .ok (.if_icmp .ne 23, 3) := by decide +kernel
theorem dX11_addOffset_50 : decode cX11_addOffset 50 = .ok (.aload_n 0, 1) := by decide +kernel
theorem dX11_addOffset_51 : decode cX11_addOffset 51 = .ok (.getfield 55, 3) := by decide +kernel
theorem dX11_addOffset_54 : decode cX11_addOffset 54 = .ok (.bipush 12, 2) := by decide +kernel
theorem dX11_addOffset_56 : decode cX11_addOffset 56 = .ok (.iload_n 1, 1) := by decide +kernel
theorem dX11_addOffset_57 : decode cX11_addOffset 57 = .ok (.imul, 1) := by decide +kernel
theorem dX11_addOffset_58 : decode cX11_addOffset 58 = .ok (.iload 5, 2) := by decide +kernel
theorem dX11_addOffset_60 : decode cX11_addOffset 60 = .ok (.iadd, 1) := by decide +kernel
theorem dX11_addOffset_61 : decode cX11_addOffset 61 = .ok (.iaload, 1) := by decide +kernel
theorem dX11_addOffset_62 : decode cX11_addOffset 62 = .ok (.iload_n 3, 1) := by decide +kernel
theorem dX11_addOffset_63 : decode cX11_addOffset 63 = .ok (.if_icmp .ne 7, 3) := by decide +kernel
theorem dX11_addOffset_66 : decode cX11_addOffset 66 = .ok (.iconst 1, 1) := by decide +kernel
theorem dX11_addOffset_67 : decode cX11_addOffset 67 = .ok (.goto 4, 3) := by decide +kernel
theorem dX11_addOffset_70 : decode cX11_addOffset 70 = .ok (.iconst 0, 1) := by decide +kernel
theorem dX11_addOffset_71 : decode cX11_addOffset 71 = .ok (.istore 4, 2) := by decide +kernel
theorem dX11_addOffset_73 : decode cX11_addOffset 73 = .ok (.iinc 5 1, 3) := by decide +kernel
theorem dX11_addOffset_76 : decode cX11_addOffset 76 = .ok (.goto (-58), 3) := by decide +kernel
theorem dX11_addOffset_79 : decode cX11_addOffset 79 = .ok (.iload 4, 2) := by decide +kernel
theorem dX11_addOffset_81 : decode cX11_addOffset 81 = .ok (.ifCond .eq 4, 3) := by decide +kernel
theorem dX11_addOffset_84 : decode cX11_addOffset 84 = .ok (.return_, 1) := by decide +kernel
theorem dX11_addOffset_85 : decode cX11_addOffset 85 = .ok (.aload_n 0, 1) := by decide +kernel
theorem dX11_addOffset_86 : decode cX11_addOffset 86 = .ok (.getfield 52, 3) := by decide +kernel
theorem dX11_addOffset_89 : decode cX11_addOffset 89 = .ok (.bipush 12, 2) := by decide +kernel
theorem dX11_addOffset_91 : decode cX11_addOffset 91 = .ok (.iload_n 1, 1) := by decide +kernel
theorem dX11_addOffset_92 : decode cX11_addOffset 92 = .ok (.imul, 1) := by decide +kernel
theorem dX11_addOffset_93 : decode cX11_addOffset 93 = .ok (.aload_n 0, 1) := by decide +kernel
theorem dX11_addOffset_94 : decode cX11_addOffset 94 = .ok (.getfield 25, 3) := by decide +kernel
theorem dX11_addOffset_97 : decode cX11_addOffset 97 = .ok (.iload_n 1, 1) := by decide +kernel
theorem dX11_addOffset_98 : decode cX11_addOffset 98 = .ok (.iaload, 1) := by decide +kernel
theorem dX11_addOffset_99 : decode cX11_addOffset 99 = .ok (.iadd, 1) := by decide +kernel
theorem dX11_addOffset_100 : decode cX11_addOffset 100 = .ok (.iload_n 2, 1) := by decide +kernel
theorem dX11_addOffset_101 : decode cX11_addOffset 101 = .ok (.iastore, 1) := by decide +kernel
theorem dX11_addOffset_102 : decode cX11_addOffset 102 = .ok (.aload_n 0, 1) := by decide +kernel
theorem dX11_addOffset_103 : decode cX11_addOffset 103 = .ok (.getfield 55, 3) := by decide +kernel
theorem dX11_addOffset_106 : decode cX11_addOffset 106 = .ok (.bipush 12, 2) := by decide +kernel
theorem dX11_addOffset_108 : decode cX11_addOffset 108 = .ok (.iload_n 1, 1) := by decide +kernel
theorem dX11_addOffset_109 : decode cX11_addOffset 109 = .ok (.imul, 1) := by decide +kernel
theorem dX11_addOffset_110 : decode cX11_addOffset 110 = .ok (.aload_n 0, 1) := by decide +kernel
theorem dX11_addOffset_111 : decode cX11_addOffset 111 = .ok (.getfield 25, 3) := by decide +kernel
theorem dX11_addOffset_114 : decode cX11_addOffset 114 = .ok (.iload_n 1, 1) := by decide +kernel
theorem dX11_addOffset_115 : decode cX11_addOffset 115 = .ok (.iaload, 1) := by decide +kernel
theorem dX11_addOffset_116 : decode cX11_addOffset 116 = .ok (.iadd, 1) := by decide +kernel
theorem dX11_addOffset_117 : decode cX11_addOffset 117 = .ok (.iload_n 3, 1) := by decide +kernel
theorem dX11_addOffset_118 : decode cX11_addOffset 118 = .ok (.iastore, 1) := by decide +kernel
theorem dX11_addOffset_119 : decode cX11_addOffset 119 = .ok (.aload_n 0, 1) := by decide +kernel
theorem dX11_addOffset_120 : decode cX11_addOffset 120 = .ok (.getfield 25, 3) := by decide +kernel
theorem dX11_addOffset_123 : decode cX11_addOffset 123 = .ok (.iload_n 1, 1) := by decide +kernel
theorem dX11_addOffset_124 : decode cX11_addOffset 124 = .ok (.dup2, 1) := by decide +kernel
theorem dX11_addOffset_125 : decode cX11_addOffset 125 = .ok (.iaload, 1) := by decide +kernel
theorem dX11_addOffset_126 : decode cX11_addOffset 126 = .ok (.iconst 1, 1) := by decide +kernel
theorem dX11_addOffset_127 : decode cX11_addOffset 127 = .ok (.iadd, 1) := by decide +kernel
theorem dX11_addOffset_128 : decode cX11_addOffset 128 = .ok (.iastore, 1) := by decide +kernel
theorem dX11_addOffset_129 : decode cX11_addOffset 129 = .ok (.return_, 1) := by decide +kernel
theorem dX11_loop_0 : decode cX11_loop 0 = .ok (.iconst 1, 1) := by decide +kernel
theorem dX11_loop_1 : decode cX11_loop 1 = .ok (.aload_n 0, 1) := by decide +kernel
theorem dX11_loop_2 : decode cX11_loop 2 = .ok (.getfield 306, 3) := by decide +kernel
theorem dX11_loop_5 : decode cX11_loop 5 = .ok (.isub, 1) := by decide +kernel
theorem dX11_loop_6 : decode cX11_loop 6 = .ok (.istore_n 1, 1) := by decide +kernel
theorem dX11_loop_7 : decode cX11_loop 7 = .ok (.aload_n 0, 1) := by decide +kernel
theorem dX11_loop_8 : decode cX11_loop 8 = .ok (.aload_n 0, 1) := by decide +kernel
theorem dX11_loop_9 : decode cX11_loop 9 = .ok (.getfield 159, 3) := by decide +kernel
theorem dX11_loop_12 : decode cX11_loop 12 = .ok (.putfield 162, 3) := by decide +kernel
theorem dX11_loop_15 : decode cX11_loop 15 = .ok (.aload_n 0, 1) := by decide +kernel
theorem dX11_loop_16 : decode cX11_loop 16 = .ok (.iconst 0, 1) := by decide +kernel
theorem dX11_loop_17 : decode cX11_loop 17 = .ok (.putfield 159, 3) := by decide +kernel
theorem dX11_loop_20 : decode cX11_loop 20 = .ok (.aload_n 0, 1) := by decide +kernel
theorem dX11_loop_21 : decode cX11_loop 21 = .ok (.iconst 0, 1) := by decide +kernel
theorem dX11_loop_22 : decode cX11_loop 22 = .ok (.putfield 165, 3) := by decide +kernel
theorem dX11_loop_25 : decode cX11_loop 25 = .ok (.aload_n 0, 1) := by decide +kernel
theorem dX11_loop_26 : decode cX11_loop 26 = .ok (.iconst 0, 1) := by decide +kernel
theorem dX11_loop_27 : decode cX11_loop 27 = .ok (.putfield 206, 3) := by decide +kernel
theorem dX11_loop_30 : decode cX11_loop 30 = .ok (.aload_n 0, 1) := by decide +kernel
theorem dX11_loop_31 : decode cX11_loop 31 = .ok (.iconst (-1), 1) := by decide +kernel
theorem dX11_loop_32 : decode cX11_loop 32 = .ok (.putfield 209, 3) := by decide +kernel
theorem dX11_loop_35 : decode cX11_loop 35 = .ok (.aload_n 0, 1) := by decide +kernel
theorem dX11_loop_36 : decode cX11_loop 36 = .ok (.iconst 0, 1) := by decide +kernel
theorem dX11_loop_37 : decode cX11_loop 37 = .ok (.putfield 244, 3) := by decide +kernel
theorem dX11_loop_40 : decode cX11_loop 40 = .ok (.aload_n 0, 1) := by decide +kernel
theorem dX11_loop_41 : decode cX11_loop 41 = .ok (.iconst 0, 1) := by decide +kernel
theorem dX11_loop_42 : decode cX11_loop 42 = .ok (.putfield 248, 3) := by decide +kernel
theorem dX11_loop_45 : decode cX11_loop 45 = .ok (.aload_n 0, 1) := by decide +kernel
theorem dX11_loop_46 : decode cX11_loop 46 = .ok (.iload_n 1, 1) := by decide +kernel
theorem dX11_loop_47 : decode cX11_loop 47 = .ok (.invokevirtual 148, 3) := by decide +kernel
theorem dX11_loop_50 : decode cX11_loop 50 = .ok (.aload_n 0, 1) := by decide +kernel
theorem dX11_loop_51 : decode cX11_loop 51 = .ok (.iload_n 1, 1) := by decide +kernel
theorem dX11_loop_52 : decode cX11_loop 52 = .ok (.invokevirtual 309, 3) := by decide +kernel
theorem dX11_loop_55 : decode cX11_loop 55 = .ok (.aload_n 0, 1) := by decide +kernel
theorem dX11_loop_56 : decode cX11_loop 56 = .ok (.aload_n 0, 1) := by decide +kernel
theorem dX11_loop_57 : decode cX11_loop 57 = .ok (.getfield 206, 3) := by decide +kernel
theorem dX11_loop_60 : decode cX11_loop 60 = .ok (.putfield 312, 3) := by decide +kernel
theorem dX11_loop_63 : decode cX11_loop 63 = .ok (.aload_n 0, 1) := by decide +kernel
theorem dX11_loop_64 : decode cX11_loop 64 = .ok (.aload_n 0, 1) := by decide +kernel
theorem dX11_loop_65 : decode cX11_loop 65 = .ok (.getfield 209, 3) := by decide +kernel
theorem dX11_loop_68 : decode cX11_loop 68 = .ok (.putfield 71, 3) := by decide +kernel
theorem dX11_loop_71 : decode cX11_loop 71 = .ok (.aload_n 0, 1) := by decide +kernel
theorem dX11_loop_72 : decode cX11_loop 72 = .ok (.getfield 312, 3) := by decide +kernel
theorem dX11_loop_75 : decode cX11_loop 75 = .ok (.ifCond .le 5, 3) := by decide +kernel
theorem dX11_loop_78 : decode cX11_loop 78 = .ok (.iconst (-1), 1) := by decide +kernel
theorem dX11_loop_79 : decode cX11_loop 79 = .ok (.ireturn, 1) := by decide +kernel
theorem dX11_loop_80 : decode cX11_loop 80 = .ok (.aload_n 0, 1) := by decide +kernel
theorem dX11_loop_81 : decode cX11_loop 81 = .ok (.iload_n 1, 1) := by decide +kernel
theorem dX11_loop_82 : decode cX11_loop 82 = .ok (.putfield 306, 3) := by decide +kernel
theorem dX11_loop_85 : decode cX11_loop 85 = .ok (.aload_n 0, 1) := by decide +kernel
theorem dX11_loop_86 : decode cX11_loop 86 = .ok (.invokevirtual 152, 3) := by decide +kernel
theorem dX11_loop_89 : decode cX11_loop 89 = .ok (.aload_n 0, 1) := by decide +kernel
theorem dX11_loop_90 : decode cX11_loop 90 = .ok (.invokevirtual 315, 3) := by decide +kernel
theorem dX11_loop_93 : decode cX11_loop 93 = .ok (.ireturn, 1) := by decide +kernel
theorem dX11_fault_0 : decode cX11_fault 0 = .ok (.iload_n 1, 1) := by decide +kernel
theorem dX11_fault_1 : decode cX11_fault 1 = .ok (.ifCond .ne 10, 3) := by decide +kernel
theorem dX11_fault_4 : decode cX11_fault 4 = .ok (.aload_n 0, 1) := by decide +kernel
theorem dX11_fault_5 : decode cX11_fault 5 = .ok (.getfield 312, 3) := by decide +kernel
theorem dX11_fault_8 : decode cX11_fault 8 = .ok (.goto 16, 3) := by decide +kernel
theorem dX11_fault_11 : decode cX11_fault 11 = .ok (.iload_n 1, 1) := by decide +kernel
theorem dX11_fault_12 : decode cX11_fault 12 = .ok (.iconst 1, 1) := by decide +kernel
theorem dX11_fault_13 : decode cX11_fault 13 = .ok (.if_icmp .ne 10, 3) := by decide +kernel
theorem dX11_fault_16 : decode cX11_fault 16 = .ok (.aload_n 0, 1) := by decide +kernel
theorem dX11_fault_17 : decode cX11_fault 17 = .ok (.getfield 71, 3) := by decide +kernel
theorem dX11_fault_20 : decode cX11_fault 20 = .ok (.goto 4, 3) := by decide +kernel
theorem dX11_fault_23 : decode cX11_fault 23 = .ok (.iconst (-1), 1) := by decide +kernel
theorem dX11_fault_24 : decode cX11_fault 24 = .ok (.ireturn, 1) := by decide +kernel
theorem dX11_many_0 : decode cX11_many 0 = .ok (.aload_n 0, 1) := by decide +kernel
theorem dX11_many_1 : decode cX11_many 1 = .ok (.getfield 16, 3) := by decide +kernel
theorem dX11_many_4 : decode cX11_many 4 = .ok (.aload_n 0, 1) := by decide +kernel
theorem dX11_many_5 : decode cX11_many 5 = .ok (.getfield 306, 3) := by decide +kernel
theorem dX11_many_8 : decode cX11_many 8 = .ok (.iaload, 1) := by decide +kernel
theorem dX11_many_9 : decode cX11_many 9 = .ok (.ireturn, 1) := by decide +kernel
theorem dX11_rowsNow_0 : decode cX11_rowsNow 0 = .ok (.aload_n 0, 1) := by decide +kernel
theorem dX11_rowsNow_1 : decode cX11_rowsNow 1 = .ok (.getfield 7, 3) := by decide +kernel
theorem dX11_rowsNow_4 : decode cX11_rowsNow 4 = .ok (.aload_n 0, 1) := by decide +kernel
theorem dX11_rowsNow_5 : decode cX11_rowsNow 5 = .ok (.getfield 306, 3) := by decide +kernel
theorem dX11_rowsNow_8 : decode cX11_rowsNow 8 = .ok (.iaload, 1) := by decide +kernel
theorem dX11_rowsNow_9 : decode cX11_rowsNow 9 = .ok (.ireturn, 1) := by decide +kernel
theorem dX11_columnsNow_0 : decode cX11_columnsNow 0 = .ok (.aload_n 0, 1) := by decide +kernel
theorem dX11_columnsNow_1 : decode cX11_columnsNow 1 = .ok (.getfield 13, 3) := by decide +kernel
theorem dX11_columnsNow_4 : decode cX11_columnsNow 4 = .ok (.aload_n 0, 1) := by decide +kernel
theorem dX11_columnsNow_5 : decode cX11_columnsNow 5 = .ok (.getfield 306, 3) := by decide +kernel
theorem dX11_columnsNow_8 : decode cX11_columnsNow 8 = .ok (.iaload, 1) := by decide +kernel
theorem dX11_columnsNow_9 : decode cX11_columnsNow 9 = .ok (.ireturn, 1) := by decide +kernel
theorem dX11_isVariable_0 : decode cX11_isVariable 0 = .ok (.iload_n 1, 1) := by decide +kernel
theorem dX11_isVariable_1 : decode cX11_isVariable 1 = .ok (.iconst 0, 1) := by decide +kernel
theorem dX11_isVariable_2 : decode cX11_isVariable 2 = .ok (.aload_n 0, 1) := by decide +kernel
theorem dX11_isVariable_3 : decode cX11_isVariable 3 = .ok (.invokevirtual 315, 3) := by decide +kernel
theorem dX11_isVariable_6 : decode cX11_isVariable 6 = .ok (.iconst 1, 1) := by decide +kernel
theorem dX11_isVariable_7 : decode cX11_isVariable 7 = .ok (.isub, 1) := by decide +kernel
theorem dX11_isVariable_8 : decode cX11_isVariable 8 = .ok (.invokestatic 221, 3) := by decide +kernel
theorem dX11_isVariable_11 : decode cX11_isVariable 11 = .ok (.ireturn, 1) := by decide +kernel
theorem dX11_isPoint_0 : decode cX11_isPoint 0 = .ok (.iload_n 1, 1) := by decide +kernel
theorem dX11_isPoint_1 : decode cX11_isPoint 1 = .ok (.iconst 0, 1) := by decide +kernel
theorem dX11_isPoint_2 : decode cX11_isPoint 2 = .ok (.aload_n 0, 1) := by decide +kernel
theorem dX11_isPoint_3 : decode cX11_isPoint 3 = .ok (.invokevirtual 318, 3) := by decide +kernel
theorem dX11_isPoint_6 : decode cX11_isPoint 6 = .ok (.iconst 1, 1) := by decide +kernel
theorem dX11_isPoint_7 : decode cX11_isPoint 7 = .ok (.isub, 1) := by decide +kernel
theorem dX11_isPoint_8 : decode cX11_isPoint 8 = .ok (.invokestatic 221, 3) := by decide +kernel
theorem dX11_isPoint_11 : decode cX11_isPoint 11 = .ok (.ifCond .eq 21, 3) := by decide +kernel
theorem dX11_isPoint_14 : decode cX11_isPoint 14 = .ok (.iload_n 2, 1) := by decide +kernel
theorem dX11_isPoint_15 : decode cX11_isPoint 15 = .ok (.iconst 0, 1) := by decide +kernel
theorem dX11_isPoint_16 : decode cX11_isPoint 16 = .ok (.aload_n 0, 1) := by decide +kernel
theorem dX11_isPoint_17 : decode cX11_isPoint 17 = .ok (.invokevirtual 321, 3) := by decide +kernel
theorem dX11_isPoint_20 : decode cX11_isPoint 20 = .ok (.iconst 1, 1) := by decide +kernel
theorem dX11_isPoint_21 : decode cX11_isPoint 21 = .ok (.isub, 1) := by decide +kernel
theorem dX11_isPoint_22 : decode cX11_isPoint 22 = .ok (.invokestatic 221, 3) := by decide +kernel
theorem dX11_isPoint_25 : decode cX11_isPoint 25 = .ok (.ifCond .eq 7, 3) := by decide +kernel
theorem dX11_isPoint_28 : decode cX11_isPoint 28 = .ok (.iconst 1, 1) := by decide +kernel
theorem dX11_isPoint_29 : decode cX11_isPoint 29 = .ok (.goto 4, 3) := by decide +kernel
theorem dX11_isPoint_32 : decode cX11_isPoint 32 = .ok (.iconst 0, 1) := by decide +kernel
theorem dX11_isPoint_33 : decode cX11_isPoint 33 = .ok (.ireturn, 1) := by decide +kernel
theorem dX11_isThere_0 : decode cX11_isThere 0 = .ok (.aload_n 0, 1) := by decide +kernel
theorem dX11_isThere_1 : decode cX11_isThere 1 = .ok (.iload_n 1, 1) := by decide +kernel
theorem dX11_isThere_2 : decode cX11_isThere 2 = .ok (.bipush 10, 2) := by decide +kernel
theorem dX11_isThere_4 : decode cX11_isThere 4 = .ok (.idiv, 1) := by decide +kernel
theorem dX11_isThere_5 : decode cX11_isThere 5 = .ok (.iload_n 1, 1) := by decide +kernel
theorem dX11_isThere_6 : decode cX11_isThere 6 = .ok (.bipush 10, 2) := by decide +kernel
theorem dX11_isThere_8 : decode cX11_isThere 8 = .ok (.irem, 1) := by decide +kernel
theorem dX11_isThere_9 : decode cX11_isThere 9 = .ok (.invokevirtual 324, 3) := by decide +kernel
theorem dX11_isThere_12 : decode cX11_isThere 12 = .ok (.ireturn, 1) := by decide +kernel
theorem dX11_offsetsNow_0 : decode cX11_offsetsNow 0 = .ok (.aload_n 0, 1) := by decide +kernel
theorem dX11_offsetsNow_1 : decode cX11_offsetsNow 1 = .ok (.getfield 25, 3) := by decide +kernel
theorem dX11_offsetsNow_4 : decode cX11_offsetsNow 4 = .ok (.aload_n 0, 1) := by decide +kernel
theorem dX11_offsetsNow_5 : decode cX11_offsetsNow 5 = .ok (.getfield 306, 3) := by decide +kernel
theorem dX11_offsetsNow_8 : decode cX11_offsetsNow 8 = .ok (.iaload, 1) := by decide +kernel
theorem dX11_offsetsNow_9 : decode cX11_offsetsNow 9 = .ok (.ireturn, 1) := by decide +kernel
theorem dX11_byA_0 : decode cX11_byA 0 = .ok (.aload_n 0, 1) := by decide +kernel
theorem dX11_byA_1 : decode cX11_byA 1 = .ok (.getfield 52, 3) := by decide +kernel
theorem dX11_byA_4 : decode cX11_byA 4 = .ok (.bipush 12, 2) := by decide +kernel
theorem dX11_byA_6 : decode cX11_byA 6 = .ok (.aload_n 0, 1) := by decide +kernel
theorem dX11_byA_7 : decode cX11_byA 7 = .ok (.getfield 306, 3) := by decide +kernel
theorem dX11_byA_10 : decode cX11_byA 10 = .ok (.imul, 1) := by decide +kernel
theorem dX11_byA_11 : decode cX11_byA 11 = .ok (.iload_n 1, 1) := by decide +kernel
theorem dX11_byA_12 : decode cX11_byA 12 = .ok (.iadd, 1) := by decide +kernel
theorem dX11_byA_13 : decode cX11_byA 13 = .ok (.iaload, 1) := by decide +kernel
theorem dX11_byA_14 : decode cX11_byA 14 = .ok (.ireturn, 1) := by decide +kernel
theorem dX11_byB_0 : decode cX11_byB 0 = .ok (.aload_n 0, 1) := by decide +kernel
theorem dX11_byB_1 : decode cX11_byB 1 = .ok (.getfield 55, 3) := by decide +kernel
theorem dX11_byB_4 : decode cX11_byB 4 = .ok (.bipush 12, 2) := by decide +kernel
theorem dX11_byB_6 : decode cX11_byB 6 = .ok (.aload_n 0, 1) := by decide +kernel
theorem dX11_byB_7 : decode cX11_byB 7 = .ok (.getfield 306, 3) := by decide +kernel
theorem dX11_byB_10 : decode cX11_byB 10 = .ok (.imul, 1) := by decide +kernel
theorem dX11_byB_11 : decode cX11_byB 11 = .ok (.iload_n 1, 1) := by decide +kernel
theorem dX11_byB_12 : decode cX11_byB 12 = .ok (.iadd, 1) := by decide +kernel
theorem dX11_byB_13 : decode cX11_byB 13 = .ok (.iaload, 1) := by decide +kernel
theorem dX11_byB_14 : decode cX11_byB 14 = .ok (.ireturn, 1) := by decide +kernel
theorem dX11_readBy_0 : decode cX11_readBy 0 = .ok (.iload_n 1, 1) := by decide +kernel
theorem dX11_readBy_1 : decode cX11_readBy 1 = .ok (.bipush 10, 2) := by decide +kernel
theorem dX11_readBy_3 : decode cX11_readBy 3 = .ok (.idiv, 1) := by decide +kernel
theorem dX11_readBy_4 : decode cX11_readBy 4 = .ok (.aload_n 0, 1) := by decide +kernel
theorem dX11_readBy_5 : decode cX11_readBy 5 = .ok (.iload_n 2, 1) := by decide +kernel
theorem dX11_readBy_6 : decode cX11_readBy 6 = .ok (.invokevirtual 327, 3) := by decide +kernel
theorem dX11_readBy_9 : decode cX11_readBy 9 = .ok (.iadd, 1) := by decide +kernel
theorem dX11_readBy_10 : decode cX11_readBy 10 = .ok (.istore_n 3, 1) := by decide +kernel
theorem dX11_readBy_11 : decode cX11_readBy 11 = .ok (.iload_n 1, 1) := by decide +kernel
theorem dX11_readBy_12 : decode cX11_readBy 12 = .ok (.bipush 10, 2) := by decide +kernel
theorem dX11_readBy_14 : decode cX11_readBy 14 = .ok (.irem, 1) := by decide +kernel
theorem dX11_readBy_15 : decode cX11_readBy 15 = .ok (.aload_n 0, 1) := by decide +kernel
theorem dX11_readBy_16 : decode cX11_readBy 16 = .ok (.iload_n 2, 1) := by decide +kernel
theorem dX11_readBy_17 : decode cX11_readBy 17 = .ok (.invokevirtual 330, 3) := by decide +kernel
theorem dX11_readBy_20 : decode cX11_readBy 20 = .ok (.iadd, 1) := by decide +kernel
theorem dX11_readBy_21 : decode cX11_readBy 21 = .ok (.istore 4, 2) := by decide +kernel
theorem dX11_readBy_23 : decode cX11_readBy 23 = .ok (.aload_n 0, 1) := by decide +kernel
theorem dX11_readBy_24 : decode cX11_readBy 24 = .ok (.iload_n 3, 1) := by decide +kernel
theorem dX11_readBy_25 : decode cX11_readBy 25 = .ok (.iload 4, 2) := by decide +kernel
theorem dX11_readBy_27 : decode cX11_readBy 27 = .ok (.invokevirtual 324, 3) := by decide +kernel
theorem dX11_readBy_30 : decode cX11_readBy 30 = .ok (.ifCond .eq 13, 3) := by decide +kernel
theorem dX11_readBy_33 : decode cX11_readBy 33 = .ok (.bipush 10, 2) := by decide +kernel
theorem dX11_readBy_35 : decode cX11_readBy 35 = .ok (.iload_n 3, 1) := by decide +kernel
theorem dX11_readBy_36 : decode cX11_readBy 36 = .ok (.imul, 1) := by decide +kernel
theorem dX11_readBy_37 : decode cX11_readBy 37 = .ok (.iload 4, 2) := by decide +kernel
theorem dX11_readBy_39 : decode cX11_readBy 39 = .ok (.iadd, 1) := by decide +kernel
theorem dX11_readBy_40 : decode cX11_readBy 40 = .ok (.goto 4, 3) := by decide +kernel
theorem dX11_readBy_43 : decode cX11_readBy 43 = .ok (.iconst (-1), 1) := by decide +kernel
theorem dX11_readBy_44 : decode cX11_readBy 44 = .ok (.ireturn, 1) := by decide +kernel
theorem dX11_readerBy_0 : decode cX11_readerBy 0 = .ok (.iload_n 1, 1) := by decide +kernel
theorem dX11_readerBy_1 : decode cX11_readerBy 1 = .ok (.bipush 10, 2) := by decide +kernel
theorem dX11_readerBy_3 : decode cX11_readerBy 3 = .ok (.idiv, 1) := by decide +kernel
theorem dX11_readerBy_4 : decode cX11_readerBy 4 = .ok (.aload_n 0, 1) := by decide +kernel
theorem dX11_readerBy_5 : decode cX11_readerBy 5 = .ok (.iload_n 2, 1) := by decide +kernel
theorem dX11_readerBy_6 : decode cX11_readerBy 6 = .ok (.invokevirtual 327, 3) := by decide +kernel
theorem dX11_readerBy_9 : decode cX11_readerBy 9 = .ok (.isub, 1) := by decide +kernel
theorem dX11_readerBy_10 : decode cX11_readerBy 10 = .ok (.istore_n 3, 1) := by decide +kernel
theorem dX11_readerBy_11 : decode cX11_readerBy 11 = .ok (.iload_n 1, 1) := by decide +kernel
theorem dX11_readerBy_12 : decode cX11_readerBy 12 = .ok (.bipush 10, 2) := by decide +kernel
theorem dX11_readerBy_14 : decode cX11_readerBy 14 = .ok (.irem, 1) := by decide +kernel
theorem dX11_readerBy_15 : decode cX11_readerBy 15 = .ok (.aload_n 0, 1) := by decide +kernel
theorem dX11_readerBy_16 : decode cX11_readerBy 16 = .ok (.iload_n 2, 1) := by decide +kernel
theorem dX11_readerBy_17 : decode cX11_readerBy 17 = .ok (.invokevirtual 330, 3) := by decide +kernel
theorem dX11_readerBy_20 : decode cX11_readerBy 20 = .ok (.isub, 1) := by decide +kernel
theorem dX11_readerBy_21 : decode cX11_readerBy 21 = .ok (.istore 4, 2) := by decide +kernel
theorem dX11_readerBy_23 : decode cX11_readerBy 23 = .ok (.aload_n 0, 1) := by decide +kernel
theorem dX11_readerBy_24 : decode cX11_readerBy 24 = .ok (.iload_n 3, 1) := by decide +kernel
theorem dX11_readerBy_25 : decode cX11_readerBy 25 = .ok (.iload 4, 2) := by decide +kernel
theorem dX11_readerBy_27 : decode cX11_readerBy 27 = .ok (.invokevirtual 324, 3) := by decide +kernel
theorem dX11_readerBy_30 : decode cX11_readerBy 30 = .ok (.ifCond .eq 13, 3) := by decide +kernel
theorem dX11_readerBy_33 : decode cX11_readerBy 33 = .ok (.bipush 10, 2) := by decide +kernel
theorem dX11_readerBy_35 : decode cX11_readerBy 35 = .ok (.iload_n 3, 1) := by decide +kernel
theorem dX11_readerBy_36 : decode cX11_readerBy 36 = .ok (.imul, 1) := by decide +kernel
theorem dX11_readerBy_37 : decode cX11_readerBy 37 = .ok (.iload 4, 2) := by decide +kernel
theorem dX11_readerBy_39 : decode cX11_readerBy 39 = .ok (.iadd, 1) := by decide +kernel
theorem dX11_readerBy_40 : decode cX11_readerBy 40 = .ok (.goto 4, 3) := by decide +kernel
theorem dX11_readerBy_43 : decode cX11_readerBy 43 = .ok (.iconst (-1), 1) := by decide +kernel
theorem dX11_readerBy_44 : decode cX11_readerBy 44 = .ok (.ireturn, 1) := by decide +kernel
theorem dX11_layDepths_0 : decode cX11_layDepths 0 = .ok (.iconst 0, 1) := by decide +kernel
theorem dX11_layDepths_1 : decode cX11_layDepths 1 = .ok (.istore_n 1, 1) := by decide +kernel
theorem dX11_layDepths_2 : decode cX11_layDepths 2 = .ok (.iload_n 1, 1) := by decide +kernel
theorem dX11_layDepths_3 : decode cX11_layDepths 3 = .ok (.bipush 100, 2) := by decide +kernel
theorem dX11_layDepths_5 : decode cX11_layDepths 5 = .ok (.if_icmp .ge 16, 3) := by decide +kernel
theorem dX11_layDepths_8 : decode cX11_layDepths 8 = .ok (.aload_n 0, 1) := by decide +kernel
theorem dX11_layDepths_9 : decode cX11_layDepths 9 = .ok (.getfield 87, 3) := by decide +kernel
theorem dX11_layDepths_12 : decode cX11_layDepths 12 = .ok (.iload_n 1, 1) := by decide +kernel
theorem dX11_layDepths_13 : decode cX11_layDepths 13 = .ok (.iconst (-1), 1) := by decide +kernel
theorem dX11_layDepths_14 : decode cX11_layDepths 14 = .ok (.iastore, 1) := by decide +kernel
theorem dX11_layDepths_15 : decode cX11_layDepths 15 = .ok (.iinc 1 1, 3) := by decide +kernel
theorem dX11_layDepths_18 : decode cX11_layDepths 18 = .ok (.goto (-16), 3) := by decide +kernel
theorem dX11_layDepths_21 : decode cX11_layDepths 21 = .ok (.iconst 1, 1) := by decide +kernel
theorem dX11_layDepths_22 : decode cX11_layDepths 22 = .ok (.istore_n 1, 1) := by decide +kernel
theorem dX11_layDepths_23 : decode cX11_layDepths 23 = .ok (.iload_n 1, 1) := by decide +kernel
theorem dX11_layDepths_24 : decode cX11_layDepths 24 = .ok (.ifCond .eq 72, 3) := by decide +kernel
theorem dX11_layDepths_27 : decode cX11_layDepths 27 = .ok (.iconst 0, 1) := by decide +kernel
theorem dX11_layDepths_28 : decode cX11_layDepths 28 = .ok (.istore_n 1, 1) := by decide +kernel
theorem dX11_layDepths_29 : decode cX11_layDepths 29 = .ok (.iconst 0, 1) := by decide +kernel
theorem dX11_layDepths_30 : decode cX11_layDepths 30 = .ok (.istore_n 2, 1) := by decide +kernel
theorem dX11_layDepths_31 : decode cX11_layDepths 31 = .ok (.iload_n 2, 1) := by decide +kernel
theorem dX11_layDepths_32 : decode cX11_layDepths 32 = .ok (.bipush 100, 2) := by decide +kernel
theorem dX11_layDepths_34 : decode cX11_layDepths 34 = .ok (.if_icmp .ge 59, 3) := by decide +kernel
theorem dX11_layDepths_37 : decode cX11_layDepths 37 = .ok (.aload_n 0, 1) := by decide +kernel
theorem dX11_layDepths_38 : decode cX11_layDepths 38 = .ok (.iload_n 2, 1) := by decide +kernel
theorem dX11_layDepths_39 : decode cX11_layDepths 39 = .ok (.invokevirtual 333, 3) := by decide +kernel
theorem dX11_layDepths_42 : decode cX11_layDepths 42 = .ok (.ifCond .eq 45, 3) := by decide +kernel
theorem dX11_layDepths_45 : decode cX11_layDepths 45 = .ok (.aload_n 0, 1) := by decide +kernel
theorem dX11_layDepths_46 : decode cX11_layDepths 46 = .ok (.getfield 87, 3) := by decide +kernel
theorem dX11_layDepths_49 : decode cX11_layDepths 49 = .ok (.iload_n 2, 1) := by decide +kernel
theorem dX11_layDepths_50 : decode cX11_layDepths 50 = .ok (.iaload, 1) := by decide +kernel
theorem dX11_layDepths_51 : decode cX11_layDepths 51 = .ok (.ifCond .lt 6, 3) := by decide +kernel
theorem dX11_layDepths_54 : decode cX11_layDepths 54 = .ok (.goto 33, 3) := by decide +kernel
theorem dX11_layDepths_57 : decode cX11_layDepths 57 = .ok (.aload_n 0, 1) := by decide +kernel
theorem dX11_layDepths_58 : decode cX11_layDepths 58 = .ok (.getfield 87, 3) := by decide +kernel
theorem dX11_layDepths_61 : decode cX11_layDepths 61 = .ok (.iload_n 2, 1) := by decide +kernel
theorem dX11_layDepths_62 : decode cX11_layDepths 62 = .ok (.aload_n 0, 1) := by decide +kernel
theorem dX11_layDepths_63 : decode cX11_layDepths 63 = .ok (.iload_n 2, 1) := by decide +kernel
theorem dX11_layDepths_64 : decode cX11_layDepths 64 = .ok (.invokevirtual 336, 3) := by decide +kernel
theorem dX11_layDepths_67 : decode cX11_layDepths 67 = .ok (.iastore, 1) := by decide +kernel
theorem dX11_layDepths_68 : decode cX11_layDepths 68 = .ok (.iload_n 1, 1) := by decide +kernel
theorem dX11_layDepths_69 : decode cX11_layDepths 69 = .ok (.ifCond .ne 12, 3) := by decide +kernel
theorem dX11_layDepths_72 : decode cX11_layDepths 72 = .ok (.aload_n 0, 1) := by decide +kernel
theorem dX11_layDepths_73 : decode cX11_layDepths 73 = .ok (.getfield 87, 3) := by decide +kernel
theorem dX11_layDepths_76 : decode cX11_layDepths 76 = .ok (.iload_n 2, 1) := by decide +kernel
theorem dX11_layDepths_77 : decode cX11_layDepths 77 = .ok (.iaload, 1) := by decide +kernel
theorem dX11_layDepths_78 : decode cX11_layDepths 78 = .ok (.ifCond .lt 7, 3) := by decide +kernel
theorem dX11_layDepths_81 : decode cX11_layDepths 81 = .ok (.iconst 1, 1) := by decide +kernel
theorem dX11_layDepths_82 : decode cX11_layDepths 82 = .ok (.goto 4, 3) := by decide +kernel
theorem dX11_layDepths_85 : decode cX11_layDepths 85 = .ok (.iconst 0, 1) := by decide +kernel
theorem dX11_layDepths_86 : decode cX11_layDepths 86 = .ok (.istore_n 1, 1) := by decide +kernel
theorem dX11_layDepths_87 : decode cX11_layDepths 87 = .ok (.iinc 2 1, 3) := by decide +kernel
theorem dX11_layDepths_90 : decode cX11_layDepths 90 = .ok (.goto (-59), 3) := by decide +kernel
theorem dX11_layDepths_93 : decode cX11_layDepths 93 = .ok (.goto (-70), 3) := by decide +kernel
theorem dX11_layDepths_96 : decode cX11_layDepths 96 = .ok (.return_, 1) := by decide +kernel
theorem dX11_depthBy_0 : decode cX11_depthBy 0 = .ok (.iconst 0, 1) := by decide +kernel
theorem dX11_depthBy_1 : decode cX11_depthBy 1 = .ok (.istore_n 2, 1) := by decide +kernel
theorem dX11_depthBy_2 : decode cX11_depthBy 2 = .ok (.iconst 0, 1) := by decide +kernel
theorem dX11_depthBy_3 : decode cX11_depthBy 3 = .ok (.istore_n 3, 1) := by decide +kernel
theorem dX11_depthBy_4 : decode cX11_depthBy 4 = .ok (.iload_n 3, 1) := by decide +kernel
theorem dX11_depthBy_5 : decode cX11_depthBy 5 = .ok (.aload_n 0, 1) := by decide +kernel
theorem dX11_depthBy_6 : decode cX11_depthBy 6 = .ok (.invokevirtual 339, 3) := by decide +kernel
theorem dX11_depthBy_9 : decode cX11_depthBy 9 = .ok (.if_icmp .ge 51, 3) := by decide +kernel
theorem dX11_depthBy_12 : decode cX11_depthBy 12 = .ok (.aload_n 0, 1) := by decide +kernel
theorem dX11_depthBy_13 : decode cX11_depthBy 13 = .ok (.iload_n 1, 1) := by decide +kernel
theorem dX11_depthBy_14 : decode cX11_depthBy 14 = .ok (.iload_n 3, 1) := by decide +kernel
theorem dX11_depthBy_15 : decode cX11_depthBy 15 = .ok (.invokevirtual 342, 3) := by decide +kernel
theorem dX11_depthBy_18 : decode cX11_depthBy 18 = .ok (.istore 4, 2) := by decide +kernel
theorem dX11_depthBy_20 : decode cX11_depthBy 20 = .ok (.iload 4, 2) := by decide +kernel
theorem dX11_depthBy_22 : decode cX11_depthBy 22 = .ok (.ifCond .ge 6, 3) := by decide +kernel
theorem dX11_depthBy_25 : decode cX11_depthBy 25 = .ok (.goto 29, 3) := by decide +kernel
theorem dX11_depthBy_28 : decode cX11_depthBy 28 = .ok (.aload_n 0, 1) := by decide +kernel
theorem dX11_depthBy_29 : decode cX11_depthBy 29 = .ok (.getfield 87, 3) := by decide +kernel
theorem dX11_depthBy_32 : decode cX11_depthBy 32 = .ok (.iload 4, 2) := by decide +kernel
theorem dX11_depthBy_34 : decode cX11_depthBy 34 = .ok (.iaload, 1) := by decide +kernel
theorem dX11_depthBy_35 : decode cX11_depthBy 35 = .ok (.ifCond .ge 5, 3) := by decide +kernel
theorem dX11_depthBy_38 : decode cX11_depthBy 38 = .ok (.iconst (-1), 1) := by decide +kernel
theorem dX11_depthBy_39 : decode cX11_depthBy 39 = .ok (.ireturn, 1) := by decide +kernel
theorem dX11_depthBy_40 : decode cX11_depthBy 40 = .ok (.iload_n 2, 1) := by decide +kernel
theorem dX11_depthBy_41 : decode cX11_depthBy 41 = .ok (.aload_n 0, 1) := by decide +kernel
theorem dX11_depthBy_42 : decode cX11_depthBy 42 = .ok (.getfield 87, 3) := by decide +kernel
theorem dX11_depthBy_45 : decode cX11_depthBy 45 = .ok (.iload 4, 2) := by decide +kernel
theorem dX11_depthBy_47 : decode cX11_depthBy 47 = .ok (.iaload, 1) := by decide +kernel
theorem dX11_depthBy_48 : decode cX11_depthBy 48 = .ok (.iconst 1, 1) := by decide +kernel
theorem dX11_depthBy_49 : decode cX11_depthBy 49 = .ok (.iadd, 1) := by decide +kernel
theorem dX11_depthBy_50 : decode cX11_depthBy 50 = .ok (.invokestatic 345, 3) := by decide +kernel
theorem dX11_depthBy_53 : decode cX11_depthBy 53 = .ok (.istore_n 2, 1) := by decide +kernel
theorem dX11_depthBy_54 : decode cX11_depthBy 54 = .ok (.iinc 3 1, 3) := by decide +kernel
theorem dX11_depthBy_57 : decode cX11_depthBy 57 = .ok (.goto (-53), 3) := by decide +kernel
theorem dX11_depthBy_60 : decode cX11_depthBy 60 = .ok (.iload_n 2, 1) := by decide +kernel
theorem dX11_depthBy_61 : decode cX11_depthBy 61 = .ok (.ireturn, 1) := by decide +kernel
theorem dX11_layHeights_0 : decode cX11_layHeights 0 = .ok (.aload_n 0, 1) := by decide +kernel
theorem dX11_layHeights_1 : decode cX11_layHeights 1 = .ok (.invokevirtual 348, 3) := by decide +kernel
theorem dX11_layHeights_4 : decode cX11_layHeights 4 = .ok (.iconst 0, 1) := by decide +kernel
theorem dX11_layHeights_5 : decode cX11_layHeights 5 = .ok (.istore_n 1, 1) := by decide +kernel
theorem dX11_layHeights_6 : decode cX11_layHeights 6 = .ok (.iload_n 1, 1) := by decide +kernel
theorem dX11_layHeights_7 : decode cX11_layHeights 7 = .ok (.bipush 100, 2) := by decide +kernel
theorem dX11_layHeights_9 : decode cX11_layHeights 9 = .ok (.if_icmp .ge 16, 3) := by decide +kernel
theorem dX11_layHeights_12 : decode cX11_layHeights 12 = .ok (.aload_n 0, 1) := by decide +kernel
theorem dX11_layHeights_13 : decode cX11_layHeights 13 = .ok (.getfield 90, 3) := by decide +kernel
theorem dX11_layHeights_16 : decode cX11_layHeights 16 = .ok (.iload_n 1, 1) := by decide +kernel
theorem dX11_layHeights_17 : decode cX11_layHeights 17 = .ok (.iconst (-1), 1) := by decide +kernel
theorem dX11_layHeights_18 : decode cX11_layHeights 18 = .ok (.iastore, 1) := by decide +kernel
theorem dX11_layHeights_19 : decode cX11_layHeights 19 = .ok (.iinc 1 1, 3) := by decide +kernel
theorem dX11_layHeights_22 : decode cX11_layHeights 22 = .ok (.goto (-16), 3) := by decide +kernel
theorem dX11_layHeights_25 : decode cX11_layHeights 25 = .ok (.iconst 1, 1) := by decide +kernel
theorem dX11_layHeights_26 : decode cX11_layHeights 26 = .ok (.istore_n 1, 1) := by decide +kernel
theorem dX11_layHeights_27 : decode cX11_layHeights 27 = .ok (.iload_n 1, 1) := by decide +kernel
theorem dX11_layHeights_28 : decode cX11_layHeights 28 = .ok (.ifCond .eq 81, 3) := by decide +kernel
theorem dX11_layHeights_31 : decode cX11_layHeights 31 = .ok (.iconst 0, 1) := by decide +kernel
theorem dX11_layHeights_32 : decode cX11_layHeights 32 = .ok (.istore_n 1, 1) := by decide +kernel
theorem dX11_layHeights_33 : decode cX11_layHeights 33 = .ok (.iconst 0, 1) := by decide +kernel
theorem dX11_layHeights_34 : decode cX11_layHeights 34 = .ok (.istore_n 2, 1) := by decide +kernel
theorem dX11_layHeights_35 : decode cX11_layHeights 35 = .ok (.iload_n 2, 1) := by decide +kernel
theorem dX11_layHeights_36 : decode cX11_layHeights 36 = .ok (.bipush 100, 2) := by decide +kernel
theorem dX11_layHeights_38 : decode cX11_layHeights 38 = .ok (.if_icmp .ge 68, 3) := by decide +kernel
theorem dX11_layHeights_41 : decode cX11_layHeights 41 = .ok (.aload_n 0, 1) := by decide +kernel
theorem dX11_layHeights_42 : decode cX11_layHeights 42 = .ok (.iload_n 2, 1) := by decide +kernel
theorem dX11_layHeights_43 : decode cX11_layHeights 43 = .ok (.invokevirtual 333, 3) := by decide +kernel
theorem dX11_layHeights_46 : decode cX11_layHeights 46 = .ok (.ifCond .eq 54, 3) := by decide +kernel
theorem dX11_layHeights_49 : decode cX11_layHeights 49 = .ok (.aload_n 0, 1) := by decide +kernel
theorem dX11_layHeights_50 : decode cX11_layHeights 50 = .ok (.getfield 87, 3) := by decide +kernel
theorem dX11_layHeights_53 : decode cX11_layHeights 53 = .ok (.iload_n 2, 1) := by decide +kernel
theorem dX11_layHeights_54 : decode cX11_layHeights 54 = .ok (.iaload, 1) := by decide +kernel
theorem dX11_layHeights_55 : decode cX11_layHeights 55 = .ok (.ifCond .lt 45, 3) := by decide +kernel
theorem dX11_layHeights_58 : decode cX11_layHeights 58 = .ok (.aload_n 0, 1) := by decide +kernel
theorem dX11_layHeights_59 : decode cX11_layHeights 59 = .ok (.getfield 90, 3) := by decide +kernel
theorem dX11_layHeights_62 : decode cX11_layHeights 62 = .ok (.iload_n 2, 1) := by decide +kernel
theorem dX11_layHeights_63 : decode cX11_layHeights 63 = .ok (.iaload, 1) := by decide +kernel
theorem dX11_layHeights_64 : decode cX11_layHeights 64 = .ok (.ifCond .lt 6, 3) := by decide +kernel
theorem dX11_layHeights_67 : decode cX11_layHeights 67 = .ok (.goto 33, 3) := by decide +kernel
theorem dX11_layHeights_70 : decode cX11_layHeights 70 = .ok (.aload_n 0, 1) := by decide +kernel
theorem dX11_layHeights_71 : decode cX11_layHeights 71 = .ok (.getfield 90, 3) := by decide +kernel
theorem dX11_layHeights_74 : decode cX11_layHeights 74 = .ok (.iload_n 2, 1) := by decide +kernel
theorem dX11_layHeights_75 : decode cX11_layHeights 75 = .ok (.aload_n 0, 1) := by decide +kernel
theorem dX11_layHeights_76 : decode cX11_layHeights 76 = .ok (.iload_n 2, 1) := by decide +kernel
theorem dX11_layHeights_77 : decode cX11_layHeights 77 = .ok (.invokevirtual 351, 3) := by decide +kernel
theorem dX11_layHeights_80 : decode cX11_layHeights 80 = .ok (.iastore, 1) := by decide +kernel
theorem dX11_layHeights_81 : decode cX11_layHeights 81 = .ok (.iload_n 1, 1) := by decide +kernel
theorem dX11_layHeights_82 : decode cX11_layHeights 82 = .ok (.ifCond .ne 12, 3) := by decide +kernel
theorem dX11_layHeights_85 : decode cX11_layHeights 85 = .ok (.aload_n 0, 1) := by decide +kernel
theorem dX11_layHeights_86 : decode cX11_layHeights 86 = .ok (.getfield 90, 3) := by decide +kernel
theorem dX11_layHeights_89 : decode cX11_layHeights 89 = .ok (.iload_n 2, 1) := by decide +kernel
theorem dX11_layHeights_90 : decode cX11_layHeights 90 = .ok (.iaload, 1) := by decide +kernel
theorem dX11_layHeights_91 : decode cX11_layHeights 91 = .ok (.ifCond .lt 7, 3) := by decide +kernel
theorem dX11_layHeights_94 : decode cX11_layHeights 94 = .ok (.iconst 1, 1) := by decide +kernel
theorem dX11_layHeights_95 : decode cX11_layHeights 95 = .ok (.goto 4, 3) := by decide +kernel
theorem dX11_layHeights_98 : decode cX11_layHeights 98 = .ok (.iconst 0, 1) := by decide +kernel
theorem dX11_layHeights_99 : decode cX11_layHeights 99 = .ok (.istore_n 1, 1) := by decide +kernel
theorem dX11_layHeights_100 : decode cX11_layHeights 100 = .ok (.iinc 2 1, 3) := by decide +kernel
theorem dX11_layHeights_103 : decode cX11_layHeights 103 = .ok (.goto (-68), 3) := by decide +kernel
theorem dX11_layHeights_106 : decode cX11_layHeights 106 = .ok (.goto (-79), 3) := by decide +kernel
theorem dX11_layHeights_109 : decode cX11_layHeights 109 = .ok (.return_, 1) := by decide +kernel
theorem dX11_heightBy_0 : decode cX11_heightBy 0 = .ok (.iconst 0, 1) := by decide +kernel
theorem dX11_heightBy_1 : decode cX11_heightBy 1 = .ok (.istore_n 2, 1) := by decide +kernel
theorem dX11_heightBy_2 : decode cX11_heightBy 2 = .ok (.iconst 0, 1) := by decide +kernel
theorem dX11_heightBy_3 : decode cX11_heightBy 3 = .ok (.istore_n 3, 1) := by decide +kernel
theorem dX11_heightBy_4 : decode cX11_heightBy 4 = .ok (.iload_n 3, 1) := by decide +kernel
theorem dX11_heightBy_5 : decode cX11_heightBy 5 = .ok (.aload_n 0, 1) := by decide +kernel
theorem dX11_heightBy_6 : decode cX11_heightBy 6 = .ok (.invokevirtual 339, 3) := by decide +kernel
theorem dX11_heightBy_9 : decode cX11_heightBy 9 = .ok (.if_icmp .ge 51, 3) := by decide +kernel
theorem dX11_heightBy_12 : decode cX11_heightBy 12 = .ok (.aload_n 0, 1) := by decide +kernel
theorem dX11_heightBy_13 : decode cX11_heightBy 13 = .ok (.iload_n 1, 1) := by decide +kernel
theorem dX11_heightBy_14 : decode cX11_heightBy 14 = .ok (.iload_n 3, 1) := by decide +kernel
theorem dX11_heightBy_15 : decode cX11_heightBy 15 = .ok (.invokevirtual 354, 3) := by decide +kernel
theorem dX11_heightBy_18 : decode cX11_heightBy 18 = .ok (.istore 4, 2) := by decide +kernel
theorem dX11_heightBy_20 : decode cX11_heightBy 20 = .ok (.iload 4, 2) := by decide +kernel
theorem dX11_heightBy_22 : decode cX11_heightBy 22 = .ok (.ifCond .ge 6, 3) := by decide +kernel
theorem dX11_heightBy_25 : decode cX11_heightBy 25 = .ok (.goto 29, 3) := by decide +kernel
theorem dX11_heightBy_28 : decode cX11_heightBy 28 = .ok (.aload_n 0, 1) := by decide +kernel
theorem dX11_heightBy_29 : decode cX11_heightBy 29 = .ok (.getfield 90, 3) := by decide +kernel
theorem dX11_heightBy_32 : decode cX11_heightBy 32 = .ok (.iload 4, 2) := by decide +kernel
theorem dX11_heightBy_34 : decode cX11_heightBy 34 = .ok (.iaload, 1) := by decide +kernel
theorem dX11_heightBy_35 : decode cX11_heightBy 35 = .ok (.ifCond .ge 5, 3) := by decide +kernel
theorem dX11_heightBy_38 : decode cX11_heightBy 38 = .ok (.iconst (-1), 1) := by decide +kernel
theorem dX11_heightBy_39 : decode cX11_heightBy 39 = .ok (.ireturn, 1) := by decide +kernel
theorem dX11_heightBy_40 : decode cX11_heightBy 40 = .ok (.iload_n 2, 1) := by decide +kernel
theorem dX11_heightBy_41 : decode cX11_heightBy 41 = .ok (.aload_n 0, 1) := by decide +kernel
theorem dX11_heightBy_42 : decode cX11_heightBy 42 = .ok (.getfield 90, 3) := by decide +kernel
theorem dX11_heightBy_45 : decode cX11_heightBy 45 = .ok (.iload 4, 2) := by decide +kernel
theorem dX11_heightBy_47 : decode cX11_heightBy 47 = .ok (.iaload, 1) := by decide +kernel
theorem dX11_heightBy_48 : decode cX11_heightBy 48 = .ok (.iconst 1, 1) := by decide +kernel
theorem dX11_heightBy_49 : decode cX11_heightBy 49 = .ok (.iadd, 1) := by decide +kernel
theorem dX11_heightBy_50 : decode cX11_heightBy 50 = .ok (.invokestatic 345, 3) := by decide +kernel
theorem dX11_heightBy_53 : decode cX11_heightBy 53 = .ok (.istore_n 2, 1) := by decide +kernel
theorem dX11_heightBy_54 : decode cX11_heightBy 54 = .ok (.iinc 3 1, 3) := by decide +kernel
theorem dX11_heightBy_57 : decode cX11_heightBy 57 = .ok (.goto (-53), 3) := by decide +kernel
theorem dX11_heightBy_60 : decode cX11_heightBy 60 = .ok (.iload_n 2, 1) := by decide +kernel
theorem dX11_heightBy_61 : decode cX11_heightBy 61 = .ok (.ireturn, 1) := by decide +kernel
theorem dX11_greatestDepth_0 : decode cX11_greatestDepth 0 = .ok (.iconst (-1), 1) := by decide +kernel
theorem dX11_greatestDepth_1 : decode cX11_greatestDepth 1 = .ok (.istore_n 1, 1) := by decide +kernel
theorem dX11_greatestDepth_2 : decode cX11_greatestDepth 2 = .ok (.iconst 0, 1) := by decide +kernel
theorem dX11_greatestDepth_3 : decode cX11_greatestDepth 3 = .ok (.istore_n 2, 1) := by decide +kernel
theorem dX11_greatestDepth_4 : decode cX11_greatestDepth 4 = .ok (.iload_n 2, 1) := by decide +kernel
theorem dX11_greatestDepth_5 : decode cX11_greatestDepth 5 = .ok (.bipush 100, 2) := by decide +kernel
theorem dX11_greatestDepth_7 : decode cX11_greatestDepth 7 = .ok (.if_icmp .ge 28, 3) := by decide +kernel
theorem dX11_greatestDepth_10 : decode cX11_greatestDepth 10 = .ok (.aload_n 0, 1) := by decide +kernel
theorem dX11_greatestDepth_11 : decode cX11_greatestDepth 11 = .ok (.iload_n 2, 1) := by decide +kernel
theorem dX11_greatestDepth_12 : decode cX11_greatestDepth 12 = .ok (.invokevirtual 333, 3) := by decide +kernel
theorem dX11_greatestDepth_15 : decode cX11_greatestDepth 15 = .ok (.ifCond .eq 14, 3) := by decide +kernel
theorem dX11_greatestDepth_18 : decode cX11_greatestDepth 18 = .ok (.iload_n 1, 1) := by decide +kernel
theorem dX11_greatestDepth_19 : decode cX11_greatestDepth 19 = .ok (.aload_n 0, 1) := by decide +kernel
theorem dX11_greatestDepth_20 : decode cX11_greatestDepth 20 = .ok (.getfield 87, 3) := by decide +kernel
theorem dX11_greatestDepth_23 : decode cX11_greatestDepth 23 = .ok (.iload_n 2, 1) := by decide +kernel
theorem dX11_greatestDepth_24 : decode cX11_greatestDepth 24 = .ok (.iaload, 1) := by decide +kernel
theorem dX11_greatestDepth_25 : decode cX11_greatestDepth 25 = .ok (.invokestatic 345, 3) := by decide +kernel
theorem dX11_greatestDepth_28 : decode cX11_greatestDepth 28 = .ok (.istore_n 1, 1) := by decide +kernel
theorem dX11_greatestDepth_29 : decode cX11_greatestDepth 29 = .ok (.iinc 2 1, 3) := by decide +kernel
theorem dX11_greatestDepth_32 : decode cX11_greatestDepth 32 = .ok (.goto (-28), 3) := by decide +kernel
theorem dX11_greatestDepth_35 : decode cX11_greatestDepth 35 = .ok (.iload_n 1, 1) := by decide +kernel
theorem dX11_greatestDepth_36 : decode cX11_greatestDepth 36 = .ok (.ireturn, 1) := by decide +kernel
theorem dX11_ordered_0 : decode cX11_ordered 0 = .ok (.aload_n 0, 1) := by decide +kernel
theorem dX11_ordered_1 : decode cX11_ordered 1 = .ok (.iload_n 1, 1) := by decide +kernel
theorem dX11_ordered_2 : decode cX11_ordered 2 = .ok (.iload_n 2, 1) := by decide +kernel
theorem dX11_ordered_3 : decode cX11_ordered 3 = .ok (.invokevirtual 324, 3) := by decide +kernel
theorem dX11_ordered_6 : decode cX11_ordered 6 = .ok (.ifCond .ne 5, 3) := by decide +kernel
theorem dX11_ordered_9 : decode cX11_ordered 9 = .ok (.iconst (-1), 1) := by decide +kernel
theorem dX11_ordered_10 : decode cX11_ordered 10 = .ok (.ireturn, 1) := by decide +kernel
theorem dX11_ordered_11 : decode cX11_ordered 11 = .ok (.aload_n 0, 1) := by decide +kernel
theorem dX11_ordered_12 : decode cX11_ordered 12 = .ok (.invokevirtual 348, 3) := by decide +kernel
theorem dX11_ordered_15 : decode cX11_ordered 15 = .ok (.aload_n 0, 1) := by decide +kernel
theorem dX11_ordered_16 : decode cX11_ordered 16 = .ok (.getfield 87, 3) := by decide +kernel
theorem dX11_ordered_19 : decode cX11_ordered 19 = .ok (.bipush 10, 2) := by decide +kernel
theorem dX11_ordered_21 : decode cX11_ordered 21 = .ok (.iload_n 1, 1) := by decide +kernel
theorem dX11_ordered_22 : decode cX11_ordered 22 = .ok (.imul, 1) := by decide +kernel
theorem dX11_ordered_23 : decode cX11_ordered 23 = .ok (.iload_n 2, 1) := by decide +kernel
theorem dX11_ordered_24 : decode cX11_ordered 24 = .ok (.iadd, 1) := by decide +kernel
theorem dX11_ordered_25 : decode cX11_ordered 25 = .ok (.iaload, 1) := by decide +kernel
theorem dX11_ordered_26 : decode cX11_ordered 26 = .ok (.ifCond .lt 7, 3) := by decide +kernel
theorem dX11_ordered_29 : decode cX11_ordered 29 = .ok (.iconst 1, 1) := by decide +kernel
theorem dX11_ordered_30 : decode cX11_ordered 30 = .ok (.goto 4, 3) := by decide +kernel
theorem dX11_ordered_33 : decode cX11_ordered 33 = .ok (.iconst 0, 1) := by decide +kernel
theorem dX11_ordered_34 : decode cX11_ordered 34 = .ok (.ireturn, 1) := by decide +kernel
theorem dX11_depth_0 : decode cX11_depth 0 = .ok (.aload_n 0, 1) := by decide +kernel
theorem dX11_depth_1 : decode cX11_depth 1 = .ok (.iload_n 1, 1) := by decide +kernel
theorem dX11_depth_2 : decode cX11_depth 2 = .ok (.iload_n 2, 1) := by decide +kernel
theorem dX11_depth_3 : decode cX11_depth 3 = .ok (.invokevirtual 324, 3) := by decide +kernel
theorem dX11_depth_6 : decode cX11_depth 6 = .ok (.ifCond .ne 5, 3) := by decide +kernel
theorem dX11_depth_9 : decode cX11_depth 9 = .ok (.iconst (-1), 1) := by decide +kernel
theorem dX11_depth_10 : decode cX11_depth 10 = .ok (.ireturn, 1) := by decide +kernel
theorem dX11_depth_11 : decode cX11_depth 11 = .ok (.aload_n 0, 1) := by decide +kernel
theorem dX11_depth_12 : decode cX11_depth 12 = .ok (.invokevirtual 348, 3) := by decide +kernel
theorem dX11_depth_15 : decode cX11_depth 15 = .ok (.aload_n 0, 1) := by decide +kernel
theorem dX11_depth_16 : decode cX11_depth 16 = .ok (.getfield 87, 3) := by decide +kernel
theorem dX11_depth_19 : decode cX11_depth 19 = .ok (.bipush 10, 2) := by decide +kernel
theorem dX11_depth_21 : decode cX11_depth 21 = .ok (.iload_n 1, 1) := by decide +kernel
theorem dX11_depth_22 : decode cX11_depth 22 = .ok (.imul, 1) := by decide +kernel
theorem dX11_depth_23 : decode cX11_depth 23 = .ok (.iload_n 2, 1) := by decide +kernel
theorem dX11_depth_24 : decode cX11_depth 24 = .ok (.iadd, 1) := by decide +kernel
theorem dX11_depth_25 : decode cX11_depth 25 = .ok (.iaload, 1) := by decide +kernel
theorem dX11_depth_26 : decode cX11_depth 26 = .ok (.ireturn, 1) := by decide +kernel
theorem dX11_height_0 : decode cX11_height 0 = .ok (.aload_n 0, 1) := by decide +kernel
theorem dX11_height_1 : decode cX11_height 1 = .ok (.iload_n 1, 1) := by decide +kernel
theorem dX11_height_2 : decode cX11_height 2 = .ok (.iload_n 2, 1) := by decide +kernel
theorem dX11_height_3 : decode cX11_height 3 = .ok (.invokevirtual 324, 3) := by decide +kernel
theorem dX11_height_6 : decode cX11_height 6 = .ok (.ifCond .ne 5, 3) := by decide +kernel
theorem dX11_height_9 : decode cX11_height 9 = .ok (.iconst (-1), 1) := by decide +kernel
theorem dX11_height_10 : decode cX11_height 10 = .ok (.ireturn, 1) := by decide +kernel
theorem dX11_height_11 : decode cX11_height 11 = .ok (.aload_n 0, 1) := by decide +kernel
theorem dX11_height_12 : decode cX11_height 12 = .ok (.invokevirtual 357, 3) := by decide +kernel
theorem dX11_height_15 : decode cX11_height 15 = .ok (.aload_n 0, 1) := by decide +kernel
theorem dX11_height_16 : decode cX11_height 16 = .ok (.getfield 90, 3) := by decide +kernel
theorem dX11_height_19 : decode cX11_height 19 = .ok (.bipush 10, 2) := by decide +kernel
theorem dX11_height_21 : decode cX11_height 21 = .ok (.iload_n 1, 1) := by decide +kernel
theorem dX11_height_22 : decode cX11_height 22 = .ok (.imul, 1) := by decide +kernel
theorem dX11_height_23 : decode cX11_height 23 = .ok (.iload_n 2, 1) := by decide +kernel
theorem dX11_height_24 : decode cX11_height 24 = .ok (.iadd, 1) := by decide +kernel
theorem dX11_height_25 : decode cX11_height 25 = .ok (.iaload, 1) := by decide +kernel
theorem dX11_height_26 : decode cX11_height 26 = .ok (.ireturn, 1) := by decide +kernel
theorem dX11_critical_0 : decode cX11_critical 0 = .ok (.aload_n 0, 1) := by decide +kernel
theorem dX11_critical_1 : decode cX11_critical 1 = .ok (.invokevirtual 357, 3) := by decide +kernel
theorem dX11_critical_4 : decode cX11_critical 4 = .ok (.iconst 0, 1) := by decide +kernel
theorem dX11_critical_5 : decode cX11_critical 5 = .ok (.istore_n 1, 1) := by decide +kernel
theorem dX11_critical_6 : decode cX11_critical 6 = .ok (.iconst 0, 1) := by decide +kernel
theorem dX11_critical_7 : decode cX11_critical 7 = .ok (.istore_n 2, 1) := by decide +kernel
theorem dX11_critical_8 : decode cX11_critical 8 = .ok (.iload_n 2, 1) := by decide +kernel
theorem dX11_critical_9 : decode cX11_critical 9 = .ok (.bipush 100, 2) := by decide +kernel
theorem dX11_critical_11 : decode cX11_critical 11 = .ok (.if_icmp .ge 54, 3) := by decide +kernel
theorem dX11_critical_14 : decode cX11_critical 14 = .ok (.iload_n 1, 1) := by decide +kernel
theorem dX11_critical_15 : decode cX11_critical 15 = .ok (.aload_n 0, 1) := by decide +kernel
theorem dX11_critical_16 : decode cX11_critical 16 = .ok (.iload_n 2, 1) := by decide +kernel
theorem dX11_critical_17 : decode cX11_critical 17 = .ok (.invokevirtual 333, 3) := by decide +kernel
theorem dX11_critical_20 : decode cX11_critical 20 = .ok (.ifCond .eq 36, 3) := by decide +kernel
theorem dX11_critical_23 : decode cX11_critical 23 = .ok (.aload_n 0, 1) := by decide +kernel
theorem dX11_critical_24 : decode cX11_critical 24 = .ok (.getfield 90, 3) := by decide +kernel
theorem dX11_critical_27 : decode cX11_critical 27 = .ok (.iload_n 2, 1) := by decide +kernel
theorem dX11_critical_28 : decode cX11_critical 28 = .ok (.iaload, 1) := by decide +kernel
theorem dX11_critical_29 : decode cX11_critical 29 = .ok (.ifCond .lt 27, 3) := by decide +kernel
theorem dX11_critical_32 : decode cX11_critical 32 = .ok (.aload_n 0, 1) := by decide +kernel
theorem dX11_critical_33 : decode cX11_critical 33 = .ok (.getfield 87, 3) := by decide +kernel
theorem dX11_critical_36 : decode cX11_critical 36 = .ok (.iload_n 2, 1) := by decide +kernel
theorem dX11_critical_37 : decode cX11_critical 37 = .ok (.iaload, 1) := by decide +kernel
theorem dX11_critical_38 : decode cX11_critical 38 = .ok (.aload_n 0, 1) := by decide +kernel
theorem dX11_critical_39 : decode cX11_critical 39 = .ok (.getfield 90, 3) := by decide +kernel
theorem dX11_critical_42 : decode cX11_critical 42 = .ok (.iload_n 2, 1) := by decide +kernel
theorem dX11_critical_43 : decode cX11_critical 43 = .ok (.iaload, 1) := by decide +kernel
theorem dX11_critical_44 : decode cX11_critical 44 = .ok (.iadd, 1) := by decide +kernel
theorem dX11_critical_45 : decode cX11_critical 45 = .ok (.aload_n 0, 1) := by decide +kernel
theorem dX11_critical_46 : decode cX11_critical 46 = .ok (.invokevirtual 360, 3) := by decide +kernel
theorem dX11_critical_49 : decode cX11_critical 49 = .ok (.if_icmp .ne 7, 3) := by decide +kernel
theorem dX11_critical_52 : decode cX11_critical 52 = .ok (.iconst 1, 1) := by decide +kernel
theorem dX11_critical_53 : decode cX11_critical 53 = .ok (.goto 4, 3) := by decide +kernel
theorem dX11_critical_56 : decode cX11_critical 56 = .ok (.iconst 0, 1) := by decide +kernel
theorem dX11_critical_57 : decode cX11_critical 57 = .ok (.iadd, 1) := by decide +kernel
theorem dX11_critical_58 : decode cX11_critical 58 = .ok (.istore_n 1, 1) := by decide +kernel
theorem dX11_critical_59 : decode cX11_critical 59 = .ok (.iinc 2 1, 3) := by decide +kernel
theorem dX11_critical_62 : decode cX11_critical 62 = .ok (.goto (-54), 3) := by decide +kernel
theorem dX11_critical_65 : decode cX11_critical 65 = .ok (.iload_n 1, 1) := by decide +kernel
theorem dX11_critical_66 : decode cX11_critical 66 = .ok (.ireturn, 1) := by decide +kernel
theorem dX11_near_0 : decode cX11_near 0 = .ok (.aload_n 0, 1) := by decide +kernel
theorem dX11_near_1 : decode cX11_near 1 = .ok (.iload_n 1, 1) := by decide +kernel
theorem dX11_near_2 : decode cX11_near 2 = .ok (.iload_n 2, 1) := by decide +kernel
theorem dX11_near_3 : decode cX11_near 3 = .ok (.invokevirtual 324, 3) := by decide +kernel
theorem dX11_near_6 : decode cX11_near 6 = .ok (.ifCond .eq 12, 3) := by decide +kernel
theorem dX11_near_9 : decode cX11_near 9 = .ok (.iload_n 3, 1) := by decide +kernel
theorem dX11_near_10 : decode cX11_near 10 = .ok (.iconst 0, 1) := by decide +kernel
theorem dX11_near_11 : decode cX11_near 11 = .ok (.iconst 1, 1) := by decide +kernel
theorem dX11_near_12 : decode cX11_near 12 = .ok (.invokestatic 221, 3) := by decide +kernel
theorem dX11_near_15 : decode cX11_near 15 = .ok (.ifCond .ne 5, 3) := by decide +kernel
theorem dX11_near_18 : decode cX11_near 18 = .ok (.iconst (-1), 1) := by decide +kernel
theorem dX11_near_19 : decode cX11_near 19 = .ok (.ireturn, 1) := by decide +kernel
theorem dX11_near_20 : decode cX11_near 20 = .ok (.iconst 0, 1) := by decide +kernel
theorem dX11_near_21 : decode cX11_near 21 = .ok (.istore 4, 2) := by decide +kernel
theorem dX11_near_23 : decode cX11_near 23 = .ok (.iconst 0, 1) := by decide +kernel
theorem dX11_near_24 : decode cX11_near 24 = .ok (.istore 5, 2) := by decide +kernel
theorem dX11_near_26 : decode cX11_near 26 = .ok (.iload 5, 2) := by decide +kernel
theorem dX11_near_28 : decode cX11_near 28 = .ok (.aload_n 0, 1) := by decide +kernel
theorem dX11_near_29 : decode cX11_near 29 = .ok (.invokevirtual 339, 3) := by decide +kernel
theorem dX11_near_32 : decode cX11_near 32 = .ok (.if_icmp .ge 53, 3) := by decide +kernel
theorem dX11_near_35 : decode cX11_near 35 = .ok (.iload 4, 2) := by decide +kernel
theorem dX11_near_37 : decode cX11_near 37 = .ok (.iload_n 3, 1) := by decide +kernel
theorem dX11_near_38 : decode cX11_near 38 = .ok (.ifCond .ne 18, 3) := by decide +kernel
theorem dX11_near_41 : decode cX11_near 41 = .ok (.aload_n 0, 1) := by decide +kernel
theorem dX11_near_42 : decode cX11_near 42 = .ok (.bipush 10, 2) := by decide +kernel
theorem dX11_near_44 : decode cX11_near 44 = .ok (.iload_n 1, 1) := by decide +kernel
theorem dX11_near_45 : decode cX11_near 45 = .ok (.imul, 1) := by decide +kernel
theorem dX11_near_46 : decode cX11_near 46 = .ok (.iload_n 2, 1) := by decide +kernel
theorem dX11_near_47 : decode cX11_near 47 = .ok (.iadd, 1) := by decide +kernel
theorem dX11_near_48 : decode cX11_near 48 = .ok (.iload 5, 2) := by decide +kernel
theorem dX11_near_50 : decode cX11_near 50 = .ok (.invokevirtual 342, 3) := by decide +kernel
theorem dX11_near_53 : decode cX11_near 53 = .ok (.goto 15, 3) := by decide +kernel
theorem dX11_near_56 : decode cX11_near 56 = .ok (.aload_n 0, 1) := by decide +kernel
theorem dX11_near_57 : decode cX11_near 57 = .ok (.bipush 10, 2) := by decide +kernel
theorem dX11_near_59 : decode cX11_near 59 = .ok (.iload_n 1, 1) := by decide +kernel
theorem dX11_near_60 : decode cX11_near 60 = .ok (.imul, 1) := by decide +kernel
theorem dX11_near_61 : decode cX11_near 61 = .ok (.iload_n 2, 1) := by decide +kernel
theorem dX11_near_62 : decode cX11_near 62 = .ok (.iadd, 1) := by decide +kernel
theorem dX11_near_63 : decode cX11_near 63 = .ok (.iload 5, 2) := by decide +kernel
theorem dX11_near_65 : decode cX11_near 65 = .ok (.invokevirtual 354, 3) := by decide +kernel
theorem dX11_near_68 : decode cX11_near 68 = .ok (.ifCond .lt 7, 3) := by decide +kernel
theorem dX11_near_71 : decode cX11_near 71 = .ok (.iconst 1, 1) := by decide +kernel
theorem dX11_near_72 : decode cX11_near 72 = .ok (.goto 4, 3) := by decide +kernel
theorem dX11_near_75 : decode cX11_near 75 = .ok (.iconst 0, 1) := by decide +kernel
theorem dX11_near_76 : decode cX11_near 76 = .ok (.iadd, 1) := by decide +kernel
theorem dX11_near_77 : decode cX11_near 77 = .ok (.istore 4, 2) := by decide +kernel
theorem dX11_near_79 : decode cX11_near 79 = .ok (.iinc 5 1, 3) := by decide +kernel
theorem dX11_near_82 : decode cX11_near 82 = .ok (.goto (-56), 3) := by decide +kernel
theorem dX11_near_85 : decode cX11_near 85 = .ok (.iload 4, 2) := by decide +kernel
theorem dX11_near_87 : decode cX11_near 87 = .ok (.ireturn, 1) := by decide +kernel
theorem dX11_hangs_0 : decode cX11_hangs 0 = .ok (.aload_n 0, 1) := by decide +kernel
theorem dX11_hangs_1 : decode cX11_hangs 1 = .ok (.iload_n 1, 1) := by decide +kernel
theorem dX11_hangs_2 : decode cX11_hangs 2 = .ok (.iload_n 2, 1) := by decide +kernel
theorem dX11_hangs_3 : decode cX11_hangs 3 = .ok (.invokevirtual 324, 3) := by decide +kernel
theorem dX11_hangs_6 : decode cX11_hangs 6 = .ok (.ifCond .ne 5, 3) := by decide +kernel
theorem dX11_hangs_9 : decode cX11_hangs 9 = .ok (.iconst (-1), 1) := by decide +kernel
theorem dX11_hangs_10 : decode cX11_hangs 10 = .ok (.ireturn, 1) := by decide +kernel
theorem dX11_hangs_11 : decode cX11_hangs 11 = .ok (.iconst 0, 1) := by decide +kernel
theorem dX11_hangs_12 : decode cX11_hangs 12 = .ok (.istore_n 3, 1) := by decide +kernel
theorem dX11_hangs_13 : decode cX11_hangs 13 = .ok (.iload_n 3, 1) := by decide +kernel
theorem dX11_hangs_14 : decode cX11_hangs 14 = .ok (.bipush 100, 2) := by decide +kernel
theorem dX11_hangs_16 : decode cX11_hangs 16 = .ok (.if_icmp .ge 16, 3) := by decide +kernel
theorem dX11_hangs_19 : decode cX11_hangs 19 = .ok (.aload_n 0, 1) := by decide +kernel
theorem dX11_hangs_20 : decode cX11_hangs 20 = .ok (.getfield 93, 3) := by decide +kernel
theorem dX11_hangs_23 : decode cX11_hangs 23 = .ok (.iload_n 3, 1) := by decide +kernel
theorem dX11_hangs_24 : decode cX11_hangs 24 = .ok (.iconst 0, 1) := by decide +kernel
theorem dX11_hangs_25 : decode cX11_hangs 25 = .ok (.bastore, 1) := by decide +kernel
theorem dX11_hangs_26 : decode cX11_hangs 26 = .ok (.iinc 3 1, 3) := by decide +kernel
theorem dX11_hangs_29 : decode cX11_hangs 29 = .ok (.goto (-16), 3) := by decide +kernel
theorem dX11_hangs_32 : decode cX11_hangs 32 = .ok (.aload_n 0, 1) := by decide +kernel
theorem dX11_hangs_33 : decode cX11_hangs 33 = .ok (.bipush 10, 2) := by decide +kernel
theorem dX11_hangs_35 : decode cX11_hangs 35 = .ok (.iload_n 1, 1) := by decide +kernel
theorem dX11_hangs_36 : decode cX11_hangs 36 = .ok (.imul, 1) := by decide +kernel
theorem dX11_hangs_37 : decode cX11_hangs 37 = .ok (.iload_n 2, 1) := by decide +kernel
theorem dX11_hangs_38 : decode cX11_hangs 38 = .ok (.iadd, 1) := by decide +kernel
theorem dX11_hangs_39 : decode cX11_hangs 39 = .ok (.iconst 0, 1) := by decide +kernel
theorem dX11_hangs_40 : decode cX11_hangs 40 = .ok (.invokevirtual 363, 3) := by decide +kernel
theorem dX11_hangs_43 : decode cX11_hangs 43 = .ok (.istore_n 3, 1) := by decide +kernel
theorem dX11_hangs_44 : decode cX11_hangs 44 = .ok (.iconst 0, 1) := by decide +kernel
theorem dX11_hangs_45 : decode cX11_hangs 45 = .ok (.istore 4, 2) := by decide +kernel
theorem dX11_hangs_47 : decode cX11_hangs 47 = .ok (.iload 4, 2) := by decide +kernel
theorem dX11_hangs_49 : decode cX11_hangs 49 = .ok (.iload_n 3, 1) := by decide +kernel
theorem dX11_hangs_50 : decode cX11_hangs 50 = .ok (.if_icmp .ge 22, 3) := by decide +kernel
theorem dX11_hangs_53 : decode cX11_hangs 53 = .ok (.aload_n 0, 1) := by decide +kernel
theorem dX11_hangs_54 : decode cX11_hangs 54 = .ok (.aload_n 0, 1) := by decide +kernel
theorem dX11_hangs_55 : decode cX11_hangs 55 = .ok (.getfield 97, 3) := by decide +kernel
theorem dX11_hangs_58 : decode cX11_hangs 58 = .ok (.iload 4, 2) := by decide +kernel
theorem dX11_hangs_60 : decode cX11_hangs 60 = .ok (.iaload, 1) := by decide +kernel
theorem dX11_hangs_61 : decode cX11_hangs 61 = .ok (.iload_n 3, 1) := by decide +kernel
theorem dX11_hangs_62 : decode cX11_hangs 62 = .ok (.invokevirtual 363, 3) := by decide +kernel
theorem dX11_hangs_65 : decode cX11_hangs 65 = .ok (.istore_n 3, 1) := by decide +kernel
theorem dX11_hangs_66 : decode cX11_hangs 66 = .ok (.iinc 4 1, 3) := by decide +kernel
theorem dX11_hangs_69 : decode cX11_hangs 69 = .ok (.goto (-22), 3) := by decide +kernel
theorem dX11_hangs_72 : decode cX11_hangs 72 = .ok (.iload_n 3, 1) := by decide +kernel
theorem dX11_hangs_73 : decode cX11_hangs 73 = .ok (.ireturn, 1) := by decide +kernel
theorem dX11_meetReaders_0 : decode cX11_meetReaders 0 = .ok (.iload_n 2, 1) := by decide +kernel
theorem dX11_meetReaders_1 : decode cX11_meetReaders 1 = .ok (.istore_n 3, 1) := by decide +kernel
theorem dX11_meetReaders_2 : decode cX11_meetReaders 2 = .ok (.iconst 0, 1) := by decide +kernel
theorem dX11_meetReaders_3 : decode cX11_meetReaders 3 = .ok (.istore 4, 2) := by decide +kernel
theorem dX11_meetReaders_5 : decode cX11_meetReaders 5 = .ok (.iload 4, 2) := by decide +kernel
theorem dX11_meetReaders_7 : decode cX11_meetReaders 7 = .ok (.aload_n 0, 1) := by decide +kernel
theorem dX11_meetReaders_8 : decode cX11_meetReaders 8 = .ok (.invokevirtual 339, 3) := by decide +kernel
theorem dX11_meetReaders_11 : decode cX11_meetReaders 11 = .ok (.if_icmp .ge 55, 3) := by decide +kernel
theorem dX11_meetReaders_14 : decode cX11_meetReaders 14 = .ok (.aload_n 0, 1) := by decide +kernel
theorem dX11_meetReaders_15 : decode cX11_meetReaders 15 = .ok (.iload_n 1, 1) := by decide +kernel
theorem dX11_meetReaders_16 : decode cX11_meetReaders 16 = .ok (.iload 4, 2) := by decide +kernel
theorem dX11_meetReaders_18 : decode cX11_meetReaders 18 = .ok (.invokevirtual 354, 3) := by decide +kernel
theorem dX11_meetReaders_21 : decode cX11_meetReaders 21 = .ok (.istore 5, 2) := by decide +kernel
theorem dX11_meetReaders_23 : decode cX11_meetReaders 23 = .ok (.iload 5, 2) := by decide +kernel
theorem dX11_meetReaders_25 : decode cX11_meetReaders 25 = .ok (.ifCond .lt 35, 3) := by decide +kernel
theorem dX11_meetReaders_28 : decode cX11_meetReaders 28 = .ok (.aload_n 0, 1) := by decide +kernel
theorem dX11_meetReaders_29 : decode cX11_meetReaders 29 = .ok (.getfield 93, 3) := by decide +kernel
theorem dX11_meetReaders_32 : decode cX11_meetReaders 32 = .ok (.iload 5, 2) := by decide +kernel
theorem dX11_meetReaders_34 : decode cX11_meetReaders 34 = .ok (.baload, 1) := by decide +kernel
theorem dX11_meetReaders_35 : decode cX11_meetReaders 35 = .ok (.ifCond .eq 6, 3) := by decide +kernel
theorem dX11_meetReaders_38 : decode cX11_meetReaders 38 = .ok (.goto 22, 3) := by decide +kernel
theorem dX11_meetReaders_41 : decode cX11_meetReaders 41 = .ok (.aload_n 0, 1) := by decide +kernel
theorem dX11_meetReaders_42 : decode cX11_meetReaders 42 = .ok (.getfield 93, 3) := by decide +kernel
theorem dX11_meetReaders_45 : decode cX11_meetReaders 45 = .ok (.iload 5, 2) := by decide +kernel
theorem dX11_meetReaders_47 : decode cX11_meetReaders 47 = .ok (.iconst 1, 1) := by decide +kernel
theorem dX11_meetReaders_48 : decode cX11_meetReaders 48 = .ok (.bastore, 1) := by decide +kernel
theorem dX11_meetReaders_49 : decode cX11_meetReaders 49 = .ok (.aload_n 0, 1) := by decide +kernel
theorem dX11_meetReaders_50 : decode cX11_meetReaders 50 = .ok (.getfield 97, 3) := by decide +kernel
theorem dX11_meetReaders_53 : decode cX11_meetReaders 53 = .ok (.iload_n 3, 1) := by decide +kernel
theorem dX11_meetReaders_54 : decode cX11_meetReaders 54 = .ok (.iload 5, 2) := by decide +kernel
theorem dX11_meetReaders_56 : decode cX11_meetReaders 56 = .ok (.iastore, 1) := by decide +kernel
theorem dX11_meetReaders_57 : decode cX11_meetReaders 57 = .ok (.iinc 3 1, 3) := by decide +kernel
theorem dX11_meetReaders_60 : decode cX11_meetReaders 60 = .ok (.iinc 4 1, 3) := by decide +kernel
theorem dX11_meetReaders_63 : decode cX11_meetReaders 63 = .ok (.goto (-58), 3) := by decide +kernel
theorem dX11_meetReaders_66 : decode cX11_meetReaders 66 = .ok (.iload_n 3, 1) := by decide +kernel
theorem dX11_meetReaders_67 : decode cX11_meetReaders 67 = .ok (.ireturn, 1) := by decide +kernel
theorem dX11_made_0 : decode cX11_made 0 = .ok (.iload_n 0, 1) := by decide +kernel
theorem dX11_made_1 : decode cX11_made 1 = .ok (.tableswitch 51 1200 1203 #[31, 37, 43, 47], 31) := by decide +kernel
theorem dX11_made_32 : decode cX11_made 32 = .ok (.iload_n 1, 1) := by decide +kernel
theorem dX11_made_33 : decode cX11_made 33 = .ok (.iload_n 2, 1) := by decide +kernel
theorem dX11_made_34 : decode cX11_made 34 = .ok (.invokestatic 366, 3) := by decide +kernel
theorem dX11_made_37 : decode cX11_made 37 = .ok (.ireturn, 1) := by decide +kernel
theorem dX11_made_38 : decode cX11_made 38 = .ok (.iload_n 1, 1) := by decide +kernel
theorem dX11_made_39 : decode cX11_made 39 = .ok (.iload_n 2, 1) := by decide +kernel
theorem dX11_made_40 : decode cX11_made 40 = .ok (.invokestatic 345, 3) := by decide +kernel
theorem dX11_made_43 : decode cX11_made 43 = .ok (.ireturn, 1) := by decide +kernel
theorem dX11_made_44 : decode cX11_made 44 = .ok (.iload_n 1, 1) := by decide +kernel
theorem dX11_made_45 : decode cX11_made 45 = .ok (.iload_n 2, 1) := by decide +kernel
theorem dX11_made_46 : decode cX11_made 46 = .ok (.iadd, 1) := by decide +kernel
theorem dX11_made_47 : decode cX11_made 47 = .ok (.ireturn, 1) := by decide +kernel
theorem dX11_made_48 : decode cX11_made 48 = .ok (.iload_n 1, 1) := by decide +kernel
theorem dX11_made_49 : decode cX11_made 49 = .ok (.iload_n 2, 1) := by decide +kernel
theorem dX11_made_50 : decode cX11_made 50 = .ok (.isub, 1) := by decide +kernel
theorem dX11_made_51 : decode cX11_made 51 = .ok (.ireturn, 1) := by decide +kernel
theorem dX11_made_52 : decode cX11_made 52 = .ok (.iload_n 1, 1) := by decide +kernel
theorem dX11_made_53 : decode cX11_made 53 = .ok (.iload_n 2, 1) := by decide +kernel
theorem dX11_made_54 : decode cX11_made 54 = .ok (.imul, 1) := by decide +kernel
theorem dX11_made_55 : decode cX11_made 55 = .ok (.ireturn, 1) := by decide +kernel
theorem dX11_readAt_0 : decode cX11_readAt 0 = .ok (.aload_n 0, 1) := by decide +kernel
theorem dX11_readAt_1 : decode cX11_readAt 1 = .ok (.getfield 43, 3) := by decide +kernel
theorem dX11_readAt_4 : decode cX11_readAt 4 = .ok (.bipush 12, 2) := by decide +kernel
theorem dX11_readAt_6 : decode cX11_readAt 6 = .ok (.aload_n 0, 1) := by decide +kernel
theorem dX11_readAt_7 : decode cX11_readAt 7 = .ok (.getfield 306, 3) := by decide +kernel
theorem dX11_readAt_10 : decode cX11_readAt 10 = .ok (.imul, 1) := by decide +kernel
theorem dX11_readAt_11 : decode cX11_readAt 11 = .ok (.iload_n 1, 1) := by decide +kernel
theorem dX11_readAt_12 : decode cX11_readAt 12 = .ok (.iadd, 1) := by decide +kernel
theorem dX11_readAt_13 : decode cX11_readAt 13 = .ok (.iaload, 1) := by decide +kernel
theorem dX11_readAt_14 : decode cX11_readAt 14 = .ok (.istore 5, 2) := by decide +kernel
theorem dX11_readAt_16 : decode cX11_readAt 16 = .ok (.iload_n 2, 1) := by decide +kernel
theorem dX11_readAt_17 : decode cX11_readAt 17 = .ok (.aload_n 0, 1) := by decide +kernel
theorem dX11_readAt_18 : decode cX11_readAt 18 = .ok (.getfield 46, 3) := by decide +kernel
theorem dX11_readAt_21 : decode cX11_readAt 21 = .ok (.bipush 12, 2) := by decide +kernel
theorem dX11_readAt_23 : decode cX11_readAt 23 = .ok (.aload_n 0, 1) := by decide +kernel
theorem dX11_readAt_24 : decode cX11_readAt 24 = .ok (.getfield 306, 3) := by decide +kernel
theorem dX11_readAt_27 : decode cX11_readAt 27 = .ok (.imul, 1) := by decide +kernel
theorem dX11_readAt_28 : decode cX11_readAt 28 = .ok (.iload_n 1, 1) := by decide +kernel
theorem dX11_readAt_29 : decode cX11_readAt 29 = .ok (.iadd, 1) := by decide +kernel
theorem dX11_readAt_30 : decode cX11_readAt 30 = .ok (.iaload, 1) := by decide +kernel
theorem dX11_readAt_31 : decode cX11_readAt 31 = .ok (.iadd, 1) := by decide +kernel
theorem dX11_readAt_32 : decode cX11_readAt 32 = .ok (.istore 6, 2) := by decide +kernel
theorem dX11_readAt_34 : decode cX11_readAt 34 = .ok (.iload_n 3, 1) := by decide +kernel
theorem dX11_readAt_35 : decode cX11_readAt 35 = .ok (.aload_n 0, 1) := by decide +kernel
theorem dX11_readAt_36 : decode cX11_readAt 36 = .ok (.getfield 49, 3) := by decide +kernel
theorem dX11_readAt_39 : decode cX11_readAt 39 = .ok (.bipush 12, 2) := by decide +kernel
theorem dX11_readAt_41 : decode cX11_readAt 41 = .ok (.aload_n 0, 1) := by decide +kernel
theorem dX11_readAt_42 : decode cX11_readAt 42 = .ok (.getfield 306, 3) := by decide +kernel
theorem dX11_readAt_45 : decode cX11_readAt 45 = .ok (.imul, 1) := by decide +kernel
theorem dX11_readAt_46 : decode cX11_readAt 46 = .ok (.iload_n 1, 1) := by decide +kernel
theorem dX11_readAt_47 : decode cX11_readAt 47 = .ok (.iadd, 1) := by decide +kernel
theorem dX11_readAt_48 : decode cX11_readAt 48 = .ok (.iaload, 1) := by decide +kernel
theorem dX11_readAt_49 : decode cX11_readAt 49 = .ok (.iadd, 1) := by decide +kernel
theorem dX11_readAt_50 : decode cX11_readAt 50 = .ok (.istore 7, 2) := by decide +kernel
theorem dX11_readAt_52 : decode cX11_readAt 52 = .ok (.aload_n 0, 1) := by decide +kernel
theorem dX11_readAt_53 : decode cX11_readAt 53 = .ok (.iload 6, 2) := by decide +kernel
theorem dX11_readAt_55 : decode cX11_readAt 55 = .ok (.iload 7, 2) := by decide +kernel
theorem dX11_readAt_57 : decode cX11_readAt 57 = .ok (.invokevirtual 324, 3) := by decide +kernel
theorem dX11_readAt_60 : decode cX11_readAt 60 = .ok (.ifCond .ne 32, 3) := by decide +kernel
theorem dX11_readAt_63 : decode cX11_readAt 63 = .ok (.aload_n 0, 1) := by decide +kernel
theorem dX11_readAt_64 : decode cX11_readAt 64 = .ok (.aload_n 0, 1) := by decide +kernel
theorem dX11_readAt_65 : decode cX11_readAt 65 = .ok (.iload 5, 2) := by decide +kernel
theorem dX11_readAt_67 : decode cX11_readAt 67 = .ok (.invokevirtual 369, 3) := by decide +kernel
theorem dX11_readAt_70 : decode cX11_readAt 70 = .ok (.aload_n 0, 1) := by decide +kernel
theorem dX11_readAt_71 : decode cX11_readAt 71 = .ok (.getfield 61, 3) := by decide +kernel
theorem dX11_readAt_74 : decode cX11_readAt 74 = .ok (.iconst 3, 1) := by decide +kernel
theorem dX11_readAt_75 : decode cX11_readAt 75 = .ok (.aload_n 0, 1) := by decide +kernel
theorem dX11_readAt_76 : decode cX11_readAt 76 = .ok (.getfield 306, 3) := by decide +kernel
theorem dX11_readAt_79 : decode cX11_readAt 79 = .ok (.imul, 1) := by decide +kernel
theorem dX11_readAt_80 : decode cX11_readAt 80 = .ok (.iload 5, 2) := by decide +kernel
theorem dX11_readAt_82 : decode cX11_readAt 82 = .ok (.iadd, 1) := by decide +kernel
theorem dX11_readAt_83 : decode cX11_readAt 83 = .ok (.iaload, 1) := by decide +kernel
theorem dX11_readAt_84 : decode cX11_readAt 84 = .ok (.iload 6, 2) := by decide +kernel
theorem dX11_readAt_86 : decode cX11_readAt 86 = .ok (.iload 7, 2) := by decide +kernel
theorem dX11_readAt_88 : decode cX11_readAt 88 = .ok (.invokevirtual 372, 3) := by decide +kernel
theorem dX11_readAt_91 : decode cX11_readAt 91 = .ok (.ireturn, 1) := by decide +kernel
theorem dX11_readAt_92 : decode cX11_readAt 92 = .ok (.bipush 10, 2) := by decide +kernel
theorem dX11_readAt_94 : decode cX11_readAt 94 = .ok (.iload 6, 2) := by decide +kernel
theorem dX11_readAt_96 : decode cX11_readAt 96 = .ok (.imul, 1) := by decide +kernel
theorem dX11_readAt_97 : decode cX11_readAt 97 = .ok (.iload 7, 2) := by decide +kernel
theorem dX11_readAt_99 : decode cX11_readAt 99 = .ok (.iadd, 1) := by decide +kernel
theorem dX11_readAt_100 : decode cX11_readAt 100 = .ok (.istore 8, 2) := by decide +kernel
theorem dX11_readAt_102 : decode cX11_readAt 102 = .ok (.iload 4, 2) := by decide +kernel
theorem dX11_readAt_104 : decode cX11_readAt 104 = .ok (.ifCond .ne 17, 3) := by decide +kernel
theorem dX11_readAt_107 : decode cX11_readAt 107 = .ok (.aload_n 0, 1) := by decide +kernel
theorem dX11_readAt_108 : decode cX11_readAt 108 = .ok (.getfield 100, 3) := by decide +kernel
theorem dX11_readAt_111 : decode cX11_readAt 111 = .ok (.bipush 100, 2) := by decide +kernel
theorem dX11_readAt_113 : decode cX11_readAt 113 = .ok (.iload 5, 2) := by decide +kernel
theorem dX11_readAt_115 : decode cX11_readAt 115 = .ok (.imul, 1) := by decide +kernel
theorem dX11_readAt_116 : decode cX11_readAt 116 = .ok (.iload 8, 2) := by decide +kernel
theorem dX11_readAt_118 : decode cX11_readAt 118 = .ok (.iadd, 1) := by decide +kernel
theorem dX11_readAt_119 : decode cX11_readAt 119 = .ok (.iaload, 1) := by decide +kernel
theorem dX11_readAt_120 : decode cX11_readAt 120 = .ok (.ireturn, 1) := by decide +kernel
theorem dX11_readAt_121 : decode cX11_readAt 121 = .ok (.iload 4, 2) := by decide +kernel
theorem dX11_readAt_123 : decode cX11_readAt 123 = .ok (.iconst 2, 1) := by decide +kernel
theorem dX11_readAt_124 : decode cX11_readAt 124 = .ok (.if_icmp .ne 17, 3) := by decide +kernel
theorem dX11_readAt_127 : decode cX11_readAt 127 = .ok (.aload_n 0, 1) := by decide +kernel
theorem dX11_readAt_128 : decode cX11_readAt 128 = .ok (.getfield 106, 3) := by decide +kernel
theorem dX11_readAt_131 : decode cX11_readAt 131 = .ok (.bipush 100, 2) := by decide +kernel
theorem dX11_readAt_133 : decode cX11_readAt 133 = .ok (.iload 5, 2) := by decide +kernel
theorem dX11_readAt_135 : decode cX11_readAt 135 = .ok (.imul, 1) := by decide +kernel
theorem dX11_readAt_136 : decode cX11_readAt 136 = .ok (.iload 8, 2) := by decide +kernel
theorem dX11_readAt_138 : decode cX11_readAt 138 = .ok (.iadd, 1) := by decide +kernel
theorem dX11_readAt_139 : decode cX11_readAt 139 = .ok (.iaload, 1) := by decide +kernel
theorem dX11_readAt_140 : decode cX11_readAt 140 = .ok (.ireturn, 1) := by decide +kernel
theorem dX11_readAt_141 : decode cX11_readAt 141 = .ok (.iload 6, 2) := by decide +kernel
theorem dX11_readAt_143 : decode cX11_readAt 143 = .ok (.iload_n 2, 1) := by decide +kernel
theorem dX11_readAt_144 : decode cX11_readAt 144 = .ok (.if_icmp .ne 9, 3) := by decide +kernel
theorem dX11_readAt_147 : decode cX11_readAt 147 = .ok (.iload 7, 2) := by decide +kernel
theorem dX11_readAt_149 : decode cX11_readAt 149 = .ok (.iload_n 3, 1) := by decide +kernel
theorem dX11_readAt_150 : decode cX11_readAt 150 = .ok (.if_icmp .eq 22, 3) := by decide +kernel
theorem dX11_readAt_153 : decode cX11_readAt 153 = .ok (.aload_n 0, 1) := by decide +kernel
theorem dX11_readAt_154 : decode cX11_readAt 154 = .ok (.iload 8, 2) := by decide +kernel
theorem dX11_readAt_156 : decode cX11_readAt 156 = .ok (.invokevirtual 376, 3) := by decide +kernel
theorem dX11_readAt_159 : decode cX11_readAt 159 = .ok (.aload_n 0, 1) := by decide +kernel
theorem dX11_readAt_160 : decode cX11_readAt 160 = .ok (.bipush 10, 2) := by decide +kernel
theorem dX11_readAt_162 : decode cX11_readAt 162 = .ok (.iload_n 2, 1) := by decide +kernel
theorem dX11_readAt_163 : decode cX11_readAt 163 = .ok (.imul, 1) := by decide +kernel
theorem dX11_readAt_164 : decode cX11_readAt 164 = .ok (.iload_n 3, 1) := by decide +kernel
theorem dX11_readAt_165 : decode cX11_readAt 165 = .ok (.iadd, 1) := by decide +kernel
theorem dX11_readAt_166 : decode cX11_readAt 166 = .ok (.invokevirtual 376, 3) := by decide +kernel
theorem dX11_readAt_169 : decode cX11_readAt 169 = .ok (.if_icmp .ge 7, 3) := by decide +kernel
theorem dX11_readAt_172 : decode cX11_readAt 172 = .ok (.iconst 1, 1) := by decide +kernel
theorem dX11_readAt_173 : decode cX11_readAt 173 = .ok (.goto 4, 3) := by decide +kernel
theorem dX11_readAt_176 : decode cX11_readAt 176 = .ok (.iconst 0, 1) := by decide +kernel
theorem dX11_readAt_177 : decode cX11_readAt 177 = .ok (.istore 9, 2) := by decide +kernel
theorem dX11_readAt_179 : decode cX11_readAt 179 = .ok (.iload 9, 2) := by decide +kernel
theorem dX11_readAt_181 : decode cX11_readAt 181 = .ok (.ifCond .eq 19, 3) := by decide +kernel
theorem dX11_readAt_184 : decode cX11_readAt 184 = .ok (.aload_n 0, 1) := by decide +kernel
theorem dX11_readAt_185 : decode cX11_readAt 185 = .ok (.getfield 103, 3) := by decide +kernel
theorem dX11_readAt_188 : decode cX11_readAt 188 = .ok (.bipush 100, 2) := by decide +kernel
theorem dX11_readAt_190 : decode cX11_readAt 190 = .ok (.iload 5, 2) := by decide +kernel
theorem dX11_readAt_192 : decode cX11_readAt 192 = .ok (.imul, 1) := by decide +kernel
theorem dX11_readAt_193 : decode cX11_readAt 193 = .ok (.iload 8, 2) := by decide +kernel
theorem dX11_readAt_195 : decode cX11_readAt 195 = .ok (.iadd, 1) := by decide +kernel
theorem dX11_readAt_196 : decode cX11_readAt 196 = .ok (.iaload, 1) := by decide +kernel
theorem dX11_readAt_197 : decode cX11_readAt 197 = .ok (.goto 4, 3) := by decide +kernel
theorem dX11_readAt_200 : decode cX11_readAt 200 = .ok (.iconst 0, 1) := by decide +kernel
theorem dX11_readAt_201 : decode cX11_readAt 201 = .ok (.ireturn, 1) := by decide +kernel
theorem dX11_formulaFrom_0 : decode cX11_formulaFrom 0 = .ok (.iload_n 1, 1) := by decide +kernel
theorem dX11_formulaFrom_1 : decode cX11_formulaFrom 1 = .ok (.ifCond .ne 7, 3) := by decide +kernel
theorem dX11_formulaFrom_4 : decode cX11_formulaFrom 4 = .ok (.iconst 0, 1) := by decide +kernel
theorem dX11_formulaFrom_5 : decode cX11_formulaFrom 5 = .ok (.goto 18, 3) := by decide +kernel
theorem dX11_formulaFrom_8 : decode cX11_formulaFrom 8 = .ok (.aload_n 0, 1) := by decide +kernel
theorem dX11_formulaFrom_9 : decode cX11_formulaFrom 9 = .ok (.getfield 61, 3) := by decide +kernel
theorem dX11_formulaFrom_12 : decode cX11_formulaFrom 12 = .ok (.iconst 3, 1) := by decide +kernel
theorem dX11_formulaFrom_13 : decode cX11_formulaFrom 13 = .ok (.aload_n 0, 1) := by decide +kernel
theorem dX11_formulaFrom_14 : decode cX11_formulaFrom 14 = .ok (.getfield 306, 3) := by decide +kernel
theorem dX11_formulaFrom_17 : decode cX11_formulaFrom 17 = .ok (.imul, 1) := by decide +kernel
theorem dX11_formulaFrom_18 : decode cX11_formulaFrom 18 = .ok (.iload_n 1, 1) := by decide +kernel
theorem dX11_formulaFrom_19 : decode cX11_formulaFrom 19 = .ok (.iadd, 1) := by decide +kernel
theorem dX11_formulaFrom_20 : decode cX11_formulaFrom 20 = .ok (.iconst 1, 1) := by decide +kernel
theorem dX11_formulaFrom_21 : decode cX11_formulaFrom 21 = .ok (.isub, 1) := by decide +kernel
theorem dX11_formulaFrom_22 : decode cX11_formulaFrom 22 = .ok (.iaload, 1) := by decide +kernel
theorem dX11_formulaFrom_23 : decode cX11_formulaFrom 23 = .ok (.ireturn, 1) := by decide +kernel
theorem dX11_edgeFrom_0 : decode cX11_edgeFrom 0 = .ok (.aload_n 0, 1) := by decide +kernel
theorem dX11_edgeFrom_1 : decode cX11_edgeFrom 1 = .ok (.getfield 58, 3) := by decide +kernel
theorem dX11_edgeFrom_4 : decode cX11_edgeFrom 4 = .ok (.iconst 3, 1) := by decide +kernel
theorem dX11_edgeFrom_5 : decode cX11_edgeFrom 5 = .ok (.aload_n 0, 1) := by decide +kernel
theorem dX11_edgeFrom_6 : decode cX11_edgeFrom 6 = .ok (.getfield 306, 3) := by decide +kernel
theorem dX11_edgeFrom_9 : decode cX11_edgeFrom 9 = .ok (.imul, 1) := by decide +kernel
theorem dX11_edgeFrom_10 : decode cX11_edgeFrom 10 = .ok (.iload_n 1, 1) := by decide +kernel
theorem dX11_edgeFrom_11 : decode cX11_edgeFrom 11 = .ok (.iadd, 1) := by decide +kernel
theorem dX11_edgeFrom_12 : decode cX11_edgeFrom 12 = .ok (.iaload, 1) := by decide +kernel
theorem dX11_edgeFrom_13 : decode cX11_edgeFrom 13 = .ok (.ireturn, 1) := by decide +kernel
theorem dX11_formula_0 : decode cX11_formula 0 = .ok (.iconst 0, 1) := by decide +kernel
theorem dX11_formula_1 : decode cX11_formula 1 = .ok (.istore 5, 2) := by decide +kernel
theorem dX11_formula_3 : decode cX11_formula 3 = .ok (.iload_n 1, 1) := by decide +kernel
theorem dX11_formula_4 : decode cX11_formula 4 = .ok (.istore 6, 2) := by decide +kernel
theorem dX11_formula_6 : decode cX11_formula 6 = .ok (.iload 6, 2) := by decide +kernel
theorem dX11_formula_8 : decode cX11_formula 8 = .ok (.iload_n 2, 1) := by decide +kernel
theorem dX11_formula_9 : decode cX11_formula 9 = .ok (.if_icmp .ge 39, 3) := by decide +kernel
theorem dX11_formula_12 : decode cX11_formula 12 = .ok (.aload_n 0, 1) := by decide +kernel
theorem dX11_formula_13 : decode cX11_formula 13 = .ok (.getfield 64, 3) := by decide +kernel
theorem dX11_formula_16 : decode cX11_formula 16 = .ok (.bipush 100, 2) := by decide +kernel
theorem dX11_formula_18 : decode cX11_formula 18 = .ok (.aload_n 0, 1) := by decide +kernel
theorem dX11_formula_19 : decode cX11_formula 19 = .ok (.getfield 306, 3) := by decide +kernel
theorem dX11_formula_22 : decode cX11_formula 22 = .ok (.imul, 1) := by decide +kernel
theorem dX11_formula_23 : decode cX11_formula 23 = .ok (.iload 6, 2) := by decide +kernel
theorem dX11_formula_25 : decode cX11_formula 25 = .ok (.iadd, 1) := by decide +kernel
theorem dX11_formula_26 : decode cX11_formula 26 = .ok (.iaload, 1) := by decide +kernel
theorem dX11_formula_27 : decode cX11_formula 27 = .ok (.iload 5, 2) := by decide +kernel
theorem dX11_formula_29 : decode cX11_formula 29 = .ok (.iload_n 3, 1) := by decide +kernel
theorem dX11_formula_30 : decode cX11_formula 30 = .ok (.iload 4, 2) := by decide +kernel
theorem dX11_formula_32 : decode cX11_formula 32 = .ok (.iconst 0, 1) := by decide +kernel
theorem dX11_formula_33 : decode cX11_formula 33 = .ok (.aload_n 0, 1) := by decide +kernel
theorem dX11_formula_34 : decode cX11_formula 34 = .ok (.getfield 112, 3) := by decide +kernel
theorem dX11_formula_37 : decode cX11_formula 37 = .ok (.invokestatic 379, 3) := by decide +kernel
theorem dX11_formula_40 : decode cX11_formula 40 = .ok (.istore 5, 2) := by decide +kernel
theorem dX11_formula_42 : decode cX11_formula 42 = .ok (.iinc 6 1, 3) := by decide +kernel
theorem dX11_formula_45 : decode cX11_formula 45 = .ok (.goto (-39), 3) := by decide +kernel
theorem dX11_formula_48 : decode cX11_formula 48 = .ok (.aload_n 0, 1) := by decide +kernel
theorem dX11_formula_49 : decode cX11_formula 49 = .ok (.getfield 112, 3) := by decide +kernel
theorem dX11_formula_52 : decode cX11_formula 52 = .ok (.iconst 0, 1) := by decide +kernel
theorem dX11_formula_53 : decode cX11_formula 53 = .ok (.iaload, 1) := by decide +kernel
theorem dX11_formula_54 : decode cX11_formula 54 = .ok (.ireturn, 1) := by decide +kernel
theorem dX11_withReads_0 : decode cX11_withReads 0 = .ok (.iconst 0, 1) := by decide +kernel
theorem dX11_withReads_1 : decode cX11_withReads 1 = .ok (.istore 5, 2) := by decide +kernel
theorem dX11_withReads_3 : decode cX11_withReads 3 = .ok (.aload_n 0, 1) := by decide +kernel
theorem dX11_withReads_4 : decode cX11_withReads 4 = .ok (.iload_n 1, 1) := by decide +kernel
theorem dX11_withReads_5 : decode cX11_withReads 5 = .ok (.invokevirtual 383, 3) := by decide +kernel
theorem dX11_withReads_8 : decode cX11_withReads 8 = .ok (.istore 6, 2) := by decide +kernel
theorem dX11_withReads_10 : decode cX11_withReads 10 = .ok (.iload 6, 2) := by decide +kernel
theorem dX11_withReads_12 : decode cX11_withReads 12 = .ok (.aload_n 0, 1) := by decide +kernel
theorem dX11_withReads_13 : decode cX11_withReads 13 = .ok (.getfield 58, 3) := by decide +kernel
theorem dX11_withReads_16 : decode cX11_withReads 16 = .ok (.iconst 3, 1) := by decide +kernel
theorem dX11_withReads_17 : decode cX11_withReads 17 = .ok (.aload_n 0, 1) := by decide +kernel
theorem dX11_withReads_18 : decode cX11_withReads 18 = .ok (.getfield 306, 3) := by decide +kernel
theorem dX11_withReads_21 : decode cX11_withReads 21 = .ok (.imul, 1) := by decide +kernel
theorem dX11_withReads_22 : decode cX11_withReads 22 = .ok (.iload_n 1, 1) := by decide +kernel
theorem dX11_withReads_23 : decode cX11_withReads 23 = .ok (.iadd, 1) := by decide +kernel
theorem dX11_withReads_24 : decode cX11_withReads 24 = .ok (.iaload, 1) := by decide +kernel
theorem dX11_withReads_25 : decode cX11_withReads 25 = .ok (.if_icmp .ge 75, 3) := by decide +kernel
theorem dX11_withReads_28 : decode cX11_withReads 28 = .ok (.aload_n 0, 1) := by decide +kernel
theorem dX11_withReads_29 : decode cX11_withReads 29 = .ok (.getfield 64, 3) := by decide +kernel
theorem dX11_withReads_32 : decode cX11_withReads 32 = .ok (.bipush 100, 2) := by decide +kernel
theorem dX11_withReads_34 : decode cX11_withReads 34 = .ok (.aload_n 0, 1) := by decide +kernel
theorem dX11_withReads_35 : decode cX11_withReads 35 = .ok (.getfield 306, 3) := by decide +kernel
theorem dX11_withReads_38 : decode cX11_withReads 38 = .ok (.imul, 1) := by decide +kernel
theorem dX11_withReads_39 : decode cX11_withReads 39 = .ok (.iload 6, 2) := by decide +kernel
theorem dX11_withReads_41 : decode cX11_withReads 41 = .ok (.iadd, 1) := by decide +kernel
theorem dX11_withReads_42 : decode cX11_withReads 42 = .ok (.iaload, 1) := by decide +kernel
theorem dX11_withReads_43 : decode cX11_withReads 43 = .ok (.istore 7, 2) := by decide +kernel
theorem dX11_withReads_45 : decode cX11_withReads 45 = .ok (.iload 7, 2) := by decide +kernel
theorem dX11_withReads_47 : decode cX11_withReads 47 = .ok (.iload 5, 2) := by decide +kernel
theorem dX11_withReads_49 : decode cX11_withReads 49 = .ok (.iload_n 2, 1) := by decide +kernel
theorem dX11_withReads_50 : decode cX11_withReads 50 = .ok (.iload_n 3, 1) := by decide +kernel
theorem dX11_withReads_51 : decode cX11_withReads 51 = .ok (.iload 7, 2) := by decide +kernel
theorem dX11_withReads_53 : decode cX11_withReads 53 = .ok (.sipush 1100, 3) := by decide +kernel
theorem dX11_withReads_56 : decode cX11_withReads 56 = .ok (.if_icmp .lt 28, 3) := by decide +kernel
theorem dX11_withReads_59 : decode cX11_withReads 59 = .ok (.iload 7, 2) := by decide +kernel
theorem dX11_withReads_61 : decode cX11_withReads 61 = .ok (.sipush 1112, 3) := by decide +kernel
theorem dX11_withReads_64 : decode cX11_withReads 64 = .ok (.if_icmp .ge 20, 3) := by decide +kernel
theorem dX11_withReads_67 : decode cX11_withReads 67 = .ok (.aload_n 0, 1) := by decide +kernel
theorem dX11_withReads_68 : decode cX11_withReads 68 = .ok (.iload 7, 2) := by decide +kernel
theorem dX11_withReads_70 : decode cX11_withReads 70 = .ok (.sipush 1100, 3) := by decide +kernel
theorem dX11_withReads_73 : decode cX11_withReads 73 = .ok (.isub, 1) := by decide +kernel
theorem dX11_withReads_74 : decode cX11_withReads 74 = .ok (.iload_n 2, 1) := by decide +kernel
theorem dX11_withReads_75 : decode cX11_withReads 75 = .ok (.iload_n 3, 1) := by decide +kernel
theorem dX11_withReads_76 : decode cX11_withReads 76 = .ok (.iload 4, 2) := by decide +kernel
theorem dX11_withReads_78 : decode cX11_withReads 78 = .ok (.invokevirtual 386, 3) := by decide +kernel
theorem dX11_withReads_81 : decode cX11_withReads 81 = .ok (.goto 4, 3) := by decide +kernel
theorem dX11_withReads_84 : decode cX11_withReads 84 = .ok (.iconst 0, 1) := by decide +kernel
theorem dX11_withReads_85 : decode cX11_withReads 85 = .ok (.aload_n 0, 1) := by decide +kernel
theorem dX11_withReads_86 : decode cX11_withReads 86 = .ok (.getfield 109, 3) := by decide +kernel
theorem dX11_withReads_89 : decode cX11_withReads 89 = .ok (.invokestatic 379, 3) := by decide +kernel
theorem dX11_withReads_92 : decode cX11_withReads 92 = .ok (.istore 5, 2) := by decide +kernel
theorem dX11_withReads_94 : decode cX11_withReads 94 = .ok (.iinc 6 1, 3) := by decide +kernel
theorem dX11_withReads_97 : decode cX11_withReads 97 = .ok (.goto (-87), 3) := by decide +kernel
theorem dX11_withReads_100 : decode cX11_withReads 100 = .ok (.aload_n 0, 1) := by decide +kernel
theorem dX11_withReads_101 : decode cX11_withReads 101 = .ok (.getfield 109, 3) := by decide +kernel
theorem dX11_withReads_104 : decode cX11_withReads 104 = .ok (.iconst 0, 1) := by decide +kernel
theorem dX11_withReads_105 : decode cX11_withReads 105 = .ok (.iaload, 1) := by decide +kernel
theorem dX11_withReads_106 : decode cX11_withReads 106 = .ok (.ireturn, 1) := by decide +kernel
theorem dX11_stepOver_0 : decode cX11_stepOver 0 = .ok (.iload_n 1, 1) := by decide +kernel
theorem dX11_stepOver_1 : decode cX11_stepOver 1 = .ok (.istore 6, 2) := by decide +kernel
theorem dX11_stepOver_3 : decode cX11_stepOver 3 = .ok (.iload_n 0, 1) := by decide +kernel
theorem dX11_stepOver_4 : decode cX11_stepOver 4 = .ok (.sipush 1205, 3) := by decide +kernel
theorem dX11_stepOver_7 : decode cX11_stepOver 7 = .ok (.if_icmp .ne 21, 3) := by decide +kernel
theorem dX11_stepOver_10 : decode cX11_stepOver 10 = .ok (.aload 5, 2) := by decide +kernel
theorem dX11_stepOver_12 : decode cX11_stepOver 12 = .ok (.iload 6, 2) := by decide +kernel
theorem dX11_stepOver_14 : decode cX11_stepOver 14 = .ok (.iconst 1, 1) := by decide +kernel
theorem dX11_stepOver_15 : decode cX11_stepOver 15 = .ok (.isub, 1) := by decide +kernel
theorem dX11_stepOver_16 : decode cX11_stepOver 16 = .ok (.aload 5, 2) := by decide +kernel
theorem dX11_stepOver_18 : decode cX11_stepOver 18 = .ok (.iload 6, 2) := by decide +kernel
theorem dX11_stepOver_20 : decode cX11_stepOver 20 = .ok (.iconst 1, 1) := by decide +kernel
theorem dX11_stepOver_21 : decode cX11_stepOver 21 = .ok (.isub, 1) := by decide +kernel
theorem dX11_stepOver_22 : decode cX11_stepOver 22 = .ok (.iaload, 1) := by decide +kernel
theorem dX11_stepOver_23 : decode cX11_stepOver 23 = .ok (.ineg, 1) := by decide +kernel
theorem dX11_stepOver_24 : decode cX11_stepOver 24 = .ok (.iastore, 1) := by decide +kernel
theorem dX11_stepOver_25 : decode cX11_stepOver 25 = .ok (.iload 6, 2) := by decide +kernel
theorem dX11_stepOver_27 : decode cX11_stepOver 27 = .ok (.ireturn, 1) := by decide +kernel
theorem dX11_stepOver_28 : decode cX11_stepOver 28 = .ok (.iload_n 0, 1) := by decide +kernel
theorem dX11_stepOver_29 : decode cX11_stepOver 29 = .ok (.sipush 1200, 3) := by decide +kernel
theorem dX11_stepOver_32 : decode cX11_stepOver 32 = .ok (.if_icmp .lt 32, 3) := by decide +kernel
theorem dX11_stepOver_35 : decode cX11_stepOver 35 = .ok (.iinc 6 (-1), 3) := by decide +kernel
theorem dX11_stepOver_38 : decode cX11_stepOver 38 = .ok (.aload 5, 2) := by decide +kernel
theorem dX11_stepOver_40 : decode cX11_stepOver 40 = .ok (.iload 6, 2) := by decide +kernel
theorem dX11_stepOver_42 : decode cX11_stepOver 42 = .ok (.iconst 1, 1) := by decide +kernel
theorem dX11_stepOver_43 : decode cX11_stepOver 43 = .ok (.isub, 1) := by decide +kernel
theorem dX11_stepOver_44 : decode cX11_stepOver 44 = .ok (.iload_n 0, 1) := by decide +kernel
theorem dX11_stepOver_45 : decode cX11_stepOver 45 = .ok (.aload 5, 2) := by decide +kernel
theorem dX11_stepOver_47 : decode cX11_stepOver 47 = .ok (.iload 6, 2) := by decide +kernel
theorem dX11_stepOver_49 : decode cX11_stepOver 49 = .ok (.iconst 1, 1) := by decide +kernel
theorem dX11_stepOver_50 : decode cX11_stepOver 50 = .ok (.isub, 1) := by decide +kernel
theorem dX11_stepOver_51 : decode cX11_stepOver 51 = .ok (.iaload, 1) := by decide +kernel
theorem dX11_stepOver_52 : decode cX11_stepOver 52 = .ok (.aload 5, 2) := by decide +kernel
theorem dX11_stepOver_54 : decode cX11_stepOver 54 = .ok (.iload 6, 2) := by decide +kernel
theorem dX11_stepOver_56 : decode cX11_stepOver 56 = .ok (.iaload, 1) := by decide +kernel
theorem dX11_stepOver_57 : decode cX11_stepOver 57 = .ok (.invokestatic 389, 3) := by decide +kernel
theorem dX11_stepOver_60 : decode cX11_stepOver 60 = .ok (.iastore, 1) := by decide +kernel
theorem dX11_stepOver_61 : decode cX11_stepOver 61 = .ok (.iload 6, 2) := by decide +kernel
theorem dX11_stepOver_63 : decode cX11_stepOver 63 = .ok (.ireturn, 1) := by decide +kernel
theorem dX11_stepOver_64 : decode cX11_stepOver 64 = .ok (.aload 5, 2) := by decide +kernel
theorem dX11_stepOver_66 : decode cX11_stepOver 66 = .ok (.iload 6, 2) := by decide +kernel
theorem dX11_stepOver_68 : decode cX11_stepOver 68 = .ok (.iload_n 0, 1) := by decide +kernel
theorem dX11_stepOver_69 : decode cX11_stepOver 69 = .ok (.sipush 1000, 3) := by decide +kernel
theorem dX11_stepOver_72 : decode cX11_stepOver 72 = .ok (.if_icmp .ne 7, 3) := by decide +kernel
theorem dX11_stepOver_75 : decode cX11_stepOver 75 = .ok (.iload_n 2, 1) := by decide +kernel
theorem dX11_stepOver_76 : decode cX11_stepOver 76 = .ok (.goto 27, 3) := by decide +kernel
theorem dX11_stepOver_79 : decode cX11_stepOver 79 = .ok (.iload_n 0, 1) := by decide +kernel
theorem dX11_stepOver_80 : decode cX11_stepOver 80 = .ok (.sipush 1001, 3) := by decide +kernel
theorem dX11_stepOver_83 : decode cX11_stepOver 83 = .ok (.if_icmp .ne 7, 3) := by decide +kernel
theorem dX11_stepOver_86 : decode cX11_stepOver 86 = .ok (.iload_n 3, 1) := by decide +kernel
theorem dX11_stepOver_87 : decode cX11_stepOver 87 = .ok (.goto 16, 3) := by decide +kernel
theorem dX11_stepOver_90 : decode cX11_stepOver 90 = .ok (.iload_n 0, 1) := by decide +kernel
theorem dX11_stepOver_91 : decode cX11_stepOver 91 = .ok (.sipush 1100, 3) := by decide +kernel
theorem dX11_stepOver_94 : decode cX11_stepOver 94 = .ok (.if_icmp .lt 8, 3) := by decide +kernel
theorem dX11_stepOver_97 : decode cX11_stepOver 97 = .ok (.iload 4, 2) := by decide +kernel
theorem dX11_stepOver_99 : decode cX11_stepOver 99 = .ok (.goto 4, 3) := by decide +kernel
theorem dX11_stepOver_102 : decode cX11_stepOver 102 = .ok (.iload_n 0, 1) := by decide +kernel
theorem dX11_stepOver_103 : decode cX11_stepOver 103 = .ok (.iastore, 1) := by decide +kernel
theorem dX11_stepOver_104 : decode cX11_stepOver 104 = .ok (.iload 6, 2) := by decide +kernel
theorem dX11_stepOver_106 : decode cX11_stepOver 106 = .ok (.iconst 1, 1) := by decide +kernel
theorem dX11_stepOver_107 : decode cX11_stepOver 107 = .ok (.iadd, 1) := by decide +kernel
theorem dX11_stepOver_108 : decode cX11_stepOver 108 = .ok (.ireturn, 1) := by decide +kernel
theorem dX11_layValues_0 : decode cX11_layValues 0 = .ok (.aload_n 0, 1) := by decide +kernel
theorem dX11_layValues_1 : decode cX11_layValues 1 = .ok (.invokevirtual 348, 3) := by decide +kernel
theorem dX11_layValues_4 : decode cX11_layValues 4 = .ok (.iconst 0, 1) := by decide +kernel
theorem dX11_layValues_5 : decode cX11_layValues 5 = .ok (.istore_n 1, 1) := by decide +kernel
theorem dX11_layValues_6 : decode cX11_layValues 6 = .ok (.iload_n 1, 1) := by decide +kernel
theorem dX11_layValues_7 : decode cX11_layValues 7 = .ok (.sipush 300, 3) := by decide +kernel
theorem dX11_layValues_10 : decode cX11_layValues 10 = .ok (.if_icmp .ge 16, 3) := by decide +kernel
theorem dX11_layValues_13 : decode cX11_layValues 13 = .ok (.aload_n 0, 1) := by decide +kernel
theorem dX11_layValues_14 : decode cX11_layValues 14 = .ok (.getfield 100, 3) := by decide +kernel
theorem dX11_layValues_17 : decode cX11_layValues 17 = .ok (.iload_n 1, 1) := by decide +kernel
theorem dX11_layValues_18 : decode cX11_layValues 18 = .ok (.iconst 0, 1) := by decide +kernel
theorem dX11_layValues_19 : decode cX11_layValues 19 = .ok (.iastore, 1) := by decide +kernel
theorem dX11_layValues_20 : decode cX11_layValues 20 = .ok (.iinc 1 1, 3) := by decide +kernel
theorem dX11_layValues_23 : decode cX11_layValues 23 = .ok (.goto (-17), 3) := by decide +kernel
theorem dX11_layValues_26 : decode cX11_layValues 26 = .ok (.iconst 0, 1) := by decide +kernel
theorem dX11_layValues_27 : decode cX11_layValues 27 = .ok (.istore_n 1, 1) := by decide +kernel
theorem dX11_layValues_28 : decode cX11_layValues 28 = .ok (.iload_n 1, 1) := by decide +kernel
theorem dX11_layValues_29 : decode cX11_layValues 29 = .ok (.aload_n 0, 1) := by decide +kernel
theorem dX11_layValues_30 : decode cX11_layValues 30 = .ok (.invokevirtual 360, 3) := by decide +kernel
theorem dX11_layValues_33 : decode cX11_layValues 33 = .ok (.if_icmp .gt 85, 3) := by decide +kernel
theorem dX11_layValues_36 : decode cX11_layValues 36 = .ok (.iconst 0, 1) := by decide +kernel
theorem dX11_layValues_37 : decode cX11_layValues 37 = .ok (.istore_n 2, 1) := by decide +kernel
theorem dX11_layValues_38 : decode cX11_layValues 38 = .ok (.iload_n 2, 1) := by decide +kernel
theorem dX11_layValues_39 : decode cX11_layValues 39 = .ok (.bipush 100, 2) := by decide +kernel
theorem dX11_layValues_41 : decode cX11_layValues 41 = .ok (.if_icmp .ge 71, 3) := by decide +kernel
theorem dX11_layValues_44 : decode cX11_layValues 44 = .ok (.aload_n 0, 1) := by decide +kernel
theorem dX11_layValues_45 : decode cX11_layValues 45 = .ok (.iload_n 2, 1) := by decide +kernel
theorem dX11_layValues_46 : decode cX11_layValues 46 = .ok (.invokevirtual 333, 3) := by decide +kernel
theorem dX11_layValues_49 : decode cX11_layValues 49 = .ok (.ifCond .eq 57, 3) := by decide +kernel
theorem dX11_layValues_52 : decode cX11_layValues 52 = .ok (.aload_n 0, 1) := by decide +kernel
theorem dX11_layValues_53 : decode cX11_layValues 53 = .ok (.getfield 87, 3) := by decide +kernel
theorem dX11_layValues_56 : decode cX11_layValues 56 = .ok (.iload_n 2, 1) := by decide +kernel
theorem dX11_layValues_57 : decode cX11_layValues 57 = .ok (.iaload, 1) := by decide +kernel
theorem dX11_layValues_58 : decode cX11_layValues 58 = .ok (.iload_n 1, 1) := by decide +kernel
theorem dX11_layValues_59 : decode cX11_layValues 59 = .ok (.if_icmp .eq 6, 3) := by decide +kernel
theorem dX11_layValues_62 : decode cX11_layValues 62 = .ok (.goto 44, 3) := by decide +kernel
theorem dX11_layValues_65 : decode cX11_layValues 65 = .ok (.iconst 0, 1) := by decide +kernel
theorem dX11_layValues_66 : decode cX11_layValues 66 = .ok (.istore_n 3, 1) := by decide +kernel
theorem dX11_layValues_67 : decode cX11_layValues 67 = .ok (.iload_n 3, 1) := by decide +kernel
theorem dX11_layValues_68 : decode cX11_layValues 68 = .ok (.aload_n 0, 1) := by decide +kernel
theorem dX11_layValues_69 : decode cX11_layValues 69 = .ok (.invokevirtual 315, 3) := by decide +kernel
theorem dX11_layValues_72 : decode cX11_layValues 72 = .ok (.if_icmp .ge 34, 3) := by decide +kernel
theorem dX11_layValues_75 : decode cX11_layValues 75 = .ok (.aload_n 0, 1) := by decide +kernel
theorem dX11_layValues_76 : decode cX11_layValues 76 = .ok (.getfield 100, 3) := by decide +kernel
theorem dX11_layValues_79 : decode cX11_layValues 79 = .ok (.bipush 100, 2) := by decide +kernel
theorem dX11_layValues_81 : decode cX11_layValues 81 = .ok (.iload_n 3, 1) := by decide +kernel
theorem dX11_layValues_82 : decode cX11_layValues 82 = .ok (.imul, 1) := by decide +kernel
theorem dX11_layValues_83 : decode cX11_layValues 83 = .ok (.iload_n 2, 1) := by decide +kernel
theorem dX11_layValues_84 : decode cX11_layValues 84 = .ok (.iadd, 1) := by decide +kernel
theorem dX11_layValues_85 : decode cX11_layValues 85 = .ok (.aload_n 0, 1) := by decide +kernel
theorem dX11_layValues_86 : decode cX11_layValues 86 = .ok (.iload_n 3, 1) := by decide +kernel
theorem dX11_layValues_87 : decode cX11_layValues 87 = .ok (.iload_n 2, 1) := by decide +kernel
theorem dX11_layValues_88 : decode cX11_layValues 88 = .ok (.bipush 10, 2) := by decide +kernel
theorem dX11_layValues_90 : decode cX11_layValues 90 = .ok (.idiv, 1) := by decide +kernel
theorem dX11_layValues_91 : decode cX11_layValues 91 = .ok (.iload_n 2, 1) := by decide +kernel
theorem dX11_layValues_92 : decode cX11_layValues 92 = .ok (.bipush 10, 2) := by decide +kernel
theorem dX11_layValues_94 : decode cX11_layValues 94 = .ok (.irem, 1) := by decide +kernel
theorem dX11_layValues_95 : decode cX11_layValues 95 = .ok (.iconst 0, 1) := by decide +kernel
theorem dX11_layValues_96 : decode cX11_layValues 96 = .ok (.invokevirtual 393, 3) := by decide +kernel
theorem dX11_layValues_99 : decode cX11_layValues 99 = .ok (.iastore, 1) := by decide +kernel
theorem dX11_layValues_100 : decode cX11_layValues 100 = .ok (.iinc 3 1, 3) := by decide +kernel
theorem dX11_layValues_103 : decode cX11_layValues 103 = .ok (.goto (-36), 3) := by decide +kernel
theorem dX11_layValues_106 : decode cX11_layValues 106 = .ok (.iinc 2 1, 3) := by decide +kernel
theorem dX11_layValues_109 : decode cX11_layValues 109 = .ok (.goto (-71), 3) := by decide +kernel
theorem dX11_layValues_112 : decode cX11_layValues 112 = .ok (.iinc 1 1, 3) := by decide +kernel
theorem dX11_layValues_115 : decode cX11_layValues 115 = .ok (.goto (-87), 3) := by decide +kernel
theorem dX11_layValues_118 : decode cX11_layValues 118 = .ok (.return_, 1) := by decide +kernel
theorem dX11_value_0 : decode cX11_value 0 = .ok (.aload_n 0, 1) := by decide +kernel
theorem dX11_value_1 : decode cX11_value 1 = .ok (.iload_n 1, 1) := by decide +kernel
theorem dX11_value_2 : decode cX11_value 2 = .ok (.invokevirtual 396, 3) := by decide +kernel
theorem dX11_value_5 : decode cX11_value 5 = .ok (.ifCond .eq 12, 3) := by decide +kernel
theorem dX11_value_8 : decode cX11_value 8 = .ok (.aload_n 0, 1) := by decide +kernel
theorem dX11_value_9 : decode cX11_value 9 = .ok (.iload_n 2, 1) := by decide +kernel
theorem dX11_value_10 : decode cX11_value 10 = .ok (.iload_n 3, 1) := by decide +kernel
theorem dX11_value_11 : decode cX11_value 11 = .ok (.invokevirtual 324, 3) := by decide +kernel
theorem dX11_value_14 : decode cX11_value 14 = .ok (.ifCond .ne 5, 3) := by decide +kernel
theorem dX11_value_17 : decode cX11_value 17 = .ok (.iconst 0, 1) := by decide +kernel
theorem dX11_value_18 : decode cX11_value 18 = .ok (.ireturn, 1) := by decide +kernel
theorem dX11_value_19 : decode cX11_value 19 = .ok (.aload_n 0, 1) := by decide +kernel
theorem dX11_value_20 : decode cX11_value 20 = .ok (.invokevirtual 399, 3) := by decide +kernel
theorem dX11_value_23 : decode cX11_value 23 = .ok (.aload_n 0, 1) := by decide +kernel
theorem dX11_value_24 : decode cX11_value 24 = .ok (.getfield 100, 3) := by decide +kernel
theorem dX11_value_27 : decode cX11_value 27 = .ok (.bipush 100, 2) := by decide +kernel
theorem dX11_value_29 : decode cX11_value 29 = .ok (.iload_n 1, 1) := by decide +kernel
theorem dX11_value_30 : decode cX11_value 30 = .ok (.imul, 1) := by decide +kernel
theorem dX11_value_31 : decode cX11_value 31 = .ok (.bipush 10, 2) := by decide +kernel
theorem dX11_value_33 : decode cX11_value 33 = .ok (.iload_n 2, 1) := by decide +kernel
theorem dX11_value_34 : decode cX11_value 34 = .ok (.imul, 1) := by decide +kernel
theorem dX11_value_35 : decode cX11_value 35 = .ok (.iadd, 1) := by decide +kernel
theorem dX11_value_36 : decode cX11_value 36 = .ok (.iload_n 3, 1) := by decide +kernel
theorem dX11_value_37 : decode cX11_value 37 = .ok (.iadd, 1) := by decide +kernel
theorem dX11_value_38 : decode cX11_value 38 = .ok (.iaload, 1) := by decide +kernel
theorem dX11_value_39 : decode cX11_value 39 = .ok (.ireturn, 1) := by decide +kernel
theorem dX11_layStirred_0 : decode cX11_layStirred 0 = .ok (.aload_n 0, 1) := by decide +kernel
theorem dX11_layStirred_1 : decode cX11_layStirred 1 = .ok (.invokevirtual 399, 3) := by decide +kernel
theorem dX11_layStirred_4 : decode cX11_layStirred 4 = .ok (.iconst 0, 1) := by decide +kernel
theorem dX11_layStirred_5 : decode cX11_layStirred 5 = .ok (.istore_n 3, 1) := by decide +kernel
theorem dX11_layStirred_6 : decode cX11_layStirred 6 = .ok (.iload_n 3, 1) := by decide +kernel
theorem dX11_layStirred_7 : decode cX11_layStirred 7 = .ok (.sipush 300, 3) := by decide +kernel
theorem dX11_layStirred_10 : decode cX11_layStirred 10 = .ok (.if_icmp .ge 16, 3) := by decide +kernel
theorem dX11_layStirred_13 : decode cX11_layStirred 13 = .ok (.aload_n 0, 1) := by decide +kernel
theorem dX11_layStirred_14 : decode cX11_layStirred 14 = .ok (.getfield 106, 3) := by decide +kernel
theorem dX11_layStirred_17 : decode cX11_layStirred 17 = .ok (.iload_n 3, 1) := by decide +kernel
theorem dX11_layStirred_18 : decode cX11_layStirred 18 = .ok (.iconst 0, 1) := by decide +kernel
theorem dX11_layStirred_19 : decode cX11_layStirred 19 = .ok (.iastore, 1) := by decide +kernel
theorem dX11_layStirred_20 : decode cX11_layStirred 20 = .ok (.iinc 3 1, 3) := by decide +kernel
theorem dX11_layStirred_23 : decode cX11_layStirred 23 = .ok (.goto (-17), 3) := by decide +kernel
theorem dX11_layStirred_26 : decode cX11_layStirred 26 = .ok (.iconst 0, 1) := by decide +kernel
theorem dX11_layStirred_27 : decode cX11_layStirred 27 = .ok (.istore_n 3, 1) := by decide +kernel
theorem dX11_layStirred_28 : decode cX11_layStirred 28 = .ok (.iload_n 3, 1) := by decide +kernel
theorem dX11_layStirred_29 : decode cX11_layStirred 29 = .ok (.aload_n 0, 1) := by decide +kernel
theorem dX11_layStirred_30 : decode cX11_layStirred 30 = .ok (.invokevirtual 360, 3) := by decide +kernel
theorem dX11_layStirred_33 : decode cX11_layStirred 33 = .ok (.if_icmp .gt 114, 3) := by decide +kernel
theorem dX11_layStirred_36 : decode cX11_layStirred 36 = .ok (.iconst 0, 1) := by decide +kernel
theorem dX11_layStirred_37 : decode cX11_layStirred 37 = .ok (.istore 4, 2) := by decide +kernel
theorem dX11_layStirred_39 : decode cX11_layStirred 39 = .ok (.iload 4, 2) := by decide +kernel
theorem dX11_layStirred_41 : decode cX11_layStirred 41 = .ok (.bipush 100, 2) := by decide +kernel
theorem dX11_layStirred_43 : decode cX11_layStirred 43 = .ok (.if_icmp .ge 98, 3) := by decide +kernel
theorem dX11_layStirred_46 : decode cX11_layStirred 46 = .ok (.aload_n 0, 1) := by decide +kernel
theorem dX11_layStirred_47 : decode cX11_layStirred 47 = .ok (.iload 4, 2) := by decide +kernel
theorem dX11_layStirred_49 : decode cX11_layStirred 49 = .ok (.invokevirtual 333, 3) := by decide +kernel
theorem dX11_layStirred_52 : decode cX11_layStirred 52 = .ok (.ifCond .eq 83, 3) := by decide +kernel
theorem dX11_layStirred_55 : decode cX11_layStirred 55 = .ok (.aload_n 0, 1) := by decide +kernel
theorem dX11_layStirred_56 : decode cX11_layStirred 56 = .ok (.getfield 87, 3) := by decide +kernel
theorem dX11_layStirred_59 : decode cX11_layStirred 59 = .ok (.iload 4, 2) := by decide +kernel
theorem dX11_layStirred_61 : decode cX11_layStirred 61 = .ok (.iaload, 1) := by decide +kernel
theorem dX11_layStirred_62 : decode cX11_layStirred 62 = .ok (.iload_n 3, 1) := by decide +kernel
theorem dX11_layStirred_63 : decode cX11_layStirred 63 = .ok (.if_icmp .eq 6, 3) := by decide +kernel
theorem dX11_layStirred_66 : decode cX11_layStirred 66 = .ok (.goto 69, 3) := by decide +kernel
theorem dX11_layStirred_69 : decode cX11_layStirred 69 = .ok (.iconst 0, 1) := by decide +kernel
theorem dX11_layStirred_70 : decode cX11_layStirred 70 = .ok (.istore 5, 2) := by decide +kernel
theorem dX11_layStirred_72 : decode cX11_layStirred 72 = .ok (.iload 5, 2) := by decide +kernel
theorem dX11_layStirred_74 : decode cX11_layStirred 74 = .ok (.aload_n 0, 1) := by decide +kernel
theorem dX11_layStirred_75 : decode cX11_layStirred 75 = .ok (.invokevirtual 315, 3) := by decide +kernel
theorem dX11_layStirred_78 : decode cX11_layStirred 78 = .ok (.if_icmp .ge 57, 3) := by decide +kernel
theorem dX11_layStirred_81 : decode cX11_layStirred 81 = .ok (.aload_n 0, 1) := by decide +kernel
theorem dX11_layStirred_82 : decode cX11_layStirred 82 = .ok (.getfield 106, 3) := by decide +kernel
theorem dX11_layStirred_85 : decode cX11_layStirred 85 = .ok (.bipush 100, 2) := by decide +kernel
theorem dX11_layStirred_87 : decode cX11_layStirred 87 = .ok (.iload 5, 2) := by decide +kernel
theorem dX11_layStirred_89 : decode cX11_layStirred 89 = .ok (.imul, 1) := by decide +kernel
theorem dX11_layStirred_90 : decode cX11_layStirred 90 = .ok (.iload 4, 2) := by decide +kernel
theorem dX11_layStirred_92 : decode cX11_layStirred 92 = .ok (.iadd, 1) := by decide +kernel
theorem dX11_layStirred_93 : decode cX11_layStirred 93 = .ok (.aload_n 0, 1) := by decide +kernel
theorem dX11_layStirred_94 : decode cX11_layStirred 94 = .ok (.iload 5, 2) := by decide +kernel
theorem dX11_layStirred_96 : decode cX11_layStirred 96 = .ok (.iload 4, 2) := by decide +kernel
theorem dX11_layStirred_98 : decode cX11_layStirred 98 = .ok (.bipush 10, 2) := by decide +kernel
theorem dX11_layStirred_100 : decode cX11_layStirred 100 = .ok (.idiv, 1) := by decide +kernel
theorem dX11_layStirred_101 : decode cX11_layStirred 101 = .ok (.iload 4, 2) := by decide +kernel
theorem dX11_layStirred_103 : decode cX11_layStirred 103 = .ok (.bipush 10, 2) := by decide +kernel
theorem dX11_layStirred_105 : decode cX11_layStirred 105 = .ok (.irem, 1) := by decide +kernel
theorem dX11_layStirred_106 : decode cX11_layStirred 106 = .ok (.iconst 2, 1) := by decide +kernel
theorem dX11_layStirred_107 : decode cX11_layStirred 107 = .ok (.invokevirtual 393, 3) := by decide +kernel
theorem dX11_layStirred_110 : decode cX11_layStirred 110 = .ok (.iload 4, 2) := by decide +kernel
theorem dX11_layStirred_112 : decode cX11_layStirred 112 = .ok (.iload_n 2, 1) := by decide +kernel
theorem dX11_layStirred_113 : decode cX11_layStirred 113 = .ok (.if_icmp .ne 13, 3) := by decide +kernel
theorem dX11_layStirred_116 : decode cX11_layStirred 116 = .ok (.iload 5, 2) := by decide +kernel
theorem dX11_layStirred_118 : decode cX11_layStirred 118 = .ok (.iload_n 1, 1) := by decide +kernel
theorem dX11_layStirred_119 : decode cX11_layStirred 119 = .ok (.if_icmp .ne 7, 3) := by decide +kernel
theorem dX11_layStirred_122 : decode cX11_layStirred 122 = .ok (.iconst 1, 1) := by decide +kernel
theorem dX11_layStirred_123 : decode cX11_layStirred 123 = .ok (.goto 4, 3) := by decide +kernel
theorem dX11_layStirred_126 : decode cX11_layStirred 126 = .ok (.iconst 0, 1) := by decide +kernel
theorem dX11_layStirred_127 : decode cX11_layStirred 127 = .ok (.iadd, 1) := by decide +kernel
theorem dX11_layStirred_128 : decode cX11_layStirred 128 = .ok (.iastore, 1) := by decide +kernel
theorem dX11_layStirred_129 : decode cX11_layStirred 129 = .ok (.iinc 5 1, 3) := by decide +kernel
theorem dX11_layStirred_132 : decode cX11_layStirred 132 = .ok (.goto (-60), 3) := by decide +kernel
theorem dX11_layStirred_135 : decode cX11_layStirred 135 = .ok (.iinc 4 1, 3) := by decide +kernel
theorem dX11_layStirred_138 : decode cX11_layStirred 138 = .ok (.goto (-99), 3) := by decide +kernel
theorem dX11_layStirred_141 : decode cX11_layStirred 141 = .ok (.iinc 3 1, 3) := by decide +kernel
theorem dX11_layStirred_144 : decode cX11_layStirred 144 = .ok (.goto (-116), 3) := by decide +kernel
theorem dX11_layStirred_147 : decode cX11_layStirred 147 = .ok (.return_, 1) := by decide +kernel
theorem dX11_canStir_0 : decode cX11_canStir 0 = .ok (.aload_n 0, 1) := by decide +kernel
theorem dX11_canStir_1 : decode cX11_canStir 1 = .ok (.iload_n 1, 1) := by decide +kernel
theorem dX11_canStir_2 : decode cX11_canStir 2 = .ok (.invokevirtual 396, 3) := by decide +kernel
theorem dX11_canStir_5 : decode cX11_canStir 5 = .ok (.ifCond .eq 12, 3) := by decide +kernel
theorem dX11_canStir_8 : decode cX11_canStir 8 = .ok (.aload_n 0, 1) := by decide +kernel
theorem dX11_canStir_9 : decode cX11_canStir 9 = .ok (.iload_n 2, 1) := by decide +kernel
theorem dX11_canStir_10 : decode cX11_canStir 10 = .ok (.iload_n 3, 1) := by decide +kernel
theorem dX11_canStir_11 : decode cX11_canStir 11 = .ok (.invokevirtual 324, 3) := by decide +kernel
theorem dX11_canStir_14 : decode cX11_canStir 14 = .ok (.ifCond .ne 5, 3) := by decide +kernel
theorem dX11_canStir_17 : decode cX11_canStir 17 = .ok (.iconst 0, 1) := by decide +kernel
theorem dX11_canStir_18 : decode cX11_canStir 18 = .ok (.ireturn, 1) := by decide +kernel
theorem dX11_canStir_19 : decode cX11_canStir 19 = .ok (.aload_n 0, 1) := by decide +kernel
theorem dX11_canStir_20 : decode cX11_canStir 20 = .ok (.invokevirtual 348, 3) := by decide +kernel
theorem dX11_canStir_23 : decode cX11_canStir 23 = .ok (.aload_n 0, 1) := by decide +kernel
theorem dX11_canStir_24 : decode cX11_canStir 24 = .ok (.getfield 87, 3) := by decide +kernel
theorem dX11_canStir_27 : decode cX11_canStir 27 = .ok (.bipush 10, 2) := by decide +kernel
theorem dX11_canStir_29 : decode cX11_canStir 29 = .ok (.iload_n 2, 1) := by decide +kernel
theorem dX11_canStir_30 : decode cX11_canStir 30 = .ok (.imul, 1) := by decide +kernel
theorem dX11_canStir_31 : decode cX11_canStir 31 = .ok (.iload_n 3, 1) := by decide +kernel
theorem dX11_canStir_32 : decode cX11_canStir 32 = .ok (.iadd, 1) := by decide +kernel
theorem dX11_canStir_33 : decode cX11_canStir 33 = .ok (.iaload, 1) := by decide +kernel
theorem dX11_canStir_34 : decode cX11_canStir 34 = .ok (.ifCond .lt 7, 3) := by decide +kernel
theorem dX11_canStir_37 : decode cX11_canStir 37 = .ok (.iconst 1, 1) := by decide +kernel
theorem dX11_canStir_38 : decode cX11_canStir 38 = .ok (.goto 4, 3) := by decide +kernel
theorem dX11_canStir_41 : decode cX11_canStir 41 = .ok (.iconst 0, 1) := by decide +kernel
theorem dX11_canStir_42 : decode cX11_canStir 42 = .ok (.ireturn, 1) := by decide +kernel
theorem dX11_stirs_0 : decode cX11_stirs 0 = .ok (.aload_n 0, 1) := by decide +kernel
theorem dX11_stirs_1 : decode cX11_stirs 1 = .ok (.iload_n 1, 1) := by decide +kernel
theorem dX11_stirs_2 : decode cX11_stirs 2 = .ok (.iload_n 2, 1) := by decide +kernel
theorem dX11_stirs_3 : decode cX11_stirs 3 = .ok (.iload_n 3, 1) := by decide +kernel
theorem dX11_stirs_4 : decode cX11_stirs 4 = .ok (.invokevirtual 402, 3) := by decide +kernel
theorem dX11_stirs_7 : decode cX11_stirs 7 = .ok (.ifCond .ne 5, 3) := by decide +kernel
theorem dX11_stirs_10 : decode cX11_stirs 10 = .ok (.iconst (-1), 1) := by decide +kernel
theorem dX11_stirs_11 : decode cX11_stirs 11 = .ok (.ireturn, 1) := by decide +kernel
theorem dX11_stirs_12 : decode cX11_stirs 12 = .ok (.aload_n 0, 1) := by decide +kernel
theorem dX11_stirs_13 : decode cX11_stirs 13 = .ok (.iload_n 1, 1) := by decide +kernel
theorem dX11_stirs_14 : decode cX11_stirs 14 = .ok (.bipush 10, 2) := by decide +kernel
theorem dX11_stirs_16 : decode cX11_stirs 16 = .ok (.iload_n 2, 1) := by decide +kernel
theorem dX11_stirs_17 : decode cX11_stirs 17 = .ok (.imul, 1) := by decide +kernel
theorem dX11_stirs_18 : decode cX11_stirs 18 = .ok (.iload_n 3, 1) := by decide +kernel
theorem dX11_stirs_19 : decode cX11_stirs 19 = .ok (.iadd, 1) := by decide +kernel
theorem dX11_stirs_20 : decode cX11_stirs 20 = .ok (.invokevirtual 405, 3) := by decide +kernel
theorem dX11_stirs_23 : decode cX11_stirs 23 = .ok (.iconst 0, 1) := by decide +kernel
theorem dX11_stirs_24 : decode cX11_stirs 24 = .ok (.istore 4, 2) := by decide +kernel
theorem dX11_stirs_26 : decode cX11_stirs 26 = .ok (.iconst 0, 1) := by decide +kernel
theorem dX11_stirs_27 : decode cX11_stirs 27 = .ok (.istore 5, 2) := by decide +kernel
theorem dX11_stirs_29 : decode cX11_stirs 29 = .ok (.iload 5, 2) := by decide +kernel
theorem dX11_stirs_31 : decode cX11_stirs 31 = .ok (.bipush 100, 2) := by decide +kernel
theorem dX11_stirs_33 : decode cX11_stirs 33 = .ok (.if_icmp .ge 86, 3) := by decide +kernel
theorem dX11_stirs_36 : decode cX11_stirs 36 = .ok (.iconst 0, 1) := by decide +kernel
theorem dX11_stirs_37 : decode cX11_stirs 37 = .ok (.istore 6, 2) := by decide +kernel
theorem dX11_stirs_39 : decode cX11_stirs 39 = .ok (.iconst 0, 1) := by decide +kernel
theorem dX11_stirs_40 : decode cX11_stirs 40 = .ok (.istore 7, 2) := by decide +kernel
theorem dX11_stirs_42 : decode cX11_stirs 42 = .ok (.iload 7, 2) := by decide +kernel
theorem dX11_stirs_44 : decode cX11_stirs 44 = .ok (.aload_n 0, 1) := by decide +kernel
theorem dX11_stirs_45 : decode cX11_stirs 45 = .ok (.invokevirtual 315, 3) := by decide +kernel
theorem dX11_stirs_48 : decode cX11_stirs 48 = .ok (.if_icmp .ge 50, 3) := by decide +kernel
theorem dX11_stirs_51 : decode cX11_stirs 51 = .ok (.iload 6, 2) := by decide +kernel
theorem dX11_stirs_53 : decode cX11_stirs 53 = .ok (.ifCond .ne 32, 3) := by decide +kernel
theorem dX11_stirs_56 : decode cX11_stirs 56 = .ok (.aload_n 0, 1) := by decide +kernel
theorem dX11_stirs_57 : decode cX11_stirs 57 = .ok (.getfield 106, 3) := by decide +kernel
theorem dX11_stirs_60 : decode cX11_stirs 60 = .ok (.bipush 100, 2) := by decide +kernel
theorem dX11_stirs_62 : decode cX11_stirs 62 = .ok (.iload 7, 2) := by decide +kernel
theorem dX11_stirs_64 : decode cX11_stirs 64 = .ok (.imul, 1) := by decide +kernel
theorem dX11_stirs_65 : decode cX11_stirs 65 = .ok (.iload 5, 2) := by decide +kernel
theorem dX11_stirs_67 : decode cX11_stirs 67 = .ok (.iadd, 1) := by decide +kernel
theorem dX11_stirs_68 : decode cX11_stirs 68 = .ok (.iaload, 1) := by decide +kernel
theorem dX11_stirs_69 : decode cX11_stirs 69 = .ok (.aload_n 0, 1) := by decide +kernel
theorem dX11_stirs_70 : decode cX11_stirs 70 = .ok (.getfield 100, 3) := by decide +kernel
theorem dX11_stirs_73 : decode cX11_stirs 73 = .ok (.bipush 100, 2) := by decide +kernel
theorem dX11_stirs_75 : decode cX11_stirs 75 = .ok (.iload 7, 2) := by decide +kernel
theorem dX11_stirs_77 : decode cX11_stirs 77 = .ok (.imul, 1) := by decide +kernel
theorem dX11_stirs_78 : decode cX11_stirs 78 = .ok (.iload 5, 2) := by decide +kernel
theorem dX11_stirs_80 : decode cX11_stirs 80 = .ok (.iadd, 1) := by decide +kernel
theorem dX11_stirs_81 : decode cX11_stirs 81 = .ok (.iaload, 1) := by decide +kernel
theorem dX11_stirs_82 : decode cX11_stirs 82 = .ok (.if_icmp .eq 7, 3) := by decide +kernel
theorem dX11_stirs_85 : decode cX11_stirs 85 = .ok (.iconst 1, 1) := by decide +kernel
theorem dX11_stirs_86 : decode cX11_stirs 86 = .ok (.goto 4, 3) := by decide +kernel
theorem dX11_stirs_89 : decode cX11_stirs 89 = .ok (.iconst 0, 1) := by decide +kernel
theorem dX11_stirs_90 : decode cX11_stirs 90 = .ok (.istore 6, 2) := by decide +kernel
theorem dX11_stirs_92 : decode cX11_stirs 92 = .ok (.iinc 7 1, 3) := by decide +kernel
theorem dX11_stirs_95 : decode cX11_stirs 95 = .ok (.goto (-53), 3) := by decide +kernel
theorem dX11_stirs_98 : decode cX11_stirs 98 = .ok (.iload 4, 2) := by decide +kernel
theorem dX11_stirs_100 : decode cX11_stirs 100 = .ok (.iload 6, 2) := by decide +kernel
theorem dX11_stirs_102 : decode cX11_stirs 102 = .ok (.ifCond .eq 7, 3) := by decide +kernel
theorem dX11_stirs_105 : decode cX11_stirs 105 = .ok (.iconst 1, 1) := by decide +kernel
theorem dX11_stirs_106 : decode cX11_stirs 106 = .ok (.goto 4, 3) := by decide +kernel
theorem dX11_stirs_109 : decode cX11_stirs 109 = .ok (.iconst 0, 1) := by decide +kernel
theorem dX11_stirs_110 : decode cX11_stirs 110 = .ok (.iadd, 1) := by decide +kernel
theorem dX11_stirs_111 : decode cX11_stirs 111 = .ok (.istore 4, 2) := by decide +kernel
theorem dX11_stirs_113 : decode cX11_stirs 113 = .ok (.iinc 5 1, 3) := by decide +kernel
theorem dX11_stirs_116 : decode cX11_stirs 116 = .ok (.goto (-87), 3) := by decide +kernel
theorem dX11_stirs_119 : decode cX11_stirs 119 = .ok (.iload 4, 2) := by decide +kernel
theorem dX11_stirs_121 : decode cX11_stirs 121 = .ok (.ireturn, 1) := by decide +kernel
theorem dX11_stirred_0 : decode cX11_stirred 0 = .ok (.aload_n 0, 1) := by decide +kernel
theorem dX11_stirred_1 : decode cX11_stirred 1 = .ok (.iload_n 1, 1) := by decide +kernel
theorem dX11_stirred_2 : decode cX11_stirred 2 = .ok (.iload_n 2, 1) := by decide +kernel
theorem dX11_stirred_3 : decode cX11_stirred 3 = .ok (.iload_n 3, 1) := by decide +kernel
theorem dX11_stirred_4 : decode cX11_stirred 4 = .ok (.invokevirtual 402, 3) := by decide +kernel
theorem dX11_stirred_7 : decode cX11_stirred 7 = .ok (.ifCond .ne 5, 3) := by decide +kernel
theorem dX11_stirred_10 : decode cX11_stirred 10 = .ok (.iconst 0, 1) := by decide +kernel
theorem dX11_stirred_11 : decode cX11_stirred 11 = .ok (.ireturn, 1) := by decide +kernel
theorem dX11_stirred_12 : decode cX11_stirred 12 = .ok (.aload_n 0, 1) := by decide +kernel
theorem dX11_stirred_13 : decode cX11_stirred 13 = .ok (.iload_n 1, 1) := by decide +kernel
theorem dX11_stirred_14 : decode cX11_stirred 14 = .ok (.bipush 10, 2) := by decide +kernel
theorem dX11_stirred_16 : decode cX11_stirred 16 = .ok (.iload_n 2, 1) := by decide +kernel
theorem dX11_stirred_17 : decode cX11_stirred 17 = .ok (.imul, 1) := by decide +kernel
theorem dX11_stirred_18 : decode cX11_stirred 18 = .ok (.iload_n 3, 1) := by decide +kernel
theorem dX11_stirred_19 : decode cX11_stirred 19 = .ok (.iadd, 1) := by decide +kernel
theorem dX11_stirred_20 : decode cX11_stirred 20 = .ok (.invokevirtual 405, 3) := by decide +kernel
theorem dX11_stirred_23 : decode cX11_stirred 23 = .ok (.aload_n 0, 1) := by decide +kernel
theorem dX11_stirred_24 : decode cX11_stirred 24 = .ok (.getfield 106, 3) := by decide +kernel
theorem dX11_stirred_27 : decode cX11_stirred 27 = .ok (.bipush 100, 2) := by decide +kernel
theorem dX11_stirred_29 : decode cX11_stirred 29 = .ok (.iload_n 1, 1) := by decide +kernel
theorem dX11_stirred_30 : decode cX11_stirred 30 = .ok (.imul, 1) := by decide +kernel
theorem dX11_stirred_31 : decode cX11_stirred 31 = .ok (.bipush 10, 2) := by decide +kernel
theorem dX11_stirred_33 : decode cX11_stirred 33 = .ok (.aload_n 0, 1) := by decide +kernel
theorem dX11_stirred_34 : decode cX11_stirred 34 = .ok (.invokevirtual 318, 3) := by decide +kernel
theorem dX11_stirred_37 : decode cX11_stirred 37 = .ok (.iconst 1, 1) := by decide +kernel
theorem dX11_stirred_38 : decode cX11_stirred 38 = .ok (.isub, 1) := by decide +kernel
theorem dX11_stirred_39 : decode cX11_stirred 39 = .ok (.imul, 1) := by decide +kernel
theorem dX11_stirred_40 : decode cX11_stirred 40 = .ok (.iadd, 1) := by decide +kernel
theorem dX11_stirred_41 : decode cX11_stirred 41 = .ok (.aload_n 0, 1) := by decide +kernel
theorem dX11_stirred_42 : decode cX11_stirred 42 = .ok (.invokevirtual 321, 3) := by decide +kernel
theorem dX11_stirred_45 : decode cX11_stirred 45 = .ok (.iadd, 1) := by decide +kernel
theorem dX11_stirred_46 : decode cX11_stirred 46 = .ok (.iconst 1, 1) := by decide +kernel
theorem dX11_stirred_47 : decode cX11_stirred 47 = .ok (.isub, 1) := by decide +kernel
theorem dX11_stirred_48 : decode cX11_stirred 48 = .ok (.iaload, 1) := by decide +kernel
theorem dX11_stirred_49 : decode cX11_stirred 49 = .ok (.ireturn, 1) := by decide +kernel
theorem dX11_total_0 : decode cX11_total 0 = .ok (.aload_n 0, 1) := by decide +kernel
theorem dX11_total_1 : decode cX11_total 1 = .ok (.iload_n 1, 1) := by decide +kernel
theorem dX11_total_2 : decode cX11_total 2 = .ok (.invokevirtual 396, 3) := by decide +kernel
theorem dX11_total_5 : decode cX11_total 5 = .ok (.ifCond .eq 12, 3) := by decide +kernel
theorem dX11_total_8 : decode cX11_total 8 = .ok (.iload_n 2, 1) := by decide +kernel
theorem dX11_total_9 : decode cX11_total 9 = .ok (.iconst 0, 1) := by decide +kernel
theorem dX11_total_10 : decode cX11_total 10 = .ok (.iconst 3, 1) := by decide +kernel
theorem dX11_total_11 : decode cX11_total 11 = .ok (.invokestatic 221, 3) := by decide +kernel
theorem dX11_total_14 : decode cX11_total 14 = .ok (.ifCond .ne 14, 3) := by decide +kernel
theorem dX11_total_17 : decode cX11_total 17 = .ok (.iload_n 2, 1) := by decide +kernel
theorem dX11_total_18 : decode cX11_total 18 = .ok (.iconst 3, 1) := by decide +kernel
theorem dX11_total_19 : decode cX11_total 19 = .ok (.if_icmp .ne 7, 3) := by decide +kernel
theorem dX11_total_22 : decode cX11_total 22 = .ok (.iconst (-1), 1) := by decide +kernel
theorem dX11_total_23 : decode cX11_total 23 = .ok (.goto 4, 3) := by decide +kernel
theorem dX11_total_26 : decode cX11_total 26 = .ok (.iconst 0, 1) := by decide +kernel
theorem dX11_total_27 : decode cX11_total 27 = .ok (.ireturn, 1) := by decide +kernel
theorem dX11_total_28 : decode cX11_total 28 = .ok (.aload_n 0, 1) := by decide +kernel
theorem dX11_total_29 : decode cX11_total 29 = .ok (.invokevirtual 399, 3) := by decide +kernel
theorem dX11_total_32 : decode cX11_total 32 = .ok (.iconst 0, 1) := by decide +kernel
theorem dX11_total_33 : decode cX11_total 33 = .ok (.istore_n 3, 1) := by decide +kernel
theorem dX11_total_34 : decode cX11_total 34 = .ok (.iconst (-1), 1) := by decide +kernel
theorem dX11_total_35 : decode cX11_total 35 = .ok (.istore 4, 2) := by decide +kernel
theorem dX11_total_37 : decode cX11_total 37 = .ok (.iconst (-1), 1) := by decide +kernel
theorem dX11_total_38 : decode cX11_total 38 = .ok (.istore 5, 2) := by decide +kernel
theorem dX11_total_40 : decode cX11_total 40 = .ok (.iconst 0, 1) := by decide +kernel
theorem dX11_total_41 : decode cX11_total 41 = .ok (.istore 6, 2) := by decide +kernel
theorem dX11_total_43 : decode cX11_total 43 = .ok (.iload 6, 2) := by decide +kernel
theorem dX11_total_45 : decode cX11_total 45 = .ok (.bipush 100, 2) := by decide +kernel
theorem dX11_total_47 : decode cX11_total 47 = .ok (.if_icmp .ge 102, 3) := by decide +kernel
theorem dX11_total_50 : decode cX11_total 50 = .ok (.aload_n 0, 1) := by decide +kernel
theorem dX11_total_51 : decode cX11_total 51 = .ok (.iload 6, 2) := by decide +kernel
theorem dX11_total_53 : decode cX11_total 53 = .ok (.invokevirtual 333, 3) := by decide +kernel
theorem dX11_total_56 : decode cX11_total 56 = .ok (.ifCond .eq 87, 3) := by decide +kernel
theorem dX11_total_59 : decode cX11_total 59 = .ok (.aload_n 0, 1) := by decide +kernel
theorem dX11_total_60 : decode cX11_total 60 = .ok (.getfield 87, 3) := by decide +kernel
theorem dX11_total_63 : decode cX11_total 63 = .ok (.iload 6, 2) := by decide +kernel
theorem dX11_total_65 : decode cX11_total 65 = .ok (.iaload, 1) := by decide +kernel
theorem dX11_total_66 : decode cX11_total 66 = .ok (.ifCond .ge 6, 3) := by decide +kernel
theorem dX11_total_69 : decode cX11_total 69 = .ok (.goto 74, 3) := by decide +kernel
theorem dX11_total_72 : decode cX11_total 72 = .ok (.aload_n 0, 1) := by decide +kernel
theorem dX11_total_73 : decode cX11_total 73 = .ok (.getfield 100, 3) := by decide +kernel
theorem dX11_total_76 : decode cX11_total 76 = .ok (.bipush 100, 2) := by decide +kernel
theorem dX11_total_78 : decode cX11_total 78 = .ok (.iload_n 1, 1) := by decide +kernel
theorem dX11_total_79 : decode cX11_total 79 = .ok (.imul, 1) := by decide +kernel
theorem dX11_total_80 : decode cX11_total 80 = .ok (.iload 6, 2) := by decide +kernel
theorem dX11_total_82 : decode cX11_total 82 = .ok (.iadd, 1) := by decide +kernel
theorem dX11_total_83 : decode cX11_total 83 = .ok (.iaload, 1) := by decide +kernel
theorem dX11_total_84 : decode cX11_total 84 = .ok (.istore 7, 2) := by decide +kernel
theorem dX11_total_86 : decode cX11_total 86 = .ok (.iload_n 3, 1) := by decide +kernel
theorem dX11_total_87 : decode cX11_total 87 = .ok (.iload 7, 2) := by decide +kernel
theorem dX11_total_89 : decode cX11_total 89 = .ok (.iadd, 1) := by decide +kernel
theorem dX11_total_90 : decode cX11_total 90 = .ok (.istore_n 3, 1) := by decide +kernel
theorem dX11_total_91 : decode cX11_total 91 = .ok (.iload 4, 2) := by decide +kernel
theorem dX11_total_93 : decode cX11_total 93 = .ok (.ifCond .lt 20, 3) := by decide +kernel
theorem dX11_total_96 : decode cX11_total 96 = .ok (.iload 7, 2) := by decide +kernel
theorem dX11_total_98 : decode cX11_total 98 = .ok (.aload_n 0, 1) := by decide +kernel
theorem dX11_total_99 : decode cX11_total 99 = .ok (.getfield 100, 3) := by decide +kernel
theorem dX11_total_102 : decode cX11_total 102 = .ok (.bipush 100, 2) := by decide +kernel
theorem dX11_total_104 : decode cX11_total 104 = .ok (.iload_n 1, 1) := by decide +kernel
theorem dX11_total_105 : decode cX11_total 105 = .ok (.imul, 1) := by decide +kernel
theorem dX11_total_106 : decode cX11_total 106 = .ok (.iload 4, 2) := by decide +kernel
theorem dX11_total_108 : decode cX11_total 108 = .ok (.iadd, 1) := by decide +kernel
theorem dX11_total_109 : decode cX11_total 109 = .ok (.iaload, 1) := by decide +kernel
theorem dX11_total_110 : decode cX11_total 110 = .ok (.if_icmp .le 7, 3) := by decide +kernel
theorem dX11_total_113 : decode cX11_total 113 = .ok (.iload 6, 2) := by decide +kernel
theorem dX11_total_115 : decode cX11_total 115 = .ok (.istore 4, 2) := by decide +kernel
theorem dX11_total_117 : decode cX11_total 117 = .ok (.iload 5, 2) := by decide +kernel
theorem dX11_total_119 : decode cX11_total 119 = .ok (.ifCond .lt 20, 3) := by decide +kernel
theorem dX11_total_122 : decode cX11_total 122 = .ok (.iload 7, 2) := by decide +kernel
theorem dX11_total_124 : decode cX11_total 124 = .ok (.aload_n 0, 1) := by decide +kernel
theorem dX11_total_125 : decode cX11_total 125 = .ok (.getfield 100, 3) := by decide +kernel
theorem dX11_total_128 : decode cX11_total 128 = .ok (.bipush 100, 2) := by decide +kernel
theorem dX11_total_130 : decode cX11_total 130 = .ok (.iload_n 1, 1) := by decide +kernel
theorem dX11_total_131 : decode cX11_total 131 = .ok (.imul, 1) := by decide +kernel
theorem dX11_total_132 : decode cX11_total 132 = .ok (.iload 5, 2) := by decide +kernel
theorem dX11_total_134 : decode cX11_total 134 = .ok (.iadd, 1) := by decide +kernel
theorem dX11_total_135 : decode cX11_total 135 = .ok (.iaload, 1) := by decide +kernel
theorem dX11_total_136 : decode cX11_total 136 = .ok (.if_icmp .ge 7, 3) := by decide +kernel
theorem dX11_total_139 : decode cX11_total 139 = .ok (.iload 6, 2) := by decide +kernel
theorem dX11_total_141 : decode cX11_total 141 = .ok (.istore 5, 2) := by decide +kernel
theorem dX11_total_143 : decode cX11_total 143 = .ok (.iinc 6 1, 3) := by decide +kernel
theorem dX11_total_146 : decode cX11_total 146 = .ok (.goto (-103), 3) := by decide +kernel
theorem dX11_total_149 : decode cX11_total 149 = .ok (.iload_n 2, 1) := by decide +kernel
theorem dX11_total_150 : decode cX11_total 150 = .ok (.ifCond .eq 8, 3) := by decide +kernel
theorem dX11_total_153 : decode cX11_total 153 = .ok (.iload_n 2, 1) := by decide +kernel
theorem dX11_total_154 : decode cX11_total 154 = .ok (.iconst 3, 1) := by decide +kernel
theorem dX11_total_155 : decode cX11_total 155 = .ok (.if_icmp .ne 14, 3) := by decide +kernel
theorem dX11_total_158 : decode cX11_total 158 = .ok (.iload_n 2, 1) := by decide +kernel
theorem dX11_total_159 : decode cX11_total 159 = .ok (.ifCond .ne 7, 3) := by decide +kernel
theorem dX11_total_162 : decode cX11_total 162 = .ok (.iload_n 3, 1) := by decide +kernel
theorem dX11_total_163 : decode cX11_total 163 = .ok (.goto 5, 3) := by decide +kernel
theorem dX11_total_166 : decode cX11_total 166 = .ok (.iload 4, 2) := by decide +kernel
theorem dX11_total_168 : decode cX11_total 168 = .ok (.ireturn, 1) := by decide +kernel
theorem dX11_total_169 : decode cX11_total 169 = .ok (.iload 4, 2) := by decide +kernel
theorem dX11_total_171 : decode cX11_total 171 = .ok (.ifCond .ge 5, 3) := by decide +kernel
theorem dX11_total_174 : decode cX11_total 174 = .ok (.iconst 0, 1) := by decide +kernel
theorem dX11_total_175 : decode cX11_total 175 = .ok (.ireturn, 1) := by decide +kernel
theorem dX11_total_176 : decode cX11_total 176 = .ok (.aload_n 0, 1) := by decide +kernel
theorem dX11_total_177 : decode cX11_total 177 = .ok (.getfield 100, 3) := by decide +kernel
theorem dX11_total_180 : decode cX11_total 180 = .ok (.bipush 100, 2) := by decide +kernel
theorem dX11_total_182 : decode cX11_total 182 = .ok (.iload_n 1, 1) := by decide +kernel
theorem dX11_total_183 : decode cX11_total 183 = .ok (.imul, 1) := by decide +kernel
theorem dX11_total_184 : decode cX11_total 184 = .ok (.iload_n 2, 1) := by decide +kernel
theorem dX11_total_185 : decode cX11_total 185 = .ok (.iconst 1, 1) := by decide +kernel
theorem dX11_total_186 : decode cX11_total 186 = .ok (.if_icmp .ne 8, 3) := by decide +kernel
theorem dX11_total_189 : decode cX11_total 189 = .ok (.iload 4, 2) := by decide +kernel
theorem dX11_total_191 : decode cX11_total 191 = .ok (.goto 5, 3) := by decide +kernel
theorem dX11_total_194 : decode cX11_total 194 = .ok (.iload 5, 2) := by decide +kernel
theorem dX11_total_196 : decode cX11_total 196 = .ok (.iadd, 1) := by decide +kernel
theorem dX11_total_197 : decode cX11_total 197 = .ok (.iaload, 1) := by decide +kernel
theorem dX11_total_198 : decode cX11_total 198 = .ok (.ireturn, 1) := by decide +kernel
theorem dX11_startAnew_0 : decode cX11_startAnew 0 = .ok (.iconst 0, 1) := by decide +kernel
theorem dX11_startAnew_1 : decode cX11_startAnew 1 = .ok (.istore_n 1, 1) := by decide +kernel
theorem dX11_startAnew_2 : decode cX11_startAnew 2 = .ok (.iload_n 1, 1) := by decide +kernel
theorem dX11_startAnew_3 : decode cX11_startAnew 3 = .ok (.bipush 69, 2) := by decide +kernel
theorem dX11_startAnew_5 : decode cX11_startAnew 5 = .ok (.if_icmp .ge 16, 3) := by decide +kernel
theorem dX11_startAnew_8 : decode cX11_startAnew 8 = .ok (.aload_n 0, 1) := by decide +kernel
theorem dX11_startAnew_9 : decode cX11_startAnew 9 = .ok (.getfield 115, 3) := by decide +kernel
theorem dX11_startAnew_12 : decode cX11_startAnew 12 = .ok (.iload_n 1, 1) := by decide +kernel
theorem dX11_startAnew_13 : decode cX11_startAnew 13 = .ok (.iconst 0, 1) := by decide +kernel
theorem dX11_startAnew_14 : decode cX11_startAnew 14 = .ok (.iastore, 1) := by decide +kernel
theorem dX11_startAnew_15 : decode cX11_startAnew 15 = .ok (.iinc 1 1, 3) := by decide +kernel
theorem dX11_startAnew_18 : decode cX11_startAnew 18 = .ok (.goto (-16), 3) := by decide +kernel
theorem dX11_startAnew_21 : decode cX11_startAnew 21 = .ok (.aload_n 0, 1) := by decide +kernel
theorem dX11_startAnew_22 : decode cX11_startAnew 22 = .ok (.getfield 115, 3) := by decide +kernel
theorem dX11_startAnew_25 : decode cX11_startAnew 25 = .ok (.iconst 0, 1) := by decide +kernel
theorem dX11_startAnew_26 : decode cX11_startAnew 26 = .ok (.aload_n 0, 1) := by decide +kernel
theorem dX11_startAnew_27 : decode cX11_startAnew 27 = .ok (.getfield 28, 3) := by decide +kernel
theorem dX11_startAnew_30 : decode cX11_startAnew 30 = .ok (.aload_n 0, 1) := by decide +kernel
theorem dX11_startAnew_31 : decode cX11_startAnew 31 = .ok (.getfield 306, 3) := by decide +kernel
theorem dX11_startAnew_34 : decode cX11_startAnew 34 = .ok (.iaload, 1) := by decide +kernel
theorem dX11_startAnew_35 : decode cX11_startAnew 35 = .ok (.iastore, 1) := by decide +kernel
theorem dX11_startAnew_36 : decode cX11_startAnew 36 = .ok (.aload_n 0, 1) := by decide +kernel
theorem dX11_startAnew_37 : decode cX11_startAnew 37 = .ok (.getfield 115, 3) := by decide +kernel
theorem dX11_startAnew_40 : decode cX11_startAnew 40 = .ok (.iconst 1, 1) := by decide +kernel
theorem dX11_startAnew_41 : decode cX11_startAnew 41 = .ok (.aload_n 0, 1) := by decide +kernel
theorem dX11_startAnew_42 : decode cX11_startAnew 42 = .ok (.getfield 31, 3) := by decide +kernel
theorem dX11_startAnew_45 : decode cX11_startAnew 45 = .ok (.aload_n 0, 1) := by decide +kernel
theorem dX11_startAnew_46 : decode cX11_startAnew 46 = .ok (.getfield 306, 3) := by decide +kernel
theorem dX11_startAnew_49 : decode cX11_startAnew 49 = .ok (.iaload, 1) := by decide +kernel
theorem dX11_startAnew_50 : decode cX11_startAnew 50 = .ok (.iastore, 1) := by decide +kernel
theorem dX11_startAnew_51 : decode cX11_startAnew 51 = .ok (.aload_n 0, 1) := by decide +kernel
theorem dX11_startAnew_52 : decode cX11_startAnew 52 = .ok (.getfield 115, 3) := by decide +kernel
theorem dX11_startAnew_55 : decode cX11_startAnew 55 = .ok (.iconst 2, 1) := by decide +kernel
theorem dX11_startAnew_56 : decode cX11_startAnew 56 = .ok (.aload_n 0, 1) := by decide +kernel
theorem dX11_startAnew_57 : decode cX11_startAnew 57 = .ok (.getfield 34, 3) := by decide +kernel
theorem dX11_startAnew_60 : decode cX11_startAnew 60 = .ok (.aload_n 0, 1) := by decide +kernel
theorem dX11_startAnew_61 : decode cX11_startAnew 61 = .ok (.getfield 306, 3) := by decide +kernel
theorem dX11_startAnew_64 : decode cX11_startAnew 64 = .ok (.iaload, 1) := by decide +kernel
theorem dX11_startAnew_65 : decode cX11_startAnew 65 = .ok (.iastore, 1) := by decide +kernel
theorem dX11_startAnew_66 : decode cX11_startAnew 66 = .ok (.aload_n 0, 1) := by decide +kernel
theorem dX11_startAnew_67 : decode cX11_startAnew 67 = .ok (.getfield 115, 3) := by decide +kernel
theorem dX11_startAnew_70 : decode cX11_startAnew 70 = .ok (.iconst 3, 1) := by decide +kernel
theorem dX11_startAnew_71 : decode cX11_startAnew 71 = .ok (.aload_n 0, 1) := by decide +kernel
theorem dX11_startAnew_72 : decode cX11_startAnew 72 = .ok (.getfield 37, 3) := by decide +kernel
theorem dX11_startAnew_75 : decode cX11_startAnew 75 = .ok (.aload_n 0, 1) := by decide +kernel
theorem dX11_startAnew_76 : decode cX11_startAnew 76 = .ok (.getfield 306, 3) := by decide +kernel
theorem dX11_startAnew_79 : decode cX11_startAnew 79 = .ok (.iaload, 1) := by decide +kernel
theorem dX11_startAnew_80 : decode cX11_startAnew 80 = .ok (.iastore, 1) := by decide +kernel
theorem dX11_startAnew_81 : decode cX11_startAnew 81 = .ok (.aload_n 0, 1) := by decide +kernel
theorem dX11_startAnew_82 : decode cX11_startAnew 82 = .ok (.getfield 115, 3) := by decide +kernel
theorem dX11_startAnew_85 : decode cX11_startAnew 85 = .ok (.iconst 4, 1) := by decide +kernel
theorem dX11_startAnew_86 : decode cX11_startAnew 86 = .ok (.iconst 1, 1) := by decide +kernel
theorem dX11_startAnew_87 : decode cX11_startAnew 87 = .ok (.iastore, 1) := by decide +kernel
theorem dX11_startAnew_88 : decode cX11_startAnew 88 = .ok (.aload_n 0, 1) := by decide +kernel
theorem dX11_startAnew_89 : decode cX11_startAnew 89 = .ok (.iconst 0, 1) := by decide +kernel
theorem dX11_startAnew_90 : decode cX11_startAnew 90 = .ok (.putfield 408, 3) := by decide +kernel
theorem dX11_startAnew_93 : decode cX11_startAnew 93 = .ok (.aload_n 0, 1) := by decide +kernel
theorem dX11_startAnew_94 : decode cX11_startAnew 94 = .ok (.iconst 0, 1) := by decide +kernel
theorem dX11_startAnew_95 : decode cX11_startAnew 95 = .ok (.putfield 411, 3) := by decide +kernel
theorem dX11_startAnew_98 : decode cX11_startAnew 98 = .ok (.iconst 0, 1) := by decide +kernel
theorem dX11_startAnew_99 : decode cX11_startAnew 99 = .ok (.istore_n 1, 1) := by decide +kernel
theorem dX11_startAnew_100 : decode cX11_startAnew 100 = .ok (.iload_n 1, 1) := by decide +kernel
theorem dX11_startAnew_101 : decode cX11_startAnew 101 = .ok (.iconst 2, 1) := by decide +kernel
theorem dX11_startAnew_102 : decode cX11_startAnew 102 = .ok (.if_icmp .ge 16, 3) := by decide +kernel
theorem dX11_startAnew_105 : decode cX11_startAnew 105 = .ok (.aload_n 0, 1) := by decide +kernel
theorem dX11_startAnew_106 : decode cX11_startAnew 106 = .ok (.getfield 145, 3) := by decide +kernel
theorem dX11_startAnew_109 : decode cX11_startAnew 109 = .ok (.iload_n 1, 1) := by decide +kernel
theorem dX11_startAnew_110 : decode cX11_startAnew 110 = .ok (.iconst 0, 1) := by decide +kernel
theorem dX11_startAnew_111 : decode cX11_startAnew 111 = .ok (.bastore, 1) := by decide +kernel
theorem dX11_startAnew_112 : decode cX11_startAnew 112 = .ok (.iinc 1 1, 3) := by decide +kernel
theorem dX11_startAnew_115 : decode cX11_startAnew 115 = .ok (.goto (-15), 3) := by decide +kernel
theorem dX11_startAnew_118 : decode cX11_startAnew 118 = .ok (.return_, 1) := by decide +kernel
theorem dX11_tickOf_0 : decode cX11_tickOf 0 = .ok (.aload_n 0, 1) := by decide +kernel
theorem dX11_tickOf_1 : decode cX11_tickOf 1 = .ok (.getfield 118, 3) := by decide +kernel
theorem dX11_tickOf_4 : decode cX11_tickOf 4 = .ok (.iload_n 1, 1) := by decide +kernel
theorem dX11_tickOf_5 : decode cX11_tickOf 5 = .ok (.iaload, 1) := by decide +kernel
theorem dX11_tickOf_6 : decode cX11_tickOf 6 = .ok (.ireturn, 1) := by decide +kernel
theorem dX11_layTicks_0 : decode cX11_layTicks 0 = .ok (.ldc_w 414, 3) := by decide +kernel
theorem dX11_layTicks_3 : decode cX11_layTicks 3 = .ok (.istore_n 3, 1) := by decide +kernel
theorem dX11_layTicks_4 : decode cX11_layTicks 4 = .ok (.aload_n 0, 1) := by decide +kernel
theorem dX11_layTicks_5 : decode cX11_layTicks 5 = .ok (.iconst 0, 1) := by decide +kernel
theorem dX11_layTicks_6 : decode cX11_layTicks 6 = .ok (.putfield 415, 3) := by decide +kernel
theorem dX11_layTicks_9 : decode cX11_layTicks 9 = .ok (.iconst 0, 1) := by decide +kernel
theorem dX11_layTicks_10 : decode cX11_layTicks 10 = .ok (.istore 4, 2) := by decide +kernel
theorem dX11_layTicks_12 : decode cX11_layTicks 12 = .ok (.iload 4, 2) := by decide +kernel
theorem dX11_layTicks_14 : decode cX11_layTicks 14 = .ok (.bipush 100, 2) := by decide +kernel
theorem dX11_layTicks_16 : decode cX11_layTicks 16 = .ok (.if_icmp .ge 38, 3) := by decide +kernel
theorem dX11_layTicks_19 : decode cX11_layTicks 19 = .ok (.aload_n 0, 1) := by decide +kernel
theorem dX11_layTicks_20 : decode cX11_layTicks 20 = .ok (.iload 4, 2) := by decide +kernel
theorem dX11_layTicks_22 : decode cX11_layTicks 22 = .ok (.invokevirtual 333, 3) := by decide +kernel
theorem dX11_layTicks_25 : decode cX11_layTicks 25 = .ok (.ifCond .eq 23, 3) := by decide +kernel
theorem dX11_layTicks_28 : decode cX11_layTicks 28 = .ok (.iload_n 3, 1) := by decide +kernel
theorem dX11_layTicks_29 : decode cX11_layTicks 29 = .ok (.iload_n 1, 1) := by decide +kernel
theorem dX11_layTicks_30 : decode cX11_layTicks 30 = .ok (.iload 4, 2) := by decide +kernel
theorem dX11_layTicks_32 : decode cX11_layTicks 32 = .ok (.bipush 10, 2) := by decide +kernel
theorem dX11_layTicks_34 : decode cX11_layTicks 34 = .ok (.idiv, 1) := by decide +kernel
theorem dX11_layTicks_35 : decode cX11_layTicks 35 = .ok (.imul, 1) := by decide +kernel
theorem dX11_layTicks_36 : decode cX11_layTicks 36 = .ok (.iload_n 2, 1) := by decide +kernel
theorem dX11_layTicks_37 : decode cX11_layTicks 37 = .ok (.iload 4, 2) := by decide +kernel
theorem dX11_layTicks_39 : decode cX11_layTicks 39 = .ok (.bipush 10, 2) := by decide +kernel
theorem dX11_layTicks_41 : decode cX11_layTicks 41 = .ok (.irem, 1) := by decide +kernel
theorem dX11_layTicks_42 : decode cX11_layTicks 42 = .ok (.imul, 1) := by decide +kernel
theorem dX11_layTicks_43 : decode cX11_layTicks 43 = .ok (.iadd, 1) := by decide +kernel
theorem dX11_layTicks_44 : decode cX11_layTicks 44 = .ok (.invokestatic 366, 3) := by decide +kernel
theorem dX11_layTicks_47 : decode cX11_layTicks 47 = .ok (.istore_n 3, 1) := by decide +kernel
theorem dX11_layTicks_48 : decode cX11_layTicks 48 = .ok (.iinc 4 1, 3) := by decide +kernel
theorem dX11_layTicks_51 : decode cX11_layTicks 51 = .ok (.goto (-39), 3) := by decide +kernel
theorem dX11_layTicks_54 : decode cX11_layTicks 54 = .ok (.iconst 0, 1) := by decide +kernel
theorem dX11_layTicks_55 : decode cX11_layTicks 55 = .ok (.istore 4, 2) := by decide +kernel
theorem dX11_layTicks_57 : decode cX11_layTicks 57 = .ok (.iload 4, 2) := by decide +kernel
theorem dX11_layTicks_59 : decode cX11_layTicks 59 = .ok (.bipush 100, 2) := by decide +kernel
theorem dX11_layTicks_61 : decode cX11_layTicks 61 = .ok (.if_icmp .ge 65, 3) := by decide +kernel
theorem dX11_layTicks_64 : decode cX11_layTicks 64 = .ok (.aload_n 0, 1) := by decide +kernel
theorem dX11_layTicks_65 : decode cX11_layTicks 65 = .ok (.iload 4, 2) := by decide +kernel
theorem dX11_layTicks_67 : decode cX11_layTicks 67 = .ok (.invokevirtual 333, 3) := by decide +kernel
theorem dX11_layTicks_70 : decode cX11_layTicks 70 = .ok (.ifCond .ne 6, 3) := by decide +kernel
theorem dX11_layTicks_73 : decode cX11_layTicks 73 = .ok (.goto 47, 3) := by decide +kernel
theorem dX11_layTicks_76 : decode cX11_layTicks 76 = .ok (.aload_n 0, 1) := by decide +kernel
theorem dX11_layTicks_77 : decode cX11_layTicks 77 = .ok (.getfield 118, 3) := by decide +kernel
theorem dX11_layTicks_80 : decode cX11_layTicks 80 = .ok (.iload 4, 2) := by decide +kernel
theorem dX11_layTicks_82 : decode cX11_layTicks 82 = .ok (.iload_n 1, 1) := by decide +kernel
theorem dX11_layTicks_83 : decode cX11_layTicks 83 = .ok (.iload 4, 2) := by decide +kernel
theorem dX11_layTicks_85 : decode cX11_layTicks 85 = .ok (.bipush 10, 2) := by decide +kernel
theorem dX11_layTicks_87 : decode cX11_layTicks 87 = .ok (.idiv, 1) := by decide +kernel
theorem dX11_layTicks_88 : decode cX11_layTicks 88 = .ok (.imul, 1) := by decide +kernel
theorem dX11_layTicks_89 : decode cX11_layTicks 89 = .ok (.iload_n 2, 1) := by decide +kernel
theorem dX11_layTicks_90 : decode cX11_layTicks 90 = .ok (.iload 4, 2) := by decide +kernel
theorem dX11_layTicks_92 : decode cX11_layTicks 92 = .ok (.bipush 10, 2) := by decide +kernel
theorem dX11_layTicks_94 : decode cX11_layTicks 94 = .ok (.irem, 1) := by decide +kernel
theorem dX11_layTicks_95 : decode cX11_layTicks 95 = .ok (.imul, 1) := by decide +kernel
theorem dX11_layTicks_96 : decode cX11_layTicks 96 = .ok (.iadd, 1) := by decide +kernel
theorem dX11_layTicks_97 : decode cX11_layTicks 97 = .ok (.iload_n 3, 1) := by decide +kernel
theorem dX11_layTicks_98 : decode cX11_layTicks 98 = .ok (.isub, 1) := by decide +kernel
theorem dX11_layTicks_99 : decode cX11_layTicks 99 = .ok (.iastore, 1) := by decide +kernel
theorem dX11_layTicks_100 : decode cX11_layTicks 100 = .ok (.aload_n 0, 1) := by decide +kernel
theorem dX11_layTicks_101 : decode cX11_layTicks 101 = .ok (.aload_n 0, 1) := by decide +kernel
theorem dX11_layTicks_102 : decode cX11_layTicks 102 = .ok (.getfield 415, 3) := by decide +kernel
theorem dX11_layTicks_105 : decode cX11_layTicks 105 = .ok (.aload_n 0, 1) := by decide +kernel
theorem dX11_layTicks_106 : decode cX11_layTicks 106 = .ok (.getfield 118, 3) := by decide +kernel
theorem dX11_layTicks_109 : decode cX11_layTicks 109 = .ok (.iload 4, 2) := by decide +kernel
theorem dX11_layTicks_111 : decode cX11_layTicks 111 = .ok (.iaload, 1) := by decide +kernel
theorem dX11_layTicks_112 : decode cX11_layTicks 112 = .ok (.iconst 1, 1) := by decide +kernel
theorem dX11_layTicks_113 : decode cX11_layTicks 113 = .ok (.iadd, 1) := by decide +kernel
theorem dX11_layTicks_114 : decode cX11_layTicks 114 = .ok (.invokestatic 345, 3) := by decide +kernel
theorem dX11_layTicks_117 : decode cX11_layTicks 117 = .ok (.putfield 415, 3) := by decide +kernel
theorem dX11_layTicks_120 : decode cX11_layTicks 120 = .ok (.iinc 4 1, 3) := by decide +kernel
theorem dX11_layTicks_123 : decode cX11_layTicks 123 = .ok (.goto (-66), 3) := by decide +kernel
theorem dX11_layTicks_126 : decode cX11_layTicks 126 = .ok (.return_, 1) := by decide +kernel
theorem dX11_layCells_0 : decode cX11_layCells 0 = .ok (.iconst 0, 1) := by decide +kernel
theorem dX11_layCells_1 : decode cX11_layCells 1 = .ok (.istore_n 3, 1) := by decide +kernel
theorem dX11_layCells_2 : decode cX11_layCells 2 = .ok (.iload_n 3, 1) := by decide +kernel
theorem dX11_layCells_3 : decode cX11_layCells 3 = .ok (.sipush 128, 3) := by decide +kernel
theorem dX11_layCells_6 : decode cX11_layCells 6 = .ok (.if_icmp .ge 16, 3) := by decide +kernel
theorem dX11_layCells_9 : decode cX11_layCells 9 = .ok (.aload_n 0, 1) := by decide +kernel
theorem dX11_layCells_10 : decode cX11_layCells 10 = .ok (.getfield 127, 3) := by decide +kernel
theorem dX11_layCells_13 : decode cX11_layCells 13 = .ok (.iload_n 3, 1) := by decide +kernel
theorem dX11_layCells_14 : decode cX11_layCells 14 = .ok (.iconst (-1), 1) := by decide +kernel
theorem dX11_layCells_15 : decode cX11_layCells 15 = .ok (.iastore, 1) := by decide +kernel
theorem dX11_layCells_16 : decode cX11_layCells 16 = .ok (.iinc 3 1, 3) := by decide +kernel
theorem dX11_layCells_19 : decode cX11_layCells 19 = .ok (.goto (-17), 3) := by decide +kernel
theorem dX11_layCells_22 : decode cX11_layCells 22 = .ok (.iconst 0, 1) := by decide +kernel
theorem dX11_layCells_23 : decode cX11_layCells 23 = .ok (.istore_n 3, 1) := by decide +kernel
theorem dX11_layCells_24 : decode cX11_layCells 24 = .ok (.iload_n 3, 1) := by decide +kernel
theorem dX11_layCells_25 : decode cX11_layCells 25 = .ok (.bipush 100, 2) := by decide +kernel
theorem dX11_layCells_27 : decode cX11_layCells 27 = .ok (.if_icmp .ge 39, 3) := by decide +kernel
theorem dX11_layCells_30 : decode cX11_layCells 30 = .ok (.aload_n 0, 1) := by decide +kernel
theorem dX11_layCells_31 : decode cX11_layCells 31 = .ok (.iload_n 3, 1) := by decide +kernel
theorem dX11_layCells_32 : decode cX11_layCells 32 = .ok (.invokevirtual 333, 3) := by decide +kernel
theorem dX11_layCells_35 : decode cX11_layCells 35 = .ok (.ifCond .eq 25, 3) := by decide +kernel
theorem dX11_layCells_38 : decode cX11_layCells 38 = .ok (.aload_n 0, 1) := by decide +kernel
theorem dX11_layCells_39 : decode cX11_layCells 39 = .ok (.getfield 127, 3) := by decide +kernel
theorem dX11_layCells_42 : decode cX11_layCells 42 = .ok (.bipush 64, 2) := by decide +kernel
theorem dX11_layCells_44 : decode cX11_layCells 44 = .ok (.iload_n 2, 1) := by decide +kernel
theorem dX11_layCells_45 : decode cX11_layCells 45 = .ok (.iload_n 3, 1) := by decide +kernel
theorem dX11_layCells_46 : decode cX11_layCells 46 = .ok (.bipush 10, 2) := by decide +kernel
theorem dX11_layCells_48 : decode cX11_layCells 48 = .ok (.idiv, 1) := by decide +kernel
theorem dX11_layCells_49 : decode cX11_layCells 49 = .ok (.imul, 1) := by decide +kernel
theorem dX11_layCells_50 : decode cX11_layCells 50 = .ok (.iadd, 1) := by decide +kernel
theorem dX11_layCells_51 : decode cX11_layCells 51 = .ok (.iload_n 1, 1) := by decide +kernel
theorem dX11_layCells_52 : decode cX11_layCells 52 = .ok (.iload_n 3, 1) := by decide +kernel
theorem dX11_layCells_53 : decode cX11_layCells 53 = .ok (.bipush 10, 2) := by decide +kernel
theorem dX11_layCells_55 : decode cX11_layCells 55 = .ok (.irem, 1) := by decide +kernel
theorem dX11_layCells_56 : decode cX11_layCells 56 = .ok (.imul, 1) := by decide +kernel
theorem dX11_layCells_57 : decode cX11_layCells 57 = .ok (.isub, 1) := by decide +kernel
theorem dX11_layCells_58 : decode cX11_layCells 58 = .ok (.iconst 0, 1) := by decide +kernel
theorem dX11_layCells_59 : decode cX11_layCells 59 = .ok (.iastore, 1) := by decide +kernel
theorem dX11_layCells_60 : decode cX11_layCells 60 = .ok (.iinc 3 1, 3) := by decide +kernel
theorem dX11_layCells_63 : decode cX11_layCells 63 = .ok (.goto (-39), 3) := by decide +kernel
theorem dX11_layCells_66 : decode cX11_layCells 66 = .ok (.aload_n 0, 1) := by decide +kernel
theorem dX11_layCells_67 : decode cX11_layCells 67 = .ok (.iconst 0, 1) := by decide +kernel
theorem dX11_layCells_68 : decode cX11_layCells 68 = .ok (.putfield 418, 3) := by decide +kernel
theorem dX11_layCells_71 : decode cX11_layCells 71 = .ok (.iconst 0, 1) := by decide +kernel
theorem dX11_layCells_72 : decode cX11_layCells 72 = .ok (.istore_n 3, 1) := by decide +kernel
theorem dX11_layCells_73 : decode cX11_layCells 73 = .ok (.iload_n 3, 1) := by decide +kernel
theorem dX11_layCells_74 : decode cX11_layCells 74 = .ok (.sipush 128, 3) := by decide +kernel
theorem dX11_layCells_77 : decode cX11_layCells 77 = .ok (.if_icmp .ge 41, 3) := by decide +kernel
theorem dX11_layCells_80 : decode cX11_layCells 80 = .ok (.aload_n 0, 1) := by decide +kernel
theorem dX11_layCells_81 : decode cX11_layCells 81 = .ok (.getfield 127, 3) := by decide +kernel
theorem dX11_layCells_84 : decode cX11_layCells 84 = .ok (.iload_n 3, 1) := by decide +kernel
theorem dX11_layCells_85 : decode cX11_layCells 85 = .ok (.iaload, 1) := by decide +kernel
theorem dX11_layCells_86 : decode cX11_layCells 86 = .ok (.ifCond .ge 6, 3) := by decide +kernel
theorem dX11_layCells_89 : decode cX11_layCells 89 = .ok (.goto 23, 3) := by decide +kernel
theorem dX11_layCells_92 : decode cX11_layCells 92 = .ok (.aload_n 0, 1) := by decide +kernel
theorem dX11_layCells_93 : decode cX11_layCells 93 = .ok (.getfield 127, 3) := by decide +kernel
theorem dX11_layCells_96 : decode cX11_layCells 96 = .ok (.iload_n 3, 1) := by decide +kernel
theorem dX11_layCells_97 : decode cX11_layCells 97 = .ok (.aload_n 0, 1) := by decide +kernel
theorem dX11_layCells_98 : decode cX11_layCells 98 = .ok (.getfield 418, 3) := by decide +kernel
theorem dX11_layCells_101 : decode cX11_layCells 101 = .ok (.iastore, 1) := by decide +kernel
theorem dX11_layCells_102 : decode cX11_layCells 102 = .ok (.aload_n 0, 1) := by decide +kernel
theorem dX11_layCells_103 : decode cX11_layCells 103 = .ok (.dup, 1) := by decide +kernel
theorem dX11_layCells_104 : decode cX11_layCells 104 = .ok (.getfield 418, 3) := by decide +kernel
theorem dX11_layCells_107 : decode cX11_layCells 107 = .ok (.iconst 1, 1) := by decide +kernel
theorem dX11_layCells_108 : decode cX11_layCells 108 = .ok (.iadd, 1) := by decide +kernel
theorem dX11_layCells_109 : decode cX11_layCells 109 = .ok (.putfield 418, 3) := by decide +kernel
theorem dX11_layCells_112 : decode cX11_layCells 112 = .ok (.iinc 3 1, 3) := by decide +kernel
theorem dX11_layCells_115 : decode cX11_layCells 115 = .ok (.goto (-42), 3) := by decide +kernel
theorem dX11_layCells_118 : decode cX11_layCells 118 = .ok (.iconst 0, 1) := by decide +kernel
theorem dX11_layCells_119 : decode cX11_layCells 119 = .ok (.istore_n 3, 1) := by decide +kernel
theorem dX11_layCells_120 : decode cX11_layCells 120 = .ok (.iload_n 3, 1) := by decide +kernel
theorem dX11_layCells_121 : decode cX11_layCells 121 = .ok (.bipush 100, 2) := by decide +kernel
theorem dX11_layCells_123 : decode cX11_layCells 123 = .ok (.if_icmp .ge 48, 3) := by decide +kernel
theorem dX11_layCells_126 : decode cX11_layCells 126 = .ok (.aload_n 0, 1) := by decide +kernel
theorem dX11_layCells_127 : decode cX11_layCells 127 = .ok (.getfield 121, 3) := by decide +kernel
theorem dX11_layCells_130 : decode cX11_layCells 130 = .ok (.iload_n 3, 1) := by decide +kernel
theorem dX11_layCells_131 : decode cX11_layCells 131 = .ok (.aload_n 0, 1) := by decide +kernel
theorem dX11_layCells_132 : decode cX11_layCells 132 = .ok (.iload_n 3, 1) := by decide +kernel
theorem dX11_layCells_133 : decode cX11_layCells 133 = .ok (.invokevirtual 333, 3) := by decide +kernel
theorem dX11_layCells_136 : decode cX11_layCells 136 = .ok (.ifCond .eq 27, 3) := by decide +kernel
theorem dX11_layCells_139 : decode cX11_layCells 139 = .ok (.aload_n 0, 1) := by decide +kernel
theorem dX11_layCells_140 : decode cX11_layCells 140 = .ok (.getfield 127, 3) := by decide +kernel
theorem dX11_layCells_143 : decode cX11_layCells 143 = .ok (.bipush 64, 2) := by decide +kernel
theorem dX11_layCells_145 : decode cX11_layCells 145 = .ok (.iload_n 2, 1) := by decide +kernel
theorem dX11_layCells_146 : decode cX11_layCells 146 = .ok (.iload_n 3, 1) := by decide +kernel
theorem dX11_layCells_147 : decode cX11_layCells 147 = .ok (.bipush 10, 2) := by decide +kernel
theorem dX11_layCells_149 : decode cX11_layCells 149 = .ok (.idiv, 1) := by decide +kernel
theorem dX11_layCells_150 : decode cX11_layCells 150 = .ok (.imul, 1) := by decide +kernel
theorem dX11_layCells_151 : decode cX11_layCells 151 = .ok (.iadd, 1) := by decide +kernel
theorem dX11_layCells_152 : decode cX11_layCells 152 = .ok (.iload_n 1, 1) := by decide +kernel
theorem dX11_layCells_153 : decode cX11_layCells 153 = .ok (.iload_n 3, 1) := by decide +kernel
theorem dX11_layCells_154 : decode cX11_layCells 154 = .ok (.bipush 10, 2) := by decide +kernel
theorem dX11_layCells_156 : decode cX11_layCells 156 = .ok (.irem, 1) := by decide +kernel
theorem dX11_layCells_157 : decode cX11_layCells 157 = .ok (.imul, 1) := by decide +kernel
theorem dX11_layCells_158 : decode cX11_layCells 158 = .ok (.isub, 1) := by decide +kernel
theorem dX11_layCells_159 : decode cX11_layCells 159 = .ok (.iaload, 1) := by decide +kernel
theorem dX11_layCells_160 : decode cX11_layCells 160 = .ok (.goto 4, 3) := by decide +kernel
theorem dX11_layCells_163 : decode cX11_layCells 163 = .ok (.iconst (-1), 1) := by decide +kernel
theorem dX11_layCells_164 : decode cX11_layCells 164 = .ok (.iastore, 1) := by decide +kernel
theorem dX11_layCells_165 : decode cX11_layCells 165 = .ok (.iinc 3 1, 3) := by decide +kernel
theorem dX11_layCells_168 : decode cX11_layCells 168 = .ok (.goto (-48), 3) := by decide +kernel
theorem dX11_layCells_171 : decode cX11_layCells 171 = .ok (.return_, 1) := by decide +kernel
theorem dX11_layClashes_0 : decode cX11_layClashes 0 = .ok (.aload_n 0, 1) := by decide +kernel
theorem dX11_layClashes_1 : decode cX11_layClashes 1 = .ok (.iconst 0, 1) := by decide +kernel
theorem dX11_layClashes_2 : decode cX11_layClashes 2 = .ok (.putfield 421, 3) := by decide +kernel
theorem dX11_layClashes_5 : decode cX11_layClashes 5 = .ok (.iconst 0, 1) := by decide +kernel
theorem dX11_layClashes_6 : decode cX11_layClashes 6 = .ok (.istore_n 1, 1) := by decide +kernel
theorem dX11_layClashes_7 : decode cX11_layClashes 7 = .ok (.iload_n 1, 1) := by decide +kernel
theorem dX11_layClashes_8 : decode cX11_layClashes 8 = .ok (.bipush 100, 2) := by decide +kernel
theorem dX11_layClashes_10 : decode cX11_layClashes 10 = .ok (.if_icmp .ge 118, 3) := by decide +kernel
theorem dX11_layClashes_13 : decode cX11_layClashes 13 = .ok (.aload_n 0, 1) := by decide +kernel
theorem dX11_layClashes_14 : decode cX11_layClashes 14 = .ok (.getfield 124, 3) := by decide +kernel
theorem dX11_layClashes_17 : decode cX11_layClashes 17 = .ok (.iload_n 1, 1) := by decide +kernel
theorem dX11_layClashes_18 : decode cX11_layClashes 18 = .ok (.iconst 0, 1) := by decide +kernel
theorem dX11_layClashes_19 : decode cX11_layClashes 19 = .ok (.bastore, 1) := by decide +kernel
theorem dX11_layClashes_20 : decode cX11_layClashes 20 = .ok (.iconst 0, 1) := by decide +kernel
theorem dX11_layClashes_21 : decode cX11_layClashes 21 = .ok (.istore_n 2, 1) := by decide +kernel
theorem dX11_layClashes_22 : decode cX11_layClashes 22 = .ok (.iload_n 2, 1) := by decide +kernel
theorem dX11_layClashes_23 : decode cX11_layClashes 23 = .ok (.iload_n 1, 1) := by decide +kernel
theorem dX11_layClashes_24 : decode cX11_layClashes 24 = .ok (.if_icmp .ge 75, 3) := by decide +kernel
theorem dX11_layClashes_27 : decode cX11_layClashes 27 = .ok (.aload_n 0, 1) := by decide +kernel
theorem dX11_layClashes_28 : decode cX11_layClashes 28 = .ok (.iload_n 1, 1) := by decide +kernel
theorem dX11_layClashes_29 : decode cX11_layClashes 29 = .ok (.invokevirtual 333, 3) := by decide +kernel
theorem dX11_layClashes_32 : decode cX11_layClashes 32 = .ok (.ifCond .eq 67, 3) := by decide +kernel
theorem dX11_layClashes_35 : decode cX11_layClashes 35 = .ok (.aload_n 0, 1) := by decide +kernel
theorem dX11_layClashes_36 : decode cX11_layClashes 36 = .ok (.getfield 124, 3) := by decide +kernel
theorem dX11_layClashes_39 : decode cX11_layClashes 39 = .ok (.iload_n 1, 1) := by decide +kernel
theorem dX11_layClashes_40 : decode cX11_layClashes 40 = .ok (.aload_n 0, 1) := by decide +kernel
theorem dX11_layClashes_41 : decode cX11_layClashes 41 = .ok (.getfield 124, 3) := by decide +kernel
theorem dX11_layClashes_44 : decode cX11_layClashes 44 = .ok (.iload_n 1, 1) := by decide +kernel
theorem dX11_layClashes_45 : decode cX11_layClashes 45 = .ok (.baload, 1) := by decide +kernel
theorem dX11_layClashes_46 : decode cX11_layClashes 46 = .ok (.ifCond .ne 41, 3) := by decide +kernel
theorem dX11_layClashes_49 : decode cX11_layClashes 49 = .ok (.aload_n 0, 1) := by decide +kernel
theorem dX11_layClashes_50 : decode cX11_layClashes 50 = .ok (.iload_n 2, 1) := by decide +kernel
theorem dX11_layClashes_51 : decode cX11_layClashes 51 = .ok (.invokevirtual 333, 3) := by decide +kernel
theorem dX11_layClashes_54 : decode cX11_layClashes 54 = .ok (.ifCond .eq 37, 3) := by decide +kernel
theorem dX11_layClashes_57 : decode cX11_layClashes 57 = .ok (.aload_n 0, 1) := by decide +kernel
theorem dX11_layClashes_58 : decode cX11_layClashes 58 = .ok (.getfield 118, 3) := by decide +kernel
theorem dX11_layClashes_61 : decode cX11_layClashes 61 = .ok (.iload_n 2, 1) := by decide +kernel
theorem dX11_layClashes_62 : decode cX11_layClashes 62 = .ok (.iaload, 1) := by decide +kernel
theorem dX11_layClashes_63 : decode cX11_layClashes 63 = .ok (.aload_n 0, 1) := by decide +kernel
theorem dX11_layClashes_64 : decode cX11_layClashes 64 = .ok (.getfield 118, 3) := by decide +kernel
theorem dX11_layClashes_67 : decode cX11_layClashes 67 = .ok (.iload_n 1, 1) := by decide +kernel
theorem dX11_layClashes_68 : decode cX11_layClashes 68 = .ok (.iaload, 1) := by decide +kernel
theorem dX11_layClashes_69 : decode cX11_layClashes 69 = .ok (.if_icmp .ne 22, 3) := by decide +kernel
theorem dX11_layClashes_72 : decode cX11_layClashes 72 = .ok (.aload_n 0, 1) := by decide +kernel
theorem dX11_layClashes_73 : decode cX11_layClashes 73 = .ok (.getfield 121, 3) := by decide +kernel
theorem dX11_layClashes_76 : decode cX11_layClashes 76 = .ok (.iload_n 2, 1) := by decide +kernel
theorem dX11_layClashes_77 : decode cX11_layClashes 77 = .ok (.iaload, 1) := by decide +kernel
theorem dX11_layClashes_78 : decode cX11_layClashes 78 = .ok (.aload_n 0, 1) := by decide +kernel
theorem dX11_layClashes_79 : decode cX11_layClashes 79 = .ok (.getfield 121, 3) := by decide +kernel
theorem dX11_layClashes_82 : decode cX11_layClashes 82 = .ok (.iload_n 1, 1) := by decide +kernel
theorem dX11_layClashes_83 : decode cX11_layClashes 83 = .ok (.iaload, 1) := by decide +kernel
theorem dX11_layClashes_84 : decode cX11_layClashes 84 = .ok (.if_icmp .ne 7, 3) := by decide +kernel
theorem dX11_layClashes_87 : decode cX11_layClashes 87 = .ok (.iconst 1, 1) := by decide +kernel
theorem dX11_layClashes_88 : decode cX11_layClashes 88 = .ok (.goto 4, 3) := by decide +kernel
theorem dX11_layClashes_91 : decode cX11_layClashes 91 = .ok (.iconst 0, 1) := by decide +kernel
theorem dX11_layClashes_92 : decode cX11_layClashes 92 = .ok (.bastore, 1) := by decide +kernel
theorem dX11_layClashes_93 : decode cX11_layClashes 93 = .ok (.iinc 2 1, 3) := by decide +kernel
theorem dX11_layClashes_96 : decode cX11_layClashes 96 = .ok (.goto (-74), 3) := by decide +kernel
theorem dX11_layClashes_99 : decode cX11_layClashes 99 = .ok (.aload_n 0, 1) := by decide +kernel
theorem dX11_layClashes_100 : decode cX11_layClashes 100 = .ok (.dup, 1) := by decide +kernel
theorem dX11_layClashes_101 : decode cX11_layClashes 101 = .ok (.getfield 421, 3) := by decide +kernel
theorem dX11_layClashes_104 : decode cX11_layClashes 104 = .ok (.aload_n 0, 1) := by decide +kernel
theorem dX11_layClashes_105 : decode cX11_layClashes 105 = .ok (.getfield 124, 3) := by decide +kernel
theorem dX11_layClashes_108 : decode cX11_layClashes 108 = .ok (.iload_n 1, 1) := by decide +kernel
theorem dX11_layClashes_109 : decode cX11_layClashes 109 = .ok (.baload, 1) := by decide +kernel
theorem dX11_layClashes_110 : decode cX11_layClashes 110 = .ok (.ifCond .eq 7, 3) := by decide +kernel
theorem dX11_layClashes_113 : decode cX11_layClashes 113 = .ok (.iconst 1, 1) := by decide +kernel
theorem dX11_layClashes_114 : decode cX11_layClashes 114 = .ok (.goto 4, 3) := by decide +kernel
theorem dX11_layClashes_117 : decode cX11_layClashes 117 = .ok (.iconst 0, 1) := by decide +kernel
theorem dX11_layClashes_118 : decode cX11_layClashes 118 = .ok (.iadd, 1) := by decide +kernel
theorem dX11_layClashes_119 : decode cX11_layClashes 119 = .ok (.putfield 421, 3) := by decide +kernel
theorem dX11_layClashes_122 : decode cX11_layClashes 122 = .ok (.iinc 1 1, 3) := by decide +kernel
theorem dX11_layClashes_125 : decode cX11_layClashes 125 = .ok (.goto (-118), 3) := by decide +kernel
theorem dX11_layClashes_128 : decode cX11_layClashes 128 = .ok (.return_, 1) := by decide +kernel
theorem dX11_layPlan_0 : decode cX11_layPlan 0 = .ok (.aload_n 0, 1) := by decide +kernel
theorem dX11_layPlan_1 : decode cX11_layPlan 1 = .ok (.iload_n 1, 1) := by decide +kernel
theorem dX11_layPlan_2 : decode cX11_layPlan 2 = .ok (.iload_n 2, 1) := by decide +kernel
theorem dX11_layPlan_3 : decode cX11_layPlan 3 = .ok (.invokevirtual 424, 3) := by decide +kernel
theorem dX11_layPlan_6 : decode cX11_layPlan 6 = .ok (.aload_n 0, 1) := by decide +kernel
theorem dX11_layPlan_7 : decode cX11_layPlan 7 = .ok (.iload_n 3, 1) := by decide +kernel
theorem dX11_layPlan_8 : decode cX11_layPlan 8 = .ok (.iload 4, 2) := by decide +kernel
theorem dX11_layPlan_10 : decode cX11_layPlan 10 = .ok (.invokevirtual 427, 3) := by decide +kernel
theorem dX11_layPlan_13 : decode cX11_layPlan 13 = .ok (.aload_n 0, 1) := by decide +kernel
theorem dX11_layPlan_14 : decode cX11_layPlan 14 = .ok (.invokevirtual 430, 3) := by decide +kernel
theorem dX11_layPlan_17 : decode cX11_layPlan 17 = .ok (.return_, 1) := by decide +kernel
theorem dX11_layNow_0 : decode cX11_layNow 0 = .ok (.aload_n 0, 1) := by decide +kernel
theorem dX11_layNow_1 : decode cX11_layNow 1 = .ok (.aload_n 0, 1) := by decide +kernel
theorem dX11_layNow_2 : decode cX11_layNow 2 = .ok (.getfield 115, 3) := by decide +kernel
theorem dX11_layNow_5 : decode cX11_layNow 5 = .ok (.iconst 0, 1) := by decide +kernel
theorem dX11_layNow_6 : decode cX11_layNow 6 = .ok (.iaload, 1) := by decide +kernel
theorem dX11_layNow_7 : decode cX11_layNow 7 = .ok (.aload_n 0, 1) := by decide +kernel
theorem dX11_layNow_8 : decode cX11_layNow 8 = .ok (.getfield 115, 3) := by decide +kernel
theorem dX11_layNow_11 : decode cX11_layNow 11 = .ok (.iconst 1, 1) := by decide +kernel
theorem dX11_layNow_12 : decode cX11_layNow 12 = .ok (.iaload, 1) := by decide +kernel
theorem dX11_layNow_13 : decode cX11_layNow 13 = .ok (.aload_n 0, 1) := by decide +kernel
theorem dX11_layNow_14 : decode cX11_layNow 14 = .ok (.getfield 115, 3) := by decide +kernel
theorem dX11_layNow_17 : decode cX11_layNow 17 = .ok (.iconst 2, 1) := by decide +kernel
theorem dX11_layNow_18 : decode cX11_layNow 18 = .ok (.iaload, 1) := by decide +kernel
theorem dX11_layNow_19 : decode cX11_layNow 19 = .ok (.aload_n 0, 1) := by decide +kernel
theorem dX11_layNow_20 : decode cX11_layNow 20 = .ok (.getfield 115, 3) := by decide +kernel
theorem dX11_layNow_23 : decode cX11_layNow 23 = .ok (.iconst 3, 1) := by decide +kernel
theorem dX11_layNow_24 : decode cX11_layNow 24 = .ok (.iaload, 1) := by decide +kernel
theorem dX11_layNow_25 : decode cX11_layNow 25 = .ok (.invokevirtual 433, 3) := by decide +kernel
theorem dX11_layNow_28 : decode cX11_layNow 28 = .ok (.return_, 1) := by decide +kernel
theorem dX11_isLawful_0 : decode cX11_isLawful 0 = .ok (.iconst 0, 1) := by decide +kernel
theorem dX11_isLawful_1 : decode cX11_isLawful 1 = .ok (.istore_n 3, 1) := by decide +kernel
theorem dX11_isLawful_2 : decode cX11_isLawful 2 = .ok (.iload_n 3, 1) := by decide +kernel
theorem dX11_isLawful_3 : decode cX11_isLawful 3 = .ok (.aload_n 0, 1) := by decide +kernel
theorem dX11_isLawful_4 : decode cX11_isLawful 4 = .ok (.invokevirtual 339, 3) := by decide +kernel
theorem dX11_isLawful_7 : decode cX11_isLawful 7 = .ok (.if_icmp .ge 29, 3) := by decide +kernel
theorem dX11_isLawful_10 : decode cX11_isLawful 10 = .ok (.iload_n 1, 1) := by decide +kernel
theorem dX11_isLawful_11 : decode cX11_isLawful 11 = .ok (.aload_n 0, 1) := by decide +kernel
theorem dX11_isLawful_12 : decode cX11_isLawful 12 = .ok (.iload_n 3, 1) := by decide +kernel
theorem dX11_isLawful_13 : decode cX11_isLawful 13 = .ok (.invokevirtual 327, 3) := by decide +kernel
theorem dX11_isLawful_16 : decode cX11_isLawful 16 = .ok (.imul, 1) := by decide +kernel
theorem dX11_isLawful_17 : decode cX11_isLawful 17 = .ok (.iload_n 2, 1) := by decide +kernel
theorem dX11_isLawful_18 : decode cX11_isLawful 18 = .ok (.aload_n 0, 1) := by decide +kernel
theorem dX11_isLawful_19 : decode cX11_isLawful 19 = .ok (.iload_n 3, 1) := by decide +kernel
theorem dX11_isLawful_20 : decode cX11_isLawful 20 = .ok (.invokevirtual 330, 3) := by decide +kernel
theorem dX11_isLawful_23 : decode cX11_isLawful 23 = .ok (.imul, 1) := by decide +kernel
theorem dX11_isLawful_24 : decode cX11_isLawful 24 = .ok (.iadd, 1) := by decide +kernel
theorem dX11_isLawful_25 : decode cX11_isLawful 25 = .ok (.ifCond .lt 5, 3) := by decide +kernel
theorem dX11_isLawful_28 : decode cX11_isLawful 28 = .ok (.iconst 0, 1) := by decide +kernel
theorem dX11_isLawful_29 : decode cX11_isLawful 29 = .ok (.ireturn, 1) := by decide +kernel
theorem dX11_isLawful_30 : decode cX11_isLawful 30 = .ok (.iinc 3 1, 3) := by decide +kernel
theorem dX11_isLawful_33 : decode cX11_isLawful 33 = .ok (.goto (-31), 3) := by decide +kernel
theorem dX11_isLawful_36 : decode cX11_isLawful 36 = .ok (.iconst 1, 1) := by decide +kernel
theorem dX11_isLawful_37 : decode cX11_isLawful 37 = .ok (.ireturn, 1) := by decide +kernel
theorem dX11_isLine_0 : decode cX11_isLine 0 = .ok (.iload_n 0, 1) := by decide +kernel
theorem dX11_isLine_1 : decode cX11_isLine 1 = .ok (.bipush (-3), 2) := by decide +kernel
theorem dX11_isLine_3 : decode cX11_isLine 3 = .ok (.iconst 3, 1) := by decide +kernel
theorem dX11_isLine_4 : decode cX11_isLine 4 = .ok (.invokestatic 221, 3) := by decide +kernel
theorem dX11_isLine_7 : decode cX11_isLine 7 = .ok (.ifCond .eq 26, 3) := by decide +kernel
theorem dX11_isLine_10 : decode cX11_isLine 10 = .ok (.iload_n 1, 1) := by decide +kernel
theorem dX11_isLine_11 : decode cX11_isLine 11 = .ok (.bipush (-3), 2) := by decide +kernel
theorem dX11_isLine_13 : decode cX11_isLine 13 = .ok (.iconst 3, 1) := by decide +kernel
theorem dX11_isLine_14 : decode cX11_isLine 14 = .ok (.invokestatic 221, 3) := by decide +kernel
theorem dX11_isLine_17 : decode cX11_isLine 17 = .ok (.ifCond .eq 16, 3) := by decide +kernel
theorem dX11_isLine_20 : decode cX11_isLine 20 = .ok (.iload_n 0, 1) := by decide +kernel
theorem dX11_isLine_21 : decode cX11_isLine 21 = .ok (.iload_n 1, 1) := by decide +kernel
theorem dX11_isLine_22 : decode cX11_isLine 22 = .ok (.invokestatic 251, 3) := by decide +kernel
theorem dX11_isLine_25 : decode cX11_isLine 25 = .ok (.iconst 1, 1) := by decide +kernel
theorem dX11_isLine_26 : decode cX11_isLine 26 = .ok (.if_icmp .ne 7, 3) := by decide +kernel
theorem dX11_isLine_29 : decode cX11_isLine 29 = .ok (.iconst 1, 1) := by decide +kernel
theorem dX11_isLine_30 : decode cX11_isLine 30 = .ok (.goto 4, 3) := by decide +kernel
theorem dX11_isLine_33 : decode cX11_isLine 33 = .ok (.iconst 0, 1) := by decide +kernel
theorem dX11_isLine_34 : decode cX11_isLine 34 = .ok (.ireturn, 1) := by decide +kernel
theorem dX11_points_0 : decode cX11_points 0 = .ok (.aload_n 0, 1) := by decide +kernel
theorem dX11_points_1 : decode cX11_points 1 = .ok (.invokevirtual 318, 3) := by decide +kernel
theorem dX11_points_4 : decode cX11_points 4 = .ok (.aload_n 0, 1) := by decide +kernel
theorem dX11_points_5 : decode cX11_points 5 = .ok (.invokevirtual 321, 3) := by decide +kernel
theorem dX11_points_8 : decode cX11_points 8 = .ok (.imul, 1) := by decide +kernel
theorem dX11_points_9 : decode cX11_points 9 = .ok (.ireturn, 1) := by decide +kernel
theorem dX11_unordered_0 : decode cX11_unordered 0 = .ok (.iconst 0, 1) := by decide +kernel
theorem dX11_unordered_1 : decode cX11_unordered 1 = .ok (.istore_n 1, 1) := by decide +kernel
theorem dX11_unordered_2 : decode cX11_unordered 2 = .ok (.aload_n 0, 1) := by decide +kernel
theorem dX11_unordered_3 : decode cX11_unordered 3 = .ok (.invokevirtual 348, 3) := by decide +kernel
theorem dX11_unordered_6 : decode cX11_unordered 6 = .ok (.iconst 0, 1) := by decide +kernel
theorem dX11_unordered_7 : decode cX11_unordered 7 = .ok (.istore_n 2, 1) := by decide +kernel
theorem dX11_unordered_8 : decode cX11_unordered 8 = .ok (.iload_n 2, 1) := by decide +kernel
theorem dX11_unordered_9 : decode cX11_unordered 9 = .ok (.bipush 100, 2) := by decide +kernel
theorem dX11_unordered_11 : decode cX11_unordered 11 = .ok (.if_icmp .ge 34, 3) := by decide +kernel
theorem dX11_unordered_14 : decode cX11_unordered 14 = .ok (.iload_n 1, 1) := by decide +kernel
theorem dX11_unordered_15 : decode cX11_unordered 15 = .ok (.aload_n 0, 1) := by decide +kernel
theorem dX11_unordered_16 : decode cX11_unordered 16 = .ok (.iload_n 2, 1) := by decide +kernel
theorem dX11_unordered_17 : decode cX11_unordered 17 = .ok (.invokevirtual 333, 3) := by decide +kernel
theorem dX11_unordered_20 : decode cX11_unordered 20 = .ok (.ifCond .eq 16, 3) := by decide +kernel
theorem dX11_unordered_23 : decode cX11_unordered 23 = .ok (.aload_n 0, 1) := by decide +kernel
theorem dX11_unordered_24 : decode cX11_unordered 24 = .ok (.getfield 87, 3) := by decide +kernel
theorem dX11_unordered_27 : decode cX11_unordered 27 = .ok (.iload_n 2, 1) := by decide +kernel
theorem dX11_unordered_28 : decode cX11_unordered 28 = .ok (.iaload, 1) := by decide +kernel
theorem dX11_unordered_29 : decode cX11_unordered 29 = .ok (.ifCond .ge 7, 3) := by decide +kernel
theorem dX11_unordered_32 : decode cX11_unordered 32 = .ok (.iconst 1, 1) := by decide +kernel
theorem dX11_unordered_33 : decode cX11_unordered 33 = .ok (.goto 4, 3) := by decide +kernel
theorem dX11_unordered_36 : decode cX11_unordered 36 = .ok (.iconst 0, 1) := by decide +kernel
theorem dX11_unordered_37 : decode cX11_unordered 37 = .ok (.iadd, 1) := by decide +kernel
theorem dX11_unordered_38 : decode cX11_unordered 38 = .ok (.istore_n 1, 1) := by decide +kernel
theorem dX11_unordered_39 : decode cX11_unordered 39 = .ok (.iinc 2 1, 3) := by decide +kernel
theorem dX11_unordered_42 : decode cX11_unordered 42 = .ok (.goto (-34), 3) := by decide +kernel
theorem dX11_unordered_45 : decode cX11_unordered 45 = .ok (.iload_n 1, 1) := by decide +kernel
theorem dX11_unordered_46 : decode cX11_unordered 46 = .ok (.ireturn, 1) := by decide +kernel
theorem dX11_plan_0 : decode cX11_plan 0 = .ok (.aload_n 0, 1) := by decide +kernel
theorem dX11_plan_1 : decode cX11_plan 1 = .ok (.invokevirtual 437, 3) := by decide +kernel
theorem dX11_plan_4 : decode cX11_plan 4 = .ok (.iload_n 1, 1) := by decide +kernel
theorem dX11_plan_5 : decode cX11_plan 5 = .ok (.tableswitch 119 0 6 #[43, 68, 73, 78, 83, 103, 114], 43) := by decide +kernel
theorem dX11_plan_48 : decode cX11_plan 48 = .ok (.aload_n 0, 1) := by decide +kernel
theorem dX11_plan_49 : decode cX11_plan 49 = .ok (.aload_n 0, 1) := by decide +kernel
theorem dX11_plan_50 : decode cX11_plan 50 = .ok (.getfield 115, 3) := by decide +kernel
theorem dX11_plan_53 : decode cX11_plan 53 = .ok (.iconst 0, 1) := by decide +kernel
theorem dX11_plan_54 : decode cX11_plan 54 = .ok (.iaload, 1) := by decide +kernel
theorem dX11_plan_55 : decode cX11_plan 55 = .ok (.aload_n 0, 1) := by decide +kernel
theorem dX11_plan_56 : decode cX11_plan 56 = .ok (.getfield 115, 3) := by decide +kernel
theorem dX11_plan_59 : decode cX11_plan 59 = .ok (.iconst 1, 1) := by decide +kernel
theorem dX11_plan_60 : decode cX11_plan 60 = .ok (.iaload, 1) := by decide +kernel
theorem dX11_plan_61 : decode cX11_plan 61 = .ok (.invokevirtual 440, 3) := by decide +kernel
theorem dX11_plan_64 : decode cX11_plan 64 = .ok (.ifCond .eq 7, 3) := by decide +kernel
theorem dX11_plan_67 : decode cX11_plan 67 = .ok (.iconst 1, 1) := by decide +kernel
theorem dX11_plan_68 : decode cX11_plan 68 = .ok (.goto 4, 3) := by decide +kernel
theorem dX11_plan_71 : decode cX11_plan 71 = .ok (.iconst 0, 1) := by decide +kernel
theorem dX11_plan_72 : decode cX11_plan 72 = .ok (.ireturn, 1) := by decide +kernel
theorem dX11_plan_73 : decode cX11_plan 73 = .ok (.aload_n 0, 1) := by decide +kernel
theorem dX11_plan_74 : decode cX11_plan 74 = .ok (.getfield 415, 3) := by decide +kernel
theorem dX11_plan_77 : decode cX11_plan 77 = .ok (.ireturn, 1) := by decide +kernel
theorem dX11_plan_78 : decode cX11_plan 78 = .ok (.aload_n 0, 1) := by decide +kernel
theorem dX11_plan_79 : decode cX11_plan 79 = .ok (.getfield 418, 3) := by decide +kernel
theorem dX11_plan_82 : decode cX11_plan 82 = .ok (.ireturn, 1) := by decide +kernel
theorem dX11_plan_83 : decode cX11_plan 83 = .ok (.aload_n 0, 1) := by decide +kernel
theorem dX11_plan_84 : decode cX11_plan 84 = .ok (.getfield 421, 3) := by decide +kernel
theorem dX11_plan_87 : decode cX11_plan 87 = .ok (.ireturn, 1) := by decide +kernel
theorem dX11_plan_88 : decode cX11_plan 88 = .ok (.aload_n 0, 1) := by decide +kernel
theorem dX11_plan_89 : decode cX11_plan 89 = .ok (.getfield 415, 3) := by decide +kernel
theorem dX11_plan_92 : decode cX11_plan 92 = .ok (.aload_n 0, 1) := by decide +kernel
theorem dX11_plan_93 : decode cX11_plan 93 = .ok (.getfield 418, 3) := by decide +kernel
theorem dX11_plan_96 : decode cX11_plan 96 = .ok (.imul, 1) := by decide +kernel
theorem dX11_plan_97 : decode cX11_plan 97 = .ok (.aload_n 0, 1) := by decide +kernel
theorem dX11_plan_98 : decode cX11_plan 98 = .ok (.invokevirtual 443, 3) := by decide +kernel
theorem dX11_plan_101 : decode cX11_plan 101 = .ok (.isub, 1) := by decide +kernel
theorem dX11_plan_102 : decode cX11_plan 102 = .ok (.aload_n 0, 1) := by decide +kernel
theorem dX11_plan_103 : decode cX11_plan 103 = .ok (.getfield 421, 3) := by decide +kernel
theorem dX11_plan_106 : decode cX11_plan 106 = .ok (.iadd, 1) := by decide +kernel
theorem dX11_plan_107 : decode cX11_plan 107 = .ok (.ireturn, 1) := by decide +kernel
theorem dX11_plan_108 : decode cX11_plan 108 = .ok (.aload_n 0, 1) := by decide +kernel
theorem dX11_plan_109 : decode cX11_plan 109 = .ok (.invokevirtual 348, 3) := by decide +kernel
theorem dX11_plan_112 : decode cX11_plan 112 = .ok (.aload_n 0, 1) := by decide +kernel
theorem dX11_plan_113 : decode cX11_plan 113 = .ok (.invokevirtual 360, 3) := by decide +kernel
theorem dX11_plan_116 : decode cX11_plan 116 = .ok (.iconst 1, 1) := by decide +kernel
theorem dX11_plan_117 : decode cX11_plan 117 = .ok (.iadd, 1) := by decide +kernel
theorem dX11_plan_118 : decode cX11_plan 118 = .ok (.ireturn, 1) := by decide +kernel
theorem dX11_plan_119 : decode cX11_plan 119 = .ok (.aload_n 0, 1) := by decide +kernel
theorem dX11_plan_120 : decode cX11_plan 120 = .ok (.invokevirtual 446, 3) := by decide +kernel
theorem dX11_plan_123 : decode cX11_plan 123 = .ok (.ireturn, 1) := by decide +kernel
theorem dX11_plan_124 : decode cX11_plan 124 = .ok (.iconst (-1), 1) := by decide +kernel
theorem dX11_plan_125 : decode cX11_plan 125 = .ok (.ireturn, 1) := by decide +kernel
theorem dX11_tick_0 : decode cX11_tick 0 = .ok (.aload_n 0, 1) := by decide +kernel
theorem dX11_tick_1 : decode cX11_tick 1 = .ok (.iload_n 1, 1) := by decide +kernel
theorem dX11_tick_2 : decode cX11_tick 2 = .ok (.iload_n 2, 1) := by decide +kernel
theorem dX11_tick_3 : decode cX11_tick 3 = .ok (.invokevirtual 324, 3) := by decide +kernel
theorem dX11_tick_6 : decode cX11_tick 6 = .ok (.ifCond .ne 5, 3) := by decide +kernel
theorem dX11_tick_9 : decode cX11_tick 9 = .ok (.iconst (-1), 1) := by decide +kernel
theorem dX11_tick_10 : decode cX11_tick 10 = .ok (.ireturn, 1) := by decide +kernel
theorem dX11_tick_11 : decode cX11_tick 11 = .ok (.aload_n 0, 1) := by decide +kernel
theorem dX11_tick_12 : decode cX11_tick 12 = .ok (.invokevirtual 437, 3) := by decide +kernel
theorem dX11_tick_15 : decode cX11_tick 15 = .ok (.aload_n 0, 1) := by decide +kernel
theorem dX11_tick_16 : decode cX11_tick 16 = .ok (.getfield 118, 3) := by decide +kernel
theorem dX11_tick_19 : decode cX11_tick 19 = .ok (.bipush 10, 2) := by decide +kernel
theorem dX11_tick_21 : decode cX11_tick 21 = .ok (.iload_n 1, 1) := by decide +kernel
theorem dX11_tick_22 : decode cX11_tick 22 = .ok (.imul, 1) := by decide +kernel
theorem dX11_tick_23 : decode cX11_tick 23 = .ok (.iload_n 2, 1) := by decide +kernel
theorem dX11_tick_24 : decode cX11_tick 24 = .ok (.iadd, 1) := by decide +kernel
theorem dX11_tick_25 : decode cX11_tick 25 = .ok (.iaload, 1) := by decide +kernel
theorem dX11_tick_26 : decode cX11_tick 26 = .ok (.ireturn, 1) := by decide +kernel
theorem dX11_cell_0 : decode cX11_cell 0 = .ok (.aload_n 0, 1) := by decide +kernel
theorem dX11_cell_1 : decode cX11_cell 1 = .ok (.iload_n 1, 1) := by decide +kernel
theorem dX11_cell_2 : decode cX11_cell 2 = .ok (.iload_n 2, 1) := by decide +kernel
theorem dX11_cell_3 : decode cX11_cell 3 = .ok (.invokevirtual 324, 3) := by decide +kernel
theorem dX11_cell_6 : decode cX11_cell 6 = .ok (.ifCond .ne 5, 3) := by decide +kernel
theorem dX11_cell_9 : decode cX11_cell 9 = .ok (.iconst (-1), 1) := by decide +kernel
theorem dX11_cell_10 : decode cX11_cell 10 = .ok (.ireturn, 1) := by decide +kernel
theorem dX11_cell_11 : decode cX11_cell 11 = .ok (.aload_n 0, 1) := by decide +kernel
theorem dX11_cell_12 : decode cX11_cell 12 = .ok (.invokevirtual 437, 3) := by decide +kernel
theorem dX11_cell_15 : decode cX11_cell 15 = .ok (.aload_n 0, 1) := by decide +kernel
theorem dX11_cell_16 : decode cX11_cell 16 = .ok (.getfield 121, 3) := by decide +kernel
theorem dX11_cell_19 : decode cX11_cell 19 = .ok (.bipush 10, 2) := by decide +kernel
theorem dX11_cell_21 : decode cX11_cell 21 = .ok (.iload_n 1, 1) := by decide +kernel
theorem dX11_cell_22 : decode cX11_cell 22 = .ok (.imul, 1) := by decide +kernel
theorem dX11_cell_23 : decode cX11_cell 23 = .ok (.iload_n 2, 1) := by decide +kernel
theorem dX11_cell_24 : decode cX11_cell 24 = .ok (.iadd, 1) := by decide +kernel
theorem dX11_cell_25 : decode cX11_cell 25 = .ok (.iaload, 1) := by decide +kernel
theorem dX11_cell_26 : decode cX11_cell 26 = .ok (.ireturn, 1) := by decide +kernel
theorem dX11_point_0 : decode cX11_point 0 = .ok (.aload_n 0, 1) := by decide +kernel
theorem dX11_point_1 : decode cX11_point 1 = .ok (.invokevirtual 437, 3) := by decide +kernel
theorem dX11_point_4 : decode cX11_point 4 = .ok (.iconst 0, 1) := by decide +kernel
theorem dX11_point_5 : decode cX11_point 5 = .ok (.istore_n 3, 1) := by decide +kernel
theorem dX11_point_6 : decode cX11_point 6 = .ok (.iload_n 3, 1) := by decide +kernel
theorem dX11_point_7 : decode cX11_point 7 = .ok (.bipush 100, 2) := by decide +kernel
theorem dX11_point_9 : decode cX11_point 9 = .ok (.if_icmp .ge 39, 3) := by decide +kernel
theorem dX11_point_12 : decode cX11_point 12 = .ok (.aload_n 0, 1) := by decide +kernel
theorem dX11_point_13 : decode cX11_point 13 = .ok (.iload_n 3, 1) := by decide +kernel
theorem dX11_point_14 : decode cX11_point 14 = .ok (.invokevirtual 333, 3) := by decide +kernel
theorem dX11_point_17 : decode cX11_point 17 = .ok (.ifCond .eq 25, 3) := by decide +kernel
theorem dX11_point_20 : decode cX11_point 20 = .ok (.aload_n 0, 1) := by decide +kernel
theorem dX11_point_21 : decode cX11_point 21 = .ok (.getfield 121, 3) := by decide +kernel
theorem dX11_point_24 : decode cX11_point 24 = .ok (.iload_n 3, 1) := by decide +kernel
theorem dX11_point_25 : decode cX11_point 25 = .ok (.iaload, 1) := by decide +kernel
theorem dX11_point_26 : decode cX11_point 26 = .ok (.iload_n 1, 1) := by decide +kernel
theorem dX11_point_27 : decode cX11_point 27 = .ok (.if_icmp .ne 15, 3) := by decide +kernel
theorem dX11_point_30 : decode cX11_point 30 = .ok (.aload_n 0, 1) := by decide +kernel
theorem dX11_point_31 : decode cX11_point 31 = .ok (.getfield 118, 3) := by decide +kernel
theorem dX11_point_34 : decode cX11_point 34 = .ok (.iload_n 3, 1) := by decide +kernel
theorem dX11_point_35 : decode cX11_point 35 = .ok (.iaload, 1) := by decide +kernel
theorem dX11_point_36 : decode cX11_point 36 = .ok (.iload_n 2, 1) := by decide +kernel
theorem dX11_point_37 : decode cX11_point 37 = .ok (.if_icmp .ne 5, 3) := by decide +kernel
theorem dX11_point_40 : decode cX11_point 40 = .ok (.iload_n 3, 1) := by decide +kernel
theorem dX11_point_41 : decode cX11_point 41 = .ok (.ireturn, 1) := by decide +kernel
theorem dX11_point_42 : decode cX11_point 42 = .ok (.iinc 3 1, 3) := by decide +kernel
theorem dX11_point_45 : decode cX11_point 45 = .ok (.goto (-39), 3) := by decide +kernel
theorem dX11_point_48 : decode cX11_point 48 = .ok (.iconst (-1), 1) := by decide +kernel
theorem dX11_point_49 : decode cX11_point 49 = .ok (.ireturn, 1) := by decide +kernel
theorem dX11_waveAt_0 : decode cX11_waveAt 0 = .ok (.iconst 0, 1) := by decide +kernel
theorem dX11_waveAt_1 : decode cX11_waveAt 1 = .ok (.istore_n 2, 1) := by decide +kernel
theorem dX11_waveAt_2 : decode cX11_waveAt 2 = .ok (.iconst 0, 1) := by decide +kernel
theorem dX11_waveAt_3 : decode cX11_waveAt 3 = .ok (.istore_n 3, 1) := by decide +kernel
theorem dX11_waveAt_4 : decode cX11_waveAt 4 = .ok (.iload_n 3, 1) := by decide +kernel
theorem dX11_waveAt_5 : decode cX11_waveAt 5 = .ok (.bipush 100, 2) := by decide +kernel
theorem dX11_waveAt_7 : decode cX11_waveAt 7 = .ok (.if_icmp .ge 35, 3) := by decide +kernel
theorem dX11_waveAt_10 : decode cX11_waveAt 10 = .ok (.iload_n 2, 1) := by decide +kernel
theorem dX11_waveAt_11 : decode cX11_waveAt 11 = .ok (.aload_n 0, 1) := by decide +kernel
theorem dX11_waveAt_12 : decode cX11_waveAt 12 = .ok (.iload_n 3, 1) := by decide +kernel
theorem dX11_waveAt_13 : decode cX11_waveAt 13 = .ok (.invokevirtual 333, 3) := by decide +kernel
theorem dX11_waveAt_16 : decode cX11_waveAt 16 = .ok (.ifCond .eq 17, 3) := by decide +kernel
theorem dX11_waveAt_19 : decode cX11_waveAt 19 = .ok (.aload_n 0, 1) := by decide +kernel
theorem dX11_waveAt_20 : decode cX11_waveAt 20 = .ok (.getfield 118, 3) := by decide +kernel
theorem dX11_waveAt_23 : decode cX11_waveAt 23 = .ok (.iload_n 3, 1) := by decide +kernel
theorem dX11_waveAt_24 : decode cX11_waveAt 24 = .ok (.iaload, 1) := by decide +kernel
theorem dX11_waveAt_25 : decode cX11_waveAt 25 = .ok (.iload_n 1, 1) := by decide +kernel
theorem dX11_waveAt_26 : decode cX11_waveAt 26 = .ok (.if_icmp .ne 7, 3) := by decide +kernel
theorem dX11_waveAt_29 : decode cX11_waveAt 29 = .ok (.iconst 1, 1) := by decide +kernel
theorem dX11_waveAt_30 : decode cX11_waveAt 30 = .ok (.goto 4, 3) := by decide +kernel
theorem dX11_waveAt_33 : decode cX11_waveAt 33 = .ok (.iconst 0, 1) := by decide +kernel
theorem dX11_waveAt_34 : decode cX11_waveAt 34 = .ok (.iadd, 1) := by decide +kernel
theorem dX11_waveAt_35 : decode cX11_waveAt 35 = .ok (.istore_n 2, 1) := by decide +kernel
theorem dX11_waveAt_36 : decode cX11_waveAt 36 = .ok (.iinc 3 1, 3) := by decide +kernel
theorem dX11_waveAt_39 : decode cX11_waveAt 39 = .ok (.goto (-35), 3) := by decide +kernel
theorem dX11_waveAt_42 : decode cX11_waveAt 42 = .ok (.iload_n 2, 1) := by decide +kernel
theorem dX11_waveAt_43 : decode cX11_waveAt 43 = .ok (.ireturn, 1) := by decide +kernel
theorem dX11_wave_0 : decode cX11_wave 0 = .ok (.iload_n 1, 1) := by decide +kernel
theorem dX11_wave_1 : decode cX11_wave 1 = .ok (.ifCond .ge 5, 3) := by decide +kernel
theorem dX11_wave_4 : decode cX11_wave 4 = .ok (.iconst (-1), 1) := by decide +kernel
theorem dX11_wave_5 : decode cX11_wave 5 = .ok (.ireturn, 1) := by decide +kernel
theorem dX11_wave_6 : decode cX11_wave 6 = .ok (.aload_n 0, 1) := by decide +kernel
theorem dX11_wave_7 : decode cX11_wave 7 = .ok (.invokevirtual 437, 3) := by decide +kernel
theorem dX11_wave_10 : decode cX11_wave 10 = .ok (.aload_n 0, 1) := by decide +kernel
theorem dX11_wave_11 : decode cX11_wave 11 = .ok (.iload_n 1, 1) := by decide +kernel
theorem dX11_wave_12 : decode cX11_wave 12 = .ok (.invokevirtual 449, 3) := by decide +kernel
theorem dX11_wave_15 : decode cX11_wave 15 = .ok (.ireturn, 1) := by decide +kernel
theorem dX11_peak_0 : decode cX11_peak 0 = .ok (.iload_n 1, 1) := by decide +kernel
theorem dX11_peak_1 : decode cX11_peak 1 = .ok (.iconst 0, 1) := by decide +kernel
theorem dX11_peak_2 : decode cX11_peak 2 = .ok (.iconst 2, 1) := by decide +kernel
theorem dX11_peak_3 : decode cX11_peak 3 = .ok (.invokestatic 221, 3) := by decide +kernel
theorem dX11_peak_6 : decode cX11_peak 6 = .ok (.ifCond .ne 5, 3) := by decide +kernel
theorem dX11_peak_9 : decode cX11_peak 9 = .ok (.iconst (-1), 1) := by decide +kernel
theorem dX11_peak_10 : decode cX11_peak 10 = .ok (.ireturn, 1) := by decide +kernel
theorem dX11_peak_11 : decode cX11_peak 11 = .ok (.aload_n 0, 1) := by decide +kernel
theorem dX11_peak_12 : decode cX11_peak 12 = .ok (.invokevirtual 437, 3) := by decide +kernel
theorem dX11_peak_15 : decode cX11_peak 15 = .ok (.iconst 0, 1) := by decide +kernel
theorem dX11_peak_16 : decode cX11_peak 16 = .ok (.istore_n 2, 1) := by decide +kernel
theorem dX11_peak_17 : decode cX11_peak 17 = .ok (.iconst 0, 1) := by decide +kernel
theorem dX11_peak_18 : decode cX11_peak 18 = .ok (.istore_n 3, 1) := by decide +kernel
theorem dX11_peak_19 : decode cX11_peak 19 = .ok (.iconst 0, 1) := by decide +kernel
theorem dX11_peak_20 : decode cX11_peak 20 = .ok (.istore 4, 2) := by decide +kernel
theorem dX11_peak_22 : decode cX11_peak 22 = .ok (.iload 4, 2) := by decide +kernel
theorem dX11_peak_24 : decode cX11_peak 24 = .ok (.aload_n 0, 1) := by decide +kernel
theorem dX11_peak_25 : decode cX11_peak 25 = .ok (.getfield 415, 3) := by decide +kernel
theorem dX11_peak_28 : decode cX11_peak 28 = .ok (.if_icmp .ge 43, 3) := by decide +kernel
theorem dX11_peak_31 : decode cX11_peak 31 = .ok (.aload_n 0, 1) := by decide +kernel
theorem dX11_peak_32 : decode cX11_peak 32 = .ok (.iload 4, 2) := by decide +kernel
theorem dX11_peak_34 : decode cX11_peak 34 = .ok (.invokevirtual 449, 3) := by decide +kernel
theorem dX11_peak_37 : decode cX11_peak 37 = .ok (.aload_n 0, 1) := by decide +kernel
theorem dX11_peak_38 : decode cX11_peak 38 = .ok (.iload_n 2, 1) := by decide +kernel
theorem dX11_peak_39 : decode cX11_peak 39 = .ok (.invokevirtual 449, 3) := by decide +kernel
theorem dX11_peak_42 : decode cX11_peak 42 = .ok (.if_icmp .le 6, 3) := by decide +kernel
theorem dX11_peak_45 : decode cX11_peak 45 = .ok (.iload 4, 2) := by decide +kernel
theorem dX11_peak_47 : decode cX11_peak 47 = .ok (.istore_n 2, 1) := by decide +kernel
theorem dX11_peak_48 : decode cX11_peak 48 = .ok (.iload_n 3, 1) := by decide +kernel
theorem dX11_peak_49 : decode cX11_peak 49 = .ok (.aload_n 0, 1) := by decide +kernel
theorem dX11_peak_50 : decode cX11_peak 50 = .ok (.iload 4, 2) := by decide +kernel
theorem dX11_peak_52 : decode cX11_peak 52 = .ok (.invokevirtual 449, 3) := by decide +kernel
theorem dX11_peak_55 : decode cX11_peak 55 = .ok (.ifCond .ne 7, 3) := by decide +kernel
theorem dX11_peak_58 : decode cX11_peak 58 = .ok (.iconst 1, 1) := by decide +kernel
theorem dX11_peak_59 : decode cX11_peak 59 = .ok (.goto 4, 3) := by decide +kernel
theorem dX11_peak_62 : decode cX11_peak 62 = .ok (.iconst 0, 1) := by decide +kernel
theorem dX11_peak_63 : decode cX11_peak 63 = .ok (.iadd, 1) := by decide +kernel
theorem dX11_peak_64 : decode cX11_peak 64 = .ok (.istore_n 3, 1) := by decide +kernel
theorem dX11_peak_65 : decode cX11_peak 65 = .ok (.iinc 4 1, 3) := by decide +kernel
theorem dX11_peak_68 : decode cX11_peak 68 = .ok (.goto (-46), 3) := by decide +kernel
theorem dX11_peak_71 : decode cX11_peak 71 = .ok (.iload_n 1, 1) := by decide +kernel
theorem dX11_peak_72 : decode cX11_peak 72 = .ok (.ifCond .ne 7, 3) := by decide +kernel
theorem dX11_peak_75 : decode cX11_peak 75 = .ok (.iload_n 2, 1) := by decide +kernel
theorem dX11_peak_76 : decode cX11_peak 76 = .ok (.goto 17, 3) := by decide +kernel
theorem dX11_peak_79 : decode cX11_peak 79 = .ok (.iload_n 1, 1) := by decide +kernel
theorem dX11_peak_80 : decode cX11_peak 80 = .ok (.iconst 1, 1) := by decide +kernel
theorem dX11_peak_81 : decode cX11_peak 81 = .ok (.if_icmp .ne 11, 3) := by decide +kernel
theorem dX11_peak_84 : decode cX11_peak 84 = .ok (.aload_n 0, 1) := by decide +kernel
theorem dX11_peak_85 : decode cX11_peak 85 = .ok (.iload_n 2, 1) := by decide +kernel
theorem dX11_peak_86 : decode cX11_peak 86 = .ok (.invokevirtual 449, 3) := by decide +kernel
theorem dX11_peak_89 : decode cX11_peak 89 = .ok (.goto 4, 3) := by decide +kernel
theorem dX11_peak_92 : decode cX11_peak 92 = .ok (.iload_n 3, 1) := by decide +kernel
theorem dX11_peak_93 : decode cX11_peak 93 = .ok (.ireturn, 1) := by decide +kernel
theorem dX11_offset_0 : decode cX11_offset 0 = .ok (.iload_n 1, 1) := by decide +kernel
theorem dX11_offset_1 : decode cX11_offset 1 = .ok (.iconst 0, 1) := by decide +kernel
theorem dX11_offset_2 : decode cX11_offset 2 = .ok (.aload_n 0, 1) := by decide +kernel
theorem dX11_offset_3 : decode cX11_offset 3 = .ok (.invokevirtual 339, 3) := by decide +kernel
theorem dX11_offset_6 : decode cX11_offset 6 = .ok (.iconst 1, 1) := by decide +kernel
theorem dX11_offset_7 : decode cX11_offset 7 = .ok (.isub, 1) := by decide +kernel
theorem dX11_offset_8 : decode cX11_offset 8 = .ok (.invokestatic 221, 3) := by decide +kernel
theorem dX11_offset_11 : decode cX11_offset 11 = .ok (.ifCond .ne 7, 3) := by decide +kernel
theorem dX11_offset_14 : decode cX11_offset 14 = .ok (.sipush (-1000), 3) := by decide +kernel
theorem dX11_offset_17 : decode cX11_offset 17 = .ok (.ireturn, 1) := by decide +kernel
theorem dX11_offset_18 : decode cX11_offset 18 = .ok (.aload_n 0, 1) := by decide +kernel
theorem dX11_offset_19 : decode cX11_offset 19 = .ok (.iload_n 1, 1) := by decide +kernel
theorem dX11_offset_20 : decode cX11_offset 20 = .ok (.invokevirtual 327, 3) := by decide +kernel
theorem dX11_offset_23 : decode cX11_offset 23 = .ok (.istore_n 3, 1) := by decide +kernel
theorem dX11_offset_24 : decode cX11_offset 24 = .ok (.aload_n 0, 1) := by decide +kernel
theorem dX11_offset_25 : decode cX11_offset 25 = .ok (.iload_n 1, 1) := by decide +kernel
theorem dX11_offset_26 : decode cX11_offset 26 = .ok (.invokevirtual 330, 3) := by decide +kernel
theorem dX11_offset_29 : decode cX11_offset 29 = .ok (.istore 4, 2) := by decide +kernel
theorem dX11_offset_31 : decode cX11_offset 31 = .ok (.aload_n 0, 1) := by decide +kernel
theorem dX11_offset_32 : decode cX11_offset 32 = .ok (.getfield 115, 3) := by decide +kernel
theorem dX11_offset_35 : decode cX11_offset 35 = .ok (.iconst 0, 1) := by decide +kernel
theorem dX11_offset_36 : decode cX11_offset 36 = .ok (.iaload, 1) := by decide +kernel
theorem dX11_offset_37 : decode cX11_offset 37 = .ok (.iload_n 3, 1) := by decide +kernel
theorem dX11_offset_38 : decode cX11_offset 38 = .ok (.imul, 1) := by decide +kernel
theorem dX11_offset_39 : decode cX11_offset 39 = .ok (.aload_n 0, 1) := by decide +kernel
theorem dX11_offset_40 : decode cX11_offset 40 = .ok (.getfield 115, 3) := by decide +kernel
theorem dX11_offset_43 : decode cX11_offset 43 = .ok (.iconst 1, 1) := by decide +kernel
theorem dX11_offset_44 : decode cX11_offset 44 = .ok (.iaload, 1) := by decide +kernel
theorem dX11_offset_45 : decode cX11_offset 45 = .ok (.iload 4, 2) := by decide +kernel
theorem dX11_offset_47 : decode cX11_offset 47 = .ok (.imul, 1) := by decide +kernel
theorem dX11_offset_48 : decode cX11_offset 48 = .ok (.iadd, 1) := by decide +kernel
theorem dX11_offset_49 : decode cX11_offset 49 = .ok (.ineg, 1) := by decide +kernel
theorem dX11_offset_50 : decode cX11_offset 50 = .ok (.istore 5, 2) := by decide +kernel
theorem dX11_offset_52 : decode cX11_offset 52 = .ok (.iload_n 2, 1) := by decide +kernel
theorem dX11_offset_53 : decode cX11_offset 53 = .ok (.tableswitch 90 0 5 #[39, 41, 44, 50, 69, 72], 39) := by decide +kernel
theorem dX11_offset_92 : decode cX11_offset 92 = .ok (.iload_n 3, 1) := by decide +kernel
theorem dX11_offset_93 : decode cX11_offset 93 = .ok (.ireturn, 1) := by decide +kernel
theorem dX11_offset_94 : decode cX11_offset 94 = .ok (.iload 4, 2) := by decide +kernel
theorem dX11_offset_96 : decode cX11_offset 96 = .ok (.ireturn, 1) := by decide +kernel
theorem dX11_offset_97 : decode cX11_offset 97 = .ok (.aload_n 0, 1) := by decide +kernel
theorem dX11_offset_98 : decode cX11_offset 98 = .ok (.iload_n 1, 1) := by decide +kernel
theorem dX11_offset_99 : decode cX11_offset 99 = .ok (.invokevirtual 452, 3) := by decide +kernel
theorem dX11_offset_102 : decode cX11_offset 102 = .ok (.ireturn, 1) := by decide +kernel
theorem dX11_offset_103 : decode cX11_offset 103 = .ok (.aload_n 0, 1) := by decide +kernel
theorem dX11_offset_104 : decode cX11_offset 104 = .ok (.getfield 115, 3) := by decide +kernel
theorem dX11_offset_107 : decode cX11_offset 107 = .ok (.iconst 3, 1) := by decide +kernel
theorem dX11_offset_108 : decode cX11_offset 108 = .ok (.iaload, 1) := by decide +kernel
theorem dX11_offset_109 : decode cX11_offset 109 = .ok (.iload_n 3, 1) := by decide +kernel
theorem dX11_offset_110 : decode cX11_offset 110 = .ok (.imul, 1) := by decide +kernel
theorem dX11_offset_111 : decode cX11_offset 111 = .ok (.aload_n 0, 1) := by decide +kernel
theorem dX11_offset_112 : decode cX11_offset 112 = .ok (.getfield 115, 3) := by decide +kernel
theorem dX11_offset_115 : decode cX11_offset 115 = .ok (.iconst 2, 1) := by decide +kernel
