theorem dX8_countWaits_75 : decode cX8_countWaits 75 = .ok (.dup2, 1) := by decide +kernel
theorem dX8_countWaits_76 : decode cX8_countWaits 76 = .ok (.iaload, 1) := by decide +kernel
theorem dX8_countWaits_77 : decode cX8_countWaits 77 = .ok (.iconst 1, 1) := by decide +kernel
theorem dX8_countWaits_78 : decode cX8_countWaits 78 = .ok (.iadd, 1) := by decide +kernel
theorem dX8_countWaits_79 : decode cX8_countWaits 79 = .ok (.iastore, 1) := by decide +kernel
theorem dX8_countWaits_80 : decode cX8_countWaits 80 = .ok (.iinc 5 1, 3) := by decide +kernel
theorem dX8_countWaits_83 : decode cX8_countWaits 83 = .ok (.goto (-49), 3) := by decide +kernel
theorem dX8_countWaits_86 : decode cX8_countWaits 86 = .ok (.iinc 2 1, 3) := by decide +kernel
theorem dX8_countWaits_89 : decode cX8_countWaits 89 = .ok (.goto (-79), 3) := by decide +kernel
theorem dX8_countWaits_92 : decode cX8_countWaits 92 = .ok (.return_, 1) := by decide +kernel
theorem dX8_tileOf_0 : decode cX8_tileOf 0 = .ok (.iload_n 1, 1) := by decide +kernel
theorem dX8_tileOf_1 : decode cX8_tileOf 1 = .ok (.bipush 10, 2) := by decide +kernel
theorem dX8_tileOf_3 : decode cX8_tileOf 3 = .ok (.idiv, 1) := by decide +kernel
theorem dX8_tileOf_4 : decode cX8_tileOf 4 = .ok (.aload_n 0, 1) := by decide +kernel
theorem dX8_tileOf_5 : decode cX8_tileOf 5 = .ok (.getfield 21, 3) := by decide +kernel
theorem dX8_tileOf_8 : decode cX8_tileOf 8 = .ok (.idiv, 1) := by decide +kernel
theorem dX8_tileOf_9 : decode cX8_tileOf 9 = .ok (.aload_n 0, 1) := by decide +kernel
theorem dX8_tileOf_10 : decode cX8_tileOf 10 = .ok (.getfield 28, 3) := by decide +kernel
theorem dX8_tileOf_13 : decode cX8_tileOf 13 = .ok (.imul, 1) := by decide +kernel
theorem dX8_tileOf_14 : decode cX8_tileOf 14 = .ok (.iload_n 1, 1) := by decide +kernel
theorem dX8_tileOf_15 : decode cX8_tileOf 15 = .ok (.bipush 10, 2) := by decide +kernel
theorem dX8_tileOf_17 : decode cX8_tileOf 17 = .ok (.irem, 1) := by decide +kernel
theorem dX8_tileOf_18 : decode cX8_tileOf 18 = .ok (.aload_n 0, 1) := by decide +kernel
theorem dX8_tileOf_19 : decode cX8_tileOf 19 = .ok (.getfield 25, 3) := by decide +kernel
theorem dX8_tileOf_22 : decode cX8_tileOf 22 = .ok (.idiv, 1) := by decide +kernel
theorem dX8_tileOf_23 : decode cX8_tileOf 23 = .ok (.iadd, 1) := by decide +kernel
theorem dX8_tileOf_24 : decode cX8_tileOf 24 = .ok (.ireturn, 1) := by decide +kernel
theorem dX8_enqueue_0 : decode cX8_enqueue 0 = .ok (.aload_n 0, 1) := by decide +kernel
theorem dX8_enqueue_1 : decode cX8_enqueue 1 = .ok (.getfield 74, 3) := by decide +kernel
theorem dX8_enqueue_4 : decode cX8_enqueue 4 = .ok (.bipush 100, 2) := by decide +kernel
theorem dX8_enqueue_6 : decode cX8_enqueue 6 = .ok (.if_icmp .ge 23, 3) := by decide +kernel
theorem dX8_enqueue_9 : decode cX8_enqueue 9 = .ok (.aload_n 0, 1) := by decide +kernel
theorem dX8_enqueue_10 : decode cX8_enqueue 10 = .ok (.getfield 18, 3) := by decide +kernel
theorem dX8_enqueue_13 : decode cX8_enqueue 13 = .ok (.aload_n 0, 1) := by decide +kernel
theorem dX8_enqueue_14 : decode cX8_enqueue 14 = .ok (.getfield 74, 3) := by decide +kernel
theorem dX8_enqueue_17 : decode cX8_enqueue 17 = .ok (.iload_n 1, 1) := by decide +kernel
theorem dX8_enqueue_18 : decode cX8_enqueue 18 = .ok (.iastore, 1) := by decide +kernel
theorem dX8_enqueue_19 : decode cX8_enqueue 19 = .ok (.aload_n 0, 1) := by decide +kernel
theorem dX8_enqueue_20 : decode cX8_enqueue 20 = .ok (.dup, 1) := by decide +kernel
theorem dX8_enqueue_21 : decode cX8_enqueue 21 = .ok (.getfield 74, 3) := by decide +kernel
theorem dX8_enqueue_24 : decode cX8_enqueue 24 = .ok (.iconst 1, 1) := by decide +kernel
theorem dX8_enqueue_25 : decode cX8_enqueue 25 = .ok (.iadd, 1) := by decide +kernel
theorem dX8_enqueue_26 : decode cX8_enqueue 26 = .ok (.putfield 74, 3) := by decide +kernel
theorem dX8_enqueue_29 : decode cX8_enqueue 29 = .ok (.return_, 1) := by decide +kernel
theorem dX8_release_0 : decode cX8_release 0 = .ok (.iload_n 2, 1) := by decide +kernel
theorem dX8_release_1 : decode cX8_release 1 = .ok (.aload_n 0, 1) := by decide +kernel
theorem dX8_release_2 : decode cX8_release 2 = .ok (.getfield 28, 3) := by decide +kernel
theorem dX8_release_5 : decode cX8_release 5 = .ok (.idiv, 1) := by decide +kernel
theorem dX8_release_6 : decode cX8_release 6 = .ok (.aload_n 0, 1) := by decide +kernel
theorem dX8_release_7 : decode cX8_release 7 = .ok (.getfield 21, 3) := by decide +kernel
theorem dX8_release_10 : decode cX8_release 10 = .ok (.imul, 1) := by decide +kernel
theorem dX8_release_11 : decode cX8_release 11 = .ok (.istore_n 3, 1) := by decide +kernel
theorem dX8_release_12 : decode cX8_release 12 = .ok (.iload_n 2, 1) := by decide +kernel
theorem dX8_release_13 : decode cX8_release 13 = .ok (.aload_n 0, 1) := by decide +kernel
theorem dX8_release_14 : decode cX8_release 14 = .ok (.getfield 28, 3) := by decide +kernel
theorem dX8_release_17 : decode cX8_release 17 = .ok (.irem, 1) := by decide +kernel
theorem dX8_release_18 : decode cX8_release 18 = .ok (.aload_n 0, 1) := by decide +kernel
theorem dX8_release_19 : decode cX8_release 19 = .ok (.getfield 25, 3) := by decide +kernel
theorem dX8_release_22 : decode cX8_release 22 = .ok (.imul, 1) := by decide +kernel
theorem dX8_release_23 : decode cX8_release 23 = .ok (.istore 4, 2) := by decide +kernel
theorem dX8_release_25 : decode cX8_release 25 = .ok (.iload_n 3, 1) := by decide +kernel
theorem dX8_release_26 : decode cX8_release 26 = .ok (.istore 5, 2) := by decide +kernel
theorem dX8_release_28 : decode cX8_release 28 = .ok (.iload 5, 2) := by decide +kernel
theorem dX8_release_30 : decode cX8_release 30 = .ok (.aload_n 1, 1) := by decide +kernel
theorem dX8_release_31 : decode cX8_release 31 = .ok (.getfield 42, 3) := by decide +kernel
theorem dX8_release_34 : decode cX8_release 34 = .ok (.iload_n 3, 1) := by decide +kernel
theorem dX8_release_35 : decode cX8_release 35 = .ok (.aload_n 0, 1) := by decide +kernel
theorem dX8_release_36 : decode cX8_release 36 = .ok (.getfield 21, 3) := by decide +kernel
theorem dX8_release_39 : decode cX8_release 39 = .ok (.iadd, 1) := by decide +kernel
theorem dX8_release_40 : decode cX8_release 40 = .ok (.invokestatic 67, 3) := by decide +kernel
theorem dX8_release_43 : decode cX8_release 43 = .ok (.if_icmp .ge 52, 3) := by decide +kernel
theorem dX8_release_46 : decode cX8_release 46 = .ok (.iload 4, 2) := by decide +kernel
theorem dX8_release_48 : decode cX8_release 48 = .ok (.istore 6, 2) := by decide +kernel
theorem dX8_release_50 : decode cX8_release 50 = .ok (.iload 6, 2) := by decide +kernel
theorem dX8_release_52 : decode cX8_release 52 = .ok (.aload_n 1, 1) := by decide +kernel
theorem dX8_release_53 : decode cX8_release 53 = .ok (.getfield 37, 3) := by decide +kernel
theorem dX8_release_56 : decode cX8_release 56 = .ok (.iload 4, 2) := by decide +kernel
theorem dX8_release_58 : decode cX8_release 58 = .ok (.aload_n 0, 1) := by decide +kernel
theorem dX8_release_59 : decode cX8_release 59 = .ok (.getfield 25, 3) := by decide +kernel
theorem dX8_release_62 : decode cX8_release 62 = .ok (.iadd, 1) := by decide +kernel
theorem dX8_release_63 : decode cX8_release 63 = .ok (.invokestatic 67, 3) := by decide +kernel
theorem dX8_release_66 : decode cX8_release 66 = .ok (.if_icmp .ge 23, 3) := by decide +kernel
theorem dX8_release_69 : decode cX8_release 69 = .ok (.aload_n 0, 1) := by decide +kernel
theorem dX8_release_70 : decode cX8_release 70 = .ok (.aload_n 1, 1) := by decide +kernel
theorem dX8_release_71 : decode cX8_release 71 = .ok (.iload 5, 2) := by decide +kernel
theorem dX8_release_73 : decode cX8_release 73 = .ok (.bipush 10, 2) := by decide +kernel
theorem dX8_release_75 : decode cX8_release 75 = .ok (.imul, 1) := by decide +kernel
theorem dX8_release_76 : decode cX8_release 76 = .ok (.iload 6, 2) := by decide +kernel
theorem dX8_release_78 : decode cX8_release 78 = .ok (.iadd, 1) := by decide +kernel
theorem dX8_release_79 : decode cX8_release 79 = .ok (.iload_n 2, 1) := by decide +kernel
theorem dX8_release_80 : decode cX8_release 80 = .ok (.invokevirtual 105, 3) := by decide +kernel
theorem dX8_release_83 : decode cX8_release 83 = .ok (.iinc 6 1, 3) := by decide +kernel
theorem dX8_release_86 : decode cX8_release 86 = .ok (.goto (-36), 3) := by decide +kernel
theorem dX8_release_89 : decode cX8_release 89 = .ok (.iinc 5 1, 3) := by decide +kernel
theorem dX8_release_92 : decode cX8_release 92 = .ok (.goto (-64), 3) := by decide +kernel
theorem dX8_release_95 : decode cX8_release 95 = .ok (.return_, 1) := by decide +kernel
theorem dX8_releaseReaders_0 : decode cX8_releaseReaders 0 = .ok (.iconst 0, 1) := by decide +kernel
theorem dX8_releaseReaders_1 : decode cX8_releaseReaders 1 = .ok (.istore 4, 2) := by decide +kernel
theorem dX8_releaseReaders_3 : decode cX8_releaseReaders 3 = .ok (.iload 4, 2) := by decide +kernel
theorem dX8_releaseReaders_5 : decode cX8_releaseReaders 5 = .ok (.aload_n 1, 1) := by decide +kernel
theorem dX8_releaseReaders_6 : decode cX8_releaseReaders 6 = .ok (.getfield 51, 3) := by decide +kernel
theorem dX8_releaseReaders_9 : decode cX8_releaseReaders 9 = .ok (.if_icmp .ge 97, 3) := by decide +kernel
theorem dX8_releaseReaders_12 : decode cX8_releaseReaders 12 = .ok (.aload_n 1, 1) := by decide +kernel
theorem dX8_releaseReaders_13 : decode cX8_releaseReaders 13 = .ok (.iload_n 2, 1) := by decide +kernel
theorem dX8_releaseReaders_14 : decode cX8_releaseReaders 14 = .ok (.iload 4, 2) := by decide +kernel
theorem dX8_releaseReaders_16 : decode cX8_releaseReaders 16 = .ok (.invokevirtual 109, 3) := by decide +kernel
theorem dX8_releaseReaders_19 : decode cX8_releaseReaders 19 = .ok (.istore 5, 2) := by decide +kernel
theorem dX8_releaseReaders_21 : decode cX8_releaseReaders 21 = .ok (.iload 5, 2) := by decide +kernel
theorem dX8_releaseReaders_23 : decode cX8_releaseReaders 23 = .ok (.iconst (-1), 1) := by decide +kernel
theorem dX8_releaseReaders_24 : decode cX8_releaseReaders 24 = .ok (.if_icmp .ne 7, 3) := by decide +kernel
theorem dX8_releaseReaders_27 : decode cX8_releaseReaders 27 = .ok (.iload_n 3, 1) := by decide +kernel
theorem dX8_releaseReaders_28 : decode cX8_releaseReaders 28 = .ok (.goto 9, 3) := by decide +kernel
theorem dX8_releaseReaders_31 : decode cX8_releaseReaders 31 = .ok (.aload_n 0, 1) := by decide +kernel
theorem dX8_releaseReaders_32 : decode cX8_releaseReaders 32 = .ok (.iload 5, 2) := by decide +kernel
theorem dX8_releaseReaders_34 : decode cX8_releaseReaders 34 = .ok (.invokevirtual 99, 3) := by decide +kernel
theorem dX8_releaseReaders_37 : decode cX8_releaseReaders 37 = .ok (.istore 6, 2) := by decide +kernel
theorem dX8_releaseReaders_39 : decode cX8_releaseReaders 39 = .ok (.iload 6, 2) := by decide +kernel
theorem dX8_releaseReaders_41 : decode cX8_releaseReaders 41 = .ok (.iload_n 3, 1) := by decide +kernel
theorem dX8_releaseReaders_42 : decode cX8_releaseReaders 42 = .ok (.if_icmp .ne 6, 3) := by decide +kernel
theorem dX8_releaseReaders_45 : decode cX8_releaseReaders 45 = .ok (.goto 55, 3) := by decide +kernel
theorem dX8_releaseReaders_48 : decode cX8_releaseReaders 48 = .ok (.aload_n 0, 1) := by decide +kernel
theorem dX8_releaseReaders_49 : decode cX8_releaseReaders 49 = .ok (.getfield 15, 3) := by decide +kernel
theorem dX8_releaseReaders_52 : decode cX8_releaseReaders 52 = .ok (.iload 6, 2) := by decide +kernel
theorem dX8_releaseReaders_54 : decode cX8_releaseReaders 54 = .ok (.aload_n 0, 1) := by decide +kernel
theorem dX8_releaseReaders_55 : decode cX8_releaseReaders 55 = .ok (.getfield 15, 3) := by decide +kernel
theorem dX8_releaseReaders_58 : decode cX8_releaseReaders 58 = .ok (.iload 6, 2) := by decide +kernel
theorem dX8_releaseReaders_60 : decode cX8_releaseReaders 60 = .ok (.iaload, 1) := by decide +kernel
theorem dX8_releaseReaders_61 : decode cX8_releaseReaders 61 = .ok (.aload_n 0, 1) := by decide +kernel
theorem dX8_releaseReaders_62 : decode cX8_releaseReaders 62 = .ok (.getfield 15, 3) := by decide +kernel
theorem dX8_releaseReaders_65 : decode cX8_releaseReaders 65 = .ok (.iload_n 3, 1) := by decide +kernel
theorem dX8_releaseReaders_66 : decode cX8_releaseReaders 66 = .ok (.iaload, 1) := by decide +kernel
theorem dX8_releaseReaders_67 : decode cX8_releaseReaders 67 = .ok (.iconst 1, 1) := by decide +kernel
theorem dX8_releaseReaders_68 : decode cX8_releaseReaders 68 = .ok (.iadd, 1) := by decide +kernel
theorem dX8_releaseReaders_69 : decode cX8_releaseReaders 69 = .ok (.invokestatic 31, 3) := by decide +kernel
theorem dX8_releaseReaders_72 : decode cX8_releaseReaders 72 = .ok (.iastore, 1) := by decide +kernel
theorem dX8_releaseReaders_73 : decode cX8_releaseReaders 73 = .ok (.aload_n 0, 1) := by decide +kernel
theorem dX8_releaseReaders_74 : decode cX8_releaseReaders 74 = .ok (.getfield 9, 3) := by decide +kernel
theorem dX8_releaseReaders_77 : decode cX8_releaseReaders 77 = .ok (.iload 6, 2) := by decide +kernel
theorem dX8_releaseReaders_79 : decode cX8_releaseReaders 79 = .ok (.dup2, 1) := by decide +kernel
theorem dX8_releaseReaders_80 : decode cX8_releaseReaders 80 = .ok (.iaload, 1) := by decide +kernel
theorem dX8_releaseReaders_81 : decode cX8_releaseReaders 81 = .ok (.iconst 1, 1) := by decide +kernel
theorem dX8_releaseReaders_82 : decode cX8_releaseReaders 82 = .ok (.isub, 1) := by decide +kernel
theorem dX8_releaseReaders_83 : decode cX8_releaseReaders 83 = .ok (.iastore, 1) := by decide +kernel
theorem dX8_releaseReaders_84 : decode cX8_releaseReaders 84 = .ok (.aload_n 0, 1) := by decide +kernel
theorem dX8_releaseReaders_85 : decode cX8_releaseReaders 85 = .ok (.getfield 9, 3) := by decide +kernel
theorem dX8_releaseReaders_88 : decode cX8_releaseReaders 88 = .ok (.iload 6, 2) := by decide +kernel
theorem dX8_releaseReaders_90 : decode cX8_releaseReaders 90 = .ok (.iaload, 1) := by decide +kernel
theorem dX8_releaseReaders_91 : decode cX8_releaseReaders 91 = .ok (.ifCond .ne 9, 3) := by decide +kernel
theorem dX8_releaseReaders_94 : decode cX8_releaseReaders 94 = .ok (.aload_n 0, 1) := by decide +kernel
theorem dX8_releaseReaders_95 : decode cX8_releaseReaders 95 = .ok (.iload 6, 2) := by decide +kernel
theorem dX8_releaseReaders_97 : decode cX8_releaseReaders 97 = .ok (.invokevirtual 77, 3) := by decide +kernel
theorem dX8_releaseReaders_100 : decode cX8_releaseReaders 100 = .ok (.iinc 4 1, 3) := by decide +kernel
theorem dX8_releaseReaders_103 : decode cX8_releaseReaders 103 = .ok (.goto (-100), 3) := by decide +kernel
theorem dX8_releaseReaders_106 : decode cX8_releaseReaders 106 = .ok (.return_, 1) := by decide +kernel
theorem dX8_choose_0 : decode cX8_choose 0 = .ok (.aload_n 0, 1) := by decide +kernel
theorem dX8_choose_1 : decode cX8_choose 1 = .ok (.iconst (-1), 1) := by decide +kernel
theorem dX8_choose_2 : decode cX8_choose 2 = .ok (.putfield 112, 3) := by decide +kernel
theorem dX8_choose_5 : decode cX8_choose 5 = .ok (.iconst 1, 1) := by decide +kernel
theorem dX8_choose_6 : decode cX8_choose 6 = .ok (.istore_n 3, 1) := by decide +kernel
theorem dX8_choose_7 : decode cX8_choose 7 = .ok (.iload_n 3, 1) := by decide +kernel
theorem dX8_choose_8 : decode cX8_choose 8 = .ok (.aload_n 1, 1) := by decide +kernel
theorem dX8_choose_9 : decode cX8_choose 9 = .ok (.getfield 42, 3) := by decide +kernel
theorem dX8_choose_12 : decode cX8_choose 12 = .ok (.if_icmp .gt 101, 3) := by decide +kernel
theorem dX8_choose_15 : decode cX8_choose 15 = .ok (.iconst 1, 1) := by decide +kernel
theorem dX8_choose_16 : decode cX8_choose 16 = .ok (.istore 4, 2) := by decide +kernel
theorem dX8_choose_18 : decode cX8_choose 18 = .ok (.iload 4, 2) := by decide +kernel
theorem dX8_choose_20 : decode cX8_choose 20 = .ok (.aload_n 1, 1) := by decide +kernel
theorem dX8_choose_21 : decode cX8_choose 21 = .ok (.getfield 37, 3) := by decide +kernel
theorem dX8_choose_24 : decode cX8_choose 24 = .ok (.if_icmp .gt 83, 3) := by decide +kernel
theorem dX8_choose_27 : decode cX8_choose 27 = .ok (.iload_n 3, 1) := by decide +kernel
theorem dX8_choose_28 : decode cX8_choose 28 = .ok (.iload 4, 2) := by decide +kernel
theorem dX8_choose_30 : decode cX8_choose 30 = .ok (.imul, 1) := by decide +kernel
theorem dX8_choose_31 : decode cX8_choose 31 = .ok (.iload_n 2, 1) := by decide +kernel
theorem dX8_choose_32 : decode cX8_choose 32 = .ok (.if_icmp .gt 75, 3) := by decide +kernel
theorem dX8_choose_35 : decode cX8_choose 35 = .ok (.aload_n 0, 1) := by decide +kernel
theorem dX8_choose_36 : decode cX8_choose 36 = .ok (.aload_n 1, 1) := by decide +kernel
theorem dX8_choose_37 : decode cX8_choose 37 = .ok (.iload_n 3, 1) := by decide +kernel
theorem dX8_choose_38 : decode cX8_choose 38 = .ok (.iload 4, 2) := by decide +kernel
theorem dX8_choose_40 : decode cX8_choose 40 = .ok (.invokevirtual 115, 3) := by decide +kernel
theorem dX8_choose_43 : decode cX8_choose 43 = .ok (.aload_n 0, 1) := by decide +kernel
theorem dX8_choose_44 : decode cX8_choose 44 = .ok (.getfield 112, 3) := by decide +kernel
theorem dX8_choose_47 : decode cX8_choose 47 = .ok (.iconst (-1), 1) := by decide +kernel
theorem dX8_choose_48 : decode cX8_choose 48 = .ok (.if_icmp .eq 14, 3) := by decide +kernel
theorem dX8_choose_51 : decode cX8_choose 51 = .ok (.aload_n 0, 1) := by decide +kernel
theorem dX8_choose_52 : decode cX8_choose 52 = .ok (.getfield 48, 3) := by decide +kernel
theorem dX8_choose_55 : decode cX8_choose 55 = .ok (.aload_n 0, 1) := by decide +kernel
theorem dX8_choose_56 : decode cX8_choose 56 = .ok (.getfield 118, 3) := by decide +kernel
theorem dX8_choose_59 : decode cX8_choose 59 = .ok (.if_icmp .ge 7, 3) := by decide +kernel
theorem dX8_choose_62 : decode cX8_choose 62 = .ok (.iconst 1, 1) := by decide +kernel
theorem dX8_choose_63 : decode cX8_choose 63 = .ok (.goto 4, 3) := by decide +kernel
theorem dX8_choose_66 : decode cX8_choose 66 = .ok (.iconst 0, 1) := by decide +kernel
theorem dX8_choose_67 : decode cX8_choose 67 = .ok (.istore 5, 2) := by decide +kernel
theorem dX8_choose_69 : decode cX8_choose 69 = .ok (.iload 5, 2) := by decide +kernel
theorem dX8_choose_71 : decode cX8_choose 71 = .ok (.ifCond .eq 30, 3) := by decide +kernel
theorem dX8_choose_74 : decode cX8_choose 74 = .ok (.aload_n 0, 1) := by decide +kernel
theorem dX8_choose_75 : decode cX8_choose 75 = .ok (.aload_n 1, 1) := by decide +kernel
theorem dX8_choose_76 : decode cX8_choose 76 = .ok (.invokevirtual 121, 3) := by decide +kernel
theorem dX8_choose_79 : decode cX8_choose 79 = .ok (.ifCond .le 22, 3) := by decide +kernel
theorem dX8_choose_82 : decode cX8_choose 82 = .ok (.aload_n 0, 1) := by decide +kernel
theorem dX8_choose_83 : decode cX8_choose 83 = .ok (.iload_n 3, 1) := by decide +kernel
theorem dX8_choose_84 : decode cX8_choose 84 = .ok (.putfield 112, 3) := by decide +kernel
theorem dX8_choose_87 : decode cX8_choose 87 = .ok (.aload_n 0, 1) := by decide +kernel
theorem dX8_choose_88 : decode cX8_choose 88 = .ok (.iload 4, 2) := by decide +kernel
theorem dX8_choose_90 : decode cX8_choose 90 = .ok (.putfield 125, 3) := by decide +kernel
theorem dX8_choose_93 : decode cX8_choose 93 = .ok (.aload_n 0, 1) := by decide +kernel
theorem dX8_choose_94 : decode cX8_choose 94 = .ok (.aload_n 0, 1) := by decide +kernel
theorem dX8_choose_95 : decode cX8_choose 95 = .ok (.getfield 48, 3) := by decide +kernel
theorem dX8_choose_98 : decode cX8_choose 98 = .ok (.putfield 118, 3) := by decide +kernel
theorem dX8_choose_101 : decode cX8_choose 101 = .ok (.iinc 4 1, 3) := by decide +kernel
theorem dX8_choose_104 : decode cX8_choose 104 = .ok (.goto (-86), 3) := by decide +kernel
theorem dX8_choose_107 : decode cX8_choose 107 = .ok (.iinc 3 1, 3) := by decide +kernel
theorem dX8_choose_110 : decode cX8_choose 110 = .ok (.goto (-103), 3) := by decide +kernel
theorem dX8_choose_113 : decode cX8_choose 113 = .ok (.aload_n 0, 1) := by decide +kernel
theorem dX8_choose_114 : decode cX8_choose 114 = .ok (.getfield 112, 3) := by decide +kernel
theorem dX8_choose_117 : decode cX8_choose 117 = .ok (.iconst (-1), 1) := by decide +kernel
theorem dX8_choose_118 : decode cX8_choose 118 = .ok (.if_icmp .eq 7, 3) := by decide +kernel
theorem dX8_choose_121 : decode cX8_choose 121 = .ok (.iconst 1, 1) := by decide +kernel
theorem dX8_choose_122 : decode cX8_choose 122 = .ok (.goto 4, 3) := by decide +kernel
theorem dX8_choose_125 : decode cX8_choose 125 = .ok (.iconst 0, 1) := by decide +kernel
theorem dX8_choose_126 : decode cX8_choose 126 = .ok (.ireturn, 1) := by decide +kernel
theorem dX9_init_0 : decode cX9_init 0 = .ok (.aload_n 0, 1) := by decide +kernel
theorem dX9_init_1 : decode cX9_init 1 = .ok (.invokespecial 3, 3) := by decide +kernel
theorem dX9_init_4 : decode cX9_init 4 = .ok (.aload_n 0, 1) := by decide +kernel
theorem dX9_init_5 : decode cX9_init 5 = .ok (.bipush 100, 2) := by decide +kernel
theorem dX9_init_7 : decode cX9_init 7 = .ok (.newarray .int, 2) := by decide +kernel
theorem dX9_init_9 : decode cX9_init 9 = .ok (.putfield 9, 3) := by decide +kernel
theorem dX9_init_12 : decode cX9_init 12 = .ok (.aload_n 0, 1) := by decide +kernel
theorem dX9_init_13 : decode cX9_init 13 = .ok (.bipush 100, 2) := by decide +kernel
theorem dX9_init_15 : decode cX9_init 15 = .ok (.newarray .int, 2) := by decide +kernel
theorem dX9_init_17 : decode cX9_init 17 = .ok (.putfield 15, 3) := by decide +kernel
theorem dX9_init_20 : decode cX9_init 20 = .ok (.aload_n 0, 1) := by decide +kernel
theorem dX9_init_21 : decode cX9_init 21 = .ok (.bipush 100, 2) := by decide +kernel
theorem dX9_init_23 : decode cX9_init 23 = .ok (.newarray .int, 2) := by decide +kernel
theorem dX9_init_25 : decode cX9_init 25 = .ok (.putfield 18, 3) := by decide +kernel
theorem dX9_init_28 : decode cX9_init 28 = .ok (.aload_n 0, 1) := by decide +kernel
theorem dX9_init_29 : decode cX9_init 29 = .ok (.bipush 100, 2) := by decide +kernel
theorem dX9_init_31 : decode cX9_init 31 = .ok (.newarray .int, 2) := by decide +kernel
theorem dX9_init_33 : decode cX9_init 33 = .ok (.putfield 21, 3) := by decide +kernel
theorem dX9_init_36 : decode cX9_init 36 = .ok (.aload_n 0, 1) := by decide +kernel
theorem dX9_init_37 : decode cX9_init 37 = .ok (.bipush 100, 2) := by decide +kernel
theorem dX9_init_39 : decode cX9_init 39 = .ok (.newarray .int, 2) := by decide +kernel
theorem dX9_init_41 : decode cX9_init 41 = .ok (.putfield 24, 3) := by decide +kernel
theorem dX9_init_44 : decode cX9_init 44 = .ok (.aload_n 0, 1) := by decide +kernel
theorem dX9_init_45 : decode cX9_init 45 = .ok (.bipush 100, 2) := by decide +kernel
theorem dX9_init_47 : decode cX9_init 47 = .ok (.newarray .int, 2) := by decide +kernel
theorem dX9_init_49 : decode cX9_init 49 = .ok (.putfield 27, 3) := by decide +kernel
theorem dX9_init_52 : decode cX9_init 52 = .ok (.return_, 1) := by decide +kernel
theorem dX9_weave_0 : decode cX9_weave 0 = .ok (.aload_n 0, 1) := by decide +kernel
theorem dX9_weave_1 : decode cX9_weave 1 = .ok (.getfield 9, 3) := by decide +kernel
theorem dX9_weave_4 : decode cX9_weave 4 = .ok (.iconst (-1), 1) := by decide +kernel
theorem dX9_weave_5 : decode cX9_weave 5 = .ok (.invokestatic 30, 3) := by decide +kernel
theorem dX9_weave_8 : decode cX9_weave 8 = .ok (.aload_n 0, 1) := by decide +kernel
theorem dX9_weave_9 : decode cX9_weave 9 = .ok (.getfield 15, 3) := by decide +kernel
theorem dX9_weave_12 : decode cX9_weave 12 = .ok (.iconst (-1), 1) := by decide +kernel
theorem dX9_weave_13 : decode cX9_weave 13 = .ok (.invokestatic 30, 3) := by decide +kernel
theorem dX9_weave_16 : decode cX9_weave 16 = .ok (.aload_n 0, 1) := by decide +kernel
theorem dX9_weave_17 : decode cX9_weave 17 = .ok (.iconst 0, 1) := by decide +kernel
theorem dX9_weave_18 : decode cX9_weave 18 = .ok (.putfield 36, 3) := by decide +kernel
theorem dX9_weave_21 : decode cX9_weave 21 = .ok (.aload_n 0, 1) := by decide +kernel
theorem dX9_weave_22 : decode cX9_weave 22 = .ok (.iconst (-1), 1) := by decide +kernel
theorem dX9_weave_23 : decode cX9_weave 23 = .ok (.putfield 40, 3) := by decide +kernel
theorem dX9_weave_26 : decode cX9_weave 26 = .ok (.iconst 0, 1) := by decide +kernel
theorem dX9_weave_27 : decode cX9_weave 27 = .ok (.istore_n 2, 1) := by decide +kernel
theorem dX9_weave_28 : decode cX9_weave 28 = .ok (.iload_n 2, 1) := by decide +kernel
theorem dX9_weave_29 : decode cX9_weave 29 = .ok (.aload_n 1, 1) := by decide +kernel
theorem dX9_weave_30 : decode cX9_weave 30 = .ok (.invokevirtual 43, 3) := by decide +kernel
theorem dX9_weave_33 : decode cX9_weave 33 = .ok (.if_icmp .ge 40, 3) := by decide +kernel
theorem dX9_weave_36 : decode cX9_weave 36 = .ok (.aload_n 1, 1) := by decide +kernel
theorem dX9_weave_37 : decode cX9_weave 37 = .ok (.iload_n 2, 1) := by decide +kernel
theorem dX9_weave_38 : decode cX9_weave 38 = .ok (.invokevirtual 49, 3) := by decide +kernel
theorem dX9_weave_41 : decode cX9_weave 41 = .ok (.istore_n 3, 1) := by decide +kernel
theorem dX9_weave_42 : decode cX9_weave 42 = .ok (.aload_n 0, 1) := by decide +kernel
theorem dX9_weave_43 : decode cX9_weave 43 = .ok (.getfield 21, 3) := by decide +kernel
theorem dX9_weave_46 : decode cX9_weave 46 = .ok (.iload_n 3, 1) := by decide +kernel
theorem dX9_weave_47 : decode cX9_weave 47 = .ok (.aload_n 1, 1) := by decide +kernel
theorem dX9_weave_48 : decode cX9_weave 48 = .ok (.iload_n 3, 1) := by decide +kernel
theorem dX9_weave_49 : decode cX9_weave 49 = .ok (.invokevirtual 53, 3) := by decide +kernel
theorem dX9_weave_52 : decode cX9_weave 52 = .ok (.iastore, 1) := by decide +kernel
theorem dX9_weave_53 : decode cX9_weave 53 = .ok (.aload_n 0, 1) := by decide +kernel
theorem dX9_weave_54 : decode cX9_weave 54 = .ok (.getfield 21, 3) := by decide +kernel
theorem dX9_weave_57 : decode cX9_weave 57 = .ok (.iload_n 3, 1) := by decide +kernel
theorem dX9_weave_58 : decode cX9_weave 58 = .ok (.iaload, 1) := by decide +kernel
theorem dX9_weave_59 : decode cX9_weave 59 = .ok (.ifCond .ne 8, 3) := by decide +kernel
theorem dX9_weave_62 : decode cX9_weave 62 = .ok (.aload_n 0, 1) := by decide +kernel
theorem dX9_weave_63 : decode cX9_weave 63 = .ok (.iload_n 3, 1) := by decide +kernel
theorem dX9_weave_64 : decode cX9_weave 64 = .ok (.invokevirtual 56, 3) := by decide +kernel
theorem dX9_weave_67 : decode cX9_weave 67 = .ok (.iinc 2 1, 3) := by decide +kernel
theorem dX9_weave_70 : decode cX9_weave 70 = .ok (.goto (-42), 3) := by decide +kernel
theorem dX9_weave_73 : decode cX9_weave 73 = .ok (.iconst 0, 1) := by decide +kernel
theorem dX9_weave_74 : decode cX9_weave 74 = .ok (.istore_n 2, 1) := by decide +kernel
theorem dX9_weave_75 : decode cX9_weave 75 = .ok (.iload_n 2, 1) := by decide +kernel
theorem dX9_weave_76 : decode cX9_weave 76 = .ok (.bipush 100, 2) := by decide +kernel
theorem dX9_weave_78 : decode cX9_weave 78 = .ok (.if_icmp .ge 28, 3) := by decide +kernel
theorem dX9_weave_81 : decode cX9_weave 81 = .ok (.iload_n 2, 1) := by decide +kernel
theorem dX9_weave_82 : decode cX9_weave 82 = .ok (.aload_n 0, 1) := by decide +kernel
theorem dX9_weave_83 : decode cX9_weave 83 = .ok (.getfield 36, 3) := by decide +kernel
theorem dX9_weave_86 : decode cX9_weave 86 = .ok (.if_icmp .ge 20, 3) := by decide +kernel
theorem dX9_weave_89 : decode cX9_weave 89 = .ok (.aload_n 0, 1) := by decide +kernel
theorem dX9_weave_90 : decode cX9_weave 90 = .ok (.aload_n 1, 1) := by decide +kernel
theorem dX9_weave_91 : decode cX9_weave 91 = .ok (.aload_n 0, 1) := by decide +kernel
theorem dX9_weave_92 : decode cX9_weave 92 = .ok (.getfield 18, 3) := by decide +kernel
theorem dX9_weave_95 : decode cX9_weave 95 = .ok (.iload_n 2, 1) := by decide +kernel
theorem dX9_weave_96 : decode cX9_weave 96 = .ok (.iaload, 1) := by decide +kernel
theorem dX9_weave_97 : decode cX9_weave 97 = .ok (.invokevirtual 60, 3) := by decide +kernel
theorem dX9_weave_100 : decode cX9_weave 100 = .ok (.iinc 2 1, 3) := by decide +kernel
theorem dX9_weave_103 : decode cX9_weave 103 = .ok (.goto (-28), 3) := by decide +kernel
theorem dX9_weave_106 : decode cX9_weave 106 = .ok (.aload_n 0, 1) := by decide +kernel
theorem dX9_weave_107 : decode cX9_weave 107 = .ok (.getfield 36, 3) := by decide +kernel
theorem dX9_weave_110 : decode cX9_weave 110 = .ok (.iconst 1, 1) := by decide +kernel
theorem dX9_weave_111 : decode cX9_weave 111 = .ok (.isub, 1) := by decide +kernel
theorem dX9_weave_112 : decode cX9_weave 112 = .ok (.istore_n 2, 1) := by decide +kernel
theorem dX9_weave_113 : decode cX9_weave 113 = .ok (.iload_n 2, 1) := by decide +kernel
theorem dX9_weave_114 : decode cX9_weave 114 = .ok (.ifCond .lt 31, 3) := by decide +kernel
theorem dX9_weave_117 : decode cX9_weave 117 = .ok (.aload_n 0, 1) := by decide +kernel
theorem dX9_weave_118 : decode cX9_weave 118 = .ok (.getfield 15, 3) := by decide +kernel
theorem dX9_weave_121 : decode cX9_weave 121 = .ok (.aload_n 0, 1) := by decide +kernel
theorem dX9_weave_122 : decode cX9_weave 122 = .ok (.getfield 18, 3) := by decide +kernel
theorem dX9_weave_125 : decode cX9_weave 125 = .ok (.iload_n 2, 1) := by decide +kernel
theorem dX9_weave_126 : decode cX9_weave 126 = .ok (.iaload, 1) := by decide +kernel
theorem dX9_weave_127 : decode cX9_weave 127 = .ok (.aload_n 0, 1) := by decide +kernel
theorem dX9_weave_128 : decode cX9_weave 128 = .ok (.aload_n 1, 1) := by decide +kernel
theorem dX9_weave_129 : decode cX9_weave 129 = .ok (.aload_n 0, 1) := by decide +kernel
theorem dX9_weave_130 : decode cX9_weave 130 = .ok (.getfield 18, 3) := by decide +kernel
theorem dX9_weave_133 : decode cX9_weave 133 = .ok (.iload_n 2, 1) := by decide +kernel
theorem dX9_weave_134 : decode cX9_weave 134 = .ok (.iaload, 1) := by decide +kernel
theorem dX9_weave_135 : decode cX9_weave 135 = .ok (.invokevirtual 64, 3) := by decide +kernel
theorem dX9_weave_138 : decode cX9_weave 138 = .ok (.iastore, 1) := by decide +kernel
theorem dX9_weave_139 : decode cX9_weave 139 = .ok (.iinc 2 (-1), 3) := by decide +kernel
theorem dX9_weave_142 : decode cX9_weave 142 = .ok (.goto (-29), 3) := by decide +kernel
theorem dX9_weave_145 : decode cX9_weave 145 = .ok (.return_, 1) := by decide +kernel
theorem dX9_putInOrder_0 : decode cX9_putInOrder 0 = .ok (.aload_n 0, 1) := by decide +kernel
theorem dX9_putInOrder_1 : decode cX9_putInOrder 1 = .ok (.getfield 36, 3) := by decide +kernel
theorem dX9_putInOrder_4 : decode cX9_putInOrder 4 = .ok (.bipush 100, 2) := by decide +kernel
theorem dX9_putInOrder_6 : decode cX9_putInOrder 6 = .ok (.if_icmp .ge 23, 3) := by decide +kernel
theorem dX9_putInOrder_9 : decode cX9_putInOrder 9 = .ok (.aload_n 0, 1) := by decide +kernel
theorem dX9_putInOrder_10 : decode cX9_putInOrder 10 = .ok (.getfield 18, 3) := by decide +kernel
theorem dX9_putInOrder_13 : decode cX9_putInOrder 13 = .ok (.aload_n 0, 1) := by decide +kernel
theorem dX9_putInOrder_14 : decode cX9_putInOrder 14 = .ok (.getfield 36, 3) := by decide +kernel
theorem dX9_putInOrder_17 : decode cX9_putInOrder 17 = .ok (.iload_n 1, 1) := by decide +kernel
theorem dX9_putInOrder_18 : decode cX9_putInOrder 18 = .ok (.iastore, 1) := by decide +kernel
theorem dX9_putInOrder_19 : decode cX9_putInOrder 19 = .ok (.aload_n 0, 1) := by decide +kernel
theorem dX9_putInOrder_20 : decode cX9_putInOrder 20 = .ok (.dup, 1) := by decide +kernel
theorem dX9_putInOrder_21 : decode cX9_putInOrder 21 = .ok (.getfield 36, 3) := by decide +kernel
theorem dX9_putInOrder_24 : decode cX9_putInOrder 24 = .ok (.iconst 1, 1) := by decide +kernel
theorem dX9_putInOrder_25 : decode cX9_putInOrder 25 = .ok (.iadd, 1) := by decide +kernel
theorem dX9_putInOrder_26 : decode cX9_putInOrder 26 = .ok (.putfield 36, 3) := by decide +kernel
theorem dX9_putInOrder_29 : decode cX9_putInOrder 29 = .ok (.return_, 1) := by decide +kernel
theorem dX9_deepen_0 : decode cX9_deepen 0 = .ok (.iconst (-1), 1) := by decide +kernel
theorem dX9_deepen_1 : decode cX9_deepen 1 = .ok (.istore_n 3, 1) := by decide +kernel
theorem dX9_deepen_2 : decode cX9_deepen 2 = .ok (.iconst 0, 1) := by decide +kernel
theorem dX9_deepen_3 : decode cX9_deepen 3 = .ok (.istore 4, 2) := by decide +kernel
theorem dX9_deepen_5 : decode cX9_deepen 5 = .ok (.iload 4, 2) := by decide +kernel
theorem dX9_deepen_7 : decode cX9_deepen 7 = .ok (.aload_n 1, 1) := by decide +kernel
theorem dX9_deepen_8 : decode cX9_deepen 8 = .ok (.getfield 68, 3) := by decide +kernel
theorem dX9_deepen_11 : decode cX9_deepen 11 = .ok (.if_icmp .ge 78, 3) := by decide +kernel
theorem dX9_deepen_14 : decode cX9_deepen 14 = .ok (.aload_n 1, 1) := by decide +kernel
theorem dX9_deepen_15 : decode cX9_deepen 15 = .ok (.iload_n 2, 1) := by decide +kernel
theorem dX9_deepen_16 : decode cX9_deepen 16 = .ok (.iload 4, 2) := by decide +kernel
theorem dX9_deepen_18 : decode cX9_deepen 18 = .ok (.invokevirtual 71, 3) := by decide +kernel
theorem dX9_deepen_21 : decode cX9_deepen 21 = .ok (.istore 5, 2) := by decide +kernel
theorem dX9_deepen_23 : decode cX9_deepen 23 = .ok (.iload 5, 2) := by decide +kernel
theorem dX9_deepen_25 : decode cX9_deepen 25 = .ok (.iconst (-1), 1) := by decide +kernel
theorem dX9_deepen_26 : decode cX9_deepen 26 = .ok (.if_icmp .eq 15, 3) := by decide +kernel
theorem dX9_deepen_29 : decode cX9_deepen 29 = .ok (.iload_n 3, 1) := by decide +kernel
theorem dX9_deepen_30 : decode cX9_deepen 30 = .ok (.aload_n 0, 1) := by decide +kernel
theorem dX9_deepen_31 : decode cX9_deepen 31 = .ok (.getfield 9, 3) := by decide +kernel
theorem dX9_deepen_34 : decode cX9_deepen 34 = .ok (.iload 5, 2) := by decide +kernel
theorem dX9_deepen_36 : decode cX9_deepen 36 = .ok (.iaload, 1) := by decide +kernel
theorem dX9_deepen_37 : decode cX9_deepen 37 = .ok (.invokestatic 75, 3) := by decide +kernel
theorem dX9_deepen_40 : decode cX9_deepen 40 = .ok (.istore_n 3, 1) := by decide +kernel
theorem dX9_deepen_41 : decode cX9_deepen 41 = .ok (.aload_n 1, 1) := by decide +kernel
theorem dX9_deepen_42 : decode cX9_deepen 42 = .ok (.iload_n 2, 1) := by decide +kernel
theorem dX9_deepen_43 : decode cX9_deepen 43 = .ok (.iload 4, 2) := by decide +kernel
theorem dX9_deepen_45 : decode cX9_deepen 45 = .ok (.invokevirtual 80, 3) := by decide +kernel
theorem dX9_deepen_48 : decode cX9_deepen 48 = .ok (.istore 6, 2) := by decide +kernel
theorem dX9_deepen_50 : decode cX9_deepen 50 = .ok (.iload 6, 2) := by decide +kernel
theorem dX9_deepen_52 : decode cX9_deepen 52 = .ok (.iconst (-1), 1) := by decide +kernel
theorem dX9_deepen_53 : decode cX9_deepen 53 = .ok (.if_icmp .eq 30, 3) := by decide +kernel
theorem dX9_deepen_56 : decode cX9_deepen 56 = .ok (.aload_n 0, 1) := by decide +kernel
theorem dX9_deepen_57 : decode cX9_deepen 57 = .ok (.getfield 21, 3) := by decide +kernel
theorem dX9_deepen_60 : decode cX9_deepen 60 = .ok (.iload 6, 2) := by decide +kernel
theorem dX9_deepen_62 : decode cX9_deepen 62 = .ok (.dup2, 1) := by decide +kernel
theorem dX9_deepen_63 : decode cX9_deepen 63 = .ok (.iaload, 1) := by decide +kernel
theorem dX9_deepen_64 : decode cX9_deepen 64 = .ok (.iconst 1, 1) := by decide +kernel
theorem dX9_deepen_65 : decode cX9_deepen 65 = .ok (.isub, 1) := by decide +kernel
theorem dX9_deepen_66 : decode cX9_deepen 66 = .ok (.iastore, 1) := by decide +kernel
theorem dX9_deepen_67 : decode cX9_deepen 67 = .ok (.aload_n 0, 1) := by decide +kernel
theorem dX9_deepen_68 : decode cX9_deepen 68 = .ok (.getfield 21, 3) := by decide +kernel
theorem dX9_deepen_71 : decode cX9_deepen 71 = .ok (.iload 6, 2) := by decide +kernel
theorem dX9_deepen_73 : decode cX9_deepen 73 = .ok (.iaload, 1) := by decide +kernel
theorem dX9_deepen_74 : decode cX9_deepen 74 = .ok (.ifCond .ne 9, 3) := by decide +kernel
theorem dX9_deepen_77 : decode cX9_deepen 77 = .ok (.aload_n 0, 1) := by decide +kernel
theorem dX9_deepen_78 : decode cX9_deepen 78 = .ok (.iload 6, 2) := by decide +kernel
theorem dX9_deepen_80 : decode cX9_deepen 80 = .ok (.invokevirtual 56, 3) := by decide +kernel
theorem dX9_deepen_83 : decode cX9_deepen 83 = .ok (.iinc 4 1, 3) := by decide +kernel
theorem dX9_deepen_86 : decode cX9_deepen 86 = .ok (.goto (-81), 3) := by decide +kernel
theorem dX9_deepen_89 : decode cX9_deepen 89 = .ok (.aload_n 0, 1) := by decide +kernel
theorem dX9_deepen_90 : decode cX9_deepen 90 = .ok (.getfield 9, 3) := by decide +kernel
theorem dX9_deepen_93 : decode cX9_deepen 93 = .ok (.iload_n 2, 1) := by decide +kernel
theorem dX9_deepen_94 : decode cX9_deepen 94 = .ok (.iload_n 3, 1) := by decide +kernel
theorem dX9_deepen_95 : decode cX9_deepen 95 = .ok (.iconst 1, 1) := by decide +kernel
theorem dX9_deepen_96 : decode cX9_deepen 96 = .ok (.iadd, 1) := by decide +kernel
theorem dX9_deepen_97 : decode cX9_deepen 97 = .ok (.iastore, 1) := by decide +kernel
theorem dX9_deepen_98 : decode cX9_deepen 98 = .ok (.aload_n 0, 1) := by decide +kernel
theorem dX9_deepen_99 : decode cX9_deepen 99 = .ok (.aload_n 0, 1) := by decide +kernel
theorem dX9_deepen_100 : decode cX9_deepen 100 = .ok (.getfield 40, 3) := by decide +kernel
theorem dX9_deepen_103 : decode cX9_deepen 103 = .ok (.aload_n 0, 1) := by decide +kernel
theorem dX9_deepen_104 : decode cX9_deepen 104 = .ok (.getfield 9, 3) := by decide +kernel
theorem dX9_deepen_107 : decode cX9_deepen 107 = .ok (.iload_n 2, 1) := by decide +kernel
theorem dX9_deepen_108 : decode cX9_deepen 108 = .ok (.iaload, 1) := by decide +kernel
theorem dX9_deepen_109 : decode cX9_deepen 109 = .ok (.invokestatic 75, 3) := by decide +kernel
theorem dX9_deepen_112 : decode cX9_deepen 112 = .ok (.putfield 40, 3) := by decide +kernel
theorem dX9_deepen_115 : decode cX9_deepen 115 = .ok (.return_, 1) := by decide +kernel
theorem dX9_heightOver_0 : decode cX9_heightOver 0 = .ok (.iconst (-1), 1) := by decide +kernel
theorem dX9_heightOver_1 : decode cX9_heightOver 1 = .ok (.istore_n 3, 1) := by decide +kernel
theorem dX9_heightOver_2 : decode cX9_heightOver 2 = .ok (.iconst 0, 1) := by decide +kernel
theorem dX9_heightOver_3 : decode cX9_heightOver 3 = .ok (.istore 4, 2) := by decide +kernel
theorem dX9_heightOver_5 : decode cX9_heightOver 5 = .ok (.iload 4, 2) := by decide +kernel
theorem dX9_heightOver_7 : decode cX9_heightOver 7 = .ok (.aload_n 1, 1) := by decide +kernel
theorem dX9_heightOver_8 : decode cX9_heightOver 8 = .ok (.getfield 68, 3) := by decide +kernel
theorem dX9_heightOver_11 : decode cX9_heightOver 11 = .ok (.if_icmp .ge 49, 3) := by decide +kernel
theorem dX9_heightOver_14 : decode cX9_heightOver 14 = .ok (.aload_n 1, 1) := by decide +kernel
theorem dX9_heightOver_15 : decode cX9_heightOver 15 = .ok (.iload_n 2, 1) := by decide +kernel
theorem dX9_heightOver_16 : decode cX9_heightOver 16 = .ok (.iload 4, 2) := by decide +kernel
theorem dX9_heightOver_18 : decode cX9_heightOver 18 = .ok (.invokevirtual 80, 3) := by decide +kernel
theorem dX9_heightOver_21 : decode cX9_heightOver 21 = .ok (.istore 5, 2) := by decide +kernel
theorem dX9_heightOver_23 : decode cX9_heightOver 23 = .ok (.iload 5, 2) := by decide +kernel
theorem dX9_heightOver_25 : decode cX9_heightOver 25 = .ok (.iconst (-1), 1) := by decide +kernel
theorem dX9_heightOver_26 : decode cX9_heightOver 26 = .ok (.if_icmp .eq 28, 3) := by decide +kernel
theorem dX9_heightOver_29 : decode cX9_heightOver 29 = .ok (.aload_n 0, 1) := by decide +kernel
theorem dX9_heightOver_30 : decode cX9_heightOver 30 = .ok (.getfield 15, 3) := by decide +kernel
theorem dX9_heightOver_33 : decode cX9_heightOver 33 = .ok (.iload 5, 2) := by decide +kernel
theorem dX9_heightOver_35 : decode cX9_heightOver 35 = .ok (.iaload, 1) := by decide +kernel
theorem dX9_heightOver_36 : decode cX9_heightOver 36 = .ok (.iconst (-1), 1) := by decide +kernel
theorem dX9_heightOver_37 : decode cX9_heightOver 37 = .ok (.if_icmp .ne 5, 3) := by decide +kernel
theorem dX9_heightOver_40 : decode cX9_heightOver 40 = .ok (.iconst (-1), 1) := by decide +kernel
theorem dX9_heightOver_41 : decode cX9_heightOver 41 = .ok (.ireturn, 1) := by decide +kernel
theorem dX9_heightOver_42 : decode cX9_heightOver 42 = .ok (.iload_n 3, 1) := by decide +kernel
theorem dX9_heightOver_43 : decode cX9_heightOver 43 = .ok (.aload_n 0, 1) := by decide +kernel
theorem dX9_heightOver_44 : decode cX9_heightOver 44 = .ok (.getfield 15, 3) := by decide +kernel
theorem dX9_heightOver_47 : decode cX9_heightOver 47 = .ok (.iload 5, 2) := by decide +kernel
theorem dX9_heightOver_49 : decode cX9_heightOver 49 = .ok (.iaload, 1) := by decide +kernel
theorem dX9_heightOver_50 : decode cX9_heightOver 50 = .ok (.invokestatic 75, 3) := by decide +kernel
theorem dX9_heightOver_53 : decode cX9_heightOver 53 = .ok (.istore_n 3, 1) := by decide +kernel
theorem dX9_heightOver_54 : decode cX9_heightOver 54 = .ok (.iinc 4 1, 3) := by decide +kernel
theorem dX9_heightOver_57 : decode cX9_heightOver 57 = .ok (.goto (-52), 3) := by decide +kernel
theorem dX9_heightOver_60 : decode cX9_heightOver 60 = .ok (.iload_n 3, 1) := by decide +kernel
theorem dX9_heightOver_61 : decode cX9_heightOver 61 = .ok (.iconst 1, 1) := by decide +kernel
theorem dX9_heightOver_62 : decode cX9_heightOver 62 = .ok (.iadd, 1) := by decide +kernel
theorem dX9_heightOver_63 : decode cX9_heightOver 63 = .ok (.ireturn, 1) := by decide +kernel
theorem dX9_isOrdered_0 : decode cX9_isOrdered 0 = .ok (.aload_n 0, 1) := by decide +kernel
theorem dX9_isOrdered_1 : decode cX9_isOrdered 1 = .ok (.getfield 9, 3) := by decide +kernel
theorem dX9_isOrdered_4 : decode cX9_isOrdered 4 = .ok (.iload_n 1, 1) := by decide +kernel
theorem dX9_isOrdered_5 : decode cX9_isOrdered 5 = .ok (.iaload, 1) := by decide +kernel
theorem dX9_isOrdered_6 : decode cX9_isOrdered 6 = .ok (.iconst (-1), 1) := by decide +kernel
theorem dX9_isOrdered_7 : decode cX9_isOrdered 7 = .ok (.if_icmp .eq 7, 3) := by decide +kernel
theorem dX9_isOrdered_10 : decode cX9_isOrdered 10 = .ok (.iconst 1, 1) := by decide +kernel
theorem dX9_isOrdered_11 : decode cX9_isOrdered 11 = .ok (.goto 4, 3) := by decide +kernel
theorem dX9_isOrdered_14 : decode cX9_isOrdered 14 = .ok (.iconst 0, 1) := by decide +kernel
theorem dX9_isOrdered_15 : decode cX9_isOrdered 15 = .ok (.ireturn, 1) := by decide +kernel
theorem dX9_onLongestRow_0 : decode cX9_onLongestRow 0 = .ok (.iconst 0, 1) := by decide +kernel
theorem dX9_onLongestRow_1 : decode cX9_onLongestRow 1 = .ok (.istore_n 1, 1) := by decide +kernel
theorem dX9_onLongestRow_2 : decode cX9_onLongestRow 2 = .ok (.iconst 0, 1) := by decide +kernel
theorem dX9_onLongestRow_3 : decode cX9_onLongestRow 3 = .ok (.istore_n 2, 1) := by decide +kernel
theorem dX9_onLongestRow_4 : decode cX9_onLongestRow 4 = .ok (.iload_n 2, 1) := by decide +kernel
theorem dX9_onLongestRow_5 : decode cX9_onLongestRow 5 = .ok (.aload_n 0, 1) := by decide +kernel
theorem dX9_onLongestRow_6 : decode cX9_onLongestRow 6 = .ok (.getfield 36, 3) := by decide +kernel
theorem dX9_onLongestRow_9 : decode cX9_onLongestRow 9 = .ok (.if_icmp .ge 49, 3) := by decide +kernel
theorem dX9_onLongestRow_12 : decode cX9_onLongestRow 12 = .ok (.aload_n 0, 1) := by decide +kernel
theorem dX9_onLongestRow_13 : decode cX9_onLongestRow 13 = .ok (.getfield 18, 3) := by decide +kernel
theorem dX9_onLongestRow_16 : decode cX9_onLongestRow 16 = .ok (.iload_n 2, 1) := by decide +kernel
theorem dX9_onLongestRow_17 : decode cX9_onLongestRow 17 = .ok (.iaload, 1) := by decide +kernel
theorem dX9_onLongestRow_18 : decode cX9_onLongestRow 18 = .ok (.istore_n 3, 1) := by decide +kernel
theorem dX9_onLongestRow_19 : decode cX9_onLongestRow 19 = .ok (.aload_n 0, 1) := by decide +kernel
theorem dX9_onLongestRow_20 : decode cX9_onLongestRow 20 = .ok (.getfield 15, 3) := by decide +kernel
theorem dX9_onLongestRow_23 : decode cX9_onLongestRow 23 = .ok (.iload_n 3, 1) := by decide +kernel
theorem dX9_onLongestRow_24 : decode cX9_onLongestRow 24 = .ok (.iaload, 1) := by decide +kernel
theorem dX9_onLongestRow_25 : decode cX9_onLongestRow 25 = .ok (.iconst (-1), 1) := by decide +kernel
theorem dX9_onLongestRow_26 : decode cX9_onLongestRow 26 = .ok (.if_icmp .eq 26, 3) := by decide +kernel
theorem dX9_onLongestRow_29 : decode cX9_onLongestRow 29 = .ok (.aload_n 0, 1) := by decide +kernel
theorem dX9_onLongestRow_30 : decode cX9_onLongestRow 30 = .ok (.getfield 9, 3) := by decide +kernel
theorem dX9_onLongestRow_33 : decode cX9_onLongestRow 33 = .ok (.iload_n 3, 1) := by decide +kernel
theorem dX9_onLongestRow_34 : decode cX9_onLongestRow 34 = .ok (.iaload, 1) := by decide +kernel
theorem dX9_onLongestRow_35 : decode cX9_onLongestRow 35 = .ok (.aload_n 0, 1) := by decide +kernel
theorem dX9_onLongestRow_36 : decode cX9_onLongestRow 36 = .ok (.getfield 15, 3) := by decide +kernel
theorem dX9_onLongestRow_39 : decode cX9_onLongestRow 39 = .ok (.iload_n 3, 1) := by decide +kernel
theorem dX9_onLongestRow_40 : decode cX9_onLongestRow 40 = .ok (.iaload, 1) := by decide +kernel
theorem dX9_onLongestRow_41 : decode cX9_onLongestRow 41 = .ok (.iadd, 1) := by decide +kernel
theorem dX9_onLongestRow_42 : decode cX9_onLongestRow 42 = .ok (.aload_n 0, 1) := by decide +kernel
theorem dX9_onLongestRow_43 : decode cX9_onLongestRow 43 = .ok (.getfield 40, 3) := by decide +kernel
theorem dX9_onLongestRow_46 : decode cX9_onLongestRow 46 = .ok (.if_icmp .ne 6, 3) := by decide +kernel
theorem dX9_onLongestRow_49 : decode cX9_onLongestRow 49 = .ok (.iinc 1 1, 3) := by decide +kernel
theorem dX9_onLongestRow_52 : decode cX9_onLongestRow 52 = .ok (.iinc 2 1, 3) := by decide +kernel
theorem dX9_onLongestRow_55 : decode cX9_onLongestRow 55 = .ok (.goto (-51), 3) := by decide +kernel
theorem dX9_onLongestRow_58 : decode cX9_onLongestRow 58 = .ok (.iload_n 1, 1) := by decide +kernel
theorem dX9_onLongestRow_59 : decode cX9_onLongestRow 59 = .ok (.ireturn, 1) := by decide +kernel
theorem dX9_followers_0 : decode cX9_followers 0 = .ok (.aload_n 0, 1) := by decide +kernel
theorem dX9_followers_1 : decode cX9_followers 1 = .ok (.getfield 24, 3) := by decide +kernel
theorem dX9_followers_4 : decode cX9_followers 4 = .ok (.iconst 0, 1) := by decide +kernel
theorem dX9_followers_5 : decode cX9_followers 5 = .ok (.invokestatic 30, 3) := by decide +kernel
theorem dX9_followers_8 : decode cX9_followers 8 = .ok (.aload_n 0, 1) := by decide +kernel
theorem dX9_followers_9 : decode cX9_followers 9 = .ok (.aload_n 1, 1) := by decide +kernel
theorem dX9_followers_10 : decode cX9_followers 10 = .ok (.iload_n 2, 1) := by decide +kernel
theorem dX9_followers_11 : decode cX9_followers 11 = .ok (.iconst 0, 1) := by decide +kernel
theorem dX9_followers_12 : decode cX9_followers 12 = .ok (.invokevirtual 83, 3) := by decide +kernel
theorem dX9_followers_15 : decode cX9_followers 15 = .ok (.istore_n 3, 1) := by decide +kernel
theorem dX9_followers_16 : decode cX9_followers 16 = .ok (.iconst 0, 1) := by decide +kernel
theorem dX9_followers_17 : decode cX9_followers 17 = .ok (.istore 4, 2) := by decide +kernel
theorem dX9_followers_19 : decode cX9_followers 19 = .ok (.iload 4, 2) := by decide +kernel
theorem dX9_followers_21 : decode cX9_followers 21 = .ok (.bipush 100, 2) := by decide +kernel
theorem dX9_followers_23 : decode cX9_followers 23 = .ok (.if_icmp .ge 29, 3) := by decide +kernel
theorem dX9_followers_26 : decode cX9_followers 26 = .ok (.iload 4, 2) := by decide +kernel
theorem dX9_followers_28 : decode cX9_followers 28 = .ok (.iload_n 3, 1) := by decide +kernel
theorem dX9_followers_29 : decode cX9_followers 29 = .ok (.if_icmp .ge 23, 3) := by decide +kernel
theorem dX9_followers_32 : decode cX9_followers 32 = .ok (.aload_n 0, 1) := by decide +kernel
theorem dX9_followers_33 : decode cX9_followers 33 = .ok (.aload_n 1, 1) := by decide +kernel
theorem dX9_followers_34 : decode cX9_followers 34 = .ok (.aload_n 0, 1) := by decide +kernel
theorem dX9_followers_35 : decode cX9_followers 35 = .ok (.getfield 27, 3) := by decide +kernel
theorem dX9_followers_38 : decode cX9_followers 38 = .ok (.iload 4, 2) := by decide +kernel
theorem dX9_followers_40 : decode cX9_followers 40 = .ok (.iaload, 1) := by decide +kernel
theorem dX9_followers_41 : decode cX9_followers 41 = .ok (.iload_n 3, 1) := by decide +kernel
theorem dX9_followers_42 : decode cX9_followers 42 = .ok (.invokevirtual 83, 3) := by decide +kernel
theorem dX9_followers_45 : decode cX9_followers 45 = .ok (.istore_n 3, 1) := by decide +kernel
theorem dX9_followers_46 : decode cX9_followers 46 = .ok (.iinc 4 1, 3) := by decide +kernel
theorem dX9_followers_49 : decode cX9_followers 49 = .ok (.goto (-30), 3) := by decide +kernel
theorem dX9_followers_52 : decode cX9_followers 52 = .ok (.iload_n 3, 1) := by decide +kernel
theorem dX9_followers_53 : decode cX9_followers 53 = .ok (.ireturn, 1) := by decide +kernel
theorem dX9_follow_0 : decode cX9_follow 0 = .ok (.iload_n 3, 1) := by decide +kernel
theorem dX9_follow_1 : decode cX9_follow 1 = .ok (.istore 4, 2) := by decide +kernel
theorem dX9_follow_3 : decode cX9_follow 3 = .ok (.iconst 0, 1) := by decide +kernel
theorem dX9_follow_4 : decode cX9_follow 4 = .ok (.istore 5, 2) := by decide +kernel
theorem dX9_follow_6 : decode cX9_follow 6 = .ok (.iload 5, 2) := by decide +kernel
theorem dX9_follow_8 : decode cX9_follow 8 = .ok (.aload_n 1, 1) := by decide +kernel
theorem dX9_follow_9 : decode cX9_follow 9 = .ok (.getfield 68, 3) := by decide +kernel
theorem dX9_follow_12 : decode cX9_follow 12 = .ok (.if_icmp .ge 61, 3) := by decide +kernel
theorem dX9_follow_15 : decode cX9_follow 15 = .ok (.aload_n 1, 1) := by decide +kernel
theorem dX9_follow_16 : decode cX9_follow 16 = .ok (.iload_n 2, 1) := by decide +kernel
theorem dX9_follow_17 : decode cX9_follow 17 = .ok (.iload 5, 2) := by decide +kernel
theorem dX9_follow_19 : decode cX9_follow 19 = .ok (.invokevirtual 80, 3) := by decide +kernel
theorem dX9_follow_22 : decode cX9_follow 22 = .ok (.istore 6, 2) := by decide +kernel
theorem dX9_follow_24 : decode cX9_follow 24 = .ok (.iload 6, 2) := by decide +kernel
theorem dX9_follow_26 : decode cX9_follow 26 = .ok (.iconst (-1), 1) := by decide +kernel
theorem dX9_follow_27 : decode cX9_follow 27 = .ok (.if_icmp .eq 40, 3) := by decide +kernel
theorem dX9_follow_30 : decode cX9_follow 30 = .ok (.aload_n 0, 1) := by decide +kernel
theorem dX9_follow_31 : decode cX9_follow 31 = .ok (.getfield 24, 3) := by decide +kernel
theorem dX9_follow_34 : decode cX9_follow 34 = .ok (.iload 6, 2) := by decide +kernel
theorem dX9_follow_36 : decode cX9_follow 36 = .ok (.iaload, 1) := by decide +kernel
theorem dX9_follow_37 : decode cX9_follow 37 = .ok (.ifCond .ne 30, 3) := by decide +kernel
theorem dX9_follow_40 : decode cX9_follow 40 = .ok (.iload 4, 2) := by decide +kernel
theorem dX9_follow_42 : decode cX9_follow 42 = .ok (.bipush 100, 2) := by decide +kernel
theorem dX9_follow_44 : decode cX9_follow 44 = .ok (.if_icmp .ge 23, 3) := by decide +kernel
theorem dX9_follow_47 : decode cX9_follow 47 = .ok (.aload_n 0, 1) := by decide +kernel
theorem dX9_follow_48 : decode cX9_follow 48 = .ok (.getfield 24, 3) := by decide +kernel
theorem dX9_follow_51 : decode cX9_follow 51 = .ok (.iload 6, 2) := by decide +kernel
theorem dX9_follow_53 : decode cX9_follow 53 = .ok (.iconst 1, 1) := by decide +kernel
theorem dX9_follow_54 : decode cX9_follow 54 = .ok (.iastore, 1) := by decide +kernel
theorem dX9_follow_55 : decode cX9_follow 55 = .ok (.aload_n 0, 1) := by decide +kernel
theorem dX9_follow_56 : decode cX9_follow 56 = .ok (.getfield 27, 3) := by decide +kernel
theorem dX9_follow_59 : decode cX9_follow 59 = .ok (.iload 4, 2) := by decide +kernel
theorem dX9_follow_61 : decode cX9_follow 61 = .ok (.iload 6, 2) := by decide +kernel
theorem dX9_follow_63 : decode cX9_follow 63 = .ok (.iastore, 1) := by decide +kernel
theorem dX9_follow_64 : decode cX9_follow 64 = .ok (.iinc 4 1, 3) := by decide +kernel
theorem dX9_follow_67 : decode cX9_follow 67 = .ok (.iinc 5 1, 3) := by decide +kernel
theorem dX9_follow_70 : decode cX9_follow 70 = .ok (.goto (-64), 3) := by decide +kernel
theorem dX9_follow_73 : decode cX9_follow 73 = .ok (.iload 4, 2) := by decide +kernel
theorem dX9_follow_75 : decode cX9_follow 75 = .ok (.ireturn, 1) := by decide +kernel
theorem dX10_init_0 : decode cX10_init 0 = .ok (.aload_n 0, 1) := by decide +kernel
theorem dX10_init_1 : decode cX10_init 1 = .ok (.invokespecial 3, 3) := by decide +kernel
theorem dX10_init_4 : decode cX10_init 4 = .ok (.aload_n 0, 1) := by decide +kernel
theorem dX10_init_5 : decode cX10_init 5 = .ok (.new 9, 3) := by decide +kernel
theorem dX10_init_8 : decode cX10_init 8 = .ok (.dup, 1) := by decide +kernel
theorem dX10_init_9 : decode cX10_init 9 = .ok (.invokespecial 11, 3) := by decide +kernel
theorem dX10_init_12 : decode cX10_init 12 = .ok (.putfield 12, 3) := by decide +kernel
theorem dX10_init_15 : decode cX10_init 15 = .ok (.aload_n 0, 1) := by decide +kernel
theorem dX10_init_16 : decode cX10_init 16 = .ok (.new 16, 3) := by decide +kernel
theorem dX10_init_19 : decode cX10_init 19 = .ok (.dup, 1) := by decide +kernel
theorem dX10_init_20 : decode cX10_init 20 = .ok (.invokespecial 18, 3) := by decide +kernel
theorem dX10_init_23 : decode cX10_init 23 = .ok (.putfield 19, 3) := by decide +kernel
theorem dX10_init_26 : decode cX10_init 26 = .ok (.aload_n 0, 1) := by decide +kernel
theorem dX10_init_27 : decode cX10_init 27 = .ok (.new 16, 3) := by decide +kernel
theorem dX10_init_30 : decode cX10_init 30 = .ok (.dup, 1) := by decide +kernel
theorem dX10_init_31 : decode cX10_init 31 = .ok (.invokespecial 18, 3) := by decide +kernel
theorem dX10_init_34 : decode cX10_init 34 = .ok (.putfield 23, 3) := by decide +kernel
theorem dX10_init_37 : decode cX10_init 37 = .ok (.aload_n 0, 1) := by decide +kernel
theorem dX10_init_38 : decode cX10_init 38 = .ok (.new 26, 3) := by decide +kernel
theorem dX10_init_41 : decode cX10_init 41 = .ok (.dup, 1) := by decide +kernel
theorem dX10_init_42 : decode cX10_init 42 = .ok (.aload_n 0, 1) := by decide +kernel
theorem dX10_init_43 : decode cX10_init 43 = .ok (.getfield 12, 3) := by decide +kernel
theorem dX10_init_46 : decode cX10_init 46 = .ok (.aload_n 0, 1) := by decide +kernel
theorem dX10_init_47 : decode cX10_init 47 = .ok (.getfield 23, 3) := by decide +kernel
theorem dX10_init_50 : decode cX10_init 50 = .ok (.invokespecial 28, 3) := by decide +kernel
theorem dX10_init_53 : decode cX10_init 53 = .ok (.putfield 31, 3) := by decide +kernel
theorem dX10_init_56 : decode cX10_init 56 = .ok (.aload_n 0, 1) := by decide +kernel
theorem dX10_init_57 : decode cX10_init 57 = .ok (.new 35, 3) := by decide +kernel
theorem dX10_init_60 : decode cX10_init 60 = .ok (.dup, 1) := by decide +kernel
theorem dX10_init_61 : decode cX10_init 61 = .ok (.invokespecial 37, 3) := by decide +kernel
theorem dX10_init_64 : decode cX10_init 64 = .ok (.putfield 38, 3) := by decide +kernel
theorem dX10_init_67 : decode cX10_init 67 = .ok (.aload_n 0, 1) := by decide +kernel
theorem dX10_init_68 : decode cX10_init 68 = .ok (.iconst 2, 1) := by decide +kernel
theorem dX10_init_69 : decode cX10_init 69 = .ok (.anewarray 42, 3) := by decide +kernel
theorem dX10_init_72 : decode cX10_init 72 = .ok (.putfield 44, 3) := by decide +kernel
theorem dX10_init_75 : decode cX10_init 75 = .ok (.aload_n 0, 1) := by decide +kernel
theorem dX10_init_76 : decode cX10_init 76 = .ok (.iconst 2, 1) := by decide +kernel
theorem dX10_init_77 : decode cX10_init 77 = .ok (.newarray .boolean, 2) := by decide +kernel
theorem dX10_init_79 : decode cX10_init 79 = .ok (.putfield 48, 3) := by decide +kernel
theorem dX10_init_82 : decode cX10_init 82 = .ok (.aload_n 0, 1) := by decide +kernel
theorem dX10_init_83 : decode cX10_init 83 = .ok (.new 52, 3) := by decide +kernel
theorem dX10_init_86 : decode cX10_init 86 = .ok (.dup, 1) := by decide +kernel
theorem dX10_init_87 : decode cX10_init 87 = .ok (.invokespecial 54, 3) := by decide +kernel
theorem dX10_init_90 : decode cX10_init 90 = .ok (.putfield 55, 3) := by decide +kernel
theorem dX10_init_93 : decode cX10_init 93 = .ok (.aload_n 0, 1) := by decide +kernel
theorem dX10_init_94 : decode cX10_init 94 = .ok (.new 59, 3) := by decide +kernel
theorem dX10_init_97 : decode cX10_init 97 = .ok (.dup, 1) := by decide +kernel
theorem dX10_init_98 : decode cX10_init 98 = .ok (.invokespecial 61, 3) := by decide +kernel
theorem dX10_init_101 : decode cX10_init 101 = .ok (.putfield 62, 3) := by decide +kernel
theorem dX10_init_104 : decode cX10_init 104 = .ok (.aload_n 0, 1) := by decide +kernel
theorem dX10_init_105 : decode cX10_init 105 = .ok (.new 66, 3) := by decide +kernel
theorem dX10_init_108 : decode cX10_init 108 = .ok (.dup, 1) := by decide +kernel
theorem dX10_init_109 : decode cX10_init 109 = .ok (.invokespecial 68, 3) := by decide +kernel
theorem dX10_init_112 : decode cX10_init 112 = .ok (.putfield 69, 3) := by decide +kernel
theorem dX10_init_115 : decode cX10_init 115 = .ok (.aload_n 0, 1) := by decide +kernel
theorem dX10_init_116 : decode cX10_init 116 = .ok (.new 73, 3) := by decide +kernel
theorem dX10_init_119 : decode cX10_init 119 = .ok (.dup, 1) := by decide +kernel
theorem dX10_init_120 : decode cX10_init 120 = .ok (.invokespecial 75, 3) := by decide +kernel
theorem dX10_init_123 : decode cX10_init 123 = .ok (.putfield 76, 3) := by decide +kernel
theorem dX10_init_126 : decode cX10_init 126 = .ok (.aload_n 0, 1) := by decide +kernel
theorem dX10_init_127 : decode cX10_init 127 = .ok (.sipush 300, 3) := by decide +kernel
theorem dX10_init_130 : decode cX10_init 130 = .ok (.newarray .int, 2) := by decide +kernel
theorem dX10_init_132 : decode cX10_init 132 = .ok (.putfield 80, 3) := by decide +kernel
theorem dX10_init_135 : decode cX10_init 135 = .ok (.aload_n 0, 1) := by decide +kernel
theorem dX10_init_136 : decode cX10_init 136 = .ok (.sipush 300, 3) := by decide +kernel
theorem dX10_init_139 : decode cX10_init 139 = .ok (.newarray .int, 2) := by decide +kernel
theorem dX10_init_141 : decode cX10_init 141 = .ok (.putfield 84, 3) := by decide +kernel
theorem dX10_init_144 : decode cX10_init 144 = .ok (.aload_n 0, 1) := by decide +kernel
theorem dX10_init_145 : decode cX10_init 145 = .ok (.sipush 300, 3) := by decide +kernel
theorem dX10_init_148 : decode cX10_init 148 = .ok (.newarray .int, 2) := by decide +kernel
theorem dX10_init_150 : decode cX10_init 150 = .ok (.putfield 87, 3) := by decide +kernel
theorem dX10_init_153 : decode cX10_init 153 = .ok (.aload_n 0, 1) := by decide +kernel
theorem dX10_init_154 : decode cX10_init 154 = .ok (.new 90, 3) := by decide +kernel
theorem dX10_init_157 : decode cX10_init 157 = .ok (.dup, 1) := by decide +kernel
theorem dX10_init_158 : decode cX10_init 158 = .ok (.aload_n 0, 1) := by decide +kernel
theorem dX10_init_159 : decode cX10_init 159 = .ok (.getfield 19, 3) := by decide +kernel
theorem dX10_init_162 : decode cX10_init 162 = .ok (.aload_n 0, 1) := by decide +kernel
theorem dX10_init_163 : decode cX10_init 163 = .ok (.getfield 55, 3) := by decide +kernel
theorem dX10_init_166 : decode cX10_init 166 = .ok (.getfield 92, 3) := by decide +kernel
theorem dX10_init_169 : decode cX10_init 169 = .ok (.aload_n 0, 1) := by decide +kernel
theorem dX10_init_170 : decode cX10_init 170 = .ok (.getfield 80, 3) := by decide +kernel
theorem dX10_init_173 : decode cX10_init 173 = .ok (.invokespecial 95, 3) := by decide +kernel
theorem dX10_init_176 : decode cX10_init 176 = .ok (.putfield 98, 3) := by decide +kernel
theorem dX10_init_179 : decode cX10_init 179 = .ok (.iconst 0, 1) := by decide +kernel
theorem dX10_init_180 : decode cX10_init 180 = .ok (.istore_n 1, 1) := by decide +kernel
theorem dX10_init_181 : decode cX10_init 181 = .ok (.iload_n 1, 1) := by decide +kernel
theorem dX10_init_182 : decode cX10_init 182 = .ok (.iconst 2, 1) := by decide +kernel
theorem dX10_init_183 : decode cX10_init 183 = .ok (.if_icmp .ge 22, 3) := by decide +kernel
theorem dX10_init_186 : decode cX10_init 186 = .ok (.aload_n 0, 1) := by decide +kernel
theorem dX10_init_187 : decode cX10_init 187 = .ok (.getfield 44, 3) := by decide +kernel
theorem dX10_init_190 : decode cX10_init 190 = .ok (.iload_n 1, 1) := by decide +kernel
theorem dX10_init_191 : decode cX10_init 191 = .ok (.new 42, 3) := by decide +kernel
theorem dX10_init_194 : decode cX10_init 194 = .ok (.dup, 1) := by decide +kernel
theorem dX10_init_195 : decode cX10_init 195 = .ok (.invokespecial 102, 3) := by decide +kernel
theorem dX10_init_198 : decode cX10_init 198 = .ok (.aastore, 1) := by decide +kernel
theorem dX10_init_199 : decode cX10_init 199 = .ok (.iinc 1 1, 3) := by decide +kernel
theorem dX10_init_202 : decode cX10_init 202 = .ok (.goto (-21), 3) := by decide +kernel
theorem dX10_init_205 : decode cX10_init 205 = .ok (.aload_n 0, 1) := by decide +kernel
theorem dX10_init_206 : decode cX10_init 206 = .ok (.invokevirtual 103, 3) := by decide +kernel
theorem dX10_init_209 : decode cX10_init 209 = .ok (.return_, 1) := by decide +kernel
theorem dX10_feed_0 : decode cX10_feed 0 = .ok (.aload_n 0, 1) := by decide +kernel
theorem dX10_feed_1 : decode cX10_feed 1 = .ok (.getfield 12, 3) := by decide +kernel
theorem dX10_feed_4 : decode cX10_feed 4 = .ok (.getfield 106, 3) := by decide +kernel
theorem dX10_feed_7 : decode cX10_feed 7 = .ok (.bipush 20, 2) := by decide +kernel
theorem dX10_feed_9 : decode cX10_feed 9 = .ok (.iadd, 1) := by decide +kernel
theorem dX10_feed_10 : decode cX10_feed 10 = .ok (.sipush 800, 3) := by decide +kernel
theorem dX10_feed_13 : decode cX10_feed 13 = .ok (.if_icmp .le 5, 3) := by decide +kernel
theorem dX10_feed_16 : decode cX10_feed 16 = .ok (.iconst (-1), 1) := by decide +kernel
theorem dX10_feed_17 : decode cX10_feed 17 = .ok (.ireturn, 1) := by decide +kernel
theorem dX10_feed_18 : decode cX10_feed 18 = .ok (.aload_n 0, 1) := by decide +kernel
theorem dX10_feed_19 : decode cX10_feed 19 = .ok (.getfield 12, 3) := by decide +kernel
theorem dX10_feed_22 : decode cX10_feed 22 = .ok (.iload_n 1, 1) := by decide +kernel
theorem dX10_feed_23 : decode cX10_feed 23 = .ok (.invokevirtual 110, 3) := by decide +kernel
theorem dX10_feed_26 : decode cX10_feed 26 = .ok (.aload_n 0, 1) := by decide +kernel
theorem dX10_feed_27 : decode cX10_feed 27 = .ok (.getfield 12, 3) := by decide +kernel
theorem dX10_feed_30 : decode cX10_feed 30 = .ok (.iload_n 2, 1) := by decide +kernel
theorem dX10_feed_31 : decode cX10_feed 31 = .ok (.invokevirtual 110, 3) := by decide +kernel
theorem dX10_feed_34 : decode cX10_feed 34 = .ok (.aload_n 0, 1) := by decide +kernel
theorem dX10_feed_35 : decode cX10_feed 35 = .ok (.getfield 12, 3) := by decide +kernel
theorem dX10_feed_38 : decode cX10_feed 38 = .ok (.iload_n 3, 1) := by decide +kernel
theorem dX10_feed_39 : decode cX10_feed 39 = .ok (.invokevirtual 110, 3) := by decide +kernel
theorem dX10_feed_42 : decode cX10_feed 42 = .ok (.aload_n 0, 1) := by decide +kernel
theorem dX10_feed_43 : decode cX10_feed 43 = .ok (.getfield 12, 3) := by decide +kernel
theorem dX10_feed_46 : decode cX10_feed 46 = .ok (.iload 4, 2) := by decide +kernel
theorem dX10_feed_48 : decode cX10_feed 48 = .ok (.invokevirtual 110, 3) := by decide +kernel
theorem dX10_feed_51 : decode cX10_feed 51 = .ok (.aload_n 0, 1) := by decide +kernel
theorem dX10_feed_52 : decode cX10_feed 52 = .ok (.getfield 12, 3) := by decide +kernel
theorem dX10_feed_55 : decode cX10_feed 55 = .ok (.iload 5, 2) := by decide +kernel
theorem dX10_feed_57 : decode cX10_feed 57 = .ok (.invokevirtual 110, 3) := by decide +kernel
theorem dX10_feed_60 : decode cX10_feed 60 = .ok (.aload_n 0, 1) := by decide +kernel
theorem dX10_feed_61 : decode cX10_feed 61 = .ok (.getfield 12, 3) := by decide +kernel
theorem dX10_feed_64 : decode cX10_feed 64 = .ok (.getfield 106, 3) := by decide +kernel
theorem dX10_feed_67 : decode cX10_feed 67 = .ok (.ireturn, 1) := by decide +kernel
theorem dX10_end_0 : decode cX10_end 0 = .ok (.iload_n 1, 1) := by decide +kernel
theorem dX10_end_1 : decode cX10_end 1 = .ok (.ifCond .lt 14, 3) := by decide +kernel
theorem dX10_end_4 : decode cX10_end 4 = .ok (.iload_n 1, 1) := by decide +kernel
theorem dX10_end_5 : decode cX10_end 5 = .ok (.aload_n 0, 1) := by decide +kernel
theorem dX10_end_6 : decode cX10_end 6 = .ok (.getfield 12, 3) := by decide +kernel
theorem dX10_end_9 : decode cX10_end 9 = .ok (.getfield 106, 3) := by decide +kernel
theorem dX10_end_12 : decode cX10_end 12 = .ok (.if_icmp .le 5, 3) := by decide +kernel
theorem dX10_end_15 : decode cX10_end 15 = .ok (.iconst (-1), 1) := by decide +kernel
theorem dX10_end_16 : decode cX10_end 16 = .ok (.ireturn, 1) := by decide +kernel
theorem dX10_end_17 : decode cX10_end 17 = .ok (.aload_n 0, 1) := by decide +kernel
theorem dX10_end_18 : decode cX10_end 18 = .ok (.getfield 12, 3) := by decide +kernel
theorem dX10_end_21 : decode cX10_end 21 = .ok (.iload_n 1, 1) := by decide +kernel
theorem dX10_end_22 : decode cX10_end 22 = .ok (.putfield 106, 3) := by decide +kernel
theorem dX10_end_25 : decode cX10_end 25 = .ok (.iload_n 1, 1) := by decide +kernel
theorem dX10_end_26 : decode cX10_end 26 = .ok (.ireturn, 1) := by decide +kernel
theorem dX10_loop_0 : decode cX10_loop 0 = .ok (.aload_n 0, 1) := by decide +kernel
theorem dX10_loop_1 : decode cX10_loop 1 = .ok (.getfield 31, 3) := by decide +kernel
theorem dX10_loop_4 : decode cX10_loop 4 = .ok (.aload_n 0, 1) := by decide +kernel
theorem dX10_loop_5 : decode cX10_loop 5 = .ok (.getfield 23, 3) := by decide +kernel
theorem dX10_loop_8 : decode cX10_loop 8 = .ok (.invokevirtual 114, 3) := by decide +kernel
theorem dX10_loop_11 : decode cX10_loop 11 = .ok (.aload_n 0, 1) := by decide +kernel
theorem dX10_loop_12 : decode cX10_loop 12 = .ok (.getfield 12, 3) := by decide +kernel
theorem dX10_loop_15 : decode cX10_loop 15 = .ok (.iconst 0, 1) := by decide +kernel
theorem dX10_loop_16 : decode cX10_loop 16 = .ok (.putfield 106, 3) := by decide +kernel
theorem dX10_loop_19 : decode cX10_loop 19 = .ok (.aload_n 0, 1) := by decide +kernel
theorem dX10_loop_20 : decode cX10_loop 20 = .ok (.getfield 31, 3) := by decide +kernel
theorem dX10_loop_23 : decode cX10_loop 23 = .ok (.getfield 118, 3) := by decide +kernel
theorem dX10_loop_26 : decode cX10_loop 26 = .ok (.ifCond .eq 5, 3) := by decide +kernel
theorem dX10_loop_29 : decode cX10_loop 29 = .ok (.iconst (-1), 1) := by decide +kernel
theorem dX10_loop_30 : decode cX10_loop 30 = .ok (.ireturn, 1) := by decide +kernel
theorem dX10_loop_31 : decode cX10_loop 31 = .ok (.aload_n 0, 1) := by decide +kernel
theorem dX10_loop_32 : decode cX10_loop 32 = .ok (.getfield 23, 3) := by decide +kernel
theorem dX10_loop_35 : decode cX10_loop 35 = .ok (.astore_n 1, 1) := by decide +kernel
theorem dX10_loop_36 : decode cX10_loop 36 = .ok (.aload_n 0, 1) := by decide +kernel
theorem dX10_loop_37 : decode cX10_loop 37 = .ok (.aload_n 0, 1) := by decide +kernel
theorem dX10_loop_38 : decode cX10_loop 38 = .ok (.getfield 19, 3) := by decide +kernel
theorem dX10_loop_41 : decode cX10_loop 41 = .ok (.putfield 23, 3) := by decide +kernel
theorem dX10_loop_44 : decode cX10_loop 44 = .ok (.aload_n 0, 1) := by decide +kernel
theorem dX10_loop_45 : decode cX10_loop 45 = .ok (.aload_n 1, 1) := by decide +kernel
theorem dX10_loop_46 : decode cX10_loop 46 = .ok (.putfield 19, 3) := by decide +kernel
theorem dX10_loop_49 : decode cX10_loop 49 = .ok (.aload_n 0, 1) := by decide +kernel
theorem dX10_loop_50 : decode cX10_loop 50 = .ok (.invokevirtual 103, 3) := by decide +kernel
theorem dX10_loop_53 : decode cX10_loop 53 = .ok (.aload_n 0, 1) := by decide +kernel
theorem dX10_loop_54 : decode cX10_loop 54 = .ok (.getfield 19, 3) := by decide +kernel
theorem dX10_loop_57 : decode cX10_loop 57 = .ok (.getfield 121, 3) := by decide +kernel
theorem dX10_loop_60 : decode cX10_loop 60 = .ok (.ireturn, 1) := by decide +kernel
theorem dX10_fault_0 : decode cX10_fault 0 = .ok (.iload_n 1, 1) := by decide +kernel
theorem dX10_fault_1 : decode cX10_fault 1 = .ok (.lookupswitch 43 #[(0, 27), (1, 35)], 27) := by decide +kernel
theorem dX10_fault_28 : decode cX10_fault 28 = .ok (.aload_n 0, 1) := by decide +kernel
theorem dX10_fault_29 : decode cX10_fault 29 = .ok (.getfield 31, 3) := by decide +kernel
theorem dX10_fault_32 : decode cX10_fault 32 = .ok (.getfield 118, 3) := by decide +kernel
theorem dX10_fault_35 : decode cX10_fault 35 = .ok (.ireturn, 1) := by decide +kernel
theorem dX10_fault_36 : decode cX10_fault 36 = .ok (.aload_n 0, 1) := by decide +kernel
theorem dX10_fault_37 : decode cX10_fault 37 = .ok (.getfield 31, 3) := by decide +kernel
theorem dX10_fault_40 : decode cX10_fault 40 = .ok (.getfield 124, 3) := by decide +kernel
theorem dX10_fault_43 : decode cX10_fault 43 = .ok (.ireturn, 1) := by decide +kernel
theorem dX10_fault_44 : decode cX10_fault 44 = .ok (.iconst (-1), 1) := by decide +kernel
theorem dX10_fault_45 : decode cX10_fault 45 = .ok (.ireturn, 1) := by decide +kernel
theorem dX10_fire_0 : decode cX10_fire 0 = .ok (.iload_n 1, 1) := by decide +kernel
theorem dX10_fire_1 : decode cX10_fire 1 = .ok (.bipush 9, 2) := by decide +kernel
theorem dX10_fire_3 : decode cX10_fire 3 = .ok (.invokestatic 127, 3) := by decide +kernel
theorem dX10_fire_6 : decode cX10_fire 6 = .ok (.ifCond .eq 12, 3) := by decide +kernel
theorem dX10_fire_9 : decode cX10_fire 9 = .ok (.iload_n 2, 1) := by decide +kernel
theorem dX10_fire_10 : decode cX10_fire 10 = .ok (.bipush 9, 2) := by decide +kernel
theorem dX10_fire_12 : decode cX10_fire 12 = .ok (.invokestatic 127, 3) := by decide +kernel
theorem dX10_fire_15 : decode cX10_fire 15 = .ok (.ifCond .ne 5, 3) := by decide +kernel
theorem dX10_fire_18 : decode cX10_fire 18 = .ok (.iconst (-1), 1) := by decide +kernel
theorem dX10_fire_19 : decode cX10_fire 19 = .ok (.ireturn, 1) := by decide +kernel
theorem dX10_fire_20 : decode cX10_fire 20 = .ok (.aload_n 0, 1) := by decide +kernel
theorem dX10_fire_21 : decode cX10_fire 21 = .ok (.getfield 38, 3) := by decide +kernel
theorem dX10_fire_24 : decode cX10_fire 24 = .ok (.invokevirtual 131, 3) := by decide +kernel
theorem dX10_fire_27 : decode cX10_fire 27 = .ok (.astore_n 3, 1) := by decide +kernel
theorem dX10_fire_28 : decode cX10_fire 28 = .ok (.aload_n 3, 1) := by decide +kernel
theorem dX10_fire_29 : decode cX10_fire 29 = .ok (.iload_n 1, 1) := by decide +kernel
theorem dX10_fire_30 : decode cX10_fire 30 = .ok (.putfield 135, 3) := by decide +kernel
theorem dX10_fire_33 : decode cX10_fire 33 = .ok (.aload_n 3, 1) := by decide +kernel
theorem dX10_fire_34 : decode cX10_fire 34 = .ok (.iload_n 2, 1) := by decide +kernel
theorem dX10_fire_35 : decode cX10_fire 35 = .ok (.putfield 138, 3) := by decide +kernel
theorem dX10_fire_38 : decode cX10_fire 38 = .ok (.aload_n 0, 1) := by decide +kernel
theorem dX10_fire_39 : decode cX10_fire 39 = .ok (.invokevirtual 141, 3) := by decide +kernel
theorem dX10_fire_42 : decode cX10_fire 42 = .ok (.aload_n 0, 1) := by decide +kernel
theorem dX10_fire_43 : decode cX10_fire 43 = .ok (.getfield 19, 3) := by decide +kernel
theorem dX10_fire_46 : decode cX10_fire 46 = .ok (.iload_n 1, 1) := by decide +kernel
theorem dX10_fire_47 : decode cX10_fire 47 = .ok (.iload_n 2, 1) := by decide +kernel
theorem dX10_fire_48 : decode cX10_fire 48 = .ok (.invokevirtual 144, 3) := by decide +kernel
theorem dX10_fire_51 : decode cX10_fire 51 = .ok (.ifCond .eq 7, 3) := by decide +kernel
theorem dX10_fire_54 : decode cX10_fire 54 = .ok (.iconst 1, 1) := by decide +kernel
theorem dX10_fire_55 : decode cX10_fire 55 = .ok (.goto 4, 3) := by decide +kernel
theorem dX10_fire_58 : decode cX10_fire 58 = .ok (.iconst 0, 1) := by decide +kernel
theorem dX10_fire_59 : decode cX10_fire 59 = .ok (.ireturn, 1) := by decide +kernel
theorem dX10_onto_0 : decode cX10_onto 0 = .ok (.iload_n 1, 1) := by decide +kernel
theorem dX10_onto_1 : decode cX10_onto 1 = .ok (.iload_n 2, 1) := by decide +kernel
theorem dX10_onto_2 : decode cX10_onto 2 = .ok (.invokestatic 147, 3) := by decide +kernel
theorem dX10_onto_5 : decode cX10_onto 5 = .ok (.ifCond .ne 5, 3) := by decide +kernel
theorem dX10_onto_8 : decode cX10_onto 8 = .ok (.iconst (-1), 1) := by decide +kernel
theorem dX10_onto_9 : decode cX10_onto 9 = .ok (.ireturn, 1) := by decide +kernel
theorem dX10_onto_10 : decode cX10_onto 10 = .ok (.aload_n 0, 1) := by decide +kernel
theorem dX10_onto_11 : decode cX10_onto 11 = .ok (.getfield 38, 3) := by decide +kernel
theorem dX10_onto_14 : decode cX10_onto 14 = .ok (.invokevirtual 131, 3) := by decide +kernel
theorem dX10_onto_17 : decode cX10_onto 17 = .ok (.astore_n 3, 1) := by decide +kernel
theorem dX10_onto_18 : decode cX10_onto 18 = .ok (.aload_n 3, 1) := by decide +kernel
theorem dX10_onto_19 : decode cX10_onto 19 = .ok (.iload_n 1, 1) := by decide +kernel
theorem dX10_onto_20 : decode cX10_onto 20 = .ok (.putfield 150, 3) := by decide +kernel
theorem dX10_onto_23 : decode cX10_onto 23 = .ok (.aload_n 3, 1) := by decide +kernel
theorem dX10_onto_24 : decode cX10_onto 24 = .ok (.iload_n 2, 1) := by decide +kernel
theorem dX10_onto_25 : decode cX10_onto 25 = .ok (.putfield 153, 3) := by decide +kernel
theorem dX10_onto_28 : decode cX10_onto 28 = .ok (.aload_n 3, 1) := by decide +kernel
theorem dX10_onto_29 : decode cX10_onto 29 = .ok (.lconst 0, 1) := by decide +kernel
theorem dX10_onto_30 : decode cX10_onto 30 = .ok (.putfield 156, 3) := by decide +kernel
theorem dX10_onto_33 : decode cX10_onto 33 = .ok (.aload_n 0, 1) := by decide +kernel
theorem dX10_onto_34 : decode cX10_onto 34 = .ok (.invokevirtual 141, 3) := by decide +kernel
theorem dX10_onto_37 : decode cX10_onto 37 = .ok (.aload_n 0, 1) := by decide +kernel
theorem dX10_onto_38 : decode cX10_onto 38 = .ok (.getfield 62, 3) := by decide +kernel
theorem dX10_onto_41 : decode cX10_onto 41 = .ok (.getfield 160, 3) := by decide +kernel
theorem dX10_onto_44 : decode cX10_onto 44 = .ok (.ireturn, 1) := by decide +kernel
theorem dX10_workers_0 : decode cX10_workers 0 = .ok (.iload_n 1, 1) := by decide +kernel
theorem dX10_workers_1 : decode cX10_workers 1 = .ok (.iconst 1, 1) := by decide +kernel
theorem dX10_workers_2 : decode cX10_workers 2 = .ok (.if_icmp .lt 9, 3) := by decide +kernel
theorem dX10_workers_5 : decode cX10_workers 5 = .ok (.iload_n 1, 1) := by decide +kernel
theorem dX10_workers_6 : decode cX10_workers 6 = .ok (.bipush 12, 2) := by decide +kernel
theorem dX10_workers_8 : decode cX10_workers 8 = .ok (.if_icmp .le 5, 3) := by decide +kernel
theorem dX10_workers_11 : decode cX10_workers 11 = .ok (.iconst (-1), 1) := by decide +kernel
theorem dX10_workers_12 : decode cX10_workers 12 = .ok (.ireturn, 1) := by decide +kernel
theorem dX10_workers_13 : decode cX10_workers 13 = .ok (.aload_n 0, 1) := by decide +kernel
theorem dX10_workers_14 : decode cX10_workers 14 = .ok (.getfield 38, 3) := by decide +kernel
theorem dX10_workers_17 : decode cX10_workers 17 = .ok (.invokevirtual 131, 3) := by decide +kernel
theorem dX10_workers_20 : decode cX10_workers 20 = .ok (.astore_n 2, 1) := by decide +kernel
theorem dX10_workers_21 : decode cX10_workers 21 = .ok (.aload_n 2, 1) := by decide +kernel
theorem dX10_workers_22 : decode cX10_workers 22 = .ok (.getfield 163, 3) := by decide +kernel
theorem dX10_workers_25 : decode cX10_workers 25 = .ok (.istore_n 3, 1) := by decide +kernel
theorem dX10_workers_26 : decode cX10_workers 26 = .ok (.aload_n 2, 1) := by decide +kernel
theorem dX10_workers_27 : decode cX10_workers 27 = .ok (.iload_n 1, 1) := by decide +kernel
theorem dX10_workers_28 : decode cX10_workers 28 = .ok (.putfield 163, 3) := by decide +kernel
theorem dX10_workers_31 : decode cX10_workers 31 = .ok (.iload_n 3, 1) := by decide +kernel
theorem dX10_workers_32 : decode cX10_workers 32 = .ok (.ireturn, 1) := by decide +kernel
theorem dX10_broken_0 : decode cX10_broken 0 = .ok (.aload_n 0, 1) := by decide +kernel
theorem dX10_broken_1 : decode cX10_broken 1 = .ok (.iload_n 1, 1) := by decide +kernel
theorem dX10_broken_2 : decode cX10_broken 2 = .ok (.invokevirtual 166, 3) := by decide +kernel
theorem dX10_broken_5 : decode cX10_broken 5 = .ok (.ifCond .eq 15, 3) := by decide +kernel
theorem dX10_broken_8 : decode cX10_broken 8 = .ok (.aload_n 0, 1) := by decide +kernel
theorem dX10_broken_9 : decode cX10_broken 9 = .ok (.invokevirtual 170, 3) := by decide +kernel
theorem dX10_broken_12 : decode cX10_broken 12 = .ok (.iload_n 1, 1) := by decide +kernel
theorem dX10_broken_13 : decode cX10_broken 13 = .ok (.invokevirtual 173, 3) := by decide +kernel
theorem dX10_broken_16 : decode cX10_broken 16 = .ok (.iload_n 2, 1) := by decide +kernel
theorem dX10_broken_17 : decode cX10_broken 17 = .ok (.if_icmp .ne 5, 3) := by decide +kernel
theorem dX10_broken_20 : decode cX10_broken 20 = .ok (.iconst (-1), 1) := by decide +kernel
theorem dX10_broken_21 : decode cX10_broken 21 = .ok (.ireturn, 1) := by decide +kernel
theorem dX10_broken_22 : decode cX10_broken 22 = .ok (.aload_n 0, 1) := by decide +kernel
theorem dX10_broken_23 : decode cX10_broken 23 = .ok (.getfield 38, 3) := by decide +kernel
theorem dX10_broken_26 : decode cX10_broken 26 = .ok (.invokevirtual 131, 3) := by decide +kernel
theorem dX10_broken_29 : decode cX10_broken 29 = .ok (.astore_n 3, 1) := by decide +kernel
theorem dX10_broken_30 : decode cX10_broken 30 = .ok (.aload_n 3, 1) := by decide +kernel
theorem dX10_broken_31 : decode cX10_broken 31 = .ok (.dup, 1) := by decide +kernel
theorem dX10_broken_32 : decode cX10_broken 32 = .ok (.getfield 156, 3) := by decide +kernel
theorem dX10_broken_35 : decode cX10_broken 35 = .ok (.lconst 1, 1) := by decide +kernel
theorem dX10_broken_36 : decode cX10_broken 36 = .ok (.iload_n 1, 1) := by decide +kernel
theorem dX10_broken_37 : decode cX10_broken 37 = .ok (.lshl, 1) := by decide +kernel
theorem dX10_broken_38 : decode cX10_broken 38 = .ok (.lxor, 1) := by decide +kernel
theorem dX10_broken_39 : decode cX10_broken 39 = .ok (.putfield 156, 3) := by decide +kernel
theorem dX10_broken_42 : decode cX10_broken 42 = .ok (.aload_n 0, 1) := by decide +kernel
theorem dX10_broken_43 : decode cX10_broken 43 = .ok (.invokevirtual 141, 3) := by decide +kernel
theorem dX10_broken_46 : decode cX10_broken 46 = .ok (.aload_n 3, 1) := by decide +kernel
theorem dX10_broken_47 : decode cX10_broken 47 = .ok (.getfield 156, 3) := by decide +kernel
theorem dX10_broken_50 : decode cX10_broken 50 = .ok (.invokestatic 176, 3) := by decide +kernel
theorem dX10_broken_53 : decode cX10_broken 53 = .ok (.ireturn, 1) := by decide +kernel
theorem dX10_undo_0 : decode cX10_undo 0 = .ok (.aload_n 0, 1) := by decide +kernel
theorem dX10_undo_1 : decode cX10_undo 1 = .ok (.getfield 38, 3) := by decide +kernel
theorem dX10_undo_4 : decode cX10_undo 4 = .ok (.invokevirtual 182, 3) := by decide +kernel
theorem dX10_undo_7 : decode cX10_undo 7 = .ok (.ifCond .ne 5, 3) := by decide +kernel
theorem dX10_undo_10 : decode cX10_undo 10 = .ok (.iconst 0, 1) := by decide +kernel
theorem dX10_undo_11 : decode cX10_undo 11 = .ok (.ireturn, 1) := by decide +kernel
theorem dX10_undo_12 : decode cX10_undo 12 = .ok (.aload_n 0, 1) := by decide +kernel
theorem dX10_undo_13 : decode cX10_undo 13 = .ok (.invokevirtual 141, 3) := by decide +kernel
theorem dX10_undo_16 : decode cX10_undo 16 = .ok (.iconst 1, 1) := by decide +kernel
theorem dX10_undo_17 : decode cX10_undo 17 = .ok (.ireturn, 1) := by decide +kernel
theorem dX10_redo_0 : decode cX10_redo 0 = .ok (.aload_n 0, 1) := by decide +kernel
theorem dX10_redo_1 : decode cX10_redo 1 = .ok (.getfield 38, 3) := by decide +kernel
theorem dX10_redo_4 : decode cX10_redo 4 = .ok (.invokevirtual 186, 3) := by decide +kernel
theorem dX10_redo_7 : decode cX10_redo 7 = .ok (.ifCond .ne 5, 3) := by decide +kernel
theorem dX10_redo_10 : decode cX10_redo 10 = .ok (.iconst 0, 1) := by decide +kernel
theorem dX10_redo_11 : decode cX10_redo 11 = .ok (.ireturn, 1) := by decide +kernel
theorem dX10_redo_12 : decode cX10_redo 12 = .ok (.aload_n 0, 1) := by decide +kernel
theorem dX10_redo_13 : decode cX10_redo 13 = .ok (.invokevirtual 141, 3) := by decide +kernel
theorem dX10_redo_16 : decode cX10_redo 16 = .ok (.iconst 1, 1) := by decide +kernel
theorem dX10_redo_17 : decode cX10_redo 17 = .ok (.ireturn, 1) := by decide +kernel
theorem dX10_value_0 : decode cX10_value 0 = .ok (.aload_n 0, 1) := by decide +kernel
theorem dX10_value_1 : decode cX10_value 1 = .ok (.iload_n 1, 1) := by decide +kernel
theorem dX10_value_2 : decode cX10_value 2 = .ok (.invokevirtual 189, 3) := by decide +kernel
theorem dX10_value_5 : decode cX10_value 5 = .ok (.ifCond .eq 15, 3) := by decide +kernel
theorem dX10_value_8 : decode cX10_value 8 = .ok (.aload_n 0, 1) := by decide +kernel
theorem dX10_value_9 : decode cX10_value 9 = .ok (.getfield 19, 3) := by decide +kernel
theorem dX10_value_12 : decode cX10_value 12 = .ok (.iload_n 2, 1) := by decide +kernel
theorem dX10_value_13 : decode cX10_value 13 = .ok (.iload_n 3, 1) := by decide +kernel
theorem dX10_value_14 : decode cX10_value 14 = .ok (.invokevirtual 192, 3) := by decide +kernel
theorem dX10_value_17 : decode cX10_value 17 = .ok (.ifCond .ne 5, 3) := by decide +kernel
theorem dX10_value_20 : decode cX10_value 20 = .ok (.iconst 0, 1) := by decide +kernel
theorem dX10_value_21 : decode cX10_value 21 = .ok (.ireturn, 1) := by decide +kernel
theorem dX10_value_22 : decode cX10_value 22 = .ok (.aload_n 0, 1) := by decide +kernel
theorem dX10_value_23 : decode cX10_value 23 = .ok (.getfield 80, 3) := by decide +kernel
theorem dX10_value_26 : decode cX10_value 26 = .ok (.iload_n 1, 1) := by decide +kernel
theorem dX10_value_27 : decode cX10_value 27 = .ok (.bipush 100, 2) := by decide +kernel
theorem dX10_value_29 : decode cX10_value 29 = .ok (.imul, 1) := by decide +kernel
theorem dX10_value_30 : decode cX10_value 30 = .ok (.iload_n 2, 1) := by decide +kernel
theorem dX10_value_31 : decode cX10_value 31 = .ok (.bipush 10, 2) := by decide +kernel
theorem dX10_value_33 : decode cX10_value 33 = .ok (.imul, 1) := by decide +kernel
theorem dX10_value_34 : decode cX10_value 34 = .ok (.iadd, 1) := by decide +kernel
theorem dX10_value_35 : decode cX10_value 35 = .ok (.iload_n 3, 1) := by decide +kernel
theorem dX10_value_36 : decode cX10_value 36 = .ok (.iadd, 1) := by decide +kernel
theorem dX10_value_37 : decode cX10_value 37 = .ok (.iaload, 1) := by decide +kernel
theorem dX10_value_38 : decode cX10_value 38 = .ok (.ireturn, 1) := by decide +kernel
theorem dX10_ordered_0 : decode cX10_ordered 0 = .ok (.aload_n 0, 1) := by decide +kernel
theorem dX10_ordered_1 : decode cX10_ordered 1 = .ok (.getfield 19, 3) := by decide +kernel
theorem dX10_ordered_4 : decode cX10_ordered 4 = .ok (.iload_n 1, 1) := by decide +kernel
theorem dX10_ordered_5 : decode cX10_ordered 5 = .ok (.iload_n 2, 1) := by decide +kernel
theorem dX10_ordered_6 : decode cX10_ordered 6 = .ok (.invokevirtual 192, 3) := by decide +kernel
theorem dX10_ordered_9 : decode cX10_ordered 9 = .ok (.ifCond .ne 5, 3) := by decide +kernel
theorem dX10_ordered_12 : decode cX10_ordered 12 = .ok (.iconst (-1), 1) := by decide +kernel
theorem dX10_ordered_13 : decode cX10_ordered 13 = .ok (.ireturn, 1) := by decide +kernel
theorem dX10_ordered_14 : decode cX10_ordered 14 = .ok (.aload_n 0, 1) := by decide +kernel
theorem dX10_ordered_15 : decode cX10_ordered 15 = .ok (.getfield 55, 3) := by decide +kernel
theorem dX10_ordered_18 : decode cX10_ordered 18 = .ok (.iload_n 1, 1) := by decide +kernel
theorem dX10_ordered_19 : decode cX10_ordered 19 = .ok (.bipush 10, 2) := by decide +kernel
theorem dX10_ordered_21 : decode cX10_ordered 21 = .ok (.imul, 1) := by decide +kernel
theorem dX10_ordered_22 : decode cX10_ordered 22 = .ok (.iload_n 2, 1) := by decide +kernel
theorem dX10_ordered_23 : decode cX10_ordered 23 = .ok (.iadd, 1) := by decide +kernel
theorem dX10_ordered_24 : decode cX10_ordered 24 = .ok (.invokevirtual 195, 3) := by decide +kernel
theorem dX10_ordered_27 : decode cX10_ordered 27 = .ok (.ifCond .eq 7, 3) := by decide +kernel
theorem dX10_ordered_30 : decode cX10_ordered 30 = .ok (.iconst 1, 1) := by decide +kernel
theorem dX10_ordered_31 : decode cX10_ordered 31 = .ok (.goto 4, 3) := by decide +kernel
theorem dX10_ordered_34 : decode cX10_ordered 34 = .ok (.iconst 0, 1) := by decide +kernel
theorem dX10_ordered_35 : decode cX10_ordered 35 = .ok (.ireturn, 1) := by decide +kernel
theorem dX10_depth_0 : decode cX10_depth 0 = .ok (.aload_n 0, 1) := by decide +kernel
theorem dX10_depth_1 : decode cX10_depth 1 = .ok (.getfield 19, 3) := by decide +kernel
theorem dX10_depth_4 : decode cX10_depth 4 = .ok (.iload_n 1, 1) := by decide +kernel
theorem dX10_depth_5 : decode cX10_depth 5 = .ok (.iload_n 2, 1) := by decide +kernel
theorem dX10_depth_6 : decode cX10_depth 6 = .ok (.invokevirtual 192, 3) := by decide +kernel
theorem dX10_depth_9 : decode cX10_depth 9 = .ok (.ifCond .eq 20, 3) := by decide +kernel
theorem dX10_depth_12 : decode cX10_depth 12 = .ok (.aload_n 0, 1) := by decide +kernel
theorem dX10_depth_13 : decode cX10_depth 13 = .ok (.getfield 55, 3) := by decide +kernel
theorem dX10_depth_16 : decode cX10_depth 16 = .ok (.getfield 92, 3) := by decide +kernel
theorem dX10_depth_19 : decode cX10_depth 19 = .ok (.iload_n 1, 1) := by decide +kernel
theorem dX10_depth_20 : decode cX10_depth 20 = .ok (.bipush 10, 2) := by decide +kernel
theorem dX10_depth_22 : decode cX10_depth 22 = .ok (.imul, 1) := by decide +kernel
theorem dX10_depth_23 : decode cX10_depth 23 = .ok (.iload_n 2, 1) := by decide +kernel
theorem dX10_depth_24 : decode cX10_depth 24 = .ok (.iadd, 1) := by decide +kernel
theorem dX10_depth_25 : decode cX10_depth 25 = .ok (.iaload, 1) := by decide +kernel
theorem dX10_depth_26 : decode cX10_depth 26 = .ok (.goto 4, 3) := by decide +kernel
theorem dX10_depth_29 : decode cX10_depth 29 = .ok (.iconst (-1), 1) := by decide +kernel
theorem dX10_depth_30 : decode cX10_depth 30 = .ok (.ireturn, 1) := by decide +kernel
theorem dX10_run_0 : decode cX10_run 0 = .ok (.aload_n 0, 1) := by decide +kernel
theorem dX10_run_1 : decode cX10_run 1 = .ok (.iload_n 1, 1) := by decide +kernel
theorem dX10_run_2 : decode cX10_run 2 = .ok (.invokevirtual 189, 3) := by decide +kernel
theorem dX10_run_5 : decode cX10_run 5 = .ok (.ifCond .eq 15, 3) := by decide +kernel
theorem dX10_run_8 : decode cX10_run 8 = .ok (.aload_n 0, 1) := by decide +kernel
theorem dX10_run_9 : decode cX10_run 9 = .ok (.getfield 19, 3) := by decide +kernel
theorem dX10_run_12 : decode cX10_run 12 = .ok (.iload_n 2, 1) := by decide +kernel
theorem dX10_run_13 : decode cX10_run 13 = .ok (.iload_n 3, 1) := by decide +kernel
theorem dX10_run_14 : decode cX10_run 14 = .ok (.invokevirtual 192, 3) := by decide +kernel
theorem dX10_run_17 : decode cX10_run 17 = .ok (.ifCond .ne 5, 3) := by decide +kernel
theorem dX10_run_20 : decode cX10_run 20 = .ok (.iconst 0, 1) := by decide +kernel
theorem dX10_run_21 : decode cX10_run 21 = .ok (.ireturn, 1) := by decide +kernel
theorem dX10_run_22 : decode cX10_run 22 = .ok (.aload_n 0, 1) := by decide +kernel
theorem dX10_run_23 : decode cX10_run 23 = .ok (.invokevirtual 198, 3) := by decide +kernel
theorem dX10_run_26 : decode cX10_run 26 = .ok (.aload_n 0, 1) := by decide +kernel
theorem dX10_run_27 : decode cX10_run 27 = .ok (.getfield 84, 3) := by decide +kernel
theorem dX10_run_30 : decode cX10_run 30 = .ok (.iload_n 1, 1) := by decide +kernel
theorem dX10_run_31 : decode cX10_run 31 = .ok (.bipush 100, 2) := by decide +kernel
theorem dX10_run_33 : decode cX10_run 33 = .ok (.imul, 1) := by decide +kernel
theorem dX10_run_34 : decode cX10_run 34 = .ok (.iload_n 2, 1) := by decide +kernel
theorem dX10_run_35 : decode cX10_run 35 = .ok (.bipush 10, 2) := by decide +kernel
theorem dX10_run_37 : decode cX10_run 37 = .ok (.imul, 1) := by decide +kernel
theorem dX10_run_38 : decode cX10_run 38 = .ok (.iadd, 1) := by decide +kernel
theorem dX10_run_39 : decode cX10_run 39 = .ok (.iload_n 3, 1) := by decide +kernel
theorem dX10_run_40 : decode cX10_run 40 = .ok (.iadd, 1) := by decide +kernel
theorem dX10_run_41 : decode cX10_run 41 = .ok (.iaload, 1) := by decide +kernel
theorem dX10_run_42 : decode cX10_run 42 = .ok (.ireturn, 1) := by decide +kernel
theorem dX10_wrong_0 : decode cX10_wrong 0 = .ok (.aload_n 0, 1) := by decide +kernel
theorem dX10_wrong_1 : decode cX10_wrong 1 = .ok (.invokevirtual 198, 3) := by decide +kernel
theorem dX10_wrong_4 : decode cX10_wrong 4 = .ok (.aload_n 0, 1) := by decide +kernel
theorem dX10_wrong_5 : decode cX10_wrong 5 = .ok (.aload_n 0, 1) := by decide +kernel
theorem dX10_wrong_6 : decode cX10_wrong 6 = .ok (.getfield 84, 3) := by decide +kernel
theorem dX10_wrong_9 : decode cX10_wrong 9 = .ok (.invokevirtual 201, 3) := by decide +kernel
theorem dX10_wrong_12 : decode cX10_wrong 12 = .ok (.ireturn, 1) := by decide +kernel
theorem dX10_tick_0 : decode cX10_tick 0 = .ok (.aload_n 0, 1) := by decide +kernel
theorem dX10_tick_1 : decode cX10_tick 1 = .ok (.getfield 19, 3) := by decide +kernel
theorem dX10_tick_4 : decode cX10_tick 4 = .ok (.iload_n 1, 1) := by decide +kernel
theorem dX10_tick_5 : decode cX10_tick 5 = .ok (.iload_n 2, 1) := by decide +kernel
theorem dX10_tick_6 : decode cX10_tick 6 = .ok (.invokevirtual 192, 3) := by decide +kernel
theorem dX10_tick_9 : decode cX10_tick 9 = .ok (.ifCond .eq 20, 3) := by decide +kernel
theorem dX10_tick_12 : decode cX10_tick 12 = .ok (.aload_n 0, 1) := by decide +kernel
theorem dX10_tick_13 : decode cX10_tick 13 = .ok (.getfield 62, 3) := by decide +kernel
theorem dX10_tick_16 : decode cX10_tick 16 = .ok (.getfield 205, 3) := by decide +kernel
theorem dX10_tick_19 : decode cX10_tick 19 = .ok (.iload_n 1, 1) := by decide +kernel
theorem dX10_tick_20 : decode cX10_tick 20 = .ok (.bipush 10, 2) := by decide +kernel
theorem dX10_tick_22 : decode cX10_tick 22 = .ok (.imul, 1) := by decide +kernel
theorem dX10_tick_23 : decode cX10_tick 23 = .ok (.iload_n 2, 1) := by decide +kernel
theorem dX10_tick_24 : decode cX10_tick 24 = .ok (.iadd, 1) := by decide +kernel
theorem dX10_tick_25 : decode cX10_tick 25 = .ok (.iaload, 1) := by decide +kernel
theorem dX10_tick_26 : decode cX10_tick 26 = .ok (.goto 4, 3) := by decide +kernel
theorem dX10_tick_29 : decode cX10_tick 29 = .ok (.iconst (-1), 1) := by decide +kernel
theorem dX10_tick_30 : decode cX10_tick 30 = .ok (.ireturn, 1) := by decide +kernel
theorem dX10_cell_0 : decode cX10_cell 0 = .ok (.aload_n 0, 1) := by decide +kernel
theorem dX10_cell_1 : decode cX10_cell 1 = .ok (.getfield 19, 3) := by decide +kernel
theorem dX10_cell_4 : decode cX10_cell 4 = .ok (.iload_n 1, 1) := by decide +kernel
theorem dX10_cell_5 : decode cX10_cell 5 = .ok (.iload_n 2, 1) := by decide +kernel
theorem dX10_cell_6 : decode cX10_cell 6 = .ok (.invokevirtual 192, 3) := by decide +kernel
theorem dX10_cell_9 : decode cX10_cell 9 = .ok (.ifCond .eq 20, 3) := by decide +kernel
theorem dX10_cell_12 : decode cX10_cell 12 = .ok (.aload_n 0, 1) := by decide +kernel
theorem dX10_cell_13 : decode cX10_cell 13 = .ok (.getfield 62, 3) := by decide +kernel
theorem dX10_cell_16 : decode cX10_cell 16 = .ok (.getfield 208, 3) := by decide +kernel
theorem dX10_cell_19 : decode cX10_cell 19 = .ok (.iload_n 1, 1) := by decide +kernel
theorem dX10_cell_20 : decode cX10_cell 20 = .ok (.bipush 10, 2) := by decide +kernel
theorem dX10_cell_22 : decode cX10_cell 22 = .ok (.imul, 1) := by decide +kernel
theorem dX10_cell_23 : decode cX10_cell 23 = .ok (.iload_n 2, 1) := by decide +kernel
theorem dX10_cell_24 : decode cX10_cell 24 = .ok (.iadd, 1) := by decide +kernel
theorem dX10_cell_25 : decode cX10_cell 25 = .ok (.iaload, 1) := by decide +kernel
theorem dX10_cell_26 : decode cX10_cell 26 = .ok (.goto 4, 3) := by decide +kernel
theorem dX10_cell_29 : decode cX10_cell 29 = .ok (.iconst (-1), 1) := by decide +kernel
theorem dX10_cell_30 : decode cX10_cell 30 = .ok (.ireturn, 1) := by decide +kernel
theorem dX10_point_0 : decode cX10_point 0 = .ok (.iconst 0, 1) := by decide +kernel
theorem dX10_point_1 : decode cX10_point 1 = .ok (.istore_n 3, 1) := by decide +kernel
theorem dX10_point_2 : decode cX10_point 2 = .ok (.iload_n 3, 1) := by decide +kernel
theorem dX10_point_3 : decode cX10_point 3 = .ok (.aload_n 0, 1) := by decide +kernel
theorem dX10_point_4 : decode cX10_point 4 = .ok (.getfield 19, 3) := by decide +kernel
theorem dX10_point_7 : decode cX10_point 7 = .ok (.invokevirtual 211, 3) := by decide +kernel
theorem dX10_point_10 : decode cX10_point 10 = .ok (.if_icmp .ge 50, 3) := by decide +kernel
theorem dX10_point_13 : decode cX10_point 13 = .ok (.aload_n 0, 1) := by decide +kernel
theorem dX10_point_14 : decode cX10_point 14 = .ok (.getfield 19, 3) := by decide +kernel
theorem dX10_point_17 : decode cX10_point 17 = .ok (.iload_n 3, 1) := by decide +kernel
theorem dX10_point_18 : decode cX10_point 18 = .ok (.invokevirtual 215, 3) := by decide +kernel
theorem dX10_point_21 : decode cX10_point 21 = .ok (.istore 4, 2) := by decide +kernel
theorem dX10_point_23 : decode cX10_point 23 = .ok (.aload_n 0, 1) := by decide +kernel
theorem dX10_point_24 : decode cX10_point 24 = .ok (.getfield 62, 3) := by decide +kernel
theorem dX10_point_27 : decode cX10_point 27 = .ok (.getfield 208, 3) := by decide +kernel
theorem dX10_point_30 : decode cX10_point 30 = .ok (.iload 4, 2) := by decide +kernel
theorem dX10_point_32 : decode cX10_point 32 = .ok (.iaload, 1) := by decide +kernel
theorem dX10_point_33 : decode cX10_point 33 = .ok (.iload_n 1, 1) := by decide +kernel
theorem dX10_point_34 : decode cX10_point 34 = .ok (.if_icmp .ne 20, 3) := by decide +kernel
theorem dX10_point_37 : decode cX10_point 37 = .ok (.aload_n 0, 1) := by decide +kernel
theorem dX10_point_38 : decode cX10_point 38 = .ok (.getfield 62, 3) := by decide +kernel
theorem dX10_point_41 : decode cX10_point 41 = .ok (.getfield 205, 3) := by decide +kernel
theorem dX10_point_44 : decode cX10_point 44 = .ok (.iload 4, 2) := by decide +kernel
theorem dX10_point_46 : decode cX10_point 46 = .ok (.iaload, 1) := by decide +kernel
theorem dX10_point_47 : decode cX10_point 47 = .ok (.iload_n 2, 1) := by decide +kernel
theorem dX10_point_48 : decode cX10_point 48 = .ok (.if_icmp .ne 6, 3) := by decide +kernel
theorem dX10_point_51 : decode cX10_point 51 = .ok (.iload 4, 2) := by decide +kernel
theorem dX10_point_53 : decode cX10_point 53 = .ok (.ireturn, 1) := by decide +kernel
theorem dX10_point_54 : decode cX10_point 54 = .ok (.iinc 3 1, 3) := by decide +kernel
theorem dX10_point_57 : decode cX10_point 57 = .ok (.goto (-55), 3) := by decide +kernel
theorem dX10_point_60 : decode cX10_point 60 = .ok (.iconst (-1), 1) := by decide +kernel
theorem dX10_point_61 : decode cX10_point 61 = .ok (.ireturn, 1) := by decide +kernel
theorem dX10_wave_0 : decode cX10_wave 0 = .ok (.iload_n 1, 1) := by decide +kernel
theorem dX10_wave_1 : decode cX10_wave 1 = .ok (.ifCond .ge 5, 3) := by decide +kernel
theorem dX10_wave_4 : decode cX10_wave 4 = .ok (.iconst (-1), 1) := by decide +kernel
theorem dX10_wave_5 : decode cX10_wave 5 = .ok (.ireturn, 1) := by decide +kernel
theorem dX10_wave_6 : decode cX10_wave 6 = .ok (.iload_n 1, 1) := by decide +kernel
theorem dX10_wave_7 : decode cX10_wave 7 = .ok (.aload_n 0, 1) := by decide +kernel
theorem dX10_wave_8 : decode cX10_wave 8 = .ok (.getfield 62, 3) := by decide +kernel
theorem dX10_wave_11 : decode cX10_wave 11 = .ok (.getfield 219, 3) := by decide +kernel
theorem dX10_wave_14 : decode cX10_wave 14 = .ok (.if_icmp .ge 15, 3) := by decide +kernel
theorem dX10_wave_17 : decode cX10_wave 17 = .ok (.aload_n 0, 1) := by decide +kernel
theorem dX10_wave_18 : decode cX10_wave 18 = .ok (.getfield 62, 3) := by decide +kernel
theorem dX10_wave_21 : decode cX10_wave 21 = .ok (.getfield 222, 3) := by decide +kernel
theorem dX10_wave_24 : decode cX10_wave 24 = .ok (.iload_n 1, 1) := by decide +kernel
theorem dX10_wave_25 : decode cX10_wave 25 = .ok (.iaload, 1) := by decide +kernel
theorem dX10_wave_26 : decode cX10_wave 26 = .ok (.goto 4, 3) := by decide +kernel
theorem dX10_wave_29 : decode cX10_wave 29 = .ok (.iconst 0, 1) := by decide +kernel
theorem dX10_wave_30 : decode cX10_wave 30 = .ok (.ireturn, 1) := by decide +kernel
theorem dX10_busy_0 : decode cX10_busy 0 = .ok (.aload_n 0, 1) := by decide +kernel
theorem dX10_busy_1 : decode cX10_busy 1 = .ok (.iload_n 1, 1) := by decide +kernel
theorem dX10_busy_2 : decode cX10_busy 2 = .ok (.invokevirtual 166, 3) := by decide +kernel
theorem dX10_busy_5 : decode cX10_busy 5 = .ok (.ifCond .ne 7, 3) := by decide +kernel
theorem dX10_busy_8 : decode cX10_busy 8 = .ok (.sipush (-1000), 3) := by decide +kernel
theorem dX10_busy_11 : decode cX10_busy 11 = .ok (.ireturn, 1) := by decide +kernel
theorem dX10_busy_12 : decode cX10_busy 12 = .ok (.iload_n 2, 1) := by decide +kernel
theorem dX10_busy_13 : decode cX10_busy 13 = .ok (.tableswitch 85 0 4 #[35, 44, 53, 62, 79], 35) := by decide +kernel
theorem dX10_busy_48 : decode cX10_busy 48 = .ok (.aload_n 0, 1) := by decide +kernel
theorem dX10_busy_49 : decode cX10_busy 49 = .ok (.getfield 62, 3) := by decide +kernel
theorem dX10_busy_52 : decode cX10_busy 52 = .ok (.iload_n 1, 1) := by decide +kernel
theorem dX10_busy_53 : decode cX10_busy 53 = .ok (.invokevirtual 225, 3) := by decide +kernel
theorem dX10_busy_56 : decode cX10_busy 56 = .ok (.ireturn, 1) := by decide +kernel
theorem dX10_busy_57 : decode cX10_busy 57 = .ok (.aload_n 0, 1) := by decide +kernel
theorem dX10_busy_58 : decode cX10_busy 58 = .ok (.getfield 62, 3) := by decide +kernel
theorem dX10_busy_61 : decode cX10_busy 61 = .ok (.iload_n 1, 1) := by decide +kernel
theorem dX10_busy_62 : decode cX10_busy 62 = .ok (.invokevirtual 228, 3) := by decide +kernel
theorem dX10_busy_65 : decode cX10_busy 65 = .ok (.ireturn, 1) := by decide +kernel
theorem dX10_busy_66 : decode cX10_busy 66 = .ok (.aload_n 0, 1) := by decide +kernel
theorem dX10_busy_67 : decode cX10_busy 67 = .ok (.getfield 62, 3) := by decide +kernel
theorem dX10_busy_70 : decode cX10_busy 70 = .ok (.iload_n 1, 1) := by decide +kernel
theorem dX10_busy_71 : decode cX10_busy 71 = .ok (.invokevirtual 231, 3) := by decide +kernel
theorem dX10_busy_74 : decode cX10_busy 74 = .ok (.ireturn, 1) := by decide +kernel
theorem dX10_busy_75 : decode cX10_busy 75 = .ok (.aload_n 0, 1) := by decide +kernel
theorem dX10_busy_76 : decode cX10_busy 76 = .ok (.invokevirtual 170, 3) := by decide +kernel
theorem dX10_busy_79 : decode cX10_busy 79 = .ok (.iload_n 1, 1) := by decide +kernel
theorem dX10_busy_80 : decode cX10_busy 80 = .ok (.invokevirtual 173, 3) := by decide +kernel
theorem dX10_busy_83 : decode cX10_busy 83 = .ok (.ifCond .eq 7, 3) := by decide +kernel
theorem dX10_busy_86 : decode cX10_busy 86 = .ok (.iconst 1, 1) := by decide +kernel
theorem dX10_busy_87 : decode cX10_busy 87 = .ok (.goto 4, 3) := by decide +kernel
theorem dX10_busy_90 : decode cX10_busy 90 = .ok (.iconst 0, 1) := by decide +kernel
theorem dX10_busy_91 : decode cX10_busy 91 = .ok (.ireturn, 1) := by decide +kernel
theorem dX10_busy_92 : decode cX10_busy 92 = .ok (.aload_n 0, 1) := by decide +kernel
theorem dX10_busy_93 : decode cX10_busy 93 = .ok (.iload_n 1, 1) := by decide +kernel
theorem dX10_busy_94 : decode cX10_busy 94 = .ok (.invokevirtual 234, 3) := by decide +kernel
theorem dX10_busy_97 : decode cX10_busy 97 = .ok (.ireturn, 1) := by decide +kernel
theorem dX10_busy_98 : decode cX10_busy 98 = .ok (.sipush (-1000), 3) := by decide +kernel
theorem dX10_busy_101 : decode cX10_busy 101 = .ok (.ireturn, 1) := by decide +kernel
theorem dX10_plan_0 : decode cX10_plan 0 = .ok (.aload_n 0, 1) := by decide +kernel
theorem dX10_plan_1 : decode cX10_plan 1 = .ok (.invokevirtual 170, 3) := by decide +kernel
theorem dX10_plan_4 : decode cX10_plan 4 = .ok (.astore_n 2, 1) := by decide +kernel
theorem dX10_plan_5 : decode cX10_plan 5 = .ok (.aload_n 0, 1) := by decide +kernel
theorem dX10_plan_6 : decode cX10_plan 6 = .ok (.getfield 19, 3) := by decide +kernel
theorem dX10_plan_9 : decode cX10_plan 9 = .ok (.aload_n 2, 1) := by decide +kernel
theorem dX10_plan_10 : decode cX10_plan 10 = .ok (.getfield 135, 3) := by decide +kernel
theorem dX10_plan_13 : decode cX10_plan 13 = .ok (.aload_n 2, 1) := by decide +kernel
theorem dX10_plan_14 : decode cX10_plan 14 = .ok (.getfield 138, 3) := by decide +kernel
theorem dX10_plan_17 : decode cX10_plan 17 = .ok (.aload_n 2, 1) := by decide +kernel
theorem dX10_plan_18 : decode cX10_plan 18 = .ok (.getfield 150, 3) := by decide +kernel
theorem dX10_plan_21 : decode cX10_plan 21 = .ok (.aload_n 2, 1) := by decide +kernel
theorem dX10_plan_22 : decode cX10_plan 22 = .ok (.getfield 153, 3) := by decide +kernel
theorem dX10_plan_25 : decode cX10_plan 25 = .ok (.invokevirtual 237, 3) := by decide +kernel
theorem dX10_plan_28 : decode cX10_plan 28 = .ok (.istore_n 3, 1) := by decide +kernel
theorem dX10_plan_29 : decode cX10_plan 29 = .ok (.iload_n 1, 1) := by decide +kernel
theorem dX10_plan_30 : decode cX10_plan 30 = .ok (.tableswitch 136 0 6 #[42, 66, 74, 82, 84, 110, 120], 42) := by decide +kernel
theorem dX10_plan_72 : decode cX10_plan 72 = .ok (.aload_n 0, 1) := by decide +kernel
theorem dX10_plan_73 : decode cX10_plan 73 = .ok (.getfield 19, 3) := by decide +kernel
theorem dX10_plan_76 : decode cX10_plan 76 = .ok (.aload_n 2, 1) := by decide +kernel
theorem dX10_plan_77 : decode cX10_plan 77 = .ok (.getfield 135, 3) := by decide +kernel
theorem dX10_plan_80 : decode cX10_plan 80 = .ok (.aload_n 2, 1) := by decide +kernel
theorem dX10_plan_81 : decode cX10_plan 81 = .ok (.getfield 138, 3) := by decide +kernel
theorem dX10_plan_84 : decode cX10_plan 84 = .ok (.invokevirtual 144, 3) := by decide +kernel
theorem dX10_plan_87 : decode cX10_plan 87 = .ok (.ifCond .eq 7, 3) := by decide +kernel
theorem dX10_plan_90 : decode cX10_plan 90 = .ok (.iconst 1, 1) := by decide +kernel
theorem dX10_plan_91 : decode cX10_plan 91 = .ok (.goto 4, 3) := by decide +kernel
theorem dX10_plan_94 : decode cX10_plan 94 = .ok (.iconst 0, 1) := by decide +kernel
theorem dX10_plan_95 : decode cX10_plan 95 = .ok (.ireturn, 1) := by decide +kernel
theorem dX10_plan_96 : decode cX10_plan 96 = .ok (.aload_n 0, 1) := by decide +kernel
theorem dX10_plan_97 : decode cX10_plan 97 = .ok (.getfield 62, 3) := by decide +kernel
theorem dX10_plan_100 : decode cX10_plan 100 = .ok (.getfield 219, 3) := by decide +kernel
theorem dX10_plan_103 : decode cX10_plan 103 = .ok (.ireturn, 1) := by decide +kernel
theorem dX10_plan_104 : decode cX10_plan 104 = .ok (.aload_n 0, 1) := by decide +kernel
theorem dX10_plan_105 : decode cX10_plan 105 = .ok (.getfield 62, 3) := by decide +kernel
theorem dX10_plan_108 : decode cX10_plan 108 = .ok (.getfield 160, 3) := by decide +kernel
theorem dX10_plan_111 : decode cX10_plan 111 = .ok (.ireturn, 1) := by decide +kernel
theorem dX10_plan_112 : decode cX10_plan 112 = .ok (.iload_n 3, 1) := by decide +kernel
theorem dX10_plan_113 : decode cX10_plan 113 = .ok (.ireturn, 1) := by decide +kernel
theorem dX10_plan_114 : decode cX10_plan 114 = .ok (.aload_n 0, 1) := by decide +kernel
theorem dX10_plan_115 : decode cX10_plan 115 = .ok (.getfield 62, 3) := by decide +kernel
theorem dX10_plan_118 : decode cX10_plan 118 = .ok (.getfield 219, 3) := by decide +kernel
theorem dX10_plan_121 : decode cX10_plan 121 = .ok (.aload_n 0, 1) := by decide +kernel
theorem dX10_plan_122 : decode cX10_plan 122 = .ok (.getfield 62, 3) := by decide +kernel
theorem dX10_plan_125 : decode cX10_plan 125 = .ok (.getfield 160, 3) := by decide +kernel
theorem dX10_plan_128 : decode cX10_plan 128 = .ok (.imul, 1) := by decide +kernel
theorem dX10_plan_129 : decode cX10_plan 129 = .ok (.aload_n 0, 1) := by decide +kernel
theorem dX10_plan_130 : decode cX10_plan 130 = .ok (.getfield 19, 3) := by decide +kernel
theorem dX10_plan_133 : decode cX10_plan 133 = .ok (.invokevirtual 211, 3) := by decide +kernel
theorem dX10_plan_136 : decode cX10_plan 136 = .ok (.iload_n 3, 1) := by decide +kernel
theorem dX10_plan_137 : decode cX10_plan 137 = .ok (.isub, 1) := by decide +kernel
theorem dX10_plan_138 : decode cX10_plan 138 = .ok (.isub, 1) := by decide +kernel
theorem dX10_plan_139 : decode cX10_plan 139 = .ok (.ireturn, 1) := by decide +kernel
theorem dX10_plan_140 : decode cX10_plan 140 = .ok (.aload_n 0, 1) := by decide +kernel
theorem dX10_plan_141 : decode cX10_plan 141 = .ok (.getfield 55, 3) := by decide +kernel
theorem dX10_plan_144 : decode cX10_plan 144 = .ok (.getfield 241, 3) := by decide +kernel
theorem dX10_plan_147 : decode cX10_plan 147 = .ok (.iconst 1, 1) := by decide +kernel
theorem dX10_plan_148 : decode cX10_plan 148 = .ok (.iadd, 1) := by decide +kernel
theorem dX10_plan_149 : decode cX10_plan 149 = .ok (.ireturn, 1) := by decide +kernel
theorem dX10_plan_150 : decode cX10_plan 150 = .ok (.aload_n 0, 1) := by decide +kernel
theorem dX10_plan_151 : decode cX10_plan 151 = .ok (.getfield 19, 3) := by decide +kernel
theorem dX10_plan_154 : decode cX10_plan 154 = .ok (.invokevirtual 211, 3) := by decide +kernel
theorem dX10_plan_157 : decode cX10_plan 157 = .ok (.aload_n 0, 1) := by decide +kernel
theorem dX10_plan_158 : decode cX10_plan 158 = .ok (.getfield 55, 3) := by decide +kernel
theorem dX10_plan_161 : decode cX10_plan 161 = .ok (.getfield 244, 3) := by decide +kernel
theorem dX10_plan_164 : decode cX10_plan 164 = .ok (.isub, 1) := by decide +kernel
theorem dX10_plan_165 : decode cX10_plan 165 = .ok (.ireturn, 1) := by decide +kernel
theorem dX10_plan_166 : decode cX10_plan 166 = .ok (.iconst (-1), 1) := by decide +kernel
theorem dX10_plan_167 : decode cX10_plan 167 = .ok (.ireturn, 1) := by decide +kernel
theorem dX10_offset_0 : decode cX10_offset 0 = .ok (.iload_n 1, 1) := by decide +kernel
theorem dX10_offset_1 : decode cX10_offset 1 = .ok (.ifCond .lt 14, 3) := by decide +kernel
theorem dX10_offset_4 : decode cX10_offset 4 = .ok (.iload_n 1, 1) := by decide +kernel
theorem dX10_offset_5 : decode cX10_offset 5 = .ok (.aload_n 0, 1) := by decide +kernel
theorem dX10_offset_6 : decode cX10_offset 6 = .ok (.getfield 19, 3) := by decide +kernel
theorem dX10_offset_9 : decode cX10_offset 9 = .ok (.getfield 247, 3) := by decide +kernel
theorem dX10_offset_12 : decode cX10_offset 12 = .ok (.if_icmp .lt 7, 3) := by decide +kernel
theorem dX10_offset_15 : decode cX10_offset 15 = .ok (.sipush (-1000), 3) := by decide +kernel
theorem dX10_offset_18 : decode cX10_offset 18 = .ok (.ireturn, 1) := by decide +kernel
theorem dX10_offset_19 : decode cX10_offset 19 = .ok (.aload_n 0, 1) := by decide +kernel
theorem dX10_offset_20 : decode cX10_offset 20 = .ok (.invokevirtual 170, 3) := by decide +kernel
theorem dX10_offset_23 : decode cX10_offset 23 = .ok (.astore_n 3, 1) := by decide +kernel
theorem dX10_offset_24 : decode cX10_offset 24 = .ok (.aload_n 0, 1) := by decide +kernel
theorem dX10_offset_25 : decode cX10_offset 25 = .ok (.getfield 19, 3) := by decide +kernel
theorem dX10_offset_28 : decode cX10_offset 28 = .ok (.getfield 250, 3) := by decide +kernel
theorem dX10_offset_31 : decode cX10_offset 31 = .ok (.iload_n 1, 1) := by decide +kernel
theorem dX10_offset_32 : decode cX10_offset 32 = .ok (.iaload, 1) := by decide +kernel
theorem dX10_offset_33 : decode cX10_offset 33 = .ok (.istore 4, 2) := by decide +kernel
theorem dX10_offset_35 : decode cX10_offset 35 = .ok (.aload_n 0, 1) := by decide +kernel
theorem dX10_offset_36 : decode cX10_offset 36 = .ok (.getfield 19, 3) := by decide +kernel
theorem dX10_offset_39 : decode cX10_offset 39 = .ok (.getfield 253, 3) := by decide +kernel
theorem dX10_offset_42 : decode cX10_offset 42 = .ok (.iload_n 1, 1) := by decide +kernel
theorem dX10_offset_43 : decode cX10_offset 43 = .ok (.iaload, 1) := by decide +kernel
theorem dX10_offset_44 : decode cX10_offset 44 = .ok (.istore 5, 2) := by decide +kernel
theorem dX10_offset_46 : decode cX10_offset 46 = .ok (.aload_n 0, 1) := by decide +kernel
theorem dX10_offset_47 : decode cX10_offset 47 = .ok (.getfield 19, 3) := by decide +kernel
theorem dX10_offset_50 : decode cX10_offset 50 = .ok (.iload 4, 2) := by decide +kernel
theorem dX10_offset_52 : decode cX10_offset 52 = .ok (.iload 5, 2) := by decide +kernel
theorem dX10_offset_54 : decode cX10_offset 54 = .ok (.invokevirtual 256, 3) := by decide +kernel
theorem dX10_offset_57 : decode cX10_offset 57 = .ok (.istore 6, 2) := by decide +kernel
theorem dX10_offset_59 : decode cX10_offset 59 = .ok (.aload_n 3, 1) := by decide +kernel
theorem dX10_offset_60 : decode cX10_offset 60 = .ok (.getfield 135, 3) := by decide +kernel
theorem dX10_offset_63 : decode cX10_offset 63 = .ok (.iload 4, 2) := by decide +kernel
theorem dX10_offset_65 : decode cX10_offset 65 = .ok (.imul, 1) := by decide +kernel
theorem dX10_offset_66 : decode cX10_offset 66 = .ok (.aload_n 3, 1) := by decide +kernel
theorem dX10_offset_67 : decode cX10_offset 67 = .ok (.getfield 138, 3) := by decide +kernel
theorem dX10_offset_70 : decode cX10_offset 70 = .ok (.iload 5, 2) := by decide +kernel
theorem dX10_offset_72 : decode cX10_offset 72 = .ok (.imul, 1) := by decide +kernel
theorem dX10_offset_73 : decode cX10_offset 73 = .ok (.iadd, 1) := by decide +kernel
theorem dX10_offset_74 : decode cX10_offset 74 = .ok (.ineg, 1) := by decide +kernel
theorem dX10_offset_75 : decode cX10_offset 75 = .ok (.istore 7, 2) := by decide +kernel
theorem dX10_offset_77 : decode cX10_offset 77 = .ok (.iload_n 2, 1) := by decide +kernel
theorem dX10_offset_78 : decode cX10_offset 78 = .ok (.tableswitch 81 0 5 #[38, 41, 44, 47, 63, 66], 38) := by decide +kernel
theorem dX10_offset_116 : decode cX10_offset 116 = .ok (.iload 4, 2) := by decide +kernel
theorem dX10_offset_118 : decode cX10_offset 118 = .ok (.ireturn, 1) := by decide +kernel
theorem dX10_offset_119 : decode cX10_offset 119 = .ok (.iload 5, 2) := by decide +kernel
theorem dX10_offset_121 : decode cX10_offset 121 = .ok (.ireturn, 1) := by decide +kernel
theorem dX10_offset_122 : decode cX10_offset 122 = .ok (.iload 6, 2) := by decide +kernel
theorem dX10_offset_124 : decode cX10_offset 124 = .ok (.ireturn, 1) := by decide +kernel
theorem dX10_offset_125 : decode cX10_offset 125 = .ok (.aload_n 3, 1) := by decide +kernel
theorem dX10_offset_126 : decode cX10_offset 126 = .ok (.getfield 153, 3) := by decide +kernel
theorem dX10_offset_129 : decode cX10_offset 129 = .ok (.iload 4, 2) := by decide +kernel
theorem dX10_offset_131 : decode cX10_offset 131 = .ok (.imul, 1) := by decide +kernel
theorem dX10_offset_132 : decode cX10_offset 132 = .ok (.aload_n 3, 1) := by decide +kernel
theorem dX10_offset_133 : decode cX10_offset 133 = .ok (.getfield 150, 3) := by decide +kernel
theorem dX10_offset_136 : decode cX10_offset 136 = .ok (.iload 5, 2) := by decide +kernel
theorem dX10_offset_138 : decode cX10_offset 138 = .ok (.imul, 1) := by decide +kernel
theorem dX10_offset_139 : decode cX10_offset 139 = .ok (.isub, 1) := by decide +kernel
theorem dX10_offset_140 : decode cX10_offset 140 = .ok (.ireturn, 1) := by decide +kernel
theorem dX10_offset_141 : decode cX10_offset 141 = .ok (.iload 7, 2) := by decide +kernel
theorem dX10_offset_143 : decode cX10_offset 143 = .ok (.ireturn, 1) := by decide +kernel
theorem dX10_offset_144 : decode cX10_offset 144 = .ok (.iload 7, 2) := by decide +kernel
theorem dX10_offset_146 : decode cX10_offset 146 = .ok (.ifCond .ge 7, 3) := by decide +kernel
theorem dX10_offset_149 : decode cX10_offset 149 = .ok (.iconst 0, 1) := by decide +kernel
theorem dX10_offset_150 : decode cX10_offset 150 = .ok (.goto 8, 3) := by decide +kernel
theorem dX10_offset_153 : decode cX10_offset 153 = .ok (.iload 6, 2) := by decide +kernel
theorem dX10_offset_155 : decode cX10_offset 155 = .ok (.iload 7, 2) := by decide +kernel
theorem dX10_offset_157 : decode cX10_offset 157 = .ok (.imul, 1) := by decide +kernel
theorem dX10_offset_158 : decode cX10_offset 158 = .ok (.ireturn, 1) := by decide +kernel
theorem dX10_offset_159 : decode cX10_offset 159 = .ok (.sipush (-1000), 3) := by decide +kernel
theorem dX10_offset_162 : decode cX10_offset 162 = .ok (.ireturn, 1) := by decide +kernel
theorem dX10_flow_0 : decode cX10_flow 0 = .ok (.iload_n 1, 1) := by decide +kernel
theorem dX10_flow_1 : decode cX10_flow 1 = .ok (.ifCond .lt 12, 3) := by decide +kernel
theorem dX10_flow_4 : decode cX10_flow 4 = .ok (.iload_n 2, 1) := by decide +kernel
theorem dX10_flow_5 : decode cX10_flow 5 = .ok (.ifCond .lt 8, 3) := by decide +kernel
theorem dX10_flow_8 : decode cX10_flow 8 = .ok (.iload_n 2, 1) := by decide +kernel
theorem dX10_flow_9 : decode cX10_flow 9 = .ok (.iconst 1, 1) := by decide +kernel
theorem dX10_flow_10 : decode cX10_flow 10 = .ok (.if_icmp .le 5, 3) := by decide +kernel
theorem dX10_flow_13 : decode cX10_flow 13 = .ok (.iconst (-1), 1) := by decide +kernel
theorem dX10_flow_14 : decode cX10_flow 14 = .ok (.ireturn, 1) := by decide +kernel
theorem dX10_flow_15 : decode cX10_flow 15 = .ok (.iconst 0, 1) := by decide +kernel
theorem dX10_flow_16 : decode cX10_flow 16 = .ok (.istore_n 3, 1) := by decide +kernel
theorem dX10_flow_17 : decode cX10_flow 17 = .ok (.iconst 0, 1) := by decide +kernel
theorem dX10_flow_18 : decode cX10_flow 18 = .ok (.istore 4, 2) := by decide +kernel
theorem dX10_flow_20 : decode cX10_flow 20 = .ok (.iload 4, 2) := by decide +kernel
theorem dX10_flow_22 : decode cX10_flow 22 = .ok (.aload_n 0, 1) := by decide +kernel
theorem dX10_flow_23 : decode cX10_flow 23 = .ok (.getfield 19, 3) := by decide +kernel
theorem dX10_flow_26 : decode cX10_flow 26 = .ok (.invokevirtual 211, 3) := by decide +kernel
theorem dX10_flow_29 : decode cX10_flow 29 = .ok (.if_icmp .ge 84, 3) := by decide +kernel
theorem dX10_flow_32 : decode cX10_flow 32 = .ok (.aload_n 0, 1) := by decide +kernel
theorem dX10_flow_33 : decode cX10_flow 33 = .ok (.getfield 19, 3) := by decide +kernel
theorem dX10_flow_36 : decode cX10_flow 36 = .ok (.iload 4, 2) := by decide +kernel
theorem dX10_flow_38 : decode cX10_flow 38 = .ok (.invokevirtual 215, 3) := by decide +kernel
theorem dX10_flow_41 : decode cX10_flow 41 = .ok (.istore 5, 2) := by decide +kernel
theorem dX10_flow_43 : decode cX10_flow 43 = .ok (.aload_n 0, 1) := by decide +kernel
theorem dX10_flow_44 : decode cX10_flow 44 = .ok (.getfield 62, 3) := by decide +kernel
theorem dX10_flow_47 : decode cX10_flow 47 = .ok (.getfield 205, 3) := by decide +kernel
theorem dX10_flow_50 : decode cX10_flow 50 = .ok (.iload 5, 2) := by decide +kernel
theorem dX10_flow_52 : decode cX10_flow 52 = .ok (.iaload, 1) := by decide +kernel
theorem dX10_flow_53 : decode cX10_flow 53 = .ok (.iload_n 1, 1) := by decide +kernel
theorem dX10_flow_54 : decode cX10_flow 54 = .ok (.if_icmp .ne 53, 3) := by decide +kernel
theorem dX10_flow_57 : decode cX10_flow 57 = .ok (.aload_n 0, 1) := by decide +kernel
theorem dX10_flow_58 : decode cX10_flow 58 = .ok (.getfield 62, 3) := by decide +kernel
theorem dX10_flow_61 : decode cX10_flow 61 = .ok (.getfield 260, 3) := by decide +kernel
theorem dX10_flow_64 : decode cX10_flow 64 = .ok (.iload 5, 2) := by decide +kernel
theorem dX10_flow_66 : decode cX10_flow 66 = .ok (.baload, 1) := by decide +kernel
theorem dX10_flow_67 : decode cX10_flow 67 = .ok (.ifCond .eq 6, 3) := by decide +kernel
theorem dX10_flow_70 : decode cX10_flow 70 = .ok (.goto 37, 3) := by decide +kernel
theorem dX10_flow_73 : decode cX10_flow 73 = .ok (.iload_n 2, 1) := by decide +kernel
theorem dX10_flow_74 : decode cX10_flow 74 = .ok (.ifCond .ne 18, 3) := by decide +kernel
theorem dX10_flow_77 : decode cX10_flow 77 = .ok (.iload_n 3, 1) := by decide +kernel
theorem dX10_flow_78 : decode cX10_flow 78 = .ok (.aload_n 0, 1) := by decide +kernel
theorem dX10_flow_79 : decode cX10_flow 79 = .ok (.getfield 19, 3) := by decide +kernel
theorem dX10_flow_82 : decode cX10_flow 82 = .ok (.iload 5, 2) := by decide +kernel
theorem dX10_flow_84 : decode cX10_flow 84 = .ok (.invokevirtual 263, 3) := by decide +kernel
theorem dX10_flow_87 : decode cX10_flow 87 = .ok (.iadd, 1) := by decide +kernel
theorem dX10_flow_88 : decode cX10_flow 88 = .ok (.istore_n 3, 1) := by decide +kernel
theorem dX10_flow_89 : decode cX10_flow 89 = .ok (.goto 18, 3) := by decide +kernel
theorem dX10_flow_92 : decode cX10_flow 92 = .ok (.aload_n 0, 1) := by decide +kernel
theorem dX10_flow_93 : decode cX10_flow 93 = .ok (.getfield 19, 3) := by decide +kernel
theorem dX10_flow_96 : decode cX10_flow 96 = .ok (.iload 5, 2) := by decide +kernel
theorem dX10_flow_98 : decode cX10_flow 98 = .ok (.invokevirtual 266, 3) := by decide +kernel
theorem dX10_flow_101 : decode cX10_flow 101 = .ok (.ifCond .ne 6, 3) := by decide +kernel
theorem dX10_flow_104 : decode cX10_flow 104 = .ok (.iinc 3 1, 3) := by decide +kernel
theorem dX10_flow_107 : decode cX10_flow 107 = .ok (.iinc 4 1, 3) := by decide +kernel
theorem dX10_flow_110 : decode cX10_flow 110 = .ok (.goto (-90), 3) := by decide +kernel
theorem dX10_flow_113 : decode cX10_flow 113 = .ok (.iload_n 3, 1) := by decide +kernel
theorem dX10_flow_114 : decode cX10_flow 114 = .ok (.ireturn, 1) := by decide +kernel
theorem dX10_best_0 : decode cX10_best 0 = .ok (.iload_n 1, 1) := by decide +kernel
theorem dX10_best_1 : decode cX10_best 1 = .ok (.iconst 1, 1) := by decide +kernel
theorem dX10_best_2 : decode cX10_best 2 = .ok (.if_icmp .lt 9, 3) := by decide +kernel
theorem dX10_best_5 : decode cX10_best 5 = .ok (.iload_n 1, 1) := by decide +kernel
theorem dX10_best_6 : decode cX10_best 6 = .ok (.bipush 9, 2) := by decide +kernel
theorem dX10_best_8 : decode cX10_best 8 = .ok (.if_icmp .le 7, 3) := by decide +kernel
theorem dX10_best_11 : decode cX10_best 11 = .ok (.sipush (-1000), 3) := by decide +kernel
theorem dX10_best_14 : decode cX10_best 14 = .ok (.ireturn, 1) := by decide +kernel
theorem dX10_best_15 : decode cX10_best 15 = .ok (.aload_n 0, 1) := by decide +kernel
theorem dX10_best_16 : decode cX10_best 16 = .ok (.invokevirtual 170, 3) := by decide +kernel
theorem dX10_best_19 : decode cX10_best 19 = .ok (.astore_n 3, 1) := by decide +kernel
theorem dX10_best_20 : decode cX10_best 20 = .ok (.aload_n 0, 1) := by decide +kernel
theorem dX10_best_21 : decode cX10_best 21 = .ok (.getfield 76, 3) := by decide +kernel
theorem dX10_best_24 : decode cX10_best 24 = .ok (.invokevirtual 269, 3) := by decide +kernel
theorem dX10_best_27 : decode cX10_best 27 = .ok (.aload_n 0, 1) := by decide +kernel
theorem dX10_best_28 : decode cX10_best 28 = .ok (.getfield 76, 3) := by decide +kernel
theorem dX10_best_31 : decode cX10_best 31 = .ok (.aload_n 0, 1) := by decide +kernel
theorem dX10_best_32 : decode cX10_best 32 = .ok (.getfield 19, 3) := by decide +kernel
theorem dX10_best_35 : decode cX10_best 35 = .ok (.iload_n 1, 1) := by decide +kernel
theorem dX10_best_36 : decode cX10_best 36 = .ok (.aload_n 3, 1) := by decide +kernel
theorem dX10_best_37 : decode cX10_best 37 = .ok (.getfield 150, 3) := by decide +kernel
theorem dX10_best_40 : decode cX10_best 40 = .ok (.aload_n 3, 1) := by decide +kernel
theorem dX10_best_41 : decode cX10_best 41 = .ok (.getfield 153, 3) := by decide +kernel
theorem dX10_best_44 : decode cX10_best 44 = .ok (.invokevirtual 272, 3) := by decide +kernel
theorem dX10_best_47 : decode cX10_best 47 = .ok (.iload_n 2, 1) := by decide +kernel
theorem dX10_best_48 : decode cX10_best 48 = .ok (.tableswitch 85 0 3 #[32, 40, 55, 70], 32) := by decide +kernel
theorem dX10_best_80 : decode cX10_best 80 = .ok (.aload_n 0, 1) := by decide +kernel
theorem dX10_best_81 : decode cX10_best 81 = .ok (.getfield 76, 3) := by decide +kernel
theorem dX10_best_84 : decode cX10_best 84 = .ok (.getfield 276, 3) := by decide +kernel
theorem dX10_best_87 : decode cX10_best 87 = .ok (.ireturn, 1) := by decide +kernel
theorem dX10_best_88 : decode cX10_best 88 = .ok (.aload_n 0, 1) := by decide +kernel
theorem dX10_best_89 : decode cX10_best 89 = .ok (.getfield 76, 3) := by decide +kernel
theorem dX10_best_92 : decode cX10_best 92 = .ok (.aload_n 0, 1) := by decide +kernel
theorem dX10_best_93 : decode cX10_best 93 = .ok (.getfield 76, 3) := by decide +kernel
theorem dX10_best_96 : decode cX10_best 96 = .ok (.getfield 279, 3) := by decide +kernel
theorem dX10_best_99 : decode cX10_best 99 = .ok (.invokevirtual 282, 3) := by decide +kernel
theorem dX10_best_102 : decode cX10_best 102 = .ok (.ireturn, 1) := by decide +kernel
theorem dX10_best_103 : decode cX10_best 103 = .ok (.aload_n 0, 1) := by decide +kernel
theorem dX10_best_104 : decode cX10_best 104 = .ok (.getfield 76, 3) := by decide +kernel
theorem dX10_best_107 : decode cX10_best 107 = .ok (.aload_n 0, 1) := by decide +kernel
theorem dX10_best_108 : decode cX10_best 108 = .ok (.getfield 76, 3) := by decide +kernel
theorem dX10_best_111 : decode cX10_best 111 = .ok (.getfield 285, 3) := by decide +kernel
theorem dX10_best_114 : decode cX10_best 114 = .ok (.invokevirtual 282, 3) := by decide +kernel
theorem dX10_best_117 : decode cX10_best 117 = .ok (.ireturn, 1) := by decide +kernel
theorem dX10_best_118 : decode cX10_best 118 = .ok (.aload_n 0, 1) := by decide +kernel
theorem dX10_best_119 : decode cX10_best 119 = .ok (.getfield 76, 3) := by decide +kernel
theorem dX10_best_122 : decode cX10_best 122 = .ok (.aload_n 0, 1) := by decide +kernel
theorem dX10_best_123 : decode cX10_best 123 = .ok (.getfield 76, 3) := by decide +kernel
theorem dX10_best_126 : decode cX10_best 126 = .ok (.getfield 286, 3) := by decide +kernel
theorem dX10_best_129 : decode cX10_best 129 = .ok (.invokevirtual 282, 3) := by decide +kernel
theorem dX10_best_132 : decode cX10_best 132 = .ok (.ireturn, 1) := by decide +kernel
theorem dX10_best_133 : decode cX10_best 133 = .ok (.sipush (-1000), 3) := by decide +kernel
theorem dX10_best_136 : decode cX10_best 136 = .ok (.ireturn, 1) := by decide +kernel
theorem dX10_line_0 : decode cX10_line 0 = .ok (.aload_n 0, 1) := by decide +kernel
theorem dX10_line_1 : decode cX10_line 1 = .ok (.invokevirtual 170, 3) := by decide +kernel
theorem dX10_line_4 : decode cX10_line 4 = .ok (.astore_n 2, 1) := by decide +kernel
theorem dX10_line_5 : decode cX10_line 5 = .ok (.aload_n 0, 1) := by decide +kernel
theorem dX10_line_6 : decode cX10_line 6 = .ok (.getfield 76, 3) := by decide +kernel
theorem dX10_line_9 : decode cX10_line 9 = .ok (.invokevirtual 269, 3) := by decide +kernel
theorem dX10_line_12 : decode cX10_line 12 = .ok (.aload_n 0, 1) := by decide +kernel
theorem dX10_line_13 : decode cX10_line 13 = .ok (.getfield 76, 3) := by decide +kernel
theorem dX10_line_16 : decode cX10_line 16 = .ok (.aload_n 0, 1) := by decide +kernel
theorem dX10_line_17 : decode cX10_line 17 = .ok (.getfield 19, 3) := by decide +kernel
theorem dX10_line_20 : decode cX10_line 20 = .ok (.aload_n 2, 1) := by decide +kernel
theorem dX10_line_21 : decode cX10_line 21 = .ok (.getfield 135, 3) := by decide +kernel
theorem dX10_line_24 : decode cX10_line 24 = .ok (.aload_n 2, 1) := by decide +kernel
theorem dX10_line_25 : decode cX10_line 25 = .ok (.getfield 138, 3) := by decide +kernel
theorem dX10_line_28 : decode cX10_line 28 = .ok (.iconst 1, 1) := by decide +kernel
theorem dX10_line_29 : decode cX10_line 29 = .ok (.invokevirtual 287, 3) := by decide +kernel
theorem dX10_line_32 : decode cX10_line 32 = .ok (.iload_n 1, 1) := by decide +kernel
theorem dX10_line_33 : decode cX10_line 33 = .ok (.tableswitch 84 0 3 #[31, 39, 54, 69], 31) := by decide +kernel
theorem dX10_line_64 : decode cX10_line 64 = .ok (.aload_n 0, 1) := by decide +kernel
theorem dX10_line_65 : decode cX10_line 65 = .ok (.getfield 76, 3) := by decide +kernel
theorem dX10_line_68 : decode cX10_line 68 = .ok (.getfield 276, 3) := by decide +kernel
theorem dX10_line_71 : decode cX10_line 71 = .ok (.ireturn, 1) := by decide +kernel
theorem dX10_line_72 : decode cX10_line 72 = .ok (.aload_n 0, 1) := by decide +kernel
theorem dX10_line_73 : decode cX10_line 73 = .ok (.getfield 76, 3) := by decide +kernel
theorem dX10_line_76 : decode cX10_line 76 = .ok (.aload_n 0, 1) := by decide +kernel
theorem dX10_line_77 : decode cX10_line 77 = .ok (.getfield 76, 3) := by decide +kernel
theorem dX10_line_80 : decode cX10_line 80 = .ok (.getfield 279, 3) := by decide +kernel
theorem dX10_line_83 : decode cX10_line 83 = .ok (.invokevirtual 282, 3) := by decide +kernel
theorem dX10_line_86 : decode cX10_line 86 = .ok (.ireturn, 1) := by decide +kernel
theorem dX10_line_87 : decode cX10_line 87 = .ok (.aload_n 0, 1) := by decide +kernel
theorem dX10_line_88 : decode cX10_line 88 = .ok (.getfield 76, 3) := by decide +kernel
theorem dX10_line_91 : decode cX10_line 91 = .ok (.aload_n 0, 1) := by decide +kernel
theorem dX10_line_92 : decode cX10_line 92 = .ok (.getfield 76, 3) := by decide +kernel
theorem dX10_line_95 : decode cX10_line 95 = .ok (.getfield 290, 3) := by decide +kernel
theorem dX10_line_98 : decode cX10_line 98 = .ok (.invokevirtual 282, 3) := by decide +kernel
theorem dX10_line_101 : decode cX10_line 101 = .ok (.ireturn, 1) := by decide +kernel
theorem dX10_line_102 : decode cX10_line 102 = .ok (.aload_n 0, 1) := by decide +kernel
theorem dX10_line_103 : decode cX10_line 103 = .ok (.getfield 76, 3) := by decide +kernel
theorem dX10_line_106 : decode cX10_line 106 = .ok (.aload_n 0, 1) := by decide +kernel
theorem dX10_line_107 : decode cX10_line 107 = .ok (.getfield 76, 3) := by decide +kernel
theorem dX10_line_110 : decode cX10_line 110 = .ok (.getfield 291, 3) := by decide +kernel
theorem dX10_line_113 : decode cX10_line 113 = .ok (.invokevirtual 282, 3) := by decide +kernel
theorem dX10_line_116 : decode cX10_line 116 = .ok (.ireturn, 1) := by decide +kernel
theorem dX10_line_117 : decode cX10_line 117 = .ok (.sipush (-1000), 3) := by decide +kernel
theorem dX10_line_120 : decode cX10_line 120 = .ok (.ireturn, 1) := by decide +kernel
theorem dX10_pair_0 : decode cX10_pair 0 = .ok (.iload_n 1, 1) := by decide +kernel
theorem dX10_pair_1 : decode cX10_pair 1 = .ok (.iconst 1, 1) := by decide +kernel
theorem dX10_pair_2 : decode cX10_pair 2 = .ok (.if_icmp .lt 8, 3) := by decide +kernel
theorem dX10_pair_5 : decode cX10_pair 5 = .ok (.iload_n 1, 1) := by decide +kernel
theorem dX10_pair_6 : decode cX10_pair 6 = .ok (.iconst 4, 1) := by decide +kernel
theorem dX10_pair_7 : decode cX10_pair 7 = .ok (.if_icmp .le 7, 3) := by decide +kernel
theorem dX10_pair_10 : decode cX10_pair 10 = .ok (.sipush (-1000), 3) := by decide +kernel
theorem dX10_pair_13 : decode cX10_pair 13 = .ok (.ireturn, 1) := by decide +kernel
theorem dX10_pair_14 : decode cX10_pair 14 = .ok (.aload_n 0, 1) := by decide +kernel
theorem dX10_pair_15 : decode cX10_pair 15 = .ok (.getfield 76, 3) := by decide +kernel
theorem dX10_pair_18 : decode cX10_pair 18 = .ok (.invokevirtual 269, 3) := by decide +kernel
theorem dX10_pair_21 : decode cX10_pair 21 = .ok (.aload_n 0, 1) := by decide +kernel
theorem dX10_pair_22 : decode cX10_pair 22 = .ok (.getfield 76, 3) := by decide +kernel
theorem dX10_pair_25 : decode cX10_pair 25 = .ok (.aload_n 0, 1) := by decide +kernel
theorem dX10_pair_26 : decode cX10_pair 26 = .ok (.getfield 19, 3) := by decide +kernel
theorem dX10_pair_29 : decode cX10_pair 29 = .ok (.iload_n 1, 1) := by decide +kernel
theorem dX10_pair_30 : decode cX10_pair 30 = .ok (.invokevirtual 292, 3) := by decide +kernel
theorem dX10_pair_33 : decode cX10_pair 33 = .ok (.iload_n 2, 1) := by decide +kernel
theorem dX10_pair_34 : decode cX10_pair 34 = .ok (.tableswitch 109 0 4 #[34, 49, 64, 79, 94], 34) := by decide +kernel
theorem dX10_pair_68 : decode cX10_pair 68 = .ok (.aload_n 0, 1) := by decide +kernel
theorem dX10_pair_69 : decode cX10_pair 69 = .ok (.getfield 76, 3) := by decide +kernel
theorem dX10_pair_72 : decode cX10_pair 72 = .ok (.aload_n 0, 1) := by decide +kernel
theorem dX10_pair_73 : decode cX10_pair 73 = .ok (.getfield 76, 3) := by decide +kernel
theorem dX10_pair_76 : decode cX10_pair 76 = .ok (.getfield 279, 3) := by decide +kernel
theorem dX10_pair_79 : decode cX10_pair 79 = .ok (.invokevirtual 282, 3) := by decide +kernel
theorem dX10_pair_82 : decode cX10_pair 82 = .ok (.ireturn, 1) := by decide +kernel
theorem dX10_pair_83 : decode cX10_pair 83 = .ok (.aload_n 0, 1) := by decide +kernel
theorem dX10_pair_84 : decode cX10_pair 84 = .ok (.getfield 76, 3) := by decide +kernel
theorem dX10_pair_87 : decode cX10_pair 87 = .ok (.aload_n 0, 1) := by decide +kernel
theorem dX10_pair_88 : decode cX10_pair 88 = .ok (.getfield 76, 3) := by decide +kernel
theorem dX10_pair_91 : decode cX10_pair 91 = .ok (.getfield 285, 3) := by decide +kernel
theorem dX10_pair_94 : decode cX10_pair 94 = .ok (.invokevirtual 282, 3) := by decide +kernel
theorem dX10_pair_97 : decode cX10_pair 97 = .ok (.ireturn, 1) := by decide +kernel
theorem dX10_pair_98 : decode cX10_pair 98 = .ok (.aload_n 0, 1) := by decide +kernel
theorem dX10_pair_99 : decode cX10_pair 99 = .ok (.getfield 76, 3) := by decide +kernel
theorem dX10_pair_102 : decode cX10_pair 102 = .ok (.aload_n 0, 1) := by decide +kernel
theorem dX10_pair_103 : decode cX10_pair 103 = .ok (.getfield 76, 3) := by decide +kernel
theorem dX10_pair_106 : decode cX10_pair 106 = .ok (.getfield 286, 3) := by decide +kernel
theorem dX10_pair_109 : decode cX10_pair 109 = .ok (.invokevirtual 282, 3) := by decide +kernel
theorem dX10_pair_112 : decode cX10_pair 112 = .ok (.ireturn, 1) := by decide +kernel
theorem dX10_pair_113 : decode cX10_pair 113 = .ok (.aload_n 0, 1) := by decide +kernel
theorem dX10_pair_114 : decode cX10_pair 114 = .ok (.getfield 76, 3) := by decide +kernel
theorem dX10_pair_117 : decode cX10_pair 117 = .ok (.aload_n 0, 1) := by decide +kernel
theorem dX10_pair_118 : decode cX10_pair 118 = .ok (.getfield 76, 3) := by decide +kernel
theorem dX10_pair_121 : decode cX10_pair 121 = .ok (.getfield 290, 3) := by decide +kernel
theorem dX10_pair_124 : decode cX10_pair 124 = .ok (.invokevirtual 282, 3) := by decide +kernel
theorem dX10_pair_127 : decode cX10_pair 127 = .ok (.ireturn, 1) := by decide +kernel
theorem dX10_pair_128 : decode cX10_pair 128 = .ok (.aload_n 0, 1) := by decide +kernel
theorem dX10_pair_129 : decode cX10_pair 129 = .ok (.getfield 76, 3) := by decide +kernel
theorem dX10_pair_132 : decode cX10_pair 132 = .ok (.aload_n 0, 1) := by decide +kernel
theorem dX10_pair_133 : decode cX10_pair 133 = .ok (.getfield 76, 3) := by decide +kernel
theorem dX10_pair_136 : decode cX10_pair 136 = .ok (.getfield 291, 3) := by decide +kernel
theorem dX10_pair_139 : decode cX10_pair 139 = .ok (.invokevirtual 282, 3) := by decide +kernel
theorem dX10_pair_142 : decode cX10_pair 142 = .ok (.ireturn, 1) := by decide +kernel
theorem dX10_pair_143 : decode cX10_pair 143 = .ok (.sipush (-1000), 3) := by decide +kernel
theorem dX10_pair_146 : decode cX10_pair 146 = .ok (.ireturn, 1) := by decide +kernel
theorem dX10_beats_0 : decode cX10_beats 0 = .ok (.iload_n 1, 1) := by decide +kernel
theorem dX10_beats_1 : decode cX10_beats 1 = .ok (.iconst 1, 1) := by decide +kernel
theorem dX10_beats_2 : decode cX10_beats 2 = .ok (.if_icmp .lt 9, 3) := by decide +kernel
theorem dX10_beats_5 : decode cX10_beats 5 = .ok (.iload_n 1, 1) := by decide +kernel
theorem dX10_beats_6 : decode cX10_beats 6 = .ok (.bipush 12, 2) := by decide +kernel
theorem dX10_beats_8 : decode cX10_beats 8 = .ok (.if_icmp .le 5, 3) := by decide +kernel
theorem dX10_beats_11 : decode cX10_beats 11 = .ok (.iconst (-1), 1) := by decide +kernel
theorem dX10_beats_12 : decode cX10_beats 12 = .ok (.ireturn, 1) := by decide +kernel
theorem dX10_beats_13 : decode cX10_beats 13 = .ok (.aload_n 0, 1) := by decide +kernel
theorem dX10_beats_14 : decode cX10_beats 14 = .ok (.getfield 62, 3) := by decide +kernel
theorem dX10_beats_17 : decode cX10_beats 17 = .ok (.iload_n 1, 1) := by decide +kernel
theorem dX10_beats_18 : decode cX10_beats 18 = .ok (.iload_n 2, 1) := by decide +kernel
theorem dX10_beats_19 : decode cX10_beats 19 = .ok (.invokevirtual 296, 3) := by decide +kernel
theorem dX10_beats_22 : decode cX10_beats 22 = .ok (.ireturn, 1) := by decide +kernel
theorem dX10_fewest_0 : decode cX10_fewest 0 = .ok (.iconst 1, 1) := by decide +kernel
theorem dX10_fewest_1 : decode cX10_fewest 1 = .ok (.istore_n 3, 1) := by decide +kernel
theorem dX10_fewest_2 : decode cX10_fewest 2 = .ok (.iload_n 3, 1) := by decide +kernel
theorem dX10_fewest_3 : decode cX10_fewest 3 = .ok (.bipush 12, 2) := by decide +kernel
theorem dX10_fewest_5 : decode cX10_fewest 5 = .ok (.if_icmp .gt 24, 3) := by decide +kernel
theorem dX10_fewest_8 : decode cX10_fewest 8 = .ok (.aload_n 0, 1) := by decide +kernel
theorem dX10_fewest_9 : decode cX10_fewest 9 = .ok (.getfield 62, 3) := by decide +kernel
theorem dX10_fewest_12 : decode cX10_fewest 12 = .ok (.iload_n 3, 1) := by decide +kernel
theorem dX10_fewest_13 : decode cX10_fewest 13 = .ok (.iload_n 2, 1) := by decide +kernel
theorem dX10_fewest_14 : decode cX10_fewest 14 = .ok (.invokevirtual 296, 3) := by decide +kernel
theorem dX10_fewest_17 : decode cX10_fewest 17 = .ok (.iload_n 1, 1) := by decide +kernel
theorem dX10_fewest_18 : decode cX10_fewest 18 = .ok (.if_icmp .gt 5, 3) := by decide +kernel
theorem dX10_fewest_21 : decode cX10_fewest 21 = .ok (.iload_n 3, 1) := by decide +kernel
theorem dX10_fewest_22 : decode cX10_fewest 22 = .ok (.ireturn, 1) := by decide +kernel
theorem dX10_fewest_23 : decode cX10_fewest 23 = .ok (.iinc 3 1, 3) := by decide +kernel
theorem dX10_fewest_26 : decode cX10_fewest 26 = .ok (.goto (-24), 3) := by decide +kernel
theorem dX10_fewest_29 : decode cX10_fewest 29 = .ok (.iconst (-1), 1) := by decide +kernel
theorem dX10_fewest_30 : decode cX10_fewest 30 = .ok (.ireturn, 1) := by decide +kernel
theorem dX10_height_0 : decode cX10_height 0 = .ok (.aload_n 0, 1) := by decide +kernel
theorem dX10_height_1 : decode cX10_height 1 = .ok (.getfield 19, 3) := by decide +kernel
theorem dX10_height_4 : decode cX10_height 4 = .ok (.iload_n 1, 1) := by decide +kernel
theorem dX10_height_5 : decode cX10_height 5 = .ok (.iload_n 2, 1) := by decide +kernel
theorem dX10_height_6 : decode cX10_height 6 = .ok (.invokevirtual 192, 3) := by decide +kernel
theorem dX10_height_9 : decode cX10_height 9 = .ok (.ifCond .eq 20, 3) := by decide +kernel
theorem dX10_height_12 : decode cX10_height 12 = .ok (.aload_n 0, 1) := by decide +kernel
theorem dX10_height_13 : decode cX10_height 13 = .ok (.getfield 55, 3) := by decide +kernel
theorem dX10_height_16 : decode cX10_height 16 = .ok (.getfield 300, 3) := by decide +kernel
theorem dX10_height_19 : decode cX10_height 19 = .ok (.iload_n 1, 1) := by decide +kernel
theorem dX10_height_20 : decode cX10_height 20 = .ok (.bipush 10, 2) := by decide +kernel
theorem dX10_height_22 : decode cX10_height 22 = .ok (.imul, 1) := by decide +kernel
theorem dX10_height_23 : decode cX10_height 23 = .ok (.iload_n 2, 1) := by decide +kernel
theorem dX10_height_24 : decode cX10_height 24 = .ok (.iadd, 1) := by decide +kernel
theorem dX10_height_25 : decode cX10_height 25 = .ok (.iaload, 1) := by decide +kernel
theorem dX10_height_26 : decode cX10_height 26 = .ok (.goto 4, 3) := by decide +kernel
theorem dX10_height_29 : decode cX10_height 29 = .ok (.iconst (-1), 1) := by decide +kernel
theorem dX10_height_30 : decode cX10_height 30 = .ok (.ireturn, 1) := by decide +kernel
theorem dX10_critical_0 : decode cX10_critical 0 = .ok (.aload_n 0, 1) := by decide +kernel
theorem dX10_critical_1 : decode cX10_critical 1 = .ok (.getfield 55, 3) := by decide +kernel
theorem dX10_critical_4 : decode cX10_critical 4 = .ok (.invokevirtual 303, 3) := by decide +kernel
theorem dX10_critical_7 : decode cX10_critical 7 = .ok (.ireturn, 1) := by decide +kernel
theorem dX10_wrongAt_0 : decode cX10_wrongAt 0 = .ok (.aload_n 0, 1) := by decide +kernel
theorem dX10_wrongAt_1 : decode cX10_wrongAt 1 = .ok (.invokevirtual 198, 3) := by decide +kernel
theorem dX10_wrongAt_4 : decode cX10_wrongAt 4 = .ok (.iconst 0, 1) := by decide +kernel
theorem dX10_wrongAt_5 : decode cX10_wrongAt 5 = .ok (.istore_n 2, 1) := by decide +kernel
theorem dX10_wrongAt_6 : decode cX10_wrongAt 6 = .ok (.iconst 0, 1) := by decide +kernel
theorem dX10_wrongAt_7 : decode cX10_wrongAt 7 = .ok (.istore_n 3, 1) := by decide +kernel
theorem dX10_wrongAt_8 : decode cX10_wrongAt 8 = .ok (.iload_n 3, 1) := by decide +kernel
theorem dX10_wrongAt_9 : decode cX10_wrongAt 9 = .ok (.aload_n 0, 1) := by decide +kernel
theorem dX10_wrongAt_10 : decode cX10_wrongAt 10 = .ok (.getfield 19, 3) := by decide +kernel
theorem dX10_wrongAt_13 : decode cX10_wrongAt 13 = .ok (.invokevirtual 211, 3) := by decide +kernel
theorem dX10_wrongAt_16 : decode cX10_wrongAt 16 = .ok (.if_icmp .ge 46, 3) := by decide +kernel
theorem dX10_wrongAt_19 : decode cX10_wrongAt 19 = .ok (.aload_n 0, 1) := by decide +kernel
theorem dX10_wrongAt_20 : decode cX10_wrongAt 20 = .ok (.getfield 19, 3) := by decide +kernel
theorem dX10_wrongAt_23 : decode cX10_wrongAt 23 = .ok (.iload_n 3, 1) := by decide +kernel
theorem dX10_wrongAt_24 : decode cX10_wrongAt 24 = .ok (.invokevirtual 215, 3) := by decide +kernel
theorem dX10_wrongAt_27 : decode cX10_wrongAt 27 = .ok (.istore 4, 2) := by decide +kernel
theorem dX10_wrongAt_29 : decode cX10_wrongAt 29 = .ok (.aload_n 0, 1) := by decide +kernel
theorem dX10_wrongAt_30 : decode cX10_wrongAt 30 = .ok (.iload 4, 2) := by decide +kernel
theorem dX10_wrongAt_32 : decode cX10_wrongAt 32 = .ok (.aload_n 0, 1) := by decide +kernel
theorem dX10_wrongAt_33 : decode cX10_wrongAt 33 = .ok (.getfield 84, 3) := by decide +kernel
theorem dX10_wrongAt_36 : decode cX10_wrongAt 36 = .ok (.invokevirtual 306, 3) := by decide +kernel
theorem dX10_wrongAt_39 : decode cX10_wrongAt 39 = .ok (.ifCond .ne 6, 3) := by decide +kernel
theorem dX10_wrongAt_42 : decode cX10_wrongAt 42 = .ok (.goto 14, 3) := by decide +kernel
theorem dX10_wrongAt_45 : decode cX10_wrongAt 45 = .ok (.iload_n 2, 1) := by decide +kernel
theorem dX10_wrongAt_46 : decode cX10_wrongAt 46 = .ok (.iload_n 1, 1) := by decide +kernel
theorem dX10_wrongAt_47 : decode cX10_wrongAt 47 = .ok (.if_icmp .ne 6, 3) := by decide +kernel
theorem dX10_wrongAt_50 : decode cX10_wrongAt 50 = .ok (.iload 4, 2) := by decide +kernel
theorem dX10_wrongAt_52 : decode cX10_wrongAt 52 = .ok (.ireturn, 1) := by decide +kernel
theorem dX10_wrongAt_53 : decode cX10_wrongAt 53 = .ok (.iinc 2 1, 3) := by decide +kernel
theorem dX10_wrongAt_56 : decode cX10_wrongAt 56 = .ok (.iinc 3 1, 3) := by decide +kernel
theorem dX10_wrongAt_59 : decode cX10_wrongAt 59 = .ok (.goto (-51), 3) := by decide +kernel
theorem dX10_wrongAt_62 : decode cX10_wrongAt 62 = .ok (.iconst (-1), 1) := by decide +kernel
theorem dX10_wrongAt_63 : decode cX10_wrongAt 63 = .ok (.ireturn, 1) := by decide +kernel
theorem dX10_peak_0 : decode cX10_peak 0 = .ok (.iload_n 1, 1) := by decide +kernel
theorem dX10_peak_1 : decode cX10_peak 1 = .ok (.tableswitch 59 0 2 #[27, 35, 51], 27) := by decide +kernel
theorem dX10_peak_28 : decode cX10_peak 28 = .ok (.aload_n 0, 1) := by decide +kernel
theorem dX10_peak_29 : decode cX10_peak 29 = .ok (.getfield 62, 3) := by decide +kernel
theorem dX10_peak_32 : decode cX10_peak 32 = .ok (.invokevirtual 310, 3) := by decide +kernel
theorem dX10_peak_35 : decode cX10_peak 35 = .ok (.ireturn, 1) := by decide +kernel
theorem dX10_peak_36 : decode cX10_peak 36 = .ok (.aload_n 0, 1) := by decide +kernel
theorem dX10_peak_37 : decode cX10_peak 37 = .ok (.getfield 62, 3) := by decide +kernel
theorem dX10_peak_40 : decode cX10_peak 40 = .ok (.getfield 222, 3) := by decide +kernel
theorem dX10_peak_43 : decode cX10_peak 43 = .ok (.aload_n 0, 1) := by decide +kernel
theorem dX10_peak_44 : decode cX10_peak 44 = .ok (.getfield 62, 3) := by decide +kernel
theorem dX10_peak_47 : decode cX10_peak 47 = .ok (.invokevirtual 310, 3) := by decide +kernel
theorem dX10_peak_50 : decode cX10_peak 50 = .ok (.iaload, 1) := by decide +kernel
theorem dX10_peak_51 : decode cX10_peak 51 = .ok (.ireturn, 1) := by decide +kernel
theorem dX10_peak_52 : decode cX10_peak 52 = .ok (.aload_n 0, 1) := by decide +kernel
theorem dX10_peak_53 : decode cX10_peak 53 = .ok (.getfield 62, 3) := by decide +kernel
theorem dX10_peak_56 : decode cX10_peak 56 = .ok (.invokevirtual 313, 3) := by decide +kernel
theorem dX10_peak_59 : decode cX10_peak 59 = .ok (.ireturn, 1) := by decide +kernel
theorem dX10_peak_60 : decode cX10_peak 60 = .ok (.iconst (-1), 1) := by decide +kernel
theorem dX10_peak_61 : decode cX10_peak 61 = .ok (.ireturn, 1) := by decide +kernel
theorem dX10_tiles_0 : decode cX10_tiles 0 = .ok (.iload_n 1, 1) := by decide +kernel
theorem dX10_tiles_1 : decode cX10_tiles 1 = .ok (.iconst 1, 1) := by decide +kernel
theorem dX10_tiles_2 : decode cX10_tiles 2 = .ok (.if_icmp .lt 20, 3) := by decide +kernel
theorem dX10_tiles_5 : decode cX10_tiles 5 = .ok (.iload_n 1, 1) := by decide +kernel
theorem dX10_tiles_6 : decode cX10_tiles 6 = .ok (.bipush 10, 2) := by decide +kernel
theorem dX10_tiles_8 : decode cX10_tiles 8 = .ok (.if_icmp .gt 14, 3) := by decide +kernel
theorem dX10_tiles_11 : decode cX10_tiles 11 = .ok (.iload_n 2, 1) := by decide +kernel
theorem dX10_tiles_12 : decode cX10_tiles 12 = .ok (.iconst 1, 1) := by decide +kernel
theorem dX10_tiles_13 : decode cX10_tiles 13 = .ok (.if_icmp .lt 9, 3) := by decide +kernel
theorem dX10_tiles_16 : decode cX10_tiles 16 = .ok (.iload_n 2, 1) := by decide +kernel
theorem dX10_tiles_17 : decode cX10_tiles 17 = .ok (.bipush 10, 2) := by decide +kernel
theorem dX10_tiles_19 : decode cX10_tiles 19 = .ok (.if_icmp .le 5, 3) := by decide +kernel
theorem dX10_tiles_22 : decode cX10_tiles 22 = .ok (.iconst (-1), 1) := by decide +kernel
theorem dX10_tiles_23 : decode cX10_tiles 23 = .ok (.ireturn, 1) := by decide +kernel
theorem dX10_tiles_24 : decode cX10_tiles 24 = .ok (.aload_n 0, 1) := by decide +kernel
theorem dX10_tiles_25 : decode cX10_tiles 25 = .ok (.getfield 69, 3) := by decide +kernel
theorem dX10_tiles_28 : decode cX10_tiles 28 = .ok (.aload_n 0, 1) := by decide +kernel
theorem dX10_tiles_29 : decode cX10_tiles 29 = .ok (.getfield 19, 3) := by decide +kernel
theorem dX10_tiles_32 : decode cX10_tiles 32 = .ok (.iload_n 1, 1) := by decide +kernel
theorem dX10_tiles_33 : decode cX10_tiles 33 = .ok (.iload_n 2, 1) := by decide +kernel
theorem dX10_tiles_34 : decode cX10_tiles 34 = .ok (.invokevirtual 316, 3) := by decide +kernel
theorem dX10_tiles_37 : decode cX10_tiles 37 = .ok (.iload_n 3, 1) := by decide +kernel
theorem dX10_tiles_38 : decode cX10_tiles 38 = .ok (.tableswitch 78 0 3 #[30, 38, 46, 66], 30) := by decide +kernel
theorem dX10_tiles_68 : decode cX10_tiles 68 = .ok (.aload_n 0, 1) := by decide +kernel
theorem dX10_tiles_69 : decode cX10_tiles 69 = .ok (.getfield 69, 3) := by decide +kernel
theorem dX10_tiles_72 : decode cX10_tiles 72 = .ok (.getfield 320, 3) := by decide +kernel
theorem dX10_tiles_75 : decode cX10_tiles 75 = .ok (.ireturn, 1) := by decide +kernel
theorem dX10_tiles_76 : decode cX10_tiles 76 = .ok (.aload_n 0, 1) := by decide +kernel
theorem dX10_tiles_77 : decode cX10_tiles 77 = .ok (.getfield 69, 3) := by decide +kernel
theorem dX10_tiles_80 : decode cX10_tiles 80 = .ok (.getfield 323, 3) := by decide +kernel
theorem dX10_tiles_83 : decode cX10_tiles 83 = .ok (.ireturn, 1) := by decide +kernel
theorem dX10_tiles_84 : decode cX10_tiles 84 = .ok (.aload_n 0, 1) := by decide +kernel
theorem dX10_tiles_85 : decode cX10_tiles 85 = .ok (.getfield 69, 3) := by decide +kernel
theorem dX10_tiles_88 : decode cX10_tiles 88 = .ok (.aload_n 0, 1) := by decide +kernel
theorem dX10_tiles_89 : decode cX10_tiles 89 = .ok (.getfield 19, 3) := by decide +kernel
theorem dX10_tiles_92 : decode cX10_tiles 92 = .ok (.invokevirtual 326, 3) := by decide +kernel
theorem dX10_tiles_95 : decode cX10_tiles 95 = .ok (.ifCond .le 7, 3) := by decide +kernel
theorem dX10_tiles_98 : decode cX10_tiles 98 = .ok (.iconst 1, 1) := by decide +kernel
theorem dX10_tiles_99 : decode cX10_tiles 99 = .ok (.goto 4, 3) := by decide +kernel
theorem dX10_tiles_102 : decode cX10_tiles 102 = .ok (.iconst 0, 1) := by decide +kernel
theorem dX10_tiles_103 : decode cX10_tiles 103 = .ok (.ireturn, 1) := by decide +kernel
theorem dX10_tiles_104 : decode cX10_tiles 104 = .ok (.aload_n 0, 1) := by decide +kernel
theorem dX10_tiles_105 : decode cX10_tiles 105 = .ok (.getfield 69, 3) := by decide +kernel
theorem dX10_tiles_108 : decode cX10_tiles 108 = .ok (.aload_n 0, 1) := by decide +kernel
theorem dX10_tiles_109 : decode cX10_tiles 109 = .ok (.getfield 19, 3) := by decide +kernel
theorem dX10_tiles_112 : decode cX10_tiles 112 = .ok (.invokevirtual 326, 3) := by decide +kernel
theorem dX10_tiles_115 : decode cX10_tiles 115 = .ok (.ireturn, 1) := by decide +kernel
theorem dX10_tiles_116 : decode cX10_tiles 116 = .ok (.iconst (-1), 1) := by decide +kernel
theorem dX10_tiles_117 : decode cX10_tiles 117 = .ok (.ireturn, 1) := by decide +kernel
theorem dX10_tiling_0 : decode cX10_tiling 0 = .ok (.iload_n 1, 1) := by decide +kernel
theorem dX10_tiling_1 : decode cX10_tiling 1 = .ok (.iconst 1, 1) := by decide +kernel
theorem dX10_tiling_2 : decode cX10_tiling 2 = .ok (.if_icmp .lt 24, 3) := by decide +kernel
theorem dX10_tiling_5 : decode cX10_tiling 5 = .ok (.iload_n 1, 1) := by decide +kernel
theorem dX10_tiling_6 : decode cX10_tiling 6 = .ok (.bipush 100, 2) := by decide +kernel
theorem dX10_tiling_8 : decode cX10_tiling 8 = .ok (.if_icmp .gt 18, 3) := by decide +kernel
theorem dX10_tiling_11 : decode cX10_tiling 11 = .ok (.aload_n 0, 1) := by decide +kernel
theorem dX10_tiling_12 : decode cX10_tiling 12 = .ok (.getfield 69, 3) := by decide +kernel
theorem dX10_tiling_15 : decode cX10_tiling 15 = .ok (.aload_n 0, 1) := by decide +kernel
theorem dX10_tiling_16 : decode cX10_tiling 16 = .ok (.getfield 19, 3) := by decide +kernel
theorem dX10_tiling_19 : decode cX10_tiling 19 = .ok (.iload_n 1, 1) := by decide +kernel
theorem dX10_tiling_20 : decode cX10_tiling 20 = .ok (.invokevirtual 330, 3) := by decide +kernel
theorem dX10_tiling_23 : decode cX10_tiling 23 = .ok (.ifCond .ne 5, 3) := by decide +kernel
theorem dX10_tiling_26 : decode cX10_tiling 26 = .ok (.iconst (-1), 1) := by decide +kernel
theorem dX10_tiling_27 : decode cX10_tiling 27 = .ok (.ireturn, 1) := by decide +kernel
theorem dX10_tiling_28 : decode cX10_tiling 28 = .ok (.iload_n 2, 1) := by decide +kernel
theorem dX10_tiling_29 : decode cX10_tiling 29 = .ok (.tableswitch 51 0 2 #[27, 35, 43], 27) := by decide +kernel
theorem dX10_tiling_56 : decode cX10_tiling 56 = .ok (.aload_n 0, 1) := by decide +kernel
theorem dX10_tiling_57 : decode cX10_tiling 57 = .ok (.getfield 69, 3) := by decide +kernel
theorem dX10_tiling_60 : decode cX10_tiling 60 = .ok (.getfield 334, 3) := by decide +kernel
theorem dX10_tiling_63 : decode cX10_tiling 63 = .ok (.ireturn, 1) := by decide +kernel
theorem dX10_tiling_64 : decode cX10_tiling 64 = .ok (.aload_n 0, 1) := by decide +kernel
theorem dX10_tiling_65 : decode cX10_tiling 65 = .ok (.getfield 69, 3) := by decide +kernel
theorem dX10_tiling_68 : decode cX10_tiling 68 = .ok (.getfield 337, 3) := by decide +kernel
theorem dX10_tiling_71 : decode cX10_tiling 71 = .ok (.ireturn, 1) := by decide +kernel
theorem dX10_tiling_72 : decode cX10_tiling 72 = .ok (.aload_n 0, 1) := by decide +kernel
theorem dX10_tiling_73 : decode cX10_tiling 73 = .ok (.getfield 69, 3) := by decide +kernel
theorem dX10_tiling_76 : decode cX10_tiling 76 = .ok (.getfield 340, 3) := by decide +kernel
theorem dX10_tiling_79 : decode cX10_tiling 79 = .ok (.ireturn, 1) := by decide +kernel
theorem dX10_tiling_80 : decode cX10_tiling 80 = .ok (.iconst (-1), 1) := by decide +kernel
theorem dX10_tiling_81 : decode cX10_tiling 81 = .ok (.ireturn, 1) := by decide +kernel
theorem dX10_near_0 : decode cX10_near 0 = .ok (.aload_n 0, 1) := by decide +kernel
theorem dX10_near_1 : decode cX10_near 1 = .ok (.getfield 19, 3) := by decide +kernel
theorem dX10_near_4 : decode cX10_near 4 = .ok (.iload_n 1, 1) := by decide +kernel
theorem dX10_near_5 : decode cX10_near 5 = .ok (.iload_n 2, 1) := by decide +kernel
theorem dX10_near_6 : decode cX10_near 6 = .ok (.invokevirtual 192, 3) := by decide +kernel
theorem dX10_near_9 : decode cX10_near 9 = .ok (.ifCond .ne 5, 3) := by decide +kernel
theorem dX10_near_12 : decode cX10_near 12 = .ok (.iconst (-1), 1) := by decide +kernel
theorem dX10_near_13 : decode cX10_near 13 = .ok (.ireturn, 1) := by decide +kernel
theorem dX10_near_14 : decode cX10_near 14 = .ok (.iload_n 3, 1) := by decide +kernel
theorem dX10_near_15 : decode cX10_near 15 = .ok (.lookupswitch 53 #[(0, 25), (1, 39)], 25) := by decide +kernel
theorem dX10_near_40 : decode cX10_near 40 = .ok (.aload_n 0, 1) := by decide +kernel
theorem dX10_near_41 : decode cX10_near 41 = .ok (.getfield 19, 3) := by decide +kernel
theorem dX10_near_44 : decode cX10_near 44 = .ok (.iload_n 1, 1) := by decide +kernel
theorem dX10_near_45 : decode cX10_near 45 = .ok (.bipush 10, 2) := by decide +kernel
theorem dX10_near_47 : decode cX10_near 47 = .ok (.imul, 1) := by decide +kernel
theorem dX10_near_48 : decode cX10_near 48 = .ok (.iload_n 2, 1) := by decide +kernel
theorem dX10_near_49 : decode cX10_near 49 = .ok (.iadd, 1) := by decide +kernel
theorem dX10_near_50 : decode cX10_near 50 = .ok (.invokevirtual 343, 3) := by decide +kernel
theorem dX10_near_53 : decode cX10_near 53 = .ok (.ireturn, 1) := by decide +kernel
theorem dX10_near_54 : decode cX10_near 54 = .ok (.aload_n 0, 1) := by decide +kernel
theorem dX10_near_55 : decode cX10_near 55 = .ok (.getfield 19, 3) := by decide +kernel
theorem dX10_near_58 : decode cX10_near 58 = .ok (.iload_n 1, 1) := by decide +kernel
theorem dX10_near_59 : decode cX10_near 59 = .ok (.bipush 10, 2) := by decide +kernel
theorem dX10_near_61 : decode cX10_near 61 = .ok (.imul, 1) := by decide +kernel
theorem dX10_near_62 : decode cX10_near 62 = .ok (.iload_n 2, 1) := by decide +kernel
theorem dX10_near_63 : decode cX10_near 63 = .ok (.iadd, 1) := by decide +kernel
theorem dX10_near_64 : decode cX10_near 64 = .ok (.invokevirtual 266, 3) := by decide +kernel
theorem dX10_near_67 : decode cX10_near 67 = .ok (.ireturn, 1) := by decide +kernel
theorem dX10_near_68 : decode cX10_near 68 = .ok (.iconst (-1), 1) := by decide +kernel
theorem dX10_near_69 : decode cX10_near 69 = .ok (.ireturn, 1) := by decide +kernel
theorem dX10_idle_0 : decode cX10_idle 0 = .ok (.aload_n 0, 1) := by decide +kernel
theorem dX10_idle_1 : decode cX10_idle 1 = .ok (.iload_n 1, 1) := by decide +kernel
theorem dX10_idle_2 : decode cX10_idle 2 = .ok (.invokevirtual 166, 3) := by decide +kernel
theorem dX10_idle_5 : decode cX10_idle 5 = .ok (.ifCond .eq 14, 3) := by decide +kernel
theorem dX10_idle_8 : decode cX10_idle 8 = .ok (.aload_n 0, 1) := by decide +kernel
theorem dX10_idle_9 : decode cX10_idle 9 = .ok (.getfield 62, 3) := by decide +kernel
theorem dX10_idle_12 : decode cX10_idle 12 = .ok (.iload_n 1, 1) := by decide +kernel
theorem dX10_idle_13 : decode cX10_idle 13 = .ok (.invokevirtual 346, 3) := by decide +kernel
theorem dX10_idle_16 : decode cX10_idle 16 = .ok (.goto 4, 3) := by decide +kernel
theorem dX10_idle_19 : decode cX10_idle 19 = .ok (.iconst (-1), 1) := by decide +kernel
theorem dX10_idle_20 : decode cX10_idle 20 = .ok (.ireturn, 1) := by decide +kernel
theorem dX10_hangs_0 : decode cX10_hangs 0 = .ok (.aload_n 0, 1) := by decide +kernel
theorem dX10_hangs_1 : decode cX10_hangs 1 = .ok (.getfield 19, 3) := by decide +kernel
theorem dX10_hangs_4 : decode cX10_hangs 4 = .ok (.iload_n 1, 1) := by decide +kernel
theorem dX10_hangs_5 : decode cX10_hangs 5 = .ok (.iload_n 2, 1) := by decide +kernel
theorem dX10_hangs_6 : decode cX10_hangs 6 = .ok (.invokevirtual 192, 3) := by decide +kernel
theorem dX10_hangs_9 : decode cX10_hangs 9 = .ok (.ifCond .eq 23, 3) := by decide +kernel
theorem dX10_hangs_12 : decode cX10_hangs 12 = .ok (.aload_n 0, 1) := by decide +kernel
theorem dX10_hangs_13 : decode cX10_hangs 13 = .ok (.getfield 55, 3) := by decide +kernel
theorem dX10_hangs_16 : decode cX10_hangs 16 = .ok (.aload_n 0, 1) := by decide +kernel
theorem dX10_hangs_17 : decode cX10_hangs 17 = .ok (.getfield 19, 3) := by decide +kernel
theorem dX10_hangs_20 : decode cX10_hangs 20 = .ok (.iload_n 1, 1) := by decide +kernel
theorem dX10_hangs_21 : decode cX10_hangs 21 = .ok (.bipush 10, 2) := by decide +kernel
theorem dX10_hangs_23 : decode cX10_hangs 23 = .ok (.imul, 1) := by decide +kernel
theorem dX10_hangs_24 : decode cX10_hangs 24 = .ok (.iload_n 2, 1) := by decide +kernel
theorem dX10_hangs_25 : decode cX10_hangs 25 = .ok (.iadd, 1) := by decide +kernel
theorem dX10_hangs_26 : decode cX10_hangs 26 = .ok (.invokevirtual 349, 3) := by decide +kernel
theorem dX10_hangs_29 : decode cX10_hangs 29 = .ok (.goto 4, 3) := by decide +kernel
theorem dX10_hangs_32 : decode cX10_hangs 32 = .ok (.iconst (-1), 1) := by decide +kernel
theorem dX10_hangs_33 : decode cX10_hangs 33 = .ok (.ireturn, 1) := by decide +kernel
theorem dX10_stirs_0 : decode cX10_stirs 0 = .ok (.aload_n 0, 1) := by decide +kernel
theorem dX10_stirs_1 : decode cX10_stirs 1 = .ok (.iload_n 1, 1) := by decide +kernel
theorem dX10_stirs_2 : decode cX10_stirs 2 = .ok (.iload_n 2, 1) := by decide +kernel
theorem dX10_stirs_3 : decode cX10_stirs 3 = .ok (.iload_n 3, 1) := by decide +kernel
theorem dX10_stirs_4 : decode cX10_stirs 4 = .ok (.invokevirtual 353, 3) := by decide +kernel
theorem dX10_stirs_7 : decode cX10_stirs 7 = .ok (.ifCond .ne 5, 3) := by decide +kernel
theorem dX10_stirs_10 : decode cX10_stirs 10 = .ok (.iconst (-1), 1) := by decide +kernel
theorem dX10_stirs_11 : decode cX10_stirs 11 = .ok (.ireturn, 1) := by decide +kernel
theorem dX10_stirs_12 : decode cX10_stirs 12 = .ok (.aload_n 0, 1) := by decide +kernel
theorem dX10_stirs_13 : decode cX10_stirs 13 = .ok (.aload_n 0, 1) := by decide +kernel
theorem dX10_stirs_14 : decode cX10_stirs 14 = .ok (.getfield 87, 3) := by decide +kernel
theorem dX10_stirs_17 : decode cX10_stirs 17 = .ok (.iload_n 1, 1) := by decide +kernel
theorem dX10_stirs_18 : decode cX10_stirs 18 = .ok (.iload_n 2, 1) := by decide +kernel
theorem dX10_stirs_19 : decode cX10_stirs 19 = .ok (.bipush 10, 2) := by decide +kernel
theorem dX10_stirs_21 : decode cX10_stirs 21 = .ok (.imul, 1) := by decide +kernel
theorem dX10_stirs_22 : decode cX10_stirs 22 = .ok (.iload_n 3, 1) := by decide +kernel
theorem dX10_stirs_23 : decode cX10_stirs 23 = .ok (.iadd, 1) := by decide +kernel
theorem dX10_stirs_24 : decode cX10_stirs 24 = .ok (.invokevirtual 357, 3) := by decide +kernel
theorem dX10_stirs_27 : decode cX10_stirs 27 = .ok (.aload_n 0, 1) := by decide +kernel
theorem dX10_stirs_28 : decode cX10_stirs 28 = .ok (.aload_n 0, 1) := by decide +kernel
theorem dX10_stirs_29 : decode cX10_stirs 29 = .ok (.getfield 87, 3) := by decide +kernel
theorem dX10_stirs_32 : decode cX10_stirs 32 = .ok (.invokevirtual 201, 3) := by decide +kernel
theorem dX10_stirs_35 : decode cX10_stirs 35 = .ok (.ireturn, 1) := by decide +kernel
theorem dX10_stirred_0 : decode cX10_stirred 0 = .ok (.aload_n 0, 1) := by decide +kernel
theorem dX10_stirred_1 : decode cX10_stirred 1 = .ok (.iload_n 1, 1) := by decide +kernel
theorem dX10_stirred_2 : decode cX10_stirred 2 = .ok (.iload_n 2, 1) := by decide +kernel
theorem dX10_stirred_3 : decode cX10_stirred 3 = .ok (.iload_n 3, 1) := by decide +kernel
theorem dX10_stirred_4 : decode cX10_stirred 4 = .ok (.invokevirtual 353, 3) := by decide +kernel
theorem dX10_stirred_7 : decode cX10_stirred 7 = .ok (.ifCond .ne 5, 3) := by decide +kernel
theorem dX10_stirred_10 : decode cX10_stirred 10 = .ok (.iconst 0, 1) := by decide +kernel
theorem dX10_stirred_11 : decode cX10_stirred 11 = .ok (.ireturn, 1) := by decide +kernel
theorem dX10_stirred_12 : decode cX10_stirred 12 = .ok (.aload_n 0, 1) := by decide +kernel
theorem dX10_stirred_13 : decode cX10_stirred 13 = .ok (.aload_n 0, 1) := by decide +kernel
theorem dX10_stirred_14 : decode cX10_stirred 14 = .ok (.getfield 87, 3) := by decide +kernel
theorem dX10_stirred_17 : decode cX10_stirred 17 = .ok (.iload_n 1, 1) := by decide +kernel
theorem dX10_stirred_18 : decode cX10_stirred 18 = .ok (.iload_n 2, 1) := by decide +kernel
theorem dX10_stirred_19 : decode cX10_stirred 19 = .ok (.bipush 10, 2) := by decide +kernel
theorem dX10_stirred_21 : decode cX10_stirred 21 = .ok (.imul, 1) := by decide +kernel
theorem dX10_stirred_22 : decode cX10_stirred 22 = .ok (.iload_n 3, 1) := by decide +kernel
theorem dX10_stirred_23 : decode cX10_stirred 23 = .ok (.iadd, 1) := by decide +kernel
theorem dX10_stirred_24 : decode cX10_stirred 24 = .ok (.invokevirtual 357, 3) := by decide +kernel
theorem dX10_stirred_27 : decode cX10_stirred 27 = .ok (.aload_n 0, 1) := by decide +kernel
theorem dX10_stirred_28 : decode cX10_stirred 28 = .ok (.getfield 87, 3) := by decide +kernel
theorem dX10_stirred_31 : decode cX10_stirred 31 = .ok (.iload_n 1, 1) := by decide +kernel
theorem dX10_stirred_32 : decode cX10_stirred 32 = .ok (.bipush 100, 2) := by decide +kernel
theorem dX10_stirred_34 : decode cX10_stirred 34 = .ok (.imul, 1) := by decide +kernel
theorem dX10_stirred_35 : decode cX10_stirred 35 = .ok (.aload_n 0, 1) := by decide +kernel
theorem dX10_stirred_36 : decode cX10_stirred 36 = .ok (.getfield 19, 3) := by decide +kernel
theorem dX10_stirred_39 : decode cX10_stirred 39 = .ok (.aload_n 0, 1) := by decide +kernel
theorem dX10_stirred_40 : decode cX10_stirred 40 = .ok (.getfield 19, 3) := by decide +kernel
theorem dX10_stirred_43 : decode cX10_stirred 43 = .ok (.invokevirtual 211, 3) := by decide +kernel
theorem dX10_stirred_46 : decode cX10_stirred 46 = .ok (.iconst 1, 1) := by decide +kernel
theorem dX10_stirred_47 : decode cX10_stirred 47 = .ok (.isub, 1) := by decide +kernel
theorem dX10_stirred_48 : decode cX10_stirred 48 = .ok (.invokevirtual 215, 3) := by decide +kernel
theorem dX10_stirred_51 : decode cX10_stirred 51 = .ok (.iadd, 1) := by decide +kernel
theorem dX10_stirred_52 : decode cX10_stirred 52 = .ok (.iaload, 1) := by decide +kernel
theorem dX10_stirred_53 : decode cX10_stirred 53 = .ok (.ireturn, 1) := by decide +kernel
theorem dX10_total_0 : decode cX10_total 0 = .ok (.aload_n 0, 1) := by decide +kernel
theorem dX10_total_1 : decode cX10_total 1 = .ok (.iload_n 1, 1) := by decide +kernel
theorem dX10_total_2 : decode cX10_total 2 = .ok (.invokevirtual 189, 3) := by decide +kernel
theorem dX10_total_5 : decode cX10_total 5 = .ok (.ifCond .eq 11, 3) := by decide +kernel
theorem dX10_total_8 : decode cX10_total 8 = .ok (.aload_n 0, 1) := by decide +kernel
theorem dX10_total_9 : decode cX10_total 9 = .ok (.iload_n 1, 1) := by decide +kernel
theorem dX10_total_10 : decode cX10_total 10 = .ok (.invokevirtual 361, 3) := by decide +kernel
theorem dX10_total_13 : decode cX10_total 13 = .ok (.goto 4, 3) := by decide +kernel
theorem dX10_total_16 : decode cX10_total 16 = .ok (.iconst (-1), 1) := by decide +kernel
theorem dX10_total_17 : decode cX10_total 17 = .ok (.istore_n 3, 1) := by decide +kernel
theorem dX10_total_18 : decode cX10_total 18 = .ok (.iload_n 3, 1) := by decide +kernel
theorem dX10_total_19 : decode cX10_total 19 = .ok (.iconst (-1), 1) := by decide +kernel
theorem dX10_total_20 : decode cX10_total 20 = .ok (.if_icmp .ne 14, 3) := by decide +kernel
theorem dX10_total_23 : decode cX10_total 23 = .ok (.iload_n 2, 1) := by decide +kernel
theorem dX10_total_24 : decode cX10_total 24 = .ok (.iconst 3, 1) := by decide +kernel
theorem dX10_total_25 : decode cX10_total 25 = .ok (.if_icmp .ne 7, 3) := by decide +kernel
theorem dX10_total_28 : decode cX10_total 28 = .ok (.iconst (-1), 1) := by decide +kernel
theorem dX10_total_29 : decode cX10_total 29 = .ok (.goto 4, 3) := by decide +kernel
theorem dX10_total_32 : decode cX10_total 32 = .ok (.iconst 0, 1) := by decide +kernel
theorem dX10_total_33 : decode cX10_total 33 = .ok (.ireturn, 1) := by decide +kernel
theorem dX10_total_34 : decode cX10_total 34 = .ok (.iload_n 2, 1) := by decide +kernel
theorem dX10_total_35 : decode cX10_total 35 = .ok (.tableswitch 55 0 3 #[29, 35, 47, 53], 29) := by decide +kernel
theorem dX10_total_64 : decode cX10_total 64 = .ok (.aload_n 0, 1) := by decide +kernel
theorem dX10_total_65 : decode cX10_total 65 = .ok (.iload_n 1, 1) := by decide +kernel
theorem dX10_total_66 : decode cX10_total 66 = .ok (.invokevirtual 364, 3) := by decide +kernel
theorem dX10_total_69 : decode cX10_total 69 = .ok (.ireturn, 1) := by decide +kernel
theorem dX10_total_70 : decode cX10_total 70 = .ok (.aload_n 0, 1) := by decide +kernel
theorem dX10_total_71 : decode cX10_total 71 = .ok (.getfield 80, 3) := by decide +kernel
theorem dX10_total_74 : decode cX10_total 74 = .ok (.iload_n 1, 1) := by decide +kernel
theorem dX10_total_75 : decode cX10_total 75 = .ok (.bipush 100, 2) := by decide +kernel
theorem dX10_total_77 : decode cX10_total 77 = .ok (.imul, 1) := by decide +kernel
theorem dX10_total_78 : decode cX10_total 78 = .ok (.iload_n 3, 1) := by decide +kernel
theorem dX10_total_79 : decode cX10_total 79 = .ok (.iadd, 1) := by decide +kernel
theorem dX10_total_80 : decode cX10_total 80 = .ok (.iaload, 1) := by decide +kernel
theorem dX10_total_81 : decode cX10_total 81 = .ok (.ireturn, 1) := by decide +kernel
theorem dX10_total_82 : decode cX10_total 82 = .ok (.aload_n 0, 1) := by decide +kernel
theorem dX10_total_83 : decode cX10_total 83 = .ok (.iload_n 1, 1) := by decide +kernel
theorem dX10_total_84 : decode cX10_total 84 = .ok (.invokevirtual 367, 3) := by decide +kernel
theorem dX10_total_87 : decode cX10_total 87 = .ok (.ireturn, 1) := by decide +kernel
theorem dX10_total_88 : decode cX10_total 88 = .ok (.iload_n 3, 1) := by decide +kernel
theorem dX10_total_89 : decode cX10_total 89 = .ok (.ireturn, 1) := by decide +kernel
theorem dX10_total_90 : decode cX10_total 90 = .ok (.iconst 0, 1) := by decide +kernel
theorem dX10_total_91 : decode cX10_total 91 = .ok (.ireturn, 1) := by decide +kernel
theorem dX10_law_0 : decode cX10_law 0 = .ok (.aload_n 0, 1) := by decide +kernel
theorem dX10_law_1 : decode cX10_law 1 = .ok (.invokevirtual 170, 3) := by decide +kernel
theorem dX10_law_4 : decode cX10_law 4 = .ok (.astore_n 1, 1) := by decide +kernel
theorem dX10_law_5 : decode cX10_law 5 = .ok (.aload_n 0, 1) := by decide +kernel
theorem dX10_law_6 : decode cX10_law 6 = .ok (.getfield 19, 3) := by decide +kernel
theorem dX10_law_9 : decode cX10_law 9 = .ok (.aload_n 1, 1) := by decide +kernel
theorem dX10_law_10 : decode cX10_law 10 = .ok (.getfield 135, 3) := by decide +kernel
theorem dX10_law_13 : decode cX10_law 13 = .ok (.aload_n 1, 1) := by decide +kernel
theorem dX10_law_14 : decode cX10_law 14 = .ok (.getfield 138, 3) := by decide +kernel
theorem dX10_law_17 : decode cX10_law 17 = .ok (.invokevirtual 144, 3) := by decide +kernel
theorem dX10_law_20 : decode cX10_law 20 = .ok (.ifCond .eq 42, 3) := by decide +kernel
theorem dX10_law_23 : decode cX10_law 23 = .ok (.aload_n 1, 1) := by decide +kernel
theorem dX10_law_24 : decode cX10_law 24 = .ok (.getfield 156, 3) := by decide +kernel
theorem dX10_law_27 : decode cX10_law 27 = .ok (.lconst 0, 1) := by decide +kernel
theorem dX10_law_28 : decode cX10_law 28 = .ok (.lcmp, 1) := by decide +kernel
theorem dX10_law_29 : decode cX10_law 29 = .ok (.ifCond .ne 33, 3) := by decide +kernel
theorem dX10_law_32 : decode cX10_law 32 = .ok (.aload_n 0, 1) := by decide +kernel
theorem dX10_law_33 : decode cX10_law 33 = .ok (.getfield 19, 3) := by decide +kernel
theorem dX10_law_36 : decode cX10_law 36 = .ok (.aload_n 1, 1) := by decide +kernel
theorem dX10_law_37 : decode cX10_law 37 = .ok (.getfield 135, 3) := by decide +kernel
theorem dX10_law_40 : decode cX10_law 40 = .ok (.aload_n 1, 1) := by decide +kernel
theorem dX10_law_41 : decode cX10_law 41 = .ok (.getfield 138, 3) := by decide +kernel
theorem dX10_law_44 : decode cX10_law 44 = .ok (.aload_n 1, 1) := by decide +kernel
theorem dX10_law_45 : decode cX10_law 45 = .ok (.getfield 150, 3) := by decide +kernel
theorem dX10_law_48 : decode cX10_law 48 = .ok (.aload_n 1, 1) := by decide +kernel
theorem dX10_law_49 : decode cX10_law 49 = .ok (.getfield 153, 3) := by decide +kernel
theorem dX10_law_52 : decode cX10_law 52 = .ok (.invokevirtual 237, 3) := by decide +kernel
theorem dX10_law_55 : decode cX10_law 55 = .ok (.ifCond .ne 7, 3) := by decide +kernel
theorem dX10_law_58 : decode cX10_law 58 = .ok (.iconst 1, 1) := by decide +kernel
theorem dX10_law_59 : decode cX10_law 59 = .ok (.goto 4, 3) := by decide +kernel
theorem dX10_law_62 : decode cX10_law 62 = .ok (.iconst 0, 1) := by decide +kernel
theorem dX10_law_63 : decode cX10_law 63 = .ok (.istore_n 2, 1) := by decide +kernel
theorem dX10_law_64 : decode cX10_law 64 = .ok (.iload_n 2, 1) := by decide +kernel
theorem dX10_law_65 : decode cX10_law 65 = .ok (.ifCond .ne 5, 3) := by decide +kernel
theorem dX10_law_68 : decode cX10_law 68 = .ok (.iconst 0, 1) := by decide +kernel
theorem dX10_law_69 : decode cX10_law 69 = .ok (.ireturn, 1) := by decide +kernel
theorem dX10_law_70 : decode cX10_law 70 = .ok (.aload_n 0, 1) := by decide +kernel
theorem dX10_law_71 : decode cX10_law 71 = .ok (.invokevirtual 198, 3) := by decide +kernel
theorem dX10_law_74 : decode cX10_law 74 = .ok (.aload_n 0, 1) := by decide +kernel
theorem dX10_law_75 : decode cX10_law 75 = .ok (.aload_n 0, 1) := by decide +kernel
theorem dX10_law_76 : decode cX10_law 76 = .ok (.getfield 84, 3) := by decide +kernel
theorem dX10_law_79 : decode cX10_law 79 = .ok (.invokevirtual 201, 3) := by decide +kernel
theorem dX10_law_82 : decode cX10_law 82 = .ok (.aload_n 0, 1) := by decide +kernel
theorem dX10_law_83 : decode cX10_law 83 = .ok (.getfield 19, 3) := by decide +kernel
theorem dX10_law_86 : decode cX10_law 86 = .ok (.invokevirtual 211, 3) := by decide +kernel
theorem dX10_law_89 : decode cX10_law 89 = .ok (.iadd, 1) := by decide +kernel
theorem dX10_law_90 : decode cX10_law 90 = .ok (.aload_n 0, 1) := by decide +kernel
theorem dX10_law_91 : decode cX10_law 91 = .ok (.getfield 55, 3) := by decide +kernel
theorem dX10_law_94 : decode cX10_law 94 = .ok (.getfield 244, 3) := by decide +kernel
theorem dX10_law_97 : decode cX10_law 97 = .ok (.isub, 1) := by decide +kernel
theorem dX10_law_98 : decode cX10_law 98 = .ok (.ireturn, 1) := by decide +kernel
theorem dX10_image_0 : decode cX10_image 0 = .ok (.iload_n 1, 1) := by decide +kernel
theorem dX10_image_1 : decode cX10_image 1 = .ok (.invokestatic 370, 3) := by decide +kernel
theorem dX10_image_4 : decode cX10_image 4 = .ok (.ifCond .ne 5, 3) := by decide +kernel
theorem dX10_image_7 : decode cX10_image 7 = .ok (.iconst (-1), 1) := by decide +kernel
theorem dX10_image_8 : decode cX10_image 8 = .ok (.ireturn, 1) := by decide +kernel
theorem dX10_image_9 : decode cX10_image 9 = .ok (.aload_n 0, 1) := by decide +kernel
theorem dX10_image_10 : decode cX10_image 10 = .ok (.getfield 44, 3) := by decide +kernel
theorem dX10_image_13 : decode cX10_image 13 = .ok (.iload_n 1, 1) := by decide +kernel
theorem dX10_image_14 : decode cX10_image 14 = .ok (.aaload, 1) := by decide +kernel
theorem dX10_image_15 : decode cX10_image 15 = .ok (.aload_n 0, 1) := by decide +kernel
theorem dX10_image_16 : decode cX10_image 16 = .ok (.invokevirtual 170, 3) := by decide +kernel
theorem dX10_image_19 : decode cX10_image 19 = .ok (.invokevirtual 373, 3) := by decide +kernel
theorem dX10_image_22 : decode cX10_image 22 = .ok (.aload_n 0, 1) := by decide +kernel
theorem dX10_image_23 : decode cX10_image 23 = .ok (.getfield 48, 3) := by decide +kernel
theorem dX10_image_26 : decode cX10_image 26 = .ok (.iload_n 1, 1) := by decide +kernel
theorem dX10_image_27 : decode cX10_image 27 = .ok (.iconst 1, 1) := by decide +kernel
theorem dX10_image_28 : decode cX10_image 28 = .ok (.bastore, 1) := by decide +kernel
theorem dX10_image_29 : decode cX10_image 29 = .ok (.aload_n 0, 1) := by decide +kernel
theorem dX10_image_30 : decode cX10_image 30 = .ok (.getfield 62, 3) := by decide +kernel
theorem dX10_image_33 : decode cX10_image 33 = .ok (.getfield 219, 3) := by decide +kernel
theorem dX10_image_36 : decode cX10_image 36 = .ok (.ireturn, 1) := by decide +kernel
theorem dX10_back_0 : decode cX10_back 0 = .ok (.iload_n 1, 1) := by decide +kernel
theorem dX10_back_1 : decode cX10_back 1 = .ok (.invokestatic 370, 3) := by decide +kernel
theorem dX10_back_4 : decode cX10_back 4 = .ok (.ifCond .eq 12, 3) := by decide +kernel
theorem dX10_back_7 : decode cX10_back 7 = .ok (.aload_n 0, 1) := by decide +kernel
theorem dX10_back_8 : decode cX10_back 8 = .ok (.getfield 48, 3) := by decide +kernel
theorem dX10_back_11 : decode cX10_back 11 = .ok (.iload_n 1, 1) := by decide +kernel
theorem dX10_back_12 : decode cX10_back 12 = .ok (.baload, 1) := by decide +kernel
theorem dX10_back_13 : decode cX10_back 13 = .ok (.ifCond .ne 5, 3) := by decide +kernel
theorem dX10_back_16 : decode cX10_back 16 = .ok (.iconst (-1), 1) := by decide +kernel
theorem dX10_back_17 : decode cX10_back 17 = .ok (.ireturn, 1) := by decide +kernel
theorem dX10_back_18 : decode cX10_back 18 = .ok (.aload_n 0, 1) := by decide +kernel
theorem dX10_back_19 : decode cX10_back 19 = .ok (.getfield 38, 3) := by decide +kernel
theorem dX10_back_22 : decode cX10_back 22 = .ok (.invokevirtual 377, 3) := by decide +kernel
theorem dX10_back_25 : decode cX10_back 25 = .ok (.aload_n 0, 1) := by decide +kernel
theorem dX10_back_26 : decode cX10_back 26 = .ok (.getfield 44, 3) := by decide +kernel
theorem dX10_back_29 : decode cX10_back 29 = .ok (.iload_n 1, 1) := by decide +kernel
theorem dX10_back_30 : decode cX10_back 30 = .ok (.aaload, 1) := by decide +kernel
theorem dX10_back_31 : decode cX10_back 31 = .ok (.invokevirtual 373, 3) := by decide +kernel
theorem dX10_back_34 : decode cX10_back 34 = .ok (.aload_n 0, 1) := by decide +kernel
theorem dX10_back_35 : decode cX10_back 35 = .ok (.invokevirtual 141, 3) := by decide +kernel
theorem dX10_back_38 : decode cX10_back 38 = .ok (.aload_n 0, 1) := by decide +kernel
theorem dX10_back_39 : decode cX10_back 39 = .ok (.getfield 62, 3) := by decide +kernel
theorem dX10_back_42 : decode cX10_back 42 = .ok (.getfield 219, 3) := by decide +kernel
theorem dX10_back_45 : decode cX10_back 45 = .ok (.ireturn, 1) := by decide +kernel
theorem dX10_about_0 : decode cX10_about 0 = .ok (.aload_n 0, 1) := by decide +kernel
theorem dX10_about_1 : decode cX10_about 1 = .ok (.invokevirtual 170, 3) := by decide +kernel
theorem dX10_about_4 : decode cX10_about 4 = .ok (.astore_n 2, 1) := by decide +kernel
theorem dX10_about_5 : decode cX10_about 5 = .ok (.iload_n 1, 1) := by decide +kernel
theorem dX10_about_6 : decode cX10_about 6 = .ok (.tableswitch 187 0 14 #[74, 82, 90, 98, 106, 114, 119, 124, 129, 134, 139, 147, 155, 163, 179], 74) := by decide +kernel
theorem dX10_about_80 : decode cX10_about 80 = .ok (.aload_n 0, 1) := by decide +kernel
theorem dX10_about_81 : decode cX10_about 81 = .ok (.getfield 19, 3) := by decide +kernel
theorem dX10_about_84 : decode cX10_about 84 = .ok (.getfield 380, 3) := by decide +kernel
theorem dX10_about_87 : decode cX10_about 87 = .ok (.ireturn, 1) := by decide +kernel
theorem dX10_about_88 : decode cX10_about 88 = .ok (.aload_n 0, 1) := by decide +kernel
theorem dX10_about_89 : decode cX10_about 89 = .ok (.getfield 19, 3) := by decide +kernel
theorem dX10_about_92 : decode cX10_about 92 = .ok (.getfield 383, 3) := by decide +kernel
theorem dX10_about_95 : decode cX10_about 95 = .ok (.ireturn, 1) := by decide +kernel
theorem dX10_about_96 : decode cX10_about 96 = .ok (.aload_n 0, 1) := by decide +kernel
theorem dX10_about_97 : decode cX10_about 97 = .ok (.getfield 19, 3) := by decide +kernel
theorem dX10_about_100 : decode cX10_about 100 = .ok (.getfield 121, 3) := by decide +kernel
theorem dX10_about_103 : decode cX10_about 103 = .ok (.ireturn, 1) := by decide +kernel
theorem dX10_about_104 : decode cX10_about 104 = .ok (.aload_n 0, 1) := by decide +kernel
theorem dX10_about_105 : decode cX10_about 105 = .ok (.getfield 19, 3) := by decide +kernel
theorem dX10_about_108 : decode cX10_about 108 = .ok (.getfield 247, 3) := by decide +kernel
theorem dX10_about_111 : decode cX10_about 111 = .ok (.ireturn, 1) := by decide +kernel
theorem dX10_about_112 : decode cX10_about 112 = .ok (.aload_n 0, 1) := by decide +kernel
theorem dX10_about_113 : decode cX10_about 113 = .ok (.getfield 19, 3) := by decide +kernel
theorem dX10_about_116 : decode cX10_about 116 = .ok (.getfield 386, 3) := by decide +kernel
theorem dX10_about_119 : decode cX10_about 119 = .ok (.ireturn, 1) := by decide +kernel
theorem dX10_about_120 : decode cX10_about 120 = .ok (.aload_n 2, 1) := by decide +kernel
theorem dX10_about_121 : decode cX10_about 121 = .ok (.getfield 135, 3) := by decide +kernel
theorem dX10_about_124 : decode cX10_about 124 = .ok (.ireturn, 1) := by decide +kernel
theorem dX10_about_125 : decode cX10_about 125 = .ok (.aload_n 2, 1) := by decide +kernel
theorem dX10_about_126 : decode cX10_about 126 = .ok (.getfield 138, 3) := by decide +kernel
theorem dX10_about_129 : decode cX10_about 129 = .ok (.ireturn, 1) := by decide +kernel
theorem dX10_about_130 : decode cX10_about 130 = .ok (.aload_n 2, 1) := by decide +kernel
theorem dX10_about_131 : decode cX10_about 131 = .ok (.getfield 150, 3) := by decide +kernel
theorem dX10_about_134 : decode cX10_about 134 = .ok (.ireturn, 1) := by decide +kernel
theorem dX10_about_135 : decode cX10_about 135 = .ok (.aload_n 2, 1) := by decide +kernel
theorem dX10_about_136 : decode cX10_about 136 = .ok (.getfield 153, 3) := by decide +kernel
theorem dX10_about_139 : decode cX10_about 139 = .ok (.ireturn, 1) := by decide +kernel
theorem dX10_about_140 : decode cX10_about 140 = .ok (.aload_n 2, 1) := by decide +kernel
theorem dX10_about_141 : decode cX10_about 141 = .ok (.getfield 163, 3) := by decide +kernel
theorem dX10_about_144 : decode cX10_about 144 = .ok (.ireturn, 1) := by decide +kernel
theorem dX10_about_145 : decode cX10_about 145 = .ok (.aload_n 2, 1) := by decide +kernel
theorem dX10_about_146 : decode cX10_about 146 = .ok (.getfield 156, 3) := by decide +kernel
theorem dX10_about_149 : decode cX10_about 149 = .ok (.invokestatic 176, 3) := by decide +kernel
theorem dX10_about_152 : decode cX10_about 152 = .ok (.ireturn, 1) := by decide +kernel
theorem dX10_about_153 : decode cX10_about 153 = .ok (.aload_n 0, 1) := by decide +kernel
theorem dX10_about_154 : decode cX10_about 154 = .ok (.getfield 19, 3) := by decide +kernel
theorem dX10_about_157 : decode cX10_about 157 = .ok (.getfield 389, 3) := by decide +kernel
theorem dX10_about_160 : decode cX10_about 160 = .ok (.ireturn, 1) := by decide +kernel
theorem dX10_about_161 : decode cX10_about 161 = .ok (.aload_n 0, 1) := by decide +kernel
theorem dX10_about_162 : decode cX10_about 162 = .ok (.getfield 38, 3) := by decide +kernel
theorem dX10_about_165 : decode cX10_about 165 = .ok (.getfield 392, 3) := by decide +kernel
theorem dX10_about_168 : decode cX10_about 168 = .ok (.ireturn, 1) := by decide +kernel
theorem dX10_about_169 : decode cX10_about 169 = .ok (.aload_n 0, 1) := by decide +kernel
theorem dX10_about_170 : decode cX10_about 170 = .ok (.getfield 38, 3) := by decide +kernel
theorem dX10_about_173 : decode cX10_about 173 = .ok (.getfield 395, 3) := by decide +kernel
theorem dX10_about_176 : decode cX10_about 176 = .ok (.aload_n 0, 1) := by decide +kernel
theorem dX10_about_177 : decode cX10_about 177 = .ok (.getfield 38, 3) := by decide +kernel
theorem dX10_about_180 : decode cX10_about 180 = .ok (.getfield 392, 3) := by decide +kernel
theorem dX10_about_183 : decode cX10_about 183 = .ok (.isub, 1) := by decide +kernel
theorem dX10_about_184 : decode cX10_about 184 = .ok (.ireturn, 1) := by decide +kernel
theorem dX10_about_185 : decode cX10_about 185 = .ok (.aload_n 0, 1) := by decide +kernel
theorem dX10_about_186 : decode cX10_about 186 = .ok (.getfield 12, 3) := by decide +kernel
theorem dX10_about_189 : decode cX10_about 189 = .ok (.getfield 106, 3) := by decide +kernel
theorem dX10_about_192 : decode cX10_about 192 = .ok (.ireturn, 1) := by decide +kernel
theorem dX10_about_193 : decode cX10_about 193 = .ok (.sipush (-1000), 3) := by decide +kernel
theorem dX10_about_196 : decode cX10_about 196 = .ok (.ireturn, 1) := by decide +kernel
theorem dX10_isWithin_0 : decode cX10_isWithin 0 = .ok (.iload_n 0, 1) := by decide +kernel
theorem dX10_isWithin_1 : decode cX10_isWithin 1 = .ok (.iload_n 1, 1) := by decide +kernel
theorem dX10_isWithin_2 : decode cX10_isWithin 2 = .ok (.ineg, 1) := by decide +kernel
theorem dX10_isWithin_3 : decode cX10_isWithin 3 = .ok (.if_icmp .lt 12, 3) := by decide +kernel
theorem dX10_isWithin_6 : decode cX10_isWithin 6 = .ok (.iload_n 0, 1) := by decide +kernel
theorem dX10_isWithin_7 : decode cX10_isWithin 7 = .ok (.iload_n 1, 1) := by decide +kernel
theorem dX10_isWithin_8 : decode cX10_isWithin 8 = .ok (.if_icmp .gt 7, 3) := by decide +kernel
theorem dX10_isWithin_11 : decode cX10_isWithin 11 = .ok (.iconst 1, 1) := by decide +kernel
theorem dX10_isWithin_12 : decode cX10_isWithin 12 = .ok (.goto 4, 3) := by decide +kernel
theorem dX10_isWithin_15 : decode cX10_isWithin 15 = .ok (.iconst 0, 1) := by decide +kernel
theorem dX10_isWithin_16 : decode cX10_isWithin 16 = .ok (.ireturn, 1) := by decide +kernel
theorem dX10_isLine_0 : decode cX10_isLine 0 = .ok (.iload_n 0, 1) := by decide +kernel
theorem dX10_isLine_1 : decode cX10_isLine 1 = .ok (.iconst 3, 1) := by decide +kernel
theorem dX10_isLine_2 : decode cX10_isLine 2 = .ok (.invokestatic 127, 3) := by decide +kernel
theorem dX10_isLine_5 : decode cX10_isLine 5 = .ok (.ifCond .eq 30, 3) := by decide +kernel
theorem dX10_isLine_8 : decode cX10_isLine 8 = .ok (.iload_n 1, 1) := by decide +kernel
theorem dX10_isLine_9 : decode cX10_isLine 9 = .ok (.iconst 3, 1) := by decide +kernel
theorem dX10_isLine_10 : decode cX10_isLine 10 = .ok (.invokestatic 127, 3) := by decide +kernel
theorem dX10_isLine_13 : decode cX10_isLine 13 = .ok (.ifCond .eq 22, 3) := by decide +kernel
theorem dX10_isLine_16 : decode cX10_isLine 16 = .ok (.iload_n 0, 1) := by decide +kernel
theorem dX10_isLine_17 : decode cX10_isLine 17 = .ok (.invokestatic 398, 3) := by decide +kernel
theorem dX10_isLine_20 : decode cX10_isLine 20 = .ok (.iload_n 1, 1) := by decide +kernel
theorem dX10_isLine_21 : decode cX10_isLine 21 = .ok (.invokestatic 398, 3) := by decide +kernel
theorem dX10_isLine_24 : decode cX10_isLine 24 = .ok (.invokestatic 403, 3) := by decide +kernel
theorem dX10_isLine_27 : decode cX10_isLine 27 = .ok (.iconst 1, 1) := by decide +kernel
theorem dX10_isLine_28 : decode cX10_isLine 28 = .ok (.if_icmp .ne 7, 3) := by decide +kernel
theorem dX10_isLine_31 : decode cX10_isLine 31 = .ok (.iconst 1, 1) := by decide +kernel
theorem dX10_isLine_32 : decode cX10_isLine 32 = .ok (.goto 4, 3) := by decide +kernel
theorem dX10_isLine_35 : decode cX10_isLine 35 = .ok (.iconst 0, 1) := by decide +kernel
theorem dX10_isLine_36 : decode cX10_isLine 36 = .ok (.ireturn, 1) := by decide +kernel
theorem dX10_divisor_0 : decode cX10_divisor 0 = .ok (.iload_n 0, 1) := by decide +kernel
theorem dX10_divisor_1 : decode cX10_divisor 1 = .ok (.istore_n 2, 1) := by decide +kernel
theorem dX10_divisor_2 : decode cX10_divisor 2 = .ok (.iload_n 1, 1) := by decide +kernel
theorem dX10_divisor_3 : decode cX10_divisor 3 = .ok (.istore_n 3, 1) := by decide +kernel
theorem dX10_divisor_4 : decode cX10_divisor 4 = .ok (.iconst 0, 1) := by decide +kernel
theorem dX10_divisor_5 : decode cX10_divisor 5 = .ok (.istore 4, 2) := by decide +kernel
theorem dX10_divisor_7 : decode cX10_divisor 7 = .ok (.iload 4, 2) := by decide +kernel
theorem dX10_divisor_9 : decode cX10_divisor 9 = .ok (.bipush 6, 2) := by decide +kernel
theorem dX10_divisor_11 : decode cX10_divisor 11 = .ok (.if_icmp .ge 23, 3) := by decide +kernel
theorem dX10_divisor_14 : decode cX10_divisor 14 = .ok (.iload_n 3, 1) := by decide +kernel
theorem dX10_divisor_15 : decode cX10_divisor 15 = .ok (.ifCond .eq 19, 3) := by decide +kernel
theorem dX10_divisor_18 : decode cX10_divisor 18 = .ok (.iload_n 2, 1) := by decide +kernel
theorem dX10_divisor_19 : decode cX10_divisor 19 = .ok (.iload_n 3, 1) := by decide +kernel
theorem dX10_divisor_20 : decode cX10_divisor 20 = .ok (.irem, 1) := by decide +kernel
theorem dX10_divisor_21 : decode cX10_divisor 21 = .ok (.istore 5, 2) := by decide +kernel
theorem dX10_divisor_23 : decode cX10_divisor 23 = .ok (.iload_n 3, 1) := by decide +kernel
theorem dX10_divisor_24 : decode cX10_divisor 24 = .ok (.istore_n 2, 1) := by decide +kernel
theorem dX10_divisor_25 : decode cX10_divisor 25 = .ok (.iload 5, 2) := by decide +kernel
theorem dX10_divisor_27 : decode cX10_divisor 27 = .ok (.istore_n 3, 1) := by decide +kernel
theorem dX10_divisor_28 : decode cX10_divisor 28 = .ok (.iinc 4 1, 3) := by decide +kernel
theorem dX10_divisor_31 : decode cX10_divisor 31 = .ok (.goto (-24), 3) := by decide +kernel
theorem dX10_divisor_34 : decode cX10_divisor 34 = .ok (.iload_n 2, 1) := by decide +kernel
theorem dX10_divisor_35 : decode cX10_divisor 35 = .ok (.ireturn, 1) := by decide +kernel
theorem dX10_isBox_0 : decode cX10_isBox 0 = .ok (.iload_n 0, 1) := by decide +kernel
theorem dX10_isBox_1 : decode cX10_isBox 1 = .ok (.ifCond .lt 12, 3) := by decide +kernel
theorem dX10_isBox_4 : decode cX10_isBox 4 = .ok (.iload_n 0, 1) := by decide +kernel
theorem dX10_isBox_5 : decode cX10_isBox 5 = .ok (.iconst 2, 1) := by decide +kernel
theorem dX10_isBox_6 : decode cX10_isBox 6 = .ok (.if_icmp .ge 7, 3) := by decide +kernel
theorem dX10_isBox_9 : decode cX10_isBox 9 = .ok (.iconst 1, 1) := by decide +kernel
theorem dX10_isBox_10 : decode cX10_isBox 10 = .ok (.goto 4, 3) := by decide +kernel
theorem dX10_isBox_13 : decode cX10_isBox 13 = .ok (.iconst 0, 1) := by decide +kernel
theorem dX10_isBox_14 : decode cX10_isBox 14 = .ok (.ireturn, 1) := by decide +kernel
theorem dX10_isVariable_0 : decode cX10_isVariable 0 = .ok (.iload_n 1, 1) := by decide +kernel
theorem dX10_isVariable_1 : decode cX10_isVariable 1 = .ok (.ifCond .lt 18, 3) := by decide +kernel
theorem dX10_isVariable_4 : decode cX10_isVariable 4 = .ok (.iload_n 1, 1) := by decide +kernel
theorem dX10_isVariable_5 : decode cX10_isVariable 5 = .ok (.aload_n 0, 1) := by decide +kernel
theorem dX10_isVariable_6 : decode cX10_isVariable 6 = .ok (.getfield 19, 3) := by decide +kernel
theorem dX10_isVariable_9 : decode cX10_isVariable 9 = .ok (.getfield 121, 3) := by decide +kernel
theorem dX10_isVariable_12 : decode cX10_isVariable 12 = .ok (.if_icmp .ge 7, 3) := by decide +kernel
theorem dX10_isVariable_15 : decode cX10_isVariable 15 = .ok (.iconst 1, 1) := by decide +kernel
theorem dX10_isVariable_16 : decode cX10_isVariable 16 = .ok (.goto 4, 3) := by decide +kernel
theorem dX10_isVariable_19 : decode cX10_isVariable 19 = .ok (.iconst 0, 1) := by decide +kernel
theorem dX10_isVariable_20 : decode cX10_isVariable 20 = .ok (.ireturn, 1) := by decide +kernel
theorem dX10_isCell_0 : decode cX10_isCell 0 = .ok (.iload_n 1, 1) := by decide +kernel
theorem dX10_isCell_1 : decode cX10_isCell 1 = .ok (.ifCond .lt 18, 3) := by decide +kernel
theorem dX10_isCell_4 : decode cX10_isCell 4 = .ok (.iload_n 1, 1) := by decide +kernel
theorem dX10_isCell_5 : decode cX10_isCell 5 = .ok (.aload_n 0, 1) := by decide +kernel
theorem dX10_isCell_6 : decode cX10_isCell 6 = .ok (.getfield 62, 3) := by decide +kernel
theorem dX10_isCell_9 : decode cX10_isCell 9 = .ok (.getfield 160, 3) := by decide +kernel
theorem dX10_isCell_12 : decode cX10_isCell 12 = .ok (.if_icmp .ge 7, 3) := by decide +kernel
theorem dX10_isCell_15 : decode cX10_isCell 15 = .ok (.iconst 1, 1) := by decide +kernel
theorem dX10_isCell_16 : decode cX10_isCell 16 = .ok (.goto 4, 3) := by decide +kernel
theorem dX10_isCell_19 : decode cX10_isCell 19 = .ok (.iconst 0, 1) := by decide +kernel
theorem dX10_isCell_20 : decode cX10_isCell 20 = .ok (.ireturn, 1) := by decide +kernel
theorem dX10_current_0 : decode cX10_current 0 = .ok (.aload_n 0, 1) := by decide +kernel
theorem dX10_current_1 : decode cX10_current 1 = .ok (.getfield 38, 3) := by decide +kernel
theorem dX10_current_4 : decode cX10_current 4 = .ok (.getfield 406, 3) := by decide +kernel
theorem dX10_current_7 : decode cX10_current 7 = .ok (.aload_n 0, 1) := by decide +kernel
theorem dX10_current_8 : decode cX10_current 8 = .ok (.getfield 38, 3) := by decide +kernel
theorem dX10_current_11 : decode cX10_current 11 = .ok (.getfield 392, 3) := by decide +kernel
theorem dX10_current_14 : decode cX10_current 14 = .ok (.aaload, 1) := by decide +kernel
theorem dX10_current_15 : decode cX10_current 15 = .ok (.areturn, 1) := by decide +kernel
theorem dX10_takeUp_0 : decode cX10_takeUp 0 = .ok (.aload_n 0, 1) := by decide +kernel
theorem dX10_takeUp_1 : decode cX10_takeUp 1 = .ok (.getfield 38, 3) := by decide +kernel
theorem dX10_takeUp_4 : decode cX10_takeUp 4 = .ok (.invokevirtual 377, 3) := by decide +kernel
theorem dX10_takeUp_7 : decode cX10_takeUp 7 = .ok (.aload_n 0, 1) := by decide +kernel
theorem dX10_takeUp_8 : decode cX10_takeUp 8 = .ok (.getfield 19, 3) := by decide +kernel
theorem dX10_takeUp_11 : decode cX10_takeUp 11 = .ok (.getfield 409, 3) := by decide +kernel
theorem dX10_takeUp_14 : decode cX10_takeUp 14 = .ok (.invokevirtual 373, 3) := by decide +kernel
theorem dX10_takeUp_17 : decode cX10_takeUp 17 = .ok (.iconst 0, 1) := by decide +kernel
theorem dX10_takeUp_18 : decode cX10_takeUp 18 = .ok (.istore_n 1, 1) := by decide +kernel
theorem dX10_takeUp_19 : decode cX10_takeUp 19 = .ok (.iload_n 1, 1) := by decide +kernel
theorem dX10_takeUp_20 : decode cX10_takeUp 20 = .ok (.iconst 2, 1) := by decide +kernel
theorem dX10_takeUp_21 : decode cX10_takeUp 21 = .ok (.if_icmp .ge 16, 3) := by decide +kernel
theorem dX10_takeUp_24 : decode cX10_takeUp 24 = .ok (.aload_n 0, 1) := by decide +kernel
theorem dX10_takeUp_25 : decode cX10_takeUp 25 = .ok (.getfield 48, 3) := by decide +kernel
theorem dX10_takeUp_28 : decode cX10_takeUp 28 = .ok (.iload_n 1, 1) := by decide +kernel
theorem dX10_takeUp_29 : decode cX10_takeUp 29 = .ok (.iconst 0, 1) := by decide +kernel
theorem dX10_takeUp_30 : decode cX10_takeUp 30 = .ok (.bastore, 1) := by decide +kernel
theorem dX10_takeUp_31 : decode cX10_takeUp 31 = .ok (.iinc 1 1, 3) := by decide +kernel
theorem dX10_takeUp_34 : decode cX10_takeUp 34 = .ok (.goto (-15), 3) := by decide +kernel
theorem dX10_takeUp_37 : decode cX10_takeUp 37 = .ok (.aload_n 0, 1) := by decide +kernel
theorem dX10_takeUp_38 : decode cX10_takeUp 38 = .ok (.getfield 55, 3) := by decide +kernel
theorem dX10_takeUp_41 : decode cX10_takeUp 41 = .ok (.aload_n 0, 1) := by decide +kernel
theorem dX10_takeUp_42 : decode cX10_takeUp 42 = .ok (.getfield 19, 3) := by decide +kernel
theorem dX10_takeUp_45 : decode cX10_takeUp 45 = .ok (.invokevirtual 413, 3) := by decide +kernel
theorem dX10_takeUp_48 : decode cX10_takeUp 48 = .ok (.aload_n 0, 1) := by decide +kernel
theorem dX10_takeUp_49 : decode cX10_takeUp 49 = .ok (.aload_n 0, 1) := by decide +kernel
theorem dX10_takeUp_50 : decode cX10_takeUp 50 = .ok (.getfield 80, 3) := by decide +kernel
theorem dX10_takeUp_53 : decode cX10_takeUp 53 = .ok (.iconst (-1), 1) := by decide +kernel
theorem dX10_takeUp_54 : decode cX10_takeUp 54 = .ok (.iconst (-1), 1) := by decide +kernel
theorem dX10_takeUp_55 : decode cX10_takeUp 55 = .ok (.invokevirtual 357, 3) := by decide +kernel
theorem dX10_takeUp_58 : decode cX10_takeUp 58 = .ok (.aload_n 0, 1) := by decide +kernel
theorem dX10_takeUp_59 : decode cX10_takeUp 59 = .ok (.invokevirtual 141, 3) := by decide +kernel
theorem dX10_takeUp_62 : decode cX10_takeUp 62 = .ok (.return_, 1) := by decide +kernel
theorem dX10_settle_0 : decode cX10_settle 0 = .ok (.aload_n 0, 1) := by decide +kernel
theorem dX10_settle_1 : decode cX10_settle 1 = .ok (.getfield 62, 3) := by decide +kernel
theorem dX10_settle_4 : decode cX10_settle 4 = .ok (.aload_n 0, 1) := by decide +kernel
theorem dX10_settle_5 : decode cX10_settle 5 = .ok (.getfield 19, 3) := by decide +kernel
theorem dX10_settle_8 : decode cX10_settle 8 = .ok (.aload_n 0, 1) := by decide +kernel
theorem dX10_settle_9 : decode cX10_settle 9 = .ok (.invokevirtual 170, 3) := by decide +kernel
theorem dX10_settle_12 : decode cX10_settle 12 = .ok (.invokevirtual 416, 3) := by decide +kernel
theorem dX10_settle_15 : decode cX10_settle 15 = .ok (.aload_n 0, 1) := by decide +kernel
theorem dX10_settle_16 : decode cX10_settle 16 = .ok (.iconst 0, 1) := by decide +kernel
theorem dX10_settle_17 : decode cX10_settle 17 = .ok (.putfield 419, 3) := by decide +kernel
theorem dX10_settle_20 : decode cX10_settle 20 = .ok (.return_, 1) := by decide +kernel
theorem dX10_reckonValues_0 : decode cX10_reckonValues 0 = .ok (.aload_n 0, 1) := by decide +kernel
theorem dX10_reckonValues_1 : decode cX10_reckonValues 1 = .ok (.getfield 98, 3) := by decide +kernel
theorem dX10_reckonValues_4 : decode cX10_reckonValues 4 = .ok (.aload_n 0, 1) := by decide +kernel
theorem dX10_reckonValues_5 : decode cX10_reckonValues 5 = .ok (.getfield 19, 3) := by decide +kernel
theorem dX10_reckonValues_8 : decode cX10_reckonValues 8 = .ok (.aload_n 0, 1) := by decide +kernel
theorem dX10_reckonValues_9 : decode cX10_reckonValues 9 = .ok (.getfield 55, 3) := by decide +kernel
theorem dX10_reckonValues_12 : decode cX10_reckonValues 12 = .ok (.getfield 92, 3) := by decide +kernel
theorem dX10_reckonValues_15 : decode cX10_reckonValues 15 = .ok (.aload_n 1, 1) := by decide +kernel
theorem dX10_reckonValues_16 : decode cX10_reckonValues 16 = .ok (.invokevirtual 423, 3) := by decide +kernel
theorem dX10_reckonValues_19 : decode cX10_reckonValues 19 = .ok (.aload_n 0, 1) := by decide +kernel
theorem dX10_reckonValues_20 : decode cX10_reckonValues 20 = .ok (.getfield 98, 3) := by decide +kernel
theorem dX10_reckonValues_23 : decode cX10_reckonValues 23 = .ok (.iload_n 2, 1) := by decide +kernel
theorem dX10_reckonValues_24 : decode cX10_reckonValues 24 = .ok (.iload_n 3, 1) := by decide +kernel
theorem dX10_reckonValues_25 : decode cX10_reckonValues 25 = .ok (.invokevirtual 426, 3) := by decide +kernel
theorem dX10_reckonValues_28 : decode cX10_reckonValues 28 = .ok (.iconst 0, 1) := by decide +kernel
theorem dX10_reckonValues_29 : decode cX10_reckonValues 29 = .ok (.istore 4, 2) := by decide +kernel
theorem dX10_reckonValues_31 : decode cX10_reckonValues 31 = .ok (.iload 4, 2) := by decide +kernel
theorem dX10_reckonValues_33 : decode cX10_reckonValues 33 = .ok (.aload_n 0, 1) := by decide +kernel
theorem dX10_reckonValues_34 : decode cX10_reckonValues 34 = .ok (.getfield 55, 3) := by decide +kernel
theorem dX10_reckonValues_37 : decode cX10_reckonValues 37 = .ok (.getfield 244, 3) := by decide +kernel
theorem dX10_reckonValues_40 : decode cX10_reckonValues 40 = .ok (.if_icmp .ge 26, 3) := by decide +kernel
theorem dX10_reckonValues_43 : decode cX10_reckonValues 43 = .ok (.aload_n 0, 1) := by decide +kernel
theorem dX10_reckonValues_44 : decode cX10_reckonValues 44 = .ok (.getfield 98, 3) := by decide +kernel
theorem dX10_reckonValues_47 : decode cX10_reckonValues 47 = .ok (.aload_n 0, 1) := by decide +kernel
theorem dX10_reckonValues_48 : decode cX10_reckonValues 48 = .ok (.getfield 55, 3) := by decide +kernel
theorem dX10_reckonValues_51 : decode cX10_reckonValues 51 = .ok (.getfield 430, 3) := by decide +kernel
theorem dX10_reckonValues_54 : decode cX10_reckonValues 54 = .ok (.iload 4, 2) := by decide +kernel
theorem dX10_reckonValues_56 : decode cX10_reckonValues 56 = .ok (.iaload, 1) := by decide +kernel
theorem dX10_reckonValues_57 : decode cX10_reckonValues 57 = .ok (.invokevirtual 433, 3) := by decide +kernel
theorem dX10_reckonValues_60 : decode cX10_reckonValues 60 = .ok (.iinc 4 1, 3) := by decide +kernel
theorem dX10_reckonValues_63 : decode cX10_reckonValues 63 = .ok (.goto (-32), 3) := by decide +kernel
theorem dX10_reckonValues_66 : decode cX10_reckonValues 66 = .ok (.return_, 1) := by decide +kernel
theorem dX10_freshenRun_0 : decode cX10_freshenRun 0 = .ok (.aload_n 0, 1) := by decide +kernel
theorem dX10_freshenRun_1 : decode cX10_freshenRun 1 = .ok (.getfield 419, 3) := by decide +kernel
theorem dX10_freshenRun_4 : decode cX10_freshenRun 4 = .ok (.ifCond .ne 23, 3) := by decide +kernel
theorem dX10_freshenRun_7 : decode cX10_freshenRun 7 = .ok (.aload_n 0, 1) := by decide +kernel
theorem dX10_freshenRun_8 : decode cX10_freshenRun 8 = .ok (.aload_n 0, 1) := by decide +kernel
theorem dX10_freshenRun_9 : decode cX10_freshenRun 9 = .ok (.getfield 84, 3) := by decide +kernel
theorem dX10_freshenRun_12 : decode cX10_freshenRun 12 = .ok (.aload_n 0, 1) := by decide +kernel
theorem dX10_freshenRun_13 : decode cX10_freshenRun 13 = .ok (.invokevirtual 170, 3) := by decide +kernel
theorem dX10_freshenRun_16 : decode cX10_freshenRun 16 = .ok (.getfield 156, 3) := by decide +kernel
theorem dX10_freshenRun_19 : decode cX10_freshenRun 19 = .ok (.invokevirtual 436, 3) := by decide +kernel
theorem dX10_freshenRun_22 : decode cX10_freshenRun 22 = .ok (.aload_n 0, 1) := by decide +kernel
theorem dX10_freshenRun_23 : decode cX10_freshenRun 23 = .ok (.iconst 1, 1) := by decide +kernel
theorem dX10_freshenRun_24 : decode cX10_freshenRun 24 = .ok (.putfield 419, 3) := by decide +kernel
theorem dX10_freshenRun_27 : decode cX10_freshenRun 27 = .ok (.return_, 1) := by decide +kernel
theorem dX10_reckonRun_0 : decode cX10_reckonRun 0 = .ok (.aload_n 0, 1) := by decide +kernel
theorem dX10_reckonRun_1 : decode cX10_reckonRun 1 = .ok (.getfield 98, 3) := by decide +kernel
theorem dX10_reckonRun_4 : decode cX10_reckonRun 4 = .ok (.aload_n 0, 1) := by decide +kernel
theorem dX10_reckonRun_5 : decode cX10_reckonRun 5 = .ok (.getfield 19, 3) := by decide +kernel
theorem dX10_reckonRun_8 : decode cX10_reckonRun 8 = .ok (.aload_n 0, 1) := by decide +kernel
theorem dX10_reckonRun_9 : decode cX10_reckonRun 9 = .ok (.getfield 62, 3) := by decide +kernel
theorem dX10_reckonRun_12 : decode cX10_reckonRun 12 = .ok (.getfield 205, 3) := by decide +kernel
theorem dX10_reckonRun_15 : decode cX10_reckonRun 15 = .ok (.aload_n 1, 1) := by decide +kernel
theorem dX10_reckonRun_16 : decode cX10_reckonRun 16 = .ok (.invokevirtual 423, 3) := by decide +kernel
theorem dX10_reckonRun_19 : decode cX10_reckonRun 19 = .ok (.iconst 0, 1) := by decide +kernel
theorem dX10_reckonRun_20 : decode cX10_reckonRun 20 = .ok (.istore 4, 2) := by decide +kernel
theorem dX10_reckonRun_22 : decode cX10_reckonRun 22 = .ok (.iload 4, 2) := by decide +kernel
theorem dX10_reckonRun_24 : decode cX10_reckonRun 24 = .ok (.aload_n 0, 1) := by decide +kernel
theorem dX10_reckonRun_25 : decode cX10_reckonRun 25 = .ok (.getfield 19, 3) := by decide +kernel
theorem dX10_reckonRun_28 : decode cX10_reckonRun 28 = .ok (.invokevirtual 211, 3) := by decide +kernel
theorem dX10_reckonRun_31 : decode cX10_reckonRun 31 = .ok (.if_icmp .ge 74, 3) := by decide +kernel
theorem dX10_reckonRun_34 : decode cX10_reckonRun 34 = .ok (.aload_n 0, 1) := by decide +kernel
theorem dX10_reckonRun_35 : decode cX10_reckonRun 35 = .ok (.getfield 62, 3) := by decide +kernel
theorem dX10_reckonRun_38 : decode cX10_reckonRun 38 = .ok (.getfield 440, 3) := by decide +kernel
theorem dX10_reckonRun_41 : decode cX10_reckonRun 41 = .ok (.iload 4, 2) := by decide +kernel
theorem dX10_reckonRun_43 : decode cX10_reckonRun 43 = .ok (.iaload, 1) := by decide +kernel
theorem dX10_reckonRun_44 : decode cX10_reckonRun 44 = .ok (.istore 5, 2) := by decide +kernel
theorem dX10_reckonRun_46 : decode cX10_reckonRun 46 = .ok (.lload_n 2, 1) := by decide +kernel
theorem dX10_reckonRun_47 : decode cX10_reckonRun 47 = .ok (.aload_n 0, 1) := by decide +kernel
theorem dX10_reckonRun_48 : decode cX10_reckonRun 48 = .ok (.getfield 62, 3) := by decide +kernel
theorem dX10_reckonRun_51 : decode cX10_reckonRun 51 = .ok (.getfield 208, 3) := by decide +kernel
theorem dX10_reckonRun_54 : decode cX10_reckonRun 54 = .ok (.iload 5, 2) := by decide +kernel
theorem dX10_reckonRun_56 : decode cX10_reckonRun 56 = .ok (.iaload, 1) := by decide +kernel
theorem dX10_reckonRun_57 : decode cX10_reckonRun 57 = .ok (.lushr, 1) := by decide +kernel
theorem dX10_reckonRun_58 : decode cX10_reckonRun 58 = .ok (.lconst 1, 1) := by decide +kernel
theorem dX10_reckonRun_59 : decode cX10_reckonRun 59 = .ok (.land, 1) := by decide +kernel
theorem dX10_reckonRun_60 : decode cX10_reckonRun 60 = .ok (.lconst 0, 1) := by decide +kernel
theorem dX10_reckonRun_61 : decode cX10_reckonRun 61 = .ok (.lcmp, 1) := by decide +kernel
theorem dX10_reckonRun_62 : decode cX10_reckonRun 62 = .ok (.ifCond .eq 7, 3) := by decide +kernel
theorem dX10_reckonRun_65 : decode cX10_reckonRun 65 = .ok (.iconst 1, 1) := by decide +kernel
theorem dX10_reckonRun_66 : decode cX10_reckonRun 66 = .ok (.goto 4, 3) := by decide +kernel
theorem dX10_reckonRun_69 : decode cX10_reckonRun 69 = .ok (.iconst 0, 1) := by decide +kernel
theorem dX10_reckonRun_70 : decode cX10_reckonRun 70 = .ok (.istore 6, 2) := by decide +kernel
theorem dX10_reckonRun_72 : decode cX10_reckonRun 72 = .ok (.aload_n 0, 1) := by decide +kernel
theorem dX10_reckonRun_73 : decode cX10_reckonRun 73 = .ok (.getfield 62, 3) := by decide +kernel
theorem dX10_reckonRun_76 : decode cX10_reckonRun 76 = .ok (.getfield 260, 3) := by decide +kernel
theorem dX10_reckonRun_79 : decode cX10_reckonRun 79 = .ok (.iload 5, 2) := by decide +kernel
theorem dX10_reckonRun_81 : decode cX10_reckonRun 81 = .ok (.baload, 1) := by decide +kernel
theorem dX10_reckonRun_82 : decode cX10_reckonRun 82 = .ok (.ifCond .ne 17, 3) := by decide +kernel
theorem dX10_reckonRun_85 : decode cX10_reckonRun 85 = .ok (.iload 6, 2) := by decide +kernel
theorem dX10_reckonRun_87 : decode cX10_reckonRun 87 = .ok (.ifCond .ne 12, 3) := by decide +kernel
theorem dX10_reckonRun_90 : decode cX10_reckonRun 90 = .ok (.aload_n 0, 1) := by decide +kernel
theorem dX10_reckonRun_91 : decode cX10_reckonRun 91 = .ok (.getfield 98, 3) := by decide +kernel
theorem dX10_reckonRun_94 : decode cX10_reckonRun 94 = .ok (.iload 5, 2) := by decide +kernel
theorem dX10_reckonRun_96 : decode cX10_reckonRun 96 = .ok (.invokevirtual 433, 3) := by decide +kernel
theorem dX10_reckonRun_99 : decode cX10_reckonRun 99 = .ok (.iinc 4 1, 3) := by decide +kernel
theorem dX10_reckonRun_102 : decode cX10_reckonRun 102 = .ok (.goto (-80), 3) := by decide +kernel
theorem dX10_reckonRun_105 : decode cX10_reckonRun 105 = .ok (.return_, 1) := by decide +kernel
theorem dX10_wrongWithout_0 : decode cX10_wrongWithout 0 = .ok (.aload_n 0, 1) := by decide +kernel
theorem dX10_wrongWithout_1 : decode cX10_wrongWithout 1 = .ok (.invokevirtual 198, 3) := by decide +kernel
theorem dX10_wrongWithout_4 : decode cX10_wrongWithout 4 = .ok (.aload_n 0, 1) := by decide +kernel
theorem dX10_wrongWithout_5 : decode cX10_wrongWithout 5 = .ok (.aload_n 0, 1) := by decide +kernel
theorem dX10_wrongWithout_6 : decode cX10_wrongWithout 6 = .ok (.getfield 87, 3) := by decide +kernel
theorem dX10_wrongWithout_9 : decode cX10_wrongWithout 9 = .ok (.aload_n 0, 1) := by decide +kernel
theorem dX10_wrongWithout_10 : decode cX10_wrongWithout 10 = .ok (.invokevirtual 170, 3) := by decide +kernel
theorem dX10_wrongWithout_13 : decode cX10_wrongWithout 13 = .ok (.getfield 156, 3) := by decide +kernel
theorem dX10_wrongWithout_16 : decode cX10_wrongWithout 16 = .ok (.lconst 1, 1) := by decide +kernel
theorem dX10_wrongWithout_17 : decode cX10_wrongWithout 17 = .ok (.iload_n 1, 1) := by decide +kernel
theorem dX10_wrongWithout_18 : decode cX10_wrongWithout 18 = .ok (.lshl, 1) := by decide +kernel
theorem dX10_wrongWithout_19 : decode cX10_wrongWithout 19 = .ok (.lor, 1) := by decide +kernel
theorem dX10_wrongWithout_20 : decode cX10_wrongWithout 20 = .ok (.invokevirtual 436, 3) := by decide +kernel
theorem dX10_wrongWithout_23 : decode cX10_wrongWithout 23 = .ok (.aload_n 0, 1) := by decide +kernel
theorem dX10_wrongWithout_24 : decode cX10_wrongWithout 24 = .ok (.aload_n 0, 1) := by decide +kernel
theorem dX10_wrongWithout_25 : decode cX10_wrongWithout 25 = .ok (.getfield 87, 3) := by decide +kernel
theorem dX10_wrongWithout_28 : decode cX10_wrongWithout 28 = .ok (.invokevirtual 201, 3) := by decide +kernel
theorem dX10_wrongWithout_31 : decode cX10_wrongWithout 31 = .ok (.aload_n 0, 1) := by decide +kernel
theorem dX10_wrongWithout_32 : decode cX10_wrongWithout 32 = .ok (.aload_n 0, 1) := by decide +kernel
theorem dX10_wrongWithout_33 : decode cX10_wrongWithout 33 = .ok (.getfield 84, 3) := by decide +kernel
theorem dX10_wrongWithout_36 : decode cX10_wrongWithout 36 = .ok (.invokevirtual 201, 3) := by decide +kernel
theorem dX10_wrongWithout_39 : decode cX10_wrongWithout 39 = .ok (.isub, 1) := by decide +kernel
theorem dX10_wrongWithout_40 : decode cX10_wrongWithout 40 = .ok (.ireturn, 1) := by decide +kernel
theorem dX10_isWrong_0 : decode cX10_isWrong 0 = .ok (.aload_n 0, 1) := by decide +kernel
theorem dX10_isWrong_1 : decode cX10_isWrong 1 = .ok (.getfield 55, 3) := by decide +kernel
theorem dX10_isWrong_4 : decode cX10_isWrong 4 = .ok (.iload_n 1, 1) := by decide +kernel
theorem dX10_isWrong_5 : decode cX10_isWrong 5 = .ok (.invokevirtual 195, 3) := by decide +kernel
theorem dX10_isWrong_8 : decode cX10_isWrong 8 = .ok (.ifCond .ne 5, 3) := by decide +kernel
theorem dX10_isWrong_11 : decode cX10_isWrong 11 = .ok (.iconst 0, 1) := by decide +kernel
theorem dX10_isWrong_12 : decode cX10_isWrong 12 = .ok (.ireturn, 1) := by decide +kernel
theorem dX10_isWrong_13 : decode cX10_isWrong 13 = .ok (.iconst 0, 1) := by decide +kernel
theorem dX10_isWrong_14 : decode cX10_isWrong 14 = .ok (.istore_n 3, 1) := by decide +kernel
theorem dX10_isWrong_15 : decode cX10_isWrong 15 = .ok (.iload_n 3, 1) := by decide +kernel
theorem dX10_isWrong_16 : decode cX10_isWrong 16 = .ok (.aload_n 0, 1) := by decide +kernel
theorem dX10_isWrong_17 : decode cX10_isWrong 17 = .ok (.getfield 19, 3) := by decide +kernel
theorem dX10_isWrong_20 : decode cX10_isWrong 20 = .ok (.getfield 121, 3) := by decide +kernel
theorem dX10_isWrong_23 : decode cX10_isWrong 23 = .ok (.if_icmp .ge 33, 3) := by decide +kernel
theorem dX10_isWrong_26 : decode cX10_isWrong 26 = .ok (.aload_n 0, 1) := by decide +kernel
theorem dX10_isWrong_27 : decode cX10_isWrong 27 = .ok (.getfield 80, 3) := by decide +kernel
theorem dX10_isWrong_30 : decode cX10_isWrong 30 = .ok (.iload_n 3, 1) := by decide +kernel
theorem dX10_isWrong_31 : decode cX10_isWrong 31 = .ok (.bipush 100, 2) := by decide +kernel
theorem dX10_isWrong_33 : decode cX10_isWrong 33 = .ok (.imul, 1) := by decide +kernel
theorem dX10_isWrong_34 : decode cX10_isWrong 34 = .ok (.iload_n 1, 1) := by decide +kernel
theorem dX10_isWrong_35 : decode cX10_isWrong 35 = .ok (.iadd, 1) := by decide +kernel
theorem dX10_isWrong_36 : decode cX10_isWrong 36 = .ok (.iaload, 1) := by decide +kernel
theorem dX10_isWrong_37 : decode cX10_isWrong 37 = .ok (.aload_n 2, 1) := by decide +kernel
theorem dX10_isWrong_38 : decode cX10_isWrong 38 = .ok (.iload_n 3, 1) := by decide +kernel
theorem dX10_isWrong_39 : decode cX10_isWrong 39 = .ok (.bipush 100, 2) := by decide +kernel
theorem dX10_isWrong_41 : decode cX10_isWrong 41 = .ok (.imul, 1) := by decide +kernel
theorem dX10_isWrong_42 : decode cX10_isWrong 42 = .ok (.iload_n 1, 1) := by decide +kernel
theorem dX10_isWrong_43 : decode cX10_isWrong 43 = .ok (.iadd, 1) := by decide +kernel
theorem dX10_isWrong_44 : decode cX10_isWrong 44 = .ok (.iaload, 1) := by decide +kernel
theorem dX10_isWrong_45 : decode cX10_isWrong 45 = .ok (.if_icmp .eq 5, 3) := by decide +kernel
theorem dX10_isWrong_48 : decode cX10_isWrong 48 = .ok (.iconst 1, 1) := by decide +kernel
theorem dX10_isWrong_49 : decode cX10_isWrong 49 = .ok (.ireturn, 1) := by decide +kernel
theorem dX10_isWrong_50 : decode cX10_isWrong 50 = .ok (.iinc 3 1, 3) := by decide +kernel
theorem dX10_isWrong_53 : decode cX10_isWrong 53 = .ok (.goto (-38), 3) := by decide +kernel
theorem dX10_isWrong_56 : decode cX10_isWrong 56 = .ok (.iconst 0, 1) := by decide +kernel
theorem dX10_isWrong_57 : decode cX10_isWrong 57 = .ok (.ireturn, 1) := by decide +kernel
theorem dX10_countWrong_0 : decode cX10_countWrong 0 = .ok (.iconst 0, 1) := by decide +kernel
theorem dX10_countWrong_1 : decode cX10_countWrong 1 = .ok (.istore_n 2, 1) := by decide +kernel
theorem dX10_countWrong_2 : decode cX10_countWrong 2 = .ok (.iconst 0, 1) := by decide +kernel
theorem dX10_countWrong_3 : decode cX10_countWrong 3 = .ok (.istore_n 3, 1) := by decide +kernel
theorem dX10_countWrong_4 : decode cX10_countWrong 4 = .ok (.iload_n 3, 1) := by decide +kernel
theorem dX10_countWrong_5 : decode cX10_countWrong 5 = .ok (.aload_n 0, 1) := by decide +kernel
theorem dX10_countWrong_6 : decode cX10_countWrong 6 = .ok (.getfield 19, 3) := by decide +kernel
theorem dX10_countWrong_9 : decode cX10_countWrong 9 = .ok (.invokevirtual 211, 3) := by decide +kernel
theorem dX10_countWrong_12 : decode cX10_countWrong 12 = .ok (.if_icmp .ge 28, 3) := by decide +kernel
theorem dX10_countWrong_15 : decode cX10_countWrong 15 = .ok (.aload_n 0, 1) := by decide +kernel
theorem dX10_countWrong_16 : decode cX10_countWrong 16 = .ok (.aload_n 0, 1) := by decide +kernel
theorem dX10_countWrong_17 : decode cX10_countWrong 17 = .ok (.getfield 19, 3) := by decide +kernel
theorem dX10_countWrong_20 : decode cX10_countWrong 20 = .ok (.iload_n 3, 1) := by decide +kernel
theorem dX10_countWrong_21 : decode cX10_countWrong 21 = .ok (.invokevirtual 215, 3) := by decide +kernel
theorem dX10_countWrong_24 : decode cX10_countWrong 24 = .ok (.aload_n 1, 1) := by decide +kernel
theorem dX10_countWrong_25 : decode cX10_countWrong 25 = .ok (.invokevirtual 306, 3) := by decide +kernel
theorem dX10_countWrong_28 : decode cX10_countWrong 28 = .ok (.ifCond .eq 6, 3) := by decide +kernel
theorem dX10_countWrong_31 : decode cX10_countWrong 31 = .ok (.iinc 2 1, 3) := by decide +kernel
theorem dX10_countWrong_34 : decode cX10_countWrong 34 = .ok (.iinc 3 1, 3) := by decide +kernel
theorem dX10_countWrong_37 : decode cX10_countWrong 37 = .ok (.goto (-33), 3) := by decide +kernel
theorem dX10_countWrong_40 : decode cX10_countWrong 40 = .ok (.iload_n 2, 1) := by decide +kernel
theorem dX10_countWrong_41 : decode cX10_countWrong 41 = .ok (.ireturn, 1) := by decide +kernel
theorem dX10_canStir_0 : decode cX10_canStir 0 = .ok (.aload_n 0, 1) := by decide +kernel
theorem dX10_canStir_1 : decode cX10_canStir 1 = .ok (.iload_n 1, 1) := by decide +kernel
theorem dX10_canStir_2 : decode cX10_canStir 2 = .ok (.invokevirtual 189, 3) := by decide +kernel
theorem dX10_canStir_5 : decode cX10_canStir 5 = .ok (.ifCond .eq 35, 3) := by decide +kernel
theorem dX10_canStir_8 : decode cX10_canStir 8 = .ok (.aload_n 0, 1) := by decide +kernel
theorem dX10_canStir_9 : decode cX10_canStir 9 = .ok (.getfield 19, 3) := by decide +kernel
theorem dX10_canStir_12 : decode cX10_canStir 12 = .ok (.iload_n 2, 1) := by decide +kernel
theorem dX10_canStir_13 : decode cX10_canStir 13 = .ok (.iload_n 3, 1) := by decide +kernel
theorem dX10_canStir_14 : decode cX10_canStir 14 = .ok (.invokevirtual 192, 3) := by decide +kernel
theorem dX10_canStir_17 : decode cX10_canStir 17 = .ok (.ifCond .eq 23, 3) := by decide +kernel
theorem dX10_canStir_20 : decode cX10_canStir 20 = .ok (.aload_n 0, 1) := by decide +kernel
theorem dX10_canStir_21 : decode cX10_canStir 21 = .ok (.getfield 55, 3) := by decide +kernel
theorem dX10_canStir_24 : decode cX10_canStir 24 = .ok (.iload_n 2, 1) := by decide +kernel
theorem dX10_canStir_25 : decode cX10_canStir 25 = .ok (.bipush 10, 2) := by decide +kernel
theorem dX10_canStir_27 : decode cX10_canStir 27 = .ok (.imul, 1) := by decide +kernel
theorem dX10_canStir_28 : decode cX10_canStir 28 = .ok (.iload_n 3, 1) := by decide +kernel
theorem dX10_canStir_29 : decode cX10_canStir 29 = .ok (.iadd, 1) := by decide +kernel
theorem dX10_canStir_30 : decode cX10_canStir 30 = .ok (.invokevirtual 195, 3) := by decide +kernel
theorem dX10_canStir_33 : decode cX10_canStir 33 = .ok (.ifCond .eq 7, 3) := by decide +kernel
theorem dX10_canStir_36 : decode cX10_canStir 36 = .ok (.iconst 1, 1) := by decide +kernel
theorem dX10_canStir_37 : decode cX10_canStir 37 = .ok (.goto 4, 3) := by decide +kernel
theorem dX10_canStir_40 : decode cX10_canStir 40 = .ok (.iconst 0, 1) := by decide +kernel
theorem dX10_canStir_41 : decode cX10_canStir 41 = .ok (.ireturn, 1) := by decide +kernel
theorem dX10_firstGreatest_0 : decode cX10_firstGreatest 0 = .ok (.iconst (-1), 1) := by decide +kernel
theorem dX10_firstGreatest_1 : decode cX10_firstGreatest 1 = .ok (.istore_n 2, 1) := by decide +kernel
theorem dX10_firstGreatest_2 : decode cX10_firstGreatest 2 = .ok (.iconst 0, 1) := by decide +kernel
theorem dX10_firstGreatest_3 : decode cX10_firstGreatest 3 = .ok (.istore_n 3, 1) := by decide +kernel
theorem dX10_firstGreatest_4 : decode cX10_firstGreatest 4 = .ok (.iload_n 3, 1) := by decide +kernel
theorem dX10_firstGreatest_5 : decode cX10_firstGreatest 5 = .ok (.aload_n 0, 1) := by decide +kernel
theorem dX10_firstGreatest_6 : decode cX10_firstGreatest 6 = .ok (.getfield 19, 3) := by decide +kernel
theorem dX10_firstGreatest_9 : decode cX10_firstGreatest 9 = .ok (.invokevirtual 211, 3) := by decide +kernel
theorem dX10_firstGreatest_12 : decode cX10_firstGreatest 12 = .ok (.if_icmp .ge 65, 3) := by decide +kernel
theorem dX10_firstGreatest_15 : decode cX10_firstGreatest 15 = .ok (.aload_n 0, 1) := by decide +kernel
theorem dX10_firstGreatest_16 : decode cX10_firstGreatest 16 = .ok (.getfield 19, 3) := by decide +kernel
theorem dX10_firstGreatest_19 : decode cX10_firstGreatest 19 = .ok (.iload_n 3, 1) := by decide +kernel
theorem dX10_firstGreatest_20 : decode cX10_firstGreatest 20 = .ok (.invokevirtual 215, 3) := by decide +kernel
theorem dX10_firstGreatest_23 : decode cX10_firstGreatest 23 = .ok (.istore 4, 2) := by decide +kernel
theorem dX10_firstGreatest_25 : decode cX10_firstGreatest 25 = .ok (.aload_n 0, 1) := by decide +kernel
theorem dX10_firstGreatest_26 : decode cX10_firstGreatest 26 = .ok (.getfield 55, 3) := by decide +kernel
theorem dX10_firstGreatest_29 : decode cX10_firstGreatest 29 = .ok (.iload 4, 2) := by decide +kernel
theorem dX10_firstGreatest_31 : decode cX10_firstGreatest 31 = .ok (.invokevirtual 195, 3) := by decide +kernel
theorem dX10_firstGreatest_34 : decode cX10_firstGreatest 34 = .ok (.ifCond .eq 37, 3) := by decide +kernel
theorem dX10_firstGreatest_37 : decode cX10_firstGreatest 37 = .ok (.iload_n 2, 1) := by decide +kernel
theorem dX10_firstGreatest_38 : decode cX10_firstGreatest 38 = .ok (.iconst (-1), 1) := by decide +kernel
theorem dX10_firstGreatest_39 : decode cX10_firstGreatest 39 = .ok (.if_icmp .eq 29, 3) := by decide +kernel
theorem dX10_firstGreatest_42 : decode cX10_firstGreatest 42 = .ok (.aload_n 0, 1) := by decide +kernel
theorem dX10_firstGreatest_43 : decode cX10_firstGreatest 43 = .ok (.getfield 80, 3) := by decide +kernel
theorem dX10_firstGreatest_46 : decode cX10_firstGreatest 46 = .ok (.iload_n 1, 1) := by decide +kernel
theorem dX10_firstGreatest_47 : decode cX10_firstGreatest 47 = .ok (.bipush 100, 2) := by decide +kernel
theorem dX10_firstGreatest_49 : decode cX10_firstGreatest 49 = .ok (.imul, 1) := by decide +kernel
theorem dX10_firstGreatest_50 : decode cX10_firstGreatest 50 = .ok (.iload 4, 2) := by decide +kernel
theorem dX10_firstGreatest_52 : decode cX10_firstGreatest 52 = .ok (.iadd, 1) := by decide +kernel
theorem dX10_firstGreatest_53 : decode cX10_firstGreatest 53 = .ok (.iaload, 1) := by decide +kernel
theorem dX10_firstGreatest_54 : decode cX10_firstGreatest 54 = .ok (.aload_n 0, 1) := by decide +kernel
theorem dX10_firstGreatest_55 : decode cX10_firstGreatest 55 = .ok (.getfield 80, 3) := by decide +kernel
theorem dX10_firstGreatest_58 : decode cX10_firstGreatest 58 = .ok (.iload_n 1, 1) := by decide +kernel
theorem dX10_firstGreatest_59 : decode cX10_firstGreatest 59 = .ok (.bipush 100, 2) := by decide +kernel
theorem dX10_firstGreatest_61 : decode cX10_firstGreatest 61 = .ok (.imul, 1) := by decide +kernel
theorem dX10_firstGreatest_62 : decode cX10_firstGreatest 62 = .ok (.iload_n 2, 1) := by decide +kernel
theorem dX10_firstGreatest_63 : decode cX10_firstGreatest 63 = .ok (.iadd, 1) := by decide +kernel
theorem dX10_firstGreatest_64 : decode cX10_firstGreatest 64 = .ok (.iaload, 1) := by decide +kernel
theorem dX10_firstGreatest_65 : decode cX10_firstGreatest 65 = .ok (.if_icmp .le 6, 3) := by decide +kernel
theorem dX10_firstGreatest_68 : decode cX10_firstGreatest 68 = .ok (.iload 4, 2) := by decide +kernel
theorem dX10_firstGreatest_70 : decode cX10_firstGreatest 70 = .ok (.istore_n 2, 1) := by decide +kernel
theorem dX10_firstGreatest_71 : decode cX10_firstGreatest 71 = .ok (.iinc 3 1, 3) := by decide +kernel
theorem dX10_firstGreatest_74 : decode cX10_firstGreatest 74 = .ok (.goto (-70), 3) := by decide +kernel
theorem dX10_firstGreatest_77 : decode cX10_firstGreatest 77 = .ok (.iload_n 2, 1) := by decide +kernel
theorem dX10_firstGreatest_78 : decode cX10_firstGreatest 78 = .ok (.ireturn, 1) := by decide +kernel
theorem dX10_leastOf_0 : decode cX10_leastOf 0 = .ok (.ldc_w 443, 3) := by decide +kernel
theorem dX10_leastOf_3 : decode cX10_leastOf 3 = .ok (.istore_n 2, 1) := by decide +kernel
theorem dX10_leastOf_4 : decode cX10_leastOf 4 = .ok (.iconst 0, 1) := by decide +kernel
theorem dX10_leastOf_5 : decode cX10_leastOf 5 = .ok (.istore_n 3, 1) := by decide +kernel
theorem dX10_leastOf_6 : decode cX10_leastOf 6 = .ok (.iload_n 3, 1) := by decide +kernel
theorem dX10_leastOf_7 : decode cX10_leastOf 7 = .ok (.aload_n 0, 1) := by decide +kernel
theorem dX10_leastOf_8 : decode cX10_leastOf 8 = .ok (.getfield 55, 3) := by decide +kernel
theorem dX10_leastOf_11 : decode cX10_leastOf 11 = .ok (.getfield 244, 3) := by decide +kernel
theorem dX10_leastOf_14 : decode cX10_leastOf 14 = .ok (.if_icmp .ge 33, 3) := by decide +kernel
theorem dX10_leastOf_17 : decode cX10_leastOf 17 = .ok (.iload_n 2, 1) := by decide +kernel
theorem dX10_leastOf_18 : decode cX10_leastOf 18 = .ok (.aload_n 0, 1) := by decide +kernel
theorem dX10_leastOf_19 : decode cX10_leastOf 19 = .ok (.getfield 80, 3) := by decide +kernel
theorem dX10_leastOf_22 : decode cX10_leastOf 22 = .ok (.iload_n 1, 1) := by decide +kernel
theorem dX10_leastOf_23 : decode cX10_leastOf 23 = .ok (.bipush 100, 2) := by decide +kernel
theorem dX10_leastOf_25 : decode cX10_leastOf 25 = .ok (.imul, 1) := by decide +kernel
theorem dX10_leastOf_26 : decode cX10_leastOf 26 = .ok (.aload_n 0, 1) := by decide +kernel
theorem dX10_leastOf_27 : decode cX10_leastOf 27 = .ok (.getfield 55, 3) := by decide +kernel
theorem dX10_leastOf_30 : decode cX10_leastOf 30 = .ok (.getfield 430, 3) := by decide +kernel
theorem dX10_leastOf_33 : decode cX10_leastOf 33 = .ok (.iload_n 3, 1) := by decide +kernel
theorem dX10_leastOf_34 : decode cX10_leastOf 34 = .ok (.iaload, 1) := by decide +kernel
theorem dX10_leastOf_35 : decode cX10_leastOf 35 = .ok (.iadd, 1) := by decide +kernel
theorem dX10_leastOf_36 : decode cX10_leastOf 36 = .ok (.iaload, 1) := by decide +kernel
theorem dX10_leastOf_37 : decode cX10_leastOf 37 = .ok (.invokestatic 444, 3) := by decide +kernel
theorem dX10_leastOf_40 : decode cX10_leastOf 40 = .ok (.istore_n 2, 1) := by decide +kernel
theorem dX10_leastOf_41 : decode cX10_leastOf 41 = .ok (.iinc 3 1, 3) := by decide +kernel
theorem dX10_leastOf_44 : decode cX10_leastOf 44 = .ok (.goto (-38), 3) := by decide +kernel
theorem dX10_leastOf_47 : decode cX10_leastOf 47 = .ok (.iload_n 2, 1) := by decide +kernel
theorem dX10_leastOf_48 : decode cX10_leastOf 48 = .ok (.ireturn, 1) := by decide +kernel
theorem dX10_sumOf_0 : decode cX10_sumOf 0 = .ok (.iconst 0, 1) := by decide +kernel
theorem dX10_sumOf_1 : decode cX10_sumOf 1 = .ok (.istore_n 2, 1) := by decide +kernel
theorem dX10_sumOf_2 : decode cX10_sumOf 2 = .ok (.iconst 0, 1) := by decide +kernel
theorem dX10_sumOf_3 : decode cX10_sumOf 3 = .ok (.istore_n 3, 1) := by decide +kernel
theorem dX10_sumOf_4 : decode cX10_sumOf 4 = .ok (.iload_n 3, 1) := by decide +kernel
theorem dX10_sumOf_5 : decode cX10_sumOf 5 = .ok (.aload_n 0, 1) := by decide +kernel
theorem dX10_sumOf_6 : decode cX10_sumOf 6 = .ok (.getfield 55, 3) := by decide +kernel
theorem dX10_sumOf_9 : decode cX10_sumOf 9 = .ok (.getfield 244, 3) := by decide +kernel
theorem dX10_sumOf_12 : decode cX10_sumOf 12 = .ok (.if_icmp .ge 31, 3) := by decide +kernel
theorem dX10_sumOf_15 : decode cX10_sumOf 15 = .ok (.iload_n 2, 1) := by decide +kernel
theorem dX10_sumOf_16 : decode cX10_sumOf 16 = .ok (.aload_n 0, 1) := by decide +kernel
theorem dX10_sumOf_17 : decode cX10_sumOf 17 = .ok (.getfield 80, 3) := by decide +kernel
theorem dX10_sumOf_20 : decode cX10_sumOf 20 = .ok (.iload_n 1, 1) := by decide +kernel
theorem dX10_sumOf_21 : decode cX10_sumOf 21 = .ok (.bipush 100, 2) := by decide +kernel
theorem dX10_sumOf_23 : decode cX10_sumOf 23 = .ok (.imul, 1) := by decide +kernel
theorem dX10_sumOf_24 : decode cX10_sumOf 24 = .ok (.aload_n 0, 1) := by decide +kernel
theorem dX10_sumOf_25 : decode cX10_sumOf 25 = .ok (.getfield 55, 3) := by decide +kernel
theorem dX10_sumOf_28 : decode cX10_sumOf 28 = .ok (.getfield 430, 3) := by decide +kernel
theorem dX10_sumOf_31 : decode cX10_sumOf 31 = .ok (.iload_n 3, 1) := by decide +kernel
theorem dX10_sumOf_32 : decode cX10_sumOf 32 = .ok (.iaload, 1) := by decide +kernel
theorem dX10_sumOf_33 : decode cX10_sumOf 33 = .ok (.iadd, 1) := by decide +kernel
theorem dX10_sumOf_34 : decode cX10_sumOf 34 = .ok (.iaload, 1) := by decide +kernel
theorem dX10_sumOf_35 : decode cX10_sumOf 35 = .ok (.iadd, 1) := by decide +kernel
theorem dX10_sumOf_36 : decode cX10_sumOf 36 = .ok (.istore_n 2, 1) := by decide +kernel
theorem dX10_sumOf_37 : decode cX10_sumOf 37 = .ok (.iinc 3 1, 3) := by decide +kernel
theorem dX10_sumOf_40 : decode cX10_sumOf 40 = .ok (.goto (-36), 3) := by decide +kernel
theorem dX10_sumOf_43 : decode cX10_sumOf 43 = .ok (.iload_n 2, 1) := by decide +kernel
theorem dX10_sumOf_44 : decode cX10_sumOf 44 = .ok (.ireturn, 1) := by decide +kernel
theorem dX11_init_0 : decode cX11_init 0 = .ok (.aload_n 0, 1) := by decide +kernel
theorem dX11_init_1 : decode cX11_init 1 = .ok (.invokespecial 1, 3) := by decide +kernel
theorem dX11_init_4 : decode cX11_init 4 = .ok (.aload_n 0, 1) := by decide +kernel
theorem dX11_init_5 : decode cX11_init 5 = .ok (.iconst 2, 1) := by decide +kernel
theorem dX11_init_6 : decode cX11_init 6 = .ok (.newarray .int, 2) := by decide +kernel
theorem dX11_init_8 : decode cX11_init 8 = .ok (.putfield 7, 3) := by decide +kernel
theorem dX11_init_11 : decode cX11_init 11 = .ok (.aload_n 0, 1) := by decide +kernel
theorem dX11_init_12 : decode cX11_init 12 = .ok (.iconst 2, 1) := by decide +kernel
theorem dX11_init_13 : decode cX11_init 13 = .ok (.newarray .int, 2) := by decide +kernel
theorem dX11_init_15 : decode cX11_init 15 = .ok (.putfield 13, 3) := by decide +kernel
theorem dX11_init_18 : decode cX11_init 18 = .ok (.aload_n 0, 1) := by decide +kernel
theorem dX11_init_19 : decode cX11_init 19 = .ok (.iconst 2, 1) := by decide +kernel
theorem dX11_init_20 : decode cX11_init 20 = .ok (.newarray .int, 2) := by decide +kernel
theorem dX11_init_22 : decode cX11_init 22 = .ok (.putfield 16, 3) := by decide +kernel
theorem dX11_init_25 : decode cX11_init 25 = .ok (.aload_n 0, 1) := by decide +kernel
theorem dX11_init_26 : decode cX11_init 26 = .ok (.iconst 2, 1) := by decide +kernel
theorem dX11_init_27 : decode cX11_init 27 = .ok (.newarray .int, 2) := by decide +kernel
theorem dX11_init_29 : decode cX11_init 29 = .ok (.putfield 19, 3) := by decide +kernel
theorem dX11_init_32 : decode cX11_init 32 = .ok (.aload_n 0, 1) := by decide +kernel
theorem dX11_init_33 : decode cX11_init 33 = .ok (.iconst 2, 1) := by decide +kernel
theorem dX11_init_34 : decode cX11_init 34 = .ok (.newarray .int, 2) := by decide +kernel
theorem dX11_init_36 : decode cX11_init 36 = .ok (.putfield 22, 3) := by decide +kernel
theorem dX11_init_39 : decode cX11_init 39 = .ok (.aload_n 0, 1) := by decide +kernel
theorem dX11_init_40 : decode cX11_init 40 = .ok (.iconst 2, 1) := by decide +kernel
theorem dX11_init_41 : decode cX11_init 41 = .ok (.newarray .int, 2) := by decide +kernel
theorem dX11_init_43 : decode cX11_init 43 = .ok (.putfield 25, 3) := by decide +kernel
theorem dX11_init_46 : decode cX11_init 46 = .ok (.aload_n 0, 1) := by decide +kernel
theorem dX11_init_47 : decode cX11_init 47 = .ok (.iconst 2, 1) := by decide +kernel
theorem dX11_init_48 : decode cX11_init 48 = .ok (.newarray .int, 2) := by decide +kernel
theorem dX11_init_50 : decode cX11_init 50 = .ok (.putfield 28, 3) := by decide +kernel
theorem dX11_init_53 : decode cX11_init 53 = .ok (.aload_n 0, 1) := by decide +kernel
theorem dX11_init_54 : decode cX11_init 54 = .ok (.iconst 2, 1) := by decide +kernel
theorem dX11_init_55 : decode cX11_init 55 = .ok (.newarray .int, 2) := by decide +kernel
theorem dX11_init_57 : decode cX11_init 57 = .ok (.putfield 31, 3) := by decide +kernel
theorem dX11_init_60 : decode cX11_init 60 = .ok (.aload_n 0, 1) := by decide +kernel
theorem dX11_init_61 : decode cX11_init 61 = .ok (.iconst 2, 1) := by decide +kernel
theorem dX11_init_62 : decode cX11_init 62 = .ok (.newarray .int, 2) := by decide +kernel
theorem dX11_init_64 : decode cX11_init 64 = .ok (.putfield 34, 3) := by decide +kernel
theorem dX11_init_67 : decode cX11_init 67 = .ok (.aload_n 0, 1) := by decide +kernel
theorem dX11_init_68 : decode cX11_init 68 = .ok (.iconst 2, 1) := by decide +kernel
theorem dX11_init_69 : decode cX11_init 69 = .ok (.newarray .int, 2) := by decide +kernel
theorem dX11_init_71 : decode cX11_init 71 = .ok (.putfield 37, 3) := by decide +kernel
theorem dX11_init_74 : decode cX11_init 74 = .ok (.aload_n 0, 1) := by decide +kernel
theorem dX11_init_75 : decode cX11_init 75 = .ok (.iconst 2, 1) := by decide +kernel
theorem dX11_init_76 : decode cX11_init 76 = .ok (.newarray .int, 2) := by decide +kernel
theorem dX11_init_78 : decode cX11_init 78 = .ok (.putfield 40, 3) := by decide +kernel
theorem dX11_init_81 : decode cX11_init 81 = .ok (.aload_n 0, 1) := by decide +kernel
theorem dX11_init_82 : decode cX11_init 82 = .ok (.bipush 24, 2) := by decide +kernel
theorem dX11_init_84 : decode cX11_init 84 = .ok (.newarray .int, 2) := by decide +kernel
theorem dX11_init_86 : decode cX11_init 86 = .ok (.putfield 43, 3) := by decide +kernel
theorem dX11_init_89 : decode cX11_init 89 = .ok (.aload_n 0, 1) := by decide +kernel
theorem dX11_init_90 : decode cX11_init 90 = .ok (.bipush 24, 2) := by decide +kernel
theorem dX11_init_92 : decode cX11_init 92 = .ok (.newarray .int, 2) := by decide +kernel
theorem dX11_init_94 : decode cX11_init 94 = .ok (.putfield 46, 3) := by decide +kernel
theorem dX11_init_97 : decode cX11_init 97 = .ok (.aload_n 0, 1) := by decide +kernel
theorem dX11_init_98 : decode cX11_init 98 = .ok (.bipush 24, 2) := by decide +kernel
theorem dX11_init_100 : decode cX11_init 100 = .ok (.newarray .int, 2) := by decide +kernel
theorem dX11_init_102 : decode cX11_init 102 = .ok (.putfield 49, 3) := by decide +kernel
theorem dX11_init_105 : decode cX11_init 105 = .ok (.aload_n 0, 1) := by decide +kernel
theorem dX11_init_106 : decode cX11_init 106 = .ok (.bipush 24, 2) := by decide +kernel
theorem dX11_init_108 : decode cX11_init 108 = .ok (.newarray .int, 2) := by decide +kernel
theorem dX11_init_110 : decode cX11_init 110 = .ok (.putfield 52, 3) := by decide +kernel
theorem dX11_init_113 : decode cX11_init 113 = .ok (.aload_n 0, 1) := by decide +kernel
theorem dX11_init_114 : decode cX11_init 114 = .ok (.bipush 24, 2) := by decide +kernel
theorem dX11_init_116 : decode cX11_init 116 = .ok (.newarray .int, 2) := by decide +kernel
theorem dX11_init_118 : decode cX11_init 118 = .ok (.putfield 55, 3) := by decide +kernel
theorem dX11_init_121 : decode cX11_init 121 = .ok (.aload_n 0, 1) := by decide +kernel
theorem dX11_init_122 : decode cX11_init 122 = .ok (.bipush 6, 2) := by decide +kernel
theorem dX11_init_124 : decode cX11_init 124 = .ok (.newarray .int, 2) := by decide +kernel
theorem dX11_init_126 : decode cX11_init 126 = .ok (.putfield 58, 3) := by decide +kernel
theorem dX11_init_129 : decode cX11_init 129 = .ok (.aload_n 0, 1) := by decide +kernel
theorem dX11_init_130 : decode cX11_init 130 = .ok (.bipush 6, 2) := by decide +kernel
theorem dX11_init_132 : decode cX11_init 132 = .ok (.newarray .int, 2) := by decide +kernel
theorem dX11_init_134 : decode cX11_init 134 = .ok (.putfield 61, 3) := by decide +kernel
theorem dX11_init_137 : decode cX11_init 137 = .ok (.aload_n 0, 1) := by decide +kernel
theorem dX11_init_138 : decode cX11_init 138 = .ok (.sipush 200, 3) := by decide +kernel
theorem dX11_init_141 : decode cX11_init 141 = .ok (.newarray .int, 2) := by decide +kernel
theorem dX11_init_143 : decode cX11_init 143 = .ok (.putfield 64, 3) := by decide +kernel
theorem dX11_init_146 : decode cX11_init 146 = .ok (.aload_n 0, 1) := by decide +kernel
theorem dX11_init_147 : decode cX11_init 147 = .ok (.sipush 800, 3) := by decide +kernel
theorem dX11_init_150 : decode cX11_init 150 = .ok (.newarray .byte, 2) := by decide +kernel
theorem dX11_init_152 : decode cX11_init 152 = .ok (.putfield 67, 3) := by decide +kernel
theorem dX11_init_155 : decode cX11_init 155 = .ok (.aload_n 0, 1) := by decide +kernel
theorem dX11_init_156 : decode cX11_init 156 = .ok (.iconst (-1), 1) := by decide +kernel
theorem dX11_init_157 : decode cX11_init 157 = .ok (.putfield 71, 3) := by decide +kernel
theorem dX11_init_160 : decode cX11_init 160 = .ok (.aload_n 0, 1) := by decide +kernel
theorem dX11_init_161 : decode cX11_init 161 = .ok (.bipush 28, 2) := by decide +kernel
theorem dX11_init_163 : decode cX11_init 163 = .ok (.newarray .byte, 2) := by decide +kernel
theorem dX11_init_165 : decode cX11_init 165 = .ok (.dup, 1) := by decide +kernel
theorem dX11_init_166 : decode cX11_init 166 = .ok (.iconst 0, 1) := by decide +kernel
theorem dX11_init_167 : decode cX11_init 167 = .ok (.bipush 115, 2) := by decide +kernel
theorem dX11_init_169 : decode cX11_init 169 = .ok (.bastore, 1) := by decide +kernel
theorem dX11_init_170 : decode cX11_init 170 = .ok (.dup, 1) := by decide +kernel
theorem dX11_init_171 : decode cX11_init 171 = .ok (.iconst 1, 1) := by decide +kernel
theorem dX11_init_172 : decode cX11_init 172 = .ok (.bipush 105, 2) := by decide +kernel
theorem dX11_init_174 : decode cX11_init 174 = .ok (.bastore, 1) := by decide +kernel
theorem dX11_init_175 : decode cX11_init 175 = .ok (.dup, 1) := by decide +kernel
theorem dX11_init_176 : decode cX11_init 176 = .ok (.iconst 2, 1) := by decide +kernel
theorem dX11_init_177 : decode cX11_init 177 = .ok (.bipush 122, 2) := by decide +kernel
theorem dX11_init_179 : decode cX11_init 179 = .ok (.bastore, 1) := by decide +kernel
theorem dX11_init_180 : decode cX11_init 180 = .ok (.dup, 1) := by decide +kernel
theorem dX11_init_181 : decode cX11_init 181 = .ok (.iconst 3, 1) := by decide +kernel
theorem dX11_init_182 : decode cX11_init 182 = .ok (.bipush 101, 2) := by decide +kernel
theorem dX11_init_184 : decode cX11_init 184 = .ok (.bastore, 1) := by decide +kernel
theorem dX11_init_185 : decode cX11_init 185 = .ok (.dup, 1) := by decide +kernel
theorem dX11_init_186 : decode cX11_init 186 = .ok (.iconst 4, 1) := by decide +kernel
theorem dX11_init_187 : decode cX11_init 187 = .ok (.bipush 32, 2) := by decide +kernel
theorem dX11_init_189 : decode cX11_init 189 = .ok (.bastore, 1) := by decide +kernel
theorem dX11_init_190 : decode cX11_init 190 = .ok (.dup, 1) := by decide +kernel
theorem dX11_init_191 : decode cX11_init 191 = .ok (.iconst 5, 1) := by decide +kernel
theorem dX11_init_192 : decode cX11_init 192 = .ok (.bipush 108, 2) := by decide +kernel
theorem dX11_init_194 : decode cX11_init 194 = .ok (.bastore, 1) := by decide +kernel
theorem dX11_init_195 : decode cX11_init 195 = .ok (.dup, 1) := by decide +kernel
theorem dX11_init_196 : decode cX11_init 196 = .ok (.bipush 6, 2) := by decide +kernel
theorem dX11_init_198 : decode cX11_init 198 = .ok (.bipush 101, 2) := by decide +kernel
theorem dX11_init_200 : decode cX11_init 200 = .ok (.bastore, 1) := by decide +kernel
theorem dX11_init_201 : decode cX11_init 201 = .ok (.dup, 1) := by decide +kernel
theorem dX11_init_202 : decode cX11_init 202 = .ok (.bipush 7, 2) := by decide +kernel
theorem dX11_init_204 : decode cX11_init 204 = .ok (.bipush 116, 2) := by decide +kernel
theorem dX11_init_206 : decode cX11_init 206 = .ok (.bastore, 1) := by decide +kernel
theorem dX11_init_207 : decode cX11_init 207 = .ok (.dup, 1) := by decide +kernel
theorem dX11_init_208 : decode cX11_init 208 = .ok (.bipush 8, 2) := by decide +kernel
theorem dX11_init_210 : decode cX11_init 210 = .ok (.bipush 32, 2) := by decide +kernel
theorem dX11_init_212 : decode cX11_init 212 = .ok (.bastore, 1) := by decide +kernel
theorem dX11_init_213 : decode cX11_init 213 = .ok (.dup, 1) := by decide +kernel
theorem dX11_init_214 : decode cX11_init 214 = .ok (.bipush 9, 2) := by decide +kernel
theorem dX11_init_216 : decode cX11_init 216 = .ok (.bipush 102, 2) := by decide +kernel
theorem dX11_init_218 : decode cX11_init 218 = .ok (.bastore, 1) := by decide +kernel
theorem dX11_init_219 : decode cX11_init 219 = .ok (.dup, 1) := by decide +kernel
theorem dX11_init_220 : decode cX11_init 220 = .ok (.bipush 10, 2) := by decide +kernel
theorem dX11_init_222 : decode cX11_init 222 = .ok (.bipush 105, 2) := by decide +kernel
theorem dX11_init_224 : decode cX11_init 224 = .ok (.bastore, 1) := by decide +kernel
theorem dX11_init_225 : decode cX11_init 225 = .ok (.dup, 1) := by decide +kernel
theorem dX11_init_226 : decode cX11_init 226 = .ok (.bipush 11, 2) := by decide +kernel
theorem dX11_init_228 : decode cX11_init 228 = .ok (.bipush 114, 2) := by decide +kernel
theorem dX11_init_230 : decode cX11_init 230 = .ok (.bastore, 1) := by decide +kernel
theorem dX11_init_231 : decode cX11_init 231 = .ok (.dup, 1) := by decide +kernel
theorem dX11_init_232 : decode cX11_init 232 = .ok (.bipush 12, 2) := by decide +kernel
theorem dX11_init_234 : decode cX11_init 234 = .ok (.bipush 101, 2) := by decide +kernel
theorem dX11_init_236 : decode cX11_init 236 = .ok (.bastore, 1) := by decide +kernel
theorem dX11_init_237 : decode cX11_init 237 = .ok (.dup, 1) := by decide +kernel
theorem dX11_init_238 : decode cX11_init 238 = .ok (.bipush 13, 2) := by decide +kernel
theorem dX11_init_240 : decode cX11_init 240 = .ok (.bipush 32, 2) := by decide +kernel
theorem dX11_init_242 : decode cX11_init 242 = .ok (.bastore, 1) := by decide +kernel
theorem dX11_init_243 : decode cX11_init 243 = .ok (.dup, 1) := by decide +kernel
theorem dX11_init_244 : decode cX11_init 244 = .ok (.bipush 14, 2) := by decide +kernel
theorem dX11_init_246 : decode cX11_init 246 = .ok (.bipush 111, 2) := by decide +kernel
theorem dX11_init_248 : decode cX11_init 248 = .ok (.bastore, 1) := by decide +kernel
theorem dX11_init_249 : decode cX11_init 249 = .ok (.dup, 1) := by decide +kernel
theorem dX11_init_250 : decode cX11_init 250 = .ok (.bipush 15, 2) := by decide +kernel
theorem dX11_init_252 : decode cX11_init 252 = .ok (.bipush 110, 2) := by decide +kernel
theorem dX11_init_254 : decode cX11_init 254 = .ok (.bastore, 1) := by decide +kernel
theorem dX11_init_255 : decode cX11_init 255 = .ok (.dup, 1) := by decide +kernel
theorem dX11_init_256 : decode cX11_init 256 = .ok (.bipush 16, 2) := by decide +kernel
theorem dX11_init_258 : decode cX11_init 258 = .ok (.bipush 116, 2) := by decide +kernel
theorem dX11_init_260 : decode cX11_init 260 = .ok (.bastore, 1) := by decide +kernel
theorem dX11_init_261 : decode cX11_init 261 = .ok (.dup, 1) := by decide +kernel
theorem dX11_init_262 : decode cX11_init 262 = .ok (.bipush 17, 2) := by decide +kernel
theorem dX11_init_264 : decode cX11_init 264 = .ok (.bipush 111, 2) := by decide +kernel
theorem dX11_init_266 : decode cX11_init 266 = .ok (.bastore, 1) := by decide +kernel
theorem dX11_init_267 : decode cX11_init 267 = .ok (.dup, 1) := by decide +kernel
theorem dX11_init_268 : decode cX11_init 268 = .ok (.bipush 18, 2) := by decide +kernel
theorem dX11_init_270 : decode cX11_init 270 = .ok (.bipush 32, 2) := by decide +kernel
theorem dX11_init_272 : decode cX11_init 272 = .ok (.bastore, 1) := by decide +kernel
theorem dX11_init_273 : decode cX11_init 273 = .ok (.dup, 1) := by decide +kernel
theorem dX11_init_274 : decode cX11_init 274 = .ok (.bipush 19, 2) := by decide +kernel
theorem dX11_init_276 : decode cX11_init 276 = .ok (.bipush 101, 2) := by decide +kernel
theorem dX11_init_278 : decode cX11_init 278 = .ok (.bastore, 1) := by decide +kernel
theorem dX11_init_279 : decode cX11_init 279 = .ok (.dup, 1) := by decide +kernel
theorem dX11_init_280 : decode cX11_init 280 = .ok (.bipush 20, 2) := by decide +kernel
theorem dX11_init_282 : decode cX11_init 282 = .ok (.bipush 100, 2) := by decide +kernel
theorem dX11_init_284 : decode cX11_init 284 = .ok (.bastore, 1) := by decide +kernel
theorem dX11_init_285 : decode cX11_init 285 = .ok (.dup, 1) := by decide +kernel
theorem dX11_init_286 : decode cX11_init 286 = .ok (.bipush 21, 2) := by decide +kernel
theorem dX11_init_288 : decode cX11_init 288 = .ok (.bipush 103, 2) := by decide +kernel
theorem dX11_init_290 : decode cX11_init 290 = .ok (.bastore, 1) := by decide +kernel
theorem dX11_init_291 : decode cX11_init 291 = .ok (.dup, 1) := by decide +kernel
theorem dX11_init_292 : decode cX11_init 292 = .ok (.bipush 22, 2) := by decide +kernel
theorem dX11_init_294 : decode cX11_init 294 = .ok (.bipush 101, 2) := by decide +kernel
theorem dX11_init_296 : decode cX11_init 296 = .ok (.bastore, 1) := by decide +kernel
theorem dX11_init_297 : decode cX11_init 297 = .ok (.dup, 1) := by decide +kernel
theorem dX11_init_298 : decode cX11_init 298 = .ok (.bipush 23, 2) := by decide +kernel
theorem dX11_init_300 : decode cX11_init 300 = .ok (.bipush 32, 2) := by decide +kernel
theorem dX11_init_302 : decode cX11_init 302 = .ok (.bastore, 1) := by decide +kernel
theorem dX11_init_303 : decode cX11_init 303 = .ok (.dup, 1) := by decide +kernel
theorem dX11_init_304 : decode cX11_init 304 = .ok (.bipush 24, 2) := by decide +kernel
theorem dX11_init_306 : decode cX11_init 306 = .ok (.bipush 105, 2) := by decide +kernel
theorem dX11_init_308 : decode cX11_init 308 = .ok (.bastore, 1) := by decide +kernel
theorem dX11_init_309 : decode cX11_init 309 = .ok (.dup, 1) := by decide +kernel
theorem dX11_init_310 : decode cX11_init 310 = .ok (.bipush 25, 2) := by decide +kernel
theorem dX11_init_312 : decode cX11_init 312 = .ok (.bipush 32, 2) := by decide +kernel
theorem dX11_init_314 : decode cX11_init 314 = .ok (.bastore, 1) := by decide +kernel
theorem dX11_init_315 : decode cX11_init 315 = .ok (.dup, 1) := by decide +kernel
theorem dX11_init_316 : decode cX11_init 316 = .ok (.bipush 26, 2) := by decide +kernel
theorem dX11_init_318 : decode cX11_init 318 = .ok (.bipush 106, 2) := by decide +kernel
theorem dX11_init_320 : decode cX11_init 320 = .ok (.bastore, 1) := by decide +kernel
theorem dX11_init_321 : decode cX11_init 321 = .ok (.dup, 1) := by decide +kernel
theorem dX11_init_322 : decode cX11_init 322 = .ok (.bipush 27, 2) := by decide +kernel
theorem dX11_init_324 : decode cX11_init 324 = .ok (.bipush 32, 2) := by decide +kernel
theorem dX11_init_326 : decode cX11_init 326 = .ok (.bastore, 1) := by decide +kernel
theorem dX11_init_327 : decode cX11_init 327 = .ok (.putfield 75, 3) := by decide +kernel
theorem dX11_init_330 : decode cX11_init 330 = .ok (.aload_n 0, 1) := by decide +kernel
theorem dX11_init_331 : decode cX11_init 331 = .ok (.iconst 3, 1) := by decide +kernel
theorem dX11_init_332 : decode cX11_init 332 = .ok (.newarray .int, 2) := by decide +kernel
theorem dX11_init_334 : decode cX11_init 334 = .ok (.putfield 78, 3) := by decide +kernel
theorem dX11_init_337 : decode cX11_init 337 = .ok (.aload_n 0, 1) := by decide +kernel
theorem dX11_init_338 : decode cX11_init 338 = .ok (.iconst 3, 1) := by decide +kernel
theorem dX11_init_339 : decode cX11_init 339 = .ok (.newarray .int, 2) := by decide +kernel
theorem dX11_init_341 : decode cX11_init 341 = .ok (.putfield 81, 3) := by decide +kernel
theorem dX11_init_344 : decode cX11_init 344 = .ok (.aload_n 0, 1) := by decide +kernel
theorem dX11_init_345 : decode cX11_init 345 = .ok (.bipush 100, 2) := by decide +kernel
theorem dX11_init_347 : decode cX11_init 347 = .ok (.newarray .int, 2) := by decide +kernel
theorem dX11_init_349 : decode cX11_init 349 = .ok (.putfield 84, 3) := by decide +kernel
theorem dX11_init_352 : decode cX11_init 352 = .ok (.aload_n 0, 1) := by decide +kernel
theorem dX11_init_353 : decode cX11_init 353 = .ok (.bipush 100, 2) := by decide +kernel
theorem dX11_init_355 : decode cX11_init 355 = .ok (.newarray .int, 2) := by decide +kernel
theorem dX11_init_357 : decode cX11_init 357 = .ok (.putfield 87, 3) := by decide +kernel
theorem dX11_init_360 : decode cX11_init 360 = .ok (.aload_n 0, 1) := by decide +kernel
theorem dX11_init_361 : decode cX11_init 361 = .ok (.bipush 100, 2) := by decide +kernel
theorem dX11_init_363 : decode cX11_init 363 = .ok (.newarray .int, 2) := by decide +kernel
theorem dX11_init_365 : decode cX11_init 365 = .ok (.putfield 90, 3) := by decide +kernel
theorem dX11_init_368 : decode cX11_init 368 = .ok (.aload_n 0, 1) := by decide +kernel
theorem dX11_init_369 : decode cX11_init 369 = .ok (.bipush 100, 2) := by decide +kernel
theorem dX11_init_371 : decode cX11_init 371 = .ok (.newarray .boolean, 2) := by decide +kernel
theorem dX11_init_373 : decode cX11_init 373 = .ok (.putfield 93, 3) := by decide +kernel
theorem dX11_init_376 : decode cX11_init 376 = .ok (.aload_n 0, 1) := by decide +kernel
theorem dX11_init_377 : decode cX11_init 377 = .ok (.bipush 100, 2) := by decide +kernel
theorem dX11_init_379 : decode cX11_init 379 = .ok (.newarray .int, 2) := by decide +kernel
theorem dX11_init_381 : decode cX11_init 381 = .ok (.putfield 97, 3) := by decide +kernel
theorem dX11_init_384 : decode cX11_init 384 = .ok (.aload_n 0, 1) := by decide +kernel
theorem dX11_init_385 : decode cX11_init 385 = .ok (.sipush 300, 3) := by decide +kernel
theorem dX11_init_388 : decode cX11_init 388 = .ok (.newarray .int, 2) := by decide +kernel
theorem dX11_init_390 : decode cX11_init 390 = .ok (.putfield 100, 3) := by decide +kernel
theorem dX11_init_393 : decode cX11_init 393 = .ok (.aload_n 0, 1) := by decide +kernel
theorem dX11_init_394 : decode cX11_init 394 = .ok (.sipush 300, 3) := by decide +kernel
theorem dX11_init_397 : decode cX11_init 397 = .ok (.newarray .int, 2) := by decide +kernel
theorem dX11_init_399 : decode cX11_init 399 = .ok (.putfield 103, 3) := by decide +kernel
theorem dX11_init_402 : decode cX11_init 402 = .ok (.aload_n 0, 1) := by decide +kernel
theorem dX11_init_403 : decode cX11_init 403 = .ok (.sipush 300, 3) := by decide +kernel
theorem dX11_init_406 : decode cX11_init 406 = .ok (.newarray .int, 2) := by decide +kernel
theorem dX11_init_408 : decode cX11_init 408 = .ok (.putfield 106, 3) := by decide +kernel
theorem dX11_init_411 : decode cX11_init 411 = .ok (.aload_n 0, 1) := by decide +kernel
theorem dX11_init_412 : decode cX11_init 412 = .ok (.bipush 100, 2) := by decide +kernel
theorem dX11_init_414 : decode cX11_init 414 = .ok (.newarray .int, 2) := by decide +kernel
theorem dX11_init_416 : decode cX11_init 416 = .ok (.putfield 109, 3) := by decide +kernel
theorem dX11_init_419 : decode cX11_init 419 = .ok (.aload_n 0, 1) := by decide +kernel
theorem dX11_init_420 : decode cX11_init 420 = .ok (.bipush 100, 2) := by decide +kernel
theorem dX11_init_422 : decode cX11_init 422 = .ok (.newarray .int, 2) := by decide +kernel
theorem dX11_init_424 : decode cX11_init 424 = .ok (.putfield 112, 3) := by decide +kernel
theorem dX11_init_427 : decode cX11_init 427 = .ok (.aload_n 0, 1) := by decide +kernel
theorem dX11_init_428 : decode cX11_init 428 = .ok (.bipush 69, 2) := by decide +kernel
theorem dX11_init_430 : decode cX11_init 430 = .ok (.newarray .int, 2) := by decide +kernel
theorem dX11_init_432 : decode cX11_init 432 = .ok (.putfield 115, 3) := by decide +kernel
theorem dX11_init_435 : decode cX11_init 435 = .ok (.aload_n 0, 1) := by decide +kernel
theorem dX11_init_436 : decode cX11_init 436 = .ok (.bipush 100, 2) := by decide +kernel
theorem dX11_init_438 : decode cX11_init 438 = .ok (.newarray .int, 2) := by decide +kernel
theorem dX11_init_440 : decode cX11_init 440 = .ok (.putfield 118, 3) := by decide +kernel
theorem dX11_init_443 : decode cX11_init 443 = .ok (.aload_n 0, 1) := by decide +kernel
theorem dX11_init_444 : decode cX11_init 444 = .ok (.bipush 100, 2) := by decide +kernel
theorem dX11_init_446 : decode cX11_init 446 = .ok (.newarray .int, 2) := by decide +kernel
theorem dX11_init_448 : decode cX11_init 448 = .ok (.putfield 121, 3) := by decide +kernel
theorem dX11_init_451 : decode cX11_init 451 = .ok (.aload_n 0, 1) := by decide +kernel
theorem dX11_init_452 : decode cX11_init 452 = .ok (.bipush 100, 2) := by decide +kernel
theorem dX11_init_454 : decode cX11_init 454 = .ok (.newarray .boolean, 2) := by decide +kernel
theorem dX11_init_456 : decode cX11_init 456 = .ok (.putfield 124, 3) := by decide +kernel
theorem dX11_init_459 : decode cX11_init 459 = .ok (.aload_n 0, 1) := by decide +kernel
theorem dX11_init_460 : decode cX11_init 460 = .ok (.sipush 128, 3) := by decide +kernel
theorem dX11_init_463 : decode cX11_init 463 = .ok (.newarray .int, 2) := by decide +kernel
theorem dX11_init_465 : decode cX11_init 465 = .ok (.putfield 127, 3) := by decide +kernel
theorem dX11_init_468 : decode cX11_init 468 = .ok (.aload_n 0, 1) := by decide +kernel
theorem dX11_init_469 : decode cX11_init 469 = .ok (.bipush 12, 2) := by decide +kernel
theorem dX11_init_471 : decode cX11_init 471 = .ok (.newarray .int, 2) := by decide +kernel
theorem dX11_init_473 : decode cX11_init 473 = .ok (.putfield 130, 3) := by decide +kernel
theorem dX11_init_476 : decode cX11_init 476 = .ok (.aload_n 0, 1) := by decide +kernel
theorem dX11_init_477 : decode cX11_init 477 = .ok (.bipush 100, 2) := by decide +kernel
theorem dX11_init_479 : decode cX11_init 479 = .ok (.newarray .int, 2) := by decide +kernel
theorem dX11_init_481 : decode cX11_init 481 = .ok (.putfield 133, 3) := by decide +kernel
theorem dX11_init_484 : decode cX11_init 484 = .ok (.aload_n 0, 1) := by decide +kernel
theorem dX11_init_485 : decode cX11_init 485 = .ok (.sipush 10000, 3) := by decide +kernel
theorem dX11_init_488 : decode cX11_init 488 = .ok (.newarray .boolean, 2) := by decide +kernel
theorem dX11_init_490 : decode cX11_init 490 = .ok (.putfield 136, 3) := by decide +kernel
theorem dX11_init_493 : decode cX11_init 493 = .ok (.aload_n 0, 1) := by decide +kernel
theorem dX11_init_494 : decode cX11_init 494 = .ok (.sipush 1449, 3) := by decide +kernel
theorem dX11_init_497 : decode cX11_init 497 = .ok (.newarray .int, 2) := by decide +kernel
theorem dX11_init_499 : decode cX11_init 499 = .ok (.putfield 139, 3) := by decide +kernel
theorem dX11_init_502 : decode cX11_init 502 = .ok (.aload_n 0, 1) := by decide +kernel
theorem dX11_init_503 : decode cX11_init 503 = .ok (.sipush 138, 3) := by decide +kernel
theorem dX11_init_506 : decode cX11_init 506 = .ok (.newarray .int, 2) := by decide +kernel
theorem dX11_init_508 : decode cX11_init 508 = .ok (.putfield 142, 3) := by decide +kernel
theorem dX11_init_511 : decode cX11_init 511 = .ok (.aload_n 0, 1) := by decide +kernel
theorem dX11_init_512 : decode cX11_init 512 = .ok (.iconst 2, 1) := by decide +kernel
theorem dX11_init_513 : decode cX11_init 513 = .ok (.newarray .boolean, 2) := by decide +kernel
theorem dX11_init_515 : decode cX11_init 515 = .ok (.putfield 145, 3) := by decide +kernel
theorem dX11_init_518 : decode cX11_init 518 = .ok (.aload_n 0, 1) := by decide +kernel
theorem dX11_init_519 : decode cX11_init 519 = .ok (.iconst 0, 1) := by decide +kernel
theorem dX11_init_520 : decode cX11_init 520 = .ok (.invokevirtual 148, 3) := by decide +kernel
theorem dX11_init_523 : decode cX11_init 523 = .ok (.aload_n 0, 1) := by decide +kernel
theorem dX11_init_524 : decode cX11_init 524 = .ok (.invokevirtual 152, 3) := by decide +kernel
theorem dX11_init_527 : decode cX11_init 527 = .ok (.return_, 1) := by decide +kernel
theorem dX11_isIn_0 : decode cX11_isIn 0 = .ok (.iload_n 0, 1) := by decide +kernel
theorem dX11_isIn_1 : decode cX11_isIn 1 = .ok (.iload_n 1, 1) := by decide +kernel
theorem dX11_isIn_2 : decode cX11_isIn 2 = .ok (.if_icmp .lt 12, 3) := by decide +kernel
theorem dX11_isIn_5 : decode cX11_isIn 5 = .ok (.iload_n 0, 1) := by decide +kernel
theorem dX11_isIn_6 : decode cX11_isIn 6 = .ok (.iload_n 2, 1) := by decide +kernel
theorem dX11_isIn_7 : decode cX11_isIn 7 = .ok (.if_icmp .gt 7, 3) := by decide +kernel
theorem dX11_isIn_10 : decode cX11_isIn 10 = .ok (.iconst 1, 1) := by decide +kernel
theorem dX11_isIn_11 : decode cX11_isIn 11 = .ok (.goto 4, 3) := by decide +kernel
theorem dX11_isIn_14 : decode cX11_isIn 14 = .ok (.iconst 0, 1) := by decide +kernel
theorem dX11_isIn_15 : decode cX11_isIn 15 = .ok (.ireturn, 1) := by decide +kernel
theorem dX11_less_0 : decode cX11_less 0 = .ok (.iload_n 0, 1) := by decide +kernel
theorem dX11_less_1 : decode cX11_less 1 = .ok (.iload_n 1, 1) := by decide +kernel
theorem dX11_less_2 : decode cX11_less 2 = .ok (.if_icmp .ge 7, 3) := by decide +kernel
theorem dX11_less_5 : decode cX11_less 5 = .ok (.iload_n 0, 1) := by decide +kernel
theorem dX11_less_6 : decode cX11_less 6 = .ok (.goto 4, 3) := by decide +kernel
theorem dX11_less_9 : decode cX11_less 9 = .ok (.iload_n 1, 1) := by decide +kernel
theorem dX11_less_10 : decode cX11_less 10 = .ok (.ireturn, 1) := by decide +kernel
theorem dX11_more_0 : decode cX11_more 0 = .ok (.iload_n 0, 1) := by decide +kernel
theorem dX11_more_1 : decode cX11_more 1 = .ok (.iload_n 1, 1) := by decide +kernel
theorem dX11_more_2 : decode cX11_more 2 = .ok (.if_icmp .le 7, 3) := by decide +kernel
theorem dX11_more_5 : decode cX11_more 5 = .ok (.iload_n 0, 1) := by decide +kernel
theorem dX11_more_6 : decode cX11_more 6 = .ok (.goto 4, 3) := by decide +kernel
theorem dX11_more_9 : decode cX11_more 9 = .ok (.iload_n 1, 1) := by decide +kernel
theorem dX11_more_10 : decode cX11_more 10 = .ok (.ireturn, 1) := by decide +kernel
theorem dX11_size_0 : decode cX11_size 0 = .ok (.iload_n 0, 1) := by decide +kernel
theorem dX11_size_1 : decode cX11_size 1 = .ok (.ifCond .ge 8, 3) := by decide +kernel
theorem dX11_size_4 : decode cX11_size 4 = .ok (.iload_n 0, 1) := by decide +kernel
theorem dX11_size_5 : decode cX11_size 5 = .ok (.ineg, 1) := by decide +kernel
theorem dX11_size_6 : decode cX11_size 6 = .ok (.goto 4, 3) := by decide +kernel
theorem dX11_size_9 : decode cX11_size 9 = .ok (.iload_n 0, 1) := by decide +kernel
theorem dX11_size_10 : decode cX11_size 10 = .ok (.ireturn, 1) := by decide +kernel
theorem dX11_common_0 : decode cX11_common 0 = .ok (.iload_n 0, 1) := by decide +kernel
theorem dX11_common_1 : decode cX11_common 1 = .ok (.invokestatic 155, 3) := by decide +kernel
theorem dX11_common_4 : decode cX11_common 4 = .ok (.istore_n 2, 1) := by decide +kernel
theorem dX11_common_5 : decode cX11_common 5 = .ok (.iload_n 1, 1) := by decide +kernel
theorem dX11_common_6 : decode cX11_common 6 = .ok (.invokestatic 155, 3) := by decide +kernel
theorem dX11_common_9 : decode cX11_common 9 = .ok (.istore_n 3, 1) := by decide +kernel
theorem dX11_common_10 : decode cX11_common 10 = .ok (.iload_n 3, 1) := by decide +kernel
theorem dX11_common_11 : decode cX11_common 11 = .ok (.ifCond .eq 16, 3) := by decide +kernel
theorem dX11_common_14 : decode cX11_common 14 = .ok (.iload_n 2, 1) := by decide +kernel
theorem dX11_common_15 : decode cX11_common 15 = .ok (.iload_n 3, 1) := by decide +kernel
theorem dX11_common_16 : decode cX11_common 16 = .ok (.irem, 1) := by decide +kernel
theorem dX11_common_17 : decode cX11_common 17 = .ok (.istore 4, 2) := by decide +kernel
theorem dX11_common_19 : decode cX11_common 19 = .ok (.iload_n 3, 1) := by decide +kernel
theorem dX11_common_20 : decode cX11_common 20 = .ok (.istore_n 2, 1) := by decide +kernel
theorem dX11_common_21 : decode cX11_common 21 = .ok (.iload 4, 2) := by decide +kernel
theorem dX11_common_23 : decode cX11_common 23 = .ok (.istore_n 3, 1) := by decide +kernel
theorem dX11_common_24 : decode cX11_common 24 = .ok (.goto (-14), 3) := by decide +kernel
theorem dX11_common_27 : decode cX11_common 27 = .ok (.iload_n 2, 1) := by decide +kernel
theorem dX11_common_28 : decode cX11_common 28 = .ok (.ireturn, 1) := by decide +kernel
theorem dX11_clearBank_0 : decode cX11_clearBank 0 = .ok (.aload_n 0, 1) := by decide +kernel
theorem dX11_clearBank_1 : decode cX11_clearBank 1 = .ok (.getfield 7, 3) := by decide +kernel
theorem dX11_clearBank_4 : decode cX11_clearBank 4 = .ok (.iload_n 1, 1) := by decide +kernel
theorem dX11_clearBank_5 : decode cX11_clearBank 5 = .ok (.iconst 1, 1) := by decide +kernel
theorem dX11_clearBank_6 : decode cX11_clearBank 6 = .ok (.iastore, 1) := by decide +kernel
theorem dX11_clearBank_7 : decode cX11_clearBank 7 = .ok (.aload_n 0, 1) := by decide +kernel
theorem dX11_clearBank_8 : decode cX11_clearBank 8 = .ok (.getfield 13, 3) := by decide +kernel
theorem dX11_clearBank_11 : decode cX11_clearBank 11 = .ok (.iload_n 1, 1) := by decide +kernel
theorem dX11_clearBank_12 : decode cX11_clearBank 12 = .ok (.iconst 1, 1) := by decide +kernel
theorem dX11_clearBank_13 : decode cX11_clearBank 13 = .ok (.iastore, 1) := by decide +kernel
theorem dX11_clearBank_14 : decode cX11_clearBank 14 = .ok (.aload_n 0, 1) := by decide +kernel
theorem dX11_clearBank_15 : decode cX11_clearBank 15 = .ok (.getfield 16, 3) := by decide +kernel
theorem dX11_clearBank_18 : decode cX11_clearBank 18 = .ok (.iload_n 1, 1) := by decide +kernel
theorem dX11_clearBank_19 : decode cX11_clearBank 19 = .ok (.iconst 0, 1) := by decide +kernel
theorem dX11_clearBank_20 : decode cX11_clearBank 20 = .ok (.iastore, 1) := by decide +kernel
theorem dX11_clearBank_21 : decode cX11_clearBank 21 = .ok (.aload_n 0, 1) := by decide +kernel
theorem dX11_clearBank_22 : decode cX11_clearBank 22 = .ok (.getfield 19, 3) := by decide +kernel
theorem dX11_clearBank_25 : decode cX11_clearBank 25 = .ok (.iload_n 1, 1) := by decide +kernel
theorem dX11_clearBank_26 : decode cX11_clearBank 26 = .ok (.iconst 0, 1) := by decide +kernel
theorem dX11_clearBank_27 : decode cX11_clearBank 27 = .ok (.iastore, 1) := by decide +kernel
theorem dX11_clearBank_28 : decode cX11_clearBank 28 = .ok (.aload_n 0, 1) := by decide +kernel
theorem dX11_clearBank_29 : decode cX11_clearBank 29 = .ok (.getfield 22, 3) := by decide +kernel
theorem dX11_clearBank_32 : decode cX11_clearBank 32 = .ok (.iload_n 1, 1) := by decide +kernel
theorem dX11_clearBank_33 : decode cX11_clearBank 33 = .ok (.iconst 0, 1) := by decide +kernel
theorem dX11_clearBank_34 : decode cX11_clearBank 34 = .ok (.iastore, 1) := by decide +kernel
theorem dX11_clearBank_35 : decode cX11_clearBank 35 = .ok (.aload_n 0, 1) := by decide +kernel
theorem dX11_clearBank_36 : decode cX11_clearBank 36 = .ok (.getfield 25, 3) := by decide +kernel
theorem dX11_clearBank_39 : decode cX11_clearBank 39 = .ok (.iload_n 1, 1) := by decide +kernel
theorem dX11_clearBank_40 : decode cX11_clearBank 40 = .ok (.iconst 0, 1) := by decide +kernel
theorem dX11_clearBank_41 : decode cX11_clearBank 41 = .ok (.iastore, 1) := by decide +kernel
theorem dX11_clearBank_42 : decode cX11_clearBank 42 = .ok (.aload_n 0, 1) := by decide +kernel
theorem dX11_clearBank_43 : decode cX11_clearBank 43 = .ok (.getfield 28, 3) := by decide +kernel
theorem dX11_clearBank_46 : decode cX11_clearBank 46 = .ok (.iload_n 1, 1) := by decide +kernel
theorem dX11_clearBank_47 : decode cX11_clearBank 47 = .ok (.iconst 1, 1) := by decide +kernel
theorem dX11_clearBank_48 : decode cX11_clearBank 48 = .ok (.iastore, 1) := by decide +kernel
theorem dX11_clearBank_49 : decode cX11_clearBank 49 = .ok (.aload_n 0, 1) := by decide +kernel
theorem dX11_clearBank_50 : decode cX11_clearBank 50 = .ok (.getfield 31, 3) := by decide +kernel
theorem dX11_clearBank_53 : decode cX11_clearBank 53 = .ok (.iload_n 1, 1) := by decide +kernel
theorem dX11_clearBank_54 : decode cX11_clearBank 54 = .ok (.iconst 1, 1) := by decide +kernel
theorem dX11_clearBank_55 : decode cX11_clearBank 55 = .ok (.iastore, 1) := by decide +kernel
theorem dX11_clearBank_56 : decode cX11_clearBank 56 = .ok (.aload_n 0, 1) := by decide +kernel
theorem dX11_clearBank_57 : decode cX11_clearBank 57 = .ok (.getfield 34, 3) := by decide +kernel
theorem dX11_clearBank_60 : decode cX11_clearBank 60 = .ok (.iload_n 1, 1) := by decide +kernel
theorem dX11_clearBank_61 : decode cX11_clearBank 61 = .ok (.iconst 1, 1) := by decide +kernel
theorem dX11_clearBank_62 : decode cX11_clearBank 62 = .ok (.iastore, 1) := by decide +kernel
theorem dX11_clearBank_63 : decode cX11_clearBank 63 = .ok (.aload_n 0, 1) := by decide +kernel
theorem dX11_clearBank_64 : decode cX11_clearBank 64 = .ok (.getfield 37, 3) := by decide +kernel
theorem dX11_clearBank_67 : decode cX11_clearBank 67 = .ok (.iload_n 1, 1) := by decide +kernel
theorem dX11_clearBank_68 : decode cX11_clearBank 68 = .ok (.iconst 0, 1) := by decide +kernel
theorem dX11_clearBank_69 : decode cX11_clearBank 69 = .ok (.iastore, 1) := by decide +kernel
theorem dX11_clearBank_70 : decode cX11_clearBank 70 = .ok (.aload_n 0, 1) := by decide +kernel
theorem dX11_clearBank_71 : decode cX11_clearBank 71 = .ok (.getfield 40, 3) := by decide +kernel
theorem dX11_clearBank_74 : decode cX11_clearBank 74 = .ok (.iload_n 1, 1) := by decide +kernel
theorem dX11_clearBank_75 : decode cX11_clearBank 75 = .ok (.iconst 0, 1) := by decide +kernel
theorem dX11_clearBank_76 : decode cX11_clearBank 76 = .ok (.iastore, 1) := by decide +kernel
theorem dX11_clearBank_77 : decode cX11_clearBank 77 = .ok (.return_, 1) := by decide +kernel
theorem dX11_feed_0 : decode cX11_feed 0 = .ok (.aload_n 0, 1) := by decide +kernel
theorem dX11_feed_1 : decode cX11_feed 1 = .ok (.getfield 159, 3) := by decide +kernel
theorem dX11_feed_4 : decode cX11_feed 4 = .ok (.bipush 20, 2) := by decide +kernel
theorem dX11_feed_6 : decode cX11_feed 6 = .ok (.iadd, 1) := by decide +kernel
theorem dX11_feed_7 : decode cX11_feed 7 = .ok (.sipush 800, 3) := by decide +kernel
theorem dX11_feed_10 : decode cX11_feed 10 = .ok (.if_icmp .le 5, 3) := by decide +kernel
theorem dX11_feed_13 : decode cX11_feed 13 = .ok (.iconst (-1), 1) := by decide +kernel
theorem dX11_feed_14 : decode cX11_feed 14 = .ok (.ireturn, 1) := by decide +kernel
theorem dX11_feed_15 : decode cX11_feed 15 = .ok (.iconst 0, 1) := by decide +kernel
theorem dX11_feed_16 : decode cX11_feed 16 = .ok (.istore 6, 2) := by decide +kernel
theorem dX11_feed_18 : decode cX11_feed 18 = .ok (.iload 6, 2) := by decide +kernel
theorem dX11_feed_20 : decode cX11_feed 20 = .ok (.bipush 20, 2) := by decide +kernel
theorem dX11_feed_22 : decode cX11_feed 22 = .ok (.if_icmp .ge 83, 3) := by decide +kernel
theorem dX11_feed_25 : decode cX11_feed 25 = .ok (.iload 6, 2) := by decide +kernel
theorem dX11_feed_27 : decode cX11_feed 27 = .ok (.iconst 4, 1) := by decide +kernel
theorem dX11_feed_28 : decode cX11_feed 28 = .ok (.if_icmp .ge 7, 3) := by decide +kernel
theorem dX11_feed_31 : decode cX11_feed 31 = .ok (.iload_n 1, 1) := by decide +kernel
theorem dX11_feed_32 : decode cX11_feed 32 = .ok (.goto 39, 3) := by decide +kernel
theorem dX11_feed_35 : decode cX11_feed 35 = .ok (.iload 6, 2) := by decide +kernel
theorem dX11_feed_37 : decode cX11_feed 37 = .ok (.bipush 8, 2) := by decide +kernel
theorem dX11_feed_39 : decode cX11_feed 39 = .ok (.if_icmp .ge 7, 3) := by decide +kernel
theorem dX11_feed_42 : decode cX11_feed 42 = .ok (.iload_n 2, 1) := by decide +kernel
theorem dX11_feed_43 : decode cX11_feed 43 = .ok (.goto 28, 3) := by decide +kernel
theorem dX11_feed_46 : decode cX11_feed 46 = .ok (.iload 6, 2) := by decide +kernel
theorem dX11_feed_48 : decode cX11_feed 48 = .ok (.bipush 12, 2) := by decide +kernel
theorem dX11_feed_50 : decode cX11_feed 50 = .ok (.if_icmp .ge 7, 3) := by decide +kernel
theorem dX11_feed_53 : decode cX11_feed 53 = .ok (.iload_n 3, 1) := by decide +kernel
theorem dX11_feed_54 : decode cX11_feed 54 = .ok (.goto 17, 3) := by decide +kernel
theorem dX11_feed_57 : decode cX11_feed 57 = .ok (.iload 6, 2) := by decide +kernel
theorem dX11_feed_59 : decode cX11_feed 59 = .ok (.bipush 16, 2) := by decide +kernel
theorem dX11_feed_61 : decode cX11_feed 61 = .ok (.if_icmp .ge 8, 3) := by decide +kernel
theorem dX11_feed_64 : decode cX11_feed 64 = .ok (.iload 4, 2) := by decide +kernel
theorem dX11_feed_66 : decode cX11_feed 66 = .ok (.goto 5, 3) := by decide +kernel
theorem dX11_feed_69 : decode cX11_feed 69 = .ok (.iload 5, 2) := by decide +kernel
theorem dX11_feed_71 : decode cX11_feed 71 = .ok (.istore 7, 2) := by decide +kernel
theorem dX11_feed_73 : decode cX11_feed 73 = .ok (.aload_n 0, 1) := by decide +kernel
theorem dX11_feed_74 : decode cX11_feed 74 = .ok (.getfield 67, 3) := by decide +kernel
theorem dX11_feed_77 : decode cX11_feed 77 = .ok (.aload_n 0, 1) := by decide +kernel
theorem dX11_feed_78 : decode cX11_feed 78 = .ok (.getfield 159, 3) := by decide +kernel
theorem dX11_feed_81 : decode cX11_feed 81 = .ok (.iload 6, 2) := by decide +kernel
theorem dX11_feed_83 : decode cX11_feed 83 = .ok (.iadd, 1) := by decide +kernel
theorem dX11_feed_84 : decode cX11_feed 84 = .ok (.iload 7, 2) := by decide +kernel
theorem dX11_feed_86 : decode cX11_feed 86 = .ok (.bipush 24, 2) := by decide +kernel
theorem dX11_feed_88 : decode cX11_feed 88 = .ok (.bipush 8, 2) := by decide +kernel
theorem dX11_feed_90 : decode cX11_feed 90 = .ok (.iload 6, 2) := by decide +kernel
theorem dX11_feed_92 : decode cX11_feed 92 = .ok (.iconst 3, 1) := by decide +kernel
theorem dX11_feed_93 : decode cX11_feed 93 = .ok (.iand, 1) := by decide +kernel
theorem dX11_feed_94 : decode cX11_feed 94 = .ok (.imul, 1) := by decide +kernel
theorem dX11_feed_95 : decode cX11_feed 95 = .ok (.isub, 1) := by decide +kernel
theorem dX11_feed_96 : decode cX11_feed 96 = .ok (.ishr, 1) := by decide +kernel
theorem dX11_feed_97 : decode cX11_feed 97 = .ok (.i2b, 1) := by decide +kernel
theorem dX11_feed_98 : decode cX11_feed 98 = .ok (.bastore, 1) := by decide +kernel
theorem dX11_feed_99 : decode cX11_feed 99 = .ok (.iinc 6 1, 3) := by decide +kernel
theorem dX11_feed_102 : decode cX11_feed 102 = .ok (.goto (-84), 3) := by decide +kernel
theorem dX11_feed_105 : decode cX11_feed 105 = .ok (.aload_n 0, 1) := by decide +kernel
theorem dX11_feed_106 : decode cX11_feed 106 = .ok (.dup, 1) := by decide +kernel
theorem dX11_feed_107 : decode cX11_feed 107 = .ok (.getfield 159, 3) := by decide +kernel
theorem dX11_feed_110 : decode cX11_feed 110 = .ok (.bipush 20, 2) := by decide +kernel
theorem dX11_feed_112 : decode cX11_feed 112 = .ok (.iadd, 1) := by decide +kernel
theorem dX11_feed_113 : decode cX11_feed 113 = .ok (.putfield 159, 3) := by decide +kernel
theorem dX11_feed_116 : decode cX11_feed 116 = .ok (.aload_n 0, 1) := by decide +kernel
theorem dX11_feed_117 : decode cX11_feed 117 = .ok (.getfield 159, 3) := by decide +kernel
theorem dX11_feed_120 : decode cX11_feed 120 = .ok (.ireturn, 1) := by decide +kernel
theorem dX11_end_0 : decode cX11_end 0 = .ok (.iload_n 1, 1) := by decide +kernel
theorem dX11_end_1 : decode cX11_end 1 = .ok (.ifCond .lt 11, 3) := by decide +kernel
theorem dX11_end_4 : decode cX11_end 4 = .ok (.iload_n 1, 1) := by decide +kernel
theorem dX11_end_5 : decode cX11_end 5 = .ok (.aload_n 0, 1) := by decide +kernel
theorem dX11_end_6 : decode cX11_end 6 = .ok (.getfield 159, 3) := by decide +kernel
theorem dX11_end_9 : decode cX11_end 9 = .ok (.if_icmp .le 5, 3) := by decide +kernel
theorem dX11_end_12 : decode cX11_end 12 = .ok (.iconst (-1), 1) := by decide +kernel
theorem dX11_end_13 : decode cX11_end 13 = .ok (.ireturn, 1) := by decide +kernel
theorem dX11_end_14 : decode cX11_end 14 = .ok (.aload_n 0, 1) := by decide +kernel
theorem dX11_end_15 : decode cX11_end 15 = .ok (.iload_n 1, 1) := by decide +kernel
theorem dX11_end_16 : decode cX11_end 16 = .ok (.putfield 159, 3) := by decide +kernel
theorem dX11_end_19 : decode cX11_end 19 = .ok (.iload_n 1, 1) := by decide +kernel
theorem dX11_end_20 : decode cX11_end 20 = .ok (.ireturn, 1) := by decide +kernel
theorem dX11_signAt_0 : decode cX11_signAt 0 = .ok (.iload_n 1, 1) := by decide +kernel
theorem dX11_signAt_1 : decode cX11_signAt 1 = .ok (.aload_n 0, 1) := by decide +kernel
theorem dX11_signAt_2 : decode cX11_signAt 2 = .ok (.getfield 162, 3) := by decide +kernel
theorem dX11_signAt_5 : decode cX11_signAt 5 = .ok (.if_icmp .ge 12, 3) := by decide +kernel
theorem dX11_signAt_8 : decode cX11_signAt 8 = .ok (.aload_n 0, 1) := by decide +kernel
theorem dX11_signAt_9 : decode cX11_signAt 9 = .ok (.getfield 67, 3) := by decide +kernel
theorem dX11_signAt_12 : decode cX11_signAt 12 = .ok (.iload_n 1, 1) := by decide +kernel
theorem dX11_signAt_13 : decode cX11_signAt 13 = .ok (.baload, 1) := by decide +kernel
theorem dX11_signAt_14 : decode cX11_signAt 14 = .ok (.goto 4, 3) := by decide +kernel
theorem dX11_signAt_17 : decode cX11_signAt 17 = .ok (.iconst 0, 1) := by decide +kernel
theorem dX11_signAt_18 : decode cX11_signAt 18 = .ok (.ireturn, 1) := by decide +kernel
theorem dX11_isLetter_0 : decode cX11_isLetter 0 = .ok (.iload_n 0, 1) := by decide +kernel
theorem dX11_isLetter_1 : decode cX11_isLetter 1 = .ok (.bipush 97, 2) := by decide +kernel
theorem dX11_isLetter_3 : decode cX11_isLetter 3 = .ok (.if_icmp .lt 13, 3) := by decide +kernel
theorem dX11_isLetter_6 : decode cX11_isLetter 6 = .ok (.iload_n 0, 1) := by decide +kernel
theorem dX11_isLetter_7 : decode cX11_isLetter 7 = .ok (.bipush 122, 2) := by decide +kernel
theorem dX11_isLetter_9 : decode cX11_isLetter 9 = .ok (.if_icmp .gt 7, 3) := by decide +kernel
theorem dX11_isLetter_12 : decode cX11_isLetter 12 = .ok (.iconst 1, 1) := by decide +kernel
theorem dX11_isLetter_13 : decode cX11_isLetter 13 = .ok (.goto 4, 3) := by decide +kernel
theorem dX11_isLetter_16 : decode cX11_isLetter 16 = .ok (.iconst 0, 1) := by decide +kernel
theorem dX11_isLetter_17 : decode cX11_isLetter 17 = .ok (.ireturn, 1) := by decide +kernel
theorem dX11_isDigit_0 : decode cX11_isDigit 0 = .ok (.iload_n 0, 1) := by decide +kernel
theorem dX11_isDigit_1 : decode cX11_isDigit 1 = .ok (.bipush 48, 2) := by decide +kernel
theorem dX11_isDigit_3 : decode cX11_isDigit 3 = .ok (.if_icmp .lt 13, 3) := by decide +kernel
theorem dX11_isDigit_6 : decode cX11_isDigit 6 = .ok (.iload_n 0, 1) := by decide +kernel
theorem dX11_isDigit_7 : decode cX11_isDigit 7 = .ok (.bipush 57, 2) := by decide +kernel
theorem dX11_isDigit_9 : decode cX11_isDigit 9 = .ok (.if_icmp .gt 7, 3) := by decide +kernel
theorem dX11_isDigit_12 : decode cX11_isDigit 12 = .ok (.iconst 1, 1) := by decide +kernel
theorem dX11_isDigit_13 : decode cX11_isDigit 13 = .ok (.goto 4, 3) := by decide +kernel
theorem dX11_isDigit_16 : decode cX11_isDigit 16 = .ok (.iconst 0, 1) := by decide +kernel
theorem dX11_isDigit_17 : decode cX11_isDigit 17 = .ok (.ireturn, 1) := by decide +kernel
theorem dX11_isSign_0 : decode cX11_isSign 0 = .ok (.iload_n 0, 1) := by decide +kernel
theorem dX11_isSign_1 : decode cX11_isSign 1 = .ok (.bipush 59, 2) := by decide +kernel
theorem dX11_isSign_3 : decode cX11_isSign 3 = .ok (.if_icmp .eq 57, 3) := by decide +kernel
theorem dX11_isSign_6 : decode cX11_isSign 6 = .ok (.iload_n 0, 1) := by decide +kernel
theorem dX11_isSign_7 : decode cX11_isSign 7 = .ok (.bipush 61, 2) := by decide +kernel
theorem dX11_isSign_9 : decode cX11_isSign 9 = .ok (.if_icmp .eq 51, 3) := by decide +kernel
theorem dX11_isSign_12 : decode cX11_isSign 12 = .ok (.iload_n 0, 1) := by decide +kernel
theorem dX11_isSign_13 : decode cX11_isSign 13 = .ok (.bipush 40, 2) := by decide +kernel
theorem dX11_isSign_15 : decode cX11_isSign 15 = .ok (.if_icmp .eq 45, 3) := by decide +kernel
theorem dX11_isSign_18 : decode cX11_isSign 18 = .ok (.iload_n 0, 1) := by decide +kernel
theorem dX11_isSign_19 : decode cX11_isSign 19 = .ok (.bipush 41, 2) := by decide +kernel
theorem dX11_isSign_21 : decode cX11_isSign 21 = .ok (.if_icmp .eq 39, 3) := by decide +kernel
theorem dX11_isSign_24 : decode cX11_isSign 24 = .ok (.iload_n 0, 1) := by decide +kernel
theorem dX11_isSign_25 : decode cX11_isSign 25 = .ok (.bipush 44, 2) := by decide +kernel
theorem dX11_isSign_27 : decode cX11_isSign 27 = .ok (.if_icmp .eq 33, 3) := by decide +kernel
theorem dX11_isSign_30 : decode cX11_isSign 30 = .ok (.iload_n 0, 1) := by decide +kernel
theorem dX11_isSign_31 : decode cX11_isSign 31 = .ok (.bipush 43, 2) := by decide +kernel
theorem dX11_isSign_33 : decode cX11_isSign 33 = .ok (.if_icmp .eq 27, 3) := by decide +kernel
theorem dX11_isSign_36 : decode cX11_isSign 36 = .ok (.iload_n 0, 1) := by decide +kernel
theorem dX11_isSign_37 : decode cX11_isSign 37 = .ok (.bipush 45, 2) := by decide +kernel
theorem dX11_isSign_39 : decode cX11_isSign 39 = .ok (.if_icmp .eq 21, 3) := by decide +kernel
theorem dX11_isSign_42 : decode cX11_isSign 42 = .ok (.iload_n 0, 1) := by decide +kernel
theorem dX11_isSign_43 : decode cX11_isSign 43 = .ok (.bipush 42, 2) := by decide +kernel
theorem dX11_isSign_45 : decode cX11_isSign 45 = .ok (.if_icmp .eq 15, 3) := by decide +kernel
theorem dX11_isSign_48 : decode cX11_isSign 48 = .ok (.iload_n 0, 1) := by decide +kernel
theorem dX11_isSign_49 : decode cX11_isSign 49 = .ok (.bipush 60, 2) := by decide +kernel
theorem dX11_isSign_51 : decode cX11_isSign 51 = .ok (.if_icmp .eq 9, 3) := by decide +kernel
theorem dX11_isSign_54 : decode cX11_isSign 54 = .ok (.iload_n 0, 1) := by decide +kernel
theorem dX11_isSign_55 : decode cX11_isSign 55 = .ok (.bipush 62, 2) := by decide +kernel
theorem dX11_isSign_57 : decode cX11_isSign 57 = .ok (.if_icmp .ne 7, 3) := by decide +kernel
theorem dX11_isSign_60 : decode cX11_isSign 60 = .ok (.iconst 1, 1) := by decide +kernel
theorem dX11_isSign_61 : decode cX11_isSign 61 = .ok (.goto 4, 3) := by decide +kernel
theorem dX11_isSign_64 : decode cX11_isSign 64 = .ok (.iconst 0, 1) := by decide +kernel
theorem dX11_isSign_65 : decode cX11_isSign 65 = .ok (.ireturn, 1) := by decide +kernel
theorem dX11_isBlank_0 : decode cX11_isBlank 0 = .ok (.iload_n 1, 1) := by decide +kernel
theorem dX11_isBlank_1 : decode cX11_isBlank 1 = .ok (.aload_n 0, 1) := by decide +kernel
theorem dX11_isBlank_2 : decode cX11_isBlank 2 = .ok (.getfield 162, 3) := by decide +kernel
theorem dX11_isBlank_5 : decode cX11_isBlank 5 = .ok (.if_icmp .ge 29, 3) := by decide +kernel
theorem dX11_isBlank_8 : decode cX11_isBlank 8 = .ok (.aload_n 0, 1) := by decide +kernel
theorem dX11_isBlank_9 : decode cX11_isBlank 9 = .ok (.getfield 67, 3) := by decide +kernel
theorem dX11_isBlank_12 : decode cX11_isBlank 12 = .ok (.iload_n 1, 1) := by decide +kernel
theorem dX11_isBlank_13 : decode cX11_isBlank 13 = .ok (.baload, 1) := by decide +kernel
theorem dX11_isBlank_14 : decode cX11_isBlank 14 = .ok (.bipush 32, 2) := by decide +kernel
theorem dX11_isBlank_16 : decode cX11_isBlank 16 = .ok (.if_icmp .eq 14, 3) := by decide +kernel
theorem dX11_isBlank_19 : decode cX11_isBlank 19 = .ok (.aload_n 0, 1) := by decide +kernel
theorem dX11_isBlank_20 : decode cX11_isBlank 20 = .ok (.getfield 67, 3) := by decide +kernel
theorem dX11_isBlank_23 : decode cX11_isBlank 23 = .ok (.iload_n 1, 1) := by decide +kernel
theorem dX11_isBlank_24 : decode cX11_isBlank 24 = .ok (.baload, 1) := by decide +kernel
theorem dX11_isBlank_25 : decode cX11_isBlank 25 = .ok (.bipush 10, 2) := by decide +kernel
theorem dX11_isBlank_27 : decode cX11_isBlank 27 = .ok (.if_icmp .ne 7, 3) := by decide +kernel
theorem dX11_isBlank_30 : decode cX11_isBlank 30 = .ok (.iconst 1, 1) := by decide +kernel
theorem dX11_isBlank_31 : decode cX11_isBlank 31 = .ok (.goto 4, 3) := by decide +kernel
theorem dX11_isBlank_34 : decode cX11_isBlank 34 = .ok (.iconst 0, 1) := by decide +kernel
theorem dX11_isBlank_35 : decode cX11_isBlank 35 = .ok (.ireturn, 1) := by decide +kernel
theorem dX11_scan_0 : decode cX11_scan 0 = .ok (.aload_n 0, 1) := by decide +kernel
theorem dX11_scan_1 : decode cX11_scan 1 = .ok (.aload_n 0, 1) := by decide +kernel
theorem dX11_scan_2 : decode cX11_scan 2 = .ok (.getfield 165, 3) := by decide +kernel
theorem dX11_scan_5 : decode cX11_scan 5 = .ok (.putfield 168, 3) := by decide +kernel
theorem dX11_scan_8 : decode cX11_scan 8 = .ok (.aload_n 0, 1) := by decide +kernel
theorem dX11_scan_9 : decode cX11_scan 9 = .ok (.aload_n 0, 1) := by decide +kernel
theorem dX11_scan_10 : decode cX11_scan 10 = .ok (.getfield 168, 3) := by decide +kernel
theorem dX11_scan_13 : decode cX11_scan 13 = .ok (.invokevirtual 171, 3) := by decide +kernel
theorem dX11_scan_16 : decode cX11_scan 16 = .ok (.ifCond .eq 16, 3) := by decide +kernel
theorem dX11_scan_19 : decode cX11_scan 19 = .ok (.aload_n 0, 1) := by decide +kernel
theorem dX11_scan_20 : decode cX11_scan 20 = .ok (.dup, 1) := by decide +kernel
theorem dX11_scan_21 : decode cX11_scan 21 = .ok (.getfield 168, 3) := by decide +kernel
theorem dX11_scan_24 : decode cX11_scan 24 = .ok (.iconst 1, 1) := by decide +kernel
theorem dX11_scan_25 : decode cX11_scan 25 = .ok (.iadd, 1) := by decide +kernel
theorem dX11_scan_26 : decode cX11_scan 26 = .ok (.putfield 168, 3) := by decide +kernel
theorem dX11_scan_29 : decode cX11_scan 29 = .ok (.goto (-21), 3) := by decide +kernel
theorem dX11_scan_32 : decode cX11_scan 32 = .ok (.aload_n 0, 1) := by decide +kernel
theorem dX11_scan_33 : decode cX11_scan 33 = .ok (.aload_n 0, 1) := by decide +kernel
theorem dX11_scan_34 : decode cX11_scan 34 = .ok (.getfield 168, 3) := by decide +kernel
theorem dX11_scan_37 : decode cX11_scan 37 = .ok (.iconst 1, 1) := by decide +kernel
theorem dX11_scan_38 : decode cX11_scan 38 = .ok (.iadd, 1) := by decide +kernel
theorem dX11_scan_39 : decode cX11_scan 39 = .ok (.putfield 165, 3) := by decide +kernel
theorem dX11_scan_42 : decode cX11_scan 42 = .ok (.aload_n 0, 1) := by decide +kernel
theorem dX11_scan_43 : decode cX11_scan 43 = .ok (.aload_n 0, 1) := by decide +kernel
theorem dX11_scan_44 : decode cX11_scan 44 = .ok (.getfield 168, 3) := by decide +kernel
theorem dX11_scan_47 : decode cX11_scan 47 = .ok (.invokevirtual 175, 3) := by decide +kernel
theorem dX11_scan_50 : decode cX11_scan 50 = .ok (.istore_n 1, 1) := by decide +kernel
theorem dX11_scan_51 : decode cX11_scan 51 = .ok (.aload_n 0, 1) := by decide +kernel
theorem dX11_scan_52 : decode cX11_scan 52 = .ok (.getfield 168, 3) := by decide +kernel
theorem dX11_scan_55 : decode cX11_scan 55 = .ok (.aload_n 0, 1) := by decide +kernel
theorem dX11_scan_56 : decode cX11_scan 56 = .ok (.getfield 162, 3) := by decide +kernel
theorem dX11_scan_59 : decode cX11_scan 59 = .ok (.if_icmp .lt 19, 3) := by decide +kernel
theorem dX11_scan_62 : decode cX11_scan 62 = .ok (.aload_n 0, 1) := by decide +kernel
theorem dX11_scan_63 : decode cX11_scan 63 = .ok (.aload_n 0, 1) := by decide +kernel
theorem dX11_scan_64 : decode cX11_scan 64 = .ok (.getfield 168, 3) := by decide +kernel
theorem dX11_scan_67 : decode cX11_scan 67 = .ok (.putfield 165, 3) := by decide +kernel
theorem dX11_scan_70 : decode cX11_scan 70 = .ok (.aload_n 0, 1) := by decide +kernel
theorem dX11_scan_71 : decode cX11_scan 71 = .ok (.iconst 0, 1) := by decide +kernel
theorem dX11_scan_72 : decode cX11_scan 72 = .ok (.putfield 178, 3) := by decide +kernel
theorem dX11_scan_75 : decode cX11_scan 75 = .ok (.goto 47, 3) := by decide +kernel
theorem dX11_scan_78 : decode cX11_scan 78 = .ok (.iload_n 1, 1) := by decide +kernel
theorem dX11_scan_79 : decode cX11_scan 79 = .ok (.invokestatic 181, 3) := by decide +kernel
theorem dX11_scan_82 : decode cX11_scan 82 = .ok (.ifCond .eq 10, 3) := by decide +kernel
theorem dX11_scan_85 : decode cX11_scan 85 = .ok (.aload_n 0, 1) := by decide +kernel
theorem dX11_scan_86 : decode cX11_scan 86 = .ok (.invokevirtual 184, 3) := by decide +kernel
theorem dX11_scan_89 : decode cX11_scan 89 = .ok (.goto 33, 3) := by decide +kernel
theorem dX11_scan_92 : decode cX11_scan 92 = .ok (.iload_n 1, 1) := by decide +kernel
theorem dX11_scan_93 : decode cX11_scan 93 = .ok (.invokestatic 187, 3) := by decide +kernel
theorem dX11_scan_96 : decode cX11_scan 96 = .ok (.ifCond .eq 10, 3) := by decide +kernel
theorem dX11_scan_99 : decode cX11_scan 99 = .ok (.aload_n 0, 1) := by decide +kernel
theorem dX11_scan_100 : decode cX11_scan 100 = .ok (.invokevirtual 190, 3) := by decide +kernel
theorem dX11_scan_103 : decode cX11_scan 103 = .ok (.goto 19, 3) := by decide +kernel
theorem dX11_scan_106 : decode cX11_scan 106 = .ok (.aload_n 0, 1) := by decide +kernel
theorem dX11_scan_107 : decode cX11_scan 107 = .ok (.iload_n 1, 1) := by decide +kernel
theorem dX11_scan_108 : decode cX11_scan 108 = .ok (.invokestatic 193, 3) := by decide +kernel
theorem dX11_scan_111 : decode cX11_scan 111 = .ok (.ifCond .eq 7, 3) := by decide +kernel
theorem dX11_scan_114 : decode cX11_scan 114 = .ok (.iconst 4, 1) := by decide +kernel
theorem dX11_scan_115 : decode cX11_scan 115 = .ok (.goto 4, 3) := by decide +kernel
theorem dX11_scan_118 : decode cX11_scan 118 = .ok (.iconst 1, 1) := by decide +kernel
theorem dX11_scan_119 : decode cX11_scan 119 = .ok (.putfield 178, 3) := by decide +kernel
theorem dX11_scan_122 : decode cX11_scan 122 = .ok (.return_, 1) := by decide +kernel
theorem dX11_scanWord_0 : decode cX11_scanWord 0 = .ok (.aload_n 0, 1) := by decide +kernel
theorem dX11_scanWord_1 : decode cX11_scanWord 1 = .ok (.iconst 2, 1) := by decide +kernel
theorem dX11_scanWord_2 : decode cX11_scanWord 2 = .ok (.putfield 178, 3) := by decide +kernel
theorem dX11_scanWord_5 : decode cX11_scanWord 5 = .ok (.aload_n 0, 1) := by decide +kernel
theorem dX11_scanWord_6 : decode cX11_scanWord 6 = .ok (.aload_n 0, 1) := by decide +kernel
theorem dX11_scanWord_7 : decode cX11_scanWord 7 = .ok (.getfield 168, 3) := by decide +kernel
theorem dX11_scanWord_10 : decode cX11_scanWord 10 = .ok (.putfield 165, 3) := by decide +kernel
theorem dX11_scanWord_13 : decode cX11_scanWord 13 = .ok (.aload_n 0, 1) := by decide +kernel
theorem dX11_scanWord_14 : decode cX11_scanWord 14 = .ok (.aload_n 0, 1) := by decide +kernel
theorem dX11_scanWord_15 : decode cX11_scanWord 15 = .ok (.getfield 165, 3) := by decide +kernel
theorem dX11_scanWord_18 : decode cX11_scanWord 18 = .ok (.invokevirtual 175, 3) := by decide +kernel
theorem dX11_scanWord_21 : decode cX11_scanWord 21 = .ok (.invokestatic 181, 3) := by decide +kernel
theorem dX11_scanWord_24 : decode cX11_scanWord 24 = .ok (.ifCond .eq 16, 3) := by decide +kernel
theorem dX11_scanWord_27 : decode cX11_scanWord 27 = .ok (.aload_n 0, 1) := by decide +kernel
theorem dX11_scanWord_28 : decode cX11_scanWord 28 = .ok (.dup, 1) := by decide +kernel
theorem dX11_scanWord_29 : decode cX11_scanWord 29 = .ok (.getfield 165, 3) := by decide +kernel
theorem dX11_scanWord_32 : decode cX11_scanWord 32 = .ok (.iconst 1, 1) := by decide +kernel
theorem dX11_scanWord_33 : decode cX11_scanWord 33 = .ok (.iadd, 1) := by decide +kernel
theorem dX11_scanWord_34 : decode cX11_scanWord 34 = .ok (.putfield 165, 3) := by decide +kernel
theorem dX11_scanWord_37 : decode cX11_scanWord 37 = .ok (.goto (-24), 3) := by decide +kernel
theorem dX11_scanWord_40 : decode cX11_scanWord 40 = .ok (.aload_n 0, 1) := by decide +kernel
theorem dX11_scanWord_41 : decode cX11_scanWord 41 = .ok (.iconst (-1), 1) := by decide +kernel
theorem dX11_scanWord_42 : decode cX11_scanWord 42 = .ok (.putfield 196, 3) := by decide +kernel
theorem dX11_scanWord_45 : decode cX11_scanWord 45 = .ok (.iconst 0, 1) := by decide +kernel
theorem dX11_scanWord_46 : decode cX11_scanWord 46 = .ok (.istore_n 1, 1) := by decide +kernel
theorem dX11_scanWord_47 : decode cX11_scanWord 47 = .ok (.iconst 0, 1) := by decide +kernel
theorem dX11_scanWord_48 : decode cX11_scanWord 48 = .ok (.istore_n 2, 1) := by decide +kernel
theorem dX11_scanWord_49 : decode cX11_scanWord 49 = .ok (.iload_n 2, 1) := by decide +kernel
theorem dX11_scanWord_50 : decode cX11_scanWord 50 = .ok (.bipush 7, 2) := by decide +kernel
theorem dX11_scanWord_52 : decode cX11_scanWord 52 = .ok (.if_icmp .ge 46, 3) := by decide +kernel
theorem dX11_scanWord_55 : decode cX11_scanWord 55 = .ok (.iload_n 1, 1) := by decide +kernel
theorem dX11_scanWord_56 : decode cX11_scanWord 56 = .ok (.istore_n 3, 1) := by decide +kernel
theorem dX11_scanWord_57 : decode cX11_scanWord 57 = .ok (.aload_n 0, 1) := by decide +kernel
theorem dX11_scanWord_58 : decode cX11_scanWord 58 = .ok (.getfield 75, 3) := by decide +kernel
theorem dX11_scanWord_61 : decode cX11_scanWord 61 = .ok (.iload_n 3, 1) := by decide +kernel
theorem dX11_scanWord_62 : decode cX11_scanWord 62 = .ok (.baload, 1) := by decide +kernel
theorem dX11_scanWord_63 : decode cX11_scanWord 63 = .ok (.bipush 32, 2) := by decide +kernel
theorem dX11_scanWord_65 : decode cX11_scanWord 65 = .ok (.if_icmp .eq 9, 3) := by decide +kernel
theorem dX11_scanWord_68 : decode cX11_scanWord 68 = .ok (.iinc 3 1, 3) := by decide +kernel
theorem dX11_scanWord_71 : decode cX11_scanWord 71 = .ok (.goto (-14), 3) := by decide +kernel
theorem dX11_scanWord_74 : decode cX11_scanWord 74 = .ok (.aload_n 0, 1) := by decide +kernel
theorem dX11_scanWord_75 : decode cX11_scanWord 75 = .ok (.iload_n 1, 1) := by decide +kernel
theorem dX11_scanWord_76 : decode cX11_scanWord 76 = .ok (.iload_n 3, 1) := by decide +kernel
theorem dX11_scanWord_77 : decode cX11_scanWord 77 = .ok (.invokevirtual 199, 3) := by decide +kernel
theorem dX11_scanWord_80 : decode cX11_scanWord 80 = .ok (.ifCond .eq 8, 3) := by decide +kernel
theorem dX11_scanWord_83 : decode cX11_scanWord 83 = .ok (.aload_n 0, 1) := by decide +kernel
theorem dX11_scanWord_84 : decode cX11_scanWord 84 = .ok (.iload_n 2, 1) := by decide +kernel
theorem dX11_scanWord_85 : decode cX11_scanWord 85 = .ok (.putfield 196, 3) := by decide +kernel
theorem dX11_scanWord_88 : decode cX11_scanWord 88 = .ok (.iload_n 3, 1) := by decide +kernel
theorem dX11_scanWord_89 : decode cX11_scanWord 89 = .ok (.iconst 1, 1) := by decide +kernel
theorem dX11_scanWord_90 : decode cX11_scanWord 90 = .ok (.iadd, 1) := by decide +kernel
theorem dX11_scanWord_91 : decode cX11_scanWord 91 = .ok (.istore_n 1, 1) := by decide +kernel
theorem dX11_scanWord_92 : decode cX11_scanWord 92 = .ok (.iinc 2 1, 3) := by decide +kernel
theorem dX11_scanWord_95 : decode cX11_scanWord 95 = .ok (.goto (-46), 3) := by decide +kernel
theorem dX11_scanWord_98 : decode cX11_scanWord 98 = .ok (.return_, 1) := by decide +kernel
theorem dX11_isSame_0 : decode cX11_isSame 0 = .ok (.iload_n 2, 1) := by decide +kernel
theorem dX11_isSame_1 : decode cX11_isSame 1 = .ok (.iload_n 1, 1) := by decide +kernel
theorem dX11_isSame_2 : decode cX11_isSame 2 = .ok (.isub, 1) := by decide +kernel
theorem dX11_isSame_3 : decode cX11_isSame 3 = .ok (.aload_n 0, 1) := by decide +kernel
theorem dX11_isSame_4 : decode cX11_isSame 4 = .ok (.getfield 165, 3) := by decide +kernel
theorem dX11_isSame_7 : decode cX11_isSame 7 = .ok (.aload_n 0, 1) := by decide +kernel
theorem dX11_isSame_8 : decode cX11_isSame 8 = .ok (.getfield 168, 3) := by decide +kernel
theorem dX11_isSame_11 : decode cX11_isSame 11 = .ok (.isub, 1) := by decide +kernel
theorem dX11_isSame_12 : decode cX11_isSame 12 = .ok (.if_icmp .eq 5, 3) := by decide +kernel
theorem dX11_isSame_15 : decode cX11_isSame 15 = .ok (.iconst 0, 1) := by decide +kernel
theorem dX11_isSame_16 : decode cX11_isSame 16 = .ok (.ireturn, 1) := by decide +kernel
theorem dX11_isSame_17 : decode cX11_isSame 17 = .ok (.iconst 0, 1) := by decide +kernel
theorem dX11_isSame_18 : decode cX11_isSame 18 = .ok (.istore_n 3, 1) := by decide +kernel
theorem dX11_isSame_19 : decode cX11_isSame 19 = .ok (.iload_n 3, 1) := by decide +kernel
theorem dX11_isSame_20 : decode cX11_isSame 20 = .ok (.iload_n 2, 1) := by decide +kernel
theorem dX11_isSame_21 : decode cX11_isSame 21 = .ok (.iload_n 1, 1) := by decide +kernel
theorem dX11_isSame_22 : decode cX11_isSame 22 = .ok (.isub, 1) := by decide +kernel
theorem dX11_isSame_23 : decode cX11_isSame 23 = .ok (.if_icmp .ge 33, 3) := by decide +kernel
theorem dX11_isSame_26 : decode cX11_isSame 26 = .ok (.aload_n 0, 1) := by decide +kernel
theorem dX11_isSame_27 : decode cX11_isSame 27 = .ok (.getfield 75, 3) := by decide +kernel
theorem dX11_isSame_30 : decode cX11_isSame 30 = .ok (.iload_n 1, 1) := by decide +kernel
theorem dX11_isSame_31 : decode cX11_isSame 31 = .ok (.iload_n 3, 1) := by decide +kernel
theorem dX11_isSame_32 : decode cX11_isSame 32 = .ok (.iadd, 1) := by decide +kernel
theorem dX11_isSame_33 : decode cX11_isSame 33 = .ok (.baload, 1) := by decide +kernel
theorem dX11_isSame_34 : decode cX11_isSame 34 = .ok (.aload_n 0, 1) := by decide +kernel
theorem dX11_isSame_35 : decode cX11_isSame 35 = .ok (.getfield 67, 3) := by decide +kernel
theorem dX11_isSame_38 : decode cX11_isSame 38 = .ok (.aload_n 0, 1) := by decide +kernel
theorem dX11_isSame_39 : decode cX11_isSame 39 = .ok (.getfield 168, 3) := by decide +kernel
theorem dX11_isSame_42 : decode cX11_isSame 42 = .ok (.iload_n 3, 1) := by decide +kernel
theorem dX11_isSame_43 : decode cX11_isSame 43 = .ok (.iadd, 1) := by decide +kernel
theorem dX11_isSame_44 : decode cX11_isSame 44 = .ok (.baload, 1) := by decide +kernel
theorem dX11_isSame_45 : decode cX11_isSame 45 = .ok (.if_icmp .eq 5, 3) := by decide +kernel
theorem dX11_isSame_48 : decode cX11_isSame 48 = .ok (.iconst 0, 1) := by decide +kernel
theorem dX11_isSame_49 : decode cX11_isSame 49 = .ok (.ireturn, 1) := by decide +kernel
theorem dX11_isSame_50 : decode cX11_isSame 50 = .ok (.iinc 3 1, 3) := by decide +kernel
theorem dX11_isSame_53 : decode cX11_isSame 53 = .ok (.goto (-34), 3) := by decide +kernel
theorem dX11_isSame_56 : decode cX11_isSame 56 = .ok (.iconst 1, 1) := by decide +kernel
theorem dX11_isSame_57 : decode cX11_isSame 57 = .ok (.ireturn, 1) := by decide +kernel
theorem dX11_scanNumber_0 : decode cX11_scanNumber 0 = .ok (.aload_n 0, 1) := by decide +kernel
theorem dX11_scanNumber_1 : decode cX11_scanNumber 1 = .ok (.iconst 3, 1) := by decide +kernel
theorem dX11_scanNumber_2 : decode cX11_scanNumber 2 = .ok (.putfield 178, 3) := by decide +kernel
