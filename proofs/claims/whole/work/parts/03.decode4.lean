theorem dX11_offset_116 : decode cX11_offset 116 = .ok (.iaload, 1) := by decide +kernel
theorem dX11_offset_117 : decode cX11_offset 117 = .ok (.iload 4, 2) := by decide +kernel
theorem dX11_offset_119 : decode cX11_offset 119 = .ok (.imul, 1) := by decide +kernel
theorem dX11_offset_120 : decode cX11_offset 120 = .ok (.isub, 1) := by decide +kernel
theorem dX11_offset_121 : decode cX11_offset 121 = .ok (.ireturn, 1) := by decide +kernel
theorem dX11_offset_122 : decode cX11_offset 122 = .ok (.iload 5, 2) := by decide +kernel
theorem dX11_offset_124 : decode cX11_offset 124 = .ok (.ireturn, 1) := by decide +kernel
theorem dX11_offset_125 : decode cX11_offset 125 = .ok (.iload 5, 2) := by decide +kernel
theorem dX11_offset_127 : decode cX11_offset 127 = .ok (.ifCond .ge 7, 3) := by decide +kernel
theorem dX11_offset_130 : decode cX11_offset 130 = .ok (.iconst 0, 1) := by decide +kernel
theorem dX11_offset_131 : decode cX11_offset 131 = .ok (.goto 11, 3) := by decide +kernel
theorem dX11_offset_134 : decode cX11_offset 134 = .ok (.iload 5, 2) := by decide +kernel
theorem dX11_offset_136 : decode cX11_offset 136 = .ok (.aload_n 0, 1) := by decide +kernel
theorem dX11_offset_137 : decode cX11_offset 137 = .ok (.iload_n 1, 1) := by decide +kernel
theorem dX11_offset_138 : decode cX11_offset 138 = .ok (.invokevirtual 452, 3) := by decide +kernel
theorem dX11_offset_141 : decode cX11_offset 141 = .ok (.imul, 1) := by decide +kernel
theorem dX11_offset_142 : decode cX11_offset 142 = .ok (.ireturn, 1) := by decide +kernel
theorem dX11_offset_143 : decode cX11_offset 143 = .ok (.sipush (-1000), 3) := by decide +kernel
theorem dX11_offset_146 : decode cX11_offset 146 = .ok (.ireturn, 1) := by decide +kernel
theorem dX11_readersBy_0 : decode cX11_readersBy 0 = .ok (.iconst 0, 1) := by decide +kernel
theorem dX11_readersBy_1 : decode cX11_readersBy 1 = .ok (.istore_n 2, 1) := by decide +kernel
theorem dX11_readersBy_2 : decode cX11_readersBy 2 = .ok (.iconst 0, 1) := by decide +kernel
theorem dX11_readersBy_3 : decode cX11_readersBy 3 = .ok (.istore_n 3, 1) := by decide +kernel
theorem dX11_readersBy_4 : decode cX11_readersBy 4 = .ok (.iload_n 3, 1) := by decide +kernel
theorem dX11_readersBy_5 : decode cX11_readersBy 5 = .ok (.bipush 100, 2) := by decide +kernel
theorem dX11_readersBy_7 : decode cX11_readersBy 7 = .ok (.if_icmp .ge 34, 3) := by decide +kernel
theorem dX11_readersBy_10 : decode cX11_readersBy 10 = .ok (.iload_n 2, 1) := by decide +kernel
theorem dX11_readersBy_11 : decode cX11_readersBy 11 = .ok (.aload_n 0, 1) := by decide +kernel
theorem dX11_readersBy_12 : decode cX11_readersBy 12 = .ok (.iload_n 3, 1) := by decide +kernel
theorem dX11_readersBy_13 : decode cX11_readersBy 13 = .ok (.invokevirtual 333, 3) := by decide +kernel
theorem dX11_readersBy_16 : decode cX11_readersBy 16 = .ok (.ifCond .eq 16, 3) := by decide +kernel
theorem dX11_readersBy_19 : decode cX11_readersBy 19 = .ok (.aload_n 0, 1) := by decide +kernel
theorem dX11_readersBy_20 : decode cX11_readersBy 20 = .ok (.iload_n 3, 1) := by decide +kernel
theorem dX11_readersBy_21 : decode cX11_readersBy 21 = .ok (.iload_n 1, 1) := by decide +kernel
theorem dX11_readersBy_22 : decode cX11_readersBy 22 = .ok (.invokevirtual 342, 3) := by decide +kernel
theorem dX11_readersBy_25 : decode cX11_readersBy 25 = .ok (.ifCond .lt 7, 3) := by decide +kernel
theorem dX11_readersBy_28 : decode cX11_readersBy 28 = .ok (.iconst 1, 1) := by decide +kernel
theorem dX11_readersBy_29 : decode cX11_readersBy 29 = .ok (.goto 4, 3) := by decide +kernel
theorem dX11_readersBy_32 : decode cX11_readersBy 32 = .ok (.iconst 0, 1) := by decide +kernel
theorem dX11_readersBy_33 : decode cX11_readersBy 33 = .ok (.iadd, 1) := by decide +kernel
theorem dX11_readersBy_34 : decode cX11_readersBy 34 = .ok (.istore_n 2, 1) := by decide +kernel
theorem dX11_readersBy_35 : decode cX11_readersBy 35 = .ok (.iinc 3 1, 3) := by decide +kernel
theorem dX11_readersBy_38 : decode cX11_readersBy 38 = .ok (.goto (-34), 3) := by decide +kernel
theorem dX11_readersBy_41 : decode cX11_readersBy 41 = .ok (.iload_n 2, 1) := by decide +kernel
theorem dX11_readersBy_42 : decode cX11_readersBy 42 = .ok (.ireturn, 1) := by decide +kernel
theorem dX11_isBroken_0 : decode cX11_isBroken 0 = .ok (.aload_n 0, 1) := by decide +kernel
theorem dX11_isBroken_1 : decode cX11_isBroken 1 = .ok (.getfield 115, 3) := by decide +kernel
theorem dX11_isBroken_4 : decode cX11_isBroken 4 = .ok (.iconst 5, 1) := by decide +kernel
theorem dX11_isBroken_5 : decode cX11_isBroken 5 = .ok (.iload_n 1, 1) := by decide +kernel
theorem dX11_isBroken_6 : decode cX11_isBroken 6 = .ok (.iadd, 1) := by decide +kernel
theorem dX11_isBroken_7 : decode cX11_isBroken 7 = .ok (.iaload, 1) := by decide +kernel
theorem dX11_isBroken_8 : decode cX11_isBroken 8 = .ok (.iconst 1, 1) := by decide +kernel
theorem dX11_isBroken_9 : decode cX11_isBroken 9 = .ok (.if_icmp .ne 7, 3) := by decide +kernel
theorem dX11_isBroken_12 : decode cX11_isBroken 12 = .ok (.iconst 1, 1) := by decide +kernel
theorem dX11_isBroken_13 : decode cX11_isBroken 13 = .ok (.goto 4, 3) := by decide +kernel
theorem dX11_isBroken_16 : decode cX11_isBroken 16 = .ok (.iconst 0, 1) := by decide +kernel
theorem dX11_isBroken_17 : decode cX11_isBroken 17 = .ok (.ireturn, 1) := by decide +kernel
theorem dX11_layRun_0 : decode cX11_layRun 0 = .ok (.iconst 0, 1) := by decide +kernel
theorem dX11_layRun_1 : decode cX11_layRun 1 = .ok (.istore_n 1, 1) := by decide +kernel
theorem dX11_layRun_2 : decode cX11_layRun 2 = .ok (.iload_n 1, 1) := by decide +kernel
theorem dX11_layRun_3 : decode cX11_layRun 3 = .ok (.sipush 300, 3) := by decide +kernel
theorem dX11_layRun_6 : decode cX11_layRun 6 = .ok (.if_icmp .ge 16, 3) := by decide +kernel
theorem dX11_layRun_9 : decode cX11_layRun 9 = .ok (.aload_n 0, 1) := by decide +kernel
theorem dX11_layRun_10 : decode cX11_layRun 10 = .ok (.getfield 103, 3) := by decide +kernel
theorem dX11_layRun_13 : decode cX11_layRun 13 = .ok (.iload_n 1, 1) := by decide +kernel
theorem dX11_layRun_14 : decode cX11_layRun 14 = .ok (.iconst 0, 1) := by decide +kernel
theorem dX11_layRun_15 : decode cX11_layRun 15 = .ok (.iastore, 1) := by decide +kernel
theorem dX11_layRun_16 : decode cX11_layRun 16 = .ok (.iinc 1 1, 3) := by decide +kernel
theorem dX11_layRun_19 : decode cX11_layRun 19 = .ok (.goto (-17), 3) := by decide +kernel
theorem dX11_layRun_22 : decode cX11_layRun 22 = .ok (.iconst 0, 1) := by decide +kernel
theorem dX11_layRun_23 : decode cX11_layRun 23 = .ok (.istore_n 1, 1) := by decide +kernel
theorem dX11_layRun_24 : decode cX11_layRun 24 = .ok (.iload_n 1, 1) := by decide +kernel
theorem dX11_layRun_25 : decode cX11_layRun 25 = .ok (.aload_n 0, 1) := by decide +kernel
theorem dX11_layRun_26 : decode cX11_layRun 26 = .ok (.getfield 415, 3) := by decide +kernel
theorem dX11_layRun_29 : decode cX11_layRun 29 = .ok (.if_icmp .ge 107, 3) := by decide +kernel
theorem dX11_layRun_32 : decode cX11_layRun 32 = .ok (.iconst 0, 1) := by decide +kernel
theorem dX11_layRun_33 : decode cX11_layRun 33 = .ok (.istore_n 2, 1) := by decide +kernel
theorem dX11_layRun_34 : decode cX11_layRun 34 = .ok (.iload_n 2, 1) := by decide +kernel
theorem dX11_layRun_35 : decode cX11_layRun 35 = .ok (.bipush 100, 2) := by decide +kernel
theorem dX11_layRun_37 : decode cX11_layRun 37 = .ok (.if_icmp .ge 93, 3) := by decide +kernel
theorem dX11_layRun_40 : decode cX11_layRun 40 = .ok (.aload_n 0, 1) := by decide +kernel
theorem dX11_layRun_41 : decode cX11_layRun 41 = .ok (.iload_n 2, 1) := by decide +kernel
theorem dX11_layRun_42 : decode cX11_layRun 42 = .ok (.invokevirtual 333, 3) := by decide +kernel
theorem dX11_layRun_45 : decode cX11_layRun 45 = .ok (.ifCond .eq 79, 3) := by decide +kernel
theorem dX11_layRun_48 : decode cX11_layRun 48 = .ok (.aload_n 0, 1) := by decide +kernel
theorem dX11_layRun_49 : decode cX11_layRun 49 = .ok (.getfield 118, 3) := by decide +kernel
theorem dX11_layRun_52 : decode cX11_layRun 52 = .ok (.iload_n 2, 1) := by decide +kernel
theorem dX11_layRun_53 : decode cX11_layRun 53 = .ok (.iaload, 1) := by decide +kernel
theorem dX11_layRun_54 : decode cX11_layRun 54 = .ok (.iload_n 1, 1) := by decide +kernel
theorem dX11_layRun_55 : decode cX11_layRun 55 = .ok (.if_icmp .ne 69, 3) := by decide +kernel
theorem dX11_layRun_58 : decode cX11_layRun 58 = .ok (.aload_n 0, 1) := by decide +kernel
theorem dX11_layRun_59 : decode cX11_layRun 59 = .ok (.getfield 124, 3) := by decide +kernel
theorem dX11_layRun_62 : decode cX11_layRun 62 = .ok (.iload_n 2, 1) := by decide +kernel
theorem dX11_layRun_63 : decode cX11_layRun 63 = .ok (.baload, 1) := by decide +kernel
theorem dX11_layRun_64 : decode cX11_layRun 64 = .ok (.ifCond .ne 60, 3) := by decide +kernel
theorem dX11_layRun_67 : decode cX11_layRun 67 = .ok (.aload_n 0, 1) := by decide +kernel
theorem dX11_layRun_68 : decode cX11_layRun 68 = .ok (.aload_n 0, 1) := by decide +kernel
theorem dX11_layRun_69 : decode cX11_layRun 69 = .ok (.getfield 121, 3) := by decide +kernel
theorem dX11_layRun_72 : decode cX11_layRun 72 = .ok (.iload_n 2, 1) := by decide +kernel
theorem dX11_layRun_73 : decode cX11_layRun 73 = .ok (.iaload, 1) := by decide +kernel
theorem dX11_layRun_74 : decode cX11_layRun 74 = .ok (.invokevirtual 455, 3) := by decide +kernel
theorem dX11_layRun_77 : decode cX11_layRun 77 = .ok (.ifCond .eq 6, 3) := by decide +kernel
theorem dX11_layRun_80 : decode cX11_layRun 80 = .ok (.goto 44, 3) := by decide +kernel
theorem dX11_layRun_83 : decode cX11_layRun 83 = .ok (.iconst 0, 1) := by decide +kernel
theorem dX11_layRun_84 : decode cX11_layRun 84 = .ok (.istore_n 3, 1) := by decide +kernel
theorem dX11_layRun_85 : decode cX11_layRun 85 = .ok (.iload_n 3, 1) := by decide +kernel
theorem dX11_layRun_86 : decode cX11_layRun 86 = .ok (.aload_n 0, 1) := by decide +kernel
theorem dX11_layRun_87 : decode cX11_layRun 87 = .ok (.invokevirtual 315, 3) := by decide +kernel
theorem dX11_layRun_90 : decode cX11_layRun 90 = .ok (.if_icmp .ge 34, 3) := by decide +kernel
theorem dX11_layRun_93 : decode cX11_layRun 93 = .ok (.aload_n 0, 1) := by decide +kernel
theorem dX11_layRun_94 : decode cX11_layRun 94 = .ok (.getfield 103, 3) := by decide +kernel
theorem dX11_layRun_97 : decode cX11_layRun 97 = .ok (.bipush 100, 2) := by decide +kernel
theorem dX11_layRun_99 : decode cX11_layRun 99 = .ok (.iload_n 3, 1) := by decide +kernel
theorem dX11_layRun_100 : decode cX11_layRun 100 = .ok (.imul, 1) := by decide +kernel
theorem dX11_layRun_101 : decode cX11_layRun 101 = .ok (.iload_n 2, 1) := by decide +kernel
theorem dX11_layRun_102 : decode cX11_layRun 102 = .ok (.iadd, 1) := by decide +kernel
theorem dX11_layRun_103 : decode cX11_layRun 103 = .ok (.aload_n 0, 1) := by decide +kernel
theorem dX11_layRun_104 : decode cX11_layRun 104 = .ok (.iload_n 3, 1) := by decide +kernel
theorem dX11_layRun_105 : decode cX11_layRun 105 = .ok (.iload_n 2, 1) := by decide +kernel
theorem dX11_layRun_106 : decode cX11_layRun 106 = .ok (.bipush 10, 2) := by decide +kernel
theorem dX11_layRun_108 : decode cX11_layRun 108 = .ok (.idiv, 1) := by decide +kernel
theorem dX11_layRun_109 : decode cX11_layRun 109 = .ok (.iload_n 2, 1) := by decide +kernel
theorem dX11_layRun_110 : decode cX11_layRun 110 = .ok (.bipush 10, 2) := by decide +kernel
theorem dX11_layRun_112 : decode cX11_layRun 112 = .ok (.irem, 1) := by decide +kernel
theorem dX11_layRun_113 : decode cX11_layRun 113 = .ok (.iconst 1, 1) := by decide +kernel
theorem dX11_layRun_114 : decode cX11_layRun 114 = .ok (.invokevirtual 393, 3) := by decide +kernel
theorem dX11_layRun_117 : decode cX11_layRun 117 = .ok (.iastore, 1) := by decide +kernel
theorem dX11_layRun_118 : decode cX11_layRun 118 = .ok (.iinc 3 1, 3) := by decide +kernel
theorem dX11_layRun_121 : decode cX11_layRun 121 = .ok (.goto (-36), 3) := by decide +kernel
theorem dX11_layRun_124 : decode cX11_layRun 124 = .ok (.iinc 2 1, 3) := by decide +kernel
theorem dX11_layRun_127 : decode cX11_layRun 127 = .ok (.goto (-93), 3) := by decide +kernel
theorem dX11_layRun_130 : decode cX11_layRun 130 = .ok (.iinc 1 1, 3) := by decide +kernel
theorem dX11_layRun_133 : decode cX11_layRun 133 = .ok (.goto (-109), 3) := by decide +kernel
theorem dX11_layRun_136 : decode cX11_layRun 136 = .ok (.return_, 1) := by decide +kernel
theorem dX11_run_0 : decode cX11_run 0 = .ok (.aload_n 0, 1) := by decide +kernel
theorem dX11_run_1 : decode cX11_run 1 = .ok (.iload_n 1, 1) := by decide +kernel
theorem dX11_run_2 : decode cX11_run 2 = .ok (.invokevirtual 396, 3) := by decide +kernel
theorem dX11_run_5 : decode cX11_run 5 = .ok (.ifCond .eq 12, 3) := by decide +kernel
theorem dX11_run_8 : decode cX11_run 8 = .ok (.aload_n 0, 1) := by decide +kernel
theorem dX11_run_9 : decode cX11_run 9 = .ok (.iload_n 2, 1) := by decide +kernel
theorem dX11_run_10 : decode cX11_run 10 = .ok (.iload_n 3, 1) := by decide +kernel
theorem dX11_run_11 : decode cX11_run 11 = .ok (.invokevirtual 324, 3) := by decide +kernel
theorem dX11_run_14 : decode cX11_run 14 = .ok (.ifCond .ne 5, 3) := by decide +kernel
theorem dX11_run_17 : decode cX11_run 17 = .ok (.iconst 0, 1) := by decide +kernel
theorem dX11_run_18 : decode cX11_run 18 = .ok (.ireturn, 1) := by decide +kernel
theorem dX11_run_19 : decode cX11_run 19 = .ok (.aload_n 0, 1) := by decide +kernel
theorem dX11_run_20 : decode cX11_run 20 = .ok (.invokevirtual 437, 3) := by decide +kernel
theorem dX11_run_23 : decode cX11_run 23 = .ok (.aload_n 0, 1) := by decide +kernel
theorem dX11_run_24 : decode cX11_run 24 = .ok (.invokevirtual 458, 3) := by decide +kernel
theorem dX11_run_27 : decode cX11_run 27 = .ok (.aload_n 0, 1) := by decide +kernel
theorem dX11_run_28 : decode cX11_run 28 = .ok (.getfield 103, 3) := by decide +kernel
theorem dX11_run_31 : decode cX11_run 31 = .ok (.bipush 100, 2) := by decide +kernel
theorem dX11_run_33 : decode cX11_run 33 = .ok (.iload_n 1, 1) := by decide +kernel
theorem dX11_run_34 : decode cX11_run 34 = .ok (.imul, 1) := by decide +kernel
theorem dX11_run_35 : decode cX11_run 35 = .ok (.bipush 10, 2) := by decide +kernel
theorem dX11_run_37 : decode cX11_run 37 = .ok (.iload_n 2, 1) := by decide +kernel
theorem dX11_run_38 : decode cX11_run 38 = .ok (.imul, 1) := by decide +kernel
theorem dX11_run_39 : decode cX11_run 39 = .ok (.iadd, 1) := by decide +kernel
theorem dX11_run_40 : decode cX11_run 40 = .ok (.iload_n 3, 1) := by decide +kernel
theorem dX11_run_41 : decode cX11_run 41 = .ok (.iadd, 1) := by decide +kernel
theorem dX11_run_42 : decode cX11_run 42 = .ok (.iaload, 1) := by decide +kernel
theorem dX11_run_43 : decode cX11_run 43 = .ok (.ireturn, 1) := by decide +kernel
theorem dX11_isWrong_0 : decode cX11_isWrong 0 = .ok (.aload_n 0, 1) := by decide +kernel
theorem dX11_isWrong_1 : decode cX11_isWrong 1 = .ok (.iload_n 1, 1) := by decide +kernel
theorem dX11_isWrong_2 : decode cX11_isWrong 2 = .ok (.invokevirtual 333, 3) := by decide +kernel
theorem dX11_isWrong_5 : decode cX11_isWrong 5 = .ok (.ifCond .eq 12, 3) := by decide +kernel
theorem dX11_isWrong_8 : decode cX11_isWrong 8 = .ok (.aload_n 0, 1) := by decide +kernel
theorem dX11_isWrong_9 : decode cX11_isWrong 9 = .ok (.getfield 87, 3) := by decide +kernel
theorem dX11_isWrong_12 : decode cX11_isWrong 12 = .ok (.iload_n 1, 1) := by decide +kernel
theorem dX11_isWrong_13 : decode cX11_isWrong 13 = .ok (.iaload, 1) := by decide +kernel
theorem dX11_isWrong_14 : decode cX11_isWrong 14 = .ok (.ifCond .ge 5, 3) := by decide +kernel
theorem dX11_isWrong_17 : decode cX11_isWrong 17 = .ok (.iconst 0, 1) := by decide +kernel
theorem dX11_isWrong_18 : decode cX11_isWrong 18 = .ok (.ireturn, 1) := by decide +kernel
theorem dX11_isWrong_19 : decode cX11_isWrong 19 = .ok (.iconst 0, 1) := by decide +kernel
theorem dX11_isWrong_20 : decode cX11_isWrong 20 = .ok (.istore_n 2, 1) := by decide +kernel
theorem dX11_isWrong_21 : decode cX11_isWrong 21 = .ok (.iload_n 2, 1) := by decide +kernel
theorem dX11_isWrong_22 : decode cX11_isWrong 22 = .ok (.aload_n 0, 1) := by decide +kernel
theorem dX11_isWrong_23 : decode cX11_isWrong 23 = .ok (.invokevirtual 315, 3) := by decide +kernel
theorem dX11_isWrong_26 : decode cX11_isWrong 26 = .ok (.if_icmp .ge 36, 3) := by decide +kernel
theorem dX11_isWrong_29 : decode cX11_isWrong 29 = .ok (.aload_n 0, 1) := by decide +kernel
theorem dX11_isWrong_30 : decode cX11_isWrong 30 = .ok (.getfield 103, 3) := by decide +kernel
theorem dX11_isWrong_33 : decode cX11_isWrong 33 = .ok (.bipush 100, 2) := by decide +kernel
theorem dX11_isWrong_35 : decode cX11_isWrong 35 = .ok (.iload_n 2, 1) := by decide +kernel
theorem dX11_isWrong_36 : decode cX11_isWrong 36 = .ok (.imul, 1) := by decide +kernel
theorem dX11_isWrong_37 : decode cX11_isWrong 37 = .ok (.iload_n 1, 1) := by decide +kernel
theorem dX11_isWrong_38 : decode cX11_isWrong 38 = .ok (.iadd, 1) := by decide +kernel
theorem dX11_isWrong_39 : decode cX11_isWrong 39 = .ok (.iaload, 1) := by decide +kernel
theorem dX11_isWrong_40 : decode cX11_isWrong 40 = .ok (.aload_n 0, 1) := by decide +kernel
theorem dX11_isWrong_41 : decode cX11_isWrong 41 = .ok (.getfield 100, 3) := by decide +kernel
theorem dX11_isWrong_44 : decode cX11_isWrong 44 = .ok (.bipush 100, 2) := by decide +kernel
theorem dX11_isWrong_46 : decode cX11_isWrong 46 = .ok (.iload_n 2, 1) := by decide +kernel
theorem dX11_isWrong_47 : decode cX11_isWrong 47 = .ok (.imul, 1) := by decide +kernel
theorem dX11_isWrong_48 : decode cX11_isWrong 48 = .ok (.iload_n 1, 1) := by decide +kernel
theorem dX11_isWrong_49 : decode cX11_isWrong 49 = .ok (.iadd, 1) := by decide +kernel
theorem dX11_isWrong_50 : decode cX11_isWrong 50 = .ok (.iaload, 1) := by decide +kernel
theorem dX11_isWrong_51 : decode cX11_isWrong 51 = .ok (.if_icmp .eq 5, 3) := by decide +kernel
theorem dX11_isWrong_54 : decode cX11_isWrong 54 = .ok (.iconst 1, 1) := by decide +kernel
theorem dX11_isWrong_55 : decode cX11_isWrong 55 = .ok (.ireturn, 1) := by decide +kernel
theorem dX11_isWrong_56 : decode cX11_isWrong 56 = .ok (.iinc 2 1, 3) := by decide +kernel
theorem dX11_isWrong_59 : decode cX11_isWrong 59 = .ok (.goto (-38), 3) := by decide +kernel
theorem dX11_isWrong_62 : decode cX11_isWrong 62 = .ok (.iconst 0, 1) := by decide +kernel
theorem dX11_isWrong_63 : decode cX11_isWrong 63 = .ok (.ireturn, 1) := by decide +kernel
theorem dX11_wrongMany_0 : decode cX11_wrongMany 0 = .ok (.aload_n 0, 1) := by decide +kernel
theorem dX11_wrongMany_1 : decode cX11_wrongMany 1 = .ok (.invokevirtual 437, 3) := by decide +kernel
theorem dX11_wrongMany_4 : decode cX11_wrongMany 4 = .ok (.aload_n 0, 1) := by decide +kernel
theorem dX11_wrongMany_5 : decode cX11_wrongMany 5 = .ok (.invokevirtual 458, 3) := by decide +kernel
theorem dX11_wrongMany_8 : decode cX11_wrongMany 8 = .ok (.aload_n 0, 1) := by decide +kernel
theorem dX11_wrongMany_9 : decode cX11_wrongMany 9 = .ok (.invokevirtual 399, 3) := by decide +kernel
theorem dX11_wrongMany_12 : decode cX11_wrongMany 12 = .ok (.iconst 0, 1) := by decide +kernel
theorem dX11_wrongMany_13 : decode cX11_wrongMany 13 = .ok (.istore_n 1, 1) := by decide +kernel
theorem dX11_wrongMany_14 : decode cX11_wrongMany 14 = .ok (.iconst 0, 1) := by decide +kernel
theorem dX11_wrongMany_15 : decode cX11_wrongMany 15 = .ok (.istore_n 2, 1) := by decide +kernel
theorem dX11_wrongMany_16 : decode cX11_wrongMany 16 = .ok (.iload_n 2, 1) := by decide +kernel
theorem dX11_wrongMany_17 : decode cX11_wrongMany 17 = .ok (.bipush 100, 2) := by decide +kernel
theorem dX11_wrongMany_19 : decode cX11_wrongMany 19 = .ok (.if_icmp .ge 25, 3) := by decide +kernel
theorem dX11_wrongMany_22 : decode cX11_wrongMany 22 = .ok (.iload_n 1, 1) := by decide +kernel
theorem dX11_wrongMany_23 : decode cX11_wrongMany 23 = .ok (.aload_n 0, 1) := by decide +kernel
theorem dX11_wrongMany_24 : decode cX11_wrongMany 24 = .ok (.iload_n 2, 1) := by decide +kernel
theorem dX11_wrongMany_25 : decode cX11_wrongMany 25 = .ok (.invokevirtual 461, 3) := by decide +kernel
theorem dX11_wrongMany_28 : decode cX11_wrongMany 28 = .ok (.ifCond .eq 7, 3) := by decide +kernel
theorem dX11_wrongMany_31 : decode cX11_wrongMany 31 = .ok (.iconst 1, 1) := by decide +kernel
theorem dX11_wrongMany_32 : decode cX11_wrongMany 32 = .ok (.goto 4, 3) := by decide +kernel
theorem dX11_wrongMany_35 : decode cX11_wrongMany 35 = .ok (.iconst 0, 1) := by decide +kernel
theorem dX11_wrongMany_36 : decode cX11_wrongMany 36 = .ok (.iadd, 1) := by decide +kernel
theorem dX11_wrongMany_37 : decode cX11_wrongMany 37 = .ok (.istore_n 1, 1) := by decide +kernel
theorem dX11_wrongMany_38 : decode cX11_wrongMany 38 = .ok (.iinc 2 1, 3) := by decide +kernel
theorem dX11_wrongMany_41 : decode cX11_wrongMany 41 = .ok (.goto (-25), 3) := by decide +kernel
theorem dX11_wrongMany_44 : decode cX11_wrongMany 44 = .ok (.iload_n 1, 1) := by decide +kernel
theorem dX11_wrongMany_45 : decode cX11_wrongMany 45 = .ok (.ireturn, 1) := by decide +kernel
theorem dX11_wrong_0 : decode cX11_wrong 0 = .ok (.aload_n 0, 1) := by decide +kernel
theorem dX11_wrong_1 : decode cX11_wrong 1 = .ok (.invokevirtual 464, 3) := by decide +kernel
theorem dX11_wrong_4 : decode cX11_wrong 4 = .ok (.ireturn, 1) := by decide +kernel
theorem dX11_wrongAt_0 : decode cX11_wrongAt 0 = .ok (.aload_n 0, 1) := by decide +kernel
theorem dX11_wrongAt_1 : decode cX11_wrongAt 1 = .ok (.invokevirtual 464, 3) := by decide +kernel
theorem dX11_wrongAt_4 : decode cX11_wrongAt 4 = .ok (.iload_n 1, 1) := by decide +kernel
theorem dX11_wrongAt_5 : decode cX11_wrongAt 5 = .ok (.if_icmp .le 11, 3) := by decide +kernel
theorem dX11_wrongAt_8 : decode cX11_wrongAt 8 = .ok (.iload_n 1, 1) := by decide +kernel
theorem dX11_wrongAt_9 : decode cX11_wrongAt 9 = .ok (.ifCond .lt 7, 3) := by decide +kernel
theorem dX11_wrongAt_12 : decode cX11_wrongAt 12 = .ok (.iload_n 1, 1) := by decide +kernel
theorem dX11_wrongAt_13 : decode cX11_wrongAt 13 = .ok (.goto 4, 3) := by decide +kernel
theorem dX11_wrongAt_16 : decode cX11_wrongAt 16 = .ok (.iconst (-1), 1) := by decide +kernel
theorem dX11_wrongAt_17 : decode cX11_wrongAt 17 = .ok (.istore_n 2, 1) := by decide +kernel
theorem dX11_wrongAt_18 : decode cX11_wrongAt 18 = .ok (.iload_n 2, 1) := by decide +kernel
theorem dX11_wrongAt_19 : decode cX11_wrongAt 19 = .ok (.ifCond .ge 5, 3) := by decide +kernel
theorem dX11_wrongAt_22 : decode cX11_wrongAt 22 = .ok (.iconst (-1), 1) := by decide +kernel
theorem dX11_wrongAt_23 : decode cX11_wrongAt 23 = .ok (.ireturn, 1) := by decide +kernel
theorem dX11_wrongAt_24 : decode cX11_wrongAt 24 = .ok (.iconst 0, 1) := by decide +kernel
theorem dX11_wrongAt_25 : decode cX11_wrongAt 25 = .ok (.istore_n 3, 1) := by decide +kernel
theorem dX11_wrongAt_26 : decode cX11_wrongAt 26 = .ok (.aload_n 0, 1) := by decide +kernel
theorem dX11_wrongAt_27 : decode cX11_wrongAt 27 = .ok (.iload_n 3, 1) := by decide +kernel
theorem dX11_wrongAt_28 : decode cX11_wrongAt 28 = .ok (.invokevirtual 461, 3) := by decide +kernel
theorem dX11_wrongAt_31 : decode cX11_wrongAt 31 = .ok (.ifCond .eq 7, 3) := by decide +kernel
theorem dX11_wrongAt_34 : decode cX11_wrongAt 34 = .ok (.iload_n 2, 1) := by decide +kernel
theorem dX11_wrongAt_35 : decode cX11_wrongAt 35 = .ok (.ifCond .le 25, 3) := by decide +kernel
theorem dX11_wrongAt_38 : decode cX11_wrongAt 38 = .ok (.iload_n 2, 1) := by decide +kernel
theorem dX11_wrongAt_39 : decode cX11_wrongAt 39 = .ok (.aload_n 0, 1) := by decide +kernel
theorem dX11_wrongAt_40 : decode cX11_wrongAt 40 = .ok (.iload_n 3, 1) := by decide +kernel
theorem dX11_wrongAt_41 : decode cX11_wrongAt 41 = .ok (.invokevirtual 461, 3) := by decide +kernel
theorem dX11_wrongAt_44 : decode cX11_wrongAt 44 = .ok (.ifCond .eq 7, 3) := by decide +kernel
theorem dX11_wrongAt_47 : decode cX11_wrongAt 47 = .ok (.iconst 1, 1) := by decide +kernel
theorem dX11_wrongAt_48 : decode cX11_wrongAt 48 = .ok (.goto 4, 3) := by decide +kernel
theorem dX11_wrongAt_51 : decode cX11_wrongAt 51 = .ok (.iconst 0, 1) := by decide +kernel
theorem dX11_wrongAt_52 : decode cX11_wrongAt 52 = .ok (.isub, 1) := by decide +kernel
theorem dX11_wrongAt_53 : decode cX11_wrongAt 53 = .ok (.istore_n 2, 1) := by decide +kernel
theorem dX11_wrongAt_54 : decode cX11_wrongAt 54 = .ok (.iinc 3 1, 3) := by decide +kernel
theorem dX11_wrongAt_57 : decode cX11_wrongAt 57 = .ok (.goto (-31), 3) := by decide +kernel
theorem dX11_wrongAt_60 : decode cX11_wrongAt 60 = .ok (.iload_n 3, 1) := by decide +kernel
theorem dX11_wrongAt_61 : decode cX11_wrongAt 61 = .ok (.ireturn, 1) := by decide +kernel
theorem dX11_brokenMany_0 : decode cX11_brokenMany 0 = .ok (.iconst 0, 1) := by decide +kernel
theorem dX11_brokenMany_1 : decode cX11_brokenMany 1 = .ok (.istore_n 1, 1) := by decide +kernel
theorem dX11_brokenMany_2 : decode cX11_brokenMany 2 = .ok (.iconst 0, 1) := by decide +kernel
theorem dX11_brokenMany_3 : decode cX11_brokenMany 3 = .ok (.istore_n 2, 1) := by decide +kernel
theorem dX11_brokenMany_4 : decode cX11_brokenMany 4 = .ok (.iload_n 2, 1) := by decide +kernel
theorem dX11_brokenMany_5 : decode cX11_brokenMany 5 = .ok (.bipush 64, 2) := by decide +kernel
theorem dX11_brokenMany_7 : decode cX11_brokenMany 7 = .ok (.if_icmp .ge 20, 3) := by decide +kernel
theorem dX11_brokenMany_10 : decode cX11_brokenMany 10 = .ok (.iload_n 1, 1) := by decide +kernel
theorem dX11_brokenMany_11 : decode cX11_brokenMany 11 = .ok (.aload_n 0, 1) := by decide +kernel
theorem dX11_brokenMany_12 : decode cX11_brokenMany 12 = .ok (.getfield 115, 3) := by decide +kernel
theorem dX11_brokenMany_15 : decode cX11_brokenMany 15 = .ok (.iconst 5, 1) := by decide +kernel
theorem dX11_brokenMany_16 : decode cX11_brokenMany 16 = .ok (.iload_n 2, 1) := by decide +kernel
theorem dX11_brokenMany_17 : decode cX11_brokenMany 17 = .ok (.iadd, 1) := by decide +kernel
theorem dX11_brokenMany_18 : decode cX11_brokenMany 18 = .ok (.iaload, 1) := by decide +kernel
theorem dX11_brokenMany_19 : decode cX11_brokenMany 19 = .ok (.iadd, 1) := by decide +kernel
theorem dX11_brokenMany_20 : decode cX11_brokenMany 20 = .ok (.istore_n 1, 1) := by decide +kernel
theorem dX11_brokenMany_21 : decode cX11_brokenMany 21 = .ok (.iinc 2 1, 3) := by decide +kernel
theorem dX11_brokenMany_24 : decode cX11_brokenMany 24 = .ok (.goto (-20), 3) := by decide +kernel
theorem dX11_brokenMany_27 : decode cX11_brokenMany 27 = .ok (.iload_n 1, 1) := by decide +kernel
theorem dX11_brokenMany_28 : decode cX11_brokenMany 28 = .ok (.ireturn, 1) := by decide +kernel
theorem dX11_law_0 : decode cX11_law 0 = .ok (.aload_n 0, 1) := by decide +kernel
theorem dX11_law_1 : decode cX11_law 1 = .ok (.invokevirtual 437, 3) := by decide +kernel
theorem dX11_law_4 : decode cX11_law 4 = .ok (.aload_n 0, 1) := by decide +kernel
theorem dX11_law_5 : decode cX11_law 5 = .ok (.aload_n 0, 1) := by decide +kernel
theorem dX11_law_6 : decode cX11_law 6 = .ok (.getfield 115, 3) := by decide +kernel
theorem dX11_law_9 : decode cX11_law 9 = .ok (.iconst 0, 1) := by decide +kernel
theorem dX11_law_10 : decode cX11_law 10 = .ok (.iaload, 1) := by decide +kernel
theorem dX11_law_11 : decode cX11_law 11 = .ok (.aload_n 0, 1) := by decide +kernel
theorem dX11_law_12 : decode cX11_law 12 = .ok (.getfield 115, 3) := by decide +kernel
theorem dX11_law_15 : decode cX11_law 15 = .ok (.iconst 1, 1) := by decide +kernel
theorem dX11_law_16 : decode cX11_law 16 = .ok (.iaload, 1) := by decide +kernel
theorem dX11_law_17 : decode cX11_law 17 = .ok (.invokevirtual 440, 3) := by decide +kernel
theorem dX11_law_20 : decode cX11_law 20 = .ok (.ifCond .eq 17, 3) := by decide +kernel
theorem dX11_law_23 : decode cX11_law 23 = .ok (.aload_n 0, 1) := by decide +kernel
theorem dX11_law_24 : decode cX11_law 24 = .ok (.getfield 421, 3) := by decide +kernel
theorem dX11_law_27 : decode cX11_law 27 = .ok (.ifCond .gt 10, 3) := by decide +kernel
theorem dX11_law_30 : decode cX11_law 30 = .ok (.aload_n 0, 1) := by decide +kernel
theorem dX11_law_31 : decode cX11_law 31 = .ok (.invokevirtual 467, 3) := by decide +kernel
theorem dX11_law_34 : decode cX11_law 34 = .ok (.ifCond .le 5, 3) := by decide +kernel
theorem dX11_law_37 : decode cX11_law 37 = .ok (.iconst 0, 1) := by decide +kernel
theorem dX11_law_38 : decode cX11_law 38 = .ok (.ireturn, 1) := by decide +kernel
theorem dX11_law_39 : decode cX11_law 39 = .ok (.aload_n 0, 1) := by decide +kernel
theorem dX11_law_40 : decode cX11_law 40 = .ok (.invokevirtual 464, 3) := by decide +kernel
theorem dX11_law_43 : decode cX11_law 43 = .ok (.aload_n 0, 1) := by decide +kernel
theorem dX11_law_44 : decode cX11_law 44 = .ok (.invokevirtual 446, 3) := by decide +kernel
theorem dX11_law_47 : decode cX11_law 47 = .ok (.iadd, 1) := by decide +kernel
theorem dX11_law_48 : decode cX11_law 48 = .ok (.ireturn, 1) := by decide +kernel
theorem dX11_isCell_0 : decode cX11_isCell 0 = .ok (.aload_n 0, 1) := by decide +kernel
theorem dX11_isCell_1 : decode cX11_isCell 1 = .ok (.invokevirtual 437, 3) := by decide +kernel
theorem dX11_isCell_4 : decode cX11_isCell 4 = .ok (.iload_n 1, 1) := by decide +kernel
theorem dX11_isCell_5 : decode cX11_isCell 5 = .ok (.iconst 0, 1) := by decide +kernel
theorem dX11_isCell_6 : decode cX11_isCell 6 = .ok (.aload_n 0, 1) := by decide +kernel
theorem dX11_isCell_7 : decode cX11_isCell 7 = .ok (.getfield 418, 3) := by decide +kernel
theorem dX11_isCell_10 : decode cX11_isCell 10 = .ok (.iconst 1, 1) := by decide +kernel
theorem dX11_isCell_11 : decode cX11_isCell 11 = .ok (.isub, 1) := by decide +kernel
theorem dX11_isCell_12 : decode cX11_isCell 12 = .ok (.invokestatic 221, 3) := by decide +kernel
theorem dX11_isCell_15 : decode cX11_isCell 15 = .ok (.ireturn, 1) := by decide +kernel
theorem dX11_firstTick_0 : decode cX11_firstTick 0 = .ok (.ldc_w 414, 3) := by decide +kernel
theorem dX11_firstTick_3 : decode cX11_firstTick 3 = .ok (.istore_n 2, 1) := by decide +kernel
theorem dX11_firstTick_4 : decode cX11_firstTick 4 = .ok (.iconst 0, 1) := by decide +kernel
theorem dX11_firstTick_5 : decode cX11_firstTick 5 = .ok (.istore_n 3, 1) := by decide +kernel
theorem dX11_firstTick_6 : decode cX11_firstTick 6 = .ok (.iload_n 3, 1) := by decide +kernel
theorem dX11_firstTick_7 : decode cX11_firstTick 7 = .ok (.bipush 100, 2) := by decide +kernel
theorem dX11_firstTick_9 : decode cX11_firstTick 9 = .ok (.if_icmp .ge 42, 3) := by decide +kernel
theorem dX11_firstTick_12 : decode cX11_firstTick 12 = .ok (.aload_n 0, 1) := by decide +kernel
theorem dX11_firstTick_13 : decode cX11_firstTick 13 = .ok (.iload_n 3, 1) := by decide +kernel
theorem dX11_firstTick_14 : decode cX11_firstTick 14 = .ok (.invokevirtual 333, 3) := by decide +kernel
theorem dX11_firstTick_17 : decode cX11_firstTick 17 = .ok (.ifCond .eq 26, 3) := by decide +kernel
theorem dX11_firstTick_20 : decode cX11_firstTick 20 = .ok (.aload_n 0, 1) := by decide +kernel
theorem dX11_firstTick_21 : decode cX11_firstTick 21 = .ok (.getfield 121, 3) := by decide +kernel
theorem dX11_firstTick_24 : decode cX11_firstTick 24 = .ok (.iload_n 3, 1) := by decide +kernel
theorem dX11_firstTick_25 : decode cX11_firstTick 25 = .ok (.iaload, 1) := by decide +kernel
theorem dX11_firstTick_26 : decode cX11_firstTick 26 = .ok (.iload_n 1, 1) := by decide +kernel
theorem dX11_firstTick_27 : decode cX11_firstTick 27 = .ok (.if_icmp .ne 16, 3) := by decide +kernel
theorem dX11_firstTick_30 : decode cX11_firstTick 30 = .ok (.iload_n 2, 1) := by decide +kernel
theorem dX11_firstTick_31 : decode cX11_firstTick 31 = .ok (.aload_n 0, 1) := by decide +kernel
theorem dX11_firstTick_32 : decode cX11_firstTick 32 = .ok (.getfield 118, 3) := by decide +kernel
theorem dX11_firstTick_35 : decode cX11_firstTick 35 = .ok (.iload_n 3, 1) := by decide +kernel
theorem dX11_firstTick_36 : decode cX11_firstTick 36 = .ok (.iaload, 1) := by decide +kernel
theorem dX11_firstTick_37 : decode cX11_firstTick 37 = .ok (.invokestatic 366, 3) := by decide +kernel
theorem dX11_firstTick_40 : decode cX11_firstTick 40 = .ok (.goto 4, 3) := by decide +kernel
theorem dX11_firstTick_43 : decode cX11_firstTick 43 = .ok (.iload_n 2, 1) := by decide +kernel
theorem dX11_firstTick_44 : decode cX11_firstTick 44 = .ok (.istore_n 2, 1) := by decide +kernel
theorem dX11_firstTick_45 : decode cX11_firstTick 45 = .ok (.iinc 3 1, 3) := by decide +kernel
theorem dX11_firstTick_48 : decode cX11_firstTick 48 = .ok (.goto (-42), 3) := by decide +kernel
theorem dX11_firstTick_51 : decode cX11_firstTick 51 = .ok (.iload_n 2, 1) := by decide +kernel
theorem dX11_firstTick_52 : decode cX11_firstTick 52 = .ok (.ireturn, 1) := by decide +kernel
theorem dX11_lastTick_0 : decode cX11_lastTick 0 = .ok (.iconst (-1), 1) := by decide +kernel
theorem dX11_lastTick_1 : decode cX11_lastTick 1 = .ok (.istore_n 2, 1) := by decide +kernel
theorem dX11_lastTick_2 : decode cX11_lastTick 2 = .ok (.iconst 0, 1) := by decide +kernel
theorem dX11_lastTick_3 : decode cX11_lastTick 3 = .ok (.istore_n 3, 1) := by decide +kernel
theorem dX11_lastTick_4 : decode cX11_lastTick 4 = .ok (.iload_n 3, 1) := by decide +kernel
theorem dX11_lastTick_5 : decode cX11_lastTick 5 = .ok (.bipush 100, 2) := by decide +kernel
theorem dX11_lastTick_7 : decode cX11_lastTick 7 = .ok (.if_icmp .ge 42, 3) := by decide +kernel
theorem dX11_lastTick_10 : decode cX11_lastTick 10 = .ok (.aload_n 0, 1) := by decide +kernel
theorem dX11_lastTick_11 : decode cX11_lastTick 11 = .ok (.iload_n 3, 1) := by decide +kernel
theorem dX11_lastTick_12 : decode cX11_lastTick 12 = .ok (.invokevirtual 333, 3) := by decide +kernel
theorem dX11_lastTick_15 : decode cX11_lastTick 15 = .ok (.ifCond .eq 26, 3) := by decide +kernel
theorem dX11_lastTick_18 : decode cX11_lastTick 18 = .ok (.aload_n 0, 1) := by decide +kernel
theorem dX11_lastTick_19 : decode cX11_lastTick 19 = .ok (.getfield 121, 3) := by decide +kernel
theorem dX11_lastTick_22 : decode cX11_lastTick 22 = .ok (.iload_n 3, 1) := by decide +kernel
theorem dX11_lastTick_23 : decode cX11_lastTick 23 = .ok (.iaload, 1) := by decide +kernel
theorem dX11_lastTick_24 : decode cX11_lastTick 24 = .ok (.iload_n 1, 1) := by decide +kernel
theorem dX11_lastTick_25 : decode cX11_lastTick 25 = .ok (.if_icmp .ne 16, 3) := by decide +kernel
theorem dX11_lastTick_28 : decode cX11_lastTick 28 = .ok (.iload_n 2, 1) := by decide +kernel
theorem dX11_lastTick_29 : decode cX11_lastTick 29 = .ok (.aload_n 0, 1) := by decide +kernel
theorem dX11_lastTick_30 : decode cX11_lastTick 30 = .ok (.getfield 118, 3) := by decide +kernel
theorem dX11_lastTick_33 : decode cX11_lastTick 33 = .ok (.iload_n 3, 1) := by decide +kernel
theorem dX11_lastTick_34 : decode cX11_lastTick 34 = .ok (.iaload, 1) := by decide +kernel
theorem dX11_lastTick_35 : decode cX11_lastTick 35 = .ok (.invokestatic 345, 3) := by decide +kernel
theorem dX11_lastTick_38 : decode cX11_lastTick 38 = .ok (.goto 4, 3) := by decide +kernel
theorem dX11_lastTick_41 : decode cX11_lastTick 41 = .ok (.iload_n 2, 1) := by decide +kernel
theorem dX11_lastTick_42 : decode cX11_lastTick 42 = .ok (.istore_n 2, 1) := by decide +kernel
theorem dX11_lastTick_43 : decode cX11_lastTick 43 = .ok (.iinc 3 1, 3) := by decide +kernel
theorem dX11_lastTick_46 : decode cX11_lastTick 46 = .ok (.goto (-42), 3) := by decide +kernel
theorem dX11_lastTick_49 : decode cX11_lastTick 49 = .ok (.iload_n 2, 1) := by decide +kernel
theorem dX11_lastTick_50 : decode cX11_lastTick 50 = .ok (.ireturn, 1) := by decide +kernel
theorem dX11_pointsOf_0 : decode cX11_pointsOf 0 = .ok (.iconst 0, 1) := by decide +kernel
theorem dX11_pointsOf_1 : decode cX11_pointsOf 1 = .ok (.istore_n 2, 1) := by decide +kernel
theorem dX11_pointsOf_2 : decode cX11_pointsOf 2 = .ok (.iconst 0, 1) := by decide +kernel
theorem dX11_pointsOf_3 : decode cX11_pointsOf 3 = .ok (.istore_n 3, 1) := by decide +kernel
theorem dX11_pointsOf_4 : decode cX11_pointsOf 4 = .ok (.iload_n 3, 1) := by decide +kernel
theorem dX11_pointsOf_5 : decode cX11_pointsOf 5 = .ok (.bipush 100, 2) := by decide +kernel
theorem dX11_pointsOf_7 : decode cX11_pointsOf 7 = .ok (.if_icmp .ge 35, 3) := by decide +kernel
theorem dX11_pointsOf_10 : decode cX11_pointsOf 10 = .ok (.iload_n 2, 1) := by decide +kernel
theorem dX11_pointsOf_11 : decode cX11_pointsOf 11 = .ok (.aload_n 0, 1) := by decide +kernel
theorem dX11_pointsOf_12 : decode cX11_pointsOf 12 = .ok (.iload_n 3, 1) := by decide +kernel
theorem dX11_pointsOf_13 : decode cX11_pointsOf 13 = .ok (.invokevirtual 333, 3) := by decide +kernel
theorem dX11_pointsOf_16 : decode cX11_pointsOf 16 = .ok (.ifCond .eq 17, 3) := by decide +kernel
theorem dX11_pointsOf_19 : decode cX11_pointsOf 19 = .ok (.aload_n 0, 1) := by decide +kernel
theorem dX11_pointsOf_20 : decode cX11_pointsOf 20 = .ok (.getfield 121, 3) := by decide +kernel
theorem dX11_pointsOf_23 : decode cX11_pointsOf 23 = .ok (.iload_n 3, 1) := by decide +kernel
theorem dX11_pointsOf_24 : decode cX11_pointsOf 24 = .ok (.iaload, 1) := by decide +kernel
theorem dX11_pointsOf_25 : decode cX11_pointsOf 25 = .ok (.iload_n 1, 1) := by decide +kernel
theorem dX11_pointsOf_26 : decode cX11_pointsOf 26 = .ok (.if_icmp .ne 7, 3) := by decide +kernel
theorem dX11_pointsOf_29 : decode cX11_pointsOf 29 = .ok (.iconst 1, 1) := by decide +kernel
theorem dX11_pointsOf_30 : decode cX11_pointsOf 30 = .ok (.goto 4, 3) := by decide +kernel
theorem dX11_pointsOf_33 : decode cX11_pointsOf 33 = .ok (.iconst 0, 1) := by decide +kernel
theorem dX11_pointsOf_34 : decode cX11_pointsOf 34 = .ok (.iadd, 1) := by decide +kernel
theorem dX11_pointsOf_35 : decode cX11_pointsOf 35 = .ok (.istore_n 2, 1) := by decide +kernel
theorem dX11_pointsOf_36 : decode cX11_pointsOf 36 = .ok (.iinc 3 1, 3) := by decide +kernel
theorem dX11_pointsOf_39 : decode cX11_pointsOf 39 = .ok (.goto (-35), 3) := by decide +kernel
theorem dX11_pointsOf_42 : decode cX11_pointsOf 42 = .ok (.iload_n 2, 1) := by decide +kernel
theorem dX11_pointsOf_43 : decode cX11_pointsOf 43 = .ok (.ireturn, 1) := by decide +kernel
theorem dX11_moreWrong_0 : decode cX11_moreWrong 0 = .ok (.aload_n 0, 1) := by decide +kernel
theorem dX11_moreWrong_1 : decode cX11_moreWrong 1 = .ok (.invokevirtual 464, 3) := by decide +kernel
theorem dX11_moreWrong_4 : decode cX11_moreWrong 4 = .ok (.istore_n 2, 1) := by decide +kernel
theorem dX11_moreWrong_5 : decode cX11_moreWrong 5 = .ok (.aload_n 0, 1) := by decide +kernel
theorem dX11_moreWrong_6 : decode cX11_moreWrong 6 = .ok (.getfield 115, 3) := by decide +kernel
theorem dX11_moreWrong_9 : decode cX11_moreWrong 9 = .ok (.iconst 5, 1) := by decide +kernel
theorem dX11_moreWrong_10 : decode cX11_moreWrong 10 = .ok (.iload_n 1, 1) := by decide +kernel
theorem dX11_moreWrong_11 : decode cX11_moreWrong 11 = .ok (.iadd, 1) := by decide +kernel
theorem dX11_moreWrong_12 : decode cX11_moreWrong 12 = .ok (.iaload, 1) := by decide +kernel
theorem dX11_moreWrong_13 : decode cX11_moreWrong 13 = .ok (.istore_n 3, 1) := by decide +kernel
theorem dX11_moreWrong_14 : decode cX11_moreWrong 14 = .ok (.aload_n 0, 1) := by decide +kernel
theorem dX11_moreWrong_15 : decode cX11_moreWrong 15 = .ok (.getfield 115, 3) := by decide +kernel
theorem dX11_moreWrong_18 : decode cX11_moreWrong 18 = .ok (.iconst 5, 1) := by decide +kernel
theorem dX11_moreWrong_19 : decode cX11_moreWrong 19 = .ok (.iload_n 1, 1) := by decide +kernel
theorem dX11_moreWrong_20 : decode cX11_moreWrong 20 = .ok (.iadd, 1) := by decide +kernel
theorem dX11_moreWrong_21 : decode cX11_moreWrong 21 = .ok (.iconst 1, 1) := by decide +kernel
theorem dX11_moreWrong_22 : decode cX11_moreWrong 22 = .ok (.iastore, 1) := by decide +kernel
theorem dX11_moreWrong_23 : decode cX11_moreWrong 23 = .ok (.aload_n 0, 1) := by decide +kernel
theorem dX11_moreWrong_24 : decode cX11_moreWrong 24 = .ok (.invokevirtual 464, 3) := by decide +kernel
theorem dX11_moreWrong_27 : decode cX11_moreWrong 27 = .ok (.istore 4, 2) := by decide +kernel
theorem dX11_moreWrong_29 : decode cX11_moreWrong 29 = .ok (.aload_n 0, 1) := by decide +kernel
theorem dX11_moreWrong_30 : decode cX11_moreWrong 30 = .ok (.getfield 115, 3) := by decide +kernel
theorem dX11_moreWrong_33 : decode cX11_moreWrong 33 = .ok (.iconst 5, 1) := by decide +kernel
theorem dX11_moreWrong_34 : decode cX11_moreWrong 34 = .ok (.iload_n 1, 1) := by decide +kernel
theorem dX11_moreWrong_35 : decode cX11_moreWrong 35 = .ok (.iadd, 1) := by decide +kernel
theorem dX11_moreWrong_36 : decode cX11_moreWrong 36 = .ok (.iload_n 3, 1) := by decide +kernel
theorem dX11_moreWrong_37 : decode cX11_moreWrong 37 = .ok (.iastore, 1) := by decide +kernel
theorem dX11_moreWrong_38 : decode cX11_moreWrong 38 = .ok (.iload 4, 2) := by decide +kernel
theorem dX11_moreWrong_40 : decode cX11_moreWrong 40 = .ok (.iload_n 2, 1) := by decide +kernel
theorem dX11_moreWrong_41 : decode cX11_moreWrong 41 = .ok (.isub, 1) := by decide +kernel
theorem dX11_moreWrong_42 : decode cX11_moreWrong 42 = .ok (.ireturn, 1) := by decide +kernel
theorem dX11_busy_0 : decode cX11_busy 0 = .ok (.aload_n 0, 1) := by decide +kernel
theorem dX11_busy_1 : decode cX11_busy 1 = .ok (.iload_n 1, 1) := by decide +kernel
theorem dX11_busy_2 : decode cX11_busy 2 = .ok (.invokevirtual 470, 3) := by decide +kernel
theorem dX11_busy_5 : decode cX11_busy 5 = .ok (.ifCond .ne 7, 3) := by decide +kernel
theorem dX11_busy_8 : decode cX11_busy 8 = .ok (.sipush (-1000), 3) := by decide +kernel
theorem dX11_busy_11 : decode cX11_busy 11 = .ok (.ireturn, 1) := by decide +kernel
theorem dX11_busy_12 : decode cX11_busy 12 = .ok (.iload_n 2, 1) := by decide +kernel
theorem dX11_busy_13 : decode cX11_busy 13 = .ok (.tableswitch 68 0 4 #[35, 41, 47, 53, 62], 35) := by decide +kernel
theorem dX11_busy_48 : decode cX11_busy 48 = .ok (.aload_n 0, 1) := by decide +kernel
theorem dX11_busy_49 : decode cX11_busy 49 = .ok (.iload_n 1, 1) := by decide +kernel
theorem dX11_busy_50 : decode cX11_busy 50 = .ok (.invokevirtual 473, 3) := by decide +kernel
theorem dX11_busy_53 : decode cX11_busy 53 = .ok (.ireturn, 1) := by decide +kernel
theorem dX11_busy_54 : decode cX11_busy 54 = .ok (.aload_n 0, 1) := by decide +kernel
theorem dX11_busy_55 : decode cX11_busy 55 = .ok (.iload_n 1, 1) := by decide +kernel
theorem dX11_busy_56 : decode cX11_busy 56 = .ok (.invokevirtual 476, 3) := by decide +kernel
theorem dX11_busy_59 : decode cX11_busy 59 = .ok (.ireturn, 1) := by decide +kernel
theorem dX11_busy_60 : decode cX11_busy 60 = .ok (.aload_n 0, 1) := by decide +kernel
theorem dX11_busy_61 : decode cX11_busy 61 = .ok (.iload_n 1, 1) := by decide +kernel
theorem dX11_busy_62 : decode cX11_busy 62 = .ok (.invokevirtual 479, 3) := by decide +kernel
theorem dX11_busy_65 : decode cX11_busy 65 = .ok (.ireturn, 1) := by decide +kernel
theorem dX11_busy_66 : decode cX11_busy 66 = .ok (.aload_n 0, 1) := by decide +kernel
theorem dX11_busy_67 : decode cX11_busy 67 = .ok (.getfield 115, 3) := by decide +kernel
theorem dX11_busy_70 : decode cX11_busy 70 = .ok (.iconst 5, 1) := by decide +kernel
theorem dX11_busy_71 : decode cX11_busy 71 = .ok (.iload_n 1, 1) := by decide +kernel
theorem dX11_busy_72 : decode cX11_busy 72 = .ok (.iadd, 1) := by decide +kernel
theorem dX11_busy_73 : decode cX11_busy 73 = .ok (.iaload, 1) := by decide +kernel
theorem dX11_busy_74 : decode cX11_busy 74 = .ok (.ireturn, 1) := by decide +kernel
theorem dX11_busy_75 : decode cX11_busy 75 = .ok (.aload_n 0, 1) := by decide +kernel
theorem dX11_busy_76 : decode cX11_busy 76 = .ok (.iload_n 1, 1) := by decide +kernel
theorem dX11_busy_77 : decode cX11_busy 77 = .ok (.invokevirtual 482, 3) := by decide +kernel
theorem dX11_busy_80 : decode cX11_busy 80 = .ok (.ireturn, 1) := by decide +kernel
theorem dX11_busy_81 : decode cX11_busy 81 = .ok (.sipush (-1000), 3) := by decide +kernel
theorem dX11_busy_84 : decode cX11_busy 84 = .ok (.ireturn, 1) := by decide +kernel
theorem dX11_idle_0 : decode cX11_idle 0 = .ok (.aload_n 0, 1) := by decide +kernel
theorem dX11_idle_1 : decode cX11_idle 1 = .ok (.iload_n 1, 1) := by decide +kernel
theorem dX11_idle_2 : decode cX11_idle 2 = .ok (.invokevirtual 470, 3) := by decide +kernel
theorem dX11_idle_5 : decode cX11_idle 5 = .ok (.ifCond .ne 5, 3) := by decide +kernel
theorem dX11_idle_8 : decode cX11_idle 8 = .ok (.iconst (-1), 1) := by decide +kernel
theorem dX11_idle_9 : decode cX11_idle 9 = .ok (.ireturn, 1) := by decide +kernel
theorem dX11_idle_10 : decode cX11_idle 10 = .ok (.iconst 0, 1) := by decide +kernel
theorem dX11_idle_11 : decode cX11_idle 11 = .ok (.istore_n 2, 1) := by decide +kernel
theorem dX11_idle_12 : decode cX11_idle 12 = .ok (.iconst 0, 1) := by decide +kernel
theorem dX11_idle_13 : decode cX11_idle 13 = .ok (.istore_n 3, 1) := by decide +kernel
theorem dX11_idle_14 : decode cX11_idle 14 = .ok (.aload_n 0, 1) := by decide +kernel
theorem dX11_idle_15 : decode cX11_idle 15 = .ok (.iload_n 1, 1) := by decide +kernel
theorem dX11_idle_16 : decode cX11_idle 16 = .ok (.invokevirtual 476, 3) := by decide +kernel
theorem dX11_idle_19 : decode cX11_idle 19 = .ok (.istore 4, 2) := by decide +kernel
theorem dX11_idle_21 : decode cX11_idle 21 = .ok (.iload 4, 2) := by decide +kernel
theorem dX11_idle_23 : decode cX11_idle 23 = .ok (.aload_n 0, 1) := by decide +kernel
theorem dX11_idle_24 : decode cX11_idle 24 = .ok (.iload_n 1, 1) := by decide +kernel
theorem dX11_idle_25 : decode cX11_idle 25 = .ok (.invokevirtual 479, 3) := by decide +kernel
theorem dX11_idle_28 : decode cX11_idle 28 = .ok (.if_icmp .gt 33, 3) := by decide +kernel
theorem dX11_idle_31 : decode cX11_idle 31 = .ok (.aload_n 0, 1) := by decide +kernel
theorem dX11_idle_32 : decode cX11_idle 32 = .ok (.iload_n 1, 1) := by decide +kernel
theorem dX11_idle_33 : decode cX11_idle 33 = .ok (.iload 4, 2) := by decide +kernel
theorem dX11_idle_35 : decode cX11_idle 35 = .ok (.invokevirtual 485, 3) := by decide +kernel
theorem dX11_idle_38 : decode cX11_idle 38 = .ok (.ifCond .eq 7, 3) := by decide +kernel
theorem dX11_idle_41 : decode cX11_idle 41 = .ok (.iconst 0, 1) := by decide +kernel
theorem dX11_idle_42 : decode cX11_idle 42 = .ok (.goto 6, 3) := by decide +kernel
theorem dX11_idle_45 : decode cX11_idle 45 = .ok (.iload_n 3, 1) := by decide +kernel
theorem dX11_idle_46 : decode cX11_idle 46 = .ok (.iconst 1, 1) := by decide +kernel
theorem dX11_idle_47 : decode cX11_idle 47 = .ok (.iadd, 1) := by decide +kernel
theorem dX11_idle_48 : decode cX11_idle 48 = .ok (.istore_n 3, 1) := by decide +kernel
theorem dX11_idle_49 : decode cX11_idle 49 = .ok (.iload_n 2, 1) := by decide +kernel
theorem dX11_idle_50 : decode cX11_idle 50 = .ok (.iload_n 3, 1) := by decide +kernel
theorem dX11_idle_51 : decode cX11_idle 51 = .ok (.invokestatic 345, 3) := by decide +kernel
theorem dX11_idle_54 : decode cX11_idle 54 = .ok (.istore_n 2, 1) := by decide +kernel
theorem dX11_idle_55 : decode cX11_idle 55 = .ok (.iinc 4 1, 3) := by decide +kernel
theorem dX11_idle_58 : decode cX11_idle 58 = .ok (.goto (-37), 3) := by decide +kernel
theorem dX11_idle_61 : decode cX11_idle 61 = .ok (.iload_n 2, 1) := by decide +kernel
theorem dX11_idle_62 : decode cX11_idle 62 = .ok (.ireturn, 1) := by decide +kernel
theorem dX11_hasPoint_0 : decode cX11_hasPoint 0 = .ok (.iconst 0, 1) := by decide +kernel
theorem dX11_hasPoint_1 : decode cX11_hasPoint 1 = .ok (.istore_n 3, 1) := by decide +kernel
theorem dX11_hasPoint_2 : decode cX11_hasPoint 2 = .ok (.iload_n 3, 1) := by decide +kernel
theorem dX11_hasPoint_3 : decode cX11_hasPoint 3 = .ok (.bipush 100, 2) := by decide +kernel
theorem dX11_hasPoint_5 : decode cX11_hasPoint 5 = .ok (.if_icmp .ge 39, 3) := by decide +kernel
theorem dX11_hasPoint_8 : decode cX11_hasPoint 8 = .ok (.aload_n 0, 1) := by decide +kernel
theorem dX11_hasPoint_9 : decode cX11_hasPoint 9 = .ok (.iload_n 3, 1) := by decide +kernel
theorem dX11_hasPoint_10 : decode cX11_hasPoint 10 = .ok (.invokevirtual 333, 3) := by decide +kernel
theorem dX11_hasPoint_13 : decode cX11_hasPoint 13 = .ok (.ifCond .eq 25, 3) := by decide +kernel
theorem dX11_hasPoint_16 : decode cX11_hasPoint 16 = .ok (.aload_n 0, 1) := by decide +kernel
theorem dX11_hasPoint_17 : decode cX11_hasPoint 17 = .ok (.getfield 121, 3) := by decide +kernel
theorem dX11_hasPoint_20 : decode cX11_hasPoint 20 = .ok (.iload_n 3, 1) := by decide +kernel
theorem dX11_hasPoint_21 : decode cX11_hasPoint 21 = .ok (.iaload, 1) := by decide +kernel
theorem dX11_hasPoint_22 : decode cX11_hasPoint 22 = .ok (.iload_n 1, 1) := by decide +kernel
theorem dX11_hasPoint_23 : decode cX11_hasPoint 23 = .ok (.if_icmp .ne 15, 3) := by decide +kernel
theorem dX11_hasPoint_26 : decode cX11_hasPoint 26 = .ok (.aload_n 0, 1) := by decide +kernel
theorem dX11_hasPoint_27 : decode cX11_hasPoint 27 = .ok (.getfield 118, 3) := by decide +kernel
theorem dX11_hasPoint_30 : decode cX11_hasPoint 30 = .ok (.iload_n 3, 1) := by decide +kernel
theorem dX11_hasPoint_31 : decode cX11_hasPoint 31 = .ok (.iaload, 1) := by decide +kernel
theorem dX11_hasPoint_32 : decode cX11_hasPoint 32 = .ok (.iload_n 2, 1) := by decide +kernel
theorem dX11_hasPoint_33 : decode cX11_hasPoint 33 = .ok (.if_icmp .ne 5, 3) := by decide +kernel
theorem dX11_hasPoint_36 : decode cX11_hasPoint 36 = .ok (.iconst 1, 1) := by decide +kernel
theorem dX11_hasPoint_37 : decode cX11_hasPoint 37 = .ok (.ireturn, 1) := by decide +kernel
theorem dX11_hasPoint_38 : decode cX11_hasPoint 38 = .ok (.iinc 3 1, 3) := by decide +kernel
theorem dX11_hasPoint_41 : decode cX11_hasPoint 41 = .ok (.goto (-39), 3) := by decide +kernel
theorem dX11_hasPoint_44 : decode cX11_hasPoint 44 = .ok (.iconst 0, 1) := by decide +kernel
theorem dX11_hasPoint_45 : decode cX11_hasPoint 45 = .ok (.ireturn, 1) := by decide +kernel
theorem dX11_edgesBy_0 : decode cX11_edgesBy 0 = .ok (.iconst 0, 1) := by decide +kernel
theorem dX11_edgesBy_1 : decode cX11_edgesBy 1 = .ok (.istore_n 2, 1) := by decide +kernel
theorem dX11_edgesBy_2 : decode cX11_edgesBy 2 = .ok (.iconst 0, 1) := by decide +kernel
theorem dX11_edgesBy_3 : decode cX11_edgesBy 3 = .ok (.istore_n 3, 1) := by decide +kernel
theorem dX11_edgesBy_4 : decode cX11_edgesBy 4 = .ok (.iload_n 3, 1) := by decide +kernel
theorem dX11_edgesBy_5 : decode cX11_edgesBy 5 = .ok (.aload_n 0, 1) := by decide +kernel
theorem dX11_edgesBy_6 : decode cX11_edgesBy 6 = .ok (.getfield 22, 3) := by decide +kernel
theorem dX11_edgesBy_9 : decode cX11_edgesBy 9 = .ok (.aload_n 0, 1) := by decide +kernel
theorem dX11_edgesBy_10 : decode cX11_edgesBy 10 = .ok (.getfield 306, 3) := by decide +kernel
theorem dX11_edgesBy_13 : decode cX11_edgesBy 13 = .ok (.iaload, 1) := by decide +kernel
theorem dX11_edgesBy_14 : decode cX11_edgesBy 14 = .ok (.if_icmp .ge 62, 3) := by decide +kernel
theorem dX11_edgesBy_17 : decode cX11_edgesBy 17 = .ok (.iload_n 2, 1) := by decide +kernel
theorem dX11_edgesBy_18 : decode cX11_edgesBy 18 = .ok (.aload_n 0, 1) := by decide +kernel
theorem dX11_edgesBy_19 : decode cX11_edgesBy 19 = .ok (.iload_n 1, 1) := by decide +kernel
theorem dX11_edgesBy_20 : decode cX11_edgesBy 20 = .ok (.bipush 10, 2) := by decide +kernel
theorem dX11_edgesBy_22 : decode cX11_edgesBy 22 = .ok (.idiv, 1) := by decide +kernel
theorem dX11_edgesBy_23 : decode cX11_edgesBy 23 = .ok (.aload_n 0, 1) := by decide +kernel
theorem dX11_edgesBy_24 : decode cX11_edgesBy 24 = .ok (.getfield 46, 3) := by decide +kernel
theorem dX11_edgesBy_27 : decode cX11_edgesBy 27 = .ok (.bipush 12, 2) := by decide +kernel
theorem dX11_edgesBy_29 : decode cX11_edgesBy 29 = .ok (.aload_n 0, 1) := by decide +kernel
theorem dX11_edgesBy_30 : decode cX11_edgesBy 30 = .ok (.getfield 306, 3) := by decide +kernel
theorem dX11_edgesBy_33 : decode cX11_edgesBy 33 = .ok (.imul, 1) := by decide +kernel
theorem dX11_edgesBy_34 : decode cX11_edgesBy 34 = .ok (.iload_n 3, 1) := by decide +kernel
theorem dX11_edgesBy_35 : decode cX11_edgesBy 35 = .ok (.iadd, 1) := by decide +kernel
theorem dX11_edgesBy_36 : decode cX11_edgesBy 36 = .ok (.iaload, 1) := by decide +kernel
theorem dX11_edgesBy_37 : decode cX11_edgesBy 37 = .ok (.iadd, 1) := by decide +kernel
theorem dX11_edgesBy_38 : decode cX11_edgesBy 38 = .ok (.iload_n 1, 1) := by decide +kernel
theorem dX11_edgesBy_39 : decode cX11_edgesBy 39 = .ok (.bipush 10, 2) := by decide +kernel
theorem dX11_edgesBy_41 : decode cX11_edgesBy 41 = .ok (.irem, 1) := by decide +kernel
theorem dX11_edgesBy_42 : decode cX11_edgesBy 42 = .ok (.aload_n 0, 1) := by decide +kernel
theorem dX11_edgesBy_43 : decode cX11_edgesBy 43 = .ok (.getfield 49, 3) := by decide +kernel
theorem dX11_edgesBy_46 : decode cX11_edgesBy 46 = .ok (.bipush 12, 2) := by decide +kernel
theorem dX11_edgesBy_48 : decode cX11_edgesBy 48 = .ok (.aload_n 0, 1) := by decide +kernel
theorem dX11_edgesBy_49 : decode cX11_edgesBy 49 = .ok (.getfield 306, 3) := by decide +kernel
theorem dX11_edgesBy_52 : decode cX11_edgesBy 52 = .ok (.imul, 1) := by decide +kernel
theorem dX11_edgesBy_53 : decode cX11_edgesBy 53 = .ok (.iload_n 3, 1) := by decide +kernel
theorem dX11_edgesBy_54 : decode cX11_edgesBy 54 = .ok (.iadd, 1) := by decide +kernel
theorem dX11_edgesBy_55 : decode cX11_edgesBy 55 = .ok (.iaload, 1) := by decide +kernel
theorem dX11_edgesBy_56 : decode cX11_edgesBy 56 = .ok (.iadd, 1) := by decide +kernel
theorem dX11_edgesBy_57 : decode cX11_edgesBy 57 = .ok (.invokevirtual 324, 3) := by decide +kernel
theorem dX11_edgesBy_60 : decode cX11_edgesBy 60 = .ok (.ifCond .eq 7, 3) := by decide +kernel
theorem dX11_edgesBy_63 : decode cX11_edgesBy 63 = .ok (.iconst 0, 1) := by decide +kernel
theorem dX11_edgesBy_64 : decode cX11_edgesBy 64 = .ok (.goto 4, 3) := by decide +kernel
theorem dX11_edgesBy_67 : decode cX11_edgesBy 67 = .ok (.iconst 1, 1) := by decide +kernel
theorem dX11_edgesBy_68 : decode cX11_edgesBy 68 = .ok (.iadd, 1) := by decide +kernel
theorem dX11_edgesBy_69 : decode cX11_edgesBy 69 = .ok (.istore_n 2, 1) := by decide +kernel
theorem dX11_edgesBy_70 : decode cX11_edgesBy 70 = .ok (.iinc 3 1, 3) := by decide +kernel
theorem dX11_edgesBy_73 : decode cX11_edgesBy 73 = .ok (.goto (-69), 3) := by decide +kernel
theorem dX11_edgesBy_76 : decode cX11_edgesBy 76 = .ok (.iload_n 2, 1) := by decide +kernel
theorem dX11_edgesBy_77 : decode cX11_edgesBy 77 = .ok (.ireturn, 1) := by decide +kernel
theorem dX11_hasReader_0 : decode cX11_hasReader 0 = .ok (.iconst 0, 1) := by decide +kernel
theorem dX11_hasReader_1 : decode cX11_hasReader 1 = .ok (.istore_n 2, 1) := by decide +kernel
theorem dX11_hasReader_2 : decode cX11_hasReader 2 = .ok (.iload_n 2, 1) := by decide +kernel
theorem dX11_hasReader_3 : decode cX11_hasReader 3 = .ok (.aload_n 0, 1) := by decide +kernel
theorem dX11_hasReader_4 : decode cX11_hasReader 4 = .ok (.invokevirtual 339, 3) := by decide +kernel
theorem dX11_hasReader_7 : decode cX11_hasReader 7 = .ok (.if_icmp .ge 20, 3) := by decide +kernel
theorem dX11_hasReader_10 : decode cX11_hasReader 10 = .ok (.aload_n 0, 1) := by decide +kernel
theorem dX11_hasReader_11 : decode cX11_hasReader 11 = .ok (.iload_n 1, 1) := by decide +kernel
theorem dX11_hasReader_12 : decode cX11_hasReader 12 = .ok (.iload_n 2, 1) := by decide +kernel
theorem dX11_hasReader_13 : decode cX11_hasReader 13 = .ok (.invokevirtual 354, 3) := by decide +kernel
theorem dX11_hasReader_16 : decode cX11_hasReader 16 = .ok (.ifCond .lt 5, 3) := by decide +kernel
theorem dX11_hasReader_19 : decode cX11_hasReader 19 = .ok (.iconst 1, 1) := by decide +kernel
theorem dX11_hasReader_20 : decode cX11_hasReader 20 = .ok (.ireturn, 1) := by decide +kernel
theorem dX11_hasReader_21 : decode cX11_hasReader 21 = .ok (.iinc 2 1, 3) := by decide +kernel
theorem dX11_hasReader_24 : decode cX11_hasReader 24 = .ok (.goto (-22), 3) := by decide +kernel
theorem dX11_hasReader_27 : decode cX11_hasReader 27 = .ok (.iconst 0, 1) := by decide +kernel
theorem dX11_hasReader_28 : decode cX11_hasReader 28 = .ok (.ireturn, 1) := by decide +kernel
theorem dX11_flow_0 : decode cX11_flow 0 = .ok (.iload_n 1, 1) := by decide +kernel
theorem dX11_flow_1 : decode cX11_flow 1 = .ok (.ifCond .lt 12, 3) := by decide +kernel
theorem dX11_flow_4 : decode cX11_flow 4 = .ok (.iload_n 2, 1) := by decide +kernel
theorem dX11_flow_5 : decode cX11_flow 5 = .ok (.iconst 0, 1) := by decide +kernel
theorem dX11_flow_6 : decode cX11_flow 6 = .ok (.iconst 1, 1) := by decide +kernel
theorem dX11_flow_7 : decode cX11_flow 7 = .ok (.invokestatic 221, 3) := by decide +kernel
theorem dX11_flow_10 : decode cX11_flow 10 = .ok (.ifCond .ne 5, 3) := by decide +kernel
theorem dX11_flow_13 : decode cX11_flow 13 = .ok (.iconst (-1), 1) := by decide +kernel
theorem dX11_flow_14 : decode cX11_flow 14 = .ok (.ireturn, 1) := by decide +kernel
theorem dX11_flow_15 : decode cX11_flow 15 = .ok (.aload_n 0, 1) := by decide +kernel
theorem dX11_flow_16 : decode cX11_flow 16 = .ok (.invokevirtual 437, 3) := by decide +kernel
theorem dX11_flow_19 : decode cX11_flow 19 = .ok (.iconst 0, 1) := by decide +kernel
theorem dX11_flow_20 : decode cX11_flow 20 = .ok (.istore_n 3, 1) := by decide +kernel
theorem dX11_flow_21 : decode cX11_flow 21 = .ok (.iconst 0, 1) := by decide +kernel
theorem dX11_flow_22 : decode cX11_flow 22 = .ok (.istore 4, 2) := by decide +kernel
theorem dX11_flow_24 : decode cX11_flow 24 = .ok (.iload 4, 2) := by decide +kernel
theorem dX11_flow_26 : decode cX11_flow 26 = .ok (.bipush 100, 2) := by decide +kernel
theorem dX11_flow_28 : decode cX11_flow 28 = .ok (.if_icmp .ge 72, 3) := by decide +kernel
theorem dX11_flow_31 : decode cX11_flow 31 = .ok (.aload_n 0, 1) := by decide +kernel
theorem dX11_flow_32 : decode cX11_flow 32 = .ok (.iload 4, 2) := by decide +kernel
theorem dX11_flow_34 : decode cX11_flow 34 = .ok (.invokevirtual 333, 3) := by decide +kernel
theorem dX11_flow_37 : decode cX11_flow 37 = .ok (.ifCond .eq 57, 3) := by decide +kernel
theorem dX11_flow_40 : decode cX11_flow 40 = .ok (.aload_n 0, 1) := by decide +kernel
theorem dX11_flow_41 : decode cX11_flow 41 = .ok (.getfield 118, 3) := by decide +kernel
theorem dX11_flow_44 : decode cX11_flow 44 = .ok (.iload 4, 2) := by decide +kernel
theorem dX11_flow_46 : decode cX11_flow 46 = .ok (.iaload, 1) := by decide +kernel
theorem dX11_flow_47 : decode cX11_flow 47 = .ok (.iload_n 1, 1) := by decide +kernel
theorem dX11_flow_48 : decode cX11_flow 48 = .ok (.if_icmp .ne 46, 3) := by decide +kernel
theorem dX11_flow_51 : decode cX11_flow 51 = .ok (.aload_n 0, 1) := by decide +kernel
theorem dX11_flow_52 : decode cX11_flow 52 = .ok (.getfield 124, 3) := by decide +kernel
theorem dX11_flow_55 : decode cX11_flow 55 = .ok (.iload 4, 2) := by decide +kernel
theorem dX11_flow_57 : decode cX11_flow 57 = .ok (.baload, 1) := by decide +kernel
theorem dX11_flow_58 : decode cX11_flow 58 = .ok (.ifCond .eq 6, 3) := by decide +kernel
theorem dX11_flow_61 : decode cX11_flow 61 = .ok (.goto 33, 3) := by decide +kernel
theorem dX11_flow_64 : decode cX11_flow 64 = .ok (.iload_n 3, 1) := by decide +kernel
theorem dX11_flow_65 : decode cX11_flow 65 = .ok (.iload_n 2, 1) := by decide +kernel
theorem dX11_flow_66 : decode cX11_flow 66 = .ok (.ifCond .ne 12, 3) := by decide +kernel
theorem dX11_flow_69 : decode cX11_flow 69 = .ok (.aload_n 0, 1) := by decide +kernel
theorem dX11_flow_70 : decode cX11_flow 70 = .ok (.iload 4, 2) := by decide +kernel
theorem dX11_flow_72 : decode cX11_flow 72 = .ok (.invokevirtual 488, 3) := by decide +kernel
theorem dX11_flow_75 : decode cX11_flow 75 = .ok (.goto 17, 3) := by decide +kernel
theorem dX11_flow_78 : decode cX11_flow 78 = .ok (.aload_n 0, 1) := by decide +kernel
theorem dX11_flow_79 : decode cX11_flow 79 = .ok (.iload 4, 2) := by decide +kernel
theorem dX11_flow_81 : decode cX11_flow 81 = .ok (.invokevirtual 491, 3) := by decide +kernel
theorem dX11_flow_84 : decode cX11_flow 84 = .ok (.ifCond .eq 7, 3) := by decide +kernel
theorem dX11_flow_87 : decode cX11_flow 87 = .ok (.iconst 0, 1) := by decide +kernel
theorem dX11_flow_88 : decode cX11_flow 88 = .ok (.goto 4, 3) := by decide +kernel
theorem dX11_flow_91 : decode cX11_flow 91 = .ok (.iconst 1, 1) := by decide +kernel
theorem dX11_flow_92 : decode cX11_flow 92 = .ok (.iadd, 1) := by decide +kernel
theorem dX11_flow_93 : decode cX11_flow 93 = .ok (.istore_n 3, 1) := by decide +kernel
theorem dX11_flow_94 : decode cX11_flow 94 = .ok (.iinc 4 1, 3) := by decide +kernel
theorem dX11_flow_97 : decode cX11_flow 97 = .ok (.goto (-73), 3) := by decide +kernel
theorem dX11_flow_100 : decode cX11_flow 100 = .ok (.iload_n 3, 1) := by decide +kernel
theorem dX11_flow_101 : decode cX11_flow 101 = .ok (.ireturn, 1) := by decide +kernel
theorem dX11_beginBest_0 : decode cX11_beginBest 0 = .ok (.aload_n 0, 1) := by decide +kernel
theorem dX11_beginBest_1 : decode cX11_beginBest 1 = .ok (.iconst 0, 1) := by decide +kernel
theorem dX11_beginBest_2 : decode cX11_beginBest 2 = .ok (.putfield 494, 3) := by decide +kernel
theorem dX11_beginBest_5 : decode cX11_beginBest 5 = .ok (.aload_n 0, 1) := by decide +kernel
theorem dX11_beginBest_6 : decode cX11_beginBest 6 = .ok (.ldc_w 414, 3) := by decide +kernel
theorem dX11_beginBest_9 : decode cX11_beginBest 9 = .ok (.putfield 497, 3) := by decide +kernel
theorem dX11_beginBest_12 : decode cX11_beginBest 12 = .ok (.aload_n 0, 1) := by decide +kernel
theorem dX11_beginBest_13 : decode cX11_beginBest 13 = .ok (.iconst 0, 1) := by decide +kernel
theorem dX11_beginBest_14 : decode cX11_beginBest 14 = .ok (.putfield 500, 3) := by decide +kernel
theorem dX11_beginBest_17 : decode cX11_beginBest 17 = .ok (.aload_n 0, 1) := by decide +kernel
theorem dX11_beginBest_18 : decode cX11_beginBest 18 = .ok (.iconst 0, 1) := by decide +kernel
theorem dX11_beginBest_19 : decode cX11_beginBest 19 = .ok (.putfield 503, 3) := by decide +kernel
theorem dX11_beginBest_22 : decode cX11_beginBest 22 = .ok (.aload_n 0, 1) := by decide +kernel
theorem dX11_beginBest_23 : decode cX11_beginBest 23 = .ok (.iconst 0, 1) := by decide +kernel
theorem dX11_beginBest_24 : decode cX11_beginBest 24 = .ok (.putfield 506, 3) := by decide +kernel
theorem dX11_beginBest_27 : decode cX11_beginBest 27 = .ok (.aload_n 0, 1) := by decide +kernel
theorem dX11_beginBest_28 : decode cX11_beginBest 28 = .ok (.iconst 0, 1) := by decide +kernel
theorem dX11_beginBest_29 : decode cX11_beginBest 29 = .ok (.putfield 509, 3) := by decide +kernel
theorem dX11_beginBest_32 : decode cX11_beginBest 32 = .ok (.return_, 1) := by decide +kernel
theorem dX11_weigh_0 : decode cX11_weigh 0 = .ok (.aload_n 0, 1) := by decide +kernel
theorem dX11_weigh_1 : decode cX11_weigh 1 = .ok (.dup, 1) := by decide +kernel
theorem dX11_weigh_2 : decode cX11_weigh 2 = .ok (.getfield 494, 3) := by decide +kernel
theorem dX11_weigh_5 : decode cX11_weigh 5 = .ok (.iconst 1, 1) := by decide +kernel
theorem dX11_weigh_6 : decode cX11_weigh 6 = .ok (.iadd, 1) := by decide +kernel
theorem dX11_weigh_7 : decode cX11_weigh 7 = .ok (.putfield 494, 3) := by decide +kernel
theorem dX11_weigh_10 : decode cX11_weigh 10 = .ok (.iload_n 1, 1) := by decide +kernel
theorem dX11_weigh_11 : decode cX11_weigh 11 = .ok (.aload_n 0, 1) := by decide +kernel
theorem dX11_weigh_12 : decode cX11_weigh 12 = .ok (.getfield 497, 3) := by decide +kernel
theorem dX11_weigh_15 : decode cX11_weigh 15 = .ok (.if_icmp .lt 4, 3) := by decide +kernel
theorem dX11_weigh_18 : decode cX11_weigh 18 = .ok (.return_, 1) := by decide +kernel
theorem dX11_weigh_19 : decode cX11_weigh 19 = .ok (.aload_n 0, 1) := by decide +kernel
theorem dX11_weigh_20 : decode cX11_weigh 20 = .ok (.iload_n 1, 1) := by decide +kernel
theorem dX11_weigh_21 : decode cX11_weigh 21 = .ok (.putfield 497, 3) := by decide +kernel
theorem dX11_weigh_24 : decode cX11_weigh 24 = .ok (.aload_n 0, 1) := by decide +kernel
theorem dX11_weigh_25 : decode cX11_weigh 25 = .ok (.iload_n 2, 1) := by decide +kernel
theorem dX11_weigh_26 : decode cX11_weigh 26 = .ok (.putfield 500, 3) := by decide +kernel
theorem dX11_weigh_29 : decode cX11_weigh 29 = .ok (.aload_n 0, 1) := by decide +kernel
theorem dX11_weigh_30 : decode cX11_weigh 30 = .ok (.iload_n 3, 1) := by decide +kernel
theorem dX11_weigh_31 : decode cX11_weigh 31 = .ok (.putfield 503, 3) := by decide +kernel
theorem dX11_weigh_34 : decode cX11_weigh 34 = .ok (.aload_n 0, 1) := by decide +kernel
theorem dX11_weigh_35 : decode cX11_weigh 35 = .ok (.iload 4, 2) := by decide +kernel
theorem dX11_weigh_37 : decode cX11_weigh 37 = .ok (.putfield 506, 3) := by decide +kernel
theorem dX11_weigh_40 : decode cX11_weigh 40 = .ok (.aload_n 0, 1) := by decide +kernel
theorem dX11_weigh_41 : decode cX11_weigh 41 = .ok (.iload 5, 2) := by decide +kernel
theorem dX11_weigh_43 : decode cX11_weigh 43 = .ok (.putfield 509, 3) := by decide +kernel
theorem dX11_weigh_46 : decode cX11_weigh 46 = .ok (.return_, 1) := by decide +kernel
theorem dX11_best_0 : decode cX11_best 0 = .ok (.iload_n 1, 1) := by decide +kernel
theorem dX11_best_1 : decode cX11_best 1 = .ok (.iconst 1, 1) := by decide +kernel
theorem dX11_best_2 : decode cX11_best 2 = .ok (.bipush 9, 2) := by decide +kernel
theorem dX11_best_4 : decode cX11_best 4 = .ok (.invokestatic 221, 3) := by decide +kernel
theorem dX11_best_7 : decode cX11_best 7 = .ok (.ifCond .eq 12, 3) := by decide +kernel
theorem dX11_best_10 : decode cX11_best 10 = .ok (.iload_n 2, 1) := by decide +kernel
theorem dX11_best_11 : decode cX11_best 11 = .ok (.iconst 0, 1) := by decide +kernel
theorem dX11_best_12 : decode cX11_best 12 = .ok (.iconst 3, 1) := by decide +kernel
theorem dX11_best_13 : decode cX11_best 13 = .ok (.invokestatic 221, 3) := by decide +kernel
theorem dX11_best_16 : decode cX11_best 16 = .ok (.ifCond .ne 7, 3) := by decide +kernel
theorem dX11_best_19 : decode cX11_best 19 = .ok (.sipush (-1000), 3) := by decide +kernel
theorem dX11_best_22 : decode cX11_best 22 = .ok (.ireturn, 1) := by decide +kernel
theorem dX11_best_23 : decode cX11_best 23 = .ok (.aload_n 0, 1) := by decide +kernel
theorem dX11_best_24 : decode cX11_best 24 = .ok (.invokevirtual 512, 3) := by decide +kernel
theorem dX11_best_27 : decode cX11_best 27 = .ok (.iload_n 1, 1) := by decide +kernel
theorem dX11_best_28 : decode cX11_best 28 = .ok (.ineg, 1) := by decide +kernel
theorem dX11_best_29 : decode cX11_best 29 = .ok (.istore_n 3, 1) := by decide +kernel
theorem dX11_best_30 : decode cX11_best 30 = .ok (.iload_n 3, 1) := by decide +kernel
theorem dX11_best_31 : decode cX11_best 31 = .ok (.iload_n 1, 1) := by decide +kernel
theorem dX11_best_32 : decode cX11_best 32 = .ok (.if_icmp .gt 77, 3) := by decide +kernel
theorem dX11_best_35 : decode cX11_best 35 = .ok (.iload_n 1, 1) := by decide +kernel
theorem dX11_best_36 : decode cX11_best 36 = .ok (.ineg, 1) := by decide +kernel
theorem dX11_best_37 : decode cX11_best 37 = .ok (.istore 4, 2) := by decide +kernel
theorem dX11_best_39 : decode cX11_best 39 = .ok (.iload 4, 2) := by decide +kernel
theorem dX11_best_41 : decode cX11_best 41 = .ok (.iload_n 1, 1) := by decide +kernel
theorem dX11_best_42 : decode cX11_best 42 = .ok (.if_icmp .gt 61, 3) := by decide +kernel
theorem dX11_best_45 : decode cX11_best 45 = .ok (.aload_n 0, 1) := by decide +kernel
theorem dX11_best_46 : decode cX11_best 46 = .ok (.iload_n 3, 1) := by decide +kernel
theorem dX11_best_47 : decode cX11_best 47 = .ok (.iload 4, 2) := by decide +kernel
theorem dX11_best_49 : decode cX11_best 49 = .ok (.invokevirtual 440, 3) := by decide +kernel
theorem dX11_best_52 : decode cX11_best 52 = .ok (.ifCond .ne 6, 3) := by decide +kernel
theorem dX11_best_55 : decode cX11_best 55 = .ok (.goto 42, 3) := by decide +kernel
theorem dX11_best_58 : decode cX11_best 58 = .ok (.aload_n 0, 1) := by decide +kernel
theorem dX11_best_59 : decode cX11_best 59 = .ok (.iload_n 3, 1) := by decide +kernel
theorem dX11_best_60 : decode cX11_best 60 = .ok (.iload 4, 2) := by decide +kernel
theorem dX11_best_62 : decode cX11_best 62 = .ok (.aload_n 0, 1) := by decide +kernel
theorem dX11_best_63 : decode cX11_best 63 = .ok (.getfield 115, 3) := by decide +kernel
theorem dX11_best_66 : decode cX11_best 66 = .ok (.iconst 2, 1) := by decide +kernel
theorem dX11_best_67 : decode cX11_best 67 = .ok (.iaload, 1) := by decide +kernel
theorem dX11_best_68 : decode cX11_best 68 = .ok (.aload_n 0, 1) := by decide +kernel
theorem dX11_best_69 : decode cX11_best 69 = .ok (.getfield 115, 3) := by decide +kernel
theorem dX11_best_72 : decode cX11_best 72 = .ok (.iconst 3, 1) := by decide +kernel
theorem dX11_best_73 : decode cX11_best 73 = .ok (.iaload, 1) := by decide +kernel
theorem dX11_best_74 : decode cX11_best 74 = .ok (.invokevirtual 433, 3) := by decide +kernel
theorem dX11_best_77 : decode cX11_best 77 = .ok (.aload_n 0, 1) := by decide +kernel
theorem dX11_best_78 : decode cX11_best 78 = .ok (.getfield 421, 3) := by decide +kernel
theorem dX11_best_81 : decode cX11_best 81 = .ok (.ifCond .ne 16, 3) := by decide +kernel
theorem dX11_best_84 : decode cX11_best 84 = .ok (.aload_n 0, 1) := by decide +kernel
theorem dX11_best_85 : decode cX11_best 85 = .ok (.aload_n 0, 1) := by decide +kernel
theorem dX11_best_86 : decode cX11_best 86 = .ok (.getfield 415, 3) := by decide +kernel
theorem dX11_best_89 : decode cX11_best 89 = .ok (.iload_n 3, 1) := by decide +kernel
theorem dX11_best_90 : decode cX11_best 90 = .ok (.iload 4, 2) := by decide +kernel
theorem dX11_best_92 : decode cX11_best 92 = .ok (.iconst 0, 1) := by decide +kernel
theorem dX11_best_93 : decode cX11_best 93 = .ok (.iconst 0, 1) := by decide +kernel
theorem dX11_best_94 : decode cX11_best 94 = .ok (.invokevirtual 515, 3) := by decide +kernel
theorem dX11_best_97 : decode cX11_best 97 = .ok (.iinc 4 1, 3) := by decide +kernel
theorem dX11_best_100 : decode cX11_best 100 = .ok (.goto (-61), 3) := by decide +kernel
theorem dX11_best_103 : decode cX11_best 103 = .ok (.iinc 3 1, 3) := by decide +kernel
theorem dX11_best_106 : decode cX11_best 106 = .ok (.goto (-76), 3) := by decide +kernel
theorem dX11_best_109 : decode cX11_best 109 = .ok (.iload_n 2, 1) := by decide +kernel
theorem dX11_best_110 : decode cX11_best 110 = .ok (.ifCond .ne 8, 3) := by decide +kernel
theorem dX11_best_113 : decode cX11_best 113 = .ok (.aload_n 0, 1) := by decide +kernel
theorem dX11_best_114 : decode cX11_best 114 = .ok (.getfield 494, 3) := by decide +kernel
theorem dX11_best_117 : decode cX11_best 117 = .ok (.ireturn, 1) := by decide +kernel
theorem dX11_best_118 : decode cX11_best 118 = .ok (.aload_n 0, 1) := by decide +kernel
theorem dX11_best_119 : decode cX11_best 119 = .ok (.getfield 494, 3) := by decide +kernel
theorem dX11_best_122 : decode cX11_best 122 = .ok (.ifCond .ne 9, 3) := by decide +kernel
theorem dX11_best_125 : decode cX11_best 125 = .ok (.sipush (-1000), 3) := by decide +kernel
theorem dX11_best_128 : decode cX11_best 128 = .ok (.goto 31, 3) := by decide +kernel
theorem dX11_best_131 : decode cX11_best 131 = .ok (.iload_n 2, 1) := by decide +kernel
theorem dX11_best_132 : decode cX11_best 132 = .ok (.iconst 1, 1) := by decide +kernel
theorem dX11_best_133 : decode cX11_best 133 = .ok (.if_icmp .ne 10, 3) := by decide +kernel
theorem dX11_best_136 : decode cX11_best 136 = .ok (.aload_n 0, 1) := by decide +kernel
theorem dX11_best_137 : decode cX11_best 137 = .ok (.getfield 497, 3) := by decide +kernel
theorem dX11_best_140 : decode cX11_best 140 = .ok (.goto 19, 3) := by decide +kernel
theorem dX11_best_143 : decode cX11_best 143 = .ok (.iload_n 2, 1) := by decide +kernel
theorem dX11_best_144 : decode cX11_best 144 = .ok (.iconst 2, 1) := by decide +kernel
theorem dX11_best_145 : decode cX11_best 145 = .ok (.if_icmp .ne 10, 3) := by decide +kernel
theorem dX11_best_148 : decode cX11_best 148 = .ok (.aload_n 0, 1) := by decide +kernel
theorem dX11_best_149 : decode cX11_best 149 = .ok (.getfield 500, 3) := by decide +kernel
theorem dX11_best_152 : decode cX11_best 152 = .ok (.goto 7, 3) := by decide +kernel
theorem dX11_best_155 : decode cX11_best 155 = .ok (.aload_n 0, 1) := by decide +kernel
theorem dX11_best_156 : decode cX11_best 156 = .ok (.getfield 503, 3) := by decide +kernel
theorem dX11_best_159 : decode cX11_best 159 = .ok (.ireturn, 1) := by decide +kernel
theorem dX11_line_0 : decode cX11_line 0 = .ok (.iload_n 1, 1) := by decide +kernel
theorem dX11_line_1 : decode cX11_line 1 = .ok (.iconst 0, 1) := by decide +kernel
theorem dX11_line_2 : decode cX11_line 2 = .ok (.iconst 3, 1) := by decide +kernel
theorem dX11_line_3 : decode cX11_line 3 = .ok (.invokestatic 221, 3) := by decide +kernel
theorem dX11_line_6 : decode cX11_line 6 = .ok (.ifCond .ne 7, 3) := by decide +kernel
theorem dX11_line_9 : decode cX11_line 9 = .ok (.sipush (-1000), 3) := by decide +kernel
theorem dX11_line_12 : decode cX11_line 12 = .ok (.ireturn, 1) := by decide +kernel
theorem dX11_line_13 : decode cX11_line 13 = .ok (.aload_n 0, 1) := by decide +kernel
theorem dX11_line_14 : decode cX11_line 14 = .ok (.invokevirtual 512, 3) := by decide +kernel
theorem dX11_line_17 : decode cX11_line 17 = .ok (.bipush (-3), 2) := by decide +kernel
theorem dX11_line_19 : decode cX11_line 19 = .ok (.istore_n 2, 1) := by decide +kernel
theorem dX11_line_20 : decode cX11_line 20 = .ok (.iload_n 2, 1) := by decide +kernel
theorem dX11_line_21 : decode cX11_line 21 = .ok (.iconst 3, 1) := by decide +kernel
theorem dX11_line_22 : decode cX11_line 22 = .ok (.if_icmp .gt 71, 3) := by decide +kernel
theorem dX11_line_25 : decode cX11_line 25 = .ok (.bipush (-3), 2) := by decide +kernel
theorem dX11_line_27 : decode cX11_line 27 = .ok (.istore_n 3, 1) := by decide +kernel
theorem dX11_line_28 : decode cX11_line 28 = .ok (.iload_n 3, 1) := by decide +kernel
theorem dX11_line_29 : decode cX11_line 29 = .ok (.iconst 3, 1) := by decide +kernel
theorem dX11_line_30 : decode cX11_line 30 = .ok (.if_icmp .gt 57, 3) := by decide +kernel
theorem dX11_line_33 : decode cX11_line 33 = .ok (.iload_n 2, 1) := by decide +kernel
theorem dX11_line_34 : decode cX11_line 34 = .ok (.iload_n 3, 1) := by decide +kernel
theorem dX11_line_35 : decode cX11_line 35 = .ok (.invokestatic 519, 3) := by decide +kernel
theorem dX11_line_38 : decode cX11_line 38 = .ok (.ifCond .ne 6, 3) := by decide +kernel
theorem dX11_line_41 : decode cX11_line 41 = .ok (.goto 40, 3) := by decide +kernel
theorem dX11_line_44 : decode cX11_line 44 = .ok (.aload_n 0, 1) := by decide +kernel
theorem dX11_line_45 : decode cX11_line 45 = .ok (.aload_n 0, 1) := by decide +kernel
theorem dX11_line_46 : decode cX11_line 46 = .ok (.getfield 115, 3) := by decide +kernel
theorem dX11_line_49 : decode cX11_line 49 = .ok (.iconst 0, 1) := by decide +kernel
theorem dX11_line_50 : decode cX11_line 50 = .ok (.iaload, 1) := by decide +kernel
theorem dX11_line_51 : decode cX11_line 51 = .ok (.aload_n 0, 1) := by decide +kernel
theorem dX11_line_52 : decode cX11_line 52 = .ok (.getfield 115, 3) := by decide +kernel
theorem dX11_line_55 : decode cX11_line 55 = .ok (.iconst 1, 1) := by decide +kernel
theorem dX11_line_56 : decode cX11_line 56 = .ok (.iaload, 1) := by decide +kernel
theorem dX11_line_57 : decode cX11_line 57 = .ok (.iload_n 2, 1) := by decide +kernel
theorem dX11_line_58 : decode cX11_line 58 = .ok (.iload_n 3, 1) := by decide +kernel
theorem dX11_line_59 : decode cX11_line 59 = .ok (.invokevirtual 433, 3) := by decide +kernel
theorem dX11_line_62 : decode cX11_line 62 = .ok (.aload_n 0, 1) := by decide +kernel
theorem dX11_line_63 : decode cX11_line 63 = .ok (.getfield 421, 3) := by decide +kernel
theorem dX11_line_66 : decode cX11_line 66 = .ok (.ifCond .ne 15, 3) := by decide +kernel
theorem dX11_line_69 : decode cX11_line 69 = .ok (.aload_n 0, 1) := by decide +kernel
theorem dX11_line_70 : decode cX11_line 70 = .ok (.aload_n 0, 1) := by decide +kernel
theorem dX11_line_71 : decode cX11_line 71 = .ok (.getfield 418, 3) := by decide +kernel
theorem dX11_line_74 : decode cX11_line 74 = .ok (.iconst 0, 1) := by decide +kernel
theorem dX11_line_75 : decode cX11_line 75 = .ok (.iconst 0, 1) := by decide +kernel
theorem dX11_line_76 : decode cX11_line 76 = .ok (.iload_n 2, 1) := by decide +kernel
theorem dX11_line_77 : decode cX11_line 77 = .ok (.iload_n 3, 1) := by decide +kernel
theorem dX11_line_78 : decode cX11_line 78 = .ok (.invokevirtual 515, 3) := by decide +kernel
theorem dX11_line_81 : decode cX11_line 81 = .ok (.iinc 3 1, 3) := by decide +kernel
theorem dX11_line_84 : decode cX11_line 84 = .ok (.goto (-56), 3) := by decide +kernel
theorem dX11_line_87 : decode cX11_line 87 = .ok (.iinc 2 1, 3) := by decide +kernel
theorem dX11_line_90 : decode cX11_line 90 = .ok (.goto (-70), 3) := by decide +kernel
theorem dX11_line_93 : decode cX11_line 93 = .ok (.iload_n 1, 1) := by decide +kernel
theorem dX11_line_94 : decode cX11_line 94 = .ok (.ifCond .ne 8, 3) := by decide +kernel
theorem dX11_line_97 : decode cX11_line 97 = .ok (.aload_n 0, 1) := by decide +kernel
theorem dX11_line_98 : decode cX11_line 98 = .ok (.getfield 494, 3) := by decide +kernel
theorem dX11_line_101 : decode cX11_line 101 = .ok (.ireturn, 1) := by decide +kernel
theorem dX11_line_102 : decode cX11_line 102 = .ok (.aload_n 0, 1) := by decide +kernel
theorem dX11_line_103 : decode cX11_line 103 = .ok (.getfield 494, 3) := by decide +kernel
theorem dX11_line_106 : decode cX11_line 106 = .ok (.ifCond .ne 9, 3) := by decide +kernel
theorem dX11_line_109 : decode cX11_line 109 = .ok (.sipush (-1000), 3) := by decide +kernel
theorem dX11_line_112 : decode cX11_line 112 = .ok (.goto 31, 3) := by decide +kernel
theorem dX11_line_115 : decode cX11_line 115 = .ok (.iload_n 1, 1) := by decide +kernel
theorem dX11_line_116 : decode cX11_line 116 = .ok (.iconst 1, 1) := by decide +kernel
theorem dX11_line_117 : decode cX11_line 117 = .ok (.if_icmp .ne 10, 3) := by decide +kernel
theorem dX11_line_120 : decode cX11_line 120 = .ok (.aload_n 0, 1) := by decide +kernel
theorem dX11_line_121 : decode cX11_line 121 = .ok (.getfield 497, 3) := by decide +kernel
theorem dX11_line_124 : decode cX11_line 124 = .ok (.goto 19, 3) := by decide +kernel
theorem dX11_line_127 : decode cX11_line 127 = .ok (.iload_n 1, 1) := by decide +kernel
theorem dX11_line_128 : decode cX11_line 128 = .ok (.iconst 2, 1) := by decide +kernel
theorem dX11_line_129 : decode cX11_line 129 = .ok (.if_icmp .ne 10, 3) := by decide +kernel
theorem dX11_line_132 : decode cX11_line 132 = .ok (.aload_n 0, 1) := by decide +kernel
theorem dX11_line_133 : decode cX11_line 133 = .ok (.getfield 506, 3) := by decide +kernel
theorem dX11_line_136 : decode cX11_line 136 = .ok (.goto 7, 3) := by decide +kernel
theorem dX11_line_139 : decode cX11_line 139 = .ok (.aload_n 0, 1) := by decide +kernel
theorem dX11_line_140 : decode cX11_line 140 = .ok (.getfield 509, 3) := by decide +kernel
theorem dX11_line_143 : decode cX11_line 143 = .ok (.ireturn, 1) := by decide +kernel
theorem dX11_pair_0 : decode cX11_pair 0 = .ok (.iload_n 1, 1) := by decide +kernel
theorem dX11_pair_1 : decode cX11_pair 1 = .ok (.iconst 1, 1) := by decide +kernel
theorem dX11_pair_2 : decode cX11_pair 2 = .ok (.iconst 4, 1) := by decide +kernel
theorem dX11_pair_3 : decode cX11_pair 3 = .ok (.invokestatic 221, 3) := by decide +kernel
theorem dX11_pair_6 : decode cX11_pair 6 = .ok (.ifCond .eq 12, 3) := by decide +kernel
theorem dX11_pair_9 : decode cX11_pair 9 = .ok (.iload_n 2, 1) := by decide +kernel
theorem dX11_pair_10 : decode cX11_pair 10 = .ok (.iconst 0, 1) := by decide +kernel
theorem dX11_pair_11 : decode cX11_pair 11 = .ok (.iconst 4, 1) := by decide +kernel
theorem dX11_pair_12 : decode cX11_pair 12 = .ok (.invokestatic 221, 3) := by decide +kernel
theorem dX11_pair_15 : decode cX11_pair 15 = .ok (.ifCond .ne 7, 3) := by decide +kernel
theorem dX11_pair_18 : decode cX11_pair 18 = .ok (.sipush (-1000), 3) := by decide +kernel
theorem dX11_pair_21 : decode cX11_pair 21 = .ok (.ireturn, 1) := by decide +kernel
theorem dX11_pair_22 : decode cX11_pair 22 = .ok (.aload_n 0, 1) := by decide +kernel
theorem dX11_pair_23 : decode cX11_pair 23 = .ok (.invokevirtual 512, 3) := by decide +kernel
theorem dX11_pair_26 : decode cX11_pair 26 = .ok (.iload_n 1, 1) := by decide +kernel
theorem dX11_pair_27 : decode cX11_pair 27 = .ok (.ineg, 1) := by decide +kernel
theorem dX11_pair_28 : decode cX11_pair 28 = .ok (.istore_n 3, 1) := by decide +kernel
theorem dX11_pair_29 : decode cX11_pair 29 = .ok (.iload_n 3, 1) := by decide +kernel
theorem dX11_pair_30 : decode cX11_pair 30 = .ok (.iload_n 1, 1) := by decide +kernel
theorem dX11_pair_31 : decode cX11_pair 31 = .ok (.if_icmp .gt 42, 3) := by decide +kernel
theorem dX11_pair_34 : decode cX11_pair 34 = .ok (.iload_n 1, 1) := by decide +kernel
theorem dX11_pair_35 : decode cX11_pair 35 = .ok (.ineg, 1) := by decide +kernel
theorem dX11_pair_36 : decode cX11_pair 36 = .ok (.istore 4, 2) := by decide +kernel
theorem dX11_pair_38 : decode cX11_pair 38 = .ok (.iload 4, 2) := by decide +kernel
theorem dX11_pair_40 : decode cX11_pair 40 = .ok (.iload_n 1, 1) := by decide +kernel
theorem dX11_pair_41 : decode cX11_pair 41 = .ok (.if_icmp .gt 26, 3) := by decide +kernel
theorem dX11_pair_44 : decode cX11_pair 44 = .ok (.aload_n 0, 1) := by decide +kernel
theorem dX11_pair_45 : decode cX11_pair 45 = .ok (.iload_n 3, 1) := by decide +kernel
theorem dX11_pair_46 : decode cX11_pair 46 = .ok (.iload 4, 2) := by decide +kernel
theorem dX11_pair_48 : decode cX11_pair 48 = .ok (.invokevirtual 440, 3) := by decide +kernel
theorem dX11_pair_51 : decode cX11_pair 51 = .ok (.ifCond .eq 10, 3) := by decide +kernel
theorem dX11_pair_54 : decode cX11_pair 54 = .ok (.aload_n 0, 1) := by decide +kernel
theorem dX11_pair_55 : decode cX11_pair 55 = .ok (.iload_n 3, 1) := by decide +kernel
theorem dX11_pair_56 : decode cX11_pair 56 = .ok (.iload 4, 2) := by decide +kernel
theorem dX11_pair_58 : decode cX11_pair 58 = .ok (.invokevirtual 522, 3) := by decide +kernel
theorem dX11_pair_61 : decode cX11_pair 61 = .ok (.iinc 4 1, 3) := by decide +kernel
theorem dX11_pair_64 : decode cX11_pair 64 = .ok (.goto (-26), 3) := by decide +kernel
theorem dX11_pair_67 : decode cX11_pair 67 = .ok (.iinc 3 1, 3) := by decide +kernel
theorem dX11_pair_70 : decode cX11_pair 70 = .ok (.goto (-41), 3) := by decide +kernel
theorem dX11_pair_73 : decode cX11_pair 73 = .ok (.aload_n 0, 1) := by decide +kernel
theorem dX11_pair_74 : decode cX11_pair 74 = .ok (.getfield 494, 3) := by decide +kernel
theorem dX11_pair_77 : decode cX11_pair 77 = .ok (.ifCond .ne 7, 3) := by decide +kernel
theorem dX11_pair_80 : decode cX11_pair 80 = .ok (.sipush (-1000), 3) := by decide +kernel
theorem dX11_pair_83 : decode cX11_pair 83 = .ok (.ireturn, 1) := by decide +kernel
theorem dX11_pair_84 : decode cX11_pair 84 = .ok (.iload_n 2, 1) := by decide +kernel
theorem dX11_pair_85 : decode cX11_pair 85 = .ok (.ifCond .ne 10, 3) := by decide +kernel
theorem dX11_pair_88 : decode cX11_pair 88 = .ok (.aload_n 0, 1) := by decide +kernel
theorem dX11_pair_89 : decode cX11_pair 89 = .ok (.getfield 497, 3) := by decide +kernel
theorem dX11_pair_92 : decode cX11_pair 92 = .ok (.goto 43, 3) := by decide +kernel
theorem dX11_pair_95 : decode cX11_pair 95 = .ok (.iload_n 2, 1) := by decide +kernel
theorem dX11_pair_96 : decode cX11_pair 96 = .ok (.iconst 1, 1) := by decide +kernel
theorem dX11_pair_97 : decode cX11_pair 97 = .ok (.if_icmp .ne 10, 3) := by decide +kernel
theorem dX11_pair_100 : decode cX11_pair 100 = .ok (.aload_n 0, 1) := by decide +kernel
theorem dX11_pair_101 : decode cX11_pair 101 = .ok (.getfield 500, 3) := by decide +kernel
theorem dX11_pair_104 : decode cX11_pair 104 = .ok (.goto 31, 3) := by decide +kernel
theorem dX11_pair_107 : decode cX11_pair 107 = .ok (.iload_n 2, 1) := by decide +kernel
theorem dX11_pair_108 : decode cX11_pair 108 = .ok (.iconst 2, 1) := by decide +kernel
theorem dX11_pair_109 : decode cX11_pair 109 = .ok (.if_icmp .ne 10, 3) := by decide +kernel
theorem dX11_pair_112 : decode cX11_pair 112 = .ok (.aload_n 0, 1) := by decide +kernel
theorem dX11_pair_113 : decode cX11_pair 113 = .ok (.getfield 503, 3) := by decide +kernel
theorem dX11_pair_116 : decode cX11_pair 116 = .ok (.goto 19, 3) := by decide +kernel
theorem dX11_pair_119 : decode cX11_pair 119 = .ok (.iload_n 2, 1) := by decide +kernel
theorem dX11_pair_120 : decode cX11_pair 120 = .ok (.iconst 3, 1) := by decide +kernel
theorem dX11_pair_121 : decode cX11_pair 121 = .ok (.if_icmp .ne 10, 3) := by decide +kernel
theorem dX11_pair_124 : decode cX11_pair 124 = .ok (.aload_n 0, 1) := by decide +kernel
theorem dX11_pair_125 : decode cX11_pair 125 = .ok (.getfield 506, 3) := by decide +kernel
theorem dX11_pair_128 : decode cX11_pair 128 = .ok (.goto 7, 3) := by decide +kernel
theorem dX11_pair_131 : decode cX11_pair 131 = .ok (.aload_n 0, 1) := by decide +kernel
theorem dX11_pair_132 : decode cX11_pair 132 = .ok (.getfield 509, 3) := by decide +kernel
theorem dX11_pair_135 : decode cX11_pair 135 = .ok (.ireturn, 1) := by decide +kernel
theorem dX11_tryLines_0 : decode cX11_tryLines 0 = .ok (.bipush (-3), 2) := by decide +kernel
theorem dX11_tryLines_2 : decode cX11_tryLines 2 = .ok (.istore_n 3, 1) := by decide +kernel
theorem dX11_tryLines_3 : decode cX11_tryLines 3 = .ok (.iload_n 3, 1) := by decide +kernel
theorem dX11_tryLines_4 : decode cX11_tryLines 4 = .ok (.iconst 3, 1) := by decide +kernel
theorem dX11_tryLines_5 : decode cX11_tryLines 5 = .ok (.if_icmp .gt 71, 3) := by decide +kernel
theorem dX11_tryLines_8 : decode cX11_tryLines 8 = .ok (.bipush (-3), 2) := by decide +kernel
theorem dX11_tryLines_10 : decode cX11_tryLines 10 = .ok (.istore 4, 2) := by decide +kernel
theorem dX11_tryLines_12 : decode cX11_tryLines 12 = .ok (.iload 4, 2) := by decide +kernel
theorem dX11_tryLines_14 : decode cX11_tryLines 14 = .ok (.iconst 3, 1) := by decide +kernel
theorem dX11_tryLines_15 : decode cX11_tryLines 15 = .ok (.if_icmp .gt 55, 3) := by decide +kernel
theorem dX11_tryLines_18 : decode cX11_tryLines 18 = .ok (.iload_n 3, 1) := by decide +kernel
theorem dX11_tryLines_19 : decode cX11_tryLines 19 = .ok (.iload 4, 2) := by decide +kernel
theorem dX11_tryLines_21 : decode cX11_tryLines 21 = .ok (.invokestatic 519, 3) := by decide +kernel
theorem dX11_tryLines_24 : decode cX11_tryLines 24 = .ok (.ifCond .ne 6, 3) := by decide +kernel
theorem dX11_tryLines_27 : decode cX11_tryLines 27 = .ok (.goto 37, 3) := by decide +kernel
theorem dX11_tryLines_30 : decode cX11_tryLines 30 = .ok (.aload_n 0, 1) := by decide +kernel
theorem dX11_tryLines_31 : decode cX11_tryLines 31 = .ok (.iload_n 1, 1) := by decide +kernel
theorem dX11_tryLines_32 : decode cX11_tryLines 32 = .ok (.iload_n 2, 1) := by decide +kernel
theorem dX11_tryLines_33 : decode cX11_tryLines 33 = .ok (.iload_n 3, 1) := by decide +kernel
theorem dX11_tryLines_34 : decode cX11_tryLines 34 = .ok (.iload 4, 2) := by decide +kernel
theorem dX11_tryLines_36 : decode cX11_tryLines 36 = .ok (.invokevirtual 433, 3) := by decide +kernel
theorem dX11_tryLines_39 : decode cX11_tryLines 39 = .ok (.aload_n 0, 1) := by decide +kernel
theorem dX11_tryLines_40 : decode cX11_tryLines 40 = .ok (.getfield 421, 3) := by decide +kernel
theorem dX11_tryLines_43 : decode cX11_tryLines 43 = .ok (.ifCond .ne 21, 3) := by decide +kernel
theorem dX11_tryLines_46 : decode cX11_tryLines 46 = .ok (.aload_n 0, 1) := by decide +kernel
theorem dX11_tryLines_47 : decode cX11_tryLines 47 = .ok (.aload_n 0, 1) := by decide +kernel
theorem dX11_tryLines_48 : decode cX11_tryLines 48 = .ok (.getfield 415, 3) := by decide +kernel
theorem dX11_tryLines_51 : decode cX11_tryLines 51 = .ok (.aload_n 0, 1) := by decide +kernel
theorem dX11_tryLines_52 : decode cX11_tryLines 52 = .ok (.getfield 418, 3) := by decide +kernel
theorem dX11_tryLines_55 : decode cX11_tryLines 55 = .ok (.imul, 1) := by decide +kernel
theorem dX11_tryLines_56 : decode cX11_tryLines 56 = .ok (.iload_n 1, 1) := by decide +kernel
theorem dX11_tryLines_57 : decode cX11_tryLines 57 = .ok (.iload_n 2, 1) := by decide +kernel
theorem dX11_tryLines_58 : decode cX11_tryLines 58 = .ok (.iload_n 3, 1) := by decide +kernel
theorem dX11_tryLines_59 : decode cX11_tryLines 59 = .ok (.iload 4, 2) := by decide +kernel
theorem dX11_tryLines_61 : decode cX11_tryLines 61 = .ok (.invokevirtual 515, 3) := by decide +kernel
theorem dX11_tryLines_64 : decode cX11_tryLines 64 = .ok (.iinc 4 1, 3) := by decide +kernel
theorem dX11_tryLines_67 : decode cX11_tryLines 67 = .ok (.goto (-55), 3) := by decide +kernel
theorem dX11_tryLines_70 : decode cX11_tryLines 70 = .ok (.iinc 3 1, 3) := by decide +kernel
theorem dX11_tryLines_73 : decode cX11_tryLines 73 = .ok (.goto (-70), 3) := by decide +kernel
theorem dX11_tryLines_76 : decode cX11_tryLines 76 = .ok (.return_, 1) := by decide +kernel
theorem dX11_beatsBy_0 : decode cX11_beatsBy 0 = .ok (.aload_n 0, 1) := by decide +kernel
theorem dX11_beatsBy_1 : decode cX11_beatsBy 1 = .ok (.invokevirtual 437, 3) := by decide +kernel
theorem dX11_beatsBy_4 : decode cX11_beatsBy 4 = .ok (.aload_n 0, 1) := by decide +kernel
theorem dX11_beatsBy_5 : decode cX11_beatsBy 5 = .ok (.getfield 418, 3) := by decide +kernel
theorem dX11_beatsBy_8 : decode cX11_beatsBy 8 = .ok (.iload_n 1, 1) := by decide +kernel
theorem dX11_beatsBy_9 : decode cX11_beatsBy 9 = .ok (.iadd, 1) := by decide +kernel
theorem dX11_beatsBy_10 : decode cX11_beatsBy 10 = .ok (.iconst 1, 1) := by decide +kernel
theorem dX11_beatsBy_11 : decode cX11_beatsBy 11 = .ok (.isub, 1) := by decide +kernel
theorem dX11_beatsBy_12 : decode cX11_beatsBy 12 = .ok (.iload_n 1, 1) := by decide +kernel
theorem dX11_beatsBy_13 : decode cX11_beatsBy 13 = .ok (.idiv, 1) := by decide +kernel
theorem dX11_beatsBy_14 : decode cX11_beatsBy 14 = .ok (.istore_n 3, 1) := by decide +kernel
theorem dX11_beatsBy_15 : decode cX11_beatsBy 15 = .ok (.iconst 0, 1) := by decide +kernel
theorem dX11_beatsBy_16 : decode cX11_beatsBy 16 = .ok (.istore 4, 2) := by decide +kernel
theorem dX11_beatsBy_18 : decode cX11_beatsBy 18 = .ok (.iconst 0, 1) := by decide +kernel
theorem dX11_beatsBy_19 : decode cX11_beatsBy 19 = .ok (.istore 5, 2) := by decide +kernel
theorem dX11_beatsBy_21 : decode cX11_beatsBy 21 = .ok (.iload 5, 2) := by decide +kernel
theorem dX11_beatsBy_23 : decode cX11_beatsBy 23 = .ok (.aload_n 0, 1) := by decide +kernel
theorem dX11_beatsBy_24 : decode cX11_beatsBy 24 = .ok (.getfield 415, 3) := by decide +kernel
theorem dX11_beatsBy_27 : decode cX11_beatsBy 27 = .ok (.if_icmp .ge 144, 3) := by decide +kernel
theorem dX11_beatsBy_30 : decode cX11_beatsBy 30 = .ok (.iconst 0, 1) := by decide +kernel
theorem dX11_beatsBy_31 : decode cX11_beatsBy 31 = .ok (.istore 6, 2) := by decide +kernel
theorem dX11_beatsBy_33 : decode cX11_beatsBy 33 = .ok (.iload 6, 2) := by decide +kernel
theorem dX11_beatsBy_35 : decode cX11_beatsBy 35 = .ok (.bipush 12, 2) := by decide +kernel
theorem dX11_beatsBy_37 : decode cX11_beatsBy 37 = .ok (.if_icmp .ge 17, 3) := by decide +kernel
theorem dX11_beatsBy_40 : decode cX11_beatsBy 40 = .ok (.aload_n 0, 1) := by decide +kernel
theorem dX11_beatsBy_41 : decode cX11_beatsBy 41 = .ok (.getfield 130, 3) := by decide +kernel
theorem dX11_beatsBy_44 : decode cX11_beatsBy 44 = .ok (.iload 6, 2) := by decide +kernel
theorem dX11_beatsBy_46 : decode cX11_beatsBy 46 = .ok (.iconst 0, 1) := by decide +kernel
theorem dX11_beatsBy_47 : decode cX11_beatsBy 47 = .ok (.iastore, 1) := by decide +kernel
theorem dX11_beatsBy_48 : decode cX11_beatsBy 48 = .ok (.iinc 6 1, 3) := by decide +kernel
theorem dX11_beatsBy_51 : decode cX11_beatsBy 51 = .ok (.goto (-18), 3) := by decide +kernel
theorem dX11_beatsBy_54 : decode cX11_beatsBy 54 = .ok (.iconst 0, 1) := by decide +kernel
theorem dX11_beatsBy_55 : decode cX11_beatsBy 55 = .ok (.istore 6, 2) := by decide +kernel
theorem dX11_beatsBy_57 : decode cX11_beatsBy 57 = .ok (.iload 6, 2) := by decide +kernel
theorem dX11_beatsBy_59 : decode cX11_beatsBy 59 = .ok (.bipush 100, 2) := by decide +kernel
theorem dX11_beatsBy_61 : decode cX11_beatsBy 61 = .ok (.if_icmp .ge 64, 3) := by decide +kernel
theorem dX11_beatsBy_64 : decode cX11_beatsBy 64 = .ok (.aload_n 0, 1) := by decide +kernel
theorem dX11_beatsBy_65 : decode cX11_beatsBy 65 = .ok (.iload 6, 2) := by decide +kernel
theorem dX11_beatsBy_67 : decode cX11_beatsBy 67 = .ok (.invokevirtual 333, 3) := by decide +kernel
theorem dX11_beatsBy_70 : decode cX11_beatsBy 70 = .ok (.ifCond .eq 49, 3) := by decide +kernel
theorem dX11_beatsBy_73 : decode cX11_beatsBy 73 = .ok (.aload_n 0, 1) := by decide +kernel
theorem dX11_beatsBy_74 : decode cX11_beatsBy 74 = .ok (.getfield 118, 3) := by decide +kernel
theorem dX11_beatsBy_77 : decode cX11_beatsBy 77 = .ok (.iload 6, 2) := by decide +kernel
theorem dX11_beatsBy_79 : decode cX11_beatsBy 79 = .ok (.iaload, 1) := by decide +kernel
theorem dX11_beatsBy_80 : decode cX11_beatsBy 80 = .ok (.iload 5, 2) := by decide +kernel
theorem dX11_beatsBy_82 : decode cX11_beatsBy 82 = .ok (.if_icmp .ne 37, 3) := by decide +kernel
theorem dX11_beatsBy_85 : decode cX11_beatsBy 85 = .ok (.aload_n 0, 1) := by decide +kernel
theorem dX11_beatsBy_86 : decode cX11_beatsBy 86 = .ok (.getfield 130, 3) := by decide +kernel
theorem dX11_beatsBy_89 : decode cX11_beatsBy 89 = .ok (.iload_n 2, 1) := by decide +kernel
theorem dX11_beatsBy_90 : decode cX11_beatsBy 90 = .ok (.ifCond .eq 15, 3) := by decide +kernel
theorem dX11_beatsBy_93 : decode cX11_beatsBy 93 = .ok (.aload_n 0, 1) := by decide +kernel
theorem dX11_beatsBy_94 : decode cX11_beatsBy 94 = .ok (.getfield 121, 3) := by decide +kernel
theorem dX11_beatsBy_97 : decode cX11_beatsBy 97 = .ok (.iload 6, 2) := by decide +kernel
theorem dX11_beatsBy_99 : decode cX11_beatsBy 99 = .ok (.iaload, 1) := by decide +kernel
theorem dX11_beatsBy_100 : decode cX11_beatsBy 100 = .ok (.iload_n 1, 1) := by decide +kernel
theorem dX11_beatsBy_101 : decode cX11_beatsBy 101 = .ok (.irem, 1) := by decide +kernel
theorem dX11_beatsBy_102 : decode cX11_beatsBy 102 = .ok (.goto 12, 3) := by decide +kernel
theorem dX11_beatsBy_105 : decode cX11_beatsBy 105 = .ok (.aload_n 0, 1) := by decide +kernel
theorem dX11_beatsBy_106 : decode cX11_beatsBy 106 = .ok (.getfield 121, 3) := by decide +kernel
theorem dX11_beatsBy_109 : decode cX11_beatsBy 109 = .ok (.iload 6, 2) := by decide +kernel
theorem dX11_beatsBy_111 : decode cX11_beatsBy 111 = .ok (.iaload, 1) := by decide +kernel
theorem dX11_beatsBy_112 : decode cX11_beatsBy 112 = .ok (.iload_n 3, 1) := by decide +kernel
theorem dX11_beatsBy_113 : decode cX11_beatsBy 113 = .ok (.idiv, 1) := by decide +kernel
theorem dX11_beatsBy_114 : decode cX11_beatsBy 114 = .ok (.dup2, 1) := by decide +kernel
theorem dX11_beatsBy_115 : decode cX11_beatsBy 115 = .ok (.iaload, 1) := by decide +kernel
theorem dX11_beatsBy_116 : decode cX11_beatsBy 116 = .ok (.iconst 1, 1) := by decide +kernel
theorem dX11_beatsBy_117 : decode cX11_beatsBy 117 = .ok (.iadd, 1) := by decide +kernel
theorem dX11_beatsBy_118 : decode cX11_beatsBy 118 = .ok (.iastore, 1) := by decide +kernel
theorem dX11_beatsBy_119 : decode cX11_beatsBy 119 = .ok (.iinc 6 1, 3) := by decide +kernel
theorem dX11_beatsBy_122 : decode cX11_beatsBy 122 = .ok (.goto (-65), 3) := by decide +kernel
theorem dX11_beatsBy_125 : decode cX11_beatsBy 125 = .ok (.iconst 0, 1) := by decide +kernel
theorem dX11_beatsBy_126 : decode cX11_beatsBy 126 = .ok (.istore 6, 2) := by decide +kernel
theorem dX11_beatsBy_128 : decode cX11_beatsBy 128 = .ok (.iconst 0, 1) := by decide +kernel
theorem dX11_beatsBy_129 : decode cX11_beatsBy 129 = .ok (.istore 7, 2) := by decide +kernel
theorem dX11_beatsBy_131 : decode cX11_beatsBy 131 = .ok (.iload 7, 2) := by decide +kernel
theorem dX11_beatsBy_133 : decode cX11_beatsBy 133 = .ok (.bipush 12, 2) := by decide +kernel
theorem dX11_beatsBy_135 : decode cX11_beatsBy 135 = .ok (.if_icmp .ge 23, 3) := by decide +kernel
theorem dX11_beatsBy_138 : decode cX11_beatsBy 138 = .ok (.iload 6, 2) := by decide +kernel
theorem dX11_beatsBy_140 : decode cX11_beatsBy 140 = .ok (.aload_n 0, 1) := by decide +kernel
theorem dX11_beatsBy_141 : decode cX11_beatsBy 141 = .ok (.getfield 130, 3) := by decide +kernel
theorem dX11_beatsBy_144 : decode cX11_beatsBy 144 = .ok (.iload 7, 2) := by decide +kernel
theorem dX11_beatsBy_146 : decode cX11_beatsBy 146 = .ok (.iaload, 1) := by decide +kernel
theorem dX11_beatsBy_147 : decode cX11_beatsBy 147 = .ok (.invokestatic 345, 3) := by decide +kernel
theorem dX11_beatsBy_150 : decode cX11_beatsBy 150 = .ok (.istore 6, 2) := by decide +kernel
theorem dX11_beatsBy_152 : decode cX11_beatsBy 152 = .ok (.iinc 7 1, 3) := by decide +kernel
theorem dX11_beatsBy_155 : decode cX11_beatsBy 155 = .ok (.goto (-24), 3) := by decide +kernel
theorem dX11_beatsBy_158 : decode cX11_beatsBy 158 = .ok (.iload 4, 2) := by decide +kernel
theorem dX11_beatsBy_160 : decode cX11_beatsBy 160 = .ok (.iload 6, 2) := by decide +kernel
theorem dX11_beatsBy_162 : decode cX11_beatsBy 162 = .ok (.iadd, 1) := by decide +kernel
theorem dX11_beatsBy_163 : decode cX11_beatsBy 163 = .ok (.istore 4, 2) := by decide +kernel
theorem dX11_beatsBy_165 : decode cX11_beatsBy 165 = .ok (.iinc 5 1, 3) := by decide +kernel
theorem dX11_beatsBy_168 : decode cX11_beatsBy 168 = .ok (.goto (-147), 3) := by decide +kernel
theorem dX11_beatsBy_171 : decode cX11_beatsBy 171 = .ok (.iload 4, 2) := by decide +kernel
theorem dX11_beatsBy_173 : decode cX11_beatsBy 173 = .ok (.ireturn, 1) := by decide +kernel
theorem dX11_beats_0 : decode cX11_beats 0 = .ok (.iload_n 1, 1) := by decide +kernel
theorem dX11_beats_1 : decode cX11_beats 1 = .ok (.iconst 1, 1) := by decide +kernel
theorem dX11_beats_2 : decode cX11_beats 2 = .ok (.bipush 12, 2) := by decide +kernel
theorem dX11_beats_4 : decode cX11_beats 4 = .ok (.invokestatic 221, 3) := by decide +kernel
theorem dX11_beats_7 : decode cX11_beats 7 = .ok (.ifCond .eq 12, 3) := by decide +kernel
theorem dX11_beats_10 : decode cX11_beats 10 = .ok (.aload_n 0, 1) := by decide +kernel
theorem dX11_beats_11 : decode cX11_beats 11 = .ok (.iload_n 1, 1) := by decide +kernel
theorem dX11_beats_12 : decode cX11_beats 12 = .ok (.iload_n 2, 1) := by decide +kernel
theorem dX11_beats_13 : decode cX11_beats 13 = .ok (.invokevirtual 525, 3) := by decide +kernel
theorem dX11_beats_16 : decode cX11_beats 16 = .ok (.goto 4, 3) := by decide +kernel
theorem dX11_beats_19 : decode cX11_beats 19 = .ok (.iconst (-1), 1) := by decide +kernel
theorem dX11_beats_20 : decode cX11_beats 20 = .ok (.ireturn, 1) := by decide +kernel
theorem dX11_fewest_0 : decode cX11_fewest 0 = .ok (.iconst 1, 1) := by decide +kernel
theorem dX11_fewest_1 : decode cX11_fewest 1 = .ok (.istore_n 3, 1) := by decide +kernel
theorem dX11_fewest_2 : decode cX11_fewest 2 = .ok (.iload_n 3, 1) := by decide +kernel
theorem dX11_fewest_3 : decode cX11_fewest 3 = .ok (.bipush 12, 2) := by decide +kernel
theorem dX11_fewest_5 : decode cX11_fewest 5 = .ok (.if_icmp .gt 21, 3) := by decide +kernel
theorem dX11_fewest_8 : decode cX11_fewest 8 = .ok (.aload_n 0, 1) := by decide +kernel
theorem dX11_fewest_9 : decode cX11_fewest 9 = .ok (.iload_n 3, 1) := by decide +kernel
theorem dX11_fewest_10 : decode cX11_fewest 10 = .ok (.iload_n 2, 1) := by decide +kernel
theorem dX11_fewest_11 : decode cX11_fewest 11 = .ok (.invokevirtual 525, 3) := by decide +kernel
theorem dX11_fewest_14 : decode cX11_fewest 14 = .ok (.iload_n 1, 1) := by decide +kernel
theorem dX11_fewest_15 : decode cX11_fewest 15 = .ok (.if_icmp .gt 5, 3) := by decide +kernel
theorem dX11_fewest_18 : decode cX11_fewest 18 = .ok (.iload_n 3, 1) := by decide +kernel
theorem dX11_fewest_19 : decode cX11_fewest 19 = .ok (.ireturn, 1) := by decide +kernel
theorem dX11_fewest_20 : decode cX11_fewest 20 = .ok (.iinc 3 1, 3) := by decide +kernel
theorem dX11_fewest_23 : decode cX11_fewest 23 = .ok (.goto (-21), 3) := by decide +kernel
theorem dX11_fewest_26 : decode cX11_fewest 26 = .ok (.iconst (-1), 1) := by decide +kernel
theorem dX11_fewest_27 : decode cX11_fewest 27 = .ok (.ireturn, 1) := by decide +kernel
theorem dX11_tileOf_0 : decode cX11_tileOf 0 = .ok (.bipush 10, 2) := by decide +kernel
theorem dX11_tileOf_2 : decode cX11_tileOf 2 = .ok (.iload_n 0, 1) := by decide +kernel
theorem dX11_tileOf_3 : decode cX11_tileOf 3 = .ok (.bipush 10, 2) := by decide +kernel
theorem dX11_tileOf_5 : decode cX11_tileOf 5 = .ok (.idiv, 1) := by decide +kernel
theorem dX11_tileOf_6 : decode cX11_tileOf 6 = .ok (.iload_n 1, 1) := by decide +kernel
theorem dX11_tileOf_7 : decode cX11_tileOf 7 = .ok (.idiv, 1) := by decide +kernel
theorem dX11_tileOf_8 : decode cX11_tileOf 8 = .ok (.imul, 1) := by decide +kernel
theorem dX11_tileOf_9 : decode cX11_tileOf 9 = .ok (.iload_n 0, 1) := by decide +kernel
theorem dX11_tileOf_10 : decode cX11_tileOf 10 = .ok (.bipush 10, 2) := by decide +kernel
theorem dX11_tileOf_12 : decode cX11_tileOf 12 = .ok (.irem, 1) := by decide +kernel
theorem dX11_tileOf_13 : decode cX11_tileOf 13 = .ok (.iload_n 2, 1) := by decide +kernel
theorem dX11_tileOf_14 : decode cX11_tileOf 14 = .ok (.idiv, 1) := by decide +kernel
theorem dX11_tileOf_15 : decode cX11_tileOf 15 = .ok (.iadd, 1) := by decide +kernel
theorem dX11_tileOf_16 : decode cX11_tileOf 16 = .ok (.ireturn, 1) := by decide +kernel
theorem dX11_tileMany_0 : decode cX11_tileMany 0 = .ok (.aload_n 0, 1) := by decide +kernel
theorem dX11_tileMany_1 : decode cX11_tileMany 1 = .ok (.invokevirtual 318, 3) := by decide +kernel
theorem dX11_tileMany_4 : decode cX11_tileMany 4 = .ok (.iload_n 1, 1) := by decide +kernel
theorem dX11_tileMany_5 : decode cX11_tileMany 5 = .ok (.iadd, 1) := by decide +kernel
theorem dX11_tileMany_6 : decode cX11_tileMany 6 = .ok (.iconst 1, 1) := by decide +kernel
theorem dX11_tileMany_7 : decode cX11_tileMany 7 = .ok (.isub, 1) := by decide +kernel
theorem dX11_tileMany_8 : decode cX11_tileMany 8 = .ok (.iload_n 1, 1) := by decide +kernel
theorem dX11_tileMany_9 : decode cX11_tileMany 9 = .ok (.idiv, 1) := by decide +kernel
theorem dX11_tileMany_10 : decode cX11_tileMany 10 = .ok (.aload_n 0, 1) := by decide +kernel
theorem dX11_tileMany_11 : decode cX11_tileMany 11 = .ok (.invokevirtual 321, 3) := by decide +kernel
theorem dX11_tileMany_14 : decode cX11_tileMany 14 = .ok (.iload_n 2, 1) := by decide +kernel
theorem dX11_tileMany_15 : decode cX11_tileMany 15 = .ok (.iadd, 1) := by decide +kernel
theorem dX11_tileMany_16 : decode cX11_tileMany 16 = .ok (.iconst 1, 1) := by decide +kernel
theorem dX11_tileMany_17 : decode cX11_tileMany 17 = .ok (.isub, 1) := by decide +kernel
theorem dX11_tileMany_18 : decode cX11_tileMany 18 = .ok (.iload_n 2, 1) := by decide +kernel
theorem dX11_tileMany_19 : decode cX11_tileMany 19 = .ok (.idiv, 1) := by decide +kernel
theorem dX11_tileMany_20 : decode cX11_tileMany 20 = .ok (.imul, 1) := by decide +kernel
theorem dX11_tileMany_21 : decode cX11_tileMany 21 = .ok (.ireturn, 1) := by decide +kernel
theorem dX11_layTiles_0 : decode cX11_layTiles 0 = .ok (.iconst 0, 1) := by decide +kernel
theorem dX11_layTiles_1 : decode cX11_layTiles 1 = .ok (.istore_n 3, 1) := by decide +kernel
theorem dX11_layTiles_2 : decode cX11_layTiles 2 = .ok (.iload_n 3, 1) := by decide +kernel
theorem dX11_layTiles_3 : decode cX11_layTiles 3 = .ok (.sipush 10000, 3) := by decide +kernel
theorem dX11_layTiles_6 : decode cX11_layTiles 6 = .ok (.if_icmp .ge 16, 3) := by decide +kernel
theorem dX11_layTiles_9 : decode cX11_layTiles 9 = .ok (.aload_n 0, 1) := by decide +kernel
theorem dX11_layTiles_10 : decode cX11_layTiles 10 = .ok (.getfield 136, 3) := by decide +kernel
theorem dX11_layTiles_13 : decode cX11_layTiles 13 = .ok (.iload_n 3, 1) := by decide +kernel
theorem dX11_layTiles_14 : decode cX11_layTiles 14 = .ok (.iconst 0, 1) := by decide +kernel
theorem dX11_layTiles_15 : decode cX11_layTiles 15 = .ok (.bastore, 1) := by decide +kernel
theorem dX11_layTiles_16 : decode cX11_layTiles 16 = .ok (.iinc 3 1, 3) := by decide +kernel
theorem dX11_layTiles_19 : decode cX11_layTiles 19 = .ok (.goto (-17), 3) := by decide +kernel
theorem dX11_layTiles_22 : decode cX11_layTiles 22 = .ok (.iconst 0, 1) := by decide +kernel
theorem dX11_layTiles_23 : decode cX11_layTiles 23 = .ok (.istore_n 3, 1) := by decide +kernel
theorem dX11_layTiles_24 : decode cX11_layTiles 24 = .ok (.iconst 0, 1) := by decide +kernel
theorem dX11_layTiles_25 : decode cX11_layTiles 25 = .ok (.istore 4, 2) := by decide +kernel
theorem dX11_layTiles_27 : decode cX11_layTiles 27 = .ok (.iload 4, 2) := by decide +kernel
theorem dX11_layTiles_29 : decode cX11_layTiles 29 = .ok (.bipush 100, 2) := by decide +kernel
theorem dX11_layTiles_31 : decode cX11_layTiles 31 = .ok (.if_icmp .ge 98, 3) := by decide +kernel
theorem dX11_layTiles_34 : decode cX11_layTiles 34 = .ok (.iconst 0, 1) := by decide +kernel
theorem dX11_layTiles_35 : decode cX11_layTiles 35 = .ok (.istore 5, 2) := by decide +kernel
theorem dX11_layTiles_37 : decode cX11_layTiles 37 = .ok (.iload 5, 2) := by decide +kernel
theorem dX11_layTiles_39 : decode cX11_layTiles 39 = .ok (.aload_n 0, 1) := by decide +kernel
theorem dX11_layTiles_40 : decode cX11_layTiles 40 = .ok (.invokevirtual 339, 3) := by decide +kernel
theorem dX11_layTiles_43 : decode cX11_layTiles 43 = .ok (.if_icmp .ge 80, 3) := by decide +kernel
theorem dX11_layTiles_46 : decode cX11_layTiles 46 = .ok (.aload_n 0, 1) := by decide +kernel
theorem dX11_layTiles_47 : decode cX11_layTiles 47 = .ok (.iload 4, 2) := by decide +kernel
theorem dX11_layTiles_49 : decode cX11_layTiles 49 = .ok (.invokevirtual 333, 3) := by decide +kernel
theorem dX11_layTiles_52 : decode cX11_layTiles 52 = .ok (.ifCond .eq 71, 3) := by decide +kernel
theorem dX11_layTiles_55 : decode cX11_layTiles 55 = .ok (.aload_n 0, 1) := by decide +kernel
theorem dX11_layTiles_56 : decode cX11_layTiles 56 = .ok (.iload 4, 2) := by decide +kernel
theorem dX11_layTiles_58 : decode cX11_layTiles 58 = .ok (.iload 5, 2) := by decide +kernel
theorem dX11_layTiles_60 : decode cX11_layTiles 60 = .ok (.invokevirtual 342, 3) := by decide +kernel
theorem dX11_layTiles_63 : decode cX11_layTiles 63 = .ok (.istore 6, 2) := by decide +kernel
theorem dX11_layTiles_65 : decode cX11_layTiles 65 = .ok (.iload 6, 2) := by decide +kernel
theorem dX11_layTiles_67 : decode cX11_layTiles 67 = .ok (.ifCond .lt 50, 3) := by decide +kernel
theorem dX11_layTiles_70 : decode cX11_layTiles 70 = .ok (.iload 4, 2) := by decide +kernel
theorem dX11_layTiles_72 : decode cX11_layTiles 72 = .ok (.iload_n 1, 1) := by decide +kernel
theorem dX11_layTiles_73 : decode cX11_layTiles 73 = .ok (.iload_n 2, 1) := by decide +kernel
theorem dX11_layTiles_74 : decode cX11_layTiles 74 = .ok (.invokestatic 529, 3) := by decide +kernel
theorem dX11_layTiles_77 : decode cX11_layTiles 77 = .ok (.iload 6, 2) := by decide +kernel
theorem dX11_layTiles_79 : decode cX11_layTiles 79 = .ok (.iload_n 1, 1) := by decide +kernel
theorem dX11_layTiles_80 : decode cX11_layTiles 80 = .ok (.iload_n 2, 1) := by decide +kernel
theorem dX11_layTiles_81 : decode cX11_layTiles 81 = .ok (.invokestatic 529, 3) := by decide +kernel
theorem dX11_layTiles_84 : decode cX11_layTiles 84 = .ok (.if_icmp .ne 6, 3) := by decide +kernel
theorem dX11_layTiles_87 : decode cX11_layTiles 87 = .ok (.goto 30, 3) := by decide +kernel
theorem dX11_layTiles_90 : decode cX11_layTiles 90 = .ok (.aload_n 0, 1) := by decide +kernel
theorem dX11_layTiles_91 : decode cX11_layTiles 91 = .ok (.getfield 136, 3) := by decide +kernel
theorem dX11_layTiles_94 : decode cX11_layTiles 94 = .ok (.bipush 100, 2) := by decide +kernel
theorem dX11_layTiles_96 : decode cX11_layTiles 96 = .ok (.iload 4, 2) := by decide +kernel
theorem dX11_layTiles_98 : decode cX11_layTiles 98 = .ok (.iload_n 1, 1) := by decide +kernel
theorem dX11_layTiles_99 : decode cX11_layTiles 99 = .ok (.iload_n 2, 1) := by decide +kernel
theorem dX11_layTiles_100 : decode cX11_layTiles 100 = .ok (.invokestatic 529, 3) := by decide +kernel
theorem dX11_layTiles_103 : decode cX11_layTiles 103 = .ok (.imul, 1) := by decide +kernel
theorem dX11_layTiles_104 : decode cX11_layTiles 104 = .ok (.iload 6, 2) := by decide +kernel
theorem dX11_layTiles_106 : decode cX11_layTiles 106 = .ok (.iload_n 1, 1) := by decide +kernel
theorem dX11_layTiles_107 : decode cX11_layTiles 107 = .ok (.iload_n 2, 1) := by decide +kernel
theorem dX11_layTiles_108 : decode cX11_layTiles 108 = .ok (.invokestatic 529, 3) := by decide +kernel
theorem dX11_layTiles_111 : decode cX11_layTiles 111 = .ok (.iadd, 1) := by decide +kernel
theorem dX11_layTiles_112 : decode cX11_layTiles 112 = .ok (.iconst 1, 1) := by decide +kernel
theorem dX11_layTiles_113 : decode cX11_layTiles 113 = .ok (.bastore, 1) := by decide +kernel
theorem dX11_layTiles_114 : decode cX11_layTiles 114 = .ok (.iinc 3 1, 3) := by decide +kernel
theorem dX11_layTiles_117 : decode cX11_layTiles 117 = .ok (.iinc 5 1, 3) := by decide +kernel
theorem dX11_layTiles_120 : decode cX11_layTiles 120 = .ok (.goto (-83), 3) := by decide +kernel
theorem dX11_layTiles_123 : decode cX11_layTiles 123 = .ok (.iinc 4 1, 3) := by decide +kernel
theorem dX11_layTiles_126 : decode cX11_layTiles 126 = .ok (.goto (-99), 3) := by decide +kernel
theorem dX11_layTiles_129 : decode cX11_layTiles 129 = .ok (.iload_n 3, 1) := by decide +kernel
theorem dX11_layTiles_130 : decode cX11_layTiles 130 = .ok (.ireturn, 1) := by decide +kernel
theorem dX11_tileRow_0 : decode cX11_tileRow 0 = .ok (.iconst 0, 1) := by decide +kernel
theorem dX11_tileRow_1 : decode cX11_tileRow 1 = .ok (.istore_n 3, 1) := by decide +kernel
theorem dX11_tileRow_2 : decode cX11_tileRow 2 = .ok (.iload_n 3, 1) := by decide +kernel
theorem dX11_tileRow_3 : decode cX11_tileRow 3 = .ok (.bipush 100, 2) := by decide +kernel
theorem dX11_tileRow_5 : decode cX11_tileRow 5 = .ok (.if_icmp .ge 16, 3) := by decide +kernel
theorem dX11_tileRow_8 : decode cX11_tileRow 8 = .ok (.aload_n 0, 1) := by decide +kernel
theorem dX11_tileRow_9 : decode cX11_tileRow 9 = .ok (.getfield 133, 3) := by decide +kernel
theorem dX11_tileRow_12 : decode cX11_tileRow 12 = .ok (.iload_n 3, 1) := by decide +kernel
theorem dX11_tileRow_13 : decode cX11_tileRow 13 = .ok (.iconst 0, 1) := by decide +kernel
theorem dX11_tileRow_14 : decode cX11_tileRow 14 = .ok (.iastore, 1) := by decide +kernel
theorem dX11_tileRow_15 : decode cX11_tileRow 15 = .ok (.iinc 3 1, 3) := by decide +kernel
theorem dX11_tileRow_18 : decode cX11_tileRow 18 = .ok (.goto (-16), 3) := by decide +kernel
theorem dX11_tileRow_21 : decode cX11_tileRow 21 = .ok (.iconst 1, 1) := by decide +kernel
theorem dX11_tileRow_22 : decode cX11_tileRow 22 = .ok (.istore_n 3, 1) := by decide +kernel
theorem dX11_tileRow_23 : decode cX11_tileRow 23 = .ok (.iconst 0, 1) := by decide +kernel
theorem dX11_tileRow_24 : decode cX11_tileRow 24 = .ok (.istore 4, 2) := by decide +kernel
theorem dX11_tileRow_26 : decode cX11_tileRow 26 = .ok (.iload_n 3, 1) := by decide +kernel
theorem dX11_tileRow_27 : decode cX11_tileRow 27 = .ok (.ifCond .eq 118, 3) := by decide +kernel
theorem dX11_tileRow_30 : decode cX11_tileRow 30 = .ok (.iconst 0, 1) := by decide +kernel
theorem dX11_tileRow_31 : decode cX11_tileRow 31 = .ok (.istore_n 3, 1) := by decide +kernel
theorem dX11_tileRow_32 : decode cX11_tileRow 32 = .ok (.iconst 0, 1) := by decide +kernel
theorem dX11_tileRow_33 : decode cX11_tileRow 33 = .ok (.istore 5, 2) := by decide +kernel
theorem dX11_tileRow_35 : decode cX11_tileRow 35 = .ok (.iload 5, 2) := by decide +kernel
theorem dX11_tileRow_37 : decode cX11_tileRow 37 = .ok (.bipush 100, 2) := by decide +kernel
theorem dX11_tileRow_39 : decode cX11_tileRow 39 = .ok (.if_icmp .ge 103, 3) := by decide +kernel
theorem dX11_tileRow_42 : decode cX11_tileRow 42 = .ok (.aload_n 0, 1) := by decide +kernel
theorem dX11_tileRow_43 : decode cX11_tileRow 43 = .ok (.iload 5, 2) := by decide +kernel
theorem dX11_tileRow_45 : decode cX11_tileRow 45 = .ok (.invokevirtual 333, 3) := by decide +kernel
theorem dX11_tileRow_48 : decode cX11_tileRow 48 = .ok (.ifCond .eq 88, 3) := by decide +kernel
theorem dX11_tileRow_51 : decode cX11_tileRow 51 = .ok (.aload_n 0, 1) := by decide +kernel
theorem dX11_tileRow_52 : decode cX11_tileRow 52 = .ok (.getfield 133, 3) := by decide +kernel
theorem dX11_tileRow_55 : decode cX11_tileRow 55 = .ok (.iload 5, 2) := by decide +kernel
theorem dX11_tileRow_57 : decode cX11_tileRow 57 = .ok (.iload_n 1, 1) := by decide +kernel
theorem dX11_tileRow_58 : decode cX11_tileRow 58 = .ok (.iload_n 2, 1) := by decide +kernel
theorem dX11_tileRow_59 : decode cX11_tileRow 59 = .ok (.invokestatic 529, 3) := by decide +kernel
theorem dX11_tileRow_62 : decode cX11_tileRow 62 = .ok (.iaload, 1) := by decide +kernel
theorem dX11_tileRow_63 : decode cX11_tileRow 63 = .ok (.ifCond .le 6, 3) := by decide +kernel
theorem dX11_tileRow_66 : decode cX11_tileRow 66 = .ok (.goto 70, 3) := by decide +kernel
theorem dX11_tileRow_69 : decode cX11_tileRow 69 = .ok (.aload_n 0, 1) := by decide +kernel
theorem dX11_tileRow_70 : decode cX11_tileRow 70 = .ok (.getfield 133, 3) := by decide +kernel
theorem dX11_tileRow_73 : decode cX11_tileRow 73 = .ok (.iload 5, 2) := by decide +kernel
theorem dX11_tileRow_75 : decode cX11_tileRow 75 = .ok (.iload_n 1, 1) := by decide +kernel
theorem dX11_tileRow_76 : decode cX11_tileRow 76 = .ok (.iload_n 2, 1) := by decide +kernel
theorem dX11_tileRow_77 : decode cX11_tileRow 77 = .ok (.invokestatic 529, 3) := by decide +kernel
theorem dX11_tileRow_80 : decode cX11_tileRow 80 = .ok (.aload_n 0, 1) := by decide +kernel
theorem dX11_tileRow_81 : decode cX11_tileRow 81 = .ok (.iload 5, 2) := by decide +kernel
theorem dX11_tileRow_83 : decode cX11_tileRow 83 = .ok (.iload_n 1, 1) := by decide +kernel
theorem dX11_tileRow_84 : decode cX11_tileRow 84 = .ok (.iload_n 2, 1) := by decide +kernel
theorem dX11_tileRow_85 : decode cX11_tileRow 85 = .ok (.invokestatic 529, 3) := by decide +kernel
theorem dX11_tileRow_88 : decode cX11_tileRow 88 = .ok (.invokevirtual 532, 3) := by decide +kernel
theorem dX11_tileRow_91 : decode cX11_tileRow 91 = .ok (.iastore, 1) := by decide +kernel
theorem dX11_tileRow_92 : decode cX11_tileRow 92 = .ok (.iload_n 3, 1) := by decide +kernel
theorem dX11_tileRow_93 : decode cX11_tileRow 93 = .ok (.ifCond .ne 18, 3) := by decide +kernel
theorem dX11_tileRow_96 : decode cX11_tileRow 96 = .ok (.aload_n 0, 1) := by decide +kernel
theorem dX11_tileRow_97 : decode cX11_tileRow 97 = .ok (.getfield 133, 3) := by decide +kernel
theorem dX11_tileRow_100 : decode cX11_tileRow 100 = .ok (.iload 5, 2) := by decide +kernel
theorem dX11_tileRow_102 : decode cX11_tileRow 102 = .ok (.iload_n 1, 1) := by decide +kernel
theorem dX11_tileRow_103 : decode cX11_tileRow 103 = .ok (.iload_n 2, 1) := by decide +kernel
theorem dX11_tileRow_104 : decode cX11_tileRow 104 = .ok (.invokestatic 529, 3) := by decide +kernel
theorem dX11_tileRow_107 : decode cX11_tileRow 107 = .ok (.iaload, 1) := by decide +kernel
theorem dX11_tileRow_108 : decode cX11_tileRow 108 = .ok (.ifCond .le 7, 3) := by decide +kernel
theorem dX11_tileRow_111 : decode cX11_tileRow 111 = .ok (.iconst 1, 1) := by decide +kernel
theorem dX11_tileRow_112 : decode cX11_tileRow 112 = .ok (.goto 4, 3) := by decide +kernel
theorem dX11_tileRow_115 : decode cX11_tileRow 115 = .ok (.iconst 0, 1) := by decide +kernel
theorem dX11_tileRow_116 : decode cX11_tileRow 116 = .ok (.istore_n 3, 1) := by decide +kernel
theorem dX11_tileRow_117 : decode cX11_tileRow 117 = .ok (.iload 4, 2) := by decide +kernel
theorem dX11_tileRow_119 : decode cX11_tileRow 119 = .ok (.aload_n 0, 1) := by decide +kernel
theorem dX11_tileRow_120 : decode cX11_tileRow 120 = .ok (.getfield 133, 3) := by decide +kernel
theorem dX11_tileRow_123 : decode cX11_tileRow 123 = .ok (.iload 5, 2) := by decide +kernel
theorem dX11_tileRow_125 : decode cX11_tileRow 125 = .ok (.iload_n 1, 1) := by decide +kernel
theorem dX11_tileRow_126 : decode cX11_tileRow 126 = .ok (.iload_n 2, 1) := by decide +kernel
theorem dX11_tileRow_127 : decode cX11_tileRow 127 = .ok (.invokestatic 529, 3) := by decide +kernel
theorem dX11_tileRow_130 : decode cX11_tileRow 130 = .ok (.iaload, 1) := by decide +kernel
theorem dX11_tileRow_131 : decode cX11_tileRow 131 = .ok (.invokestatic 345, 3) := by decide +kernel
theorem dX11_tileRow_134 : decode cX11_tileRow 134 = .ok (.istore 4, 2) := by decide +kernel
theorem dX11_tileRow_136 : decode cX11_tileRow 136 = .ok (.iinc 5 1, 3) := by decide +kernel
theorem dX11_tileRow_139 : decode cX11_tileRow 139 = .ok (.goto (-104), 3) := by decide +kernel
theorem dX11_tileRow_142 : decode cX11_tileRow 142 = .ok (.goto (-116), 3) := by decide +kernel
theorem dX11_tileRow_145 : decode cX11_tileRow 145 = .ok (.iconst 0, 1) := by decide +kernel
theorem dX11_tileRow_146 : decode cX11_tileRow 146 = .ok (.istore 5, 2) := by decide +kernel
theorem dX11_tileRow_148 : decode cX11_tileRow 148 = .ok (.iload 5, 2) := by decide +kernel
theorem dX11_tileRow_150 : decode cX11_tileRow 150 = .ok (.bipush 100, 2) := by decide +kernel
theorem dX11_tileRow_152 : decode cX11_tileRow 152 = .ok (.if_icmp .ge 35, 3) := by decide +kernel
theorem dX11_tileRow_155 : decode cX11_tileRow 155 = .ok (.aload_n 0, 1) := by decide +kernel
theorem dX11_tileRow_156 : decode cX11_tileRow 156 = .ok (.iload 5, 2) := by decide +kernel
theorem dX11_tileRow_158 : decode cX11_tileRow 158 = .ok (.invokevirtual 333, 3) := by decide +kernel
theorem dX11_tileRow_161 : decode cX11_tileRow 161 = .ok (.ifCond .eq 20, 3) := by decide +kernel
theorem dX11_tileRow_164 : decode cX11_tileRow 164 = .ok (.aload_n 0, 1) := by decide +kernel
theorem dX11_tileRow_165 : decode cX11_tileRow 165 = .ok (.getfield 133, 3) := by decide +kernel
theorem dX11_tileRow_168 : decode cX11_tileRow 168 = .ok (.iload 5, 2) := by decide +kernel
theorem dX11_tileRow_170 : decode cX11_tileRow 170 = .ok (.iload_n 1, 1) := by decide +kernel
theorem dX11_tileRow_171 : decode cX11_tileRow 171 = .ok (.iload_n 2, 1) := by decide +kernel
theorem dX11_tileRow_172 : decode cX11_tileRow 172 = .ok (.invokestatic 529, 3) := by decide +kernel
theorem dX11_tileRow_175 : decode cX11_tileRow 175 = .ok (.iaload, 1) := by decide +kernel
theorem dX11_tileRow_176 : decode cX11_tileRow 176 = .ok (.ifCond .ne 5, 3) := by decide +kernel
theorem dX11_tileRow_179 : decode cX11_tileRow 179 = .ok (.iconst 0, 1) := by decide +kernel
theorem dX11_tileRow_180 : decode cX11_tileRow 180 = .ok (.ireturn, 1) := by decide +kernel
theorem dX11_tileRow_181 : decode cX11_tileRow 181 = .ok (.iinc 5 1, 3) := by decide +kernel
theorem dX11_tileRow_184 : decode cX11_tileRow 184 = .ok (.goto (-36), 3) := by decide +kernel
theorem dX11_tileRow_187 : decode cX11_tileRow 187 = .ok (.iload 4, 2) := by decide +kernel
theorem dX11_tileRow_189 : decode cX11_tileRow 189 = .ok (.ireturn, 1) := by decide +kernel
theorem dX11_tileDepthBy_0 : decode cX11_tileDepthBy 0 = .ok (.iconst 1, 1) := by decide +kernel
theorem dX11_tileDepthBy_1 : decode cX11_tileDepthBy 1 = .ok (.istore_n 2, 1) := by decide +kernel
theorem dX11_tileDepthBy_2 : decode cX11_tileDepthBy 2 = .ok (.iconst 0, 1) := by decide +kernel
theorem dX11_tileDepthBy_3 : decode cX11_tileDepthBy 3 = .ok (.istore_n 3, 1) := by decide +kernel
theorem dX11_tileDepthBy_4 : decode cX11_tileDepthBy 4 = .ok (.iload_n 3, 1) := by decide +kernel
theorem dX11_tileDepthBy_5 : decode cX11_tileDepthBy 5 = .ok (.bipush 100, 2) := by decide +kernel
theorem dX11_tileDepthBy_7 : decode cX11_tileDepthBy 7 = .ok (.if_icmp .ge 50, 3) := by decide +kernel
theorem dX11_tileDepthBy_10 : decode cX11_tileDepthBy 10 = .ok (.aload_n 0, 1) := by decide +kernel
theorem dX11_tileDepthBy_11 : decode cX11_tileDepthBy 11 = .ok (.getfield 136, 3) := by decide +kernel
theorem dX11_tileDepthBy_14 : decode cX11_tileDepthBy 14 = .ok (.bipush 100, 2) := by decide +kernel
theorem dX11_tileDepthBy_16 : decode cX11_tileDepthBy 16 = .ok (.iload_n 1, 1) := by decide +kernel
theorem dX11_tileDepthBy_17 : decode cX11_tileDepthBy 17 = .ok (.imul, 1) := by decide +kernel
theorem dX11_tileDepthBy_18 : decode cX11_tileDepthBy 18 = .ok (.iload_n 3, 1) := by decide +kernel
theorem dX11_tileDepthBy_19 : decode cX11_tileDepthBy 19 = .ok (.iadd, 1) := by decide +kernel
theorem dX11_tileDepthBy_20 : decode cX11_tileDepthBy 20 = .ok (.baload, 1) := by decide +kernel
theorem dX11_tileDepthBy_21 : decode cX11_tileDepthBy 21 = .ok (.ifCond .ne 6, 3) := by decide +kernel
theorem dX11_tileDepthBy_24 : decode cX11_tileDepthBy 24 = .ok (.goto 27, 3) := by decide +kernel
theorem dX11_tileDepthBy_27 : decode cX11_tileDepthBy 27 = .ok (.aload_n 0, 1) := by decide +kernel
theorem dX11_tileDepthBy_28 : decode cX11_tileDepthBy 28 = .ok (.getfield 133, 3) := by decide +kernel
theorem dX11_tileDepthBy_31 : decode cX11_tileDepthBy 31 = .ok (.iload_n 3, 1) := by decide +kernel
theorem dX11_tileDepthBy_32 : decode cX11_tileDepthBy 32 = .ok (.iaload, 1) := by decide +kernel
theorem dX11_tileDepthBy_33 : decode cX11_tileDepthBy 33 = .ok (.ifCond .ne 5, 3) := by decide +kernel
theorem dX11_tileDepthBy_36 : decode cX11_tileDepthBy 36 = .ok (.iconst 0, 1) := by decide +kernel
theorem dX11_tileDepthBy_37 : decode cX11_tileDepthBy 37 = .ok (.ireturn, 1) := by decide +kernel
theorem dX11_tileDepthBy_38 : decode cX11_tileDepthBy 38 = .ok (.iload_n 2, 1) := by decide +kernel
theorem dX11_tileDepthBy_39 : decode cX11_tileDepthBy 39 = .ok (.aload_n 0, 1) := by decide +kernel
theorem dX11_tileDepthBy_40 : decode cX11_tileDepthBy 40 = .ok (.getfield 133, 3) := by decide +kernel
theorem dX11_tileDepthBy_43 : decode cX11_tileDepthBy 43 = .ok (.iload_n 3, 1) := by decide +kernel
theorem dX11_tileDepthBy_44 : decode cX11_tileDepthBy 44 = .ok (.iaload, 1) := by decide +kernel
theorem dX11_tileDepthBy_45 : decode cX11_tileDepthBy 45 = .ok (.iconst 1, 1) := by decide +kernel
theorem dX11_tileDepthBy_46 : decode cX11_tileDepthBy 46 = .ok (.iadd, 1) := by decide +kernel
theorem dX11_tileDepthBy_47 : decode cX11_tileDepthBy 47 = .ok (.invokestatic 345, 3) := by decide +kernel
theorem dX11_tileDepthBy_50 : decode cX11_tileDepthBy 50 = .ok (.istore_n 2, 1) := by decide +kernel
theorem dX11_tileDepthBy_51 : decode cX11_tileDepthBy 51 = .ok (.iinc 3 1, 3) := by decide +kernel
theorem dX11_tileDepthBy_54 : decode cX11_tileDepthBy 54 = .ok (.goto (-50), 3) := by decide +kernel
theorem dX11_tileDepthBy_57 : decode cX11_tileDepthBy 57 = .ok (.iload_n 2, 1) := by decide +kernel
theorem dX11_tileDepthBy_58 : decode cX11_tileDepthBy 58 = .ok (.ireturn, 1) := by decide +kernel
theorem dX11_tiles_0 : decode cX11_tiles 0 = .ok (.iload_n 1, 1) := by decide +kernel
theorem dX11_tiles_1 : decode cX11_tiles 1 = .ok (.iconst 1, 1) := by decide +kernel
theorem dX11_tiles_2 : decode cX11_tiles 2 = .ok (.bipush 10, 2) := by decide +kernel
theorem dX11_tiles_4 : decode cX11_tiles 4 = .ok (.invokestatic 221, 3) := by decide +kernel
theorem dX11_tiles_7 : decode cX11_tiles 7 = .ok (.ifCond .eq 22, 3) := by decide +kernel
theorem dX11_tiles_10 : decode cX11_tiles 10 = .ok (.iload_n 2, 1) := by decide +kernel
theorem dX11_tiles_11 : decode cX11_tiles 11 = .ok (.iconst 1, 1) := by decide +kernel
theorem dX11_tiles_12 : decode cX11_tiles 12 = .ok (.bipush 10, 2) := by decide +kernel
theorem dX11_tiles_14 : decode cX11_tiles 14 = .ok (.invokestatic 221, 3) := by decide +kernel
theorem dX11_tiles_17 : decode cX11_tiles 17 = .ok (.ifCond .eq 12, 3) := by decide +kernel
theorem dX11_tiles_20 : decode cX11_tiles 20 = .ok (.iload_n 3, 1) := by decide +kernel
theorem dX11_tiles_21 : decode cX11_tiles 21 = .ok (.iconst 0, 1) := by decide +kernel
theorem dX11_tiles_22 : decode cX11_tiles 22 = .ok (.iconst 3, 1) := by decide +kernel
theorem dX11_tiles_23 : decode cX11_tiles 23 = .ok (.invokestatic 221, 3) := by decide +kernel
theorem dX11_tiles_26 : decode cX11_tiles 26 = .ok (.ifCond .ne 5, 3) := by decide +kernel
theorem dX11_tiles_29 : decode cX11_tiles 29 = .ok (.iconst (-1), 1) := by decide +kernel
theorem dX11_tiles_30 : decode cX11_tiles 30 = .ok (.ireturn, 1) := by decide +kernel
theorem dX11_tiles_31 : decode cX11_tiles 31 = .ok (.aload_n 0, 1) := by decide +kernel
theorem dX11_tiles_32 : decode cX11_tiles 32 = .ok (.iload_n 1, 1) := by decide +kernel
theorem dX11_tiles_33 : decode cX11_tiles 33 = .ok (.iload_n 2, 1) := by decide +kernel
theorem dX11_tiles_34 : decode cX11_tiles 34 = .ok (.invokevirtual 535, 3) := by decide +kernel
theorem dX11_tiles_37 : decode cX11_tiles 37 = .ok (.istore 4, 2) := by decide +kernel
theorem dX11_tiles_39 : decode cX11_tiles 39 = .ok (.aload_n 0, 1) := by decide +kernel
theorem dX11_tiles_40 : decode cX11_tiles 40 = .ok (.iload_n 1, 1) := by decide +kernel
theorem dX11_tiles_41 : decode cX11_tiles 41 = .ok (.iload_n 2, 1) := by decide +kernel
theorem dX11_tiles_42 : decode cX11_tiles 42 = .ok (.invokevirtual 538, 3) := by decide +kernel
theorem dX11_tiles_45 : decode cX11_tiles 45 = .ok (.istore 5, 2) := by decide +kernel
theorem dX11_tiles_47 : decode cX11_tiles 47 = .ok (.iload_n 3, 1) := by decide +kernel
theorem dX11_tiles_48 : decode cX11_tiles 48 = .ok (.ifCond .ne 12, 3) := by decide +kernel
theorem dX11_tiles_51 : decode cX11_tiles 51 = .ok (.aload_n 0, 1) := by decide +kernel
theorem dX11_tiles_52 : decode cX11_tiles 52 = .ok (.iload_n 1, 1) := by decide +kernel
theorem dX11_tiles_53 : decode cX11_tiles 53 = .ok (.iload_n 2, 1) := by decide +kernel
theorem dX11_tiles_54 : decode cX11_tiles 54 = .ok (.invokevirtual 541, 3) := by decide +kernel
theorem dX11_tiles_57 : decode cX11_tiles 57 = .ok (.goto 33, 3) := by decide +kernel
theorem dX11_tiles_60 : decode cX11_tiles 60 = .ok (.iload_n 3, 1) := by decide +kernel
theorem dX11_tiles_61 : decode cX11_tiles 61 = .ok (.iconst 1, 1) := by decide +kernel
theorem dX11_tiles_62 : decode cX11_tiles 62 = .ok (.if_icmp .ne 8, 3) := by decide +kernel
theorem dX11_tiles_65 : decode cX11_tiles 65 = .ok (.iload 4, 2) := by decide +kernel
theorem dX11_tiles_67 : decode cX11_tiles 67 = .ok (.goto 23, 3) := by decide +kernel
theorem dX11_tiles_70 : decode cX11_tiles 70 = .ok (.iload_n 3, 1) := by decide +kernel
theorem dX11_tiles_71 : decode cX11_tiles 71 = .ok (.iconst 2, 1) := by decide +kernel
theorem dX11_tiles_72 : decode cX11_tiles 72 = .ok (.if_icmp .ne 16, 3) := by decide +kernel
theorem dX11_tiles_75 : decode cX11_tiles 75 = .ok (.iload 5, 2) := by decide +kernel
theorem dX11_tiles_77 : decode cX11_tiles 77 = .ok (.ifCond .le 7, 3) := by decide +kernel
theorem dX11_tiles_80 : decode cX11_tiles 80 = .ok (.iconst 1, 1) := by decide +kernel
theorem dX11_tiles_81 : decode cX11_tiles 81 = .ok (.goto 9, 3) := by decide +kernel
theorem dX11_tiles_84 : decode cX11_tiles 84 = .ok (.iconst 0, 1) := by decide +kernel
theorem dX11_tiles_85 : decode cX11_tiles 85 = .ok (.goto 5, 3) := by decide +kernel
theorem dX11_tiles_88 : decode cX11_tiles 88 = .ok (.iload 5, 2) := by decide +kernel
theorem dX11_tiles_90 : decode cX11_tiles 90 = .ok (.ireturn, 1) := by decide +kernel
theorem dX11_tiling_0 : decode cX11_tiling 0 = .ok (.iload_n 1, 1) := by decide +kernel
theorem dX11_tiling_1 : decode cX11_tiling 1 = .ok (.iconst 1, 1) := by decide +kernel
theorem dX11_tiling_2 : decode cX11_tiling 2 = .ok (.bipush 100, 2) := by decide +kernel
theorem dX11_tiling_4 : decode cX11_tiling 4 = .ok (.invokestatic 221, 3) := by decide +kernel
theorem dX11_tiling_7 : decode cX11_tiling 7 = .ok (.ifCond .eq 12, 3) := by decide +kernel
theorem dX11_tiling_10 : decode cX11_tiling 10 = .ok (.iload_n 2, 1) := by decide +kernel
theorem dX11_tiling_11 : decode cX11_tiling 11 = .ok (.iconst 0, 1) := by decide +kernel
theorem dX11_tiling_12 : decode cX11_tiling 12 = .ok (.iconst 2, 1) := by decide +kernel
theorem dX11_tiling_13 : decode cX11_tiling 13 = .ok (.invokestatic 221, 3) := by decide +kernel
theorem dX11_tiling_16 : decode cX11_tiling 16 = .ok (.ifCond .ne 5, 3) := by decide +kernel
theorem dX11_tiling_19 : decode cX11_tiling 19 = .ok (.iconst (-1), 1) := by decide +kernel
theorem dX11_tiling_20 : decode cX11_tiling 20 = .ok (.ireturn, 1) := by decide +kernel
theorem dX11_tiling_21 : decode cX11_tiling 21 = .ok (.aload_n 0, 1) := by decide +kernel
theorem dX11_tiling_22 : decode cX11_tiling 22 = .ok (.invokevirtual 512, 3) := by decide +kernel
theorem dX11_tiling_25 : decode cX11_tiling 25 = .ok (.iconst 1, 1) := by decide +kernel
theorem dX11_tiling_26 : decode cX11_tiling 26 = .ok (.istore_n 3, 1) := by decide +kernel
theorem dX11_tiling_27 : decode cX11_tiling 27 = .ok (.iload_n 3, 1) := by decide +kernel
theorem dX11_tiling_28 : decode cX11_tiling 28 = .ok (.bipush 10, 2) := by decide +kernel
theorem dX11_tiling_30 : decode cX11_tiling 30 = .ok (.if_icmp .gt 63, 3) := by decide +kernel
theorem dX11_tiling_33 : decode cX11_tiling 33 = .ok (.iconst 1, 1) := by decide +kernel
theorem dX11_tiling_34 : decode cX11_tiling 34 = .ok (.istore 4, 2) := by decide +kernel
theorem dX11_tiling_36 : decode cX11_tiling 36 = .ok (.iload 4, 2) := by decide +kernel
theorem dX11_tiling_38 : decode cX11_tiling 38 = .ok (.bipush 10, 2) := by decide +kernel
theorem dX11_tiling_40 : decode cX11_tiling 40 = .ok (.if_icmp .gt 47, 3) := by decide +kernel
theorem dX11_tiling_43 : decode cX11_tiling 43 = .ok (.iload_n 3, 1) := by decide +kernel
theorem dX11_tiling_44 : decode cX11_tiling 44 = .ok (.iload 4, 2) := by decide +kernel
theorem dX11_tiling_46 : decode cX11_tiling 46 = .ok (.imul, 1) := by decide +kernel
theorem dX11_tiling_47 : decode cX11_tiling 47 = .ok (.iload_n 1, 1) := by decide +kernel
theorem dX11_tiling_48 : decode cX11_tiling 48 = .ok (.if_icmp .gt 39, 3) := by decide +kernel
theorem dX11_tiling_51 : decode cX11_tiling 51 = .ok (.aload_n 0, 1) := by decide +kernel
theorem dX11_tiling_52 : decode cX11_tiling 52 = .ok (.iload_n 3, 1) := by decide +kernel
theorem dX11_tiling_53 : decode cX11_tiling 53 = .ok (.iload 4, 2) := by decide +kernel
theorem dX11_tiling_55 : decode cX11_tiling 55 = .ok (.invokevirtual 535, 3) := by decide +kernel
theorem dX11_tiling_58 : decode cX11_tiling 58 = .ok (.istore 5, 2) := by decide +kernel
theorem dX11_tiling_60 : decode cX11_tiling 60 = .ok (.aload_n 0, 1) := by decide +kernel
theorem dX11_tiling_61 : decode cX11_tiling 61 = .ok (.iload_n 3, 1) := by decide +kernel
theorem dX11_tiling_62 : decode cX11_tiling 62 = .ok (.iload 4, 2) := by decide +kernel
theorem dX11_tiling_64 : decode cX11_tiling 64 = .ok (.invokevirtual 538, 3) := by decide +kernel
theorem dX11_tiling_67 : decode cX11_tiling 67 = .ok (.ifCond .le 14, 3) := by decide +kernel
theorem dX11_tiling_70 : decode cX11_tiling 70 = .ok (.aload_n 0, 1) := by decide +kernel
theorem dX11_tiling_71 : decode cX11_tiling 71 = .ok (.iload 5, 2) := by decide +kernel
theorem dX11_tiling_73 : decode cX11_tiling 73 = .ok (.iload_n 3, 1) := by decide +kernel
theorem dX11_tiling_74 : decode cX11_tiling 74 = .ok (.iload 4, 2) := by decide +kernel
theorem dX11_tiling_76 : decode cX11_tiling 76 = .ok (.iconst 0, 1) := by decide +kernel
theorem dX11_tiling_77 : decode cX11_tiling 77 = .ok (.iconst 0, 1) := by decide +kernel
theorem dX11_tiling_78 : decode cX11_tiling 78 = .ok (.invokevirtual 515, 3) := by decide +kernel
theorem dX11_tiling_81 : decode cX11_tiling 81 = .ok (.iinc 4 1, 3) := by decide +kernel
theorem dX11_tiling_84 : decode cX11_tiling 84 = .ok (.goto (-48), 3) := by decide +kernel
theorem dX11_tiling_87 : decode cX11_tiling 87 = .ok (.iinc 3 1, 3) := by decide +kernel
theorem dX11_tiling_90 : decode cX11_tiling 90 = .ok (.goto (-63), 3) := by decide +kernel
theorem dX11_tiling_93 : decode cX11_tiling 93 = .ok (.aload_n 0, 1) := by decide +kernel
theorem dX11_tiling_94 : decode cX11_tiling 94 = .ok (.getfield 494, 3) := by decide +kernel
theorem dX11_tiling_97 : decode cX11_tiling 97 = .ok (.ifCond .ne 5, 3) := by decide +kernel
theorem dX11_tiling_100 : decode cX11_tiling 100 = .ok (.iconst (-1), 1) := by decide +kernel
theorem dX11_tiling_101 : decode cX11_tiling 101 = .ok (.ireturn, 1) := by decide +kernel
theorem dX11_tiling_102 : decode cX11_tiling 102 = .ok (.iload_n 2, 1) := by decide +kernel
theorem dX11_tiling_103 : decode cX11_tiling 103 = .ok (.ifCond .ne 10, 3) := by decide +kernel
theorem dX11_tiling_106 : decode cX11_tiling 106 = .ok (.aload_n 0, 1) := by decide +kernel
theorem dX11_tiling_107 : decode cX11_tiling 107 = .ok (.getfield 500, 3) := by decide +kernel
theorem dX11_tiling_110 : decode cX11_tiling 110 = .ok (.goto 19, 3) := by decide +kernel
theorem dX11_tiling_113 : decode cX11_tiling 113 = .ok (.iload_n 2, 1) := by decide +kernel
theorem dX11_tiling_114 : decode cX11_tiling 114 = .ok (.iconst 1, 1) := by decide +kernel
theorem dX11_tiling_115 : decode cX11_tiling 115 = .ok (.if_icmp .ne 10, 3) := by decide +kernel
theorem dX11_tiling_118 : decode cX11_tiling 118 = .ok (.aload_n 0, 1) := by decide +kernel
theorem dX11_tiling_119 : decode cX11_tiling 119 = .ok (.getfield 503, 3) := by decide +kernel
theorem dX11_tiling_122 : decode cX11_tiling 122 = .ok (.goto 7, 3) := by decide +kernel
theorem dX11_tiling_125 : decode cX11_tiling 125 = .ok (.aload_n 0, 1) := by decide +kernel
theorem dX11_tiling_126 : decode cX11_tiling 126 = .ok (.getfield 497, 3) := by decide +kernel
theorem dX11_tiling_129 : decode cX11_tiling 129 = .ok (.ireturn, 1) := by decide +kernel
theorem dX11_fire_0 : decode cX11_fire 0 = .ok (.iload_n 1, 1) := by decide +kernel
theorem dX11_fire_1 : decode cX11_fire 1 = .ok (.bipush (-9), 2) := by decide +kernel
theorem dX11_fire_3 : decode cX11_fire 3 = .ok (.bipush 9, 2) := by decide +kernel
theorem dX11_fire_5 : decode cX11_fire 5 = .ok (.invokestatic 221, 3) := by decide +kernel
theorem dX11_fire_8 : decode cX11_fire 8 = .ok (.ifCond .eq 14, 3) := by decide +kernel
theorem dX11_fire_11 : decode cX11_fire 11 = .ok (.iload_n 2, 1) := by decide +kernel
theorem dX11_fire_12 : decode cX11_fire 12 = .ok (.bipush (-9), 2) := by decide +kernel
theorem dX11_fire_14 : decode cX11_fire 14 = .ok (.bipush 9, 2) := by decide +kernel
theorem dX11_fire_16 : decode cX11_fire 16 = .ok (.invokestatic 221, 3) := by decide +kernel
theorem dX11_fire_19 : decode cX11_fire 19 = .ok (.ifCond .ne 5, 3) := by decide +kernel
theorem dX11_fire_22 : decode cX11_fire 22 = .ok (.iconst (-1), 1) := by decide +kernel
theorem dX11_fire_23 : decode cX11_fire 23 = .ok (.ireturn, 1) := by decide +kernel
theorem dX11_fire_24 : decode cX11_fire 24 = .ok (.aload_n 0, 1) := by decide +kernel
theorem dX11_fire_25 : decode cX11_fire 25 = .ok (.invokevirtual 544, 3) := by decide +kernel
theorem dX11_fire_28 : decode cX11_fire 28 = .ok (.aload_n 0, 1) := by decide +kernel
theorem dX11_fire_29 : decode cX11_fire 29 = .ok (.getfield 115, 3) := by decide +kernel
theorem dX11_fire_32 : decode cX11_fire 32 = .ok (.iconst 0, 1) := by decide +kernel
theorem dX11_fire_33 : decode cX11_fire 33 = .ok (.iload_n 1, 1) := by decide +kernel
theorem dX11_fire_34 : decode cX11_fire 34 = .ok (.iastore, 1) := by decide +kernel
theorem dX11_fire_35 : decode cX11_fire 35 = .ok (.aload_n 0, 1) := by decide +kernel
theorem dX11_fire_36 : decode cX11_fire 36 = .ok (.getfield 115, 3) := by decide +kernel
theorem dX11_fire_39 : decode cX11_fire 39 = .ok (.iconst 1, 1) := by decide +kernel
theorem dX11_fire_40 : decode cX11_fire 40 = .ok (.iload_n 2, 1) := by decide +kernel
theorem dX11_fire_41 : decode cX11_fire 41 = .ok (.iastore, 1) := by decide +kernel
theorem dX11_fire_42 : decode cX11_fire 42 = .ok (.aload_n 0, 1) := by decide +kernel
theorem dX11_fire_43 : decode cX11_fire 43 = .ok (.iload_n 1, 1) := by decide +kernel
theorem dX11_fire_44 : decode cX11_fire 44 = .ok (.iload_n 2, 1) := by decide +kernel
theorem dX11_fire_45 : decode cX11_fire 45 = .ok (.invokevirtual 440, 3) := by decide +kernel
theorem dX11_fire_48 : decode cX11_fire 48 = .ok (.ifCond .eq 7, 3) := by decide +kernel
theorem dX11_fire_51 : decode cX11_fire 51 = .ok (.iconst 1, 1) := by decide +kernel
theorem dX11_fire_52 : decode cX11_fire 52 = .ok (.goto 4, 3) := by decide +kernel
theorem dX11_fire_55 : decode cX11_fire 55 = .ok (.iconst 0, 1) := by decide +kernel
theorem dX11_fire_56 : decode cX11_fire 56 = .ok (.ireturn, 1) := by decide +kernel
theorem dX11_onto_0 : decode cX11_onto 0 = .ok (.iload_n 1, 1) := by decide +kernel
theorem dX11_onto_1 : decode cX11_onto 1 = .ok (.iload_n 2, 1) := by decide +kernel
theorem dX11_onto_2 : decode cX11_onto 2 = .ok (.invokestatic 519, 3) := by decide +kernel
theorem dX11_onto_5 : decode cX11_onto 5 = .ok (.ifCond .ne 5, 3) := by decide +kernel
theorem dX11_onto_8 : decode cX11_onto 8 = .ok (.iconst (-1), 1) := by decide +kernel
theorem dX11_onto_9 : decode cX11_onto 9 = .ok (.ireturn, 1) := by decide +kernel
theorem dX11_onto_10 : decode cX11_onto 10 = .ok (.aload_n 0, 1) := by decide +kernel
theorem dX11_onto_11 : decode cX11_onto 11 = .ok (.invokevirtual 544, 3) := by decide +kernel
theorem dX11_onto_14 : decode cX11_onto 14 = .ok (.aload_n 0, 1) := by decide +kernel
theorem dX11_onto_15 : decode cX11_onto 15 = .ok (.getfield 115, 3) := by decide +kernel
theorem dX11_onto_18 : decode cX11_onto 18 = .ok (.iconst 2, 1) := by decide +kernel
theorem dX11_onto_19 : decode cX11_onto 19 = .ok (.iload_n 1, 1) := by decide +kernel
theorem dX11_onto_20 : decode cX11_onto 20 = .ok (.iastore, 1) := by decide +kernel
theorem dX11_onto_21 : decode cX11_onto 21 = .ok (.aload_n 0, 1) := by decide +kernel
theorem dX11_onto_22 : decode cX11_onto 22 = .ok (.getfield 115, 3) := by decide +kernel
theorem dX11_onto_25 : decode cX11_onto 25 = .ok (.iconst 3, 1) := by decide +kernel
theorem dX11_onto_26 : decode cX11_onto 26 = .ok (.iload_n 2, 1) := by decide +kernel
theorem dX11_onto_27 : decode cX11_onto 27 = .ok (.iastore, 1) := by decide +kernel
theorem dX11_onto_28 : decode cX11_onto 28 = .ok (.iconst 0, 1) := by decide +kernel
theorem dX11_onto_29 : decode cX11_onto 29 = .ok (.istore_n 3, 1) := by decide +kernel
theorem dX11_onto_30 : decode cX11_onto 30 = .ok (.iload_n 3, 1) := by decide +kernel
theorem dX11_onto_31 : decode cX11_onto 31 = .ok (.bipush 64, 2) := by decide +kernel
theorem dX11_onto_33 : decode cX11_onto 33 = .ok (.if_icmp .ge 18, 3) := by decide +kernel
theorem dX11_onto_36 : decode cX11_onto 36 = .ok (.aload_n 0, 1) := by decide +kernel
theorem dX11_onto_37 : decode cX11_onto 37 = .ok (.getfield 115, 3) := by decide +kernel
theorem dX11_onto_40 : decode cX11_onto 40 = .ok (.iconst 5, 1) := by decide +kernel
theorem dX11_onto_41 : decode cX11_onto 41 = .ok (.iload_n 3, 1) := by decide +kernel
theorem dX11_onto_42 : decode cX11_onto 42 = .ok (.iadd, 1) := by decide +kernel
theorem dX11_onto_43 : decode cX11_onto 43 = .ok (.iconst 0, 1) := by decide +kernel
theorem dX11_onto_44 : decode cX11_onto 44 = .ok (.iastore, 1) := by decide +kernel
theorem dX11_onto_45 : decode cX11_onto 45 = .ok (.iinc 3 1, 3) := by decide +kernel
theorem dX11_onto_48 : decode cX11_onto 48 = .ok (.goto (-18), 3) := by decide +kernel
theorem dX11_onto_51 : decode cX11_onto 51 = .ok (.aload_n 0, 1) := by decide +kernel
theorem dX11_onto_52 : decode cX11_onto 52 = .ok (.invokevirtual 437, 3) := by decide +kernel
theorem dX11_onto_55 : decode cX11_onto 55 = .ok (.aload_n 0, 1) := by decide +kernel
theorem dX11_onto_56 : decode cX11_onto 56 = .ok (.getfield 418, 3) := by decide +kernel
theorem dX11_onto_59 : decode cX11_onto 59 = .ok (.ireturn, 1) := by decide +kernel
theorem dX11_workers_0 : decode cX11_workers 0 = .ok (.iload_n 1, 1) := by decide +kernel
theorem dX11_workers_1 : decode cX11_workers 1 = .ok (.iconst 1, 1) := by decide +kernel
theorem dX11_workers_2 : decode cX11_workers 2 = .ok (.bipush 12, 2) := by decide +kernel
theorem dX11_workers_4 : decode cX11_workers 4 = .ok (.invokestatic 221, 3) := by decide +kernel
theorem dX11_workers_7 : decode cX11_workers 7 = .ok (.ifCond .ne 5, 3) := by decide +kernel
theorem dX11_workers_10 : decode cX11_workers 10 = .ok (.iconst (-1), 1) := by decide +kernel
theorem dX11_workers_11 : decode cX11_workers 11 = .ok (.ireturn, 1) := by decide +kernel
theorem dX11_workers_12 : decode cX11_workers 12 = .ok (.aload_n 0, 1) := by decide +kernel
theorem dX11_workers_13 : decode cX11_workers 13 = .ok (.invokevirtual 544, 3) := by decide +kernel
theorem dX11_workers_16 : decode cX11_workers 16 = .ok (.aload_n 0, 1) := by decide +kernel
theorem dX11_workers_17 : decode cX11_workers 17 = .ok (.getfield 115, 3) := by decide +kernel
theorem dX11_workers_20 : decode cX11_workers 20 = .ok (.iconst 4, 1) := by decide +kernel
theorem dX11_workers_21 : decode cX11_workers 21 = .ok (.iaload, 1) := by decide +kernel
theorem dX11_workers_22 : decode cX11_workers 22 = .ok (.istore_n 2, 1) := by decide +kernel
theorem dX11_workers_23 : decode cX11_workers 23 = .ok (.aload_n 0, 1) := by decide +kernel
theorem dX11_workers_24 : decode cX11_workers 24 = .ok (.getfield 115, 3) := by decide +kernel
theorem dX11_workers_27 : decode cX11_workers 27 = .ok (.iconst 4, 1) := by decide +kernel
theorem dX11_workers_28 : decode cX11_workers 28 = .ok (.iload_n 1, 1) := by decide +kernel
theorem dX11_workers_29 : decode cX11_workers 29 = .ok (.iastore, 1) := by decide +kernel
theorem dX11_workers_30 : decode cX11_workers 30 = .ok (.iload_n 2, 1) := by decide +kernel
theorem dX11_workers_31 : decode cX11_workers 31 = .ok (.ireturn, 1) := by decide +kernel
theorem dX11_broken_0 : decode cX11_broken 0 = .ok (.aload_n 0, 1) := by decide +kernel
theorem dX11_broken_1 : decode cX11_broken 1 = .ok (.iload_n 1, 1) := by decide +kernel
theorem dX11_broken_2 : decode cX11_broken 2 = .ok (.invokevirtual 470, 3) := by decide +kernel
theorem dX11_broken_5 : decode cX11_broken 5 = .ok (.ifCond .eq 12, 3) := by decide +kernel
theorem dX11_broken_8 : decode cX11_broken 8 = .ok (.aload_n 0, 1) := by decide +kernel
theorem dX11_broken_9 : decode cX11_broken 9 = .ok (.iload_n 1, 1) := by decide +kernel
theorem dX11_broken_10 : decode cX11_broken 10 = .ok (.invokevirtual 455, 3) := by decide +kernel
theorem dX11_broken_13 : decode cX11_broken 13 = .ok (.iload_n 2, 1) := by decide +kernel
theorem dX11_broken_14 : decode cX11_broken 14 = .ok (.if_icmp .ne 5, 3) := by decide +kernel
theorem dX11_broken_17 : decode cX11_broken 17 = .ok (.iconst (-1), 1) := by decide +kernel
theorem dX11_broken_18 : decode cX11_broken 18 = .ok (.ireturn, 1) := by decide +kernel
theorem dX11_broken_19 : decode cX11_broken 19 = .ok (.aload_n 0, 1) := by decide +kernel
theorem dX11_broken_20 : decode cX11_broken 20 = .ok (.invokevirtual 544, 3) := by decide +kernel
theorem dX11_broken_23 : decode cX11_broken 23 = .ok (.aload_n 0, 1) := by decide +kernel
theorem dX11_broken_24 : decode cX11_broken 24 = .ok (.getfield 115, 3) := by decide +kernel
theorem dX11_broken_27 : decode cX11_broken 27 = .ok (.iconst 5, 1) := by decide +kernel
theorem dX11_broken_28 : decode cX11_broken 28 = .ok (.iload_n 1, 1) := by decide +kernel
theorem dX11_broken_29 : decode cX11_broken 29 = .ok (.iadd, 1) := by decide +kernel
theorem dX11_broken_30 : decode cX11_broken 30 = .ok (.iload_n 2, 1) := by decide +kernel
theorem dX11_broken_31 : decode cX11_broken 31 = .ok (.ifCond .eq 7, 3) := by decide +kernel
theorem dX11_broken_34 : decode cX11_broken 34 = .ok (.iconst 1, 1) := by decide +kernel
theorem dX11_broken_35 : decode cX11_broken 35 = .ok (.goto 4, 3) := by decide +kernel
theorem dX11_broken_38 : decode cX11_broken 38 = .ok (.iconst 0, 1) := by decide +kernel
theorem dX11_broken_39 : decode cX11_broken 39 = .ok (.iastore, 1) := by decide +kernel
theorem dX11_broken_40 : decode cX11_broken 40 = .ok (.aload_n 0, 1) := by decide +kernel
theorem dX11_broken_41 : decode cX11_broken 41 = .ok (.invokevirtual 467, 3) := by decide +kernel
theorem dX11_broken_44 : decode cX11_broken 44 = .ok (.ireturn, 1) := by decide +kernel
theorem dX11_keepAct_0 : decode cX11_keepAct 0 = .ok (.aload_n 0, 1) := by decide +kernel
theorem dX11_keepAct_1 : decode cX11_keepAct 1 = .ok (.getfield 408, 3) := by decide +kernel
theorem dX11_keepAct_4 : decode cX11_keepAct 4 = .ok (.bipush 20, 2) := by decide +kernel
theorem dX11_keepAct_6 : decode cX11_keepAct 6 = .ok (.if_icmp .ne 43, 3) := by decide +kernel
theorem dX11_keepAct_9 : decode cX11_keepAct 9 = .ok (.iconst 0, 1) := by decide +kernel
theorem dX11_keepAct_10 : decode cX11_keepAct 10 = .ok (.istore_n 1, 1) := by decide +kernel
theorem dX11_keepAct_11 : decode cX11_keepAct 11 = .ok (.iload_n 1, 1) := by decide +kernel
theorem dX11_keepAct_12 : decode cX11_keepAct 12 = .ok (.sipush 1380, 3) := by decide +kernel
theorem dX11_keepAct_15 : decode cX11_keepAct 15 = .ok (.if_icmp .ge 24, 3) := by decide +kernel
theorem dX11_keepAct_18 : decode cX11_keepAct 18 = .ok (.aload_n 0, 1) := by decide +kernel
theorem dX11_keepAct_19 : decode cX11_keepAct 19 = .ok (.getfield 139, 3) := by decide +kernel
theorem dX11_keepAct_22 : decode cX11_keepAct 22 = .ok (.iload_n 1, 1) := by decide +kernel
theorem dX11_keepAct_23 : decode cX11_keepAct 23 = .ok (.aload_n 0, 1) := by decide +kernel
theorem dX11_keepAct_24 : decode cX11_keepAct 24 = .ok (.getfield 139, 3) := by decide +kernel
theorem dX11_keepAct_27 : decode cX11_keepAct 27 = .ok (.iload_n 1, 1) := by decide +kernel
theorem dX11_keepAct_28 : decode cX11_keepAct 28 = .ok (.bipush 69, 2) := by decide +kernel
theorem dX11_keepAct_30 : decode cX11_keepAct 30 = .ok (.iadd, 1) := by decide +kernel
theorem dX11_keepAct_31 : decode cX11_keepAct 31 = .ok (.iaload, 1) := by decide +kernel
theorem dX11_keepAct_32 : decode cX11_keepAct 32 = .ok (.iastore, 1) := by decide +kernel
theorem dX11_keepAct_33 : decode cX11_keepAct 33 = .ok (.iinc 1 1, 3) := by decide +kernel
theorem dX11_keepAct_36 : decode cX11_keepAct 36 = .ok (.goto (-25), 3) := by decide +kernel
theorem dX11_keepAct_39 : decode cX11_keepAct 39 = .ok (.aload_n 0, 1) := by decide +kernel
theorem dX11_keepAct_40 : decode cX11_keepAct 40 = .ok (.dup, 1) := by decide +kernel
theorem dX11_keepAct_41 : decode cX11_keepAct 41 = .ok (.getfield 408, 3) := by decide +kernel
theorem dX11_keepAct_44 : decode cX11_keepAct 44 = .ok (.iconst 1, 1) := by decide +kernel
theorem dX11_keepAct_45 : decode cX11_keepAct 45 = .ok (.isub, 1) := by decide +kernel
theorem dX11_keepAct_46 : decode cX11_keepAct 46 = .ok (.putfield 408, 3) := by decide +kernel
theorem dX11_keepAct_49 : decode cX11_keepAct 49 = .ok (.iconst 0, 1) := by decide +kernel
theorem dX11_keepAct_50 : decode cX11_keepAct 50 = .ok (.istore_n 1, 1) := by decide +kernel
theorem dX11_keepAct_51 : decode cX11_keepAct 51 = .ok (.iload_n 1, 1) := by decide +kernel
theorem dX11_keepAct_52 : decode cX11_keepAct 52 = .ok (.bipush 69, 2) := by decide +kernel
theorem dX11_keepAct_54 : decode cX11_keepAct 54 = .ok (.if_icmp .ge 29, 3) := by decide +kernel
theorem dX11_keepAct_57 : decode cX11_keepAct 57 = .ok (.aload_n 0, 1) := by decide +kernel
theorem dX11_keepAct_58 : decode cX11_keepAct 58 = .ok (.getfield 139, 3) := by decide +kernel
theorem dX11_keepAct_61 : decode cX11_keepAct 61 = .ok (.bipush 69, 2) := by decide +kernel
theorem dX11_keepAct_63 : decode cX11_keepAct 63 = .ok (.aload_n 0, 1) := by decide +kernel
theorem dX11_keepAct_64 : decode cX11_keepAct 64 = .ok (.getfield 408, 3) := by decide +kernel
theorem dX11_keepAct_67 : decode cX11_keepAct 67 = .ok (.imul, 1) := by decide +kernel
theorem dX11_keepAct_68 : decode cX11_keepAct 68 = .ok (.iload_n 1, 1) := by decide +kernel
theorem dX11_keepAct_69 : decode cX11_keepAct 69 = .ok (.iadd, 1) := by decide +kernel
theorem dX11_keepAct_70 : decode cX11_keepAct 70 = .ok (.aload_n 0, 1) := by decide +kernel
theorem dX11_keepAct_71 : decode cX11_keepAct 71 = .ok (.getfield 115, 3) := by decide +kernel
theorem dX11_keepAct_74 : decode cX11_keepAct 74 = .ok (.iload_n 1, 1) := by decide +kernel
theorem dX11_keepAct_75 : decode cX11_keepAct 75 = .ok (.iaload, 1) := by decide +kernel
theorem dX11_keepAct_76 : decode cX11_keepAct 76 = .ok (.iastore, 1) := by decide +kernel
theorem dX11_keepAct_77 : decode cX11_keepAct 77 = .ok (.iinc 1 1, 3) := by decide +kernel
theorem dX11_keepAct_80 : decode cX11_keepAct 80 = .ok (.goto (-29), 3) := by decide +kernel
theorem dX11_keepAct_83 : decode cX11_keepAct 83 = .ok (.aload_n 0, 1) := by decide +kernel
theorem dX11_keepAct_84 : decode cX11_keepAct 84 = .ok (.dup, 1) := by decide +kernel
theorem dX11_keepAct_85 : decode cX11_keepAct 85 = .ok (.getfield 408, 3) := by decide +kernel
theorem dX11_keepAct_88 : decode cX11_keepAct 88 = .ok (.iconst 1, 1) := by decide +kernel
theorem dX11_keepAct_89 : decode cX11_keepAct 89 = .ok (.iadd, 1) := by decide +kernel
theorem dX11_keepAct_90 : decode cX11_keepAct 90 = .ok (.putfield 408, 3) := by decide +kernel
theorem dX11_keepAct_93 : decode cX11_keepAct 93 = .ok (.aload_n 0, 1) := by decide +kernel
theorem dX11_keepAct_94 : decode cX11_keepAct 94 = .ok (.iconst 0, 1) := by decide +kernel
theorem dX11_keepAct_95 : decode cX11_keepAct 95 = .ok (.putfield 411, 3) := by decide +kernel
theorem dX11_keepAct_98 : decode cX11_keepAct 98 = .ok (.return_, 1) := by decide +kernel
theorem dX11_swapAll_0 : decode cX11_swapAll 0 = .ok (.iconst 0, 1) := by decide +kernel
theorem dX11_swapAll_1 : decode cX11_swapAll 1 = .ok (.istore_n 1, 1) := by decide +kernel
theorem dX11_swapAll_2 : decode cX11_swapAll 2 = .ok (.iload_n 1, 1) := by decide +kernel
theorem dX11_swapAll_3 : decode cX11_swapAll 3 = .ok (.bipush 69, 2) := by decide +kernel
theorem dX11_swapAll_5 : decode cX11_swapAll 5 = .ok (.if_icmp .ge 51, 3) := by decide +kernel
theorem dX11_swapAll_8 : decode cX11_swapAll 8 = .ok (.aload_n 0, 1) := by decide +kernel
theorem dX11_swapAll_9 : decode cX11_swapAll 9 = .ok (.getfield 139, 3) := by decide +kernel
theorem dX11_swapAll_12 : decode cX11_swapAll 12 = .ok (.bipush 69, 2) := by decide +kernel
theorem dX11_swapAll_14 : decode cX11_swapAll 14 = .ok (.aload_n 0, 1) := by decide +kernel
theorem dX11_swapAll_15 : decode cX11_swapAll 15 = .ok (.getfield 408, 3) := by decide +kernel
theorem dX11_swapAll_18 : decode cX11_swapAll 18 = .ok (.imul, 1) := by decide +kernel
theorem dX11_swapAll_19 : decode cX11_swapAll 19 = .ok (.iload_n 1, 1) := by decide +kernel
theorem dX11_swapAll_20 : decode cX11_swapAll 20 = .ok (.iadd, 1) := by decide +kernel
theorem dX11_swapAll_21 : decode cX11_swapAll 21 = .ok (.iaload, 1) := by decide +kernel
theorem dX11_swapAll_22 : decode cX11_swapAll 22 = .ok (.istore_n 2, 1) := by decide +kernel
theorem dX11_swapAll_23 : decode cX11_swapAll 23 = .ok (.aload_n 0, 1) := by decide +kernel
theorem dX11_swapAll_24 : decode cX11_swapAll 24 = .ok (.getfield 139, 3) := by decide +kernel
theorem dX11_swapAll_27 : decode cX11_swapAll 27 = .ok (.bipush 69, 2) := by decide +kernel
theorem dX11_swapAll_29 : decode cX11_swapAll 29 = .ok (.aload_n 0, 1) := by decide +kernel
theorem dX11_swapAll_30 : decode cX11_swapAll 30 = .ok (.getfield 408, 3) := by decide +kernel
theorem dX11_swapAll_33 : decode cX11_swapAll 33 = .ok (.imul, 1) := by decide +kernel
theorem dX11_swapAll_34 : decode cX11_swapAll 34 = .ok (.iload_n 1, 1) := by decide +kernel
theorem dX11_swapAll_35 : decode cX11_swapAll 35 = .ok (.iadd, 1) := by decide +kernel
theorem dX11_swapAll_36 : decode cX11_swapAll 36 = .ok (.aload_n 0, 1) := by decide +kernel
theorem dX11_swapAll_37 : decode cX11_swapAll 37 = .ok (.getfield 115, 3) := by decide +kernel
theorem dX11_swapAll_40 : decode cX11_swapAll 40 = .ok (.iload_n 1, 1) := by decide +kernel
theorem dX11_swapAll_41 : decode cX11_swapAll 41 = .ok (.iaload, 1) := by decide +kernel
theorem dX11_swapAll_42 : decode cX11_swapAll 42 = .ok (.iastore, 1) := by decide +kernel
theorem dX11_swapAll_43 : decode cX11_swapAll 43 = .ok (.aload_n 0, 1) := by decide +kernel
theorem dX11_swapAll_44 : decode cX11_swapAll 44 = .ok (.getfield 115, 3) := by decide +kernel
theorem dX11_swapAll_47 : decode cX11_swapAll 47 = .ok (.iload_n 1, 1) := by decide +kernel
theorem dX11_swapAll_48 : decode cX11_swapAll 48 = .ok (.iload_n 2, 1) := by decide +kernel
theorem dX11_swapAll_49 : decode cX11_swapAll 49 = .ok (.iastore, 1) := by decide +kernel
theorem dX11_swapAll_50 : decode cX11_swapAll 50 = .ok (.iinc 1 1, 3) := by decide +kernel
theorem dX11_swapAll_53 : decode cX11_swapAll 53 = .ok (.goto (-51), 3) := by decide +kernel
theorem dX11_swapAll_56 : decode cX11_swapAll 56 = .ok (.return_, 1) := by decide +kernel
theorem dX11_undo_0 : decode cX11_undo 0 = .ok (.aload_n 0, 1) := by decide +kernel
theorem dX11_undo_1 : decode cX11_undo 1 = .ok (.getfield 408, 3) := by decide +kernel
theorem dX11_undo_4 : decode cX11_undo 4 = .ok (.ifCond .ne 5, 3) := by decide +kernel
theorem dX11_undo_7 : decode cX11_undo 7 = .ok (.iconst 0, 1) := by decide +kernel
theorem dX11_undo_8 : decode cX11_undo 8 = .ok (.ireturn, 1) := by decide +kernel
theorem dX11_undo_9 : decode cX11_undo 9 = .ok (.aload_n 0, 1) := by decide +kernel
theorem dX11_undo_10 : decode cX11_undo 10 = .ok (.dup, 1) := by decide +kernel
theorem dX11_undo_11 : decode cX11_undo 11 = .ok (.getfield 408, 3) := by decide +kernel
theorem dX11_undo_14 : decode cX11_undo 14 = .ok (.iconst 1, 1) := by decide +kernel
theorem dX11_undo_15 : decode cX11_undo 15 = .ok (.isub, 1) := by decide +kernel
theorem dX11_undo_16 : decode cX11_undo 16 = .ok (.putfield 408, 3) := by decide +kernel
theorem dX11_undo_19 : decode cX11_undo 19 = .ok (.aload_n 0, 1) := by decide +kernel
theorem dX11_undo_20 : decode cX11_undo 20 = .ok (.dup, 1) := by decide +kernel
theorem dX11_undo_21 : decode cX11_undo 21 = .ok (.getfield 411, 3) := by decide +kernel
theorem dX11_undo_24 : decode cX11_undo 24 = .ok (.iconst 1, 1) := by decide +kernel
theorem dX11_undo_25 : decode cX11_undo 25 = .ok (.iadd, 1) := by decide +kernel
theorem dX11_undo_26 : decode cX11_undo 26 = .ok (.putfield 411, 3) := by decide +kernel
theorem dX11_undo_29 : decode cX11_undo 29 = .ok (.aload_n 0, 1) := by decide +kernel
theorem dX11_undo_30 : decode cX11_undo 30 = .ok (.invokevirtual 547, 3) := by decide +kernel
theorem dX11_undo_33 : decode cX11_undo 33 = .ok (.iconst 1, 1) := by decide +kernel
theorem dX11_undo_34 : decode cX11_undo 34 = .ok (.ireturn, 1) := by decide +kernel
theorem dX11_redo_0 : decode cX11_redo 0 = .ok (.aload_n 0, 1) := by decide +kernel
theorem dX11_redo_1 : decode cX11_redo 1 = .ok (.getfield 411, 3) := by decide +kernel
theorem dX11_redo_4 : decode cX11_redo 4 = .ok (.ifCond .ne 5, 3) := by decide +kernel
theorem dX11_redo_7 : decode cX11_redo 7 = .ok (.iconst 0, 1) := by decide +kernel
theorem dX11_redo_8 : decode cX11_redo 8 = .ok (.ireturn, 1) := by decide +kernel
theorem dX11_redo_9 : decode cX11_redo 9 = .ok (.aload_n 0, 1) := by decide +kernel
theorem dX11_redo_10 : decode cX11_redo 10 = .ok (.invokevirtual 547, 3) := by decide +kernel
theorem dX11_redo_13 : decode cX11_redo 13 = .ok (.aload_n 0, 1) := by decide +kernel
theorem dX11_redo_14 : decode cX11_redo 14 = .ok (.dup, 1) := by decide +kernel
theorem dX11_redo_15 : decode cX11_redo 15 = .ok (.getfield 408, 3) := by decide +kernel
theorem dX11_redo_18 : decode cX11_redo 18 = .ok (.iconst 1, 1) := by decide +kernel
theorem dX11_redo_19 : decode cX11_redo 19 = .ok (.iadd, 1) := by decide +kernel
theorem dX11_redo_20 : decode cX11_redo 20 = .ok (.putfield 408, 3) := by decide +kernel
theorem dX11_redo_23 : decode cX11_redo 23 = .ok (.aload_n 0, 1) := by decide +kernel
theorem dX11_redo_24 : decode cX11_redo 24 = .ok (.dup, 1) := by decide +kernel
theorem dX11_redo_25 : decode cX11_redo 25 = .ok (.getfield 411, 3) := by decide +kernel
theorem dX11_redo_28 : decode cX11_redo 28 = .ok (.iconst 1, 1) := by decide +kernel
theorem dX11_redo_29 : decode cX11_redo 29 = .ok (.isub, 1) := by decide +kernel
theorem dX11_redo_30 : decode cX11_redo 30 = .ok (.putfield 411, 3) := by decide +kernel
theorem dX11_redo_33 : decode cX11_redo 33 = .ok (.iconst 1, 1) := by decide +kernel
theorem dX11_redo_34 : decode cX11_redo 34 = .ok (.ireturn, 1) := by decide +kernel
theorem dX11_latencyNow_0 : decode cX11_latencyNow 0 = .ok (.aload_n 0, 1) := by decide +kernel
theorem dX11_latencyNow_1 : decode cX11_latencyNow 1 = .ok (.invokevirtual 437, 3) := by decide +kernel
theorem dX11_latencyNow_4 : decode cX11_latencyNow 4 = .ok (.aload_n 0, 1) := by decide +kernel
theorem dX11_latencyNow_5 : decode cX11_latencyNow 5 = .ok (.getfield 415, 3) := by decide +kernel
theorem dX11_latencyNow_8 : decode cX11_latencyNow 8 = .ok (.ireturn, 1) := by decide +kernel
theorem dX11_image_0 : decode cX11_image 0 = .ok (.iload_n 1, 1) := by decide +kernel
theorem dX11_image_1 : decode cX11_image 1 = .ok (.iconst 0, 1) := by decide +kernel
theorem dX11_image_2 : decode cX11_image 2 = .ok (.iconst 1, 1) := by decide +kernel
theorem dX11_image_3 : decode cX11_image 3 = .ok (.invokestatic 221, 3) := by decide +kernel
theorem dX11_image_6 : decode cX11_image 6 = .ok (.ifCond .ne 5, 3) := by decide +kernel
theorem dX11_image_9 : decode cX11_image 9 = .ok (.iconst (-1), 1) := by decide +kernel
theorem dX11_image_10 : decode cX11_image 10 = .ok (.ireturn, 1) := by decide +kernel
theorem dX11_image_11 : decode cX11_image 11 = .ok (.iconst 0, 1) := by decide +kernel
theorem dX11_image_12 : decode cX11_image 12 = .ok (.istore_n 2, 1) := by decide +kernel
theorem dX11_image_13 : decode cX11_image 13 = .ok (.iload_n 2, 1) := by decide +kernel
theorem dX11_image_14 : decode cX11_image 14 = .ok (.bipush 69, 2) := by decide +kernel
theorem dX11_image_16 : decode cX11_image 16 = .ok (.if_icmp .ge 26, 3) := by decide +kernel
theorem dX11_image_19 : decode cX11_image 19 = .ok (.aload_n 0, 1) := by decide +kernel
theorem dX11_image_20 : decode cX11_image 20 = .ok (.getfield 142, 3) := by decide +kernel
theorem dX11_image_23 : decode cX11_image 23 = .ok (.bipush 69, 2) := by decide +kernel
theorem dX11_image_25 : decode cX11_image 25 = .ok (.iload_n 1, 1) := by decide +kernel
theorem dX11_image_26 : decode cX11_image 26 = .ok (.imul, 1) := by decide +kernel
theorem dX11_image_27 : decode cX11_image 27 = .ok (.iload_n 2, 1) := by decide +kernel
theorem dX11_image_28 : decode cX11_image 28 = .ok (.iadd, 1) := by decide +kernel
theorem dX11_image_29 : decode cX11_image 29 = .ok (.aload_n 0, 1) := by decide +kernel
theorem dX11_image_30 : decode cX11_image 30 = .ok (.getfield 115, 3) := by decide +kernel
theorem dX11_image_33 : decode cX11_image 33 = .ok (.iload_n 2, 1) := by decide +kernel
theorem dX11_image_34 : decode cX11_image 34 = .ok (.iaload, 1) := by decide +kernel
theorem dX11_image_35 : decode cX11_image 35 = .ok (.iastore, 1) := by decide +kernel
theorem dX11_image_36 : decode cX11_image 36 = .ok (.iinc 2 1, 3) := by decide +kernel
theorem dX11_image_39 : decode cX11_image 39 = .ok (.goto (-26), 3) := by decide +kernel
theorem dX11_image_42 : decode cX11_image 42 = .ok (.aload_n 0, 1) := by decide +kernel
theorem dX11_image_43 : decode cX11_image 43 = .ok (.getfield 145, 3) := by decide +kernel
theorem dX11_image_46 : decode cX11_image 46 = .ok (.iload_n 1, 1) := by decide +kernel
theorem dX11_image_47 : decode cX11_image 47 = .ok (.iconst 1, 1) := by decide +kernel
theorem dX11_image_48 : decode cX11_image 48 = .ok (.bastore, 1) := by decide +kernel
theorem dX11_image_49 : decode cX11_image 49 = .ok (.aload_n 0, 1) := by decide +kernel
theorem dX11_image_50 : decode cX11_image 50 = .ok (.invokevirtual 550, 3) := by decide +kernel
theorem dX11_image_53 : decode cX11_image 53 = .ok (.ireturn, 1) := by decide +kernel
theorem dX11_back_0 : decode cX11_back 0 = .ok (.iload_n 1, 1) := by decide +kernel
theorem dX11_back_1 : decode cX11_back 1 = .ok (.iconst 0, 1) := by decide +kernel
theorem dX11_back_2 : decode cX11_back 2 = .ok (.iconst 1, 1) := by decide +kernel
theorem dX11_back_3 : decode cX11_back 3 = .ok (.invokestatic 221, 3) := by decide +kernel
theorem dX11_back_6 : decode cX11_back 6 = .ok (.ifCond .eq 12, 3) := by decide +kernel
theorem dX11_back_9 : decode cX11_back 9 = .ok (.aload_n 0, 1) := by decide +kernel
theorem dX11_back_10 : decode cX11_back 10 = .ok (.getfield 145, 3) := by decide +kernel
theorem dX11_back_13 : decode cX11_back 13 = .ok (.iload_n 1, 1) := by decide +kernel
theorem dX11_back_14 : decode cX11_back 14 = .ok (.baload, 1) := by decide +kernel
theorem dX11_back_15 : decode cX11_back 15 = .ok (.ifCond .ne 5, 3) := by decide +kernel
theorem dX11_back_18 : decode cX11_back 18 = .ok (.iconst (-1), 1) := by decide +kernel
theorem dX11_back_19 : decode cX11_back 19 = .ok (.ireturn, 1) := by decide +kernel
theorem dX11_back_20 : decode cX11_back 20 = .ok (.iconst 0, 1) := by decide +kernel
theorem dX11_back_21 : decode cX11_back 21 = .ok (.istore_n 2, 1) := by decide +kernel
theorem dX11_back_22 : decode cX11_back 22 = .ok (.iload_n 2, 1) := by decide +kernel
theorem dX11_back_23 : decode cX11_back 23 = .ok (.bipush 69, 2) := by decide +kernel
theorem dX11_back_25 : decode cX11_back 25 = .ok (.if_icmp .ge 26, 3) := by decide +kernel
theorem dX11_back_28 : decode cX11_back 28 = .ok (.aload_n 0, 1) := by decide +kernel
theorem dX11_back_29 : decode cX11_back 29 = .ok (.getfield 115, 3) := by decide +kernel
theorem dX11_back_32 : decode cX11_back 32 = .ok (.iload_n 2, 1) := by decide +kernel
theorem dX11_back_33 : decode cX11_back 33 = .ok (.aload_n 0, 1) := by decide +kernel
theorem dX11_back_34 : decode cX11_back 34 = .ok (.getfield 142, 3) := by decide +kernel
theorem dX11_back_37 : decode cX11_back 37 = .ok (.bipush 69, 2) := by decide +kernel
theorem dX11_back_39 : decode cX11_back 39 = .ok (.iload_n 1, 1) := by decide +kernel
theorem dX11_back_40 : decode cX11_back 40 = .ok (.imul, 1) := by decide +kernel
theorem dX11_back_41 : decode cX11_back 41 = .ok (.iload_n 2, 1) := by decide +kernel
theorem dX11_back_42 : decode cX11_back 42 = .ok (.iadd, 1) := by decide +kernel
theorem dX11_back_43 : decode cX11_back 43 = .ok (.iaload, 1) := by decide +kernel
theorem dX11_back_44 : decode cX11_back 44 = .ok (.iastore, 1) := by decide +kernel
theorem dX11_back_45 : decode cX11_back 45 = .ok (.iinc 2 1, 3) := by decide +kernel
theorem dX11_back_48 : decode cX11_back 48 = .ok (.goto (-26), 3) := by decide +kernel
theorem dX11_back_51 : decode cX11_back 51 = .ok (.aload_n 0, 1) := by decide +kernel
theorem dX11_back_52 : decode cX11_back 52 = .ok (.iconst 0, 1) := by decide +kernel
theorem dX11_back_53 : decode cX11_back 53 = .ok (.putfield 408, 3) := by decide +kernel
theorem dX11_back_56 : decode cX11_back 56 = .ok (.aload_n 0, 1) := by decide +kernel
theorem dX11_back_57 : decode cX11_back 57 = .ok (.iconst 0, 1) := by decide +kernel
theorem dX11_back_58 : decode cX11_back 58 = .ok (.putfield 411, 3) := by decide +kernel
theorem dX11_back_61 : decode cX11_back 61 = .ok (.aload_n 0, 1) := by decide +kernel
theorem dX11_back_62 : decode cX11_back 62 = .ok (.invokevirtual 550, 3) := by decide +kernel
theorem dX11_back_65 : decode cX11_back 65 = .ok (.ireturn, 1) := by decide +kernel
theorem dX11_about_0 : decode cX11_about 0 = .ok (.iload_n 1, 1) := by decide +kernel
theorem dX11_about_1 : decode cX11_about 1 = .ok (.tableswitch 144 0 14 #[75, 80, 85, 90, 95, 105, 105, 105, 105, 105, 114, 119, 129, 134, 139], 75) := by decide +kernel
theorem dX11_about_76 : decode cX11_about 76 = .ok (.aload_n 0, 1) := by decide +kernel
theorem dX11_about_77 : decode cX11_about 77 = .ok (.invokevirtual 318, 3) := by decide +kernel
theorem dX11_about_80 : decode cX11_about 80 = .ok (.ireturn, 1) := by decide +kernel
theorem dX11_about_81 : decode cX11_about 81 = .ok (.aload_n 0, 1) := by decide +kernel
theorem dX11_about_82 : decode cX11_about 82 = .ok (.invokevirtual 321, 3) := by decide +kernel
theorem dX11_about_85 : decode cX11_about 85 = .ok (.ireturn, 1) := by decide +kernel
theorem dX11_about_86 : decode cX11_about 86 = .ok (.aload_n 0, 1) := by decide +kernel
theorem dX11_about_87 : decode cX11_about 87 = .ok (.invokevirtual 315, 3) := by decide +kernel
theorem dX11_about_90 : decode cX11_about 90 = .ok (.ireturn, 1) := by decide +kernel
theorem dX11_about_91 : decode cX11_about 91 = .ok (.aload_n 0, 1) := by decide +kernel
theorem dX11_about_92 : decode cX11_about 92 = .ok (.invokevirtual 339, 3) := by decide +kernel
theorem dX11_about_95 : decode cX11_about 95 = .ok (.ireturn, 1) := by decide +kernel
theorem dX11_about_96 : decode cX11_about 96 = .ok (.aload_n 0, 1) := by decide +kernel
theorem dX11_about_97 : decode cX11_about 97 = .ok (.getfield 22, 3) := by decide +kernel
theorem dX11_about_100 : decode cX11_about 100 = .ok (.aload_n 0, 1) := by decide +kernel
theorem dX11_about_101 : decode cX11_about 101 = .ok (.getfield 306, 3) := by decide +kernel
theorem dX11_about_104 : decode cX11_about 104 = .ok (.iaload, 1) := by decide +kernel
theorem dX11_about_105 : decode cX11_about 105 = .ok (.ireturn, 1) := by decide +kernel
theorem dX11_about_106 : decode cX11_about 106 = .ok (.aload_n 0, 1) := by decide +kernel
theorem dX11_about_107 : decode cX11_about 107 = .ok (.getfield 115, 3) := by decide +kernel
theorem dX11_about_110 : decode cX11_about 110 = .ok (.iload_n 1, 1) := by decide +kernel
theorem dX11_about_111 : decode cX11_about 111 = .ok (.iconst 5, 1) := by decide +kernel
theorem dX11_about_112 : decode cX11_about 112 = .ok (.isub, 1) := by decide +kernel
theorem dX11_about_113 : decode cX11_about 113 = .ok (.iaload, 1) := by decide +kernel
theorem dX11_about_114 : decode cX11_about 114 = .ok (.ireturn, 1) := by decide +kernel
theorem dX11_about_115 : decode cX11_about 115 = .ok (.aload_n 0, 1) := by decide +kernel
theorem dX11_about_116 : decode cX11_about 116 = .ok (.invokevirtual 467, 3) := by decide +kernel
theorem dX11_about_119 : decode cX11_about 119 = .ok (.ireturn, 1) := by decide +kernel
theorem dX11_about_120 : decode cX11_about 120 = .ok (.aload_n 0, 1) := by decide +kernel
theorem dX11_about_121 : decode cX11_about 121 = .ok (.getfield 19, 3) := by decide +kernel
theorem dX11_about_124 : decode cX11_about 124 = .ok (.aload_n 0, 1) := by decide +kernel
theorem dX11_about_125 : decode cX11_about 125 = .ok (.getfield 306, 3) := by decide +kernel
theorem dX11_about_128 : decode cX11_about 128 = .ok (.iaload, 1) := by decide +kernel
theorem dX11_about_129 : decode cX11_about 129 = .ok (.ireturn, 1) := by decide +kernel
theorem dX11_about_130 : decode cX11_about 130 = .ok (.aload_n 0, 1) := by decide +kernel
theorem dX11_about_131 : decode cX11_about 131 = .ok (.getfield 408, 3) := by decide +kernel
theorem dX11_about_134 : decode cX11_about 134 = .ok (.ireturn, 1) := by decide +kernel
theorem dX11_about_135 : decode cX11_about 135 = .ok (.aload_n 0, 1) := by decide +kernel
theorem dX11_about_136 : decode cX11_about 136 = .ok (.getfield 411, 3) := by decide +kernel
theorem dX11_about_139 : decode cX11_about 139 = .ok (.ireturn, 1) := by decide +kernel
theorem dX11_about_140 : decode cX11_about 140 = .ok (.aload_n 0, 1) := by decide +kernel
theorem dX11_about_141 : decode cX11_about 141 = .ok (.getfield 159, 3) := by decide +kernel
theorem dX11_about_144 : decode cX11_about 144 = .ok (.ireturn, 1) := by decide +kernel
theorem dX11_about_145 : decode cX11_about 145 = .ok (.sipush (-1000), 3) := by decide +kernel
theorem dX11_about_148 : decode cX11_about 148 = .ok (.ireturn, 1) := by decide +kernel
theorem dJ13_bitCount_95d88_0 : decode cJ13_bitCount_95d88 0 = .ok (.lload_n 0, 1) := by decide +kernel
theorem dJ13_bitCount_95d88_1 : decode cJ13_bitCount_95d88 1 = .ok (.lload_n 0, 1) := by decide +kernel
theorem dJ13_bitCount_95d88_2 : decode cJ13_bitCount_95d88 2 = .ok (.iconst 1, 1) := by decide +kernel
theorem dJ13_bitCount_95d88_3 : decode cJ13_bitCount_95d88 3 = .ok (.lushr, 1) := by decide +kernel
theorem dJ13_bitCount_95d88_4 : decode cJ13_bitCount_95d88 4 = .ok (.ldc2_w 314, 3) := by decide +kernel
theorem dJ13_bitCount_95d88_7 : decode cJ13_bitCount_95d88 7 = .ok (.land, 1) := by decide +kernel
theorem dJ13_bitCount_95d88_8 : decode cJ13_bitCount_95d88 8 = .ok (.lsub, 1) := by decide +kernel
theorem dJ13_bitCount_95d88_9 : decode cJ13_bitCount_95d88 9 = .ok (.lstore_n 0, 1) := by decide +kernel
theorem dJ13_bitCount_95d88_10 : decode cJ13_bitCount_95d88 10 = .ok (.lload_n 0, 1) := by decide +kernel
theorem dJ13_bitCount_95d88_11 : decode cJ13_bitCount_95d88 11 = .ok (.ldc2_w 316, 3) := by decide +kernel
theorem dJ13_bitCount_95d88_14 : decode cJ13_bitCount_95d88 14 = .ok (.land, 1) := by decide +kernel
theorem dJ13_bitCount_95d88_15 : decode cJ13_bitCount_95d88 15 = .ok (.lload_n 0, 1) := by decide +kernel
theorem dJ13_bitCount_95d88_16 : decode cJ13_bitCount_95d88 16 = .ok (.iconst 2, 1) := by decide +kernel
theorem dJ13_bitCount_95d88_17 : decode cJ13_bitCount_95d88 17 = .ok (.lushr, 1) := by decide +kernel
theorem dJ13_bitCount_95d88_18 : decode cJ13_bitCount_95d88 18 = .ok (.ldc2_w 316, 3) := by decide +kernel
theorem dJ13_bitCount_95d88_21 : decode cJ13_bitCount_95d88 21 = .ok (.land, 1) := by decide +kernel
theorem dJ13_bitCount_95d88_22 : decode cJ13_bitCount_95d88 22 = .ok (.ladd, 1) := by decide +kernel
theorem dJ13_bitCount_95d88_23 : decode cJ13_bitCount_95d88 23 = .ok (.lstore_n 0, 1) := by decide +kernel
theorem dJ13_bitCount_95d88_24 : decode cJ13_bitCount_95d88 24 = .ok (.lload_n 0, 1) := by decide +kernel
theorem dJ13_bitCount_95d88_25 : decode cJ13_bitCount_95d88 25 = .ok (.lload_n 0, 1) := by decide +kernel
theorem dJ13_bitCount_95d88_26 : decode cJ13_bitCount_95d88 26 = .ok (.iconst 4, 1) := by decide +kernel
theorem dJ13_bitCount_95d88_27 : decode cJ13_bitCount_95d88 27 = .ok (.lushr, 1) := by decide +kernel
theorem dJ13_bitCount_95d88_28 : decode cJ13_bitCount_95d88 28 = .ok (.ladd, 1) := by decide +kernel
theorem dJ13_bitCount_95d88_29 : decode cJ13_bitCount_95d88 29 = .ok (.ldc2_w 318, 3) := by decide +kernel
theorem dJ13_bitCount_95d88_32 : decode cJ13_bitCount_95d88 32 = .ok (.land, 1) := by decide +kernel
theorem dJ13_bitCount_95d88_33 : decode cJ13_bitCount_95d88 33 = .ok (.lstore_n 0, 1) := by decide +kernel
theorem dJ13_bitCount_95d88_34 : decode cJ13_bitCount_95d88 34 = .ok (.lload_n 0, 1) := by decide +kernel
theorem dJ13_bitCount_95d88_35 : decode cJ13_bitCount_95d88 35 = .ok (.lload_n 0, 1) := by decide +kernel
theorem dJ13_bitCount_95d88_36 : decode cJ13_bitCount_95d88 36 = .ok (.bipush 8, 2) := by decide +kernel
theorem dJ13_bitCount_95d88_38 : decode cJ13_bitCount_95d88 38 = .ok (.lushr, 1) := by decide +kernel
theorem dJ13_bitCount_95d88_39 : decode cJ13_bitCount_95d88 39 = .ok (.ladd, 1) := by decide +kernel
theorem dJ13_bitCount_95d88_40 : decode cJ13_bitCount_95d88 40 = .ok (.lstore_n 0, 1) := by decide +kernel
theorem dJ13_bitCount_95d88_41 : decode cJ13_bitCount_95d88 41 = .ok (.lload_n 0, 1) := by decide +kernel
theorem dJ13_bitCount_95d88_42 : decode cJ13_bitCount_95d88 42 = .ok (.lload_n 0, 1) := by decide +kernel
theorem dJ13_bitCount_95d88_43 : decode cJ13_bitCount_95d88 43 = .ok (.bipush 16, 2) := by decide +kernel
theorem dJ13_bitCount_95d88_45 : decode cJ13_bitCount_95d88 45 = .ok (.lushr, 1) := by decide +kernel
theorem dJ13_bitCount_95d88_46 : decode cJ13_bitCount_95d88 46 = .ok (.ladd, 1) := by decide +kernel
theorem dJ13_bitCount_95d88_47 : decode cJ13_bitCount_95d88 47 = .ok (.lstore_n 0, 1) := by decide +kernel
theorem dJ13_bitCount_95d88_48 : decode cJ13_bitCount_95d88 48 = .ok (.lload_n 0, 1) := by decide +kernel
theorem dJ13_bitCount_95d88_49 : decode cJ13_bitCount_95d88 49 = .ok (.lload_n 0, 1) := by decide +kernel
theorem dJ13_bitCount_95d88_50 : decode cJ13_bitCount_95d88 50 = .ok (.bipush 32, 2) := by decide +kernel
theorem dJ13_bitCount_95d88_52 : decode cJ13_bitCount_95d88 52 = .ok (.lushr, 1) := by decide +kernel
theorem dJ13_bitCount_95d88_53 : decode cJ13_bitCount_95d88 53 = .ok (.ladd, 1) := by decide +kernel
theorem dJ13_bitCount_95d88_54 : decode cJ13_bitCount_95d88 54 = .ok (.lstore_n 0, 1) := by decide +kernel
theorem dJ13_bitCount_95d88_55 : decode cJ13_bitCount_95d88 55 = .ok (.lload_n 0, 1) := by decide +kernel
theorem dJ13_bitCount_95d88_56 : decode cJ13_bitCount_95d88 56 = .ok (.l2i, 1) := by decide +kernel
theorem dJ13_bitCount_95d88_57 : decode cJ13_bitCount_95d88 57 = .ok (.bipush 127, 2) := by decide +kernel
theorem dJ13_bitCount_95d88_59 : decode cJ13_bitCount_95d88 59 = .ok (.iand, 1) := by decide +kernel
theorem dJ13_bitCount_95d88_60 : decode cJ13_bitCount_95d88 60 = .ok (.ireturn, 1) := by decide +kernel
theorem dJ9_abs_0f7a4_0 : decode cJ9_abs_0f7a4 0 = .ok (.iload_n 0, 1) := by decide +kernel
theorem dJ9_abs_0f7a4_1 : decode cJ9_abs_0f7a4 1 = .ok (.ifCond .ge 8, 3) := by decide +kernel
theorem dJ9_abs_0f7a4_4 : decode cJ9_abs_0f7a4 4 = .ok (.iload_n 0, 1) := by decide +kernel
theorem dJ9_abs_0f7a4_5 : decode cJ9_abs_0f7a4 5 = .ok (.ineg, 1) := by decide +kernel
theorem dJ9_abs_0f7a4_6 : decode cJ9_abs_0f7a4 6 = .ok (.goto 4, 3) := by decide +kernel
theorem dJ9_abs_0f7a4_9 : decode cJ9_abs_0f7a4 9 = .ok (.iload_n 0, 1) := by decide +kernel
theorem dJ9_abs_0f7a4_10 : decode cJ9_abs_0f7a4 10 = .ok (.ireturn, 1) := by decide +kernel
theorem dJ9_max_7cf53_0 : decode cJ9_max_7cf53 0 = .ok (.iload_n 0, 1) := by decide +kernel
theorem dJ9_max_7cf53_1 : decode cJ9_max_7cf53 1 = .ok (.iload_n 1, 1) := by decide +kernel
theorem dJ9_max_7cf53_2 : decode cJ9_max_7cf53 2 = .ok (.if_icmp .lt 7, 3) := by decide +kernel
theorem dJ9_max_7cf53_5 : decode cJ9_max_7cf53 5 = .ok (.iload_n 0, 1) := by decide +kernel
theorem dJ9_max_7cf53_6 : decode cJ9_max_7cf53 6 = .ok (.goto 4, 3) := by decide +kernel
theorem dJ9_max_7cf53_9 : decode cJ9_max_7cf53 9 = .ok (.iload_n 1, 1) := by decide +kernel
theorem dJ9_max_7cf53_10 : decode cJ9_max_7cf53 10 = .ok (.ireturn, 1) := by decide +kernel
theorem dJ9_min_7cf53_0 : decode cJ9_min_7cf53 0 = .ok (.iload_n 0, 1) := by decide +kernel
theorem dJ9_min_7cf53_1 : decode cJ9_min_7cf53 1 = .ok (.iload_n 1, 1) := by decide +kernel
theorem dJ9_min_7cf53_2 : decode cJ9_min_7cf53 2 = .ok (.if_icmp .gt 7, 3) := by decide +kernel
theorem dJ9_min_7cf53_5 : decode cJ9_min_7cf53 5 = .ok (.iload_n 0, 1) := by decide +kernel
theorem dJ9_min_7cf53_6 : decode cJ9_min_7cf53 6 = .ok (.goto 4, 3) := by decide +kernel
theorem dJ9_min_7cf53_9 : decode cJ9_min_7cf53 9 = .ok (.iload_n 1, 1) := by decide +kernel
theorem dJ9_min_7cf53_10 : decode cJ9_min_7cf53 10 = .ok (.ireturn, 1) := by decide +kernel
theorem dJ0_length_8abf5_0 : decode cJ0_length_8abf5 0 = .ok (.aload_n 0, 1) := by decide +kernel
theorem dJ0_length_8abf5_1 : decode cJ0_length_8abf5 1 = .ok (.getfield 9, 3) := by decide +kernel
theorem dJ0_length_8abf5_4 : decode cJ0_length_8abf5 4 = .ok (.arraylength, 1) := by decide +kernel
theorem dJ0_length_8abf5_5 : decode cJ0_length_8abf5 5 = .ok (.aload_n 0, 1) := by decide +kernel
theorem dJ0_length_8abf5_6 : decode cJ0_length_8abf5 6 = .ok (.invokevirtual 335, 3) := by decide +kernel
theorem dJ0_length_8abf5_9 : decode cJ0_length_8abf5 9 = .ok (.ishr, 1) := by decide +kernel
theorem dJ0_length_8abf5_10 : decode cJ0_length_8abf5 10 = .ok (.ireturn, 1) := by decide +kernel
theorem dJ0_charAt_5068e_0 : decode cJ0_charAt_5068e 0 = .ok (.aload_n 0, 1) := by decide +kernel
theorem dJ0_charAt_5068e_1 : decode cJ0_charAt_5068e 1 = .ok (.invokevirtual 492, 3) := by decide +kernel
theorem dJ0_charAt_5068e_4 : decode cJ0_charAt_5068e 4 = .ok (.ifCond .eq 12, 3) := by decide +kernel
theorem dJ0_charAt_5068e_7 : decode cJ0_charAt_5068e 7 = .ok (.aload_n 0, 1) := by decide +kernel
theorem dJ0_charAt_5068e_8 : decode cJ0_charAt_5068e 8 = .ok (.getfield 9, 3) := by decide +kernel
theorem dJ0_charAt_5068e_11 : decode cJ0_charAt_5068e 11 = .ok (.iload_n 1, 1) := by decide +kernel
theorem dJ0_charAt_5068e_12 : decode cJ0_charAt_5068e 12 = .ok (.invokestatic 495, 3) := by decide +kernel
theorem dJ0_charAt_5068e_15 : decode cJ0_charAt_5068e 15 = .ok (.ireturn, 1) := by decide +kernel
theorem dJ0_charAt_5068e_16 : decode cJ0_charAt_5068e 16 = .ok (.aload_n 0, 1) := by decide +kernel
theorem dJ0_charAt_5068e_17 : decode cJ0_charAt_5068e 17 = .ok (.getfield 9, 3) := by decide +kernel
theorem dJ0_charAt_5068e_20 : decode cJ0_charAt_5068e 20 = .ok (.iload_n 1, 1) := by decide +kernel
theorem dJ0_charAt_5068e_21 : decode cJ0_charAt_5068e 21 = .ok (.invokestatic 498, 3) := by decide +kernel
theorem dJ0_charAt_5068e_24 : decode cJ0_charAt_5068e 24 = .ok (.ireturn, 1) := by decide +kernel
theorem dJ0_coder_7d493_0 : decode cJ0_coder_7d493 0 = .ok (.getstatic 38, 3) := by decide +kernel
theorem dJ0_coder_7d493_3 : decode cJ0_coder_7d493 3 = .ok (.ifCond .eq 10, 3) := by decide +kernel
theorem dJ0_coder_7d493_6 : decode cJ0_coder_7d493 6 = .ok (.aload_n 0, 1) := by decide +kernel
theorem dJ0_coder_7d493_7 : decode cJ0_coder_7d493 7 = .ok (.getfield 15, 3) := by decide +kernel
theorem dJ0_coder_7d493_10 : decode cJ0_coder_7d493 10 = .ok (.goto 4, 3) := by decide +kernel
theorem dJ0_coder_7d493_13 : decode cJ0_coder_7d493 13 = .ok (.iconst 1, 1) := by decide +kernel
theorem dJ0_coder_7d493_14 : decode cJ0_coder_7d493 14 = .ok (.ireturn, 1) := by decide +kernel
theorem dJ0_isLatin1_aae02_0 : decode cJ0_isLatin1_aae02 0 = .ok (.getstatic 38, 3) := by decide +kernel
theorem dJ0_isLatin1_aae02_3 : decode cJ0_isLatin1_aae02 3 = .ok (.ifCond .eq 14, 3) := by decide +kernel
theorem dJ0_isLatin1_aae02_6 : decode cJ0_isLatin1_aae02 6 = .ok (.aload_n 0, 1) := by decide +kernel
theorem dJ0_isLatin1_aae02_7 : decode cJ0_isLatin1_aae02 7 = .ok (.getfield 15, 3) := by decide +kernel
theorem dJ0_isLatin1_aae02_10 : decode cJ0_isLatin1_aae02 10 = .ok (.ifCond .ne 7, 3) := by decide +kernel
theorem dJ0_isLatin1_aae02_13 : decode cJ0_isLatin1_aae02 13 = .ok (.iconst 1, 1) := by decide +kernel
theorem dJ0_isLatin1_aae02_14 : decode cJ0_isLatin1_aae02 14 = .ok (.goto 4, 3) := by decide +kernel
theorem dJ0_isLatin1_aae02_17 : decode cJ0_isLatin1_aae02 17 = .ok (.iconst 0, 1) := by decide +kernel
theorem dJ0_isLatin1_aae02_18 : decode cJ0_isLatin1_aae02 18 = .ok (.ireturn, 1) := by decide +kernel
theorem dJ0_checkIndex_df160_0 : decode cJ0_checkIndex_df160 0 = .ok (.iload_n 0, 1) := by decide +kernel
theorem dJ0_checkIndex_df160_1 : decode cJ0_checkIndex_df160 1 = .ok (.iload_n 1, 1) := by decide +kernel
theorem dJ0_checkIndex_df160_2 : decode cJ0_checkIndex_df160 2 = .ok (.getstatic 1053, 3) := by decide +kernel
theorem dJ0_checkIndex_df160_5 : decode cJ0_checkIndex_df160 5 = .ok (.invokestatic 1059, 3) := by decide +kernel
theorem dJ0_checkIndex_df160_8 : decode cJ0_checkIndex_df160 8 = .ok (.pop, 1) := by decide +kernel
theorem dJ0_checkIndex_df160_9 : decode cJ0_checkIndex_df160 9 = .ok (.return_, 1) := by decide +kernel
theorem dJ1_charAt_3b067_0 : decode cJ1_charAt_3b067 0 = .ok (.iload_n 1, 1) := by decide +kernel
theorem dJ1_charAt_3b067_1 : decode cJ1_charAt_3b067 1 = .ok (.aload_n 0, 1) := by decide +kernel
theorem dJ1_charAt_3b067_2 : decode cJ1_charAt_3b067 2 = .ok (.arraylength, 1) := by decide +kernel
theorem dJ1_charAt_3b067_3 : decode cJ1_charAt_3b067 3 = .ok (.invokestatic 9, 3) := by decide +kernel
theorem dJ1_charAt_3b067_6 : decode cJ1_charAt_3b067 6 = .ok (.aload_n 0, 1) := by decide +kernel
theorem dJ1_charAt_3b067_7 : decode cJ1_charAt_3b067 7 = .ok (.iload_n 1, 1) := by decide +kernel
theorem dJ1_charAt_3b067_8 : decode cJ1_charAt_3b067 8 = .ok (.baload, 1) := by decide +kernel
theorem dJ1_charAt_3b067_9 : decode cJ1_charAt_3b067 9 = .ok (.sipush 255, 3) := by decide +kernel
theorem dJ1_charAt_3b067_12 : decode cJ1_charAt_3b067 12 = .ok (.iand, 1) := by decide +kernel
theorem dJ1_charAt_3b067_13 : decode cJ1_charAt_3b067 13 = .ok (.i2c, 1) := by decide +kernel
theorem dJ1_charAt_3b067_14 : decode cJ1_charAt_3b067 14 = .ok (.ireturn, 1) := by decide +kernel
theorem dJ2_getChar_3b067_0 : decode cJ2_getChar_3b067 0 = .ok (.getstatic 44, 3) := by decide +kernel
theorem dJ2_getChar_3b067_3 : decode cJ2_getChar_3b067 3 = .ok (.ifCond .ne 25, 3) := by decide +kernel
theorem dJ2_getChar_3b067_6 : decode cJ2_getChar_3b067 6 = .ok (.iload_n 1, 1) := by decide +kernel
theorem dJ2_getChar_3b067_7 : decode cJ2_getChar_3b067 7 = .ok (.ifCond .lt 11, 3) := by decide +kernel
theorem dJ2_getChar_3b067_10 : decode cJ2_getChar_3b067 10 = .ok (.iload_n 1, 1) := by decide +kernel
theorem dJ2_getChar_3b067_11 : decode cJ2_getChar_3b067 11 = .ok (.aload_n 0, 1) := by decide +kernel
theorem dJ2_getChar_3b067_12 : decode cJ2_getChar_3b067 12 = .ok (.invokestatic 48, 3) := by decide +kernel
theorem dJ2_getChar_3b067_15 : decode cJ2_getChar_3b067 15 = .ok (.if_icmp .lt 13, 3) := by decide +kernel
theorem dJ2_getChar_3b067_18 : decode cJ2_getChar_3b067 18 = .ok (.new 52, 3) := by decide +kernel
theorem dJ2_getChar_3b067_21 : decode cJ2_getChar_3b067 21 = .ok (.dup, 1) := by decide +kernel
theorem dJ2_getChar_3b067_22 : decode cJ2_getChar_3b067 22 = .ok (.ldc 54, 2) := by decide +kernel
theorem dJ2_getChar_3b067_24 : decode cJ2_getChar_3b067 24 = .ok (.invokespecial 56, 3) := by decide +kernel
theorem dJ2_getChar_3b067_27 : decode cJ2_getChar_3b067 27 = .ok (.athrow, 1) := by decide +kernel
theorem dJ2_getChar_3b067_28 : decode cJ2_getChar_3b067 28 = .ok (.iload_n 1, 1) := by decide +kernel
theorem dJ2_getChar_3b067_29 : decode cJ2_getChar_3b067 29 = .ok (.iconst 1, 1) := by decide +kernel
theorem dJ2_getChar_3b067_30 : decode cJ2_getChar_3b067 30 = .ok (.ishl, 1) := by decide +kernel
theorem dJ2_getChar_3b067_31 : decode cJ2_getChar_3b067 31 = .ok (.istore_n 1, 1) := by decide +kernel
theorem dJ2_getChar_3b067_32 : decode cJ2_getChar_3b067 32 = .ok (.aload_n 0, 1) := by decide +kernel
theorem dJ2_getChar_3b067_33 : decode cJ2_getChar_3b067 33 = .ok (.iload_n 1, 1) := by decide +kernel
theorem dJ2_getChar_3b067_34 : decode cJ2_getChar_3b067 34 = .ok (.iinc 1 1, 3) := by decide +kernel
theorem dJ2_getChar_3b067_37 : decode cJ2_getChar_3b067 37 = .ok (.baload, 1) := by decide +kernel
theorem dJ2_getChar_3b067_38 : decode cJ2_getChar_3b067 38 = .ok (.sipush 255, 3) := by decide +kernel
theorem dJ2_getChar_3b067_41 : decode cJ2_getChar_3b067 41 = .ok (.iand, 1) := by decide +kernel
theorem dJ2_getChar_3b067_42 : decode cJ2_getChar_3b067 42 = .ok (.getstatic 59, 3) := by decide +kernel
theorem dJ2_getChar_3b067_45 : decode cJ2_getChar_3b067 45 = .ok (.ishl, 1) := by decide +kernel
theorem dJ2_getChar_3b067_46 : decode cJ2_getChar_3b067 46 = .ok (.aload_n 0, 1) := by decide +kernel
theorem dJ2_getChar_3b067_47 : decode cJ2_getChar_3b067 47 = .ok (.iload_n 1, 1) := by decide +kernel
theorem dJ2_getChar_3b067_48 : decode cJ2_getChar_3b067 48 = .ok (.baload, 1) := by decide +kernel
theorem dJ2_getChar_3b067_49 : decode cJ2_getChar_3b067 49 = .ok (.sipush 255, 3) := by decide +kernel
theorem dJ2_getChar_3b067_52 : decode cJ2_getChar_3b067 52 = .ok (.iand, 1) := by decide +kernel
theorem dJ2_getChar_3b067_53 : decode cJ2_getChar_3b067 53 = .ok (.getstatic 63, 3) := by decide +kernel
theorem dJ2_getChar_3b067_56 : decode cJ2_getChar_3b067 56 = .ok (.ishl, 1) := by decide +kernel
theorem dJ2_getChar_3b067_57 : decode cJ2_getChar_3b067 57 = .ok (.ior, 1) := by decide +kernel
theorem dJ2_getChar_3b067_58 : decode cJ2_getChar_3b067 58 = .ok (.i2c, 1) := by decide +kernel
theorem dJ2_getChar_3b067_59 : decode cJ2_getChar_3b067 59 = .ok (.ireturn, 1) := by decide +kernel
theorem dJ2_length_9d52b_0 : decode cJ2_length_9d52b 0 = .ok (.aload_n 0, 1) := by decide +kernel
theorem dJ2_length_9d52b_1 : decode cJ2_length_9d52b 1 = .ok (.arraylength, 1) := by decide +kernel
theorem dJ2_length_9d52b_2 : decode cJ2_length_9d52b 2 = .ok (.iconst 1, 1) := by decide +kernel
theorem dJ2_length_9d52b_3 : decode cJ2_length_9d52b 3 = .ok (.ishr, 1) := by decide +kernel
theorem dJ2_length_9d52b_4 : decode cJ2_length_9d52b 4 = .ok (.ireturn, 1) := by decide +kernel
theorem dJ2_charAt_3b067_0 : decode cJ2_charAt_3b067 0 = .ok (.iload_n 1, 1) := by decide +kernel
theorem dJ2_charAt_3b067_1 : decode cJ2_charAt_3b067 1 = .ok (.aload_n 0, 1) := by decide +kernel
theorem dJ2_charAt_3b067_2 : decode cJ2_charAt_3b067 2 = .ok (.invokestatic 67, 3) := by decide +kernel
theorem dJ2_charAt_3b067_5 : decode cJ2_charAt_3b067 5 = .ok (.aload_n 0, 1) := by decide +kernel
theorem dJ2_charAt_3b067_6 : decode cJ2_charAt_3b067 6 = .ok (.iload_n 1, 1) := by decide +kernel
theorem dJ2_charAt_3b067_7 : decode cJ2_charAt_3b067 7 = .ok (.invokestatic 71, 3) := by decide +kernel
theorem dJ2_charAt_3b067_10 : decode cJ2_charAt_3b067 10 = .ok (.ireturn, 1) := by decide +kernel
theorem dJ2_checkIndex_2214a_0 : decode cJ2_checkIndex_2214a 0 = .ok (.iload_n 0, 1) := by decide +kernel
theorem dJ2_checkIndex_2214a_1 : decode cJ2_checkIndex_2214a 1 = .ok (.aload_n 1, 1) := by decide +kernel
theorem dJ2_checkIndex_2214a_2 : decode cJ2_checkIndex_2214a 2 = .ok (.invokestatic 48, 3) := by decide +kernel
theorem dJ2_checkIndex_2214a_5 : decode cJ2_checkIndex_2214a 5 = .ok (.invokestatic 414, 3) := by decide +kernel
theorem dJ2_checkIndex_2214a_8 : decode cJ2_checkIndex_2214a 8 = .ok (.return_, 1) := by decide +kernel
theorem dJ7_fill_53178_0 : decode cJ7_fill_53178 0 = .ok (.iconst 0, 1) := by decide +kernel
theorem dJ7_fill_53178_1 : decode cJ7_fill_53178 1 = .ok (.istore_n 2, 1) := by decide +kernel
theorem dJ7_fill_53178_2 : decode cJ7_fill_53178 2 = .ok (.aload_n 0, 1) := by decide +kernel
theorem dJ7_fill_53178_3 : decode cJ7_fill_53178 3 = .ok (.arraylength, 1) := by decide +kernel
theorem dJ7_fill_53178_4 : decode cJ7_fill_53178 4 = .ok (.istore_n 3, 1) := by decide +kernel
theorem dJ7_fill_53178_5 : decode cJ7_fill_53178 5 = .ok (.iload_n 2, 1) := by decide +kernel
theorem dJ7_fill_53178_6 : decode cJ7_fill_53178 6 = .ok (.iload_n 3, 1) := by decide +kernel
theorem dJ7_fill_53178_7 : decode cJ7_fill_53178 7 = .ok (.if_icmp .ge 13, 3) := by decide +kernel
theorem dJ7_fill_53178_10 : decode cJ7_fill_53178 10 = .ok (.aload_n 0, 1) := by decide +kernel
theorem dJ7_fill_53178_11 : decode cJ7_fill_53178 11 = .ok (.iload_n 2, 1) := by decide +kernel
theorem dJ7_fill_53178_12 : decode cJ7_fill_53178 12 = .ok (.iload_n 1, 1) := by decide +kernel
theorem dJ7_fill_53178_13 : decode cJ7_fill_53178 13 = .ok (.iastore, 1) := by decide +kernel
theorem dJ7_fill_53178_14 : decode cJ7_fill_53178 14 = .ok (.iinc 2 1, 3) := by decide +kernel
theorem dJ7_fill_53178_17 : decode cJ7_fill_53178 17 = .ok (.goto (-12), 3) := by decide +kernel
theorem dJ7_fill_53178_20 : decode cJ7_fill_53178 20 = .ok (.return_, 1) := by decide +kernel
theorem dJ3_checkIndex_8e157_0 : decode cJ3_checkIndex_8e157 0 = .ok (.iload_n 0, 1) := by decide +kernel
theorem dJ3_checkIndex_8e157_1 : decode cJ3_checkIndex_8e157 1 = .ok (.ifCond .lt 8, 3) := by decide +kernel
theorem dJ3_checkIndex_8e157_4 : decode cJ3_checkIndex_8e157 4 = .ok (.iload_n 0, 1) := by decide +kernel
theorem dJ3_checkIndex_8e157_5 : decode cJ3_checkIndex_8e157 5 = .ok (.iload_n 1, 1) := by decide +kernel
theorem dJ3_checkIndex_8e157_6 : decode cJ3_checkIndex_8e157 6 = .ok (.if_icmp .lt 10, 3) := by decide +kernel
theorem dJ3_checkIndex_8e157_9 : decode cJ3_checkIndex_8e157 9 = .ok (.aload_n 2, 1) := by decide +kernel
theorem dJ3_checkIndex_8e157_10 : decode cJ3_checkIndex_8e157 10 = .ok (.iload_n 0, 1) := by decide +kernel
theorem dJ3_checkIndex_8e157_11 : decode cJ3_checkIndex_8e157 11 = .ok (.iload_n 1, 1) := by decide +kernel
theorem dJ3_checkIndex_8e157_12 : decode cJ3_checkIndex_8e157 12 = .ok (.invokestatic 95, 3) := by decide +kernel
theorem dJ3_checkIndex_8e157_15 : decode cJ3_checkIndex_8e157 15 = .ok (.athrow, 1) := by decide +kernel
theorem dJ3_checkIndex_8e157_16 : decode cJ3_checkIndex_8e157 16 = .ok (.iload_n 0, 1) := by decide +kernel
theorem dJ3_checkIndex_8e157_17 : decode cJ3_checkIndex_8e157 17 = .ok (.ireturn, 1) := by decide +kernel
theorem dL_law_0 : decode cL_law 0 = .ok (.new 7, 3) := by decide +kernel
theorem dL_law_3 : decode cL_law 3 = .ok (.dup, 1) := by decide +kernel
theorem dL_law_4 : decode cL_law 4 = .ok (.invokespecial 9, 3) := by decide +kernel
theorem dL_law_7 : decode cL_law 7 = .ok (.astore_n 1, 1) := by decide +kernel
theorem dL_law_8 : decode cL_law 8 = .ok (.new 10, 3) := by decide +kernel
theorem dL_law_11 : decode cL_law 11 = .ok (.dup, 1) := by decide +kernel
theorem dL_law_12 : decode cL_law 12 = .ok (.invokespecial 12, 3) := by decide +kernel
theorem dL_law_15 : decode cL_law 15 = .ok (.astore_n 2, 1) := by decide +kernel
theorem dL_law_16 : decode cL_law 16 = .ok (.iconst 0, 1) := by decide +kernel
theorem dL_law_17 : decode cL_law 17 = .ok (.istore_n 3, 1) := by decide +kernel
theorem dL_law_18 : decode cL_law 18 = .ok (.iload_n 3, 1) := by decide +kernel
theorem dL_law_19 : decode cL_law 19 = .ok (.aload_n 0, 1) := by decide +kernel
theorem dL_law_20 : decode cL_law 20 = .ok (.arraylength, 1) := by decide +kernel
theorem dL_law_21 : decode cL_law 21 = .ok (.bipush 6, 2) := by decide +kernel
theorem dL_law_23 : decode cL_law 23 = .ok (.isub, 1) := by decide +kernel
theorem dL_law_24 : decode cL_law 24 = .ok (.if_icmp .gt 1556, 3) := by decide +kernel
theorem dL_law_27 : decode cL_law 27 = .ok (.aload_n 0, 1) := by decide +kernel
theorem dL_law_28 : decode cL_law 28 = .ok (.iload_n 3, 1) := by decide +kernel
theorem dL_law_29 : decode cL_law 29 = .ok (.iaload, 1) := by decide +kernel
theorem dL_law_30 : decode cL_law 30 = .ok (.bipush 63, 2) := by decide +kernel
theorem dL_law_32 : decode cL_law 32 = .ok (.iand, 1) := by decide +kernel
theorem dL_law_33 : decode cL_law 33 = .ok (.tableswitch 1541 0 43 #[191, 254, 277, 290, 313, 346, 379, 402, 451, 464, 477, 520, 553, 586, 629, 642, 675, 708, 741, 764, 797, 820, 853, 886, 919, 942, 975, 1024, 1073, 1106, 1119, 1142, 1165, 1208, 1241, 1284, 1307, 1340, 1383, 1426, 1459, 1472, 1495, 1518], 191) := by decide +kernel
theorem dL_law_224 : decode cL_law 224 = .ok (.aload_n 1, 1) := by decide +kernel
theorem dL_law_225 : decode cL_law 225 = .ok (.aload_n 0, 1) := by decide +kernel
theorem dL_law_226 : decode cL_law 226 = .ok (.iload_n 3, 1) := by decide +kernel
theorem dL_law_227 : decode cL_law 227 = .ok (.iconst 1, 1) := by decide +kernel
theorem dL_law_228 : decode cL_law 228 = .ok (.iadd, 1) := by decide +kernel
theorem dL_law_229 : decode cL_law 229 = .ok (.iaload, 1) := by decide +kernel
theorem dL_law_230 : decode cL_law 230 = .ok (.aload_n 0, 1) := by decide +kernel
theorem dL_law_231 : decode cL_law 231 = .ok (.iload_n 3, 1) := by decide +kernel
theorem dL_law_232 : decode cL_law 232 = .ok (.iconst 2, 1) := by decide +kernel
theorem dL_law_233 : decode cL_law 233 = .ok (.iadd, 1) := by decide +kernel
theorem dL_law_234 : decode cL_law 234 = .ok (.iaload, 1) := by decide +kernel
theorem dL_law_235 : decode cL_law 235 = .ok (.aload_n 0, 1) := by decide +kernel
theorem dL_law_236 : decode cL_law 236 = .ok (.iload_n 3, 1) := by decide +kernel
theorem dL_law_237 : decode cL_law 237 = .ok (.iconst 3, 1) := by decide +kernel
theorem dL_law_238 : decode cL_law 238 = .ok (.iadd, 1) := by decide +kernel
theorem dL_law_239 : decode cL_law 239 = .ok (.iaload, 1) := by decide +kernel
theorem dL_law_240 : decode cL_law 240 = .ok (.aload_n 0, 1) := by decide +kernel
theorem dL_law_241 : decode cL_law 241 = .ok (.iload_n 3, 1) := by decide +kernel
theorem dL_law_242 : decode cL_law 242 = .ok (.iconst 4, 1) := by decide +kernel
theorem dL_law_243 : decode cL_law 243 = .ok (.iadd, 1) := by decide +kernel
theorem dL_law_244 : decode cL_law 244 = .ok (.iaload, 1) := by decide +kernel
theorem dL_law_245 : decode cL_law 245 = .ok (.aload_n 0, 1) := by decide +kernel
theorem dL_law_246 : decode cL_law 246 = .ok (.iload_n 3, 1) := by decide +kernel
theorem dL_law_247 : decode cL_law 247 = .ok (.iconst 5, 1) := by decide +kernel
theorem dL_law_248 : decode cL_law 248 = .ok (.iadd, 1) := by decide +kernel
theorem dL_law_249 : decode cL_law 249 = .ok (.iaload, 1) := by decide +kernel
theorem dL_law_250 : decode cL_law 250 = .ok (.invokevirtual 13, 3) := by decide +kernel
theorem dL_law_253 : decode cL_law 253 = .ok (.aload_n 2, 1) := by decide +kernel
theorem dL_law_254 : decode cL_law 254 = .ok (.aload_n 0, 1) := by decide +kernel
theorem dL_law_255 : decode cL_law 255 = .ok (.iload_n 3, 1) := by decide +kernel
theorem dL_law_256 : decode cL_law 256 = .ok (.iconst 1, 1) := by decide +kernel
theorem dL_law_257 : decode cL_law 257 = .ok (.iadd, 1) := by decide +kernel
theorem dL_law_258 : decode cL_law 258 = .ok (.iaload, 1) := by decide +kernel
theorem dL_law_259 : decode cL_law 259 = .ok (.aload_n 0, 1) := by decide +kernel
theorem dL_law_260 : decode cL_law 260 = .ok (.iload_n 3, 1) := by decide +kernel
theorem dL_law_261 : decode cL_law 261 = .ok (.iconst 2, 1) := by decide +kernel
theorem dL_law_262 : decode cL_law 262 = .ok (.iadd, 1) := by decide +kernel
theorem dL_law_263 : decode cL_law 263 = .ok (.iaload, 1) := by decide +kernel
theorem dL_law_264 : decode cL_law 264 = .ok (.aload_n 0, 1) := by decide +kernel
theorem dL_law_265 : decode cL_law 265 = .ok (.iload_n 3, 1) := by decide +kernel
theorem dL_law_266 : decode cL_law 266 = .ok (.iconst 3, 1) := by decide +kernel
theorem dL_law_267 : decode cL_law 267 = .ok (.iadd, 1) := by decide +kernel
theorem dL_law_268 : decode cL_law 268 = .ok (.iaload, 1) := by decide +kernel
theorem dL_law_269 : decode cL_law 269 = .ok (.aload_n 0, 1) := by decide +kernel
theorem dL_law_270 : decode cL_law 270 = .ok (.iload_n 3, 1) := by decide +kernel
theorem dL_law_271 : decode cL_law 271 = .ok (.iconst 4, 1) := by decide +kernel
theorem dL_law_272 : decode cL_law 272 = .ok (.iadd, 1) := by decide +kernel
theorem dL_law_273 : decode cL_law 273 = .ok (.iaload, 1) := by decide +kernel
theorem dL_law_274 : decode cL_law 274 = .ok (.aload_n 0, 1) := by decide +kernel
theorem dL_law_275 : decode cL_law 275 = .ok (.iload_n 3, 1) := by decide +kernel
theorem dL_law_276 : decode cL_law 276 = .ok (.iconst 5, 1) := by decide +kernel
theorem dL_law_277 : decode cL_law 277 = .ok (.iadd, 1) := by decide +kernel
theorem dL_law_278 : decode cL_law 278 = .ok (.iaload, 1) := by decide +kernel
theorem dL_law_279 : decode cL_law 279 = .ok (.invokevirtual 17, 3) := by decide +kernel
theorem dL_law_282 : decode cL_law 282 = .ok (.if_icmp .eq 1292, 3) := by decide +kernel
theorem dL_law_285 : decode cL_law 285 = .ok (.iconst 0, 1) := by decide +kernel
theorem dL_law_286 : decode cL_law 286 = .ok (.ireturn, 1) := by decide +kernel
theorem dL_law_287 : decode cL_law 287 = .ok (.aload_n 1, 1) := by decide +kernel
theorem dL_law_288 : decode cL_law 288 = .ok (.aload_n 0, 1) := by decide +kernel
theorem dL_law_289 : decode cL_law 289 = .ok (.iload_n 3, 1) := by decide +kernel
theorem dL_law_290 : decode cL_law 290 = .ok (.iconst 1, 1) := by decide +kernel
theorem dL_law_291 : decode cL_law 291 = .ok (.iadd, 1) := by decide +kernel
theorem dL_law_292 : decode cL_law 292 = .ok (.iaload, 1) := by decide +kernel
theorem dL_law_293 : decode cL_law 293 = .ok (.invokevirtual 18, 3) := by decide +kernel
theorem dL_law_296 : decode cL_law 296 = .ok (.aload_n 2, 1) := by decide +kernel
theorem dL_law_297 : decode cL_law 297 = .ok (.aload_n 0, 1) := by decide +kernel
theorem dL_law_298 : decode cL_law 298 = .ok (.iload_n 3, 1) := by decide +kernel
theorem dL_law_299 : decode cL_law 299 = .ok (.iconst 1, 1) := by decide +kernel
theorem dL_law_300 : decode cL_law 300 = .ok (.iadd, 1) := by decide +kernel
theorem dL_law_301 : decode cL_law 301 = .ok (.iaload, 1) := by decide +kernel
theorem dL_law_302 : decode cL_law 302 = .ok (.invokevirtual 22, 3) := by decide +kernel
theorem dL_law_305 : decode cL_law 305 = .ok (.if_icmp .eq 1269, 3) := by decide +kernel
theorem dL_law_308 : decode cL_law 308 = .ok (.iconst 0, 1) := by decide +kernel
theorem dL_law_309 : decode cL_law 309 = .ok (.ireturn, 1) := by decide +kernel
theorem dL_law_310 : decode cL_law 310 = .ok (.aload_n 1, 1) := by decide +kernel
theorem dL_law_311 : decode cL_law 311 = .ok (.invokevirtual 23, 3) := by decide +kernel
theorem dL_law_314 : decode cL_law 314 = .ok (.aload_n 2, 1) := by decide +kernel
theorem dL_law_315 : decode cL_law 315 = .ok (.invokevirtual 27, 3) := by decide +kernel
theorem dL_law_318 : decode cL_law 318 = .ok (.if_icmp .eq 1256, 3) := by decide +kernel
theorem dL_law_321 : decode cL_law 321 = .ok (.iconst 0, 1) := by decide +kernel
theorem dL_law_322 : decode cL_law 322 = .ok (.ireturn, 1) := by decide +kernel
theorem dL_law_323 : decode cL_law 323 = .ok (.aload_n 1, 1) := by decide +kernel
theorem dL_law_324 : decode cL_law 324 = .ok (.aload_n 0, 1) := by decide +kernel
theorem dL_law_325 : decode cL_law 325 = .ok (.iload_n 3, 1) := by decide +kernel
theorem dL_law_326 : decode cL_law 326 = .ok (.iconst 1, 1) := by decide +kernel
theorem dL_law_327 : decode cL_law 327 = .ok (.iadd, 1) := by decide +kernel
theorem dL_law_328 : decode cL_law 328 = .ok (.iaload, 1) := by decide +kernel
theorem dL_law_329 : decode cL_law 329 = .ok (.invokevirtual 28, 3) := by decide +kernel
theorem dL_law_332 : decode cL_law 332 = .ok (.aload_n 2, 1) := by decide +kernel
theorem dL_law_333 : decode cL_law 333 = .ok (.aload_n 0, 1) := by decide +kernel
theorem dL_law_334 : decode cL_law 334 = .ok (.iload_n 3, 1) := by decide +kernel
theorem dL_law_335 : decode cL_law 335 = .ok (.iconst 1, 1) := by decide +kernel
theorem dL_law_336 : decode cL_law 336 = .ok (.iadd, 1) := by decide +kernel
theorem dL_law_337 : decode cL_law 337 = .ok (.iaload, 1) := by decide +kernel
theorem dL_law_338 : decode cL_law 338 = .ok (.invokevirtual 31, 3) := by decide +kernel
theorem dL_law_341 : decode cL_law 341 = .ok (.if_icmp .eq 1233, 3) := by decide +kernel
theorem dL_law_344 : decode cL_law 344 = .ok (.iconst 0, 1) := by decide +kernel
theorem dL_law_345 : decode cL_law 345 = .ok (.ireturn, 1) := by decide +kernel
theorem dL_law_346 : decode cL_law 346 = .ok (.aload_n 1, 1) := by decide +kernel
theorem dL_law_347 : decode cL_law 347 = .ok (.aload_n 0, 1) := by decide +kernel
theorem dL_law_348 : decode cL_law 348 = .ok (.iload_n 3, 1) := by decide +kernel
theorem dL_law_349 : decode cL_law 349 = .ok (.iconst 1, 1) := by decide +kernel
theorem dL_law_350 : decode cL_law 350 = .ok (.iadd, 1) := by decide +kernel
theorem dL_law_351 : decode cL_law 351 = .ok (.iaload, 1) := by decide +kernel
theorem dL_law_352 : decode cL_law 352 = .ok (.aload_n 0, 1) := by decide +kernel
theorem dL_law_353 : decode cL_law 353 = .ok (.iload_n 3, 1) := by decide +kernel
theorem dL_law_354 : decode cL_law 354 = .ok (.iconst 2, 1) := by decide +kernel
theorem dL_law_355 : decode cL_law 355 = .ok (.iadd, 1) := by decide +kernel
theorem dL_law_356 : decode cL_law 356 = .ok (.iaload, 1) := by decide +kernel
theorem dL_law_357 : decode cL_law 357 = .ok (.invokevirtual 32, 3) := by decide +kernel
theorem dL_law_360 : decode cL_law 360 = .ok (.aload_n 2, 1) := by decide +kernel
theorem dL_law_361 : decode cL_law 361 = .ok (.aload_n 0, 1) := by decide +kernel
theorem dL_law_362 : decode cL_law 362 = .ok (.iload_n 3, 1) := by decide +kernel
theorem dL_law_363 : decode cL_law 363 = .ok (.iconst 1, 1) := by decide +kernel
theorem dL_law_364 : decode cL_law 364 = .ok (.iadd, 1) := by decide +kernel
theorem dL_law_365 : decode cL_law 365 = .ok (.iaload, 1) := by decide +kernel
theorem dL_law_366 : decode cL_law 366 = .ok (.aload_n 0, 1) := by decide +kernel
theorem dL_law_367 : decode cL_law 367 = .ok (.iload_n 3, 1) := by decide +kernel
theorem dL_law_368 : decode cL_law 368 = .ok (.iconst 2, 1) := by decide +kernel
theorem dL_law_369 : decode cL_law 369 = .ok (.iadd, 1) := by decide +kernel
theorem dL_law_370 : decode cL_law 370 = .ok (.iaload, 1) := by decide +kernel
theorem dL_law_371 : decode cL_law 371 = .ok (.invokevirtual 36, 3) := by decide +kernel
theorem dL_law_374 : decode cL_law 374 = .ok (.if_icmp .eq 1200, 3) := by decide +kernel
theorem dL_law_377 : decode cL_law 377 = .ok (.iconst 0, 1) := by decide +kernel
theorem dL_law_378 : decode cL_law 378 = .ok (.ireturn, 1) := by decide +kernel
theorem dL_law_379 : decode cL_law 379 = .ok (.aload_n 1, 1) := by decide +kernel
theorem dL_law_380 : decode cL_law 380 = .ok (.aload_n 0, 1) := by decide +kernel
theorem dL_law_381 : decode cL_law 381 = .ok (.iload_n 3, 1) := by decide +kernel
theorem dL_law_382 : decode cL_law 382 = .ok (.iconst 1, 1) := by decide +kernel
theorem dL_law_383 : decode cL_law 383 = .ok (.iadd, 1) := by decide +kernel
theorem dL_law_384 : decode cL_law 384 = .ok (.iaload, 1) := by decide +kernel
theorem dL_law_385 : decode cL_law 385 = .ok (.aload_n 0, 1) := by decide +kernel
theorem dL_law_386 : decode cL_law 386 = .ok (.iload_n 3, 1) := by decide +kernel
theorem dL_law_387 : decode cL_law 387 = .ok (.iconst 2, 1) := by decide +kernel
theorem dL_law_388 : decode cL_law 388 = .ok (.iadd, 1) := by decide +kernel
theorem dL_law_389 : decode cL_law 389 = .ok (.iaload, 1) := by decide +kernel
theorem dL_law_390 : decode cL_law 390 = .ok (.invokevirtual 37, 3) := by decide +kernel
theorem dL_law_393 : decode cL_law 393 = .ok (.aload_n 2, 1) := by decide +kernel
theorem dL_law_394 : decode cL_law 394 = .ok (.aload_n 0, 1) := by decide +kernel
theorem dL_law_395 : decode cL_law 395 = .ok (.iload_n 3, 1) := by decide +kernel
theorem dL_law_396 : decode cL_law 396 = .ok (.iconst 1, 1) := by decide +kernel
theorem dL_law_397 : decode cL_law 397 = .ok (.iadd, 1) := by decide +kernel
theorem dL_law_398 : decode cL_law 398 = .ok (.iaload, 1) := by decide +kernel
theorem dL_law_399 : decode cL_law 399 = .ok (.aload_n 0, 1) := by decide +kernel
theorem dL_law_400 : decode cL_law 400 = .ok (.iload_n 3, 1) := by decide +kernel
theorem dL_law_401 : decode cL_law 401 = .ok (.iconst 2, 1) := by decide +kernel
theorem dL_law_402 : decode cL_law 402 = .ok (.iadd, 1) := by decide +kernel
theorem dL_law_403 : decode cL_law 403 = .ok (.iaload, 1) := by decide +kernel
theorem dL_law_404 : decode cL_law 404 = .ok (.invokevirtual 40, 3) := by decide +kernel
theorem dL_law_407 : decode cL_law 407 = .ok (.if_icmp .eq 1167, 3) := by decide +kernel
theorem dL_law_410 : decode cL_law 410 = .ok (.iconst 0, 1) := by decide +kernel
theorem dL_law_411 : decode cL_law 411 = .ok (.ireturn, 1) := by decide +kernel
theorem dL_law_412 : decode cL_law 412 = .ok (.aload_n 1, 1) := by decide +kernel
theorem dL_law_413 : decode cL_law 413 = .ok (.aload_n 0, 1) := by decide +kernel
theorem dL_law_414 : decode cL_law 414 = .ok (.iload_n 3, 1) := by decide +kernel
theorem dL_law_415 : decode cL_law 415 = .ok (.iconst 1, 1) := by decide +kernel
theorem dL_law_416 : decode cL_law 416 = .ok (.iadd, 1) := by decide +kernel
theorem dL_law_417 : decode cL_law 417 = .ok (.iaload, 1) := by decide +kernel
theorem dL_law_418 : decode cL_law 418 = .ok (.invokevirtual 41, 3) := by decide +kernel
theorem dL_law_421 : decode cL_law 421 = .ok (.aload_n 2, 1) := by decide +kernel
theorem dL_law_422 : decode cL_law 422 = .ok (.aload_n 0, 1) := by decide +kernel
theorem dL_law_423 : decode cL_law 423 = .ok (.iload_n 3, 1) := by decide +kernel
theorem dL_law_424 : decode cL_law 424 = .ok (.iconst 1, 1) := by decide +kernel
theorem dL_law_425 : decode cL_law 425 = .ok (.iadd, 1) := by decide +kernel
theorem dL_law_426 : decode cL_law 426 = .ok (.iaload, 1) := by decide +kernel
theorem dL_law_427 : decode cL_law 427 = .ok (.invokevirtual 44, 3) := by decide +kernel
theorem dL_law_430 : decode cL_law 430 = .ok (.if_icmp .eq 1144, 3) := by decide +kernel
theorem dL_law_433 : decode cL_law 433 = .ok (.iconst 0, 1) := by decide +kernel
theorem dL_law_434 : decode cL_law 434 = .ok (.ireturn, 1) := by decide +kernel
theorem dL_law_435 : decode cL_law 435 = .ok (.aload_n 1, 1) := by decide +kernel
theorem dL_law_436 : decode cL_law 436 = .ok (.aload_n 0, 1) := by decide +kernel
theorem dL_law_437 : decode cL_law 437 = .ok (.iload_n 3, 1) := by decide +kernel
theorem dL_law_438 : decode cL_law 438 = .ok (.iconst 1, 1) := by decide +kernel
theorem dL_law_439 : decode cL_law 439 = .ok (.iadd, 1) := by decide +kernel
theorem dL_law_440 : decode cL_law 440 = .ok (.iaload, 1) := by decide +kernel
theorem dL_law_441 : decode cL_law 441 = .ok (.aload_n 0, 1) := by decide +kernel
theorem dL_law_442 : decode cL_law 442 = .ok (.iload_n 3, 1) := by decide +kernel
theorem dL_law_443 : decode cL_law 443 = .ok (.iconst 2, 1) := by decide +kernel
theorem dL_law_444 : decode cL_law 444 = .ok (.iadd, 1) := by decide +kernel
theorem dL_law_445 : decode cL_law 445 = .ok (.iaload, 1) := by decide +kernel
theorem dL_law_446 : decode cL_law 446 = .ok (.ifCond .eq 7, 3) := by decide +kernel
theorem dL_law_449 : decode cL_law 449 = .ok (.iconst 1, 1) := by decide +kernel
theorem dL_law_450 : decode cL_law 450 = .ok (.goto 4, 3) := by decide +kernel
theorem dL_law_453 : decode cL_law 453 = .ok (.iconst 0, 1) := by decide +kernel
theorem dL_law_454 : decode cL_law 454 = .ok (.invokevirtual 45, 3) := by decide +kernel
theorem dL_law_457 : decode cL_law 457 = .ok (.aload_n 2, 1) := by decide +kernel
theorem dL_law_458 : decode cL_law 458 = .ok (.aload_n 0, 1) := by decide +kernel
theorem dL_law_459 : decode cL_law 459 = .ok (.iload_n 3, 1) := by decide +kernel
theorem dL_law_460 : decode cL_law 460 = .ok (.iconst 1, 1) := by decide +kernel
theorem dL_law_461 : decode cL_law 461 = .ok (.iadd, 1) := by decide +kernel
theorem dL_law_462 : decode cL_law 462 = .ok (.iaload, 1) := by decide +kernel
theorem dL_law_463 : decode cL_law 463 = .ok (.aload_n 0, 1) := by decide +kernel
theorem dL_law_464 : decode cL_law 464 = .ok (.iload_n 3, 1) := by decide +kernel
theorem dL_law_465 : decode cL_law 465 = .ok (.iconst 2, 1) := by decide +kernel
theorem dL_law_466 : decode cL_law 466 = .ok (.iadd, 1) := by decide +kernel
theorem dL_law_467 : decode cL_law 467 = .ok (.iaload, 1) := by decide +kernel
theorem dL_law_468 : decode cL_law 468 = .ok (.ifCond .eq 7, 3) := by decide +kernel
theorem dL_law_471 : decode cL_law 471 = .ok (.iconst 1, 1) := by decide +kernel
theorem dL_law_472 : decode cL_law 472 = .ok (.goto 4, 3) := by decide +kernel
theorem dL_law_475 : decode cL_law 475 = .ok (.iconst 0, 1) := by decide +kernel
theorem dL_law_476 : decode cL_law 476 = .ok (.invokevirtual 49, 3) := by decide +kernel
theorem dL_law_479 : decode cL_law 479 = .ok (.if_icmp .eq 1095, 3) := by decide +kernel
theorem dL_law_482 : decode cL_law 482 = .ok (.iconst 0, 1) := by decide +kernel
theorem dL_law_483 : decode cL_law 483 = .ok (.ireturn, 1) := by decide +kernel
theorem dL_law_484 : decode cL_law 484 = .ok (.aload_n 1, 1) := by decide +kernel
theorem dL_law_485 : decode cL_law 485 = .ok (.invokevirtual 50, 3) := by decide +kernel
theorem dL_law_488 : decode cL_law 488 = .ok (.aload_n 2, 1) := by decide +kernel
theorem dL_law_489 : decode cL_law 489 = .ok (.invokevirtual 54, 3) := by decide +kernel
theorem dL_law_492 : decode cL_law 492 = .ok (.if_icmp .eq 1082, 3) := by decide +kernel
theorem dL_law_495 : decode cL_law 495 = .ok (.iconst 0, 1) := by decide +kernel
theorem dL_law_496 : decode cL_law 496 = .ok (.ireturn, 1) := by decide +kernel
theorem dL_law_497 : decode cL_law 497 = .ok (.aload_n 1, 1) := by decide +kernel
theorem dL_law_498 : decode cL_law 498 = .ok (.invokevirtual 55, 3) := by decide +kernel
theorem dL_law_501 : decode cL_law 501 = .ok (.aload_n 2, 1) := by decide +kernel
theorem dL_law_502 : decode cL_law 502 = .ok (.invokevirtual 58, 3) := by decide +kernel
theorem dL_law_505 : decode cL_law 505 = .ok (.if_icmp .eq 1069, 3) := by decide +kernel
theorem dL_law_508 : decode cL_law 508 = .ok (.iconst 0, 1) := by decide +kernel
theorem dL_law_509 : decode cL_law 509 = .ok (.ireturn, 1) := by decide +kernel
theorem dL_law_510 : decode cL_law 510 = .ok (.aload_n 1, 1) := by decide +kernel
theorem dL_law_511 : decode cL_law 511 = .ok (.aload_n 0, 1) := by decide +kernel
theorem dL_law_512 : decode cL_law 512 = .ok (.iload_n 3, 1) := by decide +kernel
theorem dL_law_513 : decode cL_law 513 = .ok (.iconst 1, 1) := by decide +kernel
theorem dL_law_514 : decode cL_law 514 = .ok (.iadd, 1) := by decide +kernel
theorem dL_law_515 : decode cL_law 515 = .ok (.iaload, 1) := by decide +kernel
theorem dL_law_516 : decode cL_law 516 = .ok (.aload_n 0, 1) := by decide +kernel
theorem dL_law_517 : decode cL_law 517 = .ok (.iload_n 3, 1) := by decide +kernel
theorem dL_law_518 : decode cL_law 518 = .ok (.iconst 2, 1) := by decide +kernel
theorem dL_law_519 : decode cL_law 519 = .ok (.iadd, 1) := by decide +kernel
theorem dL_law_520 : decode cL_law 520 = .ok (.iaload, 1) := by decide +kernel
theorem dL_law_521 : decode cL_law 521 = .ok (.aload_n 0, 1) := by decide +kernel
theorem dL_law_522 : decode cL_law 522 = .ok (.iload_n 3, 1) := by decide +kernel
theorem dL_law_523 : decode cL_law 523 = .ok (.iconst 3, 1) := by decide +kernel
theorem dL_law_524 : decode cL_law 524 = .ok (.iadd, 1) := by decide +kernel
theorem dL_law_525 : decode cL_law 525 = .ok (.iaload, 1) := by decide +kernel
theorem dL_law_526 : decode cL_law 526 = .ok (.invokevirtual 59, 3) := by decide +kernel
theorem dL_law_529 : decode cL_law 529 = .ok (.aload_n 2, 1) := by decide +kernel
theorem dL_law_530 : decode cL_law 530 = .ok (.aload_n 0, 1) := by decide +kernel
theorem dL_law_531 : decode cL_law 531 = .ok (.iload_n 3, 1) := by decide +kernel
theorem dL_law_532 : decode cL_law 532 = .ok (.iconst 1, 1) := by decide +kernel
theorem dL_law_533 : decode cL_law 533 = .ok (.iadd, 1) := by decide +kernel
theorem dL_law_534 : decode cL_law 534 = .ok (.iaload, 1) := by decide +kernel
theorem dL_law_535 : decode cL_law 535 = .ok (.aload_n 0, 1) := by decide +kernel
theorem dL_law_536 : decode cL_law 536 = .ok (.iload_n 3, 1) := by decide +kernel
theorem dL_law_537 : decode cL_law 537 = .ok (.iconst 2, 1) := by decide +kernel
theorem dL_law_538 : decode cL_law 538 = .ok (.iadd, 1) := by decide +kernel
theorem dL_law_539 : decode cL_law 539 = .ok (.iaload, 1) := by decide +kernel
theorem dL_law_540 : decode cL_law 540 = .ok (.aload_n 0, 1) := by decide +kernel
theorem dL_law_541 : decode cL_law 541 = .ok (.iload_n 3, 1) := by decide +kernel
theorem dL_law_542 : decode cL_law 542 = .ok (.iconst 3, 1) := by decide +kernel
theorem dL_law_543 : decode cL_law 543 = .ok (.iadd, 1) := by decide +kernel
theorem dL_law_544 : decode cL_law 544 = .ok (.iaload, 1) := by decide +kernel
theorem dL_law_545 : decode cL_law 545 = .ok (.invokevirtual 63, 3) := by decide +kernel
theorem dL_law_548 : decode cL_law 548 = .ok (.if_icmp .eq 1026, 3) := by decide +kernel
theorem dL_law_551 : decode cL_law 551 = .ok (.iconst 0, 1) := by decide +kernel
theorem dL_law_552 : decode cL_law 552 = .ok (.ireturn, 1) := by decide +kernel
theorem dL_law_553 : decode cL_law 553 = .ok (.aload_n 1, 1) := by decide +kernel
theorem dL_law_554 : decode cL_law 554 = .ok (.aload_n 0, 1) := by decide +kernel
theorem dL_law_555 : decode cL_law 555 = .ok (.iload_n 3, 1) := by decide +kernel
theorem dL_law_556 : decode cL_law 556 = .ok (.iconst 1, 1) := by decide +kernel
theorem dL_law_557 : decode cL_law 557 = .ok (.iadd, 1) := by decide +kernel
theorem dL_law_558 : decode cL_law 558 = .ok (.iaload, 1) := by decide +kernel
theorem dL_law_559 : decode cL_law 559 = .ok (.aload_n 0, 1) := by decide +kernel
theorem dL_law_560 : decode cL_law 560 = .ok (.iload_n 3, 1) := by decide +kernel
theorem dL_law_561 : decode cL_law 561 = .ok (.iconst 2, 1) := by decide +kernel
theorem dL_law_562 : decode cL_law 562 = .ok (.iadd, 1) := by decide +kernel
theorem dL_law_563 : decode cL_law 563 = .ok (.iaload, 1) := by decide +kernel
theorem dL_law_564 : decode cL_law 564 = .ok (.invokevirtual 64, 3) := by decide +kernel
theorem dL_law_567 : decode cL_law 567 = .ok (.aload_n 2, 1) := by decide +kernel
theorem dL_law_568 : decode cL_law 568 = .ok (.aload_n 0, 1) := by decide +kernel
theorem dL_law_569 : decode cL_law 569 = .ok (.iload_n 3, 1) := by decide +kernel
theorem dL_law_570 : decode cL_law 570 = .ok (.iconst 1, 1) := by decide +kernel
theorem dL_law_571 : decode cL_law 571 = .ok (.iadd, 1) := by decide +kernel
theorem dL_law_572 : decode cL_law 572 = .ok (.iaload, 1) := by decide +kernel
theorem dL_law_573 : decode cL_law 573 = .ok (.aload_n 0, 1) := by decide +kernel
theorem dL_law_574 : decode cL_law 574 = .ok (.iload_n 3, 1) := by decide +kernel
theorem dL_law_575 : decode cL_law 575 = .ok (.iconst 2, 1) := by decide +kernel
theorem dL_law_576 : decode cL_law 576 = .ok (.iadd, 1) := by decide +kernel
theorem dL_law_577 : decode cL_law 577 = .ok (.iaload, 1) := by decide +kernel
theorem dL_law_578 : decode cL_law 578 = .ok (.invokevirtual 67, 3) := by decide +kernel
theorem dL_law_581 : decode cL_law 581 = .ok (.if_icmp .eq 993, 3) := by decide +kernel
theorem dL_law_584 : decode cL_law 584 = .ok (.iconst 0, 1) := by decide +kernel
theorem dL_law_585 : decode cL_law 585 = .ok (.ireturn, 1) := by decide +kernel
theorem dL_law_586 : decode cL_law 586 = .ok (.aload_n 1, 1) := by decide +kernel
theorem dL_law_587 : decode cL_law 587 = .ok (.aload_n 0, 1) := by decide +kernel
theorem dL_law_588 : decode cL_law 588 = .ok (.iload_n 3, 1) := by decide +kernel
theorem dL_law_589 : decode cL_law 589 = .ok (.iconst 1, 1) := by decide +kernel
theorem dL_law_590 : decode cL_law 590 = .ok (.iadd, 1) := by decide +kernel
theorem dL_law_591 : decode cL_law 591 = .ok (.iaload, 1) := by decide +kernel
theorem dL_law_592 : decode cL_law 592 = .ok (.aload_n 0, 1) := by decide +kernel
theorem dL_law_593 : decode cL_law 593 = .ok (.iload_n 3, 1) := by decide +kernel
theorem dL_law_594 : decode cL_law 594 = .ok (.iconst 2, 1) := by decide +kernel
theorem dL_law_595 : decode cL_law 595 = .ok (.iadd, 1) := by decide +kernel
theorem dL_law_596 : decode cL_law 596 = .ok (.iaload, 1) := by decide +kernel
theorem dL_law_597 : decode cL_law 597 = .ok (.invokevirtual 68, 3) := by decide +kernel
theorem dL_law_600 : decode cL_law 600 = .ok (.aload_n 2, 1) := by decide +kernel
theorem dL_law_601 : decode cL_law 601 = .ok (.aload_n 0, 1) := by decide +kernel
theorem dL_law_602 : decode cL_law 602 = .ok (.iload_n 3, 1) := by decide +kernel
theorem dL_law_603 : decode cL_law 603 = .ok (.iconst 1, 1) := by decide +kernel
theorem dL_law_604 : decode cL_law 604 = .ok (.iadd, 1) := by decide +kernel
theorem dL_law_605 : decode cL_law 605 = .ok (.iaload, 1) := by decide +kernel
theorem dL_law_606 : decode cL_law 606 = .ok (.aload_n 0, 1) := by decide +kernel
theorem dL_law_607 : decode cL_law 607 = .ok (.iload_n 3, 1) := by decide +kernel
theorem dL_law_608 : decode cL_law 608 = .ok (.iconst 2, 1) := by decide +kernel
theorem dL_law_609 : decode cL_law 609 = .ok (.iadd, 1) := by decide +kernel
theorem dL_law_610 : decode cL_law 610 = .ok (.iaload, 1) := by decide +kernel
theorem dL_law_611 : decode cL_law 611 = .ok (.invokevirtual 71, 3) := by decide +kernel
theorem dL_law_614 : decode cL_law 614 = .ok (.if_icmp .eq 960, 3) := by decide +kernel
theorem dL_law_617 : decode cL_law 617 = .ok (.iconst 0, 1) := by decide +kernel
theorem dL_law_618 : decode cL_law 618 = .ok (.ireturn, 1) := by decide +kernel
theorem dL_law_619 : decode cL_law 619 = .ok (.aload_n 1, 1) := by decide +kernel
theorem dL_law_620 : decode cL_law 620 = .ok (.aload_n 0, 1) := by decide +kernel
theorem dL_law_621 : decode cL_law 621 = .ok (.iload_n 3, 1) := by decide +kernel
theorem dL_law_622 : decode cL_law 622 = .ok (.iconst 1, 1) := by decide +kernel
theorem dL_law_623 : decode cL_law 623 = .ok (.iadd, 1) := by decide +kernel
theorem dL_law_624 : decode cL_law 624 = .ok (.iaload, 1) := by decide +kernel
theorem dL_law_625 : decode cL_law 625 = .ok (.aload_n 0, 1) := by decide +kernel
theorem dL_law_626 : decode cL_law 626 = .ok (.iload_n 3, 1) := by decide +kernel
theorem dL_law_627 : decode cL_law 627 = .ok (.iconst 2, 1) := by decide +kernel
theorem dL_law_628 : decode cL_law 628 = .ok (.iadd, 1) := by decide +kernel
theorem dL_law_629 : decode cL_law 629 = .ok (.iaload, 1) := by decide +kernel
theorem dL_law_630 : decode cL_law 630 = .ok (.aload_n 0, 1) := by decide +kernel
theorem dL_law_631 : decode cL_law 631 = .ok (.iload_n 3, 1) := by decide +kernel
theorem dL_law_632 : decode cL_law 632 = .ok (.iconst 3, 1) := by decide +kernel
theorem dL_law_633 : decode cL_law 633 = .ok (.iadd, 1) := by decide +kernel
theorem dL_law_634 : decode cL_law 634 = .ok (.iaload, 1) := by decide +kernel
theorem dL_law_635 : decode cL_law 635 = .ok (.invokevirtual 72, 3) := by decide +kernel
theorem dL_law_638 : decode cL_law 638 = .ok (.aload_n 2, 1) := by decide +kernel
theorem dL_law_639 : decode cL_law 639 = .ok (.aload_n 0, 1) := by decide +kernel
theorem dL_law_640 : decode cL_law 640 = .ok (.iload_n 3, 1) := by decide +kernel
theorem dL_law_641 : decode cL_law 641 = .ok (.iconst 1, 1) := by decide +kernel
theorem dL_law_642 : decode cL_law 642 = .ok (.iadd, 1) := by decide +kernel
theorem dL_law_643 : decode cL_law 643 = .ok (.iaload, 1) := by decide +kernel
theorem dL_law_644 : decode cL_law 644 = .ok (.aload_n 0, 1) := by decide +kernel
theorem dL_law_645 : decode cL_law 645 = .ok (.iload_n 3, 1) := by decide +kernel
theorem dL_law_646 : decode cL_law 646 = .ok (.iconst 2, 1) := by decide +kernel
theorem dL_law_647 : decode cL_law 647 = .ok (.iadd, 1) := by decide +kernel
theorem dL_law_648 : decode cL_law 648 = .ok (.iaload, 1) := by decide +kernel
theorem dL_law_649 : decode cL_law 649 = .ok (.aload_n 0, 1) := by decide +kernel
theorem dL_law_650 : decode cL_law 650 = .ok (.iload_n 3, 1) := by decide +kernel
theorem dL_law_651 : decode cL_law 651 = .ok (.iconst 3, 1) := by decide +kernel
theorem dL_law_652 : decode cL_law 652 = .ok (.iadd, 1) := by decide +kernel
theorem dL_law_653 : decode cL_law 653 = .ok (.iaload, 1) := by decide +kernel
theorem dL_law_654 : decode cL_law 654 = .ok (.invokevirtual 75, 3) := by decide +kernel
theorem dL_law_657 : decode cL_law 657 = .ok (.if_icmp .eq 917, 3) := by decide +kernel
theorem dL_law_660 : decode cL_law 660 = .ok (.iconst 0, 1) := by decide +kernel
theorem dL_law_661 : decode cL_law 661 = .ok (.ireturn, 1) := by decide +kernel
theorem dL_law_662 : decode cL_law 662 = .ok (.aload_n 1, 1) := by decide +kernel
theorem dL_law_663 : decode cL_law 663 = .ok (.invokevirtual 76, 3) := by decide +kernel
theorem dL_law_666 : decode cL_law 666 = .ok (.aload_n 2, 1) := by decide +kernel
theorem dL_law_667 : decode cL_law 667 = .ok (.invokevirtual 79, 3) := by decide +kernel
theorem dL_law_670 : decode cL_law 670 = .ok (.if_icmp .eq 904, 3) := by decide +kernel
theorem dL_law_673 : decode cL_law 673 = .ok (.iconst 0, 1) := by decide +kernel
theorem dL_law_674 : decode cL_law 674 = .ok (.ireturn, 1) := by decide +kernel
theorem dL_law_675 : decode cL_law 675 = .ok (.aload_n 1, 1) := by decide +kernel
theorem dL_law_676 : decode cL_law 676 = .ok (.aload_n 0, 1) := by decide +kernel
theorem dL_law_677 : decode cL_law 677 = .ok (.iload_n 3, 1) := by decide +kernel
theorem dL_law_678 : decode cL_law 678 = .ok (.iconst 1, 1) := by decide +kernel
theorem dL_law_679 : decode cL_law 679 = .ok (.iadd, 1) := by decide +kernel
theorem dL_law_680 : decode cL_law 680 = .ok (.iaload, 1) := by decide +kernel
theorem dL_law_681 : decode cL_law 681 = .ok (.aload_n 0, 1) := by decide +kernel
theorem dL_law_682 : decode cL_law 682 = .ok (.iload_n 3, 1) := by decide +kernel
theorem dL_law_683 : decode cL_law 683 = .ok (.iconst 2, 1) := by decide +kernel
theorem dL_law_684 : decode cL_law 684 = .ok (.iadd, 1) := by decide +kernel
theorem dL_law_685 : decode cL_law 685 = .ok (.iaload, 1) := by decide +kernel
theorem dL_law_686 : decode cL_law 686 = .ok (.invokevirtual 80, 3) := by decide +kernel
theorem dL_law_689 : decode cL_law 689 = .ok (.aload_n 2, 1) := by decide +kernel
theorem dL_law_690 : decode cL_law 690 = .ok (.aload_n 0, 1) := by decide +kernel
theorem dL_law_691 : decode cL_law 691 = .ok (.iload_n 3, 1) := by decide +kernel
theorem dL_law_692 : decode cL_law 692 = .ok (.iconst 1, 1) := by decide +kernel
theorem dL_law_693 : decode cL_law 693 = .ok (.iadd, 1) := by decide +kernel
theorem dL_law_694 : decode cL_law 694 = .ok (.iaload, 1) := by decide +kernel
theorem dL_law_695 : decode cL_law 695 = .ok (.aload_n 0, 1) := by decide +kernel
theorem dL_law_696 : decode cL_law 696 = .ok (.iload_n 3, 1) := by decide +kernel
theorem dL_law_697 : decode cL_law 697 = .ok (.iconst 2, 1) := by decide +kernel
theorem dL_law_698 : decode cL_law 698 = .ok (.iadd, 1) := by decide +kernel
theorem dL_law_699 : decode cL_law 699 = .ok (.iaload, 1) := by decide +kernel
theorem dL_law_700 : decode cL_law 700 = .ok (.invokevirtual 83, 3) := by decide +kernel
theorem dL_law_703 : decode cL_law 703 = .ok (.if_icmp .eq 871, 3) := by decide +kernel
theorem dL_law_706 : decode cL_law 706 = .ok (.iconst 0, 1) := by decide +kernel
theorem dL_law_707 : decode cL_law 707 = .ok (.ireturn, 1) := by decide +kernel
theorem dL_law_708 : decode cL_law 708 = .ok (.aload_n 1, 1) := by decide +kernel
theorem dL_law_709 : decode cL_law 709 = .ok (.aload_n 0, 1) := by decide +kernel
theorem dL_law_710 : decode cL_law 710 = .ok (.iload_n 3, 1) := by decide +kernel
theorem dL_law_711 : decode cL_law 711 = .ok (.iconst 1, 1) := by decide +kernel
theorem dL_law_712 : decode cL_law 712 = .ok (.iadd, 1) := by decide +kernel
theorem dL_law_713 : decode cL_law 713 = .ok (.iaload, 1) := by decide +kernel
theorem dL_law_714 : decode cL_law 714 = .ok (.aload_n 0, 1) := by decide +kernel
theorem dL_law_715 : decode cL_law 715 = .ok (.iload_n 3, 1) := by decide +kernel
theorem dL_law_716 : decode cL_law 716 = .ok (.iconst 2, 1) := by decide +kernel
theorem dL_law_717 : decode cL_law 717 = .ok (.iadd, 1) := by decide +kernel
theorem dL_law_718 : decode cL_law 718 = .ok (.iaload, 1) := by decide +kernel
theorem dL_law_719 : decode cL_law 719 = .ok (.invokevirtual 84, 3) := by decide +kernel
theorem dL_law_722 : decode cL_law 722 = .ok (.aload_n 2, 1) := by decide +kernel
theorem dL_law_723 : decode cL_law 723 = .ok (.aload_n 0, 1) := by decide +kernel
theorem dL_law_724 : decode cL_law 724 = .ok (.iload_n 3, 1) := by decide +kernel
theorem dL_law_725 : decode cL_law 725 = .ok (.iconst 1, 1) := by decide +kernel
theorem dL_law_726 : decode cL_law 726 = .ok (.iadd, 1) := by decide +kernel
theorem dL_law_727 : decode cL_law 727 = .ok (.iaload, 1) := by decide +kernel
theorem dL_law_728 : decode cL_law 728 = .ok (.aload_n 0, 1) := by decide +kernel
theorem dL_law_729 : decode cL_law 729 = .ok (.iload_n 3, 1) := by decide +kernel
theorem dL_law_730 : decode cL_law 730 = .ok (.iconst 2, 1) := by decide +kernel
theorem dL_law_731 : decode cL_law 731 = .ok (.iadd, 1) := by decide +kernel
theorem dL_law_732 : decode cL_law 732 = .ok (.iaload, 1) := by decide +kernel
theorem dL_law_733 : decode cL_law 733 = .ok (.invokevirtual 87, 3) := by decide +kernel
theorem dL_law_736 : decode cL_law 736 = .ok (.if_icmp .eq 838, 3) := by decide +kernel
theorem dL_law_739 : decode cL_law 739 = .ok (.iconst 0, 1) := by decide +kernel
theorem dL_law_740 : decode cL_law 740 = .ok (.ireturn, 1) := by decide +kernel
theorem dL_law_741 : decode cL_law 741 = .ok (.aload_n 1, 1) := by decide +kernel
theorem dL_law_742 : decode cL_law 742 = .ok (.aload_n 0, 1) := by decide +kernel
theorem dL_law_743 : decode cL_law 743 = .ok (.iload_n 3, 1) := by decide +kernel
theorem dL_law_744 : decode cL_law 744 = .ok (.iconst 1, 1) := by decide +kernel
theorem dL_law_745 : decode cL_law 745 = .ok (.iadd, 1) := by decide +kernel
theorem dL_law_746 : decode cL_law 746 = .ok (.iaload, 1) := by decide +kernel
theorem dL_law_747 : decode cL_law 747 = .ok (.aload_n 0, 1) := by decide +kernel
theorem dL_law_748 : decode cL_law 748 = .ok (.iload_n 3, 1) := by decide +kernel
theorem dL_law_749 : decode cL_law 749 = .ok (.iconst 2, 1) := by decide +kernel
theorem dL_law_750 : decode cL_law 750 = .ok (.iadd, 1) := by decide +kernel
theorem dL_law_751 : decode cL_law 751 = .ok (.iaload, 1) := by decide +kernel
theorem dL_law_752 : decode cL_law 752 = .ok (.invokevirtual 88, 3) := by decide +kernel
theorem dL_law_755 : decode cL_law 755 = .ok (.aload_n 2, 1) := by decide +kernel
theorem dL_law_756 : decode cL_law 756 = .ok (.aload_n 0, 1) := by decide +kernel
theorem dL_law_757 : decode cL_law 757 = .ok (.iload_n 3, 1) := by decide +kernel
theorem dL_law_758 : decode cL_law 758 = .ok (.iconst 1, 1) := by decide +kernel
theorem dL_law_759 : decode cL_law 759 = .ok (.iadd, 1) := by decide +kernel
theorem dL_law_760 : decode cL_law 760 = .ok (.iaload, 1) := by decide +kernel
theorem dL_law_761 : decode cL_law 761 = .ok (.aload_n 0, 1) := by decide +kernel
theorem dL_law_762 : decode cL_law 762 = .ok (.iload_n 3, 1) := by decide +kernel
theorem dL_law_763 : decode cL_law 763 = .ok (.iconst 2, 1) := by decide +kernel
theorem dL_law_764 : decode cL_law 764 = .ok (.iadd, 1) := by decide +kernel
theorem dL_law_765 : decode cL_law 765 = .ok (.iaload, 1) := by decide +kernel
theorem dL_law_766 : decode cL_law 766 = .ok (.invokevirtual 91, 3) := by decide +kernel
theorem dL_law_769 : decode cL_law 769 = .ok (.if_icmp .eq 805, 3) := by decide +kernel
theorem dL_law_772 : decode cL_law 772 = .ok (.iconst 0, 1) := by decide +kernel
theorem dL_law_773 : decode cL_law 773 = .ok (.ireturn, 1) := by decide +kernel
theorem dL_law_774 : decode cL_law 774 = .ok (.aload_n 1, 1) := by decide +kernel
theorem dL_law_775 : decode cL_law 775 = .ok (.aload_n 0, 1) := by decide +kernel
theorem dL_law_776 : decode cL_law 776 = .ok (.iload_n 3, 1) := by decide +kernel
theorem dL_law_777 : decode cL_law 777 = .ok (.iconst 1, 1) := by decide +kernel
theorem dL_law_778 : decode cL_law 778 = .ok (.iadd, 1) := by decide +kernel
theorem dL_law_779 : decode cL_law 779 = .ok (.iaload, 1) := by decide +kernel
theorem dL_law_780 : decode cL_law 780 = .ok (.invokevirtual 92, 3) := by decide +kernel
theorem dL_law_783 : decode cL_law 783 = .ok (.aload_n 2, 1) := by decide +kernel
theorem dL_law_784 : decode cL_law 784 = .ok (.aload_n 0, 1) := by decide +kernel
theorem dL_law_785 : decode cL_law 785 = .ok (.iload_n 3, 1) := by decide +kernel
theorem dL_law_786 : decode cL_law 786 = .ok (.iconst 1, 1) := by decide +kernel
theorem dL_law_787 : decode cL_law 787 = .ok (.iadd, 1) := by decide +kernel
theorem dL_law_788 : decode cL_law 788 = .ok (.iaload, 1) := by decide +kernel
theorem dL_law_789 : decode cL_law 789 = .ok (.invokevirtual 95, 3) := by decide +kernel
theorem dL_law_792 : decode cL_law 792 = .ok (.if_icmp .eq 782, 3) := by decide +kernel
theorem dL_law_795 : decode cL_law 795 = .ok (.iconst 0, 1) := by decide +kernel
theorem dL_law_796 : decode cL_law 796 = .ok (.ireturn, 1) := by decide +kernel
theorem dL_law_797 : decode cL_law 797 = .ok (.aload_n 1, 1) := by decide +kernel
theorem dL_law_798 : decode cL_law 798 = .ok (.aload_n 0, 1) := by decide +kernel
theorem dL_law_799 : decode cL_law 799 = .ok (.iload_n 3, 1) := by decide +kernel
theorem dL_law_800 : decode cL_law 800 = .ok (.iconst 1, 1) := by decide +kernel
theorem dL_law_801 : decode cL_law 801 = .ok (.iadd, 1) := by decide +kernel
theorem dL_law_802 : decode cL_law 802 = .ok (.iaload, 1) := by decide +kernel
theorem dL_law_803 : decode cL_law 803 = .ok (.aload_n 0, 1) := by decide +kernel
theorem dL_law_804 : decode cL_law 804 = .ok (.iload_n 3, 1) := by decide +kernel
theorem dL_law_805 : decode cL_law 805 = .ok (.iconst 2, 1) := by decide +kernel
theorem dL_law_806 : decode cL_law 806 = .ok (.iadd, 1) := by decide +kernel
theorem dL_law_807 : decode cL_law 807 = .ok (.iaload, 1) := by decide +kernel
theorem dL_law_808 : decode cL_law 808 = .ok (.invokevirtual 96, 3) := by decide +kernel
theorem dL_law_811 : decode cL_law 811 = .ok (.aload_n 2, 1) := by decide +kernel
theorem dL_law_812 : decode cL_law 812 = .ok (.aload_n 0, 1) := by decide +kernel
theorem dL_law_813 : decode cL_law 813 = .ok (.iload_n 3, 1) := by decide +kernel
theorem dL_law_814 : decode cL_law 814 = .ok (.iconst 1, 1) := by decide +kernel
theorem dL_law_815 : decode cL_law 815 = .ok (.iadd, 1) := by decide +kernel
theorem dL_law_816 : decode cL_law 816 = .ok (.iaload, 1) := by decide +kernel
theorem dL_law_817 : decode cL_law 817 = .ok (.aload_n 0, 1) := by decide +kernel
theorem dL_law_818 : decode cL_law 818 = .ok (.iload_n 3, 1) := by decide +kernel
theorem dL_law_819 : decode cL_law 819 = .ok (.iconst 2, 1) := by decide +kernel
theorem dL_law_820 : decode cL_law 820 = .ok (.iadd, 1) := by decide +kernel
theorem dL_law_821 : decode cL_law 821 = .ok (.iaload, 1) := by decide +kernel
theorem dL_law_822 : decode cL_law 822 = .ok (.invokevirtual 99, 3) := by decide +kernel
theorem dL_law_825 : decode cL_law 825 = .ok (.if_icmp .eq 749, 3) := by decide +kernel
theorem dL_law_828 : decode cL_law 828 = .ok (.iconst 0, 1) := by decide +kernel
theorem dL_law_829 : decode cL_law 829 = .ok (.ireturn, 1) := by decide +kernel
theorem dL_law_830 : decode cL_law 830 = .ok (.aload_n 1, 1) := by decide +kernel
theorem dL_law_831 : decode cL_law 831 = .ok (.aload_n 0, 1) := by decide +kernel
theorem dL_law_832 : decode cL_law 832 = .ok (.iload_n 3, 1) := by decide +kernel
theorem dL_law_833 : decode cL_law 833 = .ok (.iconst 1, 1) := by decide +kernel
theorem dL_law_834 : decode cL_law 834 = .ok (.iadd, 1) := by decide +kernel
theorem dL_law_835 : decode cL_law 835 = .ok (.iaload, 1) := by decide +kernel
theorem dL_law_836 : decode cL_law 836 = .ok (.invokevirtual 100, 3) := by decide +kernel
theorem dL_law_839 : decode cL_law 839 = .ok (.aload_n 2, 1) := by decide +kernel
theorem dL_law_840 : decode cL_law 840 = .ok (.aload_n 0, 1) := by decide +kernel
theorem dL_law_841 : decode cL_law 841 = .ok (.iload_n 3, 1) := by decide +kernel
theorem dL_law_842 : decode cL_law 842 = .ok (.iconst 1, 1) := by decide +kernel
theorem dL_law_843 : decode cL_law 843 = .ok (.iadd, 1) := by decide +kernel
theorem dL_law_844 : decode cL_law 844 = .ok (.iaload, 1) := by decide +kernel
theorem dL_law_845 : decode cL_law 845 = .ok (.invokevirtual 103, 3) := by decide +kernel
theorem dL_law_848 : decode cL_law 848 = .ok (.if_icmp .eq 726, 3) := by decide +kernel
theorem dL_law_851 : decode cL_law 851 = .ok (.iconst 0, 1) := by decide +kernel
theorem dL_law_852 : decode cL_law 852 = .ok (.ireturn, 1) := by decide +kernel
theorem dL_law_853 : decode cL_law 853 = .ok (.aload_n 1, 1) := by decide +kernel
theorem dL_law_854 : decode cL_law 854 = .ok (.aload_n 0, 1) := by decide +kernel
theorem dL_law_855 : decode cL_law 855 = .ok (.iload_n 3, 1) := by decide +kernel
theorem dL_law_856 : decode cL_law 856 = .ok (.iconst 1, 1) := by decide +kernel
theorem dL_law_857 : decode cL_law 857 = .ok (.iadd, 1) := by decide +kernel
theorem dL_law_858 : decode cL_law 858 = .ok (.iaload, 1) := by decide +kernel
theorem dL_law_859 : decode cL_law 859 = .ok (.aload_n 0, 1) := by decide +kernel
theorem dL_law_860 : decode cL_law 860 = .ok (.iload_n 3, 1) := by decide +kernel
theorem dL_law_861 : decode cL_law 861 = .ok (.iconst 2, 1) := by decide +kernel
theorem dL_law_862 : decode cL_law 862 = .ok (.iadd, 1) := by decide +kernel
theorem dL_law_863 : decode cL_law 863 = .ok (.iaload, 1) := by decide +kernel
theorem dL_law_864 : decode cL_law 864 = .ok (.invokevirtual 104, 3) := by decide +kernel
theorem dL_law_867 : decode cL_law 867 = .ok (.aload_n 2, 1) := by decide +kernel
theorem dL_law_868 : decode cL_law 868 = .ok (.aload_n 0, 1) := by decide +kernel
theorem dL_law_869 : decode cL_law 869 = .ok (.iload_n 3, 1) := by decide +kernel
theorem dL_law_870 : decode cL_law 870 = .ok (.iconst 1, 1) := by decide +kernel
theorem dL_law_871 : decode cL_law 871 = .ok (.iadd, 1) := by decide +kernel
theorem dL_law_872 : decode cL_law 872 = .ok (.iaload, 1) := by decide +kernel
theorem dL_law_873 : decode cL_law 873 = .ok (.aload_n 0, 1) := by decide +kernel
theorem dL_law_874 : decode cL_law 874 = .ok (.iload_n 3, 1) := by decide +kernel
theorem dL_law_875 : decode cL_law 875 = .ok (.iconst 2, 1) := by decide +kernel
theorem dL_law_876 : decode cL_law 876 = .ok (.iadd, 1) := by decide +kernel
theorem dL_law_877 : decode cL_law 877 = .ok (.iaload, 1) := by decide +kernel
theorem dL_law_878 : decode cL_law 878 = .ok (.invokevirtual 107, 3) := by decide +kernel
theorem dL_law_881 : decode cL_law 881 = .ok (.if_icmp .eq 693, 3) := by decide +kernel
theorem dL_law_884 : decode cL_law 884 = .ok (.iconst 0, 1) := by decide +kernel
theorem dL_law_885 : decode cL_law 885 = .ok (.ireturn, 1) := by decide +kernel
theorem dL_law_886 : decode cL_law 886 = .ok (.aload_n 1, 1) := by decide +kernel
theorem dL_law_887 : decode cL_law 887 = .ok (.aload_n 0, 1) := by decide +kernel
theorem dL_law_888 : decode cL_law 888 = .ok (.iload_n 3, 1) := by decide +kernel
theorem dL_law_889 : decode cL_law 889 = .ok (.iconst 1, 1) := by decide +kernel
theorem dL_law_890 : decode cL_law 890 = .ok (.iadd, 1) := by decide +kernel
theorem dL_law_891 : decode cL_law 891 = .ok (.iaload, 1) := by decide +kernel
theorem dL_law_892 : decode cL_law 892 = .ok (.aload_n 0, 1) := by decide +kernel
theorem dL_law_893 : decode cL_law 893 = .ok (.iload_n 3, 1) := by decide +kernel
theorem dL_law_894 : decode cL_law 894 = .ok (.iconst 2, 1) := by decide +kernel
theorem dL_law_895 : decode cL_law 895 = .ok (.iadd, 1) := by decide +kernel
theorem dL_law_896 : decode cL_law 896 = .ok (.iaload, 1) := by decide +kernel
theorem dL_law_897 : decode cL_law 897 = .ok (.invokevirtual 108, 3) := by decide +kernel
theorem dL_law_900 : decode cL_law 900 = .ok (.aload_n 2, 1) := by decide +kernel
theorem dL_law_901 : decode cL_law 901 = .ok (.aload_n 0, 1) := by decide +kernel
theorem dL_law_902 : decode cL_law 902 = .ok (.iload_n 3, 1) := by decide +kernel
theorem dL_law_903 : decode cL_law 903 = .ok (.iconst 1, 1) := by decide +kernel
theorem dL_law_904 : decode cL_law 904 = .ok (.iadd, 1) := by decide +kernel
theorem dL_law_905 : decode cL_law 905 = .ok (.iaload, 1) := by decide +kernel
theorem dL_law_906 : decode cL_law 906 = .ok (.aload_n 0, 1) := by decide +kernel
theorem dL_law_907 : decode cL_law 907 = .ok (.iload_n 3, 1) := by decide +kernel
theorem dL_law_908 : decode cL_law 908 = .ok (.iconst 2, 1) := by decide +kernel
theorem dL_law_909 : decode cL_law 909 = .ok (.iadd, 1) := by decide +kernel
theorem dL_law_910 : decode cL_law 910 = .ok (.iaload, 1) := by decide +kernel
theorem dL_law_911 : decode cL_law 911 = .ok (.invokevirtual 111, 3) := by decide +kernel
theorem dL_law_914 : decode cL_law 914 = .ok (.if_icmp .eq 660, 3) := by decide +kernel
theorem dL_law_917 : decode cL_law 917 = .ok (.iconst 0, 1) := by decide +kernel
theorem dL_law_918 : decode cL_law 918 = .ok (.ireturn, 1) := by decide +kernel
theorem dL_law_919 : decode cL_law 919 = .ok (.aload_n 1, 1) := by decide +kernel
theorem dL_law_920 : decode cL_law 920 = .ok (.aload_n 0, 1) := by decide +kernel
theorem dL_law_921 : decode cL_law 921 = .ok (.iload_n 3, 1) := by decide +kernel
theorem dL_law_922 : decode cL_law 922 = .ok (.iconst 1, 1) := by decide +kernel
theorem dL_law_923 : decode cL_law 923 = .ok (.iadd, 1) := by decide +kernel
theorem dL_law_924 : decode cL_law 924 = .ok (.iaload, 1) := by decide +kernel
theorem dL_law_925 : decode cL_law 925 = .ok (.aload_n 0, 1) := by decide +kernel
theorem dL_law_926 : decode cL_law 926 = .ok (.iload_n 3, 1) := by decide +kernel
theorem dL_law_927 : decode cL_law 927 = .ok (.iconst 2, 1) := by decide +kernel
theorem dL_law_928 : decode cL_law 928 = .ok (.iadd, 1) := by decide +kernel
theorem dL_law_929 : decode cL_law 929 = .ok (.iaload, 1) := by decide +kernel
theorem dL_law_930 : decode cL_law 930 = .ok (.invokevirtual 112, 3) := by decide +kernel
theorem dL_law_933 : decode cL_law 933 = .ok (.aload_n 2, 1) := by decide +kernel
theorem dL_law_934 : decode cL_law 934 = .ok (.aload_n 0, 1) := by decide +kernel
theorem dL_law_935 : decode cL_law 935 = .ok (.iload_n 3, 1) := by decide +kernel
theorem dL_law_936 : decode cL_law 936 = .ok (.iconst 1, 1) := by decide +kernel
theorem dL_law_937 : decode cL_law 937 = .ok (.iadd, 1) := by decide +kernel
theorem dL_law_938 : decode cL_law 938 = .ok (.iaload, 1) := by decide +kernel
theorem dL_law_939 : decode cL_law 939 = .ok (.aload_n 0, 1) := by decide +kernel
theorem dL_law_940 : decode cL_law 940 = .ok (.iload_n 3, 1) := by decide +kernel
theorem dL_law_941 : decode cL_law 941 = .ok (.iconst 2, 1) := by decide +kernel
theorem dL_law_942 : decode cL_law 942 = .ok (.iadd, 1) := by decide +kernel
theorem dL_law_943 : decode cL_law 943 = .ok (.iaload, 1) := by decide +kernel
theorem dL_law_944 : decode cL_law 944 = .ok (.invokevirtual 115, 3) := by decide +kernel
theorem dL_law_947 : decode cL_law 947 = .ok (.if_icmp .eq 627, 3) := by decide +kernel
theorem dL_law_950 : decode cL_law 950 = .ok (.iconst 0, 1) := by decide +kernel
theorem dL_law_951 : decode cL_law 951 = .ok (.ireturn, 1) := by decide +kernel
theorem dL_law_952 : decode cL_law 952 = .ok (.aload_n 1, 1) := by decide +kernel
theorem dL_law_953 : decode cL_law 953 = .ok (.aload_n 0, 1) := by decide +kernel
theorem dL_law_954 : decode cL_law 954 = .ok (.iload_n 3, 1) := by decide +kernel
theorem dL_law_955 : decode cL_law 955 = .ok (.iconst 1, 1) := by decide +kernel
theorem dL_law_956 : decode cL_law 956 = .ok (.iadd, 1) := by decide +kernel
theorem dL_law_957 : decode cL_law 957 = .ok (.iaload, 1) := by decide +kernel
theorem dL_law_958 : decode cL_law 958 = .ok (.invokevirtual 116, 3) := by decide +kernel
theorem dL_law_961 : decode cL_law 961 = .ok (.aload_n 2, 1) := by decide +kernel
theorem dL_law_962 : decode cL_law 962 = .ok (.aload_n 0, 1) := by decide +kernel
theorem dL_law_963 : decode cL_law 963 = .ok (.iload_n 3, 1) := by decide +kernel
theorem dL_law_964 : decode cL_law 964 = .ok (.iconst 1, 1) := by decide +kernel
theorem dL_law_965 : decode cL_law 965 = .ok (.iadd, 1) := by decide +kernel
theorem dL_law_966 : decode cL_law 966 = .ok (.iaload, 1) := by decide +kernel
theorem dL_law_967 : decode cL_law 967 = .ok (.invokevirtual 119, 3) := by decide +kernel
theorem dL_law_970 : decode cL_law 970 = .ok (.if_icmp .eq 604, 3) := by decide +kernel
theorem dL_law_973 : decode cL_law 973 = .ok (.iconst 0, 1) := by decide +kernel
theorem dL_law_974 : decode cL_law 974 = .ok (.ireturn, 1) := by decide +kernel
theorem dL_law_975 : decode cL_law 975 = .ok (.aload_n 1, 1) := by decide +kernel
theorem dL_law_976 : decode cL_law 976 = .ok (.aload_n 0, 1) := by decide +kernel
theorem dL_law_977 : decode cL_law 977 = .ok (.iload_n 3, 1) := by decide +kernel
theorem dL_law_978 : decode cL_law 978 = .ok (.iconst 1, 1) := by decide +kernel
theorem dL_law_979 : decode cL_law 979 = .ok (.iadd, 1) := by decide +kernel
theorem dL_law_980 : decode cL_law 980 = .ok (.iaload, 1) := by decide +kernel
theorem dL_law_981 : decode cL_law 981 = .ok (.aload_n 0, 1) := by decide +kernel
theorem dL_law_982 : decode cL_law 982 = .ok (.iload_n 3, 1) := by decide +kernel
theorem dL_law_983 : decode cL_law 983 = .ok (.iconst 2, 1) := by decide +kernel
theorem dL_law_984 : decode cL_law 984 = .ok (.iadd, 1) := by decide +kernel
theorem dL_law_985 : decode cL_law 985 = .ok (.iaload, 1) := by decide +kernel
theorem dL_law_986 : decode cL_law 986 = .ok (.invokevirtual 120, 3) := by decide +kernel
theorem dL_law_989 : decode cL_law 989 = .ok (.aload_n 2, 1) := by decide +kernel
theorem dL_law_990 : decode cL_law 990 = .ok (.aload_n 0, 1) := by decide +kernel
theorem dL_law_991 : decode cL_law 991 = .ok (.iload_n 3, 1) := by decide +kernel
theorem dL_law_992 : decode cL_law 992 = .ok (.iconst 1, 1) := by decide +kernel
theorem dL_law_993 : decode cL_law 993 = .ok (.iadd, 1) := by decide +kernel
theorem dL_law_994 : decode cL_law 994 = .ok (.iaload, 1) := by decide +kernel
theorem dL_law_995 : decode cL_law 995 = .ok (.aload_n 0, 1) := by decide +kernel
theorem dL_law_996 : decode cL_law 996 = .ok (.iload_n 3, 1) := by decide +kernel
theorem dL_law_997 : decode cL_law 997 = .ok (.iconst 2, 1) := by decide +kernel
theorem dL_law_998 : decode cL_law 998 = .ok (.iadd, 1) := by decide +kernel
theorem dL_law_999 : decode cL_law 999 = .ok (.iaload, 1) := by decide +kernel
theorem dL_law_1000 : decode cL_law 1000 = .ok (.invokevirtual 123, 3) := by decide +kernel
theorem dL_law_1003 : decode cL_law 1003 = .ok (.if_icmp .eq 571, 3) := by decide +kernel
theorem dL_law_1006 : decode cL_law 1006 = .ok (.iconst 0, 1) := by decide +kernel
theorem dL_law_1007 : decode cL_law 1007 = .ok (.ireturn, 1) := by decide +kernel
theorem dL_law_1008 : decode cL_law 1008 = .ok (.aload_n 1, 1) := by decide +kernel
theorem dL_law_1009 : decode cL_law 1009 = .ok (.aload_n 0, 1) := by decide +kernel
theorem dL_law_1010 : decode cL_law 1010 = .ok (.iload_n 3, 1) := by decide +kernel
theorem dL_law_1011 : decode cL_law 1011 = .ok (.iconst 1, 1) := by decide +kernel
theorem dL_law_1012 : decode cL_law 1012 = .ok (.iadd, 1) := by decide +kernel
theorem dL_law_1013 : decode cL_law 1013 = .ok (.iaload, 1) := by decide +kernel
theorem dL_law_1014 : decode cL_law 1014 = .ok (.aload_n 0, 1) := by decide +kernel
theorem dL_law_1015 : decode cL_law 1015 = .ok (.iload_n 3, 1) := by decide +kernel
theorem dL_law_1016 : decode cL_law 1016 = .ok (.iconst 2, 1) := by decide +kernel
theorem dL_law_1017 : decode cL_law 1017 = .ok (.iadd, 1) := by decide +kernel
theorem dL_law_1018 : decode cL_law 1018 = .ok (.iaload, 1) := by decide +kernel
theorem dL_law_1019 : decode cL_law 1019 = .ok (.ifCond .eq 7, 3) := by decide +kernel
theorem dL_law_1022 : decode cL_law 1022 = .ok (.iconst 1, 1) := by decide +kernel
theorem dL_law_1023 : decode cL_law 1023 = .ok (.goto 4, 3) := by decide +kernel
theorem dL_law_1026 : decode cL_law 1026 = .ok (.iconst 0, 1) := by decide +kernel
theorem dL_law_1027 : decode cL_law 1027 = .ok (.invokevirtual 124, 3) := by decide +kernel
theorem dL_law_1030 : decode cL_law 1030 = .ok (.aload_n 2, 1) := by decide +kernel
theorem dL_law_1031 : decode cL_law 1031 = .ok (.aload_n 0, 1) := by decide +kernel
theorem dL_law_1032 : decode cL_law 1032 = .ok (.iload_n 3, 1) := by decide +kernel
theorem dL_law_1033 : decode cL_law 1033 = .ok (.iconst 1, 1) := by decide +kernel
theorem dL_law_1034 : decode cL_law 1034 = .ok (.iadd, 1) := by decide +kernel
theorem dL_law_1035 : decode cL_law 1035 = .ok (.iaload, 1) := by decide +kernel
theorem dL_law_1036 : decode cL_law 1036 = .ok (.aload_n 0, 1) := by decide +kernel
theorem dL_law_1037 : decode cL_law 1037 = .ok (.iload_n 3, 1) := by decide +kernel
theorem dL_law_1038 : decode cL_law 1038 = .ok (.iconst 2, 1) := by decide +kernel
theorem dL_law_1039 : decode cL_law 1039 = .ok (.iadd, 1) := by decide +kernel
theorem dL_law_1040 : decode cL_law 1040 = .ok (.iaload, 1) := by decide +kernel
theorem dL_law_1041 : decode cL_law 1041 = .ok (.ifCond .eq 7, 3) := by decide +kernel
theorem dL_law_1044 : decode cL_law 1044 = .ok (.iconst 1, 1) := by decide +kernel
theorem dL_law_1045 : decode cL_law 1045 = .ok (.goto 4, 3) := by decide +kernel
theorem dL_law_1048 : decode cL_law 1048 = .ok (.iconst 0, 1) := by decide +kernel
theorem dL_law_1049 : decode cL_law 1049 = .ok (.invokevirtual 127, 3) := by decide +kernel
theorem dL_law_1052 : decode cL_law 1052 = .ok (.if_icmp .eq 522, 3) := by decide +kernel
theorem dL_law_1055 : decode cL_law 1055 = .ok (.iconst 0, 1) := by decide +kernel
theorem dL_law_1056 : decode cL_law 1056 = .ok (.ireturn, 1) := by decide +kernel
theorem dL_law_1057 : decode cL_law 1057 = .ok (.aload_n 1, 1) := by decide +kernel
theorem dL_law_1058 : decode cL_law 1058 = .ok (.aload_n 0, 1) := by decide +kernel
theorem dL_law_1059 : decode cL_law 1059 = .ok (.iload_n 3, 1) := by decide +kernel
theorem dL_law_1060 : decode cL_law 1060 = .ok (.iconst 1, 1) := by decide +kernel
theorem dL_law_1061 : decode cL_law 1061 = .ok (.iadd, 1) := by decide +kernel
theorem dL_law_1062 : decode cL_law 1062 = .ok (.iaload, 1) := by decide +kernel
theorem dL_law_1063 : decode cL_law 1063 = .ok (.aload_n 0, 1) := by decide +kernel
theorem dL_law_1064 : decode cL_law 1064 = .ok (.iload_n 3, 1) := by decide +kernel
theorem dL_law_1065 : decode cL_law 1065 = .ok (.iconst 2, 1) := by decide +kernel
theorem dL_law_1066 : decode cL_law 1066 = .ok (.iadd, 1) := by decide +kernel
theorem dL_law_1067 : decode cL_law 1067 = .ok (.iaload, 1) := by decide +kernel
theorem dL_law_1068 : decode cL_law 1068 = .ok (.ifCond .eq 7, 3) := by decide +kernel
theorem dL_law_1071 : decode cL_law 1071 = .ok (.iconst 1, 1) := by decide +kernel
theorem dL_law_1072 : decode cL_law 1072 = .ok (.goto 4, 3) := by decide +kernel
theorem dL_law_1075 : decode cL_law 1075 = .ok (.iconst 0, 1) := by decide +kernel
theorem dL_law_1076 : decode cL_law 1076 = .ok (.invokevirtual 128, 3) := by decide +kernel
theorem dL_law_1079 : decode cL_law 1079 = .ok (.aload_n 2, 1) := by decide +kernel
theorem dL_law_1080 : decode cL_law 1080 = .ok (.aload_n 0, 1) := by decide +kernel
theorem dL_law_1081 : decode cL_law 1081 = .ok (.iload_n 3, 1) := by decide +kernel
theorem dL_law_1082 : decode cL_law 1082 = .ok (.iconst 1, 1) := by decide +kernel
theorem dL_law_1083 : decode cL_law 1083 = .ok (.iadd, 1) := by decide +kernel
theorem dL_law_1084 : decode cL_law 1084 = .ok (.iaload, 1) := by decide +kernel
theorem dL_law_1085 : decode cL_law 1085 = .ok (.aload_n 0, 1) := by decide +kernel
theorem dL_law_1086 : decode cL_law 1086 = .ok (.iload_n 3, 1) := by decide +kernel
theorem dL_law_1087 : decode cL_law 1087 = .ok (.iconst 2, 1) := by decide +kernel
theorem dL_law_1088 : decode cL_law 1088 = .ok (.iadd, 1) := by decide +kernel
theorem dL_law_1089 : decode cL_law 1089 = .ok (.iaload, 1) := by decide +kernel
theorem dL_law_1090 : decode cL_law 1090 = .ok (.ifCond .eq 7, 3) := by decide +kernel
theorem dL_law_1093 : decode cL_law 1093 = .ok (.iconst 1, 1) := by decide +kernel
theorem dL_law_1094 : decode cL_law 1094 = .ok (.goto 4, 3) := by decide +kernel
theorem dL_law_1097 : decode cL_law 1097 = .ok (.iconst 0, 1) := by decide +kernel
theorem dL_law_1098 : decode cL_law 1098 = .ok (.invokevirtual 131, 3) := by decide +kernel
theorem dL_law_1101 : decode cL_law 1101 = .ok (.if_icmp .eq 473, 3) := by decide +kernel
theorem dL_law_1104 : decode cL_law 1104 = .ok (.iconst 0, 1) := by decide +kernel
theorem dL_law_1105 : decode cL_law 1105 = .ok (.ireturn, 1) := by decide +kernel
theorem dL_law_1106 : decode cL_law 1106 = .ok (.aload_n 1, 1) := by decide +kernel
theorem dL_law_1107 : decode cL_law 1107 = .ok (.aload_n 0, 1) := by decide +kernel
theorem dL_law_1108 : decode cL_law 1108 = .ok (.iload_n 3, 1) := by decide +kernel
theorem dL_law_1109 : decode cL_law 1109 = .ok (.iconst 1, 1) := by decide +kernel
theorem dL_law_1110 : decode cL_law 1110 = .ok (.iadd, 1) := by decide +kernel
theorem dL_law_1111 : decode cL_law 1111 = .ok (.iaload, 1) := by decide +kernel
theorem dL_law_1112 : decode cL_law 1112 = .ok (.aload_n 0, 1) := by decide +kernel
theorem dL_law_1113 : decode cL_law 1113 = .ok (.iload_n 3, 1) := by decide +kernel
theorem dL_law_1114 : decode cL_law 1114 = .ok (.iconst 2, 1) := by decide +kernel
theorem dL_law_1115 : decode cL_law 1115 = .ok (.iadd, 1) := by decide +kernel
theorem dL_law_1116 : decode cL_law 1116 = .ok (.iaload, 1) := by decide +kernel
theorem dL_law_1117 : decode cL_law 1117 = .ok (.invokevirtual 132, 3) := by decide +kernel
theorem dL_law_1120 : decode cL_law 1120 = .ok (.aload_n 2, 1) := by decide +kernel
theorem dL_law_1121 : decode cL_law 1121 = .ok (.aload_n 0, 1) := by decide +kernel
theorem dL_law_1122 : decode cL_law 1122 = .ok (.iload_n 3, 1) := by decide +kernel
theorem dL_law_1123 : decode cL_law 1123 = .ok (.iconst 1, 1) := by decide +kernel
theorem dL_law_1124 : decode cL_law 1124 = .ok (.iadd, 1) := by decide +kernel
theorem dL_law_1125 : decode cL_law 1125 = .ok (.iaload, 1) := by decide +kernel
theorem dL_law_1126 : decode cL_law 1126 = .ok (.aload_n 0, 1) := by decide +kernel
theorem dL_law_1127 : decode cL_law 1127 = .ok (.iload_n 3, 1) := by decide +kernel
theorem dL_law_1128 : decode cL_law 1128 = .ok (.iconst 2, 1) := by decide +kernel
theorem dL_law_1129 : decode cL_law 1129 = .ok (.iadd, 1) := by decide +kernel
theorem dL_law_1130 : decode cL_law 1130 = .ok (.iaload, 1) := by decide +kernel
theorem dL_law_1131 : decode cL_law 1131 = .ok (.invokevirtual 135, 3) := by decide +kernel
theorem dL_law_1134 : decode cL_law 1134 = .ok (.if_icmp .eq 440, 3) := by decide +kernel
theorem dL_law_1137 : decode cL_law 1137 = .ok (.iconst 0, 1) := by decide +kernel
theorem dL_law_1138 : decode cL_law 1138 = .ok (.ireturn, 1) := by decide +kernel
theorem dL_law_1139 : decode cL_law 1139 = .ok (.aload_n 1, 1) := by decide +kernel
theorem dL_law_1140 : decode cL_law 1140 = .ok (.invokevirtual 136, 3) := by decide +kernel
theorem dL_law_1143 : decode cL_law 1143 = .ok (.aload_n 2, 1) := by decide +kernel
theorem dL_law_1144 : decode cL_law 1144 = .ok (.invokevirtual 139, 3) := by decide +kernel
theorem dL_law_1147 : decode cL_law 1147 = .ok (.if_icmp .eq 427, 3) := by decide +kernel
theorem dL_law_1150 : decode cL_law 1150 = .ok (.iconst 0, 1) := by decide +kernel
theorem dL_law_1151 : decode cL_law 1151 = .ok (.ireturn, 1) := by decide +kernel
theorem dL_law_1152 : decode cL_law 1152 = .ok (.aload_n 1, 1) := by decide +kernel
theorem dL_law_1153 : decode cL_law 1153 = .ok (.aload_n 0, 1) := by decide +kernel
theorem dL_law_1154 : decode cL_law 1154 = .ok (.iload_n 3, 1) := by decide +kernel
theorem dL_law_1155 : decode cL_law 1155 = .ok (.iconst 1, 1) := by decide +kernel
theorem dL_law_1156 : decode cL_law 1156 = .ok (.iadd, 1) := by decide +kernel
theorem dL_law_1157 : decode cL_law 1157 = .ok (.iaload, 1) := by decide +kernel
theorem dL_law_1158 : decode cL_law 1158 = .ok (.invokevirtual 140, 3) := by decide +kernel
theorem dL_law_1161 : decode cL_law 1161 = .ok (.aload_n 2, 1) := by decide +kernel
theorem dL_law_1162 : decode cL_law 1162 = .ok (.aload_n 0, 1) := by decide +kernel
theorem dL_law_1163 : decode cL_law 1163 = .ok (.iload_n 3, 1) := by decide +kernel
theorem dL_law_1164 : decode cL_law 1164 = .ok (.iconst 1, 1) := by decide +kernel
theorem dL_law_1165 : decode cL_law 1165 = .ok (.iadd, 1) := by decide +kernel
theorem dL_law_1166 : decode cL_law 1166 = .ok (.iaload, 1) := by decide +kernel
theorem dL_law_1167 : decode cL_law 1167 = .ok (.invokevirtual 143, 3) := by decide +kernel
theorem dL_law_1170 : decode cL_law 1170 = .ok (.if_icmp .eq 404, 3) := by decide +kernel
theorem dL_law_1173 : decode cL_law 1173 = .ok (.iconst 0, 1) := by decide +kernel
theorem dL_law_1174 : decode cL_law 1174 = .ok (.ireturn, 1) := by decide +kernel
theorem dL_law_1175 : decode cL_law 1175 = .ok (.aload_n 1, 1) := by decide +kernel
theorem dL_law_1176 : decode cL_law 1176 = .ok (.aload_n 0, 1) := by decide +kernel
theorem dL_law_1177 : decode cL_law 1177 = .ok (.iload_n 3, 1) := by decide +kernel
theorem dL_law_1178 : decode cL_law 1178 = .ok (.iconst 1, 1) := by decide +kernel
theorem dL_law_1179 : decode cL_law 1179 = .ok (.iadd, 1) := by decide +kernel
theorem dL_law_1180 : decode cL_law 1180 = .ok (.iaload, 1) := by decide +kernel
theorem dL_law_1181 : decode cL_law 1181 = .ok (.invokevirtual 144, 3) := by decide +kernel
theorem dL_law_1184 : decode cL_law 1184 = .ok (.aload_n 2, 1) := by decide +kernel
theorem dL_law_1185 : decode cL_law 1185 = .ok (.aload_n 0, 1) := by decide +kernel
theorem dL_law_1186 : decode cL_law 1186 = .ok (.iload_n 3, 1) := by decide +kernel
theorem dL_law_1187 : decode cL_law 1187 = .ok (.iconst 1, 1) := by decide +kernel
theorem dL_law_1188 : decode cL_law 1188 = .ok (.iadd, 1) := by decide +kernel
theorem dL_law_1189 : decode cL_law 1189 = .ok (.iaload, 1) := by decide +kernel
theorem dL_law_1190 : decode cL_law 1190 = .ok (.invokevirtual 147, 3) := by decide +kernel
theorem dL_law_1193 : decode cL_law 1193 = .ok (.if_icmp .eq 381, 3) := by decide +kernel
theorem dL_law_1196 : decode cL_law 1196 = .ok (.iconst 0, 1) := by decide +kernel
theorem dL_law_1197 : decode cL_law 1197 = .ok (.ireturn, 1) := by decide +kernel
theorem dL_law_1198 : decode cL_law 1198 = .ok (.aload_n 1, 1) := by decide +kernel
theorem dL_law_1199 : decode cL_law 1199 = .ok (.aload_n 0, 1) := by decide +kernel
theorem dL_law_1200 : decode cL_law 1200 = .ok (.iload_n 3, 1) := by decide +kernel
theorem dL_law_1201 : decode cL_law 1201 = .ok (.iconst 1, 1) := by decide +kernel
theorem dL_law_1202 : decode cL_law 1202 = .ok (.iadd, 1) := by decide +kernel
theorem dL_law_1203 : decode cL_law 1203 = .ok (.iaload, 1) := by decide +kernel
theorem dL_law_1204 : decode cL_law 1204 = .ok (.aload_n 0, 1) := by decide +kernel
theorem dL_law_1205 : decode cL_law 1205 = .ok (.iload_n 3, 1) := by decide +kernel
theorem dL_law_1206 : decode cL_law 1206 = .ok (.iconst 2, 1) := by decide +kernel
theorem dL_law_1207 : decode cL_law 1207 = .ok (.iadd, 1) := by decide +kernel
theorem dL_law_1208 : decode cL_law 1208 = .ok (.iaload, 1) := by decide +kernel
theorem dL_law_1209 : decode cL_law 1209 = .ok (.aload_n 0, 1) := by decide +kernel
theorem dL_law_1210 : decode cL_law 1210 = .ok (.iload_n 3, 1) := by decide +kernel
theorem dL_law_1211 : decode cL_law 1211 = .ok (.iconst 3, 1) := by decide +kernel
theorem dL_law_1212 : decode cL_law 1212 = .ok (.iadd, 1) := by decide +kernel
theorem dL_law_1213 : decode cL_law 1213 = .ok (.iaload, 1) := by decide +kernel
theorem dL_law_1214 : decode cL_law 1214 = .ok (.invokevirtual 148, 3) := by decide +kernel
theorem dL_law_1217 : decode cL_law 1217 = .ok (.aload_n 2, 1) := by decide +kernel
theorem dL_law_1218 : decode cL_law 1218 = .ok (.aload_n 0, 1) := by decide +kernel
theorem dL_law_1219 : decode cL_law 1219 = .ok (.iload_n 3, 1) := by decide +kernel
theorem dL_law_1220 : decode cL_law 1220 = .ok (.iconst 1, 1) := by decide +kernel
theorem dL_law_1221 : decode cL_law 1221 = .ok (.iadd, 1) := by decide +kernel
theorem dL_law_1222 : decode cL_law 1222 = .ok (.iaload, 1) := by decide +kernel
theorem dL_law_1223 : decode cL_law 1223 = .ok (.aload_n 0, 1) := by decide +kernel
theorem dL_law_1224 : decode cL_law 1224 = .ok (.iload_n 3, 1) := by decide +kernel
theorem dL_law_1225 : decode cL_law 1225 = .ok (.iconst 2, 1) := by decide +kernel
theorem dL_law_1226 : decode cL_law 1226 = .ok (.iadd, 1) := by decide +kernel
theorem dL_law_1227 : decode cL_law 1227 = .ok (.iaload, 1) := by decide +kernel
theorem dL_law_1228 : decode cL_law 1228 = .ok (.aload_n 0, 1) := by decide +kernel
theorem dL_law_1229 : decode cL_law 1229 = .ok (.iload_n 3, 1) := by decide +kernel
theorem dL_law_1230 : decode cL_law 1230 = .ok (.iconst 3, 1) := by decide +kernel
theorem dL_law_1231 : decode cL_law 1231 = .ok (.iadd, 1) := by decide +kernel
theorem dL_law_1232 : decode cL_law 1232 = .ok (.iaload, 1) := by decide +kernel
theorem dL_law_1233 : decode cL_law 1233 = .ok (.invokevirtual 151, 3) := by decide +kernel
theorem dL_law_1236 : decode cL_law 1236 = .ok (.if_icmp .eq 338, 3) := by decide +kernel
theorem dL_law_1239 : decode cL_law 1239 = .ok (.iconst 0, 1) := by decide +kernel
theorem dL_law_1240 : decode cL_law 1240 = .ok (.ireturn, 1) := by decide +kernel
theorem dL_law_1241 : decode cL_law 1241 = .ok (.aload_n 1, 1) := by decide +kernel
theorem dL_law_1242 : decode cL_law 1242 = .ok (.aload_n 0, 1) := by decide +kernel
theorem dL_law_1243 : decode cL_law 1243 = .ok (.iload_n 3, 1) := by decide +kernel
theorem dL_law_1244 : decode cL_law 1244 = .ok (.iconst 1, 1) := by decide +kernel
theorem dL_law_1245 : decode cL_law 1245 = .ok (.iadd, 1) := by decide +kernel
theorem dL_law_1246 : decode cL_law 1246 = .ok (.iaload, 1) := by decide +kernel
theorem dL_law_1247 : decode cL_law 1247 = .ok (.aload_n 0, 1) := by decide +kernel
theorem dL_law_1248 : decode cL_law 1248 = .ok (.iload_n 3, 1) := by decide +kernel
theorem dL_law_1249 : decode cL_law 1249 = .ok (.iconst 2, 1) := by decide +kernel
theorem dL_law_1250 : decode cL_law 1250 = .ok (.iadd, 1) := by decide +kernel
theorem dL_law_1251 : decode cL_law 1251 = .ok (.iaload, 1) := by decide +kernel
theorem dL_law_1252 : decode cL_law 1252 = .ok (.invokevirtual 152, 3) := by decide +kernel
theorem dL_law_1255 : decode cL_law 1255 = .ok (.aload_n 2, 1) := by decide +kernel
theorem dL_law_1256 : decode cL_law 1256 = .ok (.aload_n 0, 1) := by decide +kernel
theorem dL_law_1257 : decode cL_law 1257 = .ok (.iload_n 3, 1) := by decide +kernel
theorem dL_law_1258 : decode cL_law 1258 = .ok (.iconst 1, 1) := by decide +kernel
theorem dL_law_1259 : decode cL_law 1259 = .ok (.iadd, 1) := by decide +kernel
theorem dL_law_1260 : decode cL_law 1260 = .ok (.iaload, 1) := by decide +kernel
theorem dL_law_1261 : decode cL_law 1261 = .ok (.aload_n 0, 1) := by decide +kernel
theorem dL_law_1262 : decode cL_law 1262 = .ok (.iload_n 3, 1) := by decide +kernel
theorem dL_law_1263 : decode cL_law 1263 = .ok (.iconst 2, 1) := by decide +kernel
theorem dL_law_1264 : decode cL_law 1264 = .ok (.iadd, 1) := by decide +kernel
theorem dL_law_1265 : decode cL_law 1265 = .ok (.iaload, 1) := by decide +kernel
theorem dL_law_1266 : decode cL_law 1266 = .ok (.invokevirtual 155, 3) := by decide +kernel
theorem dL_law_1269 : decode cL_law 1269 = .ok (.if_icmp .eq 305, 3) := by decide +kernel
theorem dL_law_1272 : decode cL_law 1272 = .ok (.iconst 0, 1) := by decide +kernel
theorem dL_law_1273 : decode cL_law 1273 = .ok (.ireturn, 1) := by decide +kernel
theorem dL_law_1274 : decode cL_law 1274 = .ok (.aload_n 1, 1) := by decide +kernel
theorem dL_law_1275 : decode cL_law 1275 = .ok (.aload_n 0, 1) := by decide +kernel
theorem dL_law_1276 : decode cL_law 1276 = .ok (.iload_n 3, 1) := by decide +kernel
theorem dL_law_1277 : decode cL_law 1277 = .ok (.iconst 1, 1) := by decide +kernel
theorem dL_law_1278 : decode cL_law 1278 = .ok (.iadd, 1) := by decide +kernel
theorem dL_law_1279 : decode cL_law 1279 = .ok (.iaload, 1) := by decide +kernel
theorem dL_law_1280 : decode cL_law 1280 = .ok (.aload_n 0, 1) := by decide +kernel
theorem dL_law_1281 : decode cL_law 1281 = .ok (.iload_n 3, 1) := by decide +kernel
theorem dL_law_1282 : decode cL_law 1282 = .ok (.iconst 2, 1) := by decide +kernel
theorem dL_law_1283 : decode cL_law 1283 = .ok (.iadd, 1) := by decide +kernel
theorem dL_law_1284 : decode cL_law 1284 = .ok (.iaload, 1) := by decide +kernel
theorem dL_law_1285 : decode cL_law 1285 = .ok (.aload_n 0, 1) := by decide +kernel
theorem dL_law_1286 : decode cL_law 1286 = .ok (.iload_n 3, 1) := by decide +kernel
theorem dL_law_1287 : decode cL_law 1287 = .ok (.iconst 3, 1) := by decide +kernel
theorem dL_law_1288 : decode cL_law 1288 = .ok (.iadd, 1) := by decide +kernel
theorem dL_law_1289 : decode cL_law 1289 = .ok (.iaload, 1) := by decide +kernel
theorem dL_law_1290 : decode cL_law 1290 = .ok (.invokevirtual 156, 3) := by decide +kernel
theorem dL_law_1293 : decode cL_law 1293 = .ok (.aload_n 2, 1) := by decide +kernel
theorem dL_law_1294 : decode cL_law 1294 = .ok (.aload_n 0, 1) := by decide +kernel
theorem dL_law_1295 : decode cL_law 1295 = .ok (.iload_n 3, 1) := by decide +kernel
theorem dL_law_1296 : decode cL_law 1296 = .ok (.iconst 1, 1) := by decide +kernel
theorem dL_law_1297 : decode cL_law 1297 = .ok (.iadd, 1) := by decide +kernel
theorem dL_law_1298 : decode cL_law 1298 = .ok (.iaload, 1) := by decide +kernel
theorem dL_law_1299 : decode cL_law 1299 = .ok (.aload_n 0, 1) := by decide +kernel
theorem dL_law_1300 : decode cL_law 1300 = .ok (.iload_n 3, 1) := by decide +kernel
theorem dL_law_1301 : decode cL_law 1301 = .ok (.iconst 2, 1) := by decide +kernel
theorem dL_law_1302 : decode cL_law 1302 = .ok (.iadd, 1) := by decide +kernel
theorem dL_law_1303 : decode cL_law 1303 = .ok (.iaload, 1) := by decide +kernel
theorem dL_law_1304 : decode cL_law 1304 = .ok (.aload_n 0, 1) := by decide +kernel
theorem dL_law_1305 : decode cL_law 1305 = .ok (.iload_n 3, 1) := by decide +kernel
theorem dL_law_1306 : decode cL_law 1306 = .ok (.iconst 3, 1) := by decide +kernel
theorem dL_law_1307 : decode cL_law 1307 = .ok (.iadd, 1) := by decide +kernel
theorem dL_law_1308 : decode cL_law 1308 = .ok (.iaload, 1) := by decide +kernel
theorem dL_law_1309 : decode cL_law 1309 = .ok (.invokevirtual 159, 3) := by decide +kernel
theorem dL_law_1312 : decode cL_law 1312 = .ok (.if_icmp .eq 262, 3) := by decide +kernel
theorem dL_law_1315 : decode cL_law 1315 = .ok (.iconst 0, 1) := by decide +kernel
theorem dL_law_1316 : decode cL_law 1316 = .ok (.ireturn, 1) := by decide +kernel
theorem dL_law_1317 : decode cL_law 1317 = .ok (.aload_n 1, 1) := by decide +kernel
theorem dL_law_1318 : decode cL_law 1318 = .ok (.aload_n 0, 1) := by decide +kernel
theorem dL_law_1319 : decode cL_law 1319 = .ok (.iload_n 3, 1) := by decide +kernel
theorem dL_law_1320 : decode cL_law 1320 = .ok (.iconst 1, 1) := by decide +kernel
theorem dL_law_1321 : decode cL_law 1321 = .ok (.iadd, 1) := by decide +kernel
theorem dL_law_1322 : decode cL_law 1322 = .ok (.iaload, 1) := by decide +kernel
theorem dL_law_1323 : decode cL_law 1323 = .ok (.invokevirtual 160, 3) := by decide +kernel
theorem dL_law_1326 : decode cL_law 1326 = .ok (.aload_n 2, 1) := by decide +kernel
theorem dL_law_1327 : decode cL_law 1327 = .ok (.aload_n 0, 1) := by decide +kernel
theorem dL_law_1328 : decode cL_law 1328 = .ok (.iload_n 3, 1) := by decide +kernel
theorem dL_law_1329 : decode cL_law 1329 = .ok (.iconst 1, 1) := by decide +kernel
theorem dL_law_1330 : decode cL_law 1330 = .ok (.iadd, 1) := by decide +kernel
theorem dL_law_1331 : decode cL_law 1331 = .ok (.iaload, 1) := by decide +kernel
theorem dL_law_1332 : decode cL_law 1332 = .ok (.invokevirtual 163, 3) := by decide +kernel
theorem dL_law_1335 : decode cL_law 1335 = .ok (.if_icmp .eq 239, 3) := by decide +kernel
theorem dL_law_1338 : decode cL_law 1338 = .ok (.iconst 0, 1) := by decide +kernel
theorem dL_law_1339 : decode cL_law 1339 = .ok (.ireturn, 1) := by decide +kernel
theorem dL_law_1340 : decode cL_law 1340 = .ok (.aload_n 1, 1) := by decide +kernel
theorem dL_law_1341 : decode cL_law 1341 = .ok (.aload_n 0, 1) := by decide +kernel
theorem dL_law_1342 : decode cL_law 1342 = .ok (.iload_n 3, 1) := by decide +kernel
theorem dL_law_1343 : decode cL_law 1343 = .ok (.iconst 1, 1) := by decide +kernel
theorem dL_law_1344 : decode cL_law 1344 = .ok (.iadd, 1) := by decide +kernel
theorem dL_law_1345 : decode cL_law 1345 = .ok (.iaload, 1) := by decide +kernel
theorem dL_law_1346 : decode cL_law 1346 = .ok (.aload_n 0, 1) := by decide +kernel
theorem dL_law_1347 : decode cL_law 1347 = .ok (.iload_n 3, 1) := by decide +kernel
theorem dL_law_1348 : decode cL_law 1348 = .ok (.iconst 2, 1) := by decide +kernel
theorem dL_law_1349 : decode cL_law 1349 = .ok (.iadd, 1) := by decide +kernel
theorem dL_law_1350 : decode cL_law 1350 = .ok (.iaload, 1) := by decide +kernel
theorem dL_law_1351 : decode cL_law 1351 = .ok (.invokevirtual 164, 3) := by decide +kernel
theorem dL_law_1354 : decode cL_law 1354 = .ok (.aload_n 2, 1) := by decide +kernel
theorem dL_law_1355 : decode cL_law 1355 = .ok (.aload_n 0, 1) := by decide +kernel
theorem dL_law_1356 : decode cL_law 1356 = .ok (.iload_n 3, 1) := by decide +kernel
theorem dL_law_1357 : decode cL_law 1357 = .ok (.iconst 1, 1) := by decide +kernel
theorem dL_law_1358 : decode cL_law 1358 = .ok (.iadd, 1) := by decide +kernel
theorem dL_law_1359 : decode cL_law 1359 = .ok (.iaload, 1) := by decide +kernel
theorem dL_law_1360 : decode cL_law 1360 = .ok (.aload_n 0, 1) := by decide +kernel
theorem dL_law_1361 : decode cL_law 1361 = .ok (.iload_n 3, 1) := by decide +kernel
theorem dL_law_1362 : decode cL_law 1362 = .ok (.iconst 2, 1) := by decide +kernel
theorem dL_law_1363 : decode cL_law 1363 = .ok (.iadd, 1) := by decide +kernel
theorem dL_law_1364 : decode cL_law 1364 = .ok (.iaload, 1) := by decide +kernel
theorem dL_law_1365 : decode cL_law 1365 = .ok (.invokevirtual 167, 3) := by decide +kernel
theorem dL_law_1368 : decode cL_law 1368 = .ok (.if_icmp .eq 206, 3) := by decide +kernel
theorem dL_law_1371 : decode cL_law 1371 = .ok (.iconst 0, 1) := by decide +kernel
theorem dL_law_1372 : decode cL_law 1372 = .ok (.ireturn, 1) := by decide +kernel
theorem dL_law_1373 : decode cL_law 1373 = .ok (.aload_n 1, 1) := by decide +kernel
theorem dL_law_1374 : decode cL_law 1374 = .ok (.aload_n 0, 1) := by decide +kernel
theorem dL_law_1375 : decode cL_law 1375 = .ok (.iload_n 3, 1) := by decide +kernel
theorem dL_law_1376 : decode cL_law 1376 = .ok (.iconst 1, 1) := by decide +kernel
theorem dL_law_1377 : decode cL_law 1377 = .ok (.iadd, 1) := by decide +kernel
theorem dL_law_1378 : decode cL_law 1378 = .ok (.iaload, 1) := by decide +kernel
theorem dL_law_1379 : decode cL_law 1379 = .ok (.aload_n 0, 1) := by decide +kernel
theorem dL_law_1380 : decode cL_law 1380 = .ok (.iload_n 3, 1) := by decide +kernel
theorem dL_law_1381 : decode cL_law 1381 = .ok (.iconst 2, 1) := by decide +kernel
theorem dL_law_1382 : decode cL_law 1382 = .ok (.iadd, 1) := by decide +kernel
theorem dL_law_1383 : decode cL_law 1383 = .ok (.iaload, 1) := by decide +kernel
theorem dL_law_1384 : decode cL_law 1384 = .ok (.aload_n 0, 1) := by decide +kernel
theorem dL_law_1385 : decode cL_law 1385 = .ok (.iload_n 3, 1) := by decide +kernel
theorem dL_law_1386 : decode cL_law 1386 = .ok (.iconst 3, 1) := by decide +kernel
theorem dL_law_1387 : decode cL_law 1387 = .ok (.iadd, 1) := by decide +kernel
theorem dL_law_1388 : decode cL_law 1388 = .ok (.iaload, 1) := by decide +kernel
theorem dL_law_1389 : decode cL_law 1389 = .ok (.invokevirtual 168, 3) := by decide +kernel
theorem dL_law_1392 : decode cL_law 1392 = .ok (.aload_n 2, 1) := by decide +kernel
theorem dL_law_1393 : decode cL_law 1393 = .ok (.aload_n 0, 1) := by decide +kernel
theorem dL_law_1394 : decode cL_law 1394 = .ok (.iload_n 3, 1) := by decide +kernel
theorem dL_law_1395 : decode cL_law 1395 = .ok (.iconst 1, 1) := by decide +kernel
theorem dL_law_1396 : decode cL_law 1396 = .ok (.iadd, 1) := by decide +kernel
theorem dL_law_1397 : decode cL_law 1397 = .ok (.iaload, 1) := by decide +kernel
theorem dL_law_1398 : decode cL_law 1398 = .ok (.aload_n 0, 1) := by decide +kernel
theorem dL_law_1399 : decode cL_law 1399 = .ok (.iload_n 3, 1) := by decide +kernel
theorem dL_law_1400 : decode cL_law 1400 = .ok (.iconst 2, 1) := by decide +kernel
theorem dL_law_1401 : decode cL_law 1401 = .ok (.iadd, 1) := by decide +kernel
theorem dL_law_1402 : decode cL_law 1402 = .ok (.iaload, 1) := by decide +kernel
theorem dL_law_1403 : decode cL_law 1403 = .ok (.aload_n 0, 1) := by decide +kernel
theorem dL_law_1404 : decode cL_law 1404 = .ok (.iload_n 3, 1) := by decide +kernel
theorem dL_law_1405 : decode cL_law 1405 = .ok (.iconst 3, 1) := by decide +kernel
theorem dL_law_1406 : decode cL_law 1406 = .ok (.iadd, 1) := by decide +kernel
theorem dL_law_1407 : decode cL_law 1407 = .ok (.iaload, 1) := by decide +kernel
theorem dL_law_1408 : decode cL_law 1408 = .ok (.invokevirtual 171, 3) := by decide +kernel
theorem dL_law_1411 : decode cL_law 1411 = .ok (.if_icmp .eq 163, 3) := by decide +kernel
theorem dL_law_1414 : decode cL_law 1414 = .ok (.iconst 0, 1) := by decide +kernel
theorem dL_law_1415 : decode cL_law 1415 = .ok (.ireturn, 1) := by decide +kernel
theorem dL_law_1416 : decode cL_law 1416 = .ok (.aload_n 1, 1) := by decide +kernel
theorem dL_law_1417 : decode cL_law 1417 = .ok (.aload_n 0, 1) := by decide +kernel
theorem dL_law_1418 : decode cL_law 1418 = .ok (.iload_n 3, 1) := by decide +kernel
theorem dL_law_1419 : decode cL_law 1419 = .ok (.iconst 1, 1) := by decide +kernel
theorem dL_law_1420 : decode cL_law 1420 = .ok (.iadd, 1) := by decide +kernel
theorem dL_law_1421 : decode cL_law 1421 = .ok (.iaload, 1) := by decide +kernel
theorem dL_law_1422 : decode cL_law 1422 = .ok (.aload_n 0, 1) := by decide +kernel
theorem dL_law_1423 : decode cL_law 1423 = .ok (.iload_n 3, 1) := by decide +kernel
theorem dL_law_1424 : decode cL_law 1424 = .ok (.iconst 2, 1) := by decide +kernel
theorem dL_law_1425 : decode cL_law 1425 = .ok (.iadd, 1) := by decide +kernel
theorem dL_law_1426 : decode cL_law 1426 = .ok (.iaload, 1) := by decide +kernel
theorem dL_law_1427 : decode cL_law 1427 = .ok (.aload_n 0, 1) := by decide +kernel
theorem dL_law_1428 : decode cL_law 1428 = .ok (.iload_n 3, 1) := by decide +kernel
theorem dL_law_1429 : decode cL_law 1429 = .ok (.iconst 3, 1) := by decide +kernel
theorem dL_law_1430 : decode cL_law 1430 = .ok (.iadd, 1) := by decide +kernel
theorem dL_law_1431 : decode cL_law 1431 = .ok (.iaload, 1) := by decide +kernel
theorem dL_law_1432 : decode cL_law 1432 = .ok (.invokevirtual 172, 3) := by decide +kernel
theorem dL_law_1435 : decode cL_law 1435 = .ok (.aload_n 2, 1) := by decide +kernel
theorem dL_law_1436 : decode cL_law 1436 = .ok (.aload_n 0, 1) := by decide +kernel
theorem dL_law_1437 : decode cL_law 1437 = .ok (.iload_n 3, 1) := by decide +kernel
theorem dL_law_1438 : decode cL_law 1438 = .ok (.iconst 1, 1) := by decide +kernel
theorem dL_law_1439 : decode cL_law 1439 = .ok (.iadd, 1) := by decide +kernel
theorem dL_law_1440 : decode cL_law 1440 = .ok (.iaload, 1) := by decide +kernel
theorem dL_law_1441 : decode cL_law 1441 = .ok (.aload_n 0, 1) := by decide +kernel
theorem dL_law_1442 : decode cL_law 1442 = .ok (.iload_n 3, 1) := by decide +kernel
theorem dL_law_1443 : decode cL_law 1443 = .ok (.iconst 2, 1) := by decide +kernel
theorem dL_law_1444 : decode cL_law 1444 = .ok (.iadd, 1) := by decide +kernel
theorem dL_law_1445 : decode cL_law 1445 = .ok (.iaload, 1) := by decide +kernel
theorem dL_law_1446 : decode cL_law 1446 = .ok (.aload_n 0, 1) := by decide +kernel
theorem dL_law_1447 : decode cL_law 1447 = .ok (.iload_n 3, 1) := by decide +kernel
theorem dL_law_1448 : decode cL_law 1448 = .ok (.iconst 3, 1) := by decide +kernel
theorem dL_law_1449 : decode cL_law 1449 = .ok (.iadd, 1) := by decide +kernel
theorem dL_law_1450 : decode cL_law 1450 = .ok (.iaload, 1) := by decide +kernel
theorem dL_law_1451 : decode cL_law 1451 = .ok (.invokevirtual 175, 3) := by decide +kernel
theorem dL_law_1454 : decode cL_law 1454 = .ok (.if_icmp .eq 120, 3) := by decide +kernel
theorem dL_law_1457 : decode cL_law 1457 = .ok (.iconst 0, 1) := by decide +kernel
theorem dL_law_1458 : decode cL_law 1458 = .ok (.ireturn, 1) := by decide +kernel
theorem dL_law_1459 : decode cL_law 1459 = .ok (.aload_n 1, 1) := by decide +kernel
theorem dL_law_1460 : decode cL_law 1460 = .ok (.aload_n 0, 1) := by decide +kernel
theorem dL_law_1461 : decode cL_law 1461 = .ok (.iload_n 3, 1) := by decide +kernel
theorem dL_law_1462 : decode cL_law 1462 = .ok (.iconst 1, 1) := by decide +kernel
theorem dL_law_1463 : decode cL_law 1463 = .ok (.iadd, 1) := by decide +kernel
theorem dL_law_1464 : decode cL_law 1464 = .ok (.iaload, 1) := by decide +kernel
theorem dL_law_1465 : decode cL_law 1465 = .ok (.aload_n 0, 1) := by decide +kernel
theorem dL_law_1466 : decode cL_law 1466 = .ok (.iload_n 3, 1) := by decide +kernel
theorem dL_law_1467 : decode cL_law 1467 = .ok (.iconst 2, 1) := by decide +kernel
theorem dL_law_1468 : decode cL_law 1468 = .ok (.iadd, 1) := by decide +kernel
theorem dL_law_1469 : decode cL_law 1469 = .ok (.iaload, 1) := by decide +kernel
theorem dL_law_1470 : decode cL_law 1470 = .ok (.invokevirtual 176, 3) := by decide +kernel
theorem dL_law_1473 : decode cL_law 1473 = .ok (.aload_n 2, 1) := by decide +kernel
theorem dL_law_1474 : decode cL_law 1474 = .ok (.aload_n 0, 1) := by decide +kernel
theorem dL_law_1475 : decode cL_law 1475 = .ok (.iload_n 3, 1) := by decide +kernel
theorem dL_law_1476 : decode cL_law 1476 = .ok (.iconst 1, 1) := by decide +kernel
theorem dL_law_1477 : decode cL_law 1477 = .ok (.iadd, 1) := by decide +kernel
theorem dL_law_1478 : decode cL_law 1478 = .ok (.iaload, 1) := by decide +kernel
theorem dL_law_1479 : decode cL_law 1479 = .ok (.aload_n 0, 1) := by decide +kernel
theorem dL_law_1480 : decode cL_law 1480 = .ok (.iload_n 3, 1) := by decide +kernel
theorem dL_law_1481 : decode cL_law 1481 = .ok (.iconst 2, 1) := by decide +kernel
theorem dL_law_1482 : decode cL_law 1482 = .ok (.iadd, 1) := by decide +kernel
theorem dL_law_1483 : decode cL_law 1483 = .ok (.iaload, 1) := by decide +kernel
theorem dL_law_1484 : decode cL_law 1484 = .ok (.invokevirtual 179, 3) := by decide +kernel
theorem dL_law_1487 : decode cL_law 1487 = .ok (.if_icmp .eq 87, 3) := by decide +kernel
theorem dL_law_1490 : decode cL_law 1490 = .ok (.iconst 0, 1) := by decide +kernel
theorem dL_law_1491 : decode cL_law 1491 = .ok (.ireturn, 1) := by decide +kernel
theorem dL_law_1492 : decode cL_law 1492 = .ok (.aload_n 1, 1) := by decide +kernel
theorem dL_law_1493 : decode cL_law 1493 = .ok (.invokevirtual 180, 3) := by decide +kernel
theorem dL_law_1496 : decode cL_law 1496 = .ok (.aload_n 2, 1) := by decide +kernel
theorem dL_law_1497 : decode cL_law 1497 = .ok (.invokevirtual 183, 3) := by decide +kernel
theorem dL_law_1500 : decode cL_law 1500 = .ok (.if_icmp .eq 74, 3) := by decide +kernel
theorem dL_law_1503 : decode cL_law 1503 = .ok (.iconst 0, 1) := by decide +kernel
theorem dL_law_1504 : decode cL_law 1504 = .ok (.ireturn, 1) := by decide +kernel
theorem dL_law_1505 : decode cL_law 1505 = .ok (.aload_n 1, 1) := by decide +kernel
theorem dL_law_1506 : decode cL_law 1506 = .ok (.aload_n 0, 1) := by decide +kernel
theorem dL_law_1507 : decode cL_law 1507 = .ok (.iload_n 3, 1) := by decide +kernel
theorem dL_law_1508 : decode cL_law 1508 = .ok (.iconst 1, 1) := by decide +kernel
theorem dL_law_1509 : decode cL_law 1509 = .ok (.iadd, 1) := by decide +kernel
theorem dL_law_1510 : decode cL_law 1510 = .ok (.iaload, 1) := by decide +kernel
theorem dL_law_1511 : decode cL_law 1511 = .ok (.invokevirtual 184, 3) := by decide +kernel
theorem dL_law_1514 : decode cL_law 1514 = .ok (.aload_n 2, 1) := by decide +kernel
theorem dL_law_1515 : decode cL_law 1515 = .ok (.aload_n 0, 1) := by decide +kernel
theorem dL_law_1516 : decode cL_law 1516 = .ok (.iload_n 3, 1) := by decide +kernel
theorem dL_law_1517 : decode cL_law 1517 = .ok (.iconst 1, 1) := by decide +kernel
theorem dL_law_1518 : decode cL_law 1518 = .ok (.iadd, 1) := by decide +kernel
theorem dL_law_1519 : decode cL_law 1519 = .ok (.iaload, 1) := by decide +kernel
theorem dL_law_1520 : decode cL_law 1520 = .ok (.invokevirtual 187, 3) := by decide +kernel
theorem dL_law_1523 : decode cL_law 1523 = .ok (.if_icmp .eq 51, 3) := by decide +kernel
theorem dL_law_1526 : decode cL_law 1526 = .ok (.iconst 0, 1) := by decide +kernel
theorem dL_law_1527 : decode cL_law 1527 = .ok (.ireturn, 1) := by decide +kernel
theorem dL_law_1528 : decode cL_law 1528 = .ok (.aload_n 1, 1) := by decide +kernel
theorem dL_law_1529 : decode cL_law 1529 = .ok (.aload_n 0, 1) := by decide +kernel
theorem dL_law_1530 : decode cL_law 1530 = .ok (.iload_n 3, 1) := by decide +kernel
theorem dL_law_1531 : decode cL_law 1531 = .ok (.iconst 1, 1) := by decide +kernel
theorem dL_law_1532 : decode cL_law 1532 = .ok (.iadd, 1) := by decide +kernel
theorem dL_law_1533 : decode cL_law 1533 = .ok (.iaload, 1) := by decide +kernel
theorem dL_law_1534 : decode cL_law 1534 = .ok (.invokevirtual 188, 3) := by decide +kernel
theorem dL_law_1537 : decode cL_law 1537 = .ok (.aload_n 2, 1) := by decide +kernel
theorem dL_law_1538 : decode cL_law 1538 = .ok (.aload_n 0, 1) := by decide +kernel
theorem dL_law_1539 : decode cL_law 1539 = .ok (.iload_n 3, 1) := by decide +kernel
theorem dL_law_1540 : decode cL_law 1540 = .ok (.iconst 1, 1) := by decide +kernel
theorem dL_law_1541 : decode cL_law 1541 = .ok (.iadd, 1) := by decide +kernel
theorem dL_law_1542 : decode cL_law 1542 = .ok (.iaload, 1) := by decide +kernel
theorem dL_law_1543 : decode cL_law 1543 = .ok (.invokevirtual 191, 3) := by decide +kernel
theorem dL_law_1546 : decode cL_law 1546 = .ok (.if_icmp .eq 28, 3) := by decide +kernel
theorem dL_law_1549 : decode cL_law 1549 = .ok (.iconst 0, 1) := by decide +kernel
theorem dL_law_1550 : decode cL_law 1550 = .ok (.ireturn, 1) := by decide +kernel
theorem dL_law_1551 : decode cL_law 1551 = .ok (.aload_n 1, 1) := by decide +kernel
theorem dL_law_1552 : decode cL_law 1552 = .ok (.aload_n 0, 1) := by decide +kernel
theorem dL_law_1553 : decode cL_law 1553 = .ok (.iload_n 3, 1) := by decide +kernel
theorem dL_law_1554 : decode cL_law 1554 = .ok (.iconst 1, 1) := by decide +kernel
theorem dL_law_1555 : decode cL_law 1555 = .ok (.iadd, 1) := by decide +kernel
theorem dL_law_1556 : decode cL_law 1556 = .ok (.iaload, 1) := by decide +kernel
theorem dL_law_1557 : decode cL_law 1557 = .ok (.invokevirtual 192, 3) := by decide +kernel
theorem dL_law_1560 : decode cL_law 1560 = .ok (.aload_n 2, 1) := by decide +kernel
theorem dL_law_1561 : decode cL_law 1561 = .ok (.aload_n 0, 1) := by decide +kernel
theorem dL_law_1562 : decode cL_law 1562 = .ok (.iload_n 3, 1) := by decide +kernel
theorem dL_law_1563 : decode cL_law 1563 = .ok (.iconst 1, 1) := by decide +kernel
theorem dL_law_1564 : decode cL_law 1564 = .ok (.iadd, 1) := by decide +kernel
theorem dL_law_1565 : decode cL_law 1565 = .ok (.iaload, 1) := by decide +kernel
theorem dL_law_1566 : decode cL_law 1566 = .ok (.invokevirtual 195, 3) := by decide +kernel
theorem dL_law_1569 : decode cL_law 1569 = .ok (.if_icmp .eq 5, 3) := by decide +kernel
theorem dL_law_1572 : decode cL_law 1572 = .ok (.iconst 0, 1) := by decide +kernel
theorem dL_law_1573 : decode cL_law 1573 = .ok (.ireturn, 1) := by decide +kernel
theorem dL_law_1574 : decode cL_law 1574 = .ok (.iinc 3 6, 3) := by decide +kernel
theorem dL_law_1577 : decode cL_law 1577 = .ok (.goto (-1559), 3) := by decide +kernel
theorem dL_law_1580 : decode cL_law 1580 = .ok (.iconst 1, 1) := by decide +kernel
theorem dL_law_1581 : decode cL_law 1581 = .ok (.ireturn, 1) := by decide +kernel
