theorem dX7_fullStake_66 : decode cX7_fullStake 66 = .ok (.baload, 1) := by decide +kernel
theorem dX7_fullStake_67 : decode cX7_fullStake 67 = .ok (.if_icmp .ne 6, 3) := by decide +kernel
theorem dX7_fullStake_70 : decode cX7_fullStake 70 = .ok (.bipush (-9), 2) := by decide +kernel
theorem dX7_fullStake_72 : decode cX7_fullStake 72 = .ok (.ireturn, 1) := by decide +kernel
theorem dX7_fullStake_73 : decode cX7_fullStake 73 = .ok (.iinc 2 1, 3) := by decide +kernel
theorem dX7_fullStake_76 : decode cX7_fullStake 76 = .ok (.goto (-32), 3) := by decide +kernel
theorem dX7_fullStake_79 : decode cX7_fullStake 79 = .ok (.iload_n 1, 1) := by decide +kernel
theorem dX7_fullStake_80 : decode cX7_fullStake 80 = .ok (.ifCond .ne 7, 3) := by decide +kernel
theorem dX7_fullStake_83 : decode cX7_fullStake 83 = .ok (.iconst 0, 1) := by decide +kernel
theorem dX7_fullStake_84 : decode cX7_fullStake 84 = .ok (.goto 20, 3) := by decide +kernel
theorem dX7_fullStake_87 : decode cX7_fullStake 87 = .ok (.aload_n 0, 1) := by decide +kernel
theorem dX7_fullStake_88 : decode cX7_fullStake 88 = .ok (.getfield 10, 3) := by decide +kernel
theorem dX7_fullStake_91 : decode cX7_fullStake 91 = .ok (.iconst 1, 1) := by decide +kernel
theorem dX7_fullStake_92 : decode cX7_fullStake 92 = .ok (.aload_n 0, 1) := by decide +kernel
theorem dX7_fullStake_93 : decode cX7_fullStake 93 = .ok (.getfield 10, 3) := by decide +kernel
theorem dX7_fullStake_96 : decode cX7_fullStake 96 = .ok (.getfield 152, 3) := by decide +kernel
theorem dX7_fullStake_99 : decode cX7_fullStake 99 = .ok (.invokevirtual 190, 3) := by decide +kernel
theorem dX7_fullStake_102 : decode cX7_fullStake 102 = .ok (.iconst 1, 1) := by decide +kernel
theorem dX7_fullStake_103 : decode cX7_fullStake 103 = .ok (.iadd, 1) := by decide +kernel
theorem dX7_fullStake_104 : decode cX7_fullStake 104 = .ok (.ireturn, 1) := by decide +kernel
theorem dX7_heard_0 : decode cX7_heard 0 = .ok (.iconst 0, 1) := by decide +kernel
theorem dX7_heard_1 : decode cX7_heard 1 = .ok (.istore_n 1, 1) := by decide +kernel
theorem dX7_heard_2 : decode cX7_heard 2 = .ok (.aload_n 0, 1) := by decide +kernel
theorem dX7_heard_3 : decode cX7_heard 3 = .ok (.iconst 0, 1) := by decide +kernel
theorem dX7_heard_4 : decode cX7_heard 4 = .ok (.invokevirtual 171, 3) := by decide +kernel
theorem dX7_heard_7 : decode cX7_heard 7 = .ok (.iconst 0, 1) := by decide +kernel
theorem dX7_heard_8 : decode cX7_heard 8 = .ok (.istore_n 2, 1) := by decide +kernel
theorem dX7_heard_9 : decode cX7_heard 9 = .ok (.iload_n 2, 1) := by decide +kernel
theorem dX7_heard_10 : decode cX7_heard 10 = .ok (.aload_n 0, 1) := by decide +kernel
theorem dX7_heard_11 : decode cX7_heard 11 = .ok (.getfield 10, 3) := by decide +kernel
theorem dX7_heard_14 : decode cX7_heard 14 = .ok (.getfield 152, 3) := by decide +kernel
theorem dX7_heard_17 : decode cX7_heard 17 = .ok (.if_icmp .ge 20, 3) := by decide +kernel
theorem dX7_heard_20 : decode cX7_heard 20 = .ok (.aload_n 0, 1) := by decide +kernel
theorem dX7_heard_21 : decode cX7_heard 21 = .ok (.iload_n 2, 1) := by decide +kernel
theorem dX7_heard_22 : decode cX7_heard 22 = .ok (.invokevirtual 311, 3) := by decide +kernel
theorem dX7_heard_25 : decode cX7_heard 25 = .ok (.ifCond .eq 6, 3) := by decide +kernel
theorem dX7_heard_28 : decode cX7_heard 28 = .ok (.iinc 1 1, 3) := by decide +kernel
theorem dX7_heard_31 : decode cX7_heard 31 = .ok (.iinc 2 1, 3) := by decide +kernel
theorem dX7_heard_34 : decode cX7_heard 34 = .ok (.goto (-25), 3) := by decide +kernel
theorem dX7_heard_37 : decode cX7_heard 37 = .ok (.iload_n 1, 1) := by decide +kernel
theorem dX7_heard_38 : decode cX7_heard 38 = .ok (.ireturn, 1) := by decide +kernel
theorem dX7_lastSay_0 : decode cX7_lastSay 0 = .ok (.aload_n 0, 1) := by decide +kernel
theorem dX7_lastSay_1 : decode cX7_lastSay 1 = .ok (.getfield 10, 3) := by decide +kernel
theorem dX7_lastSay_4 : decode cX7_lastSay 4 = .ok (.getfield 152, 3) := by decide +kernel
theorem dX7_lastSay_7 : decode cX7_lastSay 7 = .ok (.ifCond .ne 10, 3) := by decide +kernel
theorem dX7_lastSay_10 : decode cX7_lastSay 10 = .ok (.aload_n 0, 1) := by decide +kernel
theorem dX7_lastSay_11 : decode cX7_lastSay 11 = .ok (.bipush (-3), 2) := by decide +kernel
theorem dX7_lastSay_13 : decode cX7_lastSay 13 = .ok (.invokevirtual 91, 3) := by decide +kernel
theorem dX7_lastSay_16 : decode cX7_lastSay 16 = .ok (.ireturn, 1) := by decide +kernel
theorem dX7_lastSay_17 : decode cX7_lastSay 17 = .ok (.iconst 0, 1) := by decide +kernel
theorem dX7_lastSay_18 : decode cX7_lastSay 18 = .ok (.istore_n 1, 1) := by decide +kernel
theorem dX7_lastSay_19 : decode cX7_lastSay 19 = .ok (.iconst 0, 1) := by decide +kernel
theorem dX7_lastSay_20 : decode cX7_lastSay 20 = .ok (.istore_n 2, 1) := by decide +kernel
theorem dX7_lastSay_21 : decode cX7_lastSay 21 = .ok (.iload_n 2, 1) := by decide +kernel
theorem dX7_lastSay_22 : decode cX7_lastSay 22 = .ok (.bipush 6, 2) := by decide +kernel
theorem dX7_lastSay_24 : decode cX7_lastSay 24 = .ok (.if_icmp .ge 39, 3) := by decide +kernel
theorem dX7_lastSay_27 : decode cX7_lastSay 27 = .ok (.aload_n 0, 1) := by decide +kernel
theorem dX7_lastSay_28 : decode cX7_lastSay 28 = .ok (.aload_n 0, 1) := by decide +kernel
theorem dX7_lastSay_29 : decode cX7_lastSay 29 = .ok (.getfield 10, 3) := by decide +kernel
theorem dX7_lastSay_32 : decode cX7_lastSay 32 = .ok (.getfield 152, 3) := by decide +kernel
theorem dX7_lastSay_35 : decode cX7_lastSay 35 = .ok (.iconst 1, 1) := by decide +kernel
theorem dX7_lastSay_36 : decode cX7_lastSay 36 = .ok (.isub, 1) := by decide +kernel
theorem dX7_lastSay_37 : decode cX7_lastSay 37 = .ok (.iload_n 2, 1) := by decide +kernel
theorem dX7_lastSay_38 : decode cX7_lastSay 38 = .ok (.invokevirtual 308, 3) := by decide +kernel
theorem dX7_lastSay_41 : decode cX7_lastSay 41 = .ok (.aload_n 0, 1) := by decide +kernel
theorem dX7_lastSay_42 : decode cX7_lastSay 42 = .ok (.getfield 54, 3) := by decide +kernel
theorem dX7_lastSay_45 : decode cX7_lastSay 45 = .ok (.invokevirtual 175, 3) := by decide +kernel
theorem dX7_lastSay_48 : decode cX7_lastSay 48 = .ok (.ifCond .eq 9, 3) := by decide +kernel
theorem dX7_lastSay_51 : decode cX7_lastSay 51 = .ok (.iload_n 1, 1) := by decide +kernel
theorem dX7_lastSay_52 : decode cX7_lastSay 52 = .ok (.iconst 1, 1) := by decide +kernel
theorem dX7_lastSay_53 : decode cX7_lastSay 53 = .ok (.iload_n 2, 1) := by decide +kernel
theorem dX7_lastSay_54 : decode cX7_lastSay 54 = .ok (.ishl, 1) := by decide +kernel
theorem dX7_lastSay_55 : decode cX7_lastSay 55 = .ok (.ior, 1) := by decide +kernel
theorem dX7_lastSay_56 : decode cX7_lastSay 56 = .ok (.istore_n 1, 1) := by decide +kernel
theorem dX7_lastSay_57 : decode cX7_lastSay 57 = .ok (.iinc 2 1, 3) := by decide +kernel
theorem dX7_lastSay_60 : decode cX7_lastSay 60 = .ok (.goto (-39), 3) := by decide +kernel
theorem dX7_lastSay_63 : decode cX7_lastSay 63 = .ok (.iload_n 1, 1) := by decide +kernel
theorem dX7_lastSay_64 : decode cX7_lastSay 64 = .ok (.ireturn, 1) := by decide +kernel
theorem dX7_row_0 : decode cX7_row 0 = .ok (.iload_n 1, 1) := by decide +kernel
theorem dX7_row_1 : decode cX7_row 1 = .ok (.ifCond .ge 10, 3) := by decide +kernel
theorem dX7_row_4 : decode cX7_row 4 = .ok (.aload_n 0, 1) := by decide +kernel
theorem dX7_row_5 : decode cX7_row 5 = .ok (.bipush (-4), 2) := by decide +kernel
theorem dX7_row_7 : decode cX7_row 7 = .ok (.invokevirtual 91, 3) := by decide +kernel
theorem dX7_row_10 : decode cX7_row 10 = .ok (.ireturn, 1) := by decide +kernel
theorem dX7_row_11 : decode cX7_row 11 = .ok (.iload_n 1, 1) := by decide +kernel
theorem dX7_row_12 : decode cX7_row 12 = .ok (.bipush 99, 2) := by decide +kernel
theorem dX7_row_14 : decode cX7_row 14 = .ok (.if_icmp .gt 15, 3) := by decide +kernel
theorem dX7_row_17 : decode cX7_row 17 = .ok (.aload_n 0, 1) := by decide +kernel
theorem dX7_row_18 : decode cX7_row 18 = .ok (.getfield 44, 3) := by decide +kernel
theorem dX7_row_21 : decode cX7_row 21 = .ok (.aload_n 0, 1) := by decide +kernel
theorem dX7_row_22 : decode cX7_row 22 = .ok (.getfield 40, 3) := by decide +kernel
theorem dX7_row_25 : decode cX7_row 25 = .ok (.arraylength, 1) := by decide +kernel
theorem dX7_row_26 : decode cX7_row 26 = .ok (.if_icmp .lt 10, 3) := by decide +kernel
theorem dX7_row_29 : decode cX7_row 29 = .ok (.aload_n 0, 1) := by decide +kernel
theorem dX7_row_30 : decode cX7_row 30 = .ok (.bipush (-6), 2) := by decide +kernel
theorem dX7_row_32 : decode cX7_row 32 = .ok (.invokevirtual 91, 3) := by decide +kernel
theorem dX7_row_35 : decode cX7_row 35 = .ok (.ireturn, 1) := by decide +kernel
theorem dX7_row_36 : decode cX7_row 36 = .ok (.aload_n 0, 1) := by decide +kernel
theorem dX7_row_37 : decode cX7_row 37 = .ok (.getfield 40, 3) := by decide +kernel
theorem dX7_row_40 : decode cX7_row 40 = .ok (.aload_n 0, 1) := by decide +kernel
theorem dX7_row_41 : decode cX7_row 41 = .ok (.getfield 44, 3) := by decide +kernel
theorem dX7_row_44 : decode cX7_row 44 = .ok (.iload_n 1, 1) := by decide +kernel
theorem dX7_row_45 : decode cX7_row 45 = .ok (.iastore, 1) := by decide +kernel
theorem dX7_row_46 : decode cX7_row 46 = .ok (.aload_n 0, 1) := by decide +kernel
theorem dX7_row_47 : decode cX7_row 47 = .ok (.dup, 1) := by decide +kernel
theorem dX7_row_48 : decode cX7_row 48 = .ok (.getfield 44, 3) := by decide +kernel
theorem dX7_row_51 : decode cX7_row 51 = .ok (.iconst 1, 1) := by decide +kernel
theorem dX7_row_52 : decode cX7_row 52 = .ok (.iadd, 1) := by decide +kernel
theorem dX7_row_53 : decode cX7_row 53 = .ok (.putfield 44, 3) := by decide +kernel
theorem dX7_row_56 : decode cX7_row 56 = .ok (.aload_n 0, 1) := by decide +kernel
theorem dX7_row_57 : decode cX7_row 57 = .ok (.getfield 44, 3) := by decide +kernel
theorem dX7_row_60 : decode cX7_row 60 = .ok (.ireturn, 1) := by decide +kernel
theorem dX7_judge_0 : decode cX7_judge 0 = .ok (.aload_n 0, 1) := by decide +kernel
theorem dX7_judge_1 : decode cX7_judge 1 = .ok (.invokevirtual 335, 3) := by decide +kernel
theorem dX7_judge_4 : decode cX7_judge 4 = .ok (.istore_n 1, 1) := by decide +kernel
theorem dX7_judge_5 : decode cX7_judge 5 = .ok (.aload_n 0, 1) := by decide +kernel
theorem dX7_judge_6 : decode cX7_judge 6 = .ok (.iconst 0, 1) := by decide +kernel
theorem dX7_judge_7 : decode cX7_judge 7 = .ok (.putfield 44, 3) := by decide +kernel
theorem dX7_judge_10 : decode cX7_judge 10 = .ok (.iload_n 1, 1) := by decide +kernel
theorem dX7_judge_11 : decode cX7_judge 11 = .ok (.ireturn, 1) := by decide +kernel
theorem dX7_clear_0 : decode cX7_clear 0 = .ok (.aload_n 0, 1) := by decide +kernel
theorem dX7_clear_1 : decode cX7_clear 1 = .ok (.getfield 44, 3) := by decide +kernel
theorem dX7_clear_4 : decode cX7_clear 4 = .ok (.istore_n 1, 1) := by decide +kernel
theorem dX7_clear_5 : decode cX7_clear 5 = .ok (.aload_n 0, 1) := by decide +kernel
theorem dX7_clear_6 : decode cX7_clear 6 = .ok (.iconst 0, 1) := by decide +kernel
theorem dX7_clear_7 : decode cX7_clear 7 = .ok (.putfield 44, 3) := by decide +kernel
theorem dX7_clear_10 : decode cX7_clear 10 = .ok (.iload_n 1, 1) := by decide +kernel
theorem dX7_clear_11 : decode cX7_clear 11 = .ok (.ireturn, 1) := by decide +kernel
theorem dX7_lots_0 : decode cX7_lots 0 = .ok (.iload_n 1, 1) := by decide +kernel
theorem dX7_lots_1 : decode cX7_lots 1 = .ok (.iconst 1, 1) := by decide +kernel
theorem dX7_lots_2 : decode cX7_lots 2 = .ok (.bipush 20, 2) := by decide +kernel
theorem dX7_lots_4 : decode cX7_lots 4 = .ok (.invokestatic 127, 3) := by decide +kernel
theorem dX7_lots_7 : decode cX7_lots 7 = .ok (.istore 4, 2) := by decide +kernel
theorem dX7_lots_9 : decode cX7_lots 9 = .ok (.iload 4, 2) := by decide +kernel
theorem dX7_lots_11 : decode cX7_lots 11 = .ok (.ifCond .eq 10, 3) := by decide +kernel
theorem dX7_lots_14 : decode cX7_lots 14 = .ok (.aload_n 0, 1) := by decide +kernel
theorem dX7_lots_15 : decode cX7_lots 15 = .ok (.iload 4, 2) := by decide +kernel
theorem dX7_lots_17 : decode cX7_lots 17 = .ok (.invokevirtual 91, 3) := by decide +kernel
theorem dX7_lots_20 : decode cX7_lots 20 = .ok (.ireturn, 1) := by decide +kernel
theorem dX7_lots_21 : decode cX7_lots 21 = .ok (.iload_n 3, 1) := by decide +kernel
theorem dX7_lots_22 : decode cX7_lots 22 = .ok (.ifCond .lt 8, 3) := by decide +kernel
theorem dX7_lots_25 : decode cX7_lots 25 = .ok (.iload_n 3, 1) := by decide +kernel
theorem dX7_lots_26 : decode cX7_lots 26 = .ok (.iconst 1, 1) := by decide +kernel
theorem dX7_lots_27 : decode cX7_lots 27 = .ok (.if_icmp .le 10, 3) := by decide +kernel
theorem dX7_lots_30 : decode cX7_lots 30 = .ok (.aload_n 0, 1) := by decide +kernel
theorem dX7_lots_31 : decode cX7_lots 31 = .ok (.bipush (-2), 2) := by decide +kernel
theorem dX7_lots_33 : decode cX7_lots 33 = .ok (.invokevirtual 91, 3) := by decide +kernel
theorem dX7_lots_36 : decode cX7_lots 36 = .ok (.ireturn, 1) := by decide +kernel
theorem dX7_lots_37 : decode cX7_lots 37 = .ok (.iload_n 2, 1) := by decide +kernel
theorem dX7_lots_38 : decode cX7_lots 38 = .ok (.istore 5, 2) := by decide +kernel
theorem dX7_lots_40 : decode cX7_lots 40 = .ok (.iconst 0, 1) := by decide +kernel
theorem dX7_lots_41 : decode cX7_lots 41 = .ok (.istore 6, 2) := by decide +kernel
theorem dX7_lots_43 : decode cX7_lots 43 = .ok (.iconst 0, 1) := by decide +kernel
theorem dX7_lots_44 : decode cX7_lots 44 = .ok (.istore 7, 2) := by decide +kernel
theorem dX7_lots_46 : decode cX7_lots 46 = .ok (.aload_n 0, 1) := by decide +kernel
theorem dX7_lots_47 : decode cX7_lots 47 = .ok (.getfield 54, 3) := by decide +kernel
theorem dX7_lots_50 : decode cX7_lots 50 = .ok (.aload_n 0, 1) := by decide +kernel
theorem dX7_lots_51 : decode cX7_lots 51 = .ok (.getfield 10, 3) := by decide +kernel
theorem dX7_lots_54 : decode cX7_lots 54 = .ok (.getfield 118, 3) := by decide +kernel
theorem dX7_lots_57 : decode cX7_lots 57 = .ok (.invokevirtual 236, 3) := by decide +kernel
theorem dX7_lots_60 : decode cX7_lots 60 = .ok (.iconst 0, 1) := by decide +kernel
theorem dX7_lots_61 : decode cX7_lots 61 = .ok (.istore 8, 2) := by decide +kernel
theorem dX7_lots_63 : decode cX7_lots 63 = .ok (.iload 8, 2) := by decide +kernel
theorem dX7_lots_65 : decode cX7_lots 65 = .ok (.iload_n 1, 1) := by decide +kernel
theorem dX7_lots_66 : decode cX7_lots 66 = .ok (.if_icmp .ge 134, 3) := by decide +kernel
theorem dX7_lots_69 : decode cX7_lots 69 = .ok (.iconst 0, 1) := by decide +kernel
theorem dX7_lots_70 : decode cX7_lots 70 = .ok (.istore 9, 2) := by decide +kernel
theorem dX7_lots_72 : decode cX7_lots 72 = .ok (.iload 9, 2) := by decide +kernel
theorem dX7_lots_74 : decode cX7_lots 74 = .ok (.aload_n 0, 1) := by decide +kernel
theorem dX7_lots_75 : decode cX7_lots 75 = .ok (.getfield 54, 3) := by decide +kernel
theorem dX7_lots_78 : decode cX7_lots 78 = .ok (.getfield 155, 3) := by decide +kernel
theorem dX7_lots_81 : decode cX7_lots 81 = .ok (.if_icmp .ge 46, 3) := by decide +kernel
theorem dX7_lots_84 : decode cX7_lots 84 = .ok (.iload 5, 2) := by decide +kernel
theorem dX7_lots_86 : decode cX7_lots 86 = .ok (.ldc_w 338, 3) := by decide +kernel
theorem dX7_lots_89 : decode cX7_lots 89 = .ok (.imul, 1) := by decide +kernel
theorem dX7_lots_90 : decode cX7_lots 90 = .ok (.sipush 12345, 3) := by decide +kernel
theorem dX7_lots_93 : decode cX7_lots 93 = .ok (.iadd, 1) := by decide +kernel
theorem dX7_lots_94 : decode cX7_lots 94 = .ok (.istore 5, 2) := by decide +kernel
theorem dX7_lots_96 : decode cX7_lots 96 = .ok (.aload_n 0, 1) := by decide +kernel
theorem dX7_lots_97 : decode cX7_lots 97 = .ok (.getfield 54, 3) := by decide +kernel
theorem dX7_lots_100 : decode cX7_lots 100 = .ok (.iload 9, 2) := by decide +kernel
theorem dX7_lots_102 : decode cX7_lots 102 = .ok (.iload 5, 2) := by decide +kernel
theorem dX7_lots_104 : decode cX7_lots 104 = .ok (.ldc_w 339, 3) := by decide +kernel
theorem dX7_lots_107 : decode cX7_lots 107 = .ok (.iand, 1) := by decide +kernel
theorem dX7_lots_108 : decode cX7_lots 108 = .ok (.ldc_w 340, 3) := by decide +kernel
theorem dX7_lots_111 : decode cX7_lots 111 = .ok (.idiv, 1) := by decide +kernel
theorem dX7_lots_112 : decode cX7_lots 112 = .ok (.bipush 19, 2) := by decide +kernel
theorem dX7_lots_114 : decode cX7_lots 114 = .ok (.irem, 1) := by decide +kernel
theorem dX7_lots_115 : decode cX7_lots 115 = .ok (.bipush 9, 2) := by decide +kernel
theorem dX7_lots_117 : decode cX7_lots 117 = .ok (.isub, 1) := by decide +kernel
theorem dX7_lots_118 : decode cX7_lots 118 = .ok (.invokevirtual 138, 3) := by decide +kernel
theorem dX7_lots_121 : decode cX7_lots 121 = .ok (.iinc 9 1, 3) := by decide +kernel
theorem dX7_lots_124 : decode cX7_lots 124 = .ok (.goto (-52), 3) := by decide +kernel
theorem dX7_lots_127 : decode cX7_lots 127 = .ok (.aload_n 0, 1) := by decide +kernel
theorem dX7_lots_128 : decode cX7_lots 128 = .ok (.getfield 54, 3) := by decide +kernel
theorem dX7_lots_131 : decode cX7_lots 131 = .ok (.invokevirtual 175, 3) := by decide +kernel
theorem dX7_lots_134 : decode cX7_lots 134 = .ok (.istore 9, 2) := by decide +kernel
theorem dX7_lots_136 : decode cX7_lots 136 = .ok (.aload_n 0, 1) := by decide +kernel
theorem dX7_lots_137 : decode cX7_lots 137 = .ok (.getfield 10, 3) := by decide +kernel
theorem dX7_lots_140 : decode cX7_lots 140 = .ok (.aload_n 0, 1) := by decide +kernel
theorem dX7_lots_141 : decode cX7_lots 141 = .ok (.getfield 54, 3) := by decide +kernel
theorem dX7_lots_144 : decode cX7_lots 144 = .ok (.aload_n 0, 1) := by decide +kernel
theorem dX7_lots_145 : decode cX7_lots 145 = .ok (.getfield 10, 3) := by decide +kernel
theorem dX7_lots_148 : decode cX7_lots 148 = .ok (.getfield 152, 3) := by decide +kernel
theorem dX7_lots_151 : decode cX7_lots 151 = .ok (.invokevirtual 269, 3) := by decide +kernel
theorem dX7_lots_154 : decode cX7_lots 154 = .ok (.iload 6, 2) := by decide +kernel
theorem dX7_lots_156 : decode cX7_lots 156 = .ok (.aload_n 0, 1) := by decide +kernel
theorem dX7_lots_157 : decode cX7_lots 157 = .ok (.getfield 54, 3) := by decide +kernel
theorem dX7_lots_160 : decode cX7_lots 160 = .ok (.invokevirtual 175, 3) := by decide +kernel
theorem dX7_lots_163 : decode cX7_lots 163 = .ok (.invokestatic 179, 3) := by decide +kernel
theorem dX7_lots_166 : decode cX7_lots 166 = .ok (.iadd, 1) := by decide +kernel
theorem dX7_lots_167 : decode cX7_lots 167 = .ok (.istore 6, 2) := by decide +kernel
theorem dX7_lots_169 : decode cX7_lots 169 = .ok (.iload 7, 2) := by decide +kernel
theorem dX7_lots_171 : decode cX7_lots 171 = .ok (.aload_n 0, 1) := by decide +kernel
theorem dX7_lots_172 : decode cX7_lots 172 = .ok (.getfield 54, 3) := by decide +kernel
theorem dX7_lots_175 : decode cX7_lots 175 = .ok (.invokevirtual 175, 3) := by decide +kernel
theorem dX7_lots_178 : decode cX7_lots 178 = .ok (.iload 9, 2) := by decide +kernel
theorem dX7_lots_180 : decode cX7_lots 180 = .ok (.if_icmp .eq 7, 3) := by decide +kernel
theorem dX7_lots_183 : decode cX7_lots 183 = .ok (.iconst 1, 1) := by decide +kernel
theorem dX7_lots_184 : decode cX7_lots 184 = .ok (.goto 4, 3) := by decide +kernel
theorem dX7_lots_187 : decode cX7_lots 187 = .ok (.iconst 0, 1) := by decide +kernel
theorem dX7_lots_188 : decode cX7_lots 188 = .ok (.invokestatic 179, 3) := by decide +kernel
theorem dX7_lots_191 : decode cX7_lots 191 = .ok (.iadd, 1) := by decide +kernel
theorem dX7_lots_192 : decode cX7_lots 192 = .ok (.istore 7, 2) := by decide +kernel
theorem dX7_lots_194 : decode cX7_lots 194 = .ok (.iinc 8 1, 3) := by decide +kernel
theorem dX7_lots_197 : decode cX7_lots 197 = .ok (.goto (-134), 3) := by decide +kernel
theorem dX7_lots_200 : decode cX7_lots 200 = .ok (.iload_n 3, 1) := by decide +kernel
theorem dX7_lots_201 : decode cX7_lots 201 = .ok (.ifCond .ne 8, 3) := by decide +kernel
theorem dX7_lots_204 : decode cX7_lots 204 = .ok (.iload 6, 2) := by decide +kernel
theorem dX7_lots_206 : decode cX7_lots 206 = .ok (.goto 5, 3) := by decide +kernel
theorem dX7_lots_209 : decode cX7_lots 209 = .ok (.iload 7, 2) := by decide +kernel
theorem dX7_lots_211 : decode cX7_lots 211 = .ok (.ireturn, 1) := by decide +kernel
theorem dX7_image_0 : decode cX7_image 0 = .ok (.aload_n 0, 1) := by decide +kernel
theorem dX7_image_1 : decode cX7_image 1 = .ok (.getfield 19, 3) := by decide +kernel
theorem dX7_image_4 : decode cX7_image 4 = .ok (.aload_n 0, 1) := by decide +kernel
theorem dX7_image_5 : decode cX7_image 5 = .ok (.getfield 10, 3) := by decide +kernel
theorem dX7_image_8 : decode cX7_image 8 = .ok (.invokevirtual 341, 3) := by decide +kernel
theorem dX7_image_11 : decode cX7_image 11 = .ok (.aload_n 0, 1) := by decide +kernel
theorem dX7_image_12 : decode cX7_image 12 = .ok (.iconst 1, 1) := by decide +kernel
theorem dX7_image_13 : decode cX7_image 13 = .ok (.putfield 22, 3) := by decide +kernel
theorem dX7_image_16 : decode cX7_image 16 = .ok (.aload_n 0, 1) := by decide +kernel
theorem dX7_image_17 : decode cX7_image 17 = .ok (.getfield 10, 3) := by decide +kernel
theorem dX7_image_20 : decode cX7_image 20 = .ok (.getfield 152, 3) := by decide +kernel
theorem dX7_image_23 : decode cX7_image 23 = .ok (.ireturn, 1) := by decide +kernel
theorem dX7_restore_0 : decode cX7_restore 0 = .ok (.aload_n 0, 1) := by decide +kernel
theorem dX7_restore_1 : decode cX7_restore 1 = .ok (.getfield 22, 3) := by decide +kernel
theorem dX7_restore_4 : decode cX7_restore 4 = .ok (.ifCond .ne 10, 3) := by decide +kernel
theorem dX7_restore_7 : decode cX7_restore 7 = .ok (.aload_n 0, 1) := by decide +kernel
theorem dX7_restore_8 : decode cX7_restore 8 = .ok (.bipush (-3), 2) := by decide +kernel
theorem dX7_restore_10 : decode cX7_restore 10 = .ok (.invokevirtual 91, 3) := by decide +kernel
theorem dX7_restore_13 : decode cX7_restore 13 = .ok (.ireturn, 1) := by decide +kernel
theorem dX7_restore_14 : decode cX7_restore 14 = .ok (.aload_n 0, 1) := by decide +kernel
theorem dX7_restore_15 : decode cX7_restore 15 = .ok (.getfield 10, 3) := by decide +kernel
theorem dX7_restore_18 : decode cX7_restore 18 = .ok (.aload_n 0, 1) := by decide +kernel
theorem dX7_restore_19 : decode cX7_restore 19 = .ok (.getfield 19, 3) := by decide +kernel
theorem dX7_restore_22 : decode cX7_restore 22 = .ok (.invokevirtual 341, 3) := by decide +kernel
theorem dX7_restore_25 : decode cX7_restore 25 = .ok (.aload_n 0, 1) := by decide +kernel
theorem dX7_restore_26 : decode cX7_restore 26 = .ok (.getfield 36, 3) := by decide +kernel
theorem dX7_restore_29 : decode cX7_restore 29 = .ok (.iconst 0, 1) := by decide +kernel
theorem dX7_restore_30 : decode cX7_restore 30 = .ok (.putfield 166, 3) := by decide +kernel
theorem dX7_restore_33 : decode cX7_restore 33 = .ok (.aload_n 0, 1) := by decide +kernel
theorem dX7_restore_34 : decode cX7_restore 34 = .ok (.getfield 10, 3) := by decide +kernel
theorem dX7_restore_37 : decode cX7_restore 37 = .ok (.getfield 152, 3) := by decide +kernel
theorem dX7_restore_40 : decode cX7_restore 40 = .ok (.ireturn, 1) := by decide +kernel
theorem dX7_count_0 : decode cX7_count 0 = .ok (.iload_n 1, 1) := by decide +kernel
theorem dX7_count_1 : decode cX7_count 1 = .ok (.tableswitch 114 0 7 #[47, 55, 66, 74, 82, 90, 95, 103], 47) := by decide +kernel
theorem dX7_count_48 : decode cX7_count 48 = .ok (.aload_n 0, 1) := by decide +kernel
theorem dX7_count_49 : decode cX7_count 49 = .ok (.getfield 10, 3) := by decide +kernel
theorem dX7_count_52 : decode cX7_count 52 = .ok (.getfield 152, 3) := by decide +kernel
theorem dX7_count_55 : decode cX7_count 55 = .ok (.ireturn, 1) := by decide +kernel
theorem dX7_count_56 : decode cX7_count 56 = .ok (.aload_n 0, 1) := by decide +kernel
theorem dX7_count_57 : decode cX7_count 57 = .ok (.getfield 10, 3) := by decide +kernel
theorem dX7_count_60 : decode cX7_count 60 = .ok (.getfield 118, 3) := by decide +kernel
theorem dX7_count_63 : decode cX7_count 63 = .ok (.getfield 155, 3) := by decide +kernel
theorem dX7_count_66 : decode cX7_count 66 = .ok (.ireturn, 1) := by decide +kernel
theorem dX7_count_67 : decode cX7_count 67 = .ok (.aload_n 0, 1) := by decide +kernel
theorem dX7_count_68 : decode cX7_count 68 = .ok (.getfield 10, 3) := by decide +kernel
theorem dX7_count_71 : decode cX7_count 71 = .ok (.getfield 156, 3) := by decide +kernel
theorem dX7_count_74 : decode cX7_count 74 = .ok (.ireturn, 1) := by decide +kernel
theorem dX7_count_75 : decode cX7_count 75 = .ok (.aload_n 0, 1) := by decide +kernel
theorem dX7_count_76 : decode cX7_count 76 = .ok (.getfield 10, 3) := by decide +kernel
theorem dX7_count_79 : decode cX7_count 79 = .ok (.getfield 159, 3) := by decide +kernel
theorem dX7_count_82 : decode cX7_count 82 = .ok (.ireturn, 1) := by decide +kernel
theorem dX7_count_83 : decode cX7_count 83 = .ok (.aload_n 0, 1) := by decide +kernel
theorem dX7_count_84 : decode cX7_count 84 = .ok (.getfield 29, 3) := by decide +kernel
theorem dX7_count_87 : decode cX7_count 87 = .ok (.getfield 95, 3) := by decide +kernel
theorem dX7_count_90 : decode cX7_count 90 = .ok (.ireturn, 1) := by decide +kernel
theorem dX7_count_91 : decode cX7_count 91 = .ok (.aload_n 0, 1) := by decide +kernel
theorem dX7_count_92 : decode cX7_count 92 = .ok (.getfield 44, 3) := by decide +kernel
theorem dX7_count_95 : decode cX7_count 95 = .ok (.ireturn, 1) := by decide +kernel
theorem dX7_count_96 : decode cX7_count 96 = .ok (.aload_n 0, 1) := by decide +kernel
theorem dX7_count_97 : decode cX7_count 97 = .ok (.getfield 36, 3) := by decide +kernel
theorem dX7_count_100 : decode cX7_count 100 = .ok (.getfield 166, 3) := by decide +kernel
theorem dX7_count_103 : decode cX7_count 103 = .ok (.ireturn, 1) := by decide +kernel
theorem dX7_count_104 : decode cX7_count 104 = .ok (.aload_n 0, 1) := by decide +kernel
theorem dX7_count_105 : decode cX7_count 105 = .ok (.getfield 10, 3) := by decide +kernel
theorem dX7_count_108 : decode cX7_count 108 = .ok (.getfield 118, 3) := by decide +kernel
theorem dX7_count_111 : decode cX7_count 111 = .ok (.invokevirtual 344, 3) := by decide +kernel
theorem dX7_count_114 : decode cX7_count 114 = .ok (.ireturn, 1) := by decide +kernel
theorem dX7_count_115 : decode cX7_count 115 = .ok (.iload_n 1, 1) := by decide +kernel
theorem dX7_count_116 : decode cX7_count 116 = .ok (.bipush 11, 2) := by decide +kernel
theorem dX7_count_118 : decode cX7_count 118 = .ok (.if_icmp .lt 21, 3) := by decide +kernel
theorem dX7_count_121 : decode cX7_count 121 = .ok (.iload_n 1, 1) := by decide +kernel
theorem dX7_count_122 : decode cX7_count 122 = .ok (.bipush 16, 2) := by decide +kernel
theorem dX7_count_124 : decode cX7_count 124 = .ok (.if_icmp .gt 15, 3) := by decide +kernel
theorem dX7_count_127 : decode cX7_count 127 = .ok (.aload_n 0, 1) := by decide +kernel
theorem dX7_count_128 : decode cX7_count 128 = .ok (.getfield 48, 3) := by decide +kernel
theorem dX7_count_131 : decode cX7_count 131 = .ok (.iload_n 1, 1) := by decide +kernel
theorem dX7_count_132 : decode cX7_count 132 = .ok (.bipush 10, 2) := by decide +kernel
theorem dX7_count_134 : decode cX7_count 134 = .ok (.isub, 1) := by decide +kernel
theorem dX7_count_135 : decode cX7_count 135 = .ok (.iaload, 1) := by decide +kernel
theorem dX7_count_136 : decode cX7_count 136 = .ok (.goto 5, 3) := by decide +kernel
theorem dX7_count_139 : decode cX7_count 139 = .ok (.bipush (-9), 2) := by decide +kernel
theorem dX7_count_141 : decode cX7_count 141 = .ok (.ireturn, 1) := by decide +kernel
theorem dX7_refuse_0 : decode cX7_refuse 0 = .ok (.iload_n 1, 1) := by decide +kernel
theorem dX7_refuse_1 : decode cX7_refuse 1 = .ok (.ineg, 1) := by decide +kernel
theorem dX7_refuse_2 : decode cX7_refuse 2 = .ok (.istore_n 2, 1) := by decide +kernel
theorem dX7_refuse_3 : decode cX7_refuse 3 = .ok (.iload_n 2, 1) := by decide +kernel
theorem dX7_refuse_4 : decode cX7_refuse 4 = .ok (.ifCond .le 22, 3) := by decide +kernel
theorem dX7_refuse_7 : decode cX7_refuse 7 = .ok (.iload_n 2, 1) := by decide +kernel
theorem dX7_refuse_8 : decode cX7_refuse 8 = .ok (.aload_n 0, 1) := by decide +kernel
theorem dX7_refuse_9 : decode cX7_refuse 9 = .ok (.getfield 48, 3) := by decide +kernel
theorem dX7_refuse_12 : decode cX7_refuse 12 = .ok (.arraylength, 1) := by decide +kernel
theorem dX7_refuse_13 : decode cX7_refuse 13 = .ok (.if_icmp .ge 13, 3) := by decide +kernel
theorem dX7_refuse_16 : decode cX7_refuse 16 = .ok (.aload_n 0, 1) := by decide +kernel
theorem dX7_refuse_17 : decode cX7_refuse 17 = .ok (.getfield 48, 3) := by decide +kernel
theorem dX7_refuse_20 : decode cX7_refuse 20 = .ok (.iload_n 2, 1) := by decide +kernel
theorem dX7_refuse_21 : decode cX7_refuse 21 = .ok (.dup2, 1) := by decide +kernel
theorem dX7_refuse_22 : decode cX7_refuse 22 = .ok (.iaload, 1) := by decide +kernel
theorem dX7_refuse_23 : decode cX7_refuse 23 = .ok (.iconst 1, 1) := by decide +kernel
theorem dX7_refuse_24 : decode cX7_refuse 24 = .ok (.iadd, 1) := by decide +kernel
theorem dX7_refuse_25 : decode cX7_refuse 25 = .ok (.iastore, 1) := by decide +kernel
theorem dX7_refuse_26 : decode cX7_refuse 26 = .ok (.iload_n 1, 1) := by decide +kernel
theorem dX7_refuse_27 : decode cX7_refuse 27 = .ok (.ireturn, 1) := by decide +kernel
theorem dX7_refuseHigh_0 : decode cX7_refuseHigh 0 = .ok (.ldc 241, 2) := by decide +kernel
theorem dX7_refuseHigh_2 : decode cX7_refuseHigh 2 = .ok (.aload_n 0, 1) := by decide +kernel
theorem dX7_refuseHigh_3 : decode cX7_refuseHigh 3 = .ok (.iload_n 1, 1) := by decide +kernel
theorem dX7_refuseHigh_4 : decode cX7_refuseHigh 4 = .ok (.invokevirtual 91, 3) := by decide +kernel
theorem dX7_refuseHigh_7 : decode cX7_refuseHigh 7 = .ok (.isub, 1) := by decide +kernel
theorem dX7_refuseHigh_8 : decode cX7_refuseHigh 8 = .ok (.ireturn, 1) := by decide +kernel
theorem dX7_refuseLong_0 : decode cX7_refuseLong 0 = .ok (.ldc2_w 347, 3) := by decide +kernel
theorem dX7_refuseLong_3 : decode cX7_refuseLong 3 = .ok (.aload_n 0, 1) := by decide +kernel
theorem dX7_refuseLong_4 : decode cX7_refuseLong 4 = .ok (.iload_n 1, 1) := by decide +kernel
theorem dX7_refuseLong_5 : decode cX7_refuseLong 5 = .ok (.invokevirtual 91, 3) := by decide +kernel
theorem dX7_refuseLong_8 : decode cX7_refuseLong 8 = .ok (.i2l, 1) := by decide +kernel
theorem dX7_refuseLong_9 : decode cX7_refuseLong 9 = .ok (.lsub, 1) := by decide +kernel
theorem dX7_refuseLong_10 : decode cX7_refuseLong 10 = .ok (.lreturn, 1) := by decide +kernel
theorem dX7_outside_0 : decode cX7_outside 0 = .ok (.iload_n 0, 1) := by decide +kernel
theorem dX7_outside_1 : decode cX7_outside 1 = .ok (.iload_n 1, 1) := by decide +kernel
theorem dX7_outside_2 : decode cX7_outside 2 = .ok (.if_icmp .ge 6, 3) := by decide +kernel
theorem dX7_outside_5 : decode cX7_outside 5 = .ok (.bipush (-4), 2) := by decide +kernel
theorem dX7_outside_7 : decode cX7_outside 7 = .ok (.ireturn, 1) := by decide +kernel
theorem dX7_outside_8 : decode cX7_outside 8 = .ok (.iload_n 0, 1) := by decide +kernel
theorem dX7_outside_9 : decode cX7_outside 9 = .ok (.iload_n 2, 1) := by decide +kernel
theorem dX7_outside_10 : decode cX7_outside 10 = .ok (.if_icmp .le 8, 3) := by decide +kernel
theorem dX7_outside_13 : decode cX7_outside 13 = .ok (.bipush (-6), 2) := by decide +kernel
theorem dX7_outside_15 : decode cX7_outside 15 = .ok (.goto 4, 3) := by decide +kernel
theorem dX7_outside_18 : decode cX7_outside 18 = .ok (.iconst 0, 1) := by decide +kernel
theorem dX7_outside_19 : decode cX7_outside 19 = .ok (.ireturn, 1) := by decide +kernel
theorem dX7_isKind_0 : decode cX7_isKind 0 = .ok (.iload_n 0, 1) := by decide +kernel
theorem dX7_isKind_1 : decode cX7_isKind 1 = .ok (.ifCond .lt 13, 3) := by decide +kernel
theorem dX7_isKind_4 : decode cX7_isKind 4 = .ok (.iload_n 0, 1) := by decide +kernel
theorem dX7_isKind_5 : decode cX7_isKind 5 = .ok (.bipush 6, 2) := by decide +kernel
theorem dX7_isKind_7 : decode cX7_isKind 7 = .ok (.if_icmp .ge 7, 3) := by decide +kernel
theorem dX7_isKind_10 : decode cX7_isKind 10 = .ok (.iconst 1, 1) := by decide +kernel
theorem dX7_isKind_11 : decode cX7_isKind 11 = .ok (.goto 4, 3) := by decide +kernel
theorem dX7_isKind_14 : decode cX7_isKind 14 = .ok (.iconst 0, 1) := by decide +kernel
theorem dX7_isKind_15 : decode cX7_isKind 15 = .ok (.ireturn, 1) := by decide +kernel
theorem dX7_bit_0 : decode cX7_bit 0 = .ok (.iload_n 0, 1) := by decide +kernel
theorem dX7_bit_1 : decode cX7_bit 1 = .ok (.ifCond .eq 7, 3) := by decide +kernel
theorem dX7_bit_4 : decode cX7_bit 4 = .ok (.iconst 1, 1) := by decide +kernel
theorem dX7_bit_5 : decode cX7_bit 5 = .ok (.goto 4, 3) := by decide +kernel
theorem dX7_bit_8 : decode cX7_bit 8 = .ok (.iconst 0, 1) := by decide +kernel
theorem dX7_bit_9 : decode cX7_bit 9 = .ok (.ireturn, 1) := by decide +kernel
theorem dX7_tellLetters_0 : decode cX7_tellLetters 0 = .ok (.aload_n 0, 1) := by decide +kernel
theorem dX7_tellLetters_1 : decode cX7_tellLetters 1 = .ok (.getfield 29, 3) := by decide +kernel
theorem dX7_tellLetters_4 : decode cX7_tellLetters 4 = .ok (.invokevirtual 349, 3) := by decide +kernel
theorem dX7_tellLetters_7 : decode cX7_tellLetters 7 = .ok (.istore_n 1, 1) := by decide +kernel
theorem dX7_tellLetters_8 : decode cX7_tellLetters 8 = .ok (.iload_n 1, 1) := by decide +kernel
theorem dX7_tellLetters_9 : decode cX7_tellLetters 9 = .ok (.ifCond .lt 9, 3) := by decide +kernel
theorem dX7_tellLetters_12 : decode cX7_tellLetters 12 = .ok (.sipush (-1000), 3) := by decide +kernel
theorem dX7_tellLetters_15 : decode cX7_tellLetters 15 = .ok (.iload_n 1, 1) := by decide +kernel
theorem dX7_tellLetters_16 : decode cX7_tellLetters 16 = .ok (.isub, 1) := by decide +kernel
theorem dX7_tellLetters_17 : decode cX7_tellLetters 17 = .ok (.ireturn, 1) := by decide +kernel
theorem dX7_tellLetters_18 : decode cX7_tellLetters 18 = .ok (.aload_n 0, 1) := by decide +kernel
theorem dX7_tellLetters_19 : decode cX7_tellLetters 19 = .ok (.getfield 16, 3) := by decide +kernel
theorem dX7_tellLetters_22 : decode cX7_tellLetters 22 = .ok (.aload_n 0, 1) := by decide +kernel
theorem dX7_tellLetters_23 : decode cX7_tellLetters 23 = .ok (.getfield 10, 3) := by decide +kernel
theorem dX7_tellLetters_26 : decode cX7_tellLetters 26 = .ok (.invokevirtual 341, 3) := by decide +kernel
theorem dX7_tellLetters_29 : decode cX7_tellLetters 29 = .ok (.iconst 0, 1) := by decide +kernel
theorem dX7_tellLetters_30 : decode cX7_tellLetters 30 = .ok (.istore_n 2, 1) := by decide +kernel
theorem dX7_tellLetters_31 : decode cX7_tellLetters 31 = .ok (.iconst 0, 1) := by decide +kernel
theorem dX7_tellLetters_32 : decode cX7_tellLetters 32 = .ok (.istore_n 3, 1) := by decide +kernel
theorem dX7_tellLetters_33 : decode cX7_tellLetters 33 = .ok (.iload_n 3, 1) := by decide +kernel
theorem dX7_tellLetters_34 : decode cX7_tellLetters 34 = .ok (.aload_n 0, 1) := by decide +kernel
theorem dX7_tellLetters_35 : decode cX7_tellLetters 35 = .ok (.getfield 29, 3) := by decide +kernel
theorem dX7_tellLetters_38 : decode cX7_tellLetters 38 = .ok (.getfield 95, 3) := by decide +kernel
theorem dX7_tellLetters_41 : decode cX7_tellLetters 41 = .ok (.if_icmp .ge 44, 3) := by decide +kernel
theorem dX7_tellLetters_44 : decode cX7_tellLetters 44 = .ok (.aload_n 0, 1) := by decide +kernel
theorem dX7_tellLetters_45 : decode cX7_tellLetters 45 = .ok (.getfield 29, 3) := by decide +kernel
theorem dX7_tellLetters_48 : decode cX7_tellLetters 48 = .ok (.iload_n 3, 1) := by decide +kernel
theorem dX7_tellLetters_49 : decode cX7_tellLetters 49 = .ok (.invokevirtual 352, 3) := by decide +kernel
theorem dX7_tellLetters_52 : decode cX7_tellLetters 52 = .ok (.ifCond .eq 27, 3) := by decide +kernel
theorem dX7_tellLetters_55 : decode cX7_tellLetters 55 = .ok (.aload_n 0, 1) := by decide +kernel
theorem dX7_tellLetters_56 : decode cX7_tellLetters 56 = .ok (.getfield 29, 3) := by decide +kernel
theorem dX7_tellLetters_59 : decode cX7_tellLetters 59 = .ok (.iload_n 3, 1) := by decide +kernel
theorem dX7_tellLetters_60 : decode cX7_tellLetters 60 = .ok (.aload_n 0, 1) := by decide +kernel
theorem dX7_tellLetters_61 : decode cX7_tellLetters 61 = .ok (.getfield 16, 3) := by decide +kernel
theorem dX7_tellLetters_64 : decode cX7_tellLetters 64 = .ok (.invokevirtual 355, 3) := by decide +kernel
theorem dX7_tellLetters_67 : decode cX7_tellLetters 67 = .ok (.ifCond .ne 9, 3) := by decide +kernel
theorem dX7_tellLetters_70 : decode cX7_tellLetters 70 = .ok (.sipush (-2000), 3) := by decide +kernel
theorem dX7_tellLetters_73 : decode cX7_tellLetters 73 = .ok (.iload_n 3, 1) := by decide +kernel
theorem dX7_tellLetters_74 : decode cX7_tellLetters 74 = .ok (.isub, 1) := by decide +kernel
theorem dX7_tellLetters_75 : decode cX7_tellLetters 75 = .ok (.ireturn, 1) := by decide +kernel
theorem dX7_tellLetters_76 : decode cX7_tellLetters 76 = .ok (.iinc 2 1, 3) := by decide +kernel
theorem dX7_tellLetters_79 : decode cX7_tellLetters 79 = .ok (.iinc 3 1, 3) := by decide +kernel
theorem dX7_tellLetters_82 : decode cX7_tellLetters 82 = .ok (.goto (-49), 3) := by decide +kernel
theorem dX7_tellLetters_85 : decode cX7_tellLetters 85 = .ok (.aload_n 0, 1) := by decide +kernel
theorem dX7_tellLetters_86 : decode cX7_tellLetters 86 = .ok (.getfield 10, 3) := by decide +kernel
theorem dX7_tellLetters_89 : decode cX7_tellLetters 89 = .ok (.aload_n 0, 1) := by decide +kernel
theorem dX7_tellLetters_90 : decode cX7_tellLetters 90 = .ok (.getfield 16, 3) := by decide +kernel
theorem dX7_tellLetters_93 : decode cX7_tellLetters 93 = .ok (.invokevirtual 341, 3) := by decide +kernel
theorem dX7_tellLetters_96 : decode cX7_tellLetters 96 = .ok (.aload_n 0, 1) := by decide +kernel
theorem dX7_tellLetters_97 : decode cX7_tellLetters 97 = .ok (.getfield 36, 3) := by decide +kernel
theorem dX7_tellLetters_100 : decode cX7_tellLetters 100 = .ok (.iconst 0, 1) := by decide +kernel
theorem dX7_tellLetters_101 : decode cX7_tellLetters 101 = .ok (.putfield 166, 3) := by decide +kernel
theorem dX7_tellLetters_104 : decode cX7_tellLetters 104 = .ok (.iload_n 2, 1) := by decide +kernel
theorem dX7_tellLetters_105 : decode cX7_tellLetters 105 = .ok (.ireturn, 1) := by decide +kernel
theorem dX7_goDownTo_0 : decode cX7_goDownTo 0 = .ok (.aload_n 0, 1) := by decide +kernel
theorem dX7_goDownTo_1 : decode cX7_goDownTo 1 = .ok (.getfield 54, 3) := by decide +kernel
theorem dX7_goDownTo_4 : decode cX7_goDownTo 4 = .ok (.aload_n 0, 1) := by decide +kernel
theorem dX7_goDownTo_5 : decode cX7_goDownTo 5 = .ok (.getfield 10, 3) := by decide +kernel
theorem dX7_goDownTo_8 : decode cX7_goDownTo 8 = .ok (.getfield 118, 3) := by decide +kernel
theorem dX7_goDownTo_11 : decode cX7_goDownTo 11 = .ok (.invokevirtual 236, 3) := by decide +kernel
theorem dX7_goDownTo_14 : decode cX7_goDownTo 14 = .ok (.aload_n 0, 1) := by decide +kernel
theorem dX7_goDownTo_15 : decode cX7_goDownTo 15 = .ok (.getfield 10, 3) := by decide +kernel
theorem dX7_goDownTo_18 : decode cX7_goDownTo 18 = .ok (.aload_n 0, 1) := by decide +kernel
theorem dX7_goDownTo_19 : decode cX7_goDownTo 19 = .ok (.getfield 54, 3) := by decide +kernel
theorem dX7_goDownTo_22 : decode cX7_goDownTo 22 = .ok (.iload_n 1, 1) := by decide +kernel
theorem dX7_goDownTo_23 : decode cX7_goDownTo 23 = .ok (.invokevirtual 269, 3) := by decide +kernel
theorem dX7_goDownTo_26 : decode cX7_goDownTo 26 = .ok (.return_, 1) := by decide +kernel
theorem dX7_isForBehindAll_0 : decode cX7_isForBehindAll 0 = .ok (.aload_n 0, 1) := by decide +kernel
theorem dX7_isForBehindAll_1 : decode cX7_isForBehindAll 1 = .ok (.getfield 54, 3) := by decide +kernel
theorem dX7_isForBehindAll_4 : decode cX7_isForBehindAll 4 = .ok (.aload_n 0, 1) := by decide +kernel
theorem dX7_isForBehindAll_5 : decode cX7_isForBehindAll 5 = .ok (.getfield 10, 3) := by decide +kernel
theorem dX7_isForBehindAll_8 : decode cX7_isForBehindAll 8 = .ok (.getfield 118, 3) := by decide +kernel
theorem dX7_isForBehindAll_11 : decode cX7_isForBehindAll 11 = .ok (.invokevirtual 236, 3) := by decide +kernel
theorem dX7_isForBehindAll_14 : decode cX7_isForBehindAll 14 = .ok (.aload_n 0, 1) := by decide +kernel
theorem dX7_isForBehindAll_15 : decode cX7_isForBehindAll 15 = .ok (.getfield 10, 3) := by decide +kernel
theorem dX7_isForBehindAll_18 : decode cX7_isForBehindAll 18 = .ok (.aload_n 0, 1) := by decide +kernel
theorem dX7_isForBehindAll_19 : decode cX7_isForBehindAll 19 = .ok (.getfield 54, 3) := by decide +kernel
theorem dX7_isForBehindAll_22 : decode cX7_isForBehindAll 22 = .ok (.aload_n 0, 1) := by decide +kernel
theorem dX7_isForBehindAll_23 : decode cX7_isForBehindAll 23 = .ok (.getfield 10, 3) := by decide +kernel
theorem dX7_isForBehindAll_26 : decode cX7_isForBehindAll 26 = .ok (.getfield 152, 3) := by decide +kernel
theorem dX7_isForBehindAll_29 : decode cX7_isForBehindAll 29 = .ok (.invokevirtual 269, 3) := by decide +kernel
theorem dX7_isForBehindAll_32 : decode cX7_isForBehindAll 32 = .ok (.aload_n 0, 1) := by decide +kernel
theorem dX7_isForBehindAll_33 : decode cX7_isForBehindAll 33 = .ok (.getfield 54, 3) := by decide +kernel
theorem dX7_isForBehindAll_36 : decode cX7_isForBehindAll 36 = .ok (.invokevirtual 175, 3) := by decide +kernel
theorem dX7_isForBehindAll_39 : decode cX7_isForBehindAll 39 = .ok (.ireturn, 1) := by decide +kernel
theorem dX7_goDownAsleep_0 : decode cX7_goDownAsleep 0 = .ok (.aload_n 0, 1) := by decide +kernel
theorem dX7_goDownAsleep_1 : decode cX7_goDownAsleep 1 = .ok (.getfield 54, 3) := by decide +kernel
theorem dX7_goDownAsleep_4 : decode cX7_goDownAsleep 4 = .ok (.aload_n 0, 1) := by decide +kernel
theorem dX7_goDownAsleep_5 : decode cX7_goDownAsleep 5 = .ok (.getfield 10, 3) := by decide +kernel
theorem dX7_goDownAsleep_8 : decode cX7_goDownAsleep 8 = .ok (.getfield 118, 3) := by decide +kernel
theorem dX7_goDownAsleep_11 : decode cX7_goDownAsleep 11 = .ok (.invokevirtual 236, 3) := by decide +kernel
theorem dX7_goDownAsleep_14 : decode cX7_goDownAsleep 14 = .ok (.iconst 0, 1) := by decide +kernel
theorem dX7_goDownAsleep_15 : decode cX7_goDownAsleep 15 = .ok (.istore_n 2, 1) := by decide +kernel
theorem dX7_goDownAsleep_16 : decode cX7_goDownAsleep 16 = .ok (.iload_n 2, 1) := by decide +kernel
theorem dX7_goDownAsleep_17 : decode cX7_goDownAsleep 17 = .ok (.aload_n 0, 1) := by decide +kernel
theorem dX7_goDownAsleep_18 : decode cX7_goDownAsleep 18 = .ok (.getfield 10, 3) := by decide +kernel
theorem dX7_goDownAsleep_21 : decode cX7_goDownAsleep 21 = .ok (.getfield 152, 3) := by decide +kernel
theorem dX7_goDownAsleep_24 : decode cX7_goDownAsleep 24 = .ok (.if_icmp .ge 29, 3) := by decide +kernel
theorem dX7_goDownAsleep_27 : decode cX7_goDownAsleep 27 = .ok (.iload_n 1, 1) := by decide +kernel
theorem dX7_goDownAsleep_28 : decode cX7_goDownAsleep 28 = .ok (.iload_n 2, 1) := by decide +kernel
theorem dX7_goDownAsleep_29 : decode cX7_goDownAsleep 29 = .ok (.ishr, 1) := by decide +kernel
theorem dX7_goDownAsleep_30 : decode cX7_goDownAsleep 30 = .ok (.iconst 1, 1) := by decide +kernel
theorem dX7_goDownAsleep_31 : decode cX7_goDownAsleep 31 = .ok (.iand, 1) := by decide +kernel
theorem dX7_goDownAsleep_32 : decode cX7_goDownAsleep 32 = .ok (.ifCond .ne 15, 3) := by decide +kernel
theorem dX7_goDownAsleep_35 : decode cX7_goDownAsleep 35 = .ok (.aload_n 0, 1) := by decide +kernel
theorem dX7_goDownAsleep_36 : decode cX7_goDownAsleep 36 = .ok (.getfield 10, 3) := by decide +kernel
theorem dX7_goDownAsleep_39 : decode cX7_goDownAsleep 39 = .ok (.iload_n 2, 1) := by decide +kernel
theorem dX7_goDownAsleep_40 : decode cX7_goDownAsleep 40 = .ok (.aload_n 0, 1) := by decide +kernel
theorem dX7_goDownAsleep_41 : decode cX7_goDownAsleep 41 = .ok (.getfield 54, 3) := by decide +kernel
theorem dX7_goDownAsleep_44 : decode cX7_goDownAsleep 44 = .ok (.invokevirtual 186, 3) := by decide +kernel
theorem dX7_goDownAsleep_47 : decode cX7_goDownAsleep 47 = .ok (.iinc 2 1, 3) := by decide +kernel
theorem dX7_goDownAsleep_50 : decode cX7_goDownAsleep 50 = .ok (.goto (-34), 3) := by decide +kernel
theorem dX7_goDownAsleep_53 : decode cX7_goDownAsleep 53 = .ok (.return_, 1) := by decide +kernel
theorem dX7_goDownSwapped_0 : decode cX7_goDownSwapped 0 = .ok (.aload_n 0, 1) := by decide +kernel
theorem dX7_goDownSwapped_1 : decode cX7_goDownSwapped 1 = .ok (.getfield 54, 3) := by decide +kernel
theorem dX7_goDownSwapped_4 : decode cX7_goDownSwapped 4 = .ok (.aload_n 0, 1) := by decide +kernel
theorem dX7_goDownSwapped_5 : decode cX7_goDownSwapped 5 = .ok (.getfield 10, 3) := by decide +kernel
theorem dX7_goDownSwapped_8 : decode cX7_goDownSwapped 8 = .ok (.getfield 118, 3) := by decide +kernel
theorem dX7_goDownSwapped_11 : decode cX7_goDownSwapped 11 = .ok (.invokevirtual 236, 3) := by decide +kernel
theorem dX7_goDownSwapped_14 : decode cX7_goDownSwapped 14 = .ok (.iconst 0, 1) := by decide +kernel
theorem dX7_goDownSwapped_15 : decode cX7_goDownSwapped 15 = .ok (.istore_n 3, 1) := by decide +kernel
theorem dX7_goDownSwapped_16 : decode cX7_goDownSwapped 16 = .ok (.iload_n 3, 1) := by decide +kernel
theorem dX7_goDownSwapped_17 : decode cX7_goDownSwapped 17 = .ok (.aload_n 0, 1) := by decide +kernel
theorem dX7_goDownSwapped_18 : decode cX7_goDownSwapped 18 = .ok (.getfield 10, 3) := by decide +kernel
theorem dX7_goDownSwapped_21 : decode cX7_goDownSwapped 21 = .ok (.getfield 152, 3) := by decide +kernel
theorem dX7_goDownSwapped_24 : decode cX7_goDownSwapped 24 = .ok (.if_icmp .ge 50, 3) := by decide +kernel
theorem dX7_goDownSwapped_27 : decode cX7_goDownSwapped 27 = .ok (.iload_n 3, 1) := by decide +kernel
theorem dX7_goDownSwapped_28 : decode cX7_goDownSwapped 28 = .ok (.iload_n 1, 1) := by decide +kernel
theorem dX7_goDownSwapped_29 : decode cX7_goDownSwapped 29 = .ok (.if_icmp .ne 18, 3) := by decide +kernel
theorem dX7_goDownSwapped_32 : decode cX7_goDownSwapped 32 = .ok (.aload_n 0, 1) := by decide +kernel
theorem dX7_goDownSwapped_33 : decode cX7_goDownSwapped 33 = .ok (.getfield 10, 3) := by decide +kernel
theorem dX7_goDownSwapped_36 : decode cX7_goDownSwapped 36 = .ok (.iload_n 2, 1) := by decide +kernel
theorem dX7_goDownSwapped_37 : decode cX7_goDownSwapped 37 = .ok (.aload_n 0, 1) := by decide +kernel
theorem dX7_goDownSwapped_38 : decode cX7_goDownSwapped 38 = .ok (.getfield 54, 3) := by decide +kernel
theorem dX7_goDownSwapped_41 : decode cX7_goDownSwapped 41 = .ok (.invokevirtual 186, 3) := by decide +kernel
theorem dX7_goDownSwapped_44 : decode cX7_goDownSwapped 44 = .ok (.goto 24, 3) := by decide +kernel
theorem dX7_goDownSwapped_47 : decode cX7_goDownSwapped 47 = .ok (.aload_n 0, 1) := by decide +kernel
theorem dX7_goDownSwapped_48 : decode cX7_goDownSwapped 48 = .ok (.getfield 10, 3) := by decide +kernel
theorem dX7_goDownSwapped_51 : decode cX7_goDownSwapped 51 = .ok (.iload_n 3, 1) := by decide +kernel
theorem dX7_goDownSwapped_52 : decode cX7_goDownSwapped 52 = .ok (.iload_n 2, 1) := by decide +kernel
theorem dX7_goDownSwapped_53 : decode cX7_goDownSwapped 53 = .ok (.if_icmp .ne 7, 3) := by decide +kernel
theorem dX7_goDownSwapped_56 : decode cX7_goDownSwapped 56 = .ok (.iload_n 1, 1) := by decide +kernel
theorem dX7_goDownSwapped_57 : decode cX7_goDownSwapped 57 = .ok (.goto 4, 3) := by decide +kernel
theorem dX7_goDownSwapped_60 : decode cX7_goDownSwapped 60 = .ok (.iload_n 3, 1) := by decide +kernel
theorem dX7_goDownSwapped_61 : decode cX7_goDownSwapped 61 = .ok (.aload_n 0, 1) := by decide +kernel
theorem dX7_goDownSwapped_62 : decode cX7_goDownSwapped 62 = .ok (.getfield 54, 3) := by decide +kernel
theorem dX7_goDownSwapped_65 : decode cX7_goDownSwapped 65 = .ok (.invokevirtual 186, 3) := by decide +kernel
theorem dX7_goDownSwapped_68 : decode cX7_goDownSwapped 68 = .ok (.iinc 3 1, 3) := by decide +kernel
theorem dX7_goDownSwapped_71 : decode cX7_goDownSwapped 71 = .ok (.goto (-55), 3) := by decide +kernel
theorem dX7_goDownSwapped_74 : decode cX7_goDownSwapped 74 = .ok (.return_, 1) := by decide +kernel
theorem dX7_goDownWith_0 : decode cX7_goDownWith 0 = .ok (.aload_n 0, 1) := by decide +kernel
theorem dX7_goDownWith_1 : decode cX7_goDownWith 1 = .ok (.getfield 54, 3) := by decide +kernel
theorem dX7_goDownWith_4 : decode cX7_goDownWith 4 = .ok (.aload_n 0, 1) := by decide +kernel
theorem dX7_goDownWith_5 : decode cX7_goDownWith 5 = .ok (.getfield 10, 3) := by decide +kernel
theorem dX7_goDownWith_8 : decode cX7_goDownWith 8 = .ok (.getfield 118, 3) := by decide +kernel
theorem dX7_goDownWith_11 : decode cX7_goDownWith 11 = .ok (.invokevirtual 236, 3) := by decide +kernel
theorem dX7_goDownWith_14 : decode cX7_goDownWith 14 = .ok (.iconst 0, 1) := by decide +kernel
theorem dX7_goDownWith_15 : decode cX7_goDownWith 15 = .ok (.istore_n 3, 1) := by decide +kernel
theorem dX7_goDownWith_16 : decode cX7_goDownWith 16 = .ok (.iload_n 3, 1) := by decide +kernel
theorem dX7_goDownWith_17 : decode cX7_goDownWith 17 = .ok (.aload_n 0, 1) := by decide +kernel
theorem dX7_goDownWith_18 : decode cX7_goDownWith 18 = .ok (.getfield 10, 3) := by decide +kernel
theorem dX7_goDownWith_21 : decode cX7_goDownWith 21 = .ok (.getfield 152, 3) := by decide +kernel
theorem dX7_goDownWith_24 : decode cX7_goDownWith 24 = .ok (.if_icmp .ge 50, 3) := by decide +kernel
theorem dX7_goDownWith_27 : decode cX7_goDownWith 27 = .ok (.iload_n 3, 1) := by decide +kernel
theorem dX7_goDownWith_28 : decode cX7_goDownWith 28 = .ok (.iload_n 1, 1) := by decide +kernel
theorem dX7_goDownWith_29 : decode cX7_goDownWith 29 = .ok (.if_icmp .ne 27, 3) := by decide +kernel
theorem dX7_goDownWith_32 : decode cX7_goDownWith 32 = .ok (.aload_n 0, 1) := by decide +kernel
theorem dX7_goDownWith_33 : decode cX7_goDownWith 33 = .ok (.getfield 10, 3) := by decide +kernel
theorem dX7_goDownWith_36 : decode cX7_goDownWith 36 = .ok (.iload_n 2, 1) := by decide +kernel
theorem dX7_goDownWith_37 : decode cX7_goDownWith 37 = .ok (.aload_n 0, 1) := by decide +kernel
theorem dX7_goDownWith_38 : decode cX7_goDownWith 38 = .ok (.getfield 10, 3) := by decide +kernel
theorem dX7_goDownWith_41 : decode cX7_goDownWith 41 = .ok (.getfield 112, 3) := by decide +kernel
theorem dX7_goDownWith_44 : decode cX7_goDownWith 44 = .ok (.iload_n 3, 1) := by decide +kernel
theorem dX7_goDownWith_45 : decode cX7_goDownWith 45 = .ok (.iaload, 1) := by decide +kernel
theorem dX7_goDownWith_46 : decode cX7_goDownWith 46 = .ok (.aload_n 0, 1) := by decide +kernel
theorem dX7_goDownWith_47 : decode cX7_goDownWith 47 = .ok (.getfield 54, 3) := by decide +kernel
theorem dX7_goDownWith_50 : decode cX7_goDownWith 50 = .ok (.invokevirtual 331, 3) := by decide +kernel
theorem dX7_goDownWith_53 : decode cX7_goDownWith 53 = .ok (.goto 15, 3) := by decide +kernel
theorem dX7_goDownWith_56 : decode cX7_goDownWith 56 = .ok (.aload_n 0, 1) := by decide +kernel
theorem dX7_goDownWith_57 : decode cX7_goDownWith 57 = .ok (.getfield 10, 3) := by decide +kernel
theorem dX7_goDownWith_60 : decode cX7_goDownWith 60 = .ok (.iload_n 3, 1) := by decide +kernel
theorem dX7_goDownWith_61 : decode cX7_goDownWith 61 = .ok (.aload_n 0, 1) := by decide +kernel
theorem dX7_goDownWith_62 : decode cX7_goDownWith 62 = .ok (.getfield 54, 3) := by decide +kernel
theorem dX7_goDownWith_65 : decode cX7_goDownWith 65 = .ok (.invokevirtual 186, 3) := by decide +kernel
theorem dX7_goDownWith_68 : decode cX7_goDownWith 68 = .ok (.iinc 3 1, 3) := by decide +kernel
theorem dX7_goDownWith_71 : decode cX7_goDownWith 71 = .ok (.goto (-55), 3) := by decide +kernel
theorem dX7_goDownWith_74 : decode cX7_goDownWith 74 = .ok (.return_, 1) := by decide +kernel
theorem dX7_changesAny_0 : decode cX7_changesAny 0 = .ok (.aload_n 0, 1) := by decide +kernel
theorem dX7_changesAny_1 : decode cX7_changesAny 1 = .ok (.getfield 61, 3) := by decide +kernel
theorem dX7_changesAny_4 : decode cX7_changesAny 4 = .ok (.aload_n 0, 1) := by decide +kernel
theorem dX7_changesAny_5 : decode cX7_changesAny 5 = .ok (.getfield 54, 3) := by decide +kernel
theorem dX7_changesAny_8 : decode cX7_changesAny 8 = .ok (.invokevirtual 236, 3) := by decide +kernel
theorem dX7_changesAny_11 : decode cX7_changesAny 11 = .ok (.aload_n 0, 1) := by decide +kernel
theorem dX7_changesAny_12 : decode cX7_changesAny 12 = .ok (.getfield 10, 3) := by decide +kernel
theorem dX7_changesAny_15 : decode cX7_changesAny 15 = .ok (.iload_n 1, 1) := by decide +kernel
theorem dX7_changesAny_16 : decode cX7_changesAny 16 = .ok (.aload_n 0, 1) := by decide +kernel
theorem dX7_changesAny_17 : decode cX7_changesAny 17 = .ok (.getfield 54, 3) := by decide +kernel
theorem dX7_changesAny_20 : decode cX7_changesAny 20 = .ok (.invokevirtual 186, 3) := by decide +kernel
theorem dX7_changesAny_23 : decode cX7_changesAny 23 = .ok (.aload_n 0, 1) := by decide +kernel
theorem dX7_changesAny_24 : decode cX7_changesAny 24 = .ok (.getfield 54, 3) := by decide +kernel
theorem dX7_changesAny_27 : decode cX7_changesAny 27 = .ok (.aload_n 0, 1) := by decide +kernel
theorem dX7_changesAny_28 : decode cX7_changesAny 28 = .ok (.getfield 61, 3) := by decide +kernel
theorem dX7_changesAny_31 : decode cX7_changesAny 31 = .ok (.invokevirtual 265, 3) := by decide +kernel
theorem dX7_changesAny_34 : decode cX7_changesAny 34 = .ok (.ifCond .ne 7, 3) := by decide +kernel
theorem dX7_changesAny_37 : decode cX7_changesAny 37 = .ok (.iconst 1, 1) := by decide +kernel
theorem dX7_changesAny_38 : decode cX7_changesAny 38 = .ok (.goto 4, 3) := by decide +kernel
theorem dX7_changesAny_41 : decode cX7_changesAny 41 = .ok (.iconst 0, 1) := by decide +kernel
theorem dX7_changesAny_42 : decode cX7_changesAny 42 = .ok (.ireturn, 1) := by decide +kernel
theorem dX7_fastCourts_0 : decode cX7_fastCourts 0 = .ok (.aload_n 0, 1) := by decide +kernel
theorem dX7_fastCourts_1 : decode cX7_fastCourts 1 = .ok (.getfield 54, 3) := by decide +kernel
theorem dX7_fastCourts_4 : decode cX7_fastCourts 4 = .ok (.invokevirtual 175, 3) := by decide +kernel
theorem dX7_fastCourts_7 : decode cX7_fastCourts 7 = .ok (.istore_n 1, 1) := by decide +kernel
theorem dX7_fastCourts_8 : decode cX7_fastCourts 8 = .ok (.iconst 0, 1) := by decide +kernel
theorem dX7_fastCourts_9 : decode cX7_fastCourts 9 = .ok (.istore_n 2, 1) := by decide +kernel
theorem dX7_fastCourts_10 : decode cX7_fastCourts 10 = .ok (.iload_n 2, 1) := by decide +kernel
theorem dX7_fastCourts_11 : decode cX7_fastCourts 11 = .ok (.aload_n 0, 1) := by decide +kernel
theorem dX7_fastCourts_12 : decode cX7_fastCourts 12 = .ok (.getfield 10, 3) := by decide +kernel
theorem dX7_fastCourts_15 : decode cX7_fastCourts 15 = .ok (.getfield 152, 3) := by decide +kernel
theorem dX7_fastCourts_18 : decode cX7_fastCourts 18 = .ok (.if_icmp .ge 34, 3) := by decide +kernel
theorem dX7_fastCourts_21 : decode cX7_fastCourts 21 = .ok (.aload_n 0, 1) := by decide +kernel
theorem dX7_fastCourts_22 : decode cX7_fastCourts 22 = .ok (.getfield 10, 3) := by decide +kernel
theorem dX7_fastCourts_25 : decode cX7_fastCourts 25 = .ok (.iload_n 2, 1) := by decide +kernel
theorem dX7_fastCourts_26 : decode cX7_fastCourts 26 = .ok (.aload_n 0, 1) := by decide +kernel
theorem dX7_fastCourts_27 : decode cX7_fastCourts 27 = .ok (.getfield 54, 3) := by decide +kernel
theorem dX7_fastCourts_30 : decode cX7_fastCourts 30 = .ok (.invokevirtual 186, 3) := by decide +kernel
theorem dX7_fastCourts_33 : decode cX7_fastCourts 33 = .ok (.aload_n 0, 1) := by decide +kernel
theorem dX7_fastCourts_34 : decode cX7_fastCourts 34 = .ok (.getfield 54, 3) := by decide +kernel
theorem dX7_fastCourts_37 : decode cX7_fastCourts 37 = .ok (.invokevirtual 175, 3) := by decide +kernel
theorem dX7_fastCourts_40 : decode cX7_fastCourts 40 = .ok (.iload_n 1, 1) := by decide +kernel
theorem dX7_fastCourts_41 : decode cX7_fastCourts 41 = .ok (.if_icmp .eq 5, 3) := by decide +kernel
theorem dX7_fastCourts_44 : decode cX7_fastCourts 44 = .ok (.iload_n 2, 1) := by decide +kernel
theorem dX7_fastCourts_45 : decode cX7_fastCourts 45 = .ok (.ireturn, 1) := by decide +kernel
theorem dX7_fastCourts_46 : decode cX7_fastCourts 46 = .ok (.iinc 2 1, 3) := by decide +kernel
theorem dX7_fastCourts_49 : decode cX7_fastCourts 49 = .ok (.goto (-39), 3) := by decide +kernel
theorem dX7_fastCourts_52 : decode cX7_fastCourts 52 = .ok (.aload_n 0, 1) := by decide +kernel
theorem dX7_fastCourts_53 : decode cX7_fastCourts 53 = .ok (.getfield 10, 3) := by decide +kernel
theorem dX7_fastCourts_56 : decode cX7_fastCourts 56 = .ok (.getfield 152, 3) := by decide +kernel
theorem dX7_fastCourts_59 : decode cX7_fastCourts 59 = .ok (.ireturn, 1) := by decide +kernel
theorem dX7_fewestPressed_0 : decode cX7_fewestPressed 0 = .ok (.bipush (-9), 2) := by decide +kernel
theorem dX7_fewestPressed_2 : decode cX7_fewestPressed 2 = .ok (.istore_n 1, 1) := by decide +kernel
theorem dX7_fewestPressed_3 : decode cX7_fewestPressed 3 = .ok (.iconst 0, 1) := by decide +kernel
theorem dX7_fewestPressed_4 : decode cX7_fewestPressed 4 = .ok (.istore_n 2, 1) := by decide +kernel
theorem dX7_fewestPressed_5 : decode cX7_fewestPressed 5 = .ok (.iload_n 2, 1) := by decide +kernel
theorem dX7_fewestPressed_6 : decode cX7_fewestPressed 6 = .ok (.iconst 1, 1) := by decide +kernel
theorem dX7_fewestPressed_7 : decode cX7_fewestPressed 7 = .ok (.aload_n 0, 1) := by decide +kernel
theorem dX7_fewestPressed_8 : decode cX7_fewestPressed 8 = .ok (.getfield 10, 3) := by decide +kernel
theorem dX7_fewestPressed_11 : decode cX7_fewestPressed 11 = .ok (.getfield 118, 3) := by decide +kernel
theorem dX7_fewestPressed_14 : decode cX7_fewestPressed 14 = .ok (.getfield 155, 3) := by decide +kernel
theorem dX7_fewestPressed_17 : decode cX7_fewestPressed 17 = .ok (.ishl, 1) := by decide +kernel
theorem dX7_fewestPressed_18 : decode cX7_fewestPressed 18 = .ok (.if_icmp .ge 114, 3) := by decide +kernel
theorem dX7_fewestPressed_21 : decode cX7_fewestPressed 21 = .ok (.iload_n 1, 1) := by decide +kernel
theorem dX7_fewestPressed_22 : decode cX7_fewestPressed 22 = .ok (.bipush (-9), 2) := by decide +kernel
theorem dX7_fewestPressed_24 : decode cX7_fewestPressed 24 = .ok (.if_icmp .eq 17, 3) := by decide +kernel
theorem dX7_fewestPressed_27 : decode cX7_fewestPressed 27 = .ok (.iload_n 2, 1) := by decide +kernel
theorem dX7_fewestPressed_28 : decode cX7_fewestPressed 28 = .ok (.invokestatic 231, 3) := by decide +kernel
theorem dX7_fewestPressed_31 : decode cX7_fewestPressed 31 = .ok (.iload_n 1, 1) := by decide +kernel
theorem dX7_fewestPressed_32 : decode cX7_fewestPressed 32 = .ok (.invokestatic 231, 3) := by decide +kernel
theorem dX7_fewestPressed_35 : decode cX7_fewestPressed 35 = .ok (.if_icmp .lt 6, 3) := by decide +kernel
theorem dX7_fewestPressed_38 : decode cX7_fewestPressed 38 = .ok (.goto 88, 3) := by decide +kernel
theorem dX7_fewestPressed_41 : decode cX7_fewestPressed 41 = .ok (.aload_n 0, 1) := by decide +kernel
theorem dX7_fewestPressed_42 : decode cX7_fewestPressed 42 = .ok (.getfield 54, 3) := by decide +kernel
theorem dX7_fewestPressed_45 : decode cX7_fewestPressed 45 = .ok (.aload_n 0, 1) := by decide +kernel
theorem dX7_fewestPressed_46 : decode cX7_fewestPressed 46 = .ok (.getfield 10, 3) := by decide +kernel
theorem dX7_fewestPressed_49 : decode cX7_fewestPressed 49 = .ok (.getfield 118, 3) := by decide +kernel
theorem dX7_fewestPressed_52 : decode cX7_fewestPressed 52 = .ok (.invokevirtual 236, 3) := by decide +kernel
theorem dX7_fewestPressed_55 : decode cX7_fewestPressed 55 = .ok (.iconst 0, 1) := by decide +kernel
theorem dX7_fewestPressed_56 : decode cX7_fewestPressed 56 = .ok (.istore_n 3, 1) := by decide +kernel
theorem dX7_fewestPressed_57 : decode cX7_fewestPressed 57 = .ok (.iload_n 3, 1) := by decide +kernel
theorem dX7_fewestPressed_58 : decode cX7_fewestPressed 58 = .ok (.aload_n 0, 1) := by decide +kernel
theorem dX7_fewestPressed_59 : decode cX7_fewestPressed 59 = .ok (.getfield 54, 3) := by decide +kernel
theorem dX7_fewestPressed_62 : decode cX7_fewestPressed 62 = .ok (.getfield 155, 3) := by decide +kernel
theorem dX7_fewestPressed_65 : decode cX7_fewestPressed 65 = .ok (.if_icmp .ge 31, 3) := by decide +kernel
theorem dX7_fewestPressed_68 : decode cX7_fewestPressed 68 = .ok (.aload_n 0, 1) := by decide +kernel
theorem dX7_fewestPressed_69 : decode cX7_fewestPressed 69 = .ok (.getfield 54, 3) := by decide +kernel
theorem dX7_fewestPressed_72 : decode cX7_fewestPressed 72 = .ok (.iload_n 3, 1) := by decide +kernel
theorem dX7_fewestPressed_73 : decode cX7_fewestPressed 73 = .ok (.aload_n 0, 1) := by decide +kernel
theorem dX7_fewestPressed_74 : decode cX7_fewestPressed 74 = .ok (.getfield 54, 3) := by decide +kernel
theorem dX7_fewestPressed_77 : decode cX7_fewestPressed 77 = .ok (.iload_n 3, 1) := by decide +kernel
theorem dX7_fewestPressed_78 : decode cX7_fewestPressed 78 = .ok (.invokevirtual 131, 3) := by decide +kernel
theorem dX7_fewestPressed_81 : decode cX7_fewestPressed 81 = .ok (.iload_n 2, 1) := by decide +kernel
theorem dX7_fewestPressed_82 : decode cX7_fewestPressed 82 = .ok (.iload_n 3, 1) := by decide +kernel
theorem dX7_fewestPressed_83 : decode cX7_fewestPressed 83 = .ok (.ishr, 1) := by decide +kernel
theorem dX7_fewestPressed_84 : decode cX7_fewestPressed 84 = .ok (.iconst 1, 1) := by decide +kernel
theorem dX7_fewestPressed_85 : decode cX7_fewestPressed 85 = .ok (.iand, 1) := by decide +kernel
theorem dX7_fewestPressed_86 : decode cX7_fewestPressed 86 = .ok (.iadd, 1) := by decide +kernel
theorem dX7_fewestPressed_87 : decode cX7_fewestPressed 87 = .ok (.invokevirtual 138, 3) := by decide +kernel
theorem dX7_fewestPressed_90 : decode cX7_fewestPressed 90 = .ok (.iinc 3 1, 3) := by decide +kernel
theorem dX7_fewestPressed_93 : decode cX7_fewestPressed 93 = .ok (.goto (-36), 3) := by decide +kernel
theorem dX7_fewestPressed_96 : decode cX7_fewestPressed 96 = .ok (.aload_n 0, 1) := by decide +kernel
theorem dX7_fewestPressed_97 : decode cX7_fewestPressed 97 = .ok (.getfield 10, 3) := by decide +kernel
theorem dX7_fewestPressed_100 : decode cX7_fewestPressed 100 = .ok (.aload_n 0, 1) := by decide +kernel
theorem dX7_fewestPressed_101 : decode cX7_fewestPressed 101 = .ok (.getfield 54, 3) := by decide +kernel
theorem dX7_fewestPressed_104 : decode cX7_fewestPressed 104 = .ok (.aload_n 0, 1) := by decide +kernel
theorem dX7_fewestPressed_105 : decode cX7_fewestPressed 105 = .ok (.getfield 10, 3) := by decide +kernel
theorem dX7_fewestPressed_108 : decode cX7_fewestPressed 108 = .ok (.getfield 152, 3) := by decide +kernel
theorem dX7_fewestPressed_111 : decode cX7_fewestPressed 111 = .ok (.invokevirtual 269, 3) := by decide +kernel
theorem dX7_fewestPressed_114 : decode cX7_fewestPressed 114 = .ok (.aload_n 0, 1) := by decide +kernel
theorem dX7_fewestPressed_115 : decode cX7_fewestPressed 115 = .ok (.getfield 54, 3) := by decide +kernel
theorem dX7_fewestPressed_118 : decode cX7_fewestPressed 118 = .ok (.invokevirtual 175, 3) := by decide +kernel
theorem dX7_fewestPressed_121 : decode cX7_fewestPressed 121 = .ok (.ifCond .eq 5, 3) := by decide +kernel
theorem dX7_fewestPressed_124 : decode cX7_fewestPressed 124 = .ok (.iload_n 2, 1) := by decide +kernel
theorem dX7_fewestPressed_125 : decode cX7_fewestPressed 125 = .ok (.istore_n 1, 1) := by decide +kernel
theorem dX7_fewestPressed_126 : decode cX7_fewestPressed 126 = .ok (.iinc 2 1, 3) := by decide +kernel
theorem dX7_fewestPressed_129 : decode cX7_fewestPressed 129 = .ok (.goto (-124), 3) := by decide +kernel
theorem dX7_fewestPressed_132 : decode cX7_fewestPressed 132 = .ok (.iload_n 1, 1) := by decide +kernel
theorem dX7_fewestPressed_133 : decode cX7_fewestPressed 133 = .ok (.ireturn, 1) := by decide +kernel
theorem dX7_fewestAsleep_0 : decode cX7_fewestAsleep 0 = .ok (.aload_n 0, 1) := by decide +kernel
theorem dX7_fewestAsleep_1 : decode cX7_fewestAsleep 1 = .ok (.invokevirtual 300, 3) := by decide +kernel
theorem dX7_fewestAsleep_4 : decode cX7_fewestAsleep 4 = .ok (.istore_n 1, 1) := by decide +kernel
theorem dX7_fewestAsleep_5 : decode cX7_fewestAsleep 5 = .ok (.bipush (-9), 2) := by decide +kernel
theorem dX7_fewestAsleep_7 : decode cX7_fewestAsleep 7 = .ok (.istore_n 2, 1) := by decide +kernel
theorem dX7_fewestAsleep_8 : decode cX7_fewestAsleep 8 = .ok (.iconst 1, 1) := by decide +kernel
theorem dX7_fewestAsleep_9 : decode cX7_fewestAsleep 9 = .ok (.istore_n 3, 1) := by decide +kernel
theorem dX7_fewestAsleep_10 : decode cX7_fewestAsleep 10 = .ok (.iload_n 3, 1) := by decide +kernel
theorem dX7_fewestAsleep_11 : decode cX7_fewestAsleep 11 = .ok (.iconst 1, 1) := by decide +kernel
theorem dX7_fewestAsleep_12 : decode cX7_fewestAsleep 12 = .ok (.aload_n 0, 1) := by decide +kernel
theorem dX7_fewestAsleep_13 : decode cX7_fewestAsleep 13 = .ok (.getfield 10, 3) := by decide +kernel
theorem dX7_fewestAsleep_16 : decode cX7_fewestAsleep 16 = .ok (.getfield 152, 3) := by decide +kernel
theorem dX7_fewestAsleep_19 : decode cX7_fewestAsleep 19 = .ok (.ishl, 1) := by decide +kernel
theorem dX7_fewestAsleep_20 : decode cX7_fewestAsleep 20 = .ok (.if_icmp .ge 47, 3) := by decide +kernel
theorem dX7_fewestAsleep_23 : decode cX7_fewestAsleep 23 = .ok (.iload_n 2, 1) := by decide +kernel
theorem dX7_fewestAsleep_24 : decode cX7_fewestAsleep 24 = .ok (.bipush (-9), 2) := by decide +kernel
theorem dX7_fewestAsleep_26 : decode cX7_fewestAsleep 26 = .ok (.if_icmp .eq 17, 3) := by decide +kernel
theorem dX7_fewestAsleep_29 : decode cX7_fewestAsleep 29 = .ok (.iload_n 3, 1) := by decide +kernel
theorem dX7_fewestAsleep_30 : decode cX7_fewestAsleep 30 = .ok (.invokestatic 231, 3) := by decide +kernel
theorem dX7_fewestAsleep_33 : decode cX7_fewestAsleep 33 = .ok (.iload_n 2, 1) := by decide +kernel
theorem dX7_fewestAsleep_34 : decode cX7_fewestAsleep 34 = .ok (.invokestatic 231, 3) := by decide +kernel
theorem dX7_fewestAsleep_37 : decode cX7_fewestAsleep 37 = .ok (.if_icmp .lt 6, 3) := by decide +kernel
theorem dX7_fewestAsleep_40 : decode cX7_fewestAsleep 40 = .ok (.goto 21, 3) := by decide +kernel
theorem dX7_fewestAsleep_43 : decode cX7_fewestAsleep 43 = .ok (.aload_n 0, 1) := by decide +kernel
theorem dX7_fewestAsleep_44 : decode cX7_fewestAsleep 44 = .ok (.iload_n 3, 1) := by decide +kernel
theorem dX7_fewestAsleep_45 : decode cX7_fewestAsleep 45 = .ok (.invokevirtual 283, 3) := by decide +kernel
theorem dX7_fewestAsleep_48 : decode cX7_fewestAsleep 48 = .ok (.aload_n 0, 1) := by decide +kernel
theorem dX7_fewestAsleep_49 : decode cX7_fewestAsleep 49 = .ok (.getfield 54, 3) := by decide +kernel
theorem dX7_fewestAsleep_52 : decode cX7_fewestAsleep 52 = .ok (.invokevirtual 175, 3) := by decide +kernel
theorem dX7_fewestAsleep_55 : decode cX7_fewestAsleep 55 = .ok (.iload_n 1, 1) := by decide +kernel
theorem dX7_fewestAsleep_56 : decode cX7_fewestAsleep 56 = .ok (.if_icmp .eq 5, 3) := by decide +kernel
theorem dX7_fewestAsleep_59 : decode cX7_fewestAsleep 59 = .ok (.iload_n 3, 1) := by decide +kernel
theorem dX7_fewestAsleep_60 : decode cX7_fewestAsleep 60 = .ok (.istore_n 2, 1) := by decide +kernel
theorem dX7_fewestAsleep_61 : decode cX7_fewestAsleep 61 = .ok (.iinc 3 1, 3) := by decide +kernel
theorem dX7_fewestAsleep_64 : decode cX7_fewestAsleep 64 = .ok (.goto (-54), 3) := by decide +kernel
theorem dX7_fewestAsleep_67 : decode cX7_fewestAsleep 67 = .ok (.iload_n 2, 1) := by decide +kernel
theorem dX7_fewestAsleep_68 : decode cX7_fewestAsleep 68 = .ok (.ireturn, 1) := by decide +kernel
theorem dX7_playOn_0 : decode cX7_playOn 0 = .ok (.iload_n 3, 1) := by decide +kernel
theorem dX7_playOn_1 : decode cX7_playOn 1 = .ok (.ifCond .gt 32, 3) := by decide +kernel
theorem dX7_playOn_4 : decode cX7_playOn 4 = .ok (.aload_n 2, 1) := by decide +kernel
theorem dX7_playOn_5 : decode cX7_playOn 5 = .ok (.aload_n 1, 1) := by decide +kernel
theorem dX7_playOn_6 : decode cX7_playOn 6 = .ok (.invokevirtual 236, 3) := by decide +kernel
theorem dX7_playOn_9 : decode cX7_playOn 9 = .ok (.aload_n 0, 1) := by decide +kernel
theorem dX7_playOn_10 : decode cX7_playOn 10 = .ok (.aload_n 2, 1) := by decide +kernel
theorem dX7_playOn_11 : decode cX7_playOn 11 = .ok (.aload_n 0, 1) := by decide +kernel
theorem dX7_playOn_12 : decode cX7_playOn 12 = .ok (.getfield 152, 3) := by decide +kernel
theorem dX7_playOn_15 : decode cX7_playOn 15 = .ok (.invokevirtual 269, 3) := by decide +kernel
theorem dX7_playOn_18 : decode cX7_playOn 18 = .ok (.iload 4, 2) := by decide +kernel
theorem dX7_playOn_20 : decode cX7_playOn 20 = .ok (.iload 5, 2) := by decide +kernel
theorem dX7_playOn_22 : decode cX7_playOn 22 = .ok (.aload_n 2, 1) := by decide +kernel
theorem dX7_playOn_23 : decode cX7_playOn 23 = .ok (.invokevirtual 183, 3) := by decide +kernel
theorem dX7_playOn_26 : decode cX7_playOn 26 = .ok (.invokestatic 359, 3) := by decide +kernel
theorem dX7_playOn_29 : decode cX7_playOn 29 = .ok (.invokestatic 362, 3) := by decide +kernel
theorem dX7_playOn_32 : decode cX7_playOn 32 = .ok (.ireturn, 1) := by decide +kernel
theorem dX7_playOn_33 : decode cX7_playOn 33 = .ok (.iload_n 3, 1) := by decide +kernel
theorem dX7_playOn_34 : decode cX7_playOn 34 = .ok (.iconst 2, 1) := by decide +kernel
theorem dX7_playOn_35 : decode cX7_playOn 35 = .ok (.irem, 1) := by decide +kernel
theorem dX7_playOn_36 : decode cX7_playOn 36 = .ok (.ifCond .ne 7, 3) := by decide +kernel
theorem dX7_playOn_39 : decode cX7_playOn 39 = .ok (.iconst 1, 1) := by decide +kernel
theorem dX7_playOn_40 : decode cX7_playOn 40 = .ok (.goto 4, 3) := by decide +kernel
theorem dX7_playOn_43 : decode cX7_playOn 43 = .ok (.iconst 0, 1) := by decide +kernel
theorem dX7_playOn_44 : decode cX7_playOn 44 = .ok (.istore 6, 2) := by decide +kernel
theorem dX7_playOn_46 : decode cX7_playOn 46 = .ok (.iload 4, 2) := by decide +kernel
theorem dX7_playOn_48 : decode cX7_playOn 48 = .ok (.istore 7, 2) := by decide +kernel
theorem dX7_playOn_50 : decode cX7_playOn 50 = .ok (.iload 5, 2) := by decide +kernel
theorem dX7_playOn_52 : decode cX7_playOn 52 = .ok (.istore 8, 2) := by decide +kernel
theorem dX7_playOn_54 : decode cX7_playOn 54 = .ok (.iconst 0, 1) := by decide +kernel
theorem dX7_playOn_55 : decode cX7_playOn 55 = .ok (.istore 9, 2) := by decide +kernel
theorem dX7_playOn_57 : decode cX7_playOn 57 = .ok (.iload 9, 2) := by decide +kernel
theorem dX7_playOn_59 : decode cX7_playOn 59 = .ok (.iconst 2, 1) := by decide +kernel
theorem dX7_playOn_60 : decode cX7_playOn 60 = .ok (.aload_n 1, 1) := by decide +kernel
theorem dX7_playOn_61 : decode cX7_playOn 61 = .ok (.getfield 155, 3) := by decide +kernel
theorem dX7_playOn_64 : decode cX7_playOn 64 = .ok (.imul, 1) := by decide +kernel
theorem dX7_playOn_65 : decode cX7_playOn 65 = .ok (.if_icmp .ge 75, 3) := by decide +kernel
theorem dX7_playOn_68 : decode cX7_playOn 68 = .ok (.iload 7, 2) := by decide +kernel
theorem dX7_playOn_70 : decode cX7_playOn 70 = .ok (.iload 8, 2) := by decide +kernel
theorem dX7_playOn_72 : decode cX7_playOn 72 = .ok (.if_icmp .ge 68, 3) := by decide +kernel
theorem dX7_playOn_75 : decode cX7_playOn 75 = .ok (.aload_n 1, 1) := by decide +kernel
theorem dX7_playOn_76 : decode cX7_playOn 76 = .ok (.iload 9, 2) := by decide +kernel
theorem dX7_playOn_78 : decode cX7_playOn 78 = .ok (.invokevirtual 246, 3) := by decide +kernel
theorem dX7_playOn_81 : decode cX7_playOn 81 = .ok (.istore 10, 2) := by decide +kernel
theorem dX7_playOn_83 : decode cX7_playOn 83 = .ok (.aload_n 0, 1) := by decide +kernel
theorem dX7_playOn_84 : decode cX7_playOn 84 = .ok (.aload_n 1, 1) := by decide +kernel
theorem dX7_playOn_85 : decode cX7_playOn 85 = .ok (.aload_n 2, 1) := by decide +kernel
theorem dX7_playOn_86 : decode cX7_playOn 86 = .ok (.iload_n 3, 1) := by decide +kernel
theorem dX7_playOn_87 : decode cX7_playOn 87 = .ok (.iconst 1, 1) := by decide +kernel
theorem dX7_playOn_88 : decode cX7_playOn 88 = .ok (.isub, 1) := by decide +kernel
theorem dX7_playOn_89 : decode cX7_playOn 89 = .ok (.iload 7, 2) := by decide +kernel
theorem dX7_playOn_91 : decode cX7_playOn 91 = .ok (.iload 8, 2) := by decide +kernel
theorem dX7_playOn_93 : decode cX7_playOn 93 = .ok (.invokestatic 242, 3) := by decide +kernel
theorem dX7_playOn_96 : decode cX7_playOn 96 = .ok (.istore 11, 2) := by decide +kernel
theorem dX7_playOn_98 : decode cX7_playOn 98 = .ok (.aload_n 1, 1) := by decide +kernel
theorem dX7_playOn_99 : decode cX7_playOn 99 = .ok (.iload 9, 2) := by decide +kernel
theorem dX7_playOn_101 : decode cX7_playOn 101 = .ok (.iconst 2, 1) := by decide +kernel
theorem dX7_playOn_102 : decode cX7_playOn 102 = .ok (.idiv, 1) := by decide +kernel
theorem dX7_playOn_103 : decode cX7_playOn 103 = .ok (.iload 10, 2) := by decide +kernel
theorem dX7_playOn_105 : decode cX7_playOn 105 = .ok (.invokevirtual 138, 3) := by decide +kernel
theorem dX7_playOn_108 : decode cX7_playOn 108 = .ok (.iload 6, 2) := by decide +kernel
theorem dX7_playOn_110 : decode cX7_playOn 110 = .ok (.ifCond .eq 15, 3) := by decide +kernel
theorem dX7_playOn_113 : decode cX7_playOn 113 = .ok (.iload 7, 2) := by decide +kernel
theorem dX7_playOn_115 : decode cX7_playOn 115 = .ok (.iload 11, 2) := by decide +kernel
theorem dX7_playOn_117 : decode cX7_playOn 117 = .ok (.invokestatic 362, 3) := by decide +kernel
theorem dX7_playOn_120 : decode cX7_playOn 120 = .ok (.istore 7, 2) := by decide +kernel
theorem dX7_playOn_122 : decode cX7_playOn 122 = .ok (.goto 12, 3) := by decide +kernel
theorem dX7_playOn_125 : decode cX7_playOn 125 = .ok (.iload 8, 2) := by decide +kernel
theorem dX7_playOn_127 : decode cX7_playOn 127 = .ok (.iload 11, 2) := by decide +kernel
theorem dX7_playOn_129 : decode cX7_playOn 129 = .ok (.invokestatic 359, 3) := by decide +kernel
theorem dX7_playOn_132 : decode cX7_playOn 132 = .ok (.istore 8, 2) := by decide +kernel
theorem dX7_playOn_134 : decode cX7_playOn 134 = .ok (.iinc 9 1, 3) := by decide +kernel
theorem dX7_playOn_137 : decode cX7_playOn 137 = .ok (.goto (-80), 3) := by decide +kernel
theorem dX7_playOn_140 : decode cX7_playOn 140 = .ok (.iload 6, 2) := by decide +kernel
theorem dX7_playOn_142 : decode cX7_playOn 142 = .ok (.ifCond .eq 8, 3) := by decide +kernel
theorem dX7_playOn_145 : decode cX7_playOn 145 = .ok (.iload 7, 2) := by decide +kernel
theorem dX7_playOn_147 : decode cX7_playOn 147 = .ok (.goto 5, 3) := by decide +kernel
theorem dX7_playOn_150 : decode cX7_playOn 150 = .ok (.iload 8, 2) := by decide +kernel
theorem dX7_playOn_152 : decode cX7_playOn 152 = .ok (.ireturn, 1) := by decide +kernel
theorem dX7_stepAway_0 : decode cX7_stepAway 0 = .ok (.aload_n 0, 1) := by decide +kernel
theorem dX7_stepAway_1 : decode cX7_stepAway 1 = .ok (.getfield 54, 3) := by decide +kernel
theorem dX7_stepAway_4 : decode cX7_stepAway 4 = .ok (.aload_n 0, 1) := by decide +kernel
theorem dX7_stepAway_5 : decode cX7_stepAway 5 = .ok (.getfield 10, 3) := by decide +kernel
theorem dX7_stepAway_8 : decode cX7_stepAway 8 = .ok (.getfield 118, 3) := by decide +kernel
theorem dX7_stepAway_11 : decode cX7_stepAway 11 = .ok (.invokevirtual 236, 3) := by decide +kernel
theorem dX7_stepAway_14 : decode cX7_stepAway 14 = .ok (.iconst 2, 1) := by decide +kernel
theorem dX7_stepAway_15 : decode cX7_stepAway 15 = .ok (.aload_n 0, 1) := by decide +kernel
theorem dX7_stepAway_16 : decode cX7_stepAway 16 = .ok (.getfield 54, 3) := by decide +kernel
theorem dX7_stepAway_19 : decode cX7_stepAway 19 = .ok (.getfield 155, 3) := by decide +kernel
theorem dX7_stepAway_22 : decode cX7_stepAway 22 = .ok (.imul, 1) := by decide +kernel
theorem dX7_stepAway_23 : decode cX7_stepAway 23 = .ok (.istore_n 3, 1) := by decide +kernel
theorem dX7_stepAway_24 : decode cX7_stepAway 24 = .ok (.iload_n 1, 1) := by decide +kernel
theorem dX7_stepAway_25 : decode cX7_stepAway 25 = .ok (.istore 4, 2) := by decide +kernel
theorem dX7_stepAway_27 : decode cX7_stepAway 27 = .ok (.iconst 0, 1) := by decide +kernel
theorem dX7_stepAway_28 : decode cX7_stepAway 28 = .ok (.istore 5, 2) := by decide +kernel
theorem dX7_stepAway_30 : decode cX7_stepAway 30 = .ok (.iconst 0, 1) := by decide +kernel
theorem dX7_stepAway_31 : decode cX7_stepAway 31 = .ok (.istore 6, 2) := by decide +kernel
theorem dX7_stepAway_33 : decode cX7_stepAway 33 = .ok (.iload 6, 2) := by decide +kernel
theorem dX7_stepAway_35 : decode cX7_stepAway 35 = .ok (.iload_n 2, 1) := by decide +kernel
theorem dX7_stepAway_36 : decode cX7_stepAway 36 = .ok (.if_icmp .ge 48, 3) := by decide +kernel
theorem dX7_stepAway_39 : decode cX7_stepAway 39 = .ok (.iload_n 3, 1) := by decide +kernel
theorem dX7_stepAway_40 : decode cX7_stepAway 40 = .ok (.ifCond .le 44, 3) := by decide +kernel
theorem dX7_stepAway_43 : decode cX7_stepAway 43 = .ok (.iload 4, 2) := by decide +kernel
theorem dX7_stepAway_45 : decode cX7_stepAway 45 = .ok (.iload_n 3, 1) := by decide +kernel
theorem dX7_stepAway_46 : decode cX7_stepAway 46 = .ok (.irem, 1) := by decide +kernel
theorem dX7_stepAway_47 : decode cX7_stepAway 47 = .ok (.istore 7, 2) := by decide +kernel
theorem dX7_stepAway_49 : decode cX7_stepAway 49 = .ok (.iload 7, 2) := by decide +kernel
theorem dX7_stepAway_51 : decode cX7_stepAway 51 = .ok (.iload 5, 2) := by decide +kernel
theorem dX7_stepAway_53 : decode cX7_stepAway 53 = .ok (.if_icmp .ge 5, 3) := by decide +kernel
theorem dX7_stepAway_56 : decode cX7_stepAway 56 = .ok (.iconst 0, 1) := by decide +kernel
theorem dX7_stepAway_57 : decode cX7_stepAway 57 = .ok (.ireturn, 1) := by decide +kernel
theorem dX7_stepAway_58 : decode cX7_stepAway 58 = .ok (.aload_n 0, 1) := by decide +kernel
theorem dX7_stepAway_59 : decode cX7_stepAway 59 = .ok (.getfield 54, 3) := by decide +kernel
theorem dX7_stepAway_62 : decode cX7_stepAway 62 = .ok (.iload 7, 2) := by decide +kernel
theorem dX7_stepAway_64 : decode cX7_stepAway 64 = .ok (.invokevirtual 246, 3) := by decide +kernel
theorem dX7_stepAway_67 : decode cX7_stepAway 67 = .ok (.pop, 1) := by decide +kernel
theorem dX7_stepAway_68 : decode cX7_stepAway 68 = .ok (.iload 7, 2) := by decide +kernel
theorem dX7_stepAway_70 : decode cX7_stepAway 70 = .ok (.istore 5, 2) := by decide +kernel
theorem dX7_stepAway_72 : decode cX7_stepAway 72 = .ok (.iload 4, 2) := by decide +kernel
theorem dX7_stepAway_74 : decode cX7_stepAway 74 = .ok (.iload_n 3, 1) := by decide +kernel
theorem dX7_stepAway_75 : decode cX7_stepAway 75 = .ok (.idiv, 1) := by decide +kernel
theorem dX7_stepAway_76 : decode cX7_stepAway 76 = .ok (.istore 4, 2) := by decide +kernel
theorem dX7_stepAway_78 : decode cX7_stepAway 78 = .ok (.iinc 6 1, 3) := by decide +kernel
theorem dX7_stepAway_81 : decode cX7_stepAway 81 = .ok (.goto (-48), 3) := by decide +kernel
theorem dX7_stepAway_84 : decode cX7_stepAway 84 = .ok (.iconst 1, 1) := by decide +kernel
theorem dX7_stepAway_85 : decode cX7_stepAway 85 = .ok (.ireturn, 1) := by decide +kernel
theorem dX7_findBestOrder_0 : decode cX7_findBestOrder 0 = .ok (.aload_n 0, 1) := by decide +kernel
theorem dX7_findBestOrder_1 : decode cX7_findBestOrder 1 = .ok (.getfield 10, 3) := by decide +kernel
theorem dX7_findBestOrder_4 : decode cX7_findBestOrder 4 = .ok (.getfield 152, 3) := by decide +kernel
theorem dX7_findBestOrder_7 : decode cX7_findBestOrder 7 = .ok (.aload_n 0, 1) := by decide +kernel
theorem dX7_findBestOrder_8 : decode cX7_findBestOrder 8 = .ok (.getfield 85, 3) := by decide +kernel
theorem dX7_findBestOrder_11 : decode cX7_findBestOrder 11 = .ok (.arraylength, 1) := by decide +kernel
theorem dX7_findBestOrder_12 : decode cX7_findBestOrder 12 = .ok (.invokestatic 359, 3) := by decide +kernel
theorem dX7_findBestOrder_15 : decode cX7_findBestOrder 15 = .ok (.istore_n 1, 1) := by decide +kernel
theorem dX7_findBestOrder_16 : decode cX7_findBestOrder 16 = .ok (.iconst 0, 1) := by decide +kernel
theorem dX7_findBestOrder_17 : decode cX7_findBestOrder 17 = .ok (.istore_n 2, 1) := by decide +kernel
theorem dX7_findBestOrder_18 : decode cX7_findBestOrder 18 = .ok (.iload_n 2, 1) := by decide +kernel
theorem dX7_findBestOrder_19 : decode cX7_findBestOrder 19 = .ok (.iload_n 1, 1) := by decide +kernel
theorem dX7_findBestOrder_20 : decode cX7_findBestOrder 20 = .ok (.if_icmp .ge 16, 3) := by decide +kernel
theorem dX7_findBestOrder_23 : decode cX7_findBestOrder 23 = .ok (.aload_n 0, 1) := by decide +kernel
theorem dX7_findBestOrder_24 : decode cX7_findBestOrder 24 = .ok (.getfield 85, 3) := by decide +kernel
theorem dX7_findBestOrder_27 : decode cX7_findBestOrder 27 = .ok (.iload_n 2, 1) := by decide +kernel
theorem dX7_findBestOrder_28 : decode cX7_findBestOrder 28 = .ok (.iload_n 2, 1) := by decide +kernel
theorem dX7_findBestOrder_29 : decode cX7_findBestOrder 29 = .ok (.iastore, 1) := by decide +kernel
theorem dX7_findBestOrder_30 : decode cX7_findBestOrder 30 = .ok (.iinc 2 1, 3) := by decide +kernel
theorem dX7_findBestOrder_33 : decode cX7_findBestOrder 33 = .ok (.goto (-15), 3) := by decide +kernel
theorem dX7_findBestOrder_36 : decode cX7_findBestOrder 36 = .ok (.ldc 240, 2) := by decide +kernel
theorem dX7_findBestOrder_38 : decode cX7_findBestOrder 38 = .ok (.istore_n 2, 1) := by decide +kernel
theorem dX7_findBestOrder_39 : decode cX7_findBestOrder 39 = .ok (.iconst 1, 1) := by decide +kernel
theorem dX7_findBestOrder_40 : decode cX7_findBestOrder 40 = .ok (.istore_n 3, 1) := by decide +kernel
theorem dX7_findBestOrder_41 : decode cX7_findBestOrder 41 = .ok (.iconst 0, 1) := by decide +kernel
theorem dX7_findBestOrder_42 : decode cX7_findBestOrder 42 = .ok (.istore 4, 2) := by decide +kernel
theorem dX7_findBestOrder_44 : decode cX7_findBestOrder 44 = .ok (.iload 4, 2) := by decide +kernel
theorem dX7_findBestOrder_46 : decode cX7_findBestOrder 46 = .ok (.bipush 120, 2) := by decide +kernel
theorem dX7_findBestOrder_48 : decode cX7_findBestOrder 48 = .ok (.if_icmp .ge 99, 3) := by decide +kernel
theorem dX7_findBestOrder_51 : decode cX7_findBestOrder 51 = .ok (.iload_n 3, 1) := by decide +kernel
theorem dX7_findBestOrder_52 : decode cX7_findBestOrder 52 = .ok (.ifCond .eq 95, 3) := by decide +kernel
theorem dX7_findBestOrder_55 : decode cX7_findBestOrder 55 = .ok (.aload_n 0, 1) := by decide +kernel
theorem dX7_findBestOrder_56 : decode cX7_findBestOrder 56 = .ok (.getfield 54, 3) := by decide +kernel
theorem dX7_findBestOrder_59 : decode cX7_findBestOrder 59 = .ok (.aload_n 0, 1) := by decide +kernel
theorem dX7_findBestOrder_60 : decode cX7_findBestOrder 60 = .ok (.getfield 10, 3) := by decide +kernel
theorem dX7_findBestOrder_63 : decode cX7_findBestOrder 63 = .ok (.getfield 118, 3) := by decide +kernel
theorem dX7_findBestOrder_66 : decode cX7_findBestOrder 66 = .ok (.invokevirtual 236, 3) := by decide +kernel
theorem dX7_findBestOrder_69 : decode cX7_findBestOrder 69 = .ok (.iconst 0, 1) := by decide +kernel
theorem dX7_findBestOrder_70 : decode cX7_findBestOrder 70 = .ok (.istore 5, 2) := by decide +kernel
theorem dX7_findBestOrder_72 : decode cX7_findBestOrder 72 = .ok (.iload 5, 2) := by decide +kernel
theorem dX7_findBestOrder_74 : decode cX7_findBestOrder 74 = .ok (.iload_n 1, 1) := by decide +kernel
theorem dX7_findBestOrder_75 : decode cX7_findBestOrder 75 = .ok (.if_icmp .ge 27, 3) := by decide +kernel
theorem dX7_findBestOrder_78 : decode cX7_findBestOrder 78 = .ok (.aload_n 0, 1) := by decide +kernel
theorem dX7_findBestOrder_79 : decode cX7_findBestOrder 79 = .ok (.getfield 10, 3) := by decide +kernel
theorem dX7_findBestOrder_82 : decode cX7_findBestOrder 82 = .ok (.aload_n 0, 1) := by decide +kernel
theorem dX7_findBestOrder_83 : decode cX7_findBestOrder 83 = .ok (.getfield 85, 3) := by decide +kernel
theorem dX7_findBestOrder_86 : decode cX7_findBestOrder 86 = .ok (.iload 5, 2) := by decide +kernel
theorem dX7_findBestOrder_88 : decode cX7_findBestOrder 88 = .ok (.iaload, 1) := by decide +kernel
theorem dX7_findBestOrder_89 : decode cX7_findBestOrder 89 = .ok (.aload_n 0, 1) := by decide +kernel
theorem dX7_findBestOrder_90 : decode cX7_findBestOrder 90 = .ok (.getfield 54, 3) := by decide +kernel
theorem dX7_findBestOrder_93 : decode cX7_findBestOrder 93 = .ok (.invokevirtual 186, 3) := by decide +kernel
theorem dX7_findBestOrder_96 : decode cX7_findBestOrder 96 = .ok (.iinc 5 1, 3) := by decide +kernel
theorem dX7_findBestOrder_99 : decode cX7_findBestOrder 99 = .ok (.goto (-27), 3) := by decide +kernel
theorem dX7_findBestOrder_102 : decode cX7_findBestOrder 102 = .ok (.aload_n 0, 1) := by decide +kernel
theorem dX7_findBestOrder_103 : decode cX7_findBestOrder 103 = .ok (.getfield 54, 3) := by decide +kernel
theorem dX7_findBestOrder_106 : decode cX7_findBestOrder 106 = .ok (.invokevirtual 183, 3) := by decide +kernel
theorem dX7_findBestOrder_109 : decode cX7_findBestOrder 109 = .ok (.iload_n 2, 1) := by decide +kernel
theorem dX7_findBestOrder_110 : decode cX7_findBestOrder 110 = .ok (.if_icmp .le 25, 3) := by decide +kernel
theorem dX7_findBestOrder_113 : decode cX7_findBestOrder 113 = .ok (.aload_n 0, 1) := by decide +kernel
theorem dX7_findBestOrder_114 : decode cX7_findBestOrder 114 = .ok (.getfield 54, 3) := by decide +kernel
theorem dX7_findBestOrder_117 : decode cX7_findBestOrder 117 = .ok (.invokevirtual 183, 3) := by decide +kernel
theorem dX7_findBestOrder_120 : decode cX7_findBestOrder 120 = .ok (.istore_n 2, 1) := by decide +kernel
theorem dX7_findBestOrder_121 : decode cX7_findBestOrder 121 = .ok (.aload_n 0, 1) := by decide +kernel
theorem dX7_findBestOrder_122 : decode cX7_findBestOrder 122 = .ok (.getfield 85, 3) := by decide +kernel
theorem dX7_findBestOrder_125 : decode cX7_findBestOrder 125 = .ok (.iconst 0, 1) := by decide +kernel
theorem dX7_findBestOrder_126 : decode cX7_findBestOrder 126 = .ok (.aload_n 0, 1) := by decide +kernel
theorem dX7_findBestOrder_127 : decode cX7_findBestOrder 127 = .ok (.getfield 88, 3) := by decide +kernel
theorem dX7_findBestOrder_130 : decode cX7_findBestOrder 130 = .ok (.iconst 0, 1) := by decide +kernel
theorem dX7_findBestOrder_131 : decode cX7_findBestOrder 131 = .ok (.iload_n 1, 1) := by decide +kernel
theorem dX7_findBestOrder_132 : decode cX7_findBestOrder 132 = .ok (.invokestatic 365, 3) := by decide +kernel
theorem dX7_findBestOrder_135 : decode cX7_findBestOrder 135 = .ok (.aload_n 0, 1) := by decide +kernel
theorem dX7_findBestOrder_136 : decode cX7_findBestOrder 136 = .ok (.iload_n 1, 1) := by decide +kernel
theorem dX7_findBestOrder_137 : decode cX7_findBestOrder 137 = .ok (.invokevirtual 371, 3) := by decide +kernel
theorem dX7_findBestOrder_140 : decode cX7_findBestOrder 140 = .ok (.istore_n 3, 1) := by decide +kernel
theorem dX7_findBestOrder_141 : decode cX7_findBestOrder 141 = .ok (.iinc 4 1, 3) := by decide +kernel
theorem dX7_findBestOrder_144 : decode cX7_findBestOrder 144 = .ok (.goto (-100), 3) := by decide +kernel
theorem dX7_findBestOrder_147 : decode cX7_findBestOrder 147 = .ok (.iload_n 2, 1) := by decide +kernel
theorem dX7_findBestOrder_148 : decode cX7_findBestOrder 148 = .ok (.ireturn, 1) := by decide +kernel
theorem dX7_toNextOrder_0 : decode cX7_toNextOrder 0 = .ok (.iload_n 1, 1) := by decide +kernel
theorem dX7_toNextOrder_1 : decode cX7_toNextOrder 1 = .ok (.iconst 2, 1) := by decide +kernel
theorem dX7_toNextOrder_2 : decode cX7_toNextOrder 2 = .ok (.isub, 1) := by decide +kernel
theorem dX7_toNextOrder_3 : decode cX7_toNextOrder 3 = .ok (.istore_n 2, 1) := by decide +kernel
theorem dX7_toNextOrder_4 : decode cX7_toNextOrder 4 = .ok (.iload_n 2, 1) := by decide +kernel
theorem dX7_toNextOrder_5 : decode cX7_toNextOrder 5 = .ok (.ifCond .lt 26, 3) := by decide +kernel
theorem dX7_toNextOrder_8 : decode cX7_toNextOrder 8 = .ok (.aload_n 0, 1) := by decide +kernel
theorem dX7_toNextOrder_9 : decode cX7_toNextOrder 9 = .ok (.getfield 85, 3) := by decide +kernel
theorem dX7_toNextOrder_12 : decode cX7_toNextOrder 12 = .ok (.iload_n 2, 1) := by decide +kernel
theorem dX7_toNextOrder_13 : decode cX7_toNextOrder 13 = .ok (.iaload, 1) := by decide +kernel
theorem dX7_toNextOrder_14 : decode cX7_toNextOrder 14 = .ok (.aload_n 0, 1) := by decide +kernel
theorem dX7_toNextOrder_15 : decode cX7_toNextOrder 15 = .ok (.getfield 85, 3) := by decide +kernel
theorem dX7_toNextOrder_18 : decode cX7_toNextOrder 18 = .ok (.iload_n 2, 1) := by decide +kernel
theorem dX7_toNextOrder_19 : decode cX7_toNextOrder 19 = .ok (.iconst 1, 1) := by decide +kernel
theorem dX7_toNextOrder_20 : decode cX7_toNextOrder 20 = .ok (.iadd, 1) := by decide +kernel
theorem dX7_toNextOrder_21 : decode cX7_toNextOrder 21 = .ok (.iaload, 1) := by decide +kernel
theorem dX7_toNextOrder_22 : decode cX7_toNextOrder 22 = .ok (.if_icmp .le 9, 3) := by decide +kernel
theorem dX7_toNextOrder_25 : decode cX7_toNextOrder 25 = .ok (.iinc 2 (-1), 3) := by decide +kernel
theorem dX7_toNextOrder_28 : decode cX7_toNextOrder 28 = .ok (.goto (-24), 3) := by decide +kernel
theorem dX7_toNextOrder_31 : decode cX7_toNextOrder 31 = .ok (.iload_n 2, 1) := by decide +kernel
theorem dX7_toNextOrder_32 : decode cX7_toNextOrder 32 = .ok (.ifCond .ge 5, 3) := by decide +kernel
theorem dX7_toNextOrder_35 : decode cX7_toNextOrder 35 = .ok (.iconst 0, 1) := by decide +kernel
theorem dX7_toNextOrder_36 : decode cX7_toNextOrder 36 = .ok (.ireturn, 1) := by decide +kernel
theorem dX7_toNextOrder_37 : decode cX7_toNextOrder 37 = .ok (.iload_n 1, 1) := by decide +kernel
theorem dX7_toNextOrder_38 : decode cX7_toNextOrder 38 = .ok (.iconst 1, 1) := by decide +kernel
theorem dX7_toNextOrder_39 : decode cX7_toNextOrder 39 = .ok (.isub, 1) := by decide +kernel
theorem dX7_toNextOrder_40 : decode cX7_toNextOrder 40 = .ok (.istore_n 3, 1) := by decide +kernel
theorem dX7_toNextOrder_41 : decode cX7_toNextOrder 41 = .ok (.iload_n 3, 1) := by decide +kernel
theorem dX7_toNextOrder_42 : decode cX7_toNextOrder 42 = .ok (.iload_n 2, 1) := by decide +kernel
theorem dX7_toNextOrder_43 : decode cX7_toNextOrder 43 = .ok (.if_icmp .le 24, 3) := by decide +kernel
theorem dX7_toNextOrder_46 : decode cX7_toNextOrder 46 = .ok (.aload_n 0, 1) := by decide +kernel
theorem dX7_toNextOrder_47 : decode cX7_toNextOrder 47 = .ok (.getfield 85, 3) := by decide +kernel
theorem dX7_toNextOrder_50 : decode cX7_toNextOrder 50 = .ok (.iload_n 3, 1) := by decide +kernel
theorem dX7_toNextOrder_51 : decode cX7_toNextOrder 51 = .ok (.iaload, 1) := by decide +kernel
theorem dX7_toNextOrder_52 : decode cX7_toNextOrder 52 = .ok (.aload_n 0, 1) := by decide +kernel
theorem dX7_toNextOrder_53 : decode cX7_toNextOrder 53 = .ok (.getfield 85, 3) := by decide +kernel
theorem dX7_toNextOrder_56 : decode cX7_toNextOrder 56 = .ok (.iload_n 2, 1) := by decide +kernel
theorem dX7_toNextOrder_57 : decode cX7_toNextOrder 57 = .ok (.iaload, 1) := by decide +kernel
theorem dX7_toNextOrder_58 : decode cX7_toNextOrder 58 = .ok (.if_icmp .ge 9, 3) := by decide +kernel
theorem dX7_toNextOrder_61 : decode cX7_toNextOrder 61 = .ok (.iinc 3 (-1), 3) := by decide +kernel
theorem dX7_toNextOrder_64 : decode cX7_toNextOrder 64 = .ok (.goto (-23), 3) := by decide +kernel
theorem dX7_toNextOrder_67 : decode cX7_toNextOrder 67 = .ok (.aload_n 0, 1) := by decide +kernel
theorem dX7_toNextOrder_68 : decode cX7_toNextOrder 68 = .ok (.iload_n 2, 1) := by decide +kernel
theorem dX7_toNextOrder_69 : decode cX7_toNextOrder 69 = .ok (.iload_n 3, 1) := by decide +kernel
theorem dX7_toNextOrder_70 : decode cX7_toNextOrder 70 = .ok (.invokevirtual 374, 3) := by decide +kernel
theorem dX7_toNextOrder_73 : decode cX7_toNextOrder 73 = .ok (.iload_n 1, 1) := by decide +kernel
theorem dX7_toNextOrder_74 : decode cX7_toNextOrder 74 = .ok (.iconst 1, 1) := by decide +kernel
theorem dX7_toNextOrder_75 : decode cX7_toNextOrder 75 = .ok (.isub, 1) := by decide +kernel
theorem dX7_toNextOrder_76 : decode cX7_toNextOrder 76 = .ok (.istore 4, 2) := by decide +kernel
theorem dX7_toNextOrder_78 : decode cX7_toNextOrder 78 = .ok (.iload_n 2, 1) := by decide +kernel
theorem dX7_toNextOrder_79 : decode cX7_toNextOrder 79 = .ok (.iconst 1, 1) := by decide +kernel
theorem dX7_toNextOrder_80 : decode cX7_toNextOrder 80 = .ok (.iadd, 1) := by decide +kernel
theorem dX7_toNextOrder_81 : decode cX7_toNextOrder 81 = .ok (.istore 5, 2) := by decide +kernel
theorem dX7_toNextOrder_83 : decode cX7_toNextOrder 83 = .ok (.iload 5, 2) := by decide +kernel
theorem dX7_toNextOrder_85 : decode cX7_toNextOrder 85 = .ok (.iload 4, 2) := by decide +kernel
theorem dX7_toNextOrder_87 : decode cX7_toNextOrder 87 = .ok (.if_icmp .ge 20, 3) := by decide +kernel
theorem dX7_toNextOrder_90 : decode cX7_toNextOrder 90 = .ok (.aload_n 0, 1) := by decide +kernel
theorem dX7_toNextOrder_91 : decode cX7_toNextOrder 91 = .ok (.iload 5, 2) := by decide +kernel
theorem dX7_toNextOrder_93 : decode cX7_toNextOrder 93 = .ok (.iload 4, 2) := by decide +kernel
theorem dX7_toNextOrder_95 : decode cX7_toNextOrder 95 = .ok (.invokevirtual 374, 3) := by decide +kernel
theorem dX7_toNextOrder_98 : decode cX7_toNextOrder 98 = .ok (.iinc 4 (-1), 3) := by decide +kernel
theorem dX7_toNextOrder_101 : decode cX7_toNextOrder 101 = .ok (.iinc 5 1, 3) := by decide +kernel
theorem dX7_toNextOrder_104 : decode cX7_toNextOrder 104 = .ok (.goto (-21), 3) := by decide +kernel
theorem dX7_toNextOrder_107 : decode cX7_toNextOrder 107 = .ok (.iconst 1, 1) := by decide +kernel
theorem dX7_toNextOrder_108 : decode cX7_toNextOrder 108 = .ok (.ireturn, 1) := by decide +kernel
theorem dX7_swapPlaces_0 : decode cX7_swapPlaces 0 = .ok (.aload_n 0, 1) := by decide +kernel
theorem dX7_swapPlaces_1 : decode cX7_swapPlaces 1 = .ok (.getfield 85, 3) := by decide +kernel
theorem dX7_swapPlaces_4 : decode cX7_swapPlaces 4 = .ok (.iload_n 1, 1) := by decide +kernel
theorem dX7_swapPlaces_5 : decode cX7_swapPlaces 5 = .ok (.iaload, 1) := by decide +kernel
theorem dX7_swapPlaces_6 : decode cX7_swapPlaces 6 = .ok (.istore_n 3, 1) := by decide +kernel
theorem dX7_swapPlaces_7 : decode cX7_swapPlaces 7 = .ok (.aload_n 0, 1) := by decide +kernel
theorem dX7_swapPlaces_8 : decode cX7_swapPlaces 8 = .ok (.getfield 85, 3) := by decide +kernel
theorem dX7_swapPlaces_11 : decode cX7_swapPlaces 11 = .ok (.iload_n 1, 1) := by decide +kernel
theorem dX7_swapPlaces_12 : decode cX7_swapPlaces 12 = .ok (.aload_n 0, 1) := by decide +kernel
theorem dX7_swapPlaces_13 : decode cX7_swapPlaces 13 = .ok (.getfield 85, 3) := by decide +kernel
theorem dX7_swapPlaces_16 : decode cX7_swapPlaces 16 = .ok (.iload_n 2, 1) := by decide +kernel
theorem dX7_swapPlaces_17 : decode cX7_swapPlaces 17 = .ok (.iaload, 1) := by decide +kernel
theorem dX7_swapPlaces_18 : decode cX7_swapPlaces 18 = .ok (.iastore, 1) := by decide +kernel
theorem dX7_swapPlaces_19 : decode cX7_swapPlaces 19 = .ok (.aload_n 0, 1) := by decide +kernel
theorem dX7_swapPlaces_20 : decode cX7_swapPlaces 20 = .ok (.getfield 85, 3) := by decide +kernel
theorem dX7_swapPlaces_23 : decode cX7_swapPlaces 23 = .ok (.iload_n 2, 1) := by decide +kernel
theorem dX7_swapPlaces_24 : decode cX7_swapPlaces 24 = .ok (.iload_n 3, 1) := by decide +kernel
theorem dX7_swapPlaces_25 : decode cX7_swapPlaces 25 = .ok (.iastore, 1) := by decide +kernel
theorem dX7_swapPlaces_26 : decode cX7_swapPlaces 26 = .ok (.return_, 1) := by decide +kernel
theorem dX7_tellsNumbers_0 : decode cX7_tellsNumbers 0 = .ok (.aload_n 0, 1) := by decide +kernel
theorem dX7_tellsNumbers_1 : decode cX7_tellsNumbers 1 = .ok (.getfield 44, 3) := by decide +kernel
theorem dX7_tellsNumbers_4 : decode cX7_tellsNumbers 4 = .ok (.iload_n 1, 1) := by decide +kernel
theorem dX7_tellsNumbers_5 : decode cX7_tellsNumbers 5 = .ok (.if_icmp .eq 5, 3) := by decide +kernel
theorem dX7_tellsNumbers_8 : decode cX7_tellsNumbers 8 = .ok (.iconst 0, 1) := by decide +kernel
theorem dX7_tellsNumbers_9 : decode cX7_tellsNumbers 9 = .ok (.ireturn, 1) := by decide +kernel
theorem dX7_tellsNumbers_10 : decode cX7_tellsNumbers 10 = .ok (.iconst 0, 1) := by decide +kernel
theorem dX7_tellsNumbers_11 : decode cX7_tellsNumbers 11 = .ok (.istore_n 2, 1) := by decide +kernel
theorem dX7_tellsNumbers_12 : decode cX7_tellsNumbers 12 = .ok (.iload_n 2, 1) := by decide +kernel
theorem dX7_tellsNumbers_13 : decode cX7_tellsNumbers 13 = .ok (.aload_n 0, 1) := by decide +kernel
theorem dX7_tellsNumbers_14 : decode cX7_tellsNumbers 14 = .ok (.getfield 44, 3) := by decide +kernel
theorem dX7_tellsNumbers_17 : decode cX7_tellsNumbers 17 = .ok (.if_icmp .ge 22, 3) := by decide +kernel
theorem dX7_tellsNumbers_20 : decode cX7_tellsNumbers 20 = .ok (.aload_n 0, 1) := by decide +kernel
theorem dX7_tellsNumbers_21 : decode cX7_tellsNumbers 21 = .ok (.getfield 40, 3) := by decide +kernel
theorem dX7_tellsNumbers_24 : decode cX7_tellsNumbers 24 = .ok (.iload_n 2, 1) := by decide +kernel
theorem dX7_tellsNumbers_25 : decode cX7_tellsNumbers 25 = .ok (.iaload, 1) := by decide +kernel
theorem dX7_tellsNumbers_26 : decode cX7_tellsNumbers 26 = .ok (.bipush 18, 2) := by decide +kernel
theorem dX7_tellsNumbers_28 : decode cX7_tellsNumbers 28 = .ok (.if_icmp .le 5, 3) := by decide +kernel
theorem dX7_tellsNumbers_31 : decode cX7_tellsNumbers 31 = .ok (.iconst 0, 1) := by decide +kernel
theorem dX7_tellsNumbers_32 : decode cX7_tellsNumbers 32 = .ok (.ireturn, 1) := by decide +kernel
theorem dX7_tellsNumbers_33 : decode cX7_tellsNumbers 33 = .ok (.iinc 2 1, 3) := by decide +kernel
theorem dX7_tellsNumbers_36 : decode cX7_tellsNumbers 36 = .ok (.goto (-24), 3) := by decide +kernel
theorem dX7_tellsNumbers_39 : decode cX7_tellsNumbers 39 = .ok (.iconst 1, 1) := by decide +kernel
theorem dX7_tellsNumbers_40 : decode cX7_tellsNumbers 40 = .ok (.ireturn, 1) := by decide +kernel
theorem dX7_readTold_0 : decode cX7_readTold 0 = .ok (.aload_n 1, 1) := by decide +kernel
theorem dX7_readTold_1 : decode cX7_readTold 1 = .ok (.aload_n 0, 1) := by decide +kernel
theorem dX7_readTold_2 : decode cX7_readTold 2 = .ok (.getfield 10, 3) := by decide +kernel
theorem dX7_readTold_5 : decode cX7_readTold 5 = .ok (.getfield 118, 3) := by decide +kernel
theorem dX7_readTold_8 : decode cX7_readTold 8 = .ok (.invokevirtual 236, 3) := by decide +kernel
theorem dX7_readTold_11 : decode cX7_readTold 11 = .ok (.iconst 0, 1) := by decide +kernel
theorem dX7_readTold_12 : decode cX7_readTold 12 = .ok (.istore 4, 2) := by decide +kernel
theorem dX7_readTold_14 : decode cX7_readTold 14 = .ok (.iload 4, 2) := by decide +kernel
theorem dX7_readTold_16 : decode cX7_readTold 16 = .ok (.aload_n 1, 1) := by decide +kernel
theorem dX7_readTold_17 : decode cX7_readTold 17 = .ok (.getfield 155, 3) := by decide +kernel
theorem dX7_readTold_20 : decode cX7_readTold 20 = .ok (.if_icmp .ge 47, 3) := by decide +kernel
theorem dX7_readTold_23 : decode cX7_readTold 23 = .ok (.iload_n 2, 1) := by decide +kernel
theorem dX7_readTold_24 : decode cX7_readTold 24 = .ok (.iload_n 3, 1) := by decide +kernel
theorem dX7_readTold_25 : decode cX7_readTold 25 = .ok (.iload 4, 2) := by decide +kernel
theorem dX7_readTold_27 : decode cX7_readTold 27 = .ok (.imul, 1) := by decide +kernel
theorem dX7_readTold_28 : decode cX7_readTold 28 = .ok (.iadd, 1) := by decide +kernel
theorem dX7_readTold_29 : decode cX7_readTold 29 = .ok (.istore 5, 2) := by decide +kernel
theorem dX7_readTold_31 : decode cX7_readTold 31 = .ok (.iload 5, 2) := by decide +kernel
theorem dX7_readTold_33 : decode cX7_readTold 33 = .ok (.ifCond .lt 28, 3) := by decide +kernel
theorem dX7_readTold_36 : decode cX7_readTold 36 = .ok (.iload 5, 2) := by decide +kernel
theorem dX7_readTold_38 : decode cX7_readTold 38 = .ok (.aload_n 0, 1) := by decide +kernel
theorem dX7_readTold_39 : decode cX7_readTold 39 = .ok (.getfield 44, 3) := by decide +kernel
theorem dX7_readTold_42 : decode cX7_readTold 42 = .ok (.if_icmp .ge 19, 3) := by decide +kernel
theorem dX7_readTold_45 : decode cX7_readTold 45 = .ok (.aload_n 1, 1) := by decide +kernel
theorem dX7_readTold_46 : decode cX7_readTold 46 = .ok (.iload 4, 2) := by decide +kernel
theorem dX7_readTold_48 : decode cX7_readTold 48 = .ok (.aload_n 0, 1) := by decide +kernel
theorem dX7_readTold_49 : decode cX7_readTold 49 = .ok (.getfield 40, 3) := by decide +kernel
theorem dX7_readTold_52 : decode cX7_readTold 52 = .ok (.iload 5, 2) := by decide +kernel
theorem dX7_readTold_54 : decode cX7_readTold 54 = .ok (.iaload, 1) := by decide +kernel
theorem dX7_readTold_55 : decode cX7_readTold 55 = .ok (.bipush 9, 2) := by decide +kernel
theorem dX7_readTold_57 : decode cX7_readTold 57 = .ok (.isub, 1) := by decide +kernel
theorem dX7_readTold_58 : decode cX7_readTold 58 = .ok (.invokevirtual 138, 3) := by decide +kernel
theorem dX7_readTold_61 : decode cX7_readTold 61 = .ok (.iinc 4 1, 3) := by decide +kernel
theorem dX7_readTold_64 : decode cX7_readTold 64 = .ok (.goto (-50), 3) := by decide +kernel
theorem dX7_readTold_67 : decode cX7_readTold 67 = .ok (.return_, 1) := by decide +kernel
theorem dX7_firstNotSo_0 : decode cX7_firstNotSo 0 = .ok (.aload_n 0, 1) := by decide +kernel
theorem dX7_firstNotSo_1 : decode cX7_firstNotSo 1 = .ok (.iconst 0, 1) := by decide +kernel
theorem dX7_firstNotSo_2 : decode cX7_firstNotSo 2 = .ok (.invokevirtual 171, 3) := by decide +kernel
theorem dX7_firstNotSo_5 : decode cX7_firstNotSo 5 = .ok (.iconst 0, 1) := by decide +kernel
theorem dX7_firstNotSo_6 : decode cX7_firstNotSo 6 = .ok (.istore_n 1, 1) := by decide +kernel
theorem dX7_firstNotSo_7 : decode cX7_firstNotSo 7 = .ok (.iload_n 1, 1) := by decide +kernel
theorem dX7_firstNotSo_8 : decode cX7_firstNotSo 8 = .ok (.aload_n 0, 1) := by decide +kernel
theorem dX7_firstNotSo_9 : decode cX7_firstNotSo 9 = .ok (.getfield 44, 3) := by decide +kernel
theorem dX7_firstNotSo_12 : decode cX7_firstNotSo 12 = .ok (.if_icmp .ge 53, 3) := by decide +kernel
theorem dX7_firstNotSo_15 : decode cX7_firstNotSo 15 = .ok (.iload_n 1, 1) := by decide +kernel
theorem dX7_firstNotSo_16 : decode cX7_firstNotSo 16 = .ok (.aload_n 0, 1) := by decide +kernel
theorem dX7_firstNotSo_17 : decode cX7_firstNotSo 17 = .ok (.getfield 10, 3) := by decide +kernel
theorem dX7_firstNotSo_20 : decode cX7_firstNotSo 20 = .ok (.getfield 152, 3) := by decide +kernel
theorem dX7_firstNotSo_23 : decode cX7_firstNotSo 23 = .ok (.if_icmp .gt 22, 3) := by decide +kernel
theorem dX7_firstNotSo_26 : decode cX7_firstNotSo 26 = .ok (.aload_n 0, 1) := by decide +kernel
theorem dX7_firstNotSo_27 : decode cX7_firstNotSo 27 = .ok (.getfield 40, 3) := by decide +kernel
theorem dX7_firstNotSo_30 : decode cX7_firstNotSo 30 = .ok (.iload_n 1, 1) := by decide +kernel
theorem dX7_firstNotSo_31 : decode cX7_firstNotSo 31 = .ok (.iaload, 1) := by decide +kernel
theorem dX7_firstNotSo_32 : decode cX7_firstNotSo 32 = .ok (.aload_n 0, 1) := by decide +kernel
theorem dX7_firstNotSo_33 : decode cX7_firstNotSo 33 = .ok (.getfield 54, 3) := by decide +kernel
theorem dX7_firstNotSo_36 : decode cX7_firstNotSo 36 = .ok (.invokevirtual 183, 3) := by decide +kernel
theorem dX7_firstNotSo_39 : decode cX7_firstNotSo 39 = .ok (.bipush 50, 2) := by decide +kernel
theorem dX7_firstNotSo_41 : decode cX7_firstNotSo 41 = .ok (.iadd, 1) := by decide +kernel
theorem dX7_firstNotSo_42 : decode cX7_firstNotSo 42 = .ok (.if_icmp .eq 5, 3) := by decide +kernel
theorem dX7_firstNotSo_45 : decode cX7_firstNotSo 45 = .ok (.iload_n 1, 1) := by decide +kernel
theorem dX7_firstNotSo_46 : decode cX7_firstNotSo 46 = .ok (.ireturn, 1) := by decide +kernel
theorem dX7_firstNotSo_47 : decode cX7_firstNotSo 47 = .ok (.aload_n 0, 1) := by decide +kernel
theorem dX7_firstNotSo_48 : decode cX7_firstNotSo 48 = .ok (.getfield 10, 3) := by decide +kernel
theorem dX7_firstNotSo_51 : decode cX7_firstNotSo 51 = .ok (.iload_n 1, 1) := by decide +kernel
theorem dX7_firstNotSo_52 : decode cX7_firstNotSo 52 = .ok (.aload_n 0, 1) := by decide +kernel
theorem dX7_firstNotSo_53 : decode cX7_firstNotSo 53 = .ok (.getfield 54, 3) := by decide +kernel
theorem dX7_firstNotSo_56 : decode cX7_firstNotSo 56 = .ok (.invokevirtual 186, 3) := by decide +kernel
theorem dX7_firstNotSo_59 : decode cX7_firstNotSo 59 = .ok (.iinc 1 1, 3) := by decide +kernel
theorem dX7_firstNotSo_62 : decode cX7_firstNotSo 62 = .ok (.goto (-55), 3) := by decide +kernel
theorem dX7_firstNotSo_65 : decode cX7_firstNotSo 65 = .ok (.bipush (-9), 2) := by decide +kernel
theorem dX7_firstNotSo_67 : decode cX7_firstNotSo 67 = .ok (.ireturn, 1) := by decide +kernel
theorem dX7_power_0 : decode cX7_power 0 = .ok (.lconst 1, 1) := by decide +kernel
theorem dX7_power_1 : decode cX7_power 1 = .ok (.lstore_n 2, 1) := by decide +kernel
theorem dX7_power_2 : decode cX7_power 2 = .ok (.iconst 0, 1) := by decide +kernel
theorem dX7_power_3 : decode cX7_power 3 = .ok (.istore 4, 2) := by decide +kernel
theorem dX7_power_5 : decode cX7_power 5 = .ok (.iload 4, 2) := by decide +kernel
theorem dX7_power_7 : decode cX7_power 7 = .ok (.iload_n 1, 1) := by decide +kernel
theorem dX7_power_8 : decode cX7_power 8 = .ok (.if_icmp .ge 14, 3) := by decide +kernel
theorem dX7_power_11 : decode cX7_power 11 = .ok (.lload_n 2, 1) := by decide +kernel
theorem dX7_power_12 : decode cX7_power 12 = .ok (.iload_n 0, 1) := by decide +kernel
theorem dX7_power_13 : decode cX7_power 13 = .ok (.i2l, 1) := by decide +kernel
theorem dX7_power_14 : decode cX7_power 14 = .ok (.lmul, 1) := by decide +kernel
theorem dX7_power_15 : decode cX7_power 15 = .ok (.lstore_n 2, 1) := by decide +kernel
theorem dX7_power_16 : decode cX7_power 16 = .ok (.iinc 4 1, 3) := by decide +kernel
theorem dX7_power_19 : decode cX7_power 19 = .ok (.goto (-14), 3) := by decide +kernel
theorem dX7_power_22 : decode cX7_power 22 = .ok (.lload_n 2, 1) := by decide +kernel
theorem dX7_power_23 : decode cX7_power 23 = .ok (.lreturn, 1) := by decide +kernel
theorem dX7_commonDivisor_0 : decode cX7_commonDivisor 0 = .ok (.lload_n 0, 1) := by decide +kernel
theorem dX7_commonDivisor_1 : decode cX7_commonDivisor 1 = .ok (.lstore 4, 2) := by decide +kernel
theorem dX7_commonDivisor_3 : decode cX7_commonDivisor 3 = .ok (.lload_n 2, 1) := by decide +kernel
theorem dX7_commonDivisor_4 : decode cX7_commonDivisor 4 = .ok (.lstore 6, 2) := by decide +kernel
theorem dX7_commonDivisor_6 : decode cX7_commonDivisor 6 = .ok (.iconst 0, 1) := by decide +kernel
theorem dX7_commonDivisor_7 : decode cX7_commonDivisor 7 = .ok (.istore 8, 2) := by decide +kernel
theorem dX7_commonDivisor_9 : decode cX7_commonDivisor 9 = .ok (.iload 8, 2) := by decide +kernel
theorem dX7_commonDivisor_11 : decode cX7_commonDivisor 11 = .ok (.sipush 200, 3) := by decide +kernel
theorem dX7_commonDivisor_14 : decode cX7_commonDivisor 14 = .ok (.if_icmp .ge 31, 3) := by decide +kernel
theorem dX7_commonDivisor_17 : decode cX7_commonDivisor 17 = .ok (.lload 6, 2) := by decide +kernel
theorem dX7_commonDivisor_19 : decode cX7_commonDivisor 19 = .ok (.lconst 0, 1) := by decide +kernel
theorem dX7_commonDivisor_20 : decode cX7_commonDivisor 20 = .ok (.lcmp, 1) := by decide +kernel
theorem dX7_commonDivisor_21 : decode cX7_commonDivisor 21 = .ok (.ifCond .eq 24, 3) := by decide +kernel
theorem dX7_commonDivisor_24 : decode cX7_commonDivisor 24 = .ok (.lload 4, 2) := by decide +kernel
theorem dX7_commonDivisor_26 : decode cX7_commonDivisor 26 = .ok (.lload 6, 2) := by decide +kernel
theorem dX7_commonDivisor_28 : decode cX7_commonDivisor 28 = .ok (.lrem, 1) := by decide +kernel
theorem dX7_commonDivisor_29 : decode cX7_commonDivisor 29 = .ok (.lstore 9, 2) := by decide +kernel
theorem dX7_commonDivisor_31 : decode cX7_commonDivisor 31 = .ok (.lload 6, 2) := by decide +kernel
theorem dX7_commonDivisor_33 : decode cX7_commonDivisor 33 = .ok (.lstore 4, 2) := by decide +kernel
theorem dX7_commonDivisor_35 : decode cX7_commonDivisor 35 = .ok (.lload 9, 2) := by decide +kernel
theorem dX7_commonDivisor_37 : decode cX7_commonDivisor 37 = .ok (.lstore 6, 2) := by decide +kernel
theorem dX7_commonDivisor_39 : decode cX7_commonDivisor 39 = .ok (.iinc 8 1, 3) := by decide +kernel
theorem dX7_commonDivisor_42 : decode cX7_commonDivisor 42 = .ok (.goto (-33), 3) := by decide +kernel
theorem dX7_commonDivisor_45 : decode cX7_commonDivisor 45 = .ok (.lload 4, 2) := by decide +kernel
theorem dX7_commonDivisor_47 : decode cX7_commonDivisor 47 = .ok (.lreturn, 1) := by decide +kernel
theorem dX8_init_0 : decode cX8_init 0 = .ok (.aload_n 0, 1) := by decide +kernel
theorem dX8_init_1 : decode cX8_init 1 = .ok (.invokespecial 1, 3) := by decide +kernel
theorem dX8_init_4 : decode cX8_init 4 = .ok (.aload_n 0, 1) := by decide +kernel
theorem dX8_init_5 : decode cX8_init 5 = .ok (.bipush 7, 2) := by decide +kernel
theorem dX8_init_7 : decode cX8_init 7 = .ok (.newarray .int, 2) := by decide +kernel
theorem dX8_init_9 : decode cX8_init 9 = .ok (.putfield 7, 3) := by decide +kernel
theorem dX8_init_12 : decode cX8_init 12 = .ok (.aload_n 0, 1) := by decide +kernel
theorem dX8_init_13 : decode cX8_init 13 = .ok (.bipush 7, 2) := by decide +kernel
theorem dX8_init_15 : decode cX8_init 15 = .ok (.newarray .int, 2) := by decide +kernel
theorem dX8_init_17 : decode cX8_init 17 = .ok (.putfield 13, 3) := by decide +kernel
theorem dX8_init_20 : decode cX8_init 20 = .ok (.aload_n 0, 1) := by decide +kernel
theorem dX8_init_21 : decode cX8_init 21 = .ok (.bipush 7, 2) := by decide +kernel
theorem dX8_init_23 : decode cX8_init 23 = .ok (.newarray .int, 2) := by decide +kernel
theorem dX8_init_25 : decode cX8_init 25 = .ok (.putfield 16, 3) := by decide +kernel
theorem dX8_init_28 : decode cX8_init 28 = .ok (.aload_n 0, 1) := by decide +kernel
theorem dX8_init_29 : decode cX8_init 29 = .ok (.iconst 4, 1) := by decide +kernel
theorem dX8_init_30 : decode cX8_init 30 = .ok (.putfield 19, 3) := by decide +kernel
theorem dX8_init_33 : decode cX8_init 33 = .ok (.aload_n 0, 1) := by decide +kernel
theorem dX8_init_34 : decode cX8_init 34 = .ok (.bipush 8, 2) := by decide +kernel
theorem dX8_init_36 : decode cX8_init 36 = .ok (.newarray .int, 2) := by decide +kernel
theorem dX8_init_38 : decode cX8_init 38 = .ok (.putfield 23, 3) := by decide +kernel
theorem dX8_init_41 : decode cX8_init 41 = .ok (.aload_n 0, 1) := by decide +kernel
theorem dX8_init_42 : decode cX8_init 42 = .ok (.bipush 100, 2) := by decide +kernel
theorem dX8_init_44 : decode cX8_init 44 = .ok (.putfield 26, 3) := by decide +kernel
theorem dX8_init_47 : decode cX8_init 47 = .ok (.aload_n 0, 1) := by decide +kernel
theorem dX8_init_48 : decode cX8_init 48 = .ok (.bipush 6, 2) := by decide +kernel
theorem dX8_init_50 : decode cX8_init 50 = .ok (.putfield 29, 3) := by decide +kernel
theorem dX8_init_53 : decode cX8_init 53 = .ok (.aload_n 0, 1) := by decide +kernel
theorem dX8_init_54 : decode cX8_init 54 = .ok (.bipush 7, 2) := by decide +kernel
theorem dX8_init_56 : decode cX8_init 56 = .ok (.newarray .int, 2) := by decide +kernel
theorem dX8_init_58 : decode cX8_init 58 = .ok (.putfield 32, 3) := by decide +kernel
theorem dX8_init_61 : decode cX8_init 61 = .ok (.aload_n 0, 1) := by decide +kernel
theorem dX8_init_62 : decode cX8_init 62 = .ok (.bipush 8, 2) := by decide +kernel
theorem dX8_init_64 : decode cX8_init 64 = .ok (.newarray .int, 2) := by decide +kernel
theorem dX8_init_66 : decode cX8_init 66 = .ok (.putfield 35, 3) := by decide +kernel
theorem dX8_init_69 : decode cX8_init 69 = .ok (.aload_n 0, 1) := by decide +kernel
theorem dX8_init_70 : decode cX8_init 70 = .ok (.bipush 96, 2) := by decide +kernel
theorem dX8_init_72 : decode cX8_init 72 = .ok (.newarray .int, 2) := by decide +kernel
theorem dX8_init_74 : decode cX8_init 74 = .ok (.putfield 38, 3) := by decide +kernel
theorem dX8_init_77 : decode cX8_init 77 = .ok (.aload_n 0, 1) := by decide +kernel
theorem dX8_init_78 : decode cX8_init 78 = .ok (.bipush 49, 2) := by decide +kernel
theorem dX8_init_80 : decode cX8_init 80 = .ok (.newarray .int, 2) := by decide +kernel
theorem dX8_init_82 : decode cX8_init 82 = .ok (.putfield 41, 3) := by decide +kernel
theorem dX8_init_85 : decode cX8_init 85 = .ok (.aload_n 0, 1) := by decide +kernel
theorem dX8_init_86 : decode cX8_init 86 = .ok (.bipush 49, 2) := by decide +kernel
theorem dX8_init_88 : decode cX8_init 88 = .ok (.newarray .int, 2) := by decide +kernel
theorem dX8_init_90 : decode cX8_init 90 = .ok (.putfield 44, 3) := by decide +kernel
theorem dX8_init_93 : decode cX8_init 93 = .ok (.aload_n 0, 1) := by decide +kernel
theorem dX8_init_94 : decode cX8_init 94 = .ok (.sipush 147, 3) := by decide +kernel
theorem dX8_init_97 : decode cX8_init 97 = .ok (.newarray .int, 2) := by decide +kernel
theorem dX8_init_99 : decode cX8_init 99 = .ok (.putfield 47, 3) := by decide +kernel
theorem dX8_init_102 : decode cX8_init 102 = .ok (.aload_n 0, 1) := by decide +kernel
theorem dX8_init_103 : decode cX8_init 103 = .ok (.bipush 33, 2) := by decide +kernel
theorem dX8_init_105 : decode cX8_init 105 = .ok (.newarray .int, 2) := by decide +kernel
theorem dX8_init_107 : decode cX8_init 107 = .ok (.putfield 50, 3) := by decide +kernel
theorem dX8_init_110 : decode cX8_init 110 = .ok (.aload_n 0, 1) := by decide +kernel
theorem dX8_init_111 : decode cX8_init 111 = .ok (.bipush 33, 2) := by decide +kernel
theorem dX8_init_113 : decode cX8_init 113 = .ok (.newarray .int, 2) := by decide +kernel
theorem dX8_init_115 : decode cX8_init 115 = .ok (.putfield 53, 3) := by decide +kernel
theorem dX8_init_118 : decode cX8_init 118 = .ok (.aload_n 0, 1) := by decide +kernel
theorem dX8_init_119 : decode cX8_init 119 = .ok (.sipush 264, 3) := by decide +kernel
theorem dX8_init_122 : decode cX8_init 122 = .ok (.newarray .int, 2) := by decide +kernel
theorem dX8_init_124 : decode cX8_init 124 = .ok (.putfield 56, 3) := by decide +kernel
theorem dX8_init_127 : decode cX8_init 127 = .ok (.aload_n 0, 1) := by decide +kernel
theorem dX8_init_128 : decode cX8_init 128 = .ok (.bipush 33, 2) := by decide +kernel
theorem dX8_init_130 : decode cX8_init 130 = .ok (.newarray .int, 2) := by decide +kernel
theorem dX8_init_132 : decode cX8_init 132 = .ok (.putfield 59, 3) := by decide +kernel
theorem dX8_init_135 : decode cX8_init 135 = .ok (.aload_n 0, 1) := by decide +kernel
theorem dX8_init_136 : decode cX8_init 136 = .ok (.sipush 1608, 3) := by decide +kernel
theorem dX8_init_139 : decode cX8_init 139 = .ok (.newarray .int, 2) := by decide +kernel
theorem dX8_init_141 : decode cX8_init 141 = .ok (.putfield 62, 3) := by decide +kernel
theorem dX8_init_144 : decode cX8_init 144 = .ok (.aload_n 0, 1) := by decide +kernel
theorem dX8_init_145 : decode cX8_init 145 = .ok (.sipush 201, 3) := by decide +kernel
theorem dX8_init_148 : decode cX8_init 148 = .ok (.newarray .int, 2) := by decide +kernel
theorem dX8_init_150 : decode cX8_init 150 = .ok (.putfield 65, 3) := by decide +kernel
theorem dX8_init_153 : decode cX8_init 153 = .ok (.aload_n 0, 1) := by decide +kernel
theorem dX8_init_154 : decode cX8_init 154 = .ok (.bipush 8, 2) := by decide +kernel
theorem dX8_init_156 : decode cX8_init 156 = .ok (.newarray .boolean, 2) := by decide +kernel
theorem dX8_init_158 : decode cX8_init 158 = .ok (.putfield 68, 3) := by decide +kernel
theorem dX8_init_161 : decode cX8_init 161 = .ok (.aload_n 0, 1) := by decide +kernel
theorem dX8_init_162 : decode cX8_init 162 = .ok (.bipush 8, 2) := by decide +kernel
theorem dX8_init_164 : decode cX8_init 164 = .ok (.newarray .boolean, 2) := by decide +kernel
theorem dX8_init_166 : decode cX8_init 166 = .ok (.putfield 72, 3) := by decide +kernel
theorem dX8_init_169 : decode cX8_init 169 = .ok (.aload_n 0, 1) := by decide +kernel
theorem dX8_init_170 : decode cX8_init 170 = .ok (.bipush 8, 2) := by decide +kernel
theorem dX8_init_172 : decode cX8_init 172 = .ok (.newarray .boolean, 2) := by decide +kernel
theorem dX8_init_174 : decode cX8_init 174 = .ok (.putfield 75, 3) := by decide +kernel
theorem dX8_init_177 : decode cX8_init 177 = .ok (.aload_n 0, 1) := by decide +kernel
theorem dX8_init_178 : decode cX8_init 178 = .ok (.bipush 8, 2) := by decide +kernel
theorem dX8_init_180 : decode cX8_init 180 = .ok (.newarray .int, 2) := by decide +kernel
theorem dX8_init_182 : decode cX8_init 182 = .ok (.putfield 78, 3) := by decide +kernel
theorem dX8_init_185 : decode cX8_init 185 = .ok (.aload_n 0, 1) := by decide +kernel
theorem dX8_init_186 : decode cX8_init 186 = .ok (.bipush 8, 2) := by decide +kernel
theorem dX8_init_188 : decode cX8_init 188 = .ok (.newarray .int, 2) := by decide +kernel
theorem dX8_init_190 : decode cX8_init 190 = .ok (.putfield 81, 3) := by decide +kernel
theorem dX8_init_193 : decode cX8_init 193 = .ok (.aload_n 0, 1) := by decide +kernel
theorem dX8_init_194 : decode cX8_init 194 = .ok (.iconst 4, 1) := by decide +kernel
theorem dX8_init_195 : decode cX8_init 195 = .ok (.newarray .int, 2) := by decide +kernel
theorem dX8_init_197 : decode cX8_init 197 = .ok (.putfield 84, 3) := by decide +kernel
theorem dX8_init_200 : decode cX8_init 200 = .ok (.aload_n 0, 1) := by decide +kernel
theorem dX8_init_201 : decode cX8_init 201 = .ok (.bipush 16, 2) := by decide +kernel
theorem dX8_init_203 : decode cX8_init 203 = .ok (.newarray .int, 2) := by decide +kernel
theorem dX8_init_205 : decode cX8_init 205 = .ok (.putfield 87, 3) := by decide +kernel
theorem dX8_init_208 : decode cX8_init 208 = .ok (.aload_n 0, 1) := by decide +kernel
theorem dX8_init_209 : decode cX8_init 209 = .ok (.iconst 3, 1) := by decide +kernel
theorem dX8_init_210 : decode cX8_init 210 = .ok (.newarray .int, 2) := by decide +kernel
theorem dX8_init_212 : decode cX8_init 212 = .ok (.putfield 90, 3) := by decide +kernel
theorem dX8_init_215 : decode cX8_init 215 = .ok (.aload_n 0, 1) := by decide +kernel
theorem dX8_init_216 : decode cX8_init 216 = .ok (.iconst 5, 1) := by decide +kernel
theorem dX8_init_217 : decode cX8_init 217 = .ok (.newarray .int, 2) := by decide +kernel
theorem dX8_init_219 : decode cX8_init 219 = .ok (.putfield 93, 3) := by decide +kernel
theorem dX8_init_222 : decode cX8_init 222 = .ok (.aload_n 0, 1) := by decide +kernel
theorem dX8_init_223 : decode cX8_init 223 = .ok (.bipush 56, 2) := by decide +kernel
theorem dX8_init_225 : decode cX8_init 225 = .ok (.newarray .int, 2) := by decide +kernel
theorem dX8_init_227 : decode cX8_init 227 = .ok (.putfield 96, 3) := by decide +kernel
theorem dX8_init_230 : decode cX8_init 230 = .ok (.aload_n 0, 1) := by decide +kernel
theorem dX8_init_231 : decode cX8_init 231 = .ok (.iconst 3, 1) := by decide +kernel
theorem dX8_init_232 : decode cX8_init 232 = .ok (.newarray .int, 2) := by decide +kernel
theorem dX8_init_234 : decode cX8_init 234 = .ok (.putfield 99, 3) := by decide +kernel
theorem dX8_init_237 : decode cX8_init 237 = .ok (.aload_n 0, 1) := by decide +kernel
theorem dX8_init_238 : decode cX8_init 238 = .ok (.sipush 488, 3) := by decide +kernel
theorem dX8_init_241 : decode cX8_init 241 = .ok (.newarray .int, 2) := by decide +kernel
theorem dX8_init_243 : decode cX8_init 243 = .ok (.putfield 102, 3) := by decide +kernel
theorem dX8_init_246 : decode cX8_init 246 = .ok (.aload_n 0, 1) := by decide +kernel
theorem dX8_init_247 : decode cX8_init 247 = .ok (.iconst 0, 1) := by decide +kernel
theorem dX8_init_248 : decode cX8_init 248 = .ok (.putfield 105, 3) := by decide +kernel
theorem dX8_init_251 : decode cX8_init 251 = .ok (.return_, 1) := by decide +kernel
theorem dX8_in_0 : decode cX8_in 0 = .ok (.lload_n 0, 1) := by decide +kernel
theorem dX8_in_1 : decode cX8_in 1 = .ok (.lload_n 2, 1) := by decide +kernel
theorem dX8_in_2 : decode cX8_in 2 = .ok (.lcmp, 1) := by decide +kernel
theorem dX8_in_3 : decode cX8_in 3 = .ok (.ifCond .lt 14, 3) := by decide +kernel
theorem dX8_in_6 : decode cX8_in 6 = .ok (.lload_n 0, 1) := by decide +kernel
theorem dX8_in_7 : decode cX8_in 7 = .ok (.lload 4, 2) := by decide +kernel
theorem dX8_in_9 : decode cX8_in 9 = .ok (.lcmp, 1) := by decide +kernel
theorem dX8_in_10 : decode cX8_in 10 = .ok (.ifCond .gt 7, 3) := by decide +kernel
theorem dX8_in_13 : decode cX8_in 13 = .ok (.iconst 1, 1) := by decide +kernel
theorem dX8_in_14 : decode cX8_in 14 = .ok (.goto 4, 3) := by decide +kernel
theorem dX8_in_17 : decode cX8_in 17 = .ok (.iconst 0, 1) := by decide +kernel
theorem dX8_in_18 : decode cX8_in 18 = .ok (.ireturn, 1) := by decide +kernel
theorem dX8_refuse_0 : decode cX8_refuse 0 = .ok (.aload_n 0, 1) := by decide +kernel
theorem dX8_refuse_1 : decode cX8_refuse 1 = .ok (.getfield 32, 3) := by decide +kernel
theorem dX8_refuse_4 : decode cX8_refuse 4 = .ok (.iload_n 1, 1) := by decide +kernel
theorem dX8_refuse_5 : decode cX8_refuse 5 = .ok (.ineg, 1) := by decide +kernel
theorem dX8_refuse_6 : decode cX8_refuse 6 = .ok (.dup2, 1) := by decide +kernel
theorem dX8_refuse_7 : decode cX8_refuse 7 = .ok (.iaload, 1) := by decide +kernel
theorem dX8_refuse_8 : decode cX8_refuse 8 = .ok (.iconst 1, 1) := by decide +kernel
theorem dX8_refuse_9 : decode cX8_refuse 9 = .ok (.iadd, 1) := by decide +kernel
theorem dX8_refuse_10 : decode cX8_refuse 10 = .ok (.iastore, 1) := by decide +kernel
theorem dX8_refuse_11 : decode cX8_refuse 11 = .ok (.iload_n 1, 1) := by decide +kernel
theorem dX8_refuse_12 : decode cX8_refuse 12 = .ok (.ireturn, 1) := by decide +kernel
theorem dX8_isCourt_0 : decode cX8_isCourt 0 = .ok (.iload_n 1, 1) := by decide +kernel
theorem dX8_isCourt_1 : decode cX8_isCourt 1 = .ok (.i2l, 1) := by decide +kernel
theorem dX8_isCourt_2 : decode cX8_isCourt 2 = .ok (.lconst 0, 1) := by decide +kernel
theorem dX8_isCourt_3 : decode cX8_isCourt 3 = .ok (.aload_n 0, 1) := by decide +kernel
theorem dX8_isCourt_4 : decode cX8_isCourt 4 = .ok (.getfield 108, 3) := by decide +kernel
theorem dX8_isCourt_7 : decode cX8_isCourt 7 = .ok (.iconst 1, 1) := by decide +kernel
theorem dX8_isCourt_8 : decode cX8_isCourt 8 = .ok (.isub, 1) := by decide +kernel
theorem dX8_isCourt_9 : decode cX8_isCourt 9 = .ok (.i2l, 1) := by decide +kernel
theorem dX8_isCourt_10 : decode cX8_isCourt 10 = .ok (.invokestatic 111, 3) := by decide +kernel
theorem dX8_isCourt_13 : decode cX8_isCourt 13 = .ok (.ireturn, 1) := by decide +kernel
theorem dX8_wrongNumber_0 : decode cX8_wrongNumber 0 = .ok (.iload_n 0, 1) := by decide +kernel
theorem dX8_wrongNumber_1 : decode cX8_wrongNumber 1 = .ok (.iload_n 1, 1) := by decide +kernel
theorem dX8_wrongNumber_2 : decode cX8_wrongNumber 2 = .ok (.if_icmp .ge 8, 3) := by decide +kernel
theorem dX8_wrongNumber_5 : decode cX8_wrongNumber 5 = .ok (.bipush (-4), 2) := by decide +kernel
theorem dX8_wrongNumber_7 : decode cX8_wrongNumber 7 = .ok (.goto 14, 3) := by decide +kernel
theorem dX8_wrongNumber_10 : decode cX8_wrongNumber 10 = .ok (.iload_n 0, 1) := by decide +kernel
theorem dX8_wrongNumber_11 : decode cX8_wrongNumber 11 = .ok (.iload_n 2, 1) := by decide +kernel
theorem dX8_wrongNumber_12 : decode cX8_wrongNumber 12 = .ok (.if_icmp .le 8, 3) := by decide +kernel
theorem dX8_wrongNumber_15 : decode cX8_wrongNumber 15 = .ok (.bipush (-6), 2) := by decide +kernel
theorem dX8_wrongNumber_17 : decode cX8_wrongNumber 17 = .ok (.goto 4, 3) := by decide +kernel
theorem dX8_wrongNumber_20 : decode cX8_wrongNumber 20 = .ok (.iconst 0, 1) := by decide +kernel
theorem dX8_wrongNumber_21 : decode cX8_wrongNumber 21 = .ok (.ireturn, 1) := by decide +kernel
theorem dX8_wrongBit_0 : decode cX8_wrongBit 0 = .ok (.iload_n 0, 1) := by decide +kernel
theorem dX8_wrongBit_1 : decode cX8_wrongBit 1 = .ok (.ifCond .ne 19, 3) := by decide +kernel
theorem dX8_wrongBit_4 : decode cX8_wrongBit 4 = .ok (.iload_n 1, 1) := by decide +kernel
theorem dX8_wrongBit_5 : decode cX8_wrongBit 5 = .ok (.i2l, 1) := by decide +kernel
theorem dX8_wrongBit_6 : decode cX8_wrongBit 6 = .ok (.lconst 0, 1) := by decide +kernel
theorem dX8_wrongBit_7 : decode cX8_wrongBit 7 = .ok (.iload_n 2, 1) := by decide +kernel
theorem dX8_wrongBit_8 : decode cX8_wrongBit 8 = .ok (.i2l, 1) := by decide +kernel
theorem dX8_wrongBit_9 : decode cX8_wrongBit 9 = .ok (.invokestatic 111, 3) := by decide +kernel
theorem dX8_wrongBit_12 : decode cX8_wrongBit 12 = .ok (.ifCond .ne 8, 3) := by decide +kernel
theorem dX8_wrongBit_15 : decode cX8_wrongBit 15 = .ok (.bipush (-2), 2) := by decide +kernel
theorem dX8_wrongBit_17 : decode cX8_wrongBit 17 = .ok (.goto 4, 3) := by decide +kernel
theorem dX8_wrongBit_20 : decode cX8_wrongBit 20 = .ok (.iload_n 0, 1) := by decide +kernel
theorem dX8_wrongBit_21 : decode cX8_wrongBit 21 = .ok (.ireturn, 1) := by decide +kernel
theorem dX8_plainly_0 : decode cX8_plainly 0 = .ok (.iload_n 0, 1) := by decide +kernel
theorem dX8_plainly_1 : decode cX8_plainly 1 = .ok (.ifCond .ge 8, 3) := by decide +kernel
theorem dX8_plainly_4 : decode cX8_plainly 4 = .ok (.iload_n 0, 1) := by decide +kernel
theorem dX8_plainly_5 : decode cX8_plainly 5 = .ok (.ineg, 1) := by decide +kernel
theorem dX8_plainly_6 : decode cX8_plainly 6 = .ok (.goto 4, 3) := by decide +kernel
theorem dX8_plainly_9 : decode cX8_plainly 9 = .ok (.iload_n 0, 1) := by decide +kernel
theorem dX8_plainly_10 : decode cX8_plainly 10 = .ok (.ireturn, 1) := by decide +kernel
theorem dX8_held_0 : decode cX8_held 0 = .ok (.iload_n 0, 1) := by decide +kernel
theorem dX8_held_1 : decode cX8_held 1 = .ok (.bipush (-9), 2) := by decide +kernel
theorem dX8_held_3 : decode cX8_held 3 = .ok (.if_icmp .ge 8, 3) := by decide +kernel
theorem dX8_held_6 : decode cX8_held 6 = .ok (.bipush (-9), 2) := by decide +kernel
theorem dX8_held_8 : decode cX8_held 8 = .ok (.goto 15, 3) := by decide +kernel
theorem dX8_held_11 : decode cX8_held 11 = .ok (.iload_n 0, 1) := by decide +kernel
theorem dX8_held_12 : decode cX8_held 12 = .ok (.bipush 9, 2) := by decide +kernel
theorem dX8_held_14 : decode cX8_held 14 = .ok (.if_icmp .le 8, 3) := by decide +kernel
theorem dX8_held_17 : decode cX8_held 17 = .ok (.bipush 9, 2) := by decide +kernel
theorem dX8_held_19 : decode cX8_held 19 = .ok (.goto 4, 3) := by decide +kernel
theorem dX8_held_22 : decode cX8_held 22 = .ok (.iload_n 0, 1) := by decide +kernel
theorem dX8_held_23 : decode cX8_held 23 = .ok (.ireturn, 1) := by decide +kernel
theorem dX8_hasBit_0 : decode cX8_hasBit 0 = .ok (.iload_n 0, 1) := by decide +kernel
theorem dX8_hasBit_1 : decode cX8_hasBit 1 = .ok (.iload_n 1, 1) := by decide +kernel
theorem dX8_hasBit_2 : decode cX8_hasBit 2 = .ok (.ishr, 1) := by decide +kernel
theorem dX8_hasBit_3 : decode cX8_hasBit 3 = .ok (.iconst 1, 1) := by decide +kernel
theorem dX8_hasBit_4 : decode cX8_hasBit 4 = .ok (.iand, 1) := by decide +kernel
theorem dX8_hasBit_5 : decode cX8_hasBit 5 = .ok (.iconst 1, 1) := by decide +kernel
theorem dX8_hasBit_6 : decode cX8_hasBit 6 = .ok (.if_icmp .ne 7, 3) := by decide +kernel
theorem dX8_hasBit_9 : decode cX8_hasBit 9 = .ok (.iconst 1, 1) := by decide +kernel
theorem dX8_hasBit_10 : decode cX8_hasBit 10 = .ok (.goto 4, 3) := by decide +kernel
theorem dX8_hasBit_13 : decode cX8_hasBit 13 = .ok (.iconst 0, 1) := by decide +kernel
theorem dX8_hasBit_14 : decode cX8_hasBit 14 = .ok (.ireturn, 1) := by decide +kernel
theorem dX8_onesOf_0 : decode cX8_onesOf 0 = .ok (.iconst 0, 1) := by decide +kernel
theorem dX8_onesOf_1 : decode cX8_onesOf 1 = .ok (.istore_n 1, 1) := by decide +kernel
theorem dX8_onesOf_2 : decode cX8_onesOf 2 = .ok (.iload_n 0, 1) := by decide +kernel
theorem dX8_onesOf_3 : decode cX8_onesOf 3 = .ok (.istore_n 2, 1) := by decide +kernel
theorem dX8_onesOf_4 : decode cX8_onesOf 4 = .ok (.iload_n 2, 1) := by decide +kernel
theorem dX8_onesOf_5 : decode cX8_onesOf 5 = .ok (.ifCond .eq 15, 3) := by decide +kernel
theorem dX8_onesOf_8 : decode cX8_onesOf 8 = .ok (.iinc 1 1, 3) := by decide +kernel
theorem dX8_onesOf_11 : decode cX8_onesOf 11 = .ok (.iload_n 2, 1) := by decide +kernel
theorem dX8_onesOf_12 : decode cX8_onesOf 12 = .ok (.iload_n 2, 1) := by decide +kernel
theorem dX8_onesOf_13 : decode cX8_onesOf 13 = .ok (.iconst 1, 1) := by decide +kernel
theorem dX8_onesOf_14 : decode cX8_onesOf 14 = .ok (.isub, 1) := by decide +kernel
theorem dX8_onesOf_15 : decode cX8_onesOf 15 = .ok (.iand, 1) := by decide +kernel
theorem dX8_onesOf_16 : decode cX8_onesOf 16 = .ok (.istore_n 2, 1) := by decide +kernel
theorem dX8_onesOf_17 : decode cX8_onesOf 17 = .ok (.goto (-13), 3) := by decide +kernel
theorem dX8_onesOf_20 : decode cX8_onesOf 20 = .ok (.iload_n 1, 1) := by decide +kernel
theorem dX8_onesOf_21 : decode cX8_onesOf 21 = .ok (.ireturn, 1) := by decide +kernel
theorem dX8_think_0 : decode cX8_think 0 = .ok (.aload_n 0, 1) := by decide +kernel
theorem dX8_think_1 : decode cX8_think 1 = .ok (.aload_n 0, 1) := by decide +kernel
theorem dX8_think_2 : decode cX8_think 2 = .ok (.getfield 19, 3) := by decide +kernel
theorem dX8_think_5 : decode cX8_think 5 = .ok (.putfield 115, 3) := by decide +kernel
theorem dX8_think_8 : decode cX8_think 8 = .ok (.iconst 0, 1) := by decide +kernel
theorem dX8_think_9 : decode cX8_think 9 = .ok (.istore_n 1, 1) := by decide +kernel
theorem dX8_think_10 : decode cX8_think 10 = .ok (.iload_n 1, 1) := by decide +kernel
theorem dX8_think_11 : decode cX8_think 11 = .ok (.bipush 8, 2) := by decide +kernel
theorem dX8_think_13 : decode cX8_think 13 = .ok (.if_icmp .ge 21, 3) := by decide +kernel
theorem dX8_think_16 : decode cX8_think 16 = .ok (.aload_n 0, 1) := by decide +kernel
theorem dX8_think_17 : decode cX8_think 17 = .ok (.getfield 35, 3) := by decide +kernel
theorem dX8_think_20 : decode cX8_think 20 = .ok (.iload_n 1, 1) := by decide +kernel
theorem dX8_think_21 : decode cX8_think 21 = .ok (.aload_n 0, 1) := by decide +kernel
theorem dX8_think_22 : decode cX8_think 22 = .ok (.getfield 23, 3) := by decide +kernel
theorem dX8_think_25 : decode cX8_think 25 = .ok (.iload_n 1, 1) := by decide +kernel
theorem dX8_think_26 : decode cX8_think 26 = .ok (.iaload, 1) := by decide +kernel
theorem dX8_think_27 : decode cX8_think 27 = .ok (.iastore, 1) := by decide +kernel
theorem dX8_think_28 : decode cX8_think 28 = .ok (.iinc 1 1, 3) := by decide +kernel
theorem dX8_think_31 : decode cX8_think 31 = .ok (.goto (-21), 3) := by decide +kernel
theorem dX8_think_34 : decode cX8_think 34 = .ok (.return_, 1) := by decide +kernel
theorem dX8_sumNow_0 : decode cX8_sumNow 0 = .ok (.iconst 0, 1) := by decide +kernel
theorem dX8_sumNow_1 : decode cX8_sumNow 1 = .ok (.istore_n 1, 1) := by decide +kernel
theorem dX8_sumNow_2 : decode cX8_sumNow 2 = .ok (.iconst 0, 1) := by decide +kernel
theorem dX8_sumNow_3 : decode cX8_sumNow 3 = .ok (.istore_n 2, 1) := by decide +kernel
theorem dX8_sumNow_4 : decode cX8_sumNow 4 = .ok (.iload_n 2, 1) := by decide +kernel
theorem dX8_sumNow_5 : decode cX8_sumNow 5 = .ok (.aload_n 0, 1) := by decide +kernel
theorem dX8_sumNow_6 : decode cX8_sumNow 6 = .ok (.getfield 115, 3) := by decide +kernel
theorem dX8_sumNow_9 : decode cX8_sumNow 9 = .ok (.if_icmp .ge 18, 3) := by decide +kernel
theorem dX8_sumNow_12 : decode cX8_sumNow 12 = .ok (.iload_n 1, 1) := by decide +kernel
theorem dX8_sumNow_13 : decode cX8_sumNow 13 = .ok (.aload_n 0, 1) := by decide +kernel
theorem dX8_sumNow_14 : decode cX8_sumNow 14 = .ok (.getfield 35, 3) := by decide +kernel
theorem dX8_sumNow_17 : decode cX8_sumNow 17 = .ok (.iload_n 2, 1) := by decide +kernel
theorem dX8_sumNow_18 : decode cX8_sumNow 18 = .ok (.iaload, 1) := by decide +kernel
theorem dX8_sumNow_19 : decode cX8_sumNow 19 = .ok (.iadd, 1) := by decide +kernel
theorem dX8_sumNow_20 : decode cX8_sumNow 20 = .ok (.istore_n 1, 1) := by decide +kernel
theorem dX8_sumNow_21 : decode cX8_sumNow 21 = .ok (.iinc 2 1, 3) := by decide +kernel
theorem dX8_sumNow_24 : decode cX8_sumNow 24 = .ok (.goto (-20), 3) := by decide +kernel
theorem dX8_sumNow_27 : decode cX8_sumNow 27 = .ok (.iload_n 1, 1) := by decide +kernel
theorem dX8_sumNow_28 : decode cX8_sumNow 28 = .ok (.ireturn, 1) := by decide +kernel
theorem dX8_isFor_0 : decode cX8_isFor 0 = .ok (.aload_n 0, 1) := by decide +kernel
theorem dX8_isFor_1 : decode cX8_isFor 1 = .ok (.invokevirtual 118, 3) := by decide +kernel
theorem dX8_isFor_4 : decode cX8_isFor 4 = .ok (.ifCond .le 7, 3) := by decide +kernel
theorem dX8_isFor_7 : decode cX8_isFor 7 = .ok (.iconst 1, 1) := by decide +kernel
theorem dX8_isFor_8 : decode cX8_isFor 8 = .ok (.goto 4, 3) := by decide +kernel
theorem dX8_isFor_11 : decode cX8_isFor 11 = .ok (.iconst 0, 1) := by decide +kernel
theorem dX8_isFor_12 : decode cX8_isFor 12 = .ok (.ireturn, 1) := by decide +kernel
theorem dX8_surest_0 : decode cX8_surest 0 = .ok (.iconst 0, 1) := by decide +kernel
theorem dX8_surest_1 : decode cX8_surest 1 = .ok (.istore_n 1, 1) := by decide +kernel
theorem dX8_surest_2 : decode cX8_surest 2 = .ok (.iconst 1, 1) := by decide +kernel
theorem dX8_surest_3 : decode cX8_surest 3 = .ok (.istore_n 2, 1) := by decide +kernel
theorem dX8_surest_4 : decode cX8_surest 4 = .ok (.iload_n 2, 1) := by decide +kernel
theorem dX8_surest_5 : decode cX8_surest 5 = .ok (.aload_n 0, 1) := by decide +kernel
theorem dX8_surest_6 : decode cX8_surest 6 = .ok (.getfield 115, 3) := by decide +kernel
theorem dX8_surest_9 : decode cX8_surest 9 = .ok (.if_icmp .ge 36, 3) := by decide +kernel
theorem dX8_surest_12 : decode cX8_surest 12 = .ok (.aload_n 0, 1) := by decide +kernel
theorem dX8_surest_13 : decode cX8_surest 13 = .ok (.getfield 35, 3) := by decide +kernel
theorem dX8_surest_16 : decode cX8_surest 16 = .ok (.iload_n 2, 1) := by decide +kernel
theorem dX8_surest_17 : decode cX8_surest 17 = .ok (.iaload, 1) := by decide +kernel
theorem dX8_surest_18 : decode cX8_surest 18 = .ok (.invokestatic 122, 3) := by decide +kernel
theorem dX8_surest_21 : decode cX8_surest 21 = .ok (.aload_n 0, 1) := by decide +kernel
theorem dX8_surest_22 : decode cX8_surest 22 = .ok (.getfield 35, 3) := by decide +kernel
theorem dX8_surest_25 : decode cX8_surest 25 = .ok (.iload_n 1, 1) := by decide +kernel
theorem dX8_surest_26 : decode cX8_surest 26 = .ok (.iaload, 1) := by decide +kernel
theorem dX8_surest_27 : decode cX8_surest 27 = .ok (.invokestatic 122, 3) := by decide +kernel
theorem dX8_surest_30 : decode cX8_surest 30 = .ok (.if_icmp .le 7, 3) := by decide +kernel
theorem dX8_surest_33 : decode cX8_surest 33 = .ok (.iload_n 2, 1) := by decide +kernel
theorem dX8_surest_34 : decode cX8_surest 34 = .ok (.goto 4, 3) := by decide +kernel
theorem dX8_surest_37 : decode cX8_surest 37 = .ok (.iload_n 1, 1) := by decide +kernel
theorem dX8_surest_38 : decode cX8_surest 38 = .ok (.istore_n 1, 1) := by decide +kernel
theorem dX8_surest_39 : decode cX8_surest 39 = .ok (.iinc 2 1, 3) := by decide +kernel
theorem dX8_surest_42 : decode cX8_surest 42 = .ok (.goto (-38), 3) := by decide +kernel
theorem dX8_surest_45 : decode cX8_surest 45 = .ok (.iload_n 1, 1) := by decide +kernel
theorem dX8_surest_46 : decode cX8_surest 46 = .ok (.ireturn, 1) := by decide +kernel
theorem dX8_halve_0 : decode cX8_halve 0 = .ok (.aload_n 0, 1) := by decide +kernel
theorem dX8_halve_1 : decode cX8_halve 1 = .ok (.invokevirtual 126, 3) := by decide +kernel
theorem dX8_halve_4 : decode cX8_halve 4 = .ok (.istore_n 1, 1) := by decide +kernel
theorem dX8_halve_5 : decode cX8_halve 5 = .ok (.aload_n 0, 1) := by decide +kernel
theorem dX8_halve_6 : decode cX8_halve 6 = .ok (.getfield 35, 3) := by decide +kernel
theorem dX8_halve_9 : decode cX8_halve 9 = .ok (.iload_n 1, 1) := by decide +kernel
theorem dX8_halve_10 : decode cX8_halve 10 = .ok (.aload_n 0, 1) := by decide +kernel
theorem dX8_halve_11 : decode cX8_halve 11 = .ok (.getfield 35, 3) := by decide +kernel
theorem dX8_halve_14 : decode cX8_halve 14 = .ok (.iload_n 1, 1) := by decide +kernel
theorem dX8_halve_15 : decode cX8_halve 15 = .ok (.iaload, 1) := by decide +kernel
theorem dX8_halve_16 : decode cX8_halve 16 = .ok (.iconst 2, 1) := by decide +kernel
theorem dX8_halve_17 : decode cX8_halve 17 = .ok (.idiv, 1) := by decide +kernel
theorem dX8_halve_18 : decode cX8_halve 18 = .ok (.iastore, 1) := by decide +kernel
theorem dX8_halve_19 : decode cX8_halve 19 = .ok (.return_, 1) := by decide +kernel
theorem dX8_bench_0 : decode cX8_bench 0 = .ok (.aload_n 0, 1) := by decide +kernel
theorem dX8_bench_1 : decode cX8_bench 1 = .ok (.invokevirtual 126, 3) := by decide +kernel
theorem dX8_bench_4 : decode cX8_bench 4 = .ok (.istore_n 2, 1) := by decide +kernel
theorem dX8_bench_5 : decode cX8_bench 5 = .ok (.aload_n 0, 1) := by decide +kernel
theorem dX8_bench_6 : decode cX8_bench 6 = .ok (.getfield 35, 3) := by decide +kernel
theorem dX8_bench_9 : decode cX8_bench 9 = .ok (.iload_n 2, 1) := by decide +kernel
theorem dX8_bench_10 : decode cX8_bench 10 = .ok (.aload_n 0, 1) := by decide +kernel
theorem dX8_bench_11 : decode cX8_bench 11 = .ok (.getfield 35, 3) := by decide +kernel
theorem dX8_bench_14 : decode cX8_bench 14 = .ok (.iload_n 2, 1) := by decide +kernel
theorem dX8_bench_15 : decode cX8_bench 15 = .ok (.iaload, 1) := by decide +kernel
theorem dX8_bench_16 : decode cX8_bench 16 = .ok (.ineg, 1) := by decide +kernel
theorem dX8_bench_17 : decode cX8_bench 17 = .ok (.iastore, 1) := by decide +kernel
theorem dX8_bench_18 : decode cX8_bench 18 = .ok (.iload_n 1, 1) := by decide +kernel
theorem dX8_bench_19 : decode cX8_bench 19 = .ok (.ifCond .eq 37, 3) := by decide +kernel
theorem dX8_bench_22 : decode cX8_bench 22 = .ok (.aload_n 0, 1) := by decide +kernel
theorem dX8_bench_23 : decode cX8_bench 23 = .ok (.getfield 115, 3) := by decide +kernel
theorem dX8_bench_26 : decode cX8_bench 26 = .ok (.iconst 1, 1) := by decide +kernel
theorem dX8_bench_27 : decode cX8_bench 27 = .ok (.if_icmp .le 29, 3) := by decide +kernel
theorem dX8_bench_30 : decode cX8_bench 30 = .ok (.iload_n 2, 1) := by decide +kernel
theorem dX8_bench_31 : decode cX8_bench 31 = .ok (.iconst 1, 1) := by decide +kernel
theorem dX8_bench_32 : decode cX8_bench 32 = .ok (.iadd, 1) := by decide +kernel
theorem dX8_bench_33 : decode cX8_bench 33 = .ok (.aload_n 0, 1) := by decide +kernel
theorem dX8_bench_34 : decode cX8_bench 34 = .ok (.getfield 115, 3) := by decide +kernel
theorem dX8_bench_37 : decode cX8_bench 37 = .ok (.irem, 1) := by decide +kernel
theorem dX8_bench_38 : decode cX8_bench 38 = .ok (.istore_n 3, 1) := by decide +kernel
theorem dX8_bench_39 : decode cX8_bench 39 = .ok (.aload_n 0, 1) := by decide +kernel
theorem dX8_bench_40 : decode cX8_bench 40 = .ok (.getfield 35, 3) := by decide +kernel
theorem dX8_bench_43 : decode cX8_bench 43 = .ok (.iload_n 3, 1) := by decide +kernel
theorem dX8_bench_44 : decode cX8_bench 44 = .ok (.aload_n 0, 1) := by decide +kernel
theorem dX8_bench_45 : decode cX8_bench 45 = .ok (.getfield 35, 3) := by decide +kernel
theorem dX8_bench_48 : decode cX8_bench 48 = .ok (.iload_n 3, 1) := by decide +kernel
theorem dX8_bench_49 : decode cX8_bench 49 = .ok (.iaload, 1) := by decide +kernel
theorem dX8_bench_50 : decode cX8_bench 50 = .ok (.iconst 1, 1) := by decide +kernel
theorem dX8_bench_51 : decode cX8_bench 51 = .ok (.isub, 1) := by decide +kernel
theorem dX8_bench_52 : decode cX8_bench 52 = .ok (.invokestatic 129, 3) := by decide +kernel
theorem dX8_bench_55 : decode cX8_bench 55 = .ok (.iastore, 1) := by decide +kernel
theorem dX8_bench_56 : decode cX8_bench 56 = .ok (.return_, 1) := by decide +kernel
theorem dX8_act_0 : decode cX8_act 0 = .ok (.aload_n 0, 1) := by decide +kernel
theorem dX8_act_1 : decode cX8_act 1 = .ok (.invokevirtual 126, 3) := by decide +kernel
theorem dX8_act_4 : decode cX8_act 4 = .ok (.istore_n 3, 1) := by decide +kernel
theorem dX8_act_5 : decode cX8_act 5 = .ok (.iload_n 1, 1) := by decide +kernel
theorem dX8_act_6 : decode cX8_act 6 = .ok (.tableswitch 173 1 5 #[34, 42, 50, 87, 161], 34) := by decide +kernel
theorem dX8_act_40 : decode cX8_act 40 = .ok (.aload_n 0, 1) := by decide +kernel
theorem dX8_act_41 : decode cX8_act 41 = .ok (.iconst 0, 1) := by decide +kernel
theorem dX8_act_42 : decode cX8_act 42 = .ok (.invokevirtual 132, 3) := by decide +kernel
theorem dX8_act_45 : decode cX8_act 45 = .ok (.goto 138, 3) := by decide +kernel
theorem dX8_act_48 : decode cX8_act 48 = .ok (.aload_n 0, 1) := by decide +kernel
theorem dX8_act_49 : decode cX8_act 49 = .ok (.iconst 1, 1) := by decide +kernel
theorem dX8_act_50 : decode cX8_act 50 = .ok (.invokevirtual 132, 3) := by decide +kernel
theorem dX8_act_53 : decode cX8_act 53 = .ok (.goto 130, 3) := by decide +kernel
theorem dX8_act_56 : decode cX8_act 56 = .ok (.aload_n 0, 1) := by decide +kernel
theorem dX8_act_57 : decode cX8_act 57 = .ok (.getfield 35, 3) := by decide +kernel
theorem dX8_act_60 : decode cX8_act 60 = .ok (.iload_n 3, 1) := by decide +kernel
theorem dX8_act_61 : decode cX8_act 61 = .ok (.aload_n 0, 1) := by decide +kernel
theorem dX8_act_62 : decode cX8_act 62 = .ok (.getfield 35, 3) := by decide +kernel
theorem dX8_act_65 : decode cX8_act 65 = .ok (.iload_n 3, 1) := by decide +kernel
theorem dX8_act_66 : decode cX8_act 66 = .ok (.iaload, 1) := by decide +kernel
theorem dX8_act_67 : decode cX8_act 67 = .ok (.ifCond .ge 7, 3) := by decide +kernel
theorem dX8_act_70 : decode cX8_act 70 = .ok (.iload_n 2, 1) := by decide +kernel
theorem dX8_act_71 : decode cX8_act 71 = .ok (.goto 18, 3) := by decide +kernel
theorem dX8_act_74 : decode cX8_act 74 = .ok (.aload_n 0, 1) := by decide +kernel
theorem dX8_act_75 : decode cX8_act 75 = .ok (.getfield 35, 3) := by decide +kernel
theorem dX8_act_78 : decode cX8_act 78 = .ok (.iload_n 3, 1) := by decide +kernel
theorem dX8_act_79 : decode cX8_act 79 = .ok (.iaload, 1) := by decide +kernel
theorem dX8_act_80 : decode cX8_act 80 = .ok (.ifCond .le 8, 3) := by decide +kernel
theorem dX8_act_83 : decode cX8_act 83 = .ok (.iload_n 2, 1) := by decide +kernel
theorem dX8_act_84 : decode cX8_act 84 = .ok (.ineg, 1) := by decide +kernel
theorem dX8_act_85 : decode cX8_act 85 = .ok (.goto 4, 3) := by decide +kernel
theorem dX8_act_88 : decode cX8_act 88 = .ok (.iconst 0, 1) := by decide +kernel
theorem dX8_act_89 : decode cX8_act 89 = .ok (.iastore, 1) := by decide +kernel
theorem dX8_act_90 : decode cX8_act 90 = .ok (.goto 93, 3) := by decide +kernel
theorem dX8_act_93 : decode cX8_act 93 = .ok (.aload_n 0, 1) := by decide +kernel
theorem dX8_act_94 : decode cX8_act 94 = .ok (.invokevirtual 136, 3) := by decide +kernel
theorem dX8_act_97 : decode cX8_act 97 = .ok (.iconst 0, 1) := by decide +kernel
theorem dX8_act_98 : decode cX8_act 98 = .ok (.istore 4, 2) := by decide +kernel
theorem dX8_act_100 : decode cX8_act 100 = .ok (.iload 4, 2) := by decide +kernel
theorem dX8_act_102 : decode cX8_act 102 = .ok (.aload_n 0, 1) := by decide +kernel
theorem dX8_act_103 : decode cX8_act 103 = .ok (.getfield 115, 3) := by decide +kernel
theorem dX8_act_106 : decode cX8_act 106 = .ok (.if_icmp .ge 58, 3) := by decide +kernel
theorem dX8_act_109 : decode cX8_act 109 = .ok (.aload_n 0, 1) := by decide +kernel
theorem dX8_act_110 : decode cX8_act 110 = .ok (.getfield 35, 3) := by decide +kernel
theorem dX8_act_113 : decode cX8_act 113 = .ok (.iload 4, 2) := by decide +kernel
theorem dX8_act_115 : decode cX8_act 115 = .ok (.dup2, 1) := by decide +kernel
theorem dX8_act_116 : decode cX8_act 116 = .ok (.iaload, 1) := by decide +kernel
theorem dX8_act_117 : decode cX8_act 117 = .ok (.iload 4, 2) := by decide +kernel
theorem dX8_act_119 : decode cX8_act 119 = .ok (.iload_n 3, 1) := by decide +kernel
theorem dX8_act_120 : decode cX8_act 120 = .ok (.if_icmp .ne 7, 3) := by decide +kernel
theorem dX8_act_123 : decode cX8_act 123 = .ok (.iconst 0, 1) := by decide +kernel
theorem dX8_act_124 : decode cX8_act 124 = .ok (.goto 32, 3) := by decide +kernel
theorem dX8_act_127 : decode cX8_act 127 = .ok (.aload_n 0, 1) := by decide +kernel
theorem dX8_act_128 : decode cX8_act 128 = .ok (.getfield 35, 3) := by decide +kernel
theorem dX8_act_131 : decode cX8_act 131 = .ok (.iload 4, 2) := by decide +kernel
theorem dX8_act_133 : decode cX8_act 133 = .ok (.iaload, 1) := by decide +kernel
theorem dX8_act_134 : decode cX8_act 134 = .ok (.ifCond .le 7, 3) := by decide +kernel
theorem dX8_act_137 : decode cX8_act 137 = .ok (.iconst 1, 1) := by decide +kernel
theorem dX8_act_138 : decode cX8_act 138 = .ok (.goto 18, 3) := by decide +kernel
theorem dX8_act_141 : decode cX8_act 141 = .ok (.aload_n 0, 1) := by decide +kernel
theorem dX8_act_142 : decode cX8_act 142 = .ok (.getfield 35, 3) := by decide +kernel
theorem dX8_act_145 : decode cX8_act 145 = .ok (.iload 4, 2) := by decide +kernel
theorem dX8_act_147 : decode cX8_act 147 = .ok (.iaload, 1) := by decide +kernel
theorem dX8_act_148 : decode cX8_act 148 = .ok (.ifCond .ge 7, 3) := by decide +kernel
theorem dX8_act_151 : decode cX8_act 151 = .ok (.iconst (-1), 1) := by decide +kernel
theorem dX8_act_152 : decode cX8_act 152 = .ok (.goto 4, 3) := by decide +kernel
theorem dX8_act_155 : decode cX8_act 155 = .ok (.iconst 0, 1) := by decide +kernel
theorem dX8_act_156 : decode cX8_act 156 = .ok (.isub, 1) := by decide +kernel
theorem dX8_act_157 : decode cX8_act 157 = .ok (.iastore, 1) := by decide +kernel
theorem dX8_act_158 : decode cX8_act 158 = .ok (.iinc 4 1, 3) := by decide +kernel
theorem dX8_act_161 : decode cX8_act 161 = .ok (.goto (-61), 3) := by decide +kernel
theorem dX8_act_164 : decode cX8_act 164 = .ok (.goto 19, 3) := by decide +kernel
theorem dX8_act_167 : decode cX8_act 167 = .ok (.aload_n 0, 1) := by decide +kernel
theorem dX8_act_168 : decode cX8_act 168 = .ok (.iconst 1, 1) := by decide +kernel
theorem dX8_act_169 : decode cX8_act 169 = .ok (.invokevirtual 132, 3) := by decide +kernel
theorem dX8_act_172 : decode cX8_act 172 = .ok (.aload_n 0, 1) := by decide +kernel
theorem dX8_act_173 : decode cX8_act 173 = .ok (.invokevirtual 136, 3) := by decide +kernel
theorem dX8_act_176 : decode cX8_act 176 = .ok (.goto 7, 3) := by decide +kernel
theorem dX8_act_179 : decode cX8_act 179 = .ok (.aload_n 0, 1) := by decide +kernel
theorem dX8_act_180 : decode cX8_act 180 = .ok (.invokevirtual 136, 3) := by decide +kernel
theorem dX8_act_183 : decode cX8_act 183 = .ok (.return_, 1) := by decide +kernel
theorem dX8_standing_0 : decode cX8_standing 0 = .ok (.iconst 0, 1) := by decide +kernel
theorem dX8_standing_1 : decode cX8_standing 1 = .ok (.istore_n 1, 1) := by decide +kernel
theorem dX8_standing_2 : decode cX8_standing 2 = .ok (.iconst 0, 1) := by decide +kernel
theorem dX8_standing_3 : decode cX8_standing 3 = .ok (.istore_n 2, 1) := by decide +kernel
theorem dX8_standing_4 : decode cX8_standing 4 = .ok (.iload_n 2, 1) := by decide +kernel
theorem dX8_standing_5 : decode cX8_standing 5 = .ok (.aload_n 0, 1) := by decide +kernel
theorem dX8_standing_6 : decode cX8_standing 6 = .ok (.getfield 115, 3) := by decide +kernel
theorem dX8_standing_9 : decode cX8_standing 9 = .ok (.if_icmp .ge 26, 3) := by decide +kernel
theorem dX8_standing_12 : decode cX8_standing 12 = .ok (.iload_n 1, 1) := by decide +kernel
theorem dX8_standing_13 : decode cX8_standing 13 = .ok (.aload_n 0, 1) := by decide +kernel
theorem dX8_standing_14 : decode cX8_standing 14 = .ok (.getfield 35, 3) := by decide +kernel
theorem dX8_standing_17 : decode cX8_standing 17 = .ok (.iload_n 2, 1) := by decide +kernel
theorem dX8_standing_18 : decode cX8_standing 18 = .ok (.iaload, 1) := by decide +kernel
theorem dX8_standing_19 : decode cX8_standing 19 = .ok (.ifCond .ne 7, 3) := by decide +kernel
theorem dX8_standing_22 : decode cX8_standing 22 = .ok (.iconst 0, 1) := by decide +kernel
theorem dX8_standing_23 : decode cX8_standing 23 = .ok (.goto 4, 3) := by decide +kernel
theorem dX8_standing_26 : decode cX8_standing 26 = .ok (.iconst 1, 1) := by decide +kernel
theorem dX8_standing_27 : decode cX8_standing 27 = .ok (.iadd, 1) := by decide +kernel
theorem dX8_standing_28 : decode cX8_standing 28 = .ok (.istore_n 1, 1) := by decide +kernel
theorem dX8_standing_29 : decode cX8_standing 29 = .ok (.iinc 2 1, 3) := by decide +kernel
theorem dX8_standing_32 : decode cX8_standing 32 = .ok (.goto (-28), 3) := by decide +kernel
theorem dX8_standing_35 : decode cX8_standing 35 = .ok (.iload_n 1, 1) := by decide +kernel
theorem dX8_standing_36 : decode cX8_standing 36 = .ok (.ireturn, 1) := by decide +kernel
theorem dX8_sendsBack_0 : decode cX8_sendsBack 0 = .ok (.aload_n 0, 1) := by decide +kernel
theorem dX8_sendsBack_1 : decode cX8_sendsBack 1 = .ok (.getfield 7, 3) := by decide +kernel
theorem dX8_sendsBack_4 : decode cX8_sendsBack 4 = .ok (.iload_n 1, 1) := by decide +kernel
theorem dX8_sendsBack_5 : decode cX8_sendsBack 5 = .ok (.iaload, 1) := by decide +kernel
theorem dX8_sendsBack_6 : decode cX8_sendsBack 6 = .ok (.iconst 3, 1) := by decide +kernel
theorem dX8_sendsBack_7 : decode cX8_sendsBack 7 = .ok (.if_icmp .ne 18, 3) := by decide +kernel
theorem dX8_sendsBack_10 : decode cX8_sendsBack 10 = .ok (.aload_n 0, 1) := by decide +kernel
theorem dX8_sendsBack_11 : decode cX8_sendsBack 11 = .ok (.invokevirtual 139, 3) := by decide +kernel
theorem dX8_sendsBack_14 : decode cX8_sendsBack 14 = .ok (.aload_n 0, 1) := by decide +kernel
theorem dX8_sendsBack_15 : decode cX8_sendsBack 15 = .ok (.getfield 29, 3) := by decide +kernel
theorem dX8_sendsBack_18 : decode cX8_sendsBack 18 = .ok (.if_icmp .le 7, 3) := by decide +kernel
theorem dX8_sendsBack_21 : decode cX8_sendsBack 21 = .ok (.iconst 1, 1) := by decide +kernel
theorem dX8_sendsBack_22 : decode cX8_sendsBack 22 = .ok (.goto 4, 3) := by decide +kernel
theorem dX8_sendsBack_25 : decode cX8_sendsBack 25 = .ok (.iconst 0, 1) := by decide +kernel
theorem dX8_sendsBack_26 : decode cX8_sendsBack 26 = .ok (.ireturn, 1) := by decide +kernel
theorem dX8_pass_0 : decode cX8_pass 0 = .ok (.aload_n 0, 1) := by decide +kernel
theorem dX8_pass_1 : decode cX8_pass 1 = .ok (.iload_n 1, 1) := by decide +kernel
theorem dX8_pass_2 : decode cX8_pass 2 = .ok (.invokevirtual 142, 3) := by decide +kernel
theorem dX8_pass_5 : decode cX8_pass 5 = .ok (.ifCond .ne 19, 3) := by decide +kernel
theorem dX8_pass_8 : decode cX8_pass 8 = .ok (.aload_n 0, 1) := by decide +kernel
theorem dX8_pass_9 : decode cX8_pass 9 = .ok (.aload_n 0, 1) := by decide +kernel
theorem dX8_pass_10 : decode cX8_pass 10 = .ok (.getfield 7, 3) := by decide +kernel
theorem dX8_pass_13 : decode cX8_pass 13 = .ok (.iload_n 1, 1) := by decide +kernel
theorem dX8_pass_14 : decode cX8_pass 14 = .ok (.iaload, 1) := by decide +kernel
theorem dX8_pass_15 : decode cX8_pass 15 = .ok (.aload_n 0, 1) := by decide +kernel
theorem dX8_pass_16 : decode cX8_pass 16 = .ok (.getfield 13, 3) := by decide +kernel
theorem dX8_pass_19 : decode cX8_pass 19 = .ok (.iload_n 1, 1) := by decide +kernel
theorem dX8_pass_20 : decode cX8_pass 20 = .ok (.iaload, 1) := by decide +kernel
theorem dX8_pass_21 : decode cX8_pass 21 = .ok (.invokevirtual 146, 3) := by decide +kernel
theorem dX8_pass_24 : decode cX8_pass 24 = .ok (.return_, 1) := by decide +kernel
theorem dX8_passAll_0 : decode cX8_passAll 0 = .ok (.iconst 0, 1) := by decide +kernel
theorem dX8_passAll_1 : decode cX8_passAll 1 = .ok (.istore_n 2, 1) := by decide +kernel
theorem dX8_passAll_2 : decode cX8_passAll 2 = .ok (.iload_n 2, 1) := by decide +kernel
theorem dX8_passAll_3 : decode cX8_passAll 3 = .ok (.aload_n 0, 1) := by decide +kernel
theorem dX8_passAll_4 : decode cX8_passAll 4 = .ok (.getfield 108, 3) := by decide +kernel
theorem dX8_passAll_7 : decode cX8_passAll 7 = .ok (.if_icmp .ge 22, 3) := by decide +kernel
theorem dX8_passAll_10 : decode cX8_passAll 10 = .ok (.iload_n 1, 1) := by decide +kernel
theorem dX8_passAll_11 : decode cX8_passAll 11 = .ok (.iload_n 2, 1) := by decide +kernel
theorem dX8_passAll_12 : decode cX8_passAll 12 = .ok (.invokestatic 150, 3) := by decide +kernel
theorem dX8_passAll_15 : decode cX8_passAll 15 = .ok (.ifCond .ne 8, 3) := by decide +kernel
theorem dX8_passAll_18 : decode cX8_passAll 18 = .ok (.aload_n 0, 1) := by decide +kernel
theorem dX8_passAll_19 : decode cX8_passAll 19 = .ok (.iload_n 2, 1) := by decide +kernel
theorem dX8_passAll_20 : decode cX8_passAll 20 = .ok (.invokevirtual 154, 3) := by decide +kernel
theorem dX8_passAll_23 : decode cX8_passAll 23 = .ok (.iinc 2 1, 3) := by decide +kernel
theorem dX8_passAll_26 : decode cX8_passAll 26 = .ok (.goto (-24), 3) := by decide +kernel
theorem dX8_passAll_29 : decode cX8_passAll 29 = .ok (.return_, 1) := by decide +kernel
theorem dX8_sumBehindAll_0 : decode cX8_sumBehindAll 0 = .ok (.aload_n 0, 1) := by decide +kernel
theorem dX8_sumBehindAll_1 : decode cX8_sumBehindAll 1 = .ok (.invokevirtual 158, 3) := by decide +kernel
theorem dX8_sumBehindAll_4 : decode cX8_sumBehindAll 4 = .ok (.aload_n 0, 1) := by decide +kernel
theorem dX8_sumBehindAll_5 : decode cX8_sumBehindAll 5 = .ok (.iconst 0, 1) := by decide +kernel
theorem dX8_sumBehindAll_6 : decode cX8_sumBehindAll 6 = .ok (.invokevirtual 161, 3) := by decide +kernel
theorem dX8_sumBehindAll_9 : decode cX8_sumBehindAll 9 = .ok (.aload_n 0, 1) := by decide +kernel
theorem dX8_sumBehindAll_10 : decode cX8_sumBehindAll 10 = .ok (.invokevirtual 118, 3) := by decide +kernel
theorem dX8_sumBehindAll_13 : decode cX8_sumBehindAll 13 = .ok (.ireturn, 1) := by decide +kernel
theorem dX8_feed_0 : decode cX8_feed 0 = .ok (.aload_n 0, 1) := by decide +kernel
theorem dX8_feed_1 : decode cX8_feed 1 = .ok (.iconst 0, 1) := by decide +kernel
theorem dX8_feed_2 : decode cX8_feed 2 = .ok (.putfield 105, 3) := by decide +kernel
theorem dX8_feed_5 : decode cX8_feed 5 = .ok (.iload_n 1, 1) := by decide +kernel
theorem dX8_feed_6 : decode cX8_feed 6 = .ok (.ifCond .ge 10, 3) := by decide +kernel
theorem dX8_feed_9 : decode cX8_feed 9 = .ok (.aload_n 0, 1) := by decide +kernel
theorem dX8_feed_10 : decode cX8_feed 10 = .ok (.bipush (-4), 2) := by decide +kernel
theorem dX8_feed_12 : decode cX8_feed 12 = .ok (.invokevirtual 164, 3) := by decide +kernel
theorem dX8_feed_15 : decode cX8_feed 15 = .ok (.ireturn, 1) := by decide +kernel
theorem dX8_feed_16 : decode cX8_feed 16 = .ok (.iload_n 1, 1) := by decide +kernel
theorem dX8_feed_17 : decode cX8_feed 17 = .ok (.sipush 255, 3) := by decide +kernel
theorem dX8_feed_20 : decode cX8_feed 20 = .ok (.if_icmp .gt 12, 3) := by decide +kernel
theorem dX8_feed_23 : decode cX8_feed 23 = .ok (.aload_n 0, 1) := by decide +kernel
theorem dX8_feed_24 : decode cX8_feed 24 = .ok (.getfield 167, 3) := by decide +kernel
theorem dX8_feed_27 : decode cX8_feed 27 = .ok (.bipush 96, 2) := by decide +kernel
theorem dX8_feed_29 : decode cX8_feed 29 = .ok (.if_icmp .ne 10, 3) := by decide +kernel
theorem dX8_feed_32 : decode cX8_feed 32 = .ok (.aload_n 0, 1) := by decide +kernel
theorem dX8_feed_33 : decode cX8_feed 33 = .ok (.bipush (-6), 2) := by decide +kernel
theorem dX8_feed_35 : decode cX8_feed 35 = .ok (.invokevirtual 164, 3) := by decide +kernel
theorem dX8_feed_38 : decode cX8_feed 38 = .ok (.ireturn, 1) := by decide +kernel
theorem dX8_feed_39 : decode cX8_feed 39 = .ok (.aload_n 0, 1) := by decide +kernel
theorem dX8_feed_40 : decode cX8_feed 40 = .ok (.getfield 38, 3) := by decide +kernel
theorem dX8_feed_43 : decode cX8_feed 43 = .ok (.aload_n 0, 1) := by decide +kernel
theorem dX8_feed_44 : decode cX8_feed 44 = .ok (.getfield 167, 3) := by decide +kernel
theorem dX8_feed_47 : decode cX8_feed 47 = .ok (.iload_n 1, 1) := by decide +kernel
theorem dX8_feed_48 : decode cX8_feed 48 = .ok (.iastore, 1) := by decide +kernel
theorem dX8_feed_49 : decode cX8_feed 49 = .ok (.aload_n 0, 1) := by decide +kernel
theorem dX8_feed_50 : decode cX8_feed 50 = .ok (.dup, 1) := by decide +kernel
theorem dX8_feed_51 : decode cX8_feed 51 = .ok (.getfield 167, 3) := by decide +kernel
theorem dX8_feed_54 : decode cX8_feed 54 = .ok (.iconst 1, 1) := by decide +kernel
theorem dX8_feed_55 : decode cX8_feed 55 = .ok (.iadd, 1) := by decide +kernel
theorem dX8_feed_56 : decode cX8_feed 56 = .ok (.putfield 167, 3) := by decide +kernel
theorem dX8_feed_59 : decode cX8_feed 59 = .ok (.aload_n 0, 1) := by decide +kernel
theorem dX8_feed_60 : decode cX8_feed 60 = .ok (.getfield 167, 3) := by decide +kernel
theorem dX8_feed_63 : decode cX8_feed 63 = .ok (.ireturn, 1) := by decide +kernel
theorem dX8_here_0 : decode cX8_here 0 = .ok (.aload_n 0, 1) := by decide +kernel
theorem dX8_here_1 : decode cX8_here 1 = .ok (.getfield 170, 3) := by decide +kernel
theorem dX8_here_4 : decode cX8_here 4 = .ok (.aload_n 0, 1) := by decide +kernel
theorem dX8_here_5 : decode cX8_here 5 = .ok (.getfield 167, 3) := by decide +kernel
theorem dX8_here_8 : decode cX8_here 8 = .ok (.if_icmp .ge 15, 3) := by decide +kernel
theorem dX8_here_11 : decode cX8_here 11 = .ok (.aload_n 0, 1) := by decide +kernel
theorem dX8_here_12 : decode cX8_here 12 = .ok (.getfield 38, 3) := by decide +kernel
theorem dX8_here_15 : decode cX8_here 15 = .ok (.aload_n 0, 1) := by decide +kernel
theorem dX8_here_16 : decode cX8_here 16 = .ok (.getfield 170, 3) := by decide +kernel
theorem dX8_here_19 : decode cX8_here 19 = .ok (.iaload, 1) := by decide +kernel
theorem dX8_here_20 : decode cX8_here 20 = .ok (.goto 4, 3) := by decide +kernel
theorem dX8_here_23 : decode cX8_here 23 = .ok (.iconst (-1), 1) := by decide +kernel
theorem dX8_here_24 : decode cX8_here 24 = .ok (.ireturn, 1) := by decide +kernel
theorem dX8_readDigits_0 : decode cX8_readDigits 0 = .ok (.iconst 0, 1) := by decide +kernel
theorem dX8_readDigits_1 : decode cX8_readDigits 1 = .ok (.istore_n 2, 1) := by decide +kernel
theorem dX8_readDigits_2 : decode cX8_readDigits 2 = .ok (.iconst 0, 1) := by decide +kernel
theorem dX8_readDigits_3 : decode cX8_readDigits 3 = .ok (.istore_n 3, 1) := by decide +kernel
theorem dX8_readDigits_4 : decode cX8_readDigits 4 = .ok (.iload_n 3, 1) := by decide +kernel
theorem dX8_readDigits_5 : decode cX8_readDigits 5 = .ok (.iload_n 1, 1) := by decide +kernel
theorem dX8_readDigits_6 : decode cX8_readDigits 6 = .ok (.if_icmp .ge 92, 3) := by decide +kernel
theorem dX8_readDigits_9 : decode cX8_readDigits 9 = .ok (.aload_n 0, 1) := by decide +kernel
theorem dX8_readDigits_10 : decode cX8_readDigits 10 = .ok (.aload_n 0, 1) := by decide +kernel
theorem dX8_readDigits_11 : decode cX8_readDigits 11 = .ok (.getfield 173, 3) := by decide +kernel
theorem dX8_readDigits_14 : decode cX8_readDigits 14 = .ok (.ifCond .ne 20, 3) := by decide +kernel
theorem dX8_readDigits_17 : decode cX8_readDigits 17 = .ok (.aload_n 0, 1) := by decide +kernel
theorem dX8_readDigits_18 : decode cX8_readDigits 18 = .ok (.invokevirtual 177, 3) := by decide +kernel
theorem dX8_readDigits_21 : decode cX8_readDigits 21 = .ok (.i2l, 1) := by decide +kernel
theorem dX8_readDigits_22 : decode cX8_readDigits 22 = .ok (.ldc2_w 180, 3) := by decide +kernel
theorem dX8_readDigits_25 : decode cX8_readDigits 25 = .ok (.ldc2_w 182, 3) := by decide +kernel
theorem dX8_readDigits_28 : decode cX8_readDigits 28 = .ok (.invokestatic 111, 3) := by decide +kernel
theorem dX8_readDigits_31 : decode cX8_readDigits 31 = .ok (.ifCond .ne 7, 3) := by decide +kernel
theorem dX8_readDigits_34 : decode cX8_readDigits 34 = .ok (.iconst 1, 1) := by decide +kernel
theorem dX8_readDigits_35 : decode cX8_readDigits 35 = .ok (.goto 4, 3) := by decide +kernel
theorem dX8_readDigits_38 : decode cX8_readDigits 38 = .ok (.iconst 0, 1) := by decide +kernel
theorem dX8_readDigits_39 : decode cX8_readDigits 39 = .ok (.putfield 173, 3) := by decide +kernel
theorem dX8_readDigits_42 : decode cX8_readDigits 42 = .ok (.aload_n 0, 1) := by decide +kernel
theorem dX8_readDigits_43 : decode cX8_readDigits 43 = .ok (.getfield 173, 3) := by decide +kernel
theorem dX8_readDigits_46 : decode cX8_readDigits 46 = .ok (.ifCond .eq 7, 3) := by decide +kernel
theorem dX8_readDigits_49 : decode cX8_readDigits 49 = .ok (.iconst 0, 1) := by decide +kernel
theorem dX8_readDigits_50 : decode cX8_readDigits 50 = .ok (.goto 20, 3) := by decide +kernel
theorem dX8_readDigits_53 : decode cX8_readDigits 53 = .ok (.bipush 10, 2) := by decide +kernel
theorem dX8_readDigits_55 : decode cX8_readDigits 55 = .ok (.iload_n 2, 1) := by decide +kernel
theorem dX8_readDigits_56 : decode cX8_readDigits 56 = .ok (.imul, 1) := by decide +kernel
theorem dX8_readDigits_57 : decode cX8_readDigits 57 = .ok (.aload_n 0, 1) := by decide +kernel
theorem dX8_readDigits_58 : decode cX8_readDigits 58 = .ok (.getfield 38, 3) := by decide +kernel
theorem dX8_readDigits_61 : decode cX8_readDigits 61 = .ok (.aload_n 0, 1) := by decide +kernel
theorem dX8_readDigits_62 : decode cX8_readDigits 62 = .ok (.getfield 170, 3) := by decide +kernel
theorem dX8_readDigits_65 : decode cX8_readDigits 65 = .ok (.iaload, 1) := by decide +kernel
theorem dX8_readDigits_66 : decode cX8_readDigits 66 = .ok (.iadd, 1) := by decide +kernel
theorem dX8_readDigits_67 : decode cX8_readDigits 67 = .ok (.bipush 48, 2) := by decide +kernel
theorem dX8_readDigits_69 : decode cX8_readDigits 69 = .ok (.isub, 1) := by decide +kernel
theorem dX8_readDigits_70 : decode cX8_readDigits 70 = .ok (.istore_n 2, 1) := by decide +kernel
theorem dX8_readDigits_71 : decode cX8_readDigits 71 = .ok (.aload_n 0, 1) := by decide +kernel
theorem dX8_readDigits_72 : decode cX8_readDigits 72 = .ok (.dup, 1) := by decide +kernel
theorem dX8_readDigits_73 : decode cX8_readDigits 73 = .ok (.getfield 170, 3) := by decide +kernel
theorem dX8_readDigits_76 : decode cX8_readDigits 76 = .ok (.aload_n 0, 1) := by decide +kernel
theorem dX8_readDigits_77 : decode cX8_readDigits 77 = .ok (.getfield 173, 3) := by decide +kernel
theorem dX8_readDigits_80 : decode cX8_readDigits 80 = .ok (.ifCond .eq 7, 3) := by decide +kernel
theorem dX8_readDigits_83 : decode cX8_readDigits 83 = .ok (.iconst 0, 1) := by decide +kernel
theorem dX8_readDigits_84 : decode cX8_readDigits 84 = .ok (.goto 4, 3) := by decide +kernel
theorem dX8_readDigits_87 : decode cX8_readDigits 87 = .ok (.iconst 1, 1) := by decide +kernel
theorem dX8_readDigits_88 : decode cX8_readDigits 88 = .ok (.iadd, 1) := by decide +kernel
theorem dX8_readDigits_89 : decode cX8_readDigits 89 = .ok (.putfield 170, 3) := by decide +kernel
theorem dX8_readDigits_92 : decode cX8_readDigits 92 = .ok (.iinc 3 1, 3) := by decide +kernel
theorem dX8_readDigits_95 : decode cX8_readDigits 95 = .ok (.goto (-91), 3) := by decide +kernel
theorem dX8_readDigits_98 : decode cX8_readDigits 98 = .ok (.iload_n 2, 1) := by decide +kernel
theorem dX8_readDigits_99 : decode cX8_readDigits 99 = .ok (.ireturn, 1) := by decide +kernel
theorem dX8_isLetter_0 : decode cX8_isLetter 0 = .ok (.iload_n 0, 1) := by decide +kernel
theorem dX8_isLetter_1 : decode cX8_isLetter 1 = .ok (.bipush 99, 2) := by decide +kernel
theorem dX8_isLetter_3 : decode cX8_isLetter 3 = .ok (.if_icmp .eq 33, 3) := by decide +kernel
theorem dX8_isLetter_6 : decode cX8_isLetter 6 = .ok (.iload_n 0, 1) := by decide +kernel
theorem dX8_isLetter_7 : decode cX8_isLetter 7 = .ok (.bipush 110, 2) := by decide +kernel
theorem dX8_isLetter_9 : decode cX8_isLetter 9 = .ok (.if_icmp .eq 27, 3) := by decide +kernel
theorem dX8_isLetter_12 : decode cX8_isLetter 12 = .ok (.iload_n 0, 1) := by decide +kernel
theorem dX8_isLetter_13 : decode cX8_isLetter 13 = .ok (.bipush 112, 2) := by decide +kernel
theorem dX8_isLetter_15 : decode cX8_isLetter 15 = .ok (.if_icmp .eq 21, 3) := by decide +kernel
theorem dX8_isLetter_18 : decode cX8_isLetter 18 = .ok (.iload_n 0, 1) := by decide +kernel
theorem dX8_isLetter_19 : decode cX8_isLetter 19 = .ok (.bipush 115, 2) := by decide +kernel
theorem dX8_isLetter_21 : decode cX8_isLetter 21 = .ok (.if_icmp .eq 15, 3) := by decide +kernel
theorem dX8_isLetter_24 : decode cX8_isLetter 24 = .ok (.iload_n 0, 1) := by decide +kernel
theorem dX8_isLetter_25 : decode cX8_isLetter 25 = .ok (.bipush 108, 2) := by decide +kernel
theorem dX8_isLetter_27 : decode cX8_isLetter 27 = .ok (.if_icmp .eq 9, 3) := by decide +kernel
theorem dX8_isLetter_30 : decode cX8_isLetter 30 = .ok (.iload_n 0, 1) := by decide +kernel
theorem dX8_isLetter_31 : decode cX8_isLetter 31 = .ok (.bipush 117, 2) := by decide +kernel
theorem dX8_isLetter_33 : decode cX8_isLetter 33 = .ok (.if_icmp .ne 7, 3) := by decide +kernel
theorem dX8_isLetter_36 : decode cX8_isLetter 36 = .ok (.iconst 1, 1) := by decide +kernel
theorem dX8_isLetter_37 : decode cX8_isLetter 37 = .ok (.goto 4, 3) := by decide +kernel
theorem dX8_isLetter_40 : decode cX8_isLetter 40 = .ok (.iconst 0, 1) := by decide +kernel
theorem dX8_isLetter_41 : decode cX8_isLetter 41 = .ok (.ireturn, 1) := by decide +kernel
theorem dX8_readStatement_0 : decode cX8_readStatement 0 = .ok (.aload_n 0, 1) := by decide +kernel
theorem dX8_readStatement_1 : decode cX8_readStatement 1 = .ok (.getfield 184, 3) := by decide +kernel
theorem dX8_readStatement_4 : decode cX8_readStatement 4 = .ok (.istore_n 1, 1) := by decide +kernel
theorem dX8_readStatement_5 : decode cX8_readStatement 5 = .ok (.aload_n 0, 1) := by decide +kernel
theorem dX8_readStatement_6 : decode cX8_readStatement 6 = .ok (.invokevirtual 177, 3) := by decide +kernel
