theorem dX8_beats_123 : decode cX8_beats 123 = .ok (.iload_n 2, 1) := by decide +kernel
theorem dX8_beats_124 : decode cX8_beats 124 = .ok (.if_icmp .le 7, 3) := by decide +kernel
theorem dX8_beats_127 : decode cX8_beats 127 = .ok (.iconst 1, 1) := by decide +kernel
theorem dX8_beats_128 : decode cX8_beats 128 = .ok (.goto 4, 3) := by decide +kernel
theorem dX8_beats_131 : decode cX8_beats 131 = .ok (.iconst 0, 1) := by decide +kernel
theorem dX8_beats_132 : decode cX8_beats 132 = .ok (.ireturn, 1) := by decide +kernel
theorem dX8_commute_0 : decode cX8_commute 0 = .ok (.aload_n 0, 1) := by decide +kernel
theorem dX8_commute_1 : decode cX8_commute 1 = .ok (.iconst 0, 1) := by decide +kernel
theorem dX8_commute_2 : decode cX8_commute 2 = .ok (.putfield 105, 3) := by decide +kernel
theorem dX8_commute_5 : decode cX8_commute 5 = .ok (.aload_n 0, 1) := by decide +kernel
theorem dX8_commute_6 : decode cX8_commute 6 = .ok (.iload_n 1, 1) := by decide +kernel
theorem dX8_commute_7 : decode cX8_commute 7 = .ok (.invokevirtual 230, 3) := by decide +kernel
theorem dX8_commute_10 : decode cX8_commute 10 = .ok (.ifCond .eq 16, 3) := by decide +kernel
theorem dX8_commute_13 : decode cX8_commute 13 = .ok (.aload_n 0, 1) := by decide +kernel
theorem dX8_commute_14 : decode cX8_commute 14 = .ok (.iload_n 2, 1) := by decide +kernel
theorem dX8_commute_15 : decode cX8_commute 15 = .ok (.invokevirtual 230, 3) := by decide +kernel
theorem dX8_commute_18 : decode cX8_commute 18 = .ok (.ifCond .eq 8, 3) := by decide +kernel
theorem dX8_commute_21 : decode cX8_commute 21 = .ok (.iload_n 1, 1) := by decide +kernel
theorem dX8_commute_22 : decode cX8_commute 22 = .ok (.iload_n 2, 1) := by decide +kernel
theorem dX8_commute_23 : decode cX8_commute 23 = .ok (.if_icmp .ne 9, 3) := by decide +kernel
theorem dX8_commute_26 : decode cX8_commute 26 = .ok (.aload_n 0, 1) := by decide +kernel
theorem dX8_commute_27 : decode cX8_commute 27 = .ok (.iconst (-1), 1) := by decide +kernel
theorem dX8_commute_28 : decode cX8_commute 28 = .ok (.invokevirtual 164, 3) := by decide +kernel
theorem dX8_commute_31 : decode cX8_commute 31 = .ok (.ireturn, 1) := by decide +kernel
theorem dX8_commute_32 : decode cX8_commute 32 = .ok (.aload_n 0, 1) := by decide +kernel
theorem dX8_commute_33 : decode cX8_commute 33 = .ok (.invokevirtual 158, 3) := by decide +kernel
theorem dX8_commute_36 : decode cX8_commute 36 = .ok (.aload_n 0, 1) := by decide +kernel
theorem dX8_commute_37 : decode cX8_commute 37 = .ok (.iload_n 1, 1) := by decide +kernel
theorem dX8_commute_38 : decode cX8_commute 38 = .ok (.invokevirtual 154, 3) := by decide +kernel
theorem dX8_commute_41 : decode cX8_commute 41 = .ok (.aload_n 0, 1) := by decide +kernel
theorem dX8_commute_42 : decode cX8_commute 42 = .ok (.iload_n 2, 1) := by decide +kernel
theorem dX8_commute_43 : decode cX8_commute 43 = .ok (.invokevirtual 154, 3) := by decide +kernel
theorem dX8_commute_46 : decode cX8_commute 46 = .ok (.iconst 0, 1) := by decide +kernel
theorem dX8_commute_47 : decode cX8_commute 47 = .ok (.istore_n 3, 1) := by decide +kernel
theorem dX8_commute_48 : decode cX8_commute 48 = .ok (.iload_n 3, 1) := by decide +kernel
theorem dX8_commute_49 : decode cX8_commute 49 = .ok (.aload_n 0, 1) := by decide +kernel
theorem dX8_commute_50 : decode cX8_commute 50 = .ok (.getfield 19, 3) := by decide +kernel
theorem dX8_commute_53 : decode cX8_commute 53 = .ok (.if_icmp .ge 21, 3) := by decide +kernel
theorem dX8_commute_56 : decode cX8_commute 56 = .ok (.aload_n 0, 1) := by decide +kernel
theorem dX8_commute_57 : decode cX8_commute 57 = .ok (.getfield 96, 3) := by decide +kernel
theorem dX8_commute_60 : decode cX8_commute 60 = .ok (.iload_n 3, 1) := by decide +kernel
theorem dX8_commute_61 : decode cX8_commute 61 = .ok (.aload_n 0, 1) := by decide +kernel
theorem dX8_commute_62 : decode cX8_commute 62 = .ok (.getfield 35, 3) := by decide +kernel
theorem dX8_commute_65 : decode cX8_commute 65 = .ok (.iload_n 3, 1) := by decide +kernel
theorem dX8_commute_66 : decode cX8_commute 66 = .ok (.iaload, 1) := by decide +kernel
theorem dX8_commute_67 : decode cX8_commute 67 = .ok (.iastore, 1) := by decide +kernel
theorem dX8_commute_68 : decode cX8_commute 68 = .ok (.iinc 3 1, 3) := by decide +kernel
theorem dX8_commute_71 : decode cX8_commute 71 = .ok (.goto (-23), 3) := by decide +kernel
theorem dX8_commute_74 : decode cX8_commute 74 = .ok (.aload_n 0, 1) := by decide +kernel
theorem dX8_commute_75 : decode cX8_commute 75 = .ok (.invokevirtual 158, 3) := by decide +kernel
theorem dX8_commute_78 : decode cX8_commute 78 = .ok (.aload_n 0, 1) := by decide +kernel
theorem dX8_commute_79 : decode cX8_commute 79 = .ok (.iload_n 2, 1) := by decide +kernel
theorem dX8_commute_80 : decode cX8_commute 80 = .ok (.invokevirtual 154, 3) := by decide +kernel
theorem dX8_commute_83 : decode cX8_commute 83 = .ok (.aload_n 0, 1) := by decide +kernel
theorem dX8_commute_84 : decode cX8_commute 84 = .ok (.iload_n 1, 1) := by decide +kernel
theorem dX8_commute_85 : decode cX8_commute 85 = .ok (.invokevirtual 154, 3) := by decide +kernel
theorem dX8_commute_88 : decode cX8_commute 88 = .ok (.iconst 1, 1) := by decide +kernel
theorem dX8_commute_89 : decode cX8_commute 89 = .ok (.istore_n 3, 1) := by decide +kernel
theorem dX8_commute_90 : decode cX8_commute 90 = .ok (.iconst 0, 1) := by decide +kernel
theorem dX8_commute_91 : decode cX8_commute 91 = .ok (.istore 4, 2) := by decide +kernel
theorem dX8_commute_93 : decode cX8_commute 93 = .ok (.iload 4, 2) := by decide +kernel
theorem dX8_commute_95 : decode cX8_commute 95 = .ok (.aload_n 0, 1) := by decide +kernel
theorem dX8_commute_96 : decode cX8_commute 96 = .ok (.getfield 19, 3) := by decide +kernel
theorem dX8_commute_99 : decode cX8_commute 99 = .ok (.if_icmp .ge 36, 3) := by decide +kernel
theorem dX8_commute_102 : decode cX8_commute 102 = .ok (.iload_n 3, 1) := by decide +kernel
theorem dX8_commute_103 : decode cX8_commute 103 = .ok (.ifCond .eq 24, 3) := by decide +kernel
theorem dX8_commute_106 : decode cX8_commute 106 = .ok (.aload_n 0, 1) := by decide +kernel
theorem dX8_commute_107 : decode cX8_commute 107 = .ok (.getfield 96, 3) := by decide +kernel
theorem dX8_commute_110 : decode cX8_commute 110 = .ok (.iload 4, 2) := by decide +kernel
theorem dX8_commute_112 : decode cX8_commute 112 = .ok (.iaload, 1) := by decide +kernel
theorem dX8_commute_113 : decode cX8_commute 113 = .ok (.aload_n 0, 1) := by decide +kernel
theorem dX8_commute_114 : decode cX8_commute 114 = .ok (.getfield 35, 3) := by decide +kernel
theorem dX8_commute_117 : decode cX8_commute 117 = .ok (.iload 4, 2) := by decide +kernel
theorem dX8_commute_119 : decode cX8_commute 119 = .ok (.iaload, 1) := by decide +kernel
theorem dX8_commute_120 : decode cX8_commute 120 = .ok (.if_icmp .ne 7, 3) := by decide +kernel
theorem dX8_commute_123 : decode cX8_commute 123 = .ok (.iconst 1, 1) := by decide +kernel
theorem dX8_commute_124 : decode cX8_commute 124 = .ok (.goto 4, 3) := by decide +kernel
theorem dX8_commute_127 : decode cX8_commute 127 = .ok (.iconst 0, 1) := by decide +kernel
theorem dX8_commute_128 : decode cX8_commute 128 = .ok (.istore_n 3, 1) := by decide +kernel
theorem dX8_commute_129 : decode cX8_commute 129 = .ok (.iinc 4 1, 3) := by decide +kernel
theorem dX8_commute_132 : decode cX8_commute 132 = .ok (.goto (-39), 3) := by decide +kernel
theorem dX8_commute_135 : decode cX8_commute 135 = .ok (.iload_n 3, 1) := by decide +kernel
theorem dX8_commute_136 : decode cX8_commute 136 = .ok (.ifCond .eq 7, 3) := by decide +kernel
theorem dX8_commute_139 : decode cX8_commute 139 = .ok (.iconst 1, 1) := by decide +kernel
theorem dX8_commute_140 : decode cX8_commute 140 = .ok (.goto 4, 3) := by decide +kernel
theorem dX8_commute_143 : decode cX8_commute 143 = .ok (.iconst 0, 1) := by decide +kernel
theorem dX8_commute_144 : decode cX8_commute 144 = .ok (.ireturn, 1) := by decide +kernel
theorem dX8_isAsAt_0 : decode cX8_isAsAt 0 = .ok (.iconst 1, 1) := by decide +kernel
theorem dX8_isAsAt_1 : decode cX8_isAsAt 1 = .ok (.istore_n 2, 1) := by decide +kernel
theorem dX8_isAsAt_2 : decode cX8_isAsAt 2 = .ok (.iconst 0, 1) := by decide +kernel
theorem dX8_isAsAt_3 : decode cX8_isAsAt 3 = .ok (.istore_n 3, 1) := by decide +kernel
theorem dX8_isAsAt_4 : decode cX8_isAsAt 4 = .ok (.iload_n 3, 1) := by decide +kernel
theorem dX8_isAsAt_5 : decode cX8_isAsAt 5 = .ok (.aload_n 0, 1) := by decide +kernel
theorem dX8_isAsAt_6 : decode cX8_isAsAt 6 = .ok (.getfield 19, 3) := by decide +kernel
theorem dX8_isAsAt_9 : decode cX8_isAsAt 9 = .ok (.if_icmp .ge 39, 3) := by decide +kernel
theorem dX8_isAsAt_12 : decode cX8_isAsAt 12 = .ok (.iload_n 2, 1) := by decide +kernel
theorem dX8_isAsAt_13 : decode cX8_isAsAt 13 = .ok (.ifCond .eq 27, 3) := by decide +kernel
theorem dX8_isAsAt_16 : decode cX8_isAsAt 16 = .ok (.aload_n 0, 1) := by decide +kernel
theorem dX8_isAsAt_17 : decode cX8_isAsAt 17 = .ok (.getfield 102, 3) := by decide +kernel
theorem dX8_isAsAt_20 : decode cX8_isAsAt 20 = .ok (.bipush 8, 2) := by decide +kernel
theorem dX8_isAsAt_22 : decode cX8_isAsAt 22 = .ok (.iload_n 1, 1) := by decide +kernel
theorem dX8_isAsAt_23 : decode cX8_isAsAt 23 = .ok (.imul, 1) := by decide +kernel
theorem dX8_isAsAt_24 : decode cX8_isAsAt 24 = .ok (.iload_n 3, 1) := by decide +kernel
theorem dX8_isAsAt_25 : decode cX8_isAsAt 25 = .ok (.iadd, 1) := by decide +kernel
theorem dX8_isAsAt_26 : decode cX8_isAsAt 26 = .ok (.iaload, 1) := by decide +kernel
theorem dX8_isAsAt_27 : decode cX8_isAsAt 27 = .ok (.aload_n 0, 1) := by decide +kernel
theorem dX8_isAsAt_28 : decode cX8_isAsAt 28 = .ok (.getfield 35, 3) := by decide +kernel
theorem dX8_isAsAt_31 : decode cX8_isAsAt 31 = .ok (.iload_n 3, 1) := by decide +kernel
theorem dX8_isAsAt_32 : decode cX8_isAsAt 32 = .ok (.iaload, 1) := by decide +kernel
theorem dX8_isAsAt_33 : decode cX8_isAsAt 33 = .ok (.if_icmp .ne 7, 3) := by decide +kernel
theorem dX8_isAsAt_36 : decode cX8_isAsAt 36 = .ok (.iconst 1, 1) := by decide +kernel
theorem dX8_isAsAt_37 : decode cX8_isAsAt 37 = .ok (.goto 4, 3) := by decide +kernel
theorem dX8_isAsAt_40 : decode cX8_isAsAt 40 = .ok (.iconst 0, 1) := by decide +kernel
theorem dX8_isAsAt_41 : decode cX8_isAsAt 41 = .ok (.istore_n 2, 1) := by decide +kernel
theorem dX8_isAsAt_42 : decode cX8_isAsAt 42 = .ok (.iinc 3 1, 3) := by decide +kernel
theorem dX8_isAsAt_45 : decode cX8_isAsAt 45 = .ok (.goto (-41), 3) := by decide +kernel
theorem dX8_isAsAt_48 : decode cX8_isAsAt 48 = .ok (.iload_n 2, 1) := by decide +kernel
theorem dX8_isAsAt_49 : decode cX8_isAsAt 49 = .ok (.ireturn, 1) := by decide +kernel
theorem dX8_again_0 : decode cX8_again 0 = .ok (.aload_n 0, 1) := by decide +kernel
theorem dX8_again_1 : decode cX8_again 1 = .ok (.iconst 0, 1) := by decide +kernel
theorem dX8_again_2 : decode cX8_again 2 = .ok (.putfield 105, 3) := by decide +kernel
theorem dX8_again_5 : decode cX8_again 5 = .ok (.aload_n 0, 1) := by decide +kernel
theorem dX8_again_6 : decode cX8_again 6 = .ok (.iload_n 1, 1) := by decide +kernel
theorem dX8_again_7 : decode cX8_again 7 = .ok (.invokevirtual 230, 3) := by decide +kernel
theorem dX8_again_10 : decode cX8_again 10 = .ok (.ifCond .eq 12, 3) := by decide +kernel
theorem dX8_again_13 : decode cX8_again 13 = .ok (.iconst 0, 1) := by decide +kernel
theorem dX8_again_14 : decode cX8_again 14 = .ok (.iload_n 2, 1) := by decide +kernel
theorem dX8_again_15 : decode cX8_again 15 = .ok (.iconst 1, 1) := by decide +kernel
theorem dX8_again_16 : decode cX8_again 16 = .ok (.invokestatic 279, 3) := by decide +kernel
theorem dX8_again_19 : decode cX8_again 19 = .ok (.goto 4, 3) := by decide +kernel
theorem dX8_again_22 : decode cX8_again 22 = .ok (.iconst (-1), 1) := by decide +kernel
theorem dX8_again_23 : decode cX8_again 23 = .ok (.istore_n 3, 1) := by decide +kernel
theorem dX8_again_24 : decode cX8_again 24 = .ok (.iload_n 3, 1) := by decide +kernel
theorem dX8_again_25 : decode cX8_again 25 = .ok (.ifCond .ge 9, 3) := by decide +kernel
theorem dX8_again_28 : decode cX8_again 28 = .ok (.aload_n 0, 1) := by decide +kernel
theorem dX8_again_29 : decode cX8_again 29 = .ok (.iload_n 3, 1) := by decide +kernel
theorem dX8_again_30 : decode cX8_again 30 = .ok (.invokevirtual 164, 3) := by decide +kernel
theorem dX8_again_33 : decode cX8_again 33 = .ok (.ireturn, 1) := by decide +kernel
theorem dX8_again_34 : decode cX8_again 34 = .ok (.aload_n 0, 1) := by decide +kernel
theorem dX8_again_35 : decode cX8_again 35 = .ok (.invokevirtual 158, 3) := by decide +kernel
theorem dX8_again_38 : decode cX8_again 38 = .ok (.iconst 0, 1) := by decide +kernel
theorem dX8_again_39 : decode cX8_again 39 = .ok (.istore 4, 2) := by decide +kernel
theorem dX8_again_41 : decode cX8_again 41 = .ok (.iload 4, 2) := by decide +kernel
theorem dX8_again_43 : decode cX8_again 43 = .ok (.bipush 60, 2) := by decide +kernel
theorem dX8_again_45 : decode cX8_again 45 = .ok (.if_icmp .gt 90, 3) := by decide +kernel
theorem dX8_again_48 : decode cX8_again 48 = .ok (.iconst 0, 1) := by decide +kernel
theorem dX8_again_49 : decode cX8_again 49 = .ok (.istore 5, 2) := by decide +kernel
theorem dX8_again_51 : decode cX8_again 51 = .ok (.iload 5, 2) := by decide +kernel
theorem dX8_again_53 : decode cX8_again 53 = .ok (.iload 4, 2) := by decide +kernel
theorem dX8_again_55 : decode cX8_again 55 = .ok (.if_icmp .ge 33, 3) := by decide +kernel
theorem dX8_again_58 : decode cX8_again 58 = .ok (.aload_n 0, 1) := by decide +kernel
theorem dX8_again_59 : decode cX8_again 59 = .ok (.iload 5, 2) := by decide +kernel
theorem dX8_again_61 : decode cX8_again 61 = .ok (.invokevirtual 339, 3) := by decide +kernel
theorem dX8_again_64 : decode cX8_again 64 = .ok (.ifCond .eq 18, 3) := by decide +kernel
theorem dX8_again_67 : decode cX8_again 67 = .ok (.iload_n 2, 1) := by decide +kernel
theorem dX8_again_68 : decode cX8_again 68 = .ok (.ifCond .ne 8, 3) := by decide +kernel
theorem dX8_again_71 : decode cX8_again 71 = .ok (.iload 4, 2) := by decide +kernel
theorem dX8_again_73 : decode cX8_again 73 = .ok (.goto 8, 3) := by decide +kernel
theorem dX8_again_76 : decode cX8_again 76 = .ok (.iload 4, 2) := by decide +kernel
theorem dX8_again_78 : decode cX8_again 78 = .ok (.iload 5, 2) := by decide +kernel
theorem dX8_again_80 : decode cX8_again 80 = .ok (.isub, 1) := by decide +kernel
theorem dX8_again_81 : decode cX8_again 81 = .ok (.ireturn, 1) := by decide +kernel
theorem dX8_again_82 : decode cX8_again 82 = .ok (.iinc 5 1, 3) := by decide +kernel
theorem dX8_again_85 : decode cX8_again 85 = .ok (.goto (-34), 3) := by decide +kernel
theorem dX8_again_88 : decode cX8_again 88 = .ok (.iconst 0, 1) := by decide +kernel
theorem dX8_again_89 : decode cX8_again 89 = .ok (.istore 5, 2) := by decide +kernel
theorem dX8_again_91 : decode cX8_again 91 = .ok (.iload 5, 2) := by decide +kernel
theorem dX8_again_93 : decode cX8_again 93 = .ok (.bipush 8, 2) := by decide +kernel
theorem dX8_again_95 : decode cX8_again 95 = .ok (.if_icmp .ge 29, 3) := by decide +kernel
theorem dX8_again_98 : decode cX8_again 98 = .ok (.aload_n 0, 1) := by decide +kernel
theorem dX8_again_99 : decode cX8_again 99 = .ok (.getfield 102, 3) := by decide +kernel
theorem dX8_again_102 : decode cX8_again 102 = .ok (.bipush 8, 2) := by decide +kernel
theorem dX8_again_104 : decode cX8_again 104 = .ok (.iload 4, 2) := by decide +kernel
theorem dX8_again_106 : decode cX8_again 106 = .ok (.imul, 1) := by decide +kernel
theorem dX8_again_107 : decode cX8_again 107 = .ok (.iload 5, 2) := by decide +kernel
theorem dX8_again_109 : decode cX8_again 109 = .ok (.iadd, 1) := by decide +kernel
theorem dX8_again_110 : decode cX8_again 110 = .ok (.aload_n 0, 1) := by decide +kernel
theorem dX8_again_111 : decode cX8_again 111 = .ok (.getfield 35, 3) := by decide +kernel
theorem dX8_again_114 : decode cX8_again 114 = .ok (.iload 5, 2) := by decide +kernel
theorem dX8_again_116 : decode cX8_again 116 = .ok (.iaload, 1) := by decide +kernel
theorem dX8_again_117 : decode cX8_again 117 = .ok (.iastore, 1) := by decide +kernel
theorem dX8_again_118 : decode cX8_again 118 = .ok (.iinc 5 1, 3) := by decide +kernel
theorem dX8_again_121 : decode cX8_again 121 = .ok (.goto (-30), 3) := by decide +kernel
theorem dX8_again_124 : decode cX8_again 124 = .ok (.aload_n 0, 1) := by decide +kernel
theorem dX8_again_125 : decode cX8_again 125 = .ok (.iload_n 1, 1) := by decide +kernel
theorem dX8_again_126 : decode cX8_again 126 = .ok (.invokevirtual 154, 3) := by decide +kernel
theorem dX8_again_129 : decode cX8_again 129 = .ok (.iinc 4 1, 3) := by decide +kernel
theorem dX8_again_132 : decode cX8_again 132 = .ok (.goto (-91), 3) := by decide +kernel
theorem dX8_again_135 : decode cX8_again 135 = .ok (.bipush (-9), 2) := by decide +kernel
theorem dX8_again_137 : decode cX8_again 137 = .ok (.ireturn, 1) := by decide +kernel
theorem dX8_bestLowest_0 : decode cX8_bestLowest 0 = .ok (.aload_n 0, 1) := by decide +kernel
theorem dX8_bestLowest_1 : decode cX8_bestLowest 1 = .ok (.iconst 0, 1) := by decide +kernel
theorem dX8_bestLowest_2 : decode cX8_bestLowest 2 = .ok (.putfield 105, 3) := by decide +kernel
theorem dX8_bestLowest_5 : decode cX8_bestLowest 5 = .ok (.iload_n 1, 1) := by decide +kernel
theorem dX8_bestLowest_6 : decode cX8_bestLowest 6 = .ok (.iconst 0, 1) := by decide +kernel
theorem dX8_bestLowest_7 : decode cX8_bestLowest 7 = .ok (.bipush 9, 2) := by decide +kernel
theorem dX8_bestLowest_9 : decode cX8_bestLowest 9 = .ok (.invokestatic 235, 3) := by decide +kernel
theorem dX8_bestLowest_12 : decode cX8_bestLowest 12 = .ok (.ifCond .ge 15, 3) := by decide +kernel
theorem dX8_bestLowest_15 : decode cX8_bestLowest 15 = .ok (.aload_n 0, 1) := by decide +kernel
theorem dX8_bestLowest_16 : decode cX8_bestLowest 16 = .ok (.iload_n 1, 1) := by decide +kernel
theorem dX8_bestLowest_17 : decode cX8_bestLowest 17 = .ok (.iconst 0, 1) := by decide +kernel
theorem dX8_bestLowest_18 : decode cX8_bestLowest 18 = .ok (.bipush 9, 2) := by decide +kernel
theorem dX8_bestLowest_20 : decode cX8_bestLowest 20 = .ok (.invokestatic 235, 3) := by decide +kernel
theorem dX8_bestLowest_23 : decode cX8_bestLowest 23 = .ok (.invokevirtual 164, 3) := by decide +kernel
theorem dX8_bestLowest_26 : decode cX8_bestLowest 26 = .ok (.ireturn, 1) := by decide +kernel
theorem dX8_bestLowest_27 : decode cX8_bestLowest 27 = .ok (.iconst 0, 1) := by decide +kernel
theorem dX8_bestLowest_28 : decode cX8_bestLowest 28 = .ok (.istore_n 2, 1) := by decide +kernel
theorem dX8_bestLowest_29 : decode cX8_bestLowest 29 = .ok (.sipush (-999), 3) := by decide +kernel
theorem dX8_bestLowest_32 : decode cX8_bestLowest 32 = .ok (.istore_n 3, 1) := by decide +kernel
theorem dX8_bestLowest_33 : decode cX8_bestLowest 33 = .ok (.iconst 0, 1) := by decide +kernel
theorem dX8_bestLowest_34 : decode cX8_bestLowest 34 = .ok (.istore 4, 2) := by decide +kernel
theorem dX8_bestLowest_36 : decode cX8_bestLowest 36 = .ok (.iload 4, 2) := by decide +kernel
theorem dX8_bestLowest_38 : decode cX8_bestLowest 38 = .ok (.bipush 6, 2) := by decide +kernel
theorem dX8_bestLowest_40 : decode cX8_bestLowest 40 = .ok (.if_icmp .ge 74, 3) := by decide +kernel
theorem dX8_bestLowest_43 : decode cX8_bestLowest 43 = .ok (.aload_n 0, 1) := by decide +kernel
theorem dX8_bestLowest_44 : decode cX8_bestLowest 44 = .ok (.invokevirtual 158, 3) := by decide +kernel
theorem dX8_bestLowest_47 : decode cX8_bestLowest 47 = .ok (.aload_n 0, 1) := by decide +kernel
theorem dX8_bestLowest_48 : decode cX8_bestLowest 48 = .ok (.iconst 0, 1) := by decide +kernel
theorem dX8_bestLowest_49 : decode cX8_bestLowest 49 = .ok (.invokevirtual 161, 3) := by decide +kernel
theorem dX8_bestLowest_52 : decode cX8_bestLowest 52 = .ok (.iload 4, 2) := by decide +kernel
theorem dX8_bestLowest_54 : decode cX8_bestLowest 54 = .ok (.iconst 3, 1) := by decide +kernel
theorem dX8_bestLowest_55 : decode cX8_bestLowest 55 = .ok (.if_icmp .ne 14, 3) := by decide +kernel
theorem dX8_bestLowest_58 : decode cX8_bestLowest 58 = .ok (.aload_n 0, 1) := by decide +kernel
theorem dX8_bestLowest_59 : decode cX8_bestLowest 59 = .ok (.invokevirtual 139, 3) := by decide +kernel
theorem dX8_bestLowest_62 : decode cX8_bestLowest 62 = .ok (.aload_n 0, 1) := by decide +kernel
theorem dX8_bestLowest_63 : decode cX8_bestLowest 63 = .ok (.getfield 29, 3) := by decide +kernel
theorem dX8_bestLowest_66 : decode cX8_bestLowest 66 = .ok (.if_icmp .gt 10, 3) := by decide +kernel
theorem dX8_bestLowest_69 : decode cX8_bestLowest 69 = .ok (.aload_n 0, 1) := by decide +kernel
theorem dX8_bestLowest_70 : decode cX8_bestLowest 70 = .ok (.iload 4, 2) := by decide +kernel
theorem dX8_bestLowest_72 : decode cX8_bestLowest 72 = .ok (.iload_n 1, 1) := by decide +kernel
theorem dX8_bestLowest_73 : decode cX8_bestLowest 73 = .ok (.invokevirtual 146, 3) := by decide +kernel
theorem dX8_bestLowest_76 : decode cX8_bestLowest 76 = .ok (.aload_n 0, 1) := by decide +kernel
theorem dX8_bestLowest_77 : decode cX8_bestLowest 77 = .ok (.invokevirtual 118, 3) := by decide +kernel
theorem dX8_bestLowest_80 : decode cX8_bestLowest 80 = .ok (.iload_n 3, 1) := by decide +kernel
theorem dX8_bestLowest_81 : decode cX8_bestLowest 81 = .ok (.if_icmp .le 8, 3) := by decide +kernel
theorem dX8_bestLowest_84 : decode cX8_bestLowest 84 = .ok (.iload 4, 2) := by decide +kernel
theorem dX8_bestLowest_86 : decode cX8_bestLowest 86 = .ok (.goto 4, 3) := by decide +kernel
theorem dX8_bestLowest_89 : decode cX8_bestLowest 89 = .ok (.iload_n 2, 1) := by decide +kernel
theorem dX8_bestLowest_90 : decode cX8_bestLowest 90 = .ok (.istore_n 2, 1) := by decide +kernel
theorem dX8_bestLowest_91 : decode cX8_bestLowest 91 = .ok (.aload_n 0, 1) := by decide +kernel
theorem dX8_bestLowest_92 : decode cX8_bestLowest 92 = .ok (.invokevirtual 118, 3) := by decide +kernel
theorem dX8_bestLowest_95 : decode cX8_bestLowest 95 = .ok (.iload_n 3, 1) := by decide +kernel
theorem dX8_bestLowest_96 : decode cX8_bestLowest 96 = .ok (.if_icmp .le 10, 3) := by decide +kernel
theorem dX8_bestLowest_99 : decode cX8_bestLowest 99 = .ok (.aload_n 0, 1) := by decide +kernel
theorem dX8_bestLowest_100 : decode cX8_bestLowest 100 = .ok (.invokevirtual 118, 3) := by decide +kernel
theorem dX8_bestLowest_103 : decode cX8_bestLowest 103 = .ok (.goto 4, 3) := by decide +kernel
theorem dX8_bestLowest_106 : decode cX8_bestLowest 106 = .ok (.iload_n 3, 1) := by decide +kernel
theorem dX8_bestLowest_107 : decode cX8_bestLowest 107 = .ok (.istore_n 3, 1) := by decide +kernel
theorem dX8_bestLowest_108 : decode cX8_bestLowest 108 = .ok (.iinc 4 1, 3) := by decide +kernel
theorem dX8_bestLowest_111 : decode cX8_bestLowest 111 = .ok (.goto (-75), 3) := by decide +kernel
theorem dX8_bestLowest_114 : decode cX8_bestLowest 114 = .ok (.iload_n 2, 1) := by decide +kernel
theorem dX8_bestLowest_115 : decode cX8_bestLowest 115 = .ok (.ireturn, 1) := by decide +kernel
theorem dX8_peak_0 : decode cX8_peak 0 = .ok (.aload_n 0, 1) := by decide +kernel
theorem dX8_peak_1 : decode cX8_peak 1 = .ok (.iconst 0, 1) := by decide +kernel
theorem dX8_peak_2 : decode cX8_peak 2 = .ok (.putfield 105, 3) := by decide +kernel
theorem dX8_peak_5 : decode cX8_peak 5 = .ok (.iload_n 1, 1) := by decide +kernel
theorem dX8_peak_6 : decode cX8_peak 6 = .ok (.i2l, 1) := by decide +kernel
theorem dX8_peak_7 : decode cX8_peak 7 = .ok (.lconst 0, 1) := by decide +kernel
theorem dX8_peak_8 : decode cX8_peak 8 = .ok (.lconst 1, 1) := by decide +kernel
theorem dX8_peak_9 : decode cX8_peak 9 = .ok (.invokestatic 111, 3) := by decide +kernel
theorem dX8_peak_12 : decode cX8_peak 12 = .ok (.ifCond .ne 10, 3) := by decide +kernel
theorem dX8_peak_15 : decode cX8_peak 15 = .ok (.aload_n 0, 1) := by decide +kernel
theorem dX8_peak_16 : decode cX8_peak 16 = .ok (.bipush (-2), 2) := by decide +kernel
theorem dX8_peak_18 : decode cX8_peak 18 = .ok (.invokevirtual 164, 3) := by decide +kernel
theorem dX8_peak_21 : decode cX8_peak 21 = .ok (.ireturn, 1) := by decide +kernel
theorem dX8_peak_22 : decode cX8_peak 22 = .ok (.aload_n 0, 1) := by decide +kernel
theorem dX8_peak_23 : decode cX8_peak 23 = .ok (.invokevirtual 158, 3) := by decide +kernel
theorem dX8_peak_26 : decode cX8_peak 26 = .ok (.iconst 0, 1) := by decide +kernel
theorem dX8_peak_27 : decode cX8_peak 27 = .ok (.istore_n 2, 1) := by decide +kernel
theorem dX8_peak_28 : decode cX8_peak 28 = .ok (.aload_n 0, 1) := by decide +kernel
theorem dX8_peak_29 : decode cX8_peak 29 = .ok (.invokevirtual 118, 3) := by decide +kernel
theorem dX8_peak_32 : decode cX8_peak 32 = .ok (.istore_n 3, 1) := by decide +kernel
theorem dX8_peak_33 : decode cX8_peak 33 = .ok (.iconst 0, 1) := by decide +kernel
theorem dX8_peak_34 : decode cX8_peak 34 = .ok (.istore 4, 2) := by decide +kernel
theorem dX8_peak_36 : decode cX8_peak 36 = .ok (.iload 4, 2) := by decide +kernel
theorem dX8_peak_38 : decode cX8_peak 38 = .ok (.aload_n 0, 1) := by decide +kernel
theorem dX8_peak_39 : decode cX8_peak 39 = .ok (.getfield 108, 3) := by decide +kernel
theorem dX8_peak_42 : decode cX8_peak 42 = .ok (.if_icmp .ge 49, 3) := by decide +kernel
theorem dX8_peak_45 : decode cX8_peak 45 = .ok (.aload_n 0, 1) := by decide +kernel
theorem dX8_peak_46 : decode cX8_peak 46 = .ok (.iload 4, 2) := by decide +kernel
theorem dX8_peak_48 : decode cX8_peak 48 = .ok (.invokevirtual 154, 3) := by decide +kernel
theorem dX8_peak_51 : decode cX8_peak 51 = .ok (.aload_n 0, 1) := by decide +kernel
theorem dX8_peak_52 : decode cX8_peak 52 = .ok (.invokevirtual 118, 3) := by decide +kernel
theorem dX8_peak_55 : decode cX8_peak 55 = .ok (.iload_n 3, 1) := by decide +kernel
theorem dX8_peak_56 : decode cX8_peak 56 = .ok (.if_icmp .le 10, 3) := by decide +kernel
theorem dX8_peak_59 : decode cX8_peak 59 = .ok (.iload 4, 2) := by decide +kernel
theorem dX8_peak_61 : decode cX8_peak 61 = .ok (.iconst 1, 1) := by decide +kernel
theorem dX8_peak_62 : decode cX8_peak 62 = .ok (.iadd, 1) := by decide +kernel
theorem dX8_peak_63 : decode cX8_peak 63 = .ok (.goto 4, 3) := by decide +kernel
theorem dX8_peak_66 : decode cX8_peak 66 = .ok (.iload_n 2, 1) := by decide +kernel
theorem dX8_peak_67 : decode cX8_peak 67 = .ok (.istore_n 2, 1) := by decide +kernel
theorem dX8_peak_68 : decode cX8_peak 68 = .ok (.aload_n 0, 1) := by decide +kernel
theorem dX8_peak_69 : decode cX8_peak 69 = .ok (.invokevirtual 118, 3) := by decide +kernel
theorem dX8_peak_72 : decode cX8_peak 72 = .ok (.iload_n 3, 1) := by decide +kernel
theorem dX8_peak_73 : decode cX8_peak 73 = .ok (.if_icmp .le 10, 3) := by decide +kernel
theorem dX8_peak_76 : decode cX8_peak 76 = .ok (.aload_n 0, 1) := by decide +kernel
theorem dX8_peak_77 : decode cX8_peak 77 = .ok (.invokevirtual 118, 3) := by decide +kernel
theorem dX8_peak_80 : decode cX8_peak 80 = .ok (.goto 4, 3) := by decide +kernel
theorem dX8_peak_83 : decode cX8_peak 83 = .ok (.iload_n 3, 1) := by decide +kernel
theorem dX8_peak_84 : decode cX8_peak 84 = .ok (.istore_n 3, 1) := by decide +kernel
theorem dX8_peak_85 : decode cX8_peak 85 = .ok (.iinc 4 1, 3) := by decide +kernel
theorem dX8_peak_88 : decode cX8_peak 88 = .ok (.goto (-52), 3) := by decide +kernel
theorem dX8_peak_91 : decode cX8_peak 91 = .ok (.iload_n 1, 1) := by decide +kernel
theorem dX8_peak_92 : decode cX8_peak 92 = .ok (.ifCond .ne 7, 3) := by decide +kernel
theorem dX8_peak_95 : decode cX8_peak 95 = .ok (.iload_n 2, 1) := by decide +kernel
theorem dX8_peak_96 : decode cX8_peak 96 = .ok (.goto 7, 3) := by decide +kernel
theorem dX8_peak_99 : decode cX8_peak 99 = .ok (.iload_n 3, 1) := by decide +kernel
theorem dX8_peak_100 : decode cX8_peak 100 = .ok (.bipush 100, 2) := by decide +kernel
theorem dX8_peak_102 : decode cX8_peak 102 = .ok (.iadd, 1) := by decide +kernel
theorem dX8_peak_103 : decode cX8_peak 103 = .ok (.ireturn, 1) := by decide +kernel
theorem dX8_fullStake_0 : decode cX8_fullStake 0 = .ok (.aload_n 0, 1) := by decide +kernel
theorem dX8_fullStake_1 : decode cX8_fullStake 1 = .ok (.iconst 0, 1) := by decide +kernel
theorem dX8_fullStake_2 : decode cX8_fullStake 2 = .ok (.putfield 105, 3) := by decide +kernel
theorem dX8_fullStake_5 : decode cX8_fullStake 5 = .ok (.aload_n 0, 1) := by decide +kernel
theorem dX8_fullStake_6 : decode cX8_fullStake 6 = .ok (.getfield 108, 3) := by decide +kernel
theorem dX8_fullStake_9 : decode cX8_fullStake 9 = .ok (.ifCond .ne 10, 3) := by decide +kernel
theorem dX8_fullStake_12 : decode cX8_fullStake 12 = .ok (.aload_n 0, 1) := by decide +kernel
theorem dX8_fullStake_13 : decode cX8_fullStake 13 = .ok (.bipush (-3), 2) := by decide +kernel
theorem dX8_fullStake_15 : decode cX8_fullStake 15 = .ok (.invokevirtual 164, 3) := by decide +kernel
theorem dX8_fullStake_18 : decode cX8_fullStake 18 = .ok (.ireturn, 1) := by decide +kernel
theorem dX8_fullStake_19 : decode cX8_fullStake 19 = .ok (.aload_n 0, 1) := by decide +kernel
theorem dX8_fullStake_20 : decode cX8_fullStake 20 = .ok (.getfield 26, 3) := by decide +kernel
theorem dX8_fullStake_23 : decode cX8_fullStake 23 = .ok (.istore_n 1, 1) := by decide +kernel
theorem dX8_fullStake_24 : decode cX8_fullStake 24 = .ok (.bipush (-9), 2) := by decide +kernel
theorem dX8_fullStake_26 : decode cX8_fullStake 26 = .ok (.istore_n 2, 1) := by decide +kernel
theorem dX8_fullStake_27 : decode cX8_fullStake 27 = .ok (.aload_n 0, 1) := by decide +kernel
theorem dX8_fullStake_28 : decode cX8_fullStake 28 = .ok (.iconst 0, 1) := by decide +kernel
theorem dX8_fullStake_29 : decode cX8_fullStake 29 = .ok (.putfield 26, 3) := by decide +kernel
theorem dX8_fullStake_32 : decode cX8_fullStake 32 = .ok (.aload_n 0, 1) := by decide +kernel
theorem dX8_fullStake_33 : decode cX8_fullStake 33 = .ok (.getfield 26, 3) := by decide +kernel
theorem dX8_fullStake_36 : decode cX8_fullStake 36 = .ok (.sipush 1000, 3) := by decide +kernel
theorem dX8_fullStake_39 : decode cX8_fullStake 39 = .ok (.if_icmp .ge 45, 3) := by decide +kernel
theorem dX8_fullStake_42 : decode cX8_fullStake 42 = .ok (.iload_n 2, 1) := by decide +kernel
theorem dX8_fullStake_43 : decode cX8_fullStake 43 = .ok (.ifCond .ge 41, 3) := by decide +kernel
theorem dX8_fullStake_46 : decode cX8_fullStake 46 = .ok (.aload_n 0, 1) := by decide +kernel
theorem dX8_fullStake_47 : decode cX8_fullStake 47 = .ok (.invokevirtual 273, 3) := by decide +kernel
theorem dX8_fullStake_50 : decode cX8_fullStake 50 = .ok (.aload_n 0, 1) := by decide +kernel
theorem dX8_fullStake_51 : decode cX8_fullStake 51 = .ok (.invokevirtual 276, 3) := by decide +kernel
theorem dX8_fullStake_54 : decode cX8_fullStake 54 = .ok (.aload_n 0, 1) := by decide +kernel
theorem dX8_fullStake_55 : decode cX8_fullStake 55 = .ok (.getfield 108, 3) := by decide +kernel
theorem dX8_fullStake_58 : decode cX8_fullStake 58 = .ok (.if_icmp .ne 10, 3) := by decide +kernel
theorem dX8_fullStake_61 : decode cX8_fullStake 61 = .ok (.aload_n 0, 1) := by decide +kernel
theorem dX8_fullStake_62 : decode cX8_fullStake 62 = .ok (.getfield 26, 3) := by decide +kernel
theorem dX8_fullStake_65 : decode cX8_fullStake 65 = .ok (.goto 5, 3) := by decide +kernel
theorem dX8_fullStake_68 : decode cX8_fullStake 68 = .ok (.bipush (-9), 2) := by decide +kernel
theorem dX8_fullStake_70 : decode cX8_fullStake 70 = .ok (.istore_n 2, 1) := by decide +kernel
theorem dX8_fullStake_71 : decode cX8_fullStake 71 = .ok (.aload_n 0, 1) := by decide +kernel
theorem dX8_fullStake_72 : decode cX8_fullStake 72 = .ok (.dup, 1) := by decide +kernel
theorem dX8_fullStake_73 : decode cX8_fullStake 73 = .ok (.getfield 26, 3) := by decide +kernel
theorem dX8_fullStake_76 : decode cX8_fullStake 76 = .ok (.iconst 1, 1) := by decide +kernel
theorem dX8_fullStake_77 : decode cX8_fullStake 77 = .ok (.iadd, 1) := by decide +kernel
theorem dX8_fullStake_78 : decode cX8_fullStake 78 = .ok (.putfield 26, 3) := by decide +kernel
theorem dX8_fullStake_81 : decode cX8_fullStake 81 = .ok (.goto (-49), 3) := by decide +kernel
theorem dX8_fullStake_84 : decode cX8_fullStake 84 = .ok (.aload_n 0, 1) := by decide +kernel
theorem dX8_fullStake_85 : decode cX8_fullStake 85 = .ok (.iload_n 1, 1) := by decide +kernel
theorem dX8_fullStake_86 : decode cX8_fullStake 86 = .ok (.putfield 26, 3) := by decide +kernel
theorem dX8_fullStake_89 : decode cX8_fullStake 89 = .ok (.iload_n 2, 1) := by decide +kernel
theorem dX8_fullStake_90 : decode cX8_fullStake 90 = .ok (.ireturn, 1) := by decide +kernel
theorem dX8_heard_0 : decode cX8_heard 0 = .ok (.aload_n 0, 1) := by decide +kernel
theorem dX8_heard_1 : decode cX8_heard 1 = .ok (.iconst 0, 1) := by decide +kernel
theorem dX8_heard_2 : decode cX8_heard 2 = .ok (.putfield 105, 3) := by decide +kernel
theorem dX8_heard_5 : decode cX8_heard 5 = .ok (.iconst 0, 1) := by decide +kernel
theorem dX8_heard_6 : decode cX8_heard 6 = .ok (.istore_n 1, 1) := by decide +kernel
theorem dX8_heard_7 : decode cX8_heard 7 = .ok (.aload_n 0, 1) := by decide +kernel
theorem dX8_heard_8 : decode cX8_heard 8 = .ok (.invokevirtual 158, 3) := by decide +kernel
theorem dX8_heard_11 : decode cX8_heard 11 = .ok (.iconst 0, 1) := by decide +kernel
theorem dX8_heard_12 : decode cX8_heard 12 = .ok (.istore_n 2, 1) := by decide +kernel
theorem dX8_heard_13 : decode cX8_heard 13 = .ok (.iload_n 2, 1) := by decide +kernel
theorem dX8_heard_14 : decode cX8_heard 14 = .ok (.aload_n 0, 1) := by decide +kernel
theorem dX8_heard_15 : decode cX8_heard 15 = .ok (.getfield 108, 3) := by decide +kernel
theorem dX8_heard_18 : decode cX8_heard 18 = .ok (.if_icmp .ge 101, 3) := by decide +kernel
theorem dX8_heard_21 : decode cX8_heard 21 = .ok (.iconst 0, 1) := by decide +kernel
theorem dX8_heard_22 : decode cX8_heard 22 = .ok (.istore_n 3, 1) := by decide +kernel
theorem dX8_heard_23 : decode cX8_heard 23 = .ok (.iload_n 3, 1) := by decide +kernel
theorem dX8_heard_24 : decode cX8_heard 24 = .ok (.aload_n 0, 1) := by decide +kernel
theorem dX8_heard_25 : decode cX8_heard 25 = .ok (.getfield 19, 3) := by decide +kernel
theorem dX8_heard_28 : decode cX8_heard 28 = .ok (.if_icmp .ge 21, 3) := by decide +kernel
theorem dX8_heard_31 : decode cX8_heard 31 = .ok (.aload_n 0, 1) := by decide +kernel
theorem dX8_heard_32 : decode cX8_heard 32 = .ok (.getfield 96, 3) := by decide +kernel
theorem dX8_heard_35 : decode cX8_heard 35 = .ok (.iload_n 3, 1) := by decide +kernel
theorem dX8_heard_36 : decode cX8_heard 36 = .ok (.aload_n 0, 1) := by decide +kernel
theorem dX8_heard_37 : decode cX8_heard 37 = .ok (.getfield 35, 3) := by decide +kernel
theorem dX8_heard_40 : decode cX8_heard 40 = .ok (.iload_n 3, 1) := by decide +kernel
theorem dX8_heard_41 : decode cX8_heard 41 = .ok (.iaload, 1) := by decide +kernel
theorem dX8_heard_42 : decode cX8_heard 42 = .ok (.iastore, 1) := by decide +kernel
theorem dX8_heard_43 : decode cX8_heard 43 = .ok (.iinc 3 1, 3) := by decide +kernel
theorem dX8_heard_46 : decode cX8_heard 46 = .ok (.goto (-23), 3) := by decide +kernel
theorem dX8_heard_49 : decode cX8_heard 49 = .ok (.aload_n 0, 1) := by decide +kernel
theorem dX8_heard_50 : decode cX8_heard 50 = .ok (.iload_n 2, 1) := by decide +kernel
theorem dX8_heard_51 : decode cX8_heard 51 = .ok (.invokevirtual 154, 3) := by decide +kernel
theorem dX8_heard_54 : decode cX8_heard 54 = .ok (.iconst 0, 1) := by decide +kernel
theorem dX8_heard_55 : decode cX8_heard 55 = .ok (.istore_n 3, 1) := by decide +kernel
theorem dX8_heard_56 : decode cX8_heard 56 = .ok (.iconst 0, 1) := by decide +kernel
theorem dX8_heard_57 : decode cX8_heard 57 = .ok (.istore 4, 2) := by decide +kernel
theorem dX8_heard_59 : decode cX8_heard 59 = .ok (.iload 4, 2) := by decide +kernel
theorem dX8_heard_61 : decode cX8_heard 61 = .ok (.aload_n 0, 1) := by decide +kernel
theorem dX8_heard_62 : decode cX8_heard 62 = .ok (.getfield 19, 3) := by decide +kernel
theorem dX8_heard_65 : decode cX8_heard 65 = .ok (.if_icmp .ge 36, 3) := by decide +kernel
theorem dX8_heard_68 : decode cX8_heard 68 = .ok (.iload_n 3, 1) := by decide +kernel
theorem dX8_heard_69 : decode cX8_heard 69 = .ok (.ifCond .ne 20, 3) := by decide +kernel
theorem dX8_heard_72 : decode cX8_heard 72 = .ok (.aload_n 0, 1) := by decide +kernel
theorem dX8_heard_73 : decode cX8_heard 73 = .ok (.getfield 96, 3) := by decide +kernel
theorem dX8_heard_76 : decode cX8_heard 76 = .ok (.iload 4, 2) := by decide +kernel
theorem dX8_heard_78 : decode cX8_heard 78 = .ok (.iaload, 1) := by decide +kernel
theorem dX8_heard_79 : decode cX8_heard 79 = .ok (.aload_n 0, 1) := by decide +kernel
theorem dX8_heard_80 : decode cX8_heard 80 = .ok (.getfield 35, 3) := by decide +kernel
theorem dX8_heard_83 : decode cX8_heard 83 = .ok (.iload 4, 2) := by decide +kernel
theorem dX8_heard_85 : decode cX8_heard 85 = .ok (.iaload, 1) := by decide +kernel
theorem dX8_heard_86 : decode cX8_heard 86 = .ok (.if_icmp .eq 7, 3) := by decide +kernel
theorem dX8_heard_89 : decode cX8_heard 89 = .ok (.iconst 1, 1) := by decide +kernel
theorem dX8_heard_90 : decode cX8_heard 90 = .ok (.goto 4, 3) := by decide +kernel
theorem dX8_heard_93 : decode cX8_heard 93 = .ok (.iconst 0, 1) := by decide +kernel
theorem dX8_heard_94 : decode cX8_heard 94 = .ok (.istore_n 3, 1) := by decide +kernel
theorem dX8_heard_95 : decode cX8_heard 95 = .ok (.iinc 4 1, 3) := by decide +kernel
theorem dX8_heard_98 : decode cX8_heard 98 = .ok (.goto (-39), 3) := by decide +kernel
theorem dX8_heard_101 : decode cX8_heard 101 = .ok (.iload_n 1, 1) := by decide +kernel
theorem dX8_heard_102 : decode cX8_heard 102 = .ok (.iload_n 3, 1) := by decide +kernel
theorem dX8_heard_103 : decode cX8_heard 103 = .ok (.ifCond .eq 7, 3) := by decide +kernel
theorem dX8_heard_106 : decode cX8_heard 106 = .ok (.iconst 1, 1) := by decide +kernel
theorem dX8_heard_107 : decode cX8_heard 107 = .ok (.goto 4, 3) := by decide +kernel
theorem dX8_heard_110 : decode cX8_heard 110 = .ok (.iconst 0, 1) := by decide +kernel
theorem dX8_heard_111 : decode cX8_heard 111 = .ok (.iadd, 1) := by decide +kernel
theorem dX8_heard_112 : decode cX8_heard 112 = .ok (.istore_n 1, 1) := by decide +kernel
theorem dX8_heard_113 : decode cX8_heard 113 = .ok (.iinc 2 1, 3) := by decide +kernel
theorem dX8_heard_116 : decode cX8_heard 116 = .ok (.goto (-103), 3) := by decide +kernel
theorem dX8_heard_119 : decode cX8_heard 119 = .ok (.iload_n 1, 1) := by decide +kernel
theorem dX8_heard_120 : decode cX8_heard 120 = .ok (.ireturn, 1) := by decide +kernel
theorem dX8_lastSay_0 : decode cX8_lastSay 0 = .ok (.aload_n 0, 1) := by decide +kernel
theorem dX8_lastSay_1 : decode cX8_lastSay 1 = .ok (.iconst 0, 1) := by decide +kernel
theorem dX8_lastSay_2 : decode cX8_lastSay 2 = .ok (.putfield 105, 3) := by decide +kernel
theorem dX8_lastSay_5 : decode cX8_lastSay 5 = .ok (.aload_n 0, 1) := by decide +kernel
theorem dX8_lastSay_6 : decode cX8_lastSay 6 = .ok (.getfield 108, 3) := by decide +kernel
theorem dX8_lastSay_9 : decode cX8_lastSay 9 = .ok (.ifCond .ne 10, 3) := by decide +kernel
theorem dX8_lastSay_12 : decode cX8_lastSay 12 = .ok (.aload_n 0, 1) := by decide +kernel
theorem dX8_lastSay_13 : decode cX8_lastSay 13 = .ok (.bipush (-3), 2) := by decide +kernel
theorem dX8_lastSay_15 : decode cX8_lastSay 15 = .ok (.invokevirtual 164, 3) := by decide +kernel
theorem dX8_lastSay_18 : decode cX8_lastSay 18 = .ok (.ireturn, 1) := by decide +kernel
theorem dX8_lastSay_19 : decode cX8_lastSay 19 = .ok (.aload_n 0, 1) := by decide +kernel
theorem dX8_lastSay_20 : decode cX8_lastSay 20 = .ok (.getfield 7, 3) := by decide +kernel
theorem dX8_lastSay_23 : decode cX8_lastSay 23 = .ok (.aload_n 0, 1) := by decide +kernel
theorem dX8_lastSay_24 : decode cX8_lastSay 24 = .ok (.getfield 108, 3) := by decide +kernel
theorem dX8_lastSay_27 : decode cX8_lastSay 27 = .ok (.iconst 1, 1) := by decide +kernel
theorem dX8_lastSay_28 : decode cX8_lastSay 28 = .ok (.isub, 1) := by decide +kernel
theorem dX8_lastSay_29 : decode cX8_lastSay 29 = .ok (.iaload, 1) := by decide +kernel
theorem dX8_lastSay_30 : decode cX8_lastSay 30 = .ok (.istore_n 1, 1) := by decide +kernel
theorem dX8_lastSay_31 : decode cX8_lastSay 31 = .ok (.iconst 0, 1) := by decide +kernel
theorem dX8_lastSay_32 : decode cX8_lastSay 32 = .ok (.istore_n 2, 1) := by decide +kernel
theorem dX8_lastSay_33 : decode cX8_lastSay 33 = .ok (.iconst 0, 1) := by decide +kernel
theorem dX8_lastSay_34 : decode cX8_lastSay 34 = .ok (.istore_n 3, 1) := by decide +kernel
theorem dX8_lastSay_35 : decode cX8_lastSay 35 = .ok (.iload_n 3, 1) := by decide +kernel
theorem dX8_lastSay_36 : decode cX8_lastSay 36 = .ok (.bipush 6, 2) := by decide +kernel
theorem dX8_lastSay_38 : decode cX8_lastSay 38 = .ok (.if_icmp .ge 38, 3) := by decide +kernel
theorem dX8_lastSay_41 : decode cX8_lastSay 41 = .ok (.aload_n 0, 1) := by decide +kernel
theorem dX8_lastSay_42 : decode cX8_lastSay 42 = .ok (.getfield 7, 3) := by decide +kernel
theorem dX8_lastSay_45 : decode cX8_lastSay 45 = .ok (.aload_n 0, 1) := by decide +kernel
theorem dX8_lastSay_46 : decode cX8_lastSay 46 = .ok (.getfield 108, 3) := by decide +kernel
theorem dX8_lastSay_49 : decode cX8_lastSay 49 = .ok (.iconst 1, 1) := by decide +kernel
theorem dX8_lastSay_50 : decode cX8_lastSay 50 = .ok (.isub, 1) := by decide +kernel
theorem dX8_lastSay_51 : decode cX8_lastSay 51 = .ok (.iload_n 3, 1) := by decide +kernel
theorem dX8_lastSay_52 : decode cX8_lastSay 52 = .ok (.iastore, 1) := by decide +kernel
theorem dX8_lastSay_53 : decode cX8_lastSay 53 = .ok (.iload_n 2, 1) := by decide +kernel
theorem dX8_lastSay_54 : decode cX8_lastSay 54 = .ok (.aload_n 0, 1) := by decide +kernel
theorem dX8_lastSay_55 : decode cX8_lastSay 55 = .ok (.invokevirtual 297, 3) := by decide +kernel
theorem dX8_lastSay_58 : decode cX8_lastSay 58 = .ok (.ifCond .le 9, 3) := by decide +kernel
theorem dX8_lastSay_61 : decode cX8_lastSay 61 = .ok (.iconst 1, 1) := by decide +kernel
theorem dX8_lastSay_62 : decode cX8_lastSay 62 = .ok (.iload_n 3, 1) := by decide +kernel
theorem dX8_lastSay_63 : decode cX8_lastSay 63 = .ok (.ishl, 1) := by decide +kernel
theorem dX8_lastSay_64 : decode cX8_lastSay 64 = .ok (.goto 4, 3) := by decide +kernel
theorem dX8_lastSay_67 : decode cX8_lastSay 67 = .ok (.iconst 0, 1) := by decide +kernel
theorem dX8_lastSay_68 : decode cX8_lastSay 68 = .ok (.ior, 1) := by decide +kernel
theorem dX8_lastSay_69 : decode cX8_lastSay 69 = .ok (.istore_n 2, 1) := by decide +kernel
theorem dX8_lastSay_70 : decode cX8_lastSay 70 = .ok (.iinc 3 1, 3) := by decide +kernel
theorem dX8_lastSay_73 : decode cX8_lastSay 73 = .ok (.goto (-38), 3) := by decide +kernel
theorem dX8_lastSay_76 : decode cX8_lastSay 76 = .ok (.aload_n 0, 1) := by decide +kernel
theorem dX8_lastSay_77 : decode cX8_lastSay 77 = .ok (.getfield 7, 3) := by decide +kernel
theorem dX8_lastSay_80 : decode cX8_lastSay 80 = .ok (.aload_n 0, 1) := by decide +kernel
theorem dX8_lastSay_81 : decode cX8_lastSay 81 = .ok (.getfield 108, 3) := by decide +kernel
theorem dX8_lastSay_84 : decode cX8_lastSay 84 = .ok (.iconst 1, 1) := by decide +kernel
theorem dX8_lastSay_85 : decode cX8_lastSay 85 = .ok (.isub, 1) := by decide +kernel
theorem dX8_lastSay_86 : decode cX8_lastSay 86 = .ok (.iload_n 1, 1) := by decide +kernel
theorem dX8_lastSay_87 : decode cX8_lastSay 87 = .ok (.iastore, 1) := by decide +kernel
theorem dX8_lastSay_88 : decode cX8_lastSay 88 = .ok (.iload_n 2, 1) := by decide +kernel
theorem dX8_lastSay_89 : decode cX8_lastSay 89 = .ok (.ireturn, 1) := by decide +kernel
theorem dX8_row_0 : decode cX8_row 0 = .ok (.aload_n 0, 1) := by decide +kernel
theorem dX8_row_1 : decode cX8_row 1 = .ok (.iconst 0, 1) := by decide +kernel
theorem dX8_row_2 : decode cX8_row 2 = .ok (.putfield 105, 3) := by decide +kernel
theorem dX8_row_5 : decode cX8_row 5 = .ok (.iload_n 1, 1) := by decide +kernel
theorem dX8_row_6 : decode cX8_row 6 = .ok (.ifCond .ge 10, 3) := by decide +kernel
theorem dX8_row_9 : decode cX8_row 9 = .ok (.aload_n 0, 1) := by decide +kernel
theorem dX8_row_10 : decode cX8_row 10 = .ok (.bipush (-4), 2) := by decide +kernel
theorem dX8_row_12 : decode cX8_row 12 = .ok (.invokevirtual 164, 3) := by decide +kernel
theorem dX8_row_15 : decode cX8_row 15 = .ok (.ireturn, 1) := by decide +kernel
theorem dX8_row_16 : decode cX8_row 16 = .ok (.iload_n 1, 1) := by decide +kernel
theorem dX8_row_17 : decode cX8_row 17 = .ok (.bipush 99, 2) := by decide +kernel
theorem dX8_row_19 : decode cX8_row 19 = .ok (.if_icmp .gt 12, 3) := by decide +kernel
theorem dX8_row_22 : decode cX8_row 22 = .ok (.aload_n 0, 1) := by decide +kernel
theorem dX8_row_23 : decode cX8_row 23 = .ok (.getfield 312, 3) := by decide +kernel
theorem dX8_row_26 : decode cX8_row 26 = .ok (.bipush 16, 2) := by decide +kernel
theorem dX8_row_28 : decode cX8_row 28 = .ok (.if_icmp .ne 10, 3) := by decide +kernel
theorem dX8_row_31 : decode cX8_row 31 = .ok (.aload_n 0, 1) := by decide +kernel
theorem dX8_row_32 : decode cX8_row 32 = .ok (.bipush (-6), 2) := by decide +kernel
theorem dX8_row_34 : decode cX8_row 34 = .ok (.invokevirtual 164, 3) := by decide +kernel
theorem dX8_row_37 : decode cX8_row 37 = .ok (.ireturn, 1) := by decide +kernel
theorem dX8_row_38 : decode cX8_row 38 = .ok (.aload_n 0, 1) := by decide +kernel
theorem dX8_row_39 : decode cX8_row 39 = .ok (.getfield 87, 3) := by decide +kernel
theorem dX8_row_42 : decode cX8_row 42 = .ok (.aload_n 0, 1) := by decide +kernel
theorem dX8_row_43 : decode cX8_row 43 = .ok (.getfield 312, 3) := by decide +kernel
theorem dX8_row_46 : decode cX8_row 46 = .ok (.iload_n 1, 1) := by decide +kernel
theorem dX8_row_47 : decode cX8_row 47 = .ok (.iastore, 1) := by decide +kernel
theorem dX8_row_48 : decode cX8_row 48 = .ok (.aload_n 0, 1) := by decide +kernel
theorem dX8_row_49 : decode cX8_row 49 = .ok (.dup, 1) := by decide +kernel
theorem dX8_row_50 : decode cX8_row 50 = .ok (.getfield 312, 3) := by decide +kernel
theorem dX8_row_53 : decode cX8_row 53 = .ok (.iconst 1, 1) := by decide +kernel
theorem dX8_row_54 : decode cX8_row 54 = .ok (.iadd, 1) := by decide +kernel
theorem dX8_row_55 : decode cX8_row 55 = .ok (.putfield 312, 3) := by decide +kernel
theorem dX8_row_58 : decode cX8_row 58 = .ok (.aload_n 0, 1) := by decide +kernel
theorem dX8_row_59 : decode cX8_row 59 = .ok (.getfield 312, 3) := by decide +kernel
theorem dX8_row_62 : decode cX8_row 62 = .ok (.ireturn, 1) := by decide +kernel
theorem dX8_judge_0 : decode cX8_judge 0 = .ok (.aload_n 0, 1) := by decide +kernel
theorem dX8_judge_1 : decode cX8_judge 1 = .ok (.iconst 0, 1) := by decide +kernel
theorem dX8_judge_2 : decode cX8_judge 2 = .ok (.putfield 105, 3) := by decide +kernel
theorem dX8_judge_5 : decode cX8_judge 5 = .ok (.aload_n 0, 1) := by decide +kernel
theorem dX8_judge_6 : decode cX8_judge 6 = .ok (.getfield 312, 3) := by decide +kernel
theorem dX8_judge_9 : decode cX8_judge 9 = .ok (.istore_n 1, 1) := by decide +kernel
theorem dX8_judge_10 : decode cX8_judge 10 = .ok (.aload_n 0, 1) := by decide +kernel
theorem dX8_judge_11 : decode cX8_judge 11 = .ok (.iconst 0, 1) := by decide +kernel
theorem dX8_judge_12 : decode cX8_judge 12 = .ok (.putfield 312, 3) := by decide +kernel
theorem dX8_judge_15 : decode cX8_judge 15 = .ok (.aload_n 0, 1) := by decide +kernel
theorem dX8_judge_16 : decode cX8_judge 16 = .ok (.invokevirtual 158, 3) := by decide +kernel
theorem dX8_judge_19 : decode cX8_judge 19 = .ok (.iconst 0, 1) := by decide +kernel
theorem dX8_judge_20 : decode cX8_judge 20 = .ok (.istore_n 2, 1) := by decide +kernel
theorem dX8_judge_21 : decode cX8_judge 21 = .ok (.iload_n 2, 1) := by decide +kernel
theorem dX8_judge_22 : decode cX8_judge 22 = .ok (.iload_n 1, 1) := by decide +kernel
theorem dX8_judge_23 : decode cX8_judge 23 = .ok (.if_icmp .ge 48, 3) := by decide +kernel
theorem dX8_judge_26 : decode cX8_judge 26 = .ok (.iload_n 2, 1) := by decide +kernel
theorem dX8_judge_27 : decode cX8_judge 27 = .ok (.aload_n 0, 1) := by decide +kernel
theorem dX8_judge_28 : decode cX8_judge 28 = .ok (.getfield 108, 3) := by decide +kernel
theorem dX8_judge_31 : decode cX8_judge 31 = .ok (.if_icmp .gt 19, 3) := by decide +kernel
theorem dX8_judge_34 : decode cX8_judge 34 = .ok (.aload_n 0, 1) := by decide +kernel
theorem dX8_judge_35 : decode cX8_judge 35 = .ok (.invokevirtual 118, 3) := by decide +kernel
theorem dX8_judge_38 : decode cX8_judge 38 = .ok (.bipush 50, 2) := by decide +kernel
theorem dX8_judge_40 : decode cX8_judge 40 = .ok (.iadd, 1) := by decide +kernel
theorem dX8_judge_41 : decode cX8_judge 41 = .ok (.aload_n 0, 1) := by decide +kernel
theorem dX8_judge_42 : decode cX8_judge 42 = .ok (.getfield 87, 3) := by decide +kernel
theorem dX8_judge_45 : decode cX8_judge 45 = .ok (.iload_n 2, 1) := by decide +kernel
theorem dX8_judge_46 : decode cX8_judge 46 = .ok (.iaload, 1) := by decide +kernel
theorem dX8_judge_47 : decode cX8_judge 47 = .ok (.if_icmp .eq 5, 3) := by decide +kernel
theorem dX8_judge_50 : decode cX8_judge 50 = .ok (.iload_n 2, 1) := by decide +kernel
theorem dX8_judge_51 : decode cX8_judge 51 = .ok (.ireturn, 1) := by decide +kernel
theorem dX8_judge_52 : decode cX8_judge 52 = .ok (.iload_n 2, 1) := by decide +kernel
theorem dX8_judge_53 : decode cX8_judge 53 = .ok (.aload_n 0, 1) := by decide +kernel
theorem dX8_judge_54 : decode cX8_judge 54 = .ok (.getfield 108, 3) := by decide +kernel
theorem dX8_judge_57 : decode cX8_judge 57 = .ok (.if_icmp .ge 8, 3) := by decide +kernel
theorem dX8_judge_60 : decode cX8_judge 60 = .ok (.aload_n 0, 1) := by decide +kernel
theorem dX8_judge_61 : decode cX8_judge 61 = .ok (.iload_n 2, 1) := by decide +kernel
theorem dX8_judge_62 : decode cX8_judge 62 = .ok (.invokevirtual 154, 3) := by decide +kernel
theorem dX8_judge_65 : decode cX8_judge 65 = .ok (.iinc 2 1, 3) := by decide +kernel
theorem dX8_judge_68 : decode cX8_judge 68 = .ok (.goto (-47), 3) := by decide +kernel
theorem dX8_judge_71 : decode cX8_judge 71 = .ok (.bipush (-9), 2) := by decide +kernel
theorem dX8_judge_73 : decode cX8_judge 73 = .ok (.ireturn, 1) := by decide +kernel
theorem dX8_clear_0 : decode cX8_clear 0 = .ok (.aload_n 0, 1) := by decide +kernel
theorem dX8_clear_1 : decode cX8_clear 1 = .ok (.iconst 0, 1) := by decide +kernel
theorem dX8_clear_2 : decode cX8_clear 2 = .ok (.putfield 105, 3) := by decide +kernel
theorem dX8_clear_5 : decode cX8_clear 5 = .ok (.aload_n 0, 1) := by decide +kernel
theorem dX8_clear_6 : decode cX8_clear 6 = .ok (.getfield 312, 3) := by decide +kernel
theorem dX8_clear_9 : decode cX8_clear 9 = .ok (.istore_n 1, 1) := by decide +kernel
theorem dX8_clear_10 : decode cX8_clear 10 = .ok (.aload_n 0, 1) := by decide +kernel
theorem dX8_clear_11 : decode cX8_clear 11 = .ok (.iconst 0, 1) := by decide +kernel
theorem dX8_clear_12 : decode cX8_clear 12 = .ok (.putfield 312, 3) := by decide +kernel
theorem dX8_clear_15 : decode cX8_clear 15 = .ok (.iload_n 1, 1) := by decide +kernel
theorem dX8_clear_16 : decode cX8_clear 16 = .ok (.ireturn, 1) := by decide +kernel
theorem dX8_lots_0 : decode cX8_lots 0 = .ok (.aload_n 0, 1) := by decide +kernel
theorem dX8_lots_1 : decode cX8_lots 1 = .ok (.iconst 0, 1) := by decide +kernel
theorem dX8_lots_2 : decode cX8_lots 2 = .ok (.putfield 105, 3) := by decide +kernel
theorem dX8_lots_5 : decode cX8_lots 5 = .ok (.iload_n 1, 1) := by decide +kernel
theorem dX8_lots_6 : decode cX8_lots 6 = .ok (.iconst 1, 1) := by decide +kernel
theorem dX8_lots_7 : decode cX8_lots 7 = .ok (.bipush 20, 2) := by decide +kernel
theorem dX8_lots_9 : decode cX8_lots 9 = .ok (.invokestatic 235, 3) := by decide +kernel
theorem dX8_lots_12 : decode cX8_lots 12 = .ok (.iload_n 3, 1) := by decide +kernel
theorem dX8_lots_13 : decode cX8_lots 13 = .ok (.iconst 1, 1) := by decide +kernel
theorem dX8_lots_14 : decode cX8_lots 14 = .ok (.invokestatic 279, 3) := by decide +kernel
theorem dX8_lots_17 : decode cX8_lots 17 = .ok (.istore 4, 2) := by decide +kernel
theorem dX8_lots_19 : decode cX8_lots 19 = .ok (.iload 4, 2) := by decide +kernel
theorem dX8_lots_21 : decode cX8_lots 21 = .ok (.ifCond .ge 10, 3) := by decide +kernel
theorem dX8_lots_24 : decode cX8_lots 24 = .ok (.aload_n 0, 1) := by decide +kernel
theorem dX8_lots_25 : decode cX8_lots 25 = .ok (.iload 4, 2) := by decide +kernel
theorem dX8_lots_27 : decode cX8_lots 27 = .ok (.invokevirtual 164, 3) := by decide +kernel
theorem dX8_lots_30 : decode cX8_lots 30 = .ok (.ireturn, 1) := by decide +kernel
theorem dX8_lots_31 : decode cX8_lots 31 = .ok (.iload_n 2, 1) := by decide +kernel
theorem dX8_lots_32 : decode cX8_lots 32 = .ok (.istore 5, 2) := by decide +kernel
theorem dX8_lots_34 : decode cX8_lots 34 = .ok (.iconst 0, 1) := by decide +kernel
theorem dX8_lots_35 : decode cX8_lots 35 = .ok (.istore 6, 2) := by decide +kernel
theorem dX8_lots_37 : decode cX8_lots 37 = .ok (.iconst 0, 1) := by decide +kernel
theorem dX8_lots_38 : decode cX8_lots 38 = .ok (.istore 7, 2) := by decide +kernel
theorem dX8_lots_40 : decode cX8_lots 40 = .ok (.iconst 0, 1) := by decide +kernel
theorem dX8_lots_41 : decode cX8_lots 41 = .ok (.istore 8, 2) := by decide +kernel
theorem dX8_lots_43 : decode cX8_lots 43 = .ok (.iload 8, 2) := by decide +kernel
theorem dX8_lots_45 : decode cX8_lots 45 = .ok (.iload_n 1, 1) := by decide +kernel
theorem dX8_lots_46 : decode cX8_lots 46 = .ok (.if_icmp .ge 117, 3) := by decide +kernel
theorem dX8_lots_49 : decode cX8_lots 49 = .ok (.aload_n 0, 1) := by decide +kernel
theorem dX8_lots_50 : decode cX8_lots 50 = .ok (.aload_n 0, 1) := by decide +kernel
theorem dX8_lots_51 : decode cX8_lots 51 = .ok (.getfield 19, 3) := by decide +kernel
theorem dX8_lots_54 : decode cX8_lots 54 = .ok (.putfield 115, 3) := by decide +kernel
theorem dX8_lots_57 : decode cX8_lots 57 = .ok (.iconst 0, 1) := by decide +kernel
theorem dX8_lots_58 : decode cX8_lots 58 = .ok (.istore 9, 2) := by decide +kernel
theorem dX8_lots_60 : decode cX8_lots 60 = .ok (.iload 9, 2) := by decide +kernel
theorem dX8_lots_62 : decode cX8_lots 62 = .ok (.aload_n 0, 1) := by decide +kernel
theorem dX8_lots_63 : decode cX8_lots 63 = .ok (.getfield 19, 3) := by decide +kernel
theorem dX8_lots_66 : decode cX8_lots 66 = .ok (.if_icmp .ge 44, 3) := by decide +kernel
theorem dX8_lots_69 : decode cX8_lots 69 = .ok (.iload 5, 2) := by decide +kernel
theorem dX8_lots_71 : decode cX8_lots 71 = .ok (.ldc_w 342, 3) := by decide +kernel
theorem dX8_lots_74 : decode cX8_lots 74 = .ok (.imul, 1) := by decide +kernel
theorem dX8_lots_75 : decode cX8_lots 75 = .ok (.sipush 12345, 3) := by decide +kernel
theorem dX8_lots_78 : decode cX8_lots 78 = .ok (.iadd, 1) := by decide +kernel
theorem dX8_lots_79 : decode cX8_lots 79 = .ok (.istore 5, 2) := by decide +kernel
theorem dX8_lots_81 : decode cX8_lots 81 = .ok (.aload_n 0, 1) := by decide +kernel
theorem dX8_lots_82 : decode cX8_lots 82 = .ok (.getfield 35, 3) := by decide +kernel
theorem dX8_lots_85 : decode cX8_lots 85 = .ok (.iload 9, 2) := by decide +kernel
theorem dX8_lots_87 : decode cX8_lots 87 = .ok (.iload 5, 2) := by decide +kernel
theorem dX8_lots_89 : decode cX8_lots 89 = .ok (.ldc_w 343, 3) := by decide +kernel
theorem dX8_lots_92 : decode cX8_lots 92 = .ok (.iand, 1) := by decide +kernel
theorem dX8_lots_93 : decode cX8_lots 93 = .ok (.ldc_w 344, 3) := by decide +kernel
theorem dX8_lots_96 : decode cX8_lots 96 = .ok (.idiv, 1) := by decide +kernel
theorem dX8_lots_97 : decode cX8_lots 97 = .ok (.bipush 19, 2) := by decide +kernel
theorem dX8_lots_99 : decode cX8_lots 99 = .ok (.irem, 1) := by decide +kernel
theorem dX8_lots_100 : decode cX8_lots 100 = .ok (.bipush 9, 2) := by decide +kernel
theorem dX8_lots_102 : decode cX8_lots 102 = .ok (.isub, 1) := by decide +kernel
theorem dX8_lots_103 : decode cX8_lots 103 = .ok (.iastore, 1) := by decide +kernel
theorem dX8_lots_104 : decode cX8_lots 104 = .ok (.iinc 9 1, 3) := by decide +kernel
theorem dX8_lots_107 : decode cX8_lots 107 = .ok (.goto (-47), 3) := by decide +kernel
theorem dX8_lots_110 : decode cX8_lots 110 = .ok (.aload_n 0, 1) := by decide +kernel
theorem dX8_lots_111 : decode cX8_lots 111 = .ok (.invokevirtual 252, 3) := by decide +kernel
theorem dX8_lots_114 : decode cX8_lots 114 = .ok (.istore 9, 2) := by decide +kernel
theorem dX8_lots_116 : decode cX8_lots 116 = .ok (.aload_n 0, 1) := by decide +kernel
theorem dX8_lots_117 : decode cX8_lots 117 = .ok (.iconst 0, 1) := by decide +kernel
theorem dX8_lots_118 : decode cX8_lots 118 = .ok (.invokevirtual 161, 3) := by decide +kernel
theorem dX8_lots_121 : decode cX8_lots 121 = .ok (.iload 6, 2) := by decide +kernel
theorem dX8_lots_123 : decode cX8_lots 123 = .ok (.aload_n 0, 1) := by decide +kernel
theorem dX8_lots_124 : decode cX8_lots 124 = .ok (.invokevirtual 252, 3) := by decide +kernel
theorem dX8_lots_127 : decode cX8_lots 127 = .ok (.ifCond .eq 7, 3) := by decide +kernel
theorem dX8_lots_130 : decode cX8_lots 130 = .ok (.iconst 1, 1) := by decide +kernel
theorem dX8_lots_131 : decode cX8_lots 131 = .ok (.goto 4, 3) := by decide +kernel
theorem dX8_lots_134 : decode cX8_lots 134 = .ok (.iconst 0, 1) := by decide +kernel
theorem dX8_lots_135 : decode cX8_lots 135 = .ok (.iadd, 1) := by decide +kernel
theorem dX8_lots_136 : decode cX8_lots 136 = .ok (.istore 6, 2) := by decide +kernel
theorem dX8_lots_138 : decode cX8_lots 138 = .ok (.iload 7, 2) := by decide +kernel
theorem dX8_lots_140 : decode cX8_lots 140 = .ok (.aload_n 0, 1) := by decide +kernel
theorem dX8_lots_141 : decode cX8_lots 141 = .ok (.invokevirtual 252, 3) := by decide +kernel
theorem dX8_lots_144 : decode cX8_lots 144 = .ok (.iload 9, 2) := by decide +kernel
theorem dX8_lots_146 : decode cX8_lots 146 = .ok (.if_icmp .ne 7, 3) := by decide +kernel
theorem dX8_lots_149 : decode cX8_lots 149 = .ok (.iconst 0, 1) := by decide +kernel
theorem dX8_lots_150 : decode cX8_lots 150 = .ok (.goto 4, 3) := by decide +kernel
theorem dX8_lots_153 : decode cX8_lots 153 = .ok (.iconst 1, 1) := by decide +kernel
theorem dX8_lots_154 : decode cX8_lots 154 = .ok (.iadd, 1) := by decide +kernel
theorem dX8_lots_155 : decode cX8_lots 155 = .ok (.istore 7, 2) := by decide +kernel
theorem dX8_lots_157 : decode cX8_lots 157 = .ok (.iinc 8 1, 3) := by decide +kernel
theorem dX8_lots_160 : decode cX8_lots 160 = .ok (.goto (-117), 3) := by decide +kernel
theorem dX8_lots_163 : decode cX8_lots 163 = .ok (.iload_n 3, 1) := by decide +kernel
theorem dX8_lots_164 : decode cX8_lots 164 = .ok (.ifCond .ne 8, 3) := by decide +kernel
theorem dX8_lots_167 : decode cX8_lots 167 = .ok (.iload 6, 2) := by decide +kernel
theorem dX8_lots_169 : decode cX8_lots 169 = .ok (.goto 5, 3) := by decide +kernel
theorem dX8_lots_172 : decode cX8_lots 172 = .ok (.iload 7, 2) := by decide +kernel
theorem dX8_lots_174 : decode cX8_lots 174 = .ok (.ireturn, 1) := by decide +kernel
theorem dX8_count_0 : decode cX8_count 0 = .ok (.aload_n 0, 1) := by decide +kernel
theorem dX8_count_1 : decode cX8_count 1 = .ok (.iconst 0, 1) := by decide +kernel
theorem dX8_count_2 : decode cX8_count 2 = .ok (.putfield 105, 3) := by decide +kernel
theorem dX8_count_5 : decode cX8_count 5 = .ok (.iload_n 1, 1) := by decide +kernel
theorem dX8_count_6 : decode cX8_count 6 = .ok (.tableswitch 90 0 7 #[46, 51, 56, 61, 66, 71, 76, 81], 46) := by decide +kernel
theorem dX8_count_52 : decode cX8_count 52 = .ok (.aload_n 0, 1) := by decide +kernel
theorem dX8_count_53 : decode cX8_count 53 = .ok (.getfield 108, 3) := by decide +kernel
theorem dX8_count_56 : decode cX8_count 56 = .ok (.ireturn, 1) := by decide +kernel
theorem dX8_count_57 : decode cX8_count 57 = .ok (.aload_n 0, 1) := by decide +kernel
theorem dX8_count_58 : decode cX8_count 58 = .ok (.getfield 19, 3) := by decide +kernel
theorem dX8_count_61 : decode cX8_count 61 = .ok (.ireturn, 1) := by decide +kernel
theorem dX8_count_62 : decode cX8_count 62 = .ok (.aload_n 0, 1) := by decide +kernel
theorem dX8_count_63 : decode cX8_count 63 = .ok (.getfield 26, 3) := by decide +kernel
theorem dX8_count_66 : decode cX8_count 66 = .ok (.ireturn, 1) := by decide +kernel
theorem dX8_count_67 : decode cX8_count 67 = .ok (.aload_n 0, 1) := by decide +kernel
theorem dX8_count_68 : decode cX8_count 68 = .ok (.getfield 29, 3) := by decide +kernel
theorem dX8_count_71 : decode cX8_count 71 = .ok (.ireturn, 1) := by decide +kernel
theorem dX8_count_72 : decode cX8_count 72 = .ok (.aload_n 0, 1) := by decide +kernel
theorem dX8_count_73 : decode cX8_count 73 = .ok (.getfield 167, 3) := by decide +kernel
theorem dX8_count_76 : decode cX8_count 76 = .ok (.ireturn, 1) := by decide +kernel
theorem dX8_count_77 : decode cX8_count 77 = .ok (.aload_n 0, 1) := by decide +kernel
theorem dX8_count_78 : decode cX8_count 78 = .ok (.getfield 312, 3) := by decide +kernel
theorem dX8_count_81 : decode cX8_count 81 = .ok (.ireturn, 1) := by decide +kernel
theorem dX8_count_82 : decode cX8_count 82 = .ok (.aload_n 0, 1) := by decide +kernel
theorem dX8_count_83 : decode cX8_count 83 = .ok (.getfield 212, 3) := by decide +kernel
theorem dX8_count_86 : decode cX8_count 86 = .ok (.ireturn, 1) := by decide +kernel
theorem dX8_count_87 : decode cX8_count 87 = .ok (.aload_n 0, 1) := by decide +kernel
theorem dX8_count_88 : decode cX8_count 88 = .ok (.invokevirtual 158, 3) := by decide +kernel
theorem dX8_count_91 : decode cX8_count 91 = .ok (.aload_n 0, 1) := by decide +kernel
theorem dX8_count_92 : decode cX8_count 92 = .ok (.invokevirtual 139, 3) := by decide +kernel
theorem dX8_count_95 : decode cX8_count 95 = .ok (.ireturn, 1) := by decide +kernel
theorem dX8_count_96 : decode cX8_count 96 = .ok (.iload_n 1, 1) := by decide +kernel
theorem dX8_count_97 : decode cX8_count 97 = .ok (.i2l, 1) := by decide +kernel
theorem dX8_count_98 : decode cX8_count 98 = .ok (.ldc2_w 345, 3) := by decide +kernel
theorem dX8_count_101 : decode cX8_count 101 = .ok (.ldc2_w 347, 3) := by decide +kernel
theorem dX8_count_104 : decode cX8_count 104 = .ok (.invokestatic 111, 3) := by decide +kernel
theorem dX8_count_107 : decode cX8_count 107 = .ok (.ifCond .eq 15, 3) := by decide +kernel
theorem dX8_count_110 : decode cX8_count 110 = .ok (.aload_n 0, 1) := by decide +kernel
theorem dX8_count_111 : decode cX8_count 111 = .ok (.getfield 32, 3) := by decide +kernel
theorem dX8_count_114 : decode cX8_count 114 = .ok (.iload_n 1, 1) := by decide +kernel
theorem dX8_count_115 : decode cX8_count 115 = .ok (.bipush 10, 2) := by decide +kernel
theorem dX8_count_117 : decode cX8_count 117 = .ok (.isub, 1) := by decide +kernel
theorem dX8_count_118 : decode cX8_count 118 = .ok (.iaload, 1) := by decide +kernel
theorem dX8_count_119 : decode cX8_count 119 = .ok (.goto 5, 3) := by decide +kernel
theorem dX8_count_122 : decode cX8_count 122 = .ok (.bipush (-9), 2) := by decide +kernel
theorem dX8_count_124 : decode cX8_count 124 = .ok (.ireturn, 1) := by decide +kernel
theorem dJ6_bitCount_0f7a4_0 : decode cJ6_bitCount_0f7a4 0 = .ok (.iload_n 0, 1) := by decide +kernel
theorem dJ6_bitCount_0f7a4_1 : decode cJ6_bitCount_0f7a4 1 = .ok (.iload_n 0, 1) := by decide +kernel
theorem dJ6_bitCount_0f7a4_2 : decode cJ6_bitCount_0f7a4 2 = .ok (.iconst 1, 1) := by decide +kernel
theorem dJ6_bitCount_0f7a4_3 : decode cJ6_bitCount_0f7a4 3 = .ok (.iushr, 1) := by decide +kernel
theorem dJ6_bitCount_0f7a4_4 : decode cJ6_bitCount_0f7a4 4 = .ok (.ldc_w 265, 3) := by decide +kernel
theorem dJ6_bitCount_0f7a4_7 : decode cJ6_bitCount_0f7a4 7 = .ok (.iand, 1) := by decide +kernel
theorem dJ6_bitCount_0f7a4_8 : decode cJ6_bitCount_0f7a4 8 = .ok (.isub, 1) := by decide +kernel
theorem dJ6_bitCount_0f7a4_9 : decode cJ6_bitCount_0f7a4 9 = .ok (.istore_n 0, 1) := by decide +kernel
theorem dJ6_bitCount_0f7a4_10 : decode cJ6_bitCount_0f7a4 10 = .ok (.iload_n 0, 1) := by decide +kernel
theorem dJ6_bitCount_0f7a4_11 : decode cJ6_bitCount_0f7a4 11 = .ok (.ldc_w 266, 3) := by decide +kernel
theorem dJ6_bitCount_0f7a4_14 : decode cJ6_bitCount_0f7a4 14 = .ok (.iand, 1) := by decide +kernel
theorem dJ6_bitCount_0f7a4_15 : decode cJ6_bitCount_0f7a4 15 = .ok (.iload_n 0, 1) := by decide +kernel
theorem dJ6_bitCount_0f7a4_16 : decode cJ6_bitCount_0f7a4 16 = .ok (.iconst 2, 1) := by decide +kernel
theorem dJ6_bitCount_0f7a4_17 : decode cJ6_bitCount_0f7a4 17 = .ok (.iushr, 1) := by decide +kernel
theorem dJ6_bitCount_0f7a4_18 : decode cJ6_bitCount_0f7a4 18 = .ok (.ldc_w 266, 3) := by decide +kernel
theorem dJ6_bitCount_0f7a4_21 : decode cJ6_bitCount_0f7a4 21 = .ok (.iand, 1) := by decide +kernel
theorem dJ6_bitCount_0f7a4_22 : decode cJ6_bitCount_0f7a4 22 = .ok (.iadd, 1) := by decide +kernel
theorem dJ6_bitCount_0f7a4_23 : decode cJ6_bitCount_0f7a4 23 = .ok (.istore_n 0, 1) := by decide +kernel
theorem dJ6_bitCount_0f7a4_24 : decode cJ6_bitCount_0f7a4 24 = .ok (.iload_n 0, 1) := by decide +kernel
theorem dJ6_bitCount_0f7a4_25 : decode cJ6_bitCount_0f7a4 25 = .ok (.iload_n 0, 1) := by decide +kernel
theorem dJ6_bitCount_0f7a4_26 : decode cJ6_bitCount_0f7a4 26 = .ok (.iconst 4, 1) := by decide +kernel
theorem dJ6_bitCount_0f7a4_27 : decode cJ6_bitCount_0f7a4 27 = .ok (.iushr, 1) := by decide +kernel
theorem dJ6_bitCount_0f7a4_28 : decode cJ6_bitCount_0f7a4 28 = .ok (.iadd, 1) := by decide +kernel
theorem dJ6_bitCount_0f7a4_29 : decode cJ6_bitCount_0f7a4 29 = .ok (.ldc_w 267, 3) := by decide +kernel
theorem dJ6_bitCount_0f7a4_32 : decode cJ6_bitCount_0f7a4 32 = .ok (.iand, 1) := by decide +kernel
theorem dJ6_bitCount_0f7a4_33 : decode cJ6_bitCount_0f7a4 33 = .ok (.istore_n 0, 1) := by decide +kernel
theorem dJ6_bitCount_0f7a4_34 : decode cJ6_bitCount_0f7a4 34 = .ok (.iload_n 0, 1) := by decide +kernel
theorem dJ6_bitCount_0f7a4_35 : decode cJ6_bitCount_0f7a4 35 = .ok (.iload_n 0, 1) := by decide +kernel
theorem dJ6_bitCount_0f7a4_36 : decode cJ6_bitCount_0f7a4 36 = .ok (.bipush 8, 2) := by decide +kernel
theorem dJ6_bitCount_0f7a4_38 : decode cJ6_bitCount_0f7a4 38 = .ok (.iushr, 1) := by decide +kernel
theorem dJ6_bitCount_0f7a4_39 : decode cJ6_bitCount_0f7a4 39 = .ok (.iadd, 1) := by decide +kernel
theorem dJ6_bitCount_0f7a4_40 : decode cJ6_bitCount_0f7a4 40 = .ok (.istore_n 0, 1) := by decide +kernel
theorem dJ6_bitCount_0f7a4_41 : decode cJ6_bitCount_0f7a4 41 = .ok (.iload_n 0, 1) := by decide +kernel
theorem dJ6_bitCount_0f7a4_42 : decode cJ6_bitCount_0f7a4 42 = .ok (.iload_n 0, 1) := by decide +kernel
theorem dJ6_bitCount_0f7a4_43 : decode cJ6_bitCount_0f7a4 43 = .ok (.bipush 16, 2) := by decide +kernel
theorem dJ6_bitCount_0f7a4_45 : decode cJ6_bitCount_0f7a4 45 = .ok (.iushr, 1) := by decide +kernel
theorem dJ6_bitCount_0f7a4_46 : decode cJ6_bitCount_0f7a4 46 = .ok (.iadd, 1) := by decide +kernel
theorem dJ6_bitCount_0f7a4_47 : decode cJ6_bitCount_0f7a4 47 = .ok (.istore_n 0, 1) := by decide +kernel
theorem dJ6_bitCount_0f7a4_48 : decode cJ6_bitCount_0f7a4 48 = .ok (.iload_n 0, 1) := by decide +kernel
theorem dJ6_bitCount_0f7a4_49 : decode cJ6_bitCount_0f7a4 49 = .ok (.bipush 63, 2) := by decide +kernel
theorem dJ6_bitCount_0f7a4_51 : decode cJ6_bitCount_0f7a4 51 = .ok (.iand, 1) := by decide +kernel
theorem dJ6_bitCount_0f7a4_52 : decode cJ6_bitCount_0f7a4 52 = .ok (.ireturn, 1) := by decide +kernel
theorem dJ9_abs_0f7a4_0 : decode cJ9_abs_0f7a4 0 = .ok (.iload_n 0, 1) := by decide +kernel
theorem dJ9_abs_0f7a4_1 : decode cJ9_abs_0f7a4 1 = .ok (.ifCond .ge 8, 3) := by decide +kernel
theorem dJ9_abs_0f7a4_4 : decode cJ9_abs_0f7a4 4 = .ok (.iload_n 0, 1) := by decide +kernel
theorem dJ9_abs_0f7a4_5 : decode cJ9_abs_0f7a4 5 = .ok (.ineg, 1) := by decide +kernel
theorem dJ9_abs_0f7a4_6 : decode cJ9_abs_0f7a4 6 = .ok (.goto 4, 3) := by decide +kernel
theorem dJ9_abs_0f7a4_9 : decode cJ9_abs_0f7a4 9 = .ok (.iload_n 0, 1) := by decide +kernel
theorem dJ9_abs_0f7a4_10 : decode cJ9_abs_0f7a4 10 = .ok (.ireturn, 1) := by decide +kernel
theorem dJ9_max_7cf53_0 : decode cJ9_max_7cf53 0 = .ok (.iload_n 0, 1) := by decide +kernel
theorem dJ9_max_7cf53_1 : decode cJ9_max_7cf53 1 = .ok (.iload_n 1, 1) := by decide +kernel
theorem dJ9_max_7cf53_2 : decode cJ9_max_7cf53 2 = .ok (.if_icmp .lt 7, 3) := by decide +kernel
theorem dJ9_max_7cf53_5 : decode cJ9_max_7cf53 5 = .ok (.iload_n 0, 1) := by decide +kernel
theorem dJ9_max_7cf53_6 : decode cJ9_max_7cf53 6 = .ok (.goto 4, 3) := by decide +kernel
theorem dJ9_max_7cf53_9 : decode cJ9_max_7cf53 9 = .ok (.iload_n 1, 1) := by decide +kernel
theorem dJ9_max_7cf53_10 : decode cJ9_max_7cf53 10 = .ok (.ireturn, 1) := by decide +kernel
theorem dJ9_min_7cf53_0 : decode cJ9_min_7cf53 0 = .ok (.iload_n 0, 1) := by decide +kernel
theorem dJ9_min_7cf53_1 : decode cJ9_min_7cf53 1 = .ok (.iload_n 1, 1) := by decide +kernel
theorem dJ9_min_7cf53_2 : decode cJ9_min_7cf53 2 = .ok (.if_icmp .gt 7, 3) := by decide +kernel
theorem dJ9_min_7cf53_5 : decode cJ9_min_7cf53 5 = .ok (.iload_n 0, 1) := by decide +kernel
theorem dJ9_min_7cf53_6 : decode cJ9_min_7cf53 6 = .ok (.goto 4, 3) := by decide +kernel
theorem dJ9_min_7cf53_9 : decode cJ9_min_7cf53 9 = .ok (.iload_n 1, 1) := by decide +kernel
theorem dJ9_min_7cf53_10 : decode cJ9_min_7cf53 10 = .ok (.ireturn, 1) := by decide +kernel
theorem dJ0_length_8abf5_0 : decode cJ0_length_8abf5 0 = .ok (.aload_n 0, 1) := by decide +kernel
theorem dJ0_length_8abf5_1 : decode cJ0_length_8abf5 1 = .ok (.getfield 9, 3) := by decide +kernel
theorem dJ0_length_8abf5_4 : decode cJ0_length_8abf5 4 = .ok (.arraylength, 1) := by decide +kernel
theorem dJ0_length_8abf5_5 : decode cJ0_length_8abf5 5 = .ok (.aload_n 0, 1) := by decide +kernel
theorem dJ0_length_8abf5_6 : decode cJ0_length_8abf5 6 = .ok (.invokevirtual 335, 3) := by decide +kernel
theorem dJ0_length_8abf5_9 : decode cJ0_length_8abf5 9 = .ok (.ishr, 1) := by decide +kernel
theorem dJ0_length_8abf5_10 : decode cJ0_length_8abf5 10 = .ok (.ireturn, 1) := by decide +kernel
theorem dJ0_isEmpty_aae02_0 : decode cJ0_isEmpty_aae02 0 = .ok (.aload_n 0, 1) := by decide +kernel
theorem dJ0_isEmpty_aae02_1 : decode cJ0_isEmpty_aae02 1 = .ok (.getfield 9, 3) := by decide +kernel
theorem dJ0_isEmpty_aae02_4 : decode cJ0_isEmpty_aae02 4 = .ok (.arraylength, 1) := by decide +kernel
theorem dJ0_isEmpty_aae02_5 : decode cJ0_isEmpty_aae02 5 = .ok (.ifCond .ne 7, 3) := by decide +kernel
theorem dJ0_isEmpty_aae02_8 : decode cJ0_isEmpty_aae02 8 = .ok (.iconst 1, 1) := by decide +kernel
theorem dJ0_isEmpty_aae02_9 : decode cJ0_isEmpty_aae02 9 = .ok (.goto 4, 3) := by decide +kernel
theorem dJ0_isEmpty_aae02_12 : decode cJ0_isEmpty_aae02 12 = .ok (.iconst 0, 1) := by decide +kernel
theorem dJ0_isEmpty_aae02_13 : decode cJ0_isEmpty_aae02 13 = .ok (.ireturn, 1) := by decide +kernel
theorem dJ0_charAt_5068e_0 : decode cJ0_charAt_5068e 0 = .ok (.aload_n 0, 1) := by decide +kernel
theorem dJ0_charAt_5068e_1 : decode cJ0_charAt_5068e 1 = .ok (.invokevirtual 492, 3) := by decide +kernel
theorem dJ0_charAt_5068e_4 : decode cJ0_charAt_5068e 4 = .ok (.ifCond .eq 12, 3) := by decide +kernel
theorem dJ0_charAt_5068e_7 : decode cJ0_charAt_5068e 7 = .ok (.aload_n 0, 1) := by decide +kernel
theorem dJ0_charAt_5068e_8 : decode cJ0_charAt_5068e 8 = .ok (.getfield 9, 3) := by decide +kernel
theorem dJ0_charAt_5068e_11 : decode cJ0_charAt_5068e 11 = .ok (.iload_n 1, 1) := by decide +kernel
theorem dJ0_charAt_5068e_12 : decode cJ0_charAt_5068e 12 = .ok (.invokestatic 495, 3) := by decide +kernel
theorem dJ0_charAt_5068e_15 : decode cJ0_charAt_5068e 15 = .ok (.ireturn, 1) := by decide +kernel
theorem dJ0_charAt_5068e_16 : decode cJ0_charAt_5068e 16 = .ok (.aload_n 0, 1) := by decide +kernel
theorem dJ0_charAt_5068e_17 : decode cJ0_charAt_5068e 17 = .ok (.getfield 9, 3) := by decide +kernel
theorem dJ0_charAt_5068e_20 : decode cJ0_charAt_5068e 20 = .ok (.iload_n 1, 1) := by decide +kernel
theorem dJ0_charAt_5068e_21 : decode cJ0_charAt_5068e 21 = .ok (.invokestatic 498, 3) := by decide +kernel
theorem dJ0_charAt_5068e_24 : decode cJ0_charAt_5068e 24 = .ok (.ireturn, 1) := by decide +kernel
theorem dJ0_coder_7d493_0 : decode cJ0_coder_7d493 0 = .ok (.getstatic 38, 3) := by decide +kernel
theorem dJ0_coder_7d493_3 : decode cJ0_coder_7d493 3 = .ok (.ifCond .eq 10, 3) := by decide +kernel
theorem dJ0_coder_7d493_6 : decode cJ0_coder_7d493 6 = .ok (.aload_n 0, 1) := by decide +kernel
theorem dJ0_coder_7d493_7 : decode cJ0_coder_7d493 7 = .ok (.getfield 15, 3) := by decide +kernel
theorem dJ0_coder_7d493_10 : decode cJ0_coder_7d493 10 = .ok (.goto 4, 3) := by decide +kernel
theorem dJ0_coder_7d493_13 : decode cJ0_coder_7d493 13 = .ok (.iconst 1, 1) := by decide +kernel
theorem dJ0_coder_7d493_14 : decode cJ0_coder_7d493 14 = .ok (.ireturn, 1) := by decide +kernel
theorem dJ0_isLatin1_aae02_0 : decode cJ0_isLatin1_aae02 0 = .ok (.getstatic 38, 3) := by decide +kernel
theorem dJ0_isLatin1_aae02_3 : decode cJ0_isLatin1_aae02 3 = .ok (.ifCond .eq 14, 3) := by decide +kernel
theorem dJ0_isLatin1_aae02_6 : decode cJ0_isLatin1_aae02 6 = .ok (.aload_n 0, 1) := by decide +kernel
theorem dJ0_isLatin1_aae02_7 : decode cJ0_isLatin1_aae02 7 = .ok (.getfield 15, 3) := by decide +kernel
theorem dJ0_isLatin1_aae02_10 : decode cJ0_isLatin1_aae02 10 = .ok (.ifCond .ne 7, 3) := by decide +kernel
theorem dJ0_isLatin1_aae02_13 : decode cJ0_isLatin1_aae02 13 = .ok (.iconst 1, 1) := by decide +kernel
theorem dJ0_isLatin1_aae02_14 : decode cJ0_isLatin1_aae02 14 = .ok (.goto 4, 3) := by decide +kernel
theorem dJ0_isLatin1_aae02_17 : decode cJ0_isLatin1_aae02 17 = .ok (.iconst 0, 1) := by decide +kernel
theorem dJ0_isLatin1_aae02_18 : decode cJ0_isLatin1_aae02 18 = .ok (.ireturn, 1) := by decide +kernel
theorem dJ0_checkIndex_df160_0 : decode cJ0_checkIndex_df160 0 = .ok (.iload_n 0, 1) := by decide +kernel
theorem dJ0_checkIndex_df160_1 : decode cJ0_checkIndex_df160 1 = .ok (.iload_n 1, 1) := by decide +kernel
theorem dJ0_checkIndex_df160_2 : decode cJ0_checkIndex_df160 2 = .ok (.getstatic 1053, 3) := by decide +kernel
theorem dJ0_checkIndex_df160_5 : decode cJ0_checkIndex_df160 5 = .ok (.invokestatic 1059, 3) := by decide +kernel
theorem dJ0_checkIndex_df160_8 : decode cJ0_checkIndex_df160 8 = .ok (.pop, 1) := by decide +kernel
theorem dJ0_checkIndex_df160_9 : decode cJ0_checkIndex_df160 9 = .ok (.return_, 1) := by decide +kernel
theorem dJ1_charAt_3b067_0 : decode cJ1_charAt_3b067 0 = .ok (.iload_n 1, 1) := by decide +kernel
theorem dJ1_charAt_3b067_1 : decode cJ1_charAt_3b067 1 = .ok (.aload_n 0, 1) := by decide +kernel
theorem dJ1_charAt_3b067_2 : decode cJ1_charAt_3b067 2 = .ok (.arraylength, 1) := by decide +kernel
theorem dJ1_charAt_3b067_3 : decode cJ1_charAt_3b067 3 = .ok (.invokestatic 9, 3) := by decide +kernel
theorem dJ1_charAt_3b067_6 : decode cJ1_charAt_3b067 6 = .ok (.aload_n 0, 1) := by decide +kernel
theorem dJ1_charAt_3b067_7 : decode cJ1_charAt_3b067 7 = .ok (.iload_n 1, 1) := by decide +kernel
theorem dJ1_charAt_3b067_8 : decode cJ1_charAt_3b067 8 = .ok (.baload, 1) := by decide +kernel
theorem dJ1_charAt_3b067_9 : decode cJ1_charAt_3b067 9 = .ok (.sipush 255, 3) := by decide +kernel
theorem dJ1_charAt_3b067_12 : decode cJ1_charAt_3b067 12 = .ok (.iand, 1) := by decide +kernel
theorem dJ1_charAt_3b067_13 : decode cJ1_charAt_3b067 13 = .ok (.i2c, 1) := by decide +kernel
theorem dJ1_charAt_3b067_14 : decode cJ1_charAt_3b067 14 = .ok (.ireturn, 1) := by decide +kernel
theorem dJ2_getChar_3b067_0 : decode cJ2_getChar_3b067 0 = .ok (.getstatic 44, 3) := by decide +kernel
theorem dJ2_getChar_3b067_3 : decode cJ2_getChar_3b067 3 = .ok (.ifCond .ne 25, 3) := by decide +kernel
theorem dJ2_getChar_3b067_6 : decode cJ2_getChar_3b067 6 = .ok (.iload_n 1, 1) := by decide +kernel
theorem dJ2_getChar_3b067_7 : decode cJ2_getChar_3b067 7 = .ok (.ifCond .lt 11, 3) := by decide +kernel
theorem dJ2_getChar_3b067_10 : decode cJ2_getChar_3b067 10 = .ok (.iload_n 1, 1) := by decide +kernel
theorem dJ2_getChar_3b067_11 : decode cJ2_getChar_3b067 11 = .ok (.aload_n 0, 1) := by decide +kernel
theorem dJ2_getChar_3b067_12 : decode cJ2_getChar_3b067 12 = .ok (.invokestatic 48, 3) := by decide +kernel
theorem dJ2_getChar_3b067_15 : decode cJ2_getChar_3b067 15 = .ok (.if_icmp .lt 13, 3) := by decide +kernel
theorem dJ2_getChar_3b067_18 : decode cJ2_getChar_3b067 18 = .ok (.new 52, 3) := by decide +kernel
theorem dJ2_getChar_3b067_21 : decode cJ2_getChar_3b067 21 = .ok (.dup, 1) := by decide +kernel
theorem dJ2_getChar_3b067_22 : decode cJ2_getChar_3b067 22 = .ok (.ldc 54, 2) := by decide +kernel
theorem dJ2_getChar_3b067_24 : decode cJ2_getChar_3b067 24 = .ok (.invokespecial 56, 3) := by decide +kernel
theorem dJ2_getChar_3b067_27 : decode cJ2_getChar_3b067 27 = .ok (.athrow, 1) := by decide +kernel
theorem dJ2_getChar_3b067_28 : decode cJ2_getChar_3b067 28 = .ok (.iload_n 1, 1) := by decide +kernel
theorem dJ2_getChar_3b067_29 : decode cJ2_getChar_3b067 29 = .ok (.iconst 1, 1) := by decide +kernel
theorem dJ2_getChar_3b067_30 : decode cJ2_getChar_3b067 30 = .ok (.ishl, 1) := by decide +kernel
theorem dJ2_getChar_3b067_31 : decode cJ2_getChar_3b067 31 = .ok (.istore_n 1, 1) := by decide +kernel
theorem dJ2_getChar_3b067_32 : decode cJ2_getChar_3b067 32 = .ok (.aload_n 0, 1) := by decide +kernel
theorem dJ2_getChar_3b067_33 : decode cJ2_getChar_3b067 33 = .ok (.iload_n 1, 1) := by decide +kernel
theorem dJ2_getChar_3b067_34 : decode cJ2_getChar_3b067 34 = .ok (.iinc 1 1, 3) := by decide +kernel
theorem dJ2_getChar_3b067_37 : decode cJ2_getChar_3b067 37 = .ok (.baload, 1) := by decide +kernel
theorem dJ2_getChar_3b067_38 : decode cJ2_getChar_3b067 38 = .ok (.sipush 255, 3) := by decide +kernel
theorem dJ2_getChar_3b067_41 : decode cJ2_getChar_3b067 41 = .ok (.iand, 1) := by decide +kernel
theorem dJ2_getChar_3b067_42 : decode cJ2_getChar_3b067 42 = .ok (.getstatic 59, 3) := by decide +kernel
theorem dJ2_getChar_3b067_45 : decode cJ2_getChar_3b067 45 = .ok (.ishl, 1) := by decide +kernel
theorem dJ2_getChar_3b067_46 : decode cJ2_getChar_3b067 46 = .ok (.aload_n 0, 1) := by decide +kernel
theorem dJ2_getChar_3b067_47 : decode cJ2_getChar_3b067 47 = .ok (.iload_n 1, 1) := by decide +kernel
theorem dJ2_getChar_3b067_48 : decode cJ2_getChar_3b067 48 = .ok (.baload, 1) := by decide +kernel
theorem dJ2_getChar_3b067_49 : decode cJ2_getChar_3b067 49 = .ok (.sipush 255, 3) := by decide +kernel
theorem dJ2_getChar_3b067_52 : decode cJ2_getChar_3b067 52 = .ok (.iand, 1) := by decide +kernel
theorem dJ2_getChar_3b067_53 : decode cJ2_getChar_3b067 53 = .ok (.getstatic 63, 3) := by decide +kernel
theorem dJ2_getChar_3b067_56 : decode cJ2_getChar_3b067 56 = .ok (.ishl, 1) := by decide +kernel
theorem dJ2_getChar_3b067_57 : decode cJ2_getChar_3b067 57 = .ok (.ior, 1) := by decide +kernel
theorem dJ2_getChar_3b067_58 : decode cJ2_getChar_3b067 58 = .ok (.i2c, 1) := by decide +kernel
theorem dJ2_getChar_3b067_59 : decode cJ2_getChar_3b067 59 = .ok (.ireturn, 1) := by decide +kernel
theorem dJ2_length_9d52b_0 : decode cJ2_length_9d52b 0 = .ok (.aload_n 0, 1) := by decide +kernel
theorem dJ2_length_9d52b_1 : decode cJ2_length_9d52b 1 = .ok (.arraylength, 1) := by decide +kernel
theorem dJ2_length_9d52b_2 : decode cJ2_length_9d52b 2 = .ok (.iconst 1, 1) := by decide +kernel
theorem dJ2_length_9d52b_3 : decode cJ2_length_9d52b 3 = .ok (.ishr, 1) := by decide +kernel
theorem dJ2_length_9d52b_4 : decode cJ2_length_9d52b 4 = .ok (.ireturn, 1) := by decide +kernel
theorem dJ2_charAt_3b067_0 : decode cJ2_charAt_3b067 0 = .ok (.iload_n 1, 1) := by decide +kernel
theorem dJ2_charAt_3b067_1 : decode cJ2_charAt_3b067 1 = .ok (.aload_n 0, 1) := by decide +kernel
theorem dJ2_charAt_3b067_2 : decode cJ2_charAt_3b067 2 = .ok (.invokestatic 67, 3) := by decide +kernel
theorem dJ2_charAt_3b067_5 : decode cJ2_charAt_3b067 5 = .ok (.aload_n 0, 1) := by decide +kernel
theorem dJ2_charAt_3b067_6 : decode cJ2_charAt_3b067 6 = .ok (.iload_n 1, 1) := by decide +kernel
theorem dJ2_charAt_3b067_7 : decode cJ2_charAt_3b067 7 = .ok (.invokestatic 71, 3) := by decide +kernel
theorem dJ2_charAt_3b067_10 : decode cJ2_charAt_3b067 10 = .ok (.ireturn, 1) := by decide +kernel
theorem dJ2_checkIndex_2214a_0 : decode cJ2_checkIndex_2214a 0 = .ok (.iload_n 0, 1) := by decide +kernel
theorem dJ2_checkIndex_2214a_1 : decode cJ2_checkIndex_2214a 1 = .ok (.aload_n 1, 1) := by decide +kernel
theorem dJ2_checkIndex_2214a_2 : decode cJ2_checkIndex_2214a 2 = .ok (.invokestatic 48, 3) := by decide +kernel
theorem dJ2_checkIndex_2214a_5 : decode cJ2_checkIndex_2214a 5 = .ok (.invokestatic 414, 3) := by decide +kernel
theorem dJ2_checkIndex_2214a_8 : decode cJ2_checkIndex_2214a 8 = .ok (.return_, 1) := by decide +kernel
theorem dJ3_checkIndex_8e157_0 : decode cJ3_checkIndex_8e157 0 = .ok (.iload_n 0, 1) := by decide +kernel
theorem dJ3_checkIndex_8e157_1 : decode cJ3_checkIndex_8e157 1 = .ok (.ifCond .lt 8, 3) := by decide +kernel
theorem dJ3_checkIndex_8e157_4 : decode cJ3_checkIndex_8e157 4 = .ok (.iload_n 0, 1) := by decide +kernel
theorem dJ3_checkIndex_8e157_5 : decode cJ3_checkIndex_8e157 5 = .ok (.iload_n 1, 1) := by decide +kernel
theorem dJ3_checkIndex_8e157_6 : decode cJ3_checkIndex_8e157 6 = .ok (.if_icmp .lt 10, 3) := by decide +kernel
theorem dJ3_checkIndex_8e157_9 : decode cJ3_checkIndex_8e157 9 = .ok (.aload_n 2, 1) := by decide +kernel
theorem dJ3_checkIndex_8e157_10 : decode cJ3_checkIndex_8e157 10 = .ok (.iload_n 0, 1) := by decide +kernel
theorem dJ3_checkIndex_8e157_11 : decode cJ3_checkIndex_8e157 11 = .ok (.iload_n 1, 1) := by decide +kernel
theorem dJ3_checkIndex_8e157_12 : decode cJ3_checkIndex_8e157 12 = .ok (.invokestatic 95, 3) := by decide +kernel
theorem dJ3_checkIndex_8e157_15 : decode cJ3_checkIndex_8e157 15 = .ok (.athrow, 1) := by decide +kernel
theorem dJ3_checkIndex_8e157_16 : decode cJ3_checkIndex_8e157 16 = .ok (.iload_n 0, 1) := by decide +kernel
theorem dJ3_checkIndex_8e157_17 : decode cJ3_checkIndex_8e157 17 = .ok (.ireturn, 1) := by decide +kernel
theorem dL_law_0 : decode cL_law 0 = .ok (.new 7, 3) := by decide +kernel
theorem dL_law_3 : decode cL_law 3 = .ok (.dup, 1) := by decide +kernel
theorem dL_law_4 : decode cL_law 4 = .ok (.invokespecial 9, 3) := by decide +kernel
theorem dL_law_7 : decode cL_law 7 = .ok (.astore_n 1, 1) := by decide +kernel
theorem dL_law_8 : decode cL_law 8 = .ok (.new 10, 3) := by decide +kernel
theorem dL_law_11 : decode cL_law 11 = .ok (.dup, 1) := by decide +kernel
theorem dL_law_12 : decode cL_law 12 = .ok (.invokespecial 12, 3) := by decide +kernel
theorem dL_law_15 : decode cL_law 15 = .ok (.astore_n 2, 1) := by decide +kernel
theorem dL_law_16 : decode cL_law 16 = .ok (.iconst 0, 1) := by decide +kernel
theorem dL_law_17 : decode cL_law 17 = .ok (.istore_n 3, 1) := by decide +kernel
theorem dL_law_18 : decode cL_law 18 = .ok (.iload_n 3, 1) := by decide +kernel
theorem dL_law_19 : decode cL_law 19 = .ok (.aload_n 0, 1) := by decide +kernel
theorem dL_law_20 : decode cL_law 20 = .ok (.arraylength, 1) := by decide +kernel
theorem dL_law_21 : decode cL_law 21 = .ok (.iconst 4, 1) := by decide +kernel
theorem dL_law_22 : decode cL_law 22 = .ok (.isub, 1) := by decide +kernel
theorem dL_law_23 : decode cL_law 23 = .ok (.if_icmp .gt 1399, 3) := by decide +kernel
theorem dL_law_26 : decode cL_law 26 = .ok (.aload_n 0, 1) := by decide +kernel
theorem dL_law_27 : decode cL_law 27 = .ok (.iload_n 3, 1) := by decide +kernel
theorem dL_law_28 : decode cL_law 28 = .ok (.iaload, 1) := by decide +kernel
theorem dL_law_29 : decode cL_law 29 = .ok (.bipush 63, 2) := by decide +kernel
theorem dL_law_31 : decode cL_law 31 = .ok (.iand, 1) := by decide +kernel
theorem dL_law_32 : decode cL_law 32 = .ok (.tableswitch 1384 0 50 #[220, 243, 256, 289, 322, 365, 408, 441, 454, 487, 510, 533, 546, 569, 592, 615, 648, 661, 684, 707, 730, 773, 806, 829, 863, 876, 899, 922, 935, 958, 971, 984, 1017, 1030, 1043, 1066, 1079, 1092, 1125, 1158, 1181, 1204, 1217, 1230, 1243, 1266, 1279, 1292, 1335, 1348, 1361], 220) := by decide +kernel
theorem dL_law_252 : decode cL_law 252 = .ok (.aload_n 1, 1) := by decide +kernel
theorem dL_law_253 : decode cL_law 253 = .ok (.aload_n 0, 1) := by decide +kernel
theorem dL_law_254 : decode cL_law 254 = .ok (.iload_n 3, 1) := by decide +kernel
theorem dL_law_255 : decode cL_law 255 = .ok (.iconst 1, 1) := by decide +kernel
theorem dL_law_256 : decode cL_law 256 = .ok (.iadd, 1) := by decide +kernel
theorem dL_law_257 : decode cL_law 257 = .ok (.iaload, 1) := by decide +kernel
theorem dL_law_258 : decode cL_law 258 = .ok (.invokevirtual 13, 3) := by decide +kernel
theorem dL_law_261 : decode cL_law 261 = .ok (.aload_n 2, 1) := by decide +kernel
theorem dL_law_262 : decode cL_law 262 = .ok (.aload_n 0, 1) := by decide +kernel
theorem dL_law_263 : decode cL_law 263 = .ok (.iload_n 3, 1) := by decide +kernel
theorem dL_law_264 : decode cL_law 264 = .ok (.iconst 1, 1) := by decide +kernel
theorem dL_law_265 : decode cL_law 265 = .ok (.iadd, 1) := by decide +kernel
theorem dL_law_266 : decode cL_law 266 = .ok (.iaload, 1) := by decide +kernel
theorem dL_law_267 : decode cL_law 267 = .ok (.invokevirtual 17, 3) := by decide +kernel
theorem dL_law_270 : decode cL_law 270 = .ok (.if_icmp .eq 1146, 3) := by decide +kernel
theorem dL_law_273 : decode cL_law 273 = .ok (.iconst 0, 1) := by decide +kernel
theorem dL_law_274 : decode cL_law 274 = .ok (.ireturn, 1) := by decide +kernel
theorem dL_law_275 : decode cL_law 275 = .ok (.aload_n 1, 1) := by decide +kernel
theorem dL_law_276 : decode cL_law 276 = .ok (.invokevirtual 18, 3) := by decide +kernel
theorem dL_law_279 : decode cL_law 279 = .ok (.aload_n 2, 1) := by decide +kernel
theorem dL_law_280 : decode cL_law 280 = .ok (.invokevirtual 22, 3) := by decide +kernel
theorem dL_law_283 : decode cL_law 283 = .ok (.if_icmp .eq 1133, 3) := by decide +kernel
theorem dL_law_286 : decode cL_law 286 = .ok (.iconst 0, 1) := by decide +kernel
theorem dL_law_287 : decode cL_law 287 = .ok (.ireturn, 1) := by decide +kernel
theorem dL_law_288 : decode cL_law 288 = .ok (.aload_n 1, 1) := by decide +kernel
theorem dL_law_289 : decode cL_law 289 = .ok (.aload_n 0, 1) := by decide +kernel
theorem dL_law_290 : decode cL_law 290 = .ok (.iload_n 3, 1) := by decide +kernel
theorem dL_law_291 : decode cL_law 291 = .ok (.iconst 1, 1) := by decide +kernel
theorem dL_law_292 : decode cL_law 292 = .ok (.iadd, 1) := by decide +kernel
theorem dL_law_293 : decode cL_law 293 = .ok (.iaload, 1) := by decide +kernel
theorem dL_law_294 : decode cL_law 294 = .ok (.aload_n 0, 1) := by decide +kernel
theorem dL_law_295 : decode cL_law 295 = .ok (.iload_n 3, 1) := by decide +kernel
theorem dL_law_296 : decode cL_law 296 = .ok (.iconst 2, 1) := by decide +kernel
theorem dL_law_297 : decode cL_law 297 = .ok (.iadd, 1) := by decide +kernel
theorem dL_law_298 : decode cL_law 298 = .ok (.iaload, 1) := by decide +kernel
theorem dL_law_299 : decode cL_law 299 = .ok (.invokevirtual 23, 3) := by decide +kernel
theorem dL_law_302 : decode cL_law 302 = .ok (.aload_n 2, 1) := by decide +kernel
theorem dL_law_303 : decode cL_law 303 = .ok (.aload_n 0, 1) := by decide +kernel
theorem dL_law_304 : decode cL_law 304 = .ok (.iload_n 3, 1) := by decide +kernel
theorem dL_law_305 : decode cL_law 305 = .ok (.iconst 1, 1) := by decide +kernel
theorem dL_law_306 : decode cL_law 306 = .ok (.iadd, 1) := by decide +kernel
theorem dL_law_307 : decode cL_law 307 = .ok (.iaload, 1) := by decide +kernel
theorem dL_law_308 : decode cL_law 308 = .ok (.aload_n 0, 1) := by decide +kernel
theorem dL_law_309 : decode cL_law 309 = .ok (.iload_n 3, 1) := by decide +kernel
theorem dL_law_310 : decode cL_law 310 = .ok (.iconst 2, 1) := by decide +kernel
theorem dL_law_311 : decode cL_law 311 = .ok (.iadd, 1) := by decide +kernel
theorem dL_law_312 : decode cL_law 312 = .ok (.iaload, 1) := by decide +kernel
theorem dL_law_313 : decode cL_law 313 = .ok (.invokevirtual 27, 3) := by decide +kernel
theorem dL_law_316 : decode cL_law 316 = .ok (.if_icmp .eq 1100, 3) := by decide +kernel
theorem dL_law_319 : decode cL_law 319 = .ok (.iconst 0, 1) := by decide +kernel
theorem dL_law_320 : decode cL_law 320 = .ok (.ireturn, 1) := by decide +kernel
theorem dL_law_321 : decode cL_law 321 = .ok (.aload_n 1, 1) := by decide +kernel
theorem dL_law_322 : decode cL_law 322 = .ok (.aload_n 0, 1) := by decide +kernel
theorem dL_law_323 : decode cL_law 323 = .ok (.iload_n 3, 1) := by decide +kernel
theorem dL_law_324 : decode cL_law 324 = .ok (.iconst 1, 1) := by decide +kernel
theorem dL_law_325 : decode cL_law 325 = .ok (.iadd, 1) := by decide +kernel
theorem dL_law_326 : decode cL_law 326 = .ok (.iaload, 1) := by decide +kernel
theorem dL_law_327 : decode cL_law 327 = .ok (.aload_n 0, 1) := by decide +kernel
theorem dL_law_328 : decode cL_law 328 = .ok (.iload_n 3, 1) := by decide +kernel
theorem dL_law_329 : decode cL_law 329 = .ok (.iconst 2, 1) := by decide +kernel
theorem dL_law_330 : decode cL_law 330 = .ok (.iadd, 1) := by decide +kernel
theorem dL_law_331 : decode cL_law 331 = .ok (.iaload, 1) := by decide +kernel
theorem dL_law_332 : decode cL_law 332 = .ok (.invokevirtual 28, 3) := by decide +kernel
theorem dL_law_335 : decode cL_law 335 = .ok (.aload_n 2, 1) := by decide +kernel
theorem dL_law_336 : decode cL_law 336 = .ok (.aload_n 0, 1) := by decide +kernel
theorem dL_law_337 : decode cL_law 337 = .ok (.iload_n 3, 1) := by decide +kernel
theorem dL_law_338 : decode cL_law 338 = .ok (.iconst 1, 1) := by decide +kernel
theorem dL_law_339 : decode cL_law 339 = .ok (.iadd, 1) := by decide +kernel
theorem dL_law_340 : decode cL_law 340 = .ok (.iaload, 1) := by decide +kernel
theorem dL_law_341 : decode cL_law 341 = .ok (.aload_n 0, 1) := by decide +kernel
theorem dL_law_342 : decode cL_law 342 = .ok (.iload_n 3, 1) := by decide +kernel
theorem dL_law_343 : decode cL_law 343 = .ok (.iconst 2, 1) := by decide +kernel
theorem dL_law_344 : decode cL_law 344 = .ok (.iadd, 1) := by decide +kernel
theorem dL_law_345 : decode cL_law 345 = .ok (.iaload, 1) := by decide +kernel
theorem dL_law_346 : decode cL_law 346 = .ok (.invokevirtual 31, 3) := by decide +kernel
theorem dL_law_349 : decode cL_law 349 = .ok (.if_icmp .eq 1067, 3) := by decide +kernel
theorem dL_law_352 : decode cL_law 352 = .ok (.iconst 0, 1) := by decide +kernel
theorem dL_law_353 : decode cL_law 353 = .ok (.ireturn, 1) := by decide +kernel
theorem dL_law_354 : decode cL_law 354 = .ok (.aload_n 1, 1) := by decide +kernel
theorem dL_law_355 : decode cL_law 355 = .ok (.aload_n 0, 1) := by decide +kernel
theorem dL_law_356 : decode cL_law 356 = .ok (.iload_n 3, 1) := by decide +kernel
theorem dL_law_357 : decode cL_law 357 = .ok (.iconst 1, 1) := by decide +kernel
theorem dL_law_358 : decode cL_law 358 = .ok (.iadd, 1) := by decide +kernel
theorem dL_law_359 : decode cL_law 359 = .ok (.iaload, 1) := by decide +kernel
theorem dL_law_360 : decode cL_law 360 = .ok (.aload_n 0, 1) := by decide +kernel
theorem dL_law_361 : decode cL_law 361 = .ok (.iload_n 3, 1) := by decide +kernel
theorem dL_law_362 : decode cL_law 362 = .ok (.iconst 2, 1) := by decide +kernel
theorem dL_law_363 : decode cL_law 363 = .ok (.iadd, 1) := by decide +kernel
theorem dL_law_364 : decode cL_law 364 = .ok (.iaload, 1) := by decide +kernel
theorem dL_law_365 : decode cL_law 365 = .ok (.aload_n 0, 1) := by decide +kernel
theorem dL_law_366 : decode cL_law 366 = .ok (.iload_n 3, 1) := by decide +kernel
theorem dL_law_367 : decode cL_law 367 = .ok (.iconst 3, 1) := by decide +kernel
theorem dL_law_368 : decode cL_law 368 = .ok (.iadd, 1) := by decide +kernel
theorem dL_law_369 : decode cL_law 369 = .ok (.iaload, 1) := by decide +kernel
theorem dL_law_370 : decode cL_law 370 = .ok (.invokevirtual 32, 3) := by decide +kernel
theorem dL_law_373 : decode cL_law 373 = .ok (.aload_n 2, 1) := by decide +kernel
theorem dL_law_374 : decode cL_law 374 = .ok (.aload_n 0, 1) := by decide +kernel
theorem dL_law_375 : decode cL_law 375 = .ok (.iload_n 3, 1) := by decide +kernel
theorem dL_law_376 : decode cL_law 376 = .ok (.iconst 1, 1) := by decide +kernel
theorem dL_law_377 : decode cL_law 377 = .ok (.iadd, 1) := by decide +kernel
theorem dL_law_378 : decode cL_law 378 = .ok (.iaload, 1) := by decide +kernel
theorem dL_law_379 : decode cL_law 379 = .ok (.aload_n 0, 1) := by decide +kernel
theorem dL_law_380 : decode cL_law 380 = .ok (.iload_n 3, 1) := by decide +kernel
theorem dL_law_381 : decode cL_law 381 = .ok (.iconst 2, 1) := by decide +kernel
theorem dL_law_382 : decode cL_law 382 = .ok (.iadd, 1) := by decide +kernel
theorem dL_law_383 : decode cL_law 383 = .ok (.iaload, 1) := by decide +kernel
theorem dL_law_384 : decode cL_law 384 = .ok (.aload_n 0, 1) := by decide +kernel
theorem dL_law_385 : decode cL_law 385 = .ok (.iload_n 3, 1) := by decide +kernel
theorem dL_law_386 : decode cL_law 386 = .ok (.iconst 3, 1) := by decide +kernel
theorem dL_law_387 : decode cL_law 387 = .ok (.iadd, 1) := by decide +kernel
theorem dL_law_388 : decode cL_law 388 = .ok (.iaload, 1) := by decide +kernel
theorem dL_law_389 : decode cL_law 389 = .ok (.invokevirtual 36, 3) := by decide +kernel
theorem dL_law_392 : decode cL_law 392 = .ok (.if_icmp .eq 1024, 3) := by decide +kernel
theorem dL_law_395 : decode cL_law 395 = .ok (.iconst 0, 1) := by decide +kernel
theorem dL_law_396 : decode cL_law 396 = .ok (.ireturn, 1) := by decide +kernel
theorem dL_law_397 : decode cL_law 397 = .ok (.aload_n 1, 1) := by decide +kernel
theorem dL_law_398 : decode cL_law 398 = .ok (.aload_n 0, 1) := by decide +kernel
theorem dL_law_399 : decode cL_law 399 = .ok (.iload_n 3, 1) := by decide +kernel
theorem dL_law_400 : decode cL_law 400 = .ok (.iconst 1, 1) := by decide +kernel
theorem dL_law_401 : decode cL_law 401 = .ok (.iadd, 1) := by decide +kernel
theorem dL_law_402 : decode cL_law 402 = .ok (.iaload, 1) := by decide +kernel
theorem dL_law_403 : decode cL_law 403 = .ok (.aload_n 0, 1) := by decide +kernel
theorem dL_law_404 : decode cL_law 404 = .ok (.iload_n 3, 1) := by decide +kernel
theorem dL_law_405 : decode cL_law 405 = .ok (.iconst 2, 1) := by decide +kernel
theorem dL_law_406 : decode cL_law 406 = .ok (.iadd, 1) := by decide +kernel
theorem dL_law_407 : decode cL_law 407 = .ok (.iaload, 1) := by decide +kernel
theorem dL_law_408 : decode cL_law 408 = .ok (.aload_n 0, 1) := by decide +kernel
theorem dL_law_409 : decode cL_law 409 = .ok (.iload_n 3, 1) := by decide +kernel
theorem dL_law_410 : decode cL_law 410 = .ok (.iconst 3, 1) := by decide +kernel
theorem dL_law_411 : decode cL_law 411 = .ok (.iadd, 1) := by decide +kernel
theorem dL_law_412 : decode cL_law 412 = .ok (.iaload, 1) := by decide +kernel
theorem dL_law_413 : decode cL_law 413 = .ok (.invokevirtual 37, 3) := by decide +kernel
theorem dL_law_416 : decode cL_law 416 = .ok (.aload_n 2, 1) := by decide +kernel
theorem dL_law_417 : decode cL_law 417 = .ok (.aload_n 0, 1) := by decide +kernel
theorem dL_law_418 : decode cL_law 418 = .ok (.iload_n 3, 1) := by decide +kernel
theorem dL_law_419 : decode cL_law 419 = .ok (.iconst 1, 1) := by decide +kernel
theorem dL_law_420 : decode cL_law 420 = .ok (.iadd, 1) := by decide +kernel
theorem dL_law_421 : decode cL_law 421 = .ok (.iaload, 1) := by decide +kernel
theorem dL_law_422 : decode cL_law 422 = .ok (.aload_n 0, 1) := by decide +kernel
theorem dL_law_423 : decode cL_law 423 = .ok (.iload_n 3, 1) := by decide +kernel
theorem dL_law_424 : decode cL_law 424 = .ok (.iconst 2, 1) := by decide +kernel
theorem dL_law_425 : decode cL_law 425 = .ok (.iadd, 1) := by decide +kernel
theorem dL_law_426 : decode cL_law 426 = .ok (.iaload, 1) := by decide +kernel
theorem dL_law_427 : decode cL_law 427 = .ok (.aload_n 0, 1) := by decide +kernel
theorem dL_law_428 : decode cL_law 428 = .ok (.iload_n 3, 1) := by decide +kernel
theorem dL_law_429 : decode cL_law 429 = .ok (.iconst 3, 1) := by decide +kernel
theorem dL_law_430 : decode cL_law 430 = .ok (.iadd, 1) := by decide +kernel
theorem dL_law_431 : decode cL_law 431 = .ok (.iaload, 1) := by decide +kernel
theorem dL_law_432 : decode cL_law 432 = .ok (.invokevirtual 40, 3) := by decide +kernel
theorem dL_law_435 : decode cL_law 435 = .ok (.if_icmp .eq 981, 3) := by decide +kernel
theorem dL_law_438 : decode cL_law 438 = .ok (.iconst 0, 1) := by decide +kernel
theorem dL_law_439 : decode cL_law 439 = .ok (.ireturn, 1) := by decide +kernel
theorem dL_law_440 : decode cL_law 440 = .ok (.aload_n 1, 1) := by decide +kernel
theorem dL_law_441 : decode cL_law 441 = .ok (.aload_n 0, 1) := by decide +kernel
theorem dL_law_442 : decode cL_law 442 = .ok (.iload_n 3, 1) := by decide +kernel
theorem dL_law_443 : decode cL_law 443 = .ok (.iconst 1, 1) := by decide +kernel
theorem dL_law_444 : decode cL_law 444 = .ok (.iadd, 1) := by decide +kernel
theorem dL_law_445 : decode cL_law 445 = .ok (.iaload, 1) := by decide +kernel
theorem dL_law_446 : decode cL_law 446 = .ok (.aload_n 0, 1) := by decide +kernel
theorem dL_law_447 : decode cL_law 447 = .ok (.iload_n 3, 1) := by decide +kernel
theorem dL_law_448 : decode cL_law 448 = .ok (.iconst 2, 1) := by decide +kernel
theorem dL_law_449 : decode cL_law 449 = .ok (.iadd, 1) := by decide +kernel
theorem dL_law_450 : decode cL_law 450 = .ok (.iaload, 1) := by decide +kernel
theorem dL_law_451 : decode cL_law 451 = .ok (.invokevirtual 41, 3) := by decide +kernel
theorem dL_law_454 : decode cL_law 454 = .ok (.aload_n 2, 1) := by decide +kernel
theorem dL_law_455 : decode cL_law 455 = .ok (.aload_n 0, 1) := by decide +kernel
theorem dL_law_456 : decode cL_law 456 = .ok (.iload_n 3, 1) := by decide +kernel
theorem dL_law_457 : decode cL_law 457 = .ok (.iconst 1, 1) := by decide +kernel
theorem dL_law_458 : decode cL_law 458 = .ok (.iadd, 1) := by decide +kernel
theorem dL_law_459 : decode cL_law 459 = .ok (.iaload, 1) := by decide +kernel
theorem dL_law_460 : decode cL_law 460 = .ok (.aload_n 0, 1) := by decide +kernel
theorem dL_law_461 : decode cL_law 461 = .ok (.iload_n 3, 1) := by decide +kernel
theorem dL_law_462 : decode cL_law 462 = .ok (.iconst 2, 1) := by decide +kernel
theorem dL_law_463 : decode cL_law 463 = .ok (.iadd, 1) := by decide +kernel
theorem dL_law_464 : decode cL_law 464 = .ok (.iaload, 1) := by decide +kernel
theorem dL_law_465 : decode cL_law 465 = .ok (.invokevirtual 44, 3) := by decide +kernel
theorem dL_law_468 : decode cL_law 468 = .ok (.if_icmp .eq 948, 3) := by decide +kernel
theorem dL_law_471 : decode cL_law 471 = .ok (.iconst 0, 1) := by decide +kernel
theorem dL_law_472 : decode cL_law 472 = .ok (.ireturn, 1) := by decide +kernel
theorem dL_law_473 : decode cL_law 473 = .ok (.aload_n 1, 1) := by decide +kernel
theorem dL_law_474 : decode cL_law 474 = .ok (.invokevirtual 45, 3) := by decide +kernel
theorem dL_law_477 : decode cL_law 477 = .ok (.aload_n 2, 1) := by decide +kernel
theorem dL_law_478 : decode cL_law 478 = .ok (.invokevirtual 48, 3) := by decide +kernel
theorem dL_law_481 : decode cL_law 481 = .ok (.if_icmp .eq 935, 3) := by decide +kernel
theorem dL_law_484 : decode cL_law 484 = .ok (.iconst 0, 1) := by decide +kernel
theorem dL_law_485 : decode cL_law 485 = .ok (.ireturn, 1) := by decide +kernel
theorem dL_law_486 : decode cL_law 486 = .ok (.aload_n 1, 1) := by decide +kernel
theorem dL_law_487 : decode cL_law 487 = .ok (.aload_n 0, 1) := by decide +kernel
theorem dL_law_488 : decode cL_law 488 = .ok (.iload_n 3, 1) := by decide +kernel
theorem dL_law_489 : decode cL_law 489 = .ok (.iconst 1, 1) := by decide +kernel
theorem dL_law_490 : decode cL_law 490 = .ok (.iadd, 1) := by decide +kernel
theorem dL_law_491 : decode cL_law 491 = .ok (.iaload, 1) := by decide +kernel
theorem dL_law_492 : decode cL_law 492 = .ok (.aload_n 0, 1) := by decide +kernel
theorem dL_law_493 : decode cL_law 493 = .ok (.iload_n 3, 1) := by decide +kernel
theorem dL_law_494 : decode cL_law 494 = .ok (.iconst 2, 1) := by decide +kernel
theorem dL_law_495 : decode cL_law 495 = .ok (.iadd, 1) := by decide +kernel
theorem dL_law_496 : decode cL_law 496 = .ok (.iaload, 1) := by decide +kernel
theorem dL_law_497 : decode cL_law 497 = .ok (.invokevirtual 49, 3) := by decide +kernel
theorem dL_law_500 : decode cL_law 500 = .ok (.aload_n 2, 1) := by decide +kernel
theorem dL_law_501 : decode cL_law 501 = .ok (.aload_n 0, 1) := by decide +kernel
theorem dL_law_502 : decode cL_law 502 = .ok (.iload_n 3, 1) := by decide +kernel
theorem dL_law_503 : decode cL_law 503 = .ok (.iconst 1, 1) := by decide +kernel
theorem dL_law_504 : decode cL_law 504 = .ok (.iadd, 1) := by decide +kernel
theorem dL_law_505 : decode cL_law 505 = .ok (.iaload, 1) := by decide +kernel
theorem dL_law_506 : decode cL_law 506 = .ok (.aload_n 0, 1) := by decide +kernel
theorem dL_law_507 : decode cL_law 507 = .ok (.iload_n 3, 1) := by decide +kernel
theorem dL_law_508 : decode cL_law 508 = .ok (.iconst 2, 1) := by decide +kernel
theorem dL_law_509 : decode cL_law 509 = .ok (.iadd, 1) := by decide +kernel
theorem dL_law_510 : decode cL_law 510 = .ok (.iaload, 1) := by decide +kernel
theorem dL_law_511 : decode cL_law 511 = .ok (.invokevirtual 52, 3) := by decide +kernel
theorem dL_law_514 : decode cL_law 514 = .ok (.if_icmp .eq 902, 3) := by decide +kernel
theorem dL_law_517 : decode cL_law 517 = .ok (.iconst 0, 1) := by decide +kernel
theorem dL_law_518 : decode cL_law 518 = .ok (.ireturn, 1) := by decide +kernel
theorem dL_law_519 : decode cL_law 519 = .ok (.aload_n 1, 1) := by decide +kernel
theorem dL_law_520 : decode cL_law 520 = .ok (.aload_n 0, 1) := by decide +kernel
theorem dL_law_521 : decode cL_law 521 = .ok (.iload_n 3, 1) := by decide +kernel
theorem dL_law_522 : decode cL_law 522 = .ok (.iconst 1, 1) := by decide +kernel
theorem dL_law_523 : decode cL_law 523 = .ok (.iadd, 1) := by decide +kernel
theorem dL_law_524 : decode cL_law 524 = .ok (.iaload, 1) := by decide +kernel
theorem dL_law_525 : decode cL_law 525 = .ok (.invokevirtual 53, 3) := by decide +kernel
theorem dL_law_528 : decode cL_law 528 = .ok (.aload_n 2, 1) := by decide +kernel
theorem dL_law_529 : decode cL_law 529 = .ok (.aload_n 0, 1) := by decide +kernel
theorem dL_law_530 : decode cL_law 530 = .ok (.iload_n 3, 1) := by decide +kernel
theorem dL_law_531 : decode cL_law 531 = .ok (.iconst 1, 1) := by decide +kernel
theorem dL_law_532 : decode cL_law 532 = .ok (.iadd, 1) := by decide +kernel
theorem dL_law_533 : decode cL_law 533 = .ok (.iaload, 1) := by decide +kernel
theorem dL_law_534 : decode cL_law 534 = .ok (.invokevirtual 56, 3) := by decide +kernel
theorem dL_law_537 : decode cL_law 537 = .ok (.if_icmp .eq 879, 3) := by decide +kernel
theorem dL_law_540 : decode cL_law 540 = .ok (.iconst 0, 1) := by decide +kernel
theorem dL_law_541 : decode cL_law 541 = .ok (.ireturn, 1) := by decide +kernel
theorem dL_law_542 : decode cL_law 542 = .ok (.aload_n 1, 1) := by decide +kernel
theorem dL_law_543 : decode cL_law 543 = .ok (.aload_n 0, 1) := by decide +kernel
theorem dL_law_544 : decode cL_law 544 = .ok (.iload_n 3, 1) := by decide +kernel
theorem dL_law_545 : decode cL_law 545 = .ok (.iconst 1, 1) := by decide +kernel
theorem dL_law_546 : decode cL_law 546 = .ok (.iadd, 1) := by decide +kernel
theorem dL_law_547 : decode cL_law 547 = .ok (.iaload, 1) := by decide +kernel
theorem dL_law_548 : decode cL_law 548 = .ok (.invokevirtual 57, 3) := by decide +kernel
theorem dL_law_551 : decode cL_law 551 = .ok (.aload_n 2, 1) := by decide +kernel
theorem dL_law_552 : decode cL_law 552 = .ok (.aload_n 0, 1) := by decide +kernel
theorem dL_law_553 : decode cL_law 553 = .ok (.iload_n 3, 1) := by decide +kernel
theorem dL_law_554 : decode cL_law 554 = .ok (.iconst 1, 1) := by decide +kernel
theorem dL_law_555 : decode cL_law 555 = .ok (.iadd, 1) := by decide +kernel
theorem dL_law_556 : decode cL_law 556 = .ok (.iaload, 1) := by decide +kernel
theorem dL_law_557 : decode cL_law 557 = .ok (.invokevirtual 60, 3) := by decide +kernel
theorem dL_law_560 : decode cL_law 560 = .ok (.if_icmp .eq 856, 3) := by decide +kernel
theorem dL_law_563 : decode cL_law 563 = .ok (.iconst 0, 1) := by decide +kernel
theorem dL_law_564 : decode cL_law 564 = .ok (.ireturn, 1) := by decide +kernel
theorem dL_law_565 : decode cL_law 565 = .ok (.aload_n 1, 1) := by decide +kernel
theorem dL_law_566 : decode cL_law 566 = .ok (.invokevirtual 61, 3) := by decide +kernel
theorem dL_law_569 : decode cL_law 569 = .ok (.aload_n 2, 1) := by decide +kernel
theorem dL_law_570 : decode cL_law 570 = .ok (.invokevirtual 64, 3) := by decide +kernel
theorem dL_law_573 : decode cL_law 573 = .ok (.if_icmp .eq 843, 3) := by decide +kernel
theorem dL_law_576 : decode cL_law 576 = .ok (.iconst 0, 1) := by decide +kernel
theorem dL_law_577 : decode cL_law 577 = .ok (.ireturn, 1) := by decide +kernel
theorem dL_law_578 : decode cL_law 578 = .ok (.aload_n 1, 1) := by decide +kernel
theorem dL_law_579 : decode cL_law 579 = .ok (.aload_n 0, 1) := by decide +kernel
theorem dL_law_580 : decode cL_law 580 = .ok (.iload_n 3, 1) := by decide +kernel
theorem dL_law_581 : decode cL_law 581 = .ok (.iconst 1, 1) := by decide +kernel
theorem dL_law_582 : decode cL_law 582 = .ok (.iadd, 1) := by decide +kernel
theorem dL_law_583 : decode cL_law 583 = .ok (.iaload, 1) := by decide +kernel
theorem dL_law_584 : decode cL_law 584 = .ok (.invokevirtual 65, 3) := by decide +kernel
theorem dL_law_587 : decode cL_law 587 = .ok (.aload_n 2, 1) := by decide +kernel
theorem dL_law_588 : decode cL_law 588 = .ok (.aload_n 0, 1) := by decide +kernel
theorem dL_law_589 : decode cL_law 589 = .ok (.iload_n 3, 1) := by decide +kernel
theorem dL_law_590 : decode cL_law 590 = .ok (.iconst 1, 1) := by decide +kernel
theorem dL_law_591 : decode cL_law 591 = .ok (.iadd, 1) := by decide +kernel
theorem dL_law_592 : decode cL_law 592 = .ok (.iaload, 1) := by decide +kernel
theorem dL_law_593 : decode cL_law 593 = .ok (.invokevirtual 68, 3) := by decide +kernel
theorem dL_law_596 : decode cL_law 596 = .ok (.if_icmp .eq 820, 3) := by decide +kernel
theorem dL_law_599 : decode cL_law 599 = .ok (.iconst 0, 1) := by decide +kernel
theorem dL_law_600 : decode cL_law 600 = .ok (.ireturn, 1) := by decide +kernel
theorem dL_law_601 : decode cL_law 601 = .ok (.aload_n 1, 1) := by decide +kernel
theorem dL_law_602 : decode cL_law 602 = .ok (.aload_n 0, 1) := by decide +kernel
theorem dL_law_603 : decode cL_law 603 = .ok (.iload_n 3, 1) := by decide +kernel
theorem dL_law_604 : decode cL_law 604 = .ok (.iconst 1, 1) := by decide +kernel
theorem dL_law_605 : decode cL_law 605 = .ok (.iadd, 1) := by decide +kernel
theorem dL_law_606 : decode cL_law 606 = .ok (.iaload, 1) := by decide +kernel
theorem dL_law_607 : decode cL_law 607 = .ok (.invokevirtual 69, 3) := by decide +kernel
theorem dL_law_610 : decode cL_law 610 = .ok (.aload_n 2, 1) := by decide +kernel
theorem dL_law_611 : decode cL_law 611 = .ok (.aload_n 0, 1) := by decide +kernel
theorem dL_law_612 : decode cL_law 612 = .ok (.iload_n 3, 1) := by decide +kernel
theorem dL_law_613 : decode cL_law 613 = .ok (.iconst 1, 1) := by decide +kernel
theorem dL_law_614 : decode cL_law 614 = .ok (.iadd, 1) := by decide +kernel
theorem dL_law_615 : decode cL_law 615 = .ok (.iaload, 1) := by decide +kernel
theorem dL_law_616 : decode cL_law 616 = .ok (.invokevirtual 72, 3) := by decide +kernel
theorem dL_law_619 : decode cL_law 619 = .ok (.if_icmp .eq 797, 3) := by decide +kernel
theorem dL_law_622 : decode cL_law 622 = .ok (.iconst 0, 1) := by decide +kernel
theorem dL_law_623 : decode cL_law 623 = .ok (.ireturn, 1) := by decide +kernel
theorem dL_law_624 : decode cL_law 624 = .ok (.aload_n 1, 1) := by decide +kernel
theorem dL_law_625 : decode cL_law 625 = .ok (.aload_n 0, 1) := by decide +kernel
theorem dL_law_626 : decode cL_law 626 = .ok (.iload_n 3, 1) := by decide +kernel
theorem dL_law_627 : decode cL_law 627 = .ok (.iconst 1, 1) := by decide +kernel
theorem dL_law_628 : decode cL_law 628 = .ok (.iadd, 1) := by decide +kernel
theorem dL_law_629 : decode cL_law 629 = .ok (.iaload, 1) := by decide +kernel
theorem dL_law_630 : decode cL_law 630 = .ok (.invokevirtual 73, 3) := by decide +kernel
theorem dL_law_633 : decode cL_law 633 = .ok (.aload_n 2, 1) := by decide +kernel
theorem dL_law_634 : decode cL_law 634 = .ok (.aload_n 0, 1) := by decide +kernel
theorem dL_law_635 : decode cL_law 635 = .ok (.iload_n 3, 1) := by decide +kernel
theorem dL_law_636 : decode cL_law 636 = .ok (.iconst 1, 1) := by decide +kernel
theorem dL_law_637 : decode cL_law 637 = .ok (.iadd, 1) := by decide +kernel
theorem dL_law_638 : decode cL_law 638 = .ok (.iaload, 1) := by decide +kernel
theorem dL_law_639 : decode cL_law 639 = .ok (.invokevirtual 76, 3) := by decide +kernel
theorem dL_law_642 : decode cL_law 642 = .ok (.if_icmp .eq 774, 3) := by decide +kernel
theorem dL_law_645 : decode cL_law 645 = .ok (.iconst 0, 1) := by decide +kernel
theorem dL_law_646 : decode cL_law 646 = .ok (.ireturn, 1) := by decide +kernel
theorem dL_law_647 : decode cL_law 647 = .ok (.aload_n 1, 1) := by decide +kernel
theorem dL_law_648 : decode cL_law 648 = .ok (.aload_n 0, 1) := by decide +kernel
theorem dL_law_649 : decode cL_law 649 = .ok (.iload_n 3, 1) := by decide +kernel
theorem dL_law_650 : decode cL_law 650 = .ok (.iconst 1, 1) := by decide +kernel
theorem dL_law_651 : decode cL_law 651 = .ok (.iadd, 1) := by decide +kernel
theorem dL_law_652 : decode cL_law 652 = .ok (.iaload, 1) := by decide +kernel
theorem dL_law_653 : decode cL_law 653 = .ok (.aload_n 0, 1) := by decide +kernel
theorem dL_law_654 : decode cL_law 654 = .ok (.iload_n 3, 1) := by decide +kernel
theorem dL_law_655 : decode cL_law 655 = .ok (.iconst 2, 1) := by decide +kernel
theorem dL_law_656 : decode cL_law 656 = .ok (.iadd, 1) := by decide +kernel
theorem dL_law_657 : decode cL_law 657 = .ok (.iaload, 1) := by decide +kernel
theorem dL_law_658 : decode cL_law 658 = .ok (.invokevirtual 77, 3) := by decide +kernel
theorem dL_law_661 : decode cL_law 661 = .ok (.aload_n 2, 1) := by decide +kernel
theorem dL_law_662 : decode cL_law 662 = .ok (.aload_n 0, 1) := by decide +kernel
theorem dL_law_663 : decode cL_law 663 = .ok (.iload_n 3, 1) := by decide +kernel
theorem dL_law_664 : decode cL_law 664 = .ok (.iconst 1, 1) := by decide +kernel
theorem dL_law_665 : decode cL_law 665 = .ok (.iadd, 1) := by decide +kernel
theorem dL_law_666 : decode cL_law 666 = .ok (.iaload, 1) := by decide +kernel
theorem dL_law_667 : decode cL_law 667 = .ok (.aload_n 0, 1) := by decide +kernel
theorem dL_law_668 : decode cL_law 668 = .ok (.iload_n 3, 1) := by decide +kernel
theorem dL_law_669 : decode cL_law 669 = .ok (.iconst 2, 1) := by decide +kernel
theorem dL_law_670 : decode cL_law 670 = .ok (.iadd, 1) := by decide +kernel
theorem dL_law_671 : decode cL_law 671 = .ok (.iaload, 1) := by decide +kernel
theorem dL_law_672 : decode cL_law 672 = .ok (.invokevirtual 80, 3) := by decide +kernel
theorem dL_law_675 : decode cL_law 675 = .ok (.if_icmp .eq 741, 3) := by decide +kernel
theorem dL_law_678 : decode cL_law 678 = .ok (.iconst 0, 1) := by decide +kernel
theorem dL_law_679 : decode cL_law 679 = .ok (.ireturn, 1) := by decide +kernel
theorem dL_law_680 : decode cL_law 680 = .ok (.aload_n 1, 1) := by decide +kernel
theorem dL_law_681 : decode cL_law 681 = .ok (.invokevirtual 81, 3) := by decide +kernel
theorem dL_law_684 : decode cL_law 684 = .ok (.aload_n 2, 1) := by decide +kernel
theorem dL_law_685 : decode cL_law 685 = .ok (.invokevirtual 84, 3) := by decide +kernel
theorem dL_law_688 : decode cL_law 688 = .ok (.if_icmp .eq 728, 3) := by decide +kernel
theorem dL_law_691 : decode cL_law 691 = .ok (.iconst 0, 1) := by decide +kernel
theorem dL_law_692 : decode cL_law 692 = .ok (.ireturn, 1) := by decide +kernel
theorem dL_law_693 : decode cL_law 693 = .ok (.aload_n 1, 1) := by decide +kernel
theorem dL_law_694 : decode cL_law 694 = .ok (.aload_n 0, 1) := by decide +kernel
theorem dL_law_695 : decode cL_law 695 = .ok (.iload_n 3, 1) := by decide +kernel
theorem dL_law_696 : decode cL_law 696 = .ok (.iconst 1, 1) := by decide +kernel
theorem dL_law_697 : decode cL_law 697 = .ok (.iadd, 1) := by decide +kernel
theorem dL_law_698 : decode cL_law 698 = .ok (.iaload, 1) := by decide +kernel
theorem dL_law_699 : decode cL_law 699 = .ok (.invokevirtual 85, 3) := by decide +kernel
theorem dL_law_702 : decode cL_law 702 = .ok (.aload_n 2, 1) := by decide +kernel
theorem dL_law_703 : decode cL_law 703 = .ok (.aload_n 0, 1) := by decide +kernel
theorem dL_law_704 : decode cL_law 704 = .ok (.iload_n 3, 1) := by decide +kernel
theorem dL_law_705 : decode cL_law 705 = .ok (.iconst 1, 1) := by decide +kernel
theorem dL_law_706 : decode cL_law 706 = .ok (.iadd, 1) := by decide +kernel
theorem dL_law_707 : decode cL_law 707 = .ok (.iaload, 1) := by decide +kernel
theorem dL_law_708 : decode cL_law 708 = .ok (.invokevirtual 88, 3) := by decide +kernel
theorem dL_law_711 : decode cL_law 711 = .ok (.if_icmp .eq 705, 3) := by decide +kernel
theorem dL_law_714 : decode cL_law 714 = .ok (.iconst 0, 1) := by decide +kernel
theorem dL_law_715 : decode cL_law 715 = .ok (.ireturn, 1) := by decide +kernel
theorem dL_law_716 : decode cL_law 716 = .ok (.aload_n 1, 1) := by decide +kernel
theorem dL_law_717 : decode cL_law 717 = .ok (.aload_n 0, 1) := by decide +kernel
theorem dL_law_718 : decode cL_law 718 = .ok (.iload_n 3, 1) := by decide +kernel
theorem dL_law_719 : decode cL_law 719 = .ok (.iconst 1, 1) := by decide +kernel
theorem dL_law_720 : decode cL_law 720 = .ok (.iadd, 1) := by decide +kernel
theorem dL_law_721 : decode cL_law 721 = .ok (.iaload, 1) := by decide +kernel
theorem dL_law_722 : decode cL_law 722 = .ok (.invokevirtual 89, 3) := by decide +kernel
theorem dL_law_725 : decode cL_law 725 = .ok (.aload_n 2, 1) := by decide +kernel
theorem dL_law_726 : decode cL_law 726 = .ok (.aload_n 0, 1) := by decide +kernel
theorem dL_law_727 : decode cL_law 727 = .ok (.iload_n 3, 1) := by decide +kernel
theorem dL_law_728 : decode cL_law 728 = .ok (.iconst 1, 1) := by decide +kernel
theorem dL_law_729 : decode cL_law 729 = .ok (.iadd, 1) := by decide +kernel
theorem dL_law_730 : decode cL_law 730 = .ok (.iaload, 1) := by decide +kernel
theorem dL_law_731 : decode cL_law 731 = .ok (.invokevirtual 92, 3) := by decide +kernel
theorem dL_law_734 : decode cL_law 734 = .ok (.if_icmp .eq 682, 3) := by decide +kernel
theorem dL_law_737 : decode cL_law 737 = .ok (.iconst 0, 1) := by decide +kernel
theorem dL_law_738 : decode cL_law 738 = .ok (.ireturn, 1) := by decide +kernel
theorem dL_law_739 : decode cL_law 739 = .ok (.aload_n 1, 1) := by decide +kernel
theorem dL_law_740 : decode cL_law 740 = .ok (.aload_n 0, 1) := by decide +kernel
theorem dL_law_741 : decode cL_law 741 = .ok (.iload_n 3, 1) := by decide +kernel
theorem dL_law_742 : decode cL_law 742 = .ok (.iconst 1, 1) := by decide +kernel
theorem dL_law_743 : decode cL_law 743 = .ok (.iadd, 1) := by decide +kernel
theorem dL_law_744 : decode cL_law 744 = .ok (.iaload, 1) := by decide +kernel
theorem dL_law_745 : decode cL_law 745 = .ok (.invokevirtual 93, 3) := by decide +kernel
theorem dL_law_748 : decode cL_law 748 = .ok (.aload_n 2, 1) := by decide +kernel
theorem dL_law_749 : decode cL_law 749 = .ok (.aload_n 0, 1) := by decide +kernel
theorem dL_law_750 : decode cL_law 750 = .ok (.iload_n 3, 1) := by decide +kernel
theorem dL_law_751 : decode cL_law 751 = .ok (.iconst 1, 1) := by decide +kernel
theorem dL_law_752 : decode cL_law 752 = .ok (.iadd, 1) := by decide +kernel
theorem dL_law_753 : decode cL_law 753 = .ok (.iaload, 1) := by decide +kernel
theorem dL_law_754 : decode cL_law 754 = .ok (.invokevirtual 96, 3) := by decide +kernel
theorem dL_law_757 : decode cL_law 757 = .ok (.if_icmp .eq 659, 3) := by decide +kernel
theorem dL_law_760 : decode cL_law 760 = .ok (.iconst 0, 1) := by decide +kernel
theorem dL_law_761 : decode cL_law 761 = .ok (.ireturn, 1) := by decide +kernel
theorem dL_law_762 : decode cL_law 762 = .ok (.aload_n 1, 1) := by decide +kernel
theorem dL_law_763 : decode cL_law 763 = .ok (.aload_n 0, 1) := by decide +kernel
theorem dL_law_764 : decode cL_law 764 = .ok (.iload_n 3, 1) := by decide +kernel
theorem dL_law_765 : decode cL_law 765 = .ok (.iconst 1, 1) := by decide +kernel
theorem dL_law_766 : decode cL_law 766 = .ok (.iadd, 1) := by decide +kernel
theorem dL_law_767 : decode cL_law 767 = .ok (.iaload, 1) := by decide +kernel
theorem dL_law_768 : decode cL_law 768 = .ok (.aload_n 0, 1) := by decide +kernel
theorem dL_law_769 : decode cL_law 769 = .ok (.iload_n 3, 1) := by decide +kernel
theorem dL_law_770 : decode cL_law 770 = .ok (.iconst 2, 1) := by decide +kernel
theorem dL_law_771 : decode cL_law 771 = .ok (.iadd, 1) := by decide +kernel
theorem dL_law_772 : decode cL_law 772 = .ok (.iaload, 1) := by decide +kernel
theorem dL_law_773 : decode cL_law 773 = .ok (.aload_n 0, 1) := by decide +kernel
theorem dL_law_774 : decode cL_law 774 = .ok (.iload_n 3, 1) := by decide +kernel
theorem dL_law_775 : decode cL_law 775 = .ok (.iconst 3, 1) := by decide +kernel
theorem dL_law_776 : decode cL_law 776 = .ok (.iadd, 1) := by decide +kernel
theorem dL_law_777 : decode cL_law 777 = .ok (.iaload, 1) := by decide +kernel
theorem dL_law_778 : decode cL_law 778 = .ok (.invokevirtual 97, 3) := by decide +kernel
theorem dL_law_781 : decode cL_law 781 = .ok (.aload_n 2, 1) := by decide +kernel
theorem dL_law_782 : decode cL_law 782 = .ok (.aload_n 0, 1) := by decide +kernel
theorem dL_law_783 : decode cL_law 783 = .ok (.iload_n 3, 1) := by decide +kernel
theorem dL_law_784 : decode cL_law 784 = .ok (.iconst 1, 1) := by decide +kernel
theorem dL_law_785 : decode cL_law 785 = .ok (.iadd, 1) := by decide +kernel
theorem dL_law_786 : decode cL_law 786 = .ok (.iaload, 1) := by decide +kernel
theorem dL_law_787 : decode cL_law 787 = .ok (.aload_n 0, 1) := by decide +kernel
theorem dL_law_788 : decode cL_law 788 = .ok (.iload_n 3, 1) := by decide +kernel
theorem dL_law_789 : decode cL_law 789 = .ok (.iconst 2, 1) := by decide +kernel
theorem dL_law_790 : decode cL_law 790 = .ok (.iadd, 1) := by decide +kernel
theorem dL_law_791 : decode cL_law 791 = .ok (.iaload, 1) := by decide +kernel
theorem dL_law_792 : decode cL_law 792 = .ok (.aload_n 0, 1) := by decide +kernel
theorem dL_law_793 : decode cL_law 793 = .ok (.iload_n 3, 1) := by decide +kernel
theorem dL_law_794 : decode cL_law 794 = .ok (.iconst 3, 1) := by decide +kernel
theorem dL_law_795 : decode cL_law 795 = .ok (.iadd, 1) := by decide +kernel
theorem dL_law_796 : decode cL_law 796 = .ok (.iaload, 1) := by decide +kernel
theorem dL_law_797 : decode cL_law 797 = .ok (.invokevirtual 100, 3) := by decide +kernel
theorem dL_law_800 : decode cL_law 800 = .ok (.if_icmp .eq 616, 3) := by decide +kernel
theorem dL_law_803 : decode cL_law 803 = .ok (.iconst 0, 1) := by decide +kernel
theorem dL_law_804 : decode cL_law 804 = .ok (.ireturn, 1) := by decide +kernel
theorem dL_law_805 : decode cL_law 805 = .ok (.aload_n 1, 1) := by decide +kernel
theorem dL_law_806 : decode cL_law 806 = .ok (.aload_n 0, 1) := by decide +kernel
theorem dL_law_807 : decode cL_law 807 = .ok (.iload_n 3, 1) := by decide +kernel
theorem dL_law_808 : decode cL_law 808 = .ok (.iconst 1, 1) := by decide +kernel
theorem dL_law_809 : decode cL_law 809 = .ok (.iadd, 1) := by decide +kernel
theorem dL_law_810 : decode cL_law 810 = .ok (.iaload, 1) := by decide +kernel
theorem dL_law_811 : decode cL_law 811 = .ok (.aload_n 0, 1) := by decide +kernel
theorem dL_law_812 : decode cL_law 812 = .ok (.iload_n 3, 1) := by decide +kernel
theorem dL_law_813 : decode cL_law 813 = .ok (.iconst 2, 1) := by decide +kernel
theorem dL_law_814 : decode cL_law 814 = .ok (.iadd, 1) := by decide +kernel
theorem dL_law_815 : decode cL_law 815 = .ok (.iaload, 1) := by decide +kernel
theorem dL_law_816 : decode cL_law 816 = .ok (.invokevirtual 101, 3) := by decide +kernel
theorem dL_law_819 : decode cL_law 819 = .ok (.aload_n 2, 1) := by decide +kernel
theorem dL_law_820 : decode cL_law 820 = .ok (.aload_n 0, 1) := by decide +kernel
theorem dL_law_821 : decode cL_law 821 = .ok (.iload_n 3, 1) := by decide +kernel
theorem dL_law_822 : decode cL_law 822 = .ok (.iconst 1, 1) := by decide +kernel
theorem dL_law_823 : decode cL_law 823 = .ok (.iadd, 1) := by decide +kernel
theorem dL_law_824 : decode cL_law 824 = .ok (.iaload, 1) := by decide +kernel
theorem dL_law_825 : decode cL_law 825 = .ok (.aload_n 0, 1) := by decide +kernel
theorem dL_law_826 : decode cL_law 826 = .ok (.iload_n 3, 1) := by decide +kernel
theorem dL_law_827 : decode cL_law 827 = .ok (.iconst 2, 1) := by decide +kernel
theorem dL_law_828 : decode cL_law 828 = .ok (.iadd, 1) := by decide +kernel
theorem dL_law_829 : decode cL_law 829 = .ok (.iaload, 1) := by decide +kernel
theorem dL_law_830 : decode cL_law 830 = .ok (.invokevirtual 104, 3) := by decide +kernel
theorem dL_law_833 : decode cL_law 833 = .ok (.if_icmp .eq 583, 3) := by decide +kernel
theorem dL_law_836 : decode cL_law 836 = .ok (.iconst 0, 1) := by decide +kernel
theorem dL_law_837 : decode cL_law 837 = .ok (.ireturn, 1) := by decide +kernel
theorem dL_law_838 : decode cL_law 838 = .ok (.aload_n 1, 1) := by decide +kernel
theorem dL_law_839 : decode cL_law 839 = .ok (.aload_n 0, 1) := by decide +kernel
theorem dL_law_840 : decode cL_law 840 = .ok (.iload_n 3, 1) := by decide +kernel
theorem dL_law_841 : decode cL_law 841 = .ok (.iconst 1, 1) := by decide +kernel
theorem dL_law_842 : decode cL_law 842 = .ok (.iadd, 1) := by decide +kernel
theorem dL_law_843 : decode cL_law 843 = .ok (.iaload, 1) := by decide +kernel
theorem dL_law_844 : decode cL_law 844 = .ok (.invokevirtual 105, 3) := by decide +kernel
theorem dL_law_847 : decode cL_law 847 = .ok (.aload_n 2, 1) := by decide +kernel
theorem dL_law_848 : decode cL_law 848 = .ok (.aload_n 0, 1) := by decide +kernel
theorem dL_law_849 : decode cL_law 849 = .ok (.iload_n 3, 1) := by decide +kernel
theorem dL_law_850 : decode cL_law 850 = .ok (.iconst 1, 1) := by decide +kernel
theorem dL_law_851 : decode cL_law 851 = .ok (.iadd, 1) := by decide +kernel
theorem dL_law_852 : decode cL_law 852 = .ok (.iaload, 1) := by decide +kernel
theorem dL_law_853 : decode cL_law 853 = .ok (.invokevirtual 108, 3) := by decide +kernel
theorem dL_law_856 : decode cL_law 856 = .ok (.if_icmp .eq 560, 3) := by decide +kernel
theorem dL_law_859 : decode cL_law 859 = .ok (.iconst 0, 1) := by decide +kernel
theorem dL_law_860 : decode cL_law 860 = .ok (.ireturn, 1) := by decide +kernel
theorem dL_law_861 : decode cL_law 861 = .ok (.aload_n 1, 1) := by decide +kernel
theorem dL_law_862 : decode cL_law 862 = .ok (.aload_n 0, 1) := by decide +kernel
theorem dL_law_863 : decode cL_law 863 = .ok (.iload_n 3, 1) := by decide +kernel
theorem dL_law_864 : decode cL_law 864 = .ok (.iconst 1, 1) := by decide +kernel
theorem dL_law_865 : decode cL_law 865 = .ok (.iadd, 1) := by decide +kernel
theorem dL_law_866 : decode cL_law 866 = .ok (.iaload, 1) := by decide +kernel
theorem dL_law_867 : decode cL_law 867 = .ok (.aload_n 0, 1) := by decide +kernel
theorem dL_law_868 : decode cL_law 868 = .ok (.iload_n 3, 1) := by decide +kernel
theorem dL_law_869 : decode cL_law 869 = .ok (.iconst 2, 1) := by decide +kernel
theorem dL_law_870 : decode cL_law 870 = .ok (.iadd, 1) := by decide +kernel
theorem dL_law_871 : decode cL_law 871 = .ok (.iaload, 1) := by decide +kernel
theorem dL_law_872 : decode cL_law 872 = .ok (.invokevirtual 109, 3) := by decide +kernel
theorem dL_law_875 : decode cL_law 875 = .ok (.aload_n 2, 1) := by decide +kernel
theorem dL_law_876 : decode cL_law 876 = .ok (.aload_n 0, 1) := by decide +kernel
theorem dL_law_877 : decode cL_law 877 = .ok (.iload_n 3, 1) := by decide +kernel
theorem dL_law_878 : decode cL_law 878 = .ok (.iconst 1, 1) := by decide +kernel
theorem dL_law_879 : decode cL_law 879 = .ok (.iadd, 1) := by decide +kernel
theorem dL_law_880 : decode cL_law 880 = .ok (.iaload, 1) := by decide +kernel
theorem dL_law_881 : decode cL_law 881 = .ok (.aload_n 0, 1) := by decide +kernel
theorem dL_law_882 : decode cL_law 882 = .ok (.iload_n 3, 1) := by decide +kernel
theorem dL_law_883 : decode cL_law 883 = .ok (.iconst 2, 1) := by decide +kernel
theorem dL_law_884 : decode cL_law 884 = .ok (.iadd, 1) := by decide +kernel
theorem dL_law_885 : decode cL_law 885 = .ok (.iaload, 1) := by decide +kernel
theorem dL_law_886 : decode cL_law 886 = .ok (.invokevirtual 113, 3) := by decide +kernel
theorem dL_law_889 : decode cL_law 889 = .ok (.lcmp, 1) := by decide +kernel
theorem dL_law_890 : decode cL_law 890 = .ok (.ifCond .eq 526, 3) := by decide +kernel
theorem dL_law_893 : decode cL_law 893 = .ok (.iconst 0, 1) := by decide +kernel
theorem dL_law_894 : decode cL_law 894 = .ok (.ireturn, 1) := by decide +kernel
theorem dL_law_895 : decode cL_law 895 = .ok (.aload_n 1, 1) := by decide +kernel
theorem dL_law_896 : decode cL_law 896 = .ok (.invokevirtual 114, 3) := by decide +kernel
theorem dL_law_899 : decode cL_law 899 = .ok (.aload_n 2, 1) := by decide +kernel
theorem dL_law_900 : decode cL_law 900 = .ok (.invokevirtual 117, 3) := by decide +kernel
theorem dL_law_903 : decode cL_law 903 = .ok (.if_icmp .eq 513, 3) := by decide +kernel
theorem dL_law_906 : decode cL_law 906 = .ok (.iconst 0, 1) := by decide +kernel
theorem dL_law_907 : decode cL_law 907 = .ok (.ireturn, 1) := by decide +kernel
theorem dL_law_908 : decode cL_law 908 = .ok (.aload_n 1, 1) := by decide +kernel
theorem dL_law_909 : decode cL_law 909 = .ok (.aload_n 0, 1) := by decide +kernel
theorem dL_law_910 : decode cL_law 910 = .ok (.iload_n 3, 1) := by decide +kernel
theorem dL_law_911 : decode cL_law 911 = .ok (.iconst 1, 1) := by decide +kernel
theorem dL_law_912 : decode cL_law 912 = .ok (.iadd, 1) := by decide +kernel
theorem dL_law_913 : decode cL_law 913 = .ok (.iaload, 1) := by decide +kernel
theorem dL_law_914 : decode cL_law 914 = .ok (.invokevirtual 118, 3) := by decide +kernel
theorem dL_law_917 : decode cL_law 917 = .ok (.aload_n 2, 1) := by decide +kernel
theorem dL_law_918 : decode cL_law 918 = .ok (.aload_n 0, 1) := by decide +kernel
theorem dL_law_919 : decode cL_law 919 = .ok (.iload_n 3, 1) := by decide +kernel
theorem dL_law_920 : decode cL_law 920 = .ok (.iconst 1, 1) := by decide +kernel
theorem dL_law_921 : decode cL_law 921 = .ok (.iadd, 1) := by decide +kernel
theorem dL_law_922 : decode cL_law 922 = .ok (.iaload, 1) := by decide +kernel
theorem dL_law_923 : decode cL_law 923 = .ok (.invokevirtual 121, 3) := by decide +kernel
theorem dL_law_926 : decode cL_law 926 = .ok (.if_icmp .eq 490, 3) := by decide +kernel
theorem dL_law_929 : decode cL_law 929 = .ok (.iconst 0, 1) := by decide +kernel
theorem dL_law_930 : decode cL_law 930 = .ok (.ireturn, 1) := by decide +kernel
theorem dL_law_931 : decode cL_law 931 = .ok (.aload_n 1, 1) := by decide +kernel
theorem dL_law_932 : decode cL_law 932 = .ok (.aload_n 0, 1) := by decide +kernel
theorem dL_law_933 : decode cL_law 933 = .ok (.iload_n 3, 1) := by decide +kernel
theorem dL_law_934 : decode cL_law 934 = .ok (.iconst 1, 1) := by decide +kernel
theorem dL_law_935 : decode cL_law 935 = .ok (.iadd, 1) := by decide +kernel
theorem dL_law_936 : decode cL_law 936 = .ok (.iaload, 1) := by decide +kernel
theorem dL_law_937 : decode cL_law 937 = .ok (.invokevirtual 122, 3) := by decide +kernel
theorem dL_law_940 : decode cL_law 940 = .ok (.aload_n 2, 1) := by decide +kernel
theorem dL_law_941 : decode cL_law 941 = .ok (.aload_n 0, 1) := by decide +kernel
theorem dL_law_942 : decode cL_law 942 = .ok (.iload_n 3, 1) := by decide +kernel
theorem dL_law_943 : decode cL_law 943 = .ok (.iconst 1, 1) := by decide +kernel
theorem dL_law_944 : decode cL_law 944 = .ok (.iadd, 1) := by decide +kernel
theorem dL_law_945 : decode cL_law 945 = .ok (.iaload, 1) := by decide +kernel
theorem dL_law_946 : decode cL_law 946 = .ok (.invokevirtual 125, 3) := by decide +kernel
theorem dL_law_949 : decode cL_law 949 = .ok (.if_icmp .eq 467, 3) := by decide +kernel
theorem dL_law_952 : decode cL_law 952 = .ok (.iconst 0, 1) := by decide +kernel
theorem dL_law_953 : decode cL_law 953 = .ok (.ireturn, 1) := by decide +kernel
theorem dL_law_954 : decode cL_law 954 = .ok (.aload_n 1, 1) := by decide +kernel
theorem dL_law_955 : decode cL_law 955 = .ok (.invokevirtual 126, 3) := by decide +kernel
theorem dL_law_958 : decode cL_law 958 = .ok (.aload_n 2, 1) := by decide +kernel
theorem dL_law_959 : decode cL_law 959 = .ok (.invokevirtual 129, 3) := by decide +kernel
theorem dL_law_962 : decode cL_law 962 = .ok (.if_icmp .eq 454, 3) := by decide +kernel
theorem dL_law_965 : decode cL_law 965 = .ok (.iconst 0, 1) := by decide +kernel
theorem dL_law_966 : decode cL_law 966 = .ok (.ireturn, 1) := by decide +kernel
theorem dL_law_967 : decode cL_law 967 = .ok (.aload_n 1, 1) := by decide +kernel
theorem dL_law_968 : decode cL_law 968 = .ok (.aload_n 0, 1) := by decide +kernel
theorem dL_law_969 : decode cL_law 969 = .ok (.iload_n 3, 1) := by decide +kernel
theorem dL_law_970 : decode cL_law 970 = .ok (.iconst 1, 1) := by decide +kernel
theorem dL_law_971 : decode cL_law 971 = .ok (.iadd, 1) := by decide +kernel
theorem dL_law_972 : decode cL_law 972 = .ok (.iaload, 1) := by decide +kernel
theorem dL_law_973 : decode cL_law 973 = .ok (.invokevirtual 130, 3) := by decide +kernel
theorem dL_law_976 : decode cL_law 976 = .ok (.aload_n 2, 1) := by decide +kernel
theorem dL_law_977 : decode cL_law 977 = .ok (.aload_n 0, 1) := by decide +kernel
theorem dL_law_978 : decode cL_law 978 = .ok (.iload_n 3, 1) := by decide +kernel
theorem dL_law_979 : decode cL_law 979 = .ok (.iconst 1, 1) := by decide +kernel
theorem dL_law_980 : decode cL_law 980 = .ok (.iadd, 1) := by decide +kernel
theorem dL_law_981 : decode cL_law 981 = .ok (.iaload, 1) := by decide +kernel
theorem dL_law_982 : decode cL_law 982 = .ok (.invokevirtual 133, 3) := by decide +kernel
theorem dL_law_985 : decode cL_law 985 = .ok (.if_icmp .eq 431, 3) := by decide +kernel
theorem dL_law_988 : decode cL_law 988 = .ok (.iconst 0, 1) := by decide +kernel
theorem dL_law_989 : decode cL_law 989 = .ok (.ireturn, 1) := by decide +kernel
theorem dL_law_990 : decode cL_law 990 = .ok (.aload_n 1, 1) := by decide +kernel
theorem dL_law_991 : decode cL_law 991 = .ok (.invokevirtual 134, 3) := by decide +kernel
theorem dL_law_994 : decode cL_law 994 = .ok (.aload_n 2, 1) := by decide +kernel
theorem dL_law_995 : decode cL_law 995 = .ok (.invokevirtual 137, 3) := by decide +kernel
theorem dL_law_998 : decode cL_law 998 = .ok (.if_icmp .eq 418, 3) := by decide +kernel
theorem dL_law_1001 : decode cL_law 1001 = .ok (.iconst 0, 1) := by decide +kernel
theorem dL_law_1002 : decode cL_law 1002 = .ok (.ireturn, 1) := by decide +kernel
theorem dL_law_1003 : decode cL_law 1003 = .ok (.aload_n 1, 1) := by decide +kernel
theorem dL_law_1004 : decode cL_law 1004 = .ok (.invokevirtual 138, 3) := by decide +kernel
theorem dL_law_1007 : decode cL_law 1007 = .ok (.aload_n 2, 1) := by decide +kernel
theorem dL_law_1008 : decode cL_law 1008 = .ok (.invokevirtual 141, 3) := by decide +kernel
theorem dL_law_1011 : decode cL_law 1011 = .ok (.if_icmp .eq 405, 3) := by decide +kernel
theorem dL_law_1014 : decode cL_law 1014 = .ok (.iconst 0, 1) := by decide +kernel
theorem dL_law_1015 : decode cL_law 1015 = .ok (.ireturn, 1) := by decide +kernel
theorem dL_law_1016 : decode cL_law 1016 = .ok (.aload_n 1, 1) := by decide +kernel
theorem dL_law_1017 : decode cL_law 1017 = .ok (.aload_n 0, 1) := by decide +kernel
theorem dL_law_1018 : decode cL_law 1018 = .ok (.iload_n 3, 1) := by decide +kernel
theorem dL_law_1019 : decode cL_law 1019 = .ok (.iconst 1, 1) := by decide +kernel
theorem dL_law_1020 : decode cL_law 1020 = .ok (.iadd, 1) := by decide +kernel
theorem dL_law_1021 : decode cL_law 1021 = .ok (.iaload, 1) := by decide +kernel
theorem dL_law_1022 : decode cL_law 1022 = .ok (.aload_n 0, 1) := by decide +kernel
theorem dL_law_1023 : decode cL_law 1023 = .ok (.iload_n 3, 1) := by decide +kernel
theorem dL_law_1024 : decode cL_law 1024 = .ok (.iconst 2, 1) := by decide +kernel
theorem dL_law_1025 : decode cL_law 1025 = .ok (.iadd, 1) := by decide +kernel
theorem dL_law_1026 : decode cL_law 1026 = .ok (.iaload, 1) := by decide +kernel
theorem dL_law_1027 : decode cL_law 1027 = .ok (.invokevirtual 142, 3) := by decide +kernel
theorem dL_law_1030 : decode cL_law 1030 = .ok (.aload_n 2, 1) := by decide +kernel
theorem dL_law_1031 : decode cL_law 1031 = .ok (.aload_n 0, 1) := by decide +kernel
theorem dL_law_1032 : decode cL_law 1032 = .ok (.iload_n 3, 1) := by decide +kernel
theorem dL_law_1033 : decode cL_law 1033 = .ok (.iconst 1, 1) := by decide +kernel
theorem dL_law_1034 : decode cL_law 1034 = .ok (.iadd, 1) := by decide +kernel
theorem dL_law_1035 : decode cL_law 1035 = .ok (.iaload, 1) := by decide +kernel
theorem dL_law_1036 : decode cL_law 1036 = .ok (.aload_n 0, 1) := by decide +kernel
theorem dL_law_1037 : decode cL_law 1037 = .ok (.iload_n 3, 1) := by decide +kernel
theorem dL_law_1038 : decode cL_law 1038 = .ok (.iconst 2, 1) := by decide +kernel
theorem dL_law_1039 : decode cL_law 1039 = .ok (.iadd, 1) := by decide +kernel
theorem dL_law_1040 : decode cL_law 1040 = .ok (.iaload, 1) := by decide +kernel
theorem dL_law_1041 : decode cL_law 1041 = .ok (.invokevirtual 145, 3) := by decide +kernel
theorem dL_law_1044 : decode cL_law 1044 = .ok (.if_icmp .eq 372, 3) := by decide +kernel
theorem dL_law_1047 : decode cL_law 1047 = .ok (.iconst 0, 1) := by decide +kernel
theorem dL_law_1048 : decode cL_law 1048 = .ok (.ireturn, 1) := by decide +kernel
theorem dL_law_1049 : decode cL_law 1049 = .ok (.aload_n 1, 1) := by decide +kernel
theorem dL_law_1050 : decode cL_law 1050 = .ok (.invokevirtual 146, 3) := by decide +kernel
theorem dL_law_1053 : decode cL_law 1053 = .ok (.aload_n 2, 1) := by decide +kernel
theorem dL_law_1054 : decode cL_law 1054 = .ok (.invokevirtual 149, 3) := by decide +kernel
theorem dL_law_1057 : decode cL_law 1057 = .ok (.if_icmp .eq 359, 3) := by decide +kernel
theorem dL_law_1060 : decode cL_law 1060 = .ok (.iconst 0, 1) := by decide +kernel
theorem dL_law_1061 : decode cL_law 1061 = .ok (.ireturn, 1) := by decide +kernel
theorem dL_law_1062 : decode cL_law 1062 = .ok (.aload_n 1, 1) := by decide +kernel
theorem dL_law_1063 : decode cL_law 1063 = .ok (.invokevirtual 150, 3) := by decide +kernel
theorem dL_law_1066 : decode cL_law 1066 = .ok (.aload_n 2, 1) := by decide +kernel
theorem dL_law_1067 : decode cL_law 1067 = .ok (.invokevirtual 153, 3) := by decide +kernel
theorem dL_law_1070 : decode cL_law 1070 = .ok (.if_icmp .eq 346, 3) := by decide +kernel
theorem dL_law_1073 : decode cL_law 1073 = .ok (.iconst 0, 1) := by decide +kernel
theorem dL_law_1074 : decode cL_law 1074 = .ok (.ireturn, 1) := by decide +kernel
theorem dL_law_1075 : decode cL_law 1075 = .ok (.aload_n 1, 1) := by decide +kernel
theorem dL_law_1076 : decode cL_law 1076 = .ok (.aload_n 0, 1) := by decide +kernel
theorem dL_law_1077 : decode cL_law 1077 = .ok (.iload_n 3, 1) := by decide +kernel
theorem dL_law_1078 : decode cL_law 1078 = .ok (.iconst 1, 1) := by decide +kernel
theorem dL_law_1079 : decode cL_law 1079 = .ok (.iadd, 1) := by decide +kernel
theorem dL_law_1080 : decode cL_law 1080 = .ok (.iaload, 1) := by decide +kernel
theorem dL_law_1081 : decode cL_law 1081 = .ok (.invokevirtual 154, 3) := by decide +kernel
theorem dL_law_1084 : decode cL_law 1084 = .ok (.aload_n 2, 1) := by decide +kernel
theorem dL_law_1085 : decode cL_law 1085 = .ok (.aload_n 0, 1) := by decide +kernel
theorem dL_law_1086 : decode cL_law 1086 = .ok (.iload_n 3, 1) := by decide +kernel
theorem dL_law_1087 : decode cL_law 1087 = .ok (.iconst 1, 1) := by decide +kernel
theorem dL_law_1088 : decode cL_law 1088 = .ok (.iadd, 1) := by decide +kernel
theorem dL_law_1089 : decode cL_law 1089 = .ok (.iaload, 1) := by decide +kernel
theorem dL_law_1090 : decode cL_law 1090 = .ok (.invokevirtual 157, 3) := by decide +kernel
theorem dL_law_1093 : decode cL_law 1093 = .ok (.if_icmp .eq 323, 3) := by decide +kernel
theorem dL_law_1096 : decode cL_law 1096 = .ok (.iconst 0, 1) := by decide +kernel
theorem dL_law_1097 : decode cL_law 1097 = .ok (.ireturn, 1) := by decide +kernel
theorem dL_law_1098 : decode cL_law 1098 = .ok (.aload_n 1, 1) := by decide +kernel
theorem dL_law_1099 : decode cL_law 1099 = .ok (.invokevirtual 158, 3) := by decide +kernel
theorem dL_law_1102 : decode cL_law 1102 = .ok (.aload_n 2, 1) := by decide +kernel
theorem dL_law_1103 : decode cL_law 1103 = .ok (.invokevirtual 161, 3) := by decide +kernel
theorem dL_law_1106 : decode cL_law 1106 = .ok (.if_icmp .eq 310, 3) := by decide +kernel
theorem dL_law_1109 : decode cL_law 1109 = .ok (.iconst 0, 1) := by decide +kernel
theorem dL_law_1110 : decode cL_law 1110 = .ok (.ireturn, 1) := by decide +kernel
theorem dL_law_1111 : decode cL_law 1111 = .ok (.aload_n 1, 1) := by decide +kernel
theorem dL_law_1112 : decode cL_law 1112 = .ok (.invokevirtual 162, 3) := by decide +kernel
theorem dL_law_1115 : decode cL_law 1115 = .ok (.aload_n 2, 1) := by decide +kernel
theorem dL_law_1116 : decode cL_law 1116 = .ok (.invokevirtual 165, 3) := by decide +kernel
theorem dL_law_1119 : decode cL_law 1119 = .ok (.if_icmp .eq 297, 3) := by decide +kernel
theorem dL_law_1122 : decode cL_law 1122 = .ok (.iconst 0, 1) := by decide +kernel
theorem dL_law_1123 : decode cL_law 1123 = .ok (.ireturn, 1) := by decide +kernel
theorem dL_law_1124 : decode cL_law 1124 = .ok (.aload_n 1, 1) := by decide +kernel
theorem dL_law_1125 : decode cL_law 1125 = .ok (.aload_n 0, 1) := by decide +kernel
theorem dL_law_1126 : decode cL_law 1126 = .ok (.iload_n 3, 1) := by decide +kernel
theorem dL_law_1127 : decode cL_law 1127 = .ok (.iconst 1, 1) := by decide +kernel
theorem dL_law_1128 : decode cL_law 1128 = .ok (.iadd, 1) := by decide +kernel
theorem dL_law_1129 : decode cL_law 1129 = .ok (.iaload, 1) := by decide +kernel
theorem dL_law_1130 : decode cL_law 1130 = .ok (.aload_n 0, 1) := by decide +kernel
theorem dL_law_1131 : decode cL_law 1131 = .ok (.iload_n 3, 1) := by decide +kernel
theorem dL_law_1132 : decode cL_law 1132 = .ok (.iconst 2, 1) := by decide +kernel
theorem dL_law_1133 : decode cL_law 1133 = .ok (.iadd, 1) := by decide +kernel
theorem dL_law_1134 : decode cL_law 1134 = .ok (.iaload, 1) := by decide +kernel
theorem dL_law_1135 : decode cL_law 1135 = .ok (.invokevirtual 166, 3) := by decide +kernel
theorem dL_law_1138 : decode cL_law 1138 = .ok (.aload_n 2, 1) := by decide +kernel
theorem dL_law_1139 : decode cL_law 1139 = .ok (.aload_n 0, 1) := by decide +kernel
theorem dL_law_1140 : decode cL_law 1140 = .ok (.iload_n 3, 1) := by decide +kernel
theorem dL_law_1141 : decode cL_law 1141 = .ok (.iconst 1, 1) := by decide +kernel
theorem dL_law_1142 : decode cL_law 1142 = .ok (.iadd, 1) := by decide +kernel
theorem dL_law_1143 : decode cL_law 1143 = .ok (.iaload, 1) := by decide +kernel
theorem dL_law_1144 : decode cL_law 1144 = .ok (.aload_n 0, 1) := by decide +kernel
theorem dL_law_1145 : decode cL_law 1145 = .ok (.iload_n 3, 1) := by decide +kernel
theorem dL_law_1146 : decode cL_law 1146 = .ok (.iconst 2, 1) := by decide +kernel
theorem dL_law_1147 : decode cL_law 1147 = .ok (.iadd, 1) := by decide +kernel
theorem dL_law_1148 : decode cL_law 1148 = .ok (.iaload, 1) := by decide +kernel
theorem dL_law_1149 : decode cL_law 1149 = .ok (.invokevirtual 169, 3) := by decide +kernel
theorem dL_law_1152 : decode cL_law 1152 = .ok (.if_icmp .eq 264, 3) := by decide +kernel
theorem dL_law_1155 : decode cL_law 1155 = .ok (.iconst 0, 1) := by decide +kernel
theorem dL_law_1156 : decode cL_law 1156 = .ok (.ireturn, 1) := by decide +kernel
theorem dL_law_1157 : decode cL_law 1157 = .ok (.aload_n 1, 1) := by decide +kernel
theorem dL_law_1158 : decode cL_law 1158 = .ok (.aload_n 0, 1) := by decide +kernel
theorem dL_law_1159 : decode cL_law 1159 = .ok (.iload_n 3, 1) := by decide +kernel
theorem dL_law_1160 : decode cL_law 1160 = .ok (.iconst 1, 1) := by decide +kernel
theorem dL_law_1161 : decode cL_law 1161 = .ok (.iadd, 1) := by decide +kernel
theorem dL_law_1162 : decode cL_law 1162 = .ok (.iaload, 1) := by decide +kernel
theorem dL_law_1163 : decode cL_law 1163 = .ok (.aload_n 0, 1) := by decide +kernel
theorem dL_law_1164 : decode cL_law 1164 = .ok (.iload_n 3, 1) := by decide +kernel
theorem dL_law_1165 : decode cL_law 1165 = .ok (.iconst 2, 1) := by decide +kernel
theorem dL_law_1166 : decode cL_law 1166 = .ok (.iadd, 1) := by decide +kernel
theorem dL_law_1167 : decode cL_law 1167 = .ok (.iaload, 1) := by decide +kernel
theorem dL_law_1168 : decode cL_law 1168 = .ok (.invokevirtual 170, 3) := by decide +kernel
theorem dL_law_1171 : decode cL_law 1171 = .ok (.aload_n 2, 1) := by decide +kernel
theorem dL_law_1172 : decode cL_law 1172 = .ok (.aload_n 0, 1) := by decide +kernel
theorem dL_law_1173 : decode cL_law 1173 = .ok (.iload_n 3, 1) := by decide +kernel
theorem dL_law_1174 : decode cL_law 1174 = .ok (.iconst 1, 1) := by decide +kernel
theorem dL_law_1175 : decode cL_law 1175 = .ok (.iadd, 1) := by decide +kernel
theorem dL_law_1176 : decode cL_law 1176 = .ok (.iaload, 1) := by decide +kernel
theorem dL_law_1177 : decode cL_law 1177 = .ok (.aload_n 0, 1) := by decide +kernel
theorem dL_law_1178 : decode cL_law 1178 = .ok (.iload_n 3, 1) := by decide +kernel
theorem dL_law_1179 : decode cL_law 1179 = .ok (.iconst 2, 1) := by decide +kernel
theorem dL_law_1180 : decode cL_law 1180 = .ok (.iadd, 1) := by decide +kernel
theorem dL_law_1181 : decode cL_law 1181 = .ok (.iaload, 1) := by decide +kernel
theorem dL_law_1182 : decode cL_law 1182 = .ok (.invokevirtual 173, 3) := by decide +kernel
theorem dL_law_1185 : decode cL_law 1185 = .ok (.if_icmp .eq 231, 3) := by decide +kernel
theorem dL_law_1188 : decode cL_law 1188 = .ok (.iconst 0, 1) := by decide +kernel
theorem dL_law_1189 : decode cL_law 1189 = .ok (.ireturn, 1) := by decide +kernel
theorem dL_law_1190 : decode cL_law 1190 = .ok (.aload_n 1, 1) := by decide +kernel
theorem dL_law_1191 : decode cL_law 1191 = .ok (.aload_n 0, 1) := by decide +kernel
theorem dL_law_1192 : decode cL_law 1192 = .ok (.iload_n 3, 1) := by decide +kernel
theorem dL_law_1193 : decode cL_law 1193 = .ok (.iconst 1, 1) := by decide +kernel
theorem dL_law_1194 : decode cL_law 1194 = .ok (.iadd, 1) := by decide +kernel
theorem dL_law_1195 : decode cL_law 1195 = .ok (.iaload, 1) := by decide +kernel
theorem dL_law_1196 : decode cL_law 1196 = .ok (.invokevirtual 174, 3) := by decide +kernel
theorem dL_law_1199 : decode cL_law 1199 = .ok (.aload_n 2, 1) := by decide +kernel
theorem dL_law_1200 : decode cL_law 1200 = .ok (.aload_n 0, 1) := by decide +kernel
theorem dL_law_1201 : decode cL_law 1201 = .ok (.iload_n 3, 1) := by decide +kernel
theorem dL_law_1202 : decode cL_law 1202 = .ok (.iconst 1, 1) := by decide +kernel
theorem dL_law_1203 : decode cL_law 1203 = .ok (.iadd, 1) := by decide +kernel
theorem dL_law_1204 : decode cL_law 1204 = .ok (.iaload, 1) := by decide +kernel
theorem dL_law_1205 : decode cL_law 1205 = .ok (.invokevirtual 177, 3) := by decide +kernel
theorem dL_law_1208 : decode cL_law 1208 = .ok (.if_icmp .eq 208, 3) := by decide +kernel
theorem dL_law_1211 : decode cL_law 1211 = .ok (.iconst 0, 1) := by decide +kernel
theorem dL_law_1212 : decode cL_law 1212 = .ok (.ireturn, 1) := by decide +kernel
theorem dL_law_1213 : decode cL_law 1213 = .ok (.aload_n 1, 1) := by decide +kernel
theorem dL_law_1214 : decode cL_law 1214 = .ok (.aload_n 0, 1) := by decide +kernel
theorem dL_law_1215 : decode cL_law 1215 = .ok (.iload_n 3, 1) := by decide +kernel
theorem dL_law_1216 : decode cL_law 1216 = .ok (.iconst 1, 1) := by decide +kernel
theorem dL_law_1217 : decode cL_law 1217 = .ok (.iadd, 1) := by decide +kernel
theorem dL_law_1218 : decode cL_law 1218 = .ok (.iaload, 1) := by decide +kernel
theorem dL_law_1219 : decode cL_law 1219 = .ok (.invokevirtual 178, 3) := by decide +kernel
theorem dL_law_1222 : decode cL_law 1222 = .ok (.aload_n 2, 1) := by decide +kernel
theorem dL_law_1223 : decode cL_law 1223 = .ok (.aload_n 0, 1) := by decide +kernel
theorem dL_law_1224 : decode cL_law 1224 = .ok (.iload_n 3, 1) := by decide +kernel
theorem dL_law_1225 : decode cL_law 1225 = .ok (.iconst 1, 1) := by decide +kernel
theorem dL_law_1226 : decode cL_law 1226 = .ok (.iadd, 1) := by decide +kernel
theorem dL_law_1227 : decode cL_law 1227 = .ok (.iaload, 1) := by decide +kernel
theorem dL_law_1228 : decode cL_law 1228 = .ok (.invokevirtual 181, 3) := by decide +kernel
theorem dL_law_1231 : decode cL_law 1231 = .ok (.if_icmp .eq 185, 3) := by decide +kernel
theorem dL_law_1234 : decode cL_law 1234 = .ok (.iconst 0, 1) := by decide +kernel
theorem dL_law_1235 : decode cL_law 1235 = .ok (.ireturn, 1) := by decide +kernel
theorem dL_law_1236 : decode cL_law 1236 = .ok (.aload_n 1, 1) := by decide +kernel
theorem dL_law_1237 : decode cL_law 1237 = .ok (.invokevirtual 182, 3) := by decide +kernel
theorem dL_law_1240 : decode cL_law 1240 = .ok (.aload_n 2, 1) := by decide +kernel
theorem dL_law_1241 : decode cL_law 1241 = .ok (.invokevirtual 185, 3) := by decide +kernel
theorem dL_law_1244 : decode cL_law 1244 = .ok (.if_icmp .eq 172, 3) := by decide +kernel
theorem dL_law_1247 : decode cL_law 1247 = .ok (.iconst 0, 1) := by decide +kernel
theorem dL_law_1248 : decode cL_law 1248 = .ok (.ireturn, 1) := by decide +kernel
theorem dL_law_1249 : decode cL_law 1249 = .ok (.aload_n 1, 1) := by decide +kernel
theorem dL_law_1250 : decode cL_law 1250 = .ok (.invokevirtual 186, 3) := by decide +kernel
theorem dL_law_1253 : decode cL_law 1253 = .ok (.aload_n 2, 1) := by decide +kernel
theorem dL_law_1254 : decode cL_law 1254 = .ok (.invokevirtual 189, 3) := by decide +kernel
theorem dL_law_1257 : decode cL_law 1257 = .ok (.if_icmp .eq 159, 3) := by decide +kernel
theorem dL_law_1260 : decode cL_law 1260 = .ok (.iconst 0, 1) := by decide +kernel
theorem dL_law_1261 : decode cL_law 1261 = .ok (.ireturn, 1) := by decide +kernel
theorem dL_law_1262 : decode cL_law 1262 = .ok (.aload_n 1, 1) := by decide +kernel
theorem dL_law_1263 : decode cL_law 1263 = .ok (.invokevirtual 190, 3) := by decide +kernel
theorem dL_law_1266 : decode cL_law 1266 = .ok (.aload_n 2, 1) := by decide +kernel
theorem dL_law_1267 : decode cL_law 1267 = .ok (.invokevirtual 193, 3) := by decide +kernel
theorem dL_law_1270 : decode cL_law 1270 = .ok (.if_icmp .eq 146, 3) := by decide +kernel
theorem dL_law_1273 : decode cL_law 1273 = .ok (.iconst 0, 1) := by decide +kernel
theorem dL_law_1274 : decode cL_law 1274 = .ok (.ireturn, 1) := by decide +kernel
theorem dL_law_1275 : decode cL_law 1275 = .ok (.aload_n 1, 1) := by decide +kernel
theorem dL_law_1276 : decode cL_law 1276 = .ok (.aload_n 0, 1) := by decide +kernel
theorem dL_law_1277 : decode cL_law 1277 = .ok (.iload_n 3, 1) := by decide +kernel
theorem dL_law_1278 : decode cL_law 1278 = .ok (.iconst 1, 1) := by decide +kernel
theorem dL_law_1279 : decode cL_law 1279 = .ok (.iadd, 1) := by decide +kernel
theorem dL_law_1280 : decode cL_law 1280 = .ok (.iaload, 1) := by decide +kernel
theorem dL_law_1281 : decode cL_law 1281 = .ok (.invokevirtual 194, 3) := by decide +kernel
theorem dL_law_1284 : decode cL_law 1284 = .ok (.aload_n 2, 1) := by decide +kernel
theorem dL_law_1285 : decode cL_law 1285 = .ok (.aload_n 0, 1) := by decide +kernel
theorem dL_law_1286 : decode cL_law 1286 = .ok (.iload_n 3, 1) := by decide +kernel
theorem dL_law_1287 : decode cL_law 1287 = .ok (.iconst 1, 1) := by decide +kernel
theorem dL_law_1288 : decode cL_law 1288 = .ok (.iadd, 1) := by decide +kernel
theorem dL_law_1289 : decode cL_law 1289 = .ok (.iaload, 1) := by decide +kernel
theorem dL_law_1290 : decode cL_law 1290 = .ok (.invokevirtual 197, 3) := by decide +kernel
theorem dL_law_1293 : decode cL_law 1293 = .ok (.if_icmp .eq 123, 3) := by decide +kernel
theorem dL_law_1296 : decode cL_law 1296 = .ok (.iconst 0, 1) := by decide +kernel
theorem dL_law_1297 : decode cL_law 1297 = .ok (.ireturn, 1) := by decide +kernel
theorem dL_law_1298 : decode cL_law 1298 = .ok (.aload_n 1, 1) := by decide +kernel
theorem dL_law_1299 : decode cL_law 1299 = .ok (.invokevirtual 198, 3) := by decide +kernel
theorem dL_law_1302 : decode cL_law 1302 = .ok (.aload_n 2, 1) := by decide +kernel
theorem dL_law_1303 : decode cL_law 1303 = .ok (.invokevirtual 201, 3) := by decide +kernel
theorem dL_law_1306 : decode cL_law 1306 = .ok (.if_icmp .eq 110, 3) := by decide +kernel
theorem dL_law_1309 : decode cL_law 1309 = .ok (.iconst 0, 1) := by decide +kernel
theorem dL_law_1310 : decode cL_law 1310 = .ok (.ireturn, 1) := by decide +kernel
theorem dL_law_1311 : decode cL_law 1311 = .ok (.aload_n 1, 1) := by decide +kernel
theorem dL_law_1312 : decode cL_law 1312 = .ok (.invokevirtual 202, 3) := by decide +kernel
theorem dL_law_1315 : decode cL_law 1315 = .ok (.aload_n 2, 1) := by decide +kernel
theorem dL_law_1316 : decode cL_law 1316 = .ok (.invokevirtual 205, 3) := by decide +kernel
theorem dL_law_1319 : decode cL_law 1319 = .ok (.if_icmp .eq 97, 3) := by decide +kernel
theorem dL_law_1322 : decode cL_law 1322 = .ok (.iconst 0, 1) := by decide +kernel
theorem dL_law_1323 : decode cL_law 1323 = .ok (.ireturn, 1) := by decide +kernel
theorem dL_law_1324 : decode cL_law 1324 = .ok (.aload_n 1, 1) := by decide +kernel
theorem dL_law_1325 : decode cL_law 1325 = .ok (.aload_n 0, 1) := by decide +kernel
theorem dL_law_1326 : decode cL_law 1326 = .ok (.iload_n 3, 1) := by decide +kernel
theorem dL_law_1327 : decode cL_law 1327 = .ok (.iconst 1, 1) := by decide +kernel
theorem dL_law_1328 : decode cL_law 1328 = .ok (.iadd, 1) := by decide +kernel
theorem dL_law_1329 : decode cL_law 1329 = .ok (.iaload, 1) := by decide +kernel
theorem dL_law_1330 : decode cL_law 1330 = .ok (.aload_n 0, 1) := by decide +kernel
theorem dL_law_1331 : decode cL_law 1331 = .ok (.iload_n 3, 1) := by decide +kernel
theorem dL_law_1332 : decode cL_law 1332 = .ok (.iconst 2, 1) := by decide +kernel
theorem dL_law_1333 : decode cL_law 1333 = .ok (.iadd, 1) := by decide +kernel
theorem dL_law_1334 : decode cL_law 1334 = .ok (.iaload, 1) := by decide +kernel
theorem dL_law_1335 : decode cL_law 1335 = .ok (.aload_n 0, 1) := by decide +kernel
theorem dL_law_1336 : decode cL_law 1336 = .ok (.iload_n 3, 1) := by decide +kernel
theorem dL_law_1337 : decode cL_law 1337 = .ok (.iconst 3, 1) := by decide +kernel
theorem dL_law_1338 : decode cL_law 1338 = .ok (.iadd, 1) := by decide +kernel
theorem dL_law_1339 : decode cL_law 1339 = .ok (.iaload, 1) := by decide +kernel
theorem dL_law_1340 : decode cL_law 1340 = .ok (.invokevirtual 206, 3) := by decide +kernel
theorem dL_law_1343 : decode cL_law 1343 = .ok (.aload_n 2, 1) := by decide +kernel
theorem dL_law_1344 : decode cL_law 1344 = .ok (.aload_n 0, 1) := by decide +kernel
theorem dL_law_1345 : decode cL_law 1345 = .ok (.iload_n 3, 1) := by decide +kernel
theorem dL_law_1346 : decode cL_law 1346 = .ok (.iconst 1, 1) := by decide +kernel
theorem dL_law_1347 : decode cL_law 1347 = .ok (.iadd, 1) := by decide +kernel
theorem dL_law_1348 : decode cL_law 1348 = .ok (.iaload, 1) := by decide +kernel
theorem dL_law_1349 : decode cL_law 1349 = .ok (.aload_n 0, 1) := by decide +kernel
theorem dL_law_1350 : decode cL_law 1350 = .ok (.iload_n 3, 1) := by decide +kernel
theorem dL_law_1351 : decode cL_law 1351 = .ok (.iconst 2, 1) := by decide +kernel
theorem dL_law_1352 : decode cL_law 1352 = .ok (.iadd, 1) := by decide +kernel
theorem dL_law_1353 : decode cL_law 1353 = .ok (.iaload, 1) := by decide +kernel
theorem dL_law_1354 : decode cL_law 1354 = .ok (.aload_n 0, 1) := by decide +kernel
theorem dL_law_1355 : decode cL_law 1355 = .ok (.iload_n 3, 1) := by decide +kernel
theorem dL_law_1356 : decode cL_law 1356 = .ok (.iconst 3, 1) := by decide +kernel
theorem dL_law_1357 : decode cL_law 1357 = .ok (.iadd, 1) := by decide +kernel
theorem dL_law_1358 : decode cL_law 1358 = .ok (.iaload, 1) := by decide +kernel
theorem dL_law_1359 : decode cL_law 1359 = .ok (.invokevirtual 209, 3) := by decide +kernel
theorem dL_law_1362 : decode cL_law 1362 = .ok (.if_icmp .eq 54, 3) := by decide +kernel
theorem dL_law_1365 : decode cL_law 1365 = .ok (.iconst 0, 1) := by decide +kernel
theorem dL_law_1366 : decode cL_law 1366 = .ok (.ireturn, 1) := by decide +kernel
theorem dL_law_1367 : decode cL_law 1367 = .ok (.aload_n 1, 1) := by decide +kernel
theorem dL_law_1368 : decode cL_law 1368 = .ok (.invokevirtual 210, 3) := by decide +kernel
theorem dL_law_1371 : decode cL_law 1371 = .ok (.aload_n 2, 1) := by decide +kernel
theorem dL_law_1372 : decode cL_law 1372 = .ok (.invokevirtual 213, 3) := by decide +kernel
theorem dL_law_1375 : decode cL_law 1375 = .ok (.if_icmp .eq 41, 3) := by decide +kernel
theorem dL_law_1378 : decode cL_law 1378 = .ok (.iconst 0, 1) := by decide +kernel
theorem dL_law_1379 : decode cL_law 1379 = .ok (.ireturn, 1) := by decide +kernel
theorem dL_law_1380 : decode cL_law 1380 = .ok (.aload_n 1, 1) := by decide +kernel
theorem dL_law_1381 : decode cL_law 1381 = .ok (.invokevirtual 214, 3) := by decide +kernel
theorem dL_law_1384 : decode cL_law 1384 = .ok (.aload_n 2, 1) := by decide +kernel
theorem dL_law_1385 : decode cL_law 1385 = .ok (.invokevirtual 217, 3) := by decide +kernel
theorem dL_law_1388 : decode cL_law 1388 = .ok (.if_icmp .eq 28, 3) := by decide +kernel
theorem dL_law_1391 : decode cL_law 1391 = .ok (.iconst 0, 1) := by decide +kernel
theorem dL_law_1392 : decode cL_law 1392 = .ok (.ireturn, 1) := by decide +kernel
theorem dL_law_1393 : decode cL_law 1393 = .ok (.aload_n 1, 1) := by decide +kernel
theorem dL_law_1394 : decode cL_law 1394 = .ok (.aload_n 0, 1) := by decide +kernel
theorem dL_law_1395 : decode cL_law 1395 = .ok (.iload_n 3, 1) := by decide +kernel
theorem dL_law_1396 : decode cL_law 1396 = .ok (.iconst 1, 1) := by decide +kernel
theorem dL_law_1397 : decode cL_law 1397 = .ok (.iadd, 1) := by decide +kernel
theorem dL_law_1398 : decode cL_law 1398 = .ok (.iaload, 1) := by decide +kernel
theorem dL_law_1399 : decode cL_law 1399 = .ok (.invokevirtual 218, 3) := by decide +kernel
theorem dL_law_1402 : decode cL_law 1402 = .ok (.aload_n 2, 1) := by decide +kernel
theorem dL_law_1403 : decode cL_law 1403 = .ok (.aload_n 0, 1) := by decide +kernel
theorem dL_law_1404 : decode cL_law 1404 = .ok (.iload_n 3, 1) := by decide +kernel
theorem dL_law_1405 : decode cL_law 1405 = .ok (.iconst 1, 1) := by decide +kernel
theorem dL_law_1406 : decode cL_law 1406 = .ok (.iadd, 1) := by decide +kernel
theorem dL_law_1407 : decode cL_law 1407 = .ok (.iaload, 1) := by decide +kernel
theorem dL_law_1408 : decode cL_law 1408 = .ok (.invokevirtual 221, 3) := by decide +kernel
theorem dL_law_1411 : decode cL_law 1411 = .ok (.if_icmp .eq 5, 3) := by decide +kernel
theorem dL_law_1414 : decode cL_law 1414 = .ok (.iconst 0, 1) := by decide +kernel
theorem dL_law_1415 : decode cL_law 1415 = .ok (.ireturn, 1) := by decide +kernel
theorem dL_law_1416 : decode cL_law 1416 = .ok (.iinc 3 4, 3) := by decide +kernel
theorem dL_law_1419 : decode cL_law 1419 = .ok (.goto (-1401), 3) := by decide +kernel
theorem dL_law_1422 : decode cL_law 1422 = .ok (.iconst 1, 1) := by decide +kernel
theorem dL_law_1423 : decode cL_law 1423 = .ok (.ireturn, 1) := by decide +kernel
