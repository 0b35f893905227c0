theorem dX8_lastBy_34 : decode cX8_lastBy 34 = .ok (.iconst 2, 1) := by decide +kernel
theorem dX8_lastBy_35 : decode cX8_lastBy 35 = .ok (.aload_n 0, 1) := by decide +kernel
theorem dX8_lastBy_36 : decode cX8_lastBy 36 = .ok (.getfield 19, 3) := by decide +kernel
theorem dX8_lastBy_39 : decode cX8_lastBy 39 = .ok (.imul, 1) := by decide +kernel
theorem dX8_lastBy_40 : decode cX8_lastBy 40 = .ok (.if_icmp .ge 55, 3) := by decide +kernel
theorem dX8_lastBy_43 : decode cX8_lastBy 43 = .ok (.aload_n 0, 1) := by decide +kernel
theorem dX8_lastBy_44 : decode cX8_lastBy 44 = .ok (.iload_n 1, 1) := by decide +kernel
theorem dX8_lastBy_45 : decode cX8_lastBy 45 = .ok (.invokevirtual 288, 3) := by decide +kernel
theorem dX8_lastBy_48 : decode cX8_lastBy 48 = .ok (.istore_n 3, 1) := by decide +kernel
theorem dX8_lastBy_49 : decode cX8_lastBy 49 = .ok (.iload_n 1, 1) := by decide +kernel
theorem dX8_lastBy_50 : decode cX8_lastBy 50 = .ok (.iconst 2, 1) := by decide +kernel
theorem dX8_lastBy_51 : decode cX8_lastBy 51 = .ok (.irem, 1) := by decide +kernel
theorem dX8_lastBy_52 : decode cX8_lastBy 52 = .ok (.iconst 1, 1) := by decide +kernel
theorem dX8_lastBy_53 : decode cX8_lastBy 53 = .ok (.if_icmp .ne 16, 3) := by decide +kernel
theorem dX8_lastBy_56 : decode cX8_lastBy 56 = .ok (.iload_n 3, 1) := by decide +kernel
theorem dX8_lastBy_57 : decode cX8_lastBy 57 = .ok (.iload_n 2, 1) := by decide +kernel
theorem dX8_lastBy_58 : decode cX8_lastBy 58 = .ok (.if_icmp .le 7, 3) := by decide +kernel
theorem dX8_lastBy_61 : decode cX8_lastBy 61 = .ok (.iload_n 3, 1) := by decide +kernel
theorem dX8_lastBy_62 : decode cX8_lastBy 62 = .ok (.goto 17, 3) := by decide +kernel
theorem dX8_lastBy_65 : decode cX8_lastBy 65 = .ok (.iload_n 2, 1) := by decide +kernel
theorem dX8_lastBy_66 : decode cX8_lastBy 66 = .ok (.goto 13, 3) := by decide +kernel
theorem dX8_lastBy_69 : decode cX8_lastBy 69 = .ok (.iload_n 3, 1) := by decide +kernel
theorem dX8_lastBy_70 : decode cX8_lastBy 70 = .ok (.iload_n 2, 1) := by decide +kernel
theorem dX8_lastBy_71 : decode cX8_lastBy 71 = .ok (.if_icmp .ge 7, 3) := by decide +kernel
theorem dX8_lastBy_74 : decode cX8_lastBy 74 = .ok (.iload_n 3, 1) := by decide +kernel
theorem dX8_lastBy_75 : decode cX8_lastBy 75 = .ok (.goto 4, 3) := by decide +kernel
theorem dX8_lastBy_78 : decode cX8_lastBy 78 = .ok (.iload_n 2, 1) := by decide +kernel
theorem dX8_lastBy_79 : decode cX8_lastBy 79 = .ok (.istore_n 2, 1) := by decide +kernel
theorem dX8_lastBy_80 : decode cX8_lastBy 80 = .ok (.aload_n 0, 1) := by decide +kernel
theorem dX8_lastBy_81 : decode cX8_lastBy 81 = .ok (.getfield 84, 3) := by decide +kernel
theorem dX8_lastBy_84 : decode cX8_lastBy 84 = .ok (.iload_n 1, 1) := by decide +kernel
theorem dX8_lastBy_85 : decode cX8_lastBy 85 = .ok (.iconst 1, 1) := by decide +kernel
theorem dX8_lastBy_86 : decode cX8_lastBy 86 = .ok (.isub, 1) := by decide +kernel
theorem dX8_lastBy_87 : decode cX8_lastBy 87 = .ok (.dup2, 1) := by decide +kernel
theorem dX8_lastBy_88 : decode cX8_lastBy 88 = .ok (.iaload, 1) := by decide +kernel
theorem dX8_lastBy_89 : decode cX8_lastBy 89 = .ok (.iconst 1, 1) := by decide +kernel
theorem dX8_lastBy_90 : decode cX8_lastBy 90 = .ok (.iadd, 1) := by decide +kernel
theorem dX8_lastBy_91 : decode cX8_lastBy 91 = .ok (.iastore, 1) := by decide +kernel
theorem dX8_lastBy_92 : decode cX8_lastBy 92 = .ok (.goto (-66), 3) := by decide +kernel
theorem dX8_lastBy_95 : decode cX8_lastBy 95 = .ok (.iload_n 2, 1) := by decide +kernel
theorem dX8_lastBy_96 : decode cX8_lastBy 96 = .ok (.ireturn, 1) := by decide +kernel
theorem dX8_afterOne_0 : decode cX8_afterOne 0 = .ok (.aload_n 0, 1) := by decide +kernel
theorem dX8_afterOne_1 : decode cX8_afterOne 1 = .ok (.iconst 2, 1) := by decide +kernel
theorem dX8_afterOne_2 : decode cX8_afterOne 2 = .ok (.invokevirtual 291, 3) := by decide +kernel
theorem dX8_afterOne_5 : decode cX8_afterOne 5 = .ok (.ireturn, 1) := by decide +kernel
theorem dX8_afterTwo_0 : decode cX8_afterTwo 0 = .ok (.sipush (-999), 3) := by decide +kernel
theorem dX8_afterTwo_3 : decode cX8_afterTwo 3 = .ok (.istore_n 1, 1) := by decide +kernel
theorem dX8_afterTwo_4 : decode cX8_afterTwo 4 = .ok (.aload_n 0, 1) := by decide +kernel
theorem dX8_afterTwo_5 : decode cX8_afterTwo 5 = .ok (.getfield 84, 3) := by decide +kernel
theorem dX8_afterTwo_8 : decode cX8_afterTwo 8 = .ok (.iconst 2, 1) := by decide +kernel
theorem dX8_afterTwo_9 : decode cX8_afterTwo 9 = .ok (.iconst 0, 1) := by decide +kernel
theorem dX8_afterTwo_10 : decode cX8_afterTwo 10 = .ok (.iastore, 1) := by decide +kernel
theorem dX8_afterTwo_11 : decode cX8_afterTwo 11 = .ok (.aload_n 0, 1) := by decide +kernel
theorem dX8_afterTwo_12 : decode cX8_afterTwo 12 = .ok (.getfield 84, 3) := by decide +kernel
theorem dX8_afterTwo_15 : decode cX8_afterTwo 15 = .ok (.iconst 2, 1) := by decide +kernel
theorem dX8_afterTwo_16 : decode cX8_afterTwo 16 = .ok (.iaload, 1) := by decide +kernel
theorem dX8_afterTwo_17 : decode cX8_afterTwo 17 = .ok (.iconst 2, 1) := by decide +kernel
theorem dX8_afterTwo_18 : decode cX8_afterTwo 18 = .ok (.aload_n 0, 1) := by decide +kernel
theorem dX8_afterTwo_19 : decode cX8_afterTwo 19 = .ok (.getfield 19, 3) := by decide +kernel
theorem dX8_afterTwo_22 : decode cX8_afterTwo 22 = .ok (.imul, 1) := by decide +kernel
theorem dX8_afterTwo_23 : decode cX8_afterTwo 23 = .ok (.if_icmp .ge 33, 3) := by decide +kernel
theorem dX8_afterTwo_26 : decode cX8_afterTwo 26 = .ok (.aload_n 0, 1) := by decide +kernel
theorem dX8_afterTwo_27 : decode cX8_afterTwo 27 = .ok (.iconst 4, 1) := by decide +kernel
theorem dX8_afterTwo_28 : decode cX8_afterTwo 28 = .ok (.invokevirtual 291, 3) := by decide +kernel
theorem dX8_afterTwo_31 : decode cX8_afterTwo 31 = .ok (.istore_n 2, 1) := by decide +kernel
theorem dX8_afterTwo_32 : decode cX8_afterTwo 32 = .ok (.iload_n 2, 1) := by decide +kernel
theorem dX8_afterTwo_33 : decode cX8_afterTwo 33 = .ok (.iload_n 1, 1) := by decide +kernel
theorem dX8_afterTwo_34 : decode cX8_afterTwo 34 = .ok (.if_icmp .le 7, 3) := by decide +kernel
theorem dX8_afterTwo_37 : decode cX8_afterTwo 37 = .ok (.iload_n 2, 1) := by decide +kernel
theorem dX8_afterTwo_38 : decode cX8_afterTwo 38 = .ok (.goto 4, 3) := by decide +kernel
theorem dX8_afterTwo_41 : decode cX8_afterTwo 41 = .ok (.iload_n 1, 1) := by decide +kernel
theorem dX8_afterTwo_42 : decode cX8_afterTwo 42 = .ok (.istore_n 1, 1) := by decide +kernel
theorem dX8_afterTwo_43 : decode cX8_afterTwo 43 = .ok (.aload_n 0, 1) := by decide +kernel
theorem dX8_afterTwo_44 : decode cX8_afterTwo 44 = .ok (.getfield 84, 3) := by decide +kernel
theorem dX8_afterTwo_47 : decode cX8_afterTwo 47 = .ok (.iconst 2, 1) := by decide +kernel
theorem dX8_afterTwo_48 : decode cX8_afterTwo 48 = .ok (.dup2, 1) := by decide +kernel
theorem dX8_afterTwo_49 : decode cX8_afterTwo 49 = .ok (.iaload, 1) := by decide +kernel
theorem dX8_afterTwo_50 : decode cX8_afterTwo 50 = .ok (.iconst 1, 1) := by decide +kernel
theorem dX8_afterTwo_51 : decode cX8_afterTwo 51 = .ok (.iadd, 1) := by decide +kernel
theorem dX8_afterTwo_52 : decode cX8_afterTwo 52 = .ok (.iastore, 1) := by decide +kernel
theorem dX8_afterTwo_53 : decode cX8_afterTwo 53 = .ok (.goto (-42), 3) := by decide +kernel
theorem dX8_afterTwo_56 : decode cX8_afterTwo 56 = .ok (.iload_n 1, 1) := by decide +kernel
theorem dX8_afterTwo_57 : decode cX8_afterTwo 57 = .ok (.ireturn, 1) := by decide +kernel
theorem dX8_afterOneOfFour_0 : decode cX8_afterOneOfFour 0 = .ok (.sipush 999, 3) := by decide +kernel
theorem dX8_afterOneOfFour_3 : decode cX8_afterOneOfFour 3 = .ok (.istore_n 1, 1) := by decide +kernel
theorem dX8_afterOneOfFour_4 : decode cX8_afterOneOfFour 4 = .ok (.aload_n 0, 1) := by decide +kernel
theorem dX8_afterOneOfFour_5 : decode cX8_afterOneOfFour 5 = .ok (.getfield 84, 3) := by decide +kernel
theorem dX8_afterOneOfFour_8 : decode cX8_afterOneOfFour 8 = .ok (.iconst 1, 1) := by decide +kernel
theorem dX8_afterOneOfFour_9 : decode cX8_afterOneOfFour 9 = .ok (.iconst 0, 1) := by decide +kernel
theorem dX8_afterOneOfFour_10 : decode cX8_afterOneOfFour 10 = .ok (.iastore, 1) := by decide +kernel
theorem dX8_afterOneOfFour_11 : decode cX8_afterOneOfFour 11 = .ok (.aload_n 0, 1) := by decide +kernel
theorem dX8_afterOneOfFour_12 : decode cX8_afterOneOfFour 12 = .ok (.getfield 84, 3) := by decide +kernel
theorem dX8_afterOneOfFour_15 : decode cX8_afterOneOfFour 15 = .ok (.iconst 1, 1) := by decide +kernel
theorem dX8_afterOneOfFour_16 : decode cX8_afterOneOfFour 16 = .ok (.iaload, 1) := by decide +kernel
theorem dX8_afterOneOfFour_17 : decode cX8_afterOneOfFour 17 = .ok (.iconst 2, 1) := by decide +kernel
theorem dX8_afterOneOfFour_18 : decode cX8_afterOneOfFour 18 = .ok (.aload_n 0, 1) := by decide +kernel
theorem dX8_afterOneOfFour_19 : decode cX8_afterOneOfFour 19 = .ok (.getfield 19, 3) := by decide +kernel
theorem dX8_afterOneOfFour_22 : decode cX8_afterOneOfFour 22 = .ok (.imul, 1) := by decide +kernel
theorem dX8_afterOneOfFour_23 : decode cX8_afterOneOfFour 23 = .ok (.if_icmp .ge 32, 3) := by decide +kernel
theorem dX8_afterOneOfFour_26 : decode cX8_afterOneOfFour 26 = .ok (.aload_n 0, 1) := by decide +kernel
theorem dX8_afterOneOfFour_27 : decode cX8_afterOneOfFour 27 = .ok (.invokevirtual 294, 3) := by decide +kernel
theorem dX8_afterOneOfFour_30 : decode cX8_afterOneOfFour 30 = .ok (.istore_n 2, 1) := by decide +kernel
theorem dX8_afterOneOfFour_31 : decode cX8_afterOneOfFour 31 = .ok (.iload_n 2, 1) := by decide +kernel
theorem dX8_afterOneOfFour_32 : decode cX8_afterOneOfFour 32 = .ok (.iload_n 1, 1) := by decide +kernel
theorem dX8_afterOneOfFour_33 : decode cX8_afterOneOfFour 33 = .ok (.if_icmp .ge 7, 3) := by decide +kernel
theorem dX8_afterOneOfFour_36 : decode cX8_afterOneOfFour 36 = .ok (.iload_n 2, 1) := by decide +kernel
theorem dX8_afterOneOfFour_37 : decode cX8_afterOneOfFour 37 = .ok (.goto 4, 3) := by decide +kernel
theorem dX8_afterOneOfFour_40 : decode cX8_afterOneOfFour 40 = .ok (.iload_n 1, 1) := by decide +kernel
theorem dX8_afterOneOfFour_41 : decode cX8_afterOneOfFour 41 = .ok (.istore_n 1, 1) := by decide +kernel
theorem dX8_afterOneOfFour_42 : decode cX8_afterOneOfFour 42 = .ok (.aload_n 0, 1) := by decide +kernel
theorem dX8_afterOneOfFour_43 : decode cX8_afterOneOfFour 43 = .ok (.getfield 84, 3) := by decide +kernel
theorem dX8_afterOneOfFour_46 : decode cX8_afterOneOfFour 46 = .ok (.iconst 1, 1) := by decide +kernel
theorem dX8_afterOneOfFour_47 : decode cX8_afterOneOfFour 47 = .ok (.dup2, 1) := by decide +kernel
theorem dX8_afterOneOfFour_48 : decode cX8_afterOneOfFour 48 = .ok (.iaload, 1) := by decide +kernel
theorem dX8_afterOneOfFour_49 : decode cX8_afterOneOfFour 49 = .ok (.iconst 1, 1) := by decide +kernel
theorem dX8_afterOneOfFour_50 : decode cX8_afterOneOfFour 50 = .ok (.iadd, 1) := by decide +kernel
theorem dX8_afterOneOfFour_51 : decode cX8_afterOneOfFour 51 = .ok (.iastore, 1) := by decide +kernel
theorem dX8_afterOneOfFour_52 : decode cX8_afterOneOfFour 52 = .ok (.goto (-41), 3) := by decide +kernel
theorem dX8_afterOneOfFour_55 : decode cX8_afterOneOfFour 55 = .ok (.iload_n 1, 1) := by decide +kernel
theorem dX8_afterOneOfFour_56 : decode cX8_afterOneOfFour 56 = .ok (.ireturn, 1) := by decide +kernel
theorem dX8_turnsBy_0 : decode cX8_turnsBy 0 = .ok (.aload_n 0, 1) := by decide +kernel
theorem dX8_turnsBy_1 : decode cX8_turnsBy 1 = .ok (.iconst 0, 1) := by decide +kernel
theorem dX8_turnsBy_2 : decode cX8_turnsBy 2 = .ok (.putfield 105, 3) := by decide +kernel
theorem dX8_turnsBy_5 : decode cX8_turnsBy 5 = .ok (.iload_n 1, 1) := by decide +kernel
theorem dX8_turnsBy_6 : decode cX8_turnsBy 6 = .ok (.iconst 0, 1) := by decide +kernel
theorem dX8_turnsBy_7 : decode cX8_turnsBy 7 = .ok (.iconst 2, 1) := by decide +kernel
theorem dX8_turnsBy_8 : decode cX8_turnsBy 8 = .ok (.invokestatic 235, 3) := by decide +kernel
theorem dX8_turnsBy_11 : decode cX8_turnsBy 11 = .ok (.iload_n 2, 1) := by decide +kernel
theorem dX8_turnsBy_12 : decode cX8_turnsBy 12 = .ok (.iconst 1, 1) := by decide +kernel
theorem dX8_turnsBy_13 : decode cX8_turnsBy 13 = .ok (.invokestatic 279, 3) := by decide +kernel
theorem dX8_turnsBy_16 : decode cX8_turnsBy 16 = .ok (.istore_n 3, 1) := by decide +kernel
theorem dX8_turnsBy_17 : decode cX8_turnsBy 17 = .ok (.iload_n 3, 1) := by decide +kernel
theorem dX8_turnsBy_18 : decode cX8_turnsBy 18 = .ok (.ifCond .ge 12, 3) := by decide +kernel
theorem dX8_turnsBy_21 : decode cX8_turnsBy 21 = .ok (.ldc 239, 2) := by decide +kernel
theorem dX8_turnsBy_23 : decode cX8_turnsBy 23 = .ok (.aload_n 0, 1) := by decide +kernel
theorem dX8_turnsBy_24 : decode cX8_turnsBy 24 = .ok (.iload_n 3, 1) := by decide +kernel
theorem dX8_turnsBy_25 : decode cX8_turnsBy 25 = .ok (.invokevirtual 164, 3) := by decide +kernel
theorem dX8_turnsBy_28 : decode cX8_turnsBy 28 = .ok (.isub, 1) := by decide +kernel
theorem dX8_turnsBy_29 : decode cX8_turnsBy 29 = .ok (.ireturn, 1) := by decide +kernel
theorem dX8_turnsBy_30 : decode cX8_turnsBy 30 = .ok (.iload_n 1, 1) := by decide +kernel
theorem dX8_turnsBy_31 : decode cX8_turnsBy 31 = .ok (.ifCond .ne 17, 3) := by decide +kernel
theorem dX8_turnsBy_34 : decode cX8_turnsBy 34 = .ok (.iload_n 2, 1) := by decide +kernel
theorem dX8_turnsBy_35 : decode cX8_turnsBy 35 = .ok (.ifCond .ne 10, 3) := by decide +kernel
theorem dX8_turnsBy_38 : decode cX8_turnsBy 38 = .ok (.aload_n 0, 1) := by decide +kernel
theorem dX8_turnsBy_39 : decode cX8_turnsBy 39 = .ok (.invokevirtual 297, 3) := by decide +kernel
theorem dX8_turnsBy_42 : decode cX8_turnsBy 42 = .ok (.goto 5, 3) := by decide +kernel
theorem dX8_turnsBy_45 : decode cX8_turnsBy 45 = .ok (.bipush (-9), 2) := by decide +kernel
theorem dX8_turnsBy_47 : decode cX8_turnsBy 47 = .ok (.ireturn, 1) := by decide +kernel
theorem dX8_turnsBy_48 : decode cX8_turnsBy 48 = .ok (.bipush (-9), 2) := by decide +kernel
theorem dX8_turnsBy_50 : decode cX8_turnsBy 50 = .ok (.istore 4, 2) := by decide +kernel
theorem dX8_turnsBy_52 : decode cX8_turnsBy 52 = .ok (.sipush (-999), 3) := by decide +kernel
theorem dX8_turnsBy_55 : decode cX8_turnsBy 55 = .ok (.istore 5, 2) := by decide +kernel
theorem dX8_turnsBy_57 : decode cX8_turnsBy 57 = .ok (.aload_n 0, 1) := by decide +kernel
theorem dX8_turnsBy_58 : decode cX8_turnsBy 58 = .ok (.getfield 84, 3) := by decide +kernel
theorem dX8_turnsBy_61 : decode cX8_turnsBy 61 = .ok (.iconst 0, 1) := by decide +kernel
theorem dX8_turnsBy_62 : decode cX8_turnsBy 62 = .ok (.iconst 0, 1) := by decide +kernel
theorem dX8_turnsBy_63 : decode cX8_turnsBy 63 = .ok (.iastore, 1) := by decide +kernel
theorem dX8_turnsBy_64 : decode cX8_turnsBy 64 = .ok (.aload_n 0, 1) := by decide +kernel
theorem dX8_turnsBy_65 : decode cX8_turnsBy 65 = .ok (.getfield 84, 3) := by decide +kernel
theorem dX8_turnsBy_68 : decode cX8_turnsBy 68 = .ok (.iconst 0, 1) := by decide +kernel
theorem dX8_turnsBy_69 : decode cX8_turnsBy 69 = .ok (.iaload, 1) := by decide +kernel
theorem dX8_turnsBy_70 : decode cX8_turnsBy 70 = .ok (.iconst 2, 1) := by decide +kernel
theorem dX8_turnsBy_71 : decode cX8_turnsBy 71 = .ok (.aload_n 0, 1) := by decide +kernel
theorem dX8_turnsBy_72 : decode cX8_turnsBy 72 = .ok (.getfield 19, 3) := by decide +kernel
theorem dX8_turnsBy_75 : decode cX8_turnsBy 75 = .ok (.imul, 1) := by decide +kernel
theorem dX8_turnsBy_76 : decode cX8_turnsBy 76 = .ok (.if_icmp .ge 72, 3) := by decide +kernel
theorem dX8_turnsBy_79 : decode cX8_turnsBy 79 = .ok (.iload_n 1, 1) := by decide +kernel
theorem dX8_turnsBy_80 : decode cX8_turnsBy 80 = .ok (.iconst 1, 1) := by decide +kernel
theorem dX8_turnsBy_81 : decode cX8_turnsBy 81 = .ok (.if_icmp .ne 10, 3) := by decide +kernel
theorem dX8_turnsBy_84 : decode cX8_turnsBy 84 = .ok (.aload_n 0, 1) := by decide +kernel
theorem dX8_turnsBy_85 : decode cX8_turnsBy 85 = .ok (.invokevirtual 300, 3) := by decide +kernel
theorem dX8_turnsBy_88 : decode cX8_turnsBy 88 = .ok (.goto 7, 3) := by decide +kernel
theorem dX8_turnsBy_91 : decode cX8_turnsBy 91 = .ok (.aload_n 0, 1) := by decide +kernel
theorem dX8_turnsBy_92 : decode cX8_turnsBy 92 = .ok (.invokevirtual 303, 3) := by decide +kernel
theorem dX8_turnsBy_95 : decode cX8_turnsBy 95 = .ok (.istore 6, 2) := by decide +kernel
theorem dX8_turnsBy_97 : decode cX8_turnsBy 97 = .ok (.iload 6, 2) := by decide +kernel
theorem dX8_turnsBy_99 : decode cX8_turnsBy 99 = .ok (.iload 5, 2) := by decide +kernel
theorem dX8_turnsBy_101 : decode cX8_turnsBy 101 = .ok (.if_icmp .le 14, 3) := by decide +kernel
theorem dX8_turnsBy_104 : decode cX8_turnsBy 104 = .ok (.aload_n 0, 1) := by decide +kernel
theorem dX8_turnsBy_105 : decode cX8_turnsBy 105 = .ok (.getfield 84, 3) := by decide +kernel
theorem dX8_turnsBy_108 : decode cX8_turnsBy 108 = .ok (.iconst 0, 1) := by decide +kernel
theorem dX8_turnsBy_109 : decode cX8_turnsBy 109 = .ok (.iaload, 1) := by decide +kernel
theorem dX8_turnsBy_110 : decode cX8_turnsBy 110 = .ok (.iconst 2, 1) := by decide +kernel
theorem dX8_turnsBy_111 : decode cX8_turnsBy 111 = .ok (.idiv, 1) := by decide +kernel
theorem dX8_turnsBy_112 : decode cX8_turnsBy 112 = .ok (.goto 5, 3) := by decide +kernel
theorem dX8_turnsBy_115 : decode cX8_turnsBy 115 = .ok (.iload 4, 2) := by decide +kernel
theorem dX8_turnsBy_117 : decode cX8_turnsBy 117 = .ok (.istore 4, 2) := by decide +kernel
theorem dX8_turnsBy_119 : decode cX8_turnsBy 119 = .ok (.iload 6, 2) := by decide +kernel
theorem dX8_turnsBy_121 : decode cX8_turnsBy 121 = .ok (.iload 5, 2) := by decide +kernel
theorem dX8_turnsBy_123 : decode cX8_turnsBy 123 = .ok (.if_icmp .le 8, 3) := by decide +kernel
theorem dX8_turnsBy_126 : decode cX8_turnsBy 126 = .ok (.iload 6, 2) := by decide +kernel
theorem dX8_turnsBy_128 : decode cX8_turnsBy 128 = .ok (.goto 5, 3) := by decide +kernel
theorem dX8_turnsBy_131 : decode cX8_turnsBy 131 = .ok (.iload 5, 2) := by decide +kernel
theorem dX8_turnsBy_133 : decode cX8_turnsBy 133 = .ok (.istore 5, 2) := by decide +kernel
theorem dX8_turnsBy_135 : decode cX8_turnsBy 135 = .ok (.aload_n 0, 1) := by decide +kernel
theorem dX8_turnsBy_136 : decode cX8_turnsBy 136 = .ok (.getfield 84, 3) := by decide +kernel
theorem dX8_turnsBy_139 : decode cX8_turnsBy 139 = .ok (.iconst 0, 1) := by decide +kernel
theorem dX8_turnsBy_140 : decode cX8_turnsBy 140 = .ok (.dup2, 1) := by decide +kernel
theorem dX8_turnsBy_141 : decode cX8_turnsBy 141 = .ok (.iaload, 1) := by decide +kernel
theorem dX8_turnsBy_142 : decode cX8_turnsBy 142 = .ok (.iconst 1, 1) := by decide +kernel
theorem dX8_turnsBy_143 : decode cX8_turnsBy 143 = .ok (.iadd, 1) := by decide +kernel
theorem dX8_turnsBy_144 : decode cX8_turnsBy 144 = .ok (.iastore, 1) := by decide +kernel
theorem dX8_turnsBy_145 : decode cX8_turnsBy 145 = .ok (.goto (-81), 3) := by decide +kernel
theorem dX8_turnsBy_148 : decode cX8_turnsBy 148 = .ok (.iload_n 2, 1) := by decide +kernel
theorem dX8_turnsBy_149 : decode cX8_turnsBy 149 = .ok (.ifCond .ne 8, 3) := by decide +kernel
theorem dX8_turnsBy_152 : decode cX8_turnsBy 152 = .ok (.iload 5, 2) := by decide +kernel
theorem dX8_turnsBy_154 : decode cX8_turnsBy 154 = .ok (.goto 5, 3) := by decide +kernel
theorem dX8_turnsBy_157 : decode cX8_turnsBy 157 = .ok (.iload 4, 2) := by decide +kernel
theorem dX8_turnsBy_159 : decode cX8_turnsBy 159 = .ok (.ireturn, 1) := by decide +kernel
theorem dX8_fastFrom_0 : decode cX8_fastFrom 0 = .ok (.aload_n 0, 1) := by decide +kernel
theorem dX8_fastFrom_1 : decode cX8_fastFrom 1 = .ok (.invokevirtual 252, 3) := by decide +kernel
theorem dX8_fastFrom_4 : decode cX8_fastFrom 4 = .ok (.istore_n 1, 1) := by decide +kernel
theorem dX8_fastFrom_5 : decode cX8_fastFrom 5 = .ok (.iconst 0, 1) := by decide +kernel
theorem dX8_fastFrom_6 : decode cX8_fastFrom 6 = .ok (.istore_n 2, 1) := by decide +kernel
theorem dX8_fastFrom_7 : decode cX8_fastFrom 7 = .ok (.iconst 1, 1) := by decide +kernel
theorem dX8_fastFrom_8 : decode cX8_fastFrom 8 = .ok (.istore_n 3, 1) := by decide +kernel
theorem dX8_fastFrom_9 : decode cX8_fastFrom 9 = .ok (.iconst 0, 1) := by decide +kernel
theorem dX8_fastFrom_10 : decode cX8_fastFrom 10 = .ok (.istore 4, 2) := by decide +kernel
theorem dX8_fastFrom_12 : decode cX8_fastFrom 12 = .ok (.iload 4, 2) := by decide +kernel
theorem dX8_fastFrom_14 : decode cX8_fastFrom 14 = .ok (.aload_n 0, 1) := by decide +kernel
theorem dX8_fastFrom_15 : decode cX8_fastFrom 15 = .ok (.getfield 108, 3) := by decide +kernel
theorem dX8_fastFrom_18 : decode cX8_fastFrom 18 = .ok (.if_icmp .ge 45, 3) := by decide +kernel
theorem dX8_fastFrom_21 : decode cX8_fastFrom 21 = .ok (.iload_n 3, 1) := by decide +kernel
theorem dX8_fastFrom_22 : decode cX8_fastFrom 22 = .ok (.ifCond .eq 41, 3) := by decide +kernel
theorem dX8_fastFrom_25 : decode cX8_fastFrom 25 = .ok (.aload_n 0, 1) := by decide +kernel
theorem dX8_fastFrom_26 : decode cX8_fastFrom 26 = .ok (.iload 4, 2) := by decide +kernel
theorem dX8_fastFrom_28 : decode cX8_fastFrom 28 = .ok (.invokevirtual 154, 3) := by decide +kernel
theorem dX8_fastFrom_31 : decode cX8_fastFrom 31 = .ok (.aload_n 0, 1) := by decide +kernel
theorem dX8_fastFrom_32 : decode cX8_fastFrom 32 = .ok (.invokevirtual 252, 3) := by decide +kernel
theorem dX8_fastFrom_35 : decode cX8_fastFrom 35 = .ok (.iload_n 1, 1) := by decide +kernel
theorem dX8_fastFrom_36 : decode cX8_fastFrom 36 = .ok (.if_icmp .ne 7, 3) := by decide +kernel
theorem dX8_fastFrom_39 : decode cX8_fastFrom 39 = .ok (.iconst 1, 1) := by decide +kernel
theorem dX8_fastFrom_40 : decode cX8_fastFrom 40 = .ok (.goto 4, 3) := by decide +kernel
theorem dX8_fastFrom_43 : decode cX8_fastFrom 43 = .ok (.iconst 0, 1) := by decide +kernel
theorem dX8_fastFrom_44 : decode cX8_fastFrom 44 = .ok (.istore_n 3, 1) := by decide +kernel
theorem dX8_fastFrom_45 : decode cX8_fastFrom 45 = .ok (.iload_n 2, 1) := by decide +kernel
theorem dX8_fastFrom_46 : decode cX8_fastFrom 46 = .ok (.iload_n 3, 1) := by decide +kernel
theorem dX8_fastFrom_47 : decode cX8_fastFrom 47 = .ok (.ifCond .eq 7, 3) := by decide +kernel
theorem dX8_fastFrom_50 : decode cX8_fastFrom 50 = .ok (.iconst 1, 1) := by decide +kernel
theorem dX8_fastFrom_51 : decode cX8_fastFrom 51 = .ok (.goto 4, 3) := by decide +kernel
theorem dX8_fastFrom_54 : decode cX8_fastFrom 54 = .ok (.iconst 0, 1) := by decide +kernel
theorem dX8_fastFrom_55 : decode cX8_fastFrom 55 = .ok (.iadd, 1) := by decide +kernel
theorem dX8_fastFrom_56 : decode cX8_fastFrom 56 = .ok (.istore_n 2, 1) := by decide +kernel
theorem dX8_fastFrom_57 : decode cX8_fastFrom 57 = .ok (.iinc 4 1, 3) := by decide +kernel
theorem dX8_fastFrom_60 : decode cX8_fastFrom 60 = .ok (.goto (-48), 3) := by decide +kernel
theorem dX8_fastFrom_63 : decode cX8_fastFrom 63 = .ok (.iload_n 2, 1) := by decide +kernel
theorem dX8_fastFrom_64 : decode cX8_fastFrom 64 = .ok (.ireturn, 1) := by decide +kernel
theorem dX8_standsFast_0 : decode cX8_standsFast 0 = .ok (.aload_n 0, 1) := by decide +kernel
theorem dX8_standsFast_1 : decode cX8_standsFast 1 = .ok (.iconst 0, 1) := by decide +kernel
theorem dX8_standsFast_2 : decode cX8_standsFast 2 = .ok (.putfield 105, 3) := by decide +kernel
theorem dX8_standsFast_5 : decode cX8_standsFast 5 = .ok (.aload_n 0, 1) := by decide +kernel
theorem dX8_standsFast_6 : decode cX8_standsFast 6 = .ok (.invokevirtual 158, 3) := by decide +kernel
theorem dX8_standsFast_9 : decode cX8_standsFast 9 = .ok (.aload_n 0, 1) := by decide +kernel
theorem dX8_standsFast_10 : decode cX8_standsFast 10 = .ok (.invokevirtual 306, 3) := by decide +kernel
theorem dX8_standsFast_13 : decode cX8_standsFast 13 = .ok (.ireturn, 1) := by decide +kernel
theorem dX8_thinkThree_0 : decode cX8_thinkThree 0 = .ok (.iconst 2, 1) := by decide +kernel
theorem dX8_thinkThree_1 : decode cX8_thinkThree 1 = .ok (.iload_n 2, 1) := by decide +kernel
theorem dX8_thinkThree_2 : decode cX8_thinkThree 2 = .ok (.imul, 1) := by decide +kernel
theorem dX8_thinkThree_3 : decode cX8_thinkThree 3 = .ok (.iconst 1, 1) := by decide +kernel
theorem dX8_thinkThree_4 : decode cX8_thinkThree 4 = .ok (.iadd, 1) := by decide +kernel
theorem dX8_thinkThree_5 : decode cX8_thinkThree 5 = .ok (.istore_n 3, 1) := by decide +kernel
theorem dX8_thinkThree_6 : decode cX8_thinkThree 6 = .ok (.aload_n 0, 1) := by decide +kernel
theorem dX8_thinkThree_7 : decode cX8_thinkThree 7 = .ok (.iconst 3, 1) := by decide +kernel
theorem dX8_thinkThree_8 : decode cX8_thinkThree 8 = .ok (.putfield 115, 3) := by decide +kernel
theorem dX8_thinkThree_11 : decode cX8_thinkThree 11 = .ok (.aload_n 0, 1) := by decide +kernel
theorem dX8_thinkThree_12 : decode cX8_thinkThree 12 = .ok (.getfield 35, 3) := by decide +kernel
theorem dX8_thinkThree_15 : decode cX8_thinkThree 15 = .ok (.iconst 0, 1) := by decide +kernel
theorem dX8_thinkThree_16 : decode cX8_thinkThree 16 = .ok (.iload_n 1, 1) := by decide +kernel
theorem dX8_thinkThree_17 : decode cX8_thinkThree 17 = .ok (.iload_n 3, 1) := by decide +kernel
theorem dX8_thinkThree_18 : decode cX8_thinkThree 18 = .ok (.iload_n 3, 1) := by decide +kernel
theorem dX8_thinkThree_19 : decode cX8_thinkThree 19 = .ok (.imul, 1) := by decide +kernel
theorem dX8_thinkThree_20 : decode cX8_thinkThree 20 = .ok (.idiv, 1) := by decide +kernel
theorem dX8_thinkThree_21 : decode cX8_thinkThree 21 = .ok (.iload_n 2, 1) := by decide +kernel
theorem dX8_thinkThree_22 : decode cX8_thinkThree 22 = .ok (.isub, 1) := by decide +kernel
theorem dX8_thinkThree_23 : decode cX8_thinkThree 23 = .ok (.iastore, 1) := by decide +kernel
theorem dX8_thinkThree_24 : decode cX8_thinkThree 24 = .ok (.aload_n 0, 1) := by decide +kernel
theorem dX8_thinkThree_25 : decode cX8_thinkThree 25 = .ok (.getfield 35, 3) := by decide +kernel
theorem dX8_thinkThree_28 : decode cX8_thinkThree 28 = .ok (.iconst 1, 1) := by decide +kernel
theorem dX8_thinkThree_29 : decode cX8_thinkThree 29 = .ok (.iload_n 1, 1) := by decide +kernel
theorem dX8_thinkThree_30 : decode cX8_thinkThree 30 = .ok (.iload_n 3, 1) := by decide +kernel
theorem dX8_thinkThree_31 : decode cX8_thinkThree 31 = .ok (.idiv, 1) := by decide +kernel
theorem dX8_thinkThree_32 : decode cX8_thinkThree 32 = .ok (.iload_n 3, 1) := by decide +kernel
theorem dX8_thinkThree_33 : decode cX8_thinkThree 33 = .ok (.irem, 1) := by decide +kernel
theorem dX8_thinkThree_34 : decode cX8_thinkThree 34 = .ok (.iload_n 2, 1) := by decide +kernel
theorem dX8_thinkThree_35 : decode cX8_thinkThree 35 = .ok (.isub, 1) := by decide +kernel
theorem dX8_thinkThree_36 : decode cX8_thinkThree 36 = .ok (.iastore, 1) := by decide +kernel
theorem dX8_thinkThree_37 : decode cX8_thinkThree 37 = .ok (.aload_n 0, 1) := by decide +kernel
theorem dX8_thinkThree_38 : decode cX8_thinkThree 38 = .ok (.getfield 35, 3) := by decide +kernel
theorem dX8_thinkThree_41 : decode cX8_thinkThree 41 = .ok (.iconst 2, 1) := by decide +kernel
theorem dX8_thinkThree_42 : decode cX8_thinkThree 42 = .ok (.iload_n 1, 1) := by decide +kernel
theorem dX8_thinkThree_43 : decode cX8_thinkThree 43 = .ok (.iload_n 3, 1) := by decide +kernel
theorem dX8_thinkThree_44 : decode cX8_thinkThree 44 = .ok (.irem, 1) := by decide +kernel
theorem dX8_thinkThree_45 : decode cX8_thinkThree 45 = .ok (.iload_n 2, 1) := by decide +kernel
theorem dX8_thinkThree_46 : decode cX8_thinkThree 46 = .ok (.isub, 1) := by decide +kernel
theorem dX8_thinkThree_47 : decode cX8_thinkThree 47 = .ok (.iastore, 1) := by decide +kernel
theorem dX8_thinkThree_48 : decode cX8_thinkThree 48 = .ok (.return_, 1) := by decide +kernel
theorem dX8_survive_0 : decode cX8_survive 0 = .ok (.aload_n 0, 1) := by decide +kernel
theorem dX8_survive_1 : decode cX8_survive 1 = .ok (.iconst 0, 1) := by decide +kernel
theorem dX8_survive_2 : decode cX8_survive 2 = .ok (.putfield 105, 3) := by decide +kernel
theorem dX8_survive_5 : decode cX8_survive 5 = .ok (.iload_n 1, 1) := by decide +kernel
theorem dX8_survive_6 : decode cX8_survive 6 = .ok (.iconst 0, 1) := by decide +kernel
theorem dX8_survive_7 : decode cX8_survive 7 = .ok (.iconst 4, 1) := by decide +kernel
theorem dX8_survive_8 : decode cX8_survive 8 = .ok (.invokestatic 235, 3) := by decide +kernel
theorem dX8_survive_11 : decode cX8_survive 11 = .ok (.ifCond .ge 14, 3) := by decide +kernel
theorem dX8_survive_14 : decode cX8_survive 14 = .ok (.aload_n 0, 1) := by decide +kernel
theorem dX8_survive_15 : decode cX8_survive 15 = .ok (.iload_n 1, 1) := by decide +kernel
theorem dX8_survive_16 : decode cX8_survive 16 = .ok (.iconst 0, 1) := by decide +kernel
theorem dX8_survive_17 : decode cX8_survive 17 = .ok (.iconst 4, 1) := by decide +kernel
theorem dX8_survive_18 : decode cX8_survive 18 = .ok (.invokestatic 235, 3) := by decide +kernel
theorem dX8_survive_21 : decode cX8_survive 21 = .ok (.invokevirtual 164, 3) := by decide +kernel
theorem dX8_survive_24 : decode cX8_survive 24 = .ok (.ireturn, 1) := by decide +kernel
theorem dX8_survive_25 : decode cX8_survive 25 = .ok (.iconst 2, 1) := by decide +kernel
theorem dX8_survive_26 : decode cX8_survive 26 = .ok (.iload_n 1, 1) := by decide +kernel
theorem dX8_survive_27 : decode cX8_survive 27 = .ok (.imul, 1) := by decide +kernel
theorem dX8_survive_28 : decode cX8_survive 28 = .ok (.iconst 1, 1) := by decide +kernel
theorem dX8_survive_29 : decode cX8_survive 29 = .ok (.iadd, 1) := by decide +kernel
theorem dX8_survive_30 : decode cX8_survive 30 = .ok (.istore_n 2, 1) := by decide +kernel
theorem dX8_survive_31 : decode cX8_survive 31 = .ok (.iconst 0, 1) := by decide +kernel
theorem dX8_survive_32 : decode cX8_survive 32 = .ok (.istore_n 3, 1) := by decide +kernel
theorem dX8_survive_33 : decode cX8_survive 33 = .ok (.iconst 0, 1) := by decide +kernel
theorem dX8_survive_34 : decode cX8_survive 34 = .ok (.istore 4, 2) := by decide +kernel
theorem dX8_survive_36 : decode cX8_survive 36 = .ok (.iload 4, 2) := by decide +kernel
theorem dX8_survive_38 : decode cX8_survive 38 = .ok (.iload_n 2, 1) := by decide +kernel
theorem dX8_survive_39 : decode cX8_survive 39 = .ok (.iload_n 2, 1) := by decide +kernel
theorem dX8_survive_40 : decode cX8_survive 40 = .ok (.imul, 1) := by decide +kernel
theorem dX8_survive_41 : decode cX8_survive 41 = .ok (.iload_n 2, 1) := by decide +kernel
theorem dX8_survive_42 : decode cX8_survive 42 = .ok (.imul, 1) := by decide +kernel
theorem dX8_survive_43 : decode cX8_survive 43 = .ok (.if_icmp .ge 35, 3) := by decide +kernel
theorem dX8_survive_46 : decode cX8_survive 46 = .ok (.aload_n 0, 1) := by decide +kernel
theorem dX8_survive_47 : decode cX8_survive 47 = .ok (.iload 4, 2) := by decide +kernel
theorem dX8_survive_49 : decode cX8_survive 49 = .ok (.iload_n 1, 1) := by decide +kernel
theorem dX8_survive_50 : decode cX8_survive 50 = .ok (.invokevirtual 309, 3) := by decide +kernel
theorem dX8_survive_53 : decode cX8_survive 53 = .ok (.iload_n 3, 1) := by decide +kernel
theorem dX8_survive_54 : decode cX8_survive 54 = .ok (.aload_n 0, 1) := by decide +kernel
theorem dX8_survive_55 : decode cX8_survive 55 = .ok (.invokevirtual 306, 3) := by decide +kernel
theorem dX8_survive_58 : decode cX8_survive 58 = .ok (.aload_n 0, 1) := by decide +kernel
theorem dX8_survive_59 : decode cX8_survive 59 = .ok (.getfield 108, 3) := by decide +kernel
theorem dX8_survive_62 : decode cX8_survive 62 = .ok (.if_icmp .ne 7, 3) := by decide +kernel
theorem dX8_survive_65 : decode cX8_survive 65 = .ok (.iconst 1, 1) := by decide +kernel
theorem dX8_survive_66 : decode cX8_survive 66 = .ok (.goto 4, 3) := by decide +kernel
theorem dX8_survive_69 : decode cX8_survive 69 = .ok (.iconst 0, 1) := by decide +kernel
theorem dX8_survive_70 : decode cX8_survive 70 = .ok (.iadd, 1) := by decide +kernel
theorem dX8_survive_71 : decode cX8_survive 71 = .ok (.istore_n 3, 1) := by decide +kernel
theorem dX8_survive_72 : decode cX8_survive 72 = .ok (.iinc 4 1, 3) := by decide +kernel
theorem dX8_survive_75 : decode cX8_survive 75 = .ok (.goto (-39), 3) := by decide +kernel
theorem dX8_survive_78 : decode cX8_survive 78 = .ok (.iload_n 3, 1) := by decide +kernel
theorem dX8_survive_79 : decode cX8_survive 79 = .ok (.ireturn, 1) := by decide +kernel
theorem dX8_fits_0 : decode cX8_fits 0 = .ok (.aload_n 0, 1) := by decide +kernel
theorem dX8_fits_1 : decode cX8_fits 1 = .ok (.iconst 0, 1) := by decide +kernel
theorem dX8_fits_2 : decode cX8_fits 2 = .ok (.putfield 105, 3) := by decide +kernel
theorem dX8_fits_5 : decode cX8_fits 5 = .ok (.iload_n 1, 1) := by decide +kernel
theorem dX8_fits_6 : decode cX8_fits 6 = .ok (.iconst 0, 1) := by decide +kernel
theorem dX8_fits_7 : decode cX8_fits 7 = .ok (.bipush 9, 2) := by decide +kernel
theorem dX8_fits_9 : decode cX8_fits 9 = .ok (.invokestatic 235, 3) := by decide +kernel
theorem dX8_fits_12 : decode cX8_fits 12 = .ok (.istore_n 2, 1) := by decide +kernel
theorem dX8_fits_13 : decode cX8_fits 13 = .ok (.iload_n 2, 1) := by decide +kernel
theorem dX8_fits_14 : decode cX8_fits 14 = .ok (.ifCond .ne 19, 3) := by decide +kernel
theorem dX8_fits_17 : decode cX8_fits 17 = .ok (.aload_n 0, 1) := by decide +kernel
theorem dX8_fits_18 : decode cX8_fits 18 = .ok (.getfield 312, 3) := by decide +kernel
theorem dX8_fits_21 : decode cX8_fits 21 = .ok (.iconst 2, 1) := by decide +kernel
theorem dX8_fits_22 : decode cX8_fits 22 = .ok (.aload_n 0, 1) := by decide +kernel
theorem dX8_fits_23 : decode cX8_fits 23 = .ok (.getfield 19, 3) := by decide +kernel
theorem dX8_fits_26 : decode cX8_fits 26 = .ok (.imul, 1) := by decide +kernel
theorem dX8_fits_27 : decode cX8_fits 27 = .ok (.if_icmp .eq 6, 3) := by decide +kernel
theorem dX8_fits_30 : decode cX8_fits 30 = .ok (.bipush (-3), 2) := by decide +kernel
theorem dX8_fits_32 : decode cX8_fits 32 = .ok (.istore_n 2, 1) := by decide +kernel
theorem dX8_fits_33 : decode cX8_fits 33 = .ok (.iconst 0, 1) := by decide +kernel
theorem dX8_fits_34 : decode cX8_fits 34 = .ok (.istore_n 3, 1) := by decide +kernel
theorem dX8_fits_35 : decode cX8_fits 35 = .ok (.iload_n 3, 1) := by decide +kernel
theorem dX8_fits_36 : decode cX8_fits 36 = .ok (.aload_n 0, 1) := by decide +kernel
theorem dX8_fits_37 : decode cX8_fits 37 = .ok (.getfield 312, 3) := by decide +kernel
theorem dX8_fits_40 : decode cX8_fits 40 = .ok (.if_icmp .ge 31, 3) := by decide +kernel
theorem dX8_fits_43 : decode cX8_fits 43 = .ok (.iload_n 2, 1) := by decide +kernel
theorem dX8_fits_44 : decode cX8_fits 44 = .ok (.ifCond .ne 19, 3) := by decide +kernel
theorem dX8_fits_47 : decode cX8_fits 47 = .ok (.aload_n 0, 1) := by decide +kernel
theorem dX8_fits_48 : decode cX8_fits 48 = .ok (.getfield 87, 3) := by decide +kernel
theorem dX8_fits_51 : decode cX8_fits 51 = .ok (.iload_n 3, 1) := by decide +kernel
theorem dX8_fits_52 : decode cX8_fits 52 = .ok (.iaload, 1) := by decide +kernel
theorem dX8_fits_53 : decode cX8_fits 53 = .ok (.bipush 18, 2) := by decide +kernel
theorem dX8_fits_55 : decode cX8_fits 55 = .ok (.if_icmp .le 8, 3) := by decide +kernel
theorem dX8_fits_58 : decode cX8_fits 58 = .ok (.bipush (-3), 2) := by decide +kernel
theorem dX8_fits_60 : decode cX8_fits 60 = .ok (.goto 4, 3) := by decide +kernel
theorem dX8_fits_63 : decode cX8_fits 63 = .ok (.iload_n 2, 1) := by decide +kernel
theorem dX8_fits_64 : decode cX8_fits 64 = .ok (.istore_n 2, 1) := by decide +kernel
theorem dX8_fits_65 : decode cX8_fits 65 = .ok (.iinc 3 1, 3) := by decide +kernel
theorem dX8_fits_68 : decode cX8_fits 68 = .ok (.goto (-33), 3) := by decide +kernel
theorem dX8_fits_71 : decode cX8_fits 71 = .ok (.iload_n 2, 1) := by decide +kernel
theorem dX8_fits_72 : decode cX8_fits 72 = .ok (.ifCond .ge 9, 3) := by decide +kernel
theorem dX8_fits_75 : decode cX8_fits 75 = .ok (.aload_n 0, 1) := by decide +kernel
theorem dX8_fits_76 : decode cX8_fits 76 = .ok (.iload_n 2, 1) := by decide +kernel
theorem dX8_fits_77 : decode cX8_fits 77 = .ok (.invokevirtual 164, 3) := by decide +kernel
theorem dX8_fits_80 : decode cX8_fits 80 = .ok (.ireturn, 1) := by decide +kernel
theorem dX8_fits_81 : decode cX8_fits 81 = .ok (.iconst 0, 1) := by decide +kernel
theorem dX8_fits_82 : decode cX8_fits 82 = .ok (.istore_n 3, 1) := by decide +kernel
theorem dX8_fits_83 : decode cX8_fits 83 = .ok (.iconst 0, 1) := by decide +kernel
theorem dX8_fits_84 : decode cX8_fits 84 = .ok (.istore 4, 2) := by decide +kernel
theorem dX8_fits_86 : decode cX8_fits 86 = .ok (.iload 4, 2) := by decide +kernel
theorem dX8_fits_88 : decode cX8_fits 88 = .ok (.bipush 6, 2) := by decide +kernel
theorem dX8_fits_90 : decode cX8_fits 90 = .ok (.if_icmp .ge 134, 3) := by decide +kernel
theorem dX8_fits_93 : decode cX8_fits 93 = .ok (.aload_n 0, 1) := by decide +kernel
theorem dX8_fits_94 : decode cX8_fits 94 = .ok (.aload_n 0, 1) := by decide +kernel
theorem dX8_fits_95 : decode cX8_fits 95 = .ok (.getfield 19, 3) := by decide +kernel
theorem dX8_fits_98 : decode cX8_fits 98 = .ok (.putfield 115, 3) := by decide +kernel
theorem dX8_fits_101 : decode cX8_fits 101 = .ok (.iconst 0, 1) := by decide +kernel
theorem dX8_fits_102 : decode cX8_fits 102 = .ok (.istore 5, 2) := by decide +kernel
theorem dX8_fits_104 : decode cX8_fits 104 = .ok (.iload 5, 2) := by decide +kernel
theorem dX8_fits_106 : decode cX8_fits 106 = .ok (.aload_n 0, 1) := by decide +kernel
theorem dX8_fits_107 : decode cX8_fits 107 = .ok (.getfield 19, 3) := by decide +kernel
theorem dX8_fits_110 : decode cX8_fits 110 = .ok (.if_icmp .ge 28, 3) := by decide +kernel
theorem dX8_fits_113 : decode cX8_fits 113 = .ok (.aload_n 0, 1) := by decide +kernel
theorem dX8_fits_114 : decode cX8_fits 114 = .ok (.getfield 35, 3) := by decide +kernel
theorem dX8_fits_117 : decode cX8_fits 117 = .ok (.iload 5, 2) := by decide +kernel
theorem dX8_fits_119 : decode cX8_fits 119 = .ok (.aload_n 0, 1) := by decide +kernel
theorem dX8_fits_120 : decode cX8_fits 120 = .ok (.getfield 87, 3) := by decide +kernel
theorem dX8_fits_123 : decode cX8_fits 123 = .ok (.iconst 2, 1) := by decide +kernel
theorem dX8_fits_124 : decode cX8_fits 124 = .ok (.iload 5, 2) := by decide +kernel
theorem dX8_fits_126 : decode cX8_fits 126 = .ok (.imul, 1) := by decide +kernel
theorem dX8_fits_127 : decode cX8_fits 127 = .ok (.iaload, 1) := by decide +kernel
theorem dX8_fits_128 : decode cX8_fits 128 = .ok (.bipush 9, 2) := by decide +kernel
theorem dX8_fits_130 : decode cX8_fits 130 = .ok (.isub, 1) := by decide +kernel
theorem dX8_fits_131 : decode cX8_fits 131 = .ok (.iastore, 1) := by decide +kernel
theorem dX8_fits_132 : decode cX8_fits 132 = .ok (.iinc 5 1, 3) := by decide +kernel
theorem dX8_fits_135 : decode cX8_fits 135 = .ok (.goto (-31), 3) := by decide +kernel
theorem dX8_fits_138 : decode cX8_fits 138 = .ok (.aload_n 0, 1) := by decide +kernel
theorem dX8_fits_139 : decode cX8_fits 139 = .ok (.iload 4, 2) := by decide +kernel
theorem dX8_fits_141 : decode cX8_fits 141 = .ok (.iload_n 1, 1) := by decide +kernel
theorem dX8_fits_142 : decode cX8_fits 142 = .ok (.invokevirtual 146, 3) := by decide +kernel
theorem dX8_fits_145 : decode cX8_fits 145 = .ok (.iconst 1, 1) := by decide +kernel
theorem dX8_fits_146 : decode cX8_fits 146 = .ok (.istore 5, 2) := by decide +kernel
theorem dX8_fits_148 : decode cX8_fits 148 = .ok (.iconst 0, 1) := by decide +kernel
theorem dX8_fits_149 : decode cX8_fits 149 = .ok (.istore 6, 2) := by decide +kernel
theorem dX8_fits_151 : decode cX8_fits 151 = .ok (.iload 6, 2) := by decide +kernel
theorem dX8_fits_153 : decode cX8_fits 153 = .ok (.aload_n 0, 1) := by decide +kernel
theorem dX8_fits_154 : decode cX8_fits 154 = .ok (.getfield 19, 3) := by decide +kernel
theorem dX8_fits_157 : decode cX8_fits 157 = .ok (.if_icmp .ge 45, 3) := by decide +kernel
theorem dX8_fits_160 : decode cX8_fits 160 = .ok (.iload 5, 2) := by decide +kernel
theorem dX8_fits_162 : decode cX8_fits 162 = .ok (.ifCond .eq 31, 3) := by decide +kernel
theorem dX8_fits_165 : decode cX8_fits 165 = .ok (.aload_n 0, 1) := by decide +kernel
theorem dX8_fits_166 : decode cX8_fits 166 = .ok (.getfield 35, 3) := by decide +kernel
theorem dX8_fits_169 : decode cX8_fits 169 = .ok (.iload 6, 2) := by decide +kernel
theorem dX8_fits_171 : decode cX8_fits 171 = .ok (.iaload, 1) := by decide +kernel
theorem dX8_fits_172 : decode cX8_fits 172 = .ok (.aload_n 0, 1) := by decide +kernel
theorem dX8_fits_173 : decode cX8_fits 173 = .ok (.getfield 87, 3) := by decide +kernel
theorem dX8_fits_176 : decode cX8_fits 176 = .ok (.iconst 2, 1) := by decide +kernel
theorem dX8_fits_177 : decode cX8_fits 177 = .ok (.iload 6, 2) := by decide +kernel
theorem dX8_fits_179 : decode cX8_fits 179 = .ok (.imul, 1) := by decide +kernel
theorem dX8_fits_180 : decode cX8_fits 180 = .ok (.iconst 1, 1) := by decide +kernel
theorem dX8_fits_181 : decode cX8_fits 181 = .ok (.iadd, 1) := by decide +kernel
theorem dX8_fits_182 : decode cX8_fits 182 = .ok (.iaload, 1) := by decide +kernel
theorem dX8_fits_183 : decode cX8_fits 183 = .ok (.bipush 9, 2) := by decide +kernel
theorem dX8_fits_185 : decode cX8_fits 185 = .ok (.isub, 1) := by decide +kernel
theorem dX8_fits_186 : decode cX8_fits 186 = .ok (.if_icmp .ne 7, 3) := by decide +kernel
theorem dX8_fits_189 : decode cX8_fits 189 = .ok (.iconst 1, 1) := by decide +kernel
theorem dX8_fits_190 : decode cX8_fits 190 = .ok (.goto 4, 3) := by decide +kernel
theorem dX8_fits_193 : decode cX8_fits 193 = .ok (.iconst 0, 1) := by decide +kernel
theorem dX8_fits_194 : decode cX8_fits 194 = .ok (.istore 5, 2) := by decide +kernel
theorem dX8_fits_196 : decode cX8_fits 196 = .ok (.iinc 6 1, 3) := by decide +kernel
theorem dX8_fits_199 : decode cX8_fits 199 = .ok (.goto (-48), 3) := by decide +kernel
theorem dX8_fits_202 : decode cX8_fits 202 = .ok (.iload_n 3, 1) := by decide +kernel
theorem dX8_fits_203 : decode cX8_fits 203 = .ok (.iload 5, 2) := by decide +kernel
theorem dX8_fits_205 : decode cX8_fits 205 = .ok (.ifCond .eq 10, 3) := by decide +kernel
theorem dX8_fits_208 : decode cX8_fits 208 = .ok (.iconst 1, 1) := by decide +kernel
theorem dX8_fits_209 : decode cX8_fits 209 = .ok (.iload 4, 2) := by decide +kernel
theorem dX8_fits_211 : decode cX8_fits 211 = .ok (.ishl, 1) := by decide +kernel
theorem dX8_fits_212 : decode cX8_fits 212 = .ok (.goto 4, 3) := by decide +kernel
theorem dX8_fits_215 : decode cX8_fits 215 = .ok (.iconst 0, 1) := by decide +kernel
theorem dX8_fits_216 : decode cX8_fits 216 = .ok (.ior, 1) := by decide +kernel
theorem dX8_fits_217 : decode cX8_fits 217 = .ok (.istore_n 3, 1) := by decide +kernel
theorem dX8_fits_218 : decode cX8_fits 218 = .ok (.iinc 4 1, 3) := by decide +kernel
theorem dX8_fits_221 : decode cX8_fits 221 = .ok (.goto (-135), 3) := by decide +kernel
theorem dX8_fits_224 : decode cX8_fits 224 = .ok (.iload_n 3, 1) := by decide +kernel
theorem dX8_fits_225 : decode cX8_fits 225 = .ok (.ireturn, 1) := by decide +kernel
theorem dX8_first_0 : decode cX8_first 0 = .ok (.aload_n 0, 1) := by decide +kernel
theorem dX8_first_1 : decode cX8_first 1 = .ok (.iconst 0, 1) := by decide +kernel
theorem dX8_first_2 : decode cX8_first 2 = .ok (.putfield 105, 3) := by decide +kernel
theorem dX8_first_5 : decode cX8_first 5 = .ok (.iload_n 1, 1) := by decide +kernel
theorem dX8_first_6 : decode cX8_first 6 = .ok (.iconst (-1), 1) := by decide +kernel
theorem dX8_first_7 : decode cX8_first 7 = .ok (.if_icmp .ge 8, 3) := by decide +kernel
theorem dX8_first_10 : decode cX8_first 10 = .ok (.bipush (-4), 2) := by decide +kernel
theorem dX8_first_12 : decode cX8_first 12 = .ok (.goto 17, 3) := by decide +kernel
theorem dX8_first_15 : decode cX8_first 15 = .ok (.aload_n 0, 1) := by decide +kernel
theorem dX8_first_16 : decode cX8_first 16 = .ok (.getfield 19, 3) := by decide +kernel
theorem dX8_first_19 : decode cX8_first 19 = .ok (.iconst 3, 1) := by decide +kernel
theorem dX8_first_20 : decode cX8_first 20 = .ok (.if_icmp .eq 8, 3) := by decide +kernel
theorem dX8_first_23 : decode cX8_first 23 = .ok (.bipush (-3), 2) := by decide +kernel
theorem dX8_first_25 : decode cX8_first 25 = .ok (.goto 4, 3) := by decide +kernel
theorem dX8_first_28 : decode cX8_first 28 = .ok (.iconst 0, 1) := by decide +kernel
theorem dX8_first_29 : decode cX8_first 29 = .ok (.istore_n 2, 1) := by decide +kernel
theorem dX8_first_30 : decode cX8_first 30 = .ok (.iload_n 2, 1) := by decide +kernel
theorem dX8_first_31 : decode cX8_first 31 = .ok (.ifCond .ge 12, 3) := by decide +kernel
theorem dX8_first_34 : decode cX8_first 34 = .ok (.ldc 239, 2) := by decide +kernel
theorem dX8_first_36 : decode cX8_first 36 = .ok (.aload_n 0, 1) := by decide +kernel
theorem dX8_first_37 : decode cX8_first 37 = .ok (.iload_n 2, 1) := by decide +kernel
theorem dX8_first_38 : decode cX8_first 38 = .ok (.invokevirtual 164, 3) := by decide +kernel
theorem dX8_first_41 : decode cX8_first 41 = .ok (.isub, 1) := by decide +kernel
theorem dX8_first_42 : decode cX8_first 42 = .ok (.ireturn, 1) := by decide +kernel
theorem dX8_first_43 : decode cX8_first 43 = .ok (.iconst 0, 1) := by decide +kernel
theorem dX8_first_44 : decode cX8_first 44 = .ok (.istore_n 3, 1) := by decide +kernel
theorem dX8_first_45 : decode cX8_first 45 = .ok (.bipush (-9), 2) := by decide +kernel
theorem dX8_first_47 : decode cX8_first 47 = .ok (.istore 4, 2) := by decide +kernel
theorem dX8_first_49 : decode cX8_first 49 = .ok (.bipush 99, 2) := by decide +kernel
theorem dX8_first_51 : decode cX8_first 51 = .ok (.istore 5, 2) := by decide +kernel
theorem dX8_first_53 : decode cX8_first 53 = .ok (.iconst 0, 1) := by decide +kernel
theorem dX8_first_54 : decode cX8_first 54 = .ok (.istore 6, 2) := by decide +kernel
theorem dX8_first_56 : decode cX8_first 56 = .ok (.iload 6, 2) := by decide +kernel
theorem dX8_first_58 : decode cX8_first 58 = .ok (.sipush 729, 3) := by decide +kernel
theorem dX8_first_61 : decode cX8_first 61 = .ok (.if_icmp .ge 107, 3) := by decide +kernel
theorem dX8_first_64 : decode cX8_first 64 = .ok (.aload_n 0, 1) := by decide +kernel
theorem dX8_first_65 : decode cX8_first 65 = .ok (.iload 6, 2) := by decide +kernel
theorem dX8_first_67 : decode cX8_first 67 = .ok (.iconst 4, 1) := by decide +kernel
theorem dX8_first_68 : decode cX8_first 68 = .ok (.invokevirtual 309, 3) := by decide +kernel
theorem dX8_first_71 : decode cX8_first 71 = .ok (.aload_n 0, 1) := by decide +kernel
theorem dX8_first_72 : decode cX8_first 72 = .ok (.invokevirtual 118, 3) := by decide +kernel
theorem dX8_first_75 : decode cX8_first 75 = .ok (.istore 7, 2) := by decide +kernel
theorem dX8_first_77 : decode cX8_first 77 = .ok (.aload_n 0, 1) := by decide +kernel
theorem dX8_first_78 : decode cX8_first 78 = .ok (.iconst 0, 1) := by decide +kernel
theorem dX8_first_79 : decode cX8_first 79 = .ok (.invokevirtual 161, 3) := by decide +kernel
theorem dX8_first_82 : decode cX8_first 82 = .ok (.aload_n 0, 1) := by decide +kernel
theorem dX8_first_83 : decode cX8_first 83 = .ok (.getfield 35, 3) := by decide +kernel
theorem dX8_first_86 : decode cX8_first 86 = .ok (.iconst 0, 1) := by decide +kernel
theorem dX8_first_87 : decode cX8_first 87 = .ok (.iaload, 1) := by decide +kernel
theorem dX8_first_88 : decode cX8_first 88 = .ok (.aload_n 0, 1) := by decide +kernel
theorem dX8_first_89 : decode cX8_first 89 = .ok (.getfield 23, 3) := by decide +kernel
theorem dX8_first_92 : decode cX8_first 92 = .ok (.iconst 0, 1) := by decide +kernel
theorem dX8_first_93 : decode cX8_first 93 = .ok (.iaload, 1) := by decide +kernel
theorem dX8_first_94 : decode cX8_first 94 = .ok (.if_icmp .ne 68, 3) := by decide +kernel
theorem dX8_first_97 : decode cX8_first 97 = .ok (.aload_n 0, 1) := by decide +kernel
theorem dX8_first_98 : decode cX8_first 98 = .ok (.getfield 35, 3) := by decide +kernel
theorem dX8_first_101 : decode cX8_first 101 = .ok (.iconst 1, 1) := by decide +kernel
theorem dX8_first_102 : decode cX8_first 102 = .ok (.iaload, 1) := by decide +kernel
theorem dX8_first_103 : decode cX8_first 103 = .ok (.aload_n 0, 1) := by decide +kernel
theorem dX8_first_104 : decode cX8_first 104 = .ok (.getfield 23, 3) := by decide +kernel
theorem dX8_first_107 : decode cX8_first 107 = .ok (.iconst 1, 1) := by decide +kernel
theorem dX8_first_108 : decode cX8_first 108 = .ok (.iaload, 1) := by decide +kernel
theorem dX8_first_109 : decode cX8_first 109 = .ok (.if_icmp .ne 53, 3) := by decide +kernel
theorem dX8_first_112 : decode cX8_first 112 = .ok (.aload_n 0, 1) := by decide +kernel
theorem dX8_first_113 : decode cX8_first 113 = .ok (.getfield 35, 3) := by decide +kernel
theorem dX8_first_116 : decode cX8_first 116 = .ok (.iconst 2, 1) := by decide +kernel
theorem dX8_first_117 : decode cX8_first 117 = .ok (.iaload, 1) := by decide +kernel
theorem dX8_first_118 : decode cX8_first 118 = .ok (.aload_n 0, 1) := by decide +kernel
theorem dX8_first_119 : decode cX8_first 119 = .ok (.getfield 23, 3) := by decide +kernel
theorem dX8_first_122 : decode cX8_first 122 = .ok (.iconst 2, 1) := by decide +kernel
theorem dX8_first_123 : decode cX8_first 123 = .ok (.iaload, 1) := by decide +kernel
theorem dX8_first_124 : decode cX8_first 124 = .ok (.if_icmp .ne 38, 3) := by decide +kernel
theorem dX8_first_127 : decode cX8_first 127 = .ok (.iinc 3 1, 3) := by decide +kernel
theorem dX8_first_130 : decode cX8_first 130 = .ok (.iload 7, 2) := by decide +kernel
theorem dX8_first_132 : decode cX8_first 132 = .ok (.iload 5, 2) := by decide +kernel
theorem dX8_first_134 : decode cX8_first 134 = .ok (.if_icmp .ge 8, 3) := by decide +kernel
theorem dX8_first_137 : decode cX8_first 137 = .ok (.iload 6, 2) := by decide +kernel
theorem dX8_first_139 : decode cX8_first 139 = .ok (.goto 5, 3) := by decide +kernel
theorem dX8_first_142 : decode cX8_first 142 = .ok (.iload 4, 2) := by decide +kernel
theorem dX8_first_144 : decode cX8_first 144 = .ok (.istore 4, 2) := by decide +kernel
theorem dX8_first_146 : decode cX8_first 146 = .ok (.iload 7, 2) := by decide +kernel
theorem dX8_first_148 : decode cX8_first 148 = .ok (.iload 5, 2) := by decide +kernel
theorem dX8_first_150 : decode cX8_first 150 = .ok (.if_icmp .ge 8, 3) := by decide +kernel
theorem dX8_first_153 : decode cX8_first 153 = .ok (.iload 7, 2) := by decide +kernel
theorem dX8_first_155 : decode cX8_first 155 = .ok (.goto 5, 3) := by decide +kernel
theorem dX8_first_158 : decode cX8_first 158 = .ok (.iload 5, 2) := by decide +kernel
theorem dX8_first_160 : decode cX8_first 160 = .ok (.istore 5, 2) := by decide +kernel
theorem dX8_first_162 : decode cX8_first 162 = .ok (.iinc 6 1, 3) := by decide +kernel
theorem dX8_first_165 : decode cX8_first 165 = .ok (.goto (-109), 3) := by decide +kernel
theorem dX8_first_168 : decode cX8_first 168 = .ok (.iload_n 1, 1) := by decide +kernel
theorem dX8_first_169 : decode cX8_first 169 = .ok (.ifCond .ge 5, 3) := by decide +kernel
theorem dX8_first_172 : decode cX8_first 172 = .ok (.iload_n 3, 1) := by decide +kernel
theorem dX8_first_173 : decode cX8_first 173 = .ok (.ireturn, 1) := by decide +kernel
theorem dX8_first_174 : decode cX8_first 174 = .ok (.iload 4, 2) := by decide +kernel
theorem dX8_first_176 : decode cX8_first 176 = .ok (.ifCond .lt 8, 3) := by decide +kernel
theorem dX8_first_179 : decode cX8_first 179 = .ok (.iload_n 1, 1) := by decide +kernel
theorem dX8_first_180 : decode cX8_first 180 = .ok (.iconst 2, 1) := by decide +kernel
theorem dX8_first_181 : decode cX8_first 181 = .ok (.if_icmp .le 8, 3) := by decide +kernel
theorem dX8_first_184 : decode cX8_first 184 = .ok (.bipush (-9), 2) := by decide +kernel
theorem dX8_first_186 : decode cX8_first 186 = .ok (.goto 38, 3) := by decide +kernel
theorem dX8_first_189 : decode cX8_first 189 = .ok (.iload_n 1, 1) := by decide +kernel
theorem dX8_first_190 : decode cX8_first 190 = .ok (.ifCond .ne 11, 3) := by decide +kernel
theorem dX8_first_193 : decode cX8_first 193 = .ok (.iload 4, 2) := by decide +kernel
theorem dX8_first_195 : decode cX8_first 195 = .ok (.bipush 81, 2) := by decide +kernel
theorem dX8_first_197 : decode cX8_first 197 = .ok (.idiv, 1) := by decide +kernel
theorem dX8_first_198 : decode cX8_first 198 = .ok (.goto 24, 3) := by decide +kernel
theorem dX8_first_201 : decode cX8_first 201 = .ok (.iload_n 1, 1) := by decide +kernel
theorem dX8_first_202 : decode cX8_first 202 = .ok (.iconst 1, 1) := by decide +kernel
theorem dX8_first_203 : decode cX8_first 203 = .ok (.if_icmp .ne 14, 3) := by decide +kernel
theorem dX8_first_206 : decode cX8_first 206 = .ok (.iload 4, 2) := by decide +kernel
theorem dX8_first_208 : decode cX8_first 208 = .ok (.bipush 9, 2) := by decide +kernel
theorem dX8_first_210 : decode cX8_first 210 = .ok (.idiv, 1) := by decide +kernel
theorem dX8_first_211 : decode cX8_first 211 = .ok (.bipush 9, 2) := by decide +kernel
theorem dX8_first_213 : decode cX8_first 213 = .ok (.irem, 1) := by decide +kernel
theorem dX8_first_214 : decode cX8_first 214 = .ok (.goto 8, 3) := by decide +kernel
theorem dX8_first_217 : decode cX8_first 217 = .ok (.iload 4, 2) := by decide +kernel
theorem dX8_first_219 : decode cX8_first 219 = .ok (.bipush 9, 2) := by decide +kernel
theorem dX8_first_221 : decode cX8_first 221 = .ok (.irem, 1) := by decide +kernel
theorem dX8_first_222 : decode cX8_first 222 = .ok (.iconst 4, 1) := by decide +kernel
theorem dX8_first_223 : decode cX8_first 223 = .ok (.isub, 1) := by decide +kernel
theorem dX8_first_224 : decode cX8_first 224 = .ok (.ireturn, 1) := by decide +kernel
theorem dX8_apart_0 : decode cX8_apart 0 = .ok (.aload_n 0, 1) := by decide +kernel
theorem dX8_apart_1 : decode cX8_apart 1 = .ok (.iconst 0, 1) := by decide +kernel
theorem dX8_apart_2 : decode cX8_apart 2 = .ok (.putfield 105, 3) := by decide +kernel
theorem dX8_apart_5 : decode cX8_apart 5 = .ok (.iload_n 1, 1) := by decide +kernel
theorem dX8_apart_6 : decode cX8_apart 6 = .ok (.i2l, 1) := by decide +kernel
theorem dX8_apart_7 : decode cX8_apart 7 = .ok (.lconst 0, 1) := by decide +kernel
theorem dX8_apart_8 : decode cX8_apart 8 = .ok (.ldc2_w 243, 3) := by decide +kernel
theorem dX8_apart_11 : decode cX8_apart 11 = .ok (.invokestatic 111, 3) := by decide +kernel
theorem dX8_apart_14 : decode cX8_apart 14 = .ok (.ifCond .eq 25, 3) := by decide +kernel
theorem dX8_apart_17 : decode cX8_apart 17 = .ok (.iload_n 2, 1) := by decide +kernel
theorem dX8_apart_18 : decode cX8_apart 18 = .ok (.i2l, 1) := by decide +kernel
theorem dX8_apart_19 : decode cX8_apart 19 = .ok (.lconst 0, 1) := by decide +kernel
theorem dX8_apart_20 : decode cX8_apart 20 = .ok (.ldc2_w 243, 3) := by decide +kernel
theorem dX8_apart_23 : decode cX8_apart 23 = .ok (.invokestatic 111, 3) := by decide +kernel
theorem dX8_apart_26 : decode cX8_apart 26 = .ok (.ifCond .eq 13, 3) := by decide +kernel
theorem dX8_apart_29 : decode cX8_apart 29 = .ok (.iload_n 3, 1) := by decide +kernel
theorem dX8_apart_30 : decode cX8_apart 30 = .ok (.iconst 0, 1) := by decide +kernel
theorem dX8_apart_31 : decode cX8_apart 31 = .ok (.bipush 9, 2) := by decide +kernel
theorem dX8_apart_33 : decode cX8_apart 33 = .ok (.invokestatic 235, 3) := by decide +kernel
theorem dX8_apart_36 : decode cX8_apart 36 = .ok (.goto 5, 3) := by decide +kernel
theorem dX8_apart_39 : decode cX8_apart 39 = .ok (.bipush (-2), 2) := by decide +kernel
theorem dX8_apart_41 : decode cX8_apart 41 = .ok (.istore 4, 2) := by decide +kernel
theorem dX8_apart_43 : decode cX8_apart 43 = .ok (.iload 4, 2) := by decide +kernel
theorem dX8_apart_45 : decode cX8_apart 45 = .ok (.ifCond .ge 10, 3) := by decide +kernel
theorem dX8_apart_48 : decode cX8_apart 48 = .ok (.aload_n 0, 1) := by decide +kernel
theorem dX8_apart_49 : decode cX8_apart 49 = .ok (.iload 4, 2) := by decide +kernel
theorem dX8_apart_51 : decode cX8_apart 51 = .ok (.invokevirtual 164, 3) := by decide +kernel
theorem dX8_apart_54 : decode cX8_apart 54 = .ok (.ireturn, 1) := by decide +kernel
theorem dX8_apart_55 : decode cX8_apart 55 = .ok (.iconst 0, 1) := by decide +kernel
theorem dX8_apart_56 : decode cX8_apart 56 = .ok (.istore 5, 2) := by decide +kernel
theorem dX8_apart_58 : decode cX8_apart 58 = .ok (.iload 5, 2) := by decide +kernel
theorem dX8_apart_60 : decode cX8_apart 60 = .ok (.sipush 729, 3) := by decide +kernel
theorem dX8_apart_63 : decode cX8_apart 63 = .ok (.if_icmp .ge 112, 3) := by decide +kernel
theorem dX8_apart_66 : decode cX8_apart 66 = .ok (.aload_n 0, 1) := by decide +kernel
theorem dX8_apart_67 : decode cX8_apart 67 = .ok (.iload 5, 2) := by decide +kernel
theorem dX8_apart_69 : decode cX8_apart 69 = .ok (.iconst 4, 1) := by decide +kernel
theorem dX8_apart_70 : decode cX8_apart 70 = .ok (.invokevirtual 309, 3) := by decide +kernel
theorem dX8_apart_73 : decode cX8_apart 73 = .ok (.aload_n 0, 1) := by decide +kernel
theorem dX8_apart_74 : decode cX8_apart 74 = .ok (.iload_n 1, 1) := by decide +kernel
theorem dX8_apart_75 : decode cX8_apart 75 = .ok (.iload_n 3, 1) := by decide +kernel
theorem dX8_apart_76 : decode cX8_apart 76 = .ok (.invokevirtual 146, 3) := by decide +kernel
theorem dX8_apart_79 : decode cX8_apart 79 = .ok (.iconst 0, 1) := by decide +kernel
theorem dX8_apart_80 : decode cX8_apart 80 = .ok (.istore 6, 2) := by decide +kernel
theorem dX8_apart_82 : decode cX8_apart 82 = .ok (.iload 6, 2) := by decide +kernel
theorem dX8_apart_84 : decode cX8_apart 84 = .ok (.iconst 3, 1) := by decide +kernel
theorem dX8_apart_85 : decode cX8_apart 85 = .ok (.if_icmp .ge 23, 3) := by decide +kernel
theorem dX8_apart_88 : decode cX8_apart 88 = .ok (.aload_n 0, 1) := by decide +kernel
theorem dX8_apart_89 : decode cX8_apart 89 = .ok (.getfield 90, 3) := by decide +kernel
theorem dX8_apart_92 : decode cX8_apart 92 = .ok (.iload 6, 2) := by decide +kernel
theorem dX8_apart_94 : decode cX8_apart 94 = .ok (.aload_n 0, 1) := by decide +kernel
theorem dX8_apart_95 : decode cX8_apart 95 = .ok (.getfield 35, 3) := by decide +kernel
theorem dX8_apart_98 : decode cX8_apart 98 = .ok (.iload 6, 2) := by decide +kernel
theorem dX8_apart_100 : decode cX8_apart 100 = .ok (.iaload, 1) := by decide +kernel
theorem dX8_apart_101 : decode cX8_apart 101 = .ok (.iastore, 1) := by decide +kernel
theorem dX8_apart_102 : decode cX8_apart 102 = .ok (.iinc 6 1, 3) := by decide +kernel
theorem dX8_apart_105 : decode cX8_apart 105 = .ok (.goto (-23), 3) := by decide +kernel
theorem dX8_apart_108 : decode cX8_apart 108 = .ok (.aload_n 0, 1) := by decide +kernel
theorem dX8_apart_109 : decode cX8_apart 109 = .ok (.iload 5, 2) := by decide +kernel
theorem dX8_apart_111 : decode cX8_apart 111 = .ok (.iconst 4, 1) := by decide +kernel
theorem dX8_apart_112 : decode cX8_apart 112 = .ok (.invokevirtual 309, 3) := by decide +kernel
theorem dX8_apart_115 : decode cX8_apart 115 = .ok (.aload_n 0, 1) := by decide +kernel
theorem dX8_apart_116 : decode cX8_apart 116 = .ok (.iload_n 2, 1) := by decide +kernel
theorem dX8_apart_117 : decode cX8_apart 117 = .ok (.iload_n 3, 1) := by decide +kernel
theorem dX8_apart_118 : decode cX8_apart 118 = .ok (.invokevirtual 146, 3) := by decide +kernel
theorem dX8_apart_121 : decode cX8_apart 121 = .ok (.aload_n 0, 1) := by decide +kernel
theorem dX8_apart_122 : decode cX8_apart 122 = .ok (.getfield 90, 3) := by decide +kernel
theorem dX8_apart_125 : decode cX8_apart 125 = .ok (.iconst 0, 1) := by decide +kernel
theorem dX8_apart_126 : decode cX8_apart 126 = .ok (.iaload, 1) := by decide +kernel
theorem dX8_apart_127 : decode cX8_apart 127 = .ok (.aload_n 0, 1) := by decide +kernel
theorem dX8_apart_128 : decode cX8_apart 128 = .ok (.getfield 35, 3) := by decide +kernel
theorem dX8_apart_131 : decode cX8_apart 131 = .ok (.iconst 0, 1) := by decide +kernel
theorem dX8_apart_132 : decode cX8_apart 132 = .ok (.iaload, 1) := by decide +kernel
theorem dX8_apart_133 : decode cX8_apart 133 = .ok (.if_icmp .ne 33, 3) := by decide +kernel
theorem dX8_apart_136 : decode cX8_apart 136 = .ok (.aload_n 0, 1) := by decide +kernel
theorem dX8_apart_137 : decode cX8_apart 137 = .ok (.getfield 90, 3) := by decide +kernel
theorem dX8_apart_140 : decode cX8_apart 140 = .ok (.iconst 1, 1) := by decide +kernel
theorem dX8_apart_141 : decode cX8_apart 141 = .ok (.iaload, 1) := by decide +kernel
theorem dX8_apart_142 : decode cX8_apart 142 = .ok (.aload_n 0, 1) := by decide +kernel
theorem dX8_apart_143 : decode cX8_apart 143 = .ok (.getfield 35, 3) := by decide +kernel
theorem dX8_apart_146 : decode cX8_apart 146 = .ok (.iconst 1, 1) := by decide +kernel
theorem dX8_apart_147 : decode cX8_apart 147 = .ok (.iaload, 1) := by decide +kernel
theorem dX8_apart_148 : decode cX8_apart 148 = .ok (.if_icmp .ne 18, 3) := by decide +kernel
theorem dX8_apart_151 : decode cX8_apart 151 = .ok (.aload_n 0, 1) := by decide +kernel
theorem dX8_apart_152 : decode cX8_apart 152 = .ok (.getfield 90, 3) := by decide +kernel
theorem dX8_apart_155 : decode cX8_apart 155 = .ok (.iconst 2, 1) := by decide +kernel
theorem dX8_apart_156 : decode cX8_apart 156 = .ok (.iaload, 1) := by decide +kernel
theorem dX8_apart_157 : decode cX8_apart 157 = .ok (.aload_n 0, 1) := by decide +kernel
theorem dX8_apart_158 : decode cX8_apart 158 = .ok (.getfield 35, 3) := by decide +kernel
theorem dX8_apart_161 : decode cX8_apart 161 = .ok (.iconst 2, 1) := by decide +kernel
theorem dX8_apart_162 : decode cX8_apart 162 = .ok (.iaload, 1) := by decide +kernel
theorem dX8_apart_163 : decode cX8_apart 163 = .ok (.if_icmp .eq 6, 3) := by decide +kernel
theorem dX8_apart_166 : decode cX8_apart 166 = .ok (.iload 5, 2) := by decide +kernel
theorem dX8_apart_168 : decode cX8_apart 168 = .ok (.ireturn, 1) := by decide +kernel
theorem dX8_apart_169 : decode cX8_apart 169 = .ok (.iinc 5 1, 3) := by decide +kernel
theorem dX8_apart_172 : decode cX8_apart 172 = .ok (.goto (-114), 3) := by decide +kernel
theorem dX8_apart_175 : decode cX8_apart 175 = .ok (.bipush (-9), 2) := by decide +kernel
theorem dX8_apart_177 : decode cX8_apart 177 = .ok (.ireturn, 1) := by decide +kernel
theorem dX8_divisor_0 : decode cX8_divisor 0 = .ok (.lload_n 0, 1) := by decide +kernel
theorem dX8_divisor_1 : decode cX8_divisor 1 = .ok (.lstore 4, 2) := by decide +kernel
theorem dX8_divisor_3 : decode cX8_divisor 3 = .ok (.lload_n 2, 1) := by decide +kernel
theorem dX8_divisor_4 : decode cX8_divisor 4 = .ok (.lstore 6, 2) := by decide +kernel
theorem dX8_divisor_6 : decode cX8_divisor 6 = .ok (.lload 6, 2) := by decide +kernel
theorem dX8_divisor_8 : decode cX8_divisor 8 = .ok (.lconst 0, 1) := by decide +kernel
theorem dX8_divisor_9 : decode cX8_divisor 9 = .ok (.lcmp, 1) := by decide +kernel
theorem dX8_divisor_10 : decode cX8_divisor 10 = .ok (.ifCond .eq 21, 3) := by decide +kernel
theorem dX8_divisor_13 : decode cX8_divisor 13 = .ok (.lload 4, 2) := by decide +kernel
theorem dX8_divisor_15 : decode cX8_divisor 15 = .ok (.lload 6, 2) := by decide +kernel
theorem dX8_divisor_17 : decode cX8_divisor 17 = .ok (.lrem, 1) := by decide +kernel
theorem dX8_divisor_18 : decode cX8_divisor 18 = .ok (.lstore 8, 2) := by decide +kernel
theorem dX8_divisor_20 : decode cX8_divisor 20 = .ok (.lload 6, 2) := by decide +kernel
theorem dX8_divisor_22 : decode cX8_divisor 22 = .ok (.lstore 4, 2) := by decide +kernel
theorem dX8_divisor_24 : decode cX8_divisor 24 = .ok (.lload 8, 2) := by decide +kernel
theorem dX8_divisor_26 : decode cX8_divisor 26 = .ok (.lstore 6, 2) := by decide +kernel
theorem dX8_divisor_28 : decode cX8_divisor 28 = .ok (.goto (-22), 3) := by decide +kernel
theorem dX8_divisor_31 : decode cX8_divisor 31 = .ok (.lload 4, 2) := by decide +kernel
theorem dX8_divisor_33 : decode cX8_divisor 33 = .ok (.lreturn, 1) := by decide +kernel
theorem dX8_bedtime_0 : decode cX8_bedtime 0 = .ok (.aload_n 0, 1) := by decide +kernel
theorem dX8_bedtime_1 : decode cX8_bedtime 1 = .ok (.iconst 0, 1) := by decide +kernel
theorem dX8_bedtime_2 : decode cX8_bedtime 2 = .ok (.putfield 105, 3) := by decide +kernel
theorem dX8_bedtime_5 : decode cX8_bedtime 5 = .ok (.iload_n 1, 1) := by decide +kernel
theorem dX8_bedtime_6 : decode cX8_bedtime 6 = .ok (.iconst 2, 1) := by decide +kernel
theorem dX8_bedtime_7 : decode cX8_bedtime 7 = .ok (.bipush 20, 2) := by decide +kernel
theorem dX8_bedtime_9 : decode cX8_bedtime 9 = .ok (.invokestatic 235, 3) := by decide +kernel
theorem dX8_bedtime_12 : decode cX8_bedtime 12 = .ok (.iload_n 2, 1) := by decide +kernel
theorem dX8_bedtime_13 : decode cX8_bedtime 13 = .ok (.iconst 1, 1) := by decide +kernel
theorem dX8_bedtime_14 : decode cX8_bedtime 14 = .ok (.invokestatic 279, 3) := by decide +kernel
theorem dX8_bedtime_17 : decode cX8_bedtime 17 = .ok (.istore_n 3, 1) := by decide +kernel
theorem dX8_bedtime_18 : decode cX8_bedtime 18 = .ok (.iload_n 3, 1) := by decide +kernel
theorem dX8_bedtime_19 : decode cX8_bedtime 19 = .ok (.ifCond .ge 14, 3) := by decide +kernel
theorem dX8_bedtime_22 : decode cX8_bedtime 22 = .ok (.ldc2_w 315, 3) := by decide +kernel
theorem dX8_bedtime_25 : decode cX8_bedtime 25 = .ok (.aload_n 0, 1) := by decide +kernel
theorem dX8_bedtime_26 : decode cX8_bedtime 26 = .ok (.iload_n 3, 1) := by decide +kernel
theorem dX8_bedtime_27 : decode cX8_bedtime 27 = .ok (.invokevirtual 164, 3) := by decide +kernel
theorem dX8_bedtime_30 : decode cX8_bedtime 30 = .ok (.i2l, 1) := by decide +kernel
theorem dX8_bedtime_31 : decode cX8_bedtime 31 = .ok (.lsub, 1) := by decide +kernel
theorem dX8_bedtime_32 : decode cX8_bedtime 32 = .ok (.lreturn, 1) := by decide +kernel
theorem dX8_bedtime_33 : decode cX8_bedtime 33 = .ok (.lconst 0, 1) := by decide +kernel
theorem dX8_bedtime_34 : decode cX8_bedtime 34 = .ok (.lstore 4, 2) := by decide +kernel
theorem dX8_bedtime_36 : decode cX8_bedtime 36 = .ok (.lconst 1, 1) := by decide +kernel
theorem dX8_bedtime_37 : decode cX8_bedtime 37 = .ok (.lstore 6, 2) := by decide +kernel
theorem dX8_bedtime_39 : decode cX8_bedtime 39 = .ok (.iconst 0, 1) := by decide +kernel
theorem dX8_bedtime_40 : decode cX8_bedtime 40 = .ok (.istore 8, 2) := by decide +kernel
theorem dX8_bedtime_42 : decode cX8_bedtime 42 = .ok (.iload 8, 2) := by decide +kernel
theorem dX8_bedtime_44 : decode cX8_bedtime 44 = .ok (.aload_n 0, 1) := by decide +kernel
theorem dX8_bedtime_45 : decode cX8_bedtime 45 = .ok (.getfield 108, 3) := by decide +kernel
theorem dX8_bedtime_48 : decode cX8_bedtime 48 = .ok (.if_icmp .ge 16, 3) := by decide +kernel
theorem dX8_bedtime_51 : decode cX8_bedtime 51 = .ok (.lload 6, 2) := by decide +kernel
theorem dX8_bedtime_53 : decode cX8_bedtime 53 = .ok (.iload_n 1, 1) := by decide +kernel
theorem dX8_bedtime_54 : decode cX8_bedtime 54 = .ok (.i2l, 1) := by decide +kernel
theorem dX8_bedtime_55 : decode cX8_bedtime 55 = .ok (.lmul, 1) := by decide +kernel
theorem dX8_bedtime_56 : decode cX8_bedtime 56 = .ok (.lstore 6, 2) := by decide +kernel
theorem dX8_bedtime_58 : decode cX8_bedtime 58 = .ok (.iinc 8 1, 3) := by decide +kernel
theorem dX8_bedtime_61 : decode cX8_bedtime 61 = .ok (.goto (-19), 3) := by decide +kernel
theorem dX8_bedtime_64 : decode cX8_bedtime 64 = .ok (.iconst 0, 1) := by decide +kernel
theorem dX8_bedtime_65 : decode cX8_bedtime 65 = .ok (.istore 8, 2) := by decide +kernel
theorem dX8_bedtime_67 : decode cX8_bedtime 67 = .ok (.iload 8, 2) := by decide +kernel
theorem dX8_bedtime_69 : decode cX8_bedtime 69 = .ok (.iconst 1, 1) := by decide +kernel
theorem dX8_bedtime_70 : decode cX8_bedtime 70 = .ok (.aload_n 0, 1) := by decide +kernel
theorem dX8_bedtime_71 : decode cX8_bedtime 71 = .ok (.getfield 108, 3) := by decide +kernel
theorem dX8_bedtime_74 : decode cX8_bedtime 74 = .ok (.ishl, 1) := by decide +kernel
theorem dX8_bedtime_75 : decode cX8_bedtime 75 = .ok (.if_icmp .ge 81, 3) := by decide +kernel
theorem dX8_bedtime_78 : decode cX8_bedtime 78 = .ok (.lconst 1, 1) := by decide +kernel
theorem dX8_bedtime_79 : decode cX8_bedtime 79 = .ok (.lstore 9, 2) := by decide +kernel
theorem dX8_bedtime_81 : decode cX8_bedtime 81 = .ok (.iconst 0, 1) := by decide +kernel
theorem dX8_bedtime_82 : decode cX8_bedtime 82 = .ok (.istore 11, 2) := by decide +kernel
theorem dX8_bedtime_84 : decode cX8_bedtime 84 = .ok (.iload 11, 2) := by decide +kernel
theorem dX8_bedtime_86 : decode cX8_bedtime 86 = .ok (.aload_n 0, 1) := by decide +kernel
theorem dX8_bedtime_87 : decode cX8_bedtime 87 = .ok (.getfield 108, 3) := by decide +kernel
theorem dX8_bedtime_90 : decode cX8_bedtime 90 = .ok (.if_icmp .ge 32, 3) := by decide +kernel
theorem dX8_bedtime_93 : decode cX8_bedtime 93 = .ok (.lload 9, 2) := by decide +kernel
theorem dX8_bedtime_95 : decode cX8_bedtime 95 = .ok (.iload 8, 2) := by decide +kernel
theorem dX8_bedtime_97 : decode cX8_bedtime 97 = .ok (.iload 11, 2) := by decide +kernel
theorem dX8_bedtime_99 : decode cX8_bedtime 99 = .ok (.invokestatic 150, 3) := by decide +kernel
theorem dX8_bedtime_102 : decode cX8_bedtime 102 = .ok (.ifCond .eq 7, 3) := by decide +kernel
theorem dX8_bedtime_105 : decode cX8_bedtime 105 = .ok (.lconst 1, 1) := by decide +kernel
theorem dX8_bedtime_106 : decode cX8_bedtime 106 = .ok (.goto 7, 3) := by decide +kernel
theorem dX8_bedtime_109 : decode cX8_bedtime 109 = .ok (.iload_n 1, 1) := by decide +kernel
theorem dX8_bedtime_110 : decode cX8_bedtime 110 = .ok (.iconst 1, 1) := by decide +kernel
theorem dX8_bedtime_111 : decode cX8_bedtime 111 = .ok (.isub, 1) := by decide +kernel
theorem dX8_bedtime_112 : decode cX8_bedtime 112 = .ok (.i2l, 1) := by decide +kernel
theorem dX8_bedtime_113 : decode cX8_bedtime 113 = .ok (.lmul, 1) := by decide +kernel
theorem dX8_bedtime_114 : decode cX8_bedtime 114 = .ok (.lstore 9, 2) := by decide +kernel
theorem dX8_bedtime_116 : decode cX8_bedtime 116 = .ok (.iinc 11 1, 3) := by decide +kernel
theorem dX8_bedtime_119 : decode cX8_bedtime 119 = .ok (.goto (-35), 3) := by decide +kernel
theorem dX8_bedtime_122 : decode cX8_bedtime 122 = .ok (.aload_n 0, 1) := by decide +kernel
theorem dX8_bedtime_123 : decode cX8_bedtime 123 = .ok (.invokevirtual 158, 3) := by decide +kernel
theorem dX8_bedtime_126 : decode cX8_bedtime 126 = .ok (.aload_n 0, 1) := by decide +kernel
theorem dX8_bedtime_127 : decode cX8_bedtime 127 = .ok (.iload 8, 2) := by decide +kernel
theorem dX8_bedtime_129 : decode cX8_bedtime 129 = .ok (.invokevirtual 161, 3) := by decide +kernel
theorem dX8_bedtime_132 : decode cX8_bedtime 132 = .ok (.lload 4, 2) := by decide +kernel
theorem dX8_bedtime_134 : decode cX8_bedtime 134 = .ok (.aload_n 0, 1) := by decide +kernel
theorem dX8_bedtime_135 : decode cX8_bedtime 135 = .ok (.invokevirtual 252, 3) := by decide +kernel
theorem dX8_bedtime_138 : decode cX8_bedtime 138 = .ok (.ifCond .eq 8, 3) := by decide +kernel
theorem dX8_bedtime_141 : decode cX8_bedtime 141 = .ok (.lload 9, 2) := by decide +kernel
theorem dX8_bedtime_143 : decode cX8_bedtime 143 = .ok (.goto 4, 3) := by decide +kernel
theorem dX8_bedtime_146 : decode cX8_bedtime 146 = .ok (.lconst 0, 1) := by decide +kernel
theorem dX8_bedtime_147 : decode cX8_bedtime 147 = .ok (.ladd, 1) := by decide +kernel
theorem dX8_bedtime_148 : decode cX8_bedtime 148 = .ok (.lstore 4, 2) := by decide +kernel
theorem dX8_bedtime_150 : decode cX8_bedtime 150 = .ok (.iinc 8 1, 3) := by decide +kernel
theorem dX8_bedtime_153 : decode cX8_bedtime 153 = .ok (.goto (-86), 3) := by decide +kernel
theorem dX8_bedtime_156 : decode cX8_bedtime 156 = .ok (.lload 4, 2) := by decide +kernel
theorem dX8_bedtime_158 : decode cX8_bedtime 158 = .ok (.lconst 0, 1) := by decide +kernel
theorem dX8_bedtime_159 : decode cX8_bedtime 159 = .ok (.lcmp, 1) := by decide +kernel
theorem dX8_bedtime_160 : decode cX8_bedtime 160 = .ok (.ifCond .ne 6, 3) := by decide +kernel
theorem dX8_bedtime_163 : decode cX8_bedtime 163 = .ok (.iload_n 2, 1) := by decide +kernel
theorem dX8_bedtime_164 : decode cX8_bedtime 164 = .ok (.i2l, 1) := by decide +kernel
theorem dX8_bedtime_165 : decode cX8_bedtime 165 = .ok (.lreturn, 1) := by decide +kernel
theorem dX8_bedtime_166 : decode cX8_bedtime 166 = .ok (.lload 4, 2) := by decide +kernel
theorem dX8_bedtime_168 : decode cX8_bedtime 168 = .ok (.lload 6, 2) := by decide +kernel
theorem dX8_bedtime_170 : decode cX8_bedtime 170 = .ok (.invokestatic 317, 3) := by decide +kernel
theorem dX8_bedtime_173 : decode cX8_bedtime 173 = .ok (.lstore 8, 2) := by decide +kernel
theorem dX8_bedtime_175 : decode cX8_bedtime 175 = .ok (.iload_n 2, 1) := by decide +kernel
theorem dX8_bedtime_176 : decode cX8_bedtime 176 = .ok (.ifCond .ne 11, 3) := by decide +kernel
theorem dX8_bedtime_179 : decode cX8_bedtime 179 = .ok (.lload 4, 2) := by decide +kernel
theorem dX8_bedtime_181 : decode cX8_bedtime 181 = .ok (.lload 8, 2) := by decide +kernel
theorem dX8_bedtime_183 : decode cX8_bedtime 183 = .ok (.ldiv, 1) := by decide +kernel
theorem dX8_bedtime_184 : decode cX8_bedtime 184 = .ok (.goto 8, 3) := by decide +kernel
theorem dX8_bedtime_187 : decode cX8_bedtime 187 = .ok (.lload 6, 2) := by decide +kernel
theorem dX8_bedtime_189 : decode cX8_bedtime 189 = .ok (.lload 8, 2) := by decide +kernel
theorem dX8_bedtime_191 : decode cX8_bedtime 191 = .ok (.ldiv, 1) := by decide +kernel
theorem dX8_bedtime_192 : decode cX8_bedtime 192 = .ok (.lreturn, 1) := by decide +kernel
theorem dX8_change_0 : decode cX8_change 0 = .ok (.aload_n 0, 1) := by decide +kernel
theorem dX8_change_1 : decode cX8_change 1 = .ok (.getfield 7, 3) := by decide +kernel
theorem dX8_change_4 : decode cX8_change 4 = .ok (.iload_n 1, 1) := by decide +kernel
theorem dX8_change_5 : decode cX8_change 5 = .ok (.iaload, 1) := by decide +kernel
theorem dX8_change_6 : decode cX8_change 6 = .ok (.istore_n 3, 1) := by decide +kernel
theorem dX8_change_7 : decode cX8_change 7 = .ok (.aload_n 0, 1) := by decide +kernel
theorem dX8_change_8 : decode cX8_change 8 = .ok (.getfield 13, 3) := by decide +kernel
theorem dX8_change_11 : decode cX8_change 11 = .ok (.iload_n 1, 1) := by decide +kernel
theorem dX8_change_12 : decode cX8_change 12 = .ok (.iaload, 1) := by decide +kernel
theorem dX8_change_13 : decode cX8_change 13 = .ok (.istore 4, 2) := by decide +kernel
theorem dX8_change_15 : decode cX8_change 15 = .ok (.aload_n 0, 1) := by decide +kernel
theorem dX8_change_16 : decode cX8_change 16 = .ok (.getfield 7, 3) := by decide +kernel
theorem dX8_change_19 : decode cX8_change 19 = .ok (.iload_n 1, 1) := by decide +kernel
theorem dX8_change_20 : decode cX8_change 20 = .ok (.aload_n 0, 1) := by decide +kernel
theorem dX8_change_21 : decode cX8_change 21 = .ok (.getfield 7, 3) := by decide +kernel
theorem dX8_change_24 : decode cX8_change 24 = .ok (.iload_n 2, 1) := by decide +kernel
theorem dX8_change_25 : decode cX8_change 25 = .ok (.iaload, 1) := by decide +kernel
theorem dX8_change_26 : decode cX8_change 26 = .ok (.iastore, 1) := by decide +kernel
theorem dX8_change_27 : decode cX8_change 27 = .ok (.aload_n 0, 1) := by decide +kernel
theorem dX8_change_28 : decode cX8_change 28 = .ok (.getfield 13, 3) := by decide +kernel
theorem dX8_change_31 : decode cX8_change 31 = .ok (.iload_n 1, 1) := by decide +kernel
theorem dX8_change_32 : decode cX8_change 32 = .ok (.aload_n 0, 1) := by decide +kernel
theorem dX8_change_33 : decode cX8_change 33 = .ok (.getfield 13, 3) := by decide +kernel
theorem dX8_change_36 : decode cX8_change 36 = .ok (.iload_n 2, 1) := by decide +kernel
theorem dX8_change_37 : decode cX8_change 37 = .ok (.iaload, 1) := by decide +kernel
theorem dX8_change_38 : decode cX8_change 38 = .ok (.iastore, 1) := by decide +kernel
theorem dX8_change_39 : decode cX8_change 39 = .ok (.aload_n 0, 1) := by decide +kernel
theorem dX8_change_40 : decode cX8_change 40 = .ok (.getfield 7, 3) := by decide +kernel
theorem dX8_change_43 : decode cX8_change 43 = .ok (.iload_n 2, 1) := by decide +kernel
theorem dX8_change_44 : decode cX8_change 44 = .ok (.iload_n 3, 1) := by decide +kernel
theorem dX8_change_45 : decode cX8_change 45 = .ok (.iastore, 1) := by decide +kernel
theorem dX8_change_46 : decode cX8_change 46 = .ok (.aload_n 0, 1) := by decide +kernel
theorem dX8_change_47 : decode cX8_change 47 = .ok (.getfield 13, 3) := by decide +kernel
theorem dX8_change_50 : decode cX8_change 50 = .ok (.iload_n 2, 1) := by decide +kernel
theorem dX8_change_51 : decode cX8_change 51 = .ok (.iload 4, 2) := by decide +kernel
theorem dX8_change_53 : decode cX8_change 53 = .ok (.iastore, 1) := by decide +kernel
theorem dX8_change_54 : decode cX8_change 54 = .ok (.return_, 1) := by decide +kernel
theorem dX8_order_0 : decode cX8_order 0 = .ok (.aload_n 0, 1) := by decide +kernel
theorem dX8_order_1 : decode cX8_order 1 = .ok (.iconst 0, 1) := by decide +kernel
theorem dX8_order_2 : decode cX8_order 2 = .ok (.putfield 105, 3) := by decide +kernel
theorem dX8_order_5 : decode cX8_order 5 = .ok (.aload_n 0, 1) := by decide +kernel
theorem dX8_order_6 : decode cX8_order 6 = .ok (.invokevirtual 297, 3) := by decide +kernel
theorem dX8_order_9 : decode cX8_order 9 = .ok (.istore_n 1, 1) := by decide +kernel
theorem dX8_order_10 : decode cX8_order 10 = .ok (.bipush (-9), 2) := by decide +kernel
theorem dX8_order_12 : decode cX8_order 12 = .ok (.istore_n 2, 1) := by decide +kernel
theorem dX8_order_13 : decode cX8_order 13 = .ok (.iconst 0, 1) := by decide +kernel
theorem dX8_order_14 : decode cX8_order 14 = .ok (.istore_n 3, 1) := by decide +kernel
theorem dX8_order_15 : decode cX8_order 15 = .ok (.iload_n 3, 1) := by decide +kernel
theorem dX8_order_16 : decode cX8_order 16 = .ok (.aload_n 0, 1) := by decide +kernel
theorem dX8_order_17 : decode cX8_order 17 = .ok (.getfield 108, 3) := by decide +kernel
theorem dX8_order_20 : decode cX8_order 20 = .ok (.if_icmp .ge 80, 3) := by decide +kernel
theorem dX8_order_23 : decode cX8_order 23 = .ok (.iload_n 3, 1) := by decide +kernel
theorem dX8_order_24 : decode cX8_order 24 = .ok (.iconst 1, 1) := by decide +kernel
theorem dX8_order_25 : decode cX8_order 25 = .ok (.iadd, 1) := by decide +kernel
theorem dX8_order_26 : decode cX8_order 26 = .ok (.istore 4, 2) := by decide +kernel
theorem dX8_order_28 : decode cX8_order 28 = .ok (.iload 4, 2) := by decide +kernel
theorem dX8_order_30 : decode cX8_order 30 = .ok (.aload_n 0, 1) := by decide +kernel
theorem dX8_order_31 : decode cX8_order 31 = .ok (.getfield 108, 3) := by decide +kernel
theorem dX8_order_34 : decode cX8_order 34 = .ok (.if_icmp .ge 60, 3) := by decide +kernel
theorem dX8_order_37 : decode cX8_order 37 = .ok (.aload_n 0, 1) := by decide +kernel
theorem dX8_order_38 : decode cX8_order 38 = .ok (.iload_n 3, 1) := by decide +kernel
theorem dX8_order_39 : decode cX8_order 39 = .ok (.iload 4, 2) := by decide +kernel
theorem dX8_order_41 : decode cX8_order 41 = .ok (.invokevirtual 321, 3) := by decide +kernel
theorem dX8_order_44 : decode cX8_order 44 = .ok (.aload_n 0, 1) := by decide +kernel
theorem dX8_order_45 : decode cX8_order 45 = .ok (.invokevirtual 297, 3) := by decide +kernel
theorem dX8_order_48 : decode cX8_order 48 = .ok (.istore 5, 2) := by decide +kernel
theorem dX8_order_50 : decode cX8_order 50 = .ok (.aload_n 0, 1) := by decide +kernel
theorem dX8_order_51 : decode cX8_order 51 = .ok (.iload_n 3, 1) := by decide +kernel
theorem dX8_order_52 : decode cX8_order 52 = .ok (.iload 4, 2) := by decide +kernel
theorem dX8_order_54 : decode cX8_order 54 = .ok (.invokevirtual 321, 3) := by decide +kernel
theorem dX8_order_57 : decode cX8_order 57 = .ok (.iload 5, 2) := by decide +kernel
theorem dX8_order_59 : decode cX8_order 59 = .ok (.iload_n 1, 1) := by decide +kernel
theorem dX8_order_60 : decode cX8_order 60 = .ok (.if_icmp .le 13, 3) := by decide +kernel
theorem dX8_order_63 : decode cX8_order 63 = .ok (.bipush 10, 2) := by decide +kernel
theorem dX8_order_65 : decode cX8_order 65 = .ok (.iload_n 3, 1) := by decide +kernel
theorem dX8_order_66 : decode cX8_order 66 = .ok (.imul, 1) := by decide +kernel
theorem dX8_order_67 : decode cX8_order 67 = .ok (.iload 4, 2) := by decide +kernel
theorem dX8_order_69 : decode cX8_order 69 = .ok (.iadd, 1) := by decide +kernel
theorem dX8_order_70 : decode cX8_order 70 = .ok (.goto 4, 3) := by decide +kernel
theorem dX8_order_73 : decode cX8_order 73 = .ok (.iload_n 2, 1) := by decide +kernel
theorem dX8_order_74 : decode cX8_order 74 = .ok (.istore_n 2, 1) := by decide +kernel
theorem dX8_order_75 : decode cX8_order 75 = .ok (.iload 5, 2) := by decide +kernel
theorem dX8_order_77 : decode cX8_order 77 = .ok (.iload_n 1, 1) := by decide +kernel
theorem dX8_order_78 : decode cX8_order 78 = .ok (.if_icmp .le 8, 3) := by decide +kernel
theorem dX8_order_81 : decode cX8_order 81 = .ok (.iload 5, 2) := by decide +kernel
theorem dX8_order_83 : decode cX8_order 83 = .ok (.goto 4, 3) := by decide +kernel
theorem dX8_order_86 : decode cX8_order 86 = .ok (.iload_n 1, 1) := by decide +kernel
theorem dX8_order_87 : decode cX8_order 87 = .ok (.istore_n 1, 1) := by decide +kernel
theorem dX8_order_88 : decode cX8_order 88 = .ok (.iinc 4 1, 3) := by decide +kernel
theorem dX8_order_91 : decode cX8_order 91 = .ok (.goto (-63), 3) := by decide +kernel
theorem dX8_order_94 : decode cX8_order 94 = .ok (.iinc 3 1, 3) := by decide +kernel
theorem dX8_order_97 : decode cX8_order 97 = .ok (.goto (-82), 3) := by decide +kernel
theorem dX8_order_100 : decode cX8_order 100 = .ok (.iload_n 2, 1) := by decide +kernel
theorem dX8_order_101 : decode cX8_order 101 = .ok (.ireturn, 1) := by decide +kernel
theorem dX8_ordersOf_0 : decode cX8_ordersOf 0 = .ok (.iconst 1, 1) := by decide +kernel
theorem dX8_ordersOf_1 : decode cX8_ordersOf 1 = .ok (.istore_n 1, 1) := by decide +kernel
theorem dX8_ordersOf_2 : decode cX8_ordersOf 2 = .ok (.iconst 2, 1) := by decide +kernel
theorem dX8_ordersOf_3 : decode cX8_ordersOf 3 = .ok (.istore_n 2, 1) := by decide +kernel
theorem dX8_ordersOf_4 : decode cX8_ordersOf 4 = .ok (.iload_n 2, 1) := by decide +kernel
theorem dX8_ordersOf_5 : decode cX8_ordersOf 5 = .ok (.iload_n 0, 1) := by decide +kernel
theorem dX8_ordersOf_6 : decode cX8_ordersOf 6 = .ok (.if_icmp .gt 13, 3) := by decide +kernel
theorem dX8_ordersOf_9 : decode cX8_ordersOf 9 = .ok (.iload_n 1, 1) := by decide +kernel
theorem dX8_ordersOf_10 : decode cX8_ordersOf 10 = .ok (.iload_n 2, 1) := by decide +kernel
theorem dX8_ordersOf_11 : decode cX8_ordersOf 11 = .ok (.imul, 1) := by decide +kernel
theorem dX8_ordersOf_12 : decode cX8_ordersOf 12 = .ok (.istore_n 1, 1) := by decide +kernel
theorem dX8_ordersOf_13 : decode cX8_ordersOf 13 = .ok (.iinc 2 1, 3) := by decide +kernel
theorem dX8_ordersOf_16 : decode cX8_ordersOf 16 = .ok (.goto (-12), 3) := by decide +kernel
theorem dX8_ordersOf_19 : decode cX8_ordersOf 19 = .ok (.iload_n 1, 1) := by decide +kernel
theorem dX8_ordersOf_20 : decode cX8_ordersOf 20 = .ok (.ireturn, 1) := by decide +kernel
theorem dX8_layOrder_0 : decode cX8_layOrder 0 = .ok (.iload_n 1, 1) := by decide +kernel
theorem dX8_layOrder_1 : decode cX8_layOrder 1 = .ok (.istore_n 3, 1) := by decide +kernel
theorem dX8_layOrder_2 : decode cX8_layOrder 2 = .ok (.iconst 0, 1) := by decide +kernel
theorem dX8_layOrder_3 : decode cX8_layOrder 3 = .ok (.istore 4, 2) := by decide +kernel
theorem dX8_layOrder_5 : decode cX8_layOrder 5 = .ok (.iconst 0, 1) := by decide +kernel
theorem dX8_layOrder_6 : decode cX8_layOrder 6 = .ok (.istore 5, 2) := by decide +kernel
theorem dX8_layOrder_8 : decode cX8_layOrder 8 = .ok (.iload 5, 2) := by decide +kernel
theorem dX8_layOrder_10 : decode cX8_layOrder 10 = .ok (.iload_n 2, 1) := by decide +kernel
theorem dX8_layOrder_11 : decode cX8_layOrder 11 = .ok (.if_icmp .ge 93, 3) := by decide +kernel
theorem dX8_layOrder_14 : decode cX8_layOrder 14 = .ok (.iload_n 2, 1) := by decide +kernel
theorem dX8_layOrder_15 : decode cX8_layOrder 15 = .ok (.iconst 1, 1) := by decide +kernel
theorem dX8_layOrder_16 : decode cX8_layOrder 16 = .ok (.isub, 1) := by decide +kernel
theorem dX8_layOrder_17 : decode cX8_layOrder 17 = .ok (.iload 5, 2) := by decide +kernel
theorem dX8_layOrder_19 : decode cX8_layOrder 19 = .ok (.isub, 1) := by decide +kernel
theorem dX8_layOrder_20 : decode cX8_layOrder 20 = .ok (.invokestatic 324, 3) := by decide +kernel
theorem dX8_layOrder_23 : decode cX8_layOrder 23 = .ok (.istore 6, 2) := by decide +kernel
theorem dX8_layOrder_25 : decode cX8_layOrder 25 = .ok (.iload_n 3, 1) := by decide +kernel
theorem dX8_layOrder_26 : decode cX8_layOrder 26 = .ok (.iload 6, 2) := by decide +kernel
theorem dX8_layOrder_28 : decode cX8_layOrder 28 = .ok (.idiv, 1) := by decide +kernel
theorem dX8_layOrder_29 : decode cX8_layOrder 29 = .ok (.istore 7, 2) := by decide +kernel
theorem dX8_layOrder_31 : decode cX8_layOrder 31 = .ok (.iload_n 3, 1) := by decide +kernel
theorem dX8_layOrder_32 : decode cX8_layOrder 32 = .ok (.iload 6, 2) := by decide +kernel
theorem dX8_layOrder_34 : decode cX8_layOrder 34 = .ok (.irem, 1) := by decide +kernel
theorem dX8_layOrder_35 : decode cX8_layOrder 35 = .ok (.istore_n 3, 1) := by decide +kernel
theorem dX8_layOrder_36 : decode cX8_layOrder 36 = .ok (.iconst 0, 1) := by decide +kernel
theorem dX8_layOrder_37 : decode cX8_layOrder 37 = .ok (.istore 8, 2) := by decide +kernel
theorem dX8_layOrder_39 : decode cX8_layOrder 39 = .ok (.iload 4, 2) := by decide +kernel
theorem dX8_layOrder_41 : decode cX8_layOrder 41 = .ok (.iload 8, 2) := by decide +kernel
theorem dX8_layOrder_43 : decode cX8_layOrder 43 = .ok (.invokestatic 150, 3) := by decide +kernel
theorem dX8_layOrder_46 : decode cX8_layOrder 46 = .ok (.ifCond .ne 8, 3) := by decide +kernel
theorem dX8_layOrder_49 : decode cX8_layOrder 49 = .ok (.iload 7, 2) := by decide +kernel
theorem dX8_layOrder_51 : decode cX8_layOrder 51 = .ok (.ifCond .le 29, 3) := by decide +kernel
theorem dX8_layOrder_54 : decode cX8_layOrder 54 = .ok (.iload 7, 2) := by decide +kernel
theorem dX8_layOrder_56 : decode cX8_layOrder 56 = .ok (.iload 4, 2) := by decide +kernel
theorem dX8_layOrder_58 : decode cX8_layOrder 58 = .ok (.iload 8, 2) := by decide +kernel
theorem dX8_layOrder_60 : decode cX8_layOrder 60 = .ok (.invokestatic 150, 3) := by decide +kernel
theorem dX8_layOrder_63 : decode cX8_layOrder 63 = .ok (.ifCond .eq 7, 3) := by decide +kernel
theorem dX8_layOrder_66 : decode cX8_layOrder 66 = .ok (.iconst 0, 1) := by decide +kernel
theorem dX8_layOrder_67 : decode cX8_layOrder 67 = .ok (.goto 4, 3) := by decide +kernel
theorem dX8_layOrder_70 : decode cX8_layOrder 70 = .ok (.iconst 1, 1) := by decide +kernel
theorem dX8_layOrder_71 : decode cX8_layOrder 71 = .ok (.isub, 1) := by decide +kernel
theorem dX8_layOrder_72 : decode cX8_layOrder 72 = .ok (.istore 7, 2) := by decide +kernel
theorem dX8_layOrder_74 : decode cX8_layOrder 74 = .ok (.iinc 8 1, 3) := by decide +kernel
theorem dX8_layOrder_77 : decode cX8_layOrder 77 = .ok (.goto (-38), 3) := by decide +kernel
theorem dX8_layOrder_80 : decode cX8_layOrder 80 = .ok (.aload_n 0, 1) := by decide +kernel
theorem dX8_layOrder_81 : decode cX8_layOrder 81 = .ok (.getfield 93, 3) := by decide +kernel
theorem dX8_layOrder_84 : decode cX8_layOrder 84 = .ok (.iload 5, 2) := by decide +kernel
theorem dX8_layOrder_86 : decode cX8_layOrder 86 = .ok (.iload 8, 2) := by decide +kernel
theorem dX8_layOrder_88 : decode cX8_layOrder 88 = .ok (.iastore, 1) := by decide +kernel
theorem dX8_layOrder_89 : decode cX8_layOrder 89 = .ok (.iload 4, 2) := by decide +kernel
theorem dX8_layOrder_91 : decode cX8_layOrder 91 = .ok (.iconst 1, 1) := by decide +kernel
theorem dX8_layOrder_92 : decode cX8_layOrder 92 = .ok (.iload 8, 2) := by decide +kernel
theorem dX8_layOrder_94 : decode cX8_layOrder 94 = .ok (.ishl, 1) := by decide +kernel
theorem dX8_layOrder_95 : decode cX8_layOrder 95 = .ok (.ior, 1) := by decide +kernel
theorem dX8_layOrder_96 : decode cX8_layOrder 96 = .ok (.istore 4, 2) := by decide +kernel
theorem dX8_layOrder_98 : decode cX8_layOrder 98 = .ok (.iinc 5 1, 3) := by decide +kernel
theorem dX8_layOrder_101 : decode cX8_layOrder 101 = .ok (.goto (-93), 3) := by decide +kernel
theorem dX8_layOrder_104 : decode cX8_layOrder 104 = .ok (.return_, 1) := by decide +kernel
theorem dX8_sumByOrder_0 : decode cX8_sumByOrder 0 = .ok (.aload_n 0, 1) := by decide +kernel
theorem dX8_sumByOrder_1 : decode cX8_sumByOrder 1 = .ok (.iload_n 1, 1) := by decide +kernel
theorem dX8_sumByOrder_2 : decode cX8_sumByOrder 2 = .ok (.aload_n 0, 1) := by decide +kernel
theorem dX8_sumByOrder_3 : decode cX8_sumByOrder 3 = .ok (.getfield 108, 3) := by decide +kernel
theorem dX8_sumByOrder_6 : decode cX8_sumByOrder 6 = .ok (.invokevirtual 327, 3) := by decide +kernel
theorem dX8_sumByOrder_9 : decode cX8_sumByOrder 9 = .ok (.aload_n 0, 1) := by decide +kernel
theorem dX8_sumByOrder_10 : decode cX8_sumByOrder 10 = .ok (.invokevirtual 158, 3) := by decide +kernel
theorem dX8_sumByOrder_13 : decode cX8_sumByOrder 13 = .ok (.iconst 0, 1) := by decide +kernel
theorem dX8_sumByOrder_14 : decode cX8_sumByOrder 14 = .ok (.istore_n 2, 1) := by decide +kernel
theorem dX8_sumByOrder_15 : decode cX8_sumByOrder 15 = .ok (.iload_n 2, 1) := by decide +kernel
theorem dX8_sumByOrder_16 : decode cX8_sumByOrder 16 = .ok (.aload_n 0, 1) := by decide +kernel
theorem dX8_sumByOrder_17 : decode cX8_sumByOrder 17 = .ok (.getfield 108, 3) := by decide +kernel
theorem dX8_sumByOrder_20 : decode cX8_sumByOrder 20 = .ok (.if_icmp .ge 19, 3) := by decide +kernel
theorem dX8_sumByOrder_23 : decode cX8_sumByOrder 23 = .ok (.aload_n 0, 1) := by decide +kernel
theorem dX8_sumByOrder_24 : decode cX8_sumByOrder 24 = .ok (.aload_n 0, 1) := by decide +kernel
theorem dX8_sumByOrder_25 : decode cX8_sumByOrder 25 = .ok (.getfield 93, 3) := by decide +kernel
theorem dX8_sumByOrder_28 : decode cX8_sumByOrder 28 = .ok (.iload_n 2, 1) := by decide +kernel
theorem dX8_sumByOrder_29 : decode cX8_sumByOrder 29 = .ok (.iaload, 1) := by decide +kernel
theorem dX8_sumByOrder_30 : decode cX8_sumByOrder 30 = .ok (.invokevirtual 154, 3) := by decide +kernel
theorem dX8_sumByOrder_33 : decode cX8_sumByOrder 33 = .ok (.iinc 2 1, 3) := by decide +kernel
theorem dX8_sumByOrder_36 : decode cX8_sumByOrder 36 = .ok (.goto (-21), 3) := by decide +kernel
theorem dX8_sumByOrder_39 : decode cX8_sumByOrder 39 = .ok (.aload_n 0, 1) := by decide +kernel
theorem dX8_sumByOrder_40 : decode cX8_sumByOrder 40 = .ok (.invokevirtual 118, 3) := by decide +kernel
theorem dX8_sumByOrder_43 : decode cX8_sumByOrder 43 = .ok (.ireturn, 1) := by decide +kernel
theorem dX8_bestOrder_0 : decode cX8_bestOrder 0 = .ok (.aload_n 0, 1) := by decide +kernel
theorem dX8_bestOrder_1 : decode cX8_bestOrder 1 = .ok (.iconst 0, 1) := by decide +kernel
theorem dX8_bestOrder_2 : decode cX8_bestOrder 2 = .ok (.putfield 105, 3) := by decide +kernel
theorem dX8_bestOrder_5 : decode cX8_bestOrder 5 = .ok (.aload_n 0, 1) := by decide +kernel
theorem dX8_bestOrder_6 : decode cX8_bestOrder 6 = .ok (.getfield 108, 3) := by decide +kernel
theorem dX8_bestOrder_9 : decode cX8_bestOrder 9 = .ok (.iconst 5, 1) := by decide +kernel
theorem dX8_bestOrder_10 : decode cX8_bestOrder 10 = .ok (.if_icmp .le 8, 3) := by decide +kernel
theorem dX8_bestOrder_13 : decode cX8_bestOrder 13 = .ok (.bipush (-3), 2) := by decide +kernel
theorem dX8_bestOrder_15 : decode cX8_bestOrder 15 = .ok (.goto 14, 3) := by decide +kernel
theorem dX8_bestOrder_18 : decode cX8_bestOrder 18 = .ok (.iload_n 1, 1) := by decide +kernel
theorem dX8_bestOrder_19 : decode cX8_bestOrder 19 = .ok (.iconst (-1), 1) := by decide +kernel
theorem dX8_bestOrder_20 : decode cX8_bestOrder 20 = .ok (.if_icmp .ge 8, 3) := by decide +kernel
theorem dX8_bestOrder_23 : decode cX8_bestOrder 23 = .ok (.bipush (-4), 2) := by decide +kernel
theorem dX8_bestOrder_25 : decode cX8_bestOrder 25 = .ok (.goto 4, 3) := by decide +kernel
theorem dX8_bestOrder_28 : decode cX8_bestOrder 28 = .ok (.iconst 0, 1) := by decide +kernel
theorem dX8_bestOrder_29 : decode cX8_bestOrder 29 = .ok (.istore_n 2, 1) := by decide +kernel
theorem dX8_bestOrder_30 : decode cX8_bestOrder 30 = .ok (.iload_n 2, 1) := by decide +kernel
theorem dX8_bestOrder_31 : decode cX8_bestOrder 31 = .ok (.ifCond .ge 12, 3) := by decide +kernel
theorem dX8_bestOrder_34 : decode cX8_bestOrder 34 = .ok (.ldc 239, 2) := by decide +kernel
theorem dX8_bestOrder_36 : decode cX8_bestOrder 36 = .ok (.aload_n 0, 1) := by decide +kernel
theorem dX8_bestOrder_37 : decode cX8_bestOrder 37 = .ok (.iload_n 2, 1) := by decide +kernel
theorem dX8_bestOrder_38 : decode cX8_bestOrder 38 = .ok (.invokevirtual 164, 3) := by decide +kernel
theorem dX8_bestOrder_41 : decode cX8_bestOrder 41 = .ok (.isub, 1) := by decide +kernel
theorem dX8_bestOrder_42 : decode cX8_bestOrder 42 = .ok (.ireturn, 1) := by decide +kernel
theorem dX8_bestOrder_43 : decode cX8_bestOrder 43 = .ok (.iconst 0, 1) := by decide +kernel
theorem dX8_bestOrder_44 : decode cX8_bestOrder 44 = .ok (.istore_n 3, 1) := by decide +kernel
theorem dX8_bestOrder_45 : decode cX8_bestOrder 45 = .ok (.aload_n 0, 1) := by decide +kernel
theorem dX8_bestOrder_46 : decode cX8_bestOrder 46 = .ok (.iconst 0, 1) := by decide +kernel
theorem dX8_bestOrder_47 : decode cX8_bestOrder 47 = .ok (.invokevirtual 330, 3) := by decide +kernel
theorem dX8_bestOrder_50 : decode cX8_bestOrder 50 = .ok (.istore 4, 2) := by decide +kernel
theorem dX8_bestOrder_52 : decode cX8_bestOrder 52 = .ok (.aload_n 0, 1) := by decide +kernel
theorem dX8_bestOrder_53 : decode cX8_bestOrder 53 = .ok (.getfield 108, 3) := by decide +kernel
theorem dX8_bestOrder_56 : decode cX8_bestOrder 56 = .ok (.invokestatic 324, 3) := by decide +kernel
theorem dX8_bestOrder_59 : decode cX8_bestOrder 59 = .ok (.istore 5, 2) := by decide +kernel
theorem dX8_bestOrder_61 : decode cX8_bestOrder 61 = .ok (.iconst 1, 1) := by decide +kernel
theorem dX8_bestOrder_62 : decode cX8_bestOrder 62 = .ok (.istore 6, 2) := by decide +kernel
theorem dX8_bestOrder_64 : decode cX8_bestOrder 64 = .ok (.iload 6, 2) := by decide +kernel
theorem dX8_bestOrder_66 : decode cX8_bestOrder 66 = .ok (.iload 5, 2) := by decide +kernel
theorem dX8_bestOrder_68 : decode cX8_bestOrder 68 = .ok (.if_icmp .ge 47, 3) := by decide +kernel
theorem dX8_bestOrder_71 : decode cX8_bestOrder 71 = .ok (.aload_n 0, 1) := by decide +kernel
theorem dX8_bestOrder_72 : decode cX8_bestOrder 72 = .ok (.iload 6, 2) := by decide +kernel
theorem dX8_bestOrder_74 : decode cX8_bestOrder 74 = .ok (.invokevirtual 330, 3) := by decide +kernel
theorem dX8_bestOrder_77 : decode cX8_bestOrder 77 = .ok (.istore 7, 2) := by decide +kernel
theorem dX8_bestOrder_79 : decode cX8_bestOrder 79 = .ok (.iload 7, 2) := by decide +kernel
theorem dX8_bestOrder_81 : decode cX8_bestOrder 81 = .ok (.iload 4, 2) := by decide +kernel
theorem dX8_bestOrder_83 : decode cX8_bestOrder 83 = .ok (.if_icmp .le 8, 3) := by decide +kernel
theorem dX8_bestOrder_86 : decode cX8_bestOrder 86 = .ok (.iload 6, 2) := by decide +kernel
theorem dX8_bestOrder_88 : decode cX8_bestOrder 88 = .ok (.goto 4, 3) := by decide +kernel
theorem dX8_bestOrder_91 : decode cX8_bestOrder 91 = .ok (.iload_n 3, 1) := by decide +kernel
theorem dX8_bestOrder_92 : decode cX8_bestOrder 92 = .ok (.istore_n 3, 1) := by decide +kernel
theorem dX8_bestOrder_93 : decode cX8_bestOrder 93 = .ok (.iload 7, 2) := by decide +kernel
theorem dX8_bestOrder_95 : decode cX8_bestOrder 95 = .ok (.iload 4, 2) := by decide +kernel
theorem dX8_bestOrder_97 : decode cX8_bestOrder 97 = .ok (.if_icmp .le 8, 3) := by decide +kernel
theorem dX8_bestOrder_100 : decode cX8_bestOrder 100 = .ok (.iload 7, 2) := by decide +kernel
theorem dX8_bestOrder_102 : decode cX8_bestOrder 102 = .ok (.goto 5, 3) := by decide +kernel
theorem dX8_bestOrder_105 : decode cX8_bestOrder 105 = .ok (.iload 4, 2) := by decide +kernel
theorem dX8_bestOrder_107 : decode cX8_bestOrder 107 = .ok (.istore 4, 2) := by decide +kernel
theorem dX8_bestOrder_109 : decode cX8_bestOrder 109 = .ok (.iinc 6 1, 3) := by decide +kernel
theorem dX8_bestOrder_112 : decode cX8_bestOrder 112 = .ok (.goto (-48), 3) := by decide +kernel
theorem dX8_bestOrder_115 : decode cX8_bestOrder 115 = .ok (.iload_n 1, 1) := by decide +kernel
theorem dX8_bestOrder_116 : decode cX8_bestOrder 116 = .ok (.ifCond .ge 6, 3) := by decide +kernel
theorem dX8_bestOrder_119 : decode cX8_bestOrder 119 = .ok (.iload 4, 2) := by decide +kernel
theorem dX8_bestOrder_121 : decode cX8_bestOrder 121 = .ok (.ireturn, 1) := by decide +kernel
theorem dX8_bestOrder_122 : decode cX8_bestOrder 122 = .ok (.aload_n 0, 1) := by decide +kernel
theorem dX8_bestOrder_123 : decode cX8_bestOrder 123 = .ok (.iload_n 3, 1) := by decide +kernel
theorem dX8_bestOrder_124 : decode cX8_bestOrder 124 = .ok (.aload_n 0, 1) := by decide +kernel
theorem dX8_bestOrder_125 : decode cX8_bestOrder 125 = .ok (.getfield 108, 3) := by decide +kernel
theorem dX8_bestOrder_128 : decode cX8_bestOrder 128 = .ok (.invokevirtual 327, 3) := by decide +kernel
theorem dX8_bestOrder_131 : decode cX8_bestOrder 131 = .ok (.iload_n 1, 1) := by decide +kernel
theorem dX8_bestOrder_132 : decode cX8_bestOrder 132 = .ok (.aload_n 0, 1) := by decide +kernel
theorem dX8_bestOrder_133 : decode cX8_bestOrder 133 = .ok (.getfield 108, 3) := by decide +kernel
theorem dX8_bestOrder_136 : decode cX8_bestOrder 136 = .ok (.if_icmp .ge 12, 3) := by decide +kernel
theorem dX8_bestOrder_139 : decode cX8_bestOrder 139 = .ok (.aload_n 0, 1) := by decide +kernel
theorem dX8_bestOrder_140 : decode cX8_bestOrder 140 = .ok (.getfield 93, 3) := by decide +kernel
theorem dX8_bestOrder_143 : decode cX8_bestOrder 143 = .ok (.iload_n 1, 1) := by decide +kernel
theorem dX8_bestOrder_144 : decode cX8_bestOrder 144 = .ok (.iaload, 1) := by decide +kernel
theorem dX8_bestOrder_145 : decode cX8_bestOrder 145 = .ok (.goto 5, 3) := by decide +kernel
theorem dX8_bestOrder_148 : decode cX8_bestOrder 148 = .ok (.bipush (-9), 2) := by decide +kernel
theorem dX8_bestOrder_150 : decode cX8_bestOrder 150 = .ok (.ireturn, 1) := by decide +kernel
theorem dX8_needed_0 : decode cX8_needed 0 = .ok (.aload_n 0, 1) := by decide +kernel
theorem dX8_needed_1 : decode cX8_needed 1 = .ok (.iconst 0, 1) := by decide +kernel
theorem dX8_needed_2 : decode cX8_needed 2 = .ok (.putfield 105, 3) := by decide +kernel
theorem dX8_needed_5 : decode cX8_needed 5 = .ok (.iload_n 1, 1) := by decide +kernel
theorem dX8_needed_6 : decode cX8_needed 6 = .ok (.i2l, 1) := by decide +kernel
theorem dX8_needed_7 : decode cX8_needed 7 = .ok (.lconst 0, 1) := by decide +kernel
theorem dX8_needed_8 : decode cX8_needed 8 = .ok (.aload_n 0, 1) := by decide +kernel
theorem dX8_needed_9 : decode cX8_needed 9 = .ok (.getfield 19, 3) := by decide +kernel
theorem dX8_needed_12 : decode cX8_needed 12 = .ok (.iconst 1, 1) := by decide +kernel
theorem dX8_needed_13 : decode cX8_needed 13 = .ok (.isub, 1) := by decide +kernel
theorem dX8_needed_14 : decode cX8_needed 14 = .ok (.i2l, 1) := by decide +kernel
theorem dX8_needed_15 : decode cX8_needed 15 = .ok (.invokestatic 111, 3) := by decide +kernel
theorem dX8_needed_18 : decode cX8_needed 18 = .ok (.ifCond .ne 9, 3) := by decide +kernel
theorem dX8_needed_21 : decode cX8_needed 21 = .ok (.aload_n 0, 1) := by decide +kernel
theorem dX8_needed_22 : decode cX8_needed 22 = .ok (.iconst (-1), 1) := by decide +kernel
theorem dX8_needed_23 : decode cX8_needed 23 = .ok (.invokevirtual 164, 3) := by decide +kernel
theorem dX8_needed_26 : decode cX8_needed 26 = .ok (.ireturn, 1) := by decide +kernel
theorem dX8_needed_27 : decode cX8_needed 27 = .ok (.bipush (-9), 2) := by decide +kernel
theorem dX8_needed_29 : decode cX8_needed 29 = .ok (.istore_n 2, 1) := by decide +kernel
theorem dX8_needed_30 : decode cX8_needed 30 = .ok (.iload_n 2, 1) := by decide +kernel
theorem dX8_needed_31 : decode cX8_needed 31 = .ok (.bipush 9, 2) := by decide +kernel
theorem dX8_needed_33 : decode cX8_needed 33 = .ok (.if_icmp .gt 34, 3) := by decide +kernel
theorem dX8_needed_36 : decode cX8_needed 36 = .ok (.aload_n 0, 1) := by decide +kernel
theorem dX8_needed_37 : decode cX8_needed 37 = .ok (.invokevirtual 158, 3) := by decide +kernel
theorem dX8_needed_40 : decode cX8_needed 40 = .ok (.aload_n 0, 1) := by decide +kernel
theorem dX8_needed_41 : decode cX8_needed 41 = .ok (.getfield 35, 3) := by decide +kernel
theorem dX8_needed_44 : decode cX8_needed 44 = .ok (.iload_n 1, 1) := by decide +kernel
theorem dX8_needed_45 : decode cX8_needed 45 = .ok (.iload_n 2, 1) := by decide +kernel
theorem dX8_needed_46 : decode cX8_needed 46 = .ok (.iastore, 1) := by decide +kernel
theorem dX8_needed_47 : decode cX8_needed 47 = .ok (.aload_n 0, 1) := by decide +kernel
theorem dX8_needed_48 : decode cX8_needed 48 = .ok (.iconst 0, 1) := by decide +kernel
theorem dX8_needed_49 : decode cX8_needed 49 = .ok (.invokevirtual 161, 3) := by decide +kernel
theorem dX8_needed_52 : decode cX8_needed 52 = .ok (.aload_n 0, 1) := by decide +kernel
theorem dX8_needed_53 : decode cX8_needed 53 = .ok (.invokevirtual 252, 3) := by decide +kernel
theorem dX8_needed_56 : decode cX8_needed 56 = .ok (.ifCond .eq 5, 3) := by decide +kernel
theorem dX8_needed_59 : decode cX8_needed 59 = .ok (.iload_n 2, 1) := by decide +kernel
theorem dX8_needed_60 : decode cX8_needed 60 = .ok (.ireturn, 1) := by decide +kernel
theorem dX8_needed_61 : decode cX8_needed 61 = .ok (.iinc 2 1, 3) := by decide +kernel
theorem dX8_needed_64 : decode cX8_needed 64 = .ok (.goto (-34), 3) := by decide +kernel
theorem dX8_needed_67 : decode cX8_needed 67 = .ok (.bipush (-99), 2) := by decide +kernel
theorem dX8_needed_69 : decode cX8_needed 69 = .ok (.ireturn, 1) := by decide +kernel
theorem dX8_cheapest_0 : decode cX8_cheapest 0 = .ok (.aload_n 0, 1) := by decide +kernel
theorem dX8_cheapest_1 : decode cX8_cheapest 1 = .ok (.iconst 0, 1) := by decide +kernel
theorem dX8_cheapest_2 : decode cX8_cheapest 2 = .ok (.putfield 105, 3) := by decide +kernel
theorem dX8_cheapest_5 : decode cX8_cheapest 5 = .ok (.aload_n 0, 1) := by decide +kernel
theorem dX8_cheapest_6 : decode cX8_cheapest 6 = .ok (.invokevirtual 297, 3) := by decide +kernel
theorem dX8_cheapest_9 : decode cX8_cheapest 9 = .ok (.ifCond .le 7, 3) := by decide +kernel
theorem dX8_cheapest_12 : decode cX8_cheapest 12 = .ok (.iconst 1, 1) := by decide +kernel
theorem dX8_cheapest_13 : decode cX8_cheapest 13 = .ok (.goto 4, 3) := by decide +kernel
theorem dX8_cheapest_16 : decode cX8_cheapest 16 = .ok (.iconst 0, 1) := by decide +kernel
theorem dX8_cheapest_17 : decode cX8_cheapest 17 = .ok (.istore_n 1, 1) := by decide +kernel
theorem dX8_cheapest_18 : decode cX8_cheapest 18 = .ok (.bipush (-9), 2) := by decide +kernel
theorem dX8_cheapest_20 : decode cX8_cheapest 20 = .ok (.istore_n 2, 1) := by decide +kernel
theorem dX8_cheapest_21 : decode cX8_cheapest 21 = .ok (.iconst 0, 1) := by decide +kernel
theorem dX8_cheapest_22 : decode cX8_cheapest 22 = .ok (.istore_n 3, 1) := by decide +kernel
theorem dX8_cheapest_23 : decode cX8_cheapest 23 = .ok (.iload_n 3, 1) := by decide +kernel
theorem dX8_cheapest_24 : decode cX8_cheapest 24 = .ok (.aload_n 0, 1) := by decide +kernel
theorem dX8_cheapest_25 : decode cX8_cheapest 25 = .ok (.getfield 108, 3) := by decide +kernel
theorem dX8_cheapest_28 : decode cX8_cheapest 28 = .ok (.if_icmp .ge 53, 3) := by decide +kernel
theorem dX8_cheapest_31 : decode cX8_cheapest 31 = .ok (.aload_n 0, 1) := by decide +kernel
theorem dX8_cheapest_32 : decode cX8_cheapest 32 = .ok (.invokevirtual 158, 3) := by decide +kernel
theorem dX8_cheapest_35 : decode cX8_cheapest 35 = .ok (.aload_n 0, 1) := by decide +kernel
theorem dX8_cheapest_36 : decode cX8_cheapest 36 = .ok (.iconst 1, 1) := by decide +kernel
theorem dX8_cheapest_37 : decode cX8_cheapest 37 = .ok (.iload_n 3, 1) := by decide +kernel
theorem dX8_cheapest_38 : decode cX8_cheapest 38 = .ok (.ishl, 1) := by decide +kernel
theorem dX8_cheapest_39 : decode cX8_cheapest 39 = .ok (.invokevirtual 161, 3) := by decide +kernel
theorem dX8_cheapest_42 : decode cX8_cheapest 42 = .ok (.aload_n 0, 1) := by decide +kernel
theorem dX8_cheapest_43 : decode cX8_cheapest 43 = .ok (.invokevirtual 252, 3) := by decide +kernel
theorem dX8_cheapest_46 : decode cX8_cheapest 46 = .ok (.iload_n 1, 1) := by decide +kernel
theorem dX8_cheapest_47 : decode cX8_cheapest 47 = .ok (.if_icmp .ne 26, 3) := by decide +kernel
theorem dX8_cheapest_50 : decode cX8_cheapest 50 = .ok (.iload_n 2, 1) := by decide +kernel
theorem dX8_cheapest_51 : decode cX8_cheapest 51 = .ok (.ifCond .lt 18, 3) := by decide +kernel
theorem dX8_cheapest_54 : decode cX8_cheapest 54 = .ok (.aload_n 0, 1) := by decide +kernel
theorem dX8_cheapest_55 : decode cX8_cheapest 55 = .ok (.getfield 16, 3) := by decide +kernel
theorem dX8_cheapest_58 : decode cX8_cheapest 58 = .ok (.iload_n 3, 1) := by decide +kernel
theorem dX8_cheapest_59 : decode cX8_cheapest 59 = .ok (.iaload, 1) := by decide +kernel
theorem dX8_cheapest_60 : decode cX8_cheapest 60 = .ok (.aload_n 0, 1) := by decide +kernel
theorem dX8_cheapest_61 : decode cX8_cheapest 61 = .ok (.getfield 16, 3) := by decide +kernel
theorem dX8_cheapest_64 : decode cX8_cheapest 64 = .ok (.iload_n 2, 1) := by decide +kernel
theorem dX8_cheapest_65 : decode cX8_cheapest 65 = .ok (.iaload, 1) := by decide +kernel
theorem dX8_cheapest_66 : decode cX8_cheapest 66 = .ok (.if_icmp .le 7, 3) := by decide +kernel
theorem dX8_cheapest_69 : decode cX8_cheapest 69 = .ok (.iload_n 3, 1) := by decide +kernel
theorem dX8_cheapest_70 : decode cX8_cheapest 70 = .ok (.goto 4, 3) := by decide +kernel
theorem dX8_cheapest_73 : decode cX8_cheapest 73 = .ok (.iload_n 2, 1) := by decide +kernel
theorem dX8_cheapest_74 : decode cX8_cheapest 74 = .ok (.istore_n 2, 1) := by decide +kernel
theorem dX8_cheapest_75 : decode cX8_cheapest 75 = .ok (.iinc 3 1, 3) := by decide +kernel
theorem dX8_cheapest_78 : decode cX8_cheapest 78 = .ok (.goto (-55), 3) := by decide +kernel
theorem dX8_cheapest_81 : decode cX8_cheapest 81 = .ok (.iload_n 2, 1) := by decide +kernel
theorem dX8_cheapest_82 : decode cX8_cheapest 82 = .ok (.ireturn, 1) := by decide +kernel
theorem dX8_biggest_0 : decode cX8_biggest 0 = .ok (.aload_n 0, 1) := by decide +kernel
theorem dX8_biggest_1 : decode cX8_biggest 1 = .ok (.iconst 0, 1) := by decide +kernel
theorem dX8_biggest_2 : decode cX8_biggest 2 = .ok (.putfield 105, 3) := by decide +kernel
theorem dX8_biggest_5 : decode cX8_biggest 5 = .ok (.iload_n 1, 1) := by decide +kernel
theorem dX8_biggest_6 : decode cX8_biggest 6 = .ok (.i2l, 1) := by decide +kernel
theorem dX8_biggest_7 : decode cX8_biggest 7 = .ok (.lconst 0, 1) := by decide +kernel
theorem dX8_biggest_8 : decode cX8_biggest 8 = .ok (.lconst 1, 1) := by decide +kernel
theorem dX8_biggest_9 : decode cX8_biggest 9 = .ok (.invokestatic 111, 3) := by decide +kernel
theorem dX8_biggest_12 : decode cX8_biggest 12 = .ok (.ifCond .ne 13, 3) := by decide +kernel
theorem dX8_biggest_15 : decode cX8_biggest 15 = .ok (.ldc 239, 2) := by decide +kernel
theorem dX8_biggest_17 : decode cX8_biggest 17 = .ok (.aload_n 0, 1) := by decide +kernel
theorem dX8_biggest_18 : decode cX8_biggest 18 = .ok (.bipush (-2), 2) := by decide +kernel
theorem dX8_biggest_20 : decode cX8_biggest 20 = .ok (.invokevirtual 164, 3) := by decide +kernel
theorem dX8_biggest_23 : decode cX8_biggest 23 = .ok (.isub, 1) := by decide +kernel
theorem dX8_biggest_24 : decode cX8_biggest 24 = .ok (.ireturn, 1) := by decide +kernel
theorem dX8_biggest_25 : decode cX8_biggest 25 = .ok (.bipush (-9), 2) := by decide +kernel
theorem dX8_biggest_27 : decode cX8_biggest 27 = .ok (.istore_n 2, 1) := by decide +kernel
theorem dX8_biggest_28 : decode cX8_biggest 28 = .ok (.iconst 0, 1) := by decide +kernel
theorem dX8_biggest_29 : decode cX8_biggest 29 = .ok (.istore_n 3, 1) := by decide +kernel
theorem dX8_biggest_30 : decode cX8_biggest 30 = .ok (.aload_n 0, 1) := by decide +kernel
theorem dX8_biggest_31 : decode cX8_biggest 31 = .ok (.invokevirtual 158, 3) := by decide +kernel
theorem dX8_biggest_34 : decode cX8_biggest 34 = .ok (.iconst 0, 1) := by decide +kernel
theorem dX8_biggest_35 : decode cX8_biggest 35 = .ok (.istore 4, 2) := by decide +kernel
theorem dX8_biggest_37 : decode cX8_biggest 37 = .ok (.iload 4, 2) := by decide +kernel
theorem dX8_biggest_39 : decode cX8_biggest 39 = .ok (.aload_n 0, 1) := by decide +kernel
theorem dX8_biggest_40 : decode cX8_biggest 40 = .ok (.getfield 108, 3) := by decide +kernel
theorem dX8_biggest_43 : decode cX8_biggest 43 = .ok (.if_icmp .ge 68, 3) := by decide +kernel
theorem dX8_biggest_46 : decode cX8_biggest 46 = .ok (.aload_n 0, 1) := by decide +kernel
theorem dX8_biggest_47 : decode cX8_biggest 47 = .ok (.invokevirtual 118, 3) := by decide +kernel
theorem dX8_biggest_50 : decode cX8_biggest 50 = .ok (.istore 5, 2) := by decide +kernel
theorem dX8_biggest_52 : decode cX8_biggest 52 = .ok (.aload_n 0, 1) := by decide +kernel
theorem dX8_biggest_53 : decode cX8_biggest 53 = .ok (.iload 4, 2) := by decide +kernel
theorem dX8_biggest_55 : decode cX8_biggest 55 = .ok (.invokevirtual 154, 3) := by decide +kernel
theorem dX8_biggest_58 : decode cX8_biggest 58 = .ok (.aload_n 0, 1) := by decide +kernel
theorem dX8_biggest_59 : decode cX8_biggest 59 = .ok (.invokevirtual 118, 3) := by decide +kernel
theorem dX8_biggest_62 : decode cX8_biggest 62 = .ok (.iload 5, 2) := by decide +kernel
theorem dX8_biggest_64 : decode cX8_biggest 64 = .ok (.isub, 1) := by decide +kernel
theorem dX8_biggest_65 : decode cX8_biggest 65 = .ok (.istore 6, 2) := by decide +kernel
theorem dX8_biggest_67 : decode cX8_biggest 67 = .ok (.iload 6, 2) := by decide +kernel
theorem dX8_biggest_69 : decode cX8_biggest 69 = .ok (.invokestatic 122, 3) := by decide +kernel
theorem dX8_biggest_72 : decode cX8_biggest 72 = .ok (.iload_n 3, 1) := by decide +kernel
theorem dX8_biggest_73 : decode cX8_biggest 73 = .ok (.invokestatic 122, 3) := by decide +kernel
theorem dX8_biggest_76 : decode cX8_biggest 76 = .ok (.if_icmp .le 8, 3) := by decide +kernel
theorem dX8_biggest_79 : decode cX8_biggest 79 = .ok (.iload 4, 2) := by decide +kernel
theorem dX8_biggest_81 : decode cX8_biggest 81 = .ok (.goto 4, 3) := by decide +kernel
theorem dX8_biggest_84 : decode cX8_biggest 84 = .ok (.iload_n 2, 1) := by decide +kernel
theorem dX8_biggest_85 : decode cX8_biggest 85 = .ok (.istore_n 2, 1) := by decide +kernel
theorem dX8_biggest_86 : decode cX8_biggest 86 = .ok (.iload 6, 2) := by decide +kernel
theorem dX8_biggest_88 : decode cX8_biggest 88 = .ok (.invokestatic 122, 3) := by decide +kernel
theorem dX8_biggest_91 : decode cX8_biggest 91 = .ok (.iload_n 3, 1) := by decide +kernel
theorem dX8_biggest_92 : decode cX8_biggest 92 = .ok (.invokestatic 122, 3) := by decide +kernel
theorem dX8_biggest_95 : decode cX8_biggest 95 = .ok (.if_icmp .le 8, 3) := by decide +kernel
theorem dX8_biggest_98 : decode cX8_biggest 98 = .ok (.iload 6, 2) := by decide +kernel
theorem dX8_biggest_100 : decode cX8_biggest 100 = .ok (.goto 4, 3) := by decide +kernel
theorem dX8_biggest_103 : decode cX8_biggest 103 = .ok (.iload_n 3, 1) := by decide +kernel
theorem dX8_biggest_104 : decode cX8_biggest 104 = .ok (.istore_n 3, 1) := by decide +kernel
theorem dX8_biggest_105 : decode cX8_biggest 105 = .ok (.iinc 4 1, 3) := by decide +kernel
theorem dX8_biggest_108 : decode cX8_biggest 108 = .ok (.goto (-71), 3) := by decide +kernel
theorem dX8_biggest_111 : decode cX8_biggest 111 = .ok (.iload_n 1, 1) := by decide +kernel
theorem dX8_biggest_112 : decode cX8_biggest 112 = .ok (.ifCond .ne 7, 3) := by decide +kernel
theorem dX8_biggest_115 : decode cX8_biggest 115 = .ok (.iload_n 2, 1) := by decide +kernel
theorem dX8_biggest_116 : decode cX8_biggest 116 = .ok (.goto 4, 3) := by decide +kernel
theorem dX8_biggest_119 : decode cX8_biggest 119 = .ok (.iload_n 3, 1) := by decide +kernel
theorem dX8_biggest_120 : decode cX8_biggest 120 = .ok (.ireturn, 1) := by decide +kernel
theorem dX8_swing_0 : decode cX8_swing 0 = .ok (.aload_n 0, 1) := by decide +kernel
theorem dX8_swing_1 : decode cX8_swing 1 = .ok (.iconst 0, 1) := by decide +kernel
theorem dX8_swing_2 : decode cX8_swing 2 = .ok (.putfield 105, 3) := by decide +kernel
theorem dX8_swing_5 : decode cX8_swing 5 = .ok (.aload_n 0, 1) := by decide +kernel
theorem dX8_swing_6 : decode cX8_swing 6 = .ok (.invokevirtual 297, 3) := by decide +kernel
theorem dX8_swing_9 : decode cX8_swing 9 = .ok (.ifCond .le 7, 3) := by decide +kernel
theorem dX8_swing_12 : decode cX8_swing 12 = .ok (.iconst 1, 1) := by decide +kernel
theorem dX8_swing_13 : decode cX8_swing 13 = .ok (.goto 4, 3) := by decide +kernel
theorem dX8_swing_16 : decode cX8_swing 16 = .ok (.iconst 0, 1) := by decide +kernel
theorem dX8_swing_17 : decode cX8_swing 17 = .ok (.istore_n 1, 1) := by decide +kernel
theorem dX8_swing_18 : decode cX8_swing 18 = .ok (.iconst 0, 1) := by decide +kernel
theorem dX8_swing_19 : decode cX8_swing 19 = .ok (.istore_n 2, 1) := by decide +kernel
theorem dX8_swing_20 : decode cX8_swing 20 = .ok (.iconst 0, 1) := by decide +kernel
theorem dX8_swing_21 : decode cX8_swing 21 = .ok (.istore_n 3, 1) := by decide +kernel
theorem dX8_swing_22 : decode cX8_swing 22 = .ok (.iload_n 3, 1) := by decide +kernel
theorem dX8_swing_23 : decode cX8_swing 23 = .ok (.aload_n 0, 1) := by decide +kernel
theorem dX8_swing_24 : decode cX8_swing 24 = .ok (.getfield 19, 3) := by decide +kernel
theorem dX8_swing_27 : decode cX8_swing 27 = .ok (.if_icmp .ge 49, 3) := by decide +kernel
theorem dX8_swing_30 : decode cX8_swing 30 = .ok (.aload_n 0, 1) := by decide +kernel
theorem dX8_swing_31 : decode cX8_swing 31 = .ok (.invokevirtual 158, 3) := by decide +kernel
theorem dX8_swing_34 : decode cX8_swing 34 = .ok (.aload_n 0, 1) := by decide +kernel
theorem dX8_swing_35 : decode cX8_swing 35 = .ok (.getfield 35, 3) := by decide +kernel
theorem dX8_swing_38 : decode cX8_swing 38 = .ok (.iload_n 3, 1) := by decide +kernel
theorem dX8_swing_39 : decode cX8_swing 39 = .ok (.aload_n 0, 1) := by decide +kernel
theorem dX8_swing_40 : decode cX8_swing 40 = .ok (.getfield 35, 3) := by decide +kernel
theorem dX8_swing_43 : decode cX8_swing 43 = .ok (.iload_n 3, 1) := by decide +kernel
theorem dX8_swing_44 : decode cX8_swing 44 = .ok (.iaload, 1) := by decide +kernel
theorem dX8_swing_45 : decode cX8_swing 45 = .ok (.ineg, 1) := by decide +kernel
theorem dX8_swing_46 : decode cX8_swing 46 = .ok (.iastore, 1) := by decide +kernel
theorem dX8_swing_47 : decode cX8_swing 47 = .ok (.aload_n 0, 1) := by decide +kernel
theorem dX8_swing_48 : decode cX8_swing 48 = .ok (.iconst 0, 1) := by decide +kernel
theorem dX8_swing_49 : decode cX8_swing 49 = .ok (.invokevirtual 161, 3) := by decide +kernel
theorem dX8_swing_52 : decode cX8_swing 52 = .ok (.iload_n 2, 1) := by decide +kernel
theorem dX8_swing_53 : decode cX8_swing 53 = .ok (.aload_n 0, 1) := by decide +kernel
theorem dX8_swing_54 : decode cX8_swing 54 = .ok (.invokevirtual 252, 3) := by decide +kernel
theorem dX8_swing_57 : decode cX8_swing 57 = .ok (.iload_n 1, 1) := by decide +kernel
theorem dX8_swing_58 : decode cX8_swing 58 = .ok (.if_icmp .ne 7, 3) := by decide +kernel
theorem dX8_swing_61 : decode cX8_swing 61 = .ok (.iconst 0, 1) := by decide +kernel
theorem dX8_swing_62 : decode cX8_swing 62 = .ok (.goto 6, 3) := by decide +kernel
theorem dX8_swing_65 : decode cX8_swing 65 = .ok (.iconst 1, 1) := by decide +kernel
theorem dX8_swing_66 : decode cX8_swing 66 = .ok (.iload_n 3, 1) := by decide +kernel
theorem dX8_swing_67 : decode cX8_swing 67 = .ok (.ishl, 1) := by decide +kernel
theorem dX8_swing_68 : decode cX8_swing 68 = .ok (.ior, 1) := by decide +kernel
theorem dX8_swing_69 : decode cX8_swing 69 = .ok (.istore_n 2, 1) := by decide +kernel
theorem dX8_swing_70 : decode cX8_swing 70 = .ok (.iinc 3 1, 3) := by decide +kernel
theorem dX8_swing_73 : decode cX8_swing 73 = .ok (.goto (-51), 3) := by decide +kernel
theorem dX8_swing_76 : decode cX8_swing 76 = .ok (.iload_n 2, 1) := by decide +kernel
theorem dX8_swing_77 : decode cX8_swing 77 = .ok (.ireturn, 1) := by decide +kernel
theorem dX8_worst_0 : decode cX8_worst 0 = .ok (.aload_n 0, 1) := by decide +kernel
theorem dX8_worst_1 : decode cX8_worst 1 = .ok (.iconst 0, 1) := by decide +kernel
theorem dX8_worst_2 : decode cX8_worst 2 = .ok (.putfield 105, 3) := by decide +kernel
theorem dX8_worst_5 : decode cX8_worst 5 = .ok (.aload_n 0, 1) := by decide +kernel
theorem dX8_worst_6 : decode cX8_worst 6 = .ok (.iload_n 1, 1) := by decide +kernel
theorem dX8_worst_7 : decode cX8_worst 7 = .ok (.invokevirtual 230, 3) := by decide +kernel
theorem dX8_worst_10 : decode cX8_worst 10 = .ok (.ifCond .eq 13, 3) := by decide +kernel
theorem dX8_worst_13 : decode cX8_worst 13 = .ok (.iload_n 2, 1) := by decide +kernel
theorem dX8_worst_14 : decode cX8_worst 14 = .ok (.i2l, 1) := by decide +kernel
theorem dX8_worst_15 : decode cX8_worst 15 = .ok (.lconst 0, 1) := by decide +kernel
theorem dX8_worst_16 : decode cX8_worst 16 = .ok (.lconst 1, 1) := by decide +kernel
theorem dX8_worst_17 : decode cX8_worst 17 = .ok (.invokestatic 111, 3) := by decide +kernel
theorem dX8_worst_20 : decode cX8_worst 20 = .ok (.ifCond .ne 22, 3) := by decide +kernel
theorem dX8_worst_23 : decode cX8_worst 23 = .ok (.aload_n 0, 1) := by decide +kernel
theorem dX8_worst_24 : decode cX8_worst 24 = .ok (.aload_n 0, 1) := by decide +kernel
theorem dX8_worst_25 : decode cX8_worst 25 = .ok (.iload_n 1, 1) := by decide +kernel
theorem dX8_worst_26 : decode cX8_worst 26 = .ok (.invokevirtual 230, 3) := by decide +kernel
theorem dX8_worst_29 : decode cX8_worst 29 = .ok (.ifCond .eq 8, 3) := by decide +kernel
theorem dX8_worst_32 : decode cX8_worst 32 = .ok (.bipush (-2), 2) := by decide +kernel
theorem dX8_worst_34 : decode cX8_worst 34 = .ok (.goto 4, 3) := by decide +kernel
theorem dX8_worst_37 : decode cX8_worst 37 = .ok (.iconst (-1), 1) := by decide +kernel
theorem dX8_worst_38 : decode cX8_worst 38 = .ok (.invokevirtual 164, 3) := by decide +kernel
theorem dX8_worst_41 : decode cX8_worst 41 = .ok (.ireturn, 1) := by decide +kernel
theorem dX8_worst_42 : decode cX8_worst 42 = .ok (.aload_n 0, 1) := by decide +kernel
theorem dX8_worst_43 : decode cX8_worst 43 = .ok (.getfield 7, 3) := by decide +kernel
theorem dX8_worst_46 : decode cX8_worst 46 = .ok (.iload_n 1, 1) := by decide +kernel
theorem dX8_worst_47 : decode cX8_worst 47 = .ok (.iaload, 1) := by decide +kernel
theorem dX8_worst_48 : decode cX8_worst 48 = .ok (.istore_n 3, 1) := by decide +kernel
theorem dX8_worst_49 : decode cX8_worst 49 = .ok (.iconst 0, 1) := by decide +kernel
theorem dX8_worst_50 : decode cX8_worst 50 = .ok (.istore 4, 2) := by decide +kernel
theorem dX8_worst_52 : decode cX8_worst 52 = .ok (.sipush 999, 3) := by decide +kernel
theorem dX8_worst_55 : decode cX8_worst 55 = .ok (.istore 5, 2) := by decide +kernel
theorem dX8_worst_57 : decode cX8_worst 57 = .ok (.iconst 0, 1) := by decide +kernel
theorem dX8_worst_58 : decode cX8_worst 58 = .ok (.istore 6, 2) := by decide +kernel
theorem dX8_worst_60 : decode cX8_worst 60 = .ok (.iload 6, 2) := by decide +kernel
theorem dX8_worst_62 : decode cX8_worst 62 = .ok (.bipush 6, 2) := by decide +kernel
theorem dX8_worst_64 : decode cX8_worst 64 = .ok (.if_icmp .ge 55, 3) := by decide +kernel
theorem dX8_worst_67 : decode cX8_worst 67 = .ok (.aload_n 0, 1) := by decide +kernel
theorem dX8_worst_68 : decode cX8_worst 68 = .ok (.getfield 7, 3) := by decide +kernel
theorem dX8_worst_71 : decode cX8_worst 71 = .ok (.iload_n 1, 1) := by decide +kernel
theorem dX8_worst_72 : decode cX8_worst 72 = .ok (.iload 6, 2) := by decide +kernel
theorem dX8_worst_74 : decode cX8_worst 74 = .ok (.iastore, 1) := by decide +kernel
theorem dX8_worst_75 : decode cX8_worst 75 = .ok (.aload_n 0, 1) := by decide +kernel
theorem dX8_worst_76 : decode cX8_worst 76 = .ok (.invokevirtual 297, 3) := by decide +kernel
theorem dX8_worst_79 : decode cX8_worst 79 = .ok (.istore 7, 2) := by decide +kernel
theorem dX8_worst_81 : decode cX8_worst 81 = .ok (.iload 7, 2) := by decide +kernel
theorem dX8_worst_83 : decode cX8_worst 83 = .ok (.iload 5, 2) := by decide +kernel
theorem dX8_worst_85 : decode cX8_worst 85 = .ok (.if_icmp .ge 8, 3) := by decide +kernel
theorem dX8_worst_88 : decode cX8_worst 88 = .ok (.iload 6, 2) := by decide +kernel
theorem dX8_worst_90 : decode cX8_worst 90 = .ok (.goto 5, 3) := by decide +kernel
theorem dX8_worst_93 : decode cX8_worst 93 = .ok (.iload 4, 2) := by decide +kernel
theorem dX8_worst_95 : decode cX8_worst 95 = .ok (.istore 4, 2) := by decide +kernel
theorem dX8_worst_97 : decode cX8_worst 97 = .ok (.iload 7, 2) := by decide +kernel
theorem dX8_worst_99 : decode cX8_worst 99 = .ok (.iload 5, 2) := by decide +kernel
theorem dX8_worst_101 : decode cX8_worst 101 = .ok (.if_icmp .ge 8, 3) := by decide +kernel
theorem dX8_worst_104 : decode cX8_worst 104 = .ok (.iload 7, 2) := by decide +kernel
theorem dX8_worst_106 : decode cX8_worst 106 = .ok (.goto 5, 3) := by decide +kernel
theorem dX8_worst_109 : decode cX8_worst 109 = .ok (.iload 5, 2) := by decide +kernel
theorem dX8_worst_111 : decode cX8_worst 111 = .ok (.istore 5, 2) := by decide +kernel
theorem dX8_worst_113 : decode cX8_worst 113 = .ok (.iinc 6 1, 3) := by decide +kernel
theorem dX8_worst_116 : decode cX8_worst 116 = .ok (.goto (-56), 3) := by decide +kernel
theorem dX8_worst_119 : decode cX8_worst 119 = .ok (.aload_n 0, 1) := by decide +kernel
theorem dX8_worst_120 : decode cX8_worst 120 = .ok (.getfield 7, 3) := by decide +kernel
theorem dX8_worst_123 : decode cX8_worst 123 = .ok (.iload_n 1, 1) := by decide +kernel
theorem dX8_worst_124 : decode cX8_worst 124 = .ok (.iload_n 3, 1) := by decide +kernel
theorem dX8_worst_125 : decode cX8_worst 125 = .ok (.iastore, 1) := by decide +kernel
theorem dX8_worst_126 : decode cX8_worst 126 = .ok (.iload_n 2, 1) := by decide +kernel
theorem dX8_worst_127 : decode cX8_worst 127 = .ok (.ifCond .ne 8, 3) := by decide +kernel
theorem dX8_worst_130 : decode cX8_worst 130 = .ok (.iload 4, 2) := by decide +kernel
theorem dX8_worst_132 : decode cX8_worst 132 = .ok (.goto 8, 3) := by decide +kernel
theorem dX8_worst_135 : decode cX8_worst 135 = .ok (.iload 5, 2) := by decide +kernel
theorem dX8_worst_137 : decode cX8_worst 137 = .ok (.bipush 100, 2) := by decide +kernel
theorem dX8_worst_139 : decode cX8_worst 139 = .ok (.iadd, 1) := by decide +kernel
theorem dX8_worst_140 : decode cX8_worst 140 = .ok (.ireturn, 1) := by decide +kernel
theorem dX8_same_0 : decode cX8_same 0 = .ok (.aload_n 0, 1) := by decide +kernel
theorem dX8_same_1 : decode cX8_same 1 = .ok (.iconst 0, 1) := by decide +kernel
theorem dX8_same_2 : decode cX8_same 2 = .ok (.putfield 105, 3) := by decide +kernel
theorem dX8_same_5 : decode cX8_same 5 = .ok (.iconst 0, 1) := by decide +kernel
theorem dX8_same_6 : decode cX8_same 6 = .ok (.istore_n 1, 1) := by decide +kernel
theorem dX8_same_7 : decode cX8_same 7 = .ok (.iload_n 1, 1) := by decide +kernel
theorem dX8_same_8 : decode cX8_same 8 = .ok (.aload_n 0, 1) := by decide +kernel
theorem dX8_same_9 : decode cX8_same 9 = .ok (.getfield 108, 3) := by decide +kernel
theorem dX8_same_12 : decode cX8_same 12 = .ok (.if_icmp .ge 49, 3) := by decide +kernel
theorem dX8_same_15 : decode cX8_same 15 = .ok (.aload_n 0, 1) := by decide +kernel
theorem dX8_same_16 : decode cX8_same 16 = .ok (.invokevirtual 158, 3) := by decide +kernel
theorem dX8_same_19 : decode cX8_same 19 = .ok (.aload_n 0, 1) := by decide +kernel
theorem dX8_same_20 : decode cX8_same 20 = .ok (.iload_n 1, 1) := by decide +kernel
theorem dX8_same_21 : decode cX8_same 21 = .ok (.invokevirtual 154, 3) := by decide +kernel
theorem dX8_same_24 : decode cX8_same 24 = .ok (.iconst 0, 1) := by decide +kernel
theorem dX8_same_25 : decode cX8_same 25 = .ok (.istore_n 2, 1) := by decide +kernel
theorem dX8_same_26 : decode cX8_same 26 = .ok (.iload_n 2, 1) := by decide +kernel
theorem dX8_same_27 : decode cX8_same 27 = .ok (.bipush 8, 2) := by decide +kernel
theorem dX8_same_29 : decode cX8_same 29 = .ok (.if_icmp .ge 26, 3) := by decide +kernel
theorem dX8_same_32 : decode cX8_same 32 = .ok (.aload_n 0, 1) := by decide +kernel
theorem dX8_same_33 : decode cX8_same 33 = .ok (.getfield 96, 3) := by decide +kernel
theorem dX8_same_36 : decode cX8_same 36 = .ok (.bipush 8, 2) := by decide +kernel
theorem dX8_same_38 : decode cX8_same 38 = .ok (.iload_n 1, 1) := by decide +kernel
theorem dX8_same_39 : decode cX8_same 39 = .ok (.imul, 1) := by decide +kernel
theorem dX8_same_40 : decode cX8_same 40 = .ok (.iload_n 2, 1) := by decide +kernel
theorem dX8_same_41 : decode cX8_same 41 = .ok (.iadd, 1) := by decide +kernel
theorem dX8_same_42 : decode cX8_same 42 = .ok (.aload_n 0, 1) := by decide +kernel
theorem dX8_same_43 : decode cX8_same 43 = .ok (.getfield 35, 3) := by decide +kernel
theorem dX8_same_46 : decode cX8_same 46 = .ok (.iload_n 2, 1) := by decide +kernel
theorem dX8_same_47 : decode cX8_same 47 = .ok (.iaload, 1) := by decide +kernel
theorem dX8_same_48 : decode cX8_same 48 = .ok (.iastore, 1) := by decide +kernel
theorem dX8_same_49 : decode cX8_same 49 = .ok (.iinc 2 1, 3) := by decide +kernel
theorem dX8_same_52 : decode cX8_same 52 = .ok (.goto (-26), 3) := by decide +kernel
theorem dX8_same_55 : decode cX8_same 55 = .ok (.iinc 1 1, 3) := by decide +kernel
theorem dX8_same_58 : decode cX8_same 58 = .ok (.goto (-51), 3) := by decide +kernel
theorem dX8_same_61 : decode cX8_same 61 = .ok (.iconst 0, 1) := by decide +kernel
theorem dX8_same_62 : decode cX8_same 62 = .ok (.istore_n 1, 1) := by decide +kernel
theorem dX8_same_63 : decode cX8_same 63 = .ok (.iconst 0, 1) := by decide +kernel
theorem dX8_same_64 : decode cX8_same 64 = .ok (.istore_n 2, 1) := by decide +kernel
theorem dX8_same_65 : decode cX8_same 65 = .ok (.iload_n 2, 1) := by decide +kernel
theorem dX8_same_66 : decode cX8_same 66 = .ok (.aload_n 0, 1) := by decide +kernel
theorem dX8_same_67 : decode cX8_same 67 = .ok (.getfield 108, 3) := by decide +kernel
theorem dX8_same_70 : decode cX8_same 70 = .ok (.if_icmp .ge 100, 3) := by decide +kernel
theorem dX8_same_73 : decode cX8_same 73 = .ok (.iload_n 2, 1) := by decide +kernel
theorem dX8_same_74 : decode cX8_same 74 = .ok (.iconst 1, 1) := by decide +kernel
theorem dX8_same_75 : decode cX8_same 75 = .ok (.iadd, 1) := by decide +kernel
theorem dX8_same_76 : decode cX8_same 76 = .ok (.istore_n 3, 1) := by decide +kernel
theorem dX8_same_77 : decode cX8_same 77 = .ok (.iload_n 3, 1) := by decide +kernel
theorem dX8_same_78 : decode cX8_same 78 = .ok (.aload_n 0, 1) := by decide +kernel
theorem dX8_same_79 : decode cX8_same 79 = .ok (.getfield 108, 3) := by decide +kernel
theorem dX8_same_82 : decode cX8_same 82 = .ok (.if_icmp .ge 82, 3) := by decide +kernel
theorem dX8_same_85 : decode cX8_same 85 = .ok (.iconst 1, 1) := by decide +kernel
theorem dX8_same_86 : decode cX8_same 86 = .ok (.istore 4, 2) := by decide +kernel
theorem dX8_same_88 : decode cX8_same 88 = .ok (.iconst 0, 1) := by decide +kernel
theorem dX8_same_89 : decode cX8_same 89 = .ok (.istore 5, 2) := by decide +kernel
theorem dX8_same_91 : decode cX8_same 91 = .ok (.iload 5, 2) := by decide +kernel
theorem dX8_same_93 : decode cX8_same 93 = .ok (.aload_n 0, 1) := by decide +kernel
theorem dX8_same_94 : decode cX8_same 94 = .ok (.getfield 19, 3) := by decide +kernel
theorem dX8_same_97 : decode cX8_same 97 = .ok (.if_icmp .ge 48, 3) := by decide +kernel
theorem dX8_same_100 : decode cX8_same 100 = .ok (.iload 4, 2) := by decide +kernel
theorem dX8_same_102 : decode cX8_same 102 = .ok (.ifCond .eq 34, 3) := by decide +kernel
theorem dX8_same_105 : decode cX8_same 105 = .ok (.aload_n 0, 1) := by decide +kernel
theorem dX8_same_106 : decode cX8_same 106 = .ok (.getfield 96, 3) := by decide +kernel
theorem dX8_same_109 : decode cX8_same 109 = .ok (.bipush 8, 2) := by decide +kernel
theorem dX8_same_111 : decode cX8_same 111 = .ok (.iload_n 2, 1) := by decide +kernel
theorem dX8_same_112 : decode cX8_same 112 = .ok (.imul, 1) := by decide +kernel
theorem dX8_same_113 : decode cX8_same 113 = .ok (.iload 5, 2) := by decide +kernel
theorem dX8_same_115 : decode cX8_same 115 = .ok (.iadd, 1) := by decide +kernel
theorem dX8_same_116 : decode cX8_same 116 = .ok (.iaload, 1) := by decide +kernel
theorem dX8_same_117 : decode cX8_same 117 = .ok (.aload_n 0, 1) := by decide +kernel
theorem dX8_same_118 : decode cX8_same 118 = .ok (.getfield 96, 3) := by decide +kernel
theorem dX8_same_121 : decode cX8_same 121 = .ok (.bipush 8, 2) := by decide +kernel
theorem dX8_same_123 : decode cX8_same 123 = .ok (.iload_n 3, 1) := by decide +kernel
theorem dX8_same_124 : decode cX8_same 124 = .ok (.imul, 1) := by decide +kernel
theorem dX8_same_125 : decode cX8_same 125 = .ok (.iload 5, 2) := by decide +kernel
theorem dX8_same_127 : decode cX8_same 127 = .ok (.iadd, 1) := by decide +kernel
theorem dX8_same_128 : decode cX8_same 128 = .ok (.iaload, 1) := by decide +kernel
theorem dX8_same_129 : decode cX8_same 129 = .ok (.if_icmp .ne 7, 3) := by decide +kernel
theorem dX8_same_132 : decode cX8_same 132 = .ok (.iconst 1, 1) := by decide +kernel
theorem dX8_same_133 : decode cX8_same 133 = .ok (.goto 4, 3) := by decide +kernel
theorem dX8_same_136 : decode cX8_same 136 = .ok (.iconst 0, 1) := by decide +kernel
theorem dX8_same_137 : decode cX8_same 137 = .ok (.istore 4, 2) := by decide +kernel
theorem dX8_same_139 : decode cX8_same 139 = .ok (.iinc 5 1, 3) := by decide +kernel
theorem dX8_same_142 : decode cX8_same 142 = .ok (.goto (-51), 3) := by decide +kernel
theorem dX8_same_145 : decode cX8_same 145 = .ok (.iload_n 1, 1) := by decide +kernel
theorem dX8_same_146 : decode cX8_same 146 = .ok (.iload 4, 2) := by decide +kernel
theorem dX8_same_148 : decode cX8_same 148 = .ok (.ifCond .eq 7, 3) := by decide +kernel
theorem dX8_same_151 : decode cX8_same 151 = .ok (.iconst 1, 1) := by decide +kernel
theorem dX8_same_152 : decode cX8_same 152 = .ok (.goto 4, 3) := by decide +kernel
theorem dX8_same_155 : decode cX8_same 155 = .ok (.iconst 0, 1) := by decide +kernel
theorem dX8_same_156 : decode cX8_same 156 = .ok (.iadd, 1) := by decide +kernel
theorem dX8_same_157 : decode cX8_same 157 = .ok (.istore_n 1, 1) := by decide +kernel
theorem dX8_same_158 : decode cX8_same 158 = .ok (.iinc 3 1, 3) := by decide +kernel
theorem dX8_same_161 : decode cX8_same 161 = .ok (.goto (-84), 3) := by decide +kernel
theorem dX8_same_164 : decode cX8_same 164 = .ok (.iinc 2 1, 3) := by decide +kernel
theorem dX8_same_167 : decode cX8_same 167 = .ok (.goto (-102), 3) := by decide +kernel
theorem dX8_same_170 : decode cX8_same 170 = .ok (.iload_n 1, 1) := by decide +kernel
theorem dX8_same_171 : decode cX8_same 171 = .ok (.ireturn, 1) := by decide +kernel
theorem dX8_dead_0 : decode cX8_dead 0 = .ok (.aload_n 0, 1) := by decide +kernel
theorem dX8_dead_1 : decode cX8_dead 1 = .ok (.iconst 0, 1) := by decide +kernel
theorem dX8_dead_2 : decode cX8_dead 2 = .ok (.putfield 105, 3) := by decide +kernel
theorem dX8_dead_5 : decode cX8_dead 5 = .ok (.bipush (-9), 2) := by decide +kernel
theorem dX8_dead_7 : decode cX8_dead 7 = .ok (.istore_n 1, 1) := by decide +kernel
theorem dX8_dead_8 : decode cX8_dead 8 = .ok (.aload_n 0, 1) := by decide +kernel
theorem dX8_dead_9 : decode cX8_dead 9 = .ok (.invokevirtual 158, 3) := by decide +kernel
theorem dX8_dead_12 : decode cX8_dead 12 = .ok (.iconst 0, 1) := by decide +kernel
theorem dX8_dead_13 : decode cX8_dead 13 = .ok (.istore_n 2, 1) := by decide +kernel
theorem dX8_dead_14 : decode cX8_dead 14 = .ok (.iload_n 2, 1) := by decide +kernel
theorem dX8_dead_15 : decode cX8_dead 15 = .ok (.aload_n 0, 1) := by decide +kernel
theorem dX8_dead_16 : decode cX8_dead 16 = .ok (.getfield 108, 3) := by decide +kernel
theorem dX8_dead_19 : decode cX8_dead 19 = .ok (.if_icmp .ge 110, 3) := by decide +kernel
theorem dX8_dead_22 : decode cX8_dead 22 = .ok (.iconst 0, 1) := by decide +kernel
theorem dX8_dead_23 : decode cX8_dead 23 = .ok (.istore_n 3, 1) := by decide +kernel
theorem dX8_dead_24 : decode cX8_dead 24 = .ok (.iconst 0, 1) := by decide +kernel
theorem dX8_dead_25 : decode cX8_dead 25 = .ok (.istore 4, 2) := by decide +kernel
theorem dX8_dead_27 : decode cX8_dead 27 = .ok (.iload 4, 2) := by decide +kernel
theorem dX8_dead_29 : decode cX8_dead 29 = .ok (.aload_n 0, 1) := by decide +kernel
theorem dX8_dead_30 : decode cX8_dead 30 = .ok (.getfield 115, 3) := by decide +kernel
theorem dX8_dead_33 : decode cX8_dead 33 = .ok (.if_icmp .ge 23, 3) := by decide +kernel
theorem dX8_dead_36 : decode cX8_dead 36 = .ok (.aload_n 0, 1) := by decide +kernel
theorem dX8_dead_37 : decode cX8_dead 37 = .ok (.getfield 96, 3) := by decide +kernel
theorem dX8_dead_40 : decode cX8_dead 40 = .ok (.iload 4, 2) := by decide +kernel
theorem dX8_dead_42 : decode cX8_dead 42 = .ok (.aload_n 0, 1) := by decide +kernel
theorem dX8_dead_43 : decode cX8_dead 43 = .ok (.getfield 35, 3) := by decide +kernel
theorem dX8_dead_46 : decode cX8_dead 46 = .ok (.iload 4, 2) := by decide +kernel
theorem dX8_dead_48 : decode cX8_dead 48 = .ok (.iaload, 1) := by decide +kernel
theorem dX8_dead_49 : decode cX8_dead 49 = .ok (.iastore, 1) := by decide +kernel
theorem dX8_dead_50 : decode cX8_dead 50 = .ok (.iinc 4 1, 3) := by decide +kernel
theorem dX8_dead_53 : decode cX8_dead 53 = .ok (.goto (-26), 3) := by decide +kernel
theorem dX8_dead_56 : decode cX8_dead 56 = .ok (.aload_n 0, 1) := by decide +kernel
theorem dX8_dead_57 : decode cX8_dead 57 = .ok (.iload_n 2, 1) := by decide +kernel
theorem dX8_dead_58 : decode cX8_dead 58 = .ok (.invokevirtual 154, 3) := by decide +kernel
theorem dX8_dead_61 : decode cX8_dead 61 = .ok (.iconst 0, 1) := by decide +kernel
theorem dX8_dead_62 : decode cX8_dead 62 = .ok (.istore 4, 2) := by decide +kernel
theorem dX8_dead_64 : decode cX8_dead 64 = .ok (.iload 4, 2) := by decide +kernel
theorem dX8_dead_66 : decode cX8_dead 66 = .ok (.aload_n 0, 1) := by decide +kernel
theorem dX8_dead_67 : decode cX8_dead 67 = .ok (.getfield 115, 3) := by decide +kernel
theorem dX8_dead_70 : decode cX8_dead 70 = .ok (.if_icmp .ge 34, 3) := by decide +kernel
theorem dX8_dead_73 : decode cX8_dead 73 = .ok (.iload_n 3, 1) := by decide +kernel
theorem dX8_dead_74 : decode cX8_dead 74 = .ok (.aload_n 0, 1) := by decide +kernel
theorem dX8_dead_75 : decode cX8_dead 75 = .ok (.getfield 96, 3) := by decide +kernel
theorem dX8_dead_78 : decode cX8_dead 78 = .ok (.iload 4, 2) := by decide +kernel
theorem dX8_dead_80 : decode cX8_dead 80 = .ok (.iaload, 1) := by decide +kernel
theorem dX8_dead_81 : decode cX8_dead 81 = .ok (.aload_n 0, 1) := by decide +kernel
theorem dX8_dead_82 : decode cX8_dead 82 = .ok (.getfield 35, 3) := by decide +kernel
theorem dX8_dead_85 : decode cX8_dead 85 = .ok (.iload 4, 2) := by decide +kernel
theorem dX8_dead_87 : decode cX8_dead 87 = .ok (.iaload, 1) := by decide +kernel
theorem dX8_dead_88 : decode cX8_dead 88 = .ok (.if_icmp .ne 7, 3) := by decide +kernel
theorem dX8_dead_91 : decode cX8_dead 91 = .ok (.iconst 0, 1) := by decide +kernel
theorem dX8_dead_92 : decode cX8_dead 92 = .ok (.goto 4, 3) := by decide +kernel
theorem dX8_dead_95 : decode cX8_dead 95 = .ok (.iconst 1, 1) := by decide +kernel
theorem dX8_dead_96 : decode cX8_dead 96 = .ok (.iadd, 1) := by decide +kernel
theorem dX8_dead_97 : decode cX8_dead 97 = .ok (.istore_n 3, 1) := by decide +kernel
theorem dX8_dead_98 : decode cX8_dead 98 = .ok (.iinc 4 1, 3) := by decide +kernel
theorem dX8_dead_101 : decode cX8_dead 101 = .ok (.goto (-37), 3) := by decide +kernel
theorem dX8_dead_104 : decode cX8_dead 104 = .ok (.iload_n 3, 1) := by decide +kernel
theorem dX8_dead_105 : decode cX8_dead 105 = .ok (.ifCond .le 8, 3) := by decide +kernel
theorem dX8_dead_108 : decode cX8_dead 108 = .ok (.bipush (-9), 2) := by decide +kernel
theorem dX8_dead_110 : decode cX8_dead 110 = .ok (.goto 12, 3) := by decide +kernel
theorem dX8_dead_113 : decode cX8_dead 113 = .ok (.iload_n 1, 1) := by decide +kernel
theorem dX8_dead_114 : decode cX8_dead 114 = .ok (.ifCond .ge 7, 3) := by decide +kernel
theorem dX8_dead_117 : decode cX8_dead 117 = .ok (.iload_n 2, 1) := by decide +kernel
theorem dX8_dead_118 : decode cX8_dead 118 = .ok (.goto 4, 3) := by decide +kernel
theorem dX8_dead_121 : decode cX8_dead 121 = .ok (.iload_n 1, 1) := by decide +kernel
theorem dX8_dead_122 : decode cX8_dead 122 = .ok (.istore_n 1, 1) := by decide +kernel
theorem dX8_dead_123 : decode cX8_dead 123 = .ok (.iinc 2 1, 3) := by decide +kernel
theorem dX8_dead_126 : decode cX8_dead 126 = .ok (.goto (-112), 3) := by decide +kernel
theorem dX8_dead_129 : decode cX8_dead 129 = .ok (.iload_n 1, 1) := by decide +kernel
theorem dX8_dead_130 : decode cX8_dead 130 = .ok (.ireturn, 1) := by decide +kernel
theorem dX8_flip_0 : decode cX8_flip 0 = .ok (.aload_n 0, 1) := by decide +kernel
theorem dX8_flip_1 : decode cX8_flip 1 = .ok (.iconst 0, 1) := by decide +kernel
theorem dX8_flip_2 : decode cX8_flip 2 = .ok (.putfield 105, 3) := by decide +kernel
theorem dX8_flip_5 : decode cX8_flip 5 = .ok (.iload_n 1, 1) := by decide +kernel
theorem dX8_flip_6 : decode cX8_flip 6 = .ok (.i2l, 1) := by decide +kernel
theorem dX8_flip_7 : decode cX8_flip 7 = .ok (.lconst 0, 1) := by decide +kernel
theorem dX8_flip_8 : decode cX8_flip 8 = .ok (.lconst 1, 1) := by decide +kernel
theorem dX8_flip_9 : decode cX8_flip 9 = .ok (.invokestatic 111, 3) := by decide +kernel
theorem dX8_flip_12 : decode cX8_flip 12 = .ok (.ifCond .ne 10, 3) := by decide +kernel
theorem dX8_flip_15 : decode cX8_flip 15 = .ok (.aload_n 0, 1) := by decide +kernel
theorem dX8_flip_16 : decode cX8_flip 16 = .ok (.bipush (-2), 2) := by decide +kernel
theorem dX8_flip_18 : decode cX8_flip 18 = .ok (.invokevirtual 164, 3) := by decide +kernel
theorem dX8_flip_21 : decode cX8_flip 21 = .ok (.ireturn, 1) := by decide +kernel
theorem dX8_flip_22 : decode cX8_flip 22 = .ok (.aload_n 0, 1) := by decide +kernel
theorem dX8_flip_23 : decode cX8_flip 23 = .ok (.invokevirtual 297, 3) := by decide +kernel
theorem dX8_flip_26 : decode cX8_flip 26 = .ok (.ifCond .le 7, 3) := by decide +kernel
theorem dX8_flip_29 : decode cX8_flip 29 = .ok (.iconst 1, 1) := by decide +kernel
theorem dX8_flip_30 : decode cX8_flip 30 = .ok (.goto 4, 3) := by decide +kernel
theorem dX8_flip_33 : decode cX8_flip 33 = .ok (.iconst 0, 1) := by decide +kernel
theorem dX8_flip_34 : decode cX8_flip 34 = .ok (.istore_n 2, 1) := by decide +kernel
theorem dX8_flip_35 : decode cX8_flip 35 = .ok (.bipush (-9), 2) := by decide +kernel
theorem dX8_flip_37 : decode cX8_flip 37 = .ok (.istore_n 3, 1) := by decide +kernel
theorem dX8_flip_38 : decode cX8_flip 38 = .ok (.iconst 1, 1) := by decide +kernel
theorem dX8_flip_39 : decode cX8_flip 39 = .ok (.istore 4, 2) := by decide +kernel
theorem dX8_flip_41 : decode cX8_flip 41 = .ok (.iload 4, 2) := by decide +kernel
theorem dX8_flip_43 : decode cX8_flip 43 = .ok (.iconst 1, 1) := by decide +kernel
theorem dX8_flip_44 : decode cX8_flip 44 = .ok (.aload_n 0, 1) := by decide +kernel
theorem dX8_flip_45 : decode cX8_flip 45 = .ok (.getfield 108, 3) := by decide +kernel
theorem dX8_flip_48 : decode cX8_flip 48 = .ok (.ishl, 1) := by decide +kernel
theorem dX8_flip_49 : decode cX8_flip 49 = .ok (.if_icmp .ge 50, 3) := by decide +kernel
theorem dX8_flip_52 : decode cX8_flip 52 = .ok (.iload_n 3, 1) := by decide +kernel
theorem dX8_flip_53 : decode cX8_flip 53 = .ok (.ifCond .lt 15, 3) := by decide +kernel
theorem dX8_flip_56 : decode cX8_flip 56 = .ok (.iload 4, 2) := by decide +kernel
theorem dX8_flip_58 : decode cX8_flip 58 = .ok (.invokestatic 282, 3) := by decide +kernel
theorem dX8_flip_61 : decode cX8_flip 61 = .ok (.iload_n 3, 1) := by decide +kernel
theorem dX8_flip_62 : decode cX8_flip 62 = .ok (.invokestatic 282, 3) := by decide +kernel
theorem dX8_flip_65 : decode cX8_flip 65 = .ok (.if_icmp .ge 28, 3) := by decide +kernel
theorem dX8_flip_68 : decode cX8_flip 68 = .ok (.aload_n 0, 1) := by decide +kernel
theorem dX8_flip_69 : decode cX8_flip 69 = .ok (.invokevirtual 158, 3) := by decide +kernel
theorem dX8_flip_72 : decode cX8_flip 72 = .ok (.aload_n 0, 1) := by decide +kernel
theorem dX8_flip_73 : decode cX8_flip 73 = .ok (.iload 4, 2) := by decide +kernel
theorem dX8_flip_75 : decode cX8_flip 75 = .ok (.invokevirtual 161, 3) := by decide +kernel
theorem dX8_flip_78 : decode cX8_flip 78 = .ok (.aload_n 0, 1) := by decide +kernel
theorem dX8_flip_79 : decode cX8_flip 79 = .ok (.invokevirtual 252, 3) := by decide +kernel
theorem dX8_flip_82 : decode cX8_flip 82 = .ok (.iload_n 2, 1) := by decide +kernel
theorem dX8_flip_83 : decode cX8_flip 83 = .ok (.if_icmp .ne 7, 3) := by decide +kernel
theorem dX8_flip_86 : decode cX8_flip 86 = .ok (.iload_n 3, 1) := by decide +kernel
theorem dX8_flip_87 : decode cX8_flip 87 = .ok (.goto 5, 3) := by decide +kernel
theorem dX8_flip_90 : decode cX8_flip 90 = .ok (.iload 4, 2) := by decide +kernel
theorem dX8_flip_92 : decode cX8_flip 92 = .ok (.istore_n 3, 1) := by decide +kernel
theorem dX8_flip_93 : decode cX8_flip 93 = .ok (.iinc 4 1, 3) := by decide +kernel
theorem dX8_flip_96 : decode cX8_flip 96 = .ok (.goto (-55), 3) := by decide +kernel
theorem dX8_flip_99 : decode cX8_flip 99 = .ok (.iload_n 1, 1) := by decide +kernel
theorem dX8_flip_100 : decode cX8_flip 100 = .ok (.iconst 1, 1) := by decide +kernel
theorem dX8_flip_101 : decode cX8_flip 101 = .ok (.if_icmp .eq 7, 3) := by decide +kernel
theorem dX8_flip_104 : decode cX8_flip 104 = .ok (.iload_n 3, 1) := by decide +kernel
theorem dX8_flip_105 : decode cX8_flip 105 = .ok (.ifCond .ge 7, 3) := by decide +kernel
theorem dX8_flip_108 : decode cX8_flip 108 = .ok (.iload_n 3, 1) := by decide +kernel
theorem dX8_flip_109 : decode cX8_flip 109 = .ok (.goto 7, 3) := by decide +kernel
theorem dX8_flip_112 : decode cX8_flip 112 = .ok (.iload_n 3, 1) := by decide +kernel
theorem dX8_flip_113 : decode cX8_flip 113 = .ok (.invokestatic 282, 3) := by decide +kernel
theorem dX8_flip_116 : decode cX8_flip 116 = .ok (.ireturn, 1) := by decide +kernel
theorem dX8_isOtherBy_0 : decode cX8_isOtherBy 0 = .ok (.aload_n 0, 1) := by decide +kernel
theorem dX8_isOtherBy_1 : decode cX8_isOtherBy 1 = .ok (.invokevirtual 158, 3) := by decide +kernel
theorem dX8_isOtherBy_4 : decode cX8_isOtherBy 4 = .ok (.iconst 0, 1) := by decide +kernel
theorem dX8_isOtherBy_5 : decode cX8_isOtherBy 5 = .ok (.istore_n 3, 1) := by decide +kernel
theorem dX8_isOtherBy_6 : decode cX8_isOtherBy 6 = .ok (.iload_n 3, 1) := by decide +kernel
theorem dX8_isOtherBy_7 : decode cX8_isOtherBy 7 = .ok (.iload_n 1, 1) := by decide +kernel
theorem dX8_isOtherBy_8 : decode cX8_isOtherBy 8 = .ok (.if_icmp .ge 71, 3) := by decide +kernel
theorem dX8_isOtherBy_11 : decode cX8_isOtherBy 11 = .ok (.aload_n 0, 1) := by decide +kernel
theorem dX8_isOtherBy_12 : decode cX8_isOtherBy 12 = .ok (.getfield 99, 3) := by decide +kernel
theorem dX8_isOtherBy_15 : decode cX8_isOtherBy 15 = .ok (.iload_n 3, 1) := by decide +kernel
theorem dX8_isOtherBy_16 : decode cX8_isOtherBy 16 = .ok (.iaload, 1) := by decide +kernel
theorem dX8_isOtherBy_17 : decode cX8_isOtherBy 17 = .ok (.iconst 2, 1) := by decide +kernel
theorem dX8_isOtherBy_18 : decode cX8_isOtherBy 18 = .ok (.idiv, 1) := by decide +kernel
theorem dX8_isOtherBy_19 : decode cX8_isOtherBy 19 = .ok (.istore 4, 2) := by decide +kernel
theorem dX8_isOtherBy_21 : decode cX8_isOtherBy 21 = .ok (.aload_n 0, 1) := by decide +kernel
theorem dX8_isOtherBy_22 : decode cX8_isOtherBy 22 = .ok (.getfield 35, 3) := by decide +kernel
theorem dX8_isOtherBy_25 : decode cX8_isOtherBy 25 = .ok (.iload 4, 2) := by decide +kernel
theorem dX8_isOtherBy_27 : decode cX8_isOtherBy 27 = .ok (.iaload, 1) := by decide +kernel
theorem dX8_isOtherBy_28 : decode cX8_isOtherBy 28 = .ok (.aload_n 0, 1) := by decide +kernel
theorem dX8_isOtherBy_29 : decode cX8_isOtherBy 29 = .ok (.getfield 99, 3) := by decide +kernel
theorem dX8_isOtherBy_32 : decode cX8_isOtherBy 32 = .ok (.iload_n 3, 1) := by decide +kernel
theorem dX8_isOtherBy_33 : decode cX8_isOtherBy 33 = .ok (.iaload, 1) := by decide +kernel
theorem dX8_isOtherBy_34 : decode cX8_isOtherBy 34 = .ok (.iconst 2, 1) := by decide +kernel
theorem dX8_isOtherBy_35 : decode cX8_isOtherBy 35 = .ok (.irem, 1) := by decide +kernel
theorem dX8_isOtherBy_36 : decode cX8_isOtherBy 36 = .ok (.ifCond .ne 7, 3) := by decide +kernel
theorem dX8_isOtherBy_39 : decode cX8_isOtherBy 39 = .ok (.iconst 1, 1) := by decide +kernel
theorem dX8_isOtherBy_40 : decode cX8_isOtherBy 40 = .ok (.goto 4, 3) := by decide +kernel
theorem dX8_isOtherBy_43 : decode cX8_isOtherBy 43 = .ok (.iconst (-1), 1) := by decide +kernel
theorem dX8_isOtherBy_44 : decode cX8_isOtherBy 44 = .ok (.iadd, 1) := by decide +kernel
theorem dX8_isOtherBy_45 : decode cX8_isOtherBy 45 = .ok (.istore 5, 2) := by decide +kernel
theorem dX8_isOtherBy_47 : decode cX8_isOtherBy 47 = .ok (.iload 5, 2) := by decide +kernel
theorem dX8_isOtherBy_49 : decode cX8_isOtherBy 49 = .ok (.i2l, 1) := by decide +kernel
theorem dX8_isOtherBy_50 : decode cX8_isOtherBy 50 = .ok (.ldc2_w 333, 3) := by decide +kernel
theorem dX8_isOtherBy_53 : decode cX8_isOtherBy 53 = .ok (.ldc2_w 245, 3) := by decide +kernel
theorem dX8_isOtherBy_56 : decode cX8_isOtherBy 56 = .ok (.invokestatic 111, 3) := by decide +kernel
theorem dX8_isOtherBy_59 : decode cX8_isOtherBy 59 = .ok (.ifCond .ne 5, 3) := by decide +kernel
theorem dX8_isOtherBy_62 : decode cX8_isOtherBy 62 = .ok (.iconst 0, 1) := by decide +kernel
theorem dX8_isOtherBy_63 : decode cX8_isOtherBy 63 = .ok (.ireturn, 1) := by decide +kernel
theorem dX8_isOtherBy_64 : decode cX8_isOtherBy 64 = .ok (.aload_n 0, 1) := by decide +kernel
theorem dX8_isOtherBy_65 : decode cX8_isOtherBy 65 = .ok (.getfield 35, 3) := by decide +kernel
theorem dX8_isOtherBy_68 : decode cX8_isOtherBy 68 = .ok (.iload 4, 2) := by decide +kernel
theorem dX8_isOtherBy_70 : decode cX8_isOtherBy 70 = .ok (.iload 5, 2) := by decide +kernel
theorem dX8_isOtherBy_72 : decode cX8_isOtherBy 72 = .ok (.iastore, 1) := by decide +kernel
theorem dX8_isOtherBy_73 : decode cX8_isOtherBy 73 = .ok (.iinc 3 1, 3) := by decide +kernel
theorem dX8_isOtherBy_76 : decode cX8_isOtherBy 76 = .ok (.goto (-70), 3) := by decide +kernel
theorem dX8_isOtherBy_79 : decode cX8_isOtherBy 79 = .ok (.aload_n 0, 1) := by decide +kernel
theorem dX8_isOtherBy_80 : decode cX8_isOtherBy 80 = .ok (.iconst 0, 1) := by decide +kernel
theorem dX8_isOtherBy_81 : decode cX8_isOtherBy 81 = .ok (.invokevirtual 161, 3) := by decide +kernel
theorem dX8_isOtherBy_84 : decode cX8_isOtherBy 84 = .ok (.aload_n 0, 1) := by decide +kernel
theorem dX8_isOtherBy_85 : decode cX8_isOtherBy 85 = .ok (.invokevirtual 252, 3) := by decide +kernel
theorem dX8_isOtherBy_88 : decode cX8_isOtherBy 88 = .ok (.iload_n 2, 1) := by decide +kernel
theorem dX8_isOtherBy_89 : decode cX8_isOtherBy 89 = .ok (.if_icmp .eq 7, 3) := by decide +kernel
theorem dX8_isOtherBy_92 : decode cX8_isOtherBy 92 = .ok (.iconst 1, 1) := by decide +kernel
theorem dX8_isOtherBy_93 : decode cX8_isOtherBy 93 = .ok (.goto 4, 3) := by decide +kernel
theorem dX8_isOtherBy_96 : decode cX8_isOtherBy 96 = .ok (.iconst 0, 1) := by decide +kernel
theorem dX8_isOtherBy_97 : decode cX8_isOtherBy 97 = .ok (.ireturn, 1) := by decide +kernel
theorem dX8_margin_0 : decode cX8_margin 0 = .ok (.aload_n 0, 1) := by decide +kernel
theorem dX8_margin_1 : decode cX8_margin 1 = .ok (.iconst 0, 1) := by decide +kernel
theorem dX8_margin_2 : decode cX8_margin 2 = .ok (.putfield 105, 3) := by decide +kernel
theorem dX8_margin_5 : decode cX8_margin 5 = .ok (.aload_n 0, 1) := by decide +kernel
theorem dX8_margin_6 : decode cX8_margin 6 = .ok (.invokevirtual 297, 3) := by decide +kernel
theorem dX8_margin_9 : decode cX8_margin 9 = .ok (.ifCond .le 7, 3) := by decide +kernel
theorem dX8_margin_12 : decode cX8_margin 12 = .ok (.iconst 1, 1) := by decide +kernel
theorem dX8_margin_13 : decode cX8_margin 13 = .ok (.goto 4, 3) := by decide +kernel
theorem dX8_margin_16 : decode cX8_margin 16 = .ok (.iconst 0, 1) := by decide +kernel
theorem dX8_margin_17 : decode cX8_margin 17 = .ok (.istore_n 1, 1) := by decide +kernel
theorem dX8_margin_18 : decode cX8_margin 18 = .ok (.iconst 2, 1) := by decide +kernel
theorem dX8_margin_19 : decode cX8_margin 19 = .ok (.aload_n 0, 1) := by decide +kernel
theorem dX8_margin_20 : decode cX8_margin 20 = .ok (.getfield 19, 3) := by decide +kernel
theorem dX8_margin_23 : decode cX8_margin 23 = .ok (.imul, 1) := by decide +kernel
theorem dX8_margin_24 : decode cX8_margin 24 = .ok (.istore_n 2, 1) := by decide +kernel
theorem dX8_margin_25 : decode cX8_margin 25 = .ok (.iconst 1, 1) := by decide +kernel
theorem dX8_margin_26 : decode cX8_margin 26 = .ok (.istore_n 3, 1) := by decide +kernel
theorem dX8_margin_27 : decode cX8_margin 27 = .ok (.iconst 1, 1) := by decide +kernel
theorem dX8_margin_28 : decode cX8_margin 28 = .ok (.istore 4, 2) := by decide +kernel
theorem dX8_margin_30 : decode cX8_margin 30 = .ok (.iload 4, 2) := by decide +kernel
theorem dX8_margin_32 : decode cX8_margin 32 = .ok (.iconst 3, 1) := by decide +kernel
theorem dX8_margin_33 : decode cX8_margin 33 = .ok (.if_icmp .gt 75, 3) := by decide +kernel
theorem dX8_margin_36 : decode cX8_margin 36 = .ok (.iload_n 3, 1) := by decide +kernel
theorem dX8_margin_37 : decode cX8_margin 37 = .ok (.iload_n 2, 1) := by decide +kernel
theorem dX8_margin_38 : decode cX8_margin 38 = .ok (.imul, 1) := by decide +kernel
theorem dX8_margin_39 : decode cX8_margin 39 = .ok (.istore_n 3, 1) := by decide +kernel
theorem dX8_margin_40 : decode cX8_margin 40 = .ok (.iconst 0, 1) := by decide +kernel
theorem dX8_margin_41 : decode cX8_margin 41 = .ok (.istore 5, 2) := by decide +kernel
theorem dX8_margin_43 : decode cX8_margin 43 = .ok (.iload 5, 2) := by decide +kernel
theorem dX8_margin_45 : decode cX8_margin 45 = .ok (.iload_n 3, 1) := by decide +kernel
theorem dX8_margin_46 : decode cX8_margin 46 = .ok (.if_icmp .ge 56, 3) := by decide +kernel
theorem dX8_margin_49 : decode cX8_margin 49 = .ok (.aload_n 0, 1) := by decide +kernel
theorem dX8_margin_50 : decode cX8_margin 50 = .ok (.getfield 99, 3) := by decide +kernel
theorem dX8_margin_53 : decode cX8_margin 53 = .ok (.iconst 0, 1) := by decide +kernel
theorem dX8_margin_54 : decode cX8_margin 54 = .ok (.iload 5, 2) := by decide +kernel
theorem dX8_margin_56 : decode cX8_margin 56 = .ok (.iload_n 2, 1) := by decide +kernel
theorem dX8_margin_57 : decode cX8_margin 57 = .ok (.irem, 1) := by decide +kernel
theorem dX8_margin_58 : decode cX8_margin 58 = .ok (.iastore, 1) := by decide +kernel
theorem dX8_margin_59 : decode cX8_margin 59 = .ok (.aload_n 0, 1) := by decide +kernel
theorem dX8_margin_60 : decode cX8_margin 60 = .ok (.getfield 99, 3) := by decide +kernel
theorem dX8_margin_63 : decode cX8_margin 63 = .ok (.iconst 1, 1) := by decide +kernel
theorem dX8_margin_64 : decode cX8_margin 64 = .ok (.iload 5, 2) := by decide +kernel
theorem dX8_margin_66 : decode cX8_margin 66 = .ok (.iload_n 2, 1) := by decide +kernel
theorem dX8_margin_67 : decode cX8_margin 67 = .ok (.idiv, 1) := by decide +kernel
theorem dX8_margin_68 : decode cX8_margin 68 = .ok (.iload_n 2, 1) := by decide +kernel
theorem dX8_margin_69 : decode cX8_margin 69 = .ok (.irem, 1) := by decide +kernel
theorem dX8_margin_70 : decode cX8_margin 70 = .ok (.iastore, 1) := by decide +kernel
theorem dX8_margin_71 : decode cX8_margin 71 = .ok (.aload_n 0, 1) := by decide +kernel
theorem dX8_margin_72 : decode cX8_margin 72 = .ok (.getfield 99, 3) := by decide +kernel
theorem dX8_margin_75 : decode cX8_margin 75 = .ok (.iconst 2, 1) := by decide +kernel
theorem dX8_margin_76 : decode cX8_margin 76 = .ok (.iload 5, 2) := by decide +kernel
theorem dX8_margin_78 : decode cX8_margin 78 = .ok (.iload_n 2, 1) := by decide +kernel
theorem dX8_margin_79 : decode cX8_margin 79 = .ok (.idiv, 1) := by decide +kernel
theorem dX8_margin_80 : decode cX8_margin 80 = .ok (.iload_n 2, 1) := by decide +kernel
theorem dX8_margin_81 : decode cX8_margin 81 = .ok (.idiv, 1) := by decide +kernel
theorem dX8_margin_82 : decode cX8_margin 82 = .ok (.iastore, 1) := by decide +kernel
theorem dX8_margin_83 : decode cX8_margin 83 = .ok (.aload_n 0, 1) := by decide +kernel
theorem dX8_margin_84 : decode cX8_margin 84 = .ok (.iload 4, 2) := by decide +kernel
theorem dX8_margin_86 : decode cX8_margin 86 = .ok (.iload_n 1, 1) := by decide +kernel
theorem dX8_margin_87 : decode cX8_margin 87 = .ok (.invokevirtual 335, 3) := by decide +kernel
theorem dX8_margin_90 : decode cX8_margin 90 = .ok (.ifCond .eq 6, 3) := by decide +kernel
theorem dX8_margin_93 : decode cX8_margin 93 = .ok (.iload 4, 2) := by decide +kernel
theorem dX8_margin_95 : decode cX8_margin 95 = .ok (.ireturn, 1) := by decide +kernel
theorem dX8_margin_96 : decode cX8_margin 96 = .ok (.iinc 5 1, 3) := by decide +kernel
theorem dX8_margin_99 : decode cX8_margin 99 = .ok (.goto (-56), 3) := by decide +kernel
theorem dX8_margin_102 : decode cX8_margin 102 = .ok (.iinc 4 1, 3) := by decide +kernel
theorem dX8_margin_105 : decode cX8_margin 105 = .ok (.goto (-75), 3) := by decide +kernel
theorem dX8_margin_108 : decode cX8_margin 108 = .ok (.bipush (-9), 2) := by decide +kernel
theorem dX8_margin_110 : decode cX8_margin 110 = .ok (.ireturn, 1) := by decide +kernel
theorem dX8_beats_0 : decode cX8_beats 0 = .ok (.aload_n 0, 1) := by decide +kernel
theorem dX8_beats_1 : decode cX8_beats 1 = .ok (.iconst 0, 1) := by decide +kernel
theorem dX8_beats_2 : decode cX8_beats 2 = .ok (.putfield 105, 3) := by decide +kernel
theorem dX8_beats_5 : decode cX8_beats 5 = .ok (.aload_n 0, 1) := by decide +kernel
theorem dX8_beats_6 : decode cX8_beats 6 = .ok (.getfield 312, 3) := by decide +kernel
theorem dX8_beats_9 : decode cX8_beats 9 = .ok (.aload_n 0, 1) := by decide +kernel
theorem dX8_beats_10 : decode cX8_beats 10 = .ok (.getfield 19, 3) := by decide +kernel
theorem dX8_beats_13 : decode cX8_beats 13 = .ok (.if_icmp .ne 7, 3) := by decide +kernel
theorem dX8_beats_16 : decode cX8_beats 16 = .ok (.iconst 1, 1) := by decide +kernel
theorem dX8_beats_17 : decode cX8_beats 17 = .ok (.goto 4, 3) := by decide +kernel
theorem dX8_beats_20 : decode cX8_beats 20 = .ok (.iconst 0, 1) := by decide +kernel
theorem dX8_beats_21 : decode cX8_beats 21 = .ok (.istore_n 1, 1) := by decide +kernel
theorem dX8_beats_22 : decode cX8_beats 22 = .ok (.iconst 0, 1) := by decide +kernel
theorem dX8_beats_23 : decode cX8_beats 23 = .ok (.istore_n 2, 1) := by decide +kernel
theorem dX8_beats_24 : decode cX8_beats 24 = .ok (.iload_n 2, 1) := by decide +kernel
theorem dX8_beats_25 : decode cX8_beats 25 = .ok (.aload_n 0, 1) := by decide +kernel
theorem dX8_beats_26 : decode cX8_beats 26 = .ok (.getfield 312, 3) := by decide +kernel
theorem dX8_beats_29 : decode cX8_beats 29 = .ok (.if_icmp .ge 30, 3) := by decide +kernel
theorem dX8_beats_32 : decode cX8_beats 32 = .ok (.iload_n 1, 1) := by decide +kernel
theorem dX8_beats_33 : decode cX8_beats 33 = .ok (.ifCond .eq 18, 3) := by decide +kernel
theorem dX8_beats_36 : decode cX8_beats 36 = .ok (.aload_n 0, 1) := by decide +kernel
theorem dX8_beats_37 : decode cX8_beats 37 = .ok (.getfield 87, 3) := by decide +kernel
theorem dX8_beats_40 : decode cX8_beats 40 = .ok (.iload_n 2, 1) := by decide +kernel
theorem dX8_beats_41 : decode cX8_beats 41 = .ok (.iaload, 1) := by decide +kernel
theorem dX8_beats_42 : decode cX8_beats 42 = .ok (.bipush 18, 2) := by decide +kernel
theorem dX8_beats_44 : decode cX8_beats 44 = .ok (.if_icmp .gt 7, 3) := by decide +kernel
theorem dX8_beats_47 : decode cX8_beats 47 = .ok (.iconst 1, 1) := by decide +kernel
theorem dX8_beats_48 : decode cX8_beats 48 = .ok (.goto 4, 3) := by decide +kernel
theorem dX8_beats_51 : decode cX8_beats 51 = .ok (.iconst 0, 1) := by decide +kernel
theorem dX8_beats_52 : decode cX8_beats 52 = .ok (.istore_n 1, 1) := by decide +kernel
theorem dX8_beats_53 : decode cX8_beats 53 = .ok (.iinc 2 1, 3) := by decide +kernel
theorem dX8_beats_56 : decode cX8_beats 56 = .ok (.goto (-32), 3) := by decide +kernel
theorem dX8_beats_59 : decode cX8_beats 59 = .ok (.iload_n 1, 1) := by decide +kernel
theorem dX8_beats_60 : decode cX8_beats 60 = .ok (.ifCond .ne 10, 3) := by decide +kernel
theorem dX8_beats_63 : decode cX8_beats 63 = .ok (.aload_n 0, 1) := by decide +kernel
theorem dX8_beats_64 : decode cX8_beats 64 = .ok (.bipush (-3), 2) := by decide +kernel
theorem dX8_beats_66 : decode cX8_beats 66 = .ok (.invokevirtual 164, 3) := by decide +kernel
theorem dX8_beats_69 : decode cX8_beats 69 = .ok (.ireturn, 1) := by decide +kernel
theorem dX8_beats_70 : decode cX8_beats 70 = .ok (.aload_n 0, 1) := by decide +kernel
theorem dX8_beats_71 : decode cX8_beats 71 = .ok (.invokevirtual 297, 3) := by decide +kernel
theorem dX8_beats_74 : decode cX8_beats 74 = .ok (.istore_n 2, 1) := by decide +kernel
theorem dX8_beats_75 : decode cX8_beats 75 = .ok (.aload_n 0, 1) := by decide +kernel
theorem dX8_beats_76 : decode cX8_beats 76 = .ok (.aload_n 0, 1) := by decide +kernel
theorem dX8_beats_77 : decode cX8_beats 77 = .ok (.getfield 19, 3) := by decide +kernel
theorem dX8_beats_80 : decode cX8_beats 80 = .ok (.putfield 115, 3) := by decide +kernel
theorem dX8_beats_83 : decode cX8_beats 83 = .ok (.iconst 0, 1) := by decide +kernel
theorem dX8_beats_84 : decode cX8_beats 84 = .ok (.istore_n 3, 1) := by decide +kernel
theorem dX8_beats_85 : decode cX8_beats 85 = .ok (.iload_n 3, 1) := by decide +kernel
theorem dX8_beats_86 : decode cX8_beats 86 = .ok (.aload_n 0, 1) := by decide +kernel
theorem dX8_beats_87 : decode cX8_beats 87 = .ok (.getfield 19, 3) := by decide +kernel
theorem dX8_beats_90 : decode cX8_beats 90 = .ok (.if_icmp .ge 24, 3) := by decide +kernel
theorem dX8_beats_93 : decode cX8_beats 93 = .ok (.aload_n 0, 1) := by decide +kernel
theorem dX8_beats_94 : decode cX8_beats 94 = .ok (.getfield 35, 3) := by decide +kernel
theorem dX8_beats_97 : decode cX8_beats 97 = .ok (.iload_n 3, 1) := by decide +kernel
theorem dX8_beats_98 : decode cX8_beats 98 = .ok (.aload_n 0, 1) := by decide +kernel
theorem dX8_beats_99 : decode cX8_beats 99 = .ok (.getfield 87, 3) := by decide +kernel
theorem dX8_beats_102 : decode cX8_beats 102 = .ok (.iload_n 3, 1) := by decide +kernel
theorem dX8_beats_103 : decode cX8_beats 103 = .ok (.iaload, 1) := by decide +kernel
theorem dX8_beats_104 : decode cX8_beats 104 = .ok (.bipush 9, 2) := by decide +kernel
theorem dX8_beats_106 : decode cX8_beats 106 = .ok (.isub, 1) := by decide +kernel
theorem dX8_beats_107 : decode cX8_beats 107 = .ok (.iastore, 1) := by decide +kernel
theorem dX8_beats_108 : decode cX8_beats 108 = .ok (.iinc 3 1, 3) := by decide +kernel
theorem dX8_beats_111 : decode cX8_beats 111 = .ok (.goto (-26), 3) := by decide +kernel
theorem dX8_beats_114 : decode cX8_beats 114 = .ok (.aload_n 0, 1) := by decide +kernel
theorem dX8_beats_115 : decode cX8_beats 115 = .ok (.iconst 0, 1) := by decide +kernel
theorem dX8_beats_116 : decode cX8_beats 116 = .ok (.invokevirtual 161, 3) := by decide +kernel
theorem dX8_beats_119 : decode cX8_beats 119 = .ok (.aload_n 0, 1) := by decide +kernel
theorem dX8_beats_120 : decode cX8_beats 120 = .ok (.invokevirtual 118, 3) := by decide +kernel
