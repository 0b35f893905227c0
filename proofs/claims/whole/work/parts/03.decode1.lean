theorem dX7_kind_77 : decode cX7_kind 77 = .ok (.getfield 36, 3) := by decide +kernel
theorem dX7_kind_80 : decode cX7_kind 80 = .ok (.iconst 1, 1) := by decide +kernel
theorem dX7_kind_81 : decode cX7_kind 81 = .ok (.iload_n 1, 1) := by decide +kernel
theorem dX7_kind_82 : decode cX7_kind 82 = .ok (.iload 5, 2) := by decide +kernel
theorem dX7_kind_84 : decode cX7_kind 84 = .ok (.invokevirtual 134, 3) := by decide +kernel
theorem dX7_kind_87 : decode cX7_kind 87 = .ok (.aload_n 0, 1) := by decide +kernel
theorem dX7_kind_88 : decode cX7_kind 88 = .ok (.getfield 10, 3) := by decide +kernel
theorem dX7_kind_91 : decode cX7_kind 91 = .ok (.iload_n 1, 1) := by decide +kernel
theorem dX7_kind_92 : decode cX7_kind 92 = .ok (.iload_n 2, 1) := by decide +kernel
theorem dX7_kind_93 : decode cX7_kind 93 = .ok (.iload_n 3, 1) := by decide +kernel
theorem dX7_kind_94 : decode cX7_kind 94 = .ok (.invokevirtual 145, 3) := by decide +kernel
theorem dX7_kind_97 : decode cX7_kind 97 = .ok (.iload 5, 2) := by decide +kernel
theorem dX7_kind_99 : decode cX7_kind 99 = .ok (.ireturn, 1) := by decide +kernel
theorem dX7_lowest_0 : decode cX7_lowest 0 = .ok (.iload_n 1, 1) := by decide +kernel
theorem dX7_lowest_1 : decode cX7_lowest 1 = .ok (.invokestatic 142, 3) := by decide +kernel
theorem dX7_lowest_4 : decode cX7_lowest 4 = .ok (.ifCond .ne 10, 3) := by decide +kernel
theorem dX7_lowest_7 : decode cX7_lowest 7 = .ok (.aload_n 0, 1) := by decide +kernel
theorem dX7_lowest_8 : decode cX7_lowest 8 = .ok (.bipush (-2), 2) := by decide +kernel
theorem dX7_lowest_10 : decode cX7_lowest 10 = .ok (.invokevirtual 91, 3) := by decide +kernel
theorem dX7_lowest_13 : decode cX7_lowest 13 = .ok (.ireturn, 1) := by decide +kernel
theorem dX7_lowest_14 : decode cX7_lowest 14 = .ok (.iload_n 2, 1) := by decide +kernel
theorem dX7_lowest_15 : decode cX7_lowest 15 = .ok (.ifCond .lt 7, 3) := by decide +kernel
theorem dX7_lowest_18 : decode cX7_lowest 18 = .ok (.iload_n 3, 1) := by decide +kernel
theorem dX7_lowest_19 : decode cX7_lowest 19 = .ok (.ifCond .ge 10, 3) := by decide +kernel
theorem dX7_lowest_22 : decode cX7_lowest 22 = .ok (.aload_n 0, 1) := by decide +kernel
theorem dX7_lowest_23 : decode cX7_lowest 23 = .ok (.bipush (-4), 2) := by decide +kernel
theorem dX7_lowest_25 : decode cX7_lowest 25 = .ok (.invokevirtual 91, 3) := by decide +kernel
theorem dX7_lowest_28 : decode cX7_lowest 28 = .ok (.ireturn, 1) := by decide +kernel
theorem dX7_lowest_29 : decode cX7_lowest 29 = .ok (.aload_n 0, 1) := by decide +kernel
theorem dX7_lowest_30 : decode cX7_lowest 30 = .ok (.getfield 10, 3) := by decide +kernel
theorem dX7_lowest_33 : decode cX7_lowest 33 = .ok (.iload_n 1, 1) := by decide +kernel
theorem dX7_lowest_34 : decode cX7_lowest 34 = .ok (.iload_n 2, 1) := by decide +kernel
theorem dX7_lowest_35 : decode cX7_lowest 35 = .ok (.iload_n 3, 1) := by decide +kernel
theorem dX7_lowest_36 : decode cX7_lowest 36 = .ok (.invokevirtual 148, 3) := by decide +kernel
theorem dX7_lowest_39 : decode cX7_lowest 39 = .ok (.ifCond .ne 10, 3) := by decide +kernel
theorem dX7_lowest_42 : decode cX7_lowest 42 = .ok (.aload_n 0, 1) := by decide +kernel
theorem dX7_lowest_43 : decode cX7_lowest 43 = .ok (.bipush (-6), 2) := by decide +kernel
theorem dX7_lowest_45 : decode cX7_lowest 45 = .ok (.invokevirtual 91, 3) := by decide +kernel
theorem dX7_lowest_48 : decode cX7_lowest 48 = .ok (.ireturn, 1) := by decide +kernel
theorem dX7_lowest_49 : decode cX7_lowest 49 = .ok (.aload_n 0, 1) := by decide +kernel
theorem dX7_lowest_50 : decode cX7_lowest 50 = .ok (.getfield 36, 3) := by decide +kernel
theorem dX7_lowest_53 : decode cX7_lowest 53 = .ok (.iconst 2, 1) := by decide +kernel
theorem dX7_lowest_54 : decode cX7_lowest 54 = .ok (.iconst 0, 1) := by decide +kernel
theorem dX7_lowest_55 : decode cX7_lowest 55 = .ok (.iconst 0, 1) := by decide +kernel
theorem dX7_lowest_56 : decode cX7_lowest 56 = .ok (.invokevirtual 134, 3) := by decide +kernel
theorem dX7_lowest_59 : decode cX7_lowest 59 = .ok (.aload_n 0, 1) := by decide +kernel
theorem dX7_lowest_60 : decode cX7_lowest 60 = .ok (.getfield 10, 3) := by decide +kernel
theorem dX7_lowest_63 : decode cX7_lowest 63 = .ok (.getfield 152, 3) := by decide +kernel
theorem dX7_lowest_66 : decode cX7_lowest 66 = .ok (.ireturn, 1) := by decide +kernel
theorem dX7_set_0 : decode cX7_set 0 = .ok (.iload_n 1, 1) := by decide +kernel
theorem dX7_set_1 : decode cX7_set 1 = .ok (.tableswitch 91 0 2 #[27, 50, 71], 27) := by decide +kernel
theorem dX7_set_28 : decode cX7_set 28 = .ok (.aload_n 0, 1) := by decide +kernel
theorem dX7_set_29 : decode cX7_set 29 = .ok (.getfield 10, 3) := by decide +kernel
theorem dX7_set_32 : decode cX7_set 32 = .ok (.getfield 118, 3) := by decide +kernel
theorem dX7_set_35 : decode cX7_set 35 = .ok (.getfield 155, 3) := by decide +kernel
theorem dX7_set_38 : decode cX7_set 38 = .ok (.istore_n 3, 1) := by decide +kernel
theorem dX7_set_39 : decode cX7_set 39 = .ok (.iload_n 2, 1) := by decide +kernel
theorem dX7_set_40 : decode cX7_set 40 = .ok (.iconst 1, 1) := by decide +kernel
theorem dX7_set_41 : decode cX7_set 41 = .ok (.bipush 8, 2) := by decide +kernel
theorem dX7_set_43 : decode cX7_set 43 = .ok (.invokestatic 127, 3) := by decide +kernel
theorem dX7_set_46 : decode cX7_set 46 = .ok (.istore 4, 2) := by decide +kernel
theorem dX7_set_48 : decode cX7_set 48 = .ok (.goto 51, 3) := by decide +kernel
theorem dX7_set_51 : decode cX7_set 51 = .ok (.aload_n 0, 1) := by decide +kernel
theorem dX7_set_52 : decode cX7_set 52 = .ok (.getfield 10, 3) := by decide +kernel
theorem dX7_set_55 : decode cX7_set 55 = .ok (.getfield 156, 3) := by decide +kernel
theorem dX7_set_58 : decode cX7_set 58 = .ok (.istore_n 3, 1) := by decide +kernel
theorem dX7_set_59 : decode cX7_set 59 = .ok (.iload_n 2, 1) := by decide +kernel
theorem dX7_set_60 : decode cX7_set 60 = .ok (.iconst 0, 1) := by decide +kernel
theorem dX7_set_61 : decode cX7_set 61 = .ok (.sipush 999, 3) := by decide +kernel
theorem dX7_set_64 : decode cX7_set 64 = .ok (.invokestatic 127, 3) := by decide +kernel
theorem dX7_set_67 : decode cX7_set 67 = .ok (.istore 4, 2) := by decide +kernel
theorem dX7_set_69 : decode cX7_set 69 = .ok (.goto 30, 3) := by decide +kernel
theorem dX7_set_72 : decode cX7_set 72 = .ok (.aload_n 0, 1) := by decide +kernel
theorem dX7_set_73 : decode cX7_set 73 = .ok (.getfield 10, 3) := by decide +kernel
theorem dX7_set_76 : decode cX7_set 76 = .ok (.getfield 159, 3) := by decide +kernel
theorem dX7_set_79 : decode cX7_set 79 = .ok (.istore_n 3, 1) := by decide +kernel
theorem dX7_set_80 : decode cX7_set 80 = .ok (.iload_n 2, 1) := by decide +kernel
theorem dX7_set_81 : decode cX7_set 81 = .ok (.iconst 0, 1) := by decide +kernel
theorem dX7_set_82 : decode cX7_set 82 = .ok (.bipush 8, 2) := by decide +kernel
theorem dX7_set_84 : decode cX7_set 84 = .ok (.invokestatic 127, 3) := by decide +kernel
theorem dX7_set_87 : decode cX7_set 87 = .ok (.istore 4, 2) := by decide +kernel
theorem dX7_set_89 : decode cX7_set 89 = .ok (.goto 10, 3) := by decide +kernel
theorem dX7_set_92 : decode cX7_set 92 = .ok (.aload_n 0, 1) := by decide +kernel
theorem dX7_set_93 : decode cX7_set 93 = .ok (.bipush (-2), 2) := by decide +kernel
theorem dX7_set_95 : decode cX7_set 95 = .ok (.invokevirtual 91, 3) := by decide +kernel
theorem dX7_set_98 : decode cX7_set 98 = .ok (.ireturn, 1) := by decide +kernel
theorem dX7_set_99 : decode cX7_set 99 = .ok (.iload 4, 2) := by decide +kernel
theorem dX7_set_101 : decode cX7_set 101 = .ok (.ifCond .eq 10, 3) := by decide +kernel
theorem dX7_set_104 : decode cX7_set 104 = .ok (.aload_n 0, 1) := by decide +kernel
theorem dX7_set_105 : decode cX7_set 105 = .ok (.iload 4, 2) := by decide +kernel
theorem dX7_set_107 : decode cX7_set 107 = .ok (.invokevirtual 91, 3) := by decide +kernel
theorem dX7_set_110 : decode cX7_set 110 = .ok (.ireturn, 1) := by decide +kernel
theorem dX7_set_111 : decode cX7_set 111 = .ok (.aload_n 0, 1) := by decide +kernel
theorem dX7_set_112 : decode cX7_set 112 = .ok (.getfield 10, 3) := by decide +kernel
theorem dX7_set_115 : decode cX7_set 115 = .ok (.iload_n 1, 1) := by decide +kernel
theorem dX7_set_116 : decode cX7_set 116 = .ok (.iload_n 2, 1) := by decide +kernel
theorem dX7_set_117 : decode cX7_set 117 = .ok (.invokevirtual 162, 3) := by decide +kernel
theorem dX7_set_120 : decode cX7_set 120 = .ok (.pop, 1) := by decide +kernel
theorem dX7_set_121 : decode cX7_set 121 = .ok (.aload_n 0, 1) := by decide +kernel
theorem dX7_set_122 : decode cX7_set 122 = .ok (.getfield 36, 3) := by decide +kernel
theorem dX7_set_125 : decode cX7_set 125 = .ok (.iconst 0, 1) := by decide +kernel
theorem dX7_set_126 : decode cX7_set 126 = .ok (.putfield 166, 3) := by decide +kernel
theorem dX7_set_129 : decode cX7_set 129 = .ok (.iload_n 3, 1) := by decide +kernel
theorem dX7_set_130 : decode cX7_set 130 = .ok (.ireturn, 1) := by decide +kernel
theorem dX7_back_0 : decode cX7_back 0 = .ok (.aload_n 0, 1) := by decide +kernel
theorem dX7_back_1 : decode cX7_back 1 = .ok (.getfield 36, 3) := by decide +kernel
theorem dX7_back_4 : decode cX7_back 4 = .ok (.getfield 166, 3) := by decide +kernel
theorem dX7_back_7 : decode cX7_back 7 = .ok (.ifCond .ne 10, 3) := by decide +kernel
theorem dX7_back_10 : decode cX7_back 10 = .ok (.aload_n 0, 1) := by decide +kernel
theorem dX7_back_11 : decode cX7_back 11 = .ok (.bipush (-3), 2) := by decide +kernel
theorem dX7_back_13 : decode cX7_back 13 = .ok (.invokevirtual 91, 3) := by decide +kernel
theorem dX7_back_16 : decode cX7_back 16 = .ok (.ireturn, 1) := by decide +kernel
theorem dX7_back_17 : decode cX7_back 17 = .ok (.aload_n 0, 1) := by decide +kernel
theorem dX7_back_18 : decode cX7_back 18 = .ok (.getfield 36, 3) := by decide +kernel
theorem dX7_back_21 : decode cX7_back 21 = .ok (.aload_n 0, 1) := by decide +kernel
theorem dX7_back_22 : decode cX7_back 22 = .ok (.getfield 10, 3) := by decide +kernel
theorem dX7_back_25 : decode cX7_back 25 = .ok (.invokevirtual 167, 3) := by decide +kernel
theorem dX7_back_28 : decode cX7_back 28 = .ok (.ireturn, 1) := by decide +kernel
theorem dX7_down_0 : decode cX7_down 0 = .ok (.iload_n 1, 1) := by decide +kernel
theorem dX7_down_1 : decode cX7_down 1 = .ok (.iconst 0, 1) := by decide +kernel
theorem dX7_down_2 : decode cX7_down 2 = .ok (.aload_n 0, 1) := by decide +kernel
theorem dX7_down_3 : decode cX7_down 3 = .ok (.getfield 10, 3) := by decide +kernel
theorem dX7_down_6 : decode cX7_down 6 = .ok (.getfield 152, 3) := by decide +kernel
theorem dX7_down_9 : decode cX7_down 9 = .ok (.invokestatic 127, 3) := by decide +kernel
theorem dX7_down_12 : decode cX7_down 12 = .ok (.istore_n 3, 1) := by decide +kernel
theorem dX7_down_13 : decode cX7_down 13 = .ok (.iload_n 3, 1) := by decide +kernel
theorem dX7_down_14 : decode cX7_down 14 = .ok (.ifCond .eq 9, 3) := by decide +kernel
theorem dX7_down_17 : decode cX7_down 17 = .ok (.aload_n 0, 1) := by decide +kernel
theorem dX7_down_18 : decode cX7_down 18 = .ok (.iload_n 3, 1) := by decide +kernel
theorem dX7_down_19 : decode cX7_down 19 = .ok (.invokevirtual 124, 3) := by decide +kernel
theorem dX7_down_22 : decode cX7_down 22 = .ok (.ireturn, 1) := by decide +kernel
theorem dX7_down_23 : decode cX7_down 23 = .ok (.iload_n 2, 1) := by decide +kernel
theorem dX7_down_24 : decode cX7_down 24 = .ok (.ifCond .lt 29, 3) := by decide +kernel
theorem dX7_down_27 : decode cX7_down 27 = .ok (.iload_n 2, 1) := by decide +kernel
theorem dX7_down_28 : decode cX7_down 28 = .ok (.bipush 9, 2) := by decide +kernel
theorem dX7_down_30 : decode cX7_down 30 = .ok (.if_icmp .gt 23, 3) := by decide +kernel
theorem dX7_down_33 : decode cX7_down 33 = .ok (.iload_n 2, 1) := by decide +kernel
theorem dX7_down_34 : decode cX7_down 34 = .ok (.bipush 8, 2) := by decide +kernel
theorem dX7_down_36 : decode cX7_down 36 = .ok (.if_icmp .ge 24, 3) := by decide +kernel
theorem dX7_down_39 : decode cX7_down 39 = .ok (.aload_n 0, 1) := by decide +kernel
theorem dX7_down_40 : decode cX7_down 40 = .ok (.getfield 10, 3) := by decide +kernel
theorem dX7_down_43 : decode cX7_down 43 = .ok (.getfield 118, 3) := by decide +kernel
theorem dX7_down_46 : decode cX7_down 46 = .ok (.iload_n 2, 1) := by decide +kernel
theorem dX7_down_47 : decode cX7_down 47 = .ok (.invokevirtual 121, 3) := by decide +kernel
theorem dX7_down_50 : decode cX7_down 50 = .ok (.ifCond .ne 10, 3) := by decide +kernel
theorem dX7_down_53 : decode cX7_down 53 = .ok (.aload_n 0, 1) := by decide +kernel
theorem dX7_down_54 : decode cX7_down 54 = .ok (.bipush (-2), 2) := by decide +kernel
theorem dX7_down_56 : decode cX7_down 56 = .ok (.invokevirtual 124, 3) := by decide +kernel
theorem dX7_down_59 : decode cX7_down 59 = .ok (.ireturn, 1) := by decide +kernel
theorem dX7_down_60 : decode cX7_down 60 = .ok (.aload_n 0, 1) := by decide +kernel
theorem dX7_down_61 : decode cX7_down 61 = .ok (.iload_n 1, 1) := by decide +kernel
theorem dX7_down_62 : decode cX7_down 62 = .ok (.invokevirtual 171, 3) := by decide +kernel
theorem dX7_down_65 : decode cX7_down 65 = .ok (.iload_n 2, 1) := by decide +kernel
theorem dX7_down_66 : decode cX7_down 66 = .ok (.bipush 9, 2) := by decide +kernel
theorem dX7_down_68 : decode cX7_down 68 = .ok (.if_icmp .ne 14, 3) := by decide +kernel
theorem dX7_down_71 : decode cX7_down 71 = .ok (.aload_n 0, 1) := by decide +kernel
theorem dX7_down_72 : decode cX7_down 72 = .ok (.getfield 54, 3) := by decide +kernel
theorem dX7_down_75 : decode cX7_down 75 = .ok (.invokevirtual 175, 3) := by decide +kernel
theorem dX7_down_78 : decode cX7_down 78 = .ok (.invokestatic 179, 3) := by decide +kernel
theorem dX7_down_81 : decode cX7_down 81 = .ok (.ireturn, 1) := by decide +kernel
theorem dX7_down_82 : decode cX7_down 82 = .ok (.iload_n 2, 1) := by decide +kernel
theorem dX7_down_83 : decode cX7_down 83 = .ok (.bipush 8, 2) := by decide +kernel
theorem dX7_down_85 : decode cX7_down 85 = .ok (.if_icmp .ne 13, 3) := by decide +kernel
theorem dX7_down_88 : decode cX7_down 88 = .ok (.aload_n 0, 1) := by decide +kernel
theorem dX7_down_89 : decode cX7_down 89 = .ok (.getfield 54, 3) := by decide +kernel
theorem dX7_down_92 : decode cX7_down 92 = .ok (.invokevirtual 183, 3) := by decide +kernel
theorem dX7_down_95 : decode cX7_down 95 = .ok (.goto 11, 3) := by decide +kernel
theorem dX7_down_98 : decode cX7_down 98 = .ok (.aload_n 0, 1) := by decide +kernel
theorem dX7_down_99 : decode cX7_down 99 = .ok (.getfield 54, 3) := by decide +kernel
theorem dX7_down_102 : decode cX7_down 102 = .ok (.iload_n 2, 1) := by decide +kernel
theorem dX7_down_103 : decode cX7_down 103 = .ok (.invokevirtual 131, 3) := by decide +kernel
theorem dX7_down_106 : decode cX7_down 106 = .ok (.ireturn, 1) := by decide +kernel
theorem dX7_turns_0 : decode cX7_turns 0 = .ok (.iload_n 1, 1) := by decide +kernel
theorem dX7_turns_1 : decode cX7_turns 1 = .ok (.ifCond .lt 8, 3) := by decide +kernel
theorem dX7_turns_4 : decode cX7_turns 4 = .ok (.iload_n 1, 1) := by decide +kernel
theorem dX7_turns_5 : decode cX7_turns 5 = .ok (.iconst 1, 1) := by decide +kernel
theorem dX7_turns_6 : decode cX7_turns 6 = .ok (.if_icmp .le 10, 3) := by decide +kernel
theorem dX7_turns_9 : decode cX7_turns 9 = .ok (.aload_n 0, 1) := by decide +kernel
theorem dX7_turns_10 : decode cX7_turns 10 = .ok (.bipush (-2), 2) := by decide +kernel
theorem dX7_turns_12 : decode cX7_turns 12 = .ok (.invokevirtual 91, 3) := by decide +kernel
theorem dX7_turns_15 : decode cX7_turns 15 = .ok (.ireturn, 1) := by decide +kernel
theorem dX7_turns_16 : decode cX7_turns 16 = .ok (.bipush (-9), 2) := by decide +kernel
theorem dX7_turns_18 : decode cX7_turns 18 = .ok (.istore_n 2, 1) := by decide +kernel
theorem dX7_turns_19 : decode cX7_turns 19 = .ok (.iconst 0, 1) := by decide +kernel
theorem dX7_turns_20 : decode cX7_turns 20 = .ok (.istore_n 3, 1) := by decide +kernel
theorem dX7_turns_21 : decode cX7_turns 21 = .ok (.aload_n 0, 1) := by decide +kernel
theorem dX7_turns_22 : decode cX7_turns 22 = .ok (.iconst 0, 1) := by decide +kernel
theorem dX7_turns_23 : decode cX7_turns 23 = .ok (.invokevirtual 171, 3) := by decide +kernel
theorem dX7_turns_26 : decode cX7_turns 26 = .ok (.iconst 0, 1) := by decide +kernel
theorem dX7_turns_27 : decode cX7_turns 27 = .ok (.istore 4, 2) := by decide +kernel
theorem dX7_turns_29 : decode cX7_turns 29 = .ok (.iload 4, 2) := by decide +kernel
theorem dX7_turns_31 : decode cX7_turns 31 = .ok (.aload_n 0, 1) := by decide +kernel
theorem dX7_turns_32 : decode cX7_turns 32 = .ok (.getfield 10, 3) := by decide +kernel
theorem dX7_turns_35 : decode cX7_turns 35 = .ok (.getfield 152, 3) := by decide +kernel
theorem dX7_turns_38 : decode cX7_turns 38 = .ok (.if_icmp .ge 54, 3) := by decide +kernel
theorem dX7_turns_41 : decode cX7_turns 41 = .ok (.aload_n 0, 1) := by decide +kernel
theorem dX7_turns_42 : decode cX7_turns 42 = .ok (.getfield 54, 3) := by decide +kernel
theorem dX7_turns_45 : decode cX7_turns 45 = .ok (.invokevirtual 175, 3) := by decide +kernel
theorem dX7_turns_48 : decode cX7_turns 48 = .ok (.istore 5, 2) := by decide +kernel
theorem dX7_turns_50 : decode cX7_turns 50 = .ok (.aload_n 0, 1) := by decide +kernel
theorem dX7_turns_51 : decode cX7_turns 51 = .ok (.getfield 10, 3) := by decide +kernel
theorem dX7_turns_54 : decode cX7_turns 54 = .ok (.iload 4, 2) := by decide +kernel
theorem dX7_turns_56 : decode cX7_turns 56 = .ok (.aload_n 0, 1) := by decide +kernel
theorem dX7_turns_57 : decode cX7_turns 57 = .ok (.getfield 54, 3) := by decide +kernel
theorem dX7_turns_60 : decode cX7_turns 60 = .ok (.invokevirtual 186, 3) := by decide +kernel
theorem dX7_turns_63 : decode cX7_turns 63 = .ok (.aload_n 0, 1) := by decide +kernel
theorem dX7_turns_64 : decode cX7_turns 64 = .ok (.getfield 54, 3) := by decide +kernel
theorem dX7_turns_67 : decode cX7_turns 67 = .ok (.invokevirtual 175, 3) := by decide +kernel
theorem dX7_turns_70 : decode cX7_turns 70 = .ok (.iload 5, 2) := by decide +kernel
theorem dX7_turns_72 : decode cX7_turns 72 = .ok (.if_icmp .eq 14, 3) := by decide +kernel
theorem dX7_turns_75 : decode cX7_turns 75 = .ok (.iinc 3 1, 3) := by decide +kernel
theorem dX7_turns_78 : decode cX7_turns 78 = .ok (.iload_n 3, 1) := by decide +kernel
theorem dX7_turns_79 : decode cX7_turns 79 = .ok (.iconst 1, 1) := by decide +kernel
theorem dX7_turns_80 : decode cX7_turns 80 = .ok (.if_icmp .ne 6, 3) := by decide +kernel
theorem dX7_turns_83 : decode cX7_turns 83 = .ok (.iload 4, 2) := by decide +kernel
theorem dX7_turns_85 : decode cX7_turns 85 = .ok (.istore_n 2, 1) := by decide +kernel
theorem dX7_turns_86 : decode cX7_turns 86 = .ok (.iinc 4 1, 3) := by decide +kernel
theorem dX7_turns_89 : decode cX7_turns 89 = .ok (.goto (-60), 3) := by decide +kernel
theorem dX7_turns_92 : decode cX7_turns 92 = .ok (.iload_n 1, 1) := by decide +kernel
theorem dX7_turns_93 : decode cX7_turns 93 = .ok (.ifCond .ne 7, 3) := by decide +kernel
theorem dX7_turns_96 : decode cX7_turns 96 = .ok (.iload_n 2, 1) := by decide +kernel
theorem dX7_turns_97 : decode cX7_turns 97 = .ok (.goto 4, 3) := by decide +kernel
theorem dX7_turns_100 : decode cX7_turns 100 = .ok (.iload_n 3, 1) := by decide +kernel
theorem dX7_turns_101 : decode cX7_turns 101 = .ok (.ireturn, 1) := by decide +kernel
theorem dX7_costs_0 : decode cX7_costs 0 = .ok (.iload_n 1, 1) := by decide +kernel
theorem dX7_costs_1 : decode cX7_costs 1 = .ok (.iconst 0, 1) := by decide +kernel
theorem dX7_costs_2 : decode cX7_costs 2 = .ok (.aload_n 0, 1) := by decide +kernel
theorem dX7_costs_3 : decode cX7_costs 3 = .ok (.getfield 10, 3) := by decide +kernel
theorem dX7_costs_6 : decode cX7_costs 6 = .ok (.getfield 152, 3) := by decide +kernel
theorem dX7_costs_9 : decode cX7_costs 9 = .ok (.invokestatic 127, 3) := by decide +kernel
theorem dX7_costs_12 : decode cX7_costs 12 = .ok (.istore_n 2, 1) := by decide +kernel
theorem dX7_costs_13 : decode cX7_costs 13 = .ok (.iload_n 2, 1) := by decide +kernel
theorem dX7_costs_14 : decode cX7_costs 14 = .ok (.ifCond .eq 11, 3) := by decide +kernel
theorem dX7_costs_17 : decode cX7_costs 17 = .ok (.aload_n 0, 1) := by decide +kernel
theorem dX7_costs_18 : decode cX7_costs 18 = .ok (.iload_n 2, 1) := by decide +kernel
theorem dX7_costs_19 : decode cX7_costs 19 = .ok (.invokevirtual 91, 3) := by decide +kernel
theorem dX7_costs_22 : decode cX7_costs 22 = .ok (.goto 12, 3) := by decide +kernel
theorem dX7_costs_25 : decode cX7_costs 25 = .ok (.aload_n 0, 1) := by decide +kernel
theorem dX7_costs_26 : decode cX7_costs 26 = .ok (.getfield 10, 3) := by decide +kernel
theorem dX7_costs_29 : decode cX7_costs 29 = .ok (.iconst 0, 1) := by decide +kernel
theorem dX7_costs_30 : decode cX7_costs 30 = .ok (.iload_n 1, 1) := by decide +kernel
theorem dX7_costs_31 : decode cX7_costs 31 = .ok (.invokevirtual 190, 3) := by decide +kernel
theorem dX7_costs_34 : decode cX7_costs 34 = .ok (.ireturn, 1) := by decide +kernel
theorem dX7_up_0 : decode cX7_up 0 = .ok (.aload_n 0, 1) := by decide +kernel
theorem dX7_up_1 : decode cX7_up 1 = .ok (.iconst 0, 1) := by decide +kernel
theorem dX7_up_2 : decode cX7_up 2 = .ok (.invokevirtual 171, 3) := by decide +kernel
theorem dX7_up_5 : decode cX7_up 5 = .ok (.iconst 0, 1) := by decide +kernel
theorem dX7_up_6 : decode cX7_up 6 = .ok (.istore_n 1, 1) := by decide +kernel
theorem dX7_up_7 : decode cX7_up 7 = .ok (.iload_n 1, 1) := by decide +kernel
theorem dX7_up_8 : decode cX7_up 8 = .ok (.aload_n 0, 1) := by decide +kernel
theorem dX7_up_9 : decode cX7_up 9 = .ok (.getfield 10, 3) := by decide +kernel
theorem dX7_up_12 : decode cX7_up 12 = .ok (.getfield 152, 3) := by decide +kernel
theorem dX7_up_15 : decode cX7_up 15 = .ok (.if_icmp .ge 45, 3) := by decide +kernel
theorem dX7_up_18 : decode cX7_up 18 = .ok (.aload_n 0, 1) := by decide +kernel
theorem dX7_up_19 : decode cX7_up 19 = .ok (.getfield 10, 3) := by decide +kernel
theorem dX7_up_22 : decode cX7_up 22 = .ok (.iload_n 1, 1) := by decide +kernel
theorem dX7_up_23 : decode cX7_up 23 = .ok (.aload_n 0, 1) := by decide +kernel
theorem dX7_up_24 : decode cX7_up 24 = .ok (.getfield 54, 3) := by decide +kernel
theorem dX7_up_27 : decode cX7_up 27 = .ok (.aload_n 0, 1) := by decide +kernel
theorem dX7_up_28 : decode cX7_up 28 = .ok (.getfield 10, 3) := by decide +kernel
theorem dX7_up_31 : decode cX7_up 31 = .ok (.getfield 159, 3) := by decide +kernel
theorem dX7_up_34 : decode cX7_up 34 = .ok (.invokevirtual 194, 3) := by decide +kernel
theorem dX7_up_37 : decode cX7_up 37 = .ok (.ifCond .eq 5, 3) := by decide +kernel
theorem dX7_up_40 : decode cX7_up 40 = .ok (.iload_n 1, 1) := by decide +kernel
theorem dX7_up_41 : decode cX7_up 41 = .ok (.ireturn, 1) := by decide +kernel
theorem dX7_up_42 : decode cX7_up 42 = .ok (.aload_n 0, 1) := by decide +kernel
theorem dX7_up_43 : decode cX7_up 43 = .ok (.getfield 10, 3) := by decide +kernel
theorem dX7_up_46 : decode cX7_up 46 = .ok (.iload_n 1, 1) := by decide +kernel
theorem dX7_up_47 : decode cX7_up 47 = .ok (.aload_n 0, 1) := by decide +kernel
theorem dX7_up_48 : decode cX7_up 48 = .ok (.getfield 54, 3) := by decide +kernel
theorem dX7_up_51 : decode cX7_up 51 = .ok (.invokevirtual 186, 3) := by decide +kernel
theorem dX7_up_54 : decode cX7_up 54 = .ok (.iinc 1 1, 3) := by decide +kernel
theorem dX7_up_57 : decode cX7_up 57 = .ok (.goto (-50), 3) := by decide +kernel
theorem dX7_up_60 : decode cX7_up 60 = .ok (.bipush (-9), 2) := by decide +kernel
theorem dX7_up_62 : decode cX7_up 62 = .ok (.ireturn, 1) := by decide +kernel
theorem dX7_round_0 : decode cX7_round 0 = .ok (.iload_n 1, 1) := by decide +kernel
theorem dX7_round_1 : decode cX7_round 1 = .ok (.ifCond .lt 8, 3) := by decide +kernel
theorem dX7_round_4 : decode cX7_round 4 = .ok (.iload_n 1, 1) := by decide +kernel
theorem dX7_round_5 : decode cX7_round 5 = .ok (.iconst 2, 1) := by decide +kernel
theorem dX7_round_6 : decode cX7_round 6 = .ok (.if_icmp .le 10, 3) := by decide +kernel
theorem dX7_round_9 : decode cX7_round 9 = .ok (.aload_n 0, 1) := by decide +kernel
theorem dX7_round_10 : decode cX7_round 10 = .ok (.bipush (-2), 2) := by decide +kernel
theorem dX7_round_12 : decode cX7_round 12 = .ok (.invokevirtual 124, 3) := by decide +kernel
theorem dX7_round_15 : decode cX7_round 15 = .ok (.ireturn, 1) := by decide +kernel
theorem dX7_round_16 : decode cX7_round 16 = .ok (.aload_n 0, 1) := by decide +kernel
theorem dX7_round_17 : decode cX7_round 17 = .ok (.getfield 81, 3) := by decide +kernel
theorem dX7_round_20 : decode cX7_round 20 = .ok (.aload_n 0, 1) := by decide +kernel
theorem dX7_round_21 : decode cX7_round 21 = .ok (.getfield 10, 3) := by decide +kernel
theorem dX7_round_24 : decode cX7_round 24 = .ok (.aload_n 0, 1) := by decide +kernel
theorem dX7_round_25 : decode cX7_round 25 = .ok (.getfield 10, 3) := by decide +kernel
theorem dX7_round_28 : decode cX7_round 28 = .ok (.getfield 159, 3) := by decide +kernel
theorem dX7_round_31 : decode cX7_round 31 = .ok (.aload_n 0, 1) := by decide +kernel
theorem dX7_round_32 : decode cX7_round 32 = .ok (.getfield 54, 3) := by decide +kernel
theorem dX7_round_35 : decode cX7_round 35 = .ok (.aload_n 0, 1) := by decide +kernel
theorem dX7_round_36 : decode cX7_round 36 = .ok (.getfield 74, 3) := by decide +kernel
theorem dX7_round_39 : decode cX7_round 39 = .ok (.invokevirtual 198, 3) := by decide +kernel
theorem dX7_round_42 : decode cX7_round 42 = .ok (.iload_n 1, 1) := by decide +kernel
theorem dX7_round_43 : decode cX7_round 43 = .ok (.iconst 2, 1) := by decide +kernel
theorem dX7_round_44 : decode cX7_round 44 = .ok (.if_icmp .ne 11, 3) := by decide +kernel
theorem dX7_round_47 : decode cX7_round 47 = .ok (.aload_n 0, 1) := by decide +kernel
theorem dX7_round_48 : decode cX7_round 48 = .ok (.getfield 81, 3) := by decide +kernel
theorem dX7_round_51 : decode cX7_round 51 = .ok (.getfield 202, 3) := by decide +kernel
theorem dX7_round_54 : decode cX7_round 54 = .ok (.ireturn, 1) := by decide +kernel
theorem dX7_round_55 : decode cX7_round 55 = .ok (.aload_n 0, 1) := by decide +kernel
theorem dX7_round_56 : decode cX7_round 56 = .ok (.getfield 81, 3) := by decide +kernel
theorem dX7_round_59 : decode cX7_round 59 = .ok (.getfield 205, 3) := by decide +kernel
theorem dX7_round_62 : decode cX7_round 62 = .ok (.ifCond .ne 15, 3) := by decide +kernel
theorem dX7_round_65 : decode cX7_round 65 = .ok (.iload_n 1, 1) := by decide +kernel
theorem dX7_round_66 : decode cX7_round 66 = .ok (.ifCond .ne 8, 3) := by decide +kernel
theorem dX7_round_69 : decode cX7_round 69 = .ok (.bipush (-9), 2) := by decide +kernel
theorem dX7_round_71 : decode cX7_round 71 = .ok (.goto 5, 3) := by decide +kernel
theorem dX7_round_74 : decode cX7_round 74 = .ok (.bipush (-99), 2) := by decide +kernel
theorem dX7_round_76 : decode cX7_round 76 = .ok (.ireturn, 1) := by decide +kernel
theorem dX7_round_77 : decode cX7_round 77 = .ok (.iload_n 1, 1) := by decide +kernel
theorem dX7_round_78 : decode cX7_round 78 = .ok (.ifCond .ne 13, 3) := by decide +kernel
theorem dX7_round_81 : decode cX7_round 81 = .ok (.aload_n 0, 1) := by decide +kernel
theorem dX7_round_82 : decode cX7_round 82 = .ok (.getfield 81, 3) := by decide +kernel
theorem dX7_round_85 : decode cX7_round 85 = .ok (.getfield 208, 3) := by decide +kernel
theorem dX7_round_88 : decode cX7_round 88 = .ok (.goto 10, 3) := by decide +kernel
theorem dX7_round_91 : decode cX7_round 91 = .ok (.aload_n 0, 1) := by decide +kernel
theorem dX7_round_92 : decode cX7_round 92 = .ok (.getfield 54, 3) := by decide +kernel
theorem dX7_round_95 : decode cX7_round 95 = .ok (.invokevirtual 183, 3) := by decide +kernel
theorem dX7_round_98 : decode cX7_round 98 = .ok (.ireturn, 1) := by decide +kernel
theorem dX7_appeals_0 : decode cX7_appeals 0 = .ok (.iload_n 1, 1) := by decide +kernel
theorem dX7_appeals_1 : decode cX7_appeals 1 = .ok (.ifCond .lt 8, 3) := by decide +kernel
theorem dX7_appeals_4 : decode cX7_appeals 4 = .ok (.iload_n 1, 1) := by decide +kernel
theorem dX7_appeals_5 : decode cX7_appeals 5 = .ok (.iconst 3, 1) := by decide +kernel
theorem dX7_appeals_6 : decode cX7_appeals 6 = .ok (.if_icmp .le 10, 3) := by decide +kernel
theorem dX7_appeals_9 : decode cX7_appeals 9 = .ok (.aload_n 0, 1) := by decide +kernel
theorem dX7_appeals_10 : decode cX7_appeals 10 = .ok (.bipush (-2), 2) := by decide +kernel
theorem dX7_appeals_12 : decode cX7_appeals 12 = .ok (.invokevirtual 91, 3) := by decide +kernel
theorem dX7_appeals_15 : decode cX7_appeals 15 = .ok (.ireturn, 1) := by decide +kernel
theorem dX7_appeals_16 : decode cX7_appeals 16 = .ok (.aload_n 0, 1) := by decide +kernel
theorem dX7_appeals_17 : decode cX7_appeals 17 = .ok (.getfield 67, 3) := by decide +kernel
theorem dX7_appeals_20 : decode cX7_appeals 20 = .ok (.aload_n 0, 1) := by decide +kernel
theorem dX7_appeals_21 : decode cX7_appeals 21 = .ok (.getfield 10, 3) := by decide +kernel
theorem dX7_appeals_24 : decode cX7_appeals 24 = .ok (.aload_n 0, 1) := by decide +kernel
theorem dX7_appeals_25 : decode cX7_appeals 25 = .ok (.getfield 54, 3) := by decide +kernel
theorem dX7_appeals_28 : decode cX7_appeals 28 = .ok (.invokevirtual 211, 3) := by decide +kernel
theorem dX7_appeals_31 : decode cX7_appeals 31 = .ok (.iload_n 1, 1) := by decide +kernel
theorem dX7_appeals_32 : decode cX7_appeals 32 = .ok (.tableswitch 93 0 2 #[28, 36, 69], 28) := by decide +kernel
theorem dX7_appeals_60 : decode cX7_appeals 60 = .ok (.aload_n 0, 1) := by decide +kernel
theorem dX7_appeals_61 : decode cX7_appeals 61 = .ok (.getfield 67, 3) := by decide +kernel
theorem dX7_appeals_64 : decode cX7_appeals 64 = .ok (.invokevirtual 215, 3) := by decide +kernel
theorem dX7_appeals_67 : decode cX7_appeals 67 = .ok (.ireturn, 1) := by decide +kernel
theorem dX7_appeals_68 : decode cX7_appeals 68 = .ok (.aload_n 0, 1) := by decide +kernel
theorem dX7_appeals_69 : decode cX7_appeals 69 = .ok (.getfield 10, 3) := by decide +kernel
theorem dX7_appeals_72 : decode cX7_appeals 72 = .ok (.getfield 152, 3) := by decide +kernel
theorem dX7_appeals_75 : decode cX7_appeals 75 = .ok (.ifCond .ne 13, 3) := by decide +kernel
theorem dX7_appeals_78 : decode cX7_appeals 78 = .ok (.aload_n 0, 1) := by decide +kernel
theorem dX7_appeals_79 : decode cX7_appeals 79 = .ok (.getfield 54, 3) := by decide +kernel
theorem dX7_appeals_82 : decode cX7_appeals 82 = .ok (.invokevirtual 175, 3) := by decide +kernel
theorem dX7_appeals_85 : decode cX7_appeals 85 = .ok (.goto 12, 3) := by decide +kernel
theorem dX7_appeals_88 : decode cX7_appeals 88 = .ok (.aload_n 0, 1) := by decide +kernel
theorem dX7_appeals_89 : decode cX7_appeals 89 = .ok (.getfield 67, 3) := by decide +kernel
theorem dX7_appeals_92 : decode cX7_appeals 92 = .ok (.getfield 218, 3) := by decide +kernel
theorem dX7_appeals_95 : decode cX7_appeals 95 = .ok (.iconst 0, 1) := by decide +kernel
theorem dX7_appeals_96 : decode cX7_appeals 96 = .ok (.baload, 1) := by decide +kernel
theorem dX7_appeals_97 : decode cX7_appeals 97 = .ok (.invokestatic 179, 3) := by decide +kernel
theorem dX7_appeals_100 : decode cX7_appeals 100 = .ok (.ireturn, 1) := by decide +kernel
theorem dX7_appeals_101 : decode cX7_appeals 101 = .ok (.aload_n 0, 1) := by decide +kernel
theorem dX7_appeals_102 : decode cX7_appeals 102 = .ok (.getfield 10, 3) := by decide +kernel
theorem dX7_appeals_105 : decode cX7_appeals 105 = .ok (.getfield 152, 3) := by decide +kernel
theorem dX7_appeals_108 : decode cX7_appeals 108 = .ok (.ifCond .ne 7, 3) := by decide +kernel
theorem dX7_appeals_111 : decode cX7_appeals 111 = .ok (.iconst 0, 1) := by decide +kernel
theorem dX7_appeals_112 : decode cX7_appeals 112 = .ok (.goto 12, 3) := by decide +kernel
theorem dX7_appeals_115 : decode cX7_appeals 115 = .ok (.aload_n 0, 1) := by decide +kernel
theorem dX7_appeals_116 : decode cX7_appeals 116 = .ok (.getfield 67, 3) := by decide +kernel
theorem dX7_appeals_119 : decode cX7_appeals 119 = .ok (.getfield 222, 3) := by decide +kernel
theorem dX7_appeals_122 : decode cX7_appeals 122 = .ok (.iconst 0, 1) := by decide +kernel
theorem dX7_appeals_123 : decode cX7_appeals 123 = .ok (.iaload, 1) := by decide +kernel
theorem dX7_appeals_124 : decode cX7_appeals 124 = .ok (.ireturn, 1) := by decide +kernel
theorem dX7_appeals_125 : decode cX7_appeals 125 = .ok (.aload_n 0, 1) := by decide +kernel
theorem dX7_appeals_126 : decode cX7_appeals 126 = .ok (.getfield 10, 3) := by decide +kernel
theorem dX7_appeals_129 : decode cX7_appeals 129 = .ok (.getfield 152, 3) := by decide +kernel
theorem dX7_appeals_132 : decode cX7_appeals 132 = .ok (.ifCond .ne 7, 3) := by decide +kernel
theorem dX7_appeals_135 : decode cX7_appeals 135 = .ok (.iconst 0, 1) := by decide +kernel
theorem dX7_appeals_136 : decode cX7_appeals 136 = .ok (.goto 12, 3) := by decide +kernel
theorem dX7_appeals_139 : decode cX7_appeals 139 = .ok (.aload_n 0, 1) := by decide +kernel
theorem dX7_appeals_140 : decode cX7_appeals 140 = .ok (.getfield 67, 3) := by decide +kernel
theorem dX7_appeals_143 : decode cX7_appeals 143 = .ok (.getfield 225, 3) := by decide +kernel
theorem dX7_appeals_146 : decode cX7_appeals 146 = .ok (.iconst 0, 1) := by decide +kernel
theorem dX7_appeals_147 : decode cX7_appeals 147 = .ok (.iaload, 1) := by decide +kernel
theorem dX7_appeals_148 : decode cX7_appeals 148 = .ok (.ireturn, 1) := by decide +kernel
theorem dX7_press_0 : decode cX7_press 0 = .ok (.iload_n 1, 1) := by decide +kernel
theorem dX7_press_1 : decode cX7_press 1 = .ok (.ifCond .lt 8, 3) := by decide +kernel
theorem dX7_press_4 : decode cX7_press 4 = .ok (.iload_n 1, 1) := by decide +kernel
theorem dX7_press_5 : decode cX7_press 5 = .ok (.iconst 1, 1) := by decide +kernel
theorem dX7_press_6 : decode cX7_press 6 = .ok (.if_icmp .le 10, 3) := by decide +kernel
theorem dX7_press_9 : decode cX7_press 9 = .ok (.aload_n 0, 1) := by decide +kernel
theorem dX7_press_10 : decode cX7_press 10 = .ok (.bipush (-2), 2) := by decide +kernel
theorem dX7_press_12 : decode cX7_press 12 = .ok (.invokevirtual 91, 3) := by decide +kernel
theorem dX7_press_15 : decode cX7_press 15 = .ok (.ireturn, 1) := by decide +kernel
theorem dX7_press_16 : decode cX7_press 16 = .ok (.aload_n 0, 1) := by decide +kernel
theorem dX7_press_17 : decode cX7_press 17 = .ok (.invokevirtual 228, 3) := by decide +kernel
theorem dX7_press_20 : decode cX7_press 20 = .ok (.istore_n 2, 1) := by decide +kernel
theorem dX7_press_21 : decode cX7_press 21 = .ok (.iload_n 1, 1) := by decide +kernel
theorem dX7_press_22 : decode cX7_press 22 = .ok (.ifCond .eq 9, 3) := by decide +kernel
theorem dX7_press_25 : decode cX7_press 25 = .ok (.iload_n 2, 1) := by decide +kernel
theorem dX7_press_26 : decode cX7_press 26 = .ok (.bipush (-9), 2) := by decide +kernel
theorem dX7_press_28 : decode cX7_press 28 = .ok (.if_icmp .ne 7, 3) := by decide +kernel
theorem dX7_press_31 : decode cX7_press 31 = .ok (.iload_n 2, 1) := by decide +kernel
theorem dX7_press_32 : decode cX7_press 32 = .ok (.goto 7, 3) := by decide +kernel
theorem dX7_press_35 : decode cX7_press 35 = .ok (.iload_n 2, 1) := by decide +kernel
theorem dX7_press_36 : decode cX7_press 36 = .ok (.invokestatic 231, 3) := by decide +kernel
theorem dX7_press_39 : decode cX7_press 39 = .ok (.ireturn, 1) := by decide +kernel
theorem dX7_turnsBy_0 : decode cX7_turnsBy 0 = .ok (.iload_n 1, 1) := by decide +kernel
theorem dX7_turnsBy_1 : decode cX7_turnsBy 1 = .ok (.iconst 0, 1) := by decide +kernel
theorem dX7_turnsBy_2 : decode cX7_turnsBy 2 = .ok (.iconst 2, 1) := by decide +kernel
theorem dX7_turnsBy_3 : decode cX7_turnsBy 3 = .ok (.invokestatic 127, 3) := by decide +kernel
theorem dX7_turnsBy_6 : decode cX7_turnsBy 6 = .ok (.istore_n 3, 1) := by decide +kernel
theorem dX7_turnsBy_7 : decode cX7_turnsBy 7 = .ok (.iload_n 3, 1) := by decide +kernel
theorem dX7_turnsBy_8 : decode cX7_turnsBy 8 = .ok (.ifCond .eq 9, 3) := by decide +kernel
theorem dX7_turnsBy_11 : decode cX7_turnsBy 11 = .ok (.aload_n 0, 1) := by decide +kernel
theorem dX7_turnsBy_12 : decode cX7_turnsBy 12 = .ok (.iload_n 3, 1) := by decide +kernel
theorem dX7_turnsBy_13 : decode cX7_turnsBy 13 = .ok (.invokevirtual 124, 3) := by decide +kernel
theorem dX7_turnsBy_16 : decode cX7_turnsBy 16 = .ok (.ireturn, 1) := by decide +kernel
theorem dX7_turnsBy_17 : decode cX7_turnsBy 17 = .ok (.iload_n 2, 1) := by decide +kernel
theorem dX7_turnsBy_18 : decode cX7_turnsBy 18 = .ok (.ifCond .lt 8, 3) := by decide +kernel
theorem dX7_turnsBy_21 : decode cX7_turnsBy 21 = .ok (.iload_n 2, 1) := by decide +kernel
theorem dX7_turnsBy_22 : decode cX7_turnsBy 22 = .ok (.iconst 1, 1) := by decide +kernel
theorem dX7_turnsBy_23 : decode cX7_turnsBy 23 = .ok (.if_icmp .le 10, 3) := by decide +kernel
theorem dX7_turnsBy_26 : decode cX7_turnsBy 26 = .ok (.aload_n 0, 1) := by decide +kernel
theorem dX7_turnsBy_27 : decode cX7_turnsBy 27 = .ok (.bipush (-2), 2) := by decide +kernel
theorem dX7_turnsBy_29 : decode cX7_turnsBy 29 = .ok (.invokevirtual 124, 3) := by decide +kernel
theorem dX7_turnsBy_32 : decode cX7_turnsBy 32 = .ok (.ireturn, 1) := by decide +kernel
theorem dX7_turnsBy_33 : decode cX7_turnsBy 33 = .ok (.aload_n 0, 1) := by decide +kernel
theorem dX7_turnsBy_34 : decode cX7_turnsBy 34 = .ok (.getfield 58, 3) := by decide +kernel
theorem dX7_turnsBy_37 : decode cX7_turnsBy 37 = .ok (.aload_n 0, 1) := by decide +kernel
theorem dX7_turnsBy_38 : decode cX7_turnsBy 38 = .ok (.getfield 10, 3) := by decide +kernel
theorem dX7_turnsBy_41 : decode cX7_turnsBy 41 = .ok (.getfield 118, 3) := by decide +kernel
theorem dX7_turnsBy_44 : decode cX7_turnsBy 44 = .ok (.invokevirtual 236, 3) := by decide +kernel
theorem dX7_turnsBy_47 : decode cX7_turnsBy 47 = .ok (.iload_n 1, 1) := by decide +kernel
theorem dX7_turnsBy_48 : decode cX7_turnsBy 48 = .ok (.ifCond .ne 33, 3) := by decide +kernel
theorem dX7_turnsBy_51 : decode cX7_turnsBy 51 = .ok (.iload_n 2, 1) := by decide +kernel
theorem dX7_turnsBy_52 : decode cX7_turnsBy 52 = .ok (.ifCond .ne 26, 3) := by decide +kernel
theorem dX7_turnsBy_55 : decode cX7_turnsBy 55 = .ok (.aload_n 0, 1) := by decide +kernel
theorem dX7_turnsBy_56 : decode cX7_turnsBy 56 = .ok (.getfield 10, 3) := by decide +kernel
theorem dX7_turnsBy_59 : decode cX7_turnsBy 59 = .ok (.aload_n 0, 1) := by decide +kernel
theorem dX7_turnsBy_60 : decode cX7_turnsBy 60 = .ok (.getfield 58, 3) := by decide +kernel
theorem dX7_turnsBy_63 : decode cX7_turnsBy 63 = .ok (.aload_n 0, 1) := by decide +kernel
theorem dX7_turnsBy_64 : decode cX7_turnsBy 64 = .ok (.getfield 54, 3) := by decide +kernel
theorem dX7_turnsBy_67 : decode cX7_turnsBy 67 = .ok (.iconst 0, 1) := by decide +kernel
theorem dX7_turnsBy_68 : decode cX7_turnsBy 68 = .ok (.ldc 240, 2) := by decide +kernel
theorem dX7_turnsBy_70 : decode cX7_turnsBy 70 = .ok (.ldc 241, 2) := by decide +kernel
theorem dX7_turnsBy_72 : decode cX7_turnsBy 72 = .ok (.invokestatic 242, 3) := by decide +kernel
theorem dX7_turnsBy_75 : decode cX7_turnsBy 75 = .ok (.goto 5, 3) := by decide +kernel
theorem dX7_turnsBy_78 : decode cX7_turnsBy 78 = .ok (.bipush (-9), 2) := by decide +kernel
theorem dX7_turnsBy_80 : decode cX7_turnsBy 80 = .ok (.ireturn, 1) := by decide +kernel
theorem dX7_turnsBy_81 : decode cX7_turnsBy 81 = .ok (.ldc 240, 2) := by decide +kernel
theorem dX7_turnsBy_83 : decode cX7_turnsBy 83 = .ok (.istore 4, 2) := by decide +kernel
theorem dX7_turnsBy_85 : decode cX7_turnsBy 85 = .ok (.bipush (-9), 2) := by decide +kernel
theorem dX7_turnsBy_87 : decode cX7_turnsBy 87 = .ok (.istore 5, 2) := by decide +kernel
theorem dX7_turnsBy_89 : decode cX7_turnsBy 89 = .ok (.iconst 0, 1) := by decide +kernel
theorem dX7_turnsBy_90 : decode cX7_turnsBy 90 = .ok (.istore 6, 2) := by decide +kernel
theorem dX7_turnsBy_92 : decode cX7_turnsBy 92 = .ok (.iload 6, 2) := by decide +kernel
theorem dX7_turnsBy_94 : decode cX7_turnsBy 94 = .ok (.iconst 2, 1) := by decide +kernel
theorem dX7_turnsBy_95 : decode cX7_turnsBy 95 = .ok (.aload_n 0, 1) := by decide +kernel
theorem dX7_turnsBy_96 : decode cX7_turnsBy 96 = .ok (.getfield 58, 3) := by decide +kernel
theorem dX7_turnsBy_99 : decode cX7_turnsBy 99 = .ok (.getfield 155, 3) := by decide +kernel
theorem dX7_turnsBy_102 : decode cX7_turnsBy 102 = .ok (.imul, 1) := by decide +kernel
theorem dX7_turnsBy_103 : decode cX7_turnsBy 103 = .ok (.if_icmp .ge 76, 3) := by decide +kernel
theorem dX7_turnsBy_106 : decode cX7_turnsBy 106 = .ok (.aload_n 0, 1) := by decide +kernel
theorem dX7_turnsBy_107 : decode cX7_turnsBy 107 = .ok (.getfield 58, 3) := by decide +kernel
theorem dX7_turnsBy_110 : decode cX7_turnsBy 110 = .ok (.iload 6, 2) := by decide +kernel
theorem dX7_turnsBy_112 : decode cX7_turnsBy 112 = .ok (.invokevirtual 246, 3) := by decide +kernel
theorem dX7_turnsBy_115 : decode cX7_turnsBy 115 = .ok (.istore 7, 2) := by decide +kernel
theorem dX7_turnsBy_117 : decode cX7_turnsBy 117 = .ok (.aload_n 0, 1) := by decide +kernel
theorem dX7_turnsBy_118 : decode cX7_turnsBy 118 = .ok (.getfield 10, 3) := by decide +kernel
theorem dX7_turnsBy_121 : decode cX7_turnsBy 121 = .ok (.aload_n 0, 1) := by decide +kernel
theorem dX7_turnsBy_122 : decode cX7_turnsBy 122 = .ok (.getfield 58, 3) := by decide +kernel
theorem dX7_turnsBy_125 : decode cX7_turnsBy 125 = .ok (.aload_n 0, 1) := by decide +kernel
theorem dX7_turnsBy_126 : decode cX7_turnsBy 126 = .ok (.getfield 54, 3) := by decide +kernel
theorem dX7_turnsBy_129 : decode cX7_turnsBy 129 = .ok (.iconst 2, 1) := by decide +kernel
theorem dX7_turnsBy_130 : decode cX7_turnsBy 130 = .ok (.iload_n 1, 1) := by decide +kernel
theorem dX7_turnsBy_131 : decode cX7_turnsBy 131 = .ok (.imul, 1) := by decide +kernel
theorem dX7_turnsBy_132 : decode cX7_turnsBy 132 = .ok (.iconst 1, 1) := by decide +kernel
theorem dX7_turnsBy_133 : decode cX7_turnsBy 133 = .ok (.isub, 1) := by decide +kernel
theorem dX7_turnsBy_134 : decode cX7_turnsBy 134 = .ok (.iload 4, 2) := by decide +kernel
theorem dX7_turnsBy_136 : decode cX7_turnsBy 136 = .ok (.ldc 241, 2) := by decide +kernel
theorem dX7_turnsBy_138 : decode cX7_turnsBy 138 = .ok (.invokestatic 242, 3) := by decide +kernel
theorem dX7_turnsBy_141 : decode cX7_turnsBy 141 = .ok (.istore 8, 2) := by decide +kernel
theorem dX7_turnsBy_143 : decode cX7_turnsBy 143 = .ok (.aload_n 0, 1) := by decide +kernel
theorem dX7_turnsBy_144 : decode cX7_turnsBy 144 = .ok (.getfield 58, 3) := by decide +kernel
theorem dX7_turnsBy_147 : decode cX7_turnsBy 147 = .ok (.iload 6, 2) := by decide +kernel
theorem dX7_turnsBy_149 : decode cX7_turnsBy 149 = .ok (.iconst 2, 1) := by decide +kernel
theorem dX7_turnsBy_150 : decode cX7_turnsBy 150 = .ok (.idiv, 1) := by decide +kernel
theorem dX7_turnsBy_151 : decode cX7_turnsBy 151 = .ok (.iload 7, 2) := by decide +kernel
theorem dX7_turnsBy_153 : decode cX7_turnsBy 153 = .ok (.invokevirtual 138, 3) := by decide +kernel
theorem dX7_turnsBy_156 : decode cX7_turnsBy 156 = .ok (.iload 8, 2) := by decide +kernel
theorem dX7_turnsBy_158 : decode cX7_turnsBy 158 = .ok (.iload 4, 2) := by decide +kernel
theorem dX7_turnsBy_160 : decode cX7_turnsBy 160 = .ok (.if_icmp .le 13, 3) := by decide +kernel
theorem dX7_turnsBy_163 : decode cX7_turnsBy 163 = .ok (.iload 8, 2) := by decide +kernel
theorem dX7_turnsBy_165 : decode cX7_turnsBy 165 = .ok (.istore 4, 2) := by decide +kernel
theorem dX7_turnsBy_167 : decode cX7_turnsBy 167 = .ok (.iload 6, 2) := by decide +kernel
theorem dX7_turnsBy_169 : decode cX7_turnsBy 169 = .ok (.iconst 2, 1) := by decide +kernel
theorem dX7_turnsBy_170 : decode cX7_turnsBy 170 = .ok (.idiv, 1) := by decide +kernel
theorem dX7_turnsBy_171 : decode cX7_turnsBy 171 = .ok (.istore 5, 2) := by decide +kernel
theorem dX7_turnsBy_173 : decode cX7_turnsBy 173 = .ok (.iinc 6 1, 3) := by decide +kernel
theorem dX7_turnsBy_176 : decode cX7_turnsBy 176 = .ok (.goto (-84), 3) := by decide +kernel
theorem dX7_turnsBy_179 : decode cX7_turnsBy 179 = .ok (.iload_n 2, 1) := by decide +kernel
theorem dX7_turnsBy_180 : decode cX7_turnsBy 180 = .ok (.ifCond .ne 8, 3) := by decide +kernel
theorem dX7_turnsBy_183 : decode cX7_turnsBy 183 = .ok (.iload 4, 2) := by decide +kernel
theorem dX7_turnsBy_185 : decode cX7_turnsBy 185 = .ok (.goto 5, 3) := by decide +kernel
theorem dX7_turnsBy_188 : decode cX7_turnsBy 188 = .ok (.iload 5, 2) := by decide +kernel
theorem dX7_turnsBy_190 : decode cX7_turnsBy 190 = .ok (.ireturn, 1) := by decide +kernel
theorem dX7_standsFast_0 : decode cX7_standsFast 0 = .ok (.aload_n 0, 1) := by decide +kernel
theorem dX7_standsFast_1 : decode cX7_standsFast 1 = .ok (.iconst 0, 1) := by decide +kernel
theorem dX7_standsFast_2 : decode cX7_standsFast 2 = .ok (.invokevirtual 171, 3) := by decide +kernel
theorem dX7_standsFast_5 : decode cX7_standsFast 5 = .ok (.aload_n 0, 1) := by decide +kernel
theorem dX7_standsFast_6 : decode cX7_standsFast 6 = .ok (.invokevirtual 249, 3) := by decide +kernel
theorem dX7_standsFast_9 : decode cX7_standsFast 9 = .ok (.ireturn, 1) := by decide +kernel
theorem dX7_survive_0 : decode cX7_survive 0 = .ok (.iload_n 1, 1) := by decide +kernel
theorem dX7_survive_1 : decode cX7_survive 1 = .ok (.iconst 0, 1) := by decide +kernel
theorem dX7_survive_2 : decode cX7_survive 2 = .ok (.iconst 4, 1) := by decide +kernel
theorem dX7_survive_3 : decode cX7_survive 3 = .ok (.invokestatic 127, 3) := by decide +kernel
theorem dX7_survive_6 : decode cX7_survive 6 = .ok (.istore_n 2, 1) := by decide +kernel
theorem dX7_survive_7 : decode cX7_survive 7 = .ok (.iload_n 2, 1) := by decide +kernel
theorem dX7_survive_8 : decode cX7_survive 8 = .ok (.ifCond .eq 9, 3) := by decide +kernel
theorem dX7_survive_11 : decode cX7_survive 11 = .ok (.aload_n 0, 1) := by decide +kernel
theorem dX7_survive_12 : decode cX7_survive 12 = .ok (.iload_n 2, 1) := by decide +kernel
theorem dX7_survive_13 : decode cX7_survive 13 = .ok (.invokevirtual 91, 3) := by decide +kernel
theorem dX7_survive_16 : decode cX7_survive 16 = .ok (.ireturn, 1) := by decide +kernel
theorem dX7_survive_17 : decode cX7_survive 17 = .ok (.iconst 2, 1) := by decide +kernel
theorem dX7_survive_18 : decode cX7_survive 18 = .ok (.iload_n 1, 1) := by decide +kernel
theorem dX7_survive_19 : decode cX7_survive 19 = .ok (.imul, 1) := by decide +kernel
theorem dX7_survive_20 : decode cX7_survive 20 = .ok (.iconst 1, 1) := by decide +kernel
theorem dX7_survive_21 : decode cX7_survive 21 = .ok (.iadd, 1) := by decide +kernel
theorem dX7_survive_22 : decode cX7_survive 22 = .ok (.istore_n 3, 1) := by decide +kernel
theorem dX7_survive_23 : decode cX7_survive 23 = .ok (.iconst 0, 1) := by decide +kernel
theorem dX7_survive_24 : decode cX7_survive 24 = .ok (.istore 4, 2) := by decide +kernel
theorem dX7_survive_26 : decode cX7_survive 26 = .ok (.iconst 0, 1) := by decide +kernel
theorem dX7_survive_27 : decode cX7_survive 27 = .ok (.istore 5, 2) := by decide +kernel
theorem dX7_survive_29 : decode cX7_survive 29 = .ok (.iload 5, 2) := by decide +kernel
theorem dX7_survive_31 : decode cX7_survive 31 = .ok (.iload_n 3, 1) := by decide +kernel
theorem dX7_survive_32 : decode cX7_survive 32 = .ok (.iload_n 3, 1) := by decide +kernel
theorem dX7_survive_33 : decode cX7_survive 33 = .ok (.imul, 1) := by decide +kernel
theorem dX7_survive_34 : decode cX7_survive 34 = .ok (.iload_n 3, 1) := by decide +kernel
theorem dX7_survive_35 : decode cX7_survive 35 = .ok (.imul, 1) := by decide +kernel
theorem dX7_survive_36 : decode cX7_survive 36 = .ok (.if_icmp .ge 36, 3) := by decide +kernel
theorem dX7_survive_39 : decode cX7_survive 39 = .ok (.aload_n 0, 1) := by decide +kernel
theorem dX7_survive_40 : decode cX7_survive 40 = .ok (.getfield 54, 3) := by decide +kernel
theorem dX7_survive_43 : decode cX7_survive 43 = .ok (.iload 5, 2) := by decide +kernel
theorem dX7_survive_45 : decode cX7_survive 45 = .ok (.iload_n 1, 1) := by decide +kernel
theorem dX7_survive_46 : decode cX7_survive 46 = .ok (.invokevirtual 252, 3) := by decide +kernel
theorem dX7_survive_49 : decode cX7_survive 49 = .ok (.aload_n 0, 1) := by decide +kernel
theorem dX7_survive_50 : decode cX7_survive 50 = .ok (.invokevirtual 249, 3) := by decide +kernel
theorem dX7_survive_53 : decode cX7_survive 53 = .ok (.aload_n 0, 1) := by decide +kernel
theorem dX7_survive_54 : decode cX7_survive 54 = .ok (.getfield 10, 3) := by decide +kernel
theorem dX7_survive_57 : decode cX7_survive 57 = .ok (.getfield 152, 3) := by decide +kernel
theorem dX7_survive_60 : decode cX7_survive 60 = .ok (.if_icmp .ne 6, 3) := by decide +kernel
theorem dX7_survive_63 : decode cX7_survive 63 = .ok (.iinc 4 1, 3) := by decide +kernel
theorem dX7_survive_66 : decode cX7_survive 66 = .ok (.iinc 5 1, 3) := by decide +kernel
theorem dX7_survive_69 : decode cX7_survive 69 = .ok (.goto (-40), 3) := by decide +kernel
theorem dX7_survive_72 : decode cX7_survive 72 = .ok (.iload 4, 2) := by decide +kernel
theorem dX7_survive_74 : decode cX7_survive 74 = .ok (.ireturn, 1) := by decide +kernel
theorem dX7_fits_0 : decode cX7_fits 0 = .ok (.iload_n 1, 1) := by decide +kernel
theorem dX7_fits_1 : decode cX7_fits 1 = .ok (.iconst 0, 1) := by decide +kernel
theorem dX7_fits_2 : decode cX7_fits 2 = .ok (.bipush 9, 2) := by decide +kernel
theorem dX7_fits_4 : decode cX7_fits 4 = .ok (.invokestatic 127, 3) := by decide +kernel
theorem dX7_fits_7 : decode cX7_fits 7 = .ok (.istore_n 2, 1) := by decide +kernel
theorem dX7_fits_8 : decode cX7_fits 8 = .ok (.iload_n 2, 1) := by decide +kernel
theorem dX7_fits_9 : decode cX7_fits 9 = .ok (.ifCond .eq 9, 3) := by decide +kernel
theorem dX7_fits_12 : decode cX7_fits 12 = .ok (.aload_n 0, 1) := by decide +kernel
theorem dX7_fits_13 : decode cX7_fits 13 = .ok (.iload_n 2, 1) := by decide +kernel
theorem dX7_fits_14 : decode cX7_fits 14 = .ok (.invokevirtual 91, 3) := by decide +kernel
theorem dX7_fits_17 : decode cX7_fits 17 = .ok (.ireturn, 1) := by decide +kernel
theorem dX7_fits_18 : decode cX7_fits 18 = .ok (.aload_n 0, 1) := by decide +kernel
theorem dX7_fits_19 : decode cX7_fits 19 = .ok (.iconst 2, 1) := by decide +kernel
theorem dX7_fits_20 : decode cX7_fits 20 = .ok (.aload_n 0, 1) := by decide +kernel
theorem dX7_fits_21 : decode cX7_fits 21 = .ok (.getfield 10, 3) := by decide +kernel
theorem dX7_fits_24 : decode cX7_fits 24 = .ok (.getfield 118, 3) := by decide +kernel
theorem dX7_fits_27 : decode cX7_fits 27 = .ok (.getfield 155, 3) := by decide +kernel
theorem dX7_fits_30 : decode cX7_fits 30 = .ok (.imul, 1) := by decide +kernel
theorem dX7_fits_31 : decode cX7_fits 31 = .ok (.invokevirtual 255, 3) := by decide +kernel
theorem dX7_fits_34 : decode cX7_fits 34 = .ok (.ifCond .ne 10, 3) := by decide +kernel
theorem dX7_fits_37 : decode cX7_fits 37 = .ok (.aload_n 0, 1) := by decide +kernel
theorem dX7_fits_38 : decode cX7_fits 38 = .ok (.bipush (-3), 2) := by decide +kernel
theorem dX7_fits_40 : decode cX7_fits 40 = .ok (.invokevirtual 91, 3) := by decide +kernel
theorem dX7_fits_43 : decode cX7_fits 43 = .ok (.ireturn, 1) := by decide +kernel
theorem dX7_fits_44 : decode cX7_fits 44 = .ok (.aload_n 0, 1) := by decide +kernel
theorem dX7_fits_45 : decode cX7_fits 45 = .ok (.aload_n 0, 1) := by decide +kernel
theorem dX7_fits_46 : decode cX7_fits 46 = .ok (.getfield 58, 3) := by decide +kernel
theorem dX7_fits_49 : decode cX7_fits 49 = .ok (.iconst 0, 1) := by decide +kernel
theorem dX7_fits_50 : decode cX7_fits 50 = .ok (.iconst 2, 1) := by decide +kernel
theorem dX7_fits_51 : decode cX7_fits 51 = .ok (.invokevirtual 258, 3) := by decide +kernel
theorem dX7_fits_54 : decode cX7_fits 54 = .ok (.aload_n 0, 1) := by decide +kernel
theorem dX7_fits_55 : decode cX7_fits 55 = .ok (.aload_n 0, 1) := by decide +kernel
theorem dX7_fits_56 : decode cX7_fits 56 = .ok (.getfield 61, 3) := by decide +kernel
theorem dX7_fits_59 : decode cX7_fits 59 = .ok (.iconst 1, 1) := by decide +kernel
theorem dX7_fits_60 : decode cX7_fits 60 = .ok (.iconst 2, 1) := by decide +kernel
theorem dX7_fits_61 : decode cX7_fits 61 = .ok (.invokevirtual 258, 3) := by decide +kernel
theorem dX7_fits_64 : decode cX7_fits 64 = .ok (.iconst 0, 1) := by decide +kernel
theorem dX7_fits_65 : decode cX7_fits 65 = .ok (.istore_n 3, 1) := by decide +kernel
theorem dX7_fits_66 : decode cX7_fits 66 = .ok (.iconst 0, 1) := by decide +kernel
theorem dX7_fits_67 : decode cX7_fits 67 = .ok (.istore 4, 2) := by decide +kernel
theorem dX7_fits_69 : decode cX7_fits 69 = .ok (.iload 4, 2) := by decide +kernel
theorem dX7_fits_71 : decode cX7_fits 71 = .ok (.bipush 6, 2) := by decide +kernel
theorem dX7_fits_73 : decode cX7_fits 73 = .ok (.if_icmp .ge 51, 3) := by decide +kernel
theorem dX7_fits_76 : decode cX7_fits 76 = .ok (.aload_n 0, 1) := by decide +kernel
theorem dX7_fits_77 : decode cX7_fits 77 = .ok (.getfield 54, 3) := by decide +kernel
theorem dX7_fits_80 : decode cX7_fits 80 = .ok (.aload_n 0, 1) := by decide +kernel
theorem dX7_fits_81 : decode cX7_fits 81 = .ok (.getfield 58, 3) := by decide +kernel
theorem dX7_fits_84 : decode cX7_fits 84 = .ok (.invokevirtual 236, 3) := by decide +kernel
theorem dX7_fits_87 : decode cX7_fits 87 = .ok (.aload_n 0, 1) := by decide +kernel
theorem dX7_fits_88 : decode cX7_fits 88 = .ok (.getfield 54, 3) := by decide +kernel
theorem dX7_fits_91 : decode cX7_fits 91 = .ok (.iload 4, 2) := by decide +kernel
theorem dX7_fits_93 : decode cX7_fits 93 = .ok (.iload_n 1, 1) := by decide +kernel
theorem dX7_fits_94 : decode cX7_fits 94 = .ok (.invokevirtual 262, 3) := by decide +kernel
theorem dX7_fits_97 : decode cX7_fits 97 = .ok (.aload_n 0, 1) := by decide +kernel
theorem dX7_fits_98 : decode cX7_fits 98 = .ok (.getfield 54, 3) := by decide +kernel
theorem dX7_fits_101 : decode cX7_fits 101 = .ok (.aload_n 0, 1) := by decide +kernel
theorem dX7_fits_102 : decode cX7_fits 102 = .ok (.getfield 61, 3) := by decide +kernel
theorem dX7_fits_105 : decode cX7_fits 105 = .ok (.invokevirtual 265, 3) := by decide +kernel
theorem dX7_fits_108 : decode cX7_fits 108 = .ok (.ifCond .eq 10, 3) := by decide +kernel
theorem dX7_fits_111 : decode cX7_fits 111 = .ok (.iload_n 3, 1) := by decide +kernel
theorem dX7_fits_112 : decode cX7_fits 112 = .ok (.iconst 1, 1) := by decide +kernel
theorem dX7_fits_113 : decode cX7_fits 113 = .ok (.iload 4, 2) := by decide +kernel
theorem dX7_fits_115 : decode cX7_fits 115 = .ok (.ishl, 1) := by decide +kernel
theorem dX7_fits_116 : decode cX7_fits 116 = .ok (.ior, 1) := by decide +kernel
theorem dX7_fits_117 : decode cX7_fits 117 = .ok (.istore_n 3, 1) := by decide +kernel
theorem dX7_fits_118 : decode cX7_fits 118 = .ok (.iinc 4 1, 3) := by decide +kernel
theorem dX7_fits_121 : decode cX7_fits 121 = .ok (.goto (-52), 3) := by decide +kernel
theorem dX7_fits_124 : decode cX7_fits 124 = .ok (.iload_n 3, 1) := by decide +kernel
theorem dX7_fits_125 : decode cX7_fits 125 = .ok (.ireturn, 1) := by decide +kernel
theorem dX7_first_0 : decode cX7_first 0 = .ok (.iload_n 1, 1) := by decide +kernel
theorem dX7_first_1 : decode cX7_first 1 = .ok (.iconst (-1), 1) := by decide +kernel
theorem dX7_first_2 : decode cX7_first 2 = .ok (.if_icmp .ge 10, 3) := by decide +kernel
theorem dX7_first_5 : decode cX7_first 5 = .ok (.aload_n 0, 1) := by decide +kernel
theorem dX7_first_6 : decode cX7_first 6 = .ok (.bipush (-4), 2) := by decide +kernel
theorem dX7_first_8 : decode cX7_first 8 = .ok (.invokevirtual 124, 3) := by decide +kernel
theorem dX7_first_11 : decode cX7_first 11 = .ok (.ireturn, 1) := by decide +kernel
theorem dX7_first_12 : decode cX7_first 12 = .ok (.aload_n 0, 1) := by decide +kernel
theorem dX7_first_13 : decode cX7_first 13 = .ok (.getfield 10, 3) := by decide +kernel
theorem dX7_first_16 : decode cX7_first 16 = .ok (.getfield 118, 3) := by decide +kernel
theorem dX7_first_19 : decode cX7_first 19 = .ok (.getfield 155, 3) := by decide +kernel
theorem dX7_first_22 : decode cX7_first 22 = .ok (.iconst 3, 1) := by decide +kernel
theorem dX7_first_23 : decode cX7_first 23 = .ok (.if_icmp .eq 10, 3) := by decide +kernel
theorem dX7_first_26 : decode cX7_first 26 = .ok (.aload_n 0, 1) := by decide +kernel
theorem dX7_first_27 : decode cX7_first 27 = .ok (.bipush (-3), 2) := by decide +kernel
theorem dX7_first_29 : decode cX7_first 29 = .ok (.invokevirtual 124, 3) := by decide +kernel
theorem dX7_first_32 : decode cX7_first 32 = .ok (.ireturn, 1) := by decide +kernel
theorem dX7_first_33 : decode cX7_first 33 = .ok (.iconst 0, 1) := by decide +kernel
theorem dX7_first_34 : decode cX7_first 34 = .ok (.istore_n 2, 1) := by decide +kernel
theorem dX7_first_35 : decode cX7_first 35 = .ok (.ldc 241, 2) := by decide +kernel
theorem dX7_first_37 : decode cX7_first 37 = .ok (.istore_n 3, 1) := by decide +kernel
theorem dX7_first_38 : decode cX7_first 38 = .ok (.iconst 0, 1) := by decide +kernel
theorem dX7_first_39 : decode cX7_first 39 = .ok (.istore 4, 2) := by decide +kernel
theorem dX7_first_41 : decode cX7_first 41 = .ok (.iload 4, 2) := by decide +kernel
theorem dX7_first_43 : decode cX7_first 43 = .ok (.sipush 729, 3) := by decide +kernel
theorem dX7_first_46 : decode cX7_first 46 = .ok (.if_icmp .ge 98, 3) := by decide +kernel
theorem dX7_first_49 : decode cX7_first 49 = .ok (.aload_n 0, 1) := by decide +kernel
theorem dX7_first_50 : decode cX7_first 50 = .ok (.getfield 58, 3) := by decide +kernel
theorem dX7_first_53 : decode cX7_first 53 = .ok (.iload 4, 2) := by decide +kernel
theorem dX7_first_55 : decode cX7_first 55 = .ok (.iconst 4, 1) := by decide +kernel
theorem dX7_first_56 : decode cX7_first 56 = .ok (.invokevirtual 252, 3) := by decide +kernel
theorem dX7_first_59 : decode cX7_first 59 = .ok (.aload_n 0, 1) := by decide +kernel
theorem dX7_first_60 : decode cX7_first 60 = .ok (.getfield 54, 3) := by decide +kernel
theorem dX7_first_63 : decode cX7_first 63 = .ok (.aload_n 0, 1) := by decide +kernel
theorem dX7_first_64 : decode cX7_first 64 = .ok (.getfield 58, 3) := by decide +kernel
theorem dX7_first_67 : decode cX7_first 67 = .ok (.invokevirtual 236, 3) := by decide +kernel
theorem dX7_first_70 : decode cX7_first 70 = .ok (.aload_n 0, 1) := by decide +kernel
theorem dX7_first_71 : decode cX7_first 71 = .ok (.getfield 10, 3) := by decide +kernel
theorem dX7_first_74 : decode cX7_first 74 = .ok (.aload_n 0, 1) := by decide +kernel
theorem dX7_first_75 : decode cX7_first 75 = .ok (.getfield 54, 3) := by decide +kernel
theorem dX7_first_78 : decode cX7_first 78 = .ok (.aload_n 0, 1) := by decide +kernel
theorem dX7_first_79 : decode cX7_first 79 = .ok (.getfield 10, 3) := by decide +kernel
theorem dX7_first_82 : decode cX7_first 82 = .ok (.getfield 152, 3) := by decide +kernel
theorem dX7_first_85 : decode cX7_first 85 = .ok (.invokevirtual 269, 3) := by decide +kernel
theorem dX7_first_88 : decode cX7_first 88 = .ok (.aload_n 0, 1) := by decide +kernel
theorem dX7_first_89 : decode cX7_first 89 = .ok (.getfield 54, 3) := by decide +kernel
theorem dX7_first_92 : decode cX7_first 92 = .ok (.aload_n 0, 1) := by decide +kernel
theorem dX7_first_93 : decode cX7_first 93 = .ok (.getfield 10, 3) := by decide +kernel
theorem dX7_first_96 : decode cX7_first 96 = .ok (.getfield 118, 3) := by decide +kernel
theorem dX7_first_99 : decode cX7_first 99 = .ok (.invokevirtual 265, 3) := by decide +kernel
theorem dX7_first_102 : decode cX7_first 102 = .ok (.ifCond .eq 36, 3) := by decide +kernel
theorem dX7_first_105 : decode cX7_first 105 = .ok (.iinc 2 1, 3) := by decide +kernel
theorem dX7_first_108 : decode cX7_first 108 = .ok (.aload_n 0, 1) := by decide +kernel
theorem dX7_first_109 : decode cX7_first 109 = .ok (.getfield 58, 3) := by decide +kernel
theorem dX7_first_112 : decode cX7_first 112 = .ok (.invokevirtual 183, 3) := by decide +kernel
theorem dX7_first_115 : decode cX7_first 115 = .ok (.iload_n 3, 1) := by decide +kernel
theorem dX7_first_116 : decode cX7_first 116 = .ok (.if_icmp .ge 22, 3) := by decide +kernel
theorem dX7_first_119 : decode cX7_first 119 = .ok (.aload_n 0, 1) := by decide +kernel
theorem dX7_first_120 : decode cX7_first 120 = .ok (.getfield 58, 3) := by decide +kernel
theorem dX7_first_123 : decode cX7_first 123 = .ok (.invokevirtual 183, 3) := by decide +kernel
theorem dX7_first_126 : decode cX7_first 126 = .ok (.istore_n 3, 1) := by decide +kernel
theorem dX7_first_127 : decode cX7_first 127 = .ok (.aload_n 0, 1) := by decide +kernel
theorem dX7_first_128 : decode cX7_first 128 = .ok (.getfield 61, 3) := by decide +kernel
theorem dX7_first_131 : decode cX7_first 131 = .ok (.aload_n 0, 1) := by decide +kernel
theorem dX7_first_132 : decode cX7_first 132 = .ok (.getfield 58, 3) := by decide +kernel
theorem dX7_first_135 : decode cX7_first 135 = .ok (.invokevirtual 236, 3) := by decide +kernel
theorem dX7_first_138 : decode cX7_first 138 = .ok (.iinc 4 1, 3) := by decide +kernel
theorem dX7_first_141 : decode cX7_first 141 = .ok (.goto (-100), 3) := by decide +kernel
theorem dX7_first_144 : decode cX7_first 144 = .ok (.iload_n 1, 1) := by decide +kernel
theorem dX7_first_145 : decode cX7_first 145 = .ok (.iconst (-1), 1) := by decide +kernel
theorem dX7_first_146 : decode cX7_first 146 = .ok (.if_icmp .ne 5, 3) := by decide +kernel
theorem dX7_first_149 : decode cX7_first 149 = .ok (.iload_n 2, 1) := by decide +kernel
theorem dX7_first_150 : decode cX7_first 150 = .ok (.ireturn, 1) := by decide +kernel
theorem dX7_first_151 : decode cX7_first 151 = .ok (.iload_n 2, 1) := by decide +kernel
theorem dX7_first_152 : decode cX7_first 152 = .ok (.ifCond .eq 8, 3) := by decide +kernel
theorem dX7_first_155 : decode cX7_first 155 = .ok (.iload_n 1, 1) := by decide +kernel
theorem dX7_first_156 : decode cX7_first 156 = .ok (.iconst 2, 1) := by decide +kernel
theorem dX7_first_157 : decode cX7_first 157 = .ok (.if_icmp .le 8, 3) := by decide +kernel
theorem dX7_first_160 : decode cX7_first 160 = .ok (.bipush (-9), 2) := by decide +kernel
theorem dX7_first_162 : decode cX7_first 162 = .ok (.goto 11, 3) := by decide +kernel
theorem dX7_first_165 : decode cX7_first 165 = .ok (.aload_n 0, 1) := by decide +kernel
theorem dX7_first_166 : decode cX7_first 166 = .ok (.getfield 61, 3) := by decide +kernel
theorem dX7_first_169 : decode cX7_first 169 = .ok (.iload_n 1, 1) := by decide +kernel
theorem dX7_first_170 : decode cX7_first 170 = .ok (.invokevirtual 131, 3) := by decide +kernel
theorem dX7_first_173 : decode cX7_first 173 = .ok (.ireturn, 1) := by decide +kernel
theorem dX7_apart_0 : decode cX7_apart 0 = .ok (.iload_n 1, 1) := by decide +kernel
theorem dX7_apart_1 : decode cX7_apart 1 = .ok (.invokestatic 142, 3) := by decide +kernel
theorem dX7_apart_4 : decode cX7_apart 4 = .ok (.ifCond .eq 10, 3) := by decide +kernel
theorem dX7_apart_7 : decode cX7_apart 7 = .ok (.iload_n 2, 1) := by decide +kernel
theorem dX7_apart_8 : decode cX7_apart 8 = .ok (.invokestatic 142, 3) := by decide +kernel
theorem dX7_apart_11 : decode cX7_apart 11 = .ok (.ifCond .ne 10, 3) := by decide +kernel
theorem dX7_apart_14 : decode cX7_apart 14 = .ok (.aload_n 0, 1) := by decide +kernel
theorem dX7_apart_15 : decode cX7_apart 15 = .ok (.bipush (-2), 2) := by decide +kernel
theorem dX7_apart_17 : decode cX7_apart 17 = .ok (.invokevirtual 91, 3) := by decide +kernel
theorem dX7_apart_20 : decode cX7_apart 20 = .ok (.ireturn, 1) := by decide +kernel
theorem dX7_apart_21 : decode cX7_apart 21 = .ok (.iload_n 3, 1) := by decide +kernel
theorem dX7_apart_22 : decode cX7_apart 22 = .ok (.iconst 0, 1) := by decide +kernel
theorem dX7_apart_23 : decode cX7_apart 23 = .ok (.bipush 9, 2) := by decide +kernel
theorem dX7_apart_25 : decode cX7_apart 25 = .ok (.invokestatic 127, 3) := by decide +kernel
theorem dX7_apart_28 : decode cX7_apart 28 = .ok (.istore 4, 2) := by decide +kernel
theorem dX7_apart_30 : decode cX7_apart 30 = .ok (.iload 4, 2) := by decide +kernel
theorem dX7_apart_32 : decode cX7_apart 32 = .ok (.ifCond .eq 10, 3) := by decide +kernel
theorem dX7_apart_35 : decode cX7_apart 35 = .ok (.aload_n 0, 1) := by decide +kernel
theorem dX7_apart_36 : decode cX7_apart 36 = .ok (.iload 4, 2) := by decide +kernel
theorem dX7_apart_38 : decode cX7_apart 38 = .ok (.invokevirtual 91, 3) := by decide +kernel
theorem dX7_apart_41 : decode cX7_apart 41 = .ok (.ireturn, 1) := by decide +kernel
theorem dX7_apart_42 : decode cX7_apart 42 = .ok (.iconst 0, 1) := by decide +kernel
theorem dX7_apart_43 : decode cX7_apart 43 = .ok (.istore 5, 2) := by decide +kernel
theorem dX7_apart_45 : decode cX7_apart 45 = .ok (.iload 5, 2) := by decide +kernel
theorem dX7_apart_47 : decode cX7_apart 47 = .ok (.sipush 729, 3) := by decide +kernel
theorem dX7_apart_50 : decode cX7_apart 50 = .ok (.if_icmp .ge 65, 3) := by decide +kernel
theorem dX7_apart_53 : decode cX7_apart 53 = .ok (.aload_n 0, 1) := by decide +kernel
theorem dX7_apart_54 : decode cX7_apart 54 = .ok (.getfield 54, 3) := by decide +kernel
theorem dX7_apart_57 : decode cX7_apart 57 = .ok (.iload 5, 2) := by decide +kernel
theorem dX7_apart_59 : decode cX7_apart 59 = .ok (.iconst 4, 1) := by decide +kernel
theorem dX7_apart_60 : decode cX7_apart 60 = .ok (.invokevirtual 252, 3) := by decide +kernel
theorem dX7_apart_63 : decode cX7_apart 63 = .ok (.aload_n 0, 1) := by decide +kernel
theorem dX7_apart_64 : decode cX7_apart 64 = .ok (.getfield 58, 3) := by decide +kernel
theorem dX7_apart_67 : decode cX7_apart 67 = .ok (.aload_n 0, 1) := by decide +kernel
theorem dX7_apart_68 : decode cX7_apart 68 = .ok (.getfield 54, 3) := by decide +kernel
theorem dX7_apart_71 : decode cX7_apart 71 = .ok (.invokevirtual 236, 3) := by decide +kernel
theorem dX7_apart_74 : decode cX7_apart 74 = .ok (.aload_n 0, 1) := by decide +kernel
theorem dX7_apart_75 : decode cX7_apart 75 = .ok (.getfield 54, 3) := by decide +kernel
theorem dX7_apart_78 : decode cX7_apart 78 = .ok (.iload_n 1, 1) := by decide +kernel
theorem dX7_apart_79 : decode cX7_apart 79 = .ok (.iload_n 3, 1) := by decide +kernel
theorem dX7_apart_80 : decode cX7_apart 80 = .ok (.invokevirtual 262, 3) := by decide +kernel
theorem dX7_apart_83 : decode cX7_apart 83 = .ok (.aload_n 0, 1) := by decide +kernel
theorem dX7_apart_84 : decode cX7_apart 84 = .ok (.getfield 58, 3) := by decide +kernel
theorem dX7_apart_87 : decode cX7_apart 87 = .ok (.iload_n 2, 1) := by decide +kernel
theorem dX7_apart_88 : decode cX7_apart 88 = .ok (.iload_n 3, 1) := by decide +kernel
theorem dX7_apart_89 : decode cX7_apart 89 = .ok (.invokevirtual 262, 3) := by decide +kernel
theorem dX7_apart_92 : decode cX7_apart 92 = .ok (.aload_n 0, 1) := by decide +kernel
theorem dX7_apart_93 : decode cX7_apart 93 = .ok (.getfield 54, 3) := by decide +kernel
theorem dX7_apart_96 : decode cX7_apart 96 = .ok (.aload_n 0, 1) := by decide +kernel
theorem dX7_apart_97 : decode cX7_apart 97 = .ok (.getfield 58, 3) := by decide +kernel
theorem dX7_apart_100 : decode cX7_apart 100 = .ok (.invokevirtual 265, 3) := by decide +kernel
theorem dX7_apart_103 : decode cX7_apart 103 = .ok (.ifCond .ne 6, 3) := by decide +kernel
theorem dX7_apart_106 : decode cX7_apart 106 = .ok (.iload 5, 2) := by decide +kernel
theorem dX7_apart_108 : decode cX7_apart 108 = .ok (.ireturn, 1) := by decide +kernel
theorem dX7_apart_109 : decode cX7_apart 109 = .ok (.iinc 5 1, 3) := by decide +kernel
theorem dX7_apart_112 : decode cX7_apart 112 = .ok (.goto (-67), 3) := by decide +kernel
theorem dX7_apart_115 : decode cX7_apart 115 = .ok (.bipush (-9), 2) := by decide +kernel
theorem dX7_apart_117 : decode cX7_apart 117 = .ok (.ireturn, 1) := by decide +kernel
theorem dX7_treaty_0 : decode cX7_treaty 0 = .ok (.aload_n 0, 1) := by decide +kernel
theorem dX7_treaty_1 : decode cX7_treaty 1 = .ok (.getfield 10, 3) := by decide +kernel
theorem dX7_treaty_4 : decode cX7_treaty 4 = .ok (.getfield 152, 3) := by decide +kernel
theorem dX7_treaty_7 : decode cX7_treaty 7 = .ok (.ifCond .ne 10, 3) := by decide +kernel
theorem dX7_treaty_10 : decode cX7_treaty 10 = .ok (.aload_n 0, 1) := by decide +kernel
theorem dX7_treaty_11 : decode cX7_treaty 11 = .ok (.bipush (-3), 2) := by decide +kernel
theorem dX7_treaty_13 : decode cX7_treaty 13 = .ok (.invokevirtual 91, 3) := by decide +kernel
theorem dX7_treaty_16 : decode cX7_treaty 16 = .ok (.ireturn, 1) := by decide +kernel
theorem dX7_treaty_17 : decode cX7_treaty 17 = .ok (.iload_n 1, 1) := by decide +kernel
theorem dX7_treaty_18 : decode cX7_treaty 18 = .ok (.iconst 0, 1) := by decide +kernel
theorem dX7_treaty_19 : decode cX7_treaty 19 = .ok (.aload_n 0, 1) := by decide +kernel
theorem dX7_treaty_20 : decode cX7_treaty 20 = .ok (.getfield 10, 3) := by decide +kernel
theorem dX7_treaty_23 : decode cX7_treaty 23 = .ok (.getfield 152, 3) := by decide +kernel
theorem dX7_treaty_26 : decode cX7_treaty 26 = .ok (.iconst 1, 1) := by decide +kernel
theorem dX7_treaty_27 : decode cX7_treaty 27 = .ok (.isub, 1) := by decide +kernel
theorem dX7_treaty_28 : decode cX7_treaty 28 = .ok (.invokestatic 127, 3) := by decide +kernel
theorem dX7_treaty_31 : decode cX7_treaty 31 = .ok (.istore_n 3, 1) := by decide +kernel
theorem dX7_treaty_32 : decode cX7_treaty 32 = .ok (.iload_n 3, 1) := by decide +kernel
theorem dX7_treaty_33 : decode cX7_treaty 33 = .ok (.ifCond .eq 9, 3) := by decide +kernel
theorem dX7_treaty_36 : decode cX7_treaty 36 = .ok (.aload_n 0, 1) := by decide +kernel
theorem dX7_treaty_37 : decode cX7_treaty 37 = .ok (.iload_n 3, 1) := by decide +kernel
theorem dX7_treaty_38 : decode cX7_treaty 38 = .ok (.invokevirtual 91, 3) := by decide +kernel
theorem dX7_treaty_41 : decode cX7_treaty 41 = .ok (.ireturn, 1) := by decide +kernel
theorem dX7_treaty_42 : decode cX7_treaty 42 = .ok (.iload_n 2, 1) := by decide +kernel
theorem dX7_treaty_43 : decode cX7_treaty 43 = .ok (.ifCond .lt 8, 3) := by decide +kernel
theorem dX7_treaty_46 : decode cX7_treaty 46 = .ok (.iload_n 2, 1) := by decide +kernel
theorem dX7_treaty_47 : decode cX7_treaty 47 = .ok (.iconst 1, 1) := by decide +kernel
theorem dX7_treaty_48 : decode cX7_treaty 48 = .ok (.if_icmp .le 10, 3) := by decide +kernel
theorem dX7_treaty_51 : decode cX7_treaty 51 = .ok (.aload_n 0, 1) := by decide +kernel
theorem dX7_treaty_52 : decode cX7_treaty 52 = .ok (.bipush (-2), 2) := by decide +kernel
theorem dX7_treaty_54 : decode cX7_treaty 54 = .ok (.invokevirtual 91, 3) := by decide +kernel
theorem dX7_treaty_57 : decode cX7_treaty 57 = .ok (.ireturn, 1) := by decide +kernel
theorem dX7_treaty_58 : decode cX7_treaty 58 = .ok (.aload_n 0, 1) := by decide +kernel
theorem dX7_treaty_59 : decode cX7_treaty 59 = .ok (.getfield 67, 3) := by decide +kernel
theorem dX7_treaty_62 : decode cX7_treaty 62 = .ok (.aload_n 0, 1) := by decide +kernel
theorem dX7_treaty_63 : decode cX7_treaty 63 = .ok (.getfield 10, 3) := by decide +kernel
theorem dX7_treaty_66 : decode cX7_treaty 66 = .ok (.aload_n 0, 1) := by decide +kernel
theorem dX7_treaty_67 : decode cX7_treaty 67 = .ok (.getfield 54, 3) := by decide +kernel
theorem dX7_treaty_70 : decode cX7_treaty 70 = .ok (.invokevirtual 211, 3) := by decide +kernel
theorem dX7_treaty_73 : decode cX7_treaty 73 = .ok (.iload_n 2, 1) := by decide +kernel
theorem dX7_treaty_74 : decode cX7_treaty 74 = .ok (.ifCond .ne 25, 3) := by decide +kernel
theorem dX7_treaty_77 : decode cX7_treaty 77 = .ok (.aload_n 0, 1) := by decide +kernel
theorem dX7_treaty_78 : decode cX7_treaty 78 = .ok (.getfield 67, 3) := by decide +kernel
theorem dX7_treaty_81 : decode cX7_treaty 81 = .ok (.getfield 222, 3) := by decide +kernel
theorem dX7_treaty_84 : decode cX7_treaty 84 = .ok (.iload_n 1, 1) := by decide +kernel
theorem dX7_treaty_85 : decode cX7_treaty 85 = .ok (.iaload, 1) := by decide +kernel
theorem dX7_treaty_86 : decode cX7_treaty 86 = .ok (.aload_n 0, 1) := by decide +kernel
theorem dX7_treaty_87 : decode cX7_treaty 87 = .ok (.getfield 67, 3) := by decide +kernel
theorem dX7_treaty_90 : decode cX7_treaty 90 = .ok (.getfield 225, 3) := by decide +kernel
theorem dX7_treaty_93 : decode cX7_treaty 93 = .ok (.iload_n 1, 1) := by decide +kernel
theorem dX7_treaty_94 : decode cX7_treaty 94 = .ok (.iaload, 1) := by decide +kernel
theorem dX7_treaty_95 : decode cX7_treaty 95 = .ok (.iadd, 1) := by decide +kernel
theorem dX7_treaty_96 : decode cX7_treaty 96 = .ok (.goto 15, 3) := by decide +kernel
theorem dX7_treaty_99 : decode cX7_treaty 99 = .ok (.aload_n 0, 1) := by decide +kernel
theorem dX7_treaty_100 : decode cX7_treaty 100 = .ok (.getfield 67, 3) := by decide +kernel
theorem dX7_treaty_103 : decode cX7_treaty 103 = .ok (.getfield 273, 3) := by decide +kernel
theorem dX7_treaty_106 : decode cX7_treaty 106 = .ok (.iload_n 1, 1) := by decide +kernel
theorem dX7_treaty_107 : decode cX7_treaty 107 = .ok (.baload, 1) := by decide +kernel
theorem dX7_treaty_108 : decode cX7_treaty 108 = .ok (.invokestatic 179, 3) := by decide +kernel
theorem dX7_treaty_111 : decode cX7_treaty 111 = .ok (.ireturn, 1) := by decide +kernel
theorem dX7_share_0 : decode cX7_share 0 = .ok (.aload_n 0, 1) := by decide +kernel
theorem dX7_share_1 : decode cX7_share 1 = .ok (.getfield 10, 3) := by decide +kernel
theorem dX7_share_4 : decode cX7_share 4 = .ok (.iload_n 1, 1) := by decide +kernel
theorem dX7_share_5 : decode cX7_share 5 = .ok (.invokevirtual 105, 3) := by decide +kernel
theorem dX7_share_8 : decode cX7_share 8 = .ok (.ifCond .ne 9, 3) := by decide +kernel
theorem dX7_share_11 : decode cX7_share 11 = .ok (.aload_n 0, 1) := by decide +kernel
theorem dX7_share_12 : decode cX7_share 12 = .ok (.iconst (-1), 1) := by decide +kernel
theorem dX7_share_13 : decode cX7_share 13 = .ok (.invokevirtual 91, 3) := by decide +kernel
theorem dX7_share_16 : decode cX7_share 16 = .ok (.ireturn, 1) := by decide +kernel
theorem dX7_share_17 : decode cX7_share 17 = .ok (.aload_n 0, 1) := by decide +kernel
theorem dX7_share_18 : decode cX7_share 18 = .ok (.getfield 67, 3) := by decide +kernel
theorem dX7_share_21 : decode cX7_share 21 = .ok (.aload_n 0, 1) := by decide +kernel
theorem dX7_share_22 : decode cX7_share 22 = .ok (.getfield 10, 3) := by decide +kernel
theorem dX7_share_25 : decode cX7_share 25 = .ok (.aload_n 0, 1) := by decide +kernel
theorem dX7_share_26 : decode cX7_share 26 = .ok (.getfield 54, 3) := by decide +kernel
theorem dX7_share_29 : decode cX7_share 29 = .ok (.invokevirtual 211, 3) := by decide +kernel
theorem dX7_share_32 : decode cX7_share 32 = .ok (.iload_n 1, 1) := by decide +kernel
theorem dX7_share_33 : decode cX7_share 33 = .ok (.ifCond .eq 14, 3) := by decide +kernel
theorem dX7_share_36 : decode cX7_share 36 = .ok (.iload_n 1, 1) := by decide +kernel
theorem dX7_share_37 : decode cX7_share 37 = .ok (.aload_n 0, 1) := by decide +kernel
theorem dX7_share_38 : decode cX7_share 38 = .ok (.getfield 67, 3) := by decide +kernel
theorem dX7_share_41 : decode cX7_share 41 = .ok (.invokevirtual 215, 3) := by decide +kernel
theorem dX7_share_44 : decode cX7_share 44 = .ok (.if_icmp .lt 6, 3) := by decide +kernel
theorem dX7_share_47 : decode cX7_share 47 = .ok (.bipush (-9), 2) := by decide +kernel
theorem dX7_share_49 : decode cX7_share 49 = .ok (.ireturn, 1) := by decide +kernel
theorem dX7_share_50 : decode cX7_share 50 = .ok (.aload_n 0, 1) := by decide +kernel
theorem dX7_share_51 : decode cX7_share 51 = .ok (.getfield 67, 3) := by decide +kernel
theorem dX7_share_54 : decode cX7_share 54 = .ok (.getfield 276, 3) := by decide +kernel
theorem dX7_share_57 : decode cX7_share 57 = .ok (.iload_n 1, 1) := by decide +kernel
theorem dX7_share_58 : decode cX7_share 58 = .ok (.iconst 1, 1) := by decide +kernel
theorem dX7_share_59 : decode cX7_share 59 = .ok (.isub, 1) := by decide +kernel
theorem dX7_share_60 : decode cX7_share 60 = .ok (.baload, 1) := by decide +kernel
theorem dX7_share_61 : decode cX7_share 61 = .ok (.invokestatic 179, 3) := by decide +kernel
theorem dX7_share_64 : decode cX7_share 64 = .ok (.ireturn, 1) := by decide +kernel
theorem dX7_bedtime_0 : decode cX7_bedtime 0 = .ok (.iload_n 1, 1) := by decide +kernel
theorem dX7_bedtime_1 : decode cX7_bedtime 1 = .ok (.iconst 2, 1) := by decide +kernel
theorem dX7_bedtime_2 : decode cX7_bedtime 2 = .ok (.bipush 20, 2) := by decide +kernel
theorem dX7_bedtime_4 : decode cX7_bedtime 4 = .ok (.invokestatic 127, 3) := by decide +kernel
theorem dX7_bedtime_7 : decode cX7_bedtime 7 = .ok (.istore_n 3, 1) := by decide +kernel
theorem dX7_bedtime_8 : decode cX7_bedtime 8 = .ok (.iload_n 3, 1) := by decide +kernel
theorem dX7_bedtime_9 : decode cX7_bedtime 9 = .ok (.ifCond .eq 9, 3) := by decide +kernel
theorem dX7_bedtime_12 : decode cX7_bedtime 12 = .ok (.aload_n 0, 1) := by decide +kernel
theorem dX7_bedtime_13 : decode cX7_bedtime 13 = .ok (.iload_n 3, 1) := by decide +kernel
theorem dX7_bedtime_14 : decode cX7_bedtime 14 = .ok (.invokevirtual 279, 3) := by decide +kernel
theorem dX7_bedtime_17 : decode cX7_bedtime 17 = .ok (.lreturn, 1) := by decide +kernel
theorem dX7_bedtime_18 : decode cX7_bedtime 18 = .ok (.iload_n 2, 1) := by decide +kernel
theorem dX7_bedtime_19 : decode cX7_bedtime 19 = .ok (.ifCond .lt 8, 3) := by decide +kernel
theorem dX7_bedtime_22 : decode cX7_bedtime 22 = .ok (.iload_n 2, 1) := by decide +kernel
theorem dX7_bedtime_23 : decode cX7_bedtime 23 = .ok (.iconst 1, 1) := by decide +kernel
theorem dX7_bedtime_24 : decode cX7_bedtime 24 = .ok (.if_icmp .le 10, 3) := by decide +kernel
theorem dX7_bedtime_27 : decode cX7_bedtime 27 = .ok (.aload_n 0, 1) := by decide +kernel
theorem dX7_bedtime_28 : decode cX7_bedtime 28 = .ok (.bipush (-2), 2) := by decide +kernel
theorem dX7_bedtime_30 : decode cX7_bedtime 30 = .ok (.invokevirtual 279, 3) := by decide +kernel
theorem dX7_bedtime_33 : decode cX7_bedtime 33 = .ok (.lreturn, 1) := by decide +kernel
theorem dX7_bedtime_34 : decode cX7_bedtime 34 = .ok (.lconst 0, 1) := by decide +kernel
theorem dX7_bedtime_35 : decode cX7_bedtime 35 = .ok (.lstore 4, 2) := by decide +kernel
theorem dX7_bedtime_37 : decode cX7_bedtime 37 = .ok (.iconst 0, 1) := by decide +kernel
theorem dX7_bedtime_38 : decode cX7_bedtime 38 = .ok (.istore 6, 2) := by decide +kernel
theorem dX7_bedtime_40 : decode cX7_bedtime 40 = .ok (.iload 6, 2) := by decide +kernel
theorem dX7_bedtime_42 : decode cX7_bedtime 42 = .ok (.iconst 1, 1) := by decide +kernel
theorem dX7_bedtime_43 : decode cX7_bedtime 43 = .ok (.aload_n 0, 1) := by decide +kernel
theorem dX7_bedtime_44 : decode cX7_bedtime 44 = .ok (.getfield 10, 3) := by decide +kernel
theorem dX7_bedtime_47 : decode cX7_bedtime 47 = .ok (.getfield 152, 3) := by decide +kernel
theorem dX7_bedtime_50 : decode cX7_bedtime 50 = .ok (.ishl, 1) := by decide +kernel
theorem dX7_bedtime_51 : decode cX7_bedtime 51 = .ok (.if_icmp .ge 49, 3) := by decide +kernel
theorem dX7_bedtime_54 : decode cX7_bedtime 54 = .ok (.aload_n 0, 1) := by decide +kernel
theorem dX7_bedtime_55 : decode cX7_bedtime 55 = .ok (.iload 6, 2) := by decide +kernel
theorem dX7_bedtime_57 : decode cX7_bedtime 57 = .ok (.invokevirtual 283, 3) := by decide +kernel
theorem dX7_bedtime_60 : decode cX7_bedtime 60 = .ok (.aload_n 0, 1) := by decide +kernel
theorem dX7_bedtime_61 : decode cX7_bedtime 61 = .ok (.getfield 54, 3) := by decide +kernel
theorem dX7_bedtime_64 : decode cX7_bedtime 64 = .ok (.invokevirtual 175, 3) := by decide +kernel
theorem dX7_bedtime_67 : decode cX7_bedtime 67 = .ok (.ifCond .eq 27, 3) := by decide +kernel
theorem dX7_bedtime_70 : decode cX7_bedtime 70 = .ok (.lload 4, 2) := by decide +kernel
theorem dX7_bedtime_72 : decode cX7_bedtime 72 = .ok (.iload_n 1, 1) := by decide +kernel
theorem dX7_bedtime_73 : decode cX7_bedtime 73 = .ok (.iconst 1, 1) := by decide +kernel
theorem dX7_bedtime_74 : decode cX7_bedtime 74 = .ok (.isub, 1) := by decide +kernel
theorem dX7_bedtime_75 : decode cX7_bedtime 75 = .ok (.aload_n 0, 1) := by decide +kernel
theorem dX7_bedtime_76 : decode cX7_bedtime 76 = .ok (.getfield 10, 3) := by decide +kernel
theorem dX7_bedtime_79 : decode cX7_bedtime 79 = .ok (.getfield 152, 3) := by decide +kernel
theorem dX7_bedtime_82 : decode cX7_bedtime 82 = .ok (.iload 6, 2) := by decide +kernel
theorem dX7_bedtime_84 : decode cX7_bedtime 84 = .ok (.invokestatic 231, 3) := by decide +kernel
theorem dX7_bedtime_87 : decode cX7_bedtime 87 = .ok (.isub, 1) := by decide +kernel
theorem dX7_bedtime_88 : decode cX7_bedtime 88 = .ok (.invokestatic 286, 3) := by decide +kernel
theorem dX7_bedtime_91 : decode cX7_bedtime 91 = .ok (.ladd, 1) := by decide +kernel
theorem dX7_bedtime_92 : decode cX7_bedtime 92 = .ok (.lstore 4, 2) := by decide +kernel
theorem dX7_bedtime_94 : decode cX7_bedtime 94 = .ok (.iinc 6 1, 3) := by decide +kernel
theorem dX7_bedtime_97 : decode cX7_bedtime 97 = .ok (.goto (-57), 3) := by decide +kernel
theorem dX7_bedtime_100 : decode cX7_bedtime 100 = .ok (.iload_n 1, 1) := by decide +kernel
theorem dX7_bedtime_101 : decode cX7_bedtime 101 = .ok (.aload_n 0, 1) := by decide +kernel
theorem dX7_bedtime_102 : decode cX7_bedtime 102 = .ok (.getfield 10, 3) := by decide +kernel
theorem dX7_bedtime_105 : decode cX7_bedtime 105 = .ok (.getfield 152, 3) := by decide +kernel
theorem dX7_bedtime_108 : decode cX7_bedtime 108 = .ok (.invokestatic 286, 3) := by decide +kernel
theorem dX7_bedtime_111 : decode cX7_bedtime 111 = .ok (.lstore 6, 2) := by decide +kernel
theorem dX7_bedtime_113 : decode cX7_bedtime 113 = .ok (.lload 4, 2) := by decide +kernel
theorem dX7_bedtime_115 : decode cX7_bedtime 115 = .ok (.lload 6, 2) := by decide +kernel
theorem dX7_bedtime_117 : decode cX7_bedtime 117 = .ok (.invokestatic 290, 3) := by decide +kernel
theorem dX7_bedtime_120 : decode cX7_bedtime 120 = .ok (.lstore 8, 2) := by decide +kernel
theorem dX7_bedtime_122 : decode cX7_bedtime 122 = .ok (.lload 8, 2) := by decide +kernel
theorem dX7_bedtime_124 : decode cX7_bedtime 124 = .ok (.lconst 0, 1) := by decide +kernel
theorem dX7_bedtime_125 : decode cX7_bedtime 125 = .ok (.lcmp, 1) := by decide +kernel
theorem dX7_bedtime_126 : decode cX7_bedtime 126 = .ok (.ifCond .ne 6, 3) := by decide +kernel
theorem dX7_bedtime_129 : decode cX7_bedtime 129 = .ok (.iload_n 2, 1) := by decide +kernel
theorem dX7_bedtime_130 : decode cX7_bedtime 130 = .ok (.i2l, 1) := by decide +kernel
theorem dX7_bedtime_131 : decode cX7_bedtime 131 = .ok (.lreturn, 1) := by decide +kernel
theorem dX7_bedtime_132 : decode cX7_bedtime 132 = .ok (.iload_n 2, 1) := by decide +kernel
theorem dX7_bedtime_133 : decode cX7_bedtime 133 = .ok (.ifCond .ne 11, 3) := by decide +kernel
theorem dX7_bedtime_136 : decode cX7_bedtime 136 = .ok (.lload 4, 2) := by decide +kernel
theorem dX7_bedtime_138 : decode cX7_bedtime 138 = .ok (.lload 8, 2) := by decide +kernel
theorem dX7_bedtime_140 : decode cX7_bedtime 140 = .ok (.ldiv, 1) := by decide +kernel
theorem dX7_bedtime_141 : decode cX7_bedtime 141 = .ok (.goto 8, 3) := by decide +kernel
theorem dX7_bedtime_144 : decode cX7_bedtime 144 = .ok (.lload 6, 2) := by decide +kernel
theorem dX7_bedtime_146 : decode cX7_bedtime 146 = .ok (.lload 8, 2) := by decide +kernel
theorem dX7_bedtime_148 : decode cX7_bedtime 148 = .ok (.ldiv, 1) := by decide +kernel
theorem dX7_bedtime_149 : decode cX7_bedtime 149 = .ok (.lreturn, 1) := by decide +kernel
theorem dX7_order_0 : decode cX7_order 0 = .ok (.aload_n 0, 1) := by decide +kernel
theorem dX7_order_1 : decode cX7_order 1 = .ok (.aload_n 0, 1) := by decide +kernel
theorem dX7_order_2 : decode cX7_order 2 = .ok (.getfield 10, 3) := by decide +kernel
theorem dX7_order_5 : decode cX7_order 5 = .ok (.getfield 152, 3) := by decide +kernel
theorem dX7_order_8 : decode cX7_order 8 = .ok (.invokevirtual 171, 3) := by decide +kernel
theorem dX7_order_11 : decode cX7_order 11 = .ok (.aload_n 0, 1) := by decide +kernel
theorem dX7_order_12 : decode cX7_order 12 = .ok (.getfield 54, 3) := by decide +kernel
theorem dX7_order_15 : decode cX7_order 15 = .ok (.invokevirtual 183, 3) := by decide +kernel
theorem dX7_order_18 : decode cX7_order 18 = .ok (.istore_n 1, 1) := by decide +kernel
theorem dX7_order_19 : decode cX7_order 19 = .ok (.bipush (-9), 2) := by decide +kernel
theorem dX7_order_21 : decode cX7_order 21 = .ok (.istore_n 2, 1) := by decide +kernel
theorem dX7_order_22 : decode cX7_order 22 = .ok (.iconst 0, 1) := by decide +kernel
theorem dX7_order_23 : decode cX7_order 23 = .ok (.istore_n 3, 1) := by decide +kernel
theorem dX7_order_24 : decode cX7_order 24 = .ok (.iload_n 3, 1) := by decide +kernel
theorem dX7_order_25 : decode cX7_order 25 = .ok (.aload_n 0, 1) := by decide +kernel
theorem dX7_order_26 : decode cX7_order 26 = .ok (.getfield 10, 3) := by decide +kernel
theorem dX7_order_29 : decode cX7_order 29 = .ok (.getfield 152, 3) := by decide +kernel
theorem dX7_order_32 : decode cX7_order 32 = .ok (.if_icmp .ge 66, 3) := by decide +kernel
theorem dX7_order_35 : decode cX7_order 35 = .ok (.iload_n 3, 1) := by decide +kernel
theorem dX7_order_36 : decode cX7_order 36 = .ok (.iconst 1, 1) := by decide +kernel
theorem dX7_order_37 : decode cX7_order 37 = .ok (.iadd, 1) := by decide +kernel
theorem dX7_order_38 : decode cX7_order 38 = .ok (.istore 4, 2) := by decide +kernel
theorem dX7_order_40 : decode cX7_order 40 = .ok (.iload 4, 2) := by decide +kernel
theorem dX7_order_42 : decode cX7_order 42 = .ok (.aload_n 0, 1) := by decide +kernel
theorem dX7_order_43 : decode cX7_order 43 = .ok (.getfield 10, 3) := by decide +kernel
theorem dX7_order_46 : decode cX7_order 46 = .ok (.getfield 152, 3) := by decide +kernel
theorem dX7_order_49 : decode cX7_order 49 = .ok (.if_icmp .ge 43, 3) := by decide +kernel
theorem dX7_order_52 : decode cX7_order 52 = .ok (.aload_n 0, 1) := by decide +kernel
theorem dX7_order_53 : decode cX7_order 53 = .ok (.iload_n 3, 1) := by decide +kernel
theorem dX7_order_54 : decode cX7_order 54 = .ok (.iload 4, 2) := by decide +kernel
theorem dX7_order_56 : decode cX7_order 56 = .ok (.invokevirtual 294, 3) := by decide +kernel
theorem dX7_order_59 : decode cX7_order 59 = .ok (.aload_n 0, 1) := by decide +kernel
theorem dX7_order_60 : decode cX7_order 60 = .ok (.getfield 54, 3) := by decide +kernel
theorem dX7_order_63 : decode cX7_order 63 = .ok (.invokevirtual 183, 3) := by decide +kernel
theorem dX7_order_66 : decode cX7_order 66 = .ok (.iload_n 1, 1) := by decide +kernel
theorem dX7_order_67 : decode cX7_order 67 = .ok (.if_icmp .le 19, 3) := by decide +kernel
theorem dX7_order_70 : decode cX7_order 70 = .ok (.aload_n 0, 1) := by decide +kernel
theorem dX7_order_71 : decode cX7_order 71 = .ok (.getfield 54, 3) := by decide +kernel
theorem dX7_order_74 : decode cX7_order 74 = .ok (.invokevirtual 183, 3) := by decide +kernel
theorem dX7_order_77 : decode cX7_order 77 = .ok (.istore_n 1, 1) := by decide +kernel
theorem dX7_order_78 : decode cX7_order 78 = .ok (.bipush 10, 2) := by decide +kernel
theorem dX7_order_80 : decode cX7_order 80 = .ok (.iload_n 3, 1) := by decide +kernel
theorem dX7_order_81 : decode cX7_order 81 = .ok (.imul, 1) := by decide +kernel
theorem dX7_order_82 : decode cX7_order 82 = .ok (.iload 4, 2) := by decide +kernel
theorem dX7_order_84 : decode cX7_order 84 = .ok (.iadd, 1) := by decide +kernel
theorem dX7_order_85 : decode cX7_order 85 = .ok (.istore_n 2, 1) := by decide +kernel
theorem dX7_order_86 : decode cX7_order 86 = .ok (.iinc 4 1, 3) := by decide +kernel
theorem dX7_order_89 : decode cX7_order 89 = .ok (.goto (-49), 3) := by decide +kernel
theorem dX7_order_92 : decode cX7_order 92 = .ok (.iinc 3 1, 3) := by decide +kernel
theorem dX7_order_95 : decode cX7_order 95 = .ok (.goto (-71), 3) := by decide +kernel
theorem dX7_order_98 : decode cX7_order 98 = .ok (.iload_n 2, 1) := by decide +kernel
theorem dX7_order_99 : decode cX7_order 99 = .ok (.ireturn, 1) := by decide +kernel
theorem dX7_bestOrder_0 : decode cX7_bestOrder 0 = .ok (.aload_n 0, 1) := by decide +kernel
theorem dX7_bestOrder_1 : decode cX7_bestOrder 1 = .ok (.getfield 10, 3) := by decide +kernel
theorem dX7_bestOrder_4 : decode cX7_bestOrder 4 = .ok (.getfield 152, 3) := by decide +kernel
theorem dX7_bestOrder_7 : decode cX7_bestOrder 7 = .ok (.iconst 5, 1) := by decide +kernel
theorem dX7_bestOrder_8 : decode cX7_bestOrder 8 = .ok (.if_icmp .le 10, 3) := by decide +kernel
theorem dX7_bestOrder_11 : decode cX7_bestOrder 11 = .ok (.aload_n 0, 1) := by decide +kernel
theorem dX7_bestOrder_12 : decode cX7_bestOrder 12 = .ok (.bipush (-3), 2) := by decide +kernel
theorem dX7_bestOrder_14 : decode cX7_bestOrder 14 = .ok (.invokevirtual 124, 3) := by decide +kernel
theorem dX7_bestOrder_17 : decode cX7_bestOrder 17 = .ok (.ireturn, 1) := by decide +kernel
theorem dX7_bestOrder_18 : decode cX7_bestOrder 18 = .ok (.iload_n 1, 1) := by decide +kernel
theorem dX7_bestOrder_19 : decode cX7_bestOrder 19 = .ok (.iconst (-1), 1) := by decide +kernel
theorem dX7_bestOrder_20 : decode cX7_bestOrder 20 = .ok (.if_icmp .ge 10, 3) := by decide +kernel
theorem dX7_bestOrder_23 : decode cX7_bestOrder 23 = .ok (.aload_n 0, 1) := by decide +kernel
theorem dX7_bestOrder_24 : decode cX7_bestOrder 24 = .ok (.bipush (-4), 2) := by decide +kernel
theorem dX7_bestOrder_26 : decode cX7_bestOrder 26 = .ok (.invokevirtual 124, 3) := by decide +kernel
theorem dX7_bestOrder_29 : decode cX7_bestOrder 29 = .ok (.ireturn, 1) := by decide +kernel
theorem dX7_bestOrder_30 : decode cX7_bestOrder 30 = .ok (.aload_n 0, 1) := by decide +kernel
theorem dX7_bestOrder_31 : decode cX7_bestOrder 31 = .ok (.invokevirtual 297, 3) := by decide +kernel
theorem dX7_bestOrder_34 : decode cX7_bestOrder 34 = .ok (.istore_n 2, 1) := by decide +kernel
theorem dX7_bestOrder_35 : decode cX7_bestOrder 35 = .ok (.iload_n 1, 1) := by decide +kernel
theorem dX7_bestOrder_36 : decode cX7_bestOrder 36 = .ok (.iconst (-1), 1) := by decide +kernel
theorem dX7_bestOrder_37 : decode cX7_bestOrder 37 = .ok (.if_icmp .ne 5, 3) := by decide +kernel
theorem dX7_bestOrder_40 : decode cX7_bestOrder 40 = .ok (.iload_n 2, 1) := by decide +kernel
theorem dX7_bestOrder_41 : decode cX7_bestOrder 41 = .ok (.ireturn, 1) := by decide +kernel
theorem dX7_bestOrder_42 : decode cX7_bestOrder 42 = .ok (.iload_n 1, 1) := by decide +kernel
theorem dX7_bestOrder_43 : decode cX7_bestOrder 43 = .ok (.aload_n 0, 1) := by decide +kernel
theorem dX7_bestOrder_44 : decode cX7_bestOrder 44 = .ok (.getfield 10, 3) := by decide +kernel
theorem dX7_bestOrder_47 : decode cX7_bestOrder 47 = .ok (.getfield 152, 3) := by decide +kernel
theorem dX7_bestOrder_50 : decode cX7_bestOrder 50 = .ok (.if_icmp .ge 21, 3) := by decide +kernel
theorem dX7_bestOrder_53 : decode cX7_bestOrder 53 = .ok (.iload_n 1, 1) := by decide +kernel
theorem dX7_bestOrder_54 : decode cX7_bestOrder 54 = .ok (.aload_n 0, 1) := by decide +kernel
theorem dX7_bestOrder_55 : decode cX7_bestOrder 55 = .ok (.getfield 88, 3) := by decide +kernel
theorem dX7_bestOrder_58 : decode cX7_bestOrder 58 = .ok (.arraylength, 1) := by decide +kernel
theorem dX7_bestOrder_59 : decode cX7_bestOrder 59 = .ok (.if_icmp .ge 12, 3) := by decide +kernel
theorem dX7_bestOrder_62 : decode cX7_bestOrder 62 = .ok (.aload_n 0, 1) := by decide +kernel
theorem dX7_bestOrder_63 : decode cX7_bestOrder 63 = .ok (.getfield 88, 3) := by decide +kernel
theorem dX7_bestOrder_66 : decode cX7_bestOrder 66 = .ok (.iload_n 1, 1) := by decide +kernel
theorem dX7_bestOrder_67 : decode cX7_bestOrder 67 = .ok (.iaload, 1) := by decide +kernel
theorem dX7_bestOrder_68 : decode cX7_bestOrder 68 = .ok (.goto 5, 3) := by decide +kernel
theorem dX7_bestOrder_71 : decode cX7_bestOrder 71 = .ok (.bipush (-9), 2) := by decide +kernel
theorem dX7_bestOrder_73 : decode cX7_bestOrder 73 = .ok (.ireturn, 1) := by decide +kernel
theorem dX7_needed_0 : decode cX7_needed 0 = .ok (.aload_n 0, 1) := by decide +kernel
theorem dX7_needed_1 : decode cX7_needed 1 = .ok (.getfield 10, 3) := by decide +kernel
theorem dX7_needed_4 : decode cX7_needed 4 = .ok (.getfield 118, 3) := by decide +kernel
theorem dX7_needed_7 : decode cX7_needed 7 = .ok (.iload_n 1, 1) := by decide +kernel
theorem dX7_needed_8 : decode cX7_needed 8 = .ok (.invokevirtual 121, 3) := by decide +kernel
theorem dX7_needed_11 : decode cX7_needed 11 = .ok (.ifCond .ne 9, 3) := by decide +kernel
theorem dX7_needed_14 : decode cX7_needed 14 = .ok (.aload_n 0, 1) := by decide +kernel
theorem dX7_needed_15 : decode cX7_needed 15 = .ok (.iconst (-1), 1) := by decide +kernel
theorem dX7_needed_16 : decode cX7_needed 16 = .ok (.invokevirtual 91, 3) := by decide +kernel
theorem dX7_needed_19 : decode cX7_needed 19 = .ok (.ireturn, 1) := by decide +kernel
theorem dX7_needed_20 : decode cX7_needed 20 = .ok (.bipush (-9), 2) := by decide +kernel
theorem dX7_needed_22 : decode cX7_needed 22 = .ok (.istore_n 2, 1) := by decide +kernel
theorem dX7_needed_23 : decode cX7_needed 23 = .ok (.iload_n 2, 1) := by decide +kernel
theorem dX7_needed_24 : decode cX7_needed 24 = .ok (.bipush 9, 2) := by decide +kernel
theorem dX7_needed_26 : decode cX7_needed 26 = .ok (.if_icmp .gt 62, 3) := by decide +kernel
theorem dX7_needed_29 : decode cX7_needed 29 = .ok (.aload_n 0, 1) := by decide +kernel
theorem dX7_needed_30 : decode cX7_needed 30 = .ok (.getfield 54, 3) := by decide +kernel
theorem dX7_needed_33 : decode cX7_needed 33 = .ok (.aload_n 0, 1) := by decide +kernel
theorem dX7_needed_34 : decode cX7_needed 34 = .ok (.getfield 10, 3) := by decide +kernel
theorem dX7_needed_37 : decode cX7_needed 37 = .ok (.getfield 118, 3) := by decide +kernel
theorem dX7_needed_40 : decode cX7_needed 40 = .ok (.invokevirtual 236, 3) := by decide +kernel
theorem dX7_needed_43 : decode cX7_needed 43 = .ok (.aload_n 0, 1) := by decide +kernel
theorem dX7_needed_44 : decode cX7_needed 44 = .ok (.getfield 54, 3) := by decide +kernel
theorem dX7_needed_47 : decode cX7_needed 47 = .ok (.iload_n 1, 1) := by decide +kernel
theorem dX7_needed_48 : decode cX7_needed 48 = .ok (.iload_n 2, 1) := by decide +kernel
theorem dX7_needed_49 : decode cX7_needed 49 = .ok (.invokevirtual 138, 3) := by decide +kernel
theorem dX7_needed_52 : decode cX7_needed 52 = .ok (.aload_n 0, 1) := by decide +kernel
theorem dX7_needed_53 : decode cX7_needed 53 = .ok (.getfield 10, 3) := by decide +kernel
theorem dX7_needed_56 : decode cX7_needed 56 = .ok (.aload_n 0, 1) := by decide +kernel
theorem dX7_needed_57 : decode cX7_needed 57 = .ok (.getfield 54, 3) := by decide +kernel
theorem dX7_needed_60 : decode cX7_needed 60 = .ok (.aload_n 0, 1) := by decide +kernel
theorem dX7_needed_61 : decode cX7_needed 61 = .ok (.getfield 10, 3) := by decide +kernel
theorem dX7_needed_64 : decode cX7_needed 64 = .ok (.getfield 152, 3) := by decide +kernel
theorem dX7_needed_67 : decode cX7_needed 67 = .ok (.invokevirtual 269, 3) := by decide +kernel
theorem dX7_needed_70 : decode cX7_needed 70 = .ok (.aload_n 0, 1) := by decide +kernel
theorem dX7_needed_71 : decode cX7_needed 71 = .ok (.getfield 54, 3) := by decide +kernel
theorem dX7_needed_74 : decode cX7_needed 74 = .ok (.invokevirtual 175, 3) := by decide +kernel
theorem dX7_needed_77 : decode cX7_needed 77 = .ok (.ifCond .eq 5, 3) := by decide +kernel
theorem dX7_needed_80 : decode cX7_needed 80 = .ok (.iload_n 2, 1) := by decide +kernel
theorem dX7_needed_81 : decode cX7_needed 81 = .ok (.ireturn, 1) := by decide +kernel
theorem dX7_needed_82 : decode cX7_needed 82 = .ok (.iinc 2 1, 3) := by decide +kernel
theorem dX7_needed_85 : decode cX7_needed 85 = .ok (.goto (-62), 3) := by decide +kernel
theorem dX7_needed_88 : decode cX7_needed 88 = .ok (.bipush (-99), 2) := by decide +kernel
theorem dX7_needed_90 : decode cX7_needed 90 = .ok (.ireturn, 1) := by decide +kernel
theorem dX7_cheapest_0 : decode cX7_cheapest 0 = .ok (.aload_n 0, 1) := by decide +kernel
theorem dX7_cheapest_1 : decode cX7_cheapest 1 = .ok (.invokevirtual 300, 3) := by decide +kernel
theorem dX7_cheapest_4 : decode cX7_cheapest 4 = .ok (.istore_n 1, 1) := by decide +kernel
theorem dX7_cheapest_5 : decode cX7_cheapest 5 = .ok (.bipush (-9), 2) := by decide +kernel
theorem dX7_cheapest_7 : decode cX7_cheapest 7 = .ok (.istore_n 2, 1) := by decide +kernel
theorem dX7_cheapest_8 : decode cX7_cheapest 8 = .ok (.iconst (-1), 1) := by decide +kernel
theorem dX7_cheapest_9 : decode cX7_cheapest 9 = .ok (.istore_n 3, 1) := by decide +kernel
theorem dX7_cheapest_10 : decode cX7_cheapest 10 = .ok (.iconst 0, 1) := by decide +kernel
theorem dX7_cheapest_11 : decode cX7_cheapest 11 = .ok (.istore 4, 2) := by decide +kernel
theorem dX7_cheapest_13 : decode cX7_cheapest 13 = .ok (.iload 4, 2) := by decide +kernel
theorem dX7_cheapest_15 : decode cX7_cheapest 15 = .ok (.aload_n 0, 1) := by decide +kernel
theorem dX7_cheapest_16 : decode cX7_cheapest 16 = .ok (.getfield 10, 3) := by decide +kernel
theorem dX7_cheapest_19 : decode cX7_cheapest 19 = .ok (.getfield 152, 3) := by decide +kernel
theorem dX7_cheapest_22 : decode cX7_cheapest 22 = .ok (.if_icmp .ge 56, 3) := by decide +kernel
theorem dX7_cheapest_25 : decode cX7_cheapest 25 = .ok (.aload_n 0, 1) := by decide +kernel
theorem dX7_cheapest_26 : decode cX7_cheapest 26 = .ok (.iconst 1, 1) := by decide +kernel
theorem dX7_cheapest_27 : decode cX7_cheapest 27 = .ok (.iload 4, 2) := by decide +kernel
theorem dX7_cheapest_29 : decode cX7_cheapest 29 = .ok (.ishl, 1) := by decide +kernel
theorem dX7_cheapest_30 : decode cX7_cheapest 30 = .ok (.invokevirtual 283, 3) := by decide +kernel
theorem dX7_cheapest_33 : decode cX7_cheapest 33 = .ok (.aload_n 0, 1) := by decide +kernel
theorem dX7_cheapest_34 : decode cX7_cheapest 34 = .ok (.getfield 54, 3) := by decide +kernel
theorem dX7_cheapest_37 : decode cX7_cheapest 37 = .ok (.invokevirtual 175, 3) := by decide +kernel
theorem dX7_cheapest_40 : decode cX7_cheapest 40 = .ok (.iload_n 1, 1) := by decide +kernel
theorem dX7_cheapest_41 : decode cX7_cheapest 41 = .ok (.if_icmp .ne 31, 3) := by decide +kernel
theorem dX7_cheapest_44 : decode cX7_cheapest 44 = .ok (.aload_n 0, 1) := by decide +kernel
theorem dX7_cheapest_45 : decode cX7_cheapest 45 = .ok (.getfield 10, 3) := by decide +kernel
theorem dX7_cheapest_48 : decode cX7_cheapest 48 = .ok (.getfield 115, 3) := by decide +kernel
theorem dX7_cheapest_51 : decode cX7_cheapest 51 = .ok (.iload 4, 2) := by decide +kernel
theorem dX7_cheapest_53 : decode cX7_cheapest 53 = .ok (.iaload, 1) := by decide +kernel
theorem dX7_cheapest_54 : decode cX7_cheapest 54 = .ok (.iload_n 3, 1) := by decide +kernel
theorem dX7_cheapest_55 : decode cX7_cheapest 55 = .ok (.if_icmp .le 17, 3) := by decide +kernel
theorem dX7_cheapest_58 : decode cX7_cheapest 58 = .ok (.iload 4, 2) := by decide +kernel
theorem dX7_cheapest_60 : decode cX7_cheapest 60 = .ok (.istore_n 2, 1) := by decide +kernel
theorem dX7_cheapest_61 : decode cX7_cheapest 61 = .ok (.aload_n 0, 1) := by decide +kernel
theorem dX7_cheapest_62 : decode cX7_cheapest 62 = .ok (.getfield 10, 3) := by decide +kernel
theorem dX7_cheapest_65 : decode cX7_cheapest 65 = .ok (.getfield 115, 3) := by decide +kernel
theorem dX7_cheapest_68 : decode cX7_cheapest 68 = .ok (.iload 4, 2) := by decide +kernel
theorem dX7_cheapest_70 : decode cX7_cheapest 70 = .ok (.iaload, 1) := by decide +kernel
theorem dX7_cheapest_71 : decode cX7_cheapest 71 = .ok (.istore_n 3, 1) := by decide +kernel
theorem dX7_cheapest_72 : decode cX7_cheapest 72 = .ok (.iinc 4 1, 3) := by decide +kernel
theorem dX7_cheapest_75 : decode cX7_cheapest 75 = .ok (.goto (-62), 3) := by decide +kernel
theorem dX7_cheapest_78 : decode cX7_cheapest 78 = .ok (.iload_n 2, 1) := by decide +kernel
theorem dX7_cheapest_79 : decode cX7_cheapest 79 = .ok (.ireturn, 1) := by decide +kernel
theorem dX7_biggest_0 : decode cX7_biggest 0 = .ok (.iload_n 1, 1) := by decide +kernel
theorem dX7_biggest_1 : decode cX7_biggest 1 = .ok (.ifCond .lt 8, 3) := by decide +kernel
theorem dX7_biggest_4 : decode cX7_biggest 4 = .ok (.iload_n 1, 1) := by decide +kernel
theorem dX7_biggest_5 : decode cX7_biggest 5 = .ok (.iconst 1, 1) := by decide +kernel
theorem dX7_biggest_6 : decode cX7_biggest 6 = .ok (.if_icmp .le 10, 3) := by decide +kernel
theorem dX7_biggest_9 : decode cX7_biggest 9 = .ok (.aload_n 0, 1) := by decide +kernel
theorem dX7_biggest_10 : decode cX7_biggest 10 = .ok (.bipush (-2), 2) := by decide +kernel
theorem dX7_biggest_12 : decode cX7_biggest 12 = .ok (.invokevirtual 124, 3) := by decide +kernel
theorem dX7_biggest_15 : decode cX7_biggest 15 = .ok (.ireturn, 1) := by decide +kernel
theorem dX7_biggest_16 : decode cX7_biggest 16 = .ok (.iconst 0, 1) := by decide +kernel
theorem dX7_biggest_17 : decode cX7_biggest 17 = .ok (.istore_n 2, 1) := by decide +kernel
theorem dX7_biggest_18 : decode cX7_biggest 18 = .ok (.bipush (-9), 2) := by decide +kernel
theorem dX7_biggest_20 : decode cX7_biggest 20 = .ok (.istore_n 3, 1) := by decide +kernel
theorem dX7_biggest_21 : decode cX7_biggest 21 = .ok (.aload_n 0, 1) := by decide +kernel
theorem dX7_biggest_22 : decode cX7_biggest 22 = .ok (.iconst 0, 1) := by decide +kernel
theorem dX7_biggest_23 : decode cX7_biggest 23 = .ok (.invokevirtual 171, 3) := by decide +kernel
theorem dX7_biggest_26 : decode cX7_biggest 26 = .ok (.iconst 0, 1) := by decide +kernel
theorem dX7_biggest_27 : decode cX7_biggest 27 = .ok (.istore 4, 2) := by decide +kernel
theorem dX7_biggest_29 : decode cX7_biggest 29 = .ok (.iload 4, 2) := by decide +kernel
theorem dX7_biggest_31 : decode cX7_biggest 31 = .ok (.aload_n 0, 1) := by decide +kernel
theorem dX7_biggest_32 : decode cX7_biggest 32 = .ok (.getfield 10, 3) := by decide +kernel
theorem dX7_biggest_35 : decode cX7_biggest 35 = .ok (.getfield 152, 3) := by decide +kernel
theorem dX7_biggest_38 : decode cX7_biggest 38 = .ok (.if_icmp .ge 61, 3) := by decide +kernel
theorem dX7_biggest_41 : decode cX7_biggest 41 = .ok (.aload_n 0, 1) := by decide +kernel
theorem dX7_biggest_42 : decode cX7_biggest 42 = .ok (.getfield 54, 3) := by decide +kernel
theorem dX7_biggest_45 : decode cX7_biggest 45 = .ok (.invokevirtual 183, 3) := by decide +kernel
theorem dX7_biggest_48 : decode cX7_biggest 48 = .ok (.istore 5, 2) := by decide +kernel
theorem dX7_biggest_50 : decode cX7_biggest 50 = .ok (.aload_n 0, 1) := by decide +kernel
theorem dX7_biggest_51 : decode cX7_biggest 51 = .ok (.getfield 10, 3) := by decide +kernel
theorem dX7_biggest_54 : decode cX7_biggest 54 = .ok (.iload 4, 2) := by decide +kernel
theorem dX7_biggest_56 : decode cX7_biggest 56 = .ok (.aload_n 0, 1) := by decide +kernel
theorem dX7_biggest_57 : decode cX7_biggest 57 = .ok (.getfield 54, 3) := by decide +kernel
theorem dX7_biggest_60 : decode cX7_biggest 60 = .ok (.invokevirtual 186, 3) := by decide +kernel
theorem dX7_biggest_63 : decode cX7_biggest 63 = .ok (.aload_n 0, 1) := by decide +kernel
theorem dX7_biggest_64 : decode cX7_biggest 64 = .ok (.getfield 54, 3) := by decide +kernel
theorem dX7_biggest_67 : decode cX7_biggest 67 = .ok (.invokevirtual 183, 3) := by decide +kernel
theorem dX7_biggest_70 : decode cX7_biggest 70 = .ok (.iload 5, 2) := by decide +kernel
theorem dX7_biggest_72 : decode cX7_biggest 72 = .ok (.isub, 1) := by decide +kernel
theorem dX7_biggest_73 : decode cX7_biggest 73 = .ok (.istore 6, 2) := by decide +kernel
theorem dX7_biggest_75 : decode cX7_biggest 75 = .ok (.iload 6, 2) := by decide +kernel
theorem dX7_biggest_77 : decode cX7_biggest 77 = .ok (.invokestatic 303, 3) := by decide +kernel
theorem dX7_biggest_80 : decode cX7_biggest 80 = .ok (.iload_n 2, 1) := by decide +kernel
theorem dX7_biggest_81 : decode cX7_biggest 81 = .ok (.invokestatic 303, 3) := by decide +kernel
theorem dX7_biggest_84 : decode cX7_biggest 84 = .ok (.if_icmp .le 9, 3) := by decide +kernel
theorem dX7_biggest_87 : decode cX7_biggest 87 = .ok (.iload 6, 2) := by decide +kernel
theorem dX7_biggest_89 : decode cX7_biggest 89 = .ok (.istore_n 2, 1) := by decide +kernel
theorem dX7_biggest_90 : decode cX7_biggest 90 = .ok (.iload 4, 2) := by decide +kernel
theorem dX7_biggest_92 : decode cX7_biggest 92 = .ok (.istore_n 3, 1) := by decide +kernel
theorem dX7_biggest_93 : decode cX7_biggest 93 = .ok (.iinc 4 1, 3) := by decide +kernel
theorem dX7_biggest_96 : decode cX7_biggest 96 = .ok (.goto (-67), 3) := by decide +kernel
theorem dX7_biggest_99 : decode cX7_biggest 99 = .ok (.iload_n 1, 1) := by decide +kernel
theorem dX7_biggest_100 : decode cX7_biggest 100 = .ok (.ifCond .ne 7, 3) := by decide +kernel
theorem dX7_biggest_103 : decode cX7_biggest 103 = .ok (.iload_n 3, 1) := by decide +kernel
theorem dX7_biggest_104 : decode cX7_biggest 104 = .ok (.goto 4, 3) := by decide +kernel
theorem dX7_biggest_107 : decode cX7_biggest 107 = .ok (.iload_n 2, 1) := by decide +kernel
theorem dX7_biggest_108 : decode cX7_biggest 108 = .ok (.ireturn, 1) := by decide +kernel
theorem dX7_swing_0 : decode cX7_swing 0 = .ok (.aload_n 0, 1) := by decide +kernel
theorem dX7_swing_1 : decode cX7_swing 1 = .ok (.invokevirtual 300, 3) := by decide +kernel
theorem dX7_swing_4 : decode cX7_swing 4 = .ok (.istore_n 1, 1) := by decide +kernel
theorem dX7_swing_5 : decode cX7_swing 5 = .ok (.iconst 0, 1) := by decide +kernel
theorem dX7_swing_6 : decode cX7_swing 6 = .ok (.istore_n 2, 1) := by decide +kernel
theorem dX7_swing_7 : decode cX7_swing 7 = .ok (.iconst 0, 1) := by decide +kernel
theorem dX7_swing_8 : decode cX7_swing 8 = .ok (.istore_n 3, 1) := by decide +kernel
theorem dX7_swing_9 : decode cX7_swing 9 = .ok (.iload_n 3, 1) := by decide +kernel
theorem dX7_swing_10 : decode cX7_swing 10 = .ok (.aload_n 0, 1) := by decide +kernel
theorem dX7_swing_11 : decode cX7_swing 11 = .ok (.getfield 10, 3) := by decide +kernel
theorem dX7_swing_14 : decode cX7_swing 14 = .ok (.getfield 118, 3) := by decide +kernel
theorem dX7_swing_17 : decode cX7_swing 17 = .ok (.getfield 155, 3) := by decide +kernel
theorem dX7_swing_20 : decode cX7_swing 20 = .ok (.if_icmp .ge 75, 3) := by decide +kernel
theorem dX7_swing_23 : decode cX7_swing 23 = .ok (.aload_n 0, 1) := by decide +kernel
theorem dX7_swing_24 : decode cX7_swing 24 = .ok (.getfield 54, 3) := by decide +kernel
theorem dX7_swing_27 : decode cX7_swing 27 = .ok (.aload_n 0, 1) := by decide +kernel
theorem dX7_swing_28 : decode cX7_swing 28 = .ok (.getfield 10, 3) := by decide +kernel
theorem dX7_swing_31 : decode cX7_swing 31 = .ok (.getfield 118, 3) := by decide +kernel
theorem dX7_swing_34 : decode cX7_swing 34 = .ok (.invokevirtual 236, 3) := by decide +kernel
theorem dX7_swing_37 : decode cX7_swing 37 = .ok (.aload_n 0, 1) := by decide +kernel
theorem dX7_swing_38 : decode cX7_swing 38 = .ok (.getfield 54, 3) := by decide +kernel
theorem dX7_swing_41 : decode cX7_swing 41 = .ok (.iload_n 3, 1) := by decide +kernel
theorem dX7_swing_42 : decode cX7_swing 42 = .ok (.aload_n 0, 1) := by decide +kernel
theorem dX7_swing_43 : decode cX7_swing 43 = .ok (.getfield 54, 3) := by decide +kernel
theorem dX7_swing_46 : decode cX7_swing 46 = .ok (.iload_n 3, 1) := by decide +kernel
theorem dX7_swing_47 : decode cX7_swing 47 = .ok (.invokevirtual 131, 3) := by decide +kernel
theorem dX7_swing_50 : decode cX7_swing 50 = .ok (.ineg, 1) := by decide +kernel
theorem dX7_swing_51 : decode cX7_swing 51 = .ok (.invokevirtual 138, 3) := by decide +kernel
theorem dX7_swing_54 : decode cX7_swing 54 = .ok (.aload_n 0, 1) := by decide +kernel
theorem dX7_swing_55 : decode cX7_swing 55 = .ok (.getfield 10, 3) := by decide +kernel
theorem dX7_swing_58 : decode cX7_swing 58 = .ok (.aload_n 0, 1) := by decide +kernel
theorem dX7_swing_59 : decode cX7_swing 59 = .ok (.getfield 54, 3) := by decide +kernel
theorem dX7_swing_62 : decode cX7_swing 62 = .ok (.aload_n 0, 1) := by decide +kernel
theorem dX7_swing_63 : decode cX7_swing 63 = .ok (.getfield 10, 3) := by decide +kernel
theorem dX7_swing_66 : decode cX7_swing 66 = .ok (.getfield 152, 3) := by decide +kernel
theorem dX7_swing_69 : decode cX7_swing 69 = .ok (.invokevirtual 269, 3) := by decide +kernel
theorem dX7_swing_72 : decode cX7_swing 72 = .ok (.aload_n 0, 1) := by decide +kernel
theorem dX7_swing_73 : decode cX7_swing 73 = .ok (.getfield 54, 3) := by decide +kernel
theorem dX7_swing_76 : decode cX7_swing 76 = .ok (.invokevirtual 175, 3) := by decide +kernel
theorem dX7_swing_79 : decode cX7_swing 79 = .ok (.iload_n 1, 1) := by decide +kernel
theorem dX7_swing_80 : decode cX7_swing 80 = .ok (.if_icmp .eq 9, 3) := by decide +kernel
theorem dX7_swing_83 : decode cX7_swing 83 = .ok (.iload_n 2, 1) := by decide +kernel
theorem dX7_swing_84 : decode cX7_swing 84 = .ok (.iconst 1, 1) := by decide +kernel
theorem dX7_swing_85 : decode cX7_swing 85 = .ok (.iload_n 3, 1) := by decide +kernel
theorem dX7_swing_86 : decode cX7_swing 86 = .ok (.ishl, 1) := by decide +kernel
theorem dX7_swing_87 : decode cX7_swing 87 = .ok (.ior, 1) := by decide +kernel
theorem dX7_swing_88 : decode cX7_swing 88 = .ok (.istore_n 2, 1) := by decide +kernel
theorem dX7_swing_89 : decode cX7_swing 89 = .ok (.iinc 3 1, 3) := by decide +kernel
theorem dX7_swing_92 : decode cX7_swing 92 = .ok (.goto (-83), 3) := by decide +kernel
theorem dX7_swing_95 : decode cX7_swing 95 = .ok (.iload_n 2, 1) := by decide +kernel
theorem dX7_swing_96 : decode cX7_swing 96 = .ok (.ireturn, 1) := by decide +kernel
theorem dX7_rounds_0 : decode cX7_rounds 0 = .ok (.iconst 0, 1) := by decide +kernel
theorem dX7_rounds_1 : decode cX7_rounds 1 = .ok (.istore_n 1, 1) := by decide +kernel
theorem dX7_rounds_2 : decode cX7_rounds 2 = .ok (.iconst 0, 1) := by decide +kernel
theorem dX7_rounds_3 : decode cX7_rounds 3 = .ok (.istore_n 2, 1) := by decide +kernel
theorem dX7_rounds_4 : decode cX7_rounds 4 = .ok (.iload_n 2, 1) := by decide +kernel
theorem dX7_rounds_5 : decode cX7_rounds 5 = .ok (.bipush 8, 2) := by decide +kernel
theorem dX7_rounds_7 : decode cX7_rounds 7 = .ok (.if_icmp .gt 45, 3) := by decide +kernel
theorem dX7_rounds_10 : decode cX7_rounds 10 = .ok (.aload_n 0, 1) := by decide +kernel
theorem dX7_rounds_11 : decode cX7_rounds 11 = .ok (.getfield 81, 3) := by decide +kernel
theorem dX7_rounds_14 : decode cX7_rounds 14 = .ok (.aload_n 0, 1) := by decide +kernel
theorem dX7_rounds_15 : decode cX7_rounds 15 = .ok (.getfield 10, 3) := by decide +kernel
theorem dX7_rounds_18 : decode cX7_rounds 18 = .ok (.iload_n 2, 1) := by decide +kernel
theorem dX7_rounds_19 : decode cX7_rounds 19 = .ok (.aload_n 0, 1) := by decide +kernel
theorem dX7_rounds_20 : decode cX7_rounds 20 = .ok (.getfield 54, 3) := by decide +kernel
theorem dX7_rounds_23 : decode cX7_rounds 23 = .ok (.aload_n 0, 1) := by decide +kernel
theorem dX7_rounds_24 : decode cX7_rounds 24 = .ok (.getfield 74, 3) := by decide +kernel
theorem dX7_rounds_27 : decode cX7_rounds 27 = .ok (.invokevirtual 198, 3) := by decide +kernel
theorem dX7_rounds_30 : decode cX7_rounds 30 = .ok (.aload_n 0, 1) := by decide +kernel
theorem dX7_rounds_31 : decode cX7_rounds 31 = .ok (.getfield 81, 3) := by decide +kernel
theorem dX7_rounds_34 : decode cX7_rounds 34 = .ok (.getfield 205, 3) := by decide +kernel
theorem dX7_rounds_37 : decode cX7_rounds 37 = .ok (.ifCond .eq 9, 3) := by decide +kernel
theorem dX7_rounds_40 : decode cX7_rounds 40 = .ok (.iload_n 1, 1) := by decide +kernel
theorem dX7_rounds_41 : decode cX7_rounds 41 = .ok (.iconst 1, 1) := by decide +kernel
theorem dX7_rounds_42 : decode cX7_rounds 42 = .ok (.iload_n 2, 1) := by decide +kernel
theorem dX7_rounds_43 : decode cX7_rounds 43 = .ok (.ishl, 1) := by decide +kernel
theorem dX7_rounds_44 : decode cX7_rounds 44 = .ok (.ior, 1) := by decide +kernel
theorem dX7_rounds_45 : decode cX7_rounds 45 = .ok (.istore_n 1, 1) := by decide +kernel
theorem dX7_rounds_46 : decode cX7_rounds 46 = .ok (.iinc 2 1, 3) := by decide +kernel
theorem dX7_rounds_49 : decode cX7_rounds 49 = .ok (.goto (-45), 3) := by decide +kernel
theorem dX7_rounds_52 : decode cX7_rounds 52 = .ok (.iload_n 1, 1) := by decide +kernel
theorem dX7_rounds_53 : decode cX7_rounds 53 = .ok (.ireturn, 1) := by decide +kernel
theorem dX7_worst_0 : decode cX7_worst 0 = .ok (.aload_n 0, 1) := by decide +kernel
theorem dX7_worst_1 : decode cX7_worst 1 = .ok (.getfield 10, 3) := by decide +kernel
theorem dX7_worst_4 : decode cX7_worst 4 = .ok (.iload_n 1, 1) := by decide +kernel
theorem dX7_worst_5 : decode cX7_worst 5 = .ok (.invokevirtual 105, 3) := by decide +kernel
theorem dX7_worst_8 : decode cX7_worst 8 = .ok (.ifCond .ne 9, 3) := by decide +kernel
theorem dX7_worst_11 : decode cX7_worst 11 = .ok (.aload_n 0, 1) := by decide +kernel
theorem dX7_worst_12 : decode cX7_worst 12 = .ok (.iconst (-1), 1) := by decide +kernel
theorem dX7_worst_13 : decode cX7_worst 13 = .ok (.invokevirtual 91, 3) := by decide +kernel
theorem dX7_worst_16 : decode cX7_worst 16 = .ok (.ireturn, 1) := by decide +kernel
theorem dX7_worst_17 : decode cX7_worst 17 = .ok (.iload_n 2, 1) := by decide +kernel
theorem dX7_worst_18 : decode cX7_worst 18 = .ok (.ifCond .lt 8, 3) := by decide +kernel
theorem dX7_worst_21 : decode cX7_worst 21 = .ok (.iload_n 2, 1) := by decide +kernel
theorem dX7_worst_22 : decode cX7_worst 22 = .ok (.iconst 1, 1) := by decide +kernel
theorem dX7_worst_23 : decode cX7_worst 23 = .ok (.if_icmp .le 10, 3) := by decide +kernel
theorem dX7_worst_26 : decode cX7_worst 26 = .ok (.aload_n 0, 1) := by decide +kernel
theorem dX7_worst_27 : decode cX7_worst 27 = .ok (.bipush (-2), 2) := by decide +kernel
theorem dX7_worst_29 : decode cX7_worst 29 = .ok (.invokevirtual 91, 3) := by decide +kernel
theorem dX7_worst_32 : decode cX7_worst 32 = .ok (.ireturn, 1) := by decide +kernel
theorem dX7_worst_33 : decode cX7_worst 33 = .ok (.iconst 0, 1) := by decide +kernel
theorem dX7_worst_34 : decode cX7_worst 34 = .ok (.istore_n 3, 1) := by decide +kernel
theorem dX7_worst_35 : decode cX7_worst 35 = .ok (.ldc 241, 2) := by decide +kernel
theorem dX7_worst_37 : decode cX7_worst 37 = .ok (.istore 4, 2) := by decide +kernel
theorem dX7_worst_39 : decode cX7_worst 39 = .ok (.iconst 0, 1) := by decide +kernel
theorem dX7_worst_40 : decode cX7_worst 40 = .ok (.istore 5, 2) := by decide +kernel
theorem dX7_worst_42 : decode cX7_worst 42 = .ok (.iload 5, 2) := by decide +kernel
theorem dX7_worst_44 : decode cX7_worst 44 = .ok (.bipush 6, 2) := by decide +kernel
theorem dX7_worst_46 : decode cX7_worst 46 = .ok (.if_icmp .ge 40, 3) := by decide +kernel
theorem dX7_worst_49 : decode cX7_worst 49 = .ok (.aload_n 0, 1) := by decide +kernel
theorem dX7_worst_50 : decode cX7_worst 50 = .ok (.iload_n 1, 1) := by decide +kernel
theorem dX7_worst_51 : decode cX7_worst 51 = .ok (.iload 5, 2) := by decide +kernel
theorem dX7_worst_53 : decode cX7_worst 53 = .ok (.invokevirtual 308, 3) := by decide +kernel
theorem dX7_worst_56 : decode cX7_worst 56 = .ok (.aload_n 0, 1) := by decide +kernel
theorem dX7_worst_57 : decode cX7_worst 57 = .ok (.getfield 54, 3) := by decide +kernel
theorem dX7_worst_60 : decode cX7_worst 60 = .ok (.invokevirtual 183, 3) := by decide +kernel
theorem dX7_worst_63 : decode cX7_worst 63 = .ok (.iload 4, 2) := by decide +kernel
theorem dX7_worst_65 : decode cX7_worst 65 = .ok (.if_icmp .ge 15, 3) := by decide +kernel
theorem dX7_worst_68 : decode cX7_worst 68 = .ok (.aload_n 0, 1) := by decide +kernel
theorem dX7_worst_69 : decode cX7_worst 69 = .ok (.getfield 54, 3) := by decide +kernel
theorem dX7_worst_72 : decode cX7_worst 72 = .ok (.invokevirtual 183, 3) := by decide +kernel
theorem dX7_worst_75 : decode cX7_worst 75 = .ok (.istore 4, 2) := by decide +kernel
theorem dX7_worst_77 : decode cX7_worst 77 = .ok (.iload 5, 2) := by decide +kernel
theorem dX7_worst_79 : decode cX7_worst 79 = .ok (.istore_n 3, 1) := by decide +kernel
theorem dX7_worst_80 : decode cX7_worst 80 = .ok (.iinc 5 1, 3) := by decide +kernel
theorem dX7_worst_83 : decode cX7_worst 83 = .ok (.goto (-41), 3) := by decide +kernel
theorem dX7_worst_86 : decode cX7_worst 86 = .ok (.iload_n 2, 1) := by decide +kernel
theorem dX7_worst_87 : decode cX7_worst 87 = .ok (.ifCond .ne 7, 3) := by decide +kernel
theorem dX7_worst_90 : decode cX7_worst 90 = .ok (.iload_n 3, 1) := by decide +kernel
theorem dX7_worst_91 : decode cX7_worst 91 = .ok (.goto 8, 3) := by decide +kernel
theorem dX7_worst_94 : decode cX7_worst 94 = .ok (.iload 4, 2) := by decide +kernel
theorem dX7_worst_96 : decode cX7_worst 96 = .ok (.bipush 100, 2) := by decide +kernel
theorem dX7_worst_98 : decode cX7_worst 98 = .ok (.iadd, 1) := by decide +kernel
theorem dX7_worst_99 : decode cX7_worst 99 = .ok (.ireturn, 1) := by decide +kernel
theorem dX7_same_0 : decode cX7_same 0 = .ok (.iconst 0, 1) := by decide +kernel
theorem dX7_same_1 : decode cX7_same 1 = .ok (.istore_n 1, 1) := by decide +kernel
theorem dX7_same_2 : decode cX7_same 2 = .ok (.iconst 0, 1) := by decide +kernel
theorem dX7_same_3 : decode cX7_same 3 = .ok (.istore_n 2, 1) := by decide +kernel
theorem dX7_same_4 : decode cX7_same 4 = .ok (.iload_n 2, 1) := by decide +kernel
theorem dX7_same_5 : decode cX7_same 5 = .ok (.aload_n 0, 1) := by decide +kernel
theorem dX7_same_6 : decode cX7_same 6 = .ok (.getfield 10, 3) := by decide +kernel
theorem dX7_same_9 : decode cX7_same 9 = .ok (.getfield 152, 3) := by decide +kernel
theorem dX7_same_12 : decode cX7_same 12 = .ok (.if_icmp .ge 99, 3) := by decide +kernel
theorem dX7_same_15 : decode cX7_same 15 = .ok (.iload_n 2, 1) := by decide +kernel
theorem dX7_same_16 : decode cX7_same 16 = .ok (.iconst 1, 1) := by decide +kernel
theorem dX7_same_17 : decode cX7_same 17 = .ok (.iadd, 1) := by decide +kernel
theorem dX7_same_18 : decode cX7_same 18 = .ok (.istore_n 3, 1) := by decide +kernel
theorem dX7_same_19 : decode cX7_same 19 = .ok (.iload_n 3, 1) := by decide +kernel
theorem dX7_same_20 : decode cX7_same 20 = .ok (.aload_n 0, 1) := by decide +kernel
theorem dX7_same_21 : decode cX7_same 21 = .ok (.getfield 10, 3) := by decide +kernel
theorem dX7_same_24 : decode cX7_same 24 = .ok (.getfield 152, 3) := by decide +kernel
theorem dX7_same_27 : decode cX7_same 27 = .ok (.if_icmp .ge 78, 3) := by decide +kernel
theorem dX7_same_30 : decode cX7_same 30 = .ok (.aload_n 0, 1) := by decide +kernel
theorem dX7_same_31 : decode cX7_same 31 = .ok (.getfield 54, 3) := by decide +kernel
theorem dX7_same_34 : decode cX7_same 34 = .ok (.aload_n 0, 1) := by decide +kernel
theorem dX7_same_35 : decode cX7_same 35 = .ok (.getfield 10, 3) := by decide +kernel
theorem dX7_same_38 : decode cX7_same 38 = .ok (.getfield 118, 3) := by decide +kernel
theorem dX7_same_41 : decode cX7_same 41 = .ok (.invokevirtual 236, 3) := by decide +kernel
theorem dX7_same_44 : decode cX7_same 44 = .ok (.aload_n 0, 1) := by decide +kernel
theorem dX7_same_45 : decode cX7_same 45 = .ok (.getfield 61, 3) := by decide +kernel
theorem dX7_same_48 : decode cX7_same 48 = .ok (.aload_n 0, 1) := by decide +kernel
theorem dX7_same_49 : decode cX7_same 49 = .ok (.getfield 10, 3) := by decide +kernel
theorem dX7_same_52 : decode cX7_same 52 = .ok (.getfield 118, 3) := by decide +kernel
theorem dX7_same_55 : decode cX7_same 55 = .ok (.invokevirtual 236, 3) := by decide +kernel
theorem dX7_same_58 : decode cX7_same 58 = .ok (.aload_n 0, 1) := by decide +kernel
theorem dX7_same_59 : decode cX7_same 59 = .ok (.getfield 10, 3) := by decide +kernel
theorem dX7_same_62 : decode cX7_same 62 = .ok (.iload_n 2, 1) := by decide +kernel
theorem dX7_same_63 : decode cX7_same 63 = .ok (.aload_n 0, 1) := by decide +kernel
theorem dX7_same_64 : decode cX7_same 64 = .ok (.getfield 54, 3) := by decide +kernel
theorem dX7_same_67 : decode cX7_same 67 = .ok (.invokevirtual 186, 3) := by decide +kernel
theorem dX7_same_70 : decode cX7_same 70 = .ok (.aload_n 0, 1) := by decide +kernel
theorem dX7_same_71 : decode cX7_same 71 = .ok (.getfield 10, 3) := by decide +kernel
theorem dX7_same_74 : decode cX7_same 74 = .ok (.iload_n 3, 1) := by decide +kernel
theorem dX7_same_75 : decode cX7_same 75 = .ok (.aload_n 0, 1) := by decide +kernel
theorem dX7_same_76 : decode cX7_same 76 = .ok (.getfield 61, 3) := by decide +kernel
theorem dX7_same_79 : decode cX7_same 79 = .ok (.invokevirtual 186, 3) := by decide +kernel
theorem dX7_same_82 : decode cX7_same 82 = .ok (.aload_n 0, 1) := by decide +kernel
theorem dX7_same_83 : decode cX7_same 83 = .ok (.getfield 54, 3) := by decide +kernel
theorem dX7_same_86 : decode cX7_same 86 = .ok (.aload_n 0, 1) := by decide +kernel
theorem dX7_same_87 : decode cX7_same 87 = .ok (.getfield 61, 3) := by decide +kernel
theorem dX7_same_90 : decode cX7_same 90 = .ok (.invokevirtual 265, 3) := by decide +kernel
theorem dX7_same_93 : decode cX7_same 93 = .ok (.ifCond .eq 6, 3) := by decide +kernel
theorem dX7_same_96 : decode cX7_same 96 = .ok (.iinc 1 1, 3) := by decide +kernel
theorem dX7_same_99 : decode cX7_same 99 = .ok (.iinc 3 1, 3) := by decide +kernel
theorem dX7_same_102 : decode cX7_same 102 = .ok (.goto (-83), 3) := by decide +kernel
theorem dX7_same_105 : decode cX7_same 105 = .ok (.iinc 2 1, 3) := by decide +kernel
theorem dX7_same_108 : decode cX7_same 108 = .ok (.goto (-104), 3) := by decide +kernel
theorem dX7_same_111 : decode cX7_same 111 = .ok (.iload_n 1, 1) := by decide +kernel
theorem dX7_same_112 : decode cX7_same 112 = .ok (.ireturn, 1) := by decide +kernel
theorem dX7_dead_0 : decode cX7_dead 0 = .ok (.iconst 0, 1) := by decide +kernel
theorem dX7_dead_1 : decode cX7_dead 1 = .ok (.istore_n 1, 1) := by decide +kernel
theorem dX7_dead_2 : decode cX7_dead 2 = .ok (.aload_n 0, 1) := by decide +kernel
theorem dX7_dead_3 : decode cX7_dead 3 = .ok (.iconst 0, 1) := by decide +kernel
theorem dX7_dead_4 : decode cX7_dead 4 = .ok (.invokevirtual 171, 3) := by decide +kernel
theorem dX7_dead_7 : decode cX7_dead 7 = .ok (.iconst 0, 1) := by decide +kernel
theorem dX7_dead_8 : decode cX7_dead 8 = .ok (.istore_n 2, 1) := by decide +kernel
theorem dX7_dead_9 : decode cX7_dead 9 = .ok (.iload_n 2, 1) := by decide +kernel
theorem dX7_dead_10 : decode cX7_dead 10 = .ok (.aload_n 0, 1) := by decide +kernel
theorem dX7_dead_11 : decode cX7_dead 11 = .ok (.getfield 10, 3) := by decide +kernel
theorem dX7_dead_14 : decode cX7_dead 14 = .ok (.getfield 152, 3) := by decide +kernel
theorem dX7_dead_17 : decode cX7_dead 17 = .ok (.if_icmp .ge 21, 3) := by decide +kernel
theorem dX7_dead_20 : decode cX7_dead 20 = .ok (.aload_n 0, 1) := by decide +kernel
theorem dX7_dead_21 : decode cX7_dead 21 = .ok (.iload_n 2, 1) := by decide +kernel
theorem dX7_dead_22 : decode cX7_dead 22 = .ok (.invokevirtual 311, 3) := by decide +kernel
theorem dX7_dead_25 : decode cX7_dead 25 = .ok (.ifCond .eq 7, 3) := by decide +kernel
theorem dX7_dead_28 : decode cX7_dead 28 = .ok (.iload_n 2, 1) := by decide +kernel
theorem dX7_dead_29 : decode cX7_dead 29 = .ok (.iconst 1, 1) := by decide +kernel
theorem dX7_dead_30 : decode cX7_dead 30 = .ok (.iadd, 1) := by decide +kernel
theorem dX7_dead_31 : decode cX7_dead 31 = .ok (.istore_n 1, 1) := by decide +kernel
theorem dX7_dead_32 : decode cX7_dead 32 = .ok (.iinc 2 1, 3) := by decide +kernel
theorem dX7_dead_35 : decode cX7_dead 35 = .ok (.goto (-26), 3) := by decide +kernel
theorem dX7_dead_38 : decode cX7_dead 38 = .ok (.iload_n 1, 1) := by decide +kernel
theorem dX7_dead_39 : decode cX7_dead 39 = .ok (.aload_n 0, 1) := by decide +kernel
theorem dX7_dead_40 : decode cX7_dead 40 = .ok (.getfield 10, 3) := by decide +kernel
theorem dX7_dead_43 : decode cX7_dead 43 = .ok (.getfield 152, 3) := by decide +kernel
theorem dX7_dead_46 : decode cX7_dead 46 = .ok (.if_icmp .ge 7, 3) := by decide +kernel
theorem dX7_dead_49 : decode cX7_dead 49 = .ok (.iload_n 1, 1) := by decide +kernel
theorem dX7_dead_50 : decode cX7_dead 50 = .ok (.goto 5, 3) := by decide +kernel
theorem dX7_dead_53 : decode cX7_dead 53 = .ok (.bipush (-9), 2) := by decide +kernel
theorem dX7_dead_55 : decode cX7_dead 55 = .ok (.ireturn, 1) := by decide +kernel
theorem dX7_flip_0 : decode cX7_flip 0 = .ok (.iload_n 1, 1) := by decide +kernel
theorem dX7_flip_1 : decode cX7_flip 1 = .ok (.ifCond .lt 8, 3) := by decide +kernel
theorem dX7_flip_4 : decode cX7_flip 4 = .ok (.iload_n 1, 1) := by decide +kernel
theorem dX7_flip_5 : decode cX7_flip 5 = .ok (.iconst 1, 1) := by decide +kernel
theorem dX7_flip_6 : decode cX7_flip 6 = .ok (.if_icmp .le 10, 3) := by decide +kernel
theorem dX7_flip_9 : decode cX7_flip 9 = .ok (.aload_n 0, 1) := by decide +kernel
theorem dX7_flip_10 : decode cX7_flip 10 = .ok (.bipush (-2), 2) := by decide +kernel
theorem dX7_flip_12 : decode cX7_flip 12 = .ok (.invokevirtual 91, 3) := by decide +kernel
theorem dX7_flip_15 : decode cX7_flip 15 = .ok (.ireturn, 1) := by decide +kernel
theorem dX7_flip_16 : decode cX7_flip 16 = .ok (.aload_n 0, 1) := by decide +kernel
theorem dX7_flip_17 : decode cX7_flip 17 = .ok (.invokevirtual 314, 3) := by decide +kernel
theorem dX7_flip_20 : decode cX7_flip 20 = .ok (.istore_n 2, 1) := by decide +kernel
theorem dX7_flip_21 : decode cX7_flip 21 = .ok (.iload_n 1, 1) := by decide +kernel
theorem dX7_flip_22 : decode cX7_flip 22 = .ok (.iconst 1, 1) := by decide +kernel
theorem dX7_flip_23 : decode cX7_flip 23 = .ok (.if_icmp .eq 9, 3) := by decide +kernel
theorem dX7_flip_26 : decode cX7_flip 26 = .ok (.iload_n 2, 1) := by decide +kernel
theorem dX7_flip_27 : decode cX7_flip 27 = .ok (.bipush (-9), 2) := by decide +kernel
theorem dX7_flip_29 : decode cX7_flip 29 = .ok (.if_icmp .ne 7, 3) := by decide +kernel
theorem dX7_flip_32 : decode cX7_flip 32 = .ok (.iload_n 2, 1) := by decide +kernel
theorem dX7_flip_33 : decode cX7_flip 33 = .ok (.goto 7, 3) := by decide +kernel
theorem dX7_flip_36 : decode cX7_flip 36 = .ok (.iload_n 2, 1) := by decide +kernel
theorem dX7_flip_37 : decode cX7_flip 37 = .ok (.invokestatic 231, 3) := by decide +kernel
theorem dX7_flip_40 : decode cX7_flip 40 = .ok (.ireturn, 1) := by decide +kernel
theorem dX7_margin_0 : decode cX7_margin 0 = .ok (.aload_n 0, 1) := by decide +kernel
theorem dX7_margin_1 : decode cX7_margin 1 = .ok (.invokevirtual 300, 3) := by decide +kernel
theorem dX7_margin_4 : decode cX7_margin 4 = .ok (.istore_n 1, 1) := by decide +kernel
theorem dX7_margin_5 : decode cX7_margin 5 = .ok (.iconst 2, 1) := by decide +kernel
theorem dX7_margin_6 : decode cX7_margin 6 = .ok (.aload_n 0, 1) := by decide +kernel
theorem dX7_margin_7 : decode cX7_margin 7 = .ok (.getfield 10, 3) := by decide +kernel
theorem dX7_margin_10 : decode cX7_margin 10 = .ok (.getfield 118, 3) := by decide +kernel
theorem dX7_margin_13 : decode cX7_margin 13 = .ok (.getfield 155, 3) := by decide +kernel
theorem dX7_margin_16 : decode cX7_margin 16 = .ok (.imul, 1) := by decide +kernel
theorem dX7_margin_17 : decode cX7_margin 17 = .ok (.istore_n 2, 1) := by decide +kernel
theorem dX7_margin_18 : decode cX7_margin 18 = .ok (.iconst 1, 1) := by decide +kernel
theorem dX7_margin_19 : decode cX7_margin 19 = .ok (.istore_n 3, 1) := by decide +kernel
theorem dX7_margin_20 : decode cX7_margin 20 = .ok (.iconst 1, 1) := by decide +kernel
theorem dX7_margin_21 : decode cX7_margin 21 = .ok (.istore 4, 2) := by decide +kernel
theorem dX7_margin_23 : decode cX7_margin 23 = .ok (.iload 4, 2) := by decide +kernel
theorem dX7_margin_25 : decode cX7_margin 25 = .ok (.iconst 3, 1) := by decide +kernel
theorem dX7_margin_26 : decode cX7_margin 26 = .ok (.if_icmp .gt 74, 3) := by decide +kernel
theorem dX7_margin_29 : decode cX7_margin 29 = .ok (.iload_n 3, 1) := by decide +kernel
theorem dX7_margin_30 : decode cX7_margin 30 = .ok (.iload_n 2, 1) := by decide +kernel
theorem dX7_margin_31 : decode cX7_margin 31 = .ok (.imul, 1) := by decide +kernel
theorem dX7_margin_32 : decode cX7_margin 32 = .ok (.istore_n 3, 1) := by decide +kernel
theorem dX7_margin_33 : decode cX7_margin 33 = .ok (.iconst 0, 1) := by decide +kernel
theorem dX7_margin_34 : decode cX7_margin 34 = .ok (.istore 5, 2) := by decide +kernel
theorem dX7_margin_36 : decode cX7_margin 36 = .ok (.iload 5, 2) := by decide +kernel
theorem dX7_margin_38 : decode cX7_margin 38 = .ok (.iload_n 3, 1) := by decide +kernel
theorem dX7_margin_39 : decode cX7_margin 39 = .ok (.if_icmp .ge 55, 3) := by decide +kernel
theorem dX7_margin_42 : decode cX7_margin 42 = .ok (.aload_n 0, 1) := by decide +kernel
theorem dX7_margin_43 : decode cX7_margin 43 = .ok (.iload 5, 2) := by decide +kernel
theorem dX7_margin_45 : decode cX7_margin 45 = .ok (.iload 4, 2) := by decide +kernel
theorem dX7_margin_47 : decode cX7_margin 47 = .ok (.invokevirtual 317, 3) := by decide +kernel
theorem dX7_margin_50 : decode cX7_margin 50 = .ok (.ifCond .ne 6, 3) := by decide +kernel
theorem dX7_margin_53 : decode cX7_margin 53 = .ok (.goto 35, 3) := by decide +kernel
theorem dX7_margin_56 : decode cX7_margin 56 = .ok (.aload_n 0, 1) := by decide +kernel
theorem dX7_margin_57 : decode cX7_margin 57 = .ok (.getfield 10, 3) := by decide +kernel
theorem dX7_margin_60 : decode cX7_margin 60 = .ok (.aload_n 0, 1) := by decide +kernel
theorem dX7_margin_61 : decode cX7_margin 61 = .ok (.getfield 54, 3) := by decide +kernel
theorem dX7_margin_64 : decode cX7_margin 64 = .ok (.aload_n 0, 1) := by decide +kernel
theorem dX7_margin_65 : decode cX7_margin 65 = .ok (.getfield 10, 3) := by decide +kernel
theorem dX7_margin_68 : decode cX7_margin 68 = .ok (.getfield 152, 3) := by decide +kernel
theorem dX7_margin_71 : decode cX7_margin 71 = .ok (.invokevirtual 269, 3) := by decide +kernel
theorem dX7_margin_74 : decode cX7_margin 74 = .ok (.aload_n 0, 1) := by decide +kernel
theorem dX7_margin_75 : decode cX7_margin 75 = .ok (.getfield 54, 3) := by decide +kernel
theorem dX7_margin_78 : decode cX7_margin 78 = .ok (.invokevirtual 175, 3) := by decide +kernel
theorem dX7_margin_81 : decode cX7_margin 81 = .ok (.iload_n 1, 1) := by decide +kernel
theorem dX7_margin_82 : decode cX7_margin 82 = .ok (.if_icmp .eq 6, 3) := by decide +kernel
theorem dX7_margin_85 : decode cX7_margin 85 = .ok (.iload 4, 2) := by decide +kernel
theorem dX7_margin_87 : decode cX7_margin 87 = .ok (.ireturn, 1) := by decide +kernel
theorem dX7_margin_88 : decode cX7_margin 88 = .ok (.iinc 5 1, 3) := by decide +kernel
theorem dX7_margin_91 : decode cX7_margin 91 = .ok (.goto (-55), 3) := by decide +kernel
theorem dX7_margin_94 : decode cX7_margin 94 = .ok (.iinc 4 1, 3) := by decide +kernel
theorem dX7_margin_97 : decode cX7_margin 97 = .ok (.goto (-74), 3) := by decide +kernel
theorem dX7_margin_100 : decode cX7_margin 100 = .ok (.bipush (-9), 2) := by decide +kernel
theorem dX7_margin_102 : decode cX7_margin 102 = .ok (.ireturn, 1) := by decide +kernel
theorem dX7_beats_0 : decode cX7_beats 0 = .ok (.aload_n 0, 1) := by decide +kernel
theorem dX7_beats_1 : decode cX7_beats 1 = .ok (.aload_n 0, 1) := by decide +kernel
theorem dX7_beats_2 : decode cX7_beats 2 = .ok (.getfield 10, 3) := by decide +kernel
theorem dX7_beats_5 : decode cX7_beats 5 = .ok (.getfield 118, 3) := by decide +kernel
theorem dX7_beats_8 : decode cX7_beats 8 = .ok (.getfield 155, 3) := by decide +kernel
theorem dX7_beats_11 : decode cX7_beats 11 = .ok (.invokevirtual 255, 3) := by decide +kernel
theorem dX7_beats_14 : decode cX7_beats 14 = .ok (.ifCond .ne 10, 3) := by decide +kernel
theorem dX7_beats_17 : decode cX7_beats 17 = .ok (.aload_n 0, 1) := by decide +kernel
theorem dX7_beats_18 : decode cX7_beats 18 = .ok (.bipush (-3), 2) := by decide +kernel
theorem dX7_beats_20 : decode cX7_beats 20 = .ok (.invokevirtual 91, 3) := by decide +kernel
theorem dX7_beats_23 : decode cX7_beats 23 = .ok (.ireturn, 1) := by decide +kernel
theorem dX7_beats_24 : decode cX7_beats 24 = .ok (.aload_n 0, 1) := by decide +kernel
theorem dX7_beats_25 : decode cX7_beats 25 = .ok (.aload_n 0, 1) := by decide +kernel
theorem dX7_beats_26 : decode cX7_beats 26 = .ok (.getfield 61, 3) := by decide +kernel
theorem dX7_beats_29 : decode cX7_beats 29 = .ok (.iconst 0, 1) := by decide +kernel
theorem dX7_beats_30 : decode cX7_beats 30 = .ok (.iconst 1, 1) := by decide +kernel
theorem dX7_beats_31 : decode cX7_beats 31 = .ok (.invokevirtual 258, 3) := by decide +kernel
theorem dX7_beats_34 : decode cX7_beats 34 = .ok (.aload_n 0, 1) := by decide +kernel
theorem dX7_beats_35 : decode cX7_beats 35 = .ok (.getfield 10, 3) := by decide +kernel
theorem dX7_beats_38 : decode cX7_beats 38 = .ok (.aload_n 0, 1) := by decide +kernel
theorem dX7_beats_39 : decode cX7_beats 39 = .ok (.getfield 61, 3) := by decide +kernel
theorem dX7_beats_42 : decode cX7_beats 42 = .ok (.aload_n 0, 1) := by decide +kernel
theorem dX7_beats_43 : decode cX7_beats 43 = .ok (.getfield 10, 3) := by decide +kernel
theorem dX7_beats_46 : decode cX7_beats 46 = .ok (.getfield 152, 3) := by decide +kernel
theorem dX7_beats_49 : decode cX7_beats 49 = .ok (.invokevirtual 269, 3) := by decide +kernel
theorem dX7_beats_52 : decode cX7_beats 52 = .ok (.aload_n 0, 1) := by decide +kernel
theorem dX7_beats_53 : decode cX7_beats 53 = .ok (.aload_n 0, 1) := by decide +kernel
theorem dX7_beats_54 : decode cX7_beats 54 = .ok (.getfield 10, 3) := by decide +kernel
theorem dX7_beats_57 : decode cX7_beats 57 = .ok (.getfield 152, 3) := by decide +kernel
theorem dX7_beats_60 : decode cX7_beats 60 = .ok (.invokevirtual 171, 3) := by decide +kernel
theorem dX7_beats_63 : decode cX7_beats 63 = .ok (.aload_n 0, 1) := by decide +kernel
theorem dX7_beats_64 : decode cX7_beats 64 = .ok (.getfield 61, 3) := by decide +kernel
theorem dX7_beats_67 : decode cX7_beats 67 = .ok (.invokevirtual 183, 3) := by decide +kernel
theorem dX7_beats_70 : decode cX7_beats 70 = .ok (.aload_n 0, 1) := by decide +kernel
theorem dX7_beats_71 : decode cX7_beats 71 = .ok (.getfield 54, 3) := by decide +kernel
theorem dX7_beats_74 : decode cX7_beats 74 = .ok (.invokevirtual 183, 3) := by decide +kernel
theorem dX7_beats_77 : decode cX7_beats 77 = .ok (.if_icmp .le 7, 3) := by decide +kernel
theorem dX7_beats_80 : decode cX7_beats 80 = .ok (.iconst 1, 1) := by decide +kernel
theorem dX7_beats_81 : decode cX7_beats 81 = .ok (.goto 4, 3) := by decide +kernel
theorem dX7_beats_84 : decode cX7_beats 84 = .ok (.iconst 0, 1) := by decide +kernel
theorem dX7_beats_85 : decode cX7_beats 85 = .ok (.invokestatic 179, 3) := by decide +kernel
theorem dX7_beats_88 : decode cX7_beats 88 = .ok (.ireturn, 1) := by decide +kernel
theorem dX7_commute_0 : decode cX7_commute 0 = .ok (.aload_n 0, 1) := by decide +kernel
theorem dX7_commute_1 : decode cX7_commute 1 = .ok (.getfield 10, 3) := by decide +kernel
theorem dX7_commute_4 : decode cX7_commute 4 = .ok (.iload_n 1, 1) := by decide +kernel
theorem dX7_commute_5 : decode cX7_commute 5 = .ok (.invokevirtual 105, 3) := by decide +kernel
theorem dX7_commute_8 : decode cX7_commute 8 = .ok (.ifCond .eq 19, 3) := by decide +kernel
theorem dX7_commute_11 : decode cX7_commute 11 = .ok (.aload_n 0, 1) := by decide +kernel
theorem dX7_commute_12 : decode cX7_commute 12 = .ok (.getfield 10, 3) := by decide +kernel
theorem dX7_commute_15 : decode cX7_commute 15 = .ok (.iload_n 2, 1) := by decide +kernel
theorem dX7_commute_16 : decode cX7_commute 16 = .ok (.invokevirtual 105, 3) := by decide +kernel
theorem dX7_commute_19 : decode cX7_commute 19 = .ok (.ifCond .eq 8, 3) := by decide +kernel
theorem dX7_commute_22 : decode cX7_commute 22 = .ok (.iload_n 1, 1) := by decide +kernel
theorem dX7_commute_23 : decode cX7_commute 23 = .ok (.iload_n 2, 1) := by decide +kernel
theorem dX7_commute_24 : decode cX7_commute 24 = .ok (.if_icmp .ne 9, 3) := by decide +kernel
theorem dX7_commute_27 : decode cX7_commute 27 = .ok (.aload_n 0, 1) := by decide +kernel
theorem dX7_commute_28 : decode cX7_commute 28 = .ok (.iconst (-1), 1) := by decide +kernel
theorem dX7_commute_29 : decode cX7_commute 29 = .ok (.invokevirtual 91, 3) := by decide +kernel
theorem dX7_commute_32 : decode cX7_commute 32 = .ok (.ireturn, 1) := by decide +kernel
theorem dX7_commute_33 : decode cX7_commute 33 = .ok (.aload_n 0, 1) := by decide +kernel
theorem dX7_commute_34 : decode cX7_commute 34 = .ok (.getfield 54, 3) := by decide +kernel
theorem dX7_commute_37 : decode cX7_commute 37 = .ok (.aload_n 0, 1) := by decide +kernel
theorem dX7_commute_38 : decode cX7_commute 38 = .ok (.getfield 10, 3) := by decide +kernel
theorem dX7_commute_41 : decode cX7_commute 41 = .ok (.getfield 118, 3) := by decide +kernel
theorem dX7_commute_44 : decode cX7_commute 44 = .ok (.invokevirtual 236, 3) := by decide +kernel
theorem dX7_commute_47 : decode cX7_commute 47 = .ok (.aload_n 0, 1) := by decide +kernel
theorem dX7_commute_48 : decode cX7_commute 48 = .ok (.getfield 58, 3) := by decide +kernel
theorem dX7_commute_51 : decode cX7_commute 51 = .ok (.aload_n 0, 1) := by decide +kernel
theorem dX7_commute_52 : decode cX7_commute 52 = .ok (.getfield 10, 3) := by decide +kernel
theorem dX7_commute_55 : decode cX7_commute 55 = .ok (.getfield 118, 3) := by decide +kernel
theorem dX7_commute_58 : decode cX7_commute 58 = .ok (.invokevirtual 236, 3) := by decide +kernel
theorem dX7_commute_61 : decode cX7_commute 61 = .ok (.aload_n 0, 1) := by decide +kernel
theorem dX7_commute_62 : decode cX7_commute 62 = .ok (.getfield 10, 3) := by decide +kernel
theorem dX7_commute_65 : decode cX7_commute 65 = .ok (.iload_n 1, 1) := by decide +kernel
theorem dX7_commute_66 : decode cX7_commute 66 = .ok (.aload_n 0, 1) := by decide +kernel
theorem dX7_commute_67 : decode cX7_commute 67 = .ok (.getfield 54, 3) := by decide +kernel
theorem dX7_commute_70 : decode cX7_commute 70 = .ok (.invokevirtual 186, 3) := by decide +kernel
theorem dX7_commute_73 : decode cX7_commute 73 = .ok (.aload_n 0, 1) := by decide +kernel
theorem dX7_commute_74 : decode cX7_commute 74 = .ok (.getfield 10, 3) := by decide +kernel
theorem dX7_commute_77 : decode cX7_commute 77 = .ok (.iload_n 2, 1) := by decide +kernel
theorem dX7_commute_78 : decode cX7_commute 78 = .ok (.aload_n 0, 1) := by decide +kernel
theorem dX7_commute_79 : decode cX7_commute 79 = .ok (.getfield 54, 3) := by decide +kernel
theorem dX7_commute_82 : decode cX7_commute 82 = .ok (.invokevirtual 186, 3) := by decide +kernel
theorem dX7_commute_85 : decode cX7_commute 85 = .ok (.aload_n 0, 1) := by decide +kernel
theorem dX7_commute_86 : decode cX7_commute 86 = .ok (.getfield 10, 3) := by decide +kernel
theorem dX7_commute_89 : decode cX7_commute 89 = .ok (.iload_n 2, 1) := by decide +kernel
theorem dX7_commute_90 : decode cX7_commute 90 = .ok (.aload_n 0, 1) := by decide +kernel
theorem dX7_commute_91 : decode cX7_commute 91 = .ok (.getfield 58, 3) := by decide +kernel
theorem dX7_commute_94 : decode cX7_commute 94 = .ok (.invokevirtual 186, 3) := by decide +kernel
theorem dX7_commute_97 : decode cX7_commute 97 = .ok (.aload_n 0, 1) := by decide +kernel
theorem dX7_commute_98 : decode cX7_commute 98 = .ok (.getfield 10, 3) := by decide +kernel
theorem dX7_commute_101 : decode cX7_commute 101 = .ok (.iload_n 1, 1) := by decide +kernel
theorem dX7_commute_102 : decode cX7_commute 102 = .ok (.aload_n 0, 1) := by decide +kernel
theorem dX7_commute_103 : decode cX7_commute 103 = .ok (.getfield 58, 3) := by decide +kernel
theorem dX7_commute_106 : decode cX7_commute 106 = .ok (.invokevirtual 186, 3) := by decide +kernel
theorem dX7_commute_109 : decode cX7_commute 109 = .ok (.aload_n 0, 1) := by decide +kernel
theorem dX7_commute_110 : decode cX7_commute 110 = .ok (.getfield 54, 3) := by decide +kernel
theorem dX7_commute_113 : decode cX7_commute 113 = .ok (.aload_n 0, 1) := by decide +kernel
theorem dX7_commute_114 : decode cX7_commute 114 = .ok (.getfield 58, 3) := by decide +kernel
theorem dX7_commute_117 : decode cX7_commute 117 = .ok (.invokevirtual 265, 3) := by decide +kernel
theorem dX7_commute_120 : decode cX7_commute 120 = .ok (.invokestatic 179, 3) := by decide +kernel
theorem dX7_commute_123 : decode cX7_commute 123 = .ok (.ireturn, 1) := by decide +kernel
theorem dX7_again_0 : decode cX7_again 0 = .ok (.aload_n 0, 1) := by decide +kernel
theorem dX7_again_1 : decode cX7_again 1 = .ok (.getfield 10, 3) := by decide +kernel
theorem dX7_again_4 : decode cX7_again 4 = .ok (.iload_n 1, 1) := by decide +kernel
theorem dX7_again_5 : decode cX7_again 5 = .ok (.invokevirtual 105, 3) := by decide +kernel
theorem dX7_again_8 : decode cX7_again 8 = .ok (.ifCond .ne 9, 3) := by decide +kernel
theorem dX7_again_11 : decode cX7_again 11 = .ok (.aload_n 0, 1) := by decide +kernel
theorem dX7_again_12 : decode cX7_again 12 = .ok (.iconst (-1), 1) := by decide +kernel
theorem dX7_again_13 : decode cX7_again 13 = .ok (.invokevirtual 91, 3) := by decide +kernel
theorem dX7_again_16 : decode cX7_again 16 = .ok (.ireturn, 1) := by decide +kernel
theorem dX7_again_17 : decode cX7_again 17 = .ok (.iload_n 2, 1) := by decide +kernel
theorem dX7_again_18 : decode cX7_again 18 = .ok (.ifCond .lt 8, 3) := by decide +kernel
theorem dX7_again_21 : decode cX7_again 21 = .ok (.iload_n 2, 1) := by decide +kernel
theorem dX7_again_22 : decode cX7_again 22 = .ok (.iconst 1, 1) := by decide +kernel
theorem dX7_again_23 : decode cX7_again 23 = .ok (.if_icmp .le 10, 3) := by decide +kernel
theorem dX7_again_26 : decode cX7_again 26 = .ok (.aload_n 0, 1) := by decide +kernel
theorem dX7_again_27 : decode cX7_again 27 = .ok (.bipush (-2), 2) := by decide +kernel
theorem dX7_again_29 : decode cX7_again 29 = .ok (.invokevirtual 91, 3) := by decide +kernel
theorem dX7_again_32 : decode cX7_again 32 = .ok (.ireturn, 1) := by decide +kernel
theorem dX7_again_33 : decode cX7_again 33 = .ok (.aload_n 0, 1) := by decide +kernel
theorem dX7_again_34 : decode cX7_again 34 = .ok (.iconst 0, 1) := by decide +kernel
theorem dX7_again_35 : decode cX7_again 35 = .ok (.invokevirtual 171, 3) := by decide +kernel
theorem dX7_again_38 : decode cX7_again 38 = .ok (.aload_n 0, 1) := by decide +kernel
theorem dX7_again_39 : decode cX7_again 39 = .ok (.getfield 74, 3) := by decide +kernel
theorem dX7_again_42 : decode cX7_again 42 = .ok (.iconst 0, 1) := by decide +kernel
theorem dX7_again_43 : decode cX7_again 43 = .ok (.putfield 320, 3) := by decide +kernel
theorem dX7_again_46 : decode cX7_again 46 = .ok (.aload_n 0, 1) := by decide +kernel
theorem dX7_again_47 : decode cX7_again 47 = .ok (.getfield 74, 3) := by decide +kernel
theorem dX7_again_50 : decode cX7_again 50 = .ok (.aload_n 0, 1) := by decide +kernel
theorem dX7_again_51 : decode cX7_again 51 = .ok (.getfield 54, 3) := by decide +kernel
theorem dX7_again_54 : decode cX7_again 54 = .ok (.invokevirtual 321, 3) := by decide +kernel
theorem dX7_again_57 : decode cX7_again 57 = .ok (.iconst 0, 1) := by decide +kernel
theorem dX7_again_58 : decode cX7_again 58 = .ok (.invokevirtual 324, 3) := by decide +kernel
theorem dX7_again_61 : decode cX7_again 61 = .ok (.iconst 1, 1) := by decide +kernel
theorem dX7_again_62 : decode cX7_again 62 = .ok (.istore_n 3, 1) := by decide +kernel
theorem dX7_again_63 : decode cX7_again 63 = .ok (.iload_n 3, 1) := by decide +kernel
theorem dX7_again_64 : decode cX7_again 64 = .ok (.bipush 60, 2) := by decide +kernel
theorem dX7_again_66 : decode cX7_again 66 = .ok (.if_icmp .gt 70, 3) := by decide +kernel
theorem dX7_again_69 : decode cX7_again 69 = .ok (.aload_n 0, 1) := by decide +kernel
theorem dX7_again_70 : decode cX7_again 70 = .ok (.getfield 10, 3) := by decide +kernel
theorem dX7_again_73 : decode cX7_again 73 = .ok (.iload_n 1, 1) := by decide +kernel
theorem dX7_again_74 : decode cX7_again 74 = .ok (.aload_n 0, 1) := by decide +kernel
theorem dX7_again_75 : decode cX7_again 75 = .ok (.getfield 54, 3) := by decide +kernel
theorem dX7_again_78 : decode cX7_again 78 = .ok (.invokevirtual 186, 3) := by decide +kernel
theorem dX7_again_81 : decode cX7_again 81 = .ok (.aload_n 0, 1) := by decide +kernel
theorem dX7_again_82 : decode cX7_again 82 = .ok (.getfield 74, 3) := by decide +kernel
theorem dX7_again_85 : decode cX7_again 85 = .ok (.aload_n 0, 1) := by decide +kernel
theorem dX7_again_86 : decode cX7_again 86 = .ok (.getfield 54, 3) := by decide +kernel
theorem dX7_again_89 : decode cX7_again 89 = .ok (.invokevirtual 321, 3) := by decide +kernel
theorem dX7_again_92 : decode cX7_again 92 = .ok (.invokevirtual 327, 3) := by decide +kernel
theorem dX7_again_95 : decode cX7_again 95 = .ok (.istore 4, 2) := by decide +kernel
theorem dX7_again_97 : decode cX7_again 97 = .ok (.iload 4, 2) := by decide +kernel
theorem dX7_again_99 : decode cX7_again 99 = .ok (.ifCond .lt 16, 3) := by decide +kernel
theorem dX7_again_102 : decode cX7_again 102 = .ok (.iload_n 2, 1) := by decide +kernel
theorem dX7_again_103 : decode cX7_again 103 = .ok (.ifCond .ne 7, 3) := by decide +kernel
theorem dX7_again_106 : decode cX7_again 106 = .ok (.iload_n 3, 1) := by decide +kernel
theorem dX7_again_107 : decode cX7_again 107 = .ok (.goto 7, 3) := by decide +kernel
theorem dX7_again_110 : decode cX7_again 110 = .ok (.iload_n 3, 1) := by decide +kernel
theorem dX7_again_111 : decode cX7_again 111 = .ok (.iload 4, 2) := by decide +kernel
theorem dX7_again_113 : decode cX7_again 113 = .ok (.isub, 1) := by decide +kernel
theorem dX7_again_114 : decode cX7_again 114 = .ok (.ireturn, 1) := by decide +kernel
theorem dX7_again_115 : decode cX7_again 115 = .ok (.aload_n 0, 1) := by decide +kernel
theorem dX7_again_116 : decode cX7_again 116 = .ok (.getfield 74, 3) := by decide +kernel
theorem dX7_again_119 : decode cX7_again 119 = .ok (.aload_n 0, 1) := by decide +kernel
theorem dX7_again_120 : decode cX7_again 120 = .ok (.getfield 54, 3) := by decide +kernel
theorem dX7_again_123 : decode cX7_again 123 = .ok (.invokevirtual 321, 3) := by decide +kernel
theorem dX7_again_126 : decode cX7_again 126 = .ok (.iload_n 3, 1) := by decide +kernel
theorem dX7_again_127 : decode cX7_again 127 = .ok (.invokevirtual 324, 3) := by decide +kernel
theorem dX7_again_130 : decode cX7_again 130 = .ok (.iinc 3 1, 3) := by decide +kernel
theorem dX7_again_133 : decode cX7_again 133 = .ok (.goto (-70), 3) := by decide +kernel
theorem dX7_again_136 : decode cX7_again 136 = .ok (.bipush (-9), 2) := by decide +kernel
theorem dX7_again_138 : decode cX7_again 138 = .ok (.ireturn, 1) := by decide +kernel
theorem dX7_bestLowest_0 : decode cX7_bestLowest 0 = .ok (.iload_n 1, 1) := by decide +kernel
theorem dX7_bestLowest_1 : decode cX7_bestLowest 1 = .ok (.iconst 0, 1) := by decide +kernel
theorem dX7_bestLowest_2 : decode cX7_bestLowest 2 = .ok (.bipush 9, 2) := by decide +kernel
theorem dX7_bestLowest_4 : decode cX7_bestLowest 4 = .ok (.invokestatic 127, 3) := by decide +kernel
theorem dX7_bestLowest_7 : decode cX7_bestLowest 7 = .ok (.istore_n 2, 1) := by decide +kernel
theorem dX7_bestLowest_8 : decode cX7_bestLowest 8 = .ok (.iload_n 2, 1) := by decide +kernel
theorem dX7_bestLowest_9 : decode cX7_bestLowest 9 = .ok (.ifCond .eq 9, 3) := by decide +kernel
theorem dX7_bestLowest_12 : decode cX7_bestLowest 12 = .ok (.aload_n 0, 1) := by decide +kernel
theorem dX7_bestLowest_13 : decode cX7_bestLowest 13 = .ok (.iload_n 2, 1) := by decide +kernel
theorem dX7_bestLowest_14 : decode cX7_bestLowest 14 = .ok (.invokevirtual 91, 3) := by decide +kernel
theorem dX7_bestLowest_17 : decode cX7_bestLowest 17 = .ok (.ireturn, 1) := by decide +kernel
theorem dX7_bestLowest_18 : decode cX7_bestLowest 18 = .ok (.iconst 0, 1) := by decide +kernel
theorem dX7_bestLowest_19 : decode cX7_bestLowest 19 = .ok (.istore_n 3, 1) := by decide +kernel
theorem dX7_bestLowest_20 : decode cX7_bestLowest 20 = .ok (.ldc 240, 2) := by decide +kernel
theorem dX7_bestLowest_22 : decode cX7_bestLowest 22 = .ok (.istore 4, 2) := by decide +kernel
theorem dX7_bestLowest_24 : decode cX7_bestLowest 24 = .ok (.iconst 0, 1) := by decide +kernel
theorem dX7_bestLowest_25 : decode cX7_bestLowest 25 = .ok (.istore 5, 2) := by decide +kernel
theorem dX7_bestLowest_27 : decode cX7_bestLowest 27 = .ok (.iload 5, 2) := by decide +kernel
theorem dX7_bestLowest_29 : decode cX7_bestLowest 29 = .ok (.bipush 6, 2) := by decide +kernel
theorem dX7_bestLowest_31 : decode cX7_bestLowest 31 = .ok (.if_icmp .ge 58, 3) := by decide +kernel
theorem dX7_bestLowest_34 : decode cX7_bestLowest 34 = .ok (.aload_n 0, 1) := by decide +kernel
theorem dX7_bestLowest_35 : decode cX7_bestLowest 35 = .ok (.aload_n 0, 1) := by decide +kernel
theorem dX7_bestLowest_36 : decode cX7_bestLowest 36 = .ok (.getfield 10, 3) := by decide +kernel
theorem dX7_bestLowest_39 : decode cX7_bestLowest 39 = .ok (.getfield 152, 3) := by decide +kernel
theorem dX7_bestLowest_42 : decode cX7_bestLowest 42 = .ok (.invokevirtual 171, 3) := by decide +kernel
theorem dX7_bestLowest_45 : decode cX7_bestLowest 45 = .ok (.aload_n 0, 1) := by decide +kernel
theorem dX7_bestLowest_46 : decode cX7_bestLowest 46 = .ok (.getfield 10, 3) := by decide +kernel
theorem dX7_bestLowest_49 : decode cX7_bestLowest 49 = .ok (.iload 5, 2) := by decide +kernel
theorem dX7_bestLowest_51 : decode cX7_bestLowest 51 = .ok (.iload_n 1, 1) := by decide +kernel
theorem dX7_bestLowest_52 : decode cX7_bestLowest 52 = .ok (.aload_n 0, 1) := by decide +kernel
theorem dX7_bestLowest_53 : decode cX7_bestLowest 53 = .ok (.getfield 54, 3) := by decide +kernel
theorem dX7_bestLowest_56 : decode cX7_bestLowest 56 = .ok (.invokevirtual 331, 3) := by decide +kernel
theorem dX7_bestLowest_59 : decode cX7_bestLowest 59 = .ok (.aload_n 0, 1) := by decide +kernel
theorem dX7_bestLowest_60 : decode cX7_bestLowest 60 = .ok (.getfield 54, 3) := by decide +kernel
theorem dX7_bestLowest_63 : decode cX7_bestLowest 63 = .ok (.invokevirtual 183, 3) := by decide +kernel
theorem dX7_bestLowest_66 : decode cX7_bestLowest 66 = .ok (.iload 4, 2) := by decide +kernel
theorem dX7_bestLowest_68 : decode cX7_bestLowest 68 = .ok (.if_icmp .le 15, 3) := by decide +kernel
theorem dX7_bestLowest_71 : decode cX7_bestLowest 71 = .ok (.aload_n 0, 1) := by decide +kernel
theorem dX7_bestLowest_72 : decode cX7_bestLowest 72 = .ok (.getfield 54, 3) := by decide +kernel
theorem dX7_bestLowest_75 : decode cX7_bestLowest 75 = .ok (.invokevirtual 183, 3) := by decide +kernel
theorem dX7_bestLowest_78 : decode cX7_bestLowest 78 = .ok (.istore 4, 2) := by decide +kernel
theorem dX7_bestLowest_80 : decode cX7_bestLowest 80 = .ok (.iload 5, 2) := by decide +kernel
theorem dX7_bestLowest_82 : decode cX7_bestLowest 82 = .ok (.istore_n 3, 1) := by decide +kernel
theorem dX7_bestLowest_83 : decode cX7_bestLowest 83 = .ok (.iinc 5 1, 3) := by decide +kernel
theorem dX7_bestLowest_86 : decode cX7_bestLowest 86 = .ok (.goto (-59), 3) := by decide +kernel
theorem dX7_bestLowest_89 : decode cX7_bestLowest 89 = .ok (.iload_n 3, 1) := by decide +kernel
theorem dX7_bestLowest_90 : decode cX7_bestLowest 90 = .ok (.ireturn, 1) := by decide +kernel
theorem dX7_peak_0 : decode cX7_peak 0 = .ok (.iload_n 1, 1) := by decide +kernel
theorem dX7_peak_1 : decode cX7_peak 1 = .ok (.ifCond .lt 8, 3) := by decide +kernel
theorem dX7_peak_4 : decode cX7_peak 4 = .ok (.iload_n 1, 1) := by decide +kernel
theorem dX7_peak_5 : decode cX7_peak 5 = .ok (.iconst 1, 1) := by decide +kernel
theorem dX7_peak_6 : decode cX7_peak 6 = .ok (.if_icmp .le 10, 3) := by decide +kernel
theorem dX7_peak_9 : decode cX7_peak 9 = .ok (.aload_n 0, 1) := by decide +kernel
theorem dX7_peak_10 : decode cX7_peak 10 = .ok (.bipush (-2), 2) := by decide +kernel
theorem dX7_peak_12 : decode cX7_peak 12 = .ok (.invokevirtual 91, 3) := by decide +kernel
theorem dX7_peak_15 : decode cX7_peak 15 = .ok (.ireturn, 1) := by decide +kernel
theorem dX7_peak_16 : decode cX7_peak 16 = .ok (.aload_n 0, 1) := by decide +kernel
theorem dX7_peak_17 : decode cX7_peak 17 = .ok (.iconst 0, 1) := by decide +kernel
theorem dX7_peak_18 : decode cX7_peak 18 = .ok (.invokevirtual 171, 3) := by decide +kernel
theorem dX7_peak_21 : decode cX7_peak 21 = .ok (.iconst 0, 1) := by decide +kernel
theorem dX7_peak_22 : decode cX7_peak 22 = .ok (.istore_n 2, 1) := by decide +kernel
theorem dX7_peak_23 : decode cX7_peak 23 = .ok (.aload_n 0, 1) := by decide +kernel
theorem dX7_peak_24 : decode cX7_peak 24 = .ok (.getfield 54, 3) := by decide +kernel
theorem dX7_peak_27 : decode cX7_peak 27 = .ok (.invokevirtual 183, 3) := by decide +kernel
theorem dX7_peak_30 : decode cX7_peak 30 = .ok (.istore_n 3, 1) := by decide +kernel
theorem dX7_peak_31 : decode cX7_peak 31 = .ok (.iconst 0, 1) := by decide +kernel
theorem dX7_peak_32 : decode cX7_peak 32 = .ok (.istore 4, 2) := by decide +kernel
theorem dX7_peak_34 : decode cX7_peak 34 = .ok (.iload 4, 2) := by decide +kernel
theorem dX7_peak_36 : decode cX7_peak 36 = .ok (.aload_n 0, 1) := by decide +kernel
theorem dX7_peak_37 : decode cX7_peak 37 = .ok (.getfield 10, 3) := by decide +kernel
theorem dX7_peak_40 : decode cX7_peak 40 = .ok (.getfield 152, 3) := by decide +kernel
theorem dX7_peak_43 : decode cX7_peak 43 = .ok (.if_icmp .ge 46, 3) := by decide +kernel
theorem dX7_peak_46 : decode cX7_peak 46 = .ok (.aload_n 0, 1) := by decide +kernel
theorem dX7_peak_47 : decode cX7_peak 47 = .ok (.getfield 10, 3) := by decide +kernel
theorem dX7_peak_50 : decode cX7_peak 50 = .ok (.iload 4, 2) := by decide +kernel
theorem dX7_peak_52 : decode cX7_peak 52 = .ok (.aload_n 0, 1) := by decide +kernel
theorem dX7_peak_53 : decode cX7_peak 53 = .ok (.getfield 54, 3) := by decide +kernel
theorem dX7_peak_56 : decode cX7_peak 56 = .ok (.invokevirtual 186, 3) := by decide +kernel
theorem dX7_peak_59 : decode cX7_peak 59 = .ok (.aload_n 0, 1) := by decide +kernel
theorem dX7_peak_60 : decode cX7_peak 60 = .ok (.getfield 54, 3) := by decide +kernel
theorem dX7_peak_63 : decode cX7_peak 63 = .ok (.invokevirtual 183, 3) := by decide +kernel
theorem dX7_peak_66 : decode cX7_peak 66 = .ok (.iload_n 3, 1) := by decide +kernel
theorem dX7_peak_67 : decode cX7_peak 67 = .ok (.if_icmp .le 16, 3) := by decide +kernel
theorem dX7_peak_70 : decode cX7_peak 70 = .ok (.aload_n 0, 1) := by decide +kernel
theorem dX7_peak_71 : decode cX7_peak 71 = .ok (.getfield 54, 3) := by decide +kernel
theorem dX7_peak_74 : decode cX7_peak 74 = .ok (.invokevirtual 183, 3) := by decide +kernel
theorem dX7_peak_77 : decode cX7_peak 77 = .ok (.istore_n 3, 1) := by decide +kernel
theorem dX7_peak_78 : decode cX7_peak 78 = .ok (.iload 4, 2) := by decide +kernel
theorem dX7_peak_80 : decode cX7_peak 80 = .ok (.iconst 1, 1) := by decide +kernel
theorem dX7_peak_81 : decode cX7_peak 81 = .ok (.iadd, 1) := by decide +kernel
theorem dX7_peak_82 : decode cX7_peak 82 = .ok (.istore_n 2, 1) := by decide +kernel
theorem dX7_peak_83 : decode cX7_peak 83 = .ok (.iinc 4 1, 3) := by decide +kernel
theorem dX7_peak_86 : decode cX7_peak 86 = .ok (.goto (-52), 3) := by decide +kernel
theorem dX7_peak_89 : decode cX7_peak 89 = .ok (.iload_n 1, 1) := by decide +kernel
theorem dX7_peak_90 : decode cX7_peak 90 = .ok (.ifCond .ne 7, 3) := by decide +kernel
theorem dX7_peak_93 : decode cX7_peak 93 = .ok (.iload_n 2, 1) := by decide +kernel
theorem dX7_peak_94 : decode cX7_peak 94 = .ok (.goto 7, 3) := by decide +kernel
theorem dX7_peak_97 : decode cX7_peak 97 = .ok (.iload_n 3, 1) := by decide +kernel
theorem dX7_peak_98 : decode cX7_peak 98 = .ok (.bipush 100, 2) := by decide +kernel
theorem dX7_peak_100 : decode cX7_peak 100 = .ok (.iadd, 1) := by decide +kernel
theorem dX7_peak_101 : decode cX7_peak 101 = .ok (.ireturn, 1) := by decide +kernel
theorem dX7_fullStake_0 : decode cX7_fullStake 0 = .ok (.aload_n 0, 1) := by decide +kernel
theorem dX7_fullStake_1 : decode cX7_fullStake 1 = .ok (.getfield 10, 3) := by decide +kernel
theorem dX7_fullStake_4 : decode cX7_fullStake 4 = .ok (.getfield 152, 3) := by decide +kernel
theorem dX7_fullStake_7 : decode cX7_fullStake 7 = .ok (.ifCond .ne 10, 3) := by decide +kernel
theorem dX7_fullStake_10 : decode cX7_fullStake 10 = .ok (.aload_n 0, 1) := by decide +kernel
theorem dX7_fullStake_11 : decode cX7_fullStake 11 = .ok (.bipush (-3), 2) := by decide +kernel
theorem dX7_fullStake_13 : decode cX7_fullStake 13 = .ok (.invokevirtual 91, 3) := by decide +kernel
theorem dX7_fullStake_16 : decode cX7_fullStake 16 = .ok (.ireturn, 1) := by decide +kernel
theorem dX7_fullStake_17 : decode cX7_fullStake 17 = .ok (.aload_n 0, 1) := by decide +kernel
theorem dX7_fullStake_18 : decode cX7_fullStake 18 = .ok (.getfield 67, 3) := by decide +kernel
theorem dX7_fullStake_21 : decode cX7_fullStake 21 = .ok (.aload_n 0, 1) := by decide +kernel
theorem dX7_fullStake_22 : decode cX7_fullStake 22 = .ok (.getfield 10, 3) := by decide +kernel
theorem dX7_fullStake_25 : decode cX7_fullStake 25 = .ok (.aload_n 0, 1) := by decide +kernel
theorem dX7_fullStake_26 : decode cX7_fullStake 26 = .ok (.getfield 54, 3) := by decide +kernel
theorem dX7_fullStake_29 : decode cX7_fullStake 29 = .ok (.invokevirtual 211, 3) := by decide +kernel
theorem dX7_fullStake_32 : decode cX7_fullStake 32 = .ok (.aload_n 0, 1) := by decide +kernel
theorem dX7_fullStake_33 : decode cX7_fullStake 33 = .ok (.getfield 10, 3) := by decide +kernel
theorem dX7_fullStake_36 : decode cX7_fullStake 36 = .ok (.getfield 152, 3) := by decide +kernel
theorem dX7_fullStake_39 : decode cX7_fullStake 39 = .ok (.iconst 1, 1) := by decide +kernel
theorem dX7_fullStake_40 : decode cX7_fullStake 40 = .ok (.isub, 1) := by decide +kernel
theorem dX7_fullStake_41 : decode cX7_fullStake 41 = .ok (.istore_n 1, 1) := by decide +kernel
theorem dX7_fullStake_42 : decode cX7_fullStake 42 = .ok (.iconst 0, 1) := by decide +kernel
theorem dX7_fullStake_43 : decode cX7_fullStake 43 = .ok (.istore_n 2, 1) := by decide +kernel
theorem dX7_fullStake_44 : decode cX7_fullStake 44 = .ok (.iload_n 2, 1) := by decide +kernel
theorem dX7_fullStake_45 : decode cX7_fullStake 45 = .ok (.iload_n 1, 1) := by decide +kernel
theorem dX7_fullStake_46 : decode cX7_fullStake 46 = .ok (.if_icmp .ge 33, 3) := by decide +kernel
theorem dX7_fullStake_49 : decode cX7_fullStake 49 = .ok (.aload_n 0, 1) := by decide +kernel
theorem dX7_fullStake_50 : decode cX7_fullStake 50 = .ok (.getfield 67, 3) := by decide +kernel
theorem dX7_fullStake_53 : decode cX7_fullStake 53 = .ok (.getfield 276, 3) := by decide +kernel
theorem dX7_fullStake_56 : decode cX7_fullStake 56 = .ok (.iload_n 2, 1) := by decide +kernel
theorem dX7_fullStake_57 : decode cX7_fullStake 57 = .ok (.baload, 1) := by decide +kernel
theorem dX7_fullStake_58 : decode cX7_fullStake 58 = .ok (.aload_n 0, 1) := by decide +kernel
theorem dX7_fullStake_59 : decode cX7_fullStake 59 = .ok (.getfield 67, 3) := by decide +kernel
theorem dX7_fullStake_62 : decode cX7_fullStake 62 = .ok (.getfield 276, 3) := by decide +kernel
theorem dX7_fullStake_65 : decode cX7_fullStake 65 = .ok (.iload_n 1, 1) := by decide +kernel
