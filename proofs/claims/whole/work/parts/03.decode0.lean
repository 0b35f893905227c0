theorem dX0_init_0 : decode cX0_init 0 = .ok (.aload_n 0, 1) := by decide +kernel
theorem dX0_init_1 : decode cX0_init 1 = .ok (.invokespecial 3, 3) := by decide +kernel
theorem dX0_init_4 : decode cX0_init 4 = .ok (.aload_n 0, 1) := by decide +kernel
theorem dX0_init_5 : decode cX0_init 5 = .ok (.bipush 8, 2) := by decide +kernel
theorem dX0_init_7 : decode cX0_init 7 = .ok (.newarray .int, 2) := by decide +kernel
theorem dX0_init_9 : decode cX0_init 9 = .ok (.putfield 9, 3) := by decide +kernel
theorem dX0_init_12 : decode cX0_init 12 = .ok (.aload_n 0, 1) := by decide +kernel
theorem dX0_init_13 : decode cX0_init 13 = .ok (.bipush 8, 2) := by decide +kernel
theorem dX0_init_15 : decode cX0_init 15 = .ok (.newarray .int, 2) := by decide +kernel
theorem dX0_init_17 : decode cX0_init 17 = .ok (.putfield 15, 3) := by decide +kernel
theorem dX0_init_20 : decode cX0_init 20 = .ok (.aload_n 0, 1) := by decide +kernel
theorem dX0_init_21 : decode cX0_init 21 = .ok (.bipush 8, 2) := by decide +kernel
theorem dX0_init_23 : decode cX0_init 23 = .ok (.newarray .int, 2) := by decide +kernel
theorem dX0_init_25 : decode cX0_init 25 = .ok (.putfield 18, 3) := by decide +kernel
theorem dX0_init_28 : decode cX0_init 28 = .ok (.aload_n 0, 1) := by decide +kernel
theorem dX0_init_29 : decode cX0_init 29 = .ok (.iconst 0, 1) := by decide +kernel
theorem dX0_init_30 : decode cX0_init 30 = .ok (.putfield 21, 3) := by decide +kernel
theorem dX0_init_33 : decode cX0_init 33 = .ok (.return_, 1) := by decide +kernel
theorem dX0_note_0 : decode cX0_note 0 = .ok (.aload_n 0, 1) := by decide +kernel
theorem dX0_note_1 : decode cX0_note 1 = .ok (.getfield 21, 3) := by decide +kernel
theorem dX0_note_4 : decode cX0_note 4 = .ok (.bipush 8, 2) := by decide +kernel
theorem dX0_note_6 : decode cX0_note 6 = .ok (.if_icmp .lt 7, 3) := by decide +kernel
theorem dX0_note_9 : decode cX0_note 9 = .ok (.aload_n 0, 1) := by decide +kernel
theorem dX0_note_10 : decode cX0_note 10 = .ok (.invokevirtual 25, 3) := by decide +kernel
theorem dX0_note_13 : decode cX0_note 13 = .ok (.aload_n 0, 1) := by decide +kernel
theorem dX0_note_14 : decode cX0_note 14 = .ok (.getfield 9, 3) := by decide +kernel
theorem dX0_note_17 : decode cX0_note 17 = .ok (.aload_n 0, 1) := by decide +kernel
theorem dX0_note_18 : decode cX0_note 18 = .ok (.getfield 21, 3) := by decide +kernel
theorem dX0_note_21 : decode cX0_note 21 = .ok (.iload_n 1, 1) := by decide +kernel
theorem dX0_note_22 : decode cX0_note 22 = .ok (.iastore, 1) := by decide +kernel
theorem dX0_note_23 : decode cX0_note 23 = .ok (.aload_n 0, 1) := by decide +kernel
theorem dX0_note_24 : decode cX0_note 24 = .ok (.getfield 15, 3) := by decide +kernel
theorem dX0_note_27 : decode cX0_note 27 = .ok (.aload_n 0, 1) := by decide +kernel
theorem dX0_note_28 : decode cX0_note 28 = .ok (.getfield 21, 3) := by decide +kernel
theorem dX0_note_31 : decode cX0_note 31 = .ok (.iload_n 2, 1) := by decide +kernel
theorem dX0_note_32 : decode cX0_note 32 = .ok (.iastore, 1) := by decide +kernel
theorem dX0_note_33 : decode cX0_note 33 = .ok (.aload_n 0, 1) := by decide +kernel
theorem dX0_note_34 : decode cX0_note 34 = .ok (.getfield 18, 3) := by decide +kernel
theorem dX0_note_37 : decode cX0_note 37 = .ok (.aload_n 0, 1) := by decide +kernel
theorem dX0_note_38 : decode cX0_note 38 = .ok (.getfield 21, 3) := by decide +kernel
theorem dX0_note_41 : decode cX0_note 41 = .ok (.iload_n 3, 1) := by decide +kernel
theorem dX0_note_42 : decode cX0_note 42 = .ok (.iastore, 1) := by decide +kernel
theorem dX0_note_43 : decode cX0_note 43 = .ok (.aload_n 0, 1) := by decide +kernel
theorem dX0_note_44 : decode cX0_note 44 = .ok (.dup, 1) := by decide +kernel
theorem dX0_note_45 : decode cX0_note 45 = .ok (.getfield 21, 3) := by decide +kernel
theorem dX0_note_48 : decode cX0_note 48 = .ok (.iconst 1, 1) := by decide +kernel
theorem dX0_note_49 : decode cX0_note 49 = .ok (.iadd, 1) := by decide +kernel
theorem dX0_note_50 : decode cX0_note 50 = .ok (.putfield 21, 3) := by decide +kernel
theorem dX0_note_53 : decode cX0_note 53 = .ok (.return_, 1) := by decide +kernel
theorem dX0_forgetOldest_0 : decode cX0_forgetOldest 0 = .ok (.aload_n 0, 1) := by decide +kernel
theorem dX0_forgetOldest_1 : decode cX0_forgetOldest 1 = .ok (.bipush 7, 2) := by decide +kernel
theorem dX0_forgetOldest_3 : decode cX0_forgetOldest 3 = .ok (.putfield 21, 3) := by decide +kernel
theorem dX0_forgetOldest_6 : decode cX0_forgetOldest 6 = .ok (.iconst 0, 1) := by decide +kernel
theorem dX0_forgetOldest_7 : decode cX0_forgetOldest 7 = .ok (.istore_n 1, 1) := by decide +kernel
theorem dX0_forgetOldest_8 : decode cX0_forgetOldest 8 = .ok (.iload_n 1, 1) := by decide +kernel
theorem dX0_forgetOldest_9 : decode cX0_forgetOldest 9 = .ok (.aload_n 0, 1) := by decide +kernel
theorem dX0_forgetOldest_10 : decode cX0_forgetOldest 10 = .ok (.getfield 21, 3) := by decide +kernel
theorem dX0_forgetOldest_13 : decode cX0_forgetOldest 13 = .ok (.if_icmp .ge 51, 3) := by decide +kernel
theorem dX0_forgetOldest_16 : decode cX0_forgetOldest 16 = .ok (.aload_n 0, 1) := by decide +kernel
theorem dX0_forgetOldest_17 : decode cX0_forgetOldest 17 = .ok (.getfield 9, 3) := by decide +kernel
theorem dX0_forgetOldest_20 : decode cX0_forgetOldest 20 = .ok (.iload_n 1, 1) := by decide +kernel
theorem dX0_forgetOldest_21 : decode cX0_forgetOldest 21 = .ok (.aload_n 0, 1) := by decide +kernel
theorem dX0_forgetOldest_22 : decode cX0_forgetOldest 22 = .ok (.getfield 9, 3) := by decide +kernel
theorem dX0_forgetOldest_25 : decode cX0_forgetOldest 25 = .ok (.iload_n 1, 1) := by decide +kernel
theorem dX0_forgetOldest_26 : decode cX0_forgetOldest 26 = .ok (.iconst 1, 1) := by decide +kernel
theorem dX0_forgetOldest_27 : decode cX0_forgetOldest 27 = .ok (.iadd, 1) := by decide +kernel
theorem dX0_forgetOldest_28 : decode cX0_forgetOldest 28 = .ok (.iaload, 1) := by decide +kernel
theorem dX0_forgetOldest_29 : decode cX0_forgetOldest 29 = .ok (.iastore, 1) := by decide +kernel
theorem dX0_forgetOldest_30 : decode cX0_forgetOldest 30 = .ok (.aload_n 0, 1) := by decide +kernel
theorem dX0_forgetOldest_31 : decode cX0_forgetOldest 31 = .ok (.getfield 15, 3) := by decide +kernel
theorem dX0_forgetOldest_34 : decode cX0_forgetOldest 34 = .ok (.iload_n 1, 1) := by decide +kernel
theorem dX0_forgetOldest_35 : decode cX0_forgetOldest 35 = .ok (.aload_n 0, 1) := by decide +kernel
theorem dX0_forgetOldest_36 : decode cX0_forgetOldest 36 = .ok (.getfield 15, 3) := by decide +kernel
theorem dX0_forgetOldest_39 : decode cX0_forgetOldest 39 = .ok (.iload_n 1, 1) := by decide +kernel
theorem dX0_forgetOldest_40 : decode cX0_forgetOldest 40 = .ok (.iconst 1, 1) := by decide +kernel
theorem dX0_forgetOldest_41 : decode cX0_forgetOldest 41 = .ok (.iadd, 1) := by decide +kernel
theorem dX0_forgetOldest_42 : decode cX0_forgetOldest 42 = .ok (.iaload, 1) := by decide +kernel
theorem dX0_forgetOldest_43 : decode cX0_forgetOldest 43 = .ok (.iastore, 1) := by decide +kernel
theorem dX0_forgetOldest_44 : decode cX0_forgetOldest 44 = .ok (.aload_n 0, 1) := by decide +kernel
theorem dX0_forgetOldest_45 : decode cX0_forgetOldest 45 = .ok (.getfield 18, 3) := by decide +kernel
theorem dX0_forgetOldest_48 : decode cX0_forgetOldest 48 = .ok (.iload_n 1, 1) := by decide +kernel
theorem dX0_forgetOldest_49 : decode cX0_forgetOldest 49 = .ok (.aload_n 0, 1) := by decide +kernel
theorem dX0_forgetOldest_50 : decode cX0_forgetOldest 50 = .ok (.getfield 18, 3) := by decide +kernel
theorem dX0_forgetOldest_53 : decode cX0_forgetOldest 53 = .ok (.iload_n 1, 1) := by decide +kernel
theorem dX0_forgetOldest_54 : decode cX0_forgetOldest 54 = .ok (.iconst 1, 1) := by decide +kernel
theorem dX0_forgetOldest_55 : decode cX0_forgetOldest 55 = .ok (.iadd, 1) := by decide +kernel
theorem dX0_forgetOldest_56 : decode cX0_forgetOldest 56 = .ok (.iaload, 1) := by decide +kernel
theorem dX0_forgetOldest_57 : decode cX0_forgetOldest 57 = .ok (.iastore, 1) := by decide +kernel
theorem dX0_forgetOldest_58 : decode cX0_forgetOldest 58 = .ok (.iinc 1 1, 3) := by decide +kernel
theorem dX0_forgetOldest_61 : decode cX0_forgetOldest 61 = .ok (.goto (-53), 3) := by decide +kernel
theorem dX0_forgetOldest_64 : decode cX0_forgetOldest 64 = .ok (.return_, 1) := by decide +kernel
theorem dX0_takeBack_0 : decode cX0_takeBack 0 = .ok (.aload_n 0, 1) := by decide +kernel
theorem dX0_takeBack_1 : decode cX0_takeBack 1 = .ok (.getfield 21, 3) := by decide +kernel
theorem dX0_takeBack_4 : decode cX0_takeBack 4 = .ok (.ifCond .ne 5, 3) := by decide +kernel
theorem dX0_takeBack_7 : decode cX0_takeBack 7 = .ok (.iconst 0, 1) := by decide +kernel
theorem dX0_takeBack_8 : decode cX0_takeBack 8 = .ok (.ireturn, 1) := by decide +kernel
theorem dX0_takeBack_9 : decode cX0_takeBack 9 = .ok (.aload_n 0, 1) := by decide +kernel
theorem dX0_takeBack_10 : decode cX0_takeBack 10 = .ok (.dup, 1) := by decide +kernel
theorem dX0_takeBack_11 : decode cX0_takeBack 11 = .ok (.getfield 21, 3) := by decide +kernel
theorem dX0_takeBack_14 : decode cX0_takeBack 14 = .ok (.iconst 1, 1) := by decide +kernel
theorem dX0_takeBack_15 : decode cX0_takeBack 15 = .ok (.isub, 1) := by decide +kernel
theorem dX0_takeBack_16 : decode cX0_takeBack 16 = .ok (.putfield 21, 3) := by decide +kernel
theorem dX0_takeBack_19 : decode cX0_takeBack 19 = .ok (.aload_n 0, 1) := by decide +kernel
theorem dX0_takeBack_20 : decode cX0_takeBack 20 = .ok (.getfield 9, 3) := by decide +kernel
theorem dX0_takeBack_23 : decode cX0_takeBack 23 = .ok (.aload_n 0, 1) := by decide +kernel
theorem dX0_takeBack_24 : decode cX0_takeBack 24 = .ok (.getfield 21, 3) := by decide +kernel
theorem dX0_takeBack_27 : decode cX0_takeBack 27 = .ok (.iaload, 1) := by decide +kernel
theorem dX0_takeBack_28 : decode cX0_takeBack 28 = .ok (.lookupswitch 94 #[(0, 28), (1, 54)], 28) := by decide +kernel
theorem dX0_takeBack_56 : decode cX0_takeBack 56 = .ok (.aload_n 1, 1) := by decide +kernel
theorem dX0_takeBack_57 : decode cX0_takeBack 57 = .ok (.aload_n 0, 1) := by decide +kernel
theorem dX0_takeBack_58 : decode cX0_takeBack 58 = .ok (.getfield 15, 3) := by decide +kernel
theorem dX0_takeBack_61 : decode cX0_takeBack 61 = .ok (.aload_n 0, 1) := by decide +kernel
theorem dX0_takeBack_62 : decode cX0_takeBack 62 = .ok (.getfield 21, 3) := by decide +kernel
theorem dX0_takeBack_65 : decode cX0_takeBack 65 = .ok (.iaload, 1) := by decide +kernel
theorem dX0_takeBack_66 : decode cX0_takeBack 66 = .ok (.aload_n 0, 1) := by decide +kernel
theorem dX0_takeBack_67 : decode cX0_takeBack 67 = .ok (.getfield 18, 3) := by decide +kernel
theorem dX0_takeBack_70 : decode cX0_takeBack 70 = .ok (.aload_n 0, 1) := by decide +kernel
theorem dX0_takeBack_71 : decode cX0_takeBack 71 = .ok (.getfield 21, 3) := by decide +kernel
theorem dX0_takeBack_74 : decode cX0_takeBack 74 = .ok (.iaload, 1) := by decide +kernel
theorem dX0_takeBack_75 : decode cX0_takeBack 75 = .ok (.invokevirtual 28, 3) := by decide +kernel
theorem dX0_takeBack_78 : decode cX0_takeBack 78 = .ok (.pop, 1) := by decide +kernel
theorem dX0_takeBack_79 : decode cX0_takeBack 79 = .ok (.goto 48, 3) := by decide +kernel
theorem dX0_takeBack_82 : decode cX0_takeBack 82 = .ok (.aload_n 1, 1) := by decide +kernel
theorem dX0_takeBack_83 : decode cX0_takeBack 83 = .ok (.aload_n 0, 1) := by decide +kernel
theorem dX0_takeBack_84 : decode cX0_takeBack 84 = .ok (.getfield 15, 3) := by decide +kernel
theorem dX0_takeBack_87 : decode cX0_takeBack 87 = .ok (.aload_n 0, 1) := by decide +kernel
theorem dX0_takeBack_88 : decode cX0_takeBack 88 = .ok (.getfield 21, 3) := by decide +kernel
theorem dX0_takeBack_91 : decode cX0_takeBack 91 = .ok (.iaload, 1) := by decide +kernel
theorem dX0_takeBack_92 : decode cX0_takeBack 92 = .ok (.aload_n 0, 1) := by decide +kernel
theorem dX0_takeBack_93 : decode cX0_takeBack 93 = .ok (.getfield 18, 3) := by decide +kernel
theorem dX0_takeBack_96 : decode cX0_takeBack 96 = .ok (.aload_n 0, 1) := by decide +kernel
theorem dX0_takeBack_97 : decode cX0_takeBack 97 = .ok (.getfield 21, 3) := by decide +kernel
theorem dX0_takeBack_100 : decode cX0_takeBack 100 = .ok (.iaload, 1) := by decide +kernel
theorem dX0_takeBack_101 : decode cX0_takeBack 101 = .ok (.bipush 10, 2) := by decide +kernel
theorem dX0_takeBack_103 : decode cX0_takeBack 103 = .ok (.idiv, 1) := by decide +kernel
theorem dX0_takeBack_104 : decode cX0_takeBack 104 = .ok (.aload_n 0, 1) := by decide +kernel
theorem dX0_takeBack_105 : decode cX0_takeBack 105 = .ok (.getfield 18, 3) := by decide +kernel
theorem dX0_takeBack_108 : decode cX0_takeBack 108 = .ok (.aload_n 0, 1) := by decide +kernel
theorem dX0_takeBack_109 : decode cX0_takeBack 109 = .ok (.getfield 21, 3) := by decide +kernel
theorem dX0_takeBack_112 : decode cX0_takeBack 112 = .ok (.iaload, 1) := by decide +kernel
theorem dX0_takeBack_113 : decode cX0_takeBack 113 = .ok (.bipush 10, 2) := by decide +kernel
theorem dX0_takeBack_115 : decode cX0_takeBack 115 = .ok (.irem, 1) := by decide +kernel
theorem dX0_takeBack_116 : decode cX0_takeBack 116 = .ok (.invokevirtual 34, 3) := by decide +kernel
theorem dX0_takeBack_119 : decode cX0_takeBack 119 = .ok (.goto 8, 3) := by decide +kernel
theorem dX0_takeBack_122 : decode cX0_takeBack 122 = .ok (.aload_n 1, 1) := by decide +kernel
theorem dX0_takeBack_123 : decode cX0_takeBack 123 = .ok (.invokevirtual 38, 3) := by decide +kernel
theorem dX0_takeBack_126 : decode cX0_takeBack 126 = .ok (.pop, 1) := by decide +kernel
theorem dX0_takeBack_127 : decode cX0_takeBack 127 = .ok (.aload_n 0, 1) := by decide +kernel
theorem dX0_takeBack_128 : decode cX0_takeBack 128 = .ok (.getfield 21, 3) := by decide +kernel
theorem dX0_takeBack_131 : decode cX0_takeBack 131 = .ok (.ireturn, 1) := by decide +kernel
theorem dX1_init_0 : decode cX1_init 0 = .ok (.aload_n 0, 1) := by decide +kernel
theorem dX1_init_1 : decode cX1_init 1 = .ok (.invokespecial 3, 3) := by decide +kernel
theorem dX1_init_4 : decode cX1_init 4 = .ok (.aload_n 0, 1) := by decide +kernel
theorem dX1_init_5 : decode cX1_init 5 = .ok (.iconst 0, 1) := by decide +kernel
theorem dX1_init_6 : decode cX1_init 6 = .ok (.putfield 9, 3) := by decide +kernel
theorem dX1_init_9 : decode cX1_init 9 = .ok (.aload_n 0, 1) := by decide +kernel
theorem dX1_init_10 : decode cX1_init 10 = .ok (.iconst 0, 1) := by decide +kernel
theorem dX1_init_11 : decode cX1_init 11 = .ok (.putfield 15, 3) := by decide +kernel
theorem dX1_init_14 : decode cX1_init 14 = .ok (.aload_n 0, 1) := by decide +kernel
theorem dX1_init_15 : decode cX1_init 15 = .ok (.bipush (-9), 2) := by decide +kernel
theorem dX1_init_17 : decode cX1_init 17 = .ok (.putfield 19, 3) := by decide +kernel
theorem dX1_init_20 : decode cX1_init 20 = .ok (.return_, 1) := by decide +kernel
theorem dX1_go_0 : decode cX1_go 0 = .ok (.aload_n 3, 1) := by decide +kernel
theorem dX1_go_1 : decode cX1_go 1 = .ok (.aload_n 1, 1) := by decide +kernel
theorem dX1_go_2 : decode cX1_go 2 = .ok (.getfield 22, 3) := by decide +kernel
theorem dX1_go_5 : decode cX1_go 5 = .ok (.invokevirtual 28, 3) := by decide +kernel
theorem dX1_go_8 : decode cX1_go 8 = .ok (.aload 4, 2) := by decide +kernel
theorem dX1_go_10 : decode cX1_go 10 = .ok (.iconst 0, 1) := by decide +kernel
theorem dX1_go_11 : decode cX1_go 11 = .ok (.putfield 34, 3) := by decide +kernel
theorem dX1_go_14 : decode cX1_go 14 = .ok (.aload 4, 2) := by decide +kernel
theorem dX1_go_16 : decode cX1_go 16 = .ok (.aload_n 3, 1) := by decide +kernel
theorem dX1_go_17 : decode cX1_go 17 = .ok (.invokevirtual 39, 3) := by decide +kernel
theorem dX1_go_20 : decode cX1_go 20 = .ok (.iconst 0, 1) := by decide +kernel
theorem dX1_go_21 : decode cX1_go 21 = .ok (.invokevirtual 43, 3) := by decide +kernel
theorem dX1_go_24 : decode cX1_go 24 = .ok (.aload_n 0, 1) := by decide +kernel
theorem dX1_go_25 : decode cX1_go 25 = .ok (.iconst 0, 1) := by decide +kernel
theorem dX1_go_26 : decode cX1_go 26 = .ok (.putfield 15, 3) := by decide +kernel
theorem dX1_go_29 : decode cX1_go 29 = .ok (.aload_n 0, 1) := by decide +kernel
theorem dX1_go_30 : decode cX1_go 30 = .ok (.bipush (-9), 2) := by decide +kernel
theorem dX1_go_32 : decode cX1_go 32 = .ok (.putfield 19, 3) := by decide +kernel
theorem dX1_go_35 : decode cX1_go 35 = .ok (.iconst 0, 1) := by decide +kernel
theorem dX1_go_36 : decode cX1_go 36 = .ok (.istore 5, 2) := by decide +kernel
theorem dX1_go_38 : decode cX1_go 38 = .ok (.iload 5, 2) := by decide +kernel
theorem dX1_go_40 : decode cX1_go 40 = .ok (.aload_n 1, 1) := by decide +kernel
theorem dX1_go_41 : decode cX1_go 41 = .ok (.getfield 47, 3) := by decide +kernel
theorem dX1_go_44 : decode cX1_go 44 = .ok (.if_icmp .ge 80, 3) := by decide +kernel
theorem dX1_go_47 : decode cX1_go 47 = .ok (.aload_n 0, 1) := by decide +kernel
theorem dX1_go_48 : decode cX1_go 48 = .ok (.getfield 15, 3) := by decide +kernel
theorem dX1_go_51 : decode cX1_go 51 = .ok (.sipush 200, 3) := by decide +kernel
theorem dX1_go_54 : decode cX1_go 54 = .ok (.if_icmp .ge 70, 3) := by decide +kernel
theorem dX1_go_57 : decode cX1_go 57 = .ok (.aload_n 0, 1) := by decide +kernel
theorem dX1_go_58 : decode cX1_go 58 = .ok (.getfield 19, 3) := by decide +kernel
theorem dX1_go_61 : decode cX1_go 61 = .ok (.bipush (-9), 2) := by decide +kernel
theorem dX1_go_63 : decode cX1_go 63 = .ok (.if_icmp .ne 61, 3) := by decide +kernel
theorem dX1_go_66 : decode cX1_go 66 = .ok (.aload_n 0, 1) := by decide +kernel
theorem dX1_go_67 : decode cX1_go 67 = .ok (.dup, 1) := by decide +kernel
theorem dX1_go_68 : decode cX1_go 68 = .ok (.getfield 15, 3) := by decide +kernel
theorem dX1_go_71 : decode cX1_go 71 = .ok (.iconst 1, 1) := by decide +kernel
theorem dX1_go_72 : decode cX1_go 72 = .ok (.iadd, 1) := by decide +kernel
theorem dX1_go_73 : decode cX1_go 73 = .ok (.putfield 15, 3) := by decide +kernel
theorem dX1_go_76 : decode cX1_go 76 = .ok (.aload_n 1, 1) := by decide +kernel
theorem dX1_go_77 : decode cX1_go 77 = .ok (.iload 5, 2) := by decide +kernel
theorem dX1_go_79 : decode cX1_go 79 = .ok (.aload_n 3, 1) := by decide +kernel
theorem dX1_go_80 : decode cX1_go 80 = .ok (.iload_n 2, 1) := by decide +kernel
theorem dX1_go_81 : decode cX1_go 81 = .ok (.invokevirtual 50, 3) := by decide +kernel
theorem dX1_go_84 : decode cX1_go 84 = .ok (.ifCond .eq 16, 3) := by decide +kernel
theorem dX1_go_87 : decode cX1_go 87 = .ok (.iconst 0, 1) := by decide +kernel
theorem dX1_go_88 : decode cX1_go 88 = .ok (.istore 5, 2) := by decide +kernel
theorem dX1_go_90 : decode cX1_go 90 = .ok (.aload_n 0, 1) := by decide +kernel
theorem dX1_go_91 : decode cX1_go 91 = .ok (.aload_n 3, 1) := by decide +kernel
theorem dX1_go_92 : decode cX1_go 92 = .ok (.aload 4, 2) := by decide +kernel
theorem dX1_go_94 : decode cX1_go 94 = .ok (.invokevirtual 54, 3) := by decide +kernel
theorem dX1_go_97 : decode cX1_go 97 = .ok (.goto (-59), 3) := by decide +kernel
theorem dX1_go_100 : decode cX1_go 100 = .ok (.aload_n 3, 1) := by decide +kernel
theorem dX1_go_101 : decode cX1_go 101 = .ok (.aload_n 1, 1) := by decide +kernel
theorem dX1_go_102 : decode cX1_go 102 = .ok (.getfield 58, 3) := by decide +kernel
theorem dX1_go_105 : decode cX1_go 105 = .ok (.iload 5, 2) := by decide +kernel
theorem dX1_go_107 : decode cX1_go 107 = .ok (.iaload, 1) := by decide +kernel
theorem dX1_go_108 : decode cX1_go 108 = .ok (.aload_n 1, 1) := by decide +kernel
theorem dX1_go_109 : decode cX1_go 109 = .ok (.getfield 62, 3) := by decide +kernel
theorem dX1_go_112 : decode cX1_go 112 = .ok (.iload 5, 2) := by decide +kernel
theorem dX1_go_114 : decode cX1_go 114 = .ok (.iaload, 1) := by decide +kernel
theorem dX1_go_115 : decode cX1_go 115 = .ok (.invokevirtual 65, 3) := by decide +kernel
theorem dX1_go_118 : decode cX1_go 118 = .ok (.iinc 5 1, 3) := by decide +kernel
theorem dX1_go_121 : decode cX1_go 121 = .ok (.goto (-83), 3) := by decide +kernel
theorem dX1_go_124 : decode cX1_go 124 = .ok (.aload_n 0, 1) := by decide +kernel
theorem dX1_go_125 : decode cX1_go 125 = .ok (.iload 5, 2) := by decide +kernel
theorem dX1_go_127 : decode cX1_go 127 = .ok (.aload_n 1, 1) := by decide +kernel
theorem dX1_go_128 : decode cX1_go 128 = .ok (.getfield 47, 3) := by decide +kernel
theorem dX1_go_131 : decode cX1_go 131 = .ok (.if_icmp .lt 7, 3) := by decide +kernel
theorem dX1_go_134 : decode cX1_go 134 = .ok (.iconst 1, 1) := by decide +kernel
theorem dX1_go_135 : decode cX1_go 135 = .ok (.goto 4, 3) := by decide +kernel
theorem dX1_go_138 : decode cX1_go 138 = .ok (.iconst 0, 1) := by decide +kernel
theorem dX1_go_139 : decode cX1_go 139 = .ok (.putfield 9, 3) := by decide +kernel
theorem dX1_go_142 : decode cX1_go 142 = .ok (.return_, 1) := by decide +kernel
theorem dX1_comeToFirst_0 : decode cX1_comeToFirst 0 = .ok (.aload_n 2, 1) := by decide +kernel
theorem dX1_comeToFirst_1 : decode cX1_comeToFirst 1 = .ok (.aload_n 1, 1) := by decide +kernel
theorem dX1_comeToFirst_2 : decode cX1_comeToFirst 2 = .ok (.invokevirtual 39, 3) := by decide +kernel
theorem dX1_comeToFirst_5 : decode cX1_comeToFirst 5 = .ok (.invokevirtual 69, 3) := by decide +kernel
theorem dX1_comeToFirst_8 : decode cX1_comeToFirst 8 = .ok (.istore_n 3, 1) := by decide +kernel
theorem dX1_comeToFirst_9 : decode cX1_comeToFirst 9 = .ok (.iload_n 3, 1) := by decide +kernel
theorem dX1_comeToFirst_10 : decode cX1_comeToFirst 10 = .ok (.ifCond .lt 16, 3) := by decide +kernel
theorem dX1_comeToFirst_13 : decode cX1_comeToFirst 13 = .ok (.aload_n 0, 1) := by decide +kernel
theorem dX1_comeToFirst_14 : decode cX1_comeToFirst 14 = .ok (.aload_n 0, 1) := by decide +kernel
theorem dX1_comeToFirst_15 : decode cX1_comeToFirst 15 = .ok (.getfield 15, 3) := by decide +kernel
theorem dX1_comeToFirst_18 : decode cX1_comeToFirst 18 = .ok (.iload_n 3, 1) := by decide +kernel
theorem dX1_comeToFirst_19 : decode cX1_comeToFirst 19 = .ok (.isub, 1) := by decide +kernel
theorem dX1_comeToFirst_20 : decode cX1_comeToFirst 20 = .ok (.putfield 19, 3) := by decide +kernel
theorem dX1_comeToFirst_23 : decode cX1_comeToFirst 23 = .ok (.goto 15, 3) := by decide +kernel
theorem dX1_comeToFirst_26 : decode cX1_comeToFirst 26 = .ok (.aload_n 2, 1) := by decide +kernel
theorem dX1_comeToFirst_27 : decode cX1_comeToFirst 27 = .ok (.aload_n 1, 1) := by decide +kernel
theorem dX1_comeToFirst_28 : decode cX1_comeToFirst 28 = .ok (.invokevirtual 39, 3) := by decide +kernel
theorem dX1_comeToFirst_31 : decode cX1_comeToFirst 31 = .ok (.aload_n 0, 1) := by decide +kernel
theorem dX1_comeToFirst_32 : decode cX1_comeToFirst 32 = .ok (.getfield 15, 3) := by decide +kernel
theorem dX1_comeToFirst_35 : decode cX1_comeToFirst 35 = .ok (.invokevirtual 43, 3) := by decide +kernel
theorem dX1_comeToFirst_38 : decode cX1_comeToFirst 38 = .ok (.return_, 1) := by decide +kernel
theorem dX2_init_0 : decode cX2_init 0 = .ok (.aload_n 0, 1) := by decide +kernel
theorem dX2_init_1 : decode cX2_init 1 = .ok (.invokespecial 3, 3) := by decide +kernel
theorem dX2_init_4 : decode cX2_init 4 = .ok (.aload_n 0, 1) := by decide +kernel
theorem dX2_init_5 : decode cX2_init 5 = .ok (.bipush 96, 2) := by decide +kernel
theorem dX2_init_7 : decode cX2_init 7 = .ok (.newarray .int, 2) := by decide +kernel
theorem dX2_init_9 : decode cX2_init 9 = .ok (.putfield 9, 3) := by decide +kernel
theorem dX2_init_12 : decode cX2_init 12 = .ok (.aload_n 0, 1) := by decide +kernel
theorem dX2_init_13 : decode cX2_init 13 = .ok (.iconst 0, 1) := by decide +kernel
theorem dX2_init_14 : decode cX2_init 14 = .ok (.putfield 15, 3) := by decide +kernel
theorem dX2_init_17 : decode cX2_init 17 = .ok (.return_, 1) := by decide +kernel
theorem dX2_take_0 : decode cX2_take 0 = .ok (.aload_n 0, 1) := by decide +kernel
theorem dX2_take_1 : decode cX2_take 1 = .ok (.getfield 15, 3) := by decide +kernel
theorem dX2_take_4 : decode cX2_take 4 = .ok (.bipush 96, 2) := by decide +kernel
theorem dX2_take_6 : decode cX2_take 6 = .ok (.if_icmp .ge 23, 3) := by decide +kernel
theorem dX2_take_9 : decode cX2_take 9 = .ok (.aload_n 0, 1) := by decide +kernel
theorem dX2_take_10 : decode cX2_take 10 = .ok (.getfield 9, 3) := by decide +kernel
theorem dX2_take_13 : decode cX2_take 13 = .ok (.aload_n 0, 1) := by decide +kernel
theorem dX2_take_14 : decode cX2_take 14 = .ok (.getfield 15, 3) := by decide +kernel
theorem dX2_take_17 : decode cX2_take 17 = .ok (.iload_n 1, 1) := by decide +kernel
theorem dX2_take_18 : decode cX2_take 18 = .ok (.iastore, 1) := by decide +kernel
theorem dX2_take_19 : decode cX2_take 19 = .ok (.aload_n 0, 1) := by decide +kernel
theorem dX2_take_20 : decode cX2_take 20 = .ok (.dup, 1) := by decide +kernel
theorem dX2_take_21 : decode cX2_take 21 = .ok (.getfield 15, 3) := by decide +kernel
theorem dX2_take_24 : decode cX2_take 24 = .ok (.iconst 1, 1) := by decide +kernel
theorem dX2_take_25 : decode cX2_take 25 = .ok (.iadd, 1) := by decide +kernel
theorem dX2_take_26 : decode cX2_take 26 = .ok (.putfield 15, 3) := by decide +kernel
theorem dX2_take_29 : decode cX2_take 29 = .ok (.aload_n 0, 1) := by decide +kernel
theorem dX2_take_30 : decode cX2_take 30 = .ok (.getfield 15, 3) := by decide +kernel
theorem dX2_take_33 : decode cX2_take 33 = .ok (.ireturn, 1) := by decide +kernel
theorem dX2_sign_0 : decode cX2_sign 0 = .ok (.iload_n 1, 1) := by decide +kernel
theorem dX2_sign_1 : decode cX2_sign 1 = .ok (.ifCond .lt 20, 3) := by decide +kernel
theorem dX2_sign_4 : decode cX2_sign 4 = .ok (.iload_n 1, 1) := by decide +kernel
theorem dX2_sign_5 : decode cX2_sign 5 = .ok (.aload_n 0, 1) := by decide +kernel
theorem dX2_sign_6 : decode cX2_sign 6 = .ok (.getfield 15, 3) := by decide +kernel
theorem dX2_sign_9 : decode cX2_sign 9 = .ok (.if_icmp .ge 12, 3) := by decide +kernel
theorem dX2_sign_12 : decode cX2_sign 12 = .ok (.aload_n 0, 1) := by decide +kernel
theorem dX2_sign_13 : decode cX2_sign 13 = .ok (.getfield 9, 3) := by decide +kernel
theorem dX2_sign_16 : decode cX2_sign 16 = .ok (.iload_n 1, 1) := by decide +kernel
theorem dX2_sign_17 : decode cX2_sign 17 = .ok (.iaload, 1) := by decide +kernel
theorem dX2_sign_18 : decode cX2_sign 18 = .ok (.goto 4, 3) := by decide +kernel
theorem dX2_sign_21 : decode cX2_sign 21 = .ok (.iconst (-1), 1) := by decide +kernel
theorem dX2_sign_22 : decode cX2_sign 22 = .ok (.ireturn, 1) := by decide +kernel
theorem dX2_digit_0 : decode cX2_digit 0 = .ok (.aload_n 0, 1) := by decide +kernel
theorem dX2_digit_1 : decode cX2_digit 1 = .ok (.iload_n 1, 1) := by decide +kernel
theorem dX2_digit_2 : decode cX2_digit 2 = .ok (.invokevirtual 19, 3) := by decide +kernel
theorem dX2_digit_5 : decode cX2_digit 5 = .ok (.bipush 48, 2) := by decide +kernel
theorem dX2_digit_7 : decode cX2_digit 7 = .ok (.isub, 1) := by decide +kernel
theorem dX2_digit_8 : decode cX2_digit 8 = .ok (.ireturn, 1) := by decide +kernel
theorem dX2_shape_0 : decode cX2_shape 0 = .ok (.iload_n 0, 1) := by decide +kernel
theorem dX2_shape_1 : decode cX2_shape 1 = .ok (.tableswitch 109 99 117 #[91, 109, 109, 109, 109, 109, 109, 109, 109, 103, 109, 94, 109, 97, 109, 109, 100, 109, 106], 91) := by decide +kernel
theorem dX2_shape_92 : decode cX2_shape 92 = .ok (.ldc 23, 2) := by decide +kernel
theorem dX2_shape_94 : decode cX2_shape 94 = .ok (.areturn, 1) := by decide +kernel
theorem dX2_shape_95 : decode cX2_shape 95 = .ok (.ldc 25, 2) := by decide +kernel
theorem dX2_shape_97 : decode cX2_shape 97 = .ok (.areturn, 1) := by decide +kernel
theorem dX2_shape_98 : decode cX2_shape 98 = .ok (.ldc 27, 2) := by decide +kernel
theorem dX2_shape_100 : decode cX2_shape 100 = .ok (.areturn, 1) := by decide +kernel
theorem dX2_shape_101 : decode cX2_shape 101 = .ok (.ldc 29, 2) := by decide +kernel
theorem dX2_shape_103 : decode cX2_shape 103 = .ok (.areturn, 1) := by decide +kernel
theorem dX2_shape_104 : decode cX2_shape 104 = .ok (.ldc 31, 2) := by decide +kernel
theorem dX2_shape_106 : decode cX2_shape 106 = .ok (.areturn, 1) := by decide +kernel
theorem dX2_shape_107 : decode cX2_shape 107 = .ok (.ldc 33, 2) := by decide +kernel
theorem dX2_shape_109 : decode cX2_shape 109 = .ok (.areturn, 1) := by decide +kernel
theorem dX2_shape_110 : decode cX2_shape 110 = .ok (.ldc 35, 2) := by decide +kernel
theorem dX2_shape_112 : decode cX2_shape 112 = .ok (.areturn, 1) := by decide +kernel
theorem dX2_suits_0 : decode cX2_suits 0 = .ok (.iload_n 1, 1) := by decide +kernel
theorem dX2_suits_1 : decode cX2_suits 1 = .ok (.bipush 48, 2) := by decide +kernel
theorem dX2_suits_3 : decode cX2_suits 3 = .ok (.if_icmp .ne 21, 3) := by decide +kernel
theorem dX2_suits_6 : decode cX2_suits 6 = .ok (.iload_n 0, 1) := by decide +kernel
theorem dX2_suits_7 : decode cX2_suits 7 = .ok (.bipush 48, 2) := by decide +kernel
theorem dX2_suits_9 : decode cX2_suits 9 = .ok (.if_icmp .lt 13, 3) := by decide +kernel
theorem dX2_suits_12 : decode cX2_suits 12 = .ok (.iload_n 0, 1) := by decide +kernel
theorem dX2_suits_13 : decode cX2_suits 13 = .ok (.bipush 57, 2) := by decide +kernel
theorem dX2_suits_15 : decode cX2_suits 15 = .ok (.if_icmp .gt 7, 3) := by decide +kernel
theorem dX2_suits_18 : decode cX2_suits 18 = .ok (.iconst 1, 1) := by decide +kernel
theorem dX2_suits_19 : decode cX2_suits 19 = .ok (.goto 4, 3) := by decide +kernel
theorem dX2_suits_22 : decode cX2_suits 22 = .ok (.iconst 0, 1) := by decide +kernel
theorem dX2_suits_23 : decode cX2_suits 23 = .ok (.ireturn, 1) := by decide +kernel
theorem dX2_suits_24 : decode cX2_suits 24 = .ok (.iload_n 1, 1) := by decide +kernel
theorem dX2_suits_25 : decode cX2_suits 25 = .ok (.bipush 43, 2) := by decide +kernel
theorem dX2_suits_27 : decode cX2_suits 27 = .ok (.if_icmp .ne 23, 3) := by decide +kernel
theorem dX2_suits_30 : decode cX2_suits 30 = .ok (.iload_n 0, 1) := by decide +kernel
theorem dX2_suits_31 : decode cX2_suits 31 = .ok (.bipush 43, 2) := by decide +kernel
theorem dX2_suits_33 : decode cX2_suits 33 = .ok (.if_icmp .eq 9, 3) := by decide +kernel
theorem dX2_suits_36 : decode cX2_suits 36 = .ok (.iload_n 0, 1) := by decide +kernel
theorem dX2_suits_37 : decode cX2_suits 37 = .ok (.bipush 45, 2) := by decide +kernel
theorem dX2_suits_39 : decode cX2_suits 39 = .ok (.if_icmp .ne 7, 3) := by decide +kernel
theorem dX2_suits_42 : decode cX2_suits 42 = .ok (.iconst 1, 1) := by decide +kernel
theorem dX2_suits_43 : decode cX2_suits 43 = .ok (.goto 17, 3) := by decide +kernel
theorem dX2_suits_46 : decode cX2_suits 46 = .ok (.iconst 0, 1) := by decide +kernel
theorem dX2_suits_47 : decode cX2_suits 47 = .ok (.goto 13, 3) := by decide +kernel
theorem dX2_suits_50 : decode cX2_suits 50 = .ok (.iload_n 0, 1) := by decide +kernel
theorem dX2_suits_51 : decode cX2_suits 51 = .ok (.iload_n 1, 1) := by decide +kernel
theorem dX2_suits_52 : decode cX2_suits 52 = .ok (.if_icmp .ne 7, 3) := by decide +kernel
theorem dX2_suits_55 : decode cX2_suits 55 = .ok (.iconst 1, 1) := by decide +kernel
theorem dX2_suits_56 : decode cX2_suits 56 = .ok (.goto 4, 3) := by decide +kernel
theorem dX2_suits_59 : decode cX2_suits 59 = .ok (.iconst 0, 1) := by decide +kernel
theorem dX2_suits_60 : decode cX2_suits 60 = .ok (.ireturn, 1) := by decide +kernel
theorem dX2_firstBad_0 : decode cX2_firstBad 0 = .ok (.ldc 35, 2) := by decide +kernel
theorem dX2_firstBad_2 : decode cX2_firstBad 2 = .ok (.astore_n 1, 1) := by decide +kernel
theorem dX2_firstBad_3 : decode cX2_firstBad 3 = .ok (.iconst 0, 1) := by decide +kernel
theorem dX2_firstBad_4 : decode cX2_firstBad 4 = .ok (.istore_n 2, 1) := by decide +kernel
theorem dX2_firstBad_5 : decode cX2_firstBad 5 = .ok (.iconst 0, 1) := by decide +kernel
theorem dX2_firstBad_6 : decode cX2_firstBad 6 = .ok (.istore_n 3, 1) := by decide +kernel
theorem dX2_firstBad_7 : decode cX2_firstBad 7 = .ok (.iload_n 3, 1) := by decide +kernel
theorem dX2_firstBad_8 : decode cX2_firstBad 8 = .ok (.aload_n 0, 1) := by decide +kernel
theorem dX2_firstBad_9 : decode cX2_firstBad 9 = .ok (.getfield 15, 3) := by decide +kernel
theorem dX2_firstBad_12 : decode cX2_firstBad 12 = .ok (.if_icmp .ge 58, 3) := by decide +kernel
theorem dX2_firstBad_15 : decode cX2_firstBad 15 = .ok (.iload_n 2, 1) := by decide +kernel
theorem dX2_firstBad_16 : decode cX2_firstBad 16 = .ok (.aload_n 1, 1) := by decide +kernel
theorem dX2_firstBad_17 : decode cX2_firstBad 17 = .ok (.invokevirtual 37, 3) := by decide +kernel
theorem dX2_firstBad_20 : decode cX2_firstBad 20 = .ok (.if_icmp .lt 15, 3) := by decide +kernel
theorem dX2_firstBad_23 : decode cX2_firstBad 23 = .ok (.aload_n 0, 1) := by decide +kernel
theorem dX2_firstBad_24 : decode cX2_firstBad 24 = .ok (.getfield 9, 3) := by decide +kernel
theorem dX2_firstBad_27 : decode cX2_firstBad 27 = .ok (.iload_n 3, 1) := by decide +kernel
theorem dX2_firstBad_28 : decode cX2_firstBad 28 = .ok (.iaload, 1) := by decide +kernel
theorem dX2_firstBad_29 : decode cX2_firstBad 29 = .ok (.invokestatic 43, 3) := by decide +kernel
theorem dX2_firstBad_32 : decode cX2_firstBad 32 = .ok (.astore_n 1, 1) := by decide +kernel
theorem dX2_firstBad_33 : decode cX2_firstBad 33 = .ok (.iconst 0, 1) := by decide +kernel
theorem dX2_firstBad_34 : decode cX2_firstBad 34 = .ok (.istore_n 2, 1) := by decide +kernel
theorem dX2_firstBad_35 : decode cX2_firstBad 35 = .ok (.aload_n 1, 1) := by decide +kernel
theorem dX2_firstBad_36 : decode cX2_firstBad 36 = .ok (.invokevirtual 47, 3) := by decide +kernel
theorem dX2_firstBad_39 : decode cX2_firstBad 39 = .ok (.ifCond .ne 20, 3) := by decide +kernel
theorem dX2_firstBad_42 : decode cX2_firstBad 42 = .ok (.aload_n 0, 1) := by decide +kernel
theorem dX2_firstBad_43 : decode cX2_firstBad 43 = .ok (.getfield 9, 3) := by decide +kernel
theorem dX2_firstBad_46 : decode cX2_firstBad 46 = .ok (.iload_n 3, 1) := by decide +kernel
theorem dX2_firstBad_47 : decode cX2_firstBad 47 = .ok (.iaload, 1) := by decide +kernel
theorem dX2_firstBad_48 : decode cX2_firstBad 48 = .ok (.aload_n 1, 1) := by decide +kernel
theorem dX2_firstBad_49 : decode cX2_firstBad 49 = .ok (.iload_n 2, 1) := by decide +kernel
theorem dX2_firstBad_50 : decode cX2_firstBad 50 = .ok (.invokevirtual 51, 3) := by decide +kernel
theorem dX2_firstBad_53 : decode cX2_firstBad 53 = .ok (.invokestatic 55, 3) := by decide +kernel
theorem dX2_firstBad_56 : decode cX2_firstBad 56 = .ok (.ifCond .ne 5, 3) := by decide +kernel
theorem dX2_firstBad_59 : decode cX2_firstBad 59 = .ok (.iload_n 3, 1) := by decide +kernel
theorem dX2_firstBad_60 : decode cX2_firstBad 60 = .ok (.ireturn, 1) := by decide +kernel
theorem dX2_firstBad_61 : decode cX2_firstBad 61 = .ok (.iinc 2 1, 3) := by decide +kernel
theorem dX2_firstBad_64 : decode cX2_firstBad 64 = .ok (.iinc 3 1, 3) := by decide +kernel
theorem dX2_firstBad_67 : decode cX2_firstBad 67 = .ok (.goto (-60), 3) := by decide +kernel
theorem dX2_firstBad_70 : decode cX2_firstBad 70 = .ok (.aload_n 0, 1) := by decide +kernel
theorem dX2_firstBad_71 : decode cX2_firstBad 71 = .ok (.getfield 15, 3) := by decide +kernel
theorem dX2_firstBad_74 : decode cX2_firstBad 74 = .ok (.ifCond .le 15, 3) := by decide +kernel
theorem dX2_firstBad_77 : decode cX2_firstBad 77 = .ok (.iload_n 2, 1) := by decide +kernel
theorem dX2_firstBad_78 : decode cX2_firstBad 78 = .ok (.aload_n 1, 1) := by decide +kernel
theorem dX2_firstBad_79 : decode cX2_firstBad 79 = .ok (.invokevirtual 37, 3) := by decide +kernel
theorem dX2_firstBad_82 : decode cX2_firstBad 82 = .ok (.if_icmp .ne 7, 3) := by decide +kernel
theorem dX2_firstBad_85 : decode cX2_firstBad 85 = .ok (.iconst (-1), 1) := by decide +kernel
theorem dX2_firstBad_86 : decode cX2_firstBad 86 = .ok (.goto 7, 3) := by decide +kernel
theorem dX2_firstBad_89 : decode cX2_firstBad 89 = .ok (.aload_n 0, 1) := by decide +kernel
theorem dX2_firstBad_90 : decode cX2_firstBad 90 = .ok (.getfield 15, 3) := by decide +kernel
theorem dX2_firstBad_93 : decode cX2_firstBad 93 = .ok (.ireturn, 1) := by decide +kernel
theorem dX2_beginsAt_0 : decode cX2_beginsAt 0 = .ok (.iload_n 1, 1) := by decide +kernel
theorem dX2_beginsAt_1 : decode cX2_beginsAt 1 = .ok (.ifCond .eq 15, 3) := by decide +kernel
theorem dX2_beginsAt_4 : decode cX2_beginsAt 4 = .ok (.aload_n 0, 1) := by decide +kernel
theorem dX2_beginsAt_5 : decode cX2_beginsAt 5 = .ok (.iload_n 1, 1) := by decide +kernel
theorem dX2_beginsAt_6 : decode cX2_beginsAt 6 = .ok (.iconst 1, 1) := by decide +kernel
theorem dX2_beginsAt_7 : decode cX2_beginsAt 7 = .ok (.isub, 1) := by decide +kernel
theorem dX2_beginsAt_8 : decode cX2_beginsAt 8 = .ok (.invokevirtual 19, 3) := by decide +kernel
theorem dX2_beginsAt_11 : decode cX2_beginsAt 11 = .ok (.bipush 59, 2) := by decide +kernel
theorem dX2_beginsAt_13 : decode cX2_beginsAt 13 = .ok (.if_icmp .ne 7, 3) := by decide +kernel
theorem dX2_beginsAt_16 : decode cX2_beginsAt 16 = .ok (.iconst 1, 1) := by decide +kernel
theorem dX2_beginsAt_17 : decode cX2_beginsAt 17 = .ok (.goto 4, 3) := by decide +kernel
theorem dX2_beginsAt_20 : decode cX2_beginsAt 20 = .ok (.iconst 0, 1) := by decide +kernel
theorem dX2_beginsAt_21 : decode cX2_beginsAt 21 = .ok (.ireturn, 1) := by decide +kernel
theorem dX2_tellOne_0 : decode cX2_tellOne 0 = .ok (.aload_n 0, 1) := by decide +kernel
theorem dX2_tellOne_1 : decode cX2_tellOne 1 = .ok (.iload_n 1, 1) := by decide +kernel
theorem dX2_tellOne_2 : decode cX2_tellOne 2 = .ok (.invokevirtual 19, 3) := by decide +kernel
theorem dX2_tellOne_5 : decode cX2_tellOne 5 = .ok (.tableswitch 236 99 117 #[91, 236, 236, 236, 236, 236, 236, 236, 236, 218, 236, 128, 236, 141, 236, 236, 183, 236, 231], 91) := by decide +kernel
theorem dX2_tellOne_96 : decode cX2_tellOne 96 = .ok (.aload_n 2, 1) := by decide +kernel
theorem dX2_tellOne_97 : decode cX2_tellOne 97 = .ok (.aload_n 0, 1) := by decide +kernel
theorem dX2_tellOne_98 : decode cX2_tellOne 98 = .ok (.iload_n 1, 1) := by decide +kernel
theorem dX2_tellOne_99 : decode cX2_tellOne 99 = .ok (.iconst 1, 1) := by decide +kernel
theorem dX2_tellOne_100 : decode cX2_tellOne 100 = .ok (.iadd, 1) := by decide +kernel
theorem dX2_tellOne_101 : decode cX2_tellOne 101 = .ok (.invokevirtual 59, 3) := by decide +kernel
theorem dX2_tellOne_104 : decode cX2_tellOne 104 = .ok (.aload_n 0, 1) := by decide +kernel
theorem dX2_tellOne_105 : decode cX2_tellOne 105 = .ok (.iload_n 1, 1) := by decide +kernel
theorem dX2_tellOne_106 : decode cX2_tellOne 106 = .ok (.iconst 2, 1) := by decide +kernel
theorem dX2_tellOne_107 : decode cX2_tellOne 107 = .ok (.iadd, 1) := by decide +kernel
theorem dX2_tellOne_108 : decode cX2_tellOne 108 = .ok (.invokevirtual 59, 3) := by decide +kernel
theorem dX2_tellOne_111 : decode cX2_tellOne 111 = .ok (.bipush 10, 2) := by decide +kernel
theorem dX2_tellOne_113 : decode cX2_tellOne 113 = .ok (.aload_n 0, 1) := by decide +kernel
theorem dX2_tellOne_114 : decode cX2_tellOne 114 = .ok (.iload_n 1, 1) := by decide +kernel
theorem dX2_tellOne_115 : decode cX2_tellOne 115 = .ok (.iconst 3, 1) := by decide +kernel
theorem dX2_tellOne_116 : decode cX2_tellOne 116 = .ok (.iadd, 1) := by decide +kernel
theorem dX2_tellOne_117 : decode cX2_tellOne 117 = .ok (.invokevirtual 59, 3) := by decide +kernel
theorem dX2_tellOne_120 : decode cX2_tellOne 120 = .ok (.imul, 1) := by decide +kernel
theorem dX2_tellOne_121 : decode cX2_tellOne 121 = .ok (.aload_n 0, 1) := by decide +kernel
theorem dX2_tellOne_122 : decode cX2_tellOne 122 = .ok (.iload_n 1, 1) := by decide +kernel
theorem dX2_tellOne_123 : decode cX2_tellOne 123 = .ok (.iconst 4, 1) := by decide +kernel
theorem dX2_tellOne_124 : decode cX2_tellOne 124 = .ok (.iadd, 1) := by decide +kernel
theorem dX2_tellOne_125 : decode cX2_tellOne 125 = .ok (.invokevirtual 59, 3) := by decide +kernel
theorem dX2_tellOne_128 : decode cX2_tellOne 128 = .ok (.iadd, 1) := by decide +kernel
theorem dX2_tellOne_129 : decode cX2_tellOne 129 = .ok (.invokevirtual 62, 3) := by decide +kernel
theorem dX2_tellOne_132 : decode cX2_tellOne 132 = .ok (.ireturn, 1) := by decide +kernel
theorem dX2_tellOne_133 : decode cX2_tellOne 133 = .ok (.aload_n 2, 1) := by decide +kernel
theorem dX2_tellOne_134 : decode cX2_tellOne 134 = .ok (.iconst 0, 1) := by decide +kernel
theorem dX2_tellOne_135 : decode cX2_tellOne 135 = .ok (.aload_n 0, 1) := by decide +kernel
theorem dX2_tellOne_136 : decode cX2_tellOne 136 = .ok (.iload_n 1, 1) := by decide +kernel
theorem dX2_tellOne_137 : decode cX2_tellOne 137 = .ok (.iconst 1, 1) := by decide +kernel
theorem dX2_tellOne_138 : decode cX2_tellOne 138 = .ok (.iadd, 1) := by decide +kernel
theorem dX2_tellOne_139 : decode cX2_tellOne 139 = .ok (.invokevirtual 59, 3) := by decide +kernel
theorem dX2_tellOne_142 : decode cX2_tellOne 142 = .ok (.invokevirtual 68, 3) := by decide +kernel
theorem dX2_tellOne_145 : decode cX2_tellOne 145 = .ok (.ireturn, 1) := by decide +kernel
theorem dX2_tellOne_146 : decode cX2_tellOne 146 = .ok (.aload_n 2, 1) := by decide +kernel
theorem dX2_tellOne_147 : decode cX2_tellOne 147 = .ok (.aload_n 0, 1) := by decide +kernel
theorem dX2_tellOne_148 : decode cX2_tellOne 148 = .ok (.iload_n 1, 1) := by decide +kernel
theorem dX2_tellOne_149 : decode cX2_tellOne 149 = .ok (.iconst 1, 1) := by decide +kernel
theorem dX2_tellOne_150 : decode cX2_tellOne 150 = .ok (.iadd, 1) := by decide +kernel
theorem dX2_tellOne_151 : decode cX2_tellOne 151 = .ok (.invokevirtual 59, 3) := by decide +kernel
theorem dX2_tellOne_154 : decode cX2_tellOne 154 = .ok (.aload_n 0, 1) := by decide +kernel
theorem dX2_tellOne_155 : decode cX2_tellOne 155 = .ok (.iload_n 1, 1) := by decide +kernel
theorem dX2_tellOne_156 : decode cX2_tellOne 156 = .ok (.iconst 2, 1) := by decide +kernel
theorem dX2_tellOne_157 : decode cX2_tellOne 157 = .ok (.iadd, 1) := by decide +kernel
theorem dX2_tellOne_158 : decode cX2_tellOne 158 = .ok (.invokevirtual 19, 3) := by decide +kernel
theorem dX2_tellOne_161 : decode cX2_tellOne 161 = .ok (.bipush 45, 2) := by decide +kernel
theorem dX2_tellOne_163 : decode cX2_tellOne 163 = .ok (.if_icmp .ne 14, 3) := by decide +kernel
theorem dX2_tellOne_166 : decode cX2_tellOne 166 = .ok (.aload_n 0, 1) := by decide +kernel
theorem dX2_tellOne_167 : decode cX2_tellOne 167 = .ok (.iload_n 1, 1) := by decide +kernel
theorem dX2_tellOne_168 : decode cX2_tellOne 168 = .ok (.iconst 3, 1) := by decide +kernel
theorem dX2_tellOne_169 : decode cX2_tellOne 169 = .ok (.iadd, 1) := by decide +kernel
theorem dX2_tellOne_170 : decode cX2_tellOne 170 = .ok (.invokevirtual 59, 3) := by decide +kernel
theorem dX2_tellOne_173 : decode cX2_tellOne 173 = .ok (.ineg, 1) := by decide +kernel
theorem dX2_tellOne_174 : decode cX2_tellOne 174 = .ok (.goto 10, 3) := by decide +kernel
theorem dX2_tellOne_177 : decode cX2_tellOne 177 = .ok (.aload_n 0, 1) := by decide +kernel
theorem dX2_tellOne_178 : decode cX2_tellOne 178 = .ok (.iload_n 1, 1) := by decide +kernel
theorem dX2_tellOne_179 : decode cX2_tellOne 179 = .ok (.iconst 3, 1) := by decide +kernel
theorem dX2_tellOne_180 : decode cX2_tellOne 180 = .ok (.iadd, 1) := by decide +kernel
theorem dX2_tellOne_181 : decode cX2_tellOne 181 = .ok (.invokevirtual 59, 3) := by decide +kernel
theorem dX2_tellOne_184 : decode cX2_tellOne 184 = .ok (.invokevirtual 71, 3) := by decide +kernel
theorem dX2_tellOne_187 : decode cX2_tellOne 187 = .ok (.ireturn, 1) := by decide +kernel
theorem dX2_tellOne_188 : decode cX2_tellOne 188 = .ok (.aload_n 2, 1) := by decide +kernel
theorem dX2_tellOne_189 : decode cX2_tellOne 189 = .ok (.iconst 1, 1) := by decide +kernel
theorem dX2_tellOne_190 : decode cX2_tellOne 190 = .ok (.bipush 100, 2) := by decide +kernel
theorem dX2_tellOne_192 : decode cX2_tellOne 192 = .ok (.aload_n 0, 1) := by decide +kernel
theorem dX2_tellOne_193 : decode cX2_tellOne 193 = .ok (.iload_n 1, 1) := by decide +kernel
theorem dX2_tellOne_194 : decode cX2_tellOne 194 = .ok (.iconst 1, 1) := by decide +kernel
theorem dX2_tellOne_195 : decode cX2_tellOne 195 = .ok (.iadd, 1) := by decide +kernel
theorem dX2_tellOne_196 : decode cX2_tellOne 196 = .ok (.invokevirtual 59, 3) := by decide +kernel
theorem dX2_tellOne_199 : decode cX2_tellOne 199 = .ok (.imul, 1) := by decide +kernel
theorem dX2_tellOne_200 : decode cX2_tellOne 200 = .ok (.bipush 10, 2) := by decide +kernel
theorem dX2_tellOne_202 : decode cX2_tellOne 202 = .ok (.aload_n 0, 1) := by decide +kernel
theorem dX2_tellOne_203 : decode cX2_tellOne 203 = .ok (.iload_n 1, 1) := by decide +kernel
theorem dX2_tellOne_204 : decode cX2_tellOne 204 = .ok (.iconst 2, 1) := by decide +kernel
theorem dX2_tellOne_205 : decode cX2_tellOne 205 = .ok (.iadd, 1) := by decide +kernel
theorem dX2_tellOne_206 : decode cX2_tellOne 206 = .ok (.invokevirtual 59, 3) := by decide +kernel
theorem dX2_tellOne_209 : decode cX2_tellOne 209 = .ok (.imul, 1) := by decide +kernel
theorem dX2_tellOne_210 : decode cX2_tellOne 210 = .ok (.iadd, 1) := by decide +kernel
theorem dX2_tellOne_211 : decode cX2_tellOne 211 = .ok (.aload_n 0, 1) := by decide +kernel
theorem dX2_tellOne_212 : decode cX2_tellOne 212 = .ok (.iload_n 1, 1) := by decide +kernel
theorem dX2_tellOne_213 : decode cX2_tellOne 213 = .ok (.iconst 3, 1) := by decide +kernel
theorem dX2_tellOne_214 : decode cX2_tellOne 214 = .ok (.iadd, 1) := by decide +kernel
theorem dX2_tellOne_215 : decode cX2_tellOne 215 = .ok (.invokevirtual 59, 3) := by decide +kernel
theorem dX2_tellOne_218 : decode cX2_tellOne 218 = .ok (.iadd, 1) := by decide +kernel
theorem dX2_tellOne_219 : decode cX2_tellOne 219 = .ok (.invokevirtual 68, 3) := by decide +kernel
theorem dX2_tellOne_222 : decode cX2_tellOne 222 = .ok (.ireturn, 1) := by decide +kernel
theorem dX2_tellOne_223 : decode cX2_tellOne 223 = .ok (.aload_n 2, 1) := by decide +kernel
theorem dX2_tellOne_224 : decode cX2_tellOne 224 = .ok (.iconst 2, 1) := by decide +kernel
theorem dX2_tellOne_225 : decode cX2_tellOne 225 = .ok (.aload_n 0, 1) := by decide +kernel
theorem dX2_tellOne_226 : decode cX2_tellOne 226 = .ok (.iload_n 1, 1) := by decide +kernel
theorem dX2_tellOne_227 : decode cX2_tellOne 227 = .ok (.iconst 1, 1) := by decide +kernel
theorem dX2_tellOne_228 : decode cX2_tellOne 228 = .ok (.iadd, 1) := by decide +kernel
theorem dX2_tellOne_229 : decode cX2_tellOne 229 = .ok (.invokevirtual 59, 3) := by decide +kernel
theorem dX2_tellOne_232 : decode cX2_tellOne 232 = .ok (.invokevirtual 68, 3) := by decide +kernel
theorem dX2_tellOne_235 : decode cX2_tellOne 235 = .ok (.ireturn, 1) := by decide +kernel
theorem dX2_tellOne_236 : decode cX2_tellOne 236 = .ok (.aload_n 2, 1) := by decide +kernel
theorem dX2_tellOne_237 : decode cX2_tellOne 237 = .ok (.invokevirtual 74, 3) := by decide +kernel
theorem dX2_tellOne_240 : decode cX2_tellOne 240 = .ok (.ireturn, 1) := by decide +kernel
theorem dX2_tellOne_241 : decode cX2_tellOne 241 = .ok (.iconst 0, 1) := by decide +kernel
theorem dX2_tellOne_242 : decode cX2_tellOne 242 = .ok (.ireturn, 1) := by decide +kernel
theorem dX3_init_0 : decode cX3_init 0 = .ok (.aload_n 0, 1) := by decide +kernel
theorem dX3_init_1 : decode cX3_init 1 = .ok (.invokespecial 3, 3) := by decide +kernel
theorem dX3_init_4 : decode cX3_init 4 = .ok (.aload_n 0, 1) := by decide +kernel
theorem dX3_init_5 : decode cX3_init 5 = .ok (.bipush 8, 2) := by decide +kernel
theorem dX3_init_7 : decode cX3_init 7 = .ok (.newarray .int, 2) := by decide +kernel
theorem dX3_init_9 : decode cX3_init 9 = .ok (.putfield 9, 3) := by decide +kernel
theorem dX3_init_12 : decode cX3_init 12 = .ok (.aload_n 0, 1) := by decide +kernel
theorem dX3_init_13 : decode cX3_init 13 = .ok (.iconst 4, 1) := by decide +kernel
theorem dX3_init_14 : decode cX3_init 14 = .ok (.putfield 15, 3) := by decide +kernel
theorem dX3_init_17 : decode cX3_init 17 = .ok (.return_, 1) := by decide +kernel
theorem dX3_has_0 : decode cX3_has 0 = .ok (.iload_n 1, 1) := by decide +kernel
theorem dX3_has_1 : decode cX3_has 1 = .ok (.ifCond .lt 15, 3) := by decide +kernel
theorem dX3_has_4 : decode cX3_has 4 = .ok (.iload_n 1, 1) := by decide +kernel
theorem dX3_has_5 : decode cX3_has 5 = .ok (.aload_n 0, 1) := by decide +kernel
theorem dX3_has_6 : decode cX3_has 6 = .ok (.getfield 15, 3) := by decide +kernel
theorem dX3_has_9 : decode cX3_has 9 = .ok (.if_icmp .ge 7, 3) := by decide +kernel
theorem dX3_has_12 : decode cX3_has 12 = .ok (.iconst 1, 1) := by decide +kernel
theorem dX3_has_13 : decode cX3_has 13 = .ok (.goto 4, 3) := by decide +kernel
theorem dX3_has_16 : decode cX3_has 16 = .ok (.iconst 0, 1) := by decide +kernel
theorem dX3_has_17 : decode cX3_has 17 = .ok (.ireturn, 1) := by decide +kernel
theorem dX3_number_0 : decode cX3_number 0 = .ok (.aload_n 0, 1) := by decide +kernel
theorem dX3_number_1 : decode cX3_number 1 = .ok (.iload_n 1, 1) := by decide +kernel
theorem dX3_number_2 : decode cX3_number 2 = .ok (.invokevirtual 19, 3) := by decide +kernel
theorem dX3_number_5 : decode cX3_number 5 = .ok (.ifCond .eq 12, 3) := by decide +kernel
theorem dX3_number_8 : decode cX3_number 8 = .ok (.aload_n 0, 1) := by decide +kernel
theorem dX3_number_9 : decode cX3_number 9 = .ok (.getfield 9, 3) := by decide +kernel
theorem dX3_number_12 : decode cX3_number 12 = .ok (.iload_n 1, 1) := by decide +kernel
theorem dX3_number_13 : decode cX3_number 13 = .ok (.iaload, 1) := by decide +kernel
theorem dX3_number_14 : decode cX3_number 14 = .ok (.goto 4, 3) := by decide +kernel
theorem dX3_number_17 : decode cX3_number 17 = .ok (.iconst 0, 1) := by decide +kernel
theorem dX3_number_18 : decode cX3_number 18 = .ok (.ireturn, 1) := by decide +kernel
theorem dX3_put_0 : decode cX3_put 0 = .ok (.aload_n 0, 1) := by decide +kernel
theorem dX3_put_1 : decode cX3_put 1 = .ok (.iload_n 1, 1) := by decide +kernel
theorem dX3_put_2 : decode cX3_put 2 = .ok (.invokevirtual 19, 3) := by decide +kernel
theorem dX3_put_5 : decode cX3_put 5 = .ok (.ifCond .eq 20, 3) := by decide +kernel
theorem dX3_put_8 : decode cX3_put 8 = .ok (.aload_n 0, 1) := by decide +kernel
theorem dX3_put_9 : decode cX3_put 9 = .ok (.getfield 9, 3) := by decide +kernel
theorem dX3_put_12 : decode cX3_put 12 = .ok (.iload_n 1, 1) := by decide +kernel
theorem dX3_put_13 : decode cX3_put 13 = .ok (.bipush (-9), 2) := by decide +kernel
theorem dX3_put_15 : decode cX3_put 15 = .ok (.bipush 9, 2) := by decide +kernel
theorem dX3_put_17 : decode cX3_put 17 = .ok (.iload_n 2, 1) := by decide +kernel
theorem dX3_put_18 : decode cX3_put 18 = .ok (.invokestatic 23, 3) := by decide +kernel
theorem dX3_put_21 : decode cX3_put 21 = .ok (.invokestatic 29, 3) := by decide +kernel
theorem dX3_put_24 : decode cX3_put 24 = .ok (.iastore, 1) := by decide +kernel
theorem dX3_put_25 : decode cX3_put 25 = .ok (.return_, 1) := by decide +kernel
theorem dX3_move_0 : decode cX3_move 0 = .ok (.aload_n 0, 1) := by decide +kernel
theorem dX3_move_1 : decode cX3_move 1 = .ok (.iload_n 1, 1) := by decide +kernel
theorem dX3_move_2 : decode cX3_move 2 = .ok (.iconst 2, 1) := by decide +kernel
theorem dX3_move_3 : decode cX3_move 3 = .ok (.idiv, 1) := by decide +kernel
theorem dX3_move_4 : decode cX3_move 4 = .ok (.invokevirtual 32, 3) := by decide +kernel
theorem dX3_move_7 : decode cX3_move 7 = .ok (.istore_n 2, 1) := by decide +kernel
theorem dX3_move_8 : decode cX3_move 8 = .ok (.aload_n 0, 1) := by decide +kernel
theorem dX3_move_9 : decode cX3_move 9 = .ok (.iload_n 1, 1) := by decide +kernel
theorem dX3_move_10 : decode cX3_move 10 = .ok (.iconst 2, 1) := by decide +kernel
theorem dX3_move_11 : decode cX3_move 11 = .ok (.idiv, 1) := by decide +kernel
theorem dX3_move_12 : decode cX3_move 12 = .ok (.iload_n 1, 1) := by decide +kernel
theorem dX3_move_13 : decode cX3_move 13 = .ok (.iconst 2, 1) := by decide +kernel
theorem dX3_move_14 : decode cX3_move 14 = .ok (.irem, 1) := by decide +kernel
theorem dX3_move_15 : decode cX3_move 15 = .ok (.ifCond .ne 9, 3) := by decide +kernel
theorem dX3_move_18 : decode cX3_move 18 = .ok (.iload_n 2, 1) := by decide +kernel
theorem dX3_move_19 : decode cX3_move 19 = .ok (.iconst 1, 1) := by decide +kernel
theorem dX3_move_20 : decode cX3_move 20 = .ok (.iadd, 1) := by decide +kernel
theorem dX3_move_21 : decode cX3_move 21 = .ok (.goto 6, 3) := by decide +kernel
theorem dX3_move_24 : decode cX3_move 24 = .ok (.iload_n 2, 1) := by decide +kernel
theorem dX3_move_25 : decode cX3_move 25 = .ok (.iconst 1, 1) := by decide +kernel
theorem dX3_move_26 : decode cX3_move 26 = .ok (.isub, 1) := by decide +kernel
theorem dX3_move_27 : decode cX3_move 27 = .ok (.invokevirtual 36, 3) := by decide +kernel
theorem dX3_move_30 : decode cX3_move 30 = .ok (.iload_n 2, 1) := by decide +kernel
theorem dX3_move_31 : decode cX3_move 31 = .ok (.ireturn, 1) := by decide +kernel
theorem dX3_resize_0 : decode cX3_resize 0 = .ok (.aload_n 0, 1) := by decide +kernel
theorem dX3_resize_1 : decode cX3_resize 1 = .ok (.iconst 1, 1) := by decide +kernel
theorem dX3_resize_2 : decode cX3_resize 2 = .ok (.bipush 8, 2) := by decide +kernel
theorem dX3_resize_4 : decode cX3_resize 4 = .ok (.iload_n 1, 1) := by decide +kernel
theorem dX3_resize_5 : decode cX3_resize 5 = .ok (.invokestatic 23, 3) := by decide +kernel
theorem dX3_resize_8 : decode cX3_resize 8 = .ok (.invokestatic 29, 3) := by decide +kernel
theorem dX3_resize_11 : decode cX3_resize 11 = .ok (.putfield 15, 3) := by decide +kernel
theorem dX3_resize_14 : decode cX3_resize 14 = .ok (.aload_n 0, 1) := by decide +kernel
theorem dX3_resize_15 : decode cX3_resize 15 = .ok (.getfield 15, 3) := by decide +kernel
theorem dX3_resize_18 : decode cX3_resize 18 = .ok (.istore_n 2, 1) := by decide +kernel
theorem dX3_resize_19 : decode cX3_resize 19 = .ok (.iload_n 2, 1) := by decide +kernel
theorem dX3_resize_20 : decode cX3_resize 20 = .ok (.bipush 8, 2) := by decide +kernel
theorem dX3_resize_22 : decode cX3_resize 22 = .ok (.if_icmp .ge 16, 3) := by decide +kernel
theorem dX3_resize_25 : decode cX3_resize 25 = .ok (.aload_n 0, 1) := by decide +kernel
theorem dX3_resize_26 : decode cX3_resize 26 = .ok (.getfield 9, 3) := by decide +kernel
theorem dX3_resize_29 : decode cX3_resize 29 = .ok (.iload_n 2, 1) := by decide +kernel
theorem dX3_resize_30 : decode cX3_resize 30 = .ok (.iconst 0, 1) := by decide +kernel
theorem dX3_resize_31 : decode cX3_resize 31 = .ok (.iastore, 1) := by decide +kernel
theorem dX3_resize_32 : decode cX3_resize 32 = .ok (.iinc 2 1, 3) := by decide +kernel
theorem dX3_resize_35 : decode cX3_resize 35 = .ok (.goto (-16), 3) := by decide +kernel
theorem dX3_resize_38 : decode cX3_resize 38 = .ok (.return_, 1) := by decide +kernel
theorem dX3_copyFrom_0 : decode cX3_copyFrom 0 = .ok (.aload_n 0, 1) := by decide +kernel
theorem dX3_copyFrom_1 : decode cX3_copyFrom 1 = .ok (.aload_n 1, 1) := by decide +kernel
theorem dX3_copyFrom_2 : decode cX3_copyFrom 2 = .ok (.getfield 15, 3) := by decide +kernel
theorem dX3_copyFrom_5 : decode cX3_copyFrom 5 = .ok (.putfield 15, 3) := by decide +kernel
theorem dX3_copyFrom_8 : decode cX3_copyFrom 8 = .ok (.aload_n 1, 1) := by decide +kernel
theorem dX3_copyFrom_9 : decode cX3_copyFrom 9 = .ok (.getfield 9, 3) := by decide +kernel
theorem dX3_copyFrom_12 : decode cX3_copyFrom 12 = .ok (.iconst 0, 1) := by decide +kernel
theorem dX3_copyFrom_13 : decode cX3_copyFrom 13 = .ok (.aload_n 0, 1) := by decide +kernel
theorem dX3_copyFrom_14 : decode cX3_copyFrom 14 = .ok (.getfield 9, 3) := by decide +kernel
theorem dX3_copyFrom_17 : decode cX3_copyFrom 17 = .ok (.iconst 0, 1) := by decide +kernel
theorem dX3_copyFrom_18 : decode cX3_copyFrom 18 = .ok (.bipush 8, 2) := by decide +kernel
theorem dX3_copyFrom_20 : decode cX3_copyFrom 20 = .ok (.invokestatic 40, 3) := by decide +kernel
theorem dX3_copyFrom_23 : decode cX3_copyFrom 23 = .ok (.return_, 1) := by decide +kernel
theorem dX3_beThree_0 : decode cX3_beThree 0 = .ok (.iconst 2, 1) := by decide +kernel
theorem dX3_beThree_1 : decode cX3_beThree 1 = .ok (.iconst 0, 1) := by decide +kernel
theorem dX3_beThree_2 : decode cX3_beThree 2 = .ok (.iload_n 2, 1) := by decide +kernel
theorem dX3_beThree_3 : decode cX3_beThree 3 = .ok (.invokestatic 29, 3) := by decide +kernel
theorem dX3_beThree_6 : decode cX3_beThree 6 = .ok (.imul, 1) := by decide +kernel
theorem dX3_beThree_7 : decode cX3_beThree 7 = .ok (.iconst 1, 1) := by decide +kernel
theorem dX3_beThree_8 : decode cX3_beThree 8 = .ok (.iadd, 1) := by decide +kernel
theorem dX3_beThree_9 : decode cX3_beThree 9 = .ok (.istore_n 3, 1) := by decide +kernel
theorem dX3_beThree_10 : decode cX3_beThree 10 = .ok (.aload_n 0, 1) := by decide +kernel
theorem dX3_beThree_11 : decode cX3_beThree 11 = .ok (.iconst 3, 1) := by decide +kernel
theorem dX3_beThree_12 : decode cX3_beThree 12 = .ok (.invokevirtual 46, 3) := by decide +kernel
theorem dX3_beThree_15 : decode cX3_beThree 15 = .ok (.aload_n 0, 1) := by decide +kernel
theorem dX3_beThree_16 : decode cX3_beThree 16 = .ok (.iconst 0, 1) := by decide +kernel
theorem dX3_beThree_17 : decode cX3_beThree 17 = .ok (.iload_n 1, 1) := by decide +kernel
theorem dX3_beThree_18 : decode cX3_beThree 18 = .ok (.iload_n 3, 1) := by decide +kernel
theorem dX3_beThree_19 : decode cX3_beThree 19 = .ok (.iload_n 3, 1) := by decide +kernel
theorem dX3_beThree_20 : decode cX3_beThree 20 = .ok (.imul, 1) := by decide +kernel
theorem dX3_beThree_21 : decode cX3_beThree 21 = .ok (.idiv, 1) := by decide +kernel
theorem dX3_beThree_22 : decode cX3_beThree 22 = .ok (.iload_n 2, 1) := by decide +kernel
theorem dX3_beThree_23 : decode cX3_beThree 23 = .ok (.isub, 1) := by decide +kernel
theorem dX3_beThree_24 : decode cX3_beThree 24 = .ok (.invokevirtual 36, 3) := by decide +kernel
theorem dX3_beThree_27 : decode cX3_beThree 27 = .ok (.aload_n 0, 1) := by decide +kernel
theorem dX3_beThree_28 : decode cX3_beThree 28 = .ok (.iconst 1, 1) := by decide +kernel
theorem dX3_beThree_29 : decode cX3_beThree 29 = .ok (.iload_n 1, 1) := by decide +kernel
theorem dX3_beThree_30 : decode cX3_beThree 30 = .ok (.iload_n 3, 1) := by decide +kernel
theorem dX3_beThree_31 : decode cX3_beThree 31 = .ok (.idiv, 1) := by decide +kernel
theorem dX3_beThree_32 : decode cX3_beThree 32 = .ok (.iload_n 3, 1) := by decide +kernel
theorem dX3_beThree_33 : decode cX3_beThree 33 = .ok (.irem, 1) := by decide +kernel
theorem dX3_beThree_34 : decode cX3_beThree 34 = .ok (.iload_n 2, 1) := by decide +kernel
theorem dX3_beThree_35 : decode cX3_beThree 35 = .ok (.isub, 1) := by decide +kernel
theorem dX3_beThree_36 : decode cX3_beThree 36 = .ok (.invokevirtual 36, 3) := by decide +kernel
theorem dX3_beThree_39 : decode cX3_beThree 39 = .ok (.aload_n 0, 1) := by decide +kernel
theorem dX3_beThree_40 : decode cX3_beThree 40 = .ok (.iconst 2, 1) := by decide +kernel
theorem dX3_beThree_41 : decode cX3_beThree 41 = .ok (.iload_n 1, 1) := by decide +kernel
theorem dX3_beThree_42 : decode cX3_beThree 42 = .ok (.iload_n 3, 1) := by decide +kernel
theorem dX3_beThree_43 : decode cX3_beThree 43 = .ok (.irem, 1) := by decide +kernel
theorem dX3_beThree_44 : decode cX3_beThree 44 = .ok (.iload_n 2, 1) := by decide +kernel
theorem dX3_beThree_45 : decode cX3_beThree 45 = .ok (.isub, 1) := by decide +kernel
theorem dX3_beThree_46 : decode cX3_beThree 46 = .ok (.invokevirtual 36, 3) := by decide +kernel
theorem dX3_beThree_49 : decode cX3_beThree 49 = .ok (.return_, 1) := by decide +kernel
theorem dX3_sum_0 : decode cX3_sum 0 = .ok (.iconst 0, 1) := by decide +kernel
theorem dX3_sum_1 : decode cX3_sum 1 = .ok (.istore_n 1, 1) := by decide +kernel
theorem dX3_sum_2 : decode cX3_sum 2 = .ok (.iconst 0, 1) := by decide +kernel
theorem dX3_sum_3 : decode cX3_sum 3 = .ok (.istore_n 2, 1) := by decide +kernel
theorem dX3_sum_4 : decode cX3_sum 4 = .ok (.iload_n 2, 1) := by decide +kernel
theorem dX3_sum_5 : decode cX3_sum 5 = .ok (.aload_n 0, 1) := by decide +kernel
theorem dX3_sum_6 : decode cX3_sum 6 = .ok (.getfield 15, 3) := by decide +kernel
theorem dX3_sum_9 : decode cX3_sum 9 = .ok (.if_icmp .ge 18, 3) := by decide +kernel
theorem dX3_sum_12 : decode cX3_sum 12 = .ok (.iload_n 1, 1) := by decide +kernel
theorem dX3_sum_13 : decode cX3_sum 13 = .ok (.aload_n 0, 1) := by decide +kernel
theorem dX3_sum_14 : decode cX3_sum 14 = .ok (.getfield 9, 3) := by decide +kernel
theorem dX3_sum_17 : decode cX3_sum 17 = .ok (.iload_n 2, 1) := by decide +kernel
theorem dX3_sum_18 : decode cX3_sum 18 = .ok (.iaload, 1) := by decide +kernel
theorem dX3_sum_19 : decode cX3_sum 19 = .ok (.iadd, 1) := by decide +kernel
theorem dX3_sum_20 : decode cX3_sum 20 = .ok (.istore_n 1, 1) := by decide +kernel
theorem dX3_sum_21 : decode cX3_sum 21 = .ok (.iinc 2 1, 3) := by decide +kernel
theorem dX3_sum_24 : decode cX3_sum 24 = .ok (.goto (-20), 3) := by decide +kernel
theorem dX3_sum_27 : decode cX3_sum 27 = .ok (.iload_n 1, 1) := by decide +kernel
theorem dX3_sum_28 : decode cX3_sum 28 = .ok (.ireturn, 1) := by decide +kernel
theorem dX3_isFor_0 : decode cX3_isFor 0 = .ok (.aload_n 0, 1) := by decide +kernel
theorem dX3_isFor_1 : decode cX3_isFor 1 = .ok (.invokevirtual 50, 3) := by decide +kernel
theorem dX3_isFor_4 : decode cX3_isFor 4 = .ok (.ifCond .le 7, 3) := by decide +kernel
theorem dX3_isFor_7 : decode cX3_isFor 7 = .ok (.iconst 1, 1) := by decide +kernel
theorem dX3_isFor_8 : decode cX3_isFor 8 = .ok (.goto 4, 3) := by decide +kernel
theorem dX3_isFor_11 : decode cX3_isFor 11 = .ok (.iconst 0, 1) := by decide +kernel
theorem dX3_isFor_12 : decode cX3_isFor 12 = .ok (.ireturn, 1) := by decide +kernel
theorem dX3_notZero_0 : decode cX3_notZero 0 = .ok (.iconst 0, 1) := by decide +kernel
theorem dX3_notZero_1 : decode cX3_notZero 1 = .ok (.istore_n 1, 1) := by decide +kernel
theorem dX3_notZero_2 : decode cX3_notZero 2 = .ok (.iconst 0, 1) := by decide +kernel
theorem dX3_notZero_3 : decode cX3_notZero 3 = .ok (.istore_n 2, 1) := by decide +kernel
theorem dX3_notZero_4 : decode cX3_notZero 4 = .ok (.iload_n 2, 1) := by decide +kernel
theorem dX3_notZero_5 : decode cX3_notZero 5 = .ok (.aload_n 0, 1) := by decide +kernel
theorem dX3_notZero_6 : decode cX3_notZero 6 = .ok (.getfield 15, 3) := by decide +kernel
theorem dX3_notZero_9 : decode cX3_notZero 9 = .ok (.if_icmp .ge 21, 3) := by decide +kernel
theorem dX3_notZero_12 : decode cX3_notZero 12 = .ok (.aload_n 0, 1) := by decide +kernel
theorem dX3_notZero_13 : decode cX3_notZero 13 = .ok (.getfield 9, 3) := by decide +kernel
theorem dX3_notZero_16 : decode cX3_notZero 16 = .ok (.iload_n 2, 1) := by decide +kernel
theorem dX3_notZero_17 : decode cX3_notZero 17 = .ok (.iaload, 1) := by decide +kernel
theorem dX3_notZero_18 : decode cX3_notZero 18 = .ok (.ifCond .eq 6, 3) := by decide +kernel
theorem dX3_notZero_21 : decode cX3_notZero 21 = .ok (.iinc 1 1, 3) := by decide +kernel
theorem dX3_notZero_24 : decode cX3_notZero 24 = .ok (.iinc 2 1, 3) := by decide +kernel
theorem dX3_notZero_27 : decode cX3_notZero 27 = .ok (.goto (-23), 3) := by decide +kernel
theorem dX3_notZero_30 : decode cX3_notZero 30 = .ok (.iload_n 1, 1) := by decide +kernel
theorem dX3_notZero_31 : decode cX3_notZero 31 = .ok (.ireturn, 1) := by decide +kernel
theorem dX3_isAs_0 : decode cX3_isAs 0 = .ok (.aload_n 0, 1) := by decide +kernel
theorem dX3_isAs_1 : decode cX3_isAs 1 = .ok (.getfield 15, 3) := by decide +kernel
theorem dX3_isAs_4 : decode cX3_isAs 4 = .ok (.aload_n 1, 1) := by decide +kernel
theorem dX3_isAs_5 : decode cX3_isAs 5 = .ok (.getfield 15, 3) := by decide +kernel
theorem dX3_isAs_8 : decode cX3_isAs 8 = .ok (.if_icmp .eq 5, 3) := by decide +kernel
theorem dX3_isAs_11 : decode cX3_isAs 11 = .ok (.iconst 0, 1) := by decide +kernel
theorem dX3_isAs_12 : decode cX3_isAs 12 = .ok (.ireturn, 1) := by decide +kernel
theorem dX3_isAs_13 : decode cX3_isAs 13 = .ok (.iconst 0, 1) := by decide +kernel
theorem dX3_isAs_14 : decode cX3_isAs 14 = .ok (.istore_n 2, 1) := by decide +kernel
theorem dX3_isAs_15 : decode cX3_isAs 15 = .ok (.iload_n 2, 1) := by decide +kernel
theorem dX3_isAs_16 : decode cX3_isAs 16 = .ok (.aload_n 0, 1) := by decide +kernel
theorem dX3_isAs_17 : decode cX3_isAs 17 = .ok (.getfield 15, 3) := by decide +kernel
theorem dX3_isAs_20 : decode cX3_isAs 20 = .ok (.if_icmp .ge 26, 3) := by decide +kernel
theorem dX3_isAs_23 : decode cX3_isAs 23 = .ok (.aload_n 0, 1) := by decide +kernel
theorem dX3_isAs_24 : decode cX3_isAs 24 = .ok (.getfield 9, 3) := by decide +kernel
theorem dX3_isAs_27 : decode cX3_isAs 27 = .ok (.iload_n 2, 1) := by decide +kernel
theorem dX3_isAs_28 : decode cX3_isAs 28 = .ok (.iaload, 1) := by decide +kernel
theorem dX3_isAs_29 : decode cX3_isAs 29 = .ok (.aload_n 1, 1) := by decide +kernel
theorem dX3_isAs_30 : decode cX3_isAs 30 = .ok (.getfield 9, 3) := by decide +kernel
theorem dX3_isAs_33 : decode cX3_isAs 33 = .ok (.iload_n 2, 1) := by decide +kernel
theorem dX3_isAs_34 : decode cX3_isAs 34 = .ok (.iaload, 1) := by decide +kernel
theorem dX3_isAs_35 : decode cX3_isAs 35 = .ok (.if_icmp .eq 5, 3) := by decide +kernel
theorem dX3_isAs_38 : decode cX3_isAs 38 = .ok (.iconst 0, 1) := by decide +kernel
theorem dX3_isAs_39 : decode cX3_isAs 39 = .ok (.ireturn, 1) := by decide +kernel
theorem dX3_isAs_40 : decode cX3_isAs 40 = .ok (.iinc 2 1, 3) := by decide +kernel
theorem dX3_isAs_43 : decode cX3_isAs 43 = .ok (.goto (-28), 3) := by decide +kernel
theorem dX3_isAs_46 : decode cX3_isAs 46 = .ok (.iconst 1, 1) := by decide +kernel
theorem dX3_isAs_47 : decode cX3_isAs 47 = .ok (.ireturn, 1) := by decide +kernel
theorem dX3_told_0 : decode cX3_told 0 = .ok (.lconst 0, 1) := by decide +kernel
theorem dX3_told_1 : decode cX3_told 1 = .ok (.lstore_n 1, 1) := by decide +kernel
theorem dX3_told_2 : decode cX3_told 2 = .ok (.iconst 0, 1) := by decide +kernel
theorem dX3_told_3 : decode cX3_told 3 = .ok (.istore_n 3, 1) := by decide +kernel
theorem dX3_told_4 : decode cX3_told 4 = .ok (.iload_n 3, 1) := by decide +kernel
theorem dX3_told_5 : decode cX3_told 5 = .ok (.aload_n 0, 1) := by decide +kernel
theorem dX3_told_6 : decode cX3_told 6 = .ok (.getfield 15, 3) := by decide +kernel
theorem dX3_told_9 : decode cX3_told 9 = .ok (.if_icmp .ge 27, 3) := by decide +kernel
theorem dX3_told_12 : decode cX3_told 12 = .ok (.lload_n 1, 1) := by decide +kernel
theorem dX3_told_13 : decode cX3_told 13 = .ok (.ldc2_w 54, 3) := by decide +kernel
theorem dX3_told_16 : decode cX3_told 16 = .ok (.lmul, 1) := by decide +kernel
theorem dX3_told_17 : decode cX3_told 17 = .ok (.aload_n 0, 1) := by decide +kernel
theorem dX3_told_18 : decode cX3_told 18 = .ok (.getfield 9, 3) := by decide +kernel
theorem dX3_told_21 : decode cX3_told 21 = .ok (.iload_n 3, 1) := by decide +kernel
theorem dX3_told_22 : decode cX3_told 22 = .ok (.iaload, 1) := by decide +kernel
theorem dX3_told_23 : decode cX3_told 23 = .ok (.i2l, 1) := by decide +kernel
theorem dX3_told_24 : decode cX3_told 24 = .ok (.ladd, 1) := by decide +kernel
theorem dX3_told_25 : decode cX3_told 25 = .ok (.ldc2_w 56, 3) := by decide +kernel
theorem dX3_told_28 : decode cX3_told 28 = .ok (.ladd, 1) := by decide +kernel
theorem dX3_told_29 : decode cX3_told 29 = .ok (.lstore_n 1, 1) := by decide +kernel
theorem dX3_told_30 : decode cX3_told 30 = .ok (.iinc 3 1, 3) := by decide +kernel
theorem dX3_told_33 : decode cX3_told 33 = .ok (.goto (-29), 3) := by decide +kernel
theorem dX3_told_36 : decode cX3_told 36 = .ok (.lload_n 1, 1) := by decide +kernel
theorem dX3_told_37 : decode cX3_told 37 = .ok (.lreturn, 1) := by decide +kernel
theorem dX3_surest_0 : decode cX3_surest 0 = .ok (.iconst 0, 1) := by decide +kernel
theorem dX3_surest_1 : decode cX3_surest 1 = .ok (.istore_n 1, 1) := by decide +kernel
theorem dX3_surest_2 : decode cX3_surest 2 = .ok (.iconst 0, 1) := by decide +kernel
theorem dX3_surest_3 : decode cX3_surest 3 = .ok (.istore_n 2, 1) := by decide +kernel
theorem dX3_surest_4 : decode cX3_surest 4 = .ok (.iconst 0, 1) := by decide +kernel
theorem dX3_surest_5 : decode cX3_surest 5 = .ok (.istore_n 3, 1) := by decide +kernel
theorem dX3_surest_6 : decode cX3_surest 6 = .ok (.iload_n 3, 1) := by decide +kernel
theorem dX3_surest_7 : decode cX3_surest 7 = .ok (.aload_n 0, 1) := by decide +kernel
theorem dX3_surest_8 : decode cX3_surest 8 = .ok (.getfield 15, 3) := by decide +kernel
theorem dX3_surest_11 : decode cX3_surest 11 = .ok (.if_icmp .ge 47, 3) := by decide +kernel
theorem dX3_surest_14 : decode cX3_surest 14 = .ok (.aload_n 0, 1) := by decide +kernel
theorem dX3_surest_15 : decode cX3_surest 15 = .ok (.getfield 9, 3) := by decide +kernel
theorem dX3_surest_18 : decode cX3_surest 18 = .ok (.iload_n 3, 1) := by decide +kernel
theorem dX3_surest_19 : decode cX3_surest 19 = .ok (.iaload, 1) := by decide +kernel
theorem dX3_surest_20 : decode cX3_surest 20 = .ok (.ifCond .ge 13, 3) := by decide +kernel
theorem dX3_surest_23 : decode cX3_surest 23 = .ok (.aload_n 0, 1) := by decide +kernel
theorem dX3_surest_24 : decode cX3_surest 24 = .ok (.getfield 9, 3) := by decide +kernel
theorem dX3_surest_27 : decode cX3_surest 27 = .ok (.iload_n 3, 1) := by decide +kernel
theorem dX3_surest_28 : decode cX3_surest 28 = .ok (.iaload, 1) := by decide +kernel
theorem dX3_surest_29 : decode cX3_surest 29 = .ok (.ineg, 1) := by decide +kernel
theorem dX3_surest_30 : decode cX3_surest 30 = .ok (.goto 9, 3) := by decide +kernel
theorem dX3_surest_33 : decode cX3_surest 33 = .ok (.aload_n 0, 1) := by decide +kernel
theorem dX3_surest_34 : decode cX3_surest 34 = .ok (.getfield 9, 3) := by decide +kernel
theorem dX3_surest_37 : decode cX3_surest 37 = .ok (.iload_n 3, 1) := by decide +kernel
theorem dX3_surest_38 : decode cX3_surest 38 = .ok (.iaload, 1) := by decide +kernel
theorem dX3_surest_39 : decode cX3_surest 39 = .ok (.istore 4, 2) := by decide +kernel
theorem dX3_surest_41 : decode cX3_surest 41 = .ok (.iload 4, 2) := by decide +kernel
theorem dX3_surest_43 : decode cX3_surest 43 = .ok (.iload_n 2, 1) := by decide +kernel
theorem dX3_surest_44 : decode cX3_surest 44 = .ok (.if_icmp .le 8, 3) := by decide +kernel
theorem dX3_surest_47 : decode cX3_surest 47 = .ok (.iload 4, 2) := by decide +kernel
theorem dX3_surest_49 : decode cX3_surest 49 = .ok (.istore_n 2, 1) := by decide +kernel
theorem dX3_surest_50 : decode cX3_surest 50 = .ok (.iload_n 3, 1) := by decide +kernel
theorem dX3_surest_51 : decode cX3_surest 51 = .ok (.istore_n 1, 1) := by decide +kernel
theorem dX3_surest_52 : decode cX3_surest 52 = .ok (.iinc 3 1, 3) := by decide +kernel
theorem dX3_surest_55 : decode cX3_surest 55 = .ok (.goto (-49), 3) := by decide +kernel
theorem dX3_surest_58 : decode cX3_surest 58 = .ok (.iload_n 1, 1) := by decide +kernel
theorem dX3_surest_59 : decode cX3_surest 59 = .ok (.ireturn, 1) := by decide +kernel
theorem dX3_suffer_0 : decode cX3_suffer 0 = .ok (.aload_n 0, 1) := by decide +kernel
theorem dX3_suffer_1 : decode cX3_suffer 1 = .ok (.invokevirtual 58, 3) := by decide +kernel
theorem dX3_suffer_4 : decode cX3_suffer 4 = .ok (.istore_n 3, 1) := by decide +kernel
theorem dX3_suffer_5 : decode cX3_suffer 5 = .ok (.iload_n 1, 1) := by decide +kernel
theorem dX3_suffer_6 : decode cX3_suffer 6 = .ok (.tableswitch 110 0 5 #[38, 46, 54, 67, 76, 89], 38) := by decide +kernel
theorem dX3_suffer_44 : decode cX3_suffer 44 = .ok (.aload_n 0, 1) := by decide +kernel
theorem dX3_suffer_45 : decode cX3_suffer 45 = .ok (.iload_n 3, 1) := by decide +kernel
theorem dX3_suffer_46 : decode cX3_suffer 46 = .ok (.invokevirtual 61, 3) := by decide +kernel
theorem dX3_suffer_49 : decode cX3_suffer 49 = .ok (.goto 67, 3) := by decide +kernel
theorem dX3_suffer_52 : decode cX3_suffer 52 = .ok (.aload_n 0, 1) := by decide +kernel
theorem dX3_suffer_53 : decode cX3_suffer 53 = .ok (.iload_n 3, 1) := by decide +kernel
theorem dX3_suffer_54 : decode cX3_suffer 54 = .ok (.invokevirtual 64, 3) := by decide +kernel
theorem dX3_suffer_57 : decode cX3_suffer 57 = .ok (.goto 59, 3) := by decide +kernel
theorem dX3_suffer_60 : decode cX3_suffer 60 = .ok (.aload_n 0, 1) := by decide +kernel
theorem dX3_suffer_61 : decode cX3_suffer 61 = .ok (.iload_n 3, 1) := by decide +kernel
theorem dX3_suffer_62 : decode cX3_suffer 62 = .ok (.invokevirtual 64, 3) := by decide +kernel
theorem dX3_suffer_65 : decode cX3_suffer 65 = .ok (.aload_n 0, 1) := by decide +kernel
theorem dX3_suffer_66 : decode cX3_suffer 66 = .ok (.iload_n 3, 1) := by decide +kernel
theorem dX3_suffer_67 : decode cX3_suffer 67 = .ok (.invokevirtual 67, 3) := by decide +kernel
theorem dX3_suffer_70 : decode cX3_suffer 70 = .ok (.goto 46, 3) := by decide +kernel
theorem dX3_suffer_73 : decode cX3_suffer 73 = .ok (.aload_n 0, 1) := by decide +kernel
theorem dX3_suffer_74 : decode cX3_suffer 74 = .ok (.iload_n 3, 1) := by decide +kernel
theorem dX3_suffer_75 : decode cX3_suffer 75 = .ok (.iload_n 2, 1) := by decide +kernel
theorem dX3_suffer_76 : decode cX3_suffer 76 = .ok (.invokevirtual 70, 3) := by decide +kernel
theorem dX3_suffer_79 : decode cX3_suffer 79 = .ok (.goto 37, 3) := by decide +kernel
theorem dX3_suffer_82 : decode cX3_suffer 82 = .ok (.aload_n 0, 1) := by decide +kernel
theorem dX3_suffer_83 : decode cX3_suffer 83 = .ok (.iload_n 3, 1) := by decide +kernel
theorem dX3_suffer_84 : decode cX3_suffer 84 = .ok (.invokevirtual 61, 3) := by decide +kernel
theorem dX3_suffer_87 : decode cX3_suffer 87 = .ok (.aload_n 0, 1) := by decide +kernel
theorem dX3_suffer_88 : decode cX3_suffer 88 = .ok (.iload_n 3, 1) := by decide +kernel
theorem dX3_suffer_89 : decode cX3_suffer 89 = .ok (.invokevirtual 73, 3) := by decide +kernel
theorem dX3_suffer_92 : decode cX3_suffer 92 = .ok (.goto 24, 3) := by decide +kernel
theorem dX3_suffer_95 : decode cX3_suffer 95 = .ok (.aload_n 0, 1) := by decide +kernel
theorem dX3_suffer_96 : decode cX3_suffer 96 = .ok (.iload_n 3, 1) := by decide +kernel
theorem dX3_suffer_97 : decode cX3_suffer 97 = .ok (.invokevirtual 64, 3) := by decide +kernel
theorem dX3_suffer_100 : decode cX3_suffer 100 = .ok (.aload_n 0, 1) := by decide +kernel
theorem dX3_suffer_101 : decode cX3_suffer 101 = .ok (.iload_n 3, 1) := by decide +kernel
theorem dX3_suffer_102 : decode cX3_suffer 102 = .ok (.invokevirtual 67, 3) := by decide +kernel
theorem dX3_suffer_105 : decode cX3_suffer 105 = .ok (.aload_n 0, 1) := by decide +kernel
theorem dX3_suffer_106 : decode cX3_suffer 106 = .ok (.aload_n 0, 1) := by decide +kernel
theorem dX3_suffer_107 : decode cX3_suffer 107 = .ok (.invokevirtual 58, 3) := by decide +kernel
theorem dX3_suffer_110 : decode cX3_suffer 110 = .ok (.invokevirtual 61, 3) := by decide +kernel
theorem dX3_suffer_113 : decode cX3_suffer 113 = .ok (.goto 3, 3) := by decide +kernel
theorem dX3_suffer_116 : decode cX3_suffer 116 = .ok (.return_, 1) := by decide +kernel
theorem dX3_halve_0 : decode cX3_halve 0 = .ok (.aload_n 0, 1) := by decide +kernel
theorem dX3_halve_1 : decode cX3_halve 1 = .ok (.iload_n 1, 1) := by decide +kernel
theorem dX3_halve_2 : decode cX3_halve 2 = .ok (.invokevirtual 19, 3) := by decide +kernel
theorem dX3_halve_5 : decode cX3_halve 5 = .ok (.ifCond .eq 17, 3) := by decide +kernel
theorem dX3_halve_8 : decode cX3_halve 8 = .ok (.aload_n 0, 1) := by decide +kernel
theorem dX3_halve_9 : decode cX3_halve 9 = .ok (.getfield 9, 3) := by decide +kernel
theorem dX3_halve_12 : decode cX3_halve 12 = .ok (.iload_n 1, 1) := by decide +kernel
theorem dX3_halve_13 : decode cX3_halve 13 = .ok (.aload_n 0, 1) := by decide +kernel
theorem dX3_halve_14 : decode cX3_halve 14 = .ok (.getfield 9, 3) := by decide +kernel
theorem dX3_halve_17 : decode cX3_halve 17 = .ok (.iload_n 1, 1) := by decide +kernel
theorem dX3_halve_18 : decode cX3_halve 18 = .ok (.iaload, 1) := by decide +kernel
theorem dX3_halve_19 : decode cX3_halve 19 = .ok (.iconst 2, 1) := by decide +kernel
theorem dX3_halve_20 : decode cX3_halve 20 = .ok (.idiv, 1) := by decide +kernel
theorem dX3_halve_21 : decode cX3_halve 21 = .ok (.iastore, 1) := by decide +kernel
theorem dX3_halve_22 : decode cX3_halve 22 = .ok (.return_, 1) := by decide +kernel
theorem dX3_turn_0 : decode cX3_turn 0 = .ok (.aload_n 0, 1) := by decide +kernel
theorem dX3_turn_1 : decode cX3_turn 1 = .ok (.iload_n 1, 1) := by decide +kernel
theorem dX3_turn_2 : decode cX3_turn 2 = .ok (.invokevirtual 19, 3) := by decide +kernel
theorem dX3_turn_5 : decode cX3_turn 5 = .ok (.ifCond .eq 16, 3) := by decide +kernel
theorem dX3_turn_8 : decode cX3_turn 8 = .ok (.aload_n 0, 1) := by decide +kernel
theorem dX3_turn_9 : decode cX3_turn 9 = .ok (.getfield 9, 3) := by decide +kernel
theorem dX3_turn_12 : decode cX3_turn 12 = .ok (.iload_n 1, 1) := by decide +kernel
theorem dX3_turn_13 : decode cX3_turn 13 = .ok (.aload_n 0, 1) := by decide +kernel
theorem dX3_turn_14 : decode cX3_turn 14 = .ok (.getfield 9, 3) := by decide +kernel
theorem dX3_turn_17 : decode cX3_turn 17 = .ok (.iload_n 1, 1) := by decide +kernel
theorem dX3_turn_18 : decode cX3_turn 18 = .ok (.iaload, 1) := by decide +kernel
theorem dX3_turn_19 : decode cX3_turn 19 = .ok (.ineg, 1) := by decide +kernel
theorem dX3_turn_20 : decode cX3_turn 20 = .ok (.iastore, 1) := by decide +kernel
theorem dX3_turn_21 : decode cX3_turn 21 = .ok (.return_, 1) := by decide +kernel
theorem dX3_lessenBehind_0 : decode cX3_lessenBehind 0 = .ok (.iload_n 1, 1) := by decide +kernel
theorem dX3_lessenBehind_1 : decode cX3_lessenBehind 1 = .ok (.iconst 1, 1) := by decide +kernel
theorem dX3_lessenBehind_2 : decode cX3_lessenBehind 2 = .ok (.iadd, 1) := by decide +kernel
theorem dX3_lessenBehind_3 : decode cX3_lessenBehind 3 = .ok (.aload_n 0, 1) := by decide +kernel
theorem dX3_lessenBehind_4 : decode cX3_lessenBehind 4 = .ok (.getfield 15, 3) := by decide +kernel
theorem dX3_lessenBehind_7 : decode cX3_lessenBehind 7 = .ok (.if_icmp .ge 9, 3) := by decide +kernel
theorem dX3_lessenBehind_10 : decode cX3_lessenBehind 10 = .ok (.iload_n 1, 1) := by decide +kernel
theorem dX3_lessenBehind_11 : decode cX3_lessenBehind 11 = .ok (.iconst 1, 1) := by decide +kernel
theorem dX3_lessenBehind_12 : decode cX3_lessenBehind 12 = .ok (.iadd, 1) := by decide +kernel
theorem dX3_lessenBehind_13 : decode cX3_lessenBehind 13 = .ok (.goto 4, 3) := by decide +kernel
theorem dX3_lessenBehind_16 : decode cX3_lessenBehind 16 = .ok (.iconst 0, 1) := by decide +kernel
theorem dX3_lessenBehind_17 : decode cX3_lessenBehind 17 = .ok (.istore_n 2, 1) := by decide +kernel
theorem dX3_lessenBehind_18 : decode cX3_lessenBehind 18 = .ok (.aload_n 0, 1) := by decide +kernel
theorem dX3_lessenBehind_19 : decode cX3_lessenBehind 19 = .ok (.getfield 15, 3) := by decide +kernel
theorem dX3_lessenBehind_22 : decode cX3_lessenBehind 22 = .ok (.iconst 1, 1) := by decide +kernel
theorem dX3_lessenBehind_23 : decode cX3_lessenBehind 23 = .ok (.if_icmp .le 32, 3) := by decide +kernel
theorem dX3_lessenBehind_26 : decode cX3_lessenBehind 26 = .ok (.aload_n 0, 1) := by decide +kernel
theorem dX3_lessenBehind_27 : decode cX3_lessenBehind 27 = .ok (.iload_n 2, 1) := by decide +kernel
theorem dX3_lessenBehind_28 : decode cX3_lessenBehind 28 = .ok (.invokevirtual 19, 3) := by decide +kernel
theorem dX3_lessenBehind_31 : decode cX3_lessenBehind 31 = .ok (.ifCond .eq 24, 3) := by decide +kernel
theorem dX3_lessenBehind_34 : decode cX3_lessenBehind 34 = .ok (.aload_n 0, 1) := by decide +kernel
theorem dX3_lessenBehind_35 : decode cX3_lessenBehind 35 = .ok (.getfield 9, 3) := by decide +kernel
theorem dX3_lessenBehind_38 : decode cX3_lessenBehind 38 = .ok (.iload_n 2, 1) := by decide +kernel
theorem dX3_lessenBehind_39 : decode cX3_lessenBehind 39 = .ok (.iaload, 1) := by decide +kernel
theorem dX3_lessenBehind_40 : decode cX3_lessenBehind 40 = .ok (.bipush (-9), 2) := by decide +kernel
theorem dX3_lessenBehind_42 : decode cX3_lessenBehind 42 = .ok (.if_icmp .le 13, 3) := by decide +kernel
theorem dX3_lessenBehind_45 : decode cX3_lessenBehind 45 = .ok (.aload_n 0, 1) := by decide +kernel
theorem dX3_lessenBehind_46 : decode cX3_lessenBehind 46 = .ok (.getfield 9, 3) := by decide +kernel
theorem dX3_lessenBehind_49 : decode cX3_lessenBehind 49 = .ok (.iload_n 2, 1) := by decide +kernel
theorem dX3_lessenBehind_50 : decode cX3_lessenBehind 50 = .ok (.dup2, 1) := by decide +kernel
theorem dX3_lessenBehind_51 : decode cX3_lessenBehind 51 = .ok (.iaload, 1) := by decide +kernel
theorem dX3_lessenBehind_52 : decode cX3_lessenBehind 52 = .ok (.iconst 1, 1) := by decide +kernel
theorem dX3_lessenBehind_53 : decode cX3_lessenBehind 53 = .ok (.isub, 1) := by decide +kernel
theorem dX3_lessenBehind_54 : decode cX3_lessenBehind 54 = .ok (.iastore, 1) := by decide +kernel
theorem dX3_lessenBehind_55 : decode cX3_lessenBehind 55 = .ok (.return_, 1) := by decide +kernel
theorem dX3_bringOver_0 : decode cX3_bringOver 0 = .ok (.aload_n 0, 1) := by decide +kernel
theorem dX3_bringOver_1 : decode cX3_bringOver 1 = .ok (.iload_n 1, 1) := by decide +kernel
theorem dX3_bringOver_2 : decode cX3_bringOver 2 = .ok (.invokevirtual 19, 3) := by decide +kernel
theorem dX3_bringOver_5 : decode cX3_bringOver 5 = .ok (.ifCond .ne 4, 3) := by decide +kernel
theorem dX3_bringOver_8 : decode cX3_bringOver 8 = .ok (.return_, 1) := by decide +kernel
theorem dX3_bringOver_9 : decode cX3_bringOver 9 = .ok (.aload_n 0, 1) := by decide +kernel
theorem dX3_bringOver_10 : decode cX3_bringOver 10 = .ok (.getfield 9, 3) := by decide +kernel
theorem dX3_bringOver_13 : decode cX3_bringOver 13 = .ok (.iload_n 1, 1) := by decide +kernel
theorem dX3_bringOver_14 : decode cX3_bringOver 14 = .ok (.iaload, 1) := by decide +kernel
theorem dX3_bringOver_15 : decode cX3_bringOver 15 = .ok (.ifCond .ge 13, 3) := by decide +kernel
theorem dX3_bringOver_18 : decode cX3_bringOver 18 = .ok (.aload_n 0, 1) := by decide +kernel
theorem dX3_bringOver_19 : decode cX3_bringOver 19 = .ok (.getfield 9, 3) := by decide +kernel
theorem dX3_bringOver_22 : decode cX3_bringOver 22 = .ok (.iload_n 1, 1) := by decide +kernel
theorem dX3_bringOver_23 : decode cX3_bringOver 23 = .ok (.iload_n 2, 1) := by decide +kernel
theorem dX3_bringOver_24 : decode cX3_bringOver 24 = .ok (.iastore, 1) := by decide +kernel
theorem dX3_bringOver_25 : decode cX3_bringOver 25 = .ok (.goto 20, 3) := by decide +kernel
theorem dX3_bringOver_28 : decode cX3_bringOver 28 = .ok (.aload_n 0, 1) := by decide +kernel
theorem dX3_bringOver_29 : decode cX3_bringOver 29 = .ok (.getfield 9, 3) := by decide +kernel
theorem dX3_bringOver_32 : decode cX3_bringOver 32 = .ok (.iload_n 1, 1) := by decide +kernel
theorem dX3_bringOver_33 : decode cX3_bringOver 33 = .ok (.iaload, 1) := by decide +kernel
theorem dX3_bringOver_34 : decode cX3_bringOver 34 = .ok (.ifCond .le 11, 3) := by decide +kernel
theorem dX3_bringOver_37 : decode cX3_bringOver 37 = .ok (.aload_n 0, 1) := by decide +kernel
theorem dX3_bringOver_38 : decode cX3_bringOver 38 = .ok (.getfield 9, 3) := by decide +kernel
theorem dX3_bringOver_41 : decode cX3_bringOver 41 = .ok (.iload_n 1, 1) := by decide +kernel
theorem dX3_bringOver_42 : decode cX3_bringOver 42 = .ok (.iload_n 2, 1) := by decide +kernel
theorem dX3_bringOver_43 : decode cX3_bringOver 43 = .ok (.ineg, 1) := by decide +kernel
theorem dX3_bringOver_44 : decode cX3_bringOver 44 = .ok (.iastore, 1) := by decide +kernel
theorem dX3_bringOver_45 : decode cX3_bringOver 45 = .ok (.return_, 1) := by decide +kernel
theorem dX3_bringOthersNearer_0 : decode cX3_bringOthersNearer 0 = .ok (.iconst 0, 1) := by decide +kernel
theorem dX3_bringOthersNearer_1 : decode cX3_bringOthersNearer 1 = .ok (.istore_n 2, 1) := by decide +kernel
theorem dX3_bringOthersNearer_2 : decode cX3_bringOthersNearer 2 = .ok (.iload_n 2, 1) := by decide +kernel
theorem dX3_bringOthersNearer_3 : decode cX3_bringOthersNearer 3 = .ok (.aload_n 0, 1) := by decide +kernel
theorem dX3_bringOthersNearer_4 : decode cX3_bringOthersNearer 4 = .ok (.getfield 15, 3) := by decide +kernel
theorem dX3_bringOthersNearer_7 : decode cX3_bringOthersNearer 7 = .ok (.if_icmp .ge 58, 3) := by decide +kernel
theorem dX3_bringOthersNearer_10 : decode cX3_bringOthersNearer 10 = .ok (.iload_n 2, 1) := by decide +kernel
theorem dX3_bringOthersNearer_11 : decode cX3_bringOthersNearer 11 = .ok (.iload_n 1, 1) := by decide +kernel
theorem dX3_bringOthersNearer_12 : decode cX3_bringOthersNearer 12 = .ok (.if_icmp .ne 6, 3) := by decide +kernel
theorem dX3_bringOthersNearer_15 : decode cX3_bringOthersNearer 15 = .ok (.goto 44, 3) := by decide +kernel
theorem dX3_bringOthersNearer_18 : decode cX3_bringOthersNearer 18 = .ok (.aload_n 0, 1) := by decide +kernel
theorem dX3_bringOthersNearer_19 : decode cX3_bringOthersNearer 19 = .ok (.getfield 9, 3) := by decide +kernel
theorem dX3_bringOthersNearer_22 : decode cX3_bringOthersNearer 22 = .ok (.iload_n 2, 1) := by decide +kernel
theorem dX3_bringOthersNearer_23 : decode cX3_bringOthersNearer 23 = .ok (.iaload, 1) := by decide +kernel
theorem dX3_bringOthersNearer_24 : decode cX3_bringOthersNearer 24 = .ok (.ifCond .le 16, 3) := by decide +kernel
theorem dX3_bringOthersNearer_27 : decode cX3_bringOthersNearer 27 = .ok (.aload_n 0, 1) := by decide +kernel
theorem dX3_bringOthersNearer_28 : decode cX3_bringOthersNearer 28 = .ok (.getfield 9, 3) := by decide +kernel
theorem dX3_bringOthersNearer_31 : decode cX3_bringOthersNearer 31 = .ok (.iload_n 2, 1) := by decide +kernel
theorem dX3_bringOthersNearer_32 : decode cX3_bringOthersNearer 32 = .ok (.dup2, 1) := by decide +kernel
theorem dX3_bringOthersNearer_33 : decode cX3_bringOthersNearer 33 = .ok (.iaload, 1) := by decide +kernel
theorem dX3_bringOthersNearer_34 : decode cX3_bringOthersNearer 34 = .ok (.iconst 1, 1) := by decide +kernel
theorem dX3_bringOthersNearer_35 : decode cX3_bringOthersNearer 35 = .ok (.isub, 1) := by decide +kernel
theorem dX3_bringOthersNearer_36 : decode cX3_bringOthersNearer 36 = .ok (.iastore, 1) := by decide +kernel
theorem dX3_bringOthersNearer_37 : decode cX3_bringOthersNearer 37 = .ok (.goto 22, 3) := by decide +kernel
theorem dX3_bringOthersNearer_40 : decode cX3_bringOthersNearer 40 = .ok (.aload_n 0, 1) := by decide +kernel
theorem dX3_bringOthersNearer_41 : decode cX3_bringOthersNearer 41 = .ok (.getfield 9, 3) := by decide +kernel
theorem dX3_bringOthersNearer_44 : decode cX3_bringOthersNearer 44 = .ok (.iload_n 2, 1) := by decide +kernel
theorem dX3_bringOthersNearer_45 : decode cX3_bringOthersNearer 45 = .ok (.iaload, 1) := by decide +kernel
theorem dX3_bringOthersNearer_46 : decode cX3_bringOthersNearer 46 = .ok (.ifCond .ge 13, 3) := by decide +kernel
theorem dX3_bringOthersNearer_49 : decode cX3_bringOthersNearer 49 = .ok (.aload_n 0, 1) := by decide +kernel
theorem dX3_bringOthersNearer_50 : decode cX3_bringOthersNearer 50 = .ok (.getfield 9, 3) := by decide +kernel
theorem dX3_bringOthersNearer_53 : decode cX3_bringOthersNearer 53 = .ok (.iload_n 2, 1) := by decide +kernel
theorem dX3_bringOthersNearer_54 : decode cX3_bringOthersNearer 54 = .ok (.dup2, 1) := by decide +kernel
theorem dX3_bringOthersNearer_55 : decode cX3_bringOthersNearer 55 = .ok (.iaload, 1) := by decide +kernel
theorem dX3_bringOthersNearer_56 : decode cX3_bringOthersNearer 56 = .ok (.iconst 1, 1) := by decide +kernel
theorem dX3_bringOthersNearer_57 : decode cX3_bringOthersNearer 57 = .ok (.iadd, 1) := by decide +kernel
theorem dX3_bringOthersNearer_58 : decode cX3_bringOthersNearer 58 = .ok (.iastore, 1) := by decide +kernel
theorem dX3_bringOthersNearer_59 : decode cX3_bringOthersNearer 59 = .ok (.iinc 2 1, 3) := by decide +kernel
theorem dX3_bringOthersNearer_62 : decode cX3_bringOthersNearer 62 = .ok (.goto (-60), 3) := by decide +kernel
theorem dX3_bringOthersNearer_65 : decode cX3_bringOthersNearer 65 = .ok (.return_, 1) := by decide +kernel
theorem dX4_init_0 : decode cX4_init 0 = .ok (.aload_n 0, 1) := by decide +kernel
theorem dX4_init_1 : decode cX4_init 1 = .ok (.invokespecial 3, 3) := by decide +kernel
theorem dX4_init_4 : decode cX4_init 4 = .ok (.aload_n 0, 1) := by decide +kernel
theorem dX4_init_5 : decode cX4_init 5 = .ok (.sipush 201, 3) := by decide +kernel
theorem dX4_init_8 : decode cX4_init 8 = .ok (.newarray .long, 2) := by decide +kernel
theorem dX4_init_10 : decode cX4_init 10 = .ok (.putfield 9, 3) := by decide +kernel
theorem dX4_init_13 : decode cX4_init 13 = .ok (.aload_n 0, 1) := by decide +kernel
theorem dX4_init_14 : decode cX4_init 14 = .ok (.sipush 201, 3) := by decide +kernel
theorem dX4_init_17 : decode cX4_init 17 = .ok (.newarray .int, 2) := by decide +kernel
theorem dX4_init_19 : decode cX4_init 19 = .ok (.putfield 15, 3) := by decide +kernel
theorem dX4_init_22 : decode cX4_init 22 = .ok (.aload_n 0, 1) := by decide +kernel
theorem dX4_init_23 : decode cX4_init 23 = .ok (.iconst 0, 1) := by decide +kernel
theorem dX4_init_24 : decode cX4_init 24 = .ok (.putfield 19, 3) := by decide +kernel
theorem dX4_init_27 : decode cX4_init 27 = .ok (.return_, 1) := by decide +kernel
theorem dX4_note_0 : decode cX4_note 0 = .ok (.aload_n 0, 1) := by decide +kernel
theorem dX4_note_1 : decode cX4_note 1 = .ok (.getfield 19, 3) := by decide +kernel
theorem dX4_note_4 : decode cX4_note 4 = .ok (.aload_n 0, 1) := by decide +kernel
theorem dX4_note_5 : decode cX4_note 5 = .ok (.getfield 9, 3) := by decide +kernel
theorem dX4_note_8 : decode cX4_note 8 = .ok (.arraylength, 1) := by decide +kernel
theorem dX4_note_9 : decode cX4_note 9 = .ok (.if_icmp .ge 33, 3) := by decide +kernel
theorem dX4_note_12 : decode cX4_note 12 = .ok (.aload_n 0, 1) := by decide +kernel
theorem dX4_note_13 : decode cX4_note 13 = .ok (.getfield 9, 3) := by decide +kernel
theorem dX4_note_16 : decode cX4_note 16 = .ok (.aload_n 0, 1) := by decide +kernel
theorem dX4_note_17 : decode cX4_note 17 = .ok (.getfield 19, 3) := by decide +kernel
theorem dX4_note_20 : decode cX4_note 20 = .ok (.lload_n 1, 1) := by decide +kernel
theorem dX4_note_21 : decode cX4_note 21 = .ok (.lastore, 1) := by decide +kernel
theorem dX4_note_22 : decode cX4_note 22 = .ok (.aload_n 0, 1) := by decide +kernel
theorem dX4_note_23 : decode cX4_note 23 = .ok (.getfield 15, 3) := by decide +kernel
theorem dX4_note_26 : decode cX4_note 26 = .ok (.aload_n 0, 1) := by decide +kernel
theorem dX4_note_27 : decode cX4_note 27 = .ok (.getfield 19, 3) := by decide +kernel
theorem dX4_note_30 : decode cX4_note 30 = .ok (.iload_n 3, 1) := by decide +kernel
theorem dX4_note_31 : decode cX4_note 31 = .ok (.iastore, 1) := by decide +kernel
theorem dX4_note_32 : decode cX4_note 32 = .ok (.aload_n 0, 1) := by decide +kernel
theorem dX4_note_33 : decode cX4_note 33 = .ok (.dup, 1) := by decide +kernel
theorem dX4_note_34 : decode cX4_note 34 = .ok (.getfield 19, 3) := by decide +kernel
theorem dX4_note_37 : decode cX4_note 37 = .ok (.iconst 1, 1) := by decide +kernel
theorem dX4_note_38 : decode cX4_note 38 = .ok (.iadd, 1) := by decide +kernel
theorem dX4_note_39 : decode cX4_note 39 = .ok (.putfield 19, 3) := by decide +kernel
theorem dX4_note_42 : decode cX4_note 42 = .ok (.return_, 1) := by decide +kernel
theorem dX4_find_0 : decode cX4_find 0 = .ok (.iconst 0, 1) := by decide +kernel
theorem dX4_find_1 : decode cX4_find 1 = .ok (.istore_n 3, 1) := by decide +kernel
theorem dX4_find_2 : decode cX4_find 2 = .ok (.iload_n 3, 1) := by decide +kernel
theorem dX4_find_3 : decode cX4_find 3 = .ok (.aload_n 0, 1) := by decide +kernel
theorem dX4_find_4 : decode cX4_find 4 = .ok (.getfield 19, 3) := by decide +kernel
theorem dX4_find_7 : decode cX4_find 7 = .ok (.if_icmp .ge 27, 3) := by decide +kernel
theorem dX4_find_10 : decode cX4_find 10 = .ok (.aload_n 0, 1) := by decide +kernel
theorem dX4_find_11 : decode cX4_find 11 = .ok (.getfield 9, 3) := by decide +kernel
theorem dX4_find_14 : decode cX4_find 14 = .ok (.iload_n 3, 1) := by decide +kernel
theorem dX4_find_15 : decode cX4_find 15 = .ok (.laload, 1) := by decide +kernel
theorem dX4_find_16 : decode cX4_find 16 = .ok (.lload_n 1, 1) := by decide +kernel
theorem dX4_find_17 : decode cX4_find 17 = .ok (.lcmp, 1) := by decide +kernel
theorem dX4_find_18 : decode cX4_find 18 = .ok (.ifCond .ne 10, 3) := by decide +kernel
theorem dX4_find_21 : decode cX4_find 21 = .ok (.aload_n 0, 1) := by decide +kernel
theorem dX4_find_22 : decode cX4_find 22 = .ok (.getfield 15, 3) := by decide +kernel
theorem dX4_find_25 : decode cX4_find 25 = .ok (.iload_n 3, 1) := by decide +kernel
theorem dX4_find_26 : decode cX4_find 26 = .ok (.iaload, 1) := by decide +kernel
theorem dX4_find_27 : decode cX4_find 27 = .ok (.ireturn, 1) := by decide +kernel
theorem dX4_find_28 : decode cX4_find 28 = .ok (.iinc 3 1, 3) := by decide +kernel
theorem dX4_find_31 : decode cX4_find 31 = .ok (.goto (-29), 3) := by decide +kernel
theorem dX4_find_34 : decode cX4_find 34 = .ok (.iconst (-1), 1) := by decide +kernel
theorem dX4_find_35 : decode cX4_find 35 = .ok (.ireturn, 1) := by decide +kernel
theorem dX5_init_0 : decode cX5_init 0 = .ok (.aload_n 0, 1) := by decide +kernel
theorem dX5_init_1 : decode cX5_init 1 = .ok (.invokespecial 3, 3) := by decide +kernel
theorem dX5_init_4 : decode cX5_init 4 = .ok (.aload_n 0, 1) := by decide +kernel
theorem dX5_init_5 : decode cX5_init 5 = .ok (.bipush 7, 2) := by decide +kernel
theorem dX5_init_7 : decode cX5_init 7 = .ok (.newarray .int, 2) := by decide +kernel
theorem dX5_init_9 : decode cX5_init 9 = .ok (.putfield 9, 3) := by decide +kernel
theorem dX5_init_12 : decode cX5_init 12 = .ok (.aload_n 0, 1) := by decide +kernel
theorem dX5_init_13 : decode cX5_init 13 = .ok (.bipush 7, 2) := by decide +kernel
theorem dX5_init_15 : decode cX5_init 15 = .ok (.newarray .int, 2) := by decide +kernel
theorem dX5_init_17 : decode cX5_init 17 = .ok (.putfield 15, 3) := by decide +kernel
theorem dX5_init_20 : decode cX5_init 20 = .ok (.aload_n 0, 1) := by decide +kernel
theorem dX5_init_21 : decode cX5_init 21 = .ok (.bipush 7, 2) := by decide +kernel
theorem dX5_init_23 : decode cX5_init 23 = .ok (.newarray .int, 2) := by decide +kernel
theorem dX5_init_25 : decode cX5_init 25 = .ok (.putfield 18, 3) := by decide +kernel
theorem dX5_init_28 : decode cX5_init 28 = .ok (.aload_n 0, 1) := by decide +kernel
theorem dX5_init_29 : decode cX5_init 29 = .ok (.iconst 0, 1) := by decide +kernel
theorem dX5_init_30 : decode cX5_init 30 = .ok (.putfield 21, 3) := by decide +kernel
theorem dX5_init_33 : decode cX5_init 33 = .ok (.aload_n 0, 1) := by decide +kernel
theorem dX5_init_34 : decode cX5_init 34 = .ok (.new 25, 3) := by decide +kernel
theorem dX5_init_37 : decode cX5_init 37 = .ok (.dup, 1) := by decide +kernel
theorem dX5_init_38 : decode cX5_init 38 = .ok (.invokespecial 27, 3) := by decide +kernel
theorem dX5_init_41 : decode cX5_init 41 = .ok (.putfield 28, 3) := by decide +kernel
theorem dX5_init_44 : decode cX5_init 44 = .ok (.aload_n 0, 1) := by decide +kernel
theorem dX5_init_45 : decode cX5_init 45 = .ok (.bipush 100, 2) := by decide +kernel
theorem dX5_init_47 : decode cX5_init 47 = .ok (.putfield 32, 3) := by decide +kernel
theorem dX5_init_50 : decode cX5_init 50 = .ok (.aload_n 0, 1) := by decide +kernel
theorem dX5_init_51 : decode cX5_init 51 = .ok (.bipush 6, 2) := by decide +kernel
theorem dX5_init_53 : decode cX5_init 53 = .ok (.putfield 35, 3) := by decide +kernel
theorem dX5_init_56 : decode cX5_init 56 = .ok (.return_, 1) := by decide +kernel
theorem dX5_hasCourt_0 : decode cX5_hasCourt 0 = .ok (.iload_n 1, 1) := by decide +kernel
theorem dX5_hasCourt_1 : decode cX5_hasCourt 1 = .ok (.ifCond .lt 15, 3) := by decide +kernel
theorem dX5_hasCourt_4 : decode cX5_hasCourt 4 = .ok (.iload_n 1, 1) := by decide +kernel
theorem dX5_hasCourt_5 : decode cX5_hasCourt 5 = .ok (.aload_n 0, 1) := by decide +kernel
theorem dX5_hasCourt_6 : decode cX5_hasCourt 6 = .ok (.getfield 21, 3) := by decide +kernel
theorem dX5_hasCourt_9 : decode cX5_hasCourt 9 = .ok (.if_icmp .ge 7, 3) := by decide +kernel
theorem dX5_hasCourt_12 : decode cX5_hasCourt 12 = .ok (.iconst 1, 1) := by decide +kernel
theorem dX5_hasCourt_13 : decode cX5_hasCourt 13 = .ok (.goto 4, 3) := by decide +kernel
theorem dX5_hasCourt_16 : decode cX5_hasCourt 16 = .ok (.iconst 0, 1) := by decide +kernel
theorem dX5_hasCourt_17 : decode cX5_hasCourt 17 = .ok (.ireturn, 1) := by decide +kernel
theorem dX5_copyFrom_0 : decode cX5_copyFrom 0 = .ok (.aload_n 1, 1) := by decide +kernel
theorem dX5_copyFrom_1 : decode cX5_copyFrom 1 = .ok (.getfield 9, 3) := by decide +kernel
theorem dX5_copyFrom_4 : decode cX5_copyFrom 4 = .ok (.iconst 0, 1) := by decide +kernel
theorem dX5_copyFrom_5 : decode cX5_copyFrom 5 = .ok (.aload_n 0, 1) := by decide +kernel
theorem dX5_copyFrom_6 : decode cX5_copyFrom 6 = .ok (.getfield 9, 3) := by decide +kernel
theorem dX5_copyFrom_9 : decode cX5_copyFrom 9 = .ok (.iconst 0, 1) := by decide +kernel
theorem dX5_copyFrom_10 : decode cX5_copyFrom 10 = .ok (.bipush 7, 2) := by decide +kernel
theorem dX5_copyFrom_12 : decode cX5_copyFrom 12 = .ok (.invokestatic 38, 3) := by decide +kernel
theorem dX5_copyFrom_15 : decode cX5_copyFrom 15 = .ok (.aload_n 1, 1) := by decide +kernel
theorem dX5_copyFrom_16 : decode cX5_copyFrom 16 = .ok (.getfield 15, 3) := by decide +kernel
theorem dX5_copyFrom_19 : decode cX5_copyFrom 19 = .ok (.iconst 0, 1) := by decide +kernel
theorem dX5_copyFrom_20 : decode cX5_copyFrom 20 = .ok (.aload_n 0, 1) := by decide +kernel
theorem dX5_copyFrom_21 : decode cX5_copyFrom 21 = .ok (.getfield 15, 3) := by decide +kernel
theorem dX5_copyFrom_24 : decode cX5_copyFrom 24 = .ok (.iconst 0, 1) := by decide +kernel
theorem dX5_copyFrom_25 : decode cX5_copyFrom 25 = .ok (.bipush 7, 2) := by decide +kernel
theorem dX5_copyFrom_27 : decode cX5_copyFrom 27 = .ok (.invokestatic 38, 3) := by decide +kernel
theorem dX5_copyFrom_30 : decode cX5_copyFrom 30 = .ok (.aload_n 1, 1) := by decide +kernel
theorem dX5_copyFrom_31 : decode cX5_copyFrom 31 = .ok (.getfield 18, 3) := by decide +kernel
theorem dX5_copyFrom_34 : decode cX5_copyFrom 34 = .ok (.iconst 0, 1) := by decide +kernel
theorem dX5_copyFrom_35 : decode cX5_copyFrom 35 = .ok (.aload_n 0, 1) := by decide +kernel
theorem dX5_copyFrom_36 : decode cX5_copyFrom 36 = .ok (.getfield 18, 3) := by decide +kernel
theorem dX5_copyFrom_39 : decode cX5_copyFrom 39 = .ok (.iconst 0, 1) := by decide +kernel
theorem dX5_copyFrom_40 : decode cX5_copyFrom 40 = .ok (.bipush 7, 2) := by decide +kernel
theorem dX5_copyFrom_42 : decode cX5_copyFrom 42 = .ok (.invokestatic 38, 3) := by decide +kernel
theorem dX5_copyFrom_45 : decode cX5_copyFrom 45 = .ok (.aload_n 0, 1) := by decide +kernel
theorem dX5_copyFrom_46 : decode cX5_copyFrom 46 = .ok (.aload_n 1, 1) := by decide +kernel
theorem dX5_copyFrom_47 : decode cX5_copyFrom 47 = .ok (.getfield 21, 3) := by decide +kernel
theorem dX5_copyFrom_50 : decode cX5_copyFrom 50 = .ok (.putfield 21, 3) := by decide +kernel
theorem dX5_copyFrom_53 : decode cX5_copyFrom 53 = .ok (.aload_n 0, 1) := by decide +kernel
theorem dX5_copyFrom_54 : decode cX5_copyFrom 54 = .ok (.getfield 28, 3) := by decide +kernel
theorem dX5_copyFrom_57 : decode cX5_copyFrom 57 = .ok (.aload_n 1, 1) := by decide +kernel
theorem dX5_copyFrom_58 : decode cX5_copyFrom 58 = .ok (.getfield 28, 3) := by decide +kernel
theorem dX5_copyFrom_61 : decode cX5_copyFrom 61 = .ok (.invokevirtual 44, 3) := by decide +kernel
theorem dX5_copyFrom_64 : decode cX5_copyFrom 64 = .ok (.aload_n 0, 1) := by decide +kernel
theorem dX5_copyFrom_65 : decode cX5_copyFrom 65 = .ok (.aload_n 1, 1) := by decide +kernel
theorem dX5_copyFrom_66 : decode cX5_copyFrom 66 = .ok (.getfield 32, 3) := by decide +kernel
theorem dX5_copyFrom_69 : decode cX5_copyFrom 69 = .ok (.putfield 32, 3) := by decide +kernel
theorem dX5_copyFrom_72 : decode cX5_copyFrom 72 = .ok (.aload_n 0, 1) := by decide +kernel
theorem dX5_copyFrom_73 : decode cX5_copyFrom 73 = .ok (.aload_n 1, 1) := by decide +kernel
theorem dX5_copyFrom_74 : decode cX5_copyFrom 74 = .ok (.getfield 35, 3) := by decide +kernel
theorem dX5_copyFrom_77 : decode cX5_copyFrom 77 = .ok (.putfield 35, 3) := by decide +kernel
theorem dX5_copyFrom_80 : decode cX5_copyFrom 80 = .ok (.return_, 1) := by decide +kernel
theorem dX5_rename_0 : decode cX5_rename 0 = .ok (.aload_n 0, 1) := by decide +kernel
theorem dX5_rename_1 : decode cX5_rename 1 = .ok (.iload_n 1, 1) := by decide +kernel
theorem dX5_rename_2 : decode cX5_rename 2 = .ok (.invokevirtual 48, 3) := by decide +kernel
theorem dX5_rename_5 : decode cX5_rename 5 = .ok (.ifCond .eq 17, 3) := by decide +kernel
theorem dX5_rename_8 : decode cX5_rename 8 = .ok (.aload_n 0, 1) := by decide +kernel
theorem dX5_rename_9 : decode cX5_rename 9 = .ok (.getfield 9, 3) := by decide +kernel
theorem dX5_rename_12 : decode cX5_rename 12 = .ok (.iload_n 1, 1) := by decide +kernel
theorem dX5_rename_13 : decode cX5_rename 13 = .ok (.iload_n 2, 1) := by decide +kernel
theorem dX5_rename_14 : decode cX5_rename 14 = .ok (.iastore, 1) := by decide +kernel
theorem dX5_rename_15 : decode cX5_rename 15 = .ok (.aload_n 0, 1) := by decide +kernel
theorem dX5_rename_16 : decode cX5_rename 16 = .ok (.getfield 15, 3) := by decide +kernel
theorem dX5_rename_19 : decode cX5_rename 19 = .ok (.iload_n 1, 1) := by decide +kernel
theorem dX5_rename_20 : decode cX5_rename 20 = .ok (.iload_n 3, 1) := by decide +kernel
theorem dX5_rename_21 : decode cX5_rename 21 = .ok (.iastore, 1) := by decide +kernel
theorem dX5_rename_22 : decode cX5_rename 22 = .ok (.return_, 1) := by decide +kernel
theorem dX5_addLowest_0 : decode cX5_addLowest 0 = .ok (.aload_n 0, 1) := by decide +kernel
theorem dX5_addLowest_1 : decode cX5_addLowest 1 = .ok (.getfield 21, 3) := by decide +kernel
theorem dX5_addLowest_4 : decode cX5_addLowest 4 = .ok (.bipush 7, 2) := by decide +kernel
theorem dX5_addLowest_6 : decode cX5_addLowest 6 = .ok (.if_icmp .ge 10, 3) := by decide +kernel
theorem dX5_addLowest_9 : decode cX5_addLowest 9 = .ok (.iload_n 1, 1) := by decide +kernel
theorem dX5_addLowest_10 : decode cX5_addLowest 10 = .ok (.invokestatic 52, 3) := by decide +kernel
theorem dX5_addLowest_13 : decode cX5_addLowest 13 = .ok (.ifCond .ne 5, 3) := by decide +kernel
theorem dX5_addLowest_16 : decode cX5_addLowest 16 = .ok (.iconst 0, 1) := by decide +kernel
theorem dX5_addLowest_17 : decode cX5_addLowest 17 = .ok (.ireturn, 1) := by decide +kernel
theorem dX5_addLowest_18 : decode cX5_addLowest 18 = .ok (.iload_n 2, 1) := by decide +kernel
theorem dX5_addLowest_19 : decode cX5_addLowest 19 = .ok (.iconst 0, 1) := by decide +kernel
theorem dX5_addLowest_20 : decode cX5_addLowest 20 = .ok (.bipush 9, 2) := by decide +kernel
theorem dX5_addLowest_22 : decode cX5_addLowest 22 = .ok (.invokestatic 55, 3) := by decide +kernel
theorem dX5_addLowest_25 : decode cX5_addLowest 25 = .ok (.ifCond .ne 13, 3) := by decide +kernel
theorem dX5_addLowest_28 : decode cX5_addLowest 28 = .ok (.iload_n 3, 1) := by decide +kernel
theorem dX5_addLowest_29 : decode cX5_addLowest 29 = .ok (.iconst 0, 1) := by decide +kernel
theorem dX5_addLowest_30 : decode cX5_addLowest 30 = .ok (.bipush 99, 2) := by decide +kernel
theorem dX5_addLowest_32 : decode cX5_addLowest 32 = .ok (.invokestatic 55, 3) := by decide +kernel
theorem dX5_addLowest_35 : decode cX5_addLowest 35 = .ok (.ifCond .eq 5, 3) := by decide +kernel
theorem dX5_addLowest_38 : decode cX5_addLowest 38 = .ok (.iconst 0, 1) := by decide +kernel
theorem dX5_addLowest_39 : decode cX5_addLowest 39 = .ok (.ireturn, 1) := by decide +kernel
theorem dX5_addLowest_40 : decode cX5_addLowest 40 = .ok (.aload_n 0, 1) := by decide +kernel
theorem dX5_addLowest_41 : decode cX5_addLowest 41 = .ok (.getfield 9, 3) := by decide +kernel
theorem dX5_addLowest_44 : decode cX5_addLowest 44 = .ok (.aload_n 0, 1) := by decide +kernel
theorem dX5_addLowest_45 : decode cX5_addLowest 45 = .ok (.getfield 21, 3) := by decide +kernel
theorem dX5_addLowest_48 : decode cX5_addLowest 48 = .ok (.iload_n 1, 1) := by decide +kernel
theorem dX5_addLowest_49 : decode cX5_addLowest 49 = .ok (.iastore, 1) := by decide +kernel
theorem dX5_addLowest_50 : decode cX5_addLowest 50 = .ok (.aload_n 0, 1) := by decide +kernel
theorem dX5_addLowest_51 : decode cX5_addLowest 51 = .ok (.getfield 15, 3) := by decide +kernel
theorem dX5_addLowest_54 : decode cX5_addLowest 54 = .ok (.aload_n 0, 1) := by decide +kernel
theorem dX5_addLowest_55 : decode cX5_addLowest 55 = .ok (.getfield 21, 3) := by decide +kernel
theorem dX5_addLowest_58 : decode cX5_addLowest 58 = .ok (.iload_n 2, 1) := by decide +kernel
theorem dX5_addLowest_59 : decode cX5_addLowest 59 = .ok (.iastore, 1) := by decide +kernel
theorem dX5_addLowest_60 : decode cX5_addLowest 60 = .ok (.aload_n 0, 1) := by decide +kernel
theorem dX5_addLowest_61 : decode cX5_addLowest 61 = .ok (.getfield 18, 3) := by decide +kernel
theorem dX5_addLowest_64 : decode cX5_addLowest 64 = .ok (.aload_n 0, 1) := by decide +kernel
theorem dX5_addLowest_65 : decode cX5_addLowest 65 = .ok (.getfield 21, 3) := by decide +kernel
theorem dX5_addLowest_68 : decode cX5_addLowest 68 = .ok (.iload_n 3, 1) := by decide +kernel
theorem dX5_addLowest_69 : decode cX5_addLowest 69 = .ok (.iastore, 1) := by decide +kernel
theorem dX5_addLowest_70 : decode cX5_addLowest 70 = .ok (.aload_n 0, 1) := by decide +kernel
theorem dX5_addLowest_71 : decode cX5_addLowest 71 = .ok (.dup, 1) := by decide +kernel
theorem dX5_addLowest_72 : decode cX5_addLowest 72 = .ok (.getfield 21, 3) := by decide +kernel
theorem dX5_addLowest_75 : decode cX5_addLowest 75 = .ok (.iconst 1, 1) := by decide +kernel
theorem dX5_addLowest_76 : decode cX5_addLowest 76 = .ok (.iadd, 1) := by decide +kernel
theorem dX5_addLowest_77 : decode cX5_addLowest 77 = .ok (.putfield 21, 3) := by decide +kernel
theorem dX5_addLowest_80 : decode cX5_addLowest 80 = .ok (.iconst 1, 1) := by decide +kernel
theorem dX5_addLowest_81 : decode cX5_addLowest 81 = .ok (.ireturn, 1) := by decide +kernel
theorem dX5_loseLowest_0 : decode cX5_loseLowest 0 = .ok (.aload_n 0, 1) := by decide +kernel
theorem dX5_loseLowest_1 : decode cX5_loseLowest 1 = .ok (.getfield 21, 3) := by decide +kernel
theorem dX5_loseLowest_4 : decode cX5_loseLowest 4 = .ok (.ifCond .ne 5, 3) := by decide +kernel
theorem dX5_loseLowest_7 : decode cX5_loseLowest 7 = .ok (.iconst 0, 1) := by decide +kernel
theorem dX5_loseLowest_8 : decode cX5_loseLowest 8 = .ok (.ireturn, 1) := by decide +kernel
theorem dX5_loseLowest_9 : decode cX5_loseLowest 9 = .ok (.aload_n 0, 1) := by decide +kernel
theorem dX5_loseLowest_10 : decode cX5_loseLowest 10 = .ok (.dup, 1) := by decide +kernel
theorem dX5_loseLowest_11 : decode cX5_loseLowest 11 = .ok (.getfield 21, 3) := by decide +kernel
theorem dX5_loseLowest_14 : decode cX5_loseLowest 14 = .ok (.iconst 1, 1) := by decide +kernel
theorem dX5_loseLowest_15 : decode cX5_loseLowest 15 = .ok (.isub, 1) := by decide +kernel
theorem dX5_loseLowest_16 : decode cX5_loseLowest 16 = .ok (.putfield 21, 3) := by decide +kernel
theorem dX5_loseLowest_19 : decode cX5_loseLowest 19 = .ok (.iconst 1, 1) := by decide +kernel
theorem dX5_loseLowest_20 : decode cX5_loseLowest 20 = .ok (.ireturn, 1) := by decide +kernel
theorem dX5_change_0 : decode cX5_change 0 = .ok (.iload_n 1, 1) := by decide +kernel
theorem dX5_change_1 : decode cX5_change 1 = .ok (.tableswitch 88 0 2 #[27, 49, 69], 27) := by decide +kernel
theorem dX5_change_28 : decode cX5_change 28 = .ok (.iload_n 2, 1) := by decide +kernel
theorem dX5_change_29 : decode cX5_change 29 = .ok (.iconst 1, 1) := by decide +kernel
theorem dX5_change_30 : decode cX5_change 30 = .ok (.bipush 8, 2) := by decide +kernel
theorem dX5_change_32 : decode cX5_change 32 = .ok (.invokestatic 55, 3) := by decide +kernel
theorem dX5_change_35 : decode cX5_change 35 = .ok (.ifCond .eq 5, 3) := by decide +kernel
theorem dX5_change_38 : decode cX5_change 38 = .ok (.iconst 0, 1) := by decide +kernel
theorem dX5_change_39 : decode cX5_change 39 = .ok (.ireturn, 1) := by decide +kernel
theorem dX5_change_40 : decode cX5_change 40 = .ok (.aload_n 0, 1) := by decide +kernel
theorem dX5_change_41 : decode cX5_change 41 = .ok (.getfield 28, 3) := by decide +kernel
theorem dX5_change_44 : decode cX5_change 44 = .ok (.iload_n 2, 1) := by decide +kernel
theorem dX5_change_45 : decode cX5_change 45 = .ok (.invokevirtual 59, 3) := by decide +kernel
theorem dX5_change_48 : decode cX5_change 48 = .ok (.iconst 1, 1) := by decide +kernel
theorem dX5_change_49 : decode cX5_change 49 = .ok (.ireturn, 1) := by decide +kernel
theorem dX5_change_50 : decode cX5_change 50 = .ok (.iload_n 2, 1) := by decide +kernel
theorem dX5_change_51 : decode cX5_change 51 = .ok (.iconst 0, 1) := by decide +kernel
theorem dX5_change_52 : decode cX5_change 52 = .ok (.sipush 999, 3) := by decide +kernel
theorem dX5_change_55 : decode cX5_change 55 = .ok (.invokestatic 55, 3) := by decide +kernel
theorem dX5_change_58 : decode cX5_change 58 = .ok (.ifCond .eq 5, 3) := by decide +kernel
theorem dX5_change_61 : decode cX5_change 61 = .ok (.iconst 0, 1) := by decide +kernel
theorem dX5_change_62 : decode cX5_change 62 = .ok (.ireturn, 1) := by decide +kernel
theorem dX5_change_63 : decode cX5_change 63 = .ok (.aload_n 0, 1) := by decide +kernel
theorem dX5_change_64 : decode cX5_change 64 = .ok (.iload_n 2, 1) := by decide +kernel
theorem dX5_change_65 : decode cX5_change 65 = .ok (.putfield 32, 3) := by decide +kernel
theorem dX5_change_68 : decode cX5_change 68 = .ok (.iconst 1, 1) := by decide +kernel
theorem dX5_change_69 : decode cX5_change 69 = .ok (.ireturn, 1) := by decide +kernel
theorem dX5_change_70 : decode cX5_change 70 = .ok (.iload_n 2, 1) := by decide +kernel
theorem dX5_change_71 : decode cX5_change 71 = .ok (.iconst 0, 1) := by decide +kernel
theorem dX5_change_72 : decode cX5_change 72 = .ok (.bipush 8, 2) := by decide +kernel
theorem dX5_change_74 : decode cX5_change 74 = .ok (.invokestatic 55, 3) := by decide +kernel
theorem dX5_change_77 : decode cX5_change 77 = .ok (.ifCond .eq 5, 3) := by decide +kernel
theorem dX5_change_80 : decode cX5_change 80 = .ok (.iconst 0, 1) := by decide +kernel
theorem dX5_change_81 : decode cX5_change 81 = .ok (.ireturn, 1) := by decide +kernel
theorem dX5_change_82 : decode cX5_change 82 = .ok (.aload_n 0, 1) := by decide +kernel
theorem dX5_change_83 : decode cX5_change 83 = .ok (.iload_n 2, 1) := by decide +kernel
theorem dX5_change_84 : decode cX5_change 84 = .ok (.putfield 35, 3) := by decide +kernel
theorem dX5_change_87 : decode cX5_change 87 = .ok (.iconst 1, 1) := by decide +kernel
theorem dX5_change_88 : decode cX5_change 88 = .ok (.ireturn, 1) := by decide +kernel
theorem dX5_change_89 : decode cX5_change 89 = .ok (.iconst 0, 1) := by decide +kernel
theorem dX5_change_90 : decode cX5_change 90 = .ok (.ireturn, 1) := by decide +kernel
theorem dX5_changePoint_0 : decode cX5_changePoint 0 = .ok (.aload_n 0, 1) := by decide +kernel
theorem dX5_changePoint_1 : decode cX5_changePoint 1 = .ok (.getfield 28, 3) := by decide +kernel
theorem dX5_changePoint_4 : decode cX5_changePoint 4 = .ok (.iload_n 1, 1) := by decide +kernel
theorem dX5_changePoint_5 : decode cX5_changePoint 5 = .ok (.invokevirtual 63, 3) := by decide +kernel
theorem dX5_changePoint_8 : decode cX5_changePoint 8 = .ok (.ifCond .ne 5, 3) := by decide +kernel
theorem dX5_changePoint_11 : decode cX5_changePoint 11 = .ok (.iconst 0, 1) := by decide +kernel
theorem dX5_changePoint_12 : decode cX5_changePoint 12 = .ok (.ireturn, 1) := by decide +kernel
theorem dX5_changePoint_13 : decode cX5_changePoint 13 = .ok (.aload_n 0, 1) := by decide +kernel
theorem dX5_changePoint_14 : decode cX5_changePoint 14 = .ok (.getfield 28, 3) := by decide +kernel
theorem dX5_changePoint_17 : decode cX5_changePoint 17 = .ok (.iload_n 1, 1) := by decide +kernel
theorem dX5_changePoint_18 : decode cX5_changePoint 18 = .ok (.iload_n 2, 1) := by decide +kernel
theorem dX5_changePoint_19 : decode cX5_changePoint 19 = .ok (.invokevirtual 66, 3) := by decide +kernel
theorem dX5_changePoint_22 : decode cX5_changePoint 22 = .ok (.iconst 1, 1) := by decide +kernel
theorem dX5_changePoint_23 : decode cX5_changePoint 23 = .ok (.ireturn, 1) := by decide +kernel
theorem dX5_costsBetween_0 : decode cX5_costsBetween 0 = .ok (.iconst 0, 1) := by decide +kernel
theorem dX5_costsBetween_1 : decode cX5_costsBetween 1 = .ok (.istore_n 3, 1) := by decide +kernel
theorem dX5_costsBetween_2 : decode cX5_costsBetween 2 = .ok (.iconst 0, 1) := by decide +kernel
theorem dX5_costsBetween_3 : decode cX5_costsBetween 3 = .ok (.iload_n 1, 1) := by decide +kernel
theorem dX5_costsBetween_4 : decode cX5_costsBetween 4 = .ok (.invokestatic 70, 3) := by decide +kernel
theorem dX5_costsBetween_7 : decode cX5_costsBetween 7 = .ok (.istore 4, 2) := by decide +kernel
theorem dX5_costsBetween_9 : decode cX5_costsBetween 9 = .ok (.iload 4, 2) := by decide +kernel
theorem dX5_costsBetween_11 : decode cX5_costsBetween 11 = .ok (.iload_n 2, 1) := by decide +kernel
theorem dX5_costsBetween_12 : decode cX5_costsBetween 12 = .ok (.if_icmp .ge 28, 3) := by decide +kernel
theorem dX5_costsBetween_15 : decode cX5_costsBetween 15 = .ok (.iload 4, 2) := by decide +kernel
theorem dX5_costsBetween_17 : decode cX5_costsBetween 17 = .ok (.aload_n 0, 1) := by decide +kernel
theorem dX5_costsBetween_18 : decode cX5_costsBetween 18 = .ok (.getfield 21, 3) := by decide +kernel
theorem dX5_costsBetween_21 : decode cX5_costsBetween 21 = .ok (.if_icmp .ge 19, 3) := by decide +kernel
theorem dX5_costsBetween_24 : decode cX5_costsBetween 24 = .ok (.iload_n 3, 1) := by decide +kernel
theorem dX5_costsBetween_25 : decode cX5_costsBetween 25 = .ok (.aload_n 0, 1) := by decide +kernel
theorem dX5_costsBetween_26 : decode cX5_costsBetween 26 = .ok (.getfield 18, 3) := by decide +kernel
theorem dX5_costsBetween_29 : decode cX5_costsBetween 29 = .ok (.iload 4, 2) := by decide +kernel
theorem dX5_costsBetween_31 : decode cX5_costsBetween 31 = .ok (.iaload, 1) := by decide +kernel
theorem dX5_costsBetween_32 : decode cX5_costsBetween 32 = .ok (.iadd, 1) := by decide +kernel
theorem dX5_costsBetween_33 : decode cX5_costsBetween 33 = .ok (.istore_n 3, 1) := by decide +kernel
theorem dX5_costsBetween_34 : decode cX5_costsBetween 34 = .ok (.iinc 4 1, 3) := by decide +kernel
theorem dX5_costsBetween_37 : decode cX5_costsBetween 37 = .ok (.goto (-28), 3) := by decide +kernel
theorem dX5_costsBetween_40 : decode cX5_costsBetween 40 = .ok (.iload_n 3, 1) := by decide +kernel
theorem dX5_costsBetween_41 : decode cX5_costsBetween 41 = .ok (.ireturn, 1) := by decide +kernel
theorem dX5_sendsBack_0 : decode cX5_sendsBack 0 = .ok (.aload_n 0, 1) := by decide +kernel
theorem dX5_sendsBack_1 : decode cX5_sendsBack 1 = .ok (.iload_n 1, 1) := by decide +kernel
theorem dX5_sendsBack_2 : decode cX5_sendsBack 2 = .ok (.invokevirtual 48, 3) := by decide +kernel
theorem dX5_sendsBack_5 : decode cX5_sendsBack 5 = .ok (.ifCond .eq 25, 3) := by decide +kernel
theorem dX5_sendsBack_8 : decode cX5_sendsBack 8 = .ok (.aload_n 0, 1) := by decide +kernel
theorem dX5_sendsBack_9 : decode cX5_sendsBack 9 = .ok (.getfield 9, 3) := by decide +kernel
theorem dX5_sendsBack_12 : decode cX5_sendsBack 12 = .ok (.iload_n 1, 1) := by decide +kernel
theorem dX5_sendsBack_13 : decode cX5_sendsBack 13 = .ok (.iaload, 1) := by decide +kernel
theorem dX5_sendsBack_14 : decode cX5_sendsBack 14 = .ok (.iconst 3, 1) := by decide +kernel
theorem dX5_sendsBack_15 : decode cX5_sendsBack 15 = .ok (.if_icmp .ne 15, 3) := by decide +kernel
theorem dX5_sendsBack_18 : decode cX5_sendsBack 18 = .ok (.aload_n 2, 1) := by decide +kernel
theorem dX5_sendsBack_19 : decode cX5_sendsBack 19 = .ok (.invokevirtual 76, 3) := by decide +kernel
theorem dX5_sendsBack_22 : decode cX5_sendsBack 22 = .ok (.iload_n 3, 1) := by decide +kernel
theorem dX5_sendsBack_23 : decode cX5_sendsBack 23 = .ok (.if_icmp .le 7, 3) := by decide +kernel
theorem dX5_sendsBack_26 : decode cX5_sendsBack 26 = .ok (.iconst 1, 1) := by decide +kernel
theorem dX5_sendsBack_27 : decode cX5_sendsBack 27 = .ok (.goto 4, 3) := by decide +kernel
theorem dX5_sendsBack_30 : decode cX5_sendsBack 30 = .ok (.iconst 0, 1) := by decide +kernel
theorem dX5_sendsBack_31 : decode cX5_sendsBack 31 = .ok (.ireturn, 1) := by decide +kernel
theorem dX5_hear_0 : decode cX5_hear 0 = .ok (.aload_n 0, 1) := by decide +kernel
theorem dX5_hear_1 : decode cX5_hear 1 = .ok (.iload_n 1, 1) := by decide +kernel
theorem dX5_hear_2 : decode cX5_hear 2 = .ok (.invokevirtual 48, 3) := by decide +kernel
theorem dX5_hear_5 : decode cX5_hear 5 = .ok (.ifCond .eq 20, 3) := by decide +kernel
theorem dX5_hear_8 : decode cX5_hear 8 = .ok (.aload_n 0, 1) := by decide +kernel
theorem dX5_hear_9 : decode cX5_hear 9 = .ok (.aload_n 0, 1) := by decide +kernel
theorem dX5_hear_10 : decode cX5_hear 10 = .ok (.getfield 9, 3) := by decide +kernel
theorem dX5_hear_13 : decode cX5_hear 13 = .ok (.iload_n 1, 1) := by decide +kernel
theorem dX5_hear_14 : decode cX5_hear 14 = .ok (.iaload, 1) := by decide +kernel
theorem dX5_hear_15 : decode cX5_hear 15 = .ok (.aload_n 0, 1) := by decide +kernel
theorem dX5_hear_16 : decode cX5_hear 16 = .ok (.getfield 15, 3) := by decide +kernel
theorem dX5_hear_19 : decode cX5_hear 19 = .ok (.iload_n 1, 1) := by decide +kernel
theorem dX5_hear_20 : decode cX5_hear 20 = .ok (.iaload, 1) := by decide +kernel
theorem dX5_hear_21 : decode cX5_hear 21 = .ok (.aload_n 2, 1) := by decide +kernel
theorem dX5_hear_22 : decode cX5_hear 22 = .ok (.invokevirtual 80, 3) := by decide +kernel
theorem dX5_hear_25 : decode cX5_hear 25 = .ok (.return_, 1) := by decide +kernel
theorem dX5_hearAs_0 : decode cX5_hearAs 0 = .ok (.iload_n 1, 1) := by decide +kernel
theorem dX5_hearAs_1 : decode cX5_hearAs 1 = .ok (.iconst 3, 1) := by decide +kernel
theorem dX5_hearAs_2 : decode cX5_hearAs 2 = .ok (.if_icmp .ne 15, 3) := by decide +kernel
theorem dX5_hearAs_5 : decode cX5_hearAs 5 = .ok (.aload_n 3, 1) := by decide +kernel
theorem dX5_hearAs_6 : decode cX5_hearAs 6 = .ok (.invokevirtual 76, 3) := by decide +kernel
theorem dX5_hearAs_9 : decode cX5_hearAs 9 = .ok (.aload_n 0, 1) := by decide +kernel
theorem dX5_hearAs_10 : decode cX5_hearAs 10 = .ok (.getfield 35, 3) := by decide +kernel
theorem dX5_hearAs_13 : decode cX5_hearAs 13 = .ok (.if_icmp .le 4, 3) := by decide +kernel
theorem dX5_hearAs_16 : decode cX5_hearAs 16 = .ok (.return_, 1) := by decide +kernel
theorem dX5_hearAs_17 : decode cX5_hearAs 17 = .ok (.aload_n 3, 1) := by decide +kernel
theorem dX5_hearAs_18 : decode cX5_hearAs 18 = .ok (.iload_n 1, 1) := by decide +kernel
theorem dX5_hearAs_19 : decode cX5_hearAs 19 = .ok (.iload_n 2, 1) := by decide +kernel
theorem dX5_hearAs_20 : decode cX5_hearAs 20 = .ok (.invokevirtual 84, 3) := by decide +kernel
theorem dX5_hearAs_23 : decode cX5_hearAs 23 = .ok (.return_, 1) := by decide +kernel
theorem dX5_goDown_0 : decode cX5_goDown 0 = .ok (.iconst 0, 1) := by decide +kernel
theorem dX5_goDown_1 : decode cX5_goDown 1 = .ok (.istore_n 3, 1) := by decide +kernel
theorem dX5_goDown_2 : decode cX5_goDown 2 = .ok (.iload_n 3, 1) := by decide +kernel
theorem dX5_goDown_3 : decode cX5_goDown 3 = .ok (.iload_n 2, 1) := by decide +kernel
theorem dX5_goDown_4 : decode cX5_goDown 4 = .ok (.if_icmp .ge 34, 3) := by decide +kernel
theorem dX5_goDown_7 : decode cX5_goDown 7 = .ok (.iload_n 3, 1) := by decide +kernel
theorem dX5_goDown_8 : decode cX5_goDown 8 = .ok (.aload_n 0, 1) := by decide +kernel
theorem dX5_goDown_9 : decode cX5_goDown 9 = .ok (.getfield 21, 3) := by decide +kernel
theorem dX5_goDown_12 : decode cX5_goDown 12 = .ok (.if_icmp .ge 26, 3) := by decide +kernel
theorem dX5_goDown_15 : decode cX5_goDown 15 = .ok (.aload_n 0, 1) := by decide +kernel
theorem dX5_goDown_16 : decode cX5_goDown 16 = .ok (.aload_n 0, 1) := by decide +kernel
theorem dX5_goDown_17 : decode cX5_goDown 17 = .ok (.getfield 9, 3) := by decide +kernel
theorem dX5_goDown_20 : decode cX5_goDown 20 = .ok (.iload_n 3, 1) := by decide +kernel
theorem dX5_goDown_21 : decode cX5_goDown 21 = .ok (.iaload, 1) := by decide +kernel
theorem dX5_goDown_22 : decode cX5_goDown 22 = .ok (.aload_n 0, 1) := by decide +kernel
theorem dX5_goDown_23 : decode cX5_goDown 23 = .ok (.getfield 15, 3) := by decide +kernel
theorem dX5_goDown_26 : decode cX5_goDown 26 = .ok (.iload_n 3, 1) := by decide +kernel
theorem dX5_goDown_27 : decode cX5_goDown 27 = .ok (.iaload, 1) := by decide +kernel
theorem dX5_goDown_28 : decode cX5_goDown 28 = .ok (.aload_n 1, 1) := by decide +kernel
theorem dX5_goDown_29 : decode cX5_goDown 29 = .ok (.invokevirtual 80, 3) := by decide +kernel
theorem dX5_goDown_32 : decode cX5_goDown 32 = .ok (.iinc 3 1, 3) := by decide +kernel
theorem dX5_goDown_35 : decode cX5_goDown 35 = .ok (.goto (-33), 3) := by decide +kernel
theorem dX5_goDown_38 : decode cX5_goDown 38 = .ok (.return_, 1) := by decide +kernel
theorem dX6_init_0 : decode cX6_init 0 = .ok (.aload_n 0, 1) := by decide +kernel
theorem dX6_init_1 : decode cX6_init 1 = .ok (.invokespecial 3, 3) := by decide +kernel
theorem dX6_init_4 : decode cX6_init 4 = .ok (.aload_n 0, 1) := by decide +kernel
theorem dX6_init_5 : decode cX6_init 5 = .ok (.bipush 7, 2) := by decide +kernel
theorem dX6_init_7 : decode cX6_init 7 = .ok (.newarray .boolean, 2) := by decide +kernel
theorem dX6_init_9 : decode cX6_init 9 = .ok (.putfield 9, 3) := by decide +kernel
theorem dX6_init_12 : decode cX6_init 12 = .ok (.aload_n 0, 1) := by decide +kernel
theorem dX6_init_13 : decode cX6_init 13 = .ok (.bipush 7, 2) := by decide +kernel
theorem dX6_init_15 : decode cX6_init 15 = .ok (.newarray .boolean, 2) := by decide +kernel
theorem dX6_init_17 : decode cX6_init 17 = .ok (.putfield 15, 3) := by decide +kernel
theorem dX6_init_20 : decode cX6_init 20 = .ok (.aload_n 0, 1) := by decide +kernel
theorem dX6_init_21 : decode cX6_init 21 = .ok (.bipush 7, 2) := by decide +kernel
theorem dX6_init_23 : decode cX6_init 23 = .ok (.newarray .boolean, 2) := by decide +kernel
theorem dX6_init_25 : decode cX6_init 25 = .ok (.putfield 18, 3) := by decide +kernel
theorem dX6_init_28 : decode cX6_init 28 = .ok (.aload_n 0, 1) := by decide +kernel
theorem dX6_init_29 : decode cX6_init 29 = .ok (.bipush 7, 2) := by decide +kernel
theorem dX6_init_31 : decode cX6_init 31 = .ok (.newarray .int, 2) := by decide +kernel
theorem dX6_init_33 : decode cX6_init 33 = .ok (.putfield 21, 3) := by decide +kernel
theorem dX6_init_36 : decode cX6_init 36 = .ok (.aload_n 0, 1) := by decide +kernel
theorem dX6_init_37 : decode cX6_init 37 = .ok (.bipush 7, 2) := by decide +kernel
theorem dX6_init_39 : decode cX6_init 39 = .ok (.newarray .int, 2) := by decide +kernel
theorem dX6_init_41 : decode cX6_init 41 = .ok (.putfield 25, 3) := by decide +kernel
theorem dX6_init_44 : decode cX6_init 44 = .ok (.aload_n 0, 1) := by decide +kernel
theorem dX6_init_45 : decode cX6_init 45 = .ok (.iconst 0, 1) := by decide +kernel
theorem dX6_init_46 : decode cX6_init 46 = .ok (.putfield 28, 3) := by decide +kernel
theorem dX6_init_49 : decode cX6_init 49 = .ok (.return_, 1) := by decide +kernel
theorem dX6_weigh_0 : decode cX6_weigh 0 = .ok (.aload_n 0, 1) := by decide +kernel
theorem dX6_weigh_1 : decode cX6_weigh 1 = .ok (.aload_n 1, 1) := by decide +kernel
theorem dX6_weigh_2 : decode cX6_weigh 2 = .ok (.getfield 32, 3) := by decide +kernel
theorem dX6_weigh_5 : decode cX6_weigh 5 = .ok (.putfield 28, 3) := by decide +kernel
theorem dX6_weigh_8 : decode cX6_weigh 8 = .ok (.aload_n 2, 1) := by decide +kernel
theorem dX6_weigh_9 : decode cX6_weigh 9 = .ok (.aload_n 1, 1) := by decide +kernel
theorem dX6_weigh_10 : decode cX6_weigh 10 = .ok (.getfield 35, 3) := by decide +kernel
theorem dX6_weigh_13 : decode cX6_weigh 13 = .ok (.invokevirtual 39, 3) := by decide +kernel
theorem dX6_weigh_16 : decode cX6_weigh 16 = .ok (.iconst 0, 1) := by decide +kernel
theorem dX6_weigh_17 : decode cX6_weigh 17 = .ok (.istore_n 3, 1) := by decide +kernel
theorem dX6_weigh_18 : decode cX6_weigh 18 = .ok (.iload_n 3, 1) := by decide +kernel
theorem dX6_weigh_19 : decode cX6_weigh 19 = .ok (.aload_n 0, 1) := by decide +kernel
theorem dX6_weigh_20 : decode cX6_weigh 20 = .ok (.getfield 28, 3) := by decide +kernel
theorem dX6_weigh_23 : decode cX6_weigh 23 = .ok (.if_icmp .ge 25, 3) := by decide +kernel
theorem dX6_weigh_26 : decode cX6_weigh 26 = .ok (.aload_n 1, 1) := by decide +kernel
theorem dX6_weigh_27 : decode cX6_weigh 27 = .ok (.iload_n 3, 1) := by decide +kernel
theorem dX6_weigh_28 : decode cX6_weigh 28 = .ok (.aload_n 2, 1) := by decide +kernel
theorem dX6_weigh_29 : decode cX6_weigh 29 = .ok (.invokevirtual 45, 3) := by decide +kernel
theorem dX6_weigh_32 : decode cX6_weigh 32 = .ok (.aload_n 0, 1) := by decide +kernel
theorem dX6_weigh_33 : decode cX6_weigh 33 = .ok (.getfield 9, 3) := by decide +kernel
theorem dX6_weigh_36 : decode cX6_weigh 36 = .ok (.iload_n 3, 1) := by decide +kernel
theorem dX6_weigh_37 : decode cX6_weigh 37 = .ok (.aload_n 2, 1) := by decide +kernel
theorem dX6_weigh_38 : decode cX6_weigh 38 = .ok (.invokevirtual 49, 3) := by decide +kernel
theorem dX6_weigh_41 : decode cX6_weigh 41 = .ok (.bastore, 1) := by decide +kernel
theorem dX6_weigh_42 : decode cX6_weigh 42 = .ok (.iinc 3 1, 3) := by decide +kernel
theorem dX6_weigh_45 : decode cX6_weigh 45 = .ok (.goto (-27), 3) := by decide +kernel
theorem dX6_weigh_48 : decode cX6_weigh 48 = .ok (.aload_n 0, 1) := by decide +kernel
theorem dX6_weigh_49 : decode cX6_weigh 49 = .ok (.getfield 28, 3) := by decide +kernel
theorem dX6_weigh_52 : decode cX6_weigh 52 = .ok (.iconst 1, 1) := by decide +kernel
theorem dX6_weigh_53 : decode cX6_weigh 53 = .ok (.isub, 1) := by decide +kernel
theorem dX6_weigh_54 : decode cX6_weigh 54 = .ok (.istore_n 3, 1) := by decide +kernel
theorem dX6_weigh_55 : decode cX6_weigh 55 = .ok (.iload_n 3, 1) := by decide +kernel
theorem dX6_weigh_56 : decode cX6_weigh 56 = .ok (.ifCond .lt 58, 3) := by decide +kernel
theorem dX6_weigh_59 : decode cX6_weigh 59 = .ok (.aload_n 0, 1) := by decide +kernel
theorem dX6_weigh_60 : decode cX6_weigh 60 = .ok (.getfield 15, 3) := by decide +kernel
theorem dX6_weigh_63 : decode cX6_weigh 63 = .ok (.iload_n 3, 1) := by decide +kernel
theorem dX6_weigh_64 : decode cX6_weigh 64 = .ok (.iconst 0, 1) := by decide +kernel
theorem dX6_weigh_65 : decode cX6_weigh 65 = .ok (.bastore, 1) := by decide +kernel
theorem dX6_weigh_66 : decode cX6_weigh 66 = .ok (.aload_n 0, 1) := by decide +kernel
theorem dX6_weigh_67 : decode cX6_weigh 67 = .ok (.getfield 18, 3) := by decide +kernel
theorem dX6_weigh_70 : decode cX6_weigh 70 = .ok (.iload_n 3, 1) := by decide +kernel
theorem dX6_weigh_71 : decode cX6_weigh 71 = .ok (.aload_n 0, 1) := by decide +kernel
theorem dX6_weigh_72 : decode cX6_weigh 72 = .ok (.getfield 9, 3) := by decide +kernel
theorem dX6_weigh_75 : decode cX6_weigh 75 = .ok (.iload_n 3, 1) := by decide +kernel
theorem dX6_weigh_76 : decode cX6_weigh 76 = .ok (.baload, 1) := by decide +kernel
theorem dX6_weigh_77 : decode cX6_weigh 77 = .ok (.bastore, 1) := by decide +kernel
theorem dX6_weigh_78 : decode cX6_weigh 78 = .ok (.aload_n 0, 1) := by decide +kernel
theorem dX6_weigh_79 : decode cX6_weigh 79 = .ok (.getfield 21, 3) := by decide +kernel
theorem dX6_weigh_82 : decode cX6_weigh 82 = .ok (.iload_n 3, 1) := by decide +kernel
theorem dX6_weigh_83 : decode cX6_weigh 83 = .ok (.iconst 0, 1) := by decide +kernel
theorem dX6_weigh_84 : decode cX6_weigh 84 = .ok (.iastore, 1) := by decide +kernel
theorem dX6_weigh_85 : decode cX6_weigh 85 = .ok (.aload_n 0, 1) := by decide +kernel
theorem dX6_weigh_86 : decode cX6_weigh 86 = .ok (.getfield 25, 3) := by decide +kernel
theorem dX6_weigh_89 : decode cX6_weigh 89 = .ok (.iload_n 3, 1) := by decide +kernel
theorem dX6_weigh_90 : decode cX6_weigh 90 = .ok (.iconst 0, 1) := by decide +kernel
theorem dX6_weigh_91 : decode cX6_weigh 91 = .ok (.iastore, 1) := by decide +kernel
theorem dX6_weigh_92 : decode cX6_weigh 92 = .ok (.iload_n 3, 1) := by decide +kernel
theorem dX6_weigh_93 : decode cX6_weigh 93 = .ok (.aload_n 0, 1) := by decide +kernel
theorem dX6_weigh_94 : decode cX6_weigh 94 = .ok (.getfield 28, 3) := by decide +kernel
theorem dX6_weigh_97 : decode cX6_weigh 97 = .ok (.iconst 1, 1) := by decide +kernel
theorem dX6_weigh_98 : decode cX6_weigh 98 = .ok (.isub, 1) := by decide +kernel
theorem dX6_weigh_99 : decode cX6_weigh 99 = .ok (.if_icmp .ge 9, 3) := by decide +kernel
theorem dX6_weigh_102 : decode cX6_weigh 102 = .ok (.aload_n 0, 1) := by decide +kernel
theorem dX6_weigh_103 : decode cX6_weigh 103 = .ok (.aload_n 1, 1) := by decide +kernel
theorem dX6_weigh_104 : decode cX6_weigh 104 = .ok (.iload_n 3, 1) := by decide +kernel
theorem dX6_weigh_105 : decode cX6_weigh 105 = .ok (.invokevirtual 53, 3) := by decide +kernel
theorem dX6_weigh_108 : decode cX6_weigh 108 = .ok (.iinc 3 (-1), 3) := by decide +kernel
theorem dX6_weigh_111 : decode cX6_weigh 111 = .ok (.goto (-56), 3) := by decide +kernel
theorem dX6_weigh_114 : decode cX6_weigh 114 = .ok (.return_, 1) := by decide +kernel
theorem dX6_weighStep_0 : decode cX6_weighStep 0 = .ok (.aload_n 0, 1) := by decide +kernel
theorem dX6_weighStep_1 : decode cX6_weighStep 1 = .ok (.getfield 9, 3) := by decide +kernel
theorem dX6_weighStep_4 : decode cX6_weighStep 4 = .ok (.iload_n 2, 1) := by decide +kernel
theorem dX6_weighStep_5 : decode cX6_weighStep 5 = .ok (.baload, 1) := by decide +kernel
theorem dX6_weighStep_6 : decode cX6_weighStep 6 = .ok (.ifCond .ne 7, 3) := by decide +kernel
theorem dX6_weighStep_9 : decode cX6_weighStep 9 = .ok (.iconst 1, 1) := by decide +kernel
theorem dX6_weighStep_10 : decode cX6_weighStep 10 = .ok (.goto 4, 3) := by decide +kernel
theorem dX6_weighStep_13 : decode cX6_weighStep 13 = .ok (.iconst 0, 1) := by decide +kernel
theorem dX6_weighStep_14 : decode cX6_weighStep 14 = .ok (.istore_n 3, 1) := by decide +kernel
theorem dX6_weighStep_15 : decode cX6_weighStep 15 = .ok (.aload_n 1, 1) := by decide +kernel
theorem dX6_weighStep_16 : decode cX6_weighStep 16 = .ok (.getfield 57, 3) := by decide +kernel
theorem dX6_weighStep_19 : decode cX6_weighStep 19 = .ok (.iload_n 2, 1) := by decide +kernel
theorem dX6_weighStep_20 : decode cX6_weighStep 20 = .ok (.iconst 1, 1) := by decide +kernel
theorem dX6_weighStep_21 : decode cX6_weighStep 21 = .ok (.iadd, 1) := by decide +kernel
theorem dX6_weighStep_22 : decode cX6_weighStep 22 = .ok (.iaload, 1) := by decide +kernel
theorem dX6_weighStep_23 : decode cX6_weighStep 23 = .ok (.istore 4, 2) := by decide +kernel
theorem dX6_weighStep_25 : decode cX6_weighStep 25 = .ok (.iload 4, 2) := by decide +kernel
theorem dX6_weighStep_27 : decode cX6_weighStep 27 = .ok (.iload_n 3, 1) := by decide +kernel
theorem dX6_weighStep_28 : decode cX6_weighStep 28 = .ok (.ifCond .eq 14, 3) := by decide +kernel
theorem dX6_weighStep_31 : decode cX6_weighStep 31 = .ok (.aload_n 0, 1) := by decide +kernel
theorem dX6_weighStep_32 : decode cX6_weighStep 32 = .ok (.getfield 21, 3) := by decide +kernel
theorem dX6_weighStep_35 : decode cX6_weighStep 35 = .ok (.iload_n 2, 1) := by decide +kernel
theorem dX6_weighStep_36 : decode cX6_weighStep 36 = .ok (.iconst 1, 1) := by decide +kernel
theorem dX6_weighStep_37 : decode cX6_weighStep 37 = .ok (.iadd, 1) := by decide +kernel
theorem dX6_weighStep_38 : decode cX6_weighStep 38 = .ok (.iaload, 1) := by decide +kernel
theorem dX6_weighStep_39 : decode cX6_weighStep 39 = .ok (.goto 11, 3) := by decide +kernel
theorem dX6_weighStep_42 : decode cX6_weighStep 42 = .ok (.aload_n 0, 1) := by decide +kernel
theorem dX6_weighStep_43 : decode cX6_weighStep 43 = .ok (.getfield 25, 3) := by decide +kernel
theorem dX6_weighStep_46 : decode cX6_weighStep 46 = .ok (.iload_n 2, 1) := by decide +kernel
theorem dX6_weighStep_47 : decode cX6_weighStep 47 = .ok (.iconst 1, 1) := by decide +kernel
theorem dX6_weighStep_48 : decode cX6_weighStep 48 = .ok (.iadd, 1) := by decide +kernel
theorem dX6_weighStep_49 : decode cX6_weighStep 49 = .ok (.iaload, 1) := by decide +kernel
theorem dX6_weighStep_50 : decode cX6_weighStep 50 = .ok (.iadd, 1) := by decide +kernel
theorem dX6_weighStep_51 : decode cX6_weighStep 51 = .ok (.istore 5, 2) := by decide +kernel
theorem dX6_weighStep_53 : decode cX6_weighStep 53 = .ok (.aload_n 0, 1) := by decide +kernel
theorem dX6_weighStep_54 : decode cX6_weighStep 54 = .ok (.getfield 18, 3) := by decide +kernel
theorem dX6_weighStep_57 : decode cX6_weighStep 57 = .ok (.iload_n 2, 1) := by decide +kernel
theorem dX6_weighStep_58 : decode cX6_weighStep 58 = .ok (.iconst 1, 1) := by decide +kernel
theorem dX6_weighStep_59 : decode cX6_weighStep 59 = .ok (.iadd, 1) := by decide +kernel
theorem dX6_weighStep_60 : decode cX6_weighStep 60 = .ok (.baload, 1) := by decide +kernel
theorem dX6_weighStep_61 : decode cX6_weighStep 61 = .ok (.iload_n 3, 1) := by decide +kernel
theorem dX6_weighStep_62 : decode cX6_weighStep 62 = .ok (.if_icmp .ne 12, 3) := by decide +kernel
theorem dX6_weighStep_65 : decode cX6_weighStep 65 = .ok (.aload_n 1, 1) := by decide +kernel
theorem dX6_weighStep_66 : decode cX6_weighStep 66 = .ok (.getfield 60, 3) := by decide +kernel
theorem dX6_weighStep_69 : decode cX6_weighStep 69 = .ok (.iload 5, 2) := by decide +kernel
theorem dX6_weighStep_71 : decode cX6_weighStep 71 = .ok (.if_icmp .gt 4, 3) := by decide +kernel
theorem dX6_weighStep_74 : decode cX6_weighStep 74 = .ok (.return_, 1) := by decide +kernel
theorem dX6_weighStep_75 : decode cX6_weighStep 75 = .ok (.aload_n 0, 1) := by decide +kernel
theorem dX6_weighStep_76 : decode cX6_weighStep 76 = .ok (.getfield 15, 3) := by decide +kernel
theorem dX6_weighStep_79 : decode cX6_weighStep 79 = .ok (.iload_n 2, 1) := by decide +kernel
theorem dX6_weighStep_80 : decode cX6_weighStep 80 = .ok (.iconst 1, 1) := by decide +kernel
theorem dX6_weighStep_81 : decode cX6_weighStep 81 = .ok (.bastore, 1) := by decide +kernel
theorem dX6_weighStep_82 : decode cX6_weighStep 82 = .ok (.aload_n 0, 1) := by decide +kernel
theorem dX6_weighStep_83 : decode cX6_weighStep 83 = .ok (.getfield 18, 3) := by decide +kernel
theorem dX6_weighStep_86 : decode cX6_weighStep 86 = .ok (.iload_n 2, 1) := by decide +kernel
theorem dX6_weighStep_87 : decode cX6_weighStep 87 = .ok (.aload_n 0, 1) := by decide +kernel
theorem dX6_weighStep_88 : decode cX6_weighStep 88 = .ok (.getfield 18, 3) := by decide +kernel
theorem dX6_weighStep_91 : decode cX6_weighStep 91 = .ok (.iload_n 2, 1) := by decide +kernel
theorem dX6_weighStep_92 : decode cX6_weighStep 92 = .ok (.iconst 1, 1) := by decide +kernel
theorem dX6_weighStep_93 : decode cX6_weighStep 93 = .ok (.iadd, 1) := by decide +kernel
theorem dX6_weighStep_94 : decode cX6_weighStep 94 = .ok (.baload, 1) := by decide +kernel
theorem dX6_weighStep_95 : decode cX6_weighStep 95 = .ok (.bastore, 1) := by decide +kernel
theorem dX6_weighStep_96 : decode cX6_weighStep 96 = .ok (.aload_n 0, 1) := by decide +kernel
theorem dX6_weighStep_97 : decode cX6_weighStep 97 = .ok (.getfield 21, 3) := by decide +kernel
theorem dX6_weighStep_100 : decode cX6_weighStep 100 = .ok (.iload_n 2, 1) := by decide +kernel
theorem dX6_weighStep_101 : decode cX6_weighStep 101 = .ok (.aload_n 0, 1) := by decide +kernel
theorem dX6_weighStep_102 : decode cX6_weighStep 102 = .ok (.getfield 21, 3) := by decide +kernel
theorem dX6_weighStep_105 : decode cX6_weighStep 105 = .ok (.iload_n 2, 1) := by decide +kernel
theorem dX6_weighStep_106 : decode cX6_weighStep 106 = .ok (.iconst 1, 1) := by decide +kernel
theorem dX6_weighStep_107 : decode cX6_weighStep 107 = .ok (.iadd, 1) := by decide +kernel
theorem dX6_weighStep_108 : decode cX6_weighStep 108 = .ok (.iaload, 1) := by decide +kernel
theorem dX6_weighStep_109 : decode cX6_weighStep 109 = .ok (.iload_n 3, 1) := by decide +kernel
theorem dX6_weighStep_110 : decode cX6_weighStep 110 = .ok (.ifCond .eq 8, 3) := by decide +kernel
theorem dX6_weighStep_113 : decode cX6_weighStep 113 = .ok (.iload 4, 2) := by decide +kernel
theorem dX6_weighStep_115 : decode cX6_weighStep 115 = .ok (.goto 4, 3) := by decide +kernel
theorem dX6_weighStep_118 : decode cX6_weighStep 118 = .ok (.iconst 0, 1) := by decide +kernel
theorem dX6_weighStep_119 : decode cX6_weighStep 119 = .ok (.iadd, 1) := by decide +kernel
theorem dX6_weighStep_120 : decode cX6_weighStep 120 = .ok (.iastore, 1) := by decide +kernel
theorem dX6_weighStep_121 : decode cX6_weighStep 121 = .ok (.aload_n 0, 1) := by decide +kernel
theorem dX6_weighStep_122 : decode cX6_weighStep 122 = .ok (.getfield 25, 3) := by decide +kernel
theorem dX6_weighStep_125 : decode cX6_weighStep 125 = .ok (.iload_n 2, 1) := by decide +kernel
theorem dX6_weighStep_126 : decode cX6_weighStep 126 = .ok (.aload_n 0, 1) := by decide +kernel
theorem dX6_weighStep_127 : decode cX6_weighStep 127 = .ok (.getfield 25, 3) := by decide +kernel
theorem dX6_weighStep_130 : decode cX6_weighStep 130 = .ok (.iload_n 2, 1) := by decide +kernel
theorem dX6_weighStep_131 : decode cX6_weighStep 131 = .ok (.iconst 1, 1) := by decide +kernel
theorem dX6_weighStep_132 : decode cX6_weighStep 132 = .ok (.iadd, 1) := by decide +kernel
theorem dX6_weighStep_133 : decode cX6_weighStep 133 = .ok (.iaload, 1) := by decide +kernel
theorem dX6_weighStep_134 : decode cX6_weighStep 134 = .ok (.iload_n 3, 1) := by decide +kernel
theorem dX6_weighStep_135 : decode cX6_weighStep 135 = .ok (.ifCond .eq 7, 3) := by decide +kernel
theorem dX6_weighStep_138 : decode cX6_weighStep 138 = .ok (.iconst 0, 1) := by decide +kernel
theorem dX6_weighStep_139 : decode cX6_weighStep 139 = .ok (.goto 5, 3) := by decide +kernel
theorem dX6_weighStep_142 : decode cX6_weighStep 142 = .ok (.iload 4, 2) := by decide +kernel
theorem dX6_weighStep_144 : decode cX6_weighStep 144 = .ok (.iadd, 1) := by decide +kernel
theorem dX6_weighStep_145 : decode cX6_weighStep 145 = .ok (.iastore, 1) := by decide +kernel
theorem dX6_weighStep_146 : decode cX6_weighStep 146 = .ok (.return_, 1) := by decide +kernel
theorem dX6_through_0 : decode cX6_through 0 = .ok (.aload_n 0, 1) := by decide +kernel
theorem dX6_through_1 : decode cX6_through 1 = .ok (.getfield 28, 3) := by decide +kernel
theorem dX6_through_4 : decode cX6_through 4 = .ok (.ifCond .ne 5, 3) := by decide +kernel
theorem dX6_through_7 : decode cX6_through 7 = .ok (.iconst 0, 1) := by decide +kernel
theorem dX6_through_8 : decode cX6_through 8 = .ok (.ireturn, 1) := by decide +kernel
theorem dX6_through_9 : decode cX6_through 9 = .ok (.iconst 0, 1) := by decide +kernel
theorem dX6_through_10 : decode cX6_through 10 = .ok (.istore_n 1, 1) := by decide +kernel
theorem dX6_through_11 : decode cX6_through 11 = .ok (.iload_n 1, 1) := by decide +kernel
theorem dX6_through_12 : decode cX6_through 12 = .ok (.aload_n 0, 1) := by decide +kernel
theorem dX6_through_13 : decode cX6_through 13 = .ok (.getfield 28, 3) := by decide +kernel
theorem dX6_through_16 : decode cX6_through 16 = .ok (.iconst 1, 1) := by decide +kernel
theorem dX6_through_17 : decode cX6_through 17 = .ok (.isub, 1) := by decide +kernel
theorem dX6_through_18 : decode cX6_through 18 = .ok (.if_icmp .ge 18, 3) := by decide +kernel
theorem dX6_through_21 : decode cX6_through 21 = .ok (.aload_n 0, 1) := by decide +kernel
theorem dX6_through_22 : decode cX6_through 22 = .ok (.getfield 15, 3) := by decide +kernel
theorem dX6_through_25 : decode cX6_through 25 = .ok (.iload_n 1, 1) := by decide +kernel
theorem dX6_through_26 : decode cX6_through 26 = .ok (.baload, 1) := by decide +kernel
theorem dX6_through_27 : decode cX6_through 27 = .ok (.ifCond .eq 9, 3) := by decide +kernel
theorem dX6_through_30 : decode cX6_through 30 = .ok (.iinc 1 1, 3) := by decide +kernel
theorem dX6_through_33 : decode cX6_through 33 = .ok (.goto (-22), 3) := by decide +kernel
theorem dX6_through_36 : decode cX6_through 36 = .ok (.iload_n 1, 1) := by decide +kernel
theorem dX6_through_37 : decode cX6_through 37 = .ok (.iconst 1, 1) := by decide +kernel
theorem dX6_through_38 : decode cX6_through 38 = .ok (.iadd, 1) := by decide +kernel
theorem dX6_through_39 : decode cX6_through 39 = .ok (.ireturn, 1) := by decide +kernel
theorem dX7_init_0 : decode cX7_init 0 = .ok (.aload_n 0, 1) := by decide +kernel
theorem dX7_init_1 : decode cX7_init 1 = .ok (.invokespecial 1, 3) := by decide +kernel
theorem dX7_init_4 : decode cX7_init 4 = .ok (.aload_n 0, 1) := by decide +kernel
theorem dX7_init_5 : decode cX7_init 5 = .ok (.new 7, 3) := by decide +kernel
theorem dX7_init_8 : decode cX7_init 8 = .ok (.dup, 1) := by decide +kernel
theorem dX7_init_9 : decode cX7_init 9 = .ok (.invokespecial 9, 3) := by decide +kernel
theorem dX7_init_12 : decode cX7_init 12 = .ok (.putfield 10, 3) := by decide +kernel
theorem dX7_init_15 : decode cX7_init 15 = .ok (.aload_n 0, 1) := by decide +kernel
theorem dX7_init_16 : decode cX7_init 16 = .ok (.new 7, 3) := by decide +kernel
theorem dX7_init_19 : decode cX7_init 19 = .ok (.dup, 1) := by decide +kernel
theorem dX7_init_20 : decode cX7_init 20 = .ok (.invokespecial 9, 3) := by decide +kernel
theorem dX7_init_23 : decode cX7_init 23 = .ok (.putfield 16, 3) := by decide +kernel
theorem dX7_init_26 : decode cX7_init 26 = .ok (.aload_n 0, 1) := by decide +kernel
theorem dX7_init_27 : decode cX7_init 27 = .ok (.new 7, 3) := by decide +kernel
theorem dX7_init_30 : decode cX7_init 30 = .ok (.dup, 1) := by decide +kernel
theorem dX7_init_31 : decode cX7_init 31 = .ok (.invokespecial 9, 3) := by decide +kernel
theorem dX7_init_34 : decode cX7_init 34 = .ok (.putfield 19, 3) := by decide +kernel
theorem dX7_init_37 : decode cX7_init 37 = .ok (.aload_n 0, 1) := by decide +kernel
theorem dX7_init_38 : decode cX7_init 38 = .ok (.iconst 0, 1) := by decide +kernel
theorem dX7_init_39 : decode cX7_init 39 = .ok (.putfield 22, 3) := by decide +kernel
theorem dX7_init_42 : decode cX7_init 42 = .ok (.aload_n 0, 1) := by decide +kernel
theorem dX7_init_43 : decode cX7_init 43 = .ok (.new 26, 3) := by decide +kernel
theorem dX7_init_46 : decode cX7_init 46 = .ok (.dup, 1) := by decide +kernel
theorem dX7_init_47 : decode cX7_init 47 = .ok (.invokespecial 28, 3) := by decide +kernel
theorem dX7_init_50 : decode cX7_init 50 = .ok (.putfield 29, 3) := by decide +kernel
theorem dX7_init_53 : decode cX7_init 53 = .ok (.aload_n 0, 1) := by decide +kernel
theorem dX7_init_54 : decode cX7_init 54 = .ok (.new 33, 3) := by decide +kernel
theorem dX7_init_57 : decode cX7_init 57 = .ok (.dup, 1) := by decide +kernel
theorem dX7_init_58 : decode cX7_init 58 = .ok (.invokespecial 35, 3) := by decide +kernel
theorem dX7_init_61 : decode cX7_init 61 = .ok (.putfield 36, 3) := by decide +kernel
theorem dX7_init_64 : decode cX7_init 64 = .ok (.aload_n 0, 1) := by decide +kernel
theorem dX7_init_65 : decode cX7_init 65 = .ok (.bipush 16, 2) := by decide +kernel
theorem dX7_init_67 : decode cX7_init 67 = .ok (.newarray .int, 2) := by decide +kernel
theorem dX7_init_69 : decode cX7_init 69 = .ok (.putfield 40, 3) := by decide +kernel
theorem dX7_init_72 : decode cX7_init 72 = .ok (.aload_n 0, 1) := by decide +kernel
theorem dX7_init_73 : decode cX7_init 73 = .ok (.iconst 0, 1) := by decide +kernel
theorem dX7_init_74 : decode cX7_init 74 = .ok (.putfield 44, 3) := by decide +kernel
theorem dX7_init_77 : decode cX7_init 77 = .ok (.aload_n 0, 1) := by decide +kernel
theorem dX7_init_78 : decode cX7_init 78 = .ok (.bipush 7, 2) := by decide +kernel
theorem dX7_init_80 : decode cX7_init 80 = .ok (.newarray .int, 2) := by decide +kernel
theorem dX7_init_82 : decode cX7_init 82 = .ok (.putfield 48, 3) := by decide +kernel
theorem dX7_init_85 : decode cX7_init 85 = .ok (.aload_n 0, 1) := by decide +kernel
theorem dX7_init_86 : decode cX7_init 86 = .ok (.new 51, 3) := by decide +kernel
theorem dX7_init_89 : decode cX7_init 89 = .ok (.dup, 1) := by decide +kernel
theorem dX7_init_90 : decode cX7_init 90 = .ok (.invokespecial 53, 3) := by decide +kernel
theorem dX7_init_93 : decode cX7_init 93 = .ok (.putfield 54, 3) := by decide +kernel
theorem dX7_init_96 : decode cX7_init 96 = .ok (.aload_n 0, 1) := by decide +kernel
theorem dX7_init_97 : decode cX7_init 97 = .ok (.new 51, 3) := by decide +kernel
theorem dX7_init_100 : decode cX7_init 100 = .ok (.dup, 1) := by decide +kernel
theorem dX7_init_101 : decode cX7_init 101 = .ok (.invokespecial 53, 3) := by decide +kernel
theorem dX7_init_104 : decode cX7_init 104 = .ok (.putfield 58, 3) := by decide +kernel
theorem dX7_init_107 : decode cX7_init 107 = .ok (.aload_n 0, 1) := by decide +kernel
theorem dX7_init_108 : decode cX7_init 108 = .ok (.new 51, 3) := by decide +kernel
theorem dX7_init_111 : decode cX7_init 111 = .ok (.dup, 1) := by decide +kernel
theorem dX7_init_112 : decode cX7_init 112 = .ok (.invokespecial 53, 3) := by decide +kernel
theorem dX7_init_115 : decode cX7_init 115 = .ok (.putfield 61, 3) := by decide +kernel
theorem dX7_init_118 : decode cX7_init 118 = .ok (.aload_n 0, 1) := by decide +kernel
theorem dX7_init_119 : decode cX7_init 119 = .ok (.new 64, 3) := by decide +kernel
theorem dX7_init_122 : decode cX7_init 122 = .ok (.dup, 1) := by decide +kernel
theorem dX7_init_123 : decode cX7_init 123 = .ok (.invokespecial 66, 3) := by decide +kernel
theorem dX7_init_126 : decode cX7_init 126 = .ok (.putfield 67, 3) := by decide +kernel
theorem dX7_init_129 : decode cX7_init 129 = .ok (.aload_n 0, 1) := by decide +kernel
theorem dX7_init_130 : decode cX7_init 130 = .ok (.new 71, 3) := by decide +kernel
theorem dX7_init_133 : decode cX7_init 133 = .ok (.dup, 1) := by decide +kernel
theorem dX7_init_134 : decode cX7_init 134 = .ok (.invokespecial 73, 3) := by decide +kernel
theorem dX7_init_137 : decode cX7_init 137 = .ok (.putfield 74, 3) := by decide +kernel
theorem dX7_init_140 : decode cX7_init 140 = .ok (.aload_n 0, 1) := by decide +kernel
theorem dX7_init_141 : decode cX7_init 141 = .ok (.new 78, 3) := by decide +kernel
theorem dX7_init_144 : decode cX7_init 144 = .ok (.dup, 1) := by decide +kernel
theorem dX7_init_145 : decode cX7_init 145 = .ok (.invokespecial 80, 3) := by decide +kernel
theorem dX7_init_148 : decode cX7_init 148 = .ok (.putfield 81, 3) := by decide +kernel
theorem dX7_init_151 : decode cX7_init 151 = .ok (.aload_n 0, 1) := by decide +kernel
theorem dX7_init_152 : decode cX7_init 152 = .ok (.iconst 5, 1) := by decide +kernel
theorem dX7_init_153 : decode cX7_init 153 = .ok (.newarray .int, 2) := by decide +kernel
theorem dX7_init_155 : decode cX7_init 155 = .ok (.putfield 85, 3) := by decide +kernel
theorem dX7_init_158 : decode cX7_init 158 = .ok (.aload_n 0, 1) := by decide +kernel
theorem dX7_init_159 : decode cX7_init 159 = .ok (.iconst 5, 1) := by decide +kernel
theorem dX7_init_160 : decode cX7_init 160 = .ok (.newarray .int, 2) := by decide +kernel
theorem dX7_init_162 : decode cX7_init 162 = .ok (.putfield 88, 3) := by decide +kernel
theorem dX7_init_165 : decode cX7_init 165 = .ok (.return_, 1) := by decide +kernel
theorem dX7_feed_0 : decode cX7_feed 0 = .ok (.iload_n 1, 1) := by decide +kernel
theorem dX7_feed_1 : decode cX7_feed 1 = .ok (.ifCond .ge 10, 3) := by decide +kernel
theorem dX7_feed_4 : decode cX7_feed 4 = .ok (.aload_n 0, 1) := by decide +kernel
theorem dX7_feed_5 : decode cX7_feed 5 = .ok (.bipush (-4), 2) := by decide +kernel
theorem dX7_feed_7 : decode cX7_feed 7 = .ok (.invokevirtual 91, 3) := by decide +kernel
theorem dX7_feed_10 : decode cX7_feed 10 = .ok (.ireturn, 1) := by decide +kernel
theorem dX7_feed_11 : decode cX7_feed 11 = .ok (.iload_n 1, 1) := by decide +kernel
theorem dX7_feed_12 : decode cX7_feed 12 = .ok (.sipush 255, 3) := by decide +kernel
theorem dX7_feed_15 : decode cX7_feed 15 = .ok (.if_icmp .gt 15, 3) := by decide +kernel
theorem dX7_feed_18 : decode cX7_feed 18 = .ok (.aload_n 0, 1) := by decide +kernel
theorem dX7_feed_19 : decode cX7_feed 19 = .ok (.getfield 29, 3) := by decide +kernel
theorem dX7_feed_22 : decode cX7_feed 22 = .ok (.getfield 95, 3) := by decide +kernel
theorem dX7_feed_25 : decode cX7_feed 25 = .ok (.bipush 96, 2) := by decide +kernel
theorem dX7_feed_27 : decode cX7_feed 27 = .ok (.if_icmp .lt 10, 3) := by decide +kernel
theorem dX7_feed_30 : decode cX7_feed 30 = .ok (.aload_n 0, 1) := by decide +kernel
theorem dX7_feed_31 : decode cX7_feed 31 = .ok (.bipush (-6), 2) := by decide +kernel
theorem dX7_feed_33 : decode cX7_feed 33 = .ok (.invokevirtual 91, 3) := by decide +kernel
theorem dX7_feed_36 : decode cX7_feed 36 = .ok (.ireturn, 1) := by decide +kernel
theorem dX7_feed_37 : decode cX7_feed 37 = .ok (.aload_n 0, 1) := by decide +kernel
theorem dX7_feed_38 : decode cX7_feed 38 = .ok (.getfield 29, 3) := by decide +kernel
theorem dX7_feed_41 : decode cX7_feed 41 = .ok (.iload_n 1, 1) := by decide +kernel
theorem dX7_feed_42 : decode cX7_feed 42 = .ok (.invokevirtual 98, 3) := by decide +kernel
theorem dX7_feed_45 : decode cX7_feed 45 = .ok (.ireturn, 1) := by decide +kernel
theorem dX7_caseOf_0 : decode cX7_caseOf 0 = .ok (.aload_n 0, 1) := by decide +kernel
theorem dX7_caseOf_1 : decode cX7_caseOf 1 = .ok (.invokevirtual 101, 3) := by decide +kernel
theorem dX7_caseOf_4 : decode cX7_caseOf 4 = .ok (.istore_n 1, 1) := by decide +kernel
theorem dX7_caseOf_5 : decode cX7_caseOf 5 = .ok (.aload_n 0, 1) := by decide +kernel
theorem dX7_caseOf_6 : decode cX7_caseOf 6 = .ok (.getfield 29, 3) := by decide +kernel
theorem dX7_caseOf_9 : decode cX7_caseOf 9 = .ok (.iconst 0, 1) := by decide +kernel
theorem dX7_caseOf_10 : decode cX7_caseOf 10 = .ok (.putfield 95, 3) := by decide +kernel
theorem dX7_caseOf_13 : decode cX7_caseOf 13 = .ok (.iload_n 1, 1) := by decide +kernel
theorem dX7_caseOf_14 : decode cX7_caseOf 14 = .ok (.ireturn, 1) := by decide +kernel
theorem dX7_court_0 : decode cX7_court 0 = .ok (.aload_n 0, 1) := by decide +kernel
theorem dX7_court_1 : decode cX7_court 1 = .ok (.getfield 10, 3) := by decide +kernel
theorem dX7_court_4 : decode cX7_court 4 = .ok (.iload_n 1, 1) := by decide +kernel
theorem dX7_court_5 : decode cX7_court 5 = .ok (.invokevirtual 105, 3) := by decide +kernel
theorem dX7_court_8 : decode cX7_court 8 = .ok (.ifCond .ne 9, 3) := by decide +kernel
theorem dX7_court_11 : decode cX7_court 11 = .ok (.aload_n 0, 1) := by decide +kernel
theorem dX7_court_12 : decode cX7_court 12 = .ok (.iconst (-1), 1) := by decide +kernel
theorem dX7_court_13 : decode cX7_court 13 = .ok (.invokevirtual 91, 3) := by decide +kernel
theorem dX7_court_16 : decode cX7_court 16 = .ok (.ireturn, 1) := by decide +kernel
theorem dX7_court_17 : decode cX7_court 17 = .ok (.iload_n 2, 1) := by decide +kernel
theorem dX7_court_18 : decode cX7_court 18 = .ok (.tableswitch 56 0 2 #[26, 36, 46], 26) := by decide +kernel
theorem dX7_court_44 : decode cX7_court 44 = .ok (.aload_n 0, 1) := by decide +kernel
theorem dX7_court_45 : decode cX7_court 45 = .ok (.getfield 10, 3) := by decide +kernel
theorem dX7_court_48 : decode cX7_court 48 = .ok (.getfield 109, 3) := by decide +kernel
theorem dX7_court_51 : decode cX7_court 51 = .ok (.iload_n 1, 1) := by decide +kernel
theorem dX7_court_52 : decode cX7_court 52 = .ok (.iaload, 1) := by decide +kernel
theorem dX7_court_53 : decode cX7_court 53 = .ok (.ireturn, 1) := by decide +kernel
theorem dX7_court_54 : decode cX7_court 54 = .ok (.aload_n 0, 1) := by decide +kernel
theorem dX7_court_55 : decode cX7_court 55 = .ok (.getfield 10, 3) := by decide +kernel
theorem dX7_court_58 : decode cX7_court 58 = .ok (.getfield 112, 3) := by decide +kernel
theorem dX7_court_61 : decode cX7_court 61 = .ok (.iload_n 1, 1) := by decide +kernel
theorem dX7_court_62 : decode cX7_court 62 = .ok (.iaload, 1) := by decide +kernel
theorem dX7_court_63 : decode cX7_court 63 = .ok (.ireturn, 1) := by decide +kernel
theorem dX7_court_64 : decode cX7_court 64 = .ok (.aload_n 0, 1) := by decide +kernel
theorem dX7_court_65 : decode cX7_court 65 = .ok (.getfield 10, 3) := by decide +kernel
theorem dX7_court_68 : decode cX7_court 68 = .ok (.getfield 115, 3) := by decide +kernel
theorem dX7_court_71 : decode cX7_court 71 = .ok (.iload_n 1, 1) := by decide +kernel
theorem dX7_court_72 : decode cX7_court 72 = .ok (.iaload, 1) := by decide +kernel
theorem dX7_court_73 : decode cX7_court 73 = .ok (.ireturn, 1) := by decide +kernel
theorem dX7_court_74 : decode cX7_court 74 = .ok (.aload_n 0, 1) := by decide +kernel
theorem dX7_court_75 : decode cX7_court 75 = .ok (.bipush (-2), 2) := by decide +kernel
theorem dX7_court_77 : decode cX7_court 77 = .ok (.invokevirtual 91, 3) := by decide +kernel
theorem dX7_court_80 : decode cX7_court 80 = .ok (.ireturn, 1) := by decide +kernel
theorem dX7_point_0 : decode cX7_point 0 = .ok (.aload_n 0, 1) := by decide +kernel
theorem dX7_point_1 : decode cX7_point 1 = .ok (.getfield 10, 3) := by decide +kernel
theorem dX7_point_4 : decode cX7_point 4 = .ok (.getfield 118, 3) := by decide +kernel
theorem dX7_point_7 : decode cX7_point 7 = .ok (.iload_n 1, 1) := by decide +kernel
theorem dX7_point_8 : decode cX7_point 8 = .ok (.invokevirtual 121, 3) := by decide +kernel
theorem dX7_point_11 : decode cX7_point 11 = .ok (.ifCond .ne 9, 3) := by decide +kernel
theorem dX7_point_14 : decode cX7_point 14 = .ok (.aload_n 0, 1) := by decide +kernel
theorem dX7_point_15 : decode cX7_point 15 = .ok (.iconst (-1), 1) := by decide +kernel
theorem dX7_point_16 : decode cX7_point 16 = .ok (.invokevirtual 124, 3) := by decide +kernel
theorem dX7_point_19 : decode cX7_point 19 = .ok (.ireturn, 1) := by decide +kernel
theorem dX7_point_20 : decode cX7_point 20 = .ok (.iload_n 2, 1) := by decide +kernel
theorem dX7_point_21 : decode cX7_point 21 = .ok (.bipush (-9), 2) := by decide +kernel
theorem dX7_point_23 : decode cX7_point 23 = .ok (.bipush 9, 2) := by decide +kernel
theorem dX7_point_25 : decode cX7_point 25 = .ok (.invokestatic 127, 3) := by decide +kernel
theorem dX7_point_28 : decode cX7_point 28 = .ok (.istore_n 3, 1) := by decide +kernel
theorem dX7_point_29 : decode cX7_point 29 = .ok (.iload_n 3, 1) := by decide +kernel
theorem dX7_point_30 : decode cX7_point 30 = .ok (.ifCond .eq 9, 3) := by decide +kernel
theorem dX7_point_33 : decode cX7_point 33 = .ok (.aload_n 0, 1) := by decide +kernel
theorem dX7_point_34 : decode cX7_point 34 = .ok (.iload_n 3, 1) := by decide +kernel
theorem dX7_point_35 : decode cX7_point 35 = .ok (.invokevirtual 124, 3) := by decide +kernel
theorem dX7_point_38 : decode cX7_point 38 = .ok (.ireturn, 1) := by decide +kernel
theorem dX7_point_39 : decode cX7_point 39 = .ok (.aload_n 0, 1) := by decide +kernel
theorem dX7_point_40 : decode cX7_point 40 = .ok (.getfield 10, 3) := by decide +kernel
theorem dX7_point_43 : decode cX7_point 43 = .ok (.getfield 118, 3) := by decide +kernel
theorem dX7_point_46 : decode cX7_point 46 = .ok (.iload_n 1, 1) := by decide +kernel
theorem dX7_point_47 : decode cX7_point 47 = .ok (.invokevirtual 131, 3) := by decide +kernel
theorem dX7_point_50 : decode cX7_point 50 = .ok (.istore 4, 2) := by decide +kernel
theorem dX7_point_52 : decode cX7_point 52 = .ok (.aload_n 0, 1) := by decide +kernel
theorem dX7_point_53 : decode cX7_point 53 = .ok (.getfield 36, 3) := by decide +kernel
theorem dX7_point_56 : decode cX7_point 56 = .ok (.iconst 0, 1) := by decide +kernel
theorem dX7_point_57 : decode cX7_point 57 = .ok (.iload_n 1, 1) := by decide +kernel
theorem dX7_point_58 : decode cX7_point 58 = .ok (.iload 4, 2) := by decide +kernel
theorem dX7_point_60 : decode cX7_point 60 = .ok (.invokevirtual 134, 3) := by decide +kernel
theorem dX7_point_63 : decode cX7_point 63 = .ok (.aload_n 0, 1) := by decide +kernel
theorem dX7_point_64 : decode cX7_point 64 = .ok (.getfield 10, 3) := by decide +kernel
theorem dX7_point_67 : decode cX7_point 67 = .ok (.getfield 118, 3) := by decide +kernel
theorem dX7_point_70 : decode cX7_point 70 = .ok (.iload_n 1, 1) := by decide +kernel
theorem dX7_point_71 : decode cX7_point 71 = .ok (.iload_n 2, 1) := by decide +kernel
theorem dX7_point_72 : decode cX7_point 72 = .ok (.invokevirtual 138, 3) := by decide +kernel
theorem dX7_point_75 : decode cX7_point 75 = .ok (.iload 4, 2) := by decide +kernel
theorem dX7_point_77 : decode cX7_point 77 = .ok (.ireturn, 1) := by decide +kernel
theorem dX7_kind_0 : decode cX7_kind 0 = .ok (.aload_n 0, 1) := by decide +kernel
theorem dX7_kind_1 : decode cX7_kind 1 = .ok (.getfield 10, 3) := by decide +kernel
theorem dX7_kind_4 : decode cX7_kind 4 = .ok (.iload_n 1, 1) := by decide +kernel
theorem dX7_kind_5 : decode cX7_kind 5 = .ok (.invokevirtual 105, 3) := by decide +kernel
theorem dX7_kind_8 : decode cX7_kind 8 = .ok (.ifCond .ne 9, 3) := by decide +kernel
theorem dX7_kind_11 : decode cX7_kind 11 = .ok (.aload_n 0, 1) := by decide +kernel
theorem dX7_kind_12 : decode cX7_kind 12 = .ok (.iconst (-1), 1) := by decide +kernel
theorem dX7_kind_13 : decode cX7_kind 13 = .ok (.invokevirtual 91, 3) := by decide +kernel
theorem dX7_kind_16 : decode cX7_kind 16 = .ok (.ireturn, 1) := by decide +kernel
theorem dX7_kind_17 : decode cX7_kind 17 = .ok (.iload_n 2, 1) := by decide +kernel
theorem dX7_kind_18 : decode cX7_kind 18 = .ok (.invokestatic 142, 3) := by decide +kernel
theorem dX7_kind_21 : decode cX7_kind 21 = .ok (.ifCond .ne 10, 3) := by decide +kernel
theorem dX7_kind_24 : decode cX7_kind 24 = .ok (.aload_n 0, 1) := by decide +kernel
theorem dX7_kind_25 : decode cX7_kind 25 = .ok (.bipush (-2), 2) := by decide +kernel
theorem dX7_kind_27 : decode cX7_kind 27 = .ok (.invokevirtual 91, 3) := by decide +kernel
theorem dX7_kind_30 : decode cX7_kind 30 = .ok (.ireturn, 1) := by decide +kernel
theorem dX7_kind_31 : decode cX7_kind 31 = .ok (.iload_n 3, 1) := by decide +kernel
theorem dX7_kind_32 : decode cX7_kind 32 = .ok (.iconst 0, 1) := by decide +kernel
theorem dX7_kind_33 : decode cX7_kind 33 = .ok (.bipush 9, 2) := by decide +kernel
theorem dX7_kind_35 : decode cX7_kind 35 = .ok (.invokestatic 127, 3) := by decide +kernel
theorem dX7_kind_38 : decode cX7_kind 38 = .ok (.istore 4, 2) := by decide +kernel
theorem dX7_kind_40 : decode cX7_kind 40 = .ok (.iload 4, 2) := by decide +kernel
theorem dX7_kind_42 : decode cX7_kind 42 = .ok (.ifCond .eq 10, 3) := by decide +kernel
theorem dX7_kind_45 : decode cX7_kind 45 = .ok (.aload_n 0, 1) := by decide +kernel
theorem dX7_kind_46 : decode cX7_kind 46 = .ok (.iload 4, 2) := by decide +kernel
theorem dX7_kind_48 : decode cX7_kind 48 = .ok (.invokevirtual 91, 3) := by decide +kernel
theorem dX7_kind_51 : decode cX7_kind 51 = .ok (.ireturn, 1) := by decide +kernel
theorem dX7_kind_52 : decode cX7_kind 52 = .ok (.bipush 10, 2) := by decide +kernel
theorem dX7_kind_54 : decode cX7_kind 54 = .ok (.aload_n 0, 1) := by decide +kernel
theorem dX7_kind_55 : decode cX7_kind 55 = .ok (.getfield 10, 3) := by decide +kernel
theorem dX7_kind_58 : decode cX7_kind 58 = .ok (.getfield 109, 3) := by decide +kernel
theorem dX7_kind_61 : decode cX7_kind 61 = .ok (.iload_n 1, 1) := by decide +kernel
theorem dX7_kind_62 : decode cX7_kind 62 = .ok (.iaload, 1) := by decide +kernel
theorem dX7_kind_63 : decode cX7_kind 63 = .ok (.imul, 1) := by decide +kernel
theorem dX7_kind_64 : decode cX7_kind 64 = .ok (.aload_n 0, 1) := by decide +kernel
theorem dX7_kind_65 : decode cX7_kind 65 = .ok (.getfield 10, 3) := by decide +kernel
theorem dX7_kind_68 : decode cX7_kind 68 = .ok (.getfield 112, 3) := by decide +kernel
theorem dX7_kind_71 : decode cX7_kind 71 = .ok (.iload_n 1, 1) := by decide +kernel
theorem dX7_kind_72 : decode cX7_kind 72 = .ok (.iaload, 1) := by decide +kernel
theorem dX7_kind_73 : decode cX7_kind 73 = .ok (.iadd, 1) := by decide +kernel
theorem dX7_kind_74 : decode cX7_kind 74 = .ok (.istore 5, 2) := by decide +kernel
theorem dX7_kind_76 : decode cX7_kind 76 = .ok (.aload_n 0, 1) := by decide +kernel
