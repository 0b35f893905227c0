theorem b_X8_goRound_81 {d : Nat} {Q : Option pV → pG → Prop} {g : pG} {v1 v2 : Int} {u3 : pV} {R : pG → Prop} (hc : CT d mX8_pass [vR 45, vI v2] g (qV R)) (k : ∀ gg : pG, R gg → EV d mX8_goRound Q 86 [vR 45, vI v1, vI v2, u3] [] gg) : EV d mX8_goRound Q 81 [vR 45, vI v1, vI v2, u3] [] g := by
  refine wp_aload_n dX8_goRound_81 rfl rfl ?_
  refine wp_iload_n dX8_goRound_82 rfl ?_
  exact wp_callvV (As := [vI v2]) dX8_goRound_83 ml_8_154 (by decide) rfl L_45 (by decide) rfl (Nat.le_of_ble_eq_true rfl) rfl (Nat.le_refl _) (Nat.le_refl _) hc k
theorem b_X8_goRound_86 {d : Nat} {Q : Option pV → pG → Prop} {g : pG} {v1 v2 : Int} {u3 : pV} (k : EV d mX8_goRound Q 25 [vR 45, vI v1, vI (w32 (v2 + 1)), u3] [] g) : EV d mX8_goRound Q 86 [vR 45, vI v1, vI v2, u3] [] g := by
  refine wp_iinc dX8_goRound_86 rfl (Nat.le_of_ble_eq_true rfl) (pp (c := 1) rfl rfl) ?_
  refine wp_goto (tgt := 25) dX8_goRound_89 rfl ?_
  exact k
theorem b_X8_goRound_92 {d : Nat} {Q : Option pV → pG → Prop} {g : pG} {v1 v2 : Int} {u3 : pV} (k1 : (v2 ≠ (g 45) 0) → EV d mX8_goRound Q 105 [vR 45, vI v1, vI v2, u3] [vR 45] g) (k2 : ¬ (v2 ≠ (g 45) 0) → EV d mX8_goRound Q 101 [vR 45, vI v1, vI v2, u3] [vR 45] g) : EV d mX8_goRound Q 92 [vR 45, vI v1, vI v2, u3] [] g := by
  refine wp_aload_n dX8_goRound_92 rfl rfl ?_
  refine wp_iload_n dX8_goRound_93 rfl ?_
  refine wp_aload_n dX8_goRound_94 rfl rfl ?_
  refine wp_get (v := vI ((g 45) 0)) dX8_goRound_95 fl_8_108 L_45 rfl ?_
  exact wp_icmp_ne (tgt := 105) dX8_goRound_98 rfl k1 k2
theorem b_X8_goRound_101 {d : Nat} {Q : Option pV → pG → Prop} {g : pG} {v1 v2 : Int} {u3 : pV} (hq : Q none (cset g 45 (fup (g 45) 29 v1))) : EV d mX8_goRound Q 101 [vR 45, vI v1, vI v2, u3] [vR 45] g := by
  refine wp_iload_n dX8_goRound_101 rfl ?_
  refine wp_goto (tgt := 107) dX8_goRound_102 rfl ?_
  refine wp_putI dX8_goRound_107 fl_8_265 L_45 rfl rfl ?_
  exact wp_vret dX8_goRound_110 rfl hq
theorem b_X8_goRound_105 {d : Nat} {Q : Option pV → pG → Prop} {g : pG} {v1 v2 : Int} {u3 : pV} (hq : Q none (cset g 45 (fup (g 45) 29 (-9)))) : EV d mX8_goRound Q 105 [vR 45, vI v1, vI v2, u3] [vR 45] g := by
  refine wp_bipush dX8_goRound_105 kb_m9 kc_m9 ?_
  refine wp_putI dX8_goRound_107 fl_8_265 L_45 rfl rfl ?_
  exact wp_vret dX8_goRound_110 rfl hq
theorem b_X8_comesAgain_0 {d : Nat} {Q : Option pV → pG → Prop} {g : pG} {v1 : Int} (k : EV d mX8_comesAgain Q 5 [vR 45, vI v1, vI (-9), vI 0, vX 2, vX 2] [] g) : EV d mX8_comesAgain Q 0 [vR 45, vI v1, vX 2, vX 2, vX 2, vX 2] [] g := by
  refine wp_bipush dX8_comesAgain_0 kb_m9 kc_m9 ?_
  refine wp_istore_n dX8_comesAgain_2 (Nat.le_of_ble_eq_true rfl) (pp (c := 1) rfl rfl) ?_
  refine wp_iconst dX8_comesAgain_3 kc_0 ?_
  refine wp_istore_n dX8_comesAgain_4 (Nat.le_of_ble_eq_true rfl) (pp (c := 2) rfl rfl) ?_
  exact k
theorem b_X8_comesAgain_5 {d : Nat} {Q : Option pV → pG → Prop} {g : pG} {v1 v2 v3 : Int} {u4 u5 : pV} (k1 : ((g 45) 33 ≤ v3) → EV d mX8_comesAgain Q 97 [vR 45, vI v1, vI v2, vI v3, u4, u5] [] g) (k2 : ¬ ((g 45) 33 ≤ v3) → EV d mX8_comesAgain Q 13 [vR 45, vI v1, vI v2, vI v3, u4, u5] [] g) : EV d mX8_comesAgain Q 5 [vR 45, vI v1, vI v2, vI v3, u4, u5] [] g := by
  refine wp_iload_n dX8_comesAgain_5 rfl ?_
  refine wp_aload_n dX8_comesAgain_6 rfl rfl ?_
  refine wp_get (v := vI ((g 45) 33)) dX8_comesAgain_7 fl_8_256 L_45 rfl ?_
  exact wp_icmp_ge (tgt := 97) dX8_comesAgain_10 rfl k1 k2
theorem b_X8_comesAgain_13 {d : Nat} {Q : Option pV → pG → Prop} {g : pG} {v1 v2 v3 : Int} {u4 u5 : pV} (k1 : (0 ≤ v2) → EV d mX8_comesAgain Q 97 [vR 45, vI v1, vI v2, vI v3, u4, u5] [] g) (k2 : ¬ (0 ≤ v2) → EV d mX8_comesAgain Q 17 [vR 45, vI v1, vI v2, vI v3, u4, u5] [] g) : EV d mX8_comesAgain Q 13 [vR 45, vI v1, vI v2, vI v3, u4, u5] [] g := by
  refine wp_iload_n dX8_comesAgain_13 rfl ?_
  exact wp_if_ge (tgt := 97) dX8_comesAgain_14 rfl k1 k2
theorem b_X8_comesAgain_17 {d : Nat} {Q : Option pV → pG → Prop} {g : pG} {v1 v2 v3 : Int} {u4 u5 : pV} (k : EV d mX8_comesAgain Q 23 [vR 45, vI v1, vI v2, vI v3, vI 1, vI 0] [] g) : EV d mX8_comesAgain Q 17 [vR 45, vI v1, vI v2, vI v3, u4, u5] [] g := by
  refine wp_iconst dX8_comesAgain_17 kc_1 ?_
  refine wp_istore dX8_comesAgain_18 (Nat.le_of_ble_eq_true rfl) (pp (c := 3) rfl rfl) ?_
  refine wp_iconst dX8_comesAgain_20 kc_0 ?_
  refine wp_istore dX8_comesAgain_21 (Nat.le_of_ble_eq_true rfl) (pp (c := 4) rfl rfl) ?_
  exact k
theorem b_X8_comesAgain_23 {d : Nat} {Q : Option pV → pG → Prop} {g : pG} {v1 v2 v3 v4 v5 : Int} (k1 : ((g 45) 11 ≤ v5) → EV d mX8_comesAgain Q 72 [vR 45, vI v1, vI v2, vI v3, vI v4, vI v5] [] g) (k2 : ¬ ((g 45) 11 ≤ v5) → EV d mX8_comesAgain Q 32 [vR 45, vI v1, vI v2, vI v3, vI v4, vI v5] [] g) : EV d mX8_comesAgain Q 23 [vR 45, vI v1, vI v2, vI v3, vI v4, vI v5] [] g := by
  refine wp_iload dX8_comesAgain_23 rfl ?_
  refine wp_aload_n dX8_comesAgain_25 rfl rfl ?_
  refine wp_get (v := vI ((g 45) 11)) dX8_comesAgain_26 fl_8_115 L_45 rfl ?_
  exact wp_icmp_ge (tgt := 72) dX8_comesAgain_29 rfl k1 k2
theorem b_X8_comesAgain_32 {d : Nat} {Q : Option pV → pG → Prop} {g : pG} {v1 v2 v3 v4 v5 : Int} (k1 : (v4 = 0) → EV d mX8_comesAgain Q 63 [vR 45, vI v1, vI v2, vI v3, vI v4, vI v5] [] g) (k2 : ¬ (v4 = 0) → EV d mX8_comesAgain Q 37 [vR 45, vI v1, vI v2, vI v3, vI v4, vI v5] [] g) : EV d mX8_comesAgain Q 32 [vR 45, vI v1, vI v2, vI v3, vI v4, vI v5] [] g := by
  refine wp_iload dX8_comesAgain_32 rfl ?_
  exact wp_if_eq (tgt := 63) dX8_comesAgain_34 rfl k1 k2
theorem b_X8_comesAgain_37 {d : Nat} {Q : Option pV → pG → Prop} {g : pG} {v1 v2 v3 v4 v5 : Int} (h1 : 0 ≤ w32 ((w32 (8 * v3)) + v5)) (h2 : w32 ((w32 (8 * v3)) + v5) < 1608) (h3 : 0 ≤ v5) (h4 : v5 < 8) (k1 : ((g 60) (w32 ((w32 (8 * v3)) + v5)).toNat ≠ (g 51) v5.toNat) → EV d mX8_comesAgain Q 63 [vR 45, vI v1, vI v2, vI v3, vI v4, vI v5] [] g) (k2 : ¬ ((g 60) (w32 ((w32 (8 * v3)) + v5)).toNat ≠ (g 51) v5.toNat) → EV d mX8_comesAgain Q 59 [vR 45, vI v1, vI v2, vI v3, vI v4, vI v5] [] g) : EV d mX8_comesAgain Q 37 [vR 45, vI v1, vI v2, vI v3, vI v4, vI v5] [] g := by
  refine wp_aload_n dX8_comesAgain_37 rfl rfl ?_
  refine wp_get (v := vR 60) dX8_comesAgain_38 fl_8_62 L_45 rfl ?_
  refine wp_bipush dX8_comesAgain_41 kb_8 kc_8 ?_
  refine wp_iload_n dX8_comesAgain_43 rfl ?_
  refine wp_imul dX8_comesAgain_44 ?_
  refine wp_iload dX8_comesAgain_45 rfl ?_
  refine wp_iadd dX8_comesAgain_47 ?_
  refine wp_iaload dX8_comesAgain_48 h1 L_60 h2 ?_
  refine wp_aload_n dX8_comesAgain_49 rfl rfl ?_
  refine wp_get (v := vR 51) dX8_comesAgain_50 fl_8_35 L_45 rfl ?_
  refine wp_iload dX8_comesAgain_53 rfl ?_
  refine wp_iaload dX8_comesAgain_55 h3 L_51 h4 ?_
  exact wp_icmp_ne (tgt := 63) dX8_comesAgain_56 rfl k1 k2
theorem b_X8_comesAgain_59 {d : Nat} {Q : Option pV → pG → Prop} {g : pG} {v1 v2 v3 v4 v5 : Int} (k : EV d mX8_comesAgain Q 23 [vR 45, vI v1, vI v2, vI v3, vI 1, vI (w32 (v5 + 1))] [] g) : EV d mX8_comesAgain Q 59 [vR 45, vI v1, vI v2, vI v3, vI v4, vI v5] [] g := by
  refine wp_iconst dX8_comesAgain_59 kc_1 ?_
  refine wp_goto (tgt := 64) dX8_comesAgain_60 rfl ?_
  refine wp_istore dX8_comesAgain_64 (Nat.le_of_ble_eq_true rfl) (pp (c := 3) rfl rfl) ?_
  refine wp_iinc dX8_comesAgain_66 rfl (Nat.le_of_ble_eq_true rfl) (pp (c := 4) rfl rfl) ?_
  refine wp_goto (tgt := 23) dX8_comesAgain_69 rfl ?_
  exact k
theorem b_X8_comesAgain_63 {d : Nat} {Q : Option pV → pG → Prop} {g : pG} {v1 v2 v3 v4 v5 : Int} (k : EV d mX8_comesAgain Q 23 [vR 45, vI v1, vI v2, vI v3, vI 0, vI (w32 (v5 + 1))] [] g) : EV d mX8_comesAgain Q 63 [vR 45, vI v1, vI v2, vI v3, vI v4, vI v5] [] g := by
  refine wp_iconst dX8_comesAgain_63 kc_0 ?_
  refine wp_istore dX8_comesAgain_64 (Nat.le_of_ble_eq_true rfl) (pp (c := 3) rfl rfl) ?_
  refine wp_iinc dX8_comesAgain_66 rfl (Nat.le_of_ble_eq_true rfl) (pp (c := 4) rfl rfl) ?_
  refine wp_goto (tgt := 23) dX8_comesAgain_69 rfl ?_
  exact k
theorem b_X8_comesAgain_72 {d : Nat} {Q : Option pV → pG → Prop} {g : pG} {v1 v2 v3 v4 v5 : Int} (k1 : (v4 = 0) → EV d mX8_comesAgain Q 88 [vR 45, vI v1, vI v2, vI v3, vI v4, vI v5] [] g) (k2 : ¬ (v4 = 0) → EV d mX8_comesAgain Q 77 [vR 45, vI v1, vI v2, vI v3, vI v4, vI v5] [] g) : EV d mX8_comesAgain Q 72 [vR 45, vI v1, vI v2, vI v3, vI v4, vI v5] [] g := by
  refine wp_iload dX8_comesAgain_72 rfl ?_
  exact wp_if_eq (tgt := 88) dX8_comesAgain_74 rfl k1 k2
theorem b_X8_comesAgain_77 {d : Nat} {Q : Option pV → pG → Prop} {g : pG} {v1 v2 v3 v4 v5 : Int} (h1 : 0 ≤ v3) (h2 : v3 < 201) (k : EV d mX8_comesAgain Q 5 [vR 45, vI v1, vI (w32 (v1 - ((g 61) v3.toNat))), vI (w32 (v3 + 1)), vI v4, vI v5] [] g) : EV d mX8_comesAgain Q 77 [vR 45, vI v1, vI v2, vI v3, vI v4, vI v5] [] g := by
  refine wp_iload_n dX8_comesAgain_77 rfl ?_
  refine wp_aload_n dX8_comesAgain_78 rfl rfl ?_
  refine wp_get (v := vR 61) dX8_comesAgain_79 fl_8_65 L_45 rfl ?_
  refine wp_iload_n dX8_comesAgain_82 rfl ?_
  refine wp_iaload dX8_comesAgain_83 h1 L_61 h2 ?_
  refine wp_isub dX8_comesAgain_84 ?_
  refine wp_goto (tgt := 90) dX8_comesAgain_85 rfl ?_
  refine wp_istore_n dX8_comesAgain_90 (Nat.le_of_ble_eq_true rfl) (pp (c := 1) rfl rfl) ?_
  refine wp_iinc dX8_comesAgain_91 rfl (Nat.le_of_ble_eq_true rfl) (pp (c := 2) rfl rfl) ?_
  refine wp_goto (tgt := 5) dX8_comesAgain_94 rfl ?_
  exact k
theorem b_X8_comesAgain_88 {d : Nat} {Q : Option pV → pG → Prop} {g : pG} {v1 v2 v3 v4 v5 : Int} (k : EV d mX8_comesAgain Q 5 [vR 45, vI v1, vI (-9), vI (w32 (v3 + 1)), vI v4, vI v5] [] g) : EV d mX8_comesAgain Q 88 [vR 45, vI v1, vI v2, vI v3, vI v4, vI v5] [] g := by
  refine wp_bipush dX8_comesAgain_88 kb_m9 kc_m9 ?_
  refine wp_istore_n dX8_comesAgain_90 (Nat.le_of_ble_eq_true rfl) (pp (c := 1) rfl rfl) ?_
  refine wp_iinc dX8_comesAgain_91 rfl (Nat.le_of_ble_eq_true rfl) (pp (c := 2) rfl rfl) ?_
  refine wp_goto (tgt := 5) dX8_comesAgain_94 rfl ?_
  exact k
theorem b_X8_comesAgain_97 {d : Nat} {Q : Option pV → pG → Prop} {g : pG} {v1 v2 v3 : Int} {u4 u5 : pV} (k : EV d mX8_comesAgain Q 99 [vR 45, vI v1, vI v2, vI 0, u4, u5] [] g) : EV d mX8_comesAgain Q 97 [vR 45, vI v1, vI v2, vI v3, u4, u5] [] g := by
  refine wp_iconst dX8_comesAgain_97 kc_0 ?_
  refine wp_istore_n dX8_comesAgain_98 (Nat.le_of_ble_eq_true rfl) (pp (c := 2) rfl rfl) ?_
  exact k
theorem b_X8_comesAgain_99 {d : Nat} {Q : Option pV → pG → Prop} {g : pG} {v1 v2 v3 : Int} {u4 u5 : pV} (k1 : (8 ≤ v3) → EV d mX8_comesAgain Q 131 [vR 45, vI v1, vI v2, vI v3, u4, u5] [] g) (k2 : ¬ (8 ≤ v3) → EV d mX8_comesAgain Q 105 [vR 45, vI v1, vI v2, vI v3, u4, u5] [] g) : EV d mX8_comesAgain Q 99 [vR 45, vI v1, vI v2, vI v3, u4, u5] [] g := by
  refine wp_iload_n dX8_comesAgain_99 rfl ?_
  refine wp_bipush dX8_comesAgain_100 kb_8 kc_8 ?_
  exact wp_icmp_ge (tgt := 131) dX8_comesAgain_102 rfl k1 k2
theorem b_X8_comesAgain_105 {d : Nat} {Q : Option pV → pG → Prop} {g : pG} {v1 v2 v3 : Int} {u4 u5 : pV} (h1 : 0 ≤ v3) (h2 : v3 < 8) (h3 : 0 ≤ w32 ((w32 (8 * ((g 45) 33))) + v3)) (h4 : w32 ((w32 (8 * ((g 45) 33))) + v3) < 1608) (k : EV d mX8_comesAgain Q 99 [vR 45, vI v1, vI v2, vI (w32 (v3 + 1)), u4, u5] [] (cset g 60 (fup (g 60) (w32 ((w32 (8 * ((g 45) 33))) + v3)).toNat ((g 51) v3.toNat)))) : EV d mX8_comesAgain Q 105 [vR 45, vI v1, vI v2, vI v3, u4, u5] [] g := by
  refine wp_aload_n dX8_comesAgain_105 rfl rfl ?_
  refine wp_get (v := vR 60) dX8_comesAgain_106 fl_8_62 L_45 rfl ?_
  refine wp_bipush dX8_comesAgain_109 kb_8 kc_8 ?_
  refine wp_aload_n dX8_comesAgain_111 rfl rfl ?_
  refine wp_get (v := vI ((g 45) 33)) dX8_comesAgain_112 fl_8_256 L_45 rfl ?_
  refine wp_imul dX8_comesAgain_115 ?_
  refine wp_iload_n dX8_comesAgain_116 rfl ?_
  refine wp_iadd dX8_comesAgain_117 ?_
  refine wp_aload_n dX8_comesAgain_118 rfl rfl ?_
  refine wp_get (v := vR 51) dX8_comesAgain_119 fl_8_35 L_45 rfl ?_
  refine wp_iload_n dX8_comesAgain_122 rfl ?_
  refine wp_iaload dX8_comesAgain_123 h1 L_51 h2 ?_
  refine wp_iastore dX8_comesAgain_124 h3 L_60 h4 ?_
  refine wp_iinc dX8_comesAgain_125 rfl (Nat.le_of_ble_eq_true rfl) (pp (c := 2) rfl rfl) ?_
  refine wp_goto (tgt := 99) dX8_comesAgain_128 rfl ?_
  exact k
theorem b_X8_comesAgain_131 {d : Nat} {Q : Option pV → pG → Prop} {g : pG} {v1 v2 v3 : Int} {u4 u5 : pV} (h1 : 0 ≤ (g 45) 33) (h2 : (g 45) 33 < 201) (hq : Q (some (vI v2)) (cset (cset g 61 (fup (g 61) ((g 45) 33).toNat v1)) 45 (fup (g 45) 33 (w32 (((g 45) 33) + 1))))) : EV d mX8_comesAgain Q 131 [vR 45, vI v1, vI v2, vI v3, u4, u5] [] g := by
  refine wp_aload_n dX8_comesAgain_131 rfl rfl ?_
  refine wp_get (v := vR 61) dX8_comesAgain_132 fl_8_65 L_45 rfl ?_
  refine wp_aload_n dX8_comesAgain_135 rfl rfl ?_
  refine wp_get (v := vI ((g 45) 33)) dX8_comesAgain_136 fl_8_256 L_45 rfl ?_
  refine wp_iload_n dX8_comesAgain_139 rfl ?_
  refine wp_iastore dX8_comesAgain_140 h1 L_61 h2 ?_
  refine wp_aload_n dX8_comesAgain_141 rfl rfl ?_
  refine wp_dup dX8_comesAgain_142 rfl ?_
  refine wp_get (v := vI ((g 45) 33)) dX8_comesAgain_143 fl_8_256 L_45 rfl ?_
  refine wp_iconst dX8_comesAgain_146 kc_1 ?_
  refine wp_iadd dX8_comesAgain_147 ?_
  refine wp_putI dX8_comesAgain_148 fl_8_256 L_45 rfl rfl ?_
  refine wp_iload_n dX8_comesAgain_151 rfl ?_
  exact wp_iret dX8_comesAgain_152 rfl hq
theorem b_X8_rounds_0 {d : Nat} {Q : Option pV → pG → Prop} {g : pG} (k : EV d mX8_rounds Q 14 [vR 45, vI ((fup (g 45) 8 0) 7), vI 0, vI 0] [] (cset g 45 (fup (g 45) 8 0))) : EV d mX8_rounds Q 0 [vR 45, vX 2, vX 2, vX 2] [] g := by
  refine wp_aload_n dX8_rounds_0 rfl rfl ?_
  refine wp_iconst dX8_rounds_1 kc_0 ?_
  refine wp_putI dX8_rounds_2 fl_8_105 L_45 rfl rfl ?_
  refine wp_aload_n dX8_rounds_5 rfl rfl ?_
  refine wp_get (v := vI ((fup (g 45) 8 0) 7)) dX8_rounds_6 fl_8_29 L_45 rfl ?_
  refine wp_istore_n dX8_rounds_9 (Nat.le_of_ble_eq_true rfl) (pp (c := 0) rfl rfl) ?_
  refine wp_iconst dX8_rounds_10 kc_0 ?_
  refine wp_istore_n dX8_rounds_11 (Nat.le_of_ble_eq_true rfl) (pp (c := 1) rfl rfl) ?_
  refine wp_iconst dX8_rounds_12 kc_0 ?_
  refine wp_istore_n dX8_rounds_13 (Nat.le_of_ble_eq_true rfl) (pp (c := 2) rfl rfl) ?_
  exact k
theorem b_X8_rounds_14 {d : Nat} {Q : Option pV → pG → Prop} {g : pG} {v1 v2 v3 : Int} (k1 : (8 < v3) → EV d mX8_rounds Q 52 [vR 45, vI v1, vI v2, vI v3] [] g) (k2 : ¬ (8 < v3) → EV d mX8_rounds Q 20 [vR 45, vI v1, vI v2, vI v3] [] g) : EV d mX8_rounds Q 14 [vR 45, vI v1, vI v2, vI v3] [] g := by
  refine wp_iload_n dX8_rounds_14 rfl ?_
  refine wp_bipush dX8_rounds_15 kb_8 kc_8 ?_
  exact wp_icmp_gt (tgt := 52) dX8_rounds_17 rfl k1 k2
theorem b_X8_rounds_20 {d : Nat} {Q : Option pV → pG → Prop} {g : pG} {v1 v2 v3 : Int} {R : pG → Prop} (hc : CT d mX8_goRound [vR 45] (cset g 45 (fup (g 45) 7 v3)) (qV R)) (k : ∀ gg : pG, R gg → EV d mX8_rounds Q 29 [vR 45, vI v1, vI v2, vI v3] [] gg) : EV d mX8_rounds Q 20 [vR 45, vI v1, vI v2, vI v3] [] g := by
  refine wp_aload_n dX8_rounds_20 rfl rfl ?_
  refine wp_iload_n dX8_rounds_21 rfl ?_
  refine wp_putI dX8_rounds_22 fl_8_29 L_45 rfl rfl ?_
  refine wp_aload_n dX8_rounds_25 rfl rfl ?_
  exact wp_callvV (As := []) dX8_rounds_26 ml_8_268 (by decide) rfl L_45 (by decide) rfl (Nat.le_of_ble_eq_true rfl) rfl (Nat.le_refl _) (Nat.le_refl _) hc k
theorem b_X8_rounds_29 {d : Nat} {Q : Option pV → pG → Prop} {g : pG} {v1 v2 v3 : Int} (k1 : (0 ≤ (g 45) 29) → EV d mX8_rounds Q 41 [vR 45, vI v1, vI v2, vI v3] [vI v2] g) (k2 : ¬ (0 ≤ (g 45) 29) → EV d mX8_rounds Q 37 [vR 45, vI v1, vI v2, vI v3] [vI v2] g) : EV d mX8_rounds Q 29 [vR 45, vI v1, vI v2, vI v3] [] g := by
  refine wp_iload_n dX8_rounds_29 rfl ?_
  refine wp_aload_n dX8_rounds_30 rfl rfl ?_
  refine wp_get (v := vI ((g 45) 29)) dX8_rounds_31 fl_8_265 L_45 rfl ?_
  exact wp_if_ge (tgt := 41) dX8_rounds_34 rfl k1 k2
theorem b_X8_rounds_37 {d : Nat} {Q : Option pV → pG → Prop} {g : pG} {v1 v2 v3 vs0 : Int} (k : EV d mX8_rounds Q 14 [vR 45, vI v1, vI (zor vs0 0), vI (w32 (v3 + 1))] [] g) : EV d mX8_rounds Q 37 [vR 45, vI v1, vI v2, vI v3] [vI vs0] g := by
  refine wp_iconst dX8_rounds_37 kc_0 ?_
  refine wp_goto (tgt := 44) dX8_rounds_38 rfl ?_
  refine wp_ior dX8_rounds_44 ?_
  refine wp_istore_n dX8_rounds_45 (Nat.le_of_ble_eq_true rfl) (pp (c := 1) rfl rfl) ?_
  refine wp_iinc dX8_rounds_46 rfl (Nat.le_of_ble_eq_true rfl) (pp (c := 2) rfl rfl) ?_
  refine wp_goto (tgt := 14) dX8_rounds_49 rfl ?_
  exact k
theorem b_X8_rounds_41 {d : Nat} {Q : Option pV → pG → Prop} {g : pG} {v1 v2 v3 vs0 : Int} (k : EV d mX8_rounds Q 14 [vR 45, vI v1, vI (zor vs0 (zshl 1 v3)), vI (w32 (v3 + 1))] [] g) : EV d mX8_rounds Q 41 [vR 45, vI v1, vI v2, vI v3] [vI vs0] g := by
  refine wp_iconst dX8_rounds_41 kc_1 ?_
  refine wp_iload_n dX8_rounds_42 rfl ?_
  refine wp_ishl dX8_rounds_43 ?_
  refine wp_ior dX8_rounds_44 ?_
  refine wp_istore_n dX8_rounds_45 (Nat.le_of_ble_eq_true rfl) (pp (c := 1) rfl rfl) ?_
  refine wp_iinc dX8_rounds_46 rfl (Nat.le_of_ble_eq_true rfl) (pp (c := 2) rfl rfl) ?_
  refine wp_goto (tgt := 14) dX8_rounds_49 rfl ?_
  exact k
theorem b_X8_rounds_52 {d : Nat} {Q : Option pV → pG → Prop} {g : pG} {v1 v2 v3 : Int} (hq : Q (some (vI v2)) (cset g 45 (fup (g 45) 7 v1))) : EV d mX8_rounds Q 52 [vR 45, vI v1, vI v2, vI v3] [] g := by
  refine wp_aload_n dX8_rounds_52 rfl rfl ?_
  refine wp_iload_n dX8_rounds_53 rfl ?_
  refine wp_putI dX8_rounds_54 fl_8_29 L_45 rfl rfl ?_
  refine wp_iload_n dX8_rounds_57 rfl ?_
  exact wp_iret dX8_rounds_58 rfl hq
theorem b_X8_appeals_0 {d : Nat} {Q : Option pV → pG → Prop} {g : pG} {v1 : Int} {R : Int → pG → Prop} (hc : CT d mX8_in [vL v1, vL 0, vL 3] (cset g 45 (fup (g 45) 8 0)) (qI R)) (k : ∀ (x : Int) (gg : pG), R x gg → EV d mX8_appeals Q 14 [vR 45, vI v1, vX 2] [vI x] gg) : EV d mX8_appeals Q 0 [vR 45, vI v1, vX 2] [] g := by
  refine wp_aload_n dX8_appeals_0 rfl rfl ?_
  refine wp_iconst dX8_appeals_1 kc_0 ?_
  refine wp_putI dX8_appeals_2 fl_8_105 L_45 rfl rfl ?_
  refine wp_iload_n dX8_appeals_5 rfl ?_
  refine wp_i2l dX8_appeals_6 ?_
  refine wp_lconst (x := 0) dX8_appeals_7 rfl ?_
  refine wp_ldc2_w dX8_appeals_8 k2_8_271 ?_
  exact wp_callsI (As := [vL v1, vL 0, vL 3]) dX8_appeals_11 ml_8_111 (Or.inl rfl) rfl (Nat.le_of_ble_eq_true rfl) rfl (Nat.le_refl _) (Nat.le_refl _) hc k
theorem b_X8_appeals_14 {d : Nat} {Q : Option pV → pG → Prop} {g : pG} {v1 vs0 : Int} (k1 : (vs0 ≠ 0) → EV d mX8_appeals Q 24 [vR 45, vI v1, vX 2] [] g) (k2 : ¬ (vs0 ≠ 0) → EV d mX8_appeals Q 17 [vR 45, vI v1, vX 2] [] g) : EV d mX8_appeals Q 14 [vR 45, vI v1, vX 2] [vI vs0] g := by
  exact wp_if_ne (tgt := 24) dX8_appeals_14 rfl k1 k2
theorem b_X8_appeals_17 {d : Nat} {Q : Option pV → pG → Prop} {g : pG} {v1 : Int} {R : Int → pG → Prop} (hc : CT d mX8_refuse [vR 45, vI (-2)] g (qI R)) (k : ∀ (x : Int) (gg : pG), R x gg → EV d mX8_appeals Q 23 [vR 45, vI v1, vX 2] [vI x] gg) : EV d mX8_appeals Q 17 [vR 45, vI v1, vX 2] [] g := by
  refine wp_aload_n dX8_appeals_17 rfl rfl ?_
  refine wp_bipush dX8_appeals_18 kb_m2 kc_m2 ?_
  exact wp_callvI (As := [vI (-2)]) dX8_appeals_20 ml_8_164 (by decide) rfl L_45 (by decide) rfl (Nat.le_of_ble_eq_true rfl) rfl (Nat.le_refl _) (Nat.le_refl _) hc k
theorem b_X8_appeals_23 {d : Nat} {Q : Option pV → pG → Prop} {g : pG} {v1 vs0 : Int} (hq : Q (some (vI vs0)) g) : EV d mX8_appeals Q 23 [vR 45, vI v1, vX 2] [vI vs0] g := by
  exact wp_iret dX8_appeals_23 rfl hq
theorem b_X8_appeals_24 {d : Nat} {Q : Option pV → pG → Prop} {g : pG} {v1 : Int} {R : pG → Prop} (hc : CT d mX8_layAppeals [vR 45] g (qV R)) (k : ∀ gg : pG, R gg → EV d mX8_appeals Q 28 [vR 45, vI v1, vX 2] [] gg) : EV d mX8_appeals Q 24 [vR 45, vI v1, vX 2] [] g := by
  refine wp_aload_n dX8_appeals_24 rfl rfl ?_
  exact wp_callvV (As := []) dX8_appeals_25 ml_8_273 (by decide) rfl L_45 (by decide) rfl (Nat.le_of_ble_eq_true rfl) rfl (Nat.le_refl _) (Nat.le_refl _) hc k
theorem b_X8_appeals_28 {d : Nat} {Q : Option pV → pG → Prop} {g : pG} {v1 : Int} (k1 : ((g 45) 0 ≤ 0) → EV d mX8_appeals Q 39 [vR 45, vI v1, vX 2] [] g) (k2 : ¬ ((g 45) 0 ≤ 0) → EV d mX8_appeals Q 35 [vR 45, vI v1, vX 2] [] g) : EV d mX8_appeals Q 28 [vR 45, vI v1, vX 2] [] g := by
  refine wp_aload_n dX8_appeals_28 rfl rfl ?_
  refine wp_get (v := vI ((g 45) 0)) dX8_appeals_29 fl_8_108 L_45 rfl ?_
  exact wp_if_le (tgt := 39) dX8_appeals_32 rfl k1 k2
theorem b_X8_appeals_35 {d : Nat} {Q : Option pV → pG → Prop} {g : pG} {v1 : Int} (k0 : v1 = 0 → EV d mX8_appeals Q 68 [vR 45, vI v1, vI 1] [] g) (k1 : v1 = 1 → EV d mX8_appeals Q 73 [vR 45, vI v1, vI 1] [] g) (k2 : v1 = 2 → EV d mX8_appeals Q 104 [vR 45, vI v1, vI 1] [] g) (kd : (v1 ≠ 0 ∧ v1 ≠ 1 ∧ v1 ≠ 2) → EV d mX8_appeals Q 119 [vR 45, vI v1, vI 1] [] g) : EV d mX8_appeals Q 35 [vR 45, vI v1, vX 2] [] g := by
  refine wp_iconst dX8_appeals_35 kc_1 ?_
  refine wp_goto (tgt := 40) dX8_appeals_36 rfl ?_
  refine wp_istore_n dX8_appeals_40 (Nat.le_of_ble_eq_true rfl) (pp (c := 1) rfl rfl) ?_
  refine wp_iload_n dX8_appeals_41 rfl ?_
  refine wp_tsw (x := v1) dX8_appeals_42 (fun hh => ⟨119, rfl, kd (by omega)⟩) (fun hh hh2 => ?_)
  rcases (show v1 = 0 ∨ v1 = 1 ∨ v1 = 2 by omega) with hq | hq | hq
  · exact ⟨26, 68, by rw [hq]; rfl, rfl, k0 hq⟩
  · exact ⟨31, 73, by rw [hq]; rfl, rfl, k1 hq⟩
  · exact ⟨62, 104, by rw [hq]; rfl, rfl, k2 hq⟩
theorem b_X8_appeals_39 {d : Nat} {Q : Option pV → pG → Prop} {g : pG} {v1 : Int} (k0 : v1 = 0 → EV d mX8_appeals Q 68 [vR 45, vI v1, vI 0] [] g) (k1 : v1 = 1 → EV d mX8_appeals Q 73 [vR 45, vI v1, vI 0] [] g) (k2 : v1 = 2 → EV d mX8_appeals Q 104 [vR 45, vI v1, vI 0] [] g) (kd : (v1 ≠ 0 ∧ v1 ≠ 1 ∧ v1 ≠ 2) → EV d mX8_appeals Q 119 [vR 45, vI v1, vI 0] [] g) : EV d mX8_appeals Q 39 [vR 45, vI v1, vX 2] [] g := by
  refine wp_iconst dX8_appeals_39 kc_0 ?_
  refine wp_istore_n dX8_appeals_40 (Nat.le_of_ble_eq_true rfl) (pp (c := 1) rfl rfl) ?_
  refine wp_iload_n dX8_appeals_41 rfl ?_
  refine wp_tsw (x := v1) dX8_appeals_42 (fun hh => ⟨119, rfl, kd (by omega)⟩) (fun hh hh2 => ?_)
  rcases (show v1 = 0 ∨ v1 = 1 ∨ v1 = 2 by omega) with hq | hq | hq
  · exact ⟨26, 68, by rw [hq]; rfl, rfl, k0 hq⟩
  · exact ⟨31, 73, by rw [hq]; rfl, rfl, k1 hq⟩
  · exact ⟨62, 104, by rw [hq]; rfl, rfl, k2 hq⟩
theorem b_X8_appeals_68 {d : Nat} {Q : Option pV → pG → Prop} {g : pG} {v1 v2 : Int} {R : Int → pG → Prop} (hc : CT d mX8_goneThrough [vR 45] g (qI R)) (k : ∀ (x : Int) (gg : pG), R x gg → EV d mX8_appeals Q 72 [vR 45, vI v1, vI v2] [vI x] gg) : EV d mX8_appeals Q 68 [vR 45, vI v1, vI v2] [] g := by
  refine wp_aload_n dX8_appeals_68 rfl rfl ?_
  exact wp_callvI (As := []) dX8_appeals_69 ml_8_276 (by decide) rfl L_45 (by decide) rfl (Nat.le_of_ble_eq_true rfl) rfl (Nat.le_refl _) (Nat.le_refl _) hc k
theorem b_X8_appeals_72 {d : Nat} {Q : Option pV → pG → Prop} {g : pG} {v1 v2 vs0 : Int} (hq : Q (some (vI vs0)) g) : EV d mX8_appeals Q 72 [vR 45, vI v1, vI v2] [vI vs0] g := by
  exact wp_iret dX8_appeals_72 rfl hq
theorem b_X8_appeals_73 {d : Nat} {Q : Option pV → pG → Prop} {g : pG} {v1 v2 : Int} (k1 : (v2 ≠ 0) → EV d mX8_appeals Q 89 [vR 45, vI v1, vI v2] [] g) (k2 : ¬ (v2 ≠ 0) → EV d mX8_appeals Q 77 [vR 45, vI v1, vI v2] [] g) : EV d mX8_appeals Q 73 [vR 45, vI v1, vI v2] [] g := by
  refine wp_iload_n dX8_appeals_73 rfl ?_
  exact wp_if_ne (tgt := 89) dX8_appeals_74 rfl k1 k2
theorem b_X8_appeals_77 {d : Nat} {Q : Option pV → pG → Prop} {g : pG} {v1 v2 : Int} (k1 : ((g 62) 0 = 0) → EV d mX8_appeals Q 102 [vR 45, vI v1, vI v2] [] g) (k2 : ¬ ((g 62) 0 = 0) → EV d mX8_appeals Q 86 [vR 45, vI v1, vI v2] [] g) : EV d mX8_appeals Q 77 [vR 45, vI v1, vI v2] [] g := by
  refine wp_aload_n dX8_appeals_77 rfl rfl ?_
  refine wp_get (v := vR 62) dX8_appeals_78 fl_8_68 L_45 rfl ?_
  refine wp_iconst dX8_appeals_81 kc_0 ?_
  refine wp_baload dX8_appeals_82 (by decide) L_62 (by decide) ?_
  exact wp_if_eq (tgt := 102) dX8_appeals_83 rfl k1 k2
theorem b_X8_appeals_86 {d : Nat} {Q : Option pV → pG → Prop} {g : pG} {v1 v2 : Int} (hq : Q (some (vI 1)) g) : EV d mX8_appeals Q 86 [vR 45, vI v1, vI v2] [] g := by
  refine wp_goto (tgt := 98) dX8_appeals_86 rfl ?_
  refine wp_iconst dX8_appeals_98 kc_1 ?_
  refine wp_goto (tgt := 103) dX8_appeals_99 rfl ?_
  exact wp_iret dX8_appeals_103 rfl hq
theorem b_X8_appeals_89 {d : Nat} {Q : Option pV → pG → Prop} {g : pG} {v1 v2 : Int} (k1 : ((g 64) 1 = 0) → EV d mX8_appeals Q 102 [vR 45, vI v1, vI v2] [] g) (k2 : ¬ ((g 64) 1 = 0) → EV d mX8_appeals Q 98 [vR 45, vI v1, vI v2] [] g) : EV d mX8_appeals Q 89 [vR 45, vI v1, vI v2] [] g := by
  refine wp_aload_n dX8_appeals_89 rfl rfl ?_
  refine wp_get (v := vR 64) dX8_appeals_90 fl_8_75 L_45 rfl ?_
  refine wp_iconst dX8_appeals_93 kc_1 ?_
  refine wp_baload dX8_appeals_94 (by decide) L_64 (by decide) ?_
  exact wp_if_eq (tgt := 102) dX8_appeals_95 rfl k1 k2
theorem b_X8_appeals_98 {d : Nat} {Q : Option pV → pG → Prop} {g : pG} {v1 v2 : Int} (hq : Q (some (vI 1)) g) : EV d mX8_appeals Q 98 [vR 45, vI v1, vI v2] [] g := by
  refine wp_iconst dX8_appeals_98 kc_1 ?_
  refine wp_goto (tgt := 103) dX8_appeals_99 rfl ?_
  exact wp_iret dX8_appeals_103 rfl hq
theorem b_X8_appeals_102 {d : Nat} {Q : Option pV → pG → Prop} {g : pG} {v1 v2 : Int} (hq : Q (some (vI 0)) g) : EV d mX8_appeals Q 102 [vR 45, vI v1, vI v2] [] g := by
  refine wp_iconst dX8_appeals_102 kc_0 ?_
  exact wp_iret dX8_appeals_103 rfl hq
theorem b_X8_appeals_104 {d : Nat} {Q : Option pV → pG → Prop} {g : pG} {v1 v2 : Int} (k1 : (v2 ≠ 0) → EV d mX8_appeals Q 112 [vR 45, vI v1, vI v2] [] g) (k2 : ¬ (v2 ≠ 0) → EV d mX8_appeals Q 108 [vR 45, vI v1, vI v2] [] g) : EV d mX8_appeals Q 104 [vR 45, vI v1, vI v2] [] g := by
  refine wp_iload_n dX8_appeals_104 rfl ?_
  exact wp_if_ne (tgt := 112) dX8_appeals_105 rfl k1 k2
theorem b_X8_appeals_108 {d : Nat} {Q : Option pV → pG → Prop} {g : pG} {v1 v2 : Int} (hq : Q (some (vI 0)) g) : EV d mX8_appeals Q 108 [vR 45, vI v1, vI v2] [] g := by
  refine wp_iconst dX8_appeals_108 kc_0 ?_
  refine wp_goto (tgt := 118) dX8_appeals_109 rfl ?_
  exact wp_iret dX8_appeals_118 rfl hq
theorem b_X8_appeals_112 {d : Nat} {Q : Option pV → pG → Prop} {g : pG} {v1 v2 : Int} (hq : Q (some (vI ((g 65) 1))) g) : EV d mX8_appeals Q 112 [vR 45, vI v1, vI v2] [] g := by
  refine wp_aload_n dX8_appeals_112 rfl rfl ?_
  refine wp_get (v := vR 65) dX8_appeals_113 fl_8_78 L_45 rfl ?_
  refine wp_iconst dX8_appeals_116 kc_1 ?_
  refine wp_iaload dX8_appeals_117 (by decide) L_65 (by decide) ?_
  exact wp_iret dX8_appeals_118 rfl hq
theorem b_X8_appeals_119 {d : Nat} {Q : Option pV → pG → Prop} {g : pG} {v1 v2 : Int} (k1 : (v2 ≠ 0) → EV d mX8_appeals Q 127 [vR 45, vI v1, vI v2] [] g) (k2 : ¬ (v2 ≠ 0) → EV d mX8_appeals Q 123 [vR 45, vI v1, vI v2] [] g) : EV d mX8_appeals Q 119 [vR 45, vI v1, vI v2] [] g := by
  refine wp_iload_n dX8_appeals_119 rfl ?_
  exact wp_if_ne (tgt := 127) dX8_appeals_120 rfl k1 k2
theorem b_X8_appeals_123 {d : Nat} {Q : Option pV → pG → Prop} {g : pG} {v1 v2 : Int} (hq : Q (some (vI 0)) g) : EV d mX8_appeals Q 123 [vR 45, vI v1, vI v2] [] g := by
  refine wp_iconst dX8_appeals_123 kc_0 ?_
  refine wp_goto (tgt := 133) dX8_appeals_124 rfl ?_
  exact wp_iret dX8_appeals_133 rfl hq
theorem b_X8_appeals_127 {d : Nat} {Q : Option pV → pG → Prop} {g : pG} {v1 v2 : Int} (hq : Q (some (vI ((g 66) 1))) g) : EV d mX8_appeals Q 127 [vR 45, vI v1, vI v2] [] g := by
  refine wp_aload_n dX8_appeals_127 rfl rfl ?_
  refine wp_get (v := vR 66) dX8_appeals_128 fl_8_81 L_45 rfl ?_
  refine wp_iconst dX8_appeals_131 kc_1 ?_
  refine wp_iaload dX8_appeals_132 (by decide) L_66 (by decide) ?_
  exact wp_iret dX8_appeals_133 rfl hq
theorem b_X8_layAppeals_0 {d : Nat} {Q : Option pV → pG → Prop} {g : pG} {R : pG → Prop} (hc : CT d mX8_think [vR 45] g (qV R)) (k : ∀ gg : pG, R gg → EV d mX8_layAppeals Q 4 [vR 45, vX 2, vX 2, vX 2] [] gg) : EV d mX8_layAppeals Q 0 [vR 45, vX 2, vX 2, vX 2] [] g := by
  refine wp_aload_n dX8_layAppeals_0 rfl rfl ?_
  exact wp_callvV (As := []) dX8_layAppeals_1 ml_8_158 (by decide) rfl L_45 (by decide) rfl (Nat.le_of_ble_eq_true rfl) rfl (Nat.le_refl _) (Nat.le_refl _) hc k
theorem b_X8_layAppeals_4 {d : Nat} {Q : Option pV → pG → Prop} {g : pG} {R : Int → pG → Prop} (hc : CT d mX8_isFor [vR 45] g (qI R)) (k : ∀ (x : Int) (gg : pG), R x gg → EV d mX8_layAppeals Q 13 [vR 45, vX 2, vX 2, vX 2] [vI x, vI 0, vR 62] gg) : EV d mX8_layAppeals Q 4 [vR 45, vX 2, vX 2, vX 2] [] g := by
  refine wp_aload_n dX8_layAppeals_4 rfl rfl ?_
  refine wp_get (v := vR 62) dX8_layAppeals_5 fl_8_68 L_45 rfl ?_
  refine wp_iconst dX8_layAppeals_8 kc_0 ?_
  refine wp_aload_n dX8_layAppeals_9 rfl rfl ?_
  exact wp_callvI (As := []) dX8_layAppeals_10 ml_8_252 (by decide) rfl L_45 (by decide) rfl (Nat.le_of_ble_eq_true rfl) rfl (Nat.le_refl _) (Nat.le_refl _) hc k
theorem b_X8_layAppeals_13 {d : Nat} {Q : Option pV → pG → Prop} {g : pG} {vs1 vs2 : Int} (h1 : 0 ≤ vs1) (h2 : vs1 < 8) (h3 : vs2 = 0 ∨ vs2 = 1) (k : EV d mX8_layAppeals Q 16 [vR 45, vI 0, vX 2, vX 2] [] (cset g 62 (fup (g 62) vs1.toNat vs2))) : EV d mX8_layAppeals Q 13 [vR 45, vX 2, vX 2, vX 2] [vI vs2, vI vs1, vR 62] g := by
  refine wp_bastore dX8_layAppeals_13 h1 L_62 h2 h3 ?_
  refine wp_iconst dX8_layAppeals_14 kc_0 ?_
  refine wp_istore_n dX8_layAppeals_15 (Nat.le_of_ble_eq_true rfl) (pp (c := 0) rfl rfl) ?_
  exact k
theorem b_X8_layAppeals_16 {d : Nat} {Q : Option pV → pG → Prop} {g : pG} {v1 : Int} (k1 : ((g 45) 0 ≤ v1) → EV d mX8_layAppeals Q 47 [vR 45, vI v1, vX 2, vX 2] [] g) (k2 : ¬ ((g 45) 0 ≤ v1) → EV d mX8_layAppeals Q 24 [vR 45, vI v1, vX 2, vX 2] [] g) : EV d mX8_layAppeals Q 16 [vR 45, vI v1, vX 2, vX 2] [] g := by
  refine wp_iload_n dX8_layAppeals_16 rfl ?_
  refine wp_aload_n dX8_layAppeals_17 rfl rfl ?_
  refine wp_get (v := vI ((g 45) 0)) dX8_layAppeals_18 fl_8_108 L_45 rfl ?_
  exact wp_icmp_ge (tgt := 47) dX8_layAppeals_21 rfl k1 k2
theorem b_X8_layAppeals_24 {d : Nat} {Q : Option pV → pG → Prop} {g : pG} {v1 : Int} {R : pG → Prop} (hc : CT d mX8_pass [vR 45, vI v1] g (qV R)) (k : ∀ gg : pG, R gg → EV d mX8_layAppeals Q 29 [vR 45, vI v1, vX 2, vX 2] [] gg) : EV d mX8_layAppeals Q 24 [vR 45, vI v1, vX 2, vX 2] [] g := by
  refine wp_aload_n dX8_layAppeals_24 rfl rfl ?_
  refine wp_iload_n dX8_layAppeals_25 rfl ?_
  exact wp_callvV (As := [vI v1]) dX8_layAppeals_26 ml_8_154 (by decide) rfl L_45 (by decide) rfl (Nat.le_of_ble_eq_true rfl) rfl (Nat.le_refl _) (Nat.le_refl _) hc k
theorem b_X8_layAppeals_29 {d : Nat} {Q : Option pV → pG → Prop} {g : pG} {v1 : Int} {R : Int → pG → Prop} (hc : CT d mX8_isFor [vR 45] g (qI R)) (k : ∀ (x : Int) (gg : pG), R x gg → EV d mX8_layAppeals Q 40 [vR 45, vI v1, vX 2, vX 2] [vI x, vI (w32 (v1 + 1)), vR 62] gg) : EV d mX8_layAppeals Q 29 [vR 45, vI v1, vX 2, vX 2] [] g := by
  refine wp_aload_n dX8_layAppeals_29 rfl rfl ?_
  refine wp_get (v := vR 62) dX8_layAppeals_30 fl_8_68 L_45 rfl ?_
  refine wp_iload_n dX8_layAppeals_33 rfl ?_
  refine wp_iconst dX8_layAppeals_34 kc_1 ?_
  refine wp_iadd dX8_layAppeals_35 ?_
  refine wp_aload_n dX8_layAppeals_36 rfl rfl ?_
  exact wp_callvI (As := []) dX8_layAppeals_37 ml_8_252 (by decide) rfl L_45 (by decide) rfl (Nat.le_of_ble_eq_true rfl) rfl (Nat.le_refl _) (Nat.le_refl _) hc k
theorem b_X8_layAppeals_40 {d : Nat} {Q : Option pV → pG → Prop} {g : pG} {v1 vs1 vs2 : Int} (h1 : 0 ≤ vs1) (h2 : vs1 < 8) (h3 : vs2 = 0 ∨ vs2 = 1) (k : EV d mX8_layAppeals Q 16 [vR 45, vI (w32 (v1 + 1)), vX 2, vX 2] [] (cset g 62 (fup (g 62) vs1.toNat vs2))) : EV d mX8_layAppeals Q 40 [vR 45, vI v1, vX 2, vX 2] [vI vs2, vI vs1, vR 62] g := by
  refine wp_bastore dX8_layAppeals_40 h1 L_62 h2 h3 ?_
  refine wp_iinc dX8_layAppeals_41 rfl (Nat.le_of_ble_eq_true rfl) (pp (c := 0) rfl rfl) ?_
  refine wp_goto (tgt := 16) dX8_layAppeals_44 rfl ?_
  exact k
theorem b_X8_layAppeals_47 {d : Nat} {Q : Option pV → pG → Prop} {g : pG} {v1 : Int} (k : EV d mX8_layAppeals Q 52 [vR 45, vI ((g 45) 0), vX 2, vX 2] [] g) : EV d mX8_layAppeals Q 47 [vR 45, vI v1, vX 2, vX 2] [] g := by
  refine wp_aload_n dX8_layAppeals_47 rfl rfl ?_
  refine wp_get (v := vI ((g 45) 0)) dX8_layAppeals_48 fl_8_108 L_45 rfl ?_
  refine wp_istore_n dX8_layAppeals_51 (Nat.le_of_ble_eq_true rfl) (pp (c := 0) rfl rfl) ?_
  exact k
theorem b_X8_layAppeals_52 {d : Nat} {Q : Option pV → pG → Prop} {g : pG} {v1 : Int} {u2 u3 : pV} (k1 : (v1 < 0) → EV d mX8_layAppeals Q 234 [vR 45, vI v1, u2, u3] [] g) (k2 : ¬ (v1 < 0) → EV d mX8_layAppeals Q 56 [vR 45, vI v1, u2, u3] [] g) : EV d mX8_layAppeals Q 52 [vR 45, vI v1, u2, u3] [] g := by
  refine wp_iload_n dX8_layAppeals_52 rfl ?_
  exact wp_if_lt (tgt := 234) dX8_layAppeals_53 rfl k1 k2
theorem b_X8_layAppeals_56 {d : Nat} {Q : Option pV → pG → Prop} {g : pG} {v1 : Int} {u2 u3 : pV} (h1 : 0 ≤ v1) (h2 : v1 < 8) (h3 : (g 62) v1.toNat = 0 ∨ (g 62) v1.toNat = 1) (k1 : ((g 45) 0 ≤ v1) → EV d mX8_layAppeals Q 228 [vR 45, vI v1, u2, u3] [] (cset (cset (cset (cset g 63 (fup (g 63) v1.toNat 0)) 64 (fup (g 64) v1.toNat ((g 62) v1.toNat))) 65 (fup (g 65) v1.toNat 0)) 66 (fup (g 66) v1.toNat 0))) (k2 : ¬ ((g 45) 0 ≤ v1) → EV d mX8_layAppeals Q 97 [vR 45, vI v1, u2, u3] [] (cset (cset (cset (cset g 63 (fup (g 63) v1.toNat 0)) 64 (fup (g 64) v1.toNat ((g 62) v1.toNat))) 65 (fup (g 65) v1.toNat 0)) 66 (fup (g 66) v1.toNat 0))) : EV d mX8_layAppeals Q 56 [vR 45, vI v1, u2, u3] [] g := by
  refine wp_aload_n dX8_layAppeals_56 rfl rfl ?_
  refine wp_get (v := vR 63) dX8_layAppeals_57 fl_8_72 L_45 rfl ?_
  refine wp_iload_n dX8_layAppeals_60 rfl ?_
  refine wp_iconst dX8_layAppeals_61 kc_0 ?_
  refine wp_bastore dX8_layAppeals_62 h1 L_63 h2 (Or.inl rfl) ?_
  refine wp_aload_n dX8_layAppeals_63 rfl rfl ?_
  refine wp_get (v := vR 64) dX8_layAppeals_64 fl_8_75 L_45 rfl ?_
  refine wp_iload_n dX8_layAppeals_67 rfl ?_
  refine wp_aload_n dX8_layAppeals_68 rfl rfl ?_
  refine wp_get (v := vR 62) dX8_layAppeals_69 fl_8_68 L_45 rfl ?_
  refine wp_iload_n dX8_layAppeals_72 rfl ?_
  refine wp_baload dX8_layAppeals_73 h1 L_62 h2 ?_
  refine wp_bastore dX8_layAppeals_74 h1 L_64 h2 h3 ?_
  refine wp_aload_n dX8_layAppeals_75 rfl rfl ?_
  refine wp_get (v := vR 65) dX8_layAppeals_76 fl_8_78 L_45 rfl ?_
  refine wp_iload_n dX8_layAppeals_79 rfl ?_
  refine wp_iconst dX8_layAppeals_80 kc_0 ?_
  refine wp_iastore dX8_layAppeals_81 h1 L_65 h2 ?_
  refine wp_aload_n dX8_layAppeals_82 rfl rfl ?_
  refine wp_get (v := vR 66) dX8_layAppeals_83 fl_8_81 L_45 rfl ?_
  refine wp_iload_n dX8_layAppeals_86 rfl ?_
  refine wp_iconst dX8_layAppeals_87 kc_0 ?_
  refine wp_iastore dX8_layAppeals_88 h1 L_66 h2 ?_
  refine wp_iload_n dX8_layAppeals_89 rfl ?_
  refine wp_aload_n dX8_layAppeals_90 rfl rfl ?_
  refine wp_get (v := vI ((g 45) 0)) dX8_layAppeals_91 fl_8_108 L_45 rfl ?_
  exact wp_icmp_ge (tgt := 228) dX8_layAppeals_94 rfl k1 k2
theorem b_X8_layAppeals_97 {d : Nat} {Q : Option pV → pG → Prop} {g : pG} {v1 : Int} {u2 u3 : pV} (h1 : 0 ≤ v1) (h2 : v1 < 8) (k1 : ((g 62) v1.toNat ≠ 0) → EV d mX8_layAppeals Q 110 [vR 45, vI v1, u2, u3] [] g) (k2 : ¬ ((g 62) v1.toNat ≠ 0) → EV d mX8_layAppeals Q 106 [vR 45, vI v1, u2, u3] [] g) : EV d mX8_layAppeals Q 97 [vR 45, vI v1, u2, u3] [] g := by
  refine wp_aload_n dX8_layAppeals_97 rfl rfl ?_
  refine wp_get (v := vR 62) dX8_layAppeals_98 fl_8_68 L_45 rfl ?_
  refine wp_iload_n dX8_layAppeals_101 rfl ?_
  refine wp_baload dX8_layAppeals_102 h1 L_62 h2 ?_
  exact wp_if_ne (tgt := 110) dX8_layAppeals_103 rfl k1 k2
theorem b_X8_layAppeals_106 {d : Nat} {Q : Option pV → pG → Prop} {g : pG} {v1 : Int} {u2 u3 : pV} (h1 : 0 ≤ v1) (h2 : v1 < 7) (h3 : 0 ≤ w32 (v1 + 1)) (h4 : w32 (v1 + 1) < 8) (k1 : ((g 64) (w32 (v1 + 1)).toNat ≠ 1) → EV d mX8_layAppeals Q 228 [vR 45, vI v1, vI 1, vI (w32 (((g 48) v1.toNat) + ((g 65) (w32 (v1 + 1)).toNat)))] [] g) (k2 : ¬ ((g 64) (w32 (v1 + 1)).toNat ≠ 1) → EV d mX8_layAppeals Q 155 [vR 45, vI v1, vI 1, vI (w32 (((g 48) v1.toNat) + ((g 65) (w32 (v1 + 1)).toNat)))] [] g) : EV d mX8_layAppeals Q 106 [vR 45, vI v1, u2, u3] [] g := by
  refine wp_iconst dX8_layAppeals_106 kc_1 ?_
  refine wp_goto (tgt := 111) dX8_layAppeals_107 rfl ?_
  refine wp_istore_n dX8_layAppeals_111 (Nat.le_of_ble_eq_true rfl) (pp (c := 1) rfl rfl) ?_
  refine wp_aload_n dX8_layAppeals_112 rfl rfl ?_
  refine wp_get (v := vR 48) dX8_layAppeals_113 fl_8_16 L_45 rfl ?_
  refine wp_iload_n dX8_layAppeals_116 rfl ?_
  refine wp_iaload dX8_layAppeals_117 h1 L_48 h2 ?_
  refine wp_iload_n dX8_layAppeals_118 rfl ?_
  refine wp_if_eq (tgt := 133) dX8_layAppeals_119 rfl (fun hh => absurd hh (by decide)) (fun _ => ?_)
  refine wp_aload_n dX8_layAppeals_122 rfl rfl ?_
  refine wp_get (v := vR 65) dX8_layAppeals_123 fl_8_78 L_45 rfl ?_
  refine wp_iload_n dX8_layAppeals_126 rfl ?_
  refine wp_iconst dX8_layAppeals_127 kc_1 ?_
  refine wp_iadd dX8_layAppeals_128 ?_
  refine wp_iaload dX8_layAppeals_129 h3 L_65 h4 ?_
  refine wp_goto (tgt := 141) dX8_layAppeals_130 rfl ?_
  refine wp_iadd dX8_layAppeals_141 ?_
  refine wp_istore_n dX8_layAppeals_142 (Nat.le_of_ble_eq_true rfl) (pp (c := 2) rfl rfl) ?_
  refine wp_aload_n dX8_layAppeals_143 rfl rfl ?_
  refine wp_get (v := vR 64) dX8_layAppeals_144 fl_8_75 L_45 rfl ?_
  refine wp_iload_n dX8_layAppeals_147 rfl ?_
  refine wp_iconst dX8_layAppeals_148 kc_1 ?_
  refine wp_iadd dX8_layAppeals_149 ?_
  refine wp_baload dX8_layAppeals_150 h3 L_64 h4 ?_
  refine wp_iload_n dX8_layAppeals_151 rfl ?_
  exact wp_icmp_ne (tgt := 228) dX8_layAppeals_152 rfl k1 k2
theorem b_X8_layAppeals_110 {d : Nat} {Q : Option pV → pG → Prop} {g : pG} {v1 : Int} {u2 u3 : pV} (h1 : 0 ≤ v1) (h2 : v1 < 7) (h3 : 0 ≤ w32 (v1 + 1)) (h4 : w32 (v1 + 1) < 8) (k1 : ((g 64) (w32 (v1 + 1)).toNat ≠ 0) → EV d mX8_layAppeals Q 228 [vR 45, vI v1, vI 0, vI (w32 (((g 48) v1.toNat) + ((g 66) (w32 (v1 + 1)).toNat)))] [] g) (k2 : ¬ ((g 64) (w32 (v1 + 1)).toNat ≠ 0) → EV d mX8_layAppeals Q 155 [vR 45, vI v1, vI 0, vI (w32 (((g 48) v1.toNat) + ((g 66) (w32 (v1 + 1)).toNat)))] [] g) : EV d mX8_layAppeals Q 110 [vR 45, vI v1, u2, u3] [] g := by
  refine wp_iconst dX8_layAppeals_110 kc_0 ?_
  refine wp_istore_n dX8_layAppeals_111 (Nat.le_of_ble_eq_true rfl) (pp (c := 1) rfl rfl) ?_
  refine wp_aload_n dX8_layAppeals_112 rfl rfl ?_
  refine wp_get (v := vR 48) dX8_layAppeals_113 fl_8_16 L_45 rfl ?_
  refine wp_iload_n dX8_layAppeals_116 rfl ?_
  refine wp_iaload dX8_layAppeals_117 h1 L_48 h2 ?_
  refine wp_iload_n dX8_layAppeals_118 rfl ?_
  refine wp_if_eq (tgt := 133) dX8_layAppeals_119 rfl (fun _ => ?_) (fun hh => absurd (by decide) hh)
  refine wp_aload_n dX8_layAppeals_133 rfl rfl ?_
  refine wp_get (v := vR 66) dX8_layAppeals_134 fl_8_81 L_45 rfl ?_
  refine wp_iload_n dX8_layAppeals_137 rfl ?_
  refine wp_iconst dX8_layAppeals_138 kc_1 ?_
  refine wp_iadd dX8_layAppeals_139 ?_
  refine wp_iaload dX8_layAppeals_140 h3 L_66 h4 ?_
  refine wp_iadd dX8_layAppeals_141 ?_
  refine wp_istore_n dX8_layAppeals_142 (Nat.le_of_ble_eq_true rfl) (pp (c := 2) rfl rfl) ?_
  refine wp_aload_n dX8_layAppeals_143 rfl rfl ?_
  refine wp_get (v := vR 64) dX8_layAppeals_144 fl_8_75 L_45 rfl ?_
  refine wp_iload_n dX8_layAppeals_147 rfl ?_
  refine wp_iconst dX8_layAppeals_148 kc_1 ?_
  refine wp_iadd dX8_layAppeals_149 ?_
  refine wp_baload dX8_layAppeals_150 h3 L_64 h4 ?_
  refine wp_iload_n dX8_layAppeals_151 rfl ?_
  exact wp_icmp_ne (tgt := 228) dX8_layAppeals_152 rfl k1 k2
theorem b_X8_layAppeals_155 {d : Nat} {Q : Option pV → pG → Prop} {g : pG} {v1 v2 v3 : Int} (k1 : ((g 45) 6 ≤ v3) → EV d mX8_layAppeals Q 228 [vR 45, vI v1, vI v2, vI v3] [] g) (k2 : ¬ ((g 45) 6 ≤ v3) → EV d mX8_layAppeals Q 163 [vR 45, vI v1, vI v2, vI v3] [] g) : EV d mX8_layAppeals Q 155 [vR 45, vI v1, vI v2, vI v3] [] g := by
  refine wp_aload_n dX8_layAppeals_155 rfl rfl ?_
  refine wp_get (v := vI ((g 45) 6)) dX8_layAppeals_156 fl_8_26 L_45 rfl ?_
  refine wp_iload_n dX8_layAppeals_159 rfl ?_
  exact wp_icmp_le (tgt := 228) dX8_layAppeals_160 rfl k1 k2
theorem b_X8_layAppeals_163 {d : Nat} {Q : Option pV → pG → Prop} {g : pG} {v1 v2 v3 : Int} (h1 : 0 ≤ v1) (h2 : v1 < 8) (h3 : 0 ≤ w32 (v1 + 1)) (h4 : w32 (v1 + 1) < 8) (h5 : (g 64) (w32 (v1 + 1)).toNat = 0 ∨ (g 64) (w32 (v1 + 1)).toNat = 1) (k1 : (v2 = 0) → EV d mX8_layAppeals Q 197 [vR 45, vI v1, vI v2, vI v3] [vI v1, vR 65] (cset (cset g 63 (fup (g 63) v1.toNat 1)) 64 (fup (g 64) v1.toNat ((g 64) (w32 (v1 + 1)).toNat)))) (k2 : ¬ (v2 = 0) → EV d mX8_layAppeals Q 193 [vR 45, vI v1, vI v2, vI v3] [vI v1, vR 65] (cset (cset g 63 (fup (g 63) v1.toNat 1)) 64 (fup (g 64) v1.toNat ((g 64) (w32 (v1 + 1)).toNat)))) : EV d mX8_layAppeals Q 163 [vR 45, vI v1, vI v2, vI v3] [] g := by
  refine wp_aload_n dX8_layAppeals_163 rfl rfl ?_
  refine wp_get (v := vR 63) dX8_layAppeals_164 fl_8_72 L_45 rfl ?_
  refine wp_iload_n dX8_layAppeals_167 rfl ?_
  refine wp_iconst dX8_layAppeals_168 kc_1 ?_
  refine wp_bastore dX8_layAppeals_169 h1 L_63 h2 (Or.inr rfl) ?_
  refine wp_aload_n dX8_layAppeals_170 rfl rfl ?_
  refine wp_get (v := vR 64) dX8_layAppeals_171 fl_8_75 L_45 rfl ?_
  refine wp_iload_n dX8_layAppeals_174 rfl ?_
  refine wp_aload_n dX8_layAppeals_175 rfl rfl ?_
  refine wp_get (v := vR 64) dX8_layAppeals_176 fl_8_75 L_45 rfl ?_
  refine wp_iload_n dX8_layAppeals_179 rfl ?_
  refine wp_iconst dX8_layAppeals_180 kc_1 ?_
  refine wp_iadd dX8_layAppeals_181 ?_
  refine wp_baload dX8_layAppeals_182 h3 L_64 h4 ?_
  refine wp_bastore dX8_layAppeals_183 h1 L_64 h2 h5 ?_
  refine wp_aload_n dX8_layAppeals_184 rfl rfl ?_
  refine wp_get (v := vR 65) dX8_layAppeals_185 fl_8_78 L_45 rfl ?_
  refine wp_iload_n dX8_layAppeals_188 rfl ?_
  refine wp_iload_n dX8_layAppeals_189 rfl ?_
  exact wp_if_eq (tgt := 197) dX8_layAppeals_190 rfl k1 k2
theorem b_X8_layAppeals_193 {d : Nat} {Q : Option pV → pG → Prop} {g : pG} {v1 v2 v3 vs1 : Int} (h1 : 0 ≤ vs1) (h2 : vs1 < 8) (k1 : (v2 = 0) → EV d mX8_layAppeals Q 226 [vR 45, vI v1, vI v2, vI v3] [vI v1, vR 66] (cset g 65 (fup (g 65) vs1.toNat v3))) (k2 : ¬ (v2 = 0) → EV d mX8_layAppeals Q 215 [vR 45, vI v1, vI v2, vI v3] [vI v1, vR 66] (cset g 65 (fup (g 65) vs1.toNat v3))) : EV d mX8_layAppeals Q 193 [vR 45, vI v1, vI v2, vI v3] [vI vs1, vR 65] g := by
  refine wp_iload_n dX8_layAppeals_193 rfl ?_
  refine wp_goto (tgt := 205) dX8_layAppeals_194 rfl ?_
  refine wp_iastore dX8_layAppeals_205 h1 L_65 h2 ?_
  refine wp_aload_n dX8_layAppeals_206 rfl rfl ?_
  refine wp_get (v := vR 66) dX8_layAppeals_207 fl_8_81 L_45 rfl ?_
  refine wp_iload_n dX8_layAppeals_210 rfl ?_
  refine wp_iload_n dX8_layAppeals_211 rfl ?_
  exact wp_if_eq (tgt := 226) dX8_layAppeals_212 rfl k1 k2
theorem b_X8_layAppeals_197 {d : Nat} {Q : Option pV → pG → Prop} {g : pG} {v1 v2 v3 vs1 : Int} (h1 : 0 ≤ w32 (v1 + 1)) (h2 : w32 (v1 + 1) < 8) (h3 : 0 ≤ vs1) (h4 : vs1 < 8) (k1 : (v2 = 0) → EV d mX8_layAppeals Q 226 [vR 45, vI v1, vI v2, vI v3] [vI v1, vR 66] (cset g 65 (fup (g 65) vs1.toNat ((g 65) (w32 (v1 + 1)).toNat)))) (k2 : ¬ (v2 = 0) → EV d mX8_layAppeals Q 215 [vR 45, vI v1, vI v2, vI v3] [vI v1, vR 66] (cset g 65 (fup (g 65) vs1.toNat ((g 65) (w32 (v1 + 1)).toNat)))) : EV d mX8_layAppeals Q 197 [vR 45, vI v1, vI v2, vI v3] [vI vs1, vR 65] g := by
  refine wp_aload_n dX8_layAppeals_197 rfl rfl ?_
  refine wp_get (v := vR 65) dX8_layAppeals_198 fl_8_78 L_45 rfl ?_
  refine wp_iload_n dX8_layAppeals_201 rfl ?_
  refine wp_iconst dX8_layAppeals_202 kc_1 ?_
  refine wp_iadd dX8_layAppeals_203 ?_
  refine wp_iaload dX8_layAppeals_204 h1 L_65 h2 ?_
  refine wp_iastore dX8_layAppeals_205 h3 L_65 h4 ?_
  refine wp_aload_n dX8_layAppeals_206 rfl rfl ?_
  refine wp_get (v := vR 66) dX8_layAppeals_207 fl_8_81 L_45 rfl ?_
  refine wp_iload_n dX8_layAppeals_210 rfl ?_
  refine wp_iload_n dX8_layAppeals_211 rfl ?_
  exact wp_if_eq (tgt := 226) dX8_layAppeals_212 rfl k1 k2
theorem b_X8_layAppeals_215 {d : Nat} {Q : Option pV → pG → Prop} {g : pG} {v1 v2 v3 vs1 : Int} (h1 : 0 ≤ w32 (v1 + 1)) (h2 : w32 (v1 + 1) < 8) (h3 : 0 ≤ vs1) (h4 : vs1 < 8) (k : EV d mX8_layAppeals Q 52 [vR 45, vI (w32 (v1 + (-1))), vI v2, vI v3] [] (cset g 66 (fup (g 66) vs1.toNat ((g 66) (w32 (v1 + 1)).toNat)))) : EV d mX8_layAppeals Q 215 [vR 45, vI v1, vI v2, vI v3] [vI vs1, vR 66] g := by
  refine wp_aload_n dX8_layAppeals_215 rfl rfl ?_
  refine wp_get (v := vR 66) dX8_layAppeals_216 fl_8_81 L_45 rfl ?_
  refine wp_iload_n dX8_layAppeals_219 rfl ?_
  refine wp_iconst dX8_layAppeals_220 kc_1 ?_
  refine wp_iadd dX8_layAppeals_221 ?_
  refine wp_iaload dX8_layAppeals_222 h1 L_66 h2 ?_
  refine wp_goto (tgt := 227) dX8_layAppeals_223 rfl ?_
  refine wp_iastore dX8_layAppeals_227 h3 L_66 h4 ?_
  refine wp_iinc dX8_layAppeals_228 rfl (Nat.le_of_ble_eq_true rfl) (pp (c := 0) rfl rfl) ?_
  refine wp_goto (tgt := 52) dX8_layAppeals_231 rfl ?_
  exact k
theorem b_X8_layAppeals_226 {d : Nat} {Q : Option pV → pG → Prop} {g : pG} {v1 v2 v3 vs1 : Int} (h1 : 0 ≤ vs1) (h2 : vs1 < 8) (k : EV d mX8_layAppeals Q 52 [vR 45, vI (w32 (v1 + (-1))), vI v2, vI v3] [] (cset g 66 (fup (g 66) vs1.toNat v3))) : EV d mX8_layAppeals Q 226 [vR 45, vI v1, vI v2, vI v3] [vI vs1, vR 66] g := by
  refine wp_iload_n dX8_layAppeals_226 rfl ?_
  refine wp_iastore dX8_layAppeals_227 h1 L_66 h2 ?_
  refine wp_iinc dX8_layAppeals_228 rfl (Nat.le_of_ble_eq_true rfl) (pp (c := 0) rfl rfl) ?_
  refine wp_goto (tgt := 52) dX8_layAppeals_231 rfl ?_
  exact k
theorem b_X8_layAppeals_228 {d : Nat} {Q : Option pV → pG → Prop} {g : pG} {v1 : Int} {u2 u3 : pV} (k : EV d mX8_layAppeals Q 52 [vR 45, vI (w32 (v1 + (-1))), u2, u3] [] g) : EV d mX8_layAppeals Q 228 [vR 45, vI v1, u2, u3] [] g := by
  refine wp_iinc dX8_layAppeals_228 rfl (Nat.le_of_ble_eq_true rfl) (pp (c := 0) rfl rfl) ?_
  refine wp_goto (tgt := 52) dX8_layAppeals_231 rfl ?_
  exact k
theorem b_X8_layAppeals_234 {d : Nat} {Q : Option pV → pG → Prop} {g : pG} {v1 : Int} {u2 u3 : pV} (hq : Q none g) : EV d mX8_layAppeals Q 234 [vR 45, vI v1, u2, u3] [] g := by
  exact wp_vret dX8_layAppeals_234 rfl hq
theorem b_X8_goneThrough_0 {d : Nat} {Q : Option pV → pG → Prop} {g : pG} (k1 : ((g 45) 0 ≤ 0) → EV d mX8_goneThrough Q 11 [vR 45, vX 2] [] g) (k2 : ¬ ((g 45) 0 ≤ 0) → EV d mX8_goneThrough Q 7 [vR 45, vX 2] [] g) : EV d mX8_goneThrough Q 0 [vR 45, vX 2] [] g := by
  refine wp_aload_n dX8_goneThrough_0 rfl rfl ?_
  refine wp_get (v := vI ((g 45) 0)) dX8_goneThrough_1 fl_8_108 L_45 rfl ?_
  exact wp_if_le (tgt := 11) dX8_goneThrough_4 rfl k1 k2
theorem b_X8_goneThrough_7 {d : Nat} {Q : Option pV → pG → Prop} {g : pG} (k : EV d mX8_goneThrough Q 13 [vR 45, vI 1] [] g) : EV d mX8_goneThrough Q 7 [vR 45, vX 2] [] g := by
  refine wp_iconst dX8_goneThrough_7 kc_1 ?_
  refine wp_goto (tgt := 12) dX8_goneThrough_8 rfl ?_
  refine wp_istore_n dX8_goneThrough_12 (Nat.le_of_ble_eq_true rfl) (pp (c := 0) rfl rfl) ?_
  exact k
theorem b_X8_goneThrough_11 {d : Nat} {Q : Option pV → pG → Prop} {g : pG} (k : EV d mX8_goneThrough Q 13 [vR 45, vI 0] [] g) : EV d mX8_goneThrough Q 11 [vR 45, vX 2] [] g := by
  refine wp_iconst dX8_goneThrough_11 kc_0 ?_
  refine wp_istore_n dX8_goneThrough_12 (Nat.le_of_ble_eq_true rfl) (pp (c := 0) rfl rfl) ?_
  exact k
theorem b_X8_goneThrough_13 {d : Nat} {Q : Option pV → pG → Prop} {g : pG} {v1 : Int} (h1 : 0 ≤ v1) (h2 : v1 < 8) (k1 : ((g 63) v1.toNat = 0) → EV d mX8_goneThrough Q 32 [vR 45, vI v1] [] g) (k2 : ¬ ((g 63) v1.toNat = 0) → EV d mX8_goneThrough Q 22 [vR 45, vI v1] [] g) : EV d mX8_goneThrough Q 13 [vR 45, vI v1] [] g := by
  refine wp_aload_n dX8_goneThrough_13 rfl rfl ?_
  refine wp_get (v := vR 63) dX8_goneThrough_14 fl_8_72 L_45 rfl ?_
  refine wp_iload_n dX8_goneThrough_17 rfl ?_
  refine wp_baload dX8_goneThrough_18 h1 L_63 h2 ?_
  exact wp_if_eq (tgt := 32) dX8_goneThrough_19 rfl k1 k2
theorem b_X8_goneThrough_22 {d : Nat} {Q : Option pV → pG → Prop} {g : pG} {v1 : Int} (k1 : (v1 ≤ 0) → EV d mX8_goneThrough Q 32 [vR 45, vI v1] [] g) (k2 : ¬ (v1 ≤ 0) → EV d mX8_goneThrough Q 26 [vR 45, vI v1] [] g) : EV d mX8_goneThrough Q 22 [vR 45, vI v1] [] g := by
  refine wp_iload_n dX8_goneThrough_22 rfl ?_
  exact wp_if_le (tgt := 32) dX8_goneThrough_23 rfl k1 k2
theorem b_X8_goneThrough_26 {d : Nat} {Q : Option pV → pG → Prop} {g : pG} {v1 : Int} (k : EV d mX8_goneThrough Q 13 [vR 45, vI (w32 (v1 + 1))] [] g) : EV d mX8_goneThrough Q 26 [vR 45, vI v1] [] g := by
  refine wp_iinc dX8_goneThrough_26 rfl (Nat.le_of_ble_eq_true rfl) (pp (c := 0) rfl rfl) ?_
  refine wp_goto (tgt := 13) dX8_goneThrough_29 rfl ?_
  exact k
theorem b_X8_goneThrough_32 {d : Nat} {Q : Option pV → pG → Prop} {g : pG} {v1 : Int} (hq : Q (some (vI v1)) g) : EV d mX8_goneThrough Q 32 [vR 45, vI v1] [] g := by
  refine wp_iload_n dX8_goneThrough_32 rfl ?_
  exact wp_iret dX8_goneThrough_33 rfl hq
theorem b_X8_treaty_0 {d : Nat} {Q : Option pV → pG → Prop} {g : pG} {v1 v2 : Int} (k1 : ((fup (g 45) 8 0) 0 ≠ 0) → EV d mX8_treaty Q 17 [vR 45, vI v1, vI v2, vX 2] [] (cset g 45 (fup (g 45) 8 0))) (k2 : ¬ ((fup (g 45) 8 0) 0 ≠ 0) → EV d mX8_treaty Q 12 [vR 45, vI v1, vI v2, vX 2] [] (cset g 45 (fup (g 45) 8 0))) : EV d mX8_treaty Q 0 [vR 45, vI v1, vI v2, vX 2] [] g := by
  refine wp_aload_n dX8_treaty_0 rfl rfl ?_
  refine wp_iconst dX8_treaty_1 kc_0 ?_
  refine wp_putI dX8_treaty_2 fl_8_105 L_45 rfl rfl ?_
  refine wp_aload_n dX8_treaty_5 rfl rfl ?_
  refine wp_get (v := vI ((fup (g 45) 8 0) 0)) dX8_treaty_6 fl_8_108 L_45 rfl ?_
  exact wp_if_ne (tgt := 17) dX8_treaty_9 rfl k1 k2
theorem b_X8_treaty_12 {d : Nat} {Q : Option pV → pG → Prop} {g : pG} {v1 v2 : Int} {R : Int → pG → Prop} (hc : CT d mX8_refuse [vR 45, vI (-3)] g (qI R)) (k : ∀ (x : Int) (gg : pG), R x gg → EV d mX8_treaty Q 43 [vR 45, vI v1, vI v2, vI (-3)] [vI x] gg) : EV d mX8_treaty Q 12 [vR 45, vI v1, vI v2, vX 2] [] g := by
  refine wp_bipush dX8_treaty_12 kb_m3 kc_m3 ?_
  refine wp_goto (tgt := 33) dX8_treaty_14 rfl ?_
  refine wp_istore_n dX8_treaty_33 (Nat.le_of_ble_eq_true rfl) (pp (c := 2) rfl rfl) ?_
  refine wp_iload_n dX8_treaty_34 rfl ?_
  refine wp_if_ge (tgt := 44) dX8_treaty_35 rfl (fun hh => absurd hh (by decide)) (fun _ => ?_)
  refine wp_aload_n dX8_treaty_38 rfl rfl ?_
  refine wp_iload_n dX8_treaty_39 rfl ?_
  exact wp_callvI (As := [vI (-3)]) dX8_treaty_40 ml_8_164 (by decide) rfl L_45 (by decide) rfl (Nat.le_of_ble_eq_true rfl) rfl (Nat.le_refl _) (Nat.le_refl _) hc k
theorem b_X8_treaty_17 {d : Nat} {Q : Option pV → pG → Prop} {g : pG} {v1 v2 : Int} {R : Int → pG → Prop} (hc : CT d mX8_wrongNumber [vI v1, vI 0, vI (w32 (((g 45) 0) - 1))] g (qI R)) (k : ∀ (x : Int) (gg : pG), R x gg → EV d mX8_treaty Q 28 [vR 45, vI v1, vI v2, vX 2] [vI x] gg) : EV d mX8_treaty Q 17 [vR 45, vI v1, vI v2, vX 2] [] g := by
  refine wp_iload_n dX8_treaty_17 rfl ?_
  refine wp_iconst dX8_treaty_18 kc_0 ?_
  refine wp_aload_n dX8_treaty_19 rfl rfl ?_
  refine wp_get (v := vI ((g 45) 0)) dX8_treaty_20 fl_8_108 L_45 rfl ?_
  refine wp_iconst dX8_treaty_23 kc_1 ?_
  refine wp_isub dX8_treaty_24 ?_
  exact wp_callsI (As := [vI v1, vI 0, vI (w32 (((g 45) 0) - 1))]) dX8_treaty_25 ml_8_235 (Or.inl rfl) rfl (Nat.le_of_ble_eq_true rfl) rfl (Nat.le_refl _) (Nat.le_refl _) hc k
theorem b_X8_treaty_28 {d : Nat} {Q : Option pV → pG → Prop} {g : pG} {v1 v2 vs0 : Int} {R : Int → pG → Prop} (hc : CT d mX8_wrongBit [vI vs0, vI v2, vI 1] g (qI R)) (k : ∀ (x : Int) (gg : pG), R x gg → EV d mX8_treaty Q 33 [vR 45, vI v1, vI v2, vX 2] [vI x] gg) : EV d mX8_treaty Q 28 [vR 45, vI v1, vI v2, vX 2] [vI vs0] g := by
  refine wp_iload_n dX8_treaty_28 rfl ?_
  refine wp_iconst dX8_treaty_29 kc_1 ?_
  exact wp_callsI (As := [vI vs0, vI v2, vI 1]) dX8_treaty_30 ml_8_279 (Or.inl rfl) rfl (Nat.le_of_ble_eq_true rfl) rfl (Nat.le_refl _) (Nat.le_refl _) hc k
theorem b_X8_treaty_33 {d : Nat} {Q : Option pV → pG → Prop} {g : pG} {v1 v2 vs0 : Int} (k1 : (0 ≤ vs0) → EV d mX8_treaty Q 44 [vR 45, vI v1, vI v2, vI vs0] [] g) (k2 : ¬ (0 ≤ vs0) → EV d mX8_treaty Q 38 [vR 45, vI v1, vI v2, vI vs0] [] g) : EV d mX8_treaty Q 33 [vR 45, vI v1, vI v2, vX 2] [vI vs0] g := by
  refine wp_istore_n dX8_treaty_33 (Nat.le_of_ble_eq_true rfl) (pp (c := 2) rfl rfl) ?_
  refine wp_iload_n dX8_treaty_34 rfl ?_
  exact wp_if_ge (tgt := 44) dX8_treaty_35 rfl k1 k2
theorem b_X8_treaty_38 {d : Nat} {Q : Option pV → pG → Prop} {g : pG} {v1 v2 v3 : Int} {R : Int → pG → Prop} (hc : CT d mX8_refuse [vR 45, vI v3] g (qI R)) (k : ∀ (x : Int) (gg : pG), R x gg → EV d mX8_treaty Q 43 [vR 45, vI v1, vI v2, vI v3] [vI x] gg) : EV d mX8_treaty Q 38 [vR 45, vI v1, vI v2, vI v3] [] g := by
  refine wp_aload_n dX8_treaty_38 rfl rfl ?_
  refine wp_iload_n dX8_treaty_39 rfl ?_
  exact wp_callvI (As := [vI v3]) dX8_treaty_40 ml_8_164 (by decide) rfl L_45 (by decide) rfl (Nat.le_of_ble_eq_true rfl) rfl (Nat.le_refl _) (Nat.le_refl _) hc k
theorem b_X8_treaty_43 {d : Nat} {Q : Option pV → pG → Prop} {g : pG} {v1 v2 v3 vs0 : Int} (hq : Q (some (vI vs0)) g) : EV d mX8_treaty Q 43 [vR 45, vI v1, vI v2, vI v3] [vI vs0] g := by
  exact wp_iret dX8_treaty_43 rfl hq
theorem b_X8_treaty_44 {d : Nat} {Q : Option pV → pG → Prop} {g : pG} {v1 v2 v3 : Int} {R : pG → Prop} (hc : CT d mX8_layAppeals [vR 45] g (qV R)) (k : ∀ gg : pG, R gg → EV d mX8_treaty Q 48 [vR 45, vI v1, vI v2, vI v3] [] gg) : EV d mX8_treaty Q 44 [vR 45, vI v1, vI v2, vI v3] [] g := by
  refine wp_aload_n dX8_treaty_44 rfl rfl ?_
  exact wp_callvV (As := []) dX8_treaty_45 ml_8_273 (by decide) rfl L_45 (by decide) rfl (Nat.le_of_ble_eq_true rfl) rfl (Nat.le_refl _) (Nat.le_refl _) hc k
theorem b_X8_treaty_48 {d : Nat} {Q : Option pV → pG → Prop} {g : pG} {v1 v2 v3 : Int} (k1 : (v2 ≠ 1) → EV d mX8_treaty Q 72 [vR 45, vI v1, vI v2, vI v3] [] g) (k2 : ¬ (v2 ≠ 1) → EV d mX8_treaty Q 53 [vR 45, vI v1, vI v2, vI v3] [] g) : EV d mX8_treaty Q 48 [vR 45, vI v1, vI v2, vI v3] [] g := by
  refine wp_iload_n dX8_treaty_48 rfl ?_
  refine wp_iconst dX8_treaty_49 kc_1 ?_
  exact wp_icmp_ne (tgt := 72) dX8_treaty_50 rfl k1 k2
theorem b_X8_treaty_53 {d : Nat} {Q : Option pV → pG → Prop} {g : pG} {v1 v2 v3 : Int} (h1 : 0 ≤ w32 (v1 + 1)) (h2 : w32 (v1 + 1) < 8) (k1 : ((g 63) (w32 (v1 + 1)).toNat = 0) → EV d mX8_treaty Q 68 [vR 45, vI v1, vI v2, vI v3] [] g) (k2 : ¬ ((g 63) (w32 (v1 + 1)).toNat = 0) → EV d mX8_treaty Q 64 [vR 45, vI v1, vI v2, vI v3] [] g) : EV d mX8_treaty Q 53 [vR 45, vI v1, vI v2, vI v3] [] g := by
  refine wp_aload_n dX8_treaty_53 rfl rfl ?_
  refine wp_get (v := vR 63) dX8_treaty_54 fl_8_72 L_45 rfl ?_
  refine wp_iload_n dX8_treaty_57 rfl ?_
  refine wp_iconst dX8_treaty_58 kc_1 ?_
  refine wp_iadd dX8_treaty_59 ?_
  refine wp_baload dX8_treaty_60 h1 L_63 h2 ?_
  exact wp_if_eq (tgt := 68) dX8_treaty_61 rfl k1 k2
theorem b_X8_treaty_64 {d : Nat} {Q : Option pV → pG → Prop} {g : pG} {v1 v2 v3 : Int} (hq : Q (some (vI 1)) g) : EV d mX8_treaty Q 64 [vR 45, vI v1, vI v2, vI v3] [] g := by
  refine wp_iconst dX8_treaty_64 kc_1 ?_
  refine wp_goto (tgt := 89) dX8_treaty_65 rfl ?_
  exact wp_iret dX8_treaty_89 rfl hq
theorem b_X8_treaty_68 {d : Nat} {Q : Option pV → pG → Prop} {g : pG} {v1 v2 v3 : Int} (hq : Q (some (vI 0)) g) : EV d mX8_treaty Q 68 [vR 45, vI v1, vI v2, vI v3] [] g := by
  refine wp_iconst dX8_treaty_68 kc_0 ?_
  refine wp_goto (tgt := 89) dX8_treaty_69 rfl ?_
  exact wp_iret dX8_treaty_89 rfl hq
theorem b_X8_treaty_72 {d : Nat} {Q : Option pV → pG → Prop} {g : pG} {v1 v2 v3 : Int} (h1 : 0 ≤ w32 (v1 + 1)) (h2 : w32 (v1 + 1) < 8) (hq : Q (some (vI (w32 (((g 65) (w32 (v1 + 1)).toNat) + ((g 66) (w32 (v1 + 1)).toNat))))) g) : EV d mX8_treaty Q 72 [vR 45, vI v1, vI v2, vI v3] [] g := by
  refine wp_aload_n dX8_treaty_72 rfl rfl ?_
  refine wp_get (v := vR 65) dX8_treaty_73 fl_8_78 L_45 rfl ?_
  refine wp_iload_n dX8_treaty_76 rfl ?_
  refine wp_iconst dX8_treaty_77 kc_1 ?_
  refine wp_iadd dX8_treaty_78 ?_
  refine wp_iaload dX8_treaty_79 h1 L_65 h2 ?_
  refine wp_aload_n dX8_treaty_80 rfl rfl ?_
  refine wp_get (v := vR 66) dX8_treaty_81 fl_8_81 L_45 rfl ?_
  refine wp_iload_n dX8_treaty_84 rfl ?_
  refine wp_iconst dX8_treaty_85 kc_1 ?_
  refine wp_iadd dX8_treaty_86 ?_
  refine wp_iaload dX8_treaty_87 h1 L_66 h2 ?_
  refine wp_iadd dX8_treaty_88 ?_
  exact wp_iret dX8_treaty_89 rfl hq
theorem b_X8_wrongBit_0 {d : Nat} {Q : Option pV → pG → Prop} {g : pG} {v0 v1 v2 : Int} (k1 : (v0 ≠ 0) → EV d mX8_wrongBit Q 20 [vI v0, vI v1, vI v2] [] g) (k2 : ¬ (v0 ≠ 0) → EV d mX8_wrongBit Q 4 [vI v0, vI v1, vI v2] [] g) : EV d mX8_wrongBit Q 0 [vI v0, vI v1, vI v2] [] g := by
  refine wp_iload_n dX8_wrongBit_0 rfl ?_
  exact wp_if_ne (tgt := 20) dX8_wrongBit_1 rfl k1 k2
theorem b_X8_wrongBit_4 {d : Nat} {Q : Option pV → pG → Prop} {g : pG} {v0 v1 v2 : Int} {R : Int → pG → Prop} (hc : CT d mX8_in [vL v1, vL 0, vL v2] g (qI R)) (k : ∀ (x : Int) (gg : pG), R x gg → EV d mX8_wrongBit Q 12 [vI v0, vI v1, vI v2] [vI x] gg) : EV d mX8_wrongBit Q 4 [vI v0, vI v1, vI v2] [] g := by
  refine wp_iload_n dX8_wrongBit_4 rfl ?_
  refine wp_i2l dX8_wrongBit_5 ?_
  refine wp_lconst (x := 0) dX8_wrongBit_6 rfl ?_
  refine wp_iload_n dX8_wrongBit_7 rfl ?_
  refine wp_i2l dX8_wrongBit_8 ?_
  exact wp_callsI (As := [vL v1, vL 0, vL v2]) dX8_wrongBit_9 ml_8_111 (Or.inl rfl) rfl (Nat.le_of_ble_eq_true rfl) rfl (Nat.le_refl _) (Nat.le_refl _) hc k
theorem b_X8_wrongBit_12 {d : Nat} {Q : Option pV → pG → Prop} {g : pG} {v0 v1 v2 vs0 : Int} (k1 : (vs0 ≠ 0) → EV d mX8_wrongBit Q 20 [vI v0, vI v1, vI v2] [] g) (k2 : ¬ (vs0 ≠ 0) → EV d mX8_wrongBit Q 15 [vI v0, vI v1, vI v2] [] g) : EV d mX8_wrongBit Q 12 [vI v0, vI v1, vI v2] [vI vs0] g := by
  exact wp_if_ne (tgt := 20) dX8_wrongBit_12 rfl k1 k2
theorem b_X8_wrongBit_15 {d : Nat} {Q : Option pV → pG → Prop} {g : pG} {v0 v1 v2 : Int} (hq : Q (some (vI (-2))) g) : EV d mX8_wrongBit Q 15 [vI v0, vI v1, vI v2] [] g := by
  refine wp_bipush dX8_wrongBit_15 kb_m2 kc_m2 ?_
  refine wp_goto (tgt := 21) dX8_wrongBit_17 rfl ?_
  exact wp_iret dX8_wrongBit_21 rfl hq
theorem b_X8_wrongBit_20 {d : Nat} {Q : Option pV → pG → Prop} {g : pG} {v0 v1 v2 : Int} (hq : Q (some (vI v0)) g) : EV d mX8_wrongBit Q 20 [vI v0, vI v1, vI v2] [] g := by
  refine wp_iload_n dX8_wrongBit_20 rfl ?_
  exact wp_iret dX8_wrongBit_21 rfl hq
theorem b_X8_share_0 {d : Nat} {Q : Option pV → pG → Prop} {g : pG} {v1 : Int} {R : Int → pG → Prop} (hc : CT d mX8_isCourt [vR 45, vI v1] (cset g 45 (fup (g 45) 8 0)) (qI R)) (k : ∀ (x : Int) (gg : pG), R x gg → EV d mX8_share Q 10 [vR 45, vI v1] [vI x] gg) : EV d mX8_share Q 0 [vR 45, vI v1] [] g := by
  refine wp_aload_n dX8_share_0 rfl rfl ?_
  refine wp_iconst dX8_share_1 kc_0 ?_
  refine wp_putI dX8_share_2 fl_8_105 L_45 rfl rfl ?_
  refine wp_aload_n dX8_share_5 rfl rfl ?_
  refine wp_iload_n dX8_share_6 rfl ?_
  exact wp_callvI (As := [vI v1]) dX8_share_7 ml_8_230 (by decide) rfl L_45 (by decide) rfl (Nat.le_of_ble_eq_true rfl) rfl (Nat.le_refl _) (Nat.le_refl _) hc k
theorem b_X8_share_10 {d : Nat} {Q : Option pV → pG → Prop} {g : pG} {v1 vs0 : Int} (k1 : (vs0 ≠ 0) → EV d mX8_share Q 19 [vR 45, vI v1] [] g) (k2 : ¬ (vs0 ≠ 0) → EV d mX8_share Q 13 [vR 45, vI v1] [] g) : EV d mX8_share Q 10 [vR 45, vI v1] [vI vs0] g := by
  exact wp_if_ne (tgt := 19) dX8_share_10 rfl k1 k2
theorem b_X8_share_13 {d : Nat} {Q : Option pV → pG → Prop} {g : pG} {v1 : Int} {R : Int → pG → Prop} (hc : CT d mX8_refuse [vR 45, vI (-1)] g (qI R)) (k : ∀ (x : Int) (gg : pG), R x gg → EV d mX8_share Q 18 [vR 45, vI v1] [vI x] gg) : EV d mX8_share Q 13 [vR 45, vI v1] [] g := by
  refine wp_aload_n dX8_share_13 rfl rfl ?_
  refine wp_iconst dX8_share_14 kc_m1 ?_
  exact wp_callvI (As := [vI (-1)]) dX8_share_15 ml_8_164 (by decide) rfl L_45 (by decide) rfl (Nat.le_of_ble_eq_true rfl) rfl (Nat.le_refl _) (Nat.le_refl _) hc k
theorem b_X8_share_18 {d : Nat} {Q : Option pV → pG → Prop} {g : pG} {v1 vs0 : Int} (hq : Q (some (vI vs0)) g) : EV d mX8_share Q 18 [vR 45, vI v1] [vI vs0] g := by
  exact wp_iret dX8_share_18 rfl hq
theorem b_X8_share_19 {d : Nat} {Q : Option pV → pG → Prop} {g : pG} {v1 : Int} {R : pG → Prop} (hc : CT d mX8_layAppeals [vR 45] g (qV R)) (k : ∀ gg : pG, R gg → EV d mX8_share Q 23 [vR 45, vI v1] [] gg) : EV d mX8_share Q 19 [vR 45, vI v1] [] g := by
  refine wp_aload_n dX8_share_19 rfl rfl ?_
  exact wp_callvV (As := []) dX8_share_20 ml_8_273 (by decide) rfl L_45 (by decide) rfl (Nat.le_of_ble_eq_true rfl) rfl (Nat.le_refl _) (Nat.le_refl _) hc k
theorem b_X8_share_23 {d : Nat} {Q : Option pV → pG → Prop} {g : pG} {v1 : Int} (k1 : (v1 = 0) → EV d mX8_share Q 35 [vR 45, vI v1] [] g) (k2 : ¬ (v1 = 0) → EV d mX8_share Q 27 [vR 45, vI v1] [] g) : EV d mX8_share Q 23 [vR 45, vI v1] [] g := by
  refine wp_iload_n dX8_share_23 rfl ?_
  exact wp_if_eq (tgt := 35) dX8_share_24 rfl k1 k2
theorem b_X8_share_27 {d : Nat} {Q : Option pV → pG → Prop} {g : pG} {v1 : Int} {R : Int → pG → Prop} (hc : CT d mX8_goneThrough [vR 45] g (qI R)) (k : ∀ (x : Int) (gg : pG), R x gg → EV d mX8_share Q 32 [vR 45, vI v1] [vI x, vI v1] gg) : EV d mX8_share Q 27 [vR 45, vI v1] [] g := by
  refine wp_iload_n dX8_share_27 rfl ?_
  refine wp_aload_n dX8_share_28 rfl rfl ?_
  exact wp_callvI (As := []) dX8_share_29 ml_8_276 (by decide) rfl L_45 (by decide) rfl (Nat.le_of_ble_eq_true rfl) rfl (Nat.le_refl _) (Nat.le_refl _) hc k
theorem b_X8_share_32 {d : Nat} {Q : Option pV → pG → Prop} {g : pG} {v1 vs0 vs1 : Int} (k1 : (vs0 < vs1) → EV d mX8_share Q 40 [vR 45, vI v1] [] g) (k2 : ¬ (vs0 < vs1) → EV d mX8_share Q 35 [vR 45, vI v1] [] g) : EV d mX8_share Q 32 [vR 45, vI v1] [vI vs1, vI vs0] g := by
  exact wp_icmp_lt (tgt := 40) dX8_share_32 rfl k1 k2
theorem b_X8_share_35 {d : Nat} {Q : Option pV → pG → Prop} {g : pG} {v1 : Int} (hq : Q (some (vI (-9))) g) : EV d mX8_share Q 35 [vR 45, vI v1] [] g := by
  refine wp_bipush dX8_share_35 kb_m9 kc_m9 ?_
  refine wp_goto (tgt := 54) dX8_share_37 rfl ?_
  exact wp_iret dX8_share_54 rfl hq
theorem b_X8_share_40 {d : Nat} {Q : Option pV → pG → Prop} {g : pG} {v1 : Int} (h1 : 0 ≤ v1) (h2 : v1 < 8) (k1 : ((g 62) v1.toNat = 0) → EV d mX8_share Q 53 [vR 45, vI v1] [] g) (k2 : ¬ ((g 62) v1.toNat = 0) → EV d mX8_share Q 49 [vR 45, vI v1] [] g) : EV d mX8_share Q 40 [vR 45, vI v1] [] g := by
  refine wp_aload_n dX8_share_40 rfl rfl ?_
  refine wp_get (v := vR 62) dX8_share_41 fl_8_68 L_45 rfl ?_
  refine wp_iload_n dX8_share_44 rfl ?_
  refine wp_baload dX8_share_45 h1 L_62 h2 ?_
  exact wp_if_eq (tgt := 53) dX8_share_46 rfl k1 k2
theorem b_X8_share_49 {d : Nat} {Q : Option pV → pG → Prop} {g : pG} {v1 : Int} (hq : Q (some (vI 1)) g) : EV d mX8_share Q 49 [vR 45, vI v1] [] g := by
  refine wp_iconst dX8_share_49 kc_1 ?_
  refine wp_goto (tgt := 54) dX8_share_50 rfl ?_
  exact wp_iret dX8_share_54 rfl hq
theorem b_X8_share_53 {d : Nat} {Q : Option pV → pG → Prop} {g : pG} {v1 : Int} (hq : Q (some (vI 0)) g) : EV d mX8_share Q 53 [vR 45, vI v1] [] g := by
  refine wp_iconst dX8_share_53 kc_0 ?_
  exact wp_iret dX8_share_54 rfl hq
theorem b_X8_press_0 {d : Nat} {Q : Option pV → pG → Prop} {g : pG} {v1 : Int} {R : Int → pG → Prop} (hc : CT d mX8_in [vL v1, vL 0, vL 1] (cset g 45 (fup (g 45) 8 0)) (qI R)) (k : ∀ (x : Int) (gg : pG), R x gg → EV d mX8_press Q 12 [vR 45, vI v1, vX 2] [vI x] gg) : EV d mX8_press Q 0 [vR 45, vI v1, vX 2] [] g := by
  refine wp_aload_n dX8_press_0 rfl rfl ?_
  refine wp_iconst dX8_press_1 kc_0 ?_
  refine wp_putI dX8_press_2 fl_8_105 L_45 rfl rfl ?_
  refine wp_iload_n dX8_press_5 rfl ?_
  refine wp_i2l dX8_press_6 ?_
  refine wp_lconst (x := 0) dX8_press_7 rfl ?_
  refine wp_lconst (x := 1) dX8_press_8 rfl ?_
  exact wp_callsI (As := [vL v1, vL 0, vL 1]) dX8_press_9 ml_8_111 (Or.inl rfl) rfl (Nat.le_of_ble_eq_true rfl) rfl (Nat.le_refl _) (Nat.le_refl _) hc k
theorem b_X8_press_12 {d : Nat} {Q : Option pV → pG → Prop} {g : pG} {v1 vs0 : Int} (k1 : (vs0 ≠ 0) → EV d mX8_press Q 22 [vR 45, vI v1, vX 2] [] g) (k2 : ¬ (vs0 ≠ 0) → EV d mX8_press Q 15 [vR 45, vI v1, vX 2] [] g) : EV d mX8_press Q 12 [vR 45, vI v1, vX 2] [vI vs0] g := by
  exact wp_if_ne (tgt := 22) dX8_press_12 rfl k1 k2
theorem b_X8_press_15 {d : Nat} {Q : Option pV → pG → Prop} {g : pG} {v1 : Int} {R : Int → pG → Prop} (hc : CT d mX8_refuse [vR 45, vI (-2)] g (qI R)) (k : ∀ (x : Int) (gg : pG), R x gg → EV d mX8_press Q 21 [vR 45, vI v1, vX 2] [vI x] gg) : EV d mX8_press Q 15 [vR 45, vI v1, vX 2] [] g := by
  refine wp_aload_n dX8_press_15 rfl rfl ?_
  refine wp_bipush dX8_press_16 kb_m2 kc_m2 ?_
  exact wp_callvI (As := [vI (-2)]) dX8_press_18 ml_8_164 (by decide) rfl L_45 (by decide) rfl (Nat.le_of_ble_eq_true rfl) rfl (Nat.le_refl _) (Nat.le_refl _) hc k
theorem b_X8_press_21 {d : Nat} {Q : Option pV → pG → Prop} {g : pG} {v1 vs0 : Int} (hq : Q (some (vI vs0)) g) : EV d mX8_press Q 21 [vR 45, vI v1, vX 2] [vI vs0] g := by
  exact wp_iret dX8_press_21 rfl hq
theorem b_X8_press_22 {d : Nat} {Q : Option pV → pG → Prop} {g : pG} {v1 : Int} {R : Int → pG → Prop} (hc : CT d mX8_pressBits [vR 45] g (qI R)) (k : ∀ (x : Int) (gg : pG), R x gg → EV d mX8_press Q 26 [vR 45, vI v1, vX 2] [vI x] gg) : EV d mX8_press Q 22 [vR 45, vI v1, vX 2] [] g := by
  refine wp_aload_n dX8_press_22 rfl rfl ?_
  exact wp_callvI (As := []) dX8_press_23 ml_8_285 (by decide) rfl L_45 (by decide) rfl (Nat.le_of_ble_eq_true rfl) rfl (Nat.le_refl _) (Nat.le_refl _) hc k
theorem b_X8_press_26 {d : Nat} {Q : Option pV → pG → Prop} {g : pG} {v1 vs0 : Int} (k1 : (v1 = 0) → EV d mX8_press Q 35 [vR 45, vI v1, vI vs0] [] g) (k2 : ¬ (v1 = 0) → EV d mX8_press Q 31 [vR 45, vI v1, vI vs0] [] g) : EV d mX8_press Q 26 [vR 45, vI v1, vX 2] [vI vs0] g := by
  refine wp_istore_n dX8_press_26 (Nat.le_of_ble_eq_true rfl) (pp (c := 1) rfl rfl) ?_
  refine wp_iload_n dX8_press_27 rfl ?_
  exact wp_if_eq (tgt := 35) dX8_press_28 rfl k1 k2
theorem b_X8_press_31 {d : Nat} {Q : Option pV → pG → Prop} {g : pG} {v1 v2 : Int} (k1 : (0 ≤ v2) → EV d mX8_press Q 39 [vR 45, vI v1, vI v2] [] g) (k2 : ¬ (0 ≤ v2) → EV d mX8_press Q 35 [vR 45, vI v1, vI v2] [] g) : EV d mX8_press Q 31 [vR 45, vI v1, vI v2] [] g := by
  refine wp_iload_n dX8_press_31 rfl ?_
  exact wp_if_ge (tgt := 39) dX8_press_32 rfl k1 k2
theorem b_X8_press_35 {d : Nat} {Q : Option pV → pG → Prop} {g : pG} {v1 v2 : Int} (hq : Q (some (vI v2)) g) : EV d mX8_press Q 35 [vR 45, vI v1, vI v2] [] g := by
  refine wp_iload_n dX8_press_35 rfl ?_
  refine wp_goto (tgt := 43) dX8_press_36 rfl ?_
  exact wp_iret dX8_press_43 rfl hq
theorem b_X8_press_39 {d : Nat} {Q : Option pV → pG → Prop} {g : pG} {v1 v2 : Int} {R : Int → pG → Prop} (hc : CT d mX8_onesOf [vI v2] g (qI R)) (k : ∀ (x : Int) (gg : pG), R x gg → EV d mX8_press Q 43 [vR 45, vI v1, vI v2] [vI x] gg) : EV d mX8_press Q 39 [vR 45, vI v1, vI v2] [] g := by
  refine wp_iload_n dX8_press_39 rfl ?_
  exact wp_callsI (As := [vI v2]) dX8_press_40 ml_8_282 (Or.inl rfl) rfl (Nat.le_of_ble_eq_true rfl) rfl (Nat.le_refl _) (Nat.le_refl _) hc k
theorem b_X8_press_43 {d : Nat} {Q : Option pV → pG → Prop} {g : pG} {v1 v2 vs0 : Int} (hq : Q (some (vI vs0)) g) : EV d mX8_press Q 43 [vR 45, vI v1, vI v2] [vI vs0] g := by
  exact wp_iret dX8_press_43 rfl hq
theorem b_X8_pressBits_0 {d : Nat} {Q : Option pV → pG → Prop} {g : pG} (k : EV d mX8_pressBits Q 5 [vR 45, vI (-9), vI 0, vX 2] [] g) : EV d mX8_pressBits Q 0 [vR 45, vX 2, vX 2, vX 2] [] g := by
  refine wp_bipush dX8_pressBits_0 kb_m9 kc_m9 ?_
  refine wp_istore_n dX8_pressBits_2 (Nat.le_of_ble_eq_true rfl) (pp (c := 0) rfl rfl) ?_
  refine wp_iconst dX8_pressBits_3 kc_0 ?_
  refine wp_istore_n dX8_pressBits_4 (Nat.le_of_ble_eq_true rfl) (pp (c := 1) rfl rfl) ?_
  exact k
theorem b_X8_pressBits_5 {d : Nat} {Q : Option pV → pG → Prop} {g : pG} {v1 v2 : Int} {u3 : pV} (k1 : (zshl 1 ((g 45) 4) ≤ v2) → EV d mX8_pressBits Q 103 [vR 45, vI v1, vI v2, u3] [] g) (k2 : ¬ (zshl 1 ((g 45) 4) ≤ v2) → EV d mX8_pressBits Q 15 [vR 45, vI v1, vI v2, u3] [] g) : EV d mX8_pressBits Q 5 [vR 45, vI v1, vI v2, u3] [] g := by
  refine wp_iload_n dX8_pressBits_5 rfl ?_
  refine wp_iconst dX8_pressBits_6 kc_1 ?_
  refine wp_aload_n dX8_pressBits_7 rfl rfl ?_
  refine wp_get (v := vI ((g 45) 4)) dX8_pressBits_8 fl_8_19 L_45 rfl ?_
  refine wp_ishl dX8_pressBits_11 ?_
  exact wp_icmp_ge (tgt := 103) dX8_pressBits_12 rfl k1 k2
theorem b_X8_pressBits_15 {d : Nat} {Q : Option pV → pG → Prop} {g : pG} {v1 v2 : Int} {u3 : pV} (k1 : (v1 < 0) → EV d mX8_pressBits Q 30 [vR 45, vI v1, vI v2, u3] [] g) (k2 : ¬ (v1 < 0) → EV d mX8_pressBits Q 19 [vR 45, vI v1, vI v2, u3] [] g) : EV d mX8_pressBits Q 15 [vR 45, vI v1, vI v2, u3] [] g := by
  refine wp_iload_n dX8_pressBits_15 rfl ?_
  exact wp_if_lt (tgt := 30) dX8_pressBits_16 rfl k1 k2
theorem b_X8_pressBits_19 {d : Nat} {Q : Option pV → pG → Prop} {g : pG} {v1 v2 : Int} {u3 : pV} {R : Int → pG → Prop} (hc : CT d mX8_onesOf [vI v2] g (qI R)) (k : ∀ (x : Int) (gg : pG), R x gg → EV d mX8_pressBits Q 23 [vR 45, vI v1, vI v2, u3] [vI x] gg) : EV d mX8_pressBits Q 19 [vR 45, vI v1, vI v2, u3] [] g := by
  refine wp_iload_n dX8_pressBits_19 rfl ?_
  exact wp_callsI (As := [vI v2]) dX8_pressBits_20 ml_8_282 (Or.inl rfl) rfl (Nat.le_of_ble_eq_true rfl) rfl (Nat.le_refl _) (Nat.le_refl _) hc k
theorem b_X8_pressBits_23 {d : Nat} {Q : Option pV → pG → Prop} {g : pG} {v1 v2 vs0 : Int} {u3 : pV} {R : Int → pG → Prop} (hc : CT d mX8_onesOf [vI v1] g (qI R)) (k : ∀ (x : Int) (gg : pG), R x gg → EV d mX8_pressBits Q 27 [vR 45, vI v1, vI v2, u3] [vI x, vI vs0] gg) : EV d mX8_pressBits Q 23 [vR 45, vI v1, vI v2, u3] [vI vs0] g := by
  refine wp_iload_n dX8_pressBits_23 rfl ?_
  exact wp_callsI (As := [vI v1]) dX8_pressBits_24 ml_8_282 (Or.inl rfl) rfl (Nat.le_of_ble_eq_true rfl) rfl (Nat.le_refl _) (Nat.le_refl _) hc k
theorem b_X8_pressBits_27 {d : Nat} {Q : Option pV → pG → Prop} {g : pG} {v1 v2 vs0 vs1 : Int} {u3 : pV} (k1 : (vs1 ≤ vs0) → EV d mX8_pressBits Q 97 [vR 45, vI v1, vI v2, u3] [] g) (k2 : ¬ (vs1 ≤ vs0) → EV d mX8_pressBits Q 30 [vR 45, vI v1, vI v2, u3] [] g) : EV d mX8_pressBits Q 27 [vR 45, vI v1, vI v2, u3] [vI vs1, vI vs0] g := by
  exact wp_icmp_ge (tgt := 97) dX8_pressBits_27 rfl k1 k2
theorem b_X8_pressBits_30 {d : Nat} {Q : Option pV → pG → Prop} {g : pG} {v1 v2 : Int} {u3 : pV} {R : pG → Prop} (hc : CT d mX8_think [vR 45] g (qV R)) (k : ∀ gg : pG, R gg → EV d mX8_pressBits Q 34 [vR 45, vI v1, vI v2, u3] [] gg) : EV d mX8_pressBits Q 30 [vR 45, vI v1, vI v2, u3] [] g := by
  refine wp_aload_n dX8_pressBits_30 rfl rfl ?_
  exact wp_callvV (As := []) dX8_pressBits_31 ml_8_158 (by decide) rfl L_45 (by decide) rfl (Nat.le_of_ble_eq_true rfl) rfl (Nat.le_refl _) (Nat.le_refl _) hc k
theorem b_X8_pressBits_34 {d : Nat} {Q : Option pV → pG → Prop} {g : pG} {v1 v2 : Int} {u3 : pV} (k : EV d mX8_pressBits Q 36 [vR 45, vI v1, vI v2, vI 0] [] g) : EV d mX8_pressBits Q 34 [vR 45, vI v1, vI v2, u3] [] g := by
  refine wp_iconst dX8_pressBits_34 kc_0 ?_
  refine wp_istore_n dX8_pressBits_35 (Nat.le_of_ble_eq_true rfl) (pp (c := 2) rfl rfl) ?_
  exact k
theorem b_X8_pressBits_36 {d : Nat} {Q : Option pV → pG → Prop} {g : pG} {v1 v2 v3 : Int} (k1 : ((g 45) 4 ≤ v3) → EV d mX8_pressBits Q 79 [vR 45, vI v1, vI v2, vI v3] [] g) (k2 : ¬ ((g 45) 4 ≤ v3) → EV d mX8_pressBits Q 44 [vR 45, vI v1, vI v2, vI v3] [] g) : EV d mX8_pressBits Q 36 [vR 45, vI v1, vI v2, vI v3] [] g := by
  refine wp_iload_n dX8_pressBits_36 rfl ?_
  refine wp_aload_n dX8_pressBits_37 rfl rfl ?_
  refine wp_get (v := vI ((g 45) 4)) dX8_pressBits_38 fl_8_19 L_45 rfl ?_
  exact wp_icmp_ge (tgt := 79) dX8_pressBits_41 rfl k1 k2
theorem b_X8_pressBits_44 {d : Nat} {Q : Option pV → pG → Prop} {g : pG} {v1 v2 v3 : Int} {R : Int → pG → Prop} (h1 : 0 ≤ v3) (h2 : v3 < 8) (hc : CT d mX8_hasBit [vI v2, vI v3] g (qI R)) (k : ∀ (x : Int) (gg : pG), R x gg → EV d mX8_pressBits Q 60 [vR 45, vI v1, vI v2, vI v3] [vI x, vI ((g 51) v3.toNat), vI v3, vR 51] gg) : EV d mX8_pressBits Q 44 [vR 45, vI v1, vI v2, vI v3] [] g := by
  refine wp_aload_n dX8_pressBits_44 rfl rfl ?_
  refine wp_get (v := vR 51) dX8_pressBits_45 fl_8_35 L_45 rfl ?_
  refine wp_iload_n dX8_pressBits_48 rfl ?_
  refine wp_aload_n dX8_pressBits_49 rfl rfl ?_
  refine wp_get (v := vR 51) dX8_pressBits_50 fl_8_35 L_45 rfl ?_
  refine wp_iload_n dX8_pressBits_53 rfl ?_
  refine wp_iaload dX8_pressBits_54 h1 L_51 h2 ?_
  refine wp_iload_n dX8_pressBits_55 rfl ?_
  refine wp_iload_n dX8_pressBits_56 rfl ?_
  exact wp_callsI (As := [vI v2, vI v3]) dX8_pressBits_57 ml_8_150 (Or.inl rfl) rfl (Nat.le_of_ble_eq_true rfl) rfl (Nat.le_refl _) (Nat.le_refl _) hc k
theorem b_X8_pressBits_60 {d : Nat} {Q : Option pV → pG → Prop} {g : pG} {v1 v2 v3 vs1 vs2 vs3 : Int} (k1 : (vs3 = 0) → EV d mX8_pressBits Q 67 [vR 45, vI v1, vI v2, vI v3] [vI vs2, vI vs1, vR 51] g) (k2 : ¬ (vs3 = 0) → EV d mX8_pressBits Q 63 [vR 45, vI v1, vI v2, vI v3] [vI vs2, vI vs1, vR 51] g) : EV d mX8_pressBits Q 60 [vR 45, vI v1, vI v2, vI v3] [vI vs3, vI vs2, vI vs1, vR 51] g := by
  exact wp_if_eq (tgt := 67) dX8_pressBits_60 rfl k1 k2
theorem b_X8_pressBits_63 {d : Nat} {Q : Option pV → pG → Prop} {g : pG} {v1 v2 v3 vs1 vs2 : Int} {R : Int → pG → Prop} (hc : CT d mX8_held [vI (w32 (vs2 + 1))] g (qI R)) (k : ∀ (x : Int) (gg : pG), R x gg → EV d mX8_pressBits Q 72 [vR 45, vI v1, vI v2, vI v3] [vI x, vI vs1, vR 51] gg) : EV d mX8_pressBits Q 63 [vR 45, vI v1, vI v2, vI v3] [vI vs2, vI vs1, vR 51] g := by
  refine wp_iconst dX8_pressBits_63 kc_1 ?_
  refine wp_goto (tgt := 68) dX8_pressBits_64 rfl ?_
  refine wp_iadd dX8_pressBits_68 ?_
  exact wp_callsI (As := [vI (w32 (vs2 + 1))]) dX8_pressBits_69 ml_8_129 (Or.inl rfl) rfl (Nat.le_of_ble_eq_true rfl) rfl (Nat.le_refl _) (Nat.le_refl _) hc k
theorem b_X8_pressBits_67 {d : Nat} {Q : Option pV → pG → Prop} {g : pG} {v1 v2 v3 vs1 vs2 : Int} {R : Int → pG → Prop} (hc : CT d mX8_held [vI (w32 (vs2 + 0))] g (qI R)) (k : ∀ (x : Int) (gg : pG), R x gg → EV d mX8_pressBits Q 72 [vR 45, vI v1, vI v2, vI v3] [vI x, vI vs1, vR 51] gg) : EV d mX8_pressBits Q 67 [vR 45, vI v1, vI v2, vI v3] [vI vs2, vI vs1, vR 51] g := by
  refine wp_iconst dX8_pressBits_67 kc_0 ?_
  refine wp_iadd dX8_pressBits_68 ?_
  exact wp_callsI (As := [vI (w32 (vs2 + 0))]) dX8_pressBits_69 ml_8_129 (Or.inl rfl) rfl (Nat.le_of_ble_eq_true rfl) rfl (Nat.le_refl _) (Nat.le_refl _) hc k
theorem b_X8_pressBits_72 {d : Nat} {Q : Option pV → pG → Prop} {g : pG} {v1 v2 v3 vs1 vs2 : Int} (h1 : 0 ≤ vs1) (h2 : vs1 < 8) (k : EV d mX8_pressBits Q 36 [vR 45, vI v1, vI v2, vI (w32 (v3 + 1))] [] (cset g 51 (fup (g 51) vs1.toNat vs2))) : EV d mX8_pressBits Q 72 [vR 45, vI v1, vI v2, vI v3] [vI vs2, vI vs1, vR 51] g := by
  refine wp_iastore dX8_pressBits_72 h1 L_51 h2 ?_
  refine wp_iinc dX8_pressBits_73 rfl (Nat.le_of_ble_eq_true rfl) (pp (c := 2) rfl rfl) ?_
  refine wp_goto (tgt := 36) dX8_pressBits_76 rfl ?_
  exact k
theorem b_X8_pressBits_79 {d : Nat} {Q : Option pV → pG → Prop} {g : pG} {v1 v2 v3 : Int} {R : pG → Prop} (hc : CT d mX8_passAll [vR 45, vI 0] g (qV R)) (k : ∀ gg : pG, R gg → EV d mX8_pressBits Q 84 [vR 45, vI v1, vI v2, vI v3] [] gg) : EV d mX8_pressBits Q 79 [vR 45, vI v1, vI v2, vI v3] [] g := by
  refine wp_aload_n dX8_pressBits_79 rfl rfl ?_
  refine wp_iconst dX8_pressBits_80 kc_0 ?_
  exact wp_callvV (As := [vI 0]) dX8_pressBits_81 ml_8_161 (by decide) rfl L_45 (by decide) rfl (Nat.le_of_ble_eq_true rfl) rfl (Nat.le_refl _) (Nat.le_refl _) hc k
theorem b_X8_pressBits_84 {d : Nat} {Q : Option pV → pG → Prop} {g : pG} {v1 v2 v3 : Int} {R : Int → pG → Prop} (hc : CT d mX8_isFor [vR 45] g (qI R)) (k : ∀ (x : Int) (gg : pG), R x gg → EV d mX8_pressBits Q 88 [vR 45, vI v1, vI v2, vI v3] [vI x] gg) : EV d mX8_pressBits Q 84 [vR 45, vI v1, vI v2, vI v3] [] g := by
  refine wp_aload_n dX8_pressBits_84 rfl rfl ?_
  exact wp_callvI (As := []) dX8_pressBits_85 ml_8_252 (by decide) rfl L_45 (by decide) rfl (Nat.le_of_ble_eq_true rfl) rfl (Nat.le_refl _) (Nat.le_refl _) hc k
theorem b_X8_pressBits_88 {d : Nat} {Q : Option pV → pG → Prop} {g : pG} {v1 v2 v3 vs0 : Int} (k1 : (vs0 = 0) → EV d mX8_pressBits Q 95 [vR 45, vI v1, vI v2, vI v3] [] g) (k2 : ¬ (vs0 = 0) → EV d mX8_pressBits Q 91 [vR 45, vI v1, vI v2, vI v3] [] g) : EV d mX8_pressBits Q 88 [vR 45, vI v1, vI v2, vI v3] [vI vs0] g := by
  exact wp_if_eq (tgt := 95) dX8_pressBits_88 rfl k1 k2
theorem b_X8_pressBits_91 {d : Nat} {Q : Option pV → pG → Prop} {g : pG} {v1 v2 v3 : Int} (k : EV d mX8_pressBits Q 5 [vR 45, vI v2, vI (w32 (v2 + 1)), vI v3] [] g) : EV d mX8_pressBits Q 91 [vR 45, vI v1, vI v2, vI v3] [] g := by
  refine wp_iload_n dX8_pressBits_91 rfl ?_
  refine wp_goto (tgt := 96) dX8_pressBits_92 rfl ?_
  refine wp_istore_n dX8_pressBits_96 (Nat.le_of_ble_eq_true rfl) (pp (c := 0) rfl rfl) ?_
  refine wp_iinc dX8_pressBits_97 rfl (Nat.le_of_ble_eq_true rfl) (pp (c := 1) rfl rfl) ?_
  refine wp_goto (tgt := 5) dX8_pressBits_100 rfl ?_
  exact k
theorem b_X8_pressBits_95 {d : Nat} {Q : Option pV → pG → Prop} {g : pG} {v1 v2 v3 : Int} (k : EV d mX8_pressBits Q 5 [vR 45, vI v1, vI (w32 (v2 + 1)), vI v3] [] g) : EV d mX8_pressBits Q 95 [vR 45, vI v1, vI v2, vI v3] [] g := by
  refine wp_iload_n dX8_pressBits_95 rfl ?_
  refine wp_istore_n dX8_pressBits_96 (Nat.le_of_ble_eq_true rfl) (pp (c := 0) rfl rfl) ?_
  refine wp_iinc dX8_pressBits_97 rfl (Nat.le_of_ble_eq_true rfl) (pp (c := 1) rfl rfl) ?_
  refine wp_goto (tgt := 5) dX8_pressBits_100 rfl ?_
  exact k
theorem b_X8_pressBits_97 {d : Nat} {Q : Option pV → pG → Prop} {g : pG} {v1 v2 : Int} {u3 : pV} (k : EV d mX8_pressBits Q 5 [vR 45, vI v1, vI (w32 (v2 + 1)), u3] [] g) : EV d mX8_pressBits Q 97 [vR 45, vI v1, vI v2, u3] [] g := by
  refine wp_iinc dX8_pressBits_97 rfl (Nat.le_of_ble_eq_true rfl) (pp (c := 1) rfl rfl) ?_
  refine wp_goto (tgt := 5) dX8_pressBits_100 rfl ?_
  exact k
theorem b_X8_pressBits_103 {d : Nat} {Q : Option pV → pG → Prop} {g : pG} {v1 v2 : Int} {u3 : pV} (hq : Q (some (vI v1)) g) : EV d mX8_pressBits Q 103 [vR 45, vI v1, vI v2, u3] [] g := by
  refine wp_iload_n dX8_pressBits_103 rfl ?_
  exact wp_iret dX8_pressBits_104 rfl hq
theorem b_X8_onesOf_0 {d : Nat} {Q : Option pV → pG → Prop} {g : pG} {v0 : Int} (k : EV d mX8_onesOf Q 4 [vI v0, vI 0, vI v0] [] g) : EV d mX8_onesOf Q 0 [vI v0, vX 2, vX 2] [] g := by
  refine wp_iconst dX8_onesOf_0 kc_0 ?_
  refine wp_istore_n dX8_onesOf_1 (Nat.le_of_ble_eq_true rfl) (pp (c := 0) rfl rfl) ?_
  refine wp_iload_n dX8_onesOf_2 rfl ?_
  refine wp_istore_n dX8_onesOf_3 (Nat.le_of_ble_eq_true rfl) (pp (c := 1) rfl rfl) ?_
  exact k
theorem b_X8_onesOf_4 {d : Nat} {Q : Option pV → pG → Prop} {g : pG} {v0 v1 v2 : Int} (k1 : (v2 = 0) → EV d mX8_onesOf Q 20 [vI v0, vI v1, vI v2] [] g) (k2 : ¬ (v2 = 0) → EV d mX8_onesOf Q 8 [vI v0, vI v1, vI v2] [] g) : EV d mX8_onesOf Q 4 [vI v0, vI v1, vI v2] [] g := by
  refine wp_iload_n dX8_onesOf_4 rfl ?_
  exact wp_if_eq (tgt := 20) dX8_onesOf_5 rfl k1 k2
theorem b_X8_onesOf_8 {d : Nat} {Q : Option pV → pG → Prop} {g : pG} {v0 v1 v2 : Int} (k : EV d mX8_onesOf Q 4 [vI v0, vI (w32 (v1 + 1)), vI (zand v2 (w32 (v2 - 1)))] [] g) : EV d mX8_onesOf Q 8 [vI v0, vI v1, vI v2] [] g := by
  refine wp_iinc dX8_onesOf_8 rfl (Nat.le_of_ble_eq_true rfl) (pp (c := 0) rfl rfl) ?_
  refine wp_iload_n dX8_onesOf_11 rfl ?_
  refine wp_iload_n dX8_onesOf_12 rfl ?_
  refine wp_iconst dX8_onesOf_13 kc_1 ?_
  refine wp_isub dX8_onesOf_14 ?_
  refine wp_iand dX8_onesOf_15 ?_
  refine wp_istore_n dX8_onesOf_16 (Nat.le_of_ble_eq_true rfl) (pp (c := 1) rfl rfl) ?_
  refine wp_goto (tgt := 4) dX8_onesOf_17 rfl ?_
  exact k
theorem b_X8_onesOf_20 {d : Nat} {Q : Option pV → pG → Prop} {g : pG} {v0 v1 v2 : Int} (hq : Q (some (vI v1)) g) : EV d mX8_onesOf Q 20 [vI v0, vI v1, vI v2] [] g := by
  refine wp_iload_n dX8_onesOf_20 rfl ?_
  exact wp_iret dX8_onesOf_21 rfl hq
theorem b_X8_hasBit_0 {d : Nat} {Q : Option pV → pG → Prop} {g : pG} {v0 v1 : Int} (k1 : (zand (zshr v0 v1) 1 ≠ 1) → EV d mX8_hasBit Q 13 [vI v0, vI v1] [] g) (k2 : ¬ (zand (zshr v0 v1) 1 ≠ 1) → EV d mX8_hasBit Q 9 [vI v0, vI v1] [] g) : EV d mX8_hasBit Q 0 [vI v0, vI v1] [] g := by
  refine wp_iload_n dX8_hasBit_0 rfl ?_
  refine wp_iload_n dX8_hasBit_1 rfl ?_
  refine wp_ishr dX8_hasBit_2 ?_
  refine wp_iconst dX8_hasBit_3 kc_1 ?_
  refine wp_iand dX8_hasBit_4 ?_
  refine wp_iconst dX8_hasBit_5 kc_1 ?_
  exact wp_icmp_ne (tgt := 13) dX8_hasBit_6 rfl k1 k2
theorem b_X8_hasBit_9 {d : Nat} {Q : Option pV → pG → Prop} {g : pG} {v0 v1 : Int} (hq : Q (some (vI 1)) g) : EV d mX8_hasBit Q 9 [vI v0, vI v1] [] g := by
  refine wp_iconst dX8_hasBit_9 kc_1 ?_
  refine wp_goto (tgt := 14) dX8_hasBit_10 rfl ?_
  exact wp_zret dX8_hasBit_14 rfl (Or.inr rfl) hq
theorem b_X8_hasBit_13 {d : Nat} {Q : Option pV → pG → Prop} {g : pG} {v0 v1 : Int} (hq : Q (some (vI 0)) g) : EV d mX8_hasBit Q 13 [vI v0, vI v1] [] g := by
  refine wp_iconst dX8_hasBit_13 kc_0 ?_
  exact wp_zret dX8_hasBit_14 rfl (Or.inl rfl) hq
theorem b_X8_passAll_0 {d : Nat} {Q : Option pV → pG → Prop} {g : pG} {v1 : Int} (k : EV d mX8_passAll Q 2 [vR 45, vI v1, vI 0] [] g) : EV d mX8_passAll Q 0 [vR 45, vI v1, vX 2] [] g := by
  refine wp_iconst dX8_passAll_0 kc_0 ?_
  refine wp_istore_n dX8_passAll_1 (Nat.le_of_ble_eq_true rfl) (pp (c := 1) rfl rfl) ?_
  exact k
theorem b_X8_passAll_2 {d : Nat} {Q : Option pV → pG → Prop} {g : pG} {v1 v2 : Int} (k1 : ((g 45) 0 ≤ v2) → EV d mX8_passAll Q 29 [vR 45, vI v1, vI v2] [] g) (k2 : ¬ ((g 45) 0 ≤ v2) → EV d mX8_passAll Q 10 [vR 45, vI v1, vI v2] [] g) : EV d mX8_passAll Q 2 [vR 45, vI v1, vI v2] [] g := by
  refine wp_iload_n dX8_passAll_2 rfl ?_
  refine wp_aload_n dX8_passAll_3 rfl rfl ?_
  refine wp_get (v := vI ((g 45) 0)) dX8_passAll_4 fl_8_108 L_45 rfl ?_
  exact wp_icmp_ge (tgt := 29) dX8_passAll_7 rfl k1 k2
theorem b_X8_passAll_10 {d : Nat} {Q : Option pV → pG → Prop} {g : pG} {v1 v2 : Int} {R : Int → pG → Prop} (hc : CT d mX8_hasBit [vI v1, vI v2] g (qI R)) (k : ∀ (x : Int) (gg : pG), R x gg → EV d mX8_passAll Q 15 [vR 45, vI v1, vI v2] [vI x] gg) : EV d mX8_passAll Q 10 [vR 45, vI v1, vI v2] [] g := by
  refine wp_iload_n dX8_passAll_10 rfl ?_
  refine wp_iload_n dX8_passAll_11 rfl ?_
  exact wp_callsI (As := [vI v1, vI v2]) dX8_passAll_12 ml_8_150 (Or.inl rfl) rfl (Nat.le_of_ble_eq_true rfl) rfl (Nat.le_refl _) (Nat.le_refl _) hc k
theorem b_X8_passAll_15 {d : Nat} {Q : Option pV → pG → Prop} {g : pG} {v1 v2 vs0 : Int} (k1 : (vs0 ≠ 0) → EV d mX8_passAll Q 23 [vR 45, vI v1, vI v2] [] g) (k2 : ¬ (vs0 ≠ 0) → EV d mX8_passAll Q 18 [vR 45, vI v1, vI v2] [] g) : EV d mX8_passAll Q 15 [vR 45, vI v1, vI v2] [vI vs0] g := by
  exact wp_if_ne (tgt := 23) dX8_passAll_15 rfl k1 k2
theorem b_X8_passAll_18 {d : Nat} {Q : Option pV → pG → Prop} {g : pG} {v1 v2 : Int} {R : pG → Prop} (hc : CT d mX8_pass [vR 45, vI v2] g (qV R)) (k : ∀ gg : pG, R gg → EV d mX8_passAll Q 23 [vR 45, vI v1, vI v2] [] gg) : EV d mX8_passAll Q 18 [vR 45, vI v1, vI v2] [] g := by
  refine wp_aload_n dX8_passAll_18 rfl rfl ?_
  refine wp_iload_n dX8_passAll_19 rfl ?_
  exact wp_callvV (As := [vI v2]) dX8_passAll_20 ml_8_154 (by decide) rfl L_45 (by decide) rfl (Nat.le_of_ble_eq_true rfl) rfl (Nat.le_refl _) (Nat.le_refl _) hc k
theorem b_X8_passAll_23 {d : Nat} {Q : Option pV → pG → Prop} {g : pG} {v1 v2 : Int} (k : EV d mX8_passAll Q 2 [vR 45, vI v1, vI (w32 (v2 + 1))] [] g) : EV d mX8_passAll Q 23 [vR 45, vI v1, vI v2] [] g := by
  refine wp_iinc dX8_passAll_23 rfl (Nat.le_of_ble_eq_true rfl) (pp (c := 1) rfl rfl) ?_
  refine wp_goto (tgt := 2) dX8_passAll_26 rfl ?_
  exact k
theorem b_X8_passAll_29 {d : Nat} {Q : Option pV → pG → Prop} {g : pG} {v1 v2 : Int} (hq : Q none g) : EV d mX8_passAll Q 29 [vR 45, vI v1, vI v2] [] g := by
  exact wp_vret dX8_passAll_29 rfl hq
theorem b_X8_turnsBy_0 {d : Nat} {Q : Option pV → pG → Prop} {g : pG} {v1 v2 : Int} {R : Int → pG → Prop} (hc : CT d mX8_wrongNumber [vI v1, vI 0, vI 2] (cset g 45 (fup (g 45) 8 0)) (qI R)) (k : ∀ (x : Int) (gg : pG), R x gg → EV d mX8_turnsBy Q 11 [vR 45, vI v1, vI v2, vX 2, vX 2, vX 2, vX 2] [vI x] gg) : EV d mX8_turnsBy Q 0 [vR 45, vI v1, vI v2, vX 2, vX 2, vX 2, vX 2] [] g := by
  refine wp_aload_n dX8_turnsBy_0 rfl rfl ?_
  refine wp_iconst dX8_turnsBy_1 kc_0 ?_
  refine wp_putI dX8_turnsBy_2 fl_8_105 L_45 rfl rfl ?_
  refine wp_iload_n dX8_turnsBy_5 rfl ?_
  refine wp_iconst dX8_turnsBy_6 kc_0 ?_
  refine wp_iconst dX8_turnsBy_7 kc_2 ?_
  exact wp_callsI (As := [vI v1, vI 0, vI 2]) dX8_turnsBy_8 ml_8_235 (Or.inl rfl) rfl (Nat.le_of_ble_eq_true rfl) rfl (Nat.le_refl _) (Nat.le_refl _) hc k
theorem b_X8_turnsBy_11 {d : Nat} {Q : Option pV → pG → Prop} {g : pG} {v1 v2 vs0 : Int} {R : Int → pG → Prop} (hc : CT d mX8_wrongBit [vI vs0, vI v2, vI 1] g (qI R)) (k : ∀ (x : Int) (gg : pG), R x gg → EV d mX8_turnsBy Q 16 [vR 45, vI v1, vI v2, vX 2, vX 2, vX 2, vX 2] [vI x] gg) : EV d mX8_turnsBy Q 11 [vR 45, vI v1, vI v2, vX 2, vX 2, vX 2, vX 2] [vI vs0] g := by
  refine wp_iload_n dX8_turnsBy_11 rfl ?_
  refine wp_iconst dX8_turnsBy_12 kc_1 ?_
  exact wp_callsI (As := [vI vs0, vI v2, vI 1]) dX8_turnsBy_13 ml_8_279 (Or.inl rfl) rfl (Nat.le_of_ble_eq_true rfl) rfl (Nat.le_refl _) (Nat.le_refl _) hc k
theorem b_X8_turnsBy_16 {d : Nat} {Q : Option pV → pG → Prop} {g : pG} {v1 v2 vs0 : Int} (k1 : (0 ≤ vs0) → EV d mX8_turnsBy Q 30 [vR 45, vI v1, vI v2, vI vs0, vX 2, vX 2, vX 2] [] g) (k2 : ¬ (0 ≤ vs0) → EV d mX8_turnsBy Q 21 [vR 45, vI v1, vI v2, vI vs0, vX 2, vX 2, vX 2] [] g) : EV d mX8_turnsBy Q 16 [vR 45, vI v1, vI v2, vX 2, vX 2, vX 2, vX 2] [vI vs0] g := by
  refine wp_istore_n dX8_turnsBy_16 (Nat.le_of_ble_eq_true rfl) (pp (c := 2) rfl rfl) ?_
  refine wp_iload_n dX8_turnsBy_17 rfl ?_
  exact wp_if_ge (tgt := 30) dX8_turnsBy_18 rfl k1 k2
theorem b_X8_turnsBy_21 {d : Nat} {Q : Option pV → pG → Prop} {g : pG} {v1 v2 v3 : Int} {R : Int → pG → Prop} (hc : CT d mX8_refuse [vR 45, vI v3] g (qI R)) (k : ∀ (x : Int) (gg : pG), R x gg → EV d mX8_turnsBy Q 28 [vR 45, vI v1, vI v2, vI v3, vX 2, vX 2, vX 2] [vI x, vI 1000000000] gg) : EV d mX8_turnsBy Q 21 [vR 45, vI v1, vI v2, vI v3, vX 2, vX 2, vX 2] [] g := by
  refine wp_ldc dX8_turnsBy_21 kl_8_239 ?_
  refine wp_aload_n dX8_turnsBy_23 rfl rfl ?_
  refine wp_iload_n dX8_turnsBy_24 rfl ?_
  exact wp_callvI (As := [vI v3]) dX8_turnsBy_25 ml_8_164 (by decide) rfl L_45 (by decide) rfl (Nat.le_of_ble_eq_true rfl) rfl (Nat.le_refl _) (Nat.le_refl _) hc k
theorem b_X8_turnsBy_28 {d : Nat} {Q : Option pV → pG → Prop} {g : pG} {v1 v2 v3 vs0 vs1 : Int} (hq : Q (some (vI (w32 (vs0 - vs1)))) g) : EV d mX8_turnsBy Q 28 [vR 45, vI v1, vI v2, vI v3, vX 2, vX 2, vX 2] [vI vs1, vI vs0] g := by
  refine wp_isub dX8_turnsBy_28 ?_
  exact wp_iret dX8_turnsBy_29 rfl hq
theorem b_X8_turnsBy_30 {d : Nat} {Q : Option pV → pG → Prop} {g : pG} {v1 v2 v3 : Int} (k1 : (v1 ≠ 0) → EV d mX8_turnsBy Q 48 [vR 45, vI v1, vI v2, vI v3, vX 2, vX 2, vX 2] [] g) (k2 : ¬ (v1 ≠ 0) → EV d mX8_turnsBy Q 34 [vR 45, vI v1, vI v2, vI v3, vX 2, vX 2, vX 2] [] g) : EV d mX8_turnsBy Q 30 [vR 45, vI v1, vI v2, vI v3, vX 2, vX 2, vX 2] [] g := by
  refine wp_iload_n dX8_turnsBy_30 rfl ?_
  exact wp_if_ne (tgt := 48) dX8_turnsBy_31 rfl k1 k2
theorem b_X8_turnsBy_34 {d : Nat} {Q : Option pV → pG → Prop} {g : pG} {v1 v2 v3 : Int} (k1 : (v2 ≠ 0) → EV d mX8_turnsBy Q 45 [vR 45, vI v1, vI v2, vI v3, vX 2, vX 2, vX 2] [] g) (k2 : ¬ (v2 ≠ 0) → EV d mX8_turnsBy Q 38 [vR 45, vI v1, vI v2, vI v3, vX 2, vX 2, vX 2] [] g) : EV d mX8_turnsBy Q 34 [vR 45, vI v1, vI v2, vI v3, vX 2, vX 2, vX 2] [] g := by
  refine wp_iload_n dX8_turnsBy_34 rfl ?_
  exact wp_if_ne (tgt := 45) dX8_turnsBy_35 rfl k1 k2
theorem b_X8_turnsBy_38 {d : Nat} {Q : Option pV → pG → Prop} {g : pG} {v1 v2 v3 : Int} {R : Int → pG → Prop} (hc : CT d mX8_sumBehindAll [vR 45] g (qI R)) (k : ∀ (x : Int) (gg : pG), R x gg → EV d mX8_turnsBy Q 42 [vR 45, vI v1, vI v2, vI v3, vX 2, vX 2, vX 2] [vI x] gg) : EV d mX8_turnsBy Q 38 [vR 45, vI v1, vI v2, vI v3, vX 2, vX 2, vX 2] [] g := by
  refine wp_aload_n dX8_turnsBy_38 rfl rfl ?_
  exact wp_callvI (As := []) dX8_turnsBy_39 ml_8_297 (by decide) rfl L_45 (by decide) rfl (Nat.le_of_ble_eq_true rfl) rfl (Nat.le_refl _) (Nat.le_refl _) hc k
theorem b_X8_turnsBy_42 {d : Nat} {Q : Option pV → pG → Prop} {g : pG} {v1 v2 v3 vs0 : Int} (hq : Q (some (vI vs0)) g) : EV d mX8_turnsBy Q 42 [vR 45, vI v1, vI v2, vI v3, vX 2, vX 2, vX 2] [vI vs0] g := by
  refine wp_goto (tgt := 47) dX8_turnsBy_42 rfl ?_
  exact wp_iret dX8_turnsBy_47 rfl hq
theorem b_X8_turnsBy_45 {d : Nat} {Q : Option pV → pG → Prop} {g : pG} {v1 v2 v3 : Int} (hq : Q (some (vI (-9))) g) : EV d mX8_turnsBy Q 45 [vR 45, vI v1, vI v2, vI v3, vX 2, vX 2, vX 2] [] g := by
  refine wp_bipush dX8_turnsBy_45 kb_m9 kc_m9 ?_
  exact wp_iret dX8_turnsBy_47 rfl hq
theorem b_X8_turnsBy_48 {d : Nat} {Q : Option pV → pG → Prop} {g : pG} {v1 v2 v3 : Int} (k : EV d mX8_turnsBy Q 64 [vR 45, vI v1, vI v2, vI v3, vI (-9), vI (-999), vX 2] [] (cset g 67 (fup (g 67) 0 0))) : EV d mX8_turnsBy Q 48 [vR 45, vI v1, vI v2, vI v3, vX 2, vX 2, vX 2] [] g := by
  refine wp_bipush dX8_turnsBy_48 kb_m9 kc_m9 ?_
  refine wp_istore dX8_turnsBy_50 (Nat.le_of_ble_eq_true rfl) (pp (c := 3) rfl rfl) ?_
  refine wp_sipush dX8_turnsBy_52 ks_m999 kc_m999 ?_
  refine wp_istore dX8_turnsBy_55 (Nat.le_of_ble_eq_true rfl) (pp (c := 4) rfl rfl) ?_
  refine wp_aload_n dX8_turnsBy_57 rfl rfl ?_
  refine wp_get (v := vR 67) dX8_turnsBy_58 fl_8_84 L_45 rfl ?_
  refine wp_iconst dX8_turnsBy_61 kc_0 ?_
  refine wp_iconst dX8_turnsBy_62 kc_0 ?_
  refine wp_iastore dX8_turnsBy_63 (by decide) L_67 (by decide) ?_
  exact k
theorem b_X8_turnsBy_64 {d : Nat} {Q : Option pV → pG → Prop} {g : pG} {v1 v2 v3 v4 v5 : Int} {u6 : pV} (k1 : (w32 (2 * ((g 45) 4)) ≤ (g 67) 0) → EV d mX8_turnsBy Q 148 [vR 45, vI v1, vI v2, vI v3, vI v4, vI v5, u6] [] g) (k2 : ¬ (w32 (2 * ((g 45) 4)) ≤ (g 67) 0) → EV d mX8_turnsBy Q 79 [vR 45, vI v1, vI v2, vI v3, vI v4, vI v5, u6] [] g) : EV d mX8_turnsBy Q 64 [vR 45, vI v1, vI v2, vI v3, vI v4, vI v5, u6] [] g := by
  refine wp_aload_n dX8_turnsBy_64 rfl rfl ?_
  refine wp_get (v := vR 67) dX8_turnsBy_65 fl_8_84 L_45 rfl ?_
  refine wp_iconst dX8_turnsBy_68 kc_0 ?_
  refine wp_iaload dX8_turnsBy_69 (by decide) L_67 (by decide) ?_
  refine wp_iconst dX8_turnsBy_70 kc_2 ?_
  refine wp_aload_n dX8_turnsBy_71 rfl rfl ?_
  refine wp_get (v := vI ((g 45) 4)) dX8_turnsBy_72 fl_8_19 L_45 rfl ?_
  refine wp_imul dX8_turnsBy_75 ?_
  exact wp_icmp_ge (tgt := 148) dX8_turnsBy_76 rfl k1 k2
theorem b_X8_turnsBy_79 {d : Nat} {Q : Option pV → pG → Prop} {g : pG} {v1 v2 v3 v4 v5 : Int} {u6 : pV} (k1 : (v1 ≠ 1) → EV d mX8_turnsBy Q 91 [vR 45, vI v1, vI v2, vI v3, vI v4, vI v5, u6] [] g) (k2 : ¬ (v1 ≠ 1) → EV d mX8_turnsBy Q 84 [vR 45, vI v1, vI v2, vI v3, vI v4, vI v5, u6] [] g) : EV d mX8_turnsBy Q 79 [vR 45, vI v1, vI v2, vI v3, vI v4, vI v5, u6] [] g := by
  refine wp_iload_n dX8_turnsBy_79 rfl ?_
  refine wp_iconst dX8_turnsBy_80 kc_1 ?_
  exact wp_icmp_ne (tgt := 91) dX8_turnsBy_81 rfl k1 k2
theorem b_X8_turnsBy_84 {d : Nat} {Q : Option pV → pG → Prop} {g : pG} {v1 v2 v3 v4 v5 : Int} {u6 : pV} {R : Int → pG → Prop} (hc : CT d mX8_afterOne [vR 45] g (qI R)) (k : ∀ (x : Int) (gg : pG), R x gg → EV d mX8_turnsBy Q 88 [vR 45, vI v1, vI v2, vI v3, vI v4, vI v5, u6] [vI x] gg) : EV d mX8_turnsBy Q 84 [vR 45, vI v1, vI v2, vI v3, vI v4, vI v5, u6] [] g := by
  refine wp_aload_n dX8_turnsBy_84 rfl rfl ?_
  exact wp_callvI (As := []) dX8_turnsBy_85 ml_8_300 (by decide) rfl L_45 (by decide) rfl (Nat.le_of_ble_eq_true rfl) rfl (Nat.le_refl _) (Nat.le_refl _) hc k
theorem b_X8_turnsBy_88 {d : Nat} {Q : Option pV → pG → Prop} {g : pG} {v1 v2 v3 v4 v5 vs0 : Int} {u6 : pV} (k1 : (vs0 ≤ v5) → EV d mX8_turnsBy Q 115 [vR 45, vI v1, vI v2, vI v3, vI v4, vI v5, vI vs0] [] g) (k2 : ¬ (vs0 ≤ v5) → EV d mX8_turnsBy Q 104 [vR 45, vI v1, vI v2, vI v3, vI v4, vI v5, vI vs0] [] g) : EV d mX8_turnsBy Q 88 [vR 45, vI v1, vI v2, vI v3, vI v4, vI v5, u6] [vI vs0] g := by
  refine wp_goto (tgt := 95) dX8_turnsBy_88 rfl ?_
  refine wp_istore dX8_turnsBy_95 (Nat.le_of_ble_eq_true rfl) (pp (c := 5) rfl rfl) ?_
  refine wp_iload dX8_turnsBy_97 rfl ?_
  refine wp_iload dX8_turnsBy_99 rfl ?_
  exact wp_icmp_le (tgt := 115) dX8_turnsBy_101 rfl k1 k2
theorem b_X8_turnsBy_91 {d : Nat} {Q : Option pV → pG → Prop} {g : pG} {v1 v2 v3 v4 v5 : Int} {u6 : pV} {R : Int → pG → Prop} (hc : CT d mX8_afterOneOfFour [vR 45] g (qI R)) (k : ∀ (x : Int) (gg : pG), R x gg → EV d mX8_turnsBy Q 95 [vR 45, vI v1, vI v2, vI v3, vI v4, vI v5, u6] [vI x] gg) : EV d mX8_turnsBy Q 91 [vR 45, vI v1, vI v2, vI v3, vI v4, vI v5, u6] [] g := by
  refine wp_aload_n dX8_turnsBy_91 rfl rfl ?_
  exact wp_callvI (As := []) dX8_turnsBy_92 ml_8_303 (by decide) rfl L_45 (by decide) rfl (Nat.le_of_ble_eq_true rfl) rfl (Nat.le_refl _) (Nat.le_refl _) hc k
theorem b_X8_turnsBy_95 {d : Nat} {Q : Option pV → pG → Prop} {g : pG} {v1 v2 v3 v4 v5 vs0 : Int} {u6 : pV} (k1 : (vs0 ≤ v5) → EV d mX8_turnsBy Q 115 [vR 45, vI v1, vI v2, vI v3, vI v4, vI v5, vI vs0] [] g) (k2 : ¬ (vs0 ≤ v5) → EV d mX8_turnsBy Q 104 [vR 45, vI v1, vI v2, vI v3, vI v4, vI v5, vI vs0] [] g) : EV d mX8_turnsBy Q 95 [vR 45, vI v1, vI v2, vI v3, vI v4, vI v5, u6] [vI vs0] g := by
  refine wp_istore dX8_turnsBy_95 (Nat.le_of_ble_eq_true rfl) (pp (c := 5) rfl rfl) ?_
  refine wp_iload dX8_turnsBy_97 rfl ?_
  refine wp_iload dX8_turnsBy_99 rfl ?_
  exact wp_icmp_le (tgt := 115) dX8_turnsBy_101 rfl k1 k2
theorem b_X8_turnsBy_104 {d : Nat} {Q : Option pV → pG → Prop} {g : pG} {v1 v2 v3 v4 v5 v6 : Int} (k1 : (v6 ≤ v5) → EV d mX8_turnsBy Q 131 [vR 45, vI v1, vI v2, vI v3, vI (w32 (((g 67) 0).tdiv 2)), vI v5, vI v6] [] g) (k2 : ¬ (v6 ≤ v5) → EV d mX8_turnsBy Q 126 [vR 45, vI v1, vI v2, vI v3, vI (w32 (((g 67) 0).tdiv 2)), vI v5, vI v6] [] g) : EV d mX8_turnsBy Q 104 [vR 45, vI v1, vI v2, vI v3, vI v4, vI v5, vI v6] [] g := by
  refine wp_aload_n dX8_turnsBy_104 rfl rfl ?_
  refine wp_get (v := vR 67) dX8_turnsBy_105 fl_8_84 L_45 rfl ?_
  refine wp_iconst dX8_turnsBy_108 kc_0 ?_
  refine wp_iaload dX8_turnsBy_109 (by decide) L_67 (by decide) ?_
  refine wp_iconst dX8_turnsBy_110 kc_2 ?_
  refine wp_idiv dX8_turnsBy_111 (by decide) ?_
  refine wp_goto (tgt := 117) dX8_turnsBy_112 rfl ?_
  refine wp_istore dX8_turnsBy_117 (Nat.le_of_ble_eq_true rfl) (pp (c := 3) rfl rfl) ?_
  refine wp_iload dX8_turnsBy_119 rfl ?_
  refine wp_iload dX8_turnsBy_121 rfl ?_
  exact wp_icmp_le (tgt := 131) dX8_turnsBy_123 rfl k1 k2
theorem b_X8_turnsBy_115 {d : Nat} {Q : Option pV → pG → Prop} {g : pG} {v1 v2 v3 v4 v5 v6 : Int} (k1 : (v6 ≤ v5) → EV d mX8_turnsBy Q 131 [vR 45, vI v1, vI v2, vI v3, vI v4, vI v5, vI v6] [] g) (k2 : ¬ (v6 ≤ v5) → EV d mX8_turnsBy Q 126 [vR 45, vI v1, vI v2, vI v3, vI v4, vI v5, vI v6] [] g) : EV d mX8_turnsBy Q 115 [vR 45, vI v1, vI v2, vI v3, vI v4, vI v5, vI v6] [] g := by
  refine wp_iload dX8_turnsBy_115 rfl ?_
  refine wp_istore dX8_turnsBy_117 (Nat.le_of_ble_eq_true rfl) (pp (c := 3) rfl rfl) ?_
  refine wp_iload dX8_turnsBy_119 rfl ?_
  refine wp_iload dX8_turnsBy_121 rfl ?_
  exact wp_icmp_le (tgt := 131) dX8_turnsBy_123 rfl k1 k2
theorem b_X8_turnsBy_126 {d : Nat} {Q : Option pV → pG → Prop} {g : pG} {v1 v2 v3 v4 v5 v6 : Int} (k : EV d mX8_turnsBy Q 64 [vR 45, vI v1, vI v2, vI v3, vI v4, vI v6, vI v6] [] (cset g 67 (fup (g 67) 0 (w32 (((g 67) 0) + 1))))) : EV d mX8_turnsBy Q 126 [vR 45, vI v1, vI v2, vI v3, vI v4, vI v5, vI v6] [] g := by
  refine wp_iload dX8_turnsBy_126 rfl ?_
  refine wp_goto (tgt := 133) dX8_turnsBy_128 rfl ?_
  refine wp_istore dX8_turnsBy_133 (Nat.le_of_ble_eq_true rfl) (pp (c := 4) rfl rfl) ?_
  refine wp_aload_n dX8_turnsBy_135 rfl rfl ?_
  refine wp_get (v := vR 67) dX8_turnsBy_136 fl_8_84 L_45 rfl ?_
  refine wp_iconst dX8_turnsBy_139 kc_0 ?_
  refine wp_dup2 dX8_turnsBy_140 rfl rfl ?_
  refine wp_iaload dX8_turnsBy_141 (by decide) L_67 (by decide) ?_
  refine wp_iconst dX8_turnsBy_142 kc_1 ?_
  refine wp_iadd dX8_turnsBy_143 ?_
  refine wp_iastore dX8_turnsBy_144 (by decide) L_67 (by decide) ?_
  refine wp_goto (tgt := 64) dX8_turnsBy_145 rfl ?_
  exact k
theorem b_X8_turnsBy_131 {d : Nat} {Q : Option pV → pG → Prop} {g : pG} {v1 v2 v3 v4 v5 v6 : Int} (k : EV d mX8_turnsBy Q 64 [vR 45, vI v1, vI v2, vI v3, vI v4, vI v5, vI v6] [] (cset g 67 (fup (g 67) 0 (w32 (((g 67) 0) + 1))))) : EV d mX8_turnsBy Q 131 [vR 45, vI v1, vI v2, vI v3, vI v4, vI v5, vI v6] [] g := by
  refine wp_iload dX8_turnsBy_131 rfl ?_
  refine wp_istore dX8_turnsBy_133 (Nat.le_of_ble_eq_true rfl) (pp (c := 4) rfl rfl) ?_
  refine wp_aload_n dX8_turnsBy_135 rfl rfl ?_
  refine wp_get (v := vR 67) dX8_turnsBy_136 fl_8_84 L_45 rfl ?_
  refine wp_iconst dX8_turnsBy_139 kc_0 ?_
  refine wp_dup2 dX8_turnsBy_140 rfl rfl ?_
  refine wp_iaload dX8_turnsBy_141 (by decide) L_67 (by decide) ?_
  refine wp_iconst dX8_turnsBy_142 kc_1 ?_
  refine wp_iadd dX8_turnsBy_143 ?_
  refine wp_iastore dX8_turnsBy_144 (by decide) L_67 (by decide) ?_
  refine wp_goto (tgt := 64) dX8_turnsBy_145 rfl ?_
  exact k
theorem b_X8_turnsBy_148 {d : Nat} {Q : Option pV → pG → Prop} {g : pG} {v1 v2 v3 v4 v5 : Int} {u6 : pV} (k1 : (v2 ≠ 0) → EV d mX8_turnsBy Q 157 [vR 45, vI v1, vI v2, vI v3, vI v4, vI v5, u6] [] g) (k2 : ¬ (v2 ≠ 0) → EV d mX8_turnsBy Q 152 [vR 45, vI v1, vI v2, vI v3, vI v4, vI v5, u6] [] g) : EV d mX8_turnsBy Q 148 [vR 45, vI v1, vI v2, vI v3, vI v4, vI v5, u6] [] g := by
  refine wp_iload_n dX8_turnsBy_148 rfl ?_
  exact wp_if_ne (tgt := 157) dX8_turnsBy_149 rfl k1 k2
theorem b_X8_turnsBy_152 {d : Nat} {Q : Option pV → pG → Prop} {g : pG} {v1 v2 v3 v4 v5 : Int} {u6 : pV} (hq : Q (some (vI v5)) g) : EV d mX8_turnsBy Q 152 [vR 45, vI v1, vI v2, vI v3, vI v4, vI v5, u6] [] g := by
  refine wp_iload dX8_turnsBy_152 rfl ?_
  refine wp_goto (tgt := 159) dX8_turnsBy_154 rfl ?_
  exact wp_iret dX8_turnsBy_159 rfl hq
theorem b_X8_turnsBy_157 {d : Nat} {Q : Option pV → pG → Prop} {g : pG} {v1 v2 v3 v4 v5 : Int} {u6 : pV} (hq : Q (some (vI v4)) g) : EV d mX8_turnsBy Q 157 [vR 45, vI v1, vI v2, vI v3, vI v4, vI v5, u6] [] g := by
  refine wp_iload dX8_turnsBy_157 rfl ?_
  exact wp_iret dX8_turnsBy_159 rfl hq
theorem b_X8_sumBehindAll_0 {d : Nat} {Q : Option pV → pG → Prop} {g : pG} {R : pG → Prop} (hc : CT d mX8_think [vR 45] g (qV R)) (k : ∀ gg : pG, R gg → EV d mX8_sumBehindAll Q 4 [vR 45] [] gg) : EV d mX8_sumBehindAll Q 0 [vR 45] [] g := by
  refine wp_aload_n dX8_sumBehindAll_0 rfl rfl ?_
  exact wp_callvV (As := []) dX8_sumBehindAll_1 ml_8_158 (by decide) rfl L_45 (by decide) rfl (Nat.le_of_ble_eq_true rfl) rfl (Nat.le_refl _) (Nat.le_refl _) hc k
theorem b_X8_sumBehindAll_4 {d : Nat} {Q : Option pV → pG → Prop} {g : pG} {R : pG → Prop} (hc : CT d mX8_passAll [vR 45, vI 0] g (qV R)) (k : ∀ gg : pG, R gg → EV d mX8_sumBehindAll Q 9 [vR 45] [] gg) : EV d mX8_sumBehindAll Q 4 [vR 45] [] g := by
  refine wp_aload_n dX8_sumBehindAll_4 rfl rfl ?_
  refine wp_iconst dX8_sumBehindAll_5 kc_0 ?_
  exact wp_callvV (As := [vI 0]) dX8_sumBehindAll_6 ml_8_161 (by decide) rfl L_45 (by decide) rfl (Nat.le_of_ble_eq_true rfl) rfl (Nat.le_refl _) (Nat.le_refl _) hc k
theorem b_X8_sumBehindAll_9 {d : Nat} {Q : Option pV → pG → Prop} {g : pG} {R : Int → pG → Prop} (hc : CT d mX8_sumNow [vR 45] g (qI R)) (k : ∀ (x : Int) (gg : pG), R x gg → EV d mX8_sumBehindAll Q 13 [vR 45] [vI x] gg) : EV d mX8_sumBehindAll Q 9 [vR 45] [] g := by
  refine wp_aload_n dX8_sumBehindAll_9 rfl rfl ?_
  exact wp_callvI (As := []) dX8_sumBehindAll_10 ml_8_118 (by decide) rfl L_45 (by decide) rfl (Nat.le_of_ble_eq_true rfl) rfl (Nat.le_refl _) (Nat.le_refl _) hc k
theorem b_X8_sumBehindAll_13 {d : Nat} {Q : Option pV → pG → Prop} {g : pG} {vs0 : Int} (hq : Q (some (vI vs0)) g) : EV d mX8_sumBehindAll Q 13 [vR 45] [vI vs0] g := by
  exact wp_iret dX8_sumBehindAll_13 rfl hq
theorem b_X8_afterOne_0 {d : Nat} {Q : Option pV → pG → Prop} {g : pG} {R : Int → pG → Prop} (hc : CT d mX8_lastBy [vR 45, vI 2] g (qI R)) (k : ∀ (x : Int) (gg : pG), R x gg → EV d mX8_afterOne Q 5 [vR 45] [vI x] gg) : EV d mX8_afterOne Q 0 [vR 45] [] g := by
  refine wp_aload_n dX8_afterOne_0 rfl rfl ?_
  refine wp_iconst dX8_afterOne_1 kc_2 ?_
  exact wp_callvI (As := [vI 2]) dX8_afterOne_2 ml_8_291 (by decide) rfl L_45 (by decide) rfl (Nat.le_of_ble_eq_true rfl) rfl (Nat.le_refl _) (Nat.le_refl _) hc k
theorem b_X8_afterOne_5 {d : Nat} {Q : Option pV → pG → Prop} {g : pG} {vs0 : Int} (hq : Q (some (vI vs0)) g) : EV d mX8_afterOne Q 5 [vR 45] [vI vs0] g := by
  exact wp_iret dX8_afterOne_5 rfl hq
theorem b_X8_lastBy_0 {d : Nat} {Q : Option pV → pG → Prop} {g : pG} {v1 : Int} (k1 : (w32 (v1.tmod 2) ≠ 1) → EV d mX8_lastBy Q 13 [vR 45, vI v1, vX 2, vX 2] [] g) (k2 : ¬ (w32 (v1.tmod 2) ≠ 1) → EV d mX8_lastBy Q 7 [vR 45, vI v1, vX 2, vX 2] [] g) : EV d mX8_lastBy Q 0 [vR 45, vI v1, vX 2, vX 2] [] g := by
  refine wp_iload_n dX8_lastBy_0 rfl ?_
  refine wp_iconst dX8_lastBy_1 kc_2 ?_
  refine wp_irem dX8_lastBy_2 (by decide) ?_
  refine wp_iconst dX8_lastBy_3 kc_1 ?_
  exact wp_icmp_ne (tgt := 13) dX8_lastBy_4 rfl k1 k2
theorem b_X8_lastBy_7 {d : Nat} {Q : Option pV → pG → Prop} {g : pG} {v1 : Int} (h1 : 0 ≤ w32 (v1 - 1)) (h2 : w32 (v1 - 1) < 4) (k : EV d mX8_lastBy Q 26 [vR 45, vI v1, vI (-999), vX 2] [] (cset g 67 (fup (g 67) (w32 (v1 - 1)).toNat 0))) : EV d mX8_lastBy Q 7 [vR 45, vI v1, vX 2, vX 2] [] g := by
  refine wp_sipush dX8_lastBy_7 ks_m999 kc_m999 ?_
  refine wp_goto (tgt := 16) dX8_lastBy_10 rfl ?_
  refine wp_istore_n dX8_lastBy_16 (Nat.le_of_ble_eq_true rfl) (pp (c := 1) rfl rfl) ?_
  refine wp_aload_n dX8_lastBy_17 rfl rfl ?_
  refine wp_get (v := vR 67) dX8_lastBy_18 fl_8_84 L_45 rfl ?_
  refine wp_iload_n dX8_lastBy_21 rfl ?_
  refine wp_iconst dX8_lastBy_22 kc_1 ?_
  refine wp_isub dX8_lastBy_23 ?_
  refine wp_iconst dX8_lastBy_24 kc_0 ?_
  refine wp_iastore dX8_lastBy_25 h1 L_67 h2 ?_
  exact k
theorem b_X8_lastBy_13 {d : Nat} {Q : Option pV → pG → Prop} {g : pG} {v1 : Int} (h1 : 0 ≤ w32 (v1 - 1)) (h2 : w32 (v1 - 1) < 4) (k : EV d mX8_lastBy Q 26 [vR 45, vI v1, vI 999, vX 2] [] (cset g 67 (fup (g 67) (w32 (v1 - 1)).toNat 0))) : EV d mX8_lastBy Q 13 [vR 45, vI v1, vX 2, vX 2] [] g := by
  refine wp_sipush dX8_lastBy_13 ks_999 kc_999 ?_
  refine wp_istore_n dX8_lastBy_16 (Nat.le_of_ble_eq_true rfl) (pp (c := 1) rfl rfl) ?_
  refine wp_aload_n dX8_lastBy_17 rfl rfl ?_
  refine wp_get (v := vR 67) dX8_lastBy_18 fl_8_84 L_45 rfl ?_
  refine wp_iload_n dX8_lastBy_21 rfl ?_
  refine wp_iconst dX8_lastBy_22 kc_1 ?_
  refine wp_isub dX8_lastBy_23 ?_
  refine wp_iconst dX8_lastBy_24 kc_0 ?_
  refine wp_iastore dX8_lastBy_25 h1 L_67 h2 ?_
  exact k
theorem b_X8_lastBy_26 {d : Nat} {Q : Option pV → pG → Prop} {g : pG} {v1 v2 : Int} {u3 : pV} (h1 : 0 ≤ w32 (v1 - 1)) (h2 : w32 (v1 - 1) < 4) (k1 : (w32 (2 * ((g 45) 4)) ≤ (g 67) (w32 (v1 - 1)).toNat) → EV d mX8_lastBy Q 95 [vR 45, vI v1, vI v2, u3] [] g) (k2 : ¬ (w32 (2 * ((g 45) 4)) ≤ (g 67) (w32 (v1 - 1)).toNat) → EV d mX8_lastBy Q 43 [vR 45, vI v1, vI v2, u3] [] g) : EV d mX8_lastBy Q 26 [vR 45, vI v1, vI v2, u3] [] g := by
  refine wp_aload_n dX8_lastBy_26 rfl rfl ?_
  refine wp_get (v := vR 67) dX8_lastBy_27 fl_8_84 L_45 rfl ?_
  refine wp_iload_n dX8_lastBy_30 rfl ?_
  refine wp_iconst dX8_lastBy_31 kc_1 ?_
  refine wp_isub dX8_lastBy_32 ?_
  refine wp_iaload dX8_lastBy_33 h1 L_67 h2 ?_
  refine wp_iconst dX8_lastBy_34 kc_2 ?_
  refine wp_aload_n dX8_lastBy_35 rfl rfl ?_
  refine wp_get (v := vI ((g 45) 4)) dX8_lastBy_36 fl_8_19 L_45 rfl ?_
  refine wp_imul dX8_lastBy_39 ?_
  exact wp_icmp_ge (tgt := 95) dX8_lastBy_40 rfl k1 k2
theorem b_X8_lastBy_43 {d : Nat} {Q : Option pV → pG → Prop} {g : pG} {v1 v2 : Int} {u3 : pV} {R : Int → pG → Prop} (hc : CT d mX8_sumByChanges [vR 45, vI v1] g (qI R)) (k : ∀ (x : Int) (gg : pG), R x gg → EV d mX8_lastBy Q 48 [vR 45, vI v1, vI v2, u3] [vI x] gg) : EV d mX8_lastBy Q 43 [vR 45, vI v1, vI v2, u3] [] g := by
  refine wp_aload_n dX8_lastBy_43 rfl rfl ?_
  refine wp_iload_n dX8_lastBy_44 rfl ?_
  exact wp_callvI (As := [vI v1]) dX8_lastBy_45 ml_8_288 (by decide) rfl L_45 (by decide) rfl (Nat.le_of_ble_eq_true rfl) rfl (Nat.le_refl _) (Nat.le_refl _) hc k
theorem b_X8_lastBy_48 {d : Nat} {Q : Option pV → pG → Prop} {g : pG} {v1 v2 vs0 : Int} {u3 : pV} (k1 : (w32 (v1.tmod 2) ≠ 1) → EV d mX8_lastBy Q 69 [vR 45, vI v1, vI v2, vI vs0] [] g) (k2 : ¬ (w32 (v1.tmod 2) ≠ 1) → EV d mX8_lastBy Q 56 [vR 45, vI v1, vI v2, vI vs0] [] g) : EV d mX8_lastBy Q 48 [vR 45, vI v1, vI v2, u3] [vI vs0] g := by
  refine wp_istore_n dX8_lastBy_48 (Nat.le_of_ble_eq_true rfl) (pp (c := 2) rfl rfl) ?_
  refine wp_iload_n dX8_lastBy_49 rfl ?_
  refine wp_iconst dX8_lastBy_50 kc_2 ?_
  refine wp_irem dX8_lastBy_51 (by decide) ?_
  refine wp_iconst dX8_lastBy_52 kc_1 ?_
  exact wp_icmp_ne (tgt := 69) dX8_lastBy_53 rfl k1 k2
theorem b_X8_lastBy_56 {d : Nat} {Q : Option pV → pG → Prop} {g : pG} {v1 v2 v3 : Int} (k1 : (v3 ≤ v2) → EV d mX8_lastBy Q 65 [vR 45, vI v1, vI v2, vI v3] [] g) (k2 : ¬ (v3 ≤ v2) → EV d mX8_lastBy Q 61 [vR 45, vI v1, vI v2, vI v3] [] g) : EV d mX8_lastBy Q 56 [vR 45, vI v1, vI v2, vI v3] [] g := by
  refine wp_iload_n dX8_lastBy_56 rfl ?_
  refine wp_iload_n dX8_lastBy_57 rfl ?_
  exact wp_icmp_le (tgt := 65) dX8_lastBy_58 rfl k1 k2
theorem b_X8_lastBy_61 {d : Nat} {Q : Option pV → pG → Prop} {g : pG} {v1 v2 v3 : Int} (h1 : 0 ≤ w32 (v1 - 1)) (h2 : w32 (v1 - 1) < 4) (k : EV d mX8_lastBy Q 26 [vR 45, vI v1, vI v3, vI v3] [] (cset g 67 (fup (g 67) (w32 (v1 - 1)).toNat (w32 (((g 67) (w32 (v1 - 1)).toNat) + 1))))) : EV d mX8_lastBy Q 61 [vR 45, vI v1, vI v2, vI v3] [] g := by
  refine wp_iload_n dX8_lastBy_61 rfl ?_
  refine wp_goto (tgt := 79) dX8_lastBy_62 rfl ?_
  refine wp_istore_n dX8_lastBy_79 (Nat.le_of_ble_eq_true rfl) (pp (c := 1) rfl rfl) ?_
  refine wp_aload_n dX8_lastBy_80 rfl rfl ?_
  refine wp_get (v := vR 67) dX8_lastBy_81 fl_8_84 L_45 rfl ?_
  refine wp_iload_n dX8_lastBy_84 rfl ?_
  refine wp_iconst dX8_lastBy_85 kc_1 ?_
  refine wp_isub dX8_lastBy_86 ?_
  refine wp_dup2 dX8_lastBy_87 rfl rfl ?_
  refine wp_iaload dX8_lastBy_88 h1 L_67 h2 ?_
  refine wp_iconst dX8_lastBy_89 kc_1 ?_
  refine wp_iadd dX8_lastBy_90 ?_
  refine wp_iastore dX8_lastBy_91 h1 L_67 h2 ?_
  refine wp_goto (tgt := 26) dX8_lastBy_92 rfl ?_
  exact k
theorem b_X8_lastBy_65 {d : Nat} {Q : Option pV → pG → Prop} {g : pG} {v1 v2 v3 : Int} (h1 : 0 ≤ w32 (v1 - 1)) (h2 : w32 (v1 - 1) < 4) (k : EV d mX8_lastBy Q 26 [vR 45, vI v1, vI v2, vI v3] [] (cset g 67 (fup (g 67) (w32 (v1 - 1)).toNat (w32 (((g 67) (w32 (v1 - 1)).toNat) + 1))))) : EV d mX8_lastBy Q 65 [vR 45, vI v1, vI v2, vI v3] [] g := by
  refine wp_iload_n dX8_lastBy_65 rfl ?_
  refine wp_goto (tgt := 79) dX8_lastBy_66 rfl ?_
  refine wp_istore_n dX8_lastBy_79 (Nat.le_of_ble_eq_true rfl) (pp (c := 1) rfl rfl) ?_
  refine wp_aload_n dX8_lastBy_80 rfl rfl ?_
  refine wp_get (v := vR 67) dX8_lastBy_81 fl_8_84 L_45 rfl ?_
  refine wp_iload_n dX8_lastBy_84 rfl ?_
  refine wp_iconst dX8_lastBy_85 kc_1 ?_
  refine wp_isub dX8_lastBy_86 ?_
  refine wp_dup2 dX8_lastBy_87 rfl rfl ?_
  refine wp_iaload dX8_lastBy_88 h1 L_67 h2 ?_
  refine wp_iconst dX8_lastBy_89 kc_1 ?_
  refine wp_iadd dX8_lastBy_90 ?_
  refine wp_iastore dX8_lastBy_91 h1 L_67 h2 ?_
  refine wp_goto (tgt := 26) dX8_lastBy_92 rfl ?_
  exact k
theorem b_X8_lastBy_69 {d : Nat} {Q : Option pV → pG → Prop} {g : pG} {v1 v2 v3 : Int} (k1 : (v2 ≤ v3) → EV d mX8_lastBy Q 78 [vR 45, vI v1, vI v2, vI v3] [] g) (k2 : ¬ (v2 ≤ v3) → EV d mX8_lastBy Q 74 [vR 45, vI v1, vI v2, vI v3] [] g) : EV d mX8_lastBy Q 69 [vR 45, vI v1, vI v2, vI v3] [] g := by
  refine wp_iload_n dX8_lastBy_69 rfl ?_
  refine wp_iload_n dX8_lastBy_70 rfl ?_
  exact wp_icmp_ge (tgt := 78) dX8_lastBy_71 rfl k1 k2
theorem b_X8_lastBy_74 {d : Nat} {Q : Option pV → pG → Prop} {g : pG} {v1 v2 v3 : Int} (h1 : 0 ≤ w32 (v1 - 1)) (h2 : w32 (v1 - 1) < 4) (k : EV d mX8_lastBy Q 26 [vR 45, vI v1, vI v3, vI v3] [] (cset g 67 (fup (g 67) (w32 (v1 - 1)).toNat (w32 (((g 67) (w32 (v1 - 1)).toNat) + 1))))) : EV d mX8_lastBy Q 74 [vR 45, vI v1, vI v2, vI v3] [] g := by
  refine wp_iload_n dX8_lastBy_74 rfl ?_
  refine wp_goto (tgt := 79) dX8_lastBy_75 rfl ?_
  refine wp_istore_n dX8_lastBy_79 (Nat.le_of_ble_eq_true rfl) (pp (c := 1) rfl rfl) ?_
  refine wp_aload_n dX8_lastBy_80 rfl rfl ?_
  refine wp_get (v := vR 67) dX8_lastBy_81 fl_8_84 L_45 rfl ?_
  refine wp_iload_n dX8_lastBy_84 rfl ?_
  refine wp_iconst dX8_lastBy_85 kc_1 ?_
  refine wp_isub dX8_lastBy_86 ?_
  refine wp_dup2 dX8_lastBy_87 rfl rfl ?_
  refine wp_iaload dX8_lastBy_88 h1 L_67 h2 ?_
  refine wp_iconst dX8_lastBy_89 kc_1 ?_
  refine wp_iadd dX8_lastBy_90 ?_
  refine wp_iastore dX8_lastBy_91 h1 L_67 h2 ?_
  refine wp_goto (tgt := 26) dX8_lastBy_92 rfl ?_
  exact k
theorem b_X8_lastBy_78 {d : Nat} {Q : Option pV → pG → Prop} {g : pG} {v1 v2 v3 : Int} (h1 : 0 ≤ w32 (v1 - 1)) (h2 : w32 (v1 - 1) < 4) (k : EV d mX8_lastBy Q 26 [vR 45, vI v1, vI v2, vI v3] [] (cset g 67 (fup (g 67) (w32 (v1 - 1)).toNat (w32 (((g 67) (w32 (v1 - 1)).toNat) + 1))))) : EV d mX8_lastBy Q 78 [vR 45, vI v1, vI v2, vI v3] [] g := by
  refine wp_iload_n dX8_lastBy_78 rfl ?_
  refine wp_istore_n dX8_lastBy_79 (Nat.le_of_ble_eq_true rfl) (pp (c := 1) rfl rfl) ?_
  refine wp_aload_n dX8_lastBy_80 rfl rfl ?_
  refine wp_get (v := vR 67) dX8_lastBy_81 fl_8_84 L_45 rfl ?_
  refine wp_iload_n dX8_lastBy_84 rfl ?_
  refine wp_iconst dX8_lastBy_85 kc_1 ?_
  refine wp_isub dX8_lastBy_86 ?_
  refine wp_dup2 dX8_lastBy_87 rfl rfl ?_
  refine wp_iaload dX8_lastBy_88 h1 L_67 h2 ?_
  refine wp_iconst dX8_lastBy_89 kc_1 ?_
  refine wp_iadd dX8_lastBy_90 ?_
  refine wp_iastore dX8_lastBy_91 h1 L_67 h2 ?_
  refine wp_goto (tgt := 26) dX8_lastBy_92 rfl ?_
  exact k
theorem b_X8_lastBy_95 {d : Nat} {Q : Option pV → pG → Prop} {g : pG} {v1 v2 : Int} {u3 : pV} (hq : Q (some (vI v2)) g) : EV d mX8_lastBy Q 95 [vR 45, vI v1, vI v2, u3] [] g := by
  refine wp_iload_n dX8_lastBy_95 rfl ?_
  exact wp_iret dX8_lastBy_96 rfl hq
theorem b_X8_sumByChanges_0 {d : Nat} {Q : Option pV → pG → Prop} {g : pG} {v1 : Int} {R : pG → Prop} (hc : CT d mX8_think [vR 45] g (qV R)) (k : ∀ gg : pG, R gg → EV d mX8_sumByChanges Q 4 [vR 45, vI v1, vX 2, vX 2] [] gg) : EV d mX8_sumByChanges Q 0 [vR 45, vI v1, vX 2, vX 2] [] g := by
  refine wp_aload_n dX8_sumByChanges_0 rfl rfl ?_
  exact wp_callvV (As := []) dX8_sumByChanges_1 ml_8_158 (by decide) rfl L_45 (by decide) rfl (Nat.le_of_ble_eq_true rfl) rfl (Nat.le_refl _) (Nat.le_refl _) hc k
theorem b_X8_sumByChanges_4 {d : Nat} {Q : Option pV → pG → Prop} {g : pG} {v1 : Int} (k : EV d mX8_sumByChanges Q 6 [vR 45, vI v1, vI 0, vX 2] [] g) : EV d mX8_sumByChanges Q 4 [vR 45, vI v1, vX 2, vX 2] [] g := by
  refine wp_iconst dX8_sumByChanges_4 kc_0 ?_
  refine wp_istore_n dX8_sumByChanges_5 (Nat.le_of_ble_eq_true rfl) (pp (c := 1) rfl rfl) ?_
  exact k
theorem b_X8_sumByChanges_6 {d : Nat} {Q : Option pV → pG → Prop} {g : pG} {v1 v2 : Int} {u3 : pV} (k1 : (v1 ≤ v2) → EV d mX8_sumByChanges Q 58 [vR 45, vI v1, vI v2, u3] [] g) (k2 : ¬ (v1 ≤ v2) → EV d mX8_sumByChanges Q 11 [vR 45, vI v1, vI v2, u3] [] g) : EV d mX8_sumByChanges Q 6 [vR 45, vI v1, vI v2, u3] [] g := by
  refine wp_iload_n dX8_sumByChanges_6 rfl ?_
  refine wp_iload_n dX8_sumByChanges_7 rfl ?_
  exact wp_icmp_ge (tgt := 58) dX8_sumByChanges_8 rfl k1 k2
theorem b_X8_sumByChanges_11 {d : Nat} {Q : Option pV → pG → Prop} {g : pG} {v1 v2 : Int} {u3 : pV} (h1 : 0 ≤ v2) (h2 : v2 < 4) (h3 : 0 ≤ w32 (((g 67) v2.toNat).tdiv 2)) (h4 : w32 (((g 67) v2.toNat).tdiv 2) < 8) (k1 : (w32 (((g 67) v2.toNat).tmod 2) ≠ 0) → EV d mX8_sumByChanges Q 46 [vR 45, vI v1, vI v2, vI (w32 (((g 67) v2.toNat).tdiv 2))] [vI ((g 51) (w32 (((g 67) v2.toNat).tdiv 2)).toNat), vI (w32 (((g 67) v2.toNat).tdiv 2)), vR 51] g) (k2 : ¬ (w32 (((g 67) v2.toNat).tmod 2) ≠ 0) → EV d mX8_sumByChanges Q 42 [vR 45, vI v1, vI v2, vI (w32 (((g 67) v2.toNat).tdiv 2))] [vI ((g 51) (w32 (((g 67) v2.toNat).tdiv 2)).toNat), vI (w32 (((g 67) v2.toNat).tdiv 2)), vR 51] g) : EV d mX8_sumByChanges Q 11 [vR 45, vI v1, vI v2, u3] [] g := by
  refine wp_aload_n dX8_sumByChanges_11 rfl rfl ?_
  refine wp_get (v := vR 67) dX8_sumByChanges_12 fl_8_84 L_45 rfl ?_
  refine wp_iload_n dX8_sumByChanges_15 rfl ?_
  refine wp_iaload dX8_sumByChanges_16 h1 L_67 h2 ?_
  refine wp_iconst dX8_sumByChanges_17 kc_2 ?_
  refine wp_idiv dX8_sumByChanges_18 (by decide) ?_
  refine wp_istore_n dX8_sumByChanges_19 (Nat.le_of_ble_eq_true rfl) (pp (c := 2) rfl rfl) ?_
  refine wp_aload_n dX8_sumByChanges_20 rfl rfl ?_
  refine wp_get (v := vR 51) dX8_sumByChanges_21 fl_8_35 L_45 rfl ?_
  refine wp_iload_n dX8_sumByChanges_24 rfl ?_
  refine wp_aload_n dX8_sumByChanges_25 rfl rfl ?_
  refine wp_get (v := vR 51) dX8_sumByChanges_26 fl_8_35 L_45 rfl ?_
  refine wp_iload_n dX8_sumByChanges_29 rfl ?_
  refine wp_iaload dX8_sumByChanges_30 h3 L_51 h4 ?_
  refine wp_aload_n dX8_sumByChanges_31 rfl rfl ?_
  refine wp_get (v := vR 67) dX8_sumByChanges_32 fl_8_84 L_45 rfl ?_
  refine wp_iload_n dX8_sumByChanges_35 rfl ?_
  refine wp_iaload dX8_sumByChanges_36 h1 L_67 h2 ?_
  refine wp_iconst dX8_sumByChanges_37 kc_2 ?_
  refine wp_irem dX8_sumByChanges_38 (by decide) ?_
  exact wp_if_ne (tgt := 46) dX8_sumByChanges_39 rfl k1 k2
theorem b_X8_sumByChanges_42 {d : Nat} {Q : Option pV → pG → Prop} {g : pG} {v1 v2 v3 vs1 vs2 : Int} {R : Int → pG → Prop} (hc : CT d mX8_held [vI (w32 (vs2 + 1))] g (qI R)) (k : ∀ (x : Int) (gg : pG), R x gg → EV d mX8_sumByChanges Q 51 [vR 45, vI v1, vI v2, vI v3] [vI x, vI vs1, vR 51] gg) : EV d mX8_sumByChanges Q 42 [vR 45, vI v1, vI v2, vI v3] [vI vs2, vI vs1, vR 51] g := by
  refine wp_iconst dX8_sumByChanges_42 kc_1 ?_
  refine wp_goto (tgt := 47) dX8_sumByChanges_43 rfl ?_
  refine wp_iadd dX8_sumByChanges_47 ?_
  exact wp_callsI (As := [vI (w32 (vs2 + 1))]) dX8_sumByChanges_48 ml_8_129 (Or.inl rfl) rfl (Nat.le_of_ble_eq_true rfl) rfl (Nat.le_refl _) (Nat.le_refl _) hc k
theorem b_X8_sumByChanges_46 {d : Nat} {Q : Option pV → pG → Prop} {g : pG} {v1 v2 v3 vs1 vs2 : Int} {R : Int → pG → Prop} (hc : CT d mX8_held [vI (w32 (vs2 + (-1)))] g (qI R)) (k : ∀ (x : Int) (gg : pG), R x gg → EV d mX8_sumByChanges Q 51 [vR 45, vI v1, vI v2, vI v3] [vI x, vI vs1, vR 51] gg) : EV d mX8_sumByChanges Q 46 [vR 45, vI v1, vI v2, vI v3] [vI vs2, vI vs1, vR 51] g := by
  refine wp_iconst dX8_sumByChanges_46 kc_m1 ?_
  refine wp_iadd dX8_sumByChanges_47 ?_
  exact wp_callsI (As := [vI (w32 (vs2 + (-1)))]) dX8_sumByChanges_48 ml_8_129 (Or.inl rfl) rfl (Nat.le_of_ble_eq_true rfl) rfl (Nat.le_refl _) (Nat.le_refl _) hc k
theorem b_X8_sumByChanges_51 {d : Nat} {Q : Option pV → pG → Prop} {g : pG} {v1 v2 v3 vs1 vs2 : Int} (h1 : 0 ≤ vs1) (h2 : vs1 < 8) (k : EV d mX8_sumByChanges Q 6 [vR 45, vI v1, vI (w32 (v2 + 1)), vI v3] [] (cset g 51 (fup (g 51) vs1.toNat vs2))) : EV d mX8_sumByChanges Q 51 [vR 45, vI v1, vI v2, vI v3] [vI vs2, vI vs1, vR 51] g := by
  refine wp_iastore dX8_sumByChanges_51 h1 L_51 h2 ?_
  refine wp_iinc dX8_sumByChanges_52 rfl (Nat.le_of_ble_eq_true rfl) (pp (c := 1) rfl rfl) ?_
  refine wp_goto (tgt := 6) dX8_sumByChanges_55 rfl ?_
  exact k
theorem b_X8_sumByChanges_58 {d : Nat} {Q : Option pV → pG → Prop} {g : pG} {v1 v2 : Int} {u3 : pV} {R : pG → Prop} (hc : CT d mX8_passAll [vR 45, vI 0] g (qV R)) (k : ∀ gg : pG, R gg → EV d mX8_sumByChanges Q 63 [vR 45, vI v1, vI v2, u3] [] gg) : EV d mX8_sumByChanges Q 58 [vR 45, vI v1, vI v2, u3] [] g := by
  refine wp_aload_n dX8_sumByChanges_58 rfl rfl ?_
  refine wp_iconst dX8_sumByChanges_59 kc_0 ?_
  exact wp_callvV (As := [vI 0]) dX8_sumByChanges_60 ml_8_161 (by decide) rfl L_45 (by decide) rfl (Nat.le_of_ble_eq_true rfl) rfl (Nat.le_refl _) (Nat.le_refl _) hc k
theorem b_X8_sumByChanges_63 {d : Nat} {Q : Option pV → pG → Prop} {g : pG} {v1 v2 : Int} {u3 : pV} {R : Int → pG → Prop} (hc : CT d mX8_sumNow [vR 45] g (qI R)) (k : ∀ (x : Int) (gg : pG), R x gg → EV d mX8_sumByChanges Q 67 [vR 45, vI v1, vI v2, u3] [vI x] gg) : EV d mX8_sumByChanges Q 63 [vR 45, vI v1, vI v2, u3] [] g := by
  refine wp_aload_n dX8_sumByChanges_63 rfl rfl ?_
  exact wp_callvI (As := []) dX8_sumByChanges_64 ml_8_118 (by decide) rfl L_45 (by decide) rfl (Nat.le_of_ble_eq_true rfl) rfl (Nat.le_refl _) (Nat.le_refl _) hc k
theorem b_X8_sumByChanges_67 {d : Nat} {Q : Option pV → pG → Prop} {g : pG} {v1 v2 vs0 : Int} {u3 : pV} (hq : Q (some (vI vs0)) g) : EV d mX8_sumByChanges Q 67 [vR 45, vI v1, vI v2, u3] [vI vs0] g := by
  exact wp_iret dX8_sumByChanges_67 rfl hq
theorem b_X8_afterOneOfFour_0 {d : Nat} {Q : Option pV → pG → Prop} {g : pG} (k : EV d mX8_afterOneOfFour Q 11 [vR 45, vI 999, vX 2] [] (cset g 67 (fup (g 67) 1 0))) : EV d mX8_afterOneOfFour Q 0 [vR 45, vX 2, vX 2] [] g := by
  refine wp_sipush dX8_afterOneOfFour_0 ks_999 kc_999 ?_
  refine wp_istore_n dX8_afterOneOfFour_3 (Nat.le_of_ble_eq_true rfl) (pp (c := 0) rfl rfl) ?_
  refine wp_aload_n dX8_afterOneOfFour_4 rfl rfl ?_
  refine wp_get (v := vR 67) dX8_afterOneOfFour_5 fl_8_84 L_45 rfl ?_
  refine wp_iconst dX8_afterOneOfFour_8 kc_1 ?_
  refine wp_iconst dX8_afterOneOfFour_9 kc_0 ?_
  refine wp_iastore dX8_afterOneOfFour_10 (by decide) L_67 (by decide) ?_
  exact k
theorem b_X8_afterOneOfFour_11 {d : Nat} {Q : Option pV → pG → Prop} {g : pG} {v1 : Int} {u2 : pV} (k1 : (w32 (2 * ((g 45) 4)) ≤ (g 67) 1) → EV d mX8_afterOneOfFour Q 55 [vR 45, vI v1, u2] [] g) (k2 : ¬ (w32 (2 * ((g 45) 4)) ≤ (g 67) 1) → EV d mX8_afterOneOfFour Q 26 [vR 45, vI v1, u2] [] g) : EV d mX8_afterOneOfFour Q 11 [vR 45, vI v1, u2] [] g := by
  refine wp_aload_n dX8_afterOneOfFour_11 rfl rfl ?_
  refine wp_get (v := vR 67) dX8_afterOneOfFour_12 fl_8_84 L_45 rfl ?_
  refine wp_iconst dX8_afterOneOfFour_15 kc_1 ?_
  refine wp_iaload dX8_afterOneOfFour_16 (by decide) L_67 (by decide) ?_
  refine wp_iconst dX8_afterOneOfFour_17 kc_2 ?_
  refine wp_aload_n dX8_afterOneOfFour_18 rfl rfl ?_
  refine wp_get (v := vI ((g 45) 4)) dX8_afterOneOfFour_19 fl_8_19 L_45 rfl ?_
  refine wp_imul dX8_afterOneOfFour_22 ?_
  exact wp_icmp_ge (tgt := 55) dX8_afterOneOfFour_23 rfl k1 k2
theorem b_X8_afterOneOfFour_26 {d : Nat} {Q : Option pV → pG → Prop} {g : pG} {v1 : Int} {u2 : pV} {R : Int → pG → Prop} (hc : CT d mX8_afterTwo [vR 45] g (qI R)) (k : ∀ (x : Int) (gg : pG), R x gg → EV d mX8_afterOneOfFour Q 30 [vR 45, vI v1, u2] [vI x] gg) : EV d mX8_afterOneOfFour Q 26 [vR 45, vI v1, u2] [] g := by
  refine wp_aload_n dX8_afterOneOfFour_26 rfl rfl ?_
  exact wp_callvI (As := []) dX8_afterOneOfFour_27 ml_8_294 (by decide) rfl L_45 (by decide) rfl (Nat.le_of_ble_eq_true rfl) rfl (Nat.le_refl _) (Nat.le_refl _) hc k
theorem b_X8_afterOneOfFour_30 {d : Nat} {Q : Option pV → pG → Prop} {g : pG} {v1 vs0 : Int} {u2 : pV} (k1 : (v1 ≤ vs0) → EV d mX8_afterOneOfFour Q 40 [vR 45, vI v1, vI vs0] [] g) (k2 : ¬ (v1 ≤ vs0) → EV d mX8_afterOneOfFour Q 36 [vR 45, vI v1, vI vs0] [] g) : EV d mX8_afterOneOfFour Q 30 [vR 45, vI v1, u2] [vI vs0] g := by
  refine wp_istore_n dX8_afterOneOfFour_30 (Nat.le_of_ble_eq_true rfl) (pp (c := 1) rfl rfl) ?_
  refine wp_iload_n dX8_afterOneOfFour_31 rfl ?_
  refine wp_iload_n dX8_afterOneOfFour_32 rfl ?_
  exact wp_icmp_ge (tgt := 40) dX8_afterOneOfFour_33 rfl k1 k2
theorem b_X8_afterOneOfFour_36 {d : Nat} {Q : Option pV → pG → Prop} {g : pG} {v1 v2 : Int} (k : EV d mX8_afterOneOfFour Q 11 [vR 45, vI v2, vI v2] [] (cset g 67 (fup (g 67) 1 (w32 (((g 67) 1) + 1))))) : EV d mX8_afterOneOfFour Q 36 [vR 45, vI v1, vI v2] [] g := by
  refine wp_iload_n dX8_afterOneOfFour_36 rfl ?_
  refine wp_goto (tgt := 41) dX8_afterOneOfFour_37 rfl ?_
  refine wp_istore_n dX8_afterOneOfFour_41 (Nat.le_of_ble_eq_true rfl) (pp (c := 0) rfl rfl) ?_
  refine wp_aload_n dX8_afterOneOfFour_42 rfl rfl ?_
  refine wp_get (v := vR 67) dX8_afterOneOfFour_43 fl_8_84 L_45 rfl ?_
  refine wp_iconst dX8_afterOneOfFour_46 kc_1 ?_
  refine wp_dup2 dX8_afterOneOfFour_47 rfl rfl ?_
  refine wp_iaload dX8_afterOneOfFour_48 (by decide) L_67 (by decide) ?_
  refine wp_iconst dX8_afterOneOfFour_49 kc_1 ?_
  refine wp_iadd dX8_afterOneOfFour_50 ?_
  refine wp_iastore dX8_afterOneOfFour_51 (by decide) L_67 (by decide) ?_
  refine wp_goto (tgt := 11) dX8_afterOneOfFour_52 rfl ?_
  exact k
theorem b_X8_afterOneOfFour_40 {d : Nat} {Q : Option pV → pG → Prop} {g : pG} {v1 v2 : Int} (k : EV d mX8_afterOneOfFour Q 11 [vR 45, vI v1, vI v2] [] (cset g 67 (fup (g 67) 1 (w32 (((g 67) 1) + 1))))) : EV d mX8_afterOneOfFour Q 40 [vR 45, vI v1, vI v2] [] g := by
  refine wp_iload_n dX8_afterOneOfFour_40 rfl ?_
  refine wp_istore_n dX8_afterOneOfFour_41 (Nat.le_of_ble_eq_true rfl) (pp (c := 0) rfl rfl) ?_
  refine wp_aload_n dX8_afterOneOfFour_42 rfl rfl ?_
  refine wp_get (v := vR 67) dX8_afterOneOfFour_43 fl_8_84 L_45 rfl ?_
  refine wp_iconst dX8_afterOneOfFour_46 kc_1 ?_
  refine wp_dup2 dX8_afterOneOfFour_47 rfl rfl ?_
  refine wp_iaload dX8_afterOneOfFour_48 (by decide) L_67 (by decide) ?_
  refine wp_iconst dX8_afterOneOfFour_49 kc_1 ?_
  refine wp_iadd dX8_afterOneOfFour_50 ?_
  refine wp_iastore dX8_afterOneOfFour_51 (by decide) L_67 (by decide) ?_
  refine wp_goto (tgt := 11) dX8_afterOneOfFour_52 rfl ?_
  exact k
theorem b_X8_afterOneOfFour_55 {d : Nat} {Q : Option pV → pG → Prop} {g : pG} {v1 : Int} {u2 : pV} (hq : Q (some (vI v1)) g) : EV d mX8_afterOneOfFour Q 55 [vR 45, vI v1, u2] [] g := by
  refine wp_iload_n dX8_afterOneOfFour_55 rfl ?_
  exact wp_iret dX8_afterOneOfFour_56 rfl hq
theorem b_X8_afterTwo_0 {d : Nat} {Q : Option pV → pG → Prop} {g : pG} (k : EV d mX8_afterTwo Q 11 [vR 45, vI (-999), vX 2] [] (cset g 67 (fup (g 67) 2 0))) : EV d mX8_afterTwo Q 0 [vR 45, vX 2, vX 2] [] g := by
  refine wp_sipush dX8_afterTwo_0 ks_m999 kc_m999 ?_
  refine wp_istore_n dX8_afterTwo_3 (Nat.le_of_ble_eq_true rfl) (pp (c := 0) rfl rfl) ?_
  refine wp_aload_n dX8_afterTwo_4 rfl rfl ?_
  refine wp_get (v := vR 67) dX8_afterTwo_5 fl_8_84 L_45 rfl ?_
  refine wp_iconst dX8_afterTwo_8 kc_2 ?_
  refine wp_iconst dX8_afterTwo_9 kc_0 ?_
  refine wp_iastore dX8_afterTwo_10 (by decide) L_67 (by decide) ?_
  exact k
theorem b_X8_afterTwo_11 {d : Nat} {Q : Option pV → pG → Prop} {g : pG} {v1 : Int} {u2 : pV} (k1 : (w32 (2 * ((g 45) 4)) ≤ (g 67) 2) → EV d mX8_afterTwo Q 56 [vR 45, vI v1, u2] [] g) (k2 : ¬ (w32 (2 * ((g 45) 4)) ≤ (g 67) 2) → EV d mX8_afterTwo Q 26 [vR 45, vI v1, u2] [] g) : EV d mX8_afterTwo Q 11 [vR 45, vI v1, u2] [] g := by
  refine wp_aload_n dX8_afterTwo_11 rfl rfl ?_
  refine wp_get (v := vR 67) dX8_afterTwo_12 fl_8_84 L_45 rfl ?_
  refine wp_iconst dX8_afterTwo_15 kc_2 ?_
  refine wp_iaload dX8_afterTwo_16 (by decide) L_67 (by decide) ?_
  refine wp_iconst dX8_afterTwo_17 kc_2 ?_
  refine wp_aload_n dX8_afterTwo_18 rfl rfl ?_
  refine wp_get (v := vI ((g 45) 4)) dX8_afterTwo_19 fl_8_19 L_45 rfl ?_
  refine wp_imul dX8_afterTwo_22 ?_
  exact wp_icmp_ge (tgt := 56) dX8_afterTwo_23 rfl k1 k2
theorem b_X8_afterTwo_26 {d : Nat} {Q : Option pV → pG → Prop} {g : pG} {v1 : Int} {u2 : pV} {R : Int → pG → Prop} (hc : CT d mX8_lastBy [vR 45, vI 4] g (qI R)) (k : ∀ (x : Int) (gg : pG), R x gg → EV d mX8_afterTwo Q 31 [vR 45, vI v1, u2] [vI x] gg) : EV d mX8_afterTwo Q 26 [vR 45, vI v1, u2] [] g := by
  refine wp_aload_n dX8_afterTwo_26 rfl rfl ?_
  refine wp_iconst dX8_afterTwo_27 kc_4 ?_
  exact wp_callvI (As := [vI 4]) dX8_afterTwo_28 ml_8_291 (by decide) rfl L_45 (by decide) rfl (Nat.le_of_ble_eq_true rfl) rfl (Nat.le_refl _) (Nat.le_refl _) hc k
theorem b_X8_afterTwo_31 {d : Nat} {Q : Option pV → pG → Prop} {g : pG} {v1 vs0 : Int} {u2 : pV} (k1 : (vs0 ≤ v1) → EV d mX8_afterTwo Q 41 [vR 45, vI v1, vI vs0] [] g) (k2 : ¬ (vs0 ≤ v1) → EV d mX8_afterTwo Q 37 [vR 45, vI v1, vI vs0] [] g) : EV d mX8_afterTwo Q 31 [vR 45, vI v1, u2] [vI vs0] g := by
  refine wp_istore_n dX8_afterTwo_31 (Nat.le_of_ble_eq_true rfl) (pp (c := 1) rfl rfl) ?_
  refine wp_iload_n dX8_afterTwo_32 rfl ?_
  refine wp_iload_n dX8_afterTwo_33 rfl ?_
  exact wp_icmp_le (tgt := 41) dX8_afterTwo_34 rfl k1 k2
theorem b_X8_afterTwo_37 {d : Nat} {Q : Option pV → pG → Prop} {g : pG} {v1 v2 : Int} (k : EV d mX8_afterTwo Q 11 [vR 45, vI v2, vI v2] [] (cset g 67 (fup (g 67) 2 (w32 (((g 67) 2) + 1))))) : EV d mX8_afterTwo Q 37 [vR 45, vI v1, vI v2] [] g := by
  refine wp_iload_n dX8_afterTwo_37 rfl ?_
  refine wp_goto (tgt := 42) dX8_afterTwo_38 rfl ?_
  refine wp_istore_n dX8_afterTwo_42 (Nat.le_of_ble_eq_true rfl) (pp (c := 0) rfl rfl) ?_
  refine wp_aload_n dX8_afterTwo_43 rfl rfl ?_
  refine wp_get (v := vR 67) dX8_afterTwo_44 fl_8_84 L_45 rfl ?_
  refine wp_iconst dX8_afterTwo_47 kc_2 ?_
  refine wp_dup2 dX8_afterTwo_48 rfl rfl ?_
  refine wp_iaload dX8_afterTwo_49 (by decide) L_67 (by decide) ?_
  refine wp_iconst dX8_afterTwo_50 kc_1 ?_
  refine wp_iadd dX8_afterTwo_51 ?_
  refine wp_iastore dX8_afterTwo_52 (by decide) L_67 (by decide) ?_
  refine wp_goto (tgt := 11) dX8_afterTwo_53 rfl ?_
  exact k
theorem b_X8_afterTwo_41 {d : Nat} {Q : Option pV → pG → Prop} {g : pG} {v1 v2 : Int} (k : EV d mX8_afterTwo Q 11 [vR 45, vI v1, vI v2] [] (cset g 67 (fup (g 67) 2 (w32 (((g 67) 2) + 1))))) : EV d mX8_afterTwo Q 41 [vR 45, vI v1, vI v2] [] g := by
  refine wp_iload_n dX8_afterTwo_41 rfl ?_
  refine wp_istore_n dX8_afterTwo_42 (Nat.le_of_ble_eq_true rfl) (pp (c := 0) rfl rfl) ?_
  refine wp_aload_n dX8_afterTwo_43 rfl rfl ?_
  refine wp_get (v := vR 67) dX8_afterTwo_44 fl_8_84 L_45 rfl ?_
  refine wp_iconst dX8_afterTwo_47 kc_2 ?_
  refine wp_dup2 dX8_afterTwo_48 rfl rfl ?_
  refine wp_iaload dX8_afterTwo_49 (by decide) L_67 (by decide) ?_
  refine wp_iconst dX8_afterTwo_50 kc_1 ?_
  refine wp_iadd dX8_afterTwo_51 ?_
  refine wp_iastore dX8_afterTwo_52 (by decide) L_67 (by decide) ?_
  refine wp_goto (tgt := 11) dX8_afterTwo_53 rfl ?_
  exact k
theorem b_X8_afterTwo_56 {d : Nat} {Q : Option pV → pG → Prop} {g : pG} {v1 : Int} {u2 : pV} (hq : Q (some (vI v1)) g) : EV d mX8_afterTwo Q 56 [vR 45, vI v1, u2] [] g := by
  refine wp_iload_n dX8_afterTwo_56 rfl ?_
  exact wp_iret dX8_afterTwo_57 rfl hq
theorem b_X8_standsFast_0 {d : Nat} {Q : Option pV → pG → Prop} {g : pG} {R : pG → Prop} (hc : CT d mX8_think [vR 45] (cset g 45 (fup (g 45) 8 0)) (qV R)) (k : ∀ gg : pG, R gg → EV d mX8_standsFast Q 9 [vR 45] [] gg) : EV d mX8_standsFast Q 0 [vR 45] [] g := by
  refine wp_aload_n dX8_standsFast_0 rfl rfl ?_
  refine wp_iconst dX8_standsFast_1 kc_0 ?_
  refine wp_putI dX8_standsFast_2 fl_8_105 L_45 rfl rfl ?_
  refine wp_aload_n dX8_standsFast_5 rfl rfl ?_
  exact wp_callvV (As := []) dX8_standsFast_6 ml_8_158 (by decide) rfl L_45 (by decide) rfl (Nat.le_of_ble_eq_true rfl) rfl (Nat.le_refl _) (Nat.le_refl _) hc k
theorem b_X8_standsFast_9 {d : Nat} {Q : Option pV → pG → Prop} {g : pG} {R : Int → pG → Prop} (hc : CT d mX8_fastFrom [vR 45] g (qI R)) (k : ∀ (x : Int) (gg : pG), R x gg → EV d mX8_standsFast Q 13 [vR 45] [vI x] gg) : EV d mX8_standsFast Q 9 [vR 45] [] g := by
  refine wp_aload_n dX8_standsFast_9 rfl rfl ?_
  exact wp_callvI (As := []) dX8_standsFast_10 ml_8_306 (by decide) rfl L_45 (by decide) rfl (Nat.le_of_ble_eq_true rfl) rfl (Nat.le_refl _) (Nat.le_refl _) hc k
theorem b_X8_standsFast_13 {d : Nat} {Q : Option pV → pG → Prop} {g : pG} {vs0 : Int} (hq : Q (some (vI vs0)) g) : EV d mX8_standsFast Q 13 [vR 45] [vI vs0] g := by
  exact wp_iret dX8_standsFast_13 rfl hq
theorem b_X8_fastFrom_0 {d : Nat} {Q : Option pV → pG → Prop} {g : pG} {R : Int → pG → Prop} (hc : CT d mX8_isFor [vR 45] g (qI R)) (k : ∀ (x : Int) (gg : pG), R x gg → EV d mX8_fastFrom Q 4 [vR 45, vX 2, vX 2, vX 2, vX 2] [vI x] gg) : EV d mX8_fastFrom Q 0 [vR 45, vX 2, vX 2, vX 2, vX 2] [] g := by
  refine wp_aload_n dX8_fastFrom_0 rfl rfl ?_
  exact wp_callvI (As := []) dX8_fastFrom_1 ml_8_252 (by decide) rfl L_45 (by decide) rfl (Nat.le_of_ble_eq_true rfl) rfl (Nat.le_refl _) (Nat.le_refl _) hc k
theorem b_X8_fastFrom_4 {d : Nat} {Q : Option pV → pG → Prop} {g : pG} {vs0 : Int} (k : EV d mX8_fastFrom Q 12 [vR 45, vI vs0, vI 0, vI 1, vI 0] [] g) : EV d mX8_fastFrom Q 4 [vR 45, vX 2, vX 2, vX 2, vX 2] [vI vs0] g := by
  refine wp_istore_n dX8_fastFrom_4 (Nat.le_of_ble_eq_true rfl) (pp (c := 0) rfl rfl) ?_
  refine wp_iconst dX8_fastFrom_5 kc_0 ?_
  refine wp_istore_n dX8_fastFrom_6 (Nat.le_of_ble_eq_true rfl) (pp (c := 1) rfl rfl) ?_
  refine wp_iconst dX8_fastFrom_7 kc_1 ?_
  refine wp_istore_n dX8_fastFrom_8 (Nat.le_of_ble_eq_true rfl) (pp (c := 2) rfl rfl) ?_
  refine wp_iconst dX8_fastFrom_9 kc_0 ?_
  refine wp_istore dX8_fastFrom_10 (Nat.le_of_ble_eq_true rfl) (pp (c := 3) rfl rfl) ?_
  exact k
theorem b_X8_fastFrom_12 {d : Nat} {Q : Option pV → pG → Prop} {g : pG} {v1 v2 v3 v4 : Int} (k1 : ((g 45) 0 ≤ v4) → EV d mX8_fastFrom Q 63 [vR 45, vI v1, vI v2, vI v3, vI v4] [] g) (k2 : ¬ ((g 45) 0 ≤ v4) → EV d mX8_fastFrom Q 21 [vR 45, vI v1, vI v2, vI v3, vI v4] [] g) : EV d mX8_fastFrom Q 12 [vR 45, vI v1, vI v2, vI v3, vI v4] [] g := by
  refine wp_iload dX8_fastFrom_12 rfl ?_
  refine wp_aload_n dX8_fastFrom_14 rfl rfl ?_
  refine wp_get (v := vI ((g 45) 0)) dX8_fastFrom_15 fl_8_108 L_45 rfl ?_
  exact wp_icmp_ge (tgt := 63) dX8_fastFrom_18 rfl k1 k2
theorem b_X8_fastFrom_21 {d : Nat} {Q : Option pV → pG → Prop} {g : pG} {v1 v2 v3 v4 : Int} (k1 : (v3 = 0) → EV d mX8_fastFrom Q 63 [vR 45, vI v1, vI v2, vI v3, vI v4] [] g) (k2 : ¬ (v3 = 0) → EV d mX8_fastFrom Q 25 [vR 45, vI v1, vI v2, vI v3, vI v4] [] g) : EV d mX8_fastFrom Q 21 [vR 45, vI v1, vI v2, vI v3, vI v4] [] g := by
  refine wp_iload_n dX8_fastFrom_21 rfl ?_
  exact wp_if_eq (tgt := 63) dX8_fastFrom_22 rfl k1 k2
theorem b_X8_fastFrom_25 {d : Nat} {Q : Option pV → pG → Prop} {g : pG} {v1 v2 v3 v4 : Int} {R : pG → Prop} (hc : CT d mX8_pass [vR 45, vI v4] g (qV R)) (k : ∀ gg : pG, R gg → EV d mX8_fastFrom Q 31 [vR 45, vI v1, vI v2, vI v3, vI v4] [] gg) : EV d mX8_fastFrom Q 25 [vR 45, vI v1, vI v2, vI v3, vI v4] [] g := by
  refine wp_aload_n dX8_fastFrom_25 rfl rfl ?_
  refine wp_iload dX8_fastFrom_26 rfl ?_
  exact wp_callvV (As := [vI v4]) dX8_fastFrom_28 ml_8_154 (by decide) rfl L_45 (by decide) rfl (Nat.le_of_ble_eq_true rfl) rfl (Nat.le_refl _) (Nat.le_refl _) hc k
theorem b_X8_fastFrom_31 {d : Nat} {Q : Option pV → pG → Prop} {g : pG} {v1 v2 v3 v4 : Int} {R : Int → pG → Prop} (hc : CT d mX8_isFor [vR 45] g (qI R)) (k : ∀ (x : Int) (gg : pG), R x gg → EV d mX8_fastFrom Q 35 [vR 45, vI v1, vI v2, vI v3, vI v4] [vI x] gg) : EV d mX8_fastFrom Q 31 [vR 45, vI v1, vI v2, vI v3, vI v4] [] g := by
  refine wp_aload_n dX8_fastFrom_31 rfl rfl ?_
  exact wp_callvI (As := []) dX8_fastFrom_32 ml_8_252 (by decide) rfl L_45 (by decide) rfl (Nat.le_of_ble_eq_true rfl) rfl (Nat.le_refl _) (Nat.le_refl _) hc k
theorem b_X8_fastFrom_35 {d : Nat} {Q : Option pV → pG → Prop} {g : pG} {v1 v2 v3 v4 vs0 : Int} (k1 : (vs0 ≠ v1) → EV d mX8_fastFrom Q 43 [vR 45, vI v1, vI v2, vI v3, vI v4] [] g) (k2 : ¬ (vs0 ≠ v1) → EV d mX8_fastFrom Q 39 [vR 45, vI v1, vI v2, vI v3, vI v4] [] g) : EV d mX8_fastFrom Q 35 [vR 45, vI v1, vI v2, vI v3, vI v4] [vI vs0] g := by
  refine wp_iload_n dX8_fastFrom_35 rfl ?_
  exact wp_icmp_ne (tgt := 43) dX8_fastFrom_36 rfl k1 k2
theorem b_X8_fastFrom_39 {d : Nat} {Q : Option pV → pG → Prop} {g : pG} {v1 v2 v3 v4 : Int} (k : EV d mX8_fastFrom Q 12 [vR 45, vI v1, vI (w32 (v2 + 1)), vI 1, vI (w32 (v4 + 1))] [] g) : EV d mX8_fastFrom Q 39 [vR 45, vI v1, vI v2, vI v3, vI v4] [] g := by
  refine wp_iconst dX8_fastFrom_39 kc_1 ?_
  refine wp_goto (tgt := 44) dX8_fastFrom_40 rfl ?_
  refine wp_istore_n dX8_fastFrom_44 (Nat.le_of_ble_eq_true rfl) (pp (c := 2) rfl rfl) ?_
  refine wp_iload_n dX8_fastFrom_45 rfl ?_
  refine wp_iload_n dX8_fastFrom_46 rfl ?_
  refine wp_if_eq (tgt := 54) dX8_fastFrom_47 rfl (fun hh => absurd hh (by decide)) (fun _ => ?_)
  refine wp_iconst dX8_fastFrom_50 kc_1 ?_
  refine wp_goto (tgt := 55) dX8_fastFrom_51 rfl ?_
  refine wp_iadd dX8_fastFrom_55 ?_
  refine wp_istore_n dX8_fastFrom_56 (Nat.le_of_ble_eq_true rfl) (pp (c := 1) rfl rfl) ?_
  refine wp_iinc dX8_fastFrom_57 rfl (Nat.le_of_ble_eq_true rfl) (pp (c := 3) rfl rfl) ?_
  refine wp_goto (tgt := 12) dX8_fastFrom_60 rfl ?_
  exact k
theorem b_X8_fastFrom_43 {d : Nat} {Q : Option pV → pG → Prop} {g : pG} {v1 v2 v3 v4 : Int} (k : EV d mX8_fastFrom Q 12 [vR 45, vI v1, vI (w32 (v2 + 0)), vI 0, vI (w32 (v4 + 1))] [] g) : EV d mX8_fastFrom Q 43 [vR 45, vI v1, vI v2, vI v3, vI v4] [] g := by
  refine wp_iconst dX8_fastFrom_43 kc_0 ?_
  refine wp_istore_n dX8_fastFrom_44 (Nat.le_of_ble_eq_true rfl) (pp (c := 2) rfl rfl) ?_
  refine wp_iload_n dX8_fastFrom_45 rfl ?_
  refine wp_iload_n dX8_fastFrom_46 rfl ?_
  refine wp_if_eq (tgt := 54) dX8_fastFrom_47 rfl (fun _ => ?_) (fun hh => absurd (by decide) hh)
  refine wp_iconst dX8_fastFrom_54 kc_0 ?_
  refine wp_iadd dX8_fastFrom_55 ?_
  refine wp_istore_n dX8_fastFrom_56 (Nat.le_of_ble_eq_true rfl) (pp (c := 1) rfl rfl) ?_
  refine wp_iinc dX8_fastFrom_57 rfl (Nat.le_of_ble_eq_true rfl) (pp (c := 3) rfl rfl) ?_
  refine wp_goto (tgt := 12) dX8_fastFrom_60 rfl ?_
  exact k
theorem b_X8_fastFrom_63 {d : Nat} {Q : Option pV → pG → Prop} {g : pG} {v1 v2 v3 v4 : Int} (hq : Q (some (vI v2)) g) : EV d mX8_fastFrom Q 63 [vR 45, vI v1, vI v2, vI v3, vI v4] [] g := by
  refine wp_iload_n dX8_fastFrom_63 rfl ?_
  exact wp_iret dX8_fastFrom_64 rfl hq
theorem b_X8_survive_0 {d : Nat} {Q : Option pV → pG → Prop} {g : pG} {v1 : Int} {R : Int → pG → Prop} (hc : CT d mX8_wrongNumber [vI v1, vI 0, vI 4] (cset g 45 (fup (g 45) 8 0)) (qI R)) (k : ∀ (x : Int) (gg : pG), R x gg → EV d mX8_survive Q 11 [vR 45, vI v1, vX 2, vX 2, vX 2] [vI x] gg) : EV d mX8_survive Q 0 [vR 45, vI v1, vX 2, vX 2, vX 2] [] g := by
  refine wp_aload_n dX8_survive_0 rfl rfl ?_
  refine wp_iconst dX8_survive_1 kc_0 ?_
  refine wp_putI dX8_survive_2 fl_8_105 L_45 rfl rfl ?_
  refine wp_iload_n dX8_survive_5 rfl ?_
  refine wp_iconst dX8_survive_6 kc_0 ?_
  refine wp_iconst dX8_survive_7 kc_4 ?_
  exact wp_callsI (As := [vI v1, vI 0, vI 4]) dX8_survive_8 ml_8_235 (Or.inl rfl) rfl (Nat.le_of_ble_eq_true rfl) rfl (Nat.le_refl _) (Nat.le_refl _) hc k
theorem b_X8_survive_11 {d : Nat} {Q : Option pV → pG → Prop} {g : pG} {v1 vs0 : Int} (k1 : (0 ≤ vs0) → EV d mX8_survive Q 25 [vR 45, vI v1, vX 2, vX 2, vX 2] [] g) (k2 : ¬ (0 ≤ vs0) → EV d mX8_survive Q 14 [vR 45, vI v1, vX 2, vX 2, vX 2] [] g) : EV d mX8_survive Q 11 [vR 45, vI v1, vX 2, vX 2, vX 2] [vI vs0] g := by
  exact wp_if_ge (tgt := 25) dX8_survive_11 rfl k1 k2
theorem b_X8_survive_14 {d : Nat} {Q : Option pV → pG → Prop} {g : pG} {v1 : Int} {R : Int → pG → Prop} (hc : CT d mX8_wrongNumber [vI v1, vI 0, vI 4] g (qI R)) (k : ∀ (x : Int) (gg : pG), R x gg → EV d mX8_survive Q 21 [vR 45, vI v1, vX 2, vX 2, vX 2] [vI x, vR 45] gg) : EV d mX8_survive Q 14 [vR 45, vI v1, vX 2, vX 2, vX 2] [] g := by
  refine wp_aload_n dX8_survive_14 rfl rfl ?_
  refine wp_iload_n dX8_survive_15 rfl ?_
  refine wp_iconst dX8_survive_16 kc_0 ?_
  refine wp_iconst dX8_survive_17 kc_4 ?_
  exact wp_callsI (As := [vI v1, vI 0, vI 4]) dX8_survive_18 ml_8_235 (Or.inl rfl) rfl (Nat.le_of_ble_eq_true rfl) rfl (Nat.le_refl _) (Nat.le_refl _) hc k
theorem b_X8_survive_21 {d : Nat} {Q : Option pV → pG → Prop} {g : pG} {v1 vs1 : Int} {R : Int → pG → Prop} (hc : CT d mX8_refuse [vR 45, vI vs1] g (qI R)) (k : ∀ (x : Int) (gg : pG), R x gg → EV d mX8_survive Q 24 [vR 45, vI v1, vX 2, vX 2, vX 2] [vI x] gg) : EV d mX8_survive Q 21 [vR 45, vI v1, vX 2, vX 2, vX 2] [vI vs1, vR 45] g := by
  exact wp_callvI (As := [vI vs1]) dX8_survive_21 ml_8_164 (by decide) rfl L_45 (by decide) rfl (Nat.le_of_ble_eq_true rfl) rfl (Nat.le_refl _) (Nat.le_refl _) hc k
theorem b_X8_survive_24 {d : Nat} {Q : Option pV → pG → Prop} {g : pG} {v1 vs0 : Int} (hq : Q (some (vI vs0)) g) : EV d mX8_survive Q 24 [vR 45, vI v1, vX 2, vX 2, vX 2] [vI vs0] g := by
  exact wp_iret dX8_survive_24 rfl hq
theorem b_X8_survive_25 {d : Nat} {Q : Option pV → pG → Prop} {g : pG} {v1 : Int} (k : EV d mX8_survive Q 36 [vR 45, vI v1, vI (w32 ((w32 (2 * v1)) + 1)), vI 0, vI 0] [] g) : EV d mX8_survive Q 25 [vR 45, vI v1, vX 2, vX 2, vX 2] [] g := by
  refine wp_iconst dX8_survive_25 kc_2 ?_
  refine wp_iload_n dX8_survive_26 rfl ?_
  refine wp_imul dX8_survive_27 ?_
  refine wp_iconst dX8_survive_28 kc_1 ?_
  refine wp_iadd dX8_survive_29 ?_
  refine wp_istore_n dX8_survive_30 (Nat.le_of_ble_eq_true rfl) (pp (c := 1) rfl rfl) ?_
  refine wp_iconst dX8_survive_31 kc_0 ?_
  refine wp_istore_n dX8_survive_32 (Nat.le_of_ble_eq_true rfl) (pp (c := 2) rfl rfl) ?_
  refine wp_iconst dX8_survive_33 kc_0 ?_
  refine wp_istore dX8_survive_34 (Nat.le_of_ble_eq_true rfl) (pp (c := 3) rfl rfl) ?_
  exact k
theorem b_X8_survive_36 {d : Nat} {Q : Option pV → pG → Prop} {g : pG} {v1 v2 v3 v4 : Int} (k1 : (w32 ((w32 (v2 * v2)) * v2) ≤ v4) → EV d mX8_survive Q 78 [vR 45, vI v1, vI v2, vI v3, vI v4] [] g) (k2 : ¬ (w32 ((w32 (v2 * v2)) * v2) ≤ v4) → EV d mX8_survive Q 46 [vR 45, vI v1, vI v2, vI v3, vI v4] [] g) : EV d mX8_survive Q 36 [vR 45, vI v1, vI v2, vI v3, vI v4] [] g := by
  refine wp_iload dX8_survive_36 rfl ?_
  refine wp_iload_n dX8_survive_38 rfl ?_
  refine wp_iload_n dX8_survive_39 rfl ?_
  refine wp_imul dX8_survive_40 ?_
  refine wp_iload_n dX8_survive_41 rfl ?_
  refine wp_imul dX8_survive_42 ?_
  exact wp_icmp_ge (tgt := 78) dX8_survive_43 rfl k1 k2
theorem b_X8_survive_46 {d : Nat} {Q : Option pV → pG → Prop} {g : pG} {v1 v2 v3 v4 : Int} {R : pG → Prop} (hc : CT d mX8_thinkThree [vR 45, vI v4, vI v1] g (qV R)) (k : ∀ gg : pG, R gg → EV d mX8_survive Q 53 [vR 45, vI v1, vI v2, vI v3, vI v4] [] gg) : EV d mX8_survive Q 46 [vR 45, vI v1, vI v2, vI v3, vI v4] [] g := by
  refine wp_aload_n dX8_survive_46 rfl rfl ?_
  refine wp_iload dX8_survive_47 rfl ?_
  refine wp_iload_n dX8_survive_49 rfl ?_
  exact wp_callvV (As := [vI v4, vI v1]) dX8_survive_50 ml_8_309 (by decide) rfl L_45 (by decide) rfl (Nat.le_of_ble_eq_true rfl) rfl (Nat.le_refl _) (Nat.le_refl _) hc k
theorem b_X8_survive_53 {d : Nat} {Q : Option pV → pG → Prop} {g : pG} {v1 v2 v3 v4 : Int} {R : Int → pG → Prop} (hc : CT d mX8_fastFrom [vR 45] g (qI R)) (k : ∀ (x : Int) (gg : pG), R x gg → EV d mX8_survive Q 58 [vR 45, vI v1, vI v2, vI v3, vI v4] [vI x, vI v3] gg) : EV d mX8_survive Q 53 [vR 45, vI v1, vI v2, vI v3, vI v4] [] g := by
  refine wp_iload_n dX8_survive_53 rfl ?_
  refine wp_aload_n dX8_survive_54 rfl rfl ?_
  exact wp_callvI (As := []) dX8_survive_55 ml_8_306 (by decide) rfl L_45 (by decide) rfl (Nat.le_of_ble_eq_true rfl) rfl (Nat.le_refl _) (Nat.le_refl _) hc k
theorem b_X8_survive_58 {d : Nat} {Q : Option pV → pG → Prop} {g : pG} {v1 v2 v3 v4 vs0 vs1 : Int} (k1 : (vs1 ≠ (g 45) 0) → EV d mX8_survive Q 69 [vR 45, vI v1, vI v2, vI v3, vI v4] [vI vs0] g) (k2 : ¬ (vs1 ≠ (g 45) 0) → EV d mX8_survive Q 65 [vR 45, vI v1, vI v2, vI v3, vI v4] [vI vs0] g) : EV d mX8_survive Q 58 [vR 45, vI v1, vI v2, vI v3, vI v4] [vI vs1, vI vs0] g := by
  refine wp_aload_n dX8_survive_58 rfl rfl ?_
  refine wp_get (v := vI ((g 45) 0)) dX8_survive_59 fl_8_108 L_45 rfl ?_
  exact wp_icmp_ne (tgt := 69) dX8_survive_62 rfl k1 k2
theorem b_X8_survive_65 {d : Nat} {Q : Option pV → pG → Prop} {g : pG} {v1 v2 v3 v4 vs0 : Int} (k : EV d mX8_survive Q 36 [vR 45, vI v1, vI v2, vI (w32 (vs0 + 1)), vI (w32 (v4 + 1))] [] g) : EV d mX8_survive Q 65 [vR 45, vI v1, vI v2, vI v3, vI v4] [vI vs0] g := by
  refine wp_iconst dX8_survive_65 kc_1 ?_
  refine wp_goto (tgt := 70) dX8_survive_66 rfl ?_
  refine wp_iadd dX8_survive_70 ?_
  refine wp_istore_n dX8_survive_71 (Nat.le_of_ble_eq_true rfl) (pp (c := 2) rfl rfl) ?_
  refine wp_iinc dX8_survive_72 rfl (Nat.le_of_ble_eq_true rfl) (pp (c := 3) rfl rfl) ?_
  refine wp_goto (tgt := 36) dX8_survive_75 rfl ?_
  exact k
theorem b_X8_survive_69 {d : Nat} {Q : Option pV → pG → Prop} {g : pG} {v1 v2 v3 v4 vs0 : Int} (k : EV d mX8_survive Q 36 [vR 45, vI v1, vI v2, vI (w32 (vs0 + 0)), vI (w32 (v4 + 1))] [] g) : EV d mX8_survive Q 69 [vR 45, vI v1, vI v2, vI v3, vI v4] [vI vs0] g := by
  refine wp_iconst dX8_survive_69 kc_0 ?_
  refine wp_iadd dX8_survive_70 ?_
  refine wp_istore_n dX8_survive_71 (Nat.le_of_ble_eq_true rfl) (pp (c := 2) rfl rfl) ?_
  refine wp_iinc dX8_survive_72 rfl (Nat.le_of_ble_eq_true rfl) (pp (c := 3) rfl rfl) ?_
  refine wp_goto (tgt := 36) dX8_survive_75 rfl ?_
  exact k
theorem b_X8_survive_78 {d : Nat} {Q : Option pV → pG → Prop} {g : pG} {v1 v2 v3 v4 : Int} (hq : Q (some (vI v3)) g) : EV d mX8_survive Q 78 [vR 45, vI v1, vI v2, vI v3, vI v4] [] g := by
  refine wp_iload_n dX8_survive_78 rfl ?_
  exact wp_iret dX8_survive_79 rfl hq
theorem b_X8_thinkThree_0 {d : Nat} {Q : Option pV → pG → Prop} {g : pG} {v1 v2 : Int} (h1 : w32 ((w32 ((w32 (2 * v2)) + 1)) * (w32 ((w32 (2 * v2)) + 1))) ≠ 0) (h2 : w32 ((w32 (2 * v2)) + 1) ≠ 0) (hq : Q none (cset (cset (cset (cset g 45 (fup (g 45) 11 3)) 51 (fup (g 51) 0 (w32 ((w32 (v1.tdiv (w32 ((w32 ((w32 (2 * v2)) + 1)) * (w32 ((w32 (2 * v2)) + 1)))))) - v2)))) 51 (fup (fup (g 51) 0 (w32 ((w32 (v1.tdiv (w32 ((w32 ((w32 (2 * v2)) + 1)) * (w32 ((w32 (2 * v2)) + 1)))))) - v2))) 1 (w32 ((w32 ((w32 (v1.tdiv (w32 ((w32 (2 * v2)) + 1)))).tmod (w32 ((w32 (2 * v2)) + 1)))) - v2)))) 51 (fup (fup (fup (g 51) 0 (w32 ((w32 (v1.tdiv (w32 ((w32 ((w32 (2 * v2)) + 1)) * (w32 ((w32 (2 * v2)) + 1)))))) - v2))) 1 (w32 ((w32 ((w32 (v1.tdiv (w32 ((w32 (2 * v2)) + 1)))).tmod (w32 ((w32 (2 * v2)) + 1)))) - v2))) 2 (w32 ((w32 (v1.tmod (w32 ((w32 (2 * v2)) + 1)))) - v2))))) : EV d mX8_thinkThree Q 0 [vR 45, vI v1, vI v2, vX 2] [] g := by
  refine wp_iconst dX8_thinkThree_0 kc_2 ?_
  refine wp_iload_n dX8_thinkThree_1 rfl ?_
  refine wp_imul dX8_thinkThree_2 ?_
  refine wp_iconst dX8_thinkThree_3 kc_1 ?_
  refine wp_iadd dX8_thinkThree_4 ?_
  refine wp_istore_n dX8_thinkThree_5 (Nat.le_of_ble_eq_true rfl) (pp (c := 2) rfl rfl) ?_
  refine wp_aload_n dX8_thinkThree_6 rfl rfl ?_
  refine wp_iconst dX8_thinkThree_7 kc_3 ?_
  refine wp_putI dX8_thinkThree_8 fl_8_115 L_45 rfl rfl ?_
  refine wp_aload_n dX8_thinkThree_11 rfl rfl ?_
  refine wp_get (v := vR 51) dX8_thinkThree_12 fl_8_35 L_45 rfl ?_
  refine wp_iconst dX8_thinkThree_15 kc_0 ?_
  refine wp_iload_n dX8_thinkThree_16 rfl ?_
  refine wp_iload_n dX8_thinkThree_17 rfl ?_
  refine wp_iload_n dX8_thinkThree_18 rfl ?_
  refine wp_imul dX8_thinkThree_19 ?_
  refine wp_idiv dX8_thinkThree_20 h1 ?_
  refine wp_iload_n dX8_thinkThree_21 rfl ?_
  refine wp_isub dX8_thinkThree_22 ?_
  refine wp_iastore dX8_thinkThree_23 (by decide) L_51 (by decide) ?_
  refine wp_aload_n dX8_thinkThree_24 rfl rfl ?_
  refine wp_get (v := vR 51) dX8_thinkThree_25 fl_8_35 L_45 rfl ?_
  refine wp_iconst dX8_thinkThree_28 kc_1 ?_
  refine wp_iload_n dX8_thinkThree_29 rfl ?_
  refine wp_iload_n dX8_thinkThree_30 rfl ?_
  refine wp_idiv dX8_thinkThree_31 h2 ?_
  refine wp_iload_n dX8_thinkThree_32 rfl ?_
  refine wp_irem dX8_thinkThree_33 h2 ?_
  refine wp_iload_n dX8_thinkThree_34 rfl ?_
  refine wp_isub dX8_thinkThree_35 ?_
  refine wp_iastore dX8_thinkThree_36 (by decide) L_51 (by decide) ?_
  refine wp_aload_n dX8_thinkThree_37 rfl rfl ?_
  refine wp_get (v := vR 51) dX8_thinkThree_38 fl_8_35 L_45 rfl ?_
  refine wp_iconst dX8_thinkThree_41 kc_2 ?_
  refine wp_iload_n dX8_thinkThree_42 rfl ?_
  refine wp_iload_n dX8_thinkThree_43 rfl ?_
  refine wp_irem dX8_thinkThree_44 h2 ?_
  refine wp_iload_n dX8_thinkThree_45 rfl ?_
  refine wp_isub dX8_thinkThree_46 ?_
  refine wp_iastore dX8_thinkThree_47 (by decide) L_51 (by decide) ?_
  exact wp_vret dX8_thinkThree_48 rfl hq
theorem b_X8_fits_0 {d : Nat} {Q : Option pV → pG → Prop} {g : pG} {v1 : Int} {R : Int → pG → Prop} (hc : CT d mX8_wrongNumber [vI v1, vI 0, vI 9] (cset g 45 (fup (g 45) 8 0)) (qI R)) (k : ∀ (x : Int) (gg : pG), R x gg → EV d mX8_fits Q 12 [vR 45, vI v1, vX 2, vX 2, vX 2, vX 2, vX 2] [vI x] gg) : EV d mX8_fits Q 0 [vR 45, vI v1, vX 2, vX 2, vX 2, vX 2, vX 2] [] g := by
  refine wp_aload_n dX8_fits_0 rfl rfl ?_
  refine wp_iconst dX8_fits_1 kc_0 ?_
  refine wp_putI dX8_fits_2 fl_8_105 L_45 rfl rfl ?_
  refine wp_iload_n dX8_fits_5 rfl ?_
  refine wp_iconst dX8_fits_6 kc_0 ?_
  refine wp_bipush dX8_fits_7 kb_9 kc_9 ?_
  exact wp_callsI (As := [vI v1, vI 0, vI 9]) dX8_fits_9 ml_8_235 (Or.inl rfl) rfl (Nat.le_of_ble_eq_true rfl) rfl (Nat.le_refl _) (Nat.le_refl _) hc k
theorem b_X8_fits_12 {d : Nat} {Q : Option pV → pG → Prop} {g : pG} {v1 vs0 : Int} (k1 : (vs0 ≠ 0) → EV d mX8_fits Q 33 [vR 45, vI v1, vI vs0, vX 2, vX 2, vX 2, vX 2] [] g) (k2 : ¬ (vs0 ≠ 0) → EV d mX8_fits Q 17 [vR 45, vI v1, vI vs0, vX 2, vX 2, vX 2, vX 2] [] g) : EV d mX8_fits Q 12 [vR 45, vI v1, vX 2, vX 2, vX 2, vX 2, vX 2] [vI vs0] g := by
  refine wp_istore_n dX8_fits_12 (Nat.le_of_ble_eq_true rfl) (pp (c := 1) rfl rfl) ?_
  refine wp_iload_n dX8_fits_13 rfl ?_
  exact wp_if_ne (tgt := 33) dX8_fits_14 rfl k1 k2
theorem b_X8_fits_17 {d : Nat} {Q : Option pV → pG → Prop} {g : pG} {v1 v2 : Int} (k1 : ((g 45) 41 = w32 (2 * ((g 45) 4))) → EV d mX8_fits Q 33 [vR 45, vI v1, vI v2, vX 2, vX 2, vX 2, vX 2] [] g) (k2 : ¬ ((g 45) 41 = w32 (2 * ((g 45) 4))) → EV d mX8_fits Q 30 [vR 45, vI v1, vI v2, vX 2, vX 2, vX 2, vX 2] [] g) : EV d mX8_fits Q 17 [vR 45, vI v1, vI v2, vX 2, vX 2, vX 2, vX 2] [] g := by
  refine wp_aload_n dX8_fits_17 rfl rfl ?_
  refine wp_get (v := vI ((g 45) 41)) dX8_fits_18 fl_8_312 L_45 rfl ?_
  refine wp_iconst dX8_fits_21 kc_2 ?_
  refine wp_aload_n dX8_fits_22 rfl rfl ?_
  refine wp_get (v := vI ((g 45) 4)) dX8_fits_23 fl_8_19 L_45 rfl ?_
  refine wp_imul dX8_fits_26 ?_
  exact wp_icmp_eq (tgt := 33) dX8_fits_27 rfl k1 k2
theorem b_X8_fits_30 {d : Nat} {Q : Option pV → pG → Prop} {g : pG} {v1 v2 : Int} (k : EV d mX8_fits Q 35 [vR 45, vI v1, vI (-3), vI 0, vX 2, vX 2, vX 2] [] g) : EV d mX8_fits Q 30 [vR 45, vI v1, vI v2, vX 2, vX 2, vX 2, vX 2] [] g := by
  refine wp_bipush dX8_fits_30 kb_m3 kc_m3 ?_
  refine wp_istore_n dX8_fits_32 (Nat.le_of_ble_eq_true rfl) (pp (c := 1) rfl rfl) ?_
  refine wp_iconst dX8_fits_33 kc_0 ?_
  refine wp_istore_n dX8_fits_34 (Nat.le_of_ble_eq_true rfl) (pp (c := 2) rfl rfl) ?_
  exact k
theorem b_X8_fits_33 {d : Nat} {Q : Option pV → pG → Prop} {g : pG} {v1 v2 : Int} (k : EV d mX8_fits Q 35 [vR 45, vI v1, vI v2, vI 0, vX 2, vX 2, vX 2] [] g) : EV d mX8_fits Q 33 [vR 45, vI v1, vI v2, vX 2, vX 2, vX 2, vX 2] [] g := by
  refine wp_iconst dX8_fits_33 kc_0 ?_
  refine wp_istore_n dX8_fits_34 (Nat.le_of_ble_eq_true rfl) (pp (c := 2) rfl rfl) ?_
  exact k
theorem b_X8_fits_35 {d : Nat} {Q : Option pV → pG → Prop} {g : pG} {v1 v2 v3 : Int} (k1 : ((g 45) 41 ≤ v3) → EV d mX8_fits Q 71 [vR 45, vI v1, vI v2, vI v3, vX 2, vX 2, vX 2] [] g) (k2 : ¬ ((g 45) 41 ≤ v3) → EV d mX8_fits Q 43 [vR 45, vI v1, vI v2, vI v3, vX 2, vX 2, vX 2] [] g) : EV d mX8_fits Q 35 [vR 45, vI v1, vI v2, vI v3, vX 2, vX 2, vX 2] [] g := by
  refine wp_iload_n dX8_fits_35 rfl ?_
  refine wp_aload_n dX8_fits_36 rfl rfl ?_
  refine wp_get (v := vI ((g 45) 41)) dX8_fits_37 fl_8_312 L_45 rfl ?_
  exact wp_icmp_ge (tgt := 71) dX8_fits_40 rfl k1 k2
theorem b_X8_fits_43 {d : Nat} {Q : Option pV → pG → Prop} {g : pG} {v1 v2 v3 : Int} (k1 : (v2 ≠ 0) → EV d mX8_fits Q 63 [vR 45, vI v1, vI v2, vI v3, vX 2, vX 2, vX 2] [] g) (k2 : ¬ (v2 ≠ 0) → EV d mX8_fits Q 47 [vR 45, vI v1, vI v2, vI v3, vX 2, vX 2, vX 2] [] g) : EV d mX8_fits Q 43 [vR 45, vI v1, vI v2, vI v3, vX 2, vX 2, vX 2] [] g := by
  refine wp_iload_n dX8_fits_43 rfl ?_
  exact wp_if_ne (tgt := 63) dX8_fits_44 rfl k1 k2
theorem b_X8_fits_47 {d : Nat} {Q : Option pV → pG → Prop} {g : pG} {v1 v2 v3 : Int} (h1 : 0 ≤ v3) (h2 : v3 < 16) (k1 : ((g 68) v3.toNat ≤ 18) → EV d mX8_fits Q 63 [vR 45, vI v1, vI v2, vI v3, vX 2, vX 2, vX 2] [] g) (k2 : ¬ ((g 68) v3.toNat ≤ 18) → EV d mX8_fits Q 58 [vR 45, vI v1, vI v2, vI v3, vX 2, vX 2, vX 2] [] g) : EV d mX8_fits Q 47 [vR 45, vI v1, vI v2, vI v3, vX 2, vX 2, vX 2] [] g := by
  refine wp_aload_n dX8_fits_47 rfl rfl ?_
  refine wp_get (v := vR 68) dX8_fits_48 fl_8_87 L_45 rfl ?_
  refine wp_iload_n dX8_fits_51 rfl ?_
  refine wp_iaload dX8_fits_52 h1 L_68 h2 ?_
  refine wp_bipush dX8_fits_53 kb_18 kc_18 ?_
  exact wp_icmp_le (tgt := 63) dX8_fits_55 rfl k1 k2
theorem b_X8_fits_58 {d : Nat} {Q : Option pV → pG → Prop} {g : pG} {v1 v2 v3 : Int} (k : EV d mX8_fits Q 35 [vR 45, vI v1, vI (-3), vI (w32 (v3 + 1)), vX 2, vX 2, vX 2] [] g) : EV d mX8_fits Q 58 [vR 45, vI v1, vI v2, vI v3, vX 2, vX 2, vX 2] [] g := by
  refine wp_bipush dX8_fits_58 kb_m3 kc_m3 ?_
  refine wp_goto (tgt := 64) dX8_fits_60 rfl ?_
  refine wp_istore_n dX8_fits_64 (Nat.le_of_ble_eq_true rfl) (pp (c := 1) rfl rfl) ?_
  refine wp_iinc dX8_fits_65 rfl (Nat.le_of_ble_eq_true rfl) (pp (c := 2) rfl rfl) ?_
  refine wp_goto (tgt := 35) dX8_fits_68 rfl ?_
  exact k
theorem b_X8_fits_63 {d : Nat} {Q : Option pV → pG → Prop} {g : pG} {v1 v2 v3 : Int} (k : EV d mX8_fits Q 35 [vR 45, vI v1, vI v2, vI (w32 (v3 + 1)), vX 2, vX 2, vX 2] [] g) : EV d mX8_fits Q 63 [vR 45, vI v1, vI v2, vI v3, vX 2, vX 2, vX 2] [] g := by
  refine wp_iload_n dX8_fits_63 rfl ?_
  refine wp_istore_n dX8_fits_64 (Nat.le_of_ble_eq_true rfl) (pp (c := 1) rfl rfl) ?_
  refine wp_iinc dX8_fits_65 rfl (Nat.le_of_ble_eq_true rfl) (pp (c := 2) rfl rfl) ?_
  refine wp_goto (tgt := 35) dX8_fits_68 rfl ?_
  exact k
theorem b_X8_fits_71 {d : Nat} {Q : Option pV → pG → Prop} {g : pG} {v1 v2 v3 : Int} (k1 : (0 ≤ v2) → EV d mX8_fits Q 81 [vR 45, vI v1, vI v2, vI v3, vX 2, vX 2, vX 2] [] g) (k2 : ¬ (0 ≤ v2) → EV d mX8_fits Q 75 [vR 45, vI v1, vI v2, vI v3, vX 2, vX 2, vX 2] [] g) : EV d mX8_fits Q 71 [vR 45, vI v1, vI v2, vI v3, vX 2, vX 2, vX 2] [] g := by
  refine wp_iload_n dX8_fits_71 rfl ?_
  exact wp_if_ge (tgt := 81) dX8_fits_72 rfl k1 k2
theorem b_X8_fits_75 {d : Nat} {Q : Option pV → pG → Prop} {g : pG} {v1 v2 v3 : Int} {R : Int → pG → Prop} (hc : CT d mX8_refuse [vR 45, vI v2] g (qI R)) (k : ∀ (x : Int) (gg : pG), R x gg → EV d mX8_fits Q 80 [vR 45, vI v1, vI v2, vI v3, vX 2, vX 2, vX 2] [vI x] gg) : EV d mX8_fits Q 75 [vR 45, vI v1, vI v2, vI v3, vX 2, vX 2, vX 2] [] g := by
  refine wp_aload_n dX8_fits_75 rfl rfl ?_
  refine wp_iload_n dX8_fits_76 rfl ?_
  exact wp_callvI (As := [vI v2]) dX8_fits_77 ml_8_164 (by decide) rfl L_45 (by decide) rfl (Nat.le_of_ble_eq_true rfl) rfl (Nat.le_refl _) (Nat.le_refl _) hc k
theorem b_X8_fits_80 {d : Nat} {Q : Option pV → pG → Prop} {g : pG} {v1 v2 v3 vs0 : Int} (hq : Q (some (vI vs0)) g) : EV d mX8_fits Q 80 [vR 45, vI v1, vI v2, vI v3, vX 2, vX 2, vX 2] [vI vs0] g := by
  exact wp_iret dX8_fits_80 rfl hq
theorem b_X8_fits_81 {d : Nat} {Q : Option pV → pG → Prop} {g : pG} {v1 v2 v3 : Int} (k : EV d mX8_fits Q 86 [vR 45, vI v1, vI v2, vI 0, vI 0, vX 2, vX 2] [] g) : EV d mX8_fits Q 81 [vR 45, vI v1, vI v2, vI v3, vX 2, vX 2, vX 2] [] g := by
  refine wp_iconst dX8_fits_81 kc_0 ?_
  refine wp_istore_n dX8_fits_82 (Nat.le_of_ble_eq_true rfl) (pp (c := 2) rfl rfl) ?_
  refine wp_iconst dX8_fits_83 kc_0 ?_
  refine wp_istore dX8_fits_84 (Nat.le_of_ble_eq_true rfl) (pp (c := 3) rfl rfl) ?_
  exact k
theorem b_X8_fits_86 {d : Nat} {Q : Option pV → pG → Prop} {g : pG} {v1 v2 v3 v4 : Int} {u5 u6 : pV} (k1 : (6 ≤ v4) → EV d mX8_fits Q 224 [vR 45, vI v1, vI v2, vI v3, vI v4, u5, u6] [] g) (k2 : ¬ (6 ≤ v4) → EV d mX8_fits Q 93 [vR 45, vI v1, vI v2, vI v3, vI v4, u5, u6] [] g) : EV d mX8_fits Q 86 [vR 45, vI v1, vI v2, vI v3, vI v4, u5, u6] [] g := by
  refine wp_iload dX8_fits_86 rfl ?_
  refine wp_bipush dX8_fits_88 kb_6 kc_6 ?_
  exact wp_icmp_ge (tgt := 224) dX8_fits_90 rfl k1 k2
theorem b_X8_fits_93 {d : Nat} {Q : Option pV → pG → Prop} {g : pG} {v1 v2 v3 v4 : Int} {u5 u6 : pV} (k : EV d mX8_fits Q 104 [vR 45, vI v1, vI v2, vI v3, vI v4, vI 0, u6] [] (cset g 45 (fup (g 45) 11 ((g 45) 4)))) : EV d mX8_fits Q 93 [vR 45, vI v1, vI v2, vI v3, vI v4, u5, u6] [] g := by
  refine wp_aload_n dX8_fits_93 rfl rfl ?_
  refine wp_aload_n dX8_fits_94 rfl rfl ?_
  refine wp_get (v := vI ((g 45) 4)) dX8_fits_95 fl_8_19 L_45 rfl ?_
  refine wp_putI dX8_fits_98 fl_8_115 L_45 rfl rfl ?_
  refine wp_iconst dX8_fits_101 kc_0 ?_
  refine wp_istore dX8_fits_102 (Nat.le_of_ble_eq_true rfl) (pp (c := 4) rfl rfl) ?_
  exact k
theorem b_X8_fits_104 {d : Nat} {Q : Option pV → pG → Prop} {g : pG} {v1 v2 v3 v4 v5 : Int} {u6 : pV} (k1 : ((g 45) 4 ≤ v5) → EV d mX8_fits Q 138 [vR 45, vI v1, vI v2, vI v3, vI v4, vI v5, u6] [] g) (k2 : ¬ ((g 45) 4 ≤ v5) → EV d mX8_fits Q 113 [vR 45, vI v1, vI v2, vI v3, vI v4, vI v5, u6] [] g) : EV d mX8_fits Q 104 [vR 45, vI v1, vI v2, vI v3, vI v4, vI v5, u6] [] g := by
  refine wp_iload dX8_fits_104 rfl ?_
  refine wp_aload_n dX8_fits_106 rfl rfl ?_
  refine wp_get (v := vI ((g 45) 4)) dX8_fits_107 fl_8_19 L_45 rfl ?_
  exact wp_icmp_ge (tgt := 138) dX8_fits_110 rfl k1 k2
theorem b_X8_fits_113 {d : Nat} {Q : Option pV → pG → Prop} {g : pG} {v1 v2 v3 v4 v5 : Int} {u6 : pV} (h1 : 0 ≤ w32 (2 * v5)) (h2 : w32 (2 * v5) < 16) (h3 : 0 ≤ v5) (h4 : v5 < 8) (k : EV d mX8_fits Q 104 [vR 45, vI v1, vI v2, vI v3, vI v4, vI (w32 (v5 + 1)), u6] [] (cset g 51 (fup (g 51) v5.toNat (w32 (((g 68) (w32 (2 * v5)).toNat) - 9))))) : EV d mX8_fits Q 113 [vR 45, vI v1, vI v2, vI v3, vI v4, vI v5, u6] [] g := by
  refine wp_aload_n dX8_fits_113 rfl rfl ?_
  refine wp_get (v := vR 51) dX8_fits_114 fl_8_35 L_45 rfl ?_
  refine wp_iload dX8_fits_117 rfl ?_
  refine wp_aload_n dX8_fits_119 rfl rfl ?_
  refine wp_get (v := vR 68) dX8_fits_120 fl_8_87 L_45 rfl ?_
  refine wp_iconst dX8_fits_123 kc_2 ?_
  refine wp_iload dX8_fits_124 rfl ?_
  refine wp_imul dX8_fits_126 ?_
  refine wp_iaload dX8_fits_127 h1 L_68 h2 ?_
  refine wp_bipush dX8_fits_128 kb_9 kc_9 ?_
  refine wp_isub dX8_fits_130 ?_
  refine wp_iastore dX8_fits_131 h3 L_51 h4 ?_
  refine wp_iinc dX8_fits_132 rfl (Nat.le_of_ble_eq_true rfl) (pp (c := 4) rfl rfl) ?_
  refine wp_goto (tgt := 104) dX8_fits_135 rfl ?_
  exact k
theorem b_X8_fits_138 {d : Nat} {Q : Option pV → pG → Prop} {g : pG} {v1 v2 v3 v4 v5 : Int} {u6 : pV} {R : pG → Prop} (hc : CT d mX8_act [vR 45, vI v4, vI v1] g (qV R)) (k : ∀ gg : pG, R gg → EV d mX8_fits Q 145 [vR 45, vI v1, vI v2, vI v3, vI v4, vI v5, u6] [] gg) : EV d mX8_fits Q 138 [vR 45, vI v1, vI v2, vI v3, vI v4, vI v5, u6] [] g := by
  refine wp_aload_n dX8_fits_138 rfl rfl ?_
  refine wp_iload dX8_fits_139 rfl ?_
  refine wp_iload_n dX8_fits_141 rfl ?_
  exact wp_callvV (As := [vI v4, vI v1]) dX8_fits_142 ml_8_146 (by decide) rfl L_45 (by decide) rfl (Nat.le_of_ble_eq_true rfl) rfl (Nat.le_refl _) (Nat.le_refl _) hc k
theorem b_X8_fits_145 {d : Nat} {Q : Option pV → pG → Prop} {g : pG} {v1 v2 v3 v4 v5 : Int} {u6 : pV} (k : EV d mX8_fits Q 151 [vR 45, vI v1, vI v2, vI v3, vI v4, vI 1, vI 0] [] g) : EV d mX8_fits Q 145 [vR 45, vI v1, vI v2, vI v3, vI v4, vI v5, u6] [] g := by
  refine wp_iconst dX8_fits_145 kc_1 ?_
  refine wp_istore dX8_fits_146 (Nat.le_of_ble_eq_true rfl) (pp (c := 4) rfl rfl) ?_
  refine wp_iconst dX8_fits_148 kc_0 ?_
  refine wp_istore dX8_fits_149 (Nat.le_of_ble_eq_true rfl) (pp (c := 5) rfl rfl) ?_
  exact k
theorem b_X8_fits_151 {d : Nat} {Q : Option pV → pG → Prop} {g : pG} {v1 v2 v3 v4 v5 v6 : Int} (k1 : ((g 45) 4 ≤ v6) → EV d mX8_fits Q 202 [vR 45, vI v1, vI v2, vI v3, vI v4, vI v5, vI v6] [] g) (k2 : ¬ ((g 45) 4 ≤ v6) → EV d mX8_fits Q 160 [vR 45, vI v1, vI v2, vI v3, vI v4, vI v5, vI v6] [] g) : EV d mX8_fits Q 151 [vR 45, vI v1, vI v2, vI v3, vI v4, vI v5, vI v6] [] g := by
  refine wp_iload dX8_fits_151 rfl ?_
  refine wp_aload_n dX8_fits_153 rfl rfl ?_
  refine wp_get (v := vI ((g 45) 4)) dX8_fits_154 fl_8_19 L_45 rfl ?_
  exact wp_icmp_ge (tgt := 202) dX8_fits_157 rfl k1 k2
theorem b_X8_fits_160 {d : Nat} {Q : Option pV → pG → Prop} {g : pG} {v1 v2 v3 v4 v5 v6 : Int} (k1 : (v5 = 0) → EV d mX8_fits Q 193 [vR 45, vI v1, vI v2, vI v3, vI v4, vI v5, vI v6] [] g) (k2 : ¬ (v5 = 0) → EV d mX8_fits Q 165 [vR 45, vI v1, vI v2, vI v3, vI v4, vI v5, vI v6] [] g) : EV d mX8_fits Q 160 [vR 45, vI v1, vI v2, vI v3, vI v4, vI v5, vI v6] [] g := by
  refine wp_iload dX8_fits_160 rfl ?_
  exact wp_if_eq (tgt := 193) dX8_fits_162 rfl k1 k2
theorem b_X8_fits_165 {d : Nat} {Q : Option pV → pG → Prop} {g : pG} {v1 v2 v3 v4 v5 v6 : Int} (h1 : 0 ≤ v6) (h2 : v6 < 8) (h3 : 0 ≤ w32 ((w32 (2 * v6)) + 1)) (h4 : w32 ((w32 (2 * v6)) + 1) < 16) (k1 : ((g 51) v6.toNat ≠ w32 (((g 68) (w32 ((w32 (2 * v6)) + 1)).toNat) - 9)) → EV d mX8_fits Q 193 [vR 45, vI v1, vI v2, vI v3, vI v4, vI v5, vI v6] [] g) (k2 : ¬ ((g 51) v6.toNat ≠ w32 (((g 68) (w32 ((w32 (2 * v6)) + 1)).toNat) - 9)) → EV d mX8_fits Q 189 [vR 45, vI v1, vI v2, vI v3, vI v4, vI v5, vI v6] [] g) : EV d mX8_fits Q 165 [vR 45, vI v1, vI v2, vI v3, vI v4, vI v5, vI v6] [] g := by
  refine wp_aload_n dX8_fits_165 rfl rfl ?_
  refine wp_get (v := vR 51) dX8_fits_166 fl_8_35 L_45 rfl ?_
  refine wp_iload dX8_fits_169 rfl ?_
  refine wp_iaload dX8_fits_171 h1 L_51 h2 ?_
  refine wp_aload_n dX8_fits_172 rfl rfl ?_
  refine wp_get (v := vR 68) dX8_fits_173 fl_8_87 L_45 rfl ?_
  refine wp_iconst dX8_fits_176 kc_2 ?_
  refine wp_iload dX8_fits_177 rfl ?_
  refine wp_imul dX8_fits_179 ?_
  refine wp_iconst dX8_fits_180 kc_1 ?_
  refine wp_iadd dX8_fits_181 ?_
  refine wp_iaload dX8_fits_182 h3 L_68 h4 ?_
  refine wp_bipush dX8_fits_183 kb_9 kc_9 ?_
  refine wp_isub dX8_fits_185 ?_
  exact wp_icmp_ne (tgt := 193) dX8_fits_186 rfl k1 k2
theorem b_X8_fits_189 {d : Nat} {Q : Option pV → pG → Prop} {g : pG} {v1 v2 v3 v4 v5 v6 : Int} (k : EV d mX8_fits Q 151 [vR 45, vI v1, vI v2, vI v3, vI v4, vI 1, vI (w32 (v6 + 1))] [] g) : EV d mX8_fits Q 189 [vR 45, vI v1, vI v2, vI v3, vI v4, vI v5, vI v6] [] g := by
  refine wp_iconst dX8_fits_189 kc_1 ?_
  refine wp_goto (tgt := 194) dX8_fits_190 rfl ?_
  refine wp_istore dX8_fits_194 (Nat.le_of_ble_eq_true rfl) (pp (c := 4) rfl rfl) ?_
  refine wp_iinc dX8_fits_196 rfl (Nat.le_of_ble_eq_true rfl) (pp (c := 5) rfl rfl) ?_
  refine wp_goto (tgt := 151) dX8_fits_199 rfl ?_
  exact k
theorem b_X8_fits_193 {d : Nat} {Q : Option pV → pG → Prop} {g : pG} {v1 v2 v3 v4 v5 v6 : Int} (k : EV d mX8_fits Q 151 [vR 45, vI v1, vI v2, vI v3, vI v4, vI 0, vI (w32 (v6 + 1))] [] g) : EV d mX8_fits Q 193 [vR 45, vI v1, vI v2, vI v3, vI v4, vI v5, vI v6] [] g := by
  refine wp_iconst dX8_fits_193 kc_0 ?_
  refine wp_istore dX8_fits_194 (Nat.le_of_ble_eq_true rfl) (pp (c := 4) rfl rfl) ?_
  refine wp_iinc dX8_fits_196 rfl (Nat.le_of_ble_eq_true rfl) (pp (c := 5) rfl rfl) ?_
  refine wp_goto (tgt := 151) dX8_fits_199 rfl ?_
  exact k
theorem b_X8_fits_202 {d : Nat} {Q : Option pV → pG → Prop} {g : pG} {v1 v2 v3 v4 v5 v6 : Int} (k1 : (v5 = 0) → EV d mX8_fits Q 215 [vR 45, vI v1, vI v2, vI v3, vI v4, vI v5, vI v6] [vI v3] g) (k2 : ¬ (v5 = 0) → EV d mX8_fits Q 208 [vR 45, vI v1, vI v2, vI v3, vI v4, vI v5, vI v6] [vI v3] g) : EV d mX8_fits Q 202 [vR 45, vI v1, vI v2, vI v3, vI v4, vI v5, vI v6] [] g := by
  refine wp_iload_n dX8_fits_202 rfl ?_
  refine wp_iload dX8_fits_203 rfl ?_
  exact wp_if_eq (tgt := 215) dX8_fits_205 rfl k1 k2
theorem b_X8_fits_208 {d : Nat} {Q : Option pV → pG → Prop} {g : pG} {v1 v2 v3 v4 v5 v6 vs0 : Int} (k : EV d mX8_fits Q 86 [vR 45, vI v1, vI v2, vI (zor vs0 (zshl 1 v4)), vI (w32 (v4 + 1)), vI v5, vI v6] [] g) : EV d mX8_fits Q 208 [vR 45, vI v1, vI v2, vI v3, vI v4, vI v5, vI v6] [vI vs0] g := by
  refine wp_iconst dX8_fits_208 kc_1 ?_
  refine wp_iload dX8_fits_209 rfl ?_
  refine wp_ishl dX8_fits_211 ?_
  refine wp_goto (tgt := 216) dX8_fits_212 rfl ?_
  refine wp_ior dX8_fits_216 ?_
  refine wp_istore_n dX8_fits_217 (Nat.le_of_ble_eq_true rfl) (pp (c := 2) rfl rfl) ?_
  refine wp_iinc dX8_fits_218 rfl (Nat.le_of_ble_eq_true rfl) (pp (c := 3) rfl rfl) ?_
  refine wp_goto (tgt := 86) dX8_fits_221 rfl ?_
  exact k
theorem b_X8_fits_215 {d : Nat} {Q : Option pV → pG → Prop} {g : pG} {v1 v2 v3 v4 v5 v6 vs0 : Int} (k : EV d mX8_fits Q 86 [vR 45, vI v1, vI v2, vI (zor vs0 0), vI (w32 (v4 + 1)), vI v5, vI v6] [] g) : EV d mX8_fits Q 215 [vR 45, vI v1, vI v2, vI v3, vI v4, vI v5, vI v6] [vI vs0] g := by
  refine wp_iconst dX8_fits_215 kc_0 ?_
  refine wp_ior dX8_fits_216 ?_
  refine wp_istore_n dX8_fits_217 (Nat.le_of_ble_eq_true rfl) (pp (c := 2) rfl rfl) ?_
  refine wp_iinc dX8_fits_218 rfl (Nat.le_of_ble_eq_true rfl) (pp (c := 3) rfl rfl) ?_
  refine wp_goto (tgt := 86) dX8_fits_221 rfl ?_
  exact k
theorem b_X8_fits_224 {d : Nat} {Q : Option pV → pG → Prop} {g : pG} {v1 v2 v3 v4 : Int} {u5 u6 : pV} (hq : Q (some (vI v3)) g) : EV d mX8_fits Q 224 [vR 45, vI v1, vI v2, vI v3, vI v4, u5, u6] [] g := by
  refine wp_iload_n dX8_fits_224 rfl ?_
  exact wp_iret dX8_fits_225 rfl hq
theorem b_X8_first_0 {d : Nat} {Q : Option pV → pG → Prop} {g : pG} {v1 : Int} (k1 : ((-1) ≤ v1) → EV d mX8_first Q 15 [vR 45, vI v1, vX 2, vX 2, vX 2, vX 2, vX 2, vX 2] [] (cset g 45 (fup (g 45) 8 0))) (k2 : ¬ ((-1) ≤ v1) → EV d mX8_first Q 10 [vR 45, vI v1, vX 2, vX 2, vX 2, vX 2, vX 2, vX 2] [] (cset g 45 (fup (g 45) 8 0))) : EV d mX8_first Q 0 [vR 45, vI v1, vX 2, vX 2, vX 2, vX 2, vX 2, vX 2] [] g := by
  refine wp_aload_n dX8_first_0 rfl rfl ?_
  refine wp_iconst dX8_first_1 kc_0 ?_
  refine wp_putI dX8_first_2 fl_8_105 L_45 rfl rfl ?_
  refine wp_iload_n dX8_first_5 rfl ?_
  refine wp_iconst dX8_first_6 kc_m1 ?_
  exact wp_icmp_ge (tgt := 15) dX8_first_7 rfl k1 k2
theorem b_X8_first_10 {d : Nat} {Q : Option pV → pG → Prop} {g : pG} {v1 : Int} {R : Int → pG → Prop} (hc : CT d mX8_refuse [vR 45, vI (-4)] g (qI R)) (k : ∀ (x : Int) (gg : pG), R x gg → EV d mX8_first Q 41 [vR 45, vI v1, vI (-4), vX 2, vX 2, vX 2, vX 2, vX 2] [vI x, vI 1000000000] gg) : EV d mX8_first Q 10 [vR 45, vI v1, vX 2, vX 2, vX 2, vX 2, vX 2, vX 2] [] g := by
  refine wp_bipush dX8_first_10 kb_m4 kc_m4 ?_
  refine wp_goto (tgt := 29) dX8_first_12 rfl ?_
  refine wp_istore_n dX8_first_29 (Nat.le_of_ble_eq_true rfl) (pp (c := 1) rfl rfl) ?_
  refine wp_iload_n dX8_first_30 rfl ?_
  refine wp_if_ge (tgt := 43) dX8_first_31 rfl (fun hh => absurd hh (by decide)) (fun _ => ?_)
  refine wp_ldc dX8_first_34 kl_8_239 ?_
  refine wp_aload_n dX8_first_36 rfl rfl ?_
  refine wp_iload_n dX8_first_37 rfl ?_
  exact wp_callvI (As := [vI (-4)]) dX8_first_38 ml_8_164 (by decide) rfl L_45 (by decide) rfl (Nat.le_of_ble_eq_true rfl) rfl (Nat.le_refl _) (Nat.le_refl _) hc k
theorem b_X8_first_15 {d : Nat} {Q : Option pV → pG → Prop} {g : pG} {v1 : Int} (k1 : ((g 45) 4 = 3) → EV d mX8_first Q 28 [vR 45, vI v1, vX 2, vX 2, vX 2, vX 2, vX 2, vX 2] [] g) (k2 : ¬ ((g 45) 4 = 3) → EV d mX8_first Q 23 [vR 45, vI v1, vX 2, vX 2, vX 2, vX 2, vX 2, vX 2] [] g) : EV d mX8_first Q 15 [vR 45, vI v1, vX 2, vX 2, vX 2, vX 2, vX 2, vX 2] [] g := by
  refine wp_aload_n dX8_first_15 rfl rfl ?_
  refine wp_get (v := vI ((g 45) 4)) dX8_first_16 fl_8_19 L_45 rfl ?_
  refine wp_iconst dX8_first_19 kc_3 ?_
  exact wp_icmp_eq (tgt := 28) dX8_first_20 rfl k1 k2
theorem b_X8_first_23 {d : Nat} {Q : Option pV → pG → Prop} {g : pG} {v1 : Int} {R : Int → pG → Prop} (hc : CT d mX8_refuse [vR 45, vI (-3)] g (qI R)) (k : ∀ (x : Int) (gg : pG), R x gg → EV d mX8_first Q 41 [vR 45, vI v1, vI (-3), vX 2, vX 2, vX 2, vX 2, vX 2] [vI x, vI 1000000000] gg) : EV d mX8_first Q 23 [vR 45, vI v1, vX 2, vX 2, vX 2, vX 2, vX 2, vX 2] [] g := by
  refine wp_bipush dX8_first_23 kb_m3 kc_m3 ?_
  refine wp_goto (tgt := 29) dX8_first_25 rfl ?_
  refine wp_istore_n dX8_first_29 (Nat.le_of_ble_eq_true rfl) (pp (c := 1) rfl rfl) ?_
  refine wp_iload_n dX8_first_30 rfl ?_
  refine wp_if_ge (tgt := 43) dX8_first_31 rfl (fun hh => absurd hh (by decide)) (fun _ => ?_)
  refine wp_ldc dX8_first_34 kl_8_239 ?_
  refine wp_aload_n dX8_first_36 rfl rfl ?_
  refine wp_iload_n dX8_first_37 rfl ?_
  exact wp_callvI (As := [vI (-3)]) dX8_first_38 ml_8_164 (by decide) rfl L_45 (by decide) rfl (Nat.le_of_ble_eq_true rfl) rfl (Nat.le_refl _) (Nat.le_refl _) hc k
theorem b_X8_first_28 {d : Nat} {Q : Option pV → pG → Prop} {g : pG} {v1 : Int} (k : EV d mX8_first Q 56 [vR 45, vI v1, vI 0, vI 0, vI (-9), vI 99, vI 0, vX 2] [] g) : EV d mX8_first Q 28 [vR 45, vI v1, vX 2, vX 2, vX 2, vX 2, vX 2, vX 2] [] g := by
  refine wp_iconst dX8_first_28 kc_0 ?_
  refine wp_istore_n dX8_first_29 (Nat.le_of_ble_eq_true rfl) (pp (c := 1) rfl rfl) ?_
  refine wp_iload_n dX8_first_30 rfl ?_
  refine wp_if_ge (tgt := 43) dX8_first_31 rfl (fun _ => ?_) (fun hh => absurd (by decide) hh)
  refine wp_iconst dX8_first_43 kc_0 ?_
  refine wp_istore_n dX8_first_44 (Nat.le_of_ble_eq_true rfl) (pp (c := 2) rfl rfl) ?_
  refine wp_bipush dX8_first_45 kb_m9 kc_m9 ?_
  refine wp_istore dX8_first_47 (Nat.le_of_ble_eq_true rfl) (pp (c := 3) rfl rfl) ?_
  refine wp_bipush dX8_first_49 kb_99 kc_99 ?_
  refine wp_istore dX8_first_51 (Nat.le_of_ble_eq_true rfl) (pp (c := 4) rfl rfl) ?_
  refine wp_iconst dX8_first_53 kc_0 ?_
  refine wp_istore dX8_first_54 (Nat.le_of_ble_eq_true rfl) (pp (c := 5) rfl rfl) ?_
  exact k
theorem b_X8_first_41 {d : Nat} {Q : Option pV → pG → Prop} {g : pG} {v1 v2 vs0 vs1 : Int} (hq : Q (some (vI (w32 (vs0 - vs1)))) g) : EV d mX8_first Q 41 [vR 45, vI v1, vI v2, vX 2, vX 2, vX 2, vX 2, vX 2] [vI vs1, vI vs0] g := by
  refine wp_isub dX8_first_41 ?_
  exact wp_iret dX8_first_42 rfl hq
theorem b_X8_first_56 {d : Nat} {Q : Option pV → pG → Prop} {g : pG} {v1 v2 v3 v4 v5 v6 : Int} {u7 : pV} (k1 : (729 ≤ v6) → EV d mX8_first Q 168 [vR 45, vI v1, vI v2, vI v3, vI v4, vI v5, vI v6, u7] [] g) (k2 : ¬ (729 ≤ v6) → EV d mX8_first Q 64 [vR 45, vI v1, vI v2, vI v3, vI v4, vI v5, vI v6, u7] [] g) : EV d mX8_first Q 56 [vR 45, vI v1, vI v2, vI v3, vI v4, vI v5, vI v6, u7] [] g := by
  refine wp_iload dX8_first_56 rfl ?_
  refine wp_sipush dX8_first_58 ks_729 kc_729 ?_
  exact wp_icmp_ge (tgt := 168) dX8_first_61 rfl k1 k2
theorem b_X8_first_64 {d : Nat} {Q : Option pV → pG → Prop} {g : pG} {v1 v2 v3 v4 v5 v6 : Int} {u7 : pV} {R : pG → Prop} (hc : CT d mX8_thinkThree [vR 45, vI v6, vI 4] g (qV R)) (k : ∀ gg : pG, R gg → EV d mX8_first Q 71 [vR 45, vI v1, vI v2, vI v3, vI v4, vI v5, vI v6, u7] [] gg) : EV d mX8_first Q 64 [vR 45, vI v1, vI v2, vI v3, vI v4, vI v5, vI v6, u7] [] g := by
  refine wp_aload_n dX8_first_64 rfl rfl ?_
  refine wp_iload dX8_first_65 rfl ?_
  refine wp_iconst dX8_first_67 kc_4 ?_
  exact wp_callvV (As := [vI v6, vI 4]) dX8_first_68 ml_8_309 (by decide) rfl L_45 (by decide) rfl (Nat.le_of_ble_eq_true rfl) rfl (Nat.le_refl _) (Nat.le_refl _) hc k
theorem b_X8_first_71 {d : Nat} {Q : Option pV → pG → Prop} {g : pG} {v1 v2 v3 v4 v5 v6 : Int} {u7 : pV} {R : Int → pG → Prop} (hc : CT d mX8_sumNow [vR 45] g (qI R)) (k : ∀ (x : Int) (gg : pG), R x gg → EV d mX8_first Q 75 [vR 45, vI v1, vI v2, vI v3, vI v4, vI v5, vI v6, u7] [vI x] gg) : EV d mX8_first Q 71 [vR 45, vI v1, vI v2, vI v3, vI v4, vI v5, vI v6, u7] [] g := by
  refine wp_aload_n dX8_first_71 rfl rfl ?_
  exact wp_callvI (As := []) dX8_first_72 ml_8_118 (by decide) rfl L_45 (by decide) rfl (Nat.le_of_ble_eq_true rfl) rfl (Nat.le_refl _) (Nat.le_refl _) hc k
theorem b_X8_first_75 {d : Nat} {Q : Option pV → pG → Prop} {g : pG} {v1 v2 v3 v4 v5 v6 vs0 : Int} {u7 : pV} {R : pG → Prop} (hc : CT d mX8_passAll [vR 45, vI 0] g (qV R)) (k : ∀ gg : pG, R gg → EV d mX8_first Q 82 [vR 45, vI v1, vI v2, vI v3, vI v4, vI v5, vI v6, vI vs0] [] gg) : EV d mX8_first Q 75 [vR 45, vI v1, vI v2, vI v3, vI v4, vI v5, vI v6, u7] [vI vs0] g := by
  refine wp_istore dX8_first_75 (Nat.le_of_ble_eq_true rfl) (pp (c := 6) rfl rfl) ?_
  refine wp_aload_n dX8_first_77 rfl rfl ?_
  refine wp_iconst dX8_first_78 kc_0 ?_
  exact wp_callvV (As := [vI 0]) dX8_first_79 ml_8_161 (by decide) rfl L_45 (by decide) rfl (Nat.le_of_ble_eq_true rfl) rfl (Nat.le_refl _) (Nat.le_refl _) hc k
theorem b_X8_first_82 {d : Nat} {Q : Option pV → pG → Prop} {g : pG} {v1 v2 v3 v4 v5 v6 v7 : Int} (k1 : ((g 51) 0 ≠ (g 49) 0) → EV d mX8_first Q 162 [vR 45, vI v1, vI v2, vI v3, vI v4, vI v5, vI v6, vI v7] [] g) (k2 : ¬ ((g 51) 0 ≠ (g 49) 0) → EV d mX8_first Q 97 [vR 45, vI v1, vI v2, vI v3, vI v4, vI v5, vI v6, vI v7] [] g) : EV d mX8_first Q 82 [vR 45, vI v1, vI v2, vI v3, vI v4, vI v5, vI v6, vI v7] [] g := by
  refine wp_aload_n dX8_first_82 rfl rfl ?_
  refine wp_get (v := vR 51) dX8_first_83 fl_8_35 L_45 rfl ?_
  refine wp_iconst dX8_first_86 kc_0 ?_
  refine wp_iaload dX8_first_87 (by decide) L_51 (by decide) ?_
  refine wp_aload_n dX8_first_88 rfl rfl ?_
  refine wp_get (v := vR 49) dX8_first_89 fl_8_23 L_45 rfl ?_
  refine wp_iconst dX8_first_92 kc_0 ?_
  refine wp_iaload dX8_first_93 (by decide) L_49 (by decide) ?_
  exact wp_icmp_ne (tgt := 162) dX8_first_94 rfl k1 k2
theorem b_X8_first_97 {d : Nat} {Q : Option pV → pG → Prop} {g : pG} {v1 v2 v3 v4 v5 v6 v7 : Int} (k1 : ((g 51) 1 ≠ (g 49) 1) → EV d mX8_first Q 162 [vR 45, vI v1, vI v2, vI v3, vI v4, vI v5, vI v6, vI v7] [] g) (k2 : ¬ ((g 51) 1 ≠ (g 49) 1) → EV d mX8_first Q 112 [vR 45, vI v1, vI v2, vI v3, vI v4, vI v5, vI v6, vI v7] [] g) : EV d mX8_first Q 97 [vR 45, vI v1, vI v2, vI v3, vI v4, vI v5, vI v6, vI v7] [] g := by
  refine wp_aload_n dX8_first_97 rfl rfl ?_
  refine wp_get (v := vR 51) dX8_first_98 fl_8_35 L_45 rfl ?_
  refine wp_iconst dX8_first_101 kc_1 ?_
  refine wp_iaload dX8_first_102 (by decide) L_51 (by decide) ?_
  refine wp_aload_n dX8_first_103 rfl rfl ?_
  refine wp_get (v := vR 49) dX8_first_104 fl_8_23 L_45 rfl ?_
  refine wp_iconst dX8_first_107 kc_1 ?_
  refine wp_iaload dX8_first_108 (by decide) L_49 (by decide) ?_
  exact wp_icmp_ne (tgt := 162) dX8_first_109 rfl k1 k2
theorem b_X8_first_112 {d : Nat} {Q : Option pV → pG → Prop} {g : pG} {v1 v2 v3 v4 v5 v6 v7 : Int} (k1 : ((g 51) 2 ≠ (g 49) 2) → EV d mX8_first Q 162 [vR 45, vI v1, vI v2, vI v3, vI v4, vI v5, vI v6, vI v7] [] g) (k2 : ¬ ((g 51) 2 ≠ (g 49) 2) → EV d mX8_first Q 127 [vR 45, vI v1, vI v2, vI v3, vI v4, vI v5, vI v6, vI v7] [] g) : EV d mX8_first Q 112 [vR 45, vI v1, vI v2, vI v3, vI v4, vI v5, vI v6, vI v7] [] g := by
  refine wp_aload_n dX8_first_112 rfl rfl ?_
  refine wp_get (v := vR 51) dX8_first_113 fl_8_35 L_45 rfl ?_
  refine wp_iconst dX8_first_116 kc_2 ?_
  refine wp_iaload dX8_first_117 (by decide) L_51 (by decide) ?_
  refine wp_aload_n dX8_first_118 rfl rfl ?_
  refine wp_get (v := vR 49) dX8_first_119 fl_8_23 L_45 rfl ?_
  refine wp_iconst dX8_first_122 kc_2 ?_
  refine wp_iaload dX8_first_123 (by decide) L_49 (by decide) ?_
  exact wp_icmp_ne (tgt := 162) dX8_first_124 rfl k1 k2
theorem b_X8_first_127 {d : Nat} {Q : Option pV → pG → Prop} {g : pG} {v1 v2 v3 v4 v5 v6 v7 : Int} (k1 : (v5 ≤ v7) → EV d mX8_first Q 142 [vR 45, vI v1, vI v2, vI (w32 (v3 + 1)), vI v4, vI v5, vI v6, vI v7] [] g) (k2 : ¬ (v5 ≤ v7) → EV d mX8_first Q 137 [vR 45, vI v1, vI v2, vI (w32 (v3 + 1)), vI v4, vI v5, vI v6, vI v7] [] g) : EV d mX8_first Q 127 [vR 45, vI v1, vI v2, vI v3, vI v4, vI v5, vI v6, vI v7] [] g := by
  refine wp_iinc dX8_first_127 rfl (Nat.le_of_ble_eq_true rfl) (pp (c := 2) rfl rfl) ?_
  refine wp_iload dX8_first_130 rfl ?_
  refine wp_iload dX8_first_132 rfl ?_
  exact wp_icmp_ge (tgt := 142) dX8_first_134 rfl k1 k2
theorem b_X8_first_137 {d : Nat} {Q : Option pV → pG → Prop} {g : pG} {v1 v2 v3 v4 v5 v6 v7 : Int} (k1 : (v5 ≤ v7) → EV d mX8_first Q 158 [vR 45, vI v1, vI v2, vI v3, vI v6, vI v5, vI v6, vI v7] [] g) (k2 : ¬ (v5 ≤ v7) → EV d mX8_first Q 153 [vR 45, vI v1, vI v2, vI v3, vI v6, vI v5, vI v6, vI v7] [] g) : EV d mX8_first Q 137 [vR 45, vI v1, vI v2, vI v3, vI v4, vI v5, vI v6, vI v7] [] g := by
  refine wp_iload dX8_first_137 rfl ?_
  refine wp_goto (tgt := 144) dX8_first_139 rfl ?_
  refine wp_istore dX8_first_144 (Nat.le_of_ble_eq_true rfl) (pp (c := 3) rfl rfl) ?_
  refine wp_iload dX8_first_146 rfl ?_
  refine wp_iload dX8_first_148 rfl ?_
  exact wp_icmp_ge (tgt := 158) dX8_first_150 rfl k1 k2
theorem b_X8_first_142 {d : Nat} {Q : Option pV → pG → Prop} {g : pG} {v1 v2 v3 v4 v5 v6 v7 : Int} (k1 : (v5 ≤ v7) → EV d mX8_first Q 158 [vR 45, vI v1, vI v2, vI v3, vI v4, vI v5, vI v6, vI v7] [] g) (k2 : ¬ (v5 ≤ v7) → EV d mX8_first Q 153 [vR 45, vI v1, vI v2, vI v3, vI v4, vI v5, vI v6, vI v7] [] g) : EV d mX8_first Q 142 [vR 45, vI v1, vI v2, vI v3, vI v4, vI v5, vI v6, vI v7] [] g := by
  refine wp_iload dX8_first_142 rfl ?_
  refine wp_istore dX8_first_144 (Nat.le_of_ble_eq_true rfl) (pp (c := 3) rfl rfl) ?_
  refine wp_iload dX8_first_146 rfl ?_
  refine wp_iload dX8_first_148 rfl ?_
  exact wp_icmp_ge (tgt := 158) dX8_first_150 rfl k1 k2
theorem b_X8_first_153 {d : Nat} {Q : Option pV → pG → Prop} {g : pG} {v1 v2 v3 v4 v5 v6 v7 : Int} (k : EV d mX8_first Q 56 [vR 45, vI v1, vI v2, vI v3, vI v4, vI v7, vI (w32 (v6 + 1)), vI v7] [] g) : EV d mX8_first Q 153 [vR 45, vI v1, vI v2, vI v3, vI v4, vI v5, vI v6, vI v7] [] g := by
  refine wp_iload dX8_first_153 rfl ?_
  refine wp_goto (tgt := 160) dX8_first_155 rfl ?_
  refine wp_istore dX8_first_160 (Nat.le_of_ble_eq_true rfl) (pp (c := 4) rfl rfl) ?_
  refine wp_iinc dX8_first_162 rfl (Nat.le_of_ble_eq_true rfl) (pp (c := 5) rfl rfl) ?_
  refine wp_goto (tgt := 56) dX8_first_165 rfl ?_
  exact k
theorem b_X8_first_158 {d : Nat} {Q : Option pV → pG → Prop} {g : pG} {v1 v2 v3 v4 v5 v6 v7 : Int} (k : EV d mX8_first Q 56 [vR 45, vI v1, vI v2, vI v3, vI v4, vI v5, vI (w32 (v6 + 1)), vI v7] [] g) : EV d mX8_first Q 158 [vR 45, vI v1, vI v2, vI v3, vI v4, vI v5, vI v6, vI v7] [] g := by
  refine wp_iload dX8_first_158 rfl ?_
  refine wp_istore dX8_first_160 (Nat.le_of_ble_eq_true rfl) (pp (c := 4) rfl rfl) ?_
  refine wp_iinc dX8_first_162 rfl (Nat.le_of_ble_eq_true rfl) (pp (c := 5) rfl rfl) ?_
  refine wp_goto (tgt := 56) dX8_first_165 rfl ?_
  exact k
theorem b_X8_first_162 {d : Nat} {Q : Option pV → pG → Prop} {g : pG} {v1 v2 v3 v4 v5 v6 v7 : Int} (k : EV d mX8_first Q 56 [vR 45, vI v1, vI v2, vI v3, vI v4, vI v5, vI (w32 (v6 + 1)), vI v7] [] g) : EV d mX8_first Q 162 [vR 45, vI v1, vI v2, vI v3, vI v4, vI v5, vI v6, vI v7] [] g := by
  refine wp_iinc dX8_first_162 rfl (Nat.le_of_ble_eq_true rfl) (pp (c := 5) rfl rfl) ?_
  refine wp_goto (tgt := 56) dX8_first_165 rfl ?_
  exact k
theorem b_X8_first_168 {d : Nat} {Q : Option pV → pG → Prop} {g : pG} {v1 v2 v3 v4 v5 v6 : Int} {u7 : pV} (k1 : (0 ≤ v1) → EV d mX8_first Q 174 [vR 45, vI v1, vI v2, vI v3, vI v4, vI v5, vI v6, u7] [] g) (k2 : ¬ (0 ≤ v1) → EV d mX8_first Q 172 [vR 45, vI v1, vI v2, vI v3, vI v4, vI v5, vI v6, u7] [] g) : EV d mX8_first Q 168 [vR 45, vI v1, vI v2, vI v3, vI v4, vI v5, vI v6, u7] [] g := by
  refine wp_iload_n dX8_first_168 rfl ?_
  exact wp_if_ge (tgt := 174) dX8_first_169 rfl k1 k2
theorem b_X8_first_172 {d : Nat} {Q : Option pV → pG → Prop} {g : pG} {v1 v2 v3 v4 v5 v6 : Int} {u7 : pV} (hq : Q (some (vI v3)) g) : EV d mX8_first Q 172 [vR 45, vI v1, vI v2, vI v3, vI v4, vI v5, vI v6, u7] [] g := by
  refine wp_iload_n dX8_first_172 rfl ?_
  exact wp_iret dX8_first_173 rfl hq
theorem b_X8_first_174 {d : Nat} {Q : Option pV → pG → Prop} {g : pG} {v1 v2 v3 v4 v5 v6 : Int} {u7 : pV} (k1 : (v4 < 0) → EV d mX8_first Q 184 [vR 45, vI v1, vI v2, vI v3, vI v4, vI v5, vI v6, u7] [] g) (k2 : ¬ (v4 < 0) → EV d mX8_first Q 179 [vR 45, vI v1, vI v2, vI v3, vI v4, vI v5, vI v6, u7] [] g) : EV d mX8_first Q 174 [vR 45, vI v1, vI v2, vI v3, vI v4, vI v5, vI v6, u7] [] g := by
  refine wp_iload dX8_first_174 rfl ?_
  exact wp_if_lt (tgt := 184) dX8_first_176 rfl k1 k2
theorem b_X8_first_179 {d : Nat} {Q : Option pV → pG → Prop} {g : pG} {v1 v2 v3 v4 v5 v6 : Int} {u7 : pV} (k1 : (v1 ≤ 2) → EV d mX8_first Q 189 [vR 45, vI v1, vI v2, vI v3, vI v4, vI v5, vI v6, u7] [] g) (k2 : ¬ (v1 ≤ 2) → EV d mX8_first Q 184 [vR 45, vI v1, vI v2, vI v3, vI v4, vI v5, vI v6, u7] [] g) : EV d mX8_first Q 179 [vR 45, vI v1, vI v2, vI v3, vI v4, vI v5, vI v6, u7] [] g := by
  refine wp_iload_n dX8_first_179 rfl ?_
  refine wp_iconst dX8_first_180 kc_2 ?_
  exact wp_icmp_le (tgt := 189) dX8_first_181 rfl k1 k2
theorem b_X8_first_184 {d : Nat} {Q : Option pV → pG → Prop} {g : pG} {v1 v2 v3 v4 v5 v6 : Int} {u7 : pV} (hq : Q (some (vI (-9))) g) : EV d mX8_first Q 184 [vR 45, vI v1, vI v2, vI v3, vI v4, vI v5, vI v6, u7] [] g := by
  refine wp_bipush dX8_first_184 kb_m9 kc_m9 ?_
  refine wp_goto (tgt := 224) dX8_first_186 rfl ?_
  exact wp_iret dX8_first_224 rfl hq
theorem b_X8_first_189 {d : Nat} {Q : Option pV → pG → Prop} {g : pG} {v1 v2 v3 v4 v5 v6 : Int} {u7 : pV} (k1 : (v1 ≠ 0) → EV d mX8_first Q 201 [vR 45, vI v1, vI v2, vI v3, vI v4, vI v5, vI v6, u7] [] g) (k2 : ¬ (v1 ≠ 0) → EV d mX8_first Q 193 [vR 45, vI v1, vI v2, vI v3, vI v4, vI v5, vI v6, u7] [] g) : EV d mX8_first Q 189 [vR 45, vI v1, vI v2, vI v3, vI v4, vI v5, vI v6, u7] [] g := by
  refine wp_iload_n dX8_first_189 rfl ?_
  exact wp_if_ne (tgt := 201) dX8_first_190 rfl k1 k2
theorem b_X8_first_193 {d : Nat} {Q : Option pV → pG → Prop} {g : pG} {v1 v2 v3 v4 v5 v6 : Int} {u7 : pV} (hq : Q (some (vI (w32 ((w32 (v4.tdiv 81)) - 4)))) g) : EV d mX8_first Q 193 [vR 45, vI v1, vI v2, vI v3, vI v4, vI v5, vI v6, u7] [] g := by
  refine wp_iload dX8_first_193 rfl ?_
  refine wp_bipush dX8_first_195 kb_81 kc_81 ?_
  refine wp_idiv dX8_first_197 (by decide) ?_
  refine wp_goto (tgt := 222) dX8_first_198 rfl ?_
  refine wp_iconst dX8_first_222 kc_4 ?_
  refine wp_isub dX8_first_223 ?_
  exact wp_iret dX8_first_224 rfl hq
theorem b_X8_first_201 {d : Nat} {Q : Option pV → pG → Prop} {g : pG} {v1 v2 v3 v4 v5 v6 : Int} {u7 : pV} (k1 : (v1 ≠ 1) → EV d mX8_first Q 217 [vR 45, vI v1, vI v2, vI v3, vI v4, vI v5, vI v6, u7] [] g) (k2 : ¬ (v1 ≠ 1) → EV d mX8_first Q 206 [vR 45, vI v1, vI v2, vI v3, vI v4, vI v5, vI v6, u7] [] g) : EV d mX8_first Q 201 [vR 45, vI v1, vI v2, vI v3, vI v4, vI v5, vI v6, u7] [] g := by
  refine wp_iload_n dX8_first_201 rfl ?_
  refine wp_iconst dX8_first_202 kc_1 ?_
  exact wp_icmp_ne (tgt := 217) dX8_first_203 rfl k1 k2
theorem b_X8_first_206 {d : Nat} {Q : Option pV → pG → Prop} {g : pG} {v1 v2 v3 v4 v5 v6 : Int} {u7 : pV} (hq : Q (some (vI (w32 ((w32 ((w32 (v4.tdiv 9)).tmod 9)) - 4)))) g) : EV d mX8_first Q 206 [vR 45, vI v1, vI v2, vI v3, vI v4, vI v5, vI v6, u7] [] g := by
  refine wp_iload dX8_first_206 rfl ?_
  refine wp_bipush dX8_first_208 kb_9 kc_9 ?_
  refine wp_idiv dX8_first_210 (by decide) ?_
  refine wp_bipush dX8_first_211 kb_9 kc_9 ?_
  refine wp_irem dX8_first_213 (by decide) ?_
  refine wp_goto (tgt := 222) dX8_first_214 rfl ?_
  refine wp_iconst dX8_first_222 kc_4 ?_
  refine wp_isub dX8_first_223 ?_
  exact wp_iret dX8_first_224 rfl hq
theorem b_X8_first_217 {d : Nat} {Q : Option pV → pG → Prop} {g : pG} {v1 v2 v3 v4 v5 v6 : Int} {u7 : pV} (hq : Q (some (vI (w32 ((w32 (v4.tmod 9)) - 4)))) g) : EV d mX8_first Q 217 [vR 45, vI v1, vI v2, vI v3, vI v4, vI v5, vI v6, u7] [] g := by
  refine wp_iload dX8_first_217 rfl ?_
  refine wp_bipush dX8_first_219 kb_9 kc_9 ?_
  refine wp_irem dX8_first_221 (by decide) ?_
  refine wp_iconst dX8_first_222 kc_4 ?_
  refine wp_isub dX8_first_223 ?_
  exact wp_iret dX8_first_224 rfl hq
theorem b_X8_apart_0 {d : Nat} {Q : Option pV → pG → Prop} {g : pG} {v1 v2 v3 : Int} {R : Int → pG → Prop} (hc : CT d mX8_in [vL v1, vL 0, vL 5] (cset g 45 (fup (g 45) 8 0)) (qI R)) (k : ∀ (x : Int) (gg : pG), R x gg → EV d mX8_apart Q 14 [vR 45, vI v1, vI v2, vI v3, vX 2, vX 2, vX 2] [vI x] gg) : EV d mX8_apart Q 0 [vR 45, vI v1, vI v2, vI v3, vX 2, vX 2, vX 2] [] g := by
  refine wp_aload_n dX8_apart_0 rfl rfl ?_
  refine wp_iconst dX8_apart_1 kc_0 ?_
  refine wp_putI dX8_apart_2 fl_8_105 L_45 rfl rfl ?_
  refine wp_iload_n dX8_apart_5 rfl ?_
  refine wp_i2l dX8_apart_6 ?_
  refine wp_lconst (x := 0) dX8_apart_7 rfl ?_
  refine wp_ldc2_w dX8_apart_8 k2_8_243 ?_
  exact wp_callsI (As := [vL v1, vL 0, vL 5]) dX8_apart_11 ml_8_111 (Or.inl rfl) rfl (Nat.le_of_ble_eq_true rfl) rfl (Nat.le_refl _) (Nat.le_refl _) hc k
theorem b_X8_apart_14 {d : Nat} {Q : Option pV → pG → Prop} {g : pG} {v1 v2 v3 vs0 : Int} (k1 : (vs0 = 0) → EV d mX8_apart Q 39 [vR 45, vI v1, vI v2, vI v3, vX 2, vX 2, vX 2] [] g) (k2 : ¬ (vs0 = 0) → EV d mX8_apart Q 17 [vR 45, vI v1, vI v2, vI v3, vX 2, vX 2, vX 2] [] g) : EV d mX8_apart Q 14 [vR 45, vI v1, vI v2, vI v3, vX 2, vX 2, vX 2] [vI vs0] g := by
  exact wp_if_eq (tgt := 39) dX8_apart_14 rfl k1 k2
theorem b_X8_apart_17 {d : Nat} {Q : Option pV → pG → Prop} {g : pG} {v1 v2 v3 : Int} {R : Int → pG → Prop} (hc : CT d mX8_in [vL v2, vL 0, vL 5] g (qI R)) (k : ∀ (x : Int) (gg : pG), R x gg → EV d mX8_apart Q 26 [vR 45, vI v1, vI v2, vI v3, vX 2, vX 2, vX 2] [vI x] gg) : EV d mX8_apart Q 17 [vR 45, vI v1, vI v2, vI v3, vX 2, vX 2, vX 2] [] g := by
  refine wp_iload_n dX8_apart_17 rfl ?_
  refine wp_i2l dX8_apart_18 ?_
  refine wp_lconst (x := 0) dX8_apart_19 rfl ?_
  refine wp_ldc2_w dX8_apart_20 k2_8_243 ?_
  exact wp_callsI (As := [vL v2, vL 0, vL 5]) dX8_apart_23 ml_8_111 (Or.inl rfl) rfl (Nat.le_of_ble_eq_true rfl) rfl (Nat.le_refl _) (Nat.le_refl _) hc k
theorem b_X8_apart_26 {d : Nat} {Q : Option pV → pG → Prop} {g : pG} {v1 v2 v3 vs0 : Int} (k1 : (vs0 = 0) → EV d mX8_apart Q 39 [vR 45, vI v1, vI v2, vI v3, vX 2, vX 2, vX 2] [] g) (k2 : ¬ (vs0 = 0) → EV d mX8_apart Q 29 [vR 45, vI v1, vI v2, vI v3, vX 2, vX 2, vX 2] [] g) : EV d mX8_apart Q 26 [vR 45, vI v1, vI v2, vI v3, vX 2, vX 2, vX 2] [vI vs0] g := by
  exact wp_if_eq (tgt := 39) dX8_apart_26 rfl k1 k2
theorem b_X8_apart_29 {d : Nat} {Q : Option pV → pG → Prop} {g : pG} {v1 v2 v3 : Int} {R : Int → pG → Prop} (hc : CT d mX8_wrongNumber [vI v3, vI 0, vI 9] g (qI R)) (k : ∀ (x : Int) (gg : pG), R x gg → EV d mX8_apart Q 36 [vR 45, vI v1, vI v2, vI v3, vX 2, vX 2, vX 2] [vI x] gg) : EV d mX8_apart Q 29 [vR 45, vI v1, vI v2, vI v3, vX 2, vX 2, vX 2] [] g := by
  refine wp_iload_n dX8_apart_29 rfl ?_
  refine wp_iconst dX8_apart_30 kc_0 ?_
  refine wp_bipush dX8_apart_31 kb_9 kc_9 ?_
  exact wp_callsI (As := [vI v3, vI 0, vI 9]) dX8_apart_33 ml_8_235 (Or.inl rfl) rfl (Nat.le_of_ble_eq_true rfl) rfl (Nat.le_refl _) (Nat.le_refl _) hc k
theorem b_X8_apart_36 {d : Nat} {Q : Option pV → pG → Prop} {g : pG} {v1 v2 v3 vs0 : Int} (k1 : (0 ≤ vs0) → EV d mX8_apart Q 55 [vR 45, vI v1, vI v2, vI v3, vI vs0, vX 2, vX 2] [] g) (k2 : ¬ (0 ≤ vs0) → EV d mX8_apart Q 48 [vR 45, vI v1, vI v2, vI v3, vI vs0, vX 2, vX 2] [] g) : EV d mX8_apart Q 36 [vR 45, vI v1, vI v2, vI v3, vX 2, vX 2, vX 2] [vI vs0] g := by
  refine wp_goto (tgt := 41) dX8_apart_36 rfl ?_
  refine wp_istore dX8_apart_41 (Nat.le_of_ble_eq_true rfl) (pp (c := 3) rfl rfl) ?_
  refine wp_iload dX8_apart_43 rfl ?_
  exact wp_if_ge (tgt := 55) dX8_apart_45 rfl k1 k2
theorem b_X8_apart_39 {d : Nat} {Q : Option pV → pG → Prop} {g : pG} {v1 v2 v3 : Int} {R : Int → pG → Prop} (hc : CT d mX8_refuse [vR 45, vI (-2)] g (qI R)) (k : ∀ (x : Int) (gg : pG), R x gg → EV d mX8_apart Q 54 [vR 45, vI v1, vI v2, vI v3, vI (-2), vX 2, vX 2] [vI x] gg) : EV d mX8_apart Q 39 [vR 45, vI v1, vI v2, vI v3, vX 2, vX 2, vX 2] [] g := by
  refine wp_bipush dX8_apart_39 kb_m2 kc_m2 ?_
  refine wp_istore dX8_apart_41 (Nat.le_of_ble_eq_true rfl) (pp (c := 3) rfl rfl) ?_
  refine wp_iload dX8_apart_43 rfl ?_
  refine wp_if_ge (tgt := 55) dX8_apart_45 rfl (fun hh => absurd hh (by decide)) (fun _ => ?_)
  refine wp_aload_n dX8_apart_48 rfl rfl ?_
  refine wp_iload dX8_apart_49 rfl ?_
  exact wp_callvI (As := [vI (-2)]) dX8_apart_51 ml_8_164 (by decide) rfl L_45 (by decide) rfl (Nat.le_of_ble_eq_true rfl) rfl (Nat.le_refl _) (Nat.le_refl _) hc k
theorem b_X8_apart_48 {d : Nat} {Q : Option pV → pG → Prop} {g : pG} {v1 v2 v3 v4 : Int} {R : Int → pG → Prop} (hc : CT d mX8_refuse [vR 45, vI v4] g (qI R)) (k : ∀ (x : Int) (gg : pG), R x gg → EV d mX8_apart Q 54 [vR 45, vI v1, vI v2, vI v3, vI v4, vX 2, vX 2] [vI x] gg) : EV d mX8_apart Q 48 [vR 45, vI v1, vI v2, vI v3, vI v4, vX 2, vX 2] [] g := by
  refine wp_aload_n dX8_apart_48 rfl rfl ?_
  refine wp_iload dX8_apart_49 rfl ?_
  exact wp_callvI (As := [vI v4]) dX8_apart_51 ml_8_164 (by decide) rfl L_45 (by decide) rfl (Nat.le_of_ble_eq_true rfl) rfl (Nat.le_refl _) (Nat.le_refl _) hc k
theorem b_X8_apart_54 {d : Nat} {Q : Option pV → pG → Prop} {g : pG} {v1 v2 v3 v4 vs0 : Int} (hq : Q (some (vI vs0)) g) : EV d mX8_apart Q 54 [vR 45, vI v1, vI v2, vI v3, vI v4, vX 2, vX 2] [vI vs0] g := by
  exact wp_iret dX8_apart_54 rfl hq
theorem b_X8_apart_55 {d : Nat} {Q : Option pV → pG → Prop} {g : pG} {v1 v2 v3 v4 : Int} (k : EV d mX8_apart Q 58 [vR 45, vI v1, vI v2, vI v3, vI v4, vI 0, vX 2] [] g) : EV d mX8_apart Q 55 [vR 45, vI v1, vI v2, vI v3, vI v4, vX 2, vX 2] [] g := by
  refine wp_iconst dX8_apart_55 kc_0 ?_
  refine wp_istore dX8_apart_56 (Nat.le_of_ble_eq_true rfl) (pp (c := 4) rfl rfl) ?_
  exact k
theorem b_X8_apart_58 {d : Nat} {Q : Option pV → pG → Prop} {g : pG} {v1 v2 v3 v4 v5 : Int} {u6 : pV} (k1 : (729 ≤ v5) → EV d mX8_apart Q 175 [vR 45, vI v1, vI v2, vI v3, vI v4, vI v5, u6] [] g) (k2 : ¬ (729 ≤ v5) → EV d mX8_apart Q 66 [vR 45, vI v1, vI v2, vI v3, vI v4, vI v5, u6] [] g) : EV d mX8_apart Q 58 [vR 45, vI v1, vI v2, vI v3, vI v4, vI v5, u6] [] g := by
  refine wp_iload dX8_apart_58 rfl ?_
  refine wp_sipush dX8_apart_60 ks_729 kc_729 ?_
  exact wp_icmp_ge (tgt := 175) dX8_apart_63 rfl k1 k2
theorem b_X8_apart_66 {d : Nat} {Q : Option pV → pG → Prop} {g : pG} {v1 v2 v3 v4 v5 : Int} {u6 : pV} {R : pG → Prop} (hc : CT d mX8_thinkThree [vR 45, vI v5, vI 4] g (qV R)) (k : ∀ gg : pG, R gg → EV d mX8_apart Q 73 [vR 45, vI v1, vI v2, vI v3, vI v4, vI v5, u6] [] gg) : EV d mX8_apart Q 66 [vR 45, vI v1, vI v2, vI v3, vI v4, vI v5, u6] [] g := by
  refine wp_aload_n dX8_apart_66 rfl rfl ?_
  refine wp_iload dX8_apart_67 rfl ?_
  refine wp_iconst dX8_apart_69 kc_4 ?_
  exact wp_callvV (As := [vI v5, vI 4]) dX8_apart_70 ml_8_309 (by decide) rfl L_45 (by decide) rfl (Nat.le_of_ble_eq_true rfl) rfl (Nat.le_refl _) (Nat.le_refl _) hc k
theorem b_X8_apart_73 {d : Nat} {Q : Option pV → pG → Prop} {g : pG} {v1 v2 v3 v4 v5 : Int} {u6 : pV} {R : pG → Prop} (hc : CT d mX8_act [vR 45, vI v1, vI v3] g (qV R)) (k : ∀ gg : pG, R gg → EV d mX8_apart Q 79 [vR 45, vI v1, vI v2, vI v3, vI v4, vI v5, u6] [] gg) : EV d mX8_apart Q 73 [vR 45, vI v1, vI v2, vI v3, vI v4, vI v5, u6] [] g := by
  refine wp_aload_n dX8_apart_73 rfl rfl ?_
  refine wp_iload_n dX8_apart_74 rfl ?_
  refine wp_iload_n dX8_apart_75 rfl ?_
  exact wp_callvV (As := [vI v1, vI v3]) dX8_apart_76 ml_8_146 (by decide) rfl L_45 (by decide) rfl (Nat.le_of_ble_eq_true rfl) rfl (Nat.le_refl _) (Nat.le_refl _) hc k
theorem b_X8_apart_79 {d : Nat} {Q : Option pV → pG → Prop} {g : pG} {v1 v2 v3 v4 v5 : Int} {u6 : pV} (k : EV d mX8_apart Q 82 [vR 45, vI v1, vI v2, vI v3, vI v4, vI v5, vI 0] [] g) : EV d mX8_apart Q 79 [vR 45, vI v1, vI v2, vI v3, vI v4, vI v5, u6] [] g := by
  refine wp_iconst dX8_apart_79 kc_0 ?_
  refine wp_istore dX8_apart_80 (Nat.le_of_ble_eq_true rfl) (pp (c := 5) rfl rfl) ?_
  exact k
theorem b_X8_apart_82 {d : Nat} {Q : Option pV → pG → Prop} {g : pG} {v1 v2 v3 v4 v5 v6 : Int} (k1 : (3 ≤ v6) → EV d mX8_apart Q 108 [vR 45, vI v1, vI v2, vI v3, vI v4, vI v5, vI v6] [] g) (k2 : ¬ (3 ≤ v6) → EV d mX8_apart Q 88 [vR 45, vI v1, vI v2, vI v3, vI v4, vI v5, vI v6] [] g) : EV d mX8_apart Q 82 [vR 45, vI v1, vI v2, vI v3, vI v4, vI v5, vI v6] [] g := by
  refine wp_iload dX8_apart_82 rfl ?_
  refine wp_iconst dX8_apart_84 kc_3 ?_
  exact wp_icmp_ge (tgt := 108) dX8_apart_85 rfl k1 k2
theorem b_X8_apart_88 {d : Nat} {Q : Option pV → pG → Prop} {g : pG} {v1 v2 v3 v4 v5 v6 : Int} (h1 : 0 ≤ v6) (h2 : v6 < 8) (h3 : v6 < 3) (k : EV d mX8_apart Q 82 [vR 45, vI v1, vI v2, vI v3, vI v4, vI v5, vI (w32 (v6 + 1))] [] (cset g 69 (fup (g 69) v6.toNat ((g 51) v6.toNat)))) : EV d mX8_apart Q 88 [vR 45, vI v1, vI v2, vI v3, vI v4, vI v5, vI v6] [] g := by
  refine wp_aload_n dX8_apart_88 rfl rfl ?_
  refine wp_get (v := vR 69) dX8_apart_89 fl_8_90 L_45 rfl ?_
  refine wp_iload dX8_apart_92 rfl ?_
  refine wp_aload_n dX8_apart_94 rfl rfl ?_
  refine wp_get (v := vR 51) dX8_apart_95 fl_8_35 L_45 rfl ?_
  refine wp_iload dX8_apart_98 rfl ?_
  refine wp_iaload dX8_apart_100 h1 L_51 h2 ?_
  refine wp_iastore dX8_apart_101 h1 L_69 h3 ?_
  refine wp_iinc dX8_apart_102 rfl (Nat.le_of_ble_eq_true rfl) (pp (c := 5) rfl rfl) ?_
  refine wp_goto (tgt := 82) dX8_apart_105 rfl ?_
  exact k
theorem b_X8_apart_108 {d : Nat} {Q : Option pV → pG → Prop} {g : pG} {v1 v2 v3 v4 v5 v6 : Int} {R : pG → Prop} (hc : CT d mX8_thinkThree [vR 45, vI v5, vI 4] g (qV R)) (k : ∀ gg : pG, R gg → EV d mX8_apart Q 115 [vR 45, vI v1, vI v2, vI v3, vI v4, vI v5, vI v6] [] gg) : EV d mX8_apart Q 108 [vR 45, vI v1, vI v2, vI v3, vI v4, vI v5, vI v6] [] g := by
  refine wp_aload_n dX8_apart_108 rfl rfl ?_
  refine wp_iload dX8_apart_109 rfl ?_
  refine wp_iconst dX8_apart_111 kc_4 ?_
  exact wp_callvV (As := [vI v5, vI 4]) dX8_apart_112 ml_8_309 (by decide) rfl L_45 (by decide) rfl (Nat.le_of_ble_eq_true rfl) rfl (Nat.le_refl _) (Nat.le_refl _) hc k
theorem b_X8_apart_115 {d : Nat} {Q : Option pV → pG → Prop} {g : pG} {v1 v2 v3 v4 v5 v6 : Int} {R : pG → Prop} (hc : CT d mX8_act [vR 45, vI v2, vI v3] g (qV R)) (k : ∀ gg : pG, R gg → EV d mX8_apart Q 121 [vR 45, vI v1, vI v2, vI v3, vI v4, vI v5, vI v6] [] gg) : EV d mX8_apart Q 115 [vR 45, vI v1, vI v2, vI v3, vI v4, vI v5, vI v6] [] g := by
  refine wp_aload_n dX8_apart_115 rfl rfl ?_
  refine wp_iload_n dX8_apart_116 rfl ?_
  refine wp_iload_n dX8_apart_117 rfl ?_
  exact wp_callvV (As := [vI v2, vI v3]) dX8_apart_118 ml_8_146 (by decide) rfl L_45 (by decide) rfl (Nat.le_of_ble_eq_true rfl) rfl (Nat.le_refl _) (Nat.le_refl _) hc k
theorem b_X8_apart_121 {d : Nat} {Q : Option pV → pG → Prop} {g : pG} {v1 v2 v3 v4 v5 v6 : Int} (k1 : ((g 69) 0 ≠ (g 51) 0) → EV d mX8_apart Q 166 [vR 45, vI v1, vI v2, vI v3, vI v4, vI v5, vI v6] [] g) (k2 : ¬ ((g 69) 0 ≠ (g 51) 0) → EV d mX8_apart Q 136 [vR 45, vI v1, vI v2, vI v3, vI v4, vI v5, vI v6] [] g) : EV d mX8_apart Q 121 [vR 45, vI v1, vI v2, vI v3, vI v4, vI v5, vI v6] [] g := by
  refine wp_aload_n dX8_apart_121 rfl rfl ?_
  refine wp_get (v := vR 69) dX8_apart_122 fl_8_90 L_45 rfl ?_
  refine wp_iconst dX8_apart_125 kc_0 ?_
  refine wp_iaload dX8_apart_126 (by decide) L_69 (by decide) ?_
  refine wp_aload_n dX8_apart_127 rfl rfl ?_
  refine wp_get (v := vR 51) dX8_apart_128 fl_8_35 L_45 rfl ?_
  refine wp_iconst dX8_apart_131 kc_0 ?_
  refine wp_iaload dX8_apart_132 (by decide) L_51 (by decide) ?_
  exact wp_icmp_ne (tgt := 166) dX8_apart_133 rfl k1 k2
theorem b_X8_apart_136 {d : Nat} {Q : Option pV → pG → Prop} {g : pG} {v1 v2 v3 v4 v5 v6 : Int} (k1 : ((g 69) 1 ≠ (g 51) 1) → EV d mX8_apart Q 166 [vR 45, vI v1, vI v2, vI v3, vI v4, vI v5, vI v6] [] g) (k2 : ¬ ((g 69) 1 ≠ (g 51) 1) → EV d mX8_apart Q 151 [vR 45, vI v1, vI v2, vI v3, vI v4, vI v5, vI v6] [] g) : EV d mX8_apart Q 136 [vR 45, vI v1, vI v2, vI v3, vI v4, vI v5, vI v6] [] g := by
  refine wp_aload_n dX8_apart_136 rfl rfl ?_
  refine wp_get (v := vR 69) dX8_apart_137 fl_8_90 L_45 rfl ?_
  refine wp_iconst dX8_apart_140 kc_1 ?_
  refine wp_iaload dX8_apart_141 (by decide) L_69 (by decide) ?_
  refine wp_aload_n dX8_apart_142 rfl rfl ?_
  refine wp_get (v := vR 51) dX8_apart_143 fl_8_35 L_45 rfl ?_
  refine wp_iconst dX8_apart_146 kc_1 ?_
  refine wp_iaload dX8_apart_147 (by decide) L_51 (by decide) ?_
  exact wp_icmp_ne (tgt := 166) dX8_apart_148 rfl k1 k2
theorem b_X8_apart_151 {d : Nat} {Q : Option pV → pG → Prop} {g : pG} {v1 v2 v3 v4 v5 v6 : Int} (k1 : ((g 69) 2 = (g 51) 2) → EV d mX8_apart Q 169 [vR 45, vI v1, vI v2, vI v3, vI v4, vI v5, vI v6] [] g) (k2 : ¬ ((g 69) 2 = (g 51) 2) → EV d mX8_apart Q 166 [vR 45, vI v1, vI v2, vI v3, vI v4, vI v5, vI v6] [] g) : EV d mX8_apart Q 151 [vR 45, vI v1, vI v2, vI v3, vI v4, vI v5, vI v6] [] g := by
  refine wp_aload_n dX8_apart_151 rfl rfl ?_
  refine wp_get (v := vR 69) dX8_apart_152 fl_8_90 L_45 rfl ?_
  refine wp_iconst dX8_apart_155 kc_2 ?_
  refine wp_iaload dX8_apart_156 (by decide) L_69 (by decide) ?_
  refine wp_aload_n dX8_apart_157 rfl rfl ?_
  refine wp_get (v := vR 51) dX8_apart_158 fl_8_35 L_45 rfl ?_
  refine wp_iconst dX8_apart_161 kc_2 ?_
  refine wp_iaload dX8_apart_162 (by decide) L_51 (by decide) ?_
  exact wp_icmp_eq (tgt := 169) dX8_apart_163 rfl k1 k2
theorem b_X8_apart_166 {d : Nat} {Q : Option pV → pG → Prop} {g : pG} {v1 v2 v3 v4 v5 v6 : Int} (hq : Q (some (vI v5)) g) : EV d mX8_apart Q 166 [vR 45, vI v1, vI v2, vI v3, vI v4, vI v5, vI v6] [] g := by
  refine wp_iload dX8_apart_166 rfl ?_
  exact wp_iret dX8_apart_168 rfl hq
theorem b_X8_apart_169 {d : Nat} {Q : Option pV → pG → Prop} {g : pG} {v1 v2 v3 v4 v5 v6 : Int} (k : EV d mX8_apart Q 58 [vR 45, vI v1, vI v2, vI v3, vI v4, vI (w32 (v5 + 1)), vI v6] [] g) : EV d mX8_apart Q 169 [vR 45, vI v1, vI v2, vI v3, vI v4, vI v5, vI v6] [] g := by
  refine wp_iinc dX8_apart_169 rfl (Nat.le_of_ble_eq_true rfl) (pp (c := 4) rfl rfl) ?_
  refine wp_goto (tgt := 58) dX8_apart_172 rfl ?_
  exact k
theorem b_X8_apart_175 {d : Nat} {Q : Option pV → pG → Prop} {g : pG} {v1 v2 v3 v4 v5 : Int} {u6 : pV} (hq : Q (some (vI (-9))) g) : EV d mX8_apart Q 175 [vR 45, vI v1, vI v2, vI v3, vI v4, vI v5, u6] [] g := by
  refine wp_bipush dX8_apart_175 kb_m9 kc_m9 ?_
  exact wp_iret dX8_apart_177 rfl hq
theorem b_X8_bedtime_0 {d : Nat} {Q : Option pV → pG → Prop} {g : pG} {v1 v2 : Int} {R : Int → pG → Prop} (hc : CT d mX8_wrongNumber [vI v1, vI 2, vI 20] (cset g 45 (fup (g 45) 8 0)) (qI R)) (k : ∀ (x : Int) (gg : pG), R x gg → EV d mX8_bedtime Q 12 [vR 45, vI v1, vI v2, vX 2, vX 2, vX 2, vX 2, vX 2, vX 2, vX 2, vX 2, vX 2] [vI x] gg) : EV d mX8_bedtime Q 0 [vR 45, vI v1, vI v2, vX 2, vX 2, vX 2, vX 2, vX 2, vX 2, vX 2, vX 2, vX 2] [] g := by
  refine wp_aload_n dX8_bedtime_0 rfl rfl ?_
  refine wp_iconst dX8_bedtime_1 kc_0 ?_
  refine wp_putI dX8_bedtime_2 fl_8_105 L_45 rfl rfl ?_
  refine wp_iload_n dX8_bedtime_5 rfl ?_
  refine wp_iconst dX8_bedtime_6 kc_2 ?_
  refine wp_bipush dX8_bedtime_7 kb_20 kc_20 ?_
  exact wp_callsI (As := [vI v1, vI 2, vI 20]) dX8_bedtime_9 ml_8_235 (Or.inl rfl) rfl (Nat.le_of_ble_eq_true rfl) rfl (Nat.le_refl _) (Nat.le_refl _) hc k
theorem b_X8_bedtime_12 {d : Nat} {Q : Option pV → pG → Prop} {g : pG} {v1 v2 vs0 : Int} {R : Int → pG → Prop} (hc : CT d mX8_wrongBit [vI vs0, vI v2, vI 1] g (qI R)) (k : ∀ (x : Int) (gg : pG), R x gg → EV d mX8_bedtime Q 17 [vR 45, vI v1, vI v2, vX 2, vX 2, vX 2, vX 2, vX 2, vX 2, vX 2, vX 2, vX 2] [vI x] gg) : EV d mX8_bedtime Q 12 [vR 45, vI v1, vI v2, vX 2, vX 2, vX 2, vX 2, vX 2, vX 2, vX 2, vX 2, vX 2] [vI vs0] g := by
  refine wp_iload_n dX8_bedtime_12 rfl ?_
  refine wp_iconst dX8_bedtime_13 kc_1 ?_
  exact wp_callsI (As := [vI vs0, vI v2, vI 1]) dX8_bedtime_14 ml_8_279 (Or.inl rfl) rfl (Nat.le_of_ble_eq_true rfl) rfl (Nat.le_refl _) (Nat.le_refl _) hc k
theorem b_X8_bedtime_17 {d : Nat} {Q : Option pV → pG → Prop} {g : pG} {v1 v2 vs0 : Int} (k1 : (0 ≤ vs0) → EV d mX8_bedtime Q 33 [vR 45, vI v1, vI v2, vI vs0, vX 2, vX 2, vX 2, vX 2, vX 2, vX 2, vX 2, vX 2] [] g) (k2 : ¬ (0 ≤ vs0) → EV d mX8_bedtime Q 22 [vR 45, vI v1, vI v2, vI vs0, vX 2, vX 2, vX 2, vX 2, vX 2, vX 2, vX 2, vX 2] [] g) : EV d mX8_bedtime Q 17 [vR 45, vI v1, vI v2, vX 2, vX 2, vX 2, vX 2, vX 2, vX 2, vX 2, vX 2, vX 2] [vI vs0] g := by
  refine wp_istore_n dX8_bedtime_17 (Nat.le_of_ble_eq_true rfl) (pp (c := 2) rfl rfl) ?_
  refine wp_iload_n dX8_bedtime_18 rfl ?_
  exact wp_if_ge (tgt := 33) dX8_bedtime_19 rfl k1 k2
theorem b_X8_bedtime_22 {d : Nat} {Q : Option pV → pG → Prop} {g : pG} {v1 v2 v3 : Int} {R : Int → pG → Prop} (hc : CT d mX8_refuse [vR 45, vI v3] g (qI R)) (k : ∀ (x : Int) (gg : pG), R x gg → EV d mX8_bedtime Q 30 [vR 45, vI v1, vI v2, vI v3, vX 2, vX 2, vX 2, vX 2, vX 2, vX 2, vX 2, vX 2] [vI x, vL 4000000000000000000] gg) : EV d mX8_bedtime Q 22 [vR 45, vI v1, vI v2, vI v3, vX 2, vX 2, vX 2, vX 2, vX 2, vX 2, vX 2, vX 2] [] g := by
  refine wp_ldc2_w dX8_bedtime_22 k2_8_315 ?_
  refine wp_aload_n dX8_bedtime_25 rfl rfl ?_
  refine wp_iload_n dX8_bedtime_26 rfl ?_
  exact wp_callvI (As := [vI v3]) dX8_bedtime_27 ml_8_164 (by decide) rfl L_45 (by decide) rfl (Nat.le_of_ble_eq_true rfl) rfl (Nat.le_refl _) (Nat.le_refl _) hc k
theorem b_X8_bedtime_30 {d : Nat} {Q : Option pV → pG → Prop} {g : pG} {v1 v2 v3 ls0 vs1 : Int} (hq : Q (some (vL (w64 (ls0 - vs1)))) g) : EV d mX8_bedtime Q 30 [vR 45, vI v1, vI v2, vI v3, vX 2, vX 2, vX 2, vX 2, vX 2, vX 2, vX 2, vX 2] [vI vs1, vL ls0] g := by
  refine wp_i2l dX8_bedtime_30 ?_
  refine wp_lsub dX8_bedtime_31 ?_
  exact wp_lret dX8_bedtime_32 rfl hq
theorem b_X8_bedtime_33 {d : Nat} {Q : Option pV → pG → Prop} {g : pG} {v1 v2 v3 : Int} (k : EV d mX8_bedtime Q 42 [vR 45, vI v1, vI v2, vI v3, vL 0, vX 2, vL 1, vX 2, vI 0, vX 2, vX 2, vX 2] [] g) : EV d mX8_bedtime Q 33 [vR 45, vI v1, vI v2, vI v3, vX 2, vX 2, vX 2, vX 2, vX 2, vX 2, vX 2, vX 2] [] g := by
  refine wp_lconst (x := 0) dX8_bedtime_33 rfl ?_
  refine wp_lstore dX8_bedtime_34 (Nat.le_of_ble_eq_true rfl) (pp (c := 3) rfl rfl) ?_
  refine wp_lconst (x := 1) dX8_bedtime_36 rfl ?_
  refine wp_lstore dX8_bedtime_37 (Nat.le_of_ble_eq_true rfl) (pp (c := 5) rfl rfl) ?_
  refine wp_iconst dX8_bedtime_39 kc_0 ?_
  refine wp_istore dX8_bedtime_40 (Nat.le_of_ble_eq_true rfl) (pp (c := 7) rfl rfl) ?_
  exact k
theorem b_X8_bedtime_42 {d : Nat} {Q : Option pV → pG → Prop} {g : pG} {v1 v2 v3 l4 l6 v8 : Int} (k1 : ((g 45) 0 ≤ v8) → EV d mX8_bedtime Q 64 [vR 45, vI v1, vI v2, vI v3, vL l4, vX 2, vL l6, vX 2, vI v8, vX 2, vX 2, vX 2] [] g) (k2 : ¬ ((g 45) 0 ≤ v8) → EV d mX8_bedtime Q 51 [vR 45, vI v1, vI v2, vI v3, vL l4, vX 2, vL l6, vX 2, vI v8, vX 2, vX 2, vX 2] [] g) : EV d mX8_bedtime Q 42 [vR 45, vI v1, vI v2, vI v3, vL l4, vX 2, vL l6, vX 2, vI v8, vX 2, vX 2, vX 2] [] g := by
  refine wp_iload dX8_bedtime_42 rfl ?_
  refine wp_aload_n dX8_bedtime_44 rfl rfl ?_
  refine wp_get (v := vI ((g 45) 0)) dX8_bedtime_45 fl_8_108 L_45 rfl ?_
  exact wp_icmp_ge (tgt := 64) dX8_bedtime_48 rfl k1 k2
theorem b_X8_bedtime_51 {d : Nat} {Q : Option pV → pG → Prop} {g : pG} {v1 v2 v3 l4 l6 v8 : Int} (k : EV d mX8_bedtime Q 42 [vR 45, vI v1, vI v2, vI v3, vL l4, vX 2, vL (w64 (l6 * v1)), vX 2, vI (w32 (v8 + 1)), vX 2, vX 2, vX 2] [] g) : EV d mX8_bedtime Q 51 [vR 45, vI v1, vI v2, vI v3, vL l4, vX 2, vL l6, vX 2, vI v8, vX 2, vX 2, vX 2] [] g := by
  refine wp_lload dX8_bedtime_51 rfl ?_
  refine wp_iload_n dX8_bedtime_53 rfl ?_
  refine wp_i2l dX8_bedtime_54 ?_
  refine wp_lmul dX8_bedtime_55 ?_
  refine wp_lstore dX8_bedtime_56 (Nat.le_of_ble_eq_true rfl) (pp (c := 5) rfl rfl) ?_
  refine wp_iinc dX8_bedtime_58 rfl (Nat.le_of_ble_eq_true rfl) (pp (c := 7) rfl rfl) ?_
  refine wp_goto (tgt := 42) dX8_bedtime_61 rfl ?_
  exact k
theorem b_X8_bedtime_64 {d : Nat} {Q : Option pV → pG → Prop} {g : pG} {v1 v2 v3 l4 l6 v8 : Int} (k : EV d mX8_bedtime Q 67 [vR 45, vI v1, vI v2, vI v3, vL l4, vX 2, vL l6, vX 2, vI 0, vX 2, vX 2, vX 2] [] g) : EV d mX8_bedtime Q 64 [vR 45, vI v1, vI v2, vI v3, vL l4, vX 2, vL l6, vX 2, vI v8, vX 2, vX 2, vX 2] [] g := by
  refine wp_iconst dX8_bedtime_64 kc_0 ?_
  refine wp_istore dX8_bedtime_65 (Nat.le_of_ble_eq_true rfl) (pp (c := 7) rfl rfl) ?_
  exact k
theorem b_X8_bedtime_67 {d : Nat} {Q : Option pV → pG → Prop} {g : pG} {v1 v2 v3 l4 l6 v8 : Int} {u9 u11 : pV} (k1 : (zshl 1 ((g 45) 0) ≤ v8) → EV d mX8_bedtime Q 156 [vR 45, vI v1, vI v2, vI v3, vL l4, vX 2, vL l6, vX 2, vI v8, u9, vX 2, u11] [] g) (k2 : ¬ (zshl 1 ((g 45) 0) ≤ v8) → EV d mX8_bedtime Q 78 [vR 45, vI v1, vI v2, vI v3, vL l4, vX 2, vL l6, vX 2, vI v8, u9, vX 2, u11] [] g) : EV d mX8_bedtime Q 67 [vR 45, vI v1, vI v2, vI v3, vL l4, vX 2, vL l6, vX 2, vI v8, u9, vX 2, u11] [] g := by
  refine wp_iload dX8_bedtime_67 rfl ?_
  refine wp_iconst dX8_bedtime_69 kc_1 ?_
  refine wp_aload_n dX8_bedtime_70 rfl rfl ?_
  refine wp_get (v := vI ((g 45) 0)) dX8_bedtime_71 fl_8_108 L_45 rfl ?_
  refine wp_ishl dX8_bedtime_74 ?_
  exact wp_icmp_ge (tgt := 156) dX8_bedtime_75 rfl k1 k2
theorem b_X8_bedtime_78 {d : Nat} {Q : Option pV → pG → Prop} {g : pG} {v1 v2 v3 l4 l6 v8 : Int} {u9 u11 : pV} (k : EV d mX8_bedtime Q 84 [vR 45, vI v1, vI v2, vI v3, vL l4, vX 2, vL l6, vX 2, vI v8, vL 1, vX 2, vI 0] [] g) : EV d mX8_bedtime Q 78 [vR 45, vI v1, vI v2, vI v3, vL l4, vX 2, vL l6, vX 2, vI v8, u9, vX 2, u11] [] g := by
  refine wp_lconst (x := 1) dX8_bedtime_78 rfl ?_
  refine wp_lstore dX8_bedtime_79 (Nat.le_of_ble_eq_true rfl) (pp (c := 8) rfl rfl) ?_
  refine wp_iconst dX8_bedtime_81 kc_0 ?_
  refine wp_istore dX8_bedtime_82 (Nat.le_of_ble_eq_true rfl) (pp (c := 10) rfl rfl) ?_
  exact k
theorem b_X8_bedtime_84 {d : Nat} {Q : Option pV → pG → Prop} {g : pG} {v1 v2 v3 l4 l6 v8 l9 v11 : Int} (k1 : ((g 45) 0 ≤ v11) → EV d mX8_bedtime Q 122 [vR 45, vI v1, vI v2, vI v3, vL l4, vX 2, vL l6, vX 2, vI v8, vL l9, vX 2, vI v11] [] g) (k2 : ¬ ((g 45) 0 ≤ v11) → EV d mX8_bedtime Q 93 [vR 45, vI v1, vI v2, vI v3, vL l4, vX 2, vL l6, vX 2, vI v8, vL l9, vX 2, vI v11] [] g) : EV d mX8_bedtime Q 84 [vR 45, vI v1, vI v2, vI v3, vL l4, vX 2, vL l6, vX 2, vI v8, vL l9, vX 2, vI v11] [] g := by
  refine wp_iload dX8_bedtime_84 rfl ?_
  refine wp_aload_n dX8_bedtime_86 rfl rfl ?_
  refine wp_get (v := vI ((g 45) 0)) dX8_bedtime_87 fl_8_108 L_45 rfl ?_
  exact wp_icmp_ge (tgt := 122) dX8_bedtime_90 rfl k1 k2
theorem b_X8_bedtime_93 {d : Nat} {Q : Option pV → pG → Prop} {g : pG} {v1 v2 v3 l4 l6 v8 l9 v11 : Int} {R : Int → pG → Prop} (hc : CT d mX8_hasBit [vI v8, vI v11] g (qI R)) (k : ∀ (x : Int) (gg : pG), R x gg → EV d mX8_bedtime Q 102 [vR 45, vI v1, vI v2, vI v3, vL l4, vX 2, vL l6, vX 2, vI v8, vL l9, vX 2, vI v11] [vI x, vL l9] gg) : EV d mX8_bedtime Q 93 [vR 45, vI v1, vI v2, vI v3, vL l4, vX 2, vL l6, vX 2, vI v8, vL l9, vX 2, vI v11] [] g := by
  refine wp_lload dX8_bedtime_93 rfl ?_
  refine wp_iload dX8_bedtime_95 rfl ?_
  refine wp_iload dX8_bedtime_97 rfl ?_
  exact wp_callsI (As := [vI v8, vI v11]) dX8_bedtime_99 ml_8_150 (Or.inl rfl) rfl (Nat.le_of_ble_eq_true rfl) rfl (Nat.le_refl _) (Nat.le_refl _) hc k
theorem b_X8_bedtime_102 {d : Nat} {Q : Option pV → pG → Prop} {g : pG} {v1 v2 v3 l4 l6 v8 l9 v11 ls0 vs1 : Int} (k1 : (vs1 = 0) → EV d mX8_bedtime Q 109 [vR 45, vI v1, vI v2, vI v3, vL l4, vX 2, vL l6, vX 2, vI v8, vL l9, vX 2, vI v11] [vL ls0] g) (k2 : ¬ (vs1 = 0) → EV d mX8_bedtime Q 105 [vR 45, vI v1, vI v2, vI v3, vL l4, vX 2, vL l6, vX 2, vI v8, vL l9, vX 2, vI v11] [vL ls0] g) : EV d mX8_bedtime Q 102 [vR 45, vI v1, vI v2, vI v3, vL l4, vX 2, vL l6, vX 2, vI v8, vL l9, vX 2, vI v11] [vI vs1, vL ls0] g := by
  exact wp_if_eq (tgt := 109) dX8_bedtime_102 rfl k1 k2
theorem b_X8_bedtime_105 {d : Nat} {Q : Option pV → pG → Prop} {g : pG} {v1 v2 v3 l4 l6 v8 l9 v11 ls0 : Int} (k : EV d mX8_bedtime Q 84 [vR 45, vI v1, vI v2, vI v3, vL l4, vX 2, vL l6, vX 2, vI v8, vL (w64 (ls0 * 1)), vX 2, vI (w32 (v11 + 1))] [] g) : EV d mX8_bedtime Q 105 [vR 45, vI v1, vI v2, vI v3, vL l4, vX 2, vL l6, vX 2, vI v8, vL l9, vX 2, vI v11] [vL ls0] g := by
  refine wp_lconst (x := 1) dX8_bedtime_105 rfl ?_
  refine wp_goto (tgt := 113) dX8_bedtime_106 rfl ?_
  refine wp_lmul dX8_bedtime_113 ?_
  refine wp_lstore dX8_bedtime_114 (Nat.le_of_ble_eq_true rfl) (pp (c := 8) rfl rfl) ?_
  refine wp_iinc dX8_bedtime_116 rfl (Nat.le_of_ble_eq_true rfl) (pp (c := 10) rfl rfl) ?_
  refine wp_goto (tgt := 84) dX8_bedtime_119 rfl ?_
  exact k
theorem b_X8_bedtime_109 {d : Nat} {Q : Option pV → pG → Prop} {g : pG} {v1 v2 v3 l4 l6 v8 l9 v11 ls0 : Int} (k : EV d mX8_bedtime Q 84 [vR 45, vI v1, vI v2, vI v3, vL l4, vX 2, vL l6, vX 2, vI v8, vL (w64 (ls0 * (w32 (v1 - 1)))), vX 2, vI (w32 (v11 + 1))] [] g) : EV d mX8_bedtime Q 109 [vR 45, vI v1, vI v2, vI v3, vL l4, vX 2, vL l6, vX 2, vI v8, vL l9, vX 2, vI v11] [vL ls0] g := by
  refine wp_iload_n dX8_bedtime_109 rfl ?_
  refine wp_iconst dX8_bedtime_110 kc_1 ?_
  refine wp_isub dX8_bedtime_111 ?_
  refine wp_i2l dX8_bedtime_112 ?_
  refine wp_lmul dX8_bedtime_113 ?_
  refine wp_lstore dX8_bedtime_114 (Nat.le_of_ble_eq_true rfl) (pp (c := 8) rfl rfl) ?_
  refine wp_iinc dX8_bedtime_116 rfl (Nat.le_of_ble_eq_true rfl) (pp (c := 10) rfl rfl) ?_
  refine wp_goto (tgt := 84) dX8_bedtime_119 rfl ?_
  exact k
theorem b_X8_bedtime_122 {d : Nat} {Q : Option pV → pG → Prop} {g : pG} {v1 v2 v3 l4 l6 v8 l9 v11 : Int} {R : pG → Prop} (hc : CT d mX8_think [vR 45] g (qV R)) (k : ∀ gg : pG, R gg → EV d mX8_bedtime Q 126 [vR 45, vI v1, vI v2, vI v3, vL l4, vX 2, vL l6, vX 2, vI v8, vL l9, vX 2, vI v11] [] gg) : EV d mX8_bedtime Q 122 [vR 45, vI v1, vI v2, vI v3, vL l4, vX 2, vL l6, vX 2, vI v8, vL l9, vX 2, vI v11] [] g := by
  refine wp_aload_n dX8_bedtime_122 rfl rfl ?_
  exact wp_callvV (As := []) dX8_bedtime_123 ml_8_158 (by decide) rfl L_45 (by decide) rfl (Nat.le_of_ble_eq_true rfl) rfl (Nat.le_refl _) (Nat.le_refl _) hc k
theorem b_X8_bedtime_126 {d : Nat} {Q : Option pV → pG → Prop} {g : pG} {v1 v2 v3 l4 l6 v8 l9 v11 : Int} {R : pG → Prop} (hc : CT d mX8_passAll [vR 45, vI v8] g (qV R)) (k : ∀ gg : pG, R gg → EV d mX8_bedtime Q 132 [vR 45, vI v1, vI v2, vI v3, vL l4, vX 2, vL l6, vX 2, vI v8, vL l9, vX 2, vI v11] [] gg) : EV d mX8_bedtime Q 126 [vR 45, vI v1, vI v2, vI v3, vL l4, vX 2, vL l6, vX 2, vI v8, vL l9, vX 2, vI v11] [] g := by
  refine wp_aload_n dX8_bedtime_126 rfl rfl ?_
  refine wp_iload dX8_bedtime_127 rfl ?_
  exact wp_callvV (As := [vI v8]) dX8_bedtime_129 ml_8_161 (by decide) rfl L_45 (by decide) rfl (Nat.le_of_ble_eq_true rfl) rfl (Nat.le_refl _) (Nat.le_refl _) hc k
theorem b_X8_bedtime_132 {d : Nat} {Q : Option pV → pG → Prop} {g : pG} {v1 v2 v3 l4 l6 v8 l9 v11 : Int} {R : Int → pG → Prop} (hc : CT d mX8_isFor [vR 45] g (qI R)) (k : ∀ (x : Int) (gg : pG), R x gg → EV d mX8_bedtime Q 138 [vR 45, vI v1, vI v2, vI v3, vL l4, vX 2, vL l6, vX 2, vI v8, vL l9, vX 2, vI v11] [vI x, vL l4] gg) : EV d mX8_bedtime Q 132 [vR 45, vI v1, vI v2, vI v3, vL l4, vX 2, vL l6, vX 2, vI v8, vL l9, vX 2, vI v11] [] g := by
  refine wp_lload dX8_bedtime_132 rfl ?_
  refine wp_aload_n dX8_bedtime_134 rfl rfl ?_
  exact wp_callvI (As := []) dX8_bedtime_135 ml_8_252 (by decide) rfl L_45 (by decide) rfl (Nat.le_of_ble_eq_true rfl) rfl (Nat.le_refl _) (Nat.le_refl _) hc k
theorem b_X8_bedtime_138 {d : Nat} {Q : Option pV → pG → Prop} {g : pG} {v1 v2 v3 l4 l6 v8 l9 v11 ls0 vs1 : Int} (k1 : (vs1 = 0) → EV d mX8_bedtime Q 146 [vR 45, vI v1, vI v2, vI v3, vL l4, vX 2, vL l6, vX 2, vI v8, vL l9, vX 2, vI v11] [vL ls0] g) (k2 : ¬ (vs1 = 0) → EV d mX8_bedtime Q 141 [vR 45, vI v1, vI v2, vI v3, vL l4, vX 2, vL l6, vX 2, vI v8, vL l9, vX 2, vI v11] [vL ls0] g) : EV d mX8_bedtime Q 138 [vR 45, vI v1, vI v2, vI v3, vL l4, vX 2, vL l6, vX 2, vI v8, vL l9, vX 2, vI v11] [vI vs1, vL ls0] g := by
  exact wp_if_eq (tgt := 146) dX8_bedtime_138 rfl k1 k2
theorem b_X8_bedtime_141 {d : Nat} {Q : Option pV → pG → Prop} {g : pG} {v1 v2 v3 l4 l6 v8 l9 v11 ls0 : Int} (k : EV d mX8_bedtime Q 67 [vR 45, vI v1, vI v2, vI v3, vL (w64 (ls0 + l9)), vX 2, vL l6, vX 2, vI (w32 (v8 + 1)), vL l9, vX 2, vI v11] [] g) : EV d mX8_bedtime Q 141 [vR 45, vI v1, vI v2, vI v3, vL l4, vX 2, vL l6, vX 2, vI v8, vL l9, vX 2, vI v11] [vL ls0] g := by
  refine wp_lload dX8_bedtime_141 rfl ?_
  refine wp_goto (tgt := 147) dX8_bedtime_143 rfl ?_
  refine wp_ladd dX8_bedtime_147 ?_
  refine wp_lstore dX8_bedtime_148 (Nat.le_of_ble_eq_true rfl) (pp (c := 3) rfl rfl) ?_
  refine wp_iinc dX8_bedtime_150 rfl (Nat.le_of_ble_eq_true rfl) (pp (c := 7) rfl rfl) ?_
  refine wp_goto (tgt := 67) dX8_bedtime_153 rfl ?_
  exact k
theorem b_X8_bedtime_146 {d : Nat} {Q : Option pV → pG → Prop} {g : pG} {v1 v2 v3 l4 l6 v8 l9 v11 ls0 : Int} (k : EV d mX8_bedtime Q 67 [vR 45, vI v1, vI v2, vI v3, vL (w64 (ls0 + 0)), vX 2, vL l6, vX 2, vI (w32 (v8 + 1)), vL l9, vX 2, vI v11] [] g) : EV d mX8_bedtime Q 146 [vR 45, vI v1, vI v2, vI v3, vL l4, vX 2, vL l6, vX 2, vI v8, vL l9, vX 2, vI v11] [vL ls0] g := by
  refine wp_lconst (x := 0) dX8_bedtime_146 rfl ?_
  refine wp_ladd dX8_bedtime_147 ?_
  refine wp_lstore dX8_bedtime_148 (Nat.le_of_ble_eq_true rfl) (pp (c := 3) rfl rfl) ?_
  refine wp_iinc dX8_bedtime_150 rfl (Nat.le_of_ble_eq_true rfl) (pp (c := 7) rfl rfl) ?_
  refine wp_goto (tgt := 67) dX8_bedtime_153 rfl ?_
  exact k
theorem b_X8_bedtime_156 {d : Nat} {Q : Option pV → pG → Prop} {g : pG} {v1 v2 v3 l4 l6 v8 : Int} {u9 u11 : pV} (k1 : (lcmpZ l4 0 ≠ 0) → EV d mX8_bedtime Q 166 [vR 45, vI v1, vI v2, vI v3, vL l4, vX 2, vL l6, vX 2, vI v8, u9, vX 2, u11] [] g) (k2 : ¬ (lcmpZ l4 0 ≠ 0) → EV d mX8_bedtime Q 163 [vR 45, vI v1, vI v2, vI v3, vL l4, vX 2, vL l6, vX 2, vI v8, u9, vX 2, u11] [] g) : EV d mX8_bedtime Q 156 [vR 45, vI v1, vI v2, vI v3, vL l4, vX 2, vL l6, vX 2, vI v8, u9, vX 2, u11] [] g := by
  refine wp_lload dX8_bedtime_156 rfl ?_
  refine wp_lconst (x := 0) dX8_bedtime_158 rfl ?_
  refine wp_lcmp dX8_bedtime_159 ?_
  exact wp_if_ne (tgt := 166) dX8_bedtime_160 rfl k1 k2
theorem b_X8_bedtime_163 {d : Nat} {Q : Option pV → pG → Prop} {g : pG} {v1 v2 v3 l4 l6 v8 : Int} {u9 u11 : pV} (hq : Q (some (vL v2)) g) : EV d mX8_bedtime Q 163 [vR 45, vI v1, vI v2, vI v3, vL l4, vX 2, vL l6, vX 2, vI v8, u9, vX 2, u11] [] g := by
  refine wp_iload_n dX8_bedtime_163 rfl ?_
  refine wp_i2l dX8_bedtime_164 ?_
  exact wp_lret dX8_bedtime_165 rfl hq
theorem b_X8_bedtime_166 {d : Nat} {Q : Option pV → pG → Prop} {g : pG} {v1 v2 v3 l4 l6 v8 : Int} {u9 u11 : pV} {R : Int → pG → Prop} (hc : CT d mX8_divisor [vL l4, vL l6] g (qL R)) (k : ∀ (x : Int) (gg : pG), R x gg → EV d mX8_bedtime Q 173 [vR 45, vI v1, vI v2, vI v3, vL l4, vX 2, vL l6, vX 2, vI v8, u9, vX 2, u11] [vL x] gg) : EV d mX8_bedtime Q 166 [vR 45, vI v1, vI v2, vI v3, vL l4, vX 2, vL l6, vX 2, vI v8, u9, vX 2, u11] [] g := by
  refine wp_lload dX8_bedtime_166 rfl ?_
  refine wp_lload dX8_bedtime_168 rfl ?_
  exact wp_callsL (As := [vL l4, vL l6]) dX8_bedtime_170 ml_8_317 (Or.inl rfl) rfl (Nat.le_of_ble_eq_true rfl) rfl (Nat.le_refl _) (Nat.le_refl _) hc k
theorem b_X8_bedtime_173 {d : Nat} {Q : Option pV → pG → Prop} {g : pG} {v1 v2 v3 l4 l6 v8 ls0 : Int} {u9 u11 : pV} (k1 : (v2 ≠ 0) → EV d mX8_bedtime Q 187 [vR 45, vI v1, vI v2, vI v3, vL l4, vX 2, vL l6, vX 2, vL ls0, vX 2, vX 2, u11] [] g) (k2 : ¬ (v2 ≠ 0) → EV d mX8_bedtime Q 179 [vR 45, vI v1, vI v2, vI v3, vL l4, vX 2, vL l6, vX 2, vL ls0, vX 2, vX 2, u11] [] g) : EV d mX8_bedtime Q 173 [vR 45, vI v1, vI v2, vI v3, vL l4, vX 2, vL l6, vX 2, vI v8, u9, vX 2, u11] [vL ls0] g := by
  refine wp_lstore dX8_bedtime_173 (Nat.le_of_ble_eq_true rfl) (pp (c := 7) rfl rfl) ?_
  refine wp_iload_n dX8_bedtime_175 rfl ?_
  exact wp_if_ne (tgt := 187) dX8_bedtime_176 rfl k1 k2
theorem b_X8_bedtime_179 {d : Nat} {Q : Option pV → pG → Prop} {g : pG} {v1 v2 v3 l4 l6 l8 : Int} {u11 : pV} (h1 : l8 ≠ 0) (hq : Q (some (vL (w64 (l4.tdiv l8)))) g) : EV d mX8_bedtime Q 179 [vR 45, vI v1, vI v2, vI v3, vL l4, vX 2, vL l6, vX 2, vL l8, vX 2, vX 2, u11] [] g := by
  refine wp_lload dX8_bedtime_179 rfl ?_
  refine wp_lload dX8_bedtime_181 rfl ?_
  refine wp_ldiv dX8_bedtime_183 h1 ?_
  refine wp_goto (tgt := 192) dX8_bedtime_184 rfl ?_
  exact wp_lret dX8_bedtime_192 rfl hq
theorem b_X8_bedtime_187 {d : Nat} {Q : Option pV → pG → Prop} {g : pG} {v1 v2 v3 l4 l6 l8 : Int} {u11 : pV} (h1 : l8 ≠ 0) (hq : Q (some (vL (w64 (l6.tdiv l8)))) g) : EV d mX8_bedtime Q 187 [vR 45, vI v1, vI v2, vI v3, vL l4, vX 2, vL l6, vX 2, vL l8, vX 2, vX 2, u11] [] g := by
  refine wp_lload dX8_bedtime_187 rfl ?_
  refine wp_lload dX8_bedtime_189 rfl ?_
  refine wp_ldiv dX8_bedtime_191 h1 ?_
  exact wp_lret dX8_bedtime_192 rfl hq
theorem b_X8_divisor_0 {d : Nat} {Q : Option pV → pG → Prop} {g : pG} {l0 l2 : Int} (k : EV d mX8_divisor Q 6 [vL l0, vX 2, vL l2, vX 2, vL l0, vX 2, vL l2, vX 2, vX 2, vX 2] [] g) : EV d mX8_divisor Q 0 [vL l0, vX 2, vL l2, vX 2, vX 2, vX 2, vX 2, vX 2, vX 2, vX 2] [] g := by
  refine wp_lload_n dX8_divisor_0 rfl ?_
  refine wp_lstore dX8_divisor_1 (Nat.le_of_ble_eq_true rfl) (pp (c := 3) rfl rfl) ?_
  refine wp_lload_n dX8_divisor_3 rfl ?_
  refine wp_lstore dX8_divisor_4 (Nat.le_of_ble_eq_true rfl) (pp (c := 5) rfl rfl) ?_
  exact k
theorem b_X8_divisor_6 {d : Nat} {Q : Option pV → pG → Prop} {g : pG} {l0 l2 l4 l6 : Int} {u8 : pV} (k1 : (lcmpZ l6 0 = 0) → EV d mX8_divisor Q 31 [vL l0, vX 2, vL l2, vX 2, vL l4, vX 2, vL l6, vX 2, u8, vX 2] [] g) (k2 : ¬ (lcmpZ l6 0 = 0) → EV d mX8_divisor Q 13 [vL l0, vX 2, vL l2, vX 2, vL l4, vX 2, vL l6, vX 2, u8, vX 2] [] g) : EV d mX8_divisor Q 6 [vL l0, vX 2, vL l2, vX 2, vL l4, vX 2, vL l6, vX 2, u8, vX 2] [] g := by
  refine wp_lload dX8_divisor_6 rfl ?_
  refine wp_lconst (x := 0) dX8_divisor_8 rfl ?_
  refine wp_lcmp dX8_divisor_9 ?_
  exact wp_if_eq (tgt := 31) dX8_divisor_10 rfl k1 k2
theorem b_X8_divisor_13 {d : Nat} {Q : Option pV → pG → Prop} {g : pG} {l0 l2 l4 l6 : Int} {u8 : pV} (h1 : l6 ≠ 0) (k : EV d mX8_divisor Q 6 [vL l0, vX 2, vL l2, vX 2, vL l6, vX 2, vL (w64 (l4.tmod l6)), vX 2, vL (w64 (l4.tmod l6)), vX 2] [] g) : EV d mX8_divisor Q 13 [vL l0, vX 2, vL l2, vX 2, vL l4, vX 2, vL l6, vX 2, u8, vX 2] [] g := by
  refine wp_lload dX8_divisor_13 rfl ?_
  refine wp_lload dX8_divisor_15 rfl ?_
  refine wp_lrem dX8_divisor_17 h1 ?_
  refine wp_lstore dX8_divisor_18 (Nat.le_of_ble_eq_true rfl) (pp (c := 7) rfl rfl) ?_
  refine wp_lload dX8_divisor_20 rfl ?_
  refine wp_lstore dX8_divisor_22 (Nat.le_of_ble_eq_true rfl) (pp (c := 3) rfl rfl) ?_
  refine wp_lload dX8_divisor_24 rfl ?_
  refine wp_lstore dX8_divisor_26 (Nat.le_of_ble_eq_true rfl) (pp (c := 5) rfl rfl) ?_
  refine wp_goto (tgt := 6) dX8_divisor_28 rfl ?_
  exact k
theorem b_X8_divisor_31 {d : Nat} {Q : Option pV → pG → Prop} {g : pG} {l0 l2 l4 l6 : Int} {u8 : pV} (hq : Q (some (vL l4)) g) : EV d mX8_divisor Q 31 [vL l0, vX 2, vL l2, vX 2, vL l4, vX 2, vL l6, vX 2, u8, vX 2] [] g := by
  refine wp_lload dX8_divisor_31 rfl ?_
  exact wp_lret dX8_divisor_33 rfl hq
theorem b_X8_order_0 {d : Nat} {Q : Option pV → pG → Prop} {g : pG} {R : Int → pG → Prop} (hc : CT d mX8_sumBehindAll [vR 45] (cset g 45 (fup (g 45) 8 0)) (qI R)) (k : ∀ (x : Int) (gg : pG), R x gg → EV d mX8_order Q 9 [vR 45, vX 2, vX 2, vX 2, vX 2, vX 2] [vI x] gg) : EV d mX8_order Q 0 [vR 45, vX 2, vX 2, vX 2, vX 2, vX 2] [] g := by
  refine wp_aload_n dX8_order_0 rfl rfl ?_
  refine wp_iconst dX8_order_1 kc_0 ?_
  refine wp_putI dX8_order_2 fl_8_105 L_45 rfl rfl ?_
  refine wp_aload_n dX8_order_5 rfl rfl ?_
  exact wp_callvI (As := []) dX8_order_6 ml_8_297 (by decide) rfl L_45 (by decide) rfl (Nat.le_of_ble_eq_true rfl) rfl (Nat.le_refl _) (Nat.le_refl _) hc k
theorem b_X8_order_9 {d : Nat} {Q : Option pV → pG → Prop} {g : pG} {vs0 : Int} (k : EV d mX8_order Q 15 [vR 45, vI vs0, vI (-9), vI 0, vX 2, vX 2] [] g) : EV d mX8_order Q 9 [vR 45, vX 2, vX 2, vX 2, vX 2, vX 2] [vI vs0] g := by
  refine wp_istore_n dX8_order_9 (Nat.le_of_ble_eq_true rfl) (pp (c := 0) rfl rfl) ?_
  refine wp_bipush dX8_order_10 kb_m9 kc_m9 ?_
  refine wp_istore_n dX8_order_12 (Nat.le_of_ble_eq_true rfl) (pp (c := 1) rfl rfl) ?_
  refine wp_iconst dX8_order_13 kc_0 ?_
  refine wp_istore_n dX8_order_14 (Nat.le_of_ble_eq_true rfl) (pp (c := 2) rfl rfl) ?_
  exact k
theorem b_X8_order_15 {d : Nat} {Q : Option pV → pG → Prop} {g : pG} {v1 v2 v3 : Int} {u4 u5 : pV} (k1 : ((g 45) 0 ≤ v3) → EV d mX8_order Q 100 [vR 45, vI v1, vI v2, vI v3, u4, u5] [] g) (k2 : ¬ ((g 45) 0 ≤ v3) → EV d mX8_order Q 23 [vR 45, vI v1, vI v2, vI v3, u4, u5] [] g) : EV d mX8_order Q 15 [vR 45, vI v1, vI v2, vI v3, u4, u5] [] g := by
  refine wp_iload_n dX8_order_15 rfl ?_
  refine wp_aload_n dX8_order_16 rfl rfl ?_
  refine wp_get (v := vI ((g 45) 0)) dX8_order_17 fl_8_108 L_45 rfl ?_
  exact wp_icmp_ge (tgt := 100) dX8_order_20 rfl k1 k2
theorem b_X8_order_23 {d : Nat} {Q : Option pV → pG → Prop} {g : pG} {v1 v2 v3 : Int} {u4 u5 : pV} (k : EV d mX8_order Q 28 [vR 45, vI v1, vI v2, vI v3, vI (w32 (v3 + 1)), u5] [] g) : EV d mX8_order Q 23 [vR 45, vI v1, vI v2, vI v3, u4, u5] [] g := by
  refine wp_iload_n dX8_order_23 rfl ?_
  refine wp_iconst dX8_order_24 kc_1 ?_
  refine wp_iadd dX8_order_25 ?_
  refine wp_istore dX8_order_26 (Nat.le_of_ble_eq_true rfl) (pp (c := 3) rfl rfl) ?_
  exact k
theorem b_X8_order_28 {d : Nat} {Q : Option pV → pG → Prop} {g : pG} {v1 v2 v3 v4 : Int} {u5 : pV} (k1 : ((g 45) 0 ≤ v4) → EV d mX8_order Q 94 [vR 45, vI v1, vI v2, vI v3, vI v4, u5] [] g) (k2 : ¬ ((g 45) 0 ≤ v4) → EV d mX8_order Q 37 [vR 45, vI v1, vI v2, vI v3, vI v4, u5] [] g) : EV d mX8_order Q 28 [vR 45, vI v1, vI v2, vI v3, vI v4, u5] [] g := by
  refine wp_iload dX8_order_28 rfl ?_
  refine wp_aload_n dX8_order_30 rfl rfl ?_
  refine wp_get (v := vI ((g 45) 0)) dX8_order_31 fl_8_108 L_45 rfl ?_
  exact wp_icmp_ge (tgt := 94) dX8_order_34 rfl k1 k2
theorem b_X8_order_37 {d : Nat} {Q : Option pV → pG → Prop} {g : pG} {v1 v2 v3 v4 : Int} {u5 : pV} {R : pG → Prop} (hc : CT d mX8_change [vR 45, vI v3, vI v4] g (qV R)) (k : ∀ gg : pG, R gg → EV d mX8_order Q 44 [vR 45, vI v1, vI v2, vI v3, vI v4, u5] [] gg) : EV d mX8_order Q 37 [vR 45, vI v1, vI v2, vI v3, vI v4, u5] [] g := by
  refine wp_aload_n dX8_order_37 rfl rfl ?_
  refine wp_iload_n dX8_order_38 rfl ?_
  refine wp_iload dX8_order_39 rfl ?_
  exact wp_callvV (As := [vI v3, vI v4]) dX8_order_41 ml_8_321 (by decide) rfl L_45 (by decide) rfl (Nat.le_of_ble_eq_true rfl) rfl (Nat.le_refl _) (Nat.le_refl _) hc k
theorem b_X8_order_44 {d : Nat} {Q : Option pV → pG → Prop} {g : pG} {v1 v2 v3 v4 : Int} {u5 : pV} {R : Int → pG → Prop} (hc : CT d mX8_sumBehindAll [vR 45] g (qI R)) (k : ∀ (x : Int) (gg : pG), R x gg → EV d mX8_order Q 48 [vR 45, vI v1, vI v2, vI v3, vI v4, u5] [vI x] gg) : EV d mX8_order Q 44 [vR 45, vI v1, vI v2, vI v3, vI v4, u5] [] g := by
  refine wp_aload_n dX8_order_44 rfl rfl ?_
  exact wp_callvI (As := []) dX8_order_45 ml_8_297 (by decide) rfl L_45 (by decide) rfl (Nat.le_of_ble_eq_true rfl) rfl (Nat.le_refl _) (Nat.le_refl _) hc k
theorem b_X8_order_48 {d : Nat} {Q : Option pV → pG → Prop} {g : pG} {v1 v2 v3 v4 vs0 : Int} {u5 : pV} {R : pG → Prop} (hc : CT d mX8_change [vR 45, vI v3, vI v4] g (qV R)) (k : ∀ gg : pG, R gg → EV d mX8_order Q 57 [vR 45, vI v1, vI v2, vI v3, vI v4, vI vs0] [] gg) : EV d mX8_order Q 48 [vR 45, vI v1, vI v2, vI v3, vI v4, u5] [vI vs0] g := by
  refine wp_istore dX8_order_48 (Nat.le_of_ble_eq_true rfl) (pp (c := 4) rfl rfl) ?_
  refine wp_aload_n dX8_order_50 rfl rfl ?_
  refine wp_iload_n dX8_order_51 rfl ?_
  refine wp_iload dX8_order_52 rfl ?_
  exact wp_callvV (As := [vI v3, vI v4]) dX8_order_54 ml_8_321 (by decide) rfl L_45 (by decide) rfl (Nat.le_of_ble_eq_true rfl) rfl (Nat.le_refl _) (Nat.le_refl _) hc k
theorem b_X8_order_57 {d : Nat} {Q : Option pV → pG → Prop} {g : pG} {v1 v2 v3 v4 v5 : Int} (k1 : (v5 ≤ v1) → EV d mX8_order Q 73 [vR 45, vI v1, vI v2, vI v3, vI v4, vI v5] [] g) (k2 : ¬ (v5 ≤ v1) → EV d mX8_order Q 63 [vR 45, vI v1, vI v2, vI v3, vI v4, vI v5] [] g) : EV d mX8_order Q 57 [vR 45, vI v1, vI v2, vI v3, vI v4, vI v5] [] g := by
  refine wp_iload dX8_order_57 rfl ?_
  refine wp_iload_n dX8_order_59 rfl ?_
  exact wp_icmp_le (tgt := 73) dX8_order_60 rfl k1 k2
theorem b_X8_order_63 {d : Nat} {Q : Option pV → pG → Prop} {g : pG} {v1 v2 v3 v4 v5 : Int} (k1 : (v5 ≤ v1) → EV d mX8_order Q 86 [vR 45, vI v1, vI (w32 ((w32 (10 * v3)) + v4)), vI v3, vI v4, vI v5] [] g) (k2 : ¬ (v5 ≤ v1) → EV d mX8_order Q 81 [vR 45, vI v1, vI (w32 ((w32 (10 * v3)) + v4)), vI v3, vI v4, vI v5] [] g) : EV d mX8_order Q 63 [vR 45, vI v1, vI v2, vI v3, vI v4, vI v5] [] g := by
  refine wp_bipush dX8_order_63 kb_10 kc_10 ?_
  refine wp_iload_n dX8_order_65 rfl ?_
  refine wp_imul dX8_order_66 ?_
  refine wp_iload dX8_order_67 rfl ?_
  refine wp_iadd dX8_order_69 ?_
  refine wp_goto (tgt := 74) dX8_order_70 rfl ?_
  refine wp_istore_n dX8_order_74 (Nat.le_of_ble_eq_true rfl) (pp (c := 1) rfl rfl) ?_
  refine wp_iload dX8_order_75 rfl ?_
  refine wp_iload_n dX8_order_77 rfl ?_
  exact wp_icmp_le (tgt := 86) dX8_order_78 rfl k1 k2
theorem b_X8_order_73 {d : Nat} {Q : Option pV → pG → Prop} {g : pG} {v1 v2 v3 v4 v5 : Int} (k1 : (v5 ≤ v1) → EV d mX8_order Q 86 [vR 45, vI v1, vI v2, vI v3, vI v4, vI v5] [] g) (k2 : ¬ (v5 ≤ v1) → EV d mX8_order Q 81 [vR 45, vI v1, vI v2, vI v3, vI v4, vI v5] [] g) : EV d mX8_order Q 73 [vR 45, vI v1, vI v2, vI v3, vI v4, vI v5] [] g := by
  refine wp_iload_n dX8_order_73 rfl ?_
  refine wp_istore_n dX8_order_74 (Nat.le_of_ble_eq_true rfl) (pp (c := 1) rfl rfl) ?_
  refine wp_iload dX8_order_75 rfl ?_
  refine wp_iload_n dX8_order_77 rfl ?_
  exact wp_icmp_le (tgt := 86) dX8_order_78 rfl k1 k2
theorem b_X8_order_81 {d : Nat} {Q : Option pV → pG → Prop} {g : pG} {v1 v2 v3 v4 v5 : Int} (k : EV d mX8_order Q 28 [vR 45, vI v5, vI v2, vI v3, vI (w32 (v4 + 1)), vI v5] [] g) : EV d mX8_order Q 81 [vR 45, vI v1, vI v2, vI v3, vI v4, vI v5] [] g := by
  refine wp_iload dX8_order_81 rfl ?_
  refine wp_goto (tgt := 87) dX8_order_83 rfl ?_
  refine wp_istore_n dX8_order_87 (Nat.le_of_ble_eq_true rfl) (pp (c := 0) rfl rfl) ?_
  refine wp_iinc dX8_order_88 rfl (Nat.le_of_ble_eq_true rfl) (pp (c := 3) rfl rfl) ?_
  refine wp_goto (tgt := 28) dX8_order_91 rfl ?_
  exact k
theorem b_X8_order_86 {d : Nat} {Q : Option pV → pG → Prop} {g : pG} {v1 v2 v3 v4 v5 : Int} (k : EV d mX8_order Q 28 [vR 45, vI v1, vI v2, vI v3, vI (w32 (v4 + 1)), vI v5] [] g) : EV d mX8_order Q 86 [vR 45, vI v1, vI v2, vI v3, vI v4, vI v5] [] g := by
  refine wp_iload_n dX8_order_86 rfl ?_
  refine wp_istore_n dX8_order_87 (Nat.le_of_ble_eq_true rfl) (pp (c := 0) rfl rfl) ?_
  refine wp_iinc dX8_order_88 rfl (Nat.le_of_ble_eq_true rfl) (pp (c := 3) rfl rfl) ?_
  refine wp_goto (tgt := 28) dX8_order_91 rfl ?_
  exact k
theorem b_X8_order_94 {d : Nat} {Q : Option pV → pG → Prop} {g : pG} {v1 v2 v3 v4 : Int} {u5 : pV} (k : EV d mX8_order Q 15 [vR 45, vI v1, vI v2, vI (w32 (v3 + 1)), vI v4, u5] [] g) : EV d mX8_order Q 94 [vR 45, vI v1, vI v2, vI v3, vI v4, u5] [] g := by
  refine wp_iinc dX8_order_94 rfl (Nat.le_of_ble_eq_true rfl) (pp (c := 2) rfl rfl) ?_
  refine wp_goto (tgt := 15) dX8_order_97 rfl ?_
  exact k
theorem b_X8_order_100 {d : Nat} {Q : Option pV → pG → Prop} {g : pG} {v1 v2 v3 : Int} {u4 u5 : pV} (hq : Q (some (vI v2)) g) : EV d mX8_order Q 100 [vR 45, vI v1, vI v2, vI v3, u4, u5] [] g := by
  refine wp_iload_n dX8_order_100 rfl ?_
  exact wp_iret dX8_order_101 rfl hq
theorem b_X8_change_0 {d : Nat} {Q : Option pV → pG → Prop} {g : pG} {v1 v2 : Int} (h1 : 0 ≤ v1) (h2 : v1 < 7) (h3 : 0 ≤ v2) (h4 : v2 < 7) (hq : Q none (cset (cset (cset (cset g 46 (fup (g 46) v1.toNat ((g 46) v2.toNat))) 47 (fup (g 47) v1.toNat ((g 47) v2.toNat))) 46 (fup (fup (g 46) v1.toNat ((g 46) v2.toNat)) v2.toNat ((g 46) v1.toNat))) 47 (fup (fup (g 47) v1.toNat ((g 47) v2.toNat)) v2.toNat ((g 47) v1.toNat)))) : EV d mX8_change Q 0 [vR 45, vI v1, vI v2, vX 2, vX 2] [] g := by
  refine wp_aload_n dX8_change_0 rfl rfl ?_
  refine wp_get (v := vR 46) dX8_change_1 fl_8_7 L_45 rfl ?_
  refine wp_iload_n dX8_change_4 rfl ?_
  refine wp_iaload dX8_change_5 h1 L_46 h2 ?_
  refine wp_istore_n dX8_change_6 (Nat.le_of_ble_eq_true rfl) (pp (c := 2) rfl rfl) ?_
  refine wp_aload_n dX8_change_7 rfl rfl ?_
  refine wp_get (v := vR 47) dX8_change_8 fl_8_13 L_45 rfl ?_
  refine wp_iload_n dX8_change_11 rfl ?_
  refine wp_iaload dX8_change_12 h1 L_47 h2 ?_
  refine wp_istore dX8_change_13 (Nat.le_of_ble_eq_true rfl) (pp (c := 3) rfl rfl) ?_
  refine wp_aload_n dX8_change_15 rfl rfl ?_
  refine wp_get (v := vR 46) dX8_change_16 fl_8_7 L_45 rfl ?_
  refine wp_iload_n dX8_change_19 rfl ?_
  refine wp_aload_n dX8_change_20 rfl rfl ?_
  refine wp_get (v := vR 46) dX8_change_21 fl_8_7 L_45 rfl ?_
  refine wp_iload_n dX8_change_24 rfl ?_
  refine wp_iaload dX8_change_25 h3 L_46 h4 ?_
  refine wp_iastore dX8_change_26 h1 L_46 h2 ?_
  refine wp_aload_n dX8_change_27 rfl rfl ?_
  refine wp_get (v := vR 47) dX8_change_28 fl_8_13 L_45 rfl ?_
  refine wp_iload_n dX8_change_31 rfl ?_
  refine wp_aload_n dX8_change_32 rfl rfl ?_
  refine wp_get (v := vR 47) dX8_change_33 fl_8_13 L_45 rfl ?_
  refine wp_iload_n dX8_change_36 rfl ?_
  refine wp_iaload dX8_change_37 h3 L_47 h4 ?_
  refine wp_iastore dX8_change_38 h1 L_47 h2 ?_
  refine wp_aload_n dX8_change_39 rfl rfl ?_
  refine wp_get (v := vR 46) dX8_change_40 fl_8_7 L_45 rfl ?_
  refine wp_iload_n dX8_change_43 rfl ?_
  refine wp_iload_n dX8_change_44 rfl ?_
  refine wp_iastore dX8_change_45 h3 L_46 h4 ?_
  refine wp_aload_n dX8_change_46 rfl rfl ?_
  refine wp_get (v := vR 47) dX8_change_47 fl_8_13 L_45 rfl ?_
  refine wp_iload_n dX8_change_50 rfl ?_
  refine wp_iload dX8_change_51 rfl ?_
  refine wp_iastore dX8_change_53 h3 L_47 h4 ?_
  exact wp_vret dX8_change_54 rfl hq
theorem b_X8_bestOrder_0 {d : Nat} {Q : Option pV → pG → Prop} {g : pG} {v1 : Int} (k1 : ((fup (g 45) 8 0) 0 ≤ 5) → EV d mX8_bestOrder Q 18 [vR 45, vI v1, vX 2, vX 2, vX 2, vX 2, vX 2, vX 2] [] (cset g 45 (fup (g 45) 8 0))) (k2 : ¬ ((fup (g 45) 8 0) 0 ≤ 5) → EV d mX8_bestOrder Q 13 [vR 45, vI v1, vX 2, vX 2, vX 2, vX 2, vX 2, vX 2] [] (cset g 45 (fup (g 45) 8 0))) : EV d mX8_bestOrder Q 0 [vR 45, vI v1, vX 2, vX 2, vX 2, vX 2, vX 2, vX 2] [] g := by
  refine wp_aload_n dX8_bestOrder_0 rfl rfl ?_
  refine wp_iconst dX8_bestOrder_1 kc_0 ?_
  refine wp_putI dX8_bestOrder_2 fl_8_105 L_45 rfl rfl ?_
  refine wp_aload_n dX8_bestOrder_5 rfl rfl ?_
  refine wp_get (v := vI ((fup (g 45) 8 0) 0)) dX8_bestOrder_6 fl_8_108 L_45 rfl ?_
  refine wp_iconst dX8_bestOrder_9 kc_5 ?_
  exact wp_icmp_le (tgt := 18) dX8_bestOrder_10 rfl k1 k2
theorem b_X8_bestOrder_13 {d : Nat} {Q : Option pV → pG → Prop} {g : pG} {v1 : Int} {R : Int → pG → Prop} (hc : CT d mX8_refuse [vR 45, vI (-3)] g (qI R)) (k : ∀ (x : Int) (gg : pG), R x gg → EV d mX8_bestOrder Q 41 [vR 45, vI v1, vI (-3), vX 2, vX 2, vX 2, vX 2, vX 2] [vI x, vI 1000000000] gg) : EV d mX8_bestOrder Q 13 [vR 45, vI v1, vX 2, vX 2, vX 2, vX 2, vX 2, vX 2] [] g := by
  refine wp_bipush dX8_bestOrder_13 kb_m3 kc_m3 ?_
  refine wp_goto (tgt := 29) dX8_bestOrder_15 rfl ?_
  refine wp_istore_n dX8_bestOrder_29 (Nat.le_of_ble_eq_true rfl) (pp (c := 1) rfl rfl) ?_
  refine wp_iload_n dX8_bestOrder_30 rfl ?_
  refine wp_if_ge (tgt := 43) dX8_bestOrder_31 rfl (fun hh => absurd hh (by decide)) (fun _ => ?_)
  refine wp_ldc dX8_bestOrder_34 kl_8_239 ?_
  refine wp_aload_n dX8_bestOrder_36 rfl rfl ?_
  refine wp_iload_n dX8_bestOrder_37 rfl ?_
  exact wp_callvI (As := [vI (-3)]) dX8_bestOrder_38 ml_8_164 (by decide) rfl L_45 (by decide) rfl (Nat.le_of_ble_eq_true rfl) rfl (Nat.le_refl _) (Nat.le_refl _) hc k
theorem b_X8_bestOrder_18 {d : Nat} {Q : Option pV → pG → Prop} {g : pG} {v1 : Int} (k1 : ((-1) ≤ v1) → EV d mX8_bestOrder Q 28 [vR 45, vI v1, vX 2, vX 2, vX 2, vX 2, vX 2, vX 2] [] g) (k2 : ¬ ((-1) ≤ v1) → EV d mX8_bestOrder Q 23 [vR 45, vI v1, vX 2, vX 2, vX 2, vX 2, vX 2, vX 2] [] g) : EV d mX8_bestOrder Q 18 [vR 45, vI v1, vX 2, vX 2, vX 2, vX 2, vX 2, vX 2] [] g := by
  refine wp_iload_n dX8_bestOrder_18 rfl ?_
  refine wp_iconst dX8_bestOrder_19 kc_m1 ?_
  exact wp_icmp_ge (tgt := 28) dX8_bestOrder_20 rfl k1 k2
theorem b_X8_bestOrder_23 {d : Nat} {Q : Option pV → pG → Prop} {g : pG} {v1 : Int} {R : Int → pG → Prop} (hc : CT d mX8_refuse [vR 45, vI (-4)] g (qI R)) (k : ∀ (x : Int) (gg : pG), R x gg → EV d mX8_bestOrder Q 41 [vR 45, vI v1, vI (-4), vX 2, vX 2, vX 2, vX 2, vX 2] [vI x, vI 1000000000] gg) : EV d mX8_bestOrder Q 23 [vR 45, vI v1, vX 2, vX 2, vX 2, vX 2, vX 2, vX 2] [] g := by
  refine wp_bipush dX8_bestOrder_23 kb_m4 kc_m4 ?_
  refine wp_goto (tgt := 29) dX8_bestOrder_25 rfl ?_
  refine wp_istore_n dX8_bestOrder_29 (Nat.le_of_ble_eq_true rfl) (pp (c := 1) rfl rfl) ?_
  refine wp_iload_n dX8_bestOrder_30 rfl ?_
  refine wp_if_ge (tgt := 43) dX8_bestOrder_31 rfl (fun hh => absurd hh (by decide)) (fun _ => ?_)
  refine wp_ldc dX8_bestOrder_34 kl_8_239 ?_
  refine wp_aload_n dX8_bestOrder_36 rfl rfl ?_
  refine wp_iload_n dX8_bestOrder_37 rfl ?_
  exact wp_callvI (As := [vI (-4)]) dX8_bestOrder_38 ml_8_164 (by decide) rfl L_45 (by decide) rfl (Nat.le_of_ble_eq_true rfl) rfl (Nat.le_refl _) (Nat.le_refl _) hc k
theorem b_X8_bestOrder_28 {d : Nat} {Q : Option pV → pG → Prop} {g : pG} {v1 : Int} {R : Int → pG → Prop} (hc : CT d mX8_sumByOrder [vR 45, vI 0] g (qI R)) (k : ∀ (x : Int) (gg : pG), R x gg → EV d mX8_bestOrder Q 50 [vR 45, vI v1, vI 0, vI 0, vX 2, vX 2, vX 2, vX 2] [vI x] gg) : EV d mX8_bestOrder Q 28 [vR 45, vI v1, vX 2, vX 2, vX 2, vX 2, vX 2, vX 2] [] g := by
  refine wp_iconst dX8_bestOrder_28 kc_0 ?_
  refine wp_istore_n dX8_bestOrder_29 (Nat.le_of_ble_eq_true rfl) (pp (c := 1) rfl rfl) ?_
  refine wp_iload_n dX8_bestOrder_30 rfl ?_
  refine wp_if_ge (tgt := 43) dX8_bestOrder_31 rfl (fun _ => ?_) (fun hh => absurd (by decide) hh)
  refine wp_iconst dX8_bestOrder_43 kc_0 ?_
  refine wp_istore_n dX8_bestOrder_44 (Nat.le_of_ble_eq_true rfl) (pp (c := 2) rfl rfl) ?_
  refine wp_aload_n dX8_bestOrder_45 rfl rfl ?_
  refine wp_iconst dX8_bestOrder_46 kc_0 ?_
  exact wp_callvI (As := [vI 0]) dX8_bestOrder_47 ml_8_330 (by decide) rfl L_45 (by decide) rfl (Nat.le_of_ble_eq_true rfl) rfl (Nat.le_refl _) (Nat.le_refl _) hc k
theorem b_X8_bestOrder_41 {d : Nat} {Q : Option pV → pG → Prop} {g : pG} {v1 v2 vs0 vs1 : Int} (hq : Q (some (vI (w32 (vs0 - vs1)))) g) : EV d mX8_bestOrder Q 41 [vR 45, vI v1, vI v2, vX 2, vX 2, vX 2, vX 2, vX 2] [vI vs1, vI vs0] g := by
  refine wp_isub dX8_bestOrder_41 ?_
  exact wp_iret dX8_bestOrder_42 rfl hq
theorem b_X8_bestOrder_50 {d : Nat} {Q : Option pV → pG → Prop} {g : pG} {v1 v2 v3 vs0 : Int} {R : Int → pG → Prop} (hc : CT d mX8_ordersOf [vI ((g 45) 0)] g (qI R)) (k : ∀ (x : Int) (gg : pG), R x gg → EV d mX8_bestOrder Q 59 [vR 45, vI v1, vI v2, vI v3, vI vs0, vX 2, vX 2, vX 2] [vI x] gg) : EV d mX8_bestOrder Q 50 [vR 45, vI v1, vI v2, vI v3, vX 2, vX 2, vX 2, vX 2] [vI vs0] g := by
  refine wp_istore dX8_bestOrder_50 (Nat.le_of_ble_eq_true rfl) (pp (c := 3) rfl rfl) ?_
  refine wp_aload_n dX8_bestOrder_52 rfl rfl ?_
  refine wp_get (v := vI ((g 45) 0)) dX8_bestOrder_53 fl_8_108 L_45 rfl ?_
  exact wp_callsI (As := [vI ((g 45) 0)]) dX8_bestOrder_56 ml_8_324 (Or.inl rfl) rfl (Nat.le_of_ble_eq_true rfl) rfl (Nat.le_refl _) (Nat.le_refl _) hc k
theorem b_X8_bestOrder_59 {d : Nat} {Q : Option pV → pG → Prop} {g : pG} {v1 v2 v3 v4 vs0 : Int} (k : EV d mX8_bestOrder Q 64 [vR 45, vI v1, vI v2, vI v3, vI v4, vI vs0, vI 1, vX 2] [] g) : EV d mX8_bestOrder Q 59 [vR 45, vI v1, vI v2, vI v3, vI v4, vX 2, vX 2, vX 2] [vI vs0] g := by
  refine wp_istore dX8_bestOrder_59 (Nat.le_of_ble_eq_true rfl) (pp (c := 4) rfl rfl) ?_
  refine wp_iconst dX8_bestOrder_61 kc_1 ?_
  refine wp_istore dX8_bestOrder_62 (Nat.le_of_ble_eq_true rfl) (pp (c := 5) rfl rfl) ?_
  exact k
theorem b_X8_bestOrder_64 {d : Nat} {Q : Option pV → pG → Prop} {g : pG} {v1 v2 v3 v4 v5 v6 : Int} {u7 : pV} (k1 : (v5 ≤ v6) → EV d mX8_bestOrder Q 115 [vR 45, vI v1, vI v2, vI v3, vI v4, vI v5, vI v6, u7] [] g) (k2 : ¬ (v5 ≤ v6) → EV d mX8_bestOrder Q 71 [vR 45, vI v1, vI v2, vI v3, vI v4, vI v5, vI v6, u7] [] g) : EV d mX8_bestOrder Q 64 [vR 45, vI v1, vI v2, vI v3, vI v4, vI v5, vI v6, u7] [] g := by
  refine wp_iload dX8_bestOrder_64 rfl ?_
  refine wp_iload dX8_bestOrder_66 rfl ?_
  exact wp_icmp_ge (tgt := 115) dX8_bestOrder_68 rfl k1 k2
theorem b_X8_bestOrder_71 {d : Nat} {Q : Option pV → pG → Prop} {g : pG} {v1 v2 v3 v4 v5 v6 : Int} {u7 : pV} {R : Int → pG → Prop} (hc : CT d mX8_sumByOrder [vR 45, vI v6] g (qI R)) (k : ∀ (x : Int) (gg : pG), R x gg → EV d mX8_bestOrder Q 77 [vR 45, vI v1, vI v2, vI v3, vI v4, vI v5, vI v6, u7] [vI x] gg) : EV d mX8_bestOrder Q 71 [vR 45, vI v1, vI v2, vI v3, vI v4, vI v5, vI v6, u7] [] g := by
  refine wp_aload_n dX8_bestOrder_71 rfl rfl ?_
  refine wp_iload dX8_bestOrder_72 rfl ?_
  exact wp_callvI (As := [vI v6]) dX8_bestOrder_74 ml_8_330 (by decide) rfl L_45 (by decide) rfl (Nat.le_of_ble_eq_true rfl) rfl (Nat.le_refl _) (Nat.le_refl _) hc k
theorem b_X8_bestOrder_77 {d : Nat} {Q : Option pV → pG → Prop} {g : pG} {v1 v2 v3 v4 v5 v6 vs0 : Int} {u7 : pV} (k1 : (vs0 ≤ v4) → EV d mX8_bestOrder Q 91 [vR 45, vI v1, vI v2, vI v3, vI v4, vI v5, vI v6, vI vs0] [] g) (k2 : ¬ (vs0 ≤ v4) → EV d mX8_bestOrder Q 86 [vR 45, vI v1, vI v2, vI v3, vI v4, vI v5, vI v6, vI vs0] [] g) : EV d mX8_bestOrder Q 77 [vR 45, vI v1, vI v2, vI v3, vI v4, vI v5, vI v6, u7] [vI vs0] g := by
  refine wp_istore dX8_bestOrder_77 (Nat.le_of_ble_eq_true rfl) (pp (c := 6) rfl rfl) ?_
  refine wp_iload dX8_bestOrder_79 rfl ?_
  refine wp_iload dX8_bestOrder_81 rfl ?_
  exact wp_icmp_le (tgt := 91) dX8_bestOrder_83 rfl k1 k2
theorem b_X8_bestOrder_86 {d : Nat} {Q : Option pV → pG → Prop} {g : pG} {v1 v2 v3 v4 v5 v6 v7 : Int} (k1 : (v7 ≤ v4) → EV d mX8_bestOrder Q 105 [vR 45, vI v1, vI v2, vI v6, vI v4, vI v5, vI v6, vI v7] [] g) (k2 : ¬ (v7 ≤ v4) → EV d mX8_bestOrder Q 100 [vR 45, vI v1, vI v2, vI v6, vI v4, vI v5, vI v6, vI v7] [] g) : EV d mX8_bestOrder Q 86 [vR 45, vI v1, vI v2, vI v3, vI v4, vI v5, vI v6, vI v7] [] g := by
  refine wp_iload dX8_bestOrder_86 rfl ?_
  refine wp_goto (tgt := 92) dX8_bestOrder_88 rfl ?_
  refine wp_istore_n dX8_bestOrder_92 (Nat.le_of_ble_eq_true rfl) (pp (c := 2) rfl rfl) ?_
  refine wp_iload dX8_bestOrder_93 rfl ?_
  refine wp_iload dX8_bestOrder_95 rfl ?_
  exact wp_icmp_le (tgt := 105) dX8_bestOrder_97 rfl k1 k2
theorem b_X8_bestOrder_91 {d : Nat} {Q : Option pV → pG → Prop} {g : pG} {v1 v2 v3 v4 v5 v6 v7 : Int} (k1 : (v7 ≤ v4) → EV d mX8_bestOrder Q 105 [vR 45, vI v1, vI v2, vI v3, vI v4, vI v5, vI v6, vI v7] [] g) (k2 : ¬ (v7 ≤ v4) → EV d mX8_bestOrder Q 100 [vR 45, vI v1, vI v2, vI v3, vI v4, vI v5, vI v6, vI v7] [] g) : EV d mX8_bestOrder Q 91 [vR 45, vI v1, vI v2, vI v3, vI v4, vI v5, vI v6, vI v7] [] g := by
  refine wp_iload_n dX8_bestOrder_91 rfl ?_
  refine wp_istore_n dX8_bestOrder_92 (Nat.le_of_ble_eq_true rfl) (pp (c := 2) rfl rfl) ?_
  refine wp_iload dX8_bestOrder_93 rfl ?_
  refine wp_iload dX8_bestOrder_95 rfl ?_
  exact wp_icmp_le (tgt := 105) dX8_bestOrder_97 rfl k1 k2
theorem b_X8_bestOrder_100 {d : Nat} {Q : Option pV → pG → Prop} {g : pG} {v1 v2 v3 v4 v5 v6 v7 : Int} (k : EV d mX8_bestOrder Q 64 [vR 45, vI v1, vI v2, vI v3, vI v7, vI v5, vI (w32 (v6 + 1)), vI v7] [] g) : EV d mX8_bestOrder Q 100 [vR 45, vI v1, vI v2, vI v3, vI v4, vI v5, vI v6, vI v7] [] g := by
  refine wp_iload dX8_bestOrder_100 rfl ?_
  refine wp_goto (tgt := 107) dX8_bestOrder_102 rfl ?_
  refine wp_istore dX8_bestOrder_107 (Nat.le_of_ble_eq_true rfl) (pp (c := 3) rfl rfl) ?_
  refine wp_iinc dX8_bestOrder_109 rfl (Nat.le_of_ble_eq_true rfl) (pp (c := 5) rfl rfl) ?_
  refine wp_goto (tgt := 64) dX8_bestOrder_112 rfl ?_
  exact k
theorem b_X8_bestOrder_105 {d : Nat} {Q : Option pV → pG → Prop} {g : pG} {v1 v2 v3 v4 v5 v6 v7 : Int} (k : EV d mX8_bestOrder Q 64 [vR 45, vI v1, vI v2, vI v3, vI v4, vI v5, vI (w32 (v6 + 1)), vI v7] [] g) : EV d mX8_bestOrder Q 105 [vR 45, vI v1, vI v2, vI v3, vI v4, vI v5, vI v6, vI v7] [] g := by
  refine wp_iload dX8_bestOrder_105 rfl ?_
  refine wp_istore dX8_bestOrder_107 (Nat.le_of_ble_eq_true rfl) (pp (c := 3) rfl rfl) ?_
  refine wp_iinc dX8_bestOrder_109 rfl (Nat.le_of_ble_eq_true rfl) (pp (c := 5) rfl rfl) ?_
  refine wp_goto (tgt := 64) dX8_bestOrder_112 rfl ?_
  exact k
theorem b_X8_bestOrder_115 {d : Nat} {Q : Option pV → pG → Prop} {g : pG} {v1 v2 v3 v4 v5 v6 : Int} {u7 : pV} (k1 : (0 ≤ v1) → EV d mX8_bestOrder Q 122 [vR 45, vI v1, vI v2, vI v3, vI v4, vI v5, vI v6, u7] [] g) (k2 : ¬ (0 ≤ v1) → EV d mX8_bestOrder Q 119 [vR 45, vI v1, vI v2, vI v3, vI v4, vI v5, vI v6, u7] [] g) : EV d mX8_bestOrder Q 115 [vR 45, vI v1, vI v2, vI v3, vI v4, vI v5, vI v6, u7] [] g := by
  refine wp_iload_n dX8_bestOrder_115 rfl ?_
  exact wp_if_ge (tgt := 122) dX8_bestOrder_116 rfl k1 k2
theorem b_X8_bestOrder_119 {d : Nat} {Q : Option pV → pG → Prop} {g : pG} {v1 v2 v3 v4 v5 v6 : Int} {u7 : pV} (hq : Q (some (vI v4)) g) : EV d mX8_bestOrder Q 119 [vR 45, vI v1, vI v2, vI v3, vI v4, vI v5, vI v6, u7] [] g := by
  refine wp_iload dX8_bestOrder_119 rfl ?_
  exact wp_iret dX8_bestOrder_121 rfl hq
theorem b_X8_bestOrder_122 {d : Nat} {Q : Option pV → pG → Prop} {g : pG} {v1 v2 v3 v4 v5 v6 : Int} {u7 : pV} {R : pG → Prop} (hc : CT d mX8_layOrder [vR 45, vI v3, vI ((g 45) 0)] g (qV R)) (k : ∀ gg : pG, R gg → EV d mX8_bestOrder Q 131 [vR 45, vI v1, vI v2, vI v3, vI v4, vI v5, vI v6, u7] [] gg) : EV d mX8_bestOrder Q 122 [vR 45, vI v1, vI v2, vI v3, vI v4, vI v5, vI v6, u7] [] g := by
  refine wp_aload_n dX8_bestOrder_122 rfl rfl ?_
  refine wp_iload_n dX8_bestOrder_123 rfl ?_
  refine wp_aload_n dX8_bestOrder_124 rfl rfl ?_
  refine wp_get (v := vI ((g 45) 0)) dX8_bestOrder_125 fl_8_108 L_45 rfl ?_
  exact wp_callvV (As := [vI v3, vI ((g 45) 0)]) dX8_bestOrder_128 ml_8_327 (by decide) rfl L_45 (by decide) rfl (Nat.le_of_ble_eq_true rfl) rfl (Nat.le_refl _) (Nat.le_refl _) hc k
theorem b_X8_bestOrder_131 {d : Nat} {Q : Option pV → pG → Prop} {g : pG} {v1 v2 v3 v4 v5 v6 : Int} {u7 : pV} (k1 : ((g 45) 0 ≤ v1) → EV d mX8_bestOrder Q 148 [vR 45, vI v1, vI v2, vI v3, vI v4, vI v5, vI v6, u7] [] g) (k2 : ¬ ((g 45) 0 ≤ v1) → EV d mX8_bestOrder Q 139 [vR 45, vI v1, vI v2, vI v3, vI v4, vI v5, vI v6, u7] [] g) : EV d mX8_bestOrder Q 131 [vR 45, vI v1, vI v2, vI v3, vI v4, vI v5, vI v6, u7] [] g := by
  refine wp_iload_n dX8_bestOrder_131 rfl ?_
  refine wp_aload_n dX8_bestOrder_132 rfl rfl ?_
  refine wp_get (v := vI ((g 45) 0)) dX8_bestOrder_133 fl_8_108 L_45 rfl ?_
  exact wp_icmp_ge (tgt := 148) dX8_bestOrder_136 rfl k1 k2
theorem b_X8_bestOrder_139 {d : Nat} {Q : Option pV → pG → Prop} {g : pG} {v1 v2 v3 v4 v5 v6 : Int} {u7 : pV} (h1 : 0 ≤ v1) (h2 : v1 < 5) (hq : Q (some (vI ((g 70) v1.toNat))) g) : EV d mX8_bestOrder Q 139 [vR 45, vI v1, vI v2, vI v3, vI v4, vI v5, vI v6, u7] [] g := by
  refine wp_aload_n dX8_bestOrder_139 rfl rfl ?_
  refine wp_get (v := vR 70) dX8_bestOrder_140 fl_8_93 L_45 rfl ?_
  refine wp_iload_n dX8_bestOrder_143 rfl ?_
  refine wp_iaload dX8_bestOrder_144 h1 L_70 h2 ?_
  refine wp_goto (tgt := 150) dX8_bestOrder_145 rfl ?_
  exact wp_iret dX8_bestOrder_150 rfl hq
theorem b_X8_bestOrder_148 {d : Nat} {Q : Option pV → pG → Prop} {g : pG} {v1 v2 v3 v4 v5 v6 : Int} {u7 : pV} (hq : Q (some (vI (-9))) g) : EV d mX8_bestOrder Q 148 [vR 45, vI v1, vI v2, vI v3, vI v4, vI v5, vI v6, u7] [] g := by
  refine wp_bipush dX8_bestOrder_148 kb_m9 kc_m9 ?_
  exact wp_iret dX8_bestOrder_150 rfl hq
theorem b_X8_sumByOrder_0 {d : Nat} {Q : Option pV → pG → Prop} {g : pG} {v1 : Int} {R : pG → Prop} (hc : CT d mX8_layOrder [vR 45, vI v1, vI ((g 45) 0)] g (qV R)) (k : ∀ gg : pG, R gg → EV d mX8_sumByOrder Q 9 [vR 45, vI v1, vX 2] [] gg) : EV d mX8_sumByOrder Q 0 [vR 45, vI v1, vX 2] [] g := by
  refine wp_aload_n dX8_sumByOrder_0 rfl rfl ?_
  refine wp_iload_n dX8_sumByOrder_1 rfl ?_
  refine wp_aload_n dX8_sumByOrder_2 rfl rfl ?_
  refine wp_get (v := vI ((g 45) 0)) dX8_sumByOrder_3 fl_8_108 L_45 rfl ?_
  exact wp_callvV (As := [vI v1, vI ((g 45) 0)]) dX8_sumByOrder_6 ml_8_327 (by decide) rfl L_45 (by decide) rfl (Nat.le_of_ble_eq_true rfl) rfl (Nat.le_refl _) (Nat.le_refl _) hc k
theorem b_X8_sumByOrder_9 {d : Nat} {Q : Option pV → pG → Prop} {g : pG} {v1 : Int} {R : pG → Prop} (hc : CT d mX8_think [vR 45] g (qV R)) (k : ∀ gg : pG, R gg → EV d mX8_sumByOrder Q 13 [vR 45, vI v1, vX 2] [] gg) : EV d mX8_sumByOrder Q 9 [vR 45, vI v1, vX 2] [] g := by
  refine wp_aload_n dX8_sumByOrder_9 rfl rfl ?_
  exact wp_callvV (As := []) dX8_sumByOrder_10 ml_8_158 (by decide) rfl L_45 (by decide) rfl (Nat.le_of_ble_eq_true rfl) rfl (Nat.le_refl _) (Nat.le_refl _) hc k
theorem b_X8_sumByOrder_13 {d : Nat} {Q : Option pV → pG → Prop} {g : pG} {v1 : Int} (k : EV d mX8_sumByOrder Q 15 [vR 45, vI v1, vI 0] [] g) : EV d mX8_sumByOrder Q 13 [vR 45, vI v1, vX 2] [] g := by
  refine wp_iconst dX8_sumByOrder_13 kc_0 ?_
  refine wp_istore_n dX8_sumByOrder_14 (Nat.le_of_ble_eq_true rfl) (pp (c := 1) rfl rfl) ?_
  exact k
theorem b_X8_sumByOrder_15 {d : Nat} {Q : Option pV → pG → Prop} {g : pG} {v1 v2 : Int} (k1 : ((g 45) 0 ≤ v2) → EV d mX8_sumByOrder Q 39 [vR 45, vI v1, vI v2] [] g) (k2 : ¬ ((g 45) 0 ≤ v2) → EV d mX8_sumByOrder Q 23 [vR 45, vI v1, vI v2] [] g) : EV d mX8_sumByOrder Q 15 [vR 45, vI v1, vI v2] [] g := by
  refine wp_iload_n dX8_sumByOrder_15 rfl ?_
  refine wp_aload_n dX8_sumByOrder_16 rfl rfl ?_
  refine wp_get (v := vI ((g 45) 0)) dX8_sumByOrder_17 fl_8_108 L_45 rfl ?_
  exact wp_icmp_ge (tgt := 39) dX8_sumByOrder_20 rfl k1 k2
theorem b_X8_sumByOrder_23 {d : Nat} {Q : Option pV → pG → Prop} {g : pG} {v1 v2 : Int} {R : pG → Prop} (h1 : 0 ≤ v2) (h2 : v2 < 5) (hc : CT d mX8_pass [vR 45, vI ((g 70) v2.toNat)] g (qV R)) (k : ∀ gg : pG, R gg → EV d mX8_sumByOrder Q 33 [vR 45, vI v1, vI v2] [] gg) : EV d mX8_sumByOrder Q 23 [vR 45, vI v1, vI v2] [] g := by
  refine wp_aload_n dX8_sumByOrder_23 rfl rfl ?_
  refine wp_aload_n dX8_sumByOrder_24 rfl rfl ?_
  refine wp_get (v := vR 70) dX8_sumByOrder_25 fl_8_93 L_45 rfl ?_
  refine wp_iload_n dX8_sumByOrder_28 rfl ?_
  refine wp_iaload dX8_sumByOrder_29 h1 L_70 h2 ?_
  exact wp_callvV (As := [vI ((g 70) v2.toNat)]) dX8_sumByOrder_30 ml_8_154 (by decide) rfl L_45 (by decide) rfl (Nat.le_of_ble_eq_true rfl) rfl (Nat.le_refl _) (Nat.le_refl _) hc k
theorem b_X8_sumByOrder_33 {d : Nat} {Q : Option pV → pG → Prop} {g : pG} {v1 v2 : Int} (k : EV d mX8_sumByOrder Q 15 [vR 45, vI v1, vI (w32 (v2 + 1))] [] g) : EV d mX8_sumByOrder Q 33 [vR 45, vI v1, vI v2] [] g := by
  refine wp_iinc dX8_sumByOrder_33 rfl (Nat.le_of_ble_eq_true rfl) (pp (c := 1) rfl rfl) ?_
  refine wp_goto (tgt := 15) dX8_sumByOrder_36 rfl ?_
  exact k
theorem b_X8_sumByOrder_39 {d : Nat} {Q : Option pV → pG → Prop} {g : pG} {v1 v2 : Int} {R : Int → pG → Prop} (hc : CT d mX8_sumNow [vR 45] g (qI R)) (k : ∀ (x : Int) (gg : pG), R x gg → EV d mX8_sumByOrder Q 43 [vR 45, vI v1, vI v2] [vI x] gg) : EV d mX8_sumByOrder Q 39 [vR 45, vI v1, vI v2] [] g := by
  refine wp_aload_n dX8_sumByOrder_39 rfl rfl ?_
  exact wp_callvI (As := []) dX8_sumByOrder_40 ml_8_118 (by decide) rfl L_45 (by decide) rfl (Nat.le_of_ble_eq_true rfl) rfl (Nat.le_refl _) (Nat.le_refl _) hc k
theorem b_X8_sumByOrder_43 {d : Nat} {Q : Option pV → pG → Prop} {g : pG} {v1 v2 vs0 : Int} (hq : Q (some (vI vs0)) g) : EV d mX8_sumByOrder Q 43 [vR 45, vI v1, vI v2] [vI vs0] g := by
  exact wp_iret dX8_sumByOrder_43 rfl hq
