theorem b_X8_feed_0 {d : Nat} {Q : Option pV → pG → Prop} {g : pG} {v1 : Int} (k1 : (0 ≤ v1) → EV d mX8_feed Q 16 [vR 45, vI v1] [] (cset g 45 (fup (g 45) 8 0))) (k2 : ¬ (0 ≤ v1) → EV d mX8_feed Q 9 [vR 45, vI v1] [] (cset g 45 (fup (g 45) 8 0))) : EV d mX8_feed Q 0 [vR 45, vI v1] [] g := by
  refine wp_aload_n dX8_feed_0 rfl rfl ?_
  refine wp_iconst dX8_feed_1 kc_0 ?_
  refine wp_putI dX8_feed_2 fl_8_105 L_45 rfl rfl ?_
  refine wp_iload_n dX8_feed_5 rfl ?_
  exact wp_if_ge (tgt := 16) dX8_feed_6 rfl k1 k2
theorem b_X8_feed_9 {d : Nat} {Q : Option pV → pG → Prop} {g : pG} {v1 : Int} {R : Int → pG → Prop} (hc : CT d mX8_refuse [vR 45, vI (-4)] g (qI R)) (k : ∀ (x : Int) (gg : pG), R x gg → EV d mX8_feed Q 15 [vR 45, vI v1] [vI x] gg) : EV d mX8_feed Q 9 [vR 45, vI v1] [] g := by
  refine wp_aload_n dX8_feed_9 rfl rfl ?_
  refine wp_bipush dX8_feed_10 kb_m4 kc_m4 ?_
  exact wp_callvI (As := [vI (-4)]) dX8_feed_12 ml_8_164 (by decide) rfl L_45 (by decide) rfl (Nat.le_of_ble_eq_true rfl) rfl (Nat.le_refl _) (Nat.le_refl _) hc k
theorem b_X8_feed_15 {d : Nat} {Q : Option pV → pG → Prop} {g : pG} {v1 vs0 : Int} (hq : Q (some (vI vs0)) g) : EV d mX8_feed Q 15 [vR 45, vI v1] [vI vs0] g := by
  exact wp_iret dX8_feed_15 rfl hq
theorem b_X8_feed_16 {d : Nat} {Q : Option pV → pG → Prop} {g : pG} {v1 : Int} (k1 : (255 < v1) → EV d mX8_feed Q 32 [vR 45, vI v1] [] g) (k2 : ¬ (255 < v1) → EV d mX8_feed Q 23 [vR 45, vI v1] [] g) : EV d mX8_feed Q 16 [vR 45, vI v1] [] g := by
  refine wp_iload_n dX8_feed_16 rfl ?_
  refine wp_sipush dX8_feed_17 ks_255 kc_255 ?_
  exact wp_icmp_gt (tgt := 32) dX8_feed_20 rfl k1 k2
theorem b_X8_feed_23 {d : Nat} {Q : Option pV → pG → Prop} {g : pG} {v1 : Int} (k1 : ((g 45) 13 ≠ 96) → EV d mX8_feed Q 39 [vR 45, vI v1] [] g) (k2 : ¬ ((g 45) 13 ≠ 96) → EV d mX8_feed Q 32 [vR 45, vI v1] [] g) : EV d mX8_feed Q 23 [vR 45, vI v1] [] g := by
  refine wp_aload_n dX8_feed_23 rfl rfl ?_
  refine wp_get (v := vI ((g 45) 13)) dX8_feed_24 fl_8_167 L_45 rfl ?_
  refine wp_bipush dX8_feed_27 kb_96 kc_96 ?_
  exact wp_icmp_ne (tgt := 39) dX8_feed_29 rfl k1 k2
theorem b_X8_feed_32 {d : Nat} {Q : Option pV → pG → Prop} {g : pG} {v1 : Int} {R : Int → pG → Prop} (hc : CT d mX8_refuse [vR 45, vI (-6)] g (qI R)) (k : ∀ (x : Int) (gg : pG), R x gg → EV d mX8_feed Q 38 [vR 45, vI v1] [vI x] gg) : EV d mX8_feed Q 32 [vR 45, vI v1] [] g := by
  refine wp_aload_n dX8_feed_32 rfl rfl ?_
  refine wp_bipush dX8_feed_33 kb_m6 kc_m6 ?_
  exact wp_callvI (As := [vI (-6)]) dX8_feed_35 ml_8_164 (by decide) rfl L_45 (by decide) rfl (Nat.le_of_ble_eq_true rfl) rfl (Nat.le_refl _) (Nat.le_refl _) hc k
theorem b_X8_feed_38 {d : Nat} {Q : Option pV → pG → Prop} {g : pG} {v1 vs0 : Int} (hq : Q (some (vI vs0)) g) : EV d mX8_feed Q 38 [vR 45, vI v1] [vI vs0] g := by
  exact wp_iret dX8_feed_38 rfl hq
theorem b_X8_feed_39 {d : Nat} {Q : Option pV → pG → Prop} {g : pG} {v1 : Int} (h1 : 0 ≤ (g 45) 13) (h2 : (g 45) 13 < 96) (hq : Q (some (vI ((fup (g 45) 13 (w32 (((g 45) 13) + 1))) 13))) (cset (cset g 52 (fup (g 52) ((g 45) 13).toNat v1)) 45 (fup (g 45) 13 (w32 (((g 45) 13) + 1))))) : EV d mX8_feed Q 39 [vR 45, vI v1] [] g := by
  refine wp_aload_n dX8_feed_39 rfl rfl ?_
  refine wp_get (v := vR 52) dX8_feed_40 fl_8_38 L_45 rfl ?_
  refine wp_aload_n dX8_feed_43 rfl rfl ?_
  refine wp_get (v := vI ((g 45) 13)) dX8_feed_44 fl_8_167 L_45 rfl ?_
  refine wp_iload_n dX8_feed_47 rfl ?_
  refine wp_iastore dX8_feed_48 h1 L_52 h2 ?_
  refine wp_aload_n dX8_feed_49 rfl rfl ?_
  refine wp_dup dX8_feed_50 rfl ?_
  refine wp_get (v := vI ((g 45) 13)) dX8_feed_51 fl_8_167 L_45 rfl ?_
  refine wp_iconst dX8_feed_54 kc_1 ?_
  refine wp_iadd dX8_feed_55 ?_
  refine wp_putI dX8_feed_56 fl_8_167 L_45 rfl rfl ?_
  refine wp_aload_n dX8_feed_59 rfl rfl ?_
  refine wp_get (v := vI ((fup (g 45) 13 (w32 (((g 45) 13) + 1))) 13)) dX8_feed_60 fl_8_167 L_45 rfl ?_
  exact wp_iret dX8_feed_63 rfl hq
theorem b_X8_refuse_0 {d : Nat} {Q : Option pV → pG → Prop} {g : pG} {v1 : Int} (h1 : 0 ≤ w32 (-v1)) (h2 : w32 (-v1) < 7) (hq : Q (some (vI v1)) (cset g 50 (fup (g 50) (w32 (-v1)).toNat (w32 (((g 50) (w32 (-v1)).toNat) + 1))))) : EV d mX8_refuse Q 0 [vR 45, vI v1] [] g := by
  refine wp_aload_n dX8_refuse_0 rfl rfl ?_
  refine wp_get (v := vR 50) dX8_refuse_1 fl_8_32 L_45 rfl ?_
  refine wp_iload_n dX8_refuse_4 rfl ?_
  refine wp_ineg dX8_refuse_5 ?_
  refine wp_dup2 dX8_refuse_6 rfl rfl ?_
  refine wp_iaload dX8_refuse_7 h1 L_50 h2 ?_
  refine wp_iconst dX8_refuse_8 kc_1 ?_
  refine wp_iadd dX8_refuse_9 ?_
  refine wp_iastore dX8_refuse_10 h1 L_50 h2 ?_
  refine wp_iload_n dX8_refuse_11 rfl ?_
  exact wp_iret dX8_refuse_12 rfl hq
theorem b_X8_caseOf_0 {d : Nat} {Q : Option pV → pG → Prop} {g : pG} (k : EV d mX8_caseOf Q 20 [vR 45, vX 2] [] (cset (cset (cset (cset g 45 (fup (g 45) 8 0)) 45 (fup (fup (g 45) 8 0) 14 0)) 45 (fup (fup (fup (g 45) 8 0) 14 0) 15 0)) 45 (fup (fup (fup (fup (g 45) 8 0) 14 0) 15 0) 16 0))) : EV d mX8_caseOf Q 0 [vR 45, vX 2] [] g := by
  refine wp_aload_n dX8_caseOf_0 rfl rfl ?_
  refine wp_iconst dX8_caseOf_1 kc_0 ?_
  refine wp_putI dX8_caseOf_2 fl_8_105 L_45 rfl rfl ?_
  refine wp_aload_n dX8_caseOf_5 rfl rfl ?_
  refine wp_iconst dX8_caseOf_6 kc_0 ?_
  refine wp_putI dX8_caseOf_7 fl_8_170 L_45 rfl rfl ?_
  refine wp_aload_n dX8_caseOf_10 rfl rfl ?_
  refine wp_iconst dX8_caseOf_11 kc_0 ?_
  refine wp_putZ dX8_caseOf_12 fl_8_173 L_45 rfl rfl (Or.inl rfl) ?_
  refine wp_aload_n dX8_caseOf_15 rfl rfl ?_
  refine wp_iconst dX8_caseOf_16 kc_0 ?_
  refine wp_putI dX8_caseOf_17 fl_8_184 L_45 rfl rfl ?_
  exact k
theorem b_X8_caseOf_20 {d : Nat} {Q : Option pV → pG → Prop} {g : pG} (k1 : ((g 45) 15 ≠ 0) → EV d mX8_caseOf Q 52 [vR 45, vX 2] [] g) (k2 : ¬ ((g 45) 15 ≠ 0) → EV d mX8_caseOf Q 27 [vR 45, vX 2] [] g) : EV d mX8_caseOf Q 20 [vR 45, vX 2] [] g := by
  refine wp_aload_n dX8_caseOf_20 rfl rfl ?_
  refine wp_get (v := vI ((g 45) 15)) dX8_caseOf_21 fl_8_173 L_45 rfl ?_
  exact wp_if_ne (tgt := 52) dX8_caseOf_24 rfl k1 k2
theorem b_X8_caseOf_27 {d : Nat} {Q : Option pV → pG → Prop} {g : pG} (k1 : ((g 45) 16 = 0) → EV d mX8_caseOf Q 45 [vR 45, vX 2] [] g) (k2 : ¬ ((g 45) 16 = 0) → EV d mX8_caseOf Q 34 [vR 45, vX 2] [] g) : EV d mX8_caseOf Q 27 [vR 45, vX 2] [] g := by
  refine wp_aload_n dX8_caseOf_27 rfl rfl ?_
  refine wp_get (v := vI ((g 45) 16)) dX8_caseOf_28 fl_8_184 L_45 rfl ?_
  exact wp_if_eq (tgt := 45) dX8_caseOf_31 rfl k1 k2
theorem b_X8_caseOf_34 {d : Nat} {Q : Option pV → pG → Prop} {g : pG} (k1 : ((g 45) 13 ≤ (g 45) 14) → EV d mX8_caseOf Q 52 [vR 45, vX 2] [] g) (k2 : ¬ ((g 45) 13 ≤ (g 45) 14) → EV d mX8_caseOf Q 45 [vR 45, vX 2] [] g) : EV d mX8_caseOf Q 34 [vR 45, vX 2] [] g := by
  refine wp_aload_n dX8_caseOf_34 rfl rfl ?_
  refine wp_get (v := vI ((g 45) 14)) dX8_caseOf_35 fl_8_170 L_45 rfl ?_
  refine wp_aload_n dX8_caseOf_38 rfl rfl ?_
  refine wp_get (v := vI ((g 45) 13)) dX8_caseOf_39 fl_8_167 L_45 rfl ?_
  exact wp_icmp_ge (tgt := 52) dX8_caseOf_42 rfl k1 k2
theorem b_X8_caseOf_45 {d : Nat} {Q : Option pV → pG → Prop} {g : pG} {R : pG → Prop} (hc : CT d mX8_readStatement [vR 45] g (qV R)) (k : ∀ gg : pG, R gg → EV d mX8_caseOf Q 49 [vR 45, vX 2] [] gg) : EV d mX8_caseOf Q 45 [vR 45, vX 2] [] g := by
  refine wp_aload_n dX8_caseOf_45 rfl rfl ?_
  exact wp_callvV (As := []) dX8_caseOf_46 ml_8_202 (by decide) rfl L_45 (by decide) rfl (Nat.le_of_ble_eq_true rfl) rfl (Nat.le_refl _) (Nat.le_refl _) hc k
theorem b_X8_caseOf_49 {d : Nat} {Q : Option pV → pG → Prop} {g : pG} (k : EV d mX8_caseOf Q 20 [vR 45, vX 2] [] g) : EV d mX8_caseOf Q 49 [vR 45, vX 2] [] g := by
  refine wp_goto (tgt := 20) dX8_caseOf_49 rfl ?_
  exact k
theorem b_X8_caseOf_52 {d : Nat} {Q : Option pV → pG → Prop} {g : pG} (k1 : ((fup (g 45) 13 0) 15 = 0) → EV d mX8_caseOf Q 73 [vR 45, vX 2] [] (cset g 45 (fup (g 45) 13 0))) (k2 : ¬ ((fup (g 45) 13 0) 15 = 0) → EV d mX8_caseOf Q 64 [vR 45, vX 2] [] (cset g 45 (fup (g 45) 13 0))) : EV d mX8_caseOf Q 52 [vR 45, vX 2] [] g := by
  refine wp_aload_n dX8_caseOf_52 rfl rfl ?_
  refine wp_iconst dX8_caseOf_53 kc_0 ?_
  refine wp_putI dX8_caseOf_54 fl_8_167 L_45 rfl rfl ?_
  refine wp_aload_n dX8_caseOf_57 rfl rfl ?_
  refine wp_get (v := vI ((fup (g 45) 13 0) 15)) dX8_caseOf_58 fl_8_173 L_45 rfl ?_
  exact wp_if_eq (tgt := 73) dX8_caseOf_61 rfl k1 k2
theorem b_X8_caseOf_64 {d : Nat} {Q : Option pV → pG → Prop} {g : pG} (hq : Q (some (vI (w32 ((-1000) - ((g 45) 14))))) g) : EV d mX8_caseOf Q 64 [vR 45, vX 2] [] g := by
  refine wp_sipush dX8_caseOf_64 ks_m1000 kc_m1000 ?_
  refine wp_aload_n dX8_caseOf_67 rfl rfl ?_
  refine wp_get (v := vI ((g 45) 14)) dX8_caseOf_68 fl_8_170 L_45 rfl ?_
  refine wp_isub dX8_caseOf_71 ?_
  exact wp_iret dX8_caseOf_72 rfl hq
theorem b_X8_caseOf_73 {d : Nat} {Q : Option pV → pG → Prop} {g : pG} {R : pG → Prop} (hc : CT d mX8_carryAll [vR 45, vR 56, vI 1] g (qV R)) (k : ∀ gg : pG, R gg → EV d mX8_caseOf Q 82 [vR 45, vX 2] [] gg) : EV d mX8_caseOf Q 73 [vR 45, vX 2] [] g := by
  refine wp_aload_n dX8_caseOf_73 rfl rfl ?_
  refine wp_aload_n dX8_caseOf_74 rfl rfl ?_
  refine wp_get (v := vR 56) dX8_caseOf_75 fl_8_50 L_45 rfl ?_
  refine wp_iconst dX8_caseOf_78 kc_1 ?_
  exact wp_callvV (As := [vR 56, vI 1]) dX8_caseOf_79 ml_8_205 (by decide) rfl L_45 (by decide) rfl (Nat.le_of_ble_eq_true rfl) rfl (Nat.le_refl _) (Nat.le_refl _) hc k
theorem b_X8_caseOf_82 {d : Nat} {Q : Option pV → pG → Prop} {g : pG} (k : EV d mX8_caseOf Q 84 [vR 45, vI 0] [] g) : EV d mX8_caseOf Q 82 [vR 45, vX 2] [] g := by
  refine wp_iconst dX8_caseOf_82 kc_0 ?_
  refine wp_istore_n dX8_caseOf_83 (Nat.le_of_ble_eq_true rfl) (pp (c := 0) rfl rfl) ?_
  exact k
theorem b_X8_caseOf_84 {d : Nat} {Q : Option pV → pG → Prop} {g : pG} {v1 : Int} (k1 : ((g 45) 16 ≤ v1) → EV d mX8_caseOf Q 126 [vR 45, vI v1] [] g) (k2 : ¬ ((g 45) 16 ≤ v1) → EV d mX8_caseOf Q 92 [vR 45, vI v1] [] g) : EV d mX8_caseOf Q 84 [vR 45, vI v1] [] g := by
  refine wp_iload_n dX8_caseOf_84 rfl ?_
  refine wp_aload_n dX8_caseOf_85 rfl rfl ?_
  refine wp_get (v := vI ((g 45) 16)) dX8_caseOf_86 fl_8_184 L_45 rfl ?_
  exact wp_icmp_ge (tgt := 126) dX8_caseOf_89 rfl k1 k2
theorem b_X8_caseOf_92 {d : Nat} {Q : Option pV → pG → Prop} {g : pG} {v1 : Int} {R : Int → pG → Prop} (hc : CT d mX8_comes [vR 45, vI v1] g (qI R)) (k : ∀ (x : Int) (gg : pG), R x gg → EV d mX8_caseOf Q 97 [vR 45, vI v1] [vI x] gg) : EV d mX8_caseOf Q 92 [vR 45, vI v1] [] g := by
  refine wp_aload_n dX8_caseOf_92 rfl rfl ?_
  refine wp_iload_n dX8_caseOf_93 rfl ?_
  exact wp_callvI (As := [vI v1]) dX8_caseOf_94 ml_8_209 (by decide) rfl L_45 (by decide) rfl (Nat.le_of_ble_eq_true rfl) rfl (Nat.le_refl _) (Nat.le_refl _) hc k
theorem b_X8_caseOf_97 {d : Nat} {Q : Option pV → pG → Prop} {g : pG} {v1 vs0 : Int} (k1 : (vs0 ≠ 0) → EV d mX8_caseOf Q 120 [vR 45, vI v1] [] g) (k2 : ¬ (vs0 ≠ 0) → EV d mX8_caseOf Q 100 [vR 45, vI v1] [] g) : EV d mX8_caseOf Q 97 [vR 45, vI v1] [vI vs0] g := by
  exact wp_if_ne (tgt := 120) dX8_caseOf_97 rfl k1 k2
theorem b_X8_caseOf_100 {d : Nat} {Q : Option pV → pG → Prop} {g : pG} {v1 : Int} {R : pG → Prop} (hc : CT d mX8_carryAll [vR 45, vR 56, vI 0] g (qV R)) (k : ∀ gg : pG, R gg → EV d mX8_caseOf Q 109 [vR 45, vI v1] [] gg) : EV d mX8_caseOf Q 100 [vR 45, vI v1] [] g := by
  refine wp_aload_n dX8_caseOf_100 rfl rfl ?_
  refine wp_aload_n dX8_caseOf_101 rfl rfl ?_
  refine wp_get (v := vR 56) dX8_caseOf_102 fl_8_50 L_45 rfl ?_
  refine wp_iconst dX8_caseOf_105 kc_0 ?_
  exact wp_callvV (As := [vR 56, vI 0]) dX8_caseOf_106 ml_8_205 (by decide) rfl L_45 (by decide) rfl (Nat.le_of_ble_eq_true rfl) rfl (Nat.le_refl _) (Nat.le_refl _) hc k
theorem b_X8_caseOf_109 {d : Nat} {Q : Option pV → pG → Prop} {g : pG} {v1 : Int} (h1 : 0 ≤ v1) (h2 : v1 < 49) (hq : Q (some (vI (w32 ((-2000) - ((g 53) v1.toNat))))) g) : EV d mX8_caseOf Q 109 [vR 45, vI v1] [] g := by
  refine wp_sipush dX8_caseOf_109 ks_m2000 kc_m2000 ?_
  refine wp_aload_n dX8_caseOf_112 rfl rfl ?_
  refine wp_get (v := vR 53) dX8_caseOf_113 fl_8_41 L_45 rfl ?_
  refine wp_iload_n dX8_caseOf_116 rfl ?_
  refine wp_iaload dX8_caseOf_117 h1 L_53 h2 ?_
  refine wp_isub dX8_caseOf_118 ?_
  exact wp_iret dX8_caseOf_119 rfl hq
theorem b_X8_caseOf_120 {d : Nat} {Q : Option pV → pG → Prop} {g : pG} {v1 : Int} (k : EV d mX8_caseOf Q 84 [vR 45, vI (w32 (v1 + 1))] [] g) : EV d mX8_caseOf Q 120 [vR 45, vI v1] [] g := by
  refine wp_iinc dX8_caseOf_120 rfl (Nat.le_of_ble_eq_true rfl) (pp (c := 0) rfl rfl) ?_
  refine wp_goto (tgt := 84) dX8_caseOf_123 rfl ?_
  exact k
theorem b_X8_caseOf_126 {d : Nat} {Q : Option pV → pG → Prop} {g : pG} {v1 : Int} (hq : Q (some (vI ((fup (g 45) 28 0) 16))) (cset g 45 (fup (g 45) 28 0))) : EV d mX8_caseOf Q 126 [vR 45, vI v1] [] g := by
  refine wp_aload_n dX8_caseOf_126 rfl rfl ?_
  refine wp_iconst dX8_caseOf_127 kc_0 ?_
  refine wp_putI dX8_caseOf_128 fl_8_212 L_45 rfl rfl ?_
  refine wp_aload_n dX8_caseOf_131 rfl rfl ?_
  refine wp_get (v := vI ((fup (g 45) 28 0) 16)) dX8_caseOf_132 fl_8_184 L_45 rfl ?_
  exact wp_iret dX8_caseOf_135 rfl hq
theorem b_X8_readStatement_0 {d : Nat} {Q : Option pV → pG → Prop} {g : pG} {R : Int → pG → Prop} (hc : CT d mX8_here [vR 45] g (qI R)) (k : ∀ (x : Int) (gg : pG), R x gg → EV d mX8_readStatement Q 9 [vR 45, vI ((g 45) 16), vX 2, vX 2, vX 2] [vI x] gg) : EV d mX8_readStatement Q 0 [vR 45, vX 2, vX 2, vX 2, vX 2] [] g := by
  refine wp_aload_n dX8_readStatement_0 rfl rfl ?_
  refine wp_get (v := vI ((g 45) 16)) dX8_readStatement_1 fl_8_184 L_45 rfl ?_
  refine wp_istore_n dX8_readStatement_4 (Nat.le_of_ble_eq_true rfl) (pp (c := 0) rfl rfl) ?_
  refine wp_aload_n dX8_readStatement_5 rfl rfl ?_
  exact wp_callvI (As := []) dX8_readStatement_6 ml_8_177 (by decide) rfl L_45 (by decide) rfl (Nat.le_of_ble_eq_true rfl) rfl (Nat.le_refl _) (Nat.le_refl _) hc k
theorem b_X8_readStatement_9 {d : Nat} {Q : Option pV → pG → Prop} {g : pG} {v1 vs0 : Int} (h1 : 0 ≤ v1) (h2 : v1 < 49) (k1 : ((g 45) 15 ≠ 0) → EV d mX8_readStatement Q 46 [vR 45, vI v1, vI vs0, vI (w32 (3 * v1)), vX 2] [vR 45] (cset (cset g 53 (fup (g 53) v1.toNat ((g 45) 14))) 54 (fup (g 54) v1.toNat vs0))) (k2 : ¬ ((g 45) 15 ≠ 0) → EV d mX8_readStatement Q 39 [vR 45, vI v1, vI vs0, vI (w32 (3 * v1)), vX 2] [vR 45] (cset (cset g 53 (fup (g 53) v1.toNat ((g 45) 14))) 54 (fup (g 54) v1.toNat vs0))) : EV d mX8_readStatement Q 9 [vR 45, vI v1, vX 2, vX 2, vX 2] [vI vs0] g := by
  refine wp_istore_n dX8_readStatement_9 (Nat.le_of_ble_eq_true rfl) (pp (c := 1) rfl rfl) ?_
  refine wp_iconst dX8_readStatement_10 kc_3 ?_
  refine wp_iload_n dX8_readStatement_11 rfl ?_
  refine wp_imul dX8_readStatement_12 ?_
  refine wp_istore_n dX8_readStatement_13 (Nat.le_of_ble_eq_true rfl) (pp (c := 2) rfl rfl) ?_
  refine wp_aload_n dX8_readStatement_14 rfl rfl ?_
  refine wp_get (v := vR 53) dX8_readStatement_15 fl_8_41 L_45 rfl ?_
  refine wp_iload_n dX8_readStatement_18 rfl ?_
  refine wp_aload_n dX8_readStatement_19 rfl rfl ?_
  refine wp_get (v := vI ((g 45) 14)) dX8_readStatement_20 fl_8_170 L_45 rfl ?_
  refine wp_iastore dX8_readStatement_23 h1 L_53 h2 ?_
  refine wp_aload_n dX8_readStatement_24 rfl rfl ?_
  refine wp_get (v := vR 54) dX8_readStatement_25 fl_8_44 L_45 rfl ?_
  refine wp_iload_n dX8_readStatement_28 rfl ?_
  refine wp_iload_n dX8_readStatement_29 rfl ?_
  refine wp_iastore dX8_readStatement_30 h1 L_54 h2 ?_
  refine wp_aload_n dX8_readStatement_31 rfl rfl ?_
  refine wp_aload_n dX8_readStatement_32 rfl rfl ?_
  refine wp_get (v := vI ((g 45) 15)) dX8_readStatement_33 fl_8_173 L_45 rfl ?_
  exact wp_if_ne (tgt := 46) dX8_readStatement_36 rfl k1 k2
theorem b_X8_readStatement_39 {d : Nat} {Q : Option pV → pG → Prop} {g : pG} {v1 v2 v3 : Int} {R : Int → pG → Prop} (hc : CT d mX8_isLetter [vI v2] g (qI R)) (k : ∀ (x : Int) (gg : pG), R x gg → EV d mX8_readStatement Q 43 [vR 45, vI v1, vI v2, vI v3, vX 2] [vI x, vR 45] gg) : EV d mX8_readStatement Q 39 [vR 45, vI v1, vI v2, vI v3, vX 2] [vR 45] g := by
  refine wp_iload_n dX8_readStatement_39 rfl ?_
  exact wp_callsI (As := [vI v2]) dX8_readStatement_40 ml_8_187 (Or.inl rfl) rfl (Nat.le_of_ble_eq_true rfl) rfl (Nat.le_refl _) (Nat.le_refl _) hc k
theorem b_X8_readStatement_43 {d : Nat} {Q : Option pV → pG → Prop} {g : pG} {v1 v2 v3 vs1 : Int} (k1 : (vs1 ≠ 0) → EV d mX8_readStatement Q 50 [vR 45, vI v1, vI v2, vI v3, vX 2] [vR 45] g) (k2 : ¬ (vs1 ≠ 0) → EV d mX8_readStatement Q 46 [vR 45, vI v1, vI v2, vI v3, vX 2] [vR 45] g) : EV d mX8_readStatement Q 43 [vR 45, vI v1, vI v2, vI v3, vX 2] [vI vs1, vR 45] g := by
  exact wp_if_ne (tgt := 50) dX8_readStatement_43 rfl k1 k2
theorem b_X8_readStatement_46 {d : Nat} {Q : Option pV → pG → Prop} {g : pG} {v1 v2 v3 : Int} (k1 : ((fup (g 45) 15 1) 15 = 0) → EV d mX8_readStatement Q 70 [vR 45, vI v1, vI v2, vI v3, vX 2] [vI ((fup (g 45) 15 1) 14), vR 45] (cset g 45 (fup (g 45) 15 1))) (k2 : ¬ ((fup (g 45) 15 1) 15 = 0) → EV d mX8_readStatement Q 66 [vR 45, vI v1, vI v2, vI v3, vX 2] [vI ((fup (g 45) 15 1) 14), vR 45] (cset g 45 (fup (g 45) 15 1))) : EV d mX8_readStatement Q 46 [vR 45, vI v1, vI v2, vI v3, vX 2] [vR 45] g := by
  refine wp_iconst dX8_readStatement_46 kc_1 ?_
  refine wp_goto (tgt := 51) dX8_readStatement_47 rfl ?_
  refine wp_putZ dX8_readStatement_51 fl_8_173 L_45 rfl rfl (Or.inr rfl) ?_
  refine wp_aload_n dX8_readStatement_54 rfl rfl ?_
  refine wp_dup dX8_readStatement_55 rfl ?_
  refine wp_get (v := vI ((fup (g 45) 15 1) 14)) dX8_readStatement_56 fl_8_170 L_45 rfl ?_
  refine wp_aload_n dX8_readStatement_59 rfl rfl ?_
  refine wp_get (v := vI ((fup (g 45) 15 1) 15)) dX8_readStatement_60 fl_8_173 L_45 rfl ?_
  exact wp_if_eq (tgt := 70) dX8_readStatement_63 rfl k1 k2
theorem b_X8_readStatement_50 {d : Nat} {Q : Option pV → pG → Prop} {g : pG} {v1 v2 v3 : Int} (k1 : ((fup (g 45) 15 0) 15 = 0) → EV d mX8_readStatement Q 70 [vR 45, vI v1, vI v2, vI v3, vX 2] [vI ((fup (g 45) 15 0) 14), vR 45] (cset g 45 (fup (g 45) 15 0))) (k2 : ¬ ((fup (g 45) 15 0) 15 = 0) → EV d mX8_readStatement Q 66 [vR 45, vI v1, vI v2, vI v3, vX 2] [vI ((fup (g 45) 15 0) 14), vR 45] (cset g 45 (fup (g 45) 15 0))) : EV d mX8_readStatement Q 50 [vR 45, vI v1, vI v2, vI v3, vX 2] [vR 45] g := by
  refine wp_iconst dX8_readStatement_50 kc_0 ?_
  refine wp_putZ dX8_readStatement_51 fl_8_173 L_45 rfl rfl (Or.inl rfl) ?_
  refine wp_aload_n dX8_readStatement_54 rfl rfl ?_
  refine wp_dup dX8_readStatement_55 rfl ?_
  refine wp_get (v := vI ((fup (g 45) 15 0) 14)) dX8_readStatement_56 fl_8_170 L_45 rfl ?_
  refine wp_aload_n dX8_readStatement_59 rfl rfl ?_
  refine wp_get (v := vI ((fup (g 45) 15 0) 15)) dX8_readStatement_60 fl_8_173 L_45 rfl ?_
  exact wp_if_eq (tgt := 70) dX8_readStatement_63 rfl k1 k2
theorem b_X8_readStatement_66 {d : Nat} {Q : Option pV → pG → Prop} {g : pG} {v1 v2 v3 vs1 : Int} (k1 : (v2 ≠ 99) → EV d mX8_readStatement Q 121 [vR 45, vI v1, vI v2, vI v3, vX 2] [] (cset g 45 (fup (g 45) 14 (w32 (vs1 + 0))))) (k2 : ¬ (v2 ≠ 99) → EV d mX8_readStatement Q 81 [vR 45, vI v1, vI v2, vI v3, vX 2] [] (cset g 45 (fup (g 45) 14 (w32 (vs1 + 0))))) : EV d mX8_readStatement Q 66 [vR 45, vI v1, vI v2, vI v3, vX 2] [vI vs1, vR 45] g := by
  refine wp_iconst dX8_readStatement_66 kc_0 ?_
  refine wp_goto (tgt := 71) dX8_readStatement_67 rfl ?_
  refine wp_iadd dX8_readStatement_71 ?_
  refine wp_putI dX8_readStatement_72 fl_8_170 L_45 rfl rfl ?_
  refine wp_iload_n dX8_readStatement_75 rfl ?_
  refine wp_bipush dX8_readStatement_76 kb_99 kc_99 ?_
  exact wp_icmp_ne (tgt := 121) dX8_readStatement_78 rfl k1 k2
theorem b_X8_readStatement_70 {d : Nat} {Q : Option pV → pG → Prop} {g : pG} {v1 v2 v3 vs1 : Int} (k1 : (v2 ≠ 99) → EV d mX8_readStatement Q 121 [vR 45, vI v1, vI v2, vI v3, vX 2] [] (cset g 45 (fup (g 45) 14 (w32 (vs1 + 1))))) (k2 : ¬ (v2 ≠ 99) → EV d mX8_readStatement Q 81 [vR 45, vI v1, vI v2, vI v3, vX 2] [] (cset g 45 (fup (g 45) 14 (w32 (vs1 + 1))))) : EV d mX8_readStatement Q 70 [vR 45, vI v1, vI v2, vI v3, vX 2] [vI vs1, vR 45] g := by
  refine wp_iconst dX8_readStatement_70 kc_1 ?_
  refine wp_iadd dX8_readStatement_71 ?_
  refine wp_putI dX8_readStatement_72 fl_8_170 L_45 rfl rfl ?_
  refine wp_iload_n dX8_readStatement_75 rfl ?_
  refine wp_bipush dX8_readStatement_76 kb_99 kc_99 ?_
  exact wp_icmp_ne (tgt := 121) dX8_readStatement_78 rfl k1 k2
theorem b_X8_readStatement_81 {d : Nat} {Q : Option pV → pG → Prop} {g : pG} {v1 v2 v3 : Int} {R : Int → pG → Prop} (hc : CT d mX8_readDigits [vR 45, vI 1] g (qI R)) (k : ∀ (x : Int) (gg : pG), R x gg → EV d mX8_readStatement Q 91 [vR 45, vI v1, vI v2, vI v3, vX 2] [vI x, vI v3, vR 55] gg) : EV d mX8_readStatement Q 81 [vR 45, vI v1, vI v2, vI v3, vX 2] [] g := by
  refine wp_aload_n dX8_readStatement_81 rfl rfl ?_
  refine wp_get (v := vR 55) dX8_readStatement_82 fl_8_47 L_45 rfl ?_
  refine wp_iload_n dX8_readStatement_85 rfl ?_
  refine wp_aload_n dX8_readStatement_86 rfl rfl ?_
  refine wp_iconst dX8_readStatement_87 kc_1 ?_
  exact wp_callvI (As := [vI 1]) dX8_readStatement_88 ml_8_190 (by decide) rfl L_45 (by decide) rfl (Nat.le_of_ble_eq_true rfl) rfl (Nat.le_refl _) (Nat.le_refl _) hc k
theorem b_X8_readStatement_91 {d : Nat} {Q : Option pV → pG → Prop} {g : pG} {v1 v2 v3 vs1 vs2 : Int} {R : Int → pG → Prop} (h1 : 0 ≤ vs1) (h2 : vs1 < 147) (hc : CT d mX8_readDigits [vR 45, vI 1] (cset g 55 (fup (g 55) vs1.toNat vs2)) (qI R)) (k : ∀ (x : Int) (gg : pG), R x gg → EV d mX8_readStatement Q 104 [vR 45, vI v1, vI v2, vI v3, vX 2] [vI x, vI (w32 (v3 + 1)), vR 55] gg) : EV d mX8_readStatement Q 91 [vR 45, vI v1, vI v2, vI v3, vX 2] [vI vs2, vI vs1, vR 55] g := by
  refine wp_iastore dX8_readStatement_91 h1 L_55 h2 ?_
  refine wp_aload_n dX8_readStatement_92 rfl rfl ?_
  refine wp_get (v := vR 55) dX8_readStatement_93 fl_8_47 L_45 rfl ?_
  refine wp_iload_n dX8_readStatement_96 rfl ?_
  refine wp_iconst dX8_readStatement_97 kc_1 ?_
  refine wp_iadd dX8_readStatement_98 ?_
  refine wp_aload_n dX8_readStatement_99 rfl rfl ?_
  refine wp_iconst dX8_readStatement_100 kc_1 ?_
  exact wp_callvI (As := [vI 1]) dX8_readStatement_101 ml_8_190 (by decide) rfl L_45 (by decide) rfl (Nat.le_of_ble_eq_true rfl) rfl (Nat.le_refl _) (Nat.le_refl _) hc k
theorem b_X8_readStatement_104 {d : Nat} {Q : Option pV → pG → Prop} {g : pG} {v1 v2 v3 vs1 vs2 : Int} {R : Int → pG → Prop} (h1 : 0 ≤ vs1) (h2 : vs1 < 147) (hc : CT d mX8_readDigits [vR 45, vI 2] (cset g 55 (fup (g 55) vs1.toNat vs2)) (qI R)) (k : ∀ (x : Int) (gg : pG), R x gg → EV d mX8_readStatement Q 117 [vR 45, vI v1, vI v2, vI v3, vX 2] [vI x, vI (w32 (v3 + 2)), vR 55] gg) : EV d mX8_readStatement Q 104 [vR 45, vI v1, vI v2, vI v3, vX 2] [vI vs2, vI vs1, vR 55] g := by
  refine wp_iastore dX8_readStatement_104 h1 L_55 h2 ?_
  refine wp_aload_n dX8_readStatement_105 rfl rfl ?_
  refine wp_get (v := vR 55) dX8_readStatement_106 fl_8_47 L_45 rfl ?_
  refine wp_iload_n dX8_readStatement_109 rfl ?_
  refine wp_iconst dX8_readStatement_110 kc_2 ?_
  refine wp_iadd dX8_readStatement_111 ?_
  refine wp_aload_n dX8_readStatement_112 rfl rfl ?_
  refine wp_iconst dX8_readStatement_113 kc_2 ?_
  exact wp_callvI (As := [vI 2]) dX8_readStatement_114 ml_8_190 (by decide) rfl L_45 (by decide) rfl (Nat.le_of_ble_eq_true rfl) rfl (Nat.le_refl _) (Nat.le_refl _) hc k
theorem b_X8_readStatement_117 {d : Nat} {Q : Option pV → pG → Prop} {g : pG} {v1 v2 v3 vs1 vs2 : Int} (h1 : 0 ≤ vs1) (h2 : vs1 < 147) (k1 : ((g 45) 15 ≠ 0) → EV d mX8_readStatement Q 268 [vR 45, vI v1, vI v2, vI v3, vX 2] [vR 45] (cset g 55 (fup (g 55) vs1.toNat vs2))) (k2 : ¬ ((g 45) 15 ≠ 0) → EV d mX8_readStatement Q 259 [vR 45, vI v1, vI v2, vI v3, vX 2] [vR 45] (cset g 55 (fup (g 55) vs1.toNat vs2))) : EV d mX8_readStatement Q 117 [vR 45, vI v1, vI v2, vI v3, vX 2] [vI vs2, vI vs1, vR 55] g := by
  refine wp_iastore dX8_readStatement_117 h1 L_55 h2 ?_
  refine wp_goto (tgt := 251) dX8_readStatement_118 rfl ?_
  refine wp_aload_n dX8_readStatement_251 rfl rfl ?_
  refine wp_aload_n dX8_readStatement_252 rfl rfl ?_
  refine wp_get (v := vI ((g 45) 15)) dX8_readStatement_253 fl_8_173 L_45 rfl ?_
  exact wp_if_ne (tgt := 268) dX8_readStatement_256 rfl k1 k2
theorem b_X8_readStatement_121 {d : Nat} {Q : Option pV → pG → Prop} {g : pG} {v1 v2 v3 : Int} (k1 : (v2 ≠ 112) → EV d mX8_readStatement Q 224 [vR 45, vI v1, vI v2, vI v3, vX 2] [] g) (k2 : ¬ (v2 ≠ 112) → EV d mX8_readStatement Q 127 [vR 45, vI v1, vI v2, vI v3, vX 2] [] g) : EV d mX8_readStatement Q 121 [vR 45, vI v1, vI v2, vI v3, vX 2] [] g := by
  refine wp_iload_n dX8_readStatement_121 rfl ?_
  refine wp_bipush dX8_readStatement_122 kb_112 kc_112 ?_
  exact wp_icmp_ne (tgt := 224) dX8_readStatement_124 rfl k1 k2
theorem b_X8_readStatement_127 {d : Nat} {Q : Option pV → pG → Prop} {g : pG} {v1 v2 v3 : Int} {R : Int → pG → Prop} (hc : CT d mX8_readDigits [vR 45, vI 1] g (qI R)) (k : ∀ (x : Int) (gg : pG), R x gg → EV d mX8_readStatement Q 137 [vR 45, vI v1, vI v2, vI v3, vX 2] [vI x, vI v3, vR 55] gg) : EV d mX8_readStatement Q 127 [vR 45, vI v1, vI v2, vI v3, vX 2] [] g := by
  refine wp_aload_n dX8_readStatement_127 rfl rfl ?_
  refine wp_get (v := vR 55) dX8_readStatement_128 fl_8_47 L_45 rfl ?_
  refine wp_iload_n dX8_readStatement_131 rfl ?_
  refine wp_aload_n dX8_readStatement_132 rfl rfl ?_
  refine wp_iconst dX8_readStatement_133 kc_1 ?_
  exact wp_callvI (As := [vI 1]) dX8_readStatement_134 ml_8_190 (by decide) rfl L_45 (by decide) rfl (Nat.le_of_ble_eq_true rfl) rfl (Nat.le_refl _) (Nat.le_refl _) hc k
theorem b_X8_readStatement_137 {d : Nat} {Q : Option pV → pG → Prop} {g : pG} {v1 v2 v3 vs1 vs2 : Int} {R : Int → pG → Prop} (h1 : 0 ≤ vs1) (h2 : vs1 < 147) (hc : CT d mX8_here [vR 45] (cset g 55 (fup (g 55) vs1.toNat vs2)) (qI R)) (k : ∀ (x : Int) (gg : pG), R x gg → EV d mX8_readStatement Q 142 [vR 45, vI v1, vI v2, vI v3, vX 2] [vI x] gg) : EV d mX8_readStatement Q 137 [vR 45, vI v1, vI v2, vI v3, vX 2] [vI vs2, vI vs1, vR 55] g := by
  refine wp_iastore dX8_readStatement_137 h1 L_55 h2 ?_
  refine wp_aload_n dX8_readStatement_138 rfl rfl ?_
  exact wp_callvI (As := []) dX8_readStatement_139 ml_8_177 (by decide) rfl L_45 (by decide) rfl (Nat.le_of_ble_eq_true rfl) rfl (Nat.le_refl _) (Nat.le_refl _) hc k
theorem b_X8_readStatement_142 {d : Nat} {Q : Option pV → pG → Prop} {g : pG} {v1 v2 v3 vs0 : Int} (k1 : ((g 45) 15 ≠ 0) → EV d mX8_readStatement Q 166 [vR 45, vI v1, vI v2, vI v3, vI vs0] [vR 45] g) (k2 : ¬ ((g 45) 15 ≠ 0) → EV d mX8_readStatement Q 152 [vR 45, vI v1, vI v2, vI v3, vI vs0] [vR 45] g) : EV d mX8_readStatement Q 142 [vR 45, vI v1, vI v2, vI v3, vX 2] [vI vs0] g := by
  refine wp_istore dX8_readStatement_142 (Nat.le_of_ble_eq_true rfl) (pp (c := 3) rfl rfl) ?_
  refine wp_aload_n dX8_readStatement_144 rfl rfl ?_
  refine wp_aload_n dX8_readStatement_145 rfl rfl ?_
  refine wp_get (v := vI ((g 45) 15)) dX8_readStatement_146 fl_8_173 L_45 rfl ?_
  exact wp_if_ne (tgt := 166) dX8_readStatement_149 rfl k1 k2
theorem b_X8_readStatement_152 {d : Nat} {Q : Option pV → pG → Prop} {g : pG} {v1 v2 v3 v4 : Int} (k1 : (v4 = 43) → EV d mX8_readStatement Q 170 [vR 45, vI v1, vI v2, vI v3, vI v4] [vR 45] g) (k2 : ¬ (v4 = 43) → EV d mX8_readStatement Q 159 [vR 45, vI v1, vI v2, vI v3, vI v4] [vR 45] g) : EV d mX8_readStatement Q 152 [vR 45, vI v1, vI v2, vI v3, vI v4] [vR 45] g := by
  refine wp_iload dX8_readStatement_152 rfl ?_
  refine wp_bipush dX8_readStatement_154 kb_43 kc_43 ?_
  exact wp_icmp_eq (tgt := 170) dX8_readStatement_156 rfl k1 k2
theorem b_X8_readStatement_159 {d : Nat} {Q : Option pV → pG → Prop} {g : pG} {v1 v2 v3 v4 : Int} (k1 : (v4 = 45) → EV d mX8_readStatement Q 170 [vR 45, vI v1, vI v2, vI v3, vI v4] [vR 45] g) (k2 : ¬ (v4 = 45) → EV d mX8_readStatement Q 166 [vR 45, vI v1, vI v2, vI v3, vI v4] [vR 45] g) : EV d mX8_readStatement Q 159 [vR 45, vI v1, vI v2, vI v3, vI v4] [vR 45] g := by
  refine wp_iload dX8_readStatement_159 rfl ?_
  refine wp_bipush dX8_readStatement_161 kb_45 kc_45 ?_
  exact wp_icmp_eq (tgt := 170) dX8_readStatement_163 rfl k1 k2
theorem b_X8_readStatement_166 {d : Nat} {Q : Option pV → pG → Prop} {g : pG} {v1 v2 v3 v4 : Int} (k1 : ((fup (g 45) 15 1) 15 = 0) → EV d mX8_readStatement Q 190 [vR 45, vI v1, vI v2, vI v3, vI v4] [vI ((fup (g 45) 15 1) 14), vR 45] (cset g 45 (fup (g 45) 15 1))) (k2 : ¬ ((fup (g 45) 15 1) 15 = 0) → EV d mX8_readStatement Q 186 [vR 45, vI v1, vI v2, vI v3, vI v4] [vI ((fup (g 45) 15 1) 14), vR 45] (cset g 45 (fup (g 45) 15 1))) : EV d mX8_readStatement Q 166 [vR 45, vI v1, vI v2, vI v3, vI v4] [vR 45] g := by
  refine wp_iconst dX8_readStatement_166 kc_1 ?_
  refine wp_goto (tgt := 171) dX8_readStatement_167 rfl ?_
  refine wp_putZ dX8_readStatement_171 fl_8_173 L_45 rfl rfl (Or.inr rfl) ?_
  refine wp_aload_n dX8_readStatement_174 rfl rfl ?_
  refine wp_dup dX8_readStatement_175 rfl ?_
  refine wp_get (v := vI ((fup (g 45) 15 1) 14)) dX8_readStatement_176 fl_8_170 L_45 rfl ?_
  refine wp_aload_n dX8_readStatement_179 rfl rfl ?_
  refine wp_get (v := vI ((fup (g 45) 15 1) 15)) dX8_readStatement_180 fl_8_173 L_45 rfl ?_
  exact wp_if_eq (tgt := 190) dX8_readStatement_183 rfl k1 k2
theorem b_X8_readStatement_170 {d : Nat} {Q : Option pV → pG → Prop} {g : pG} {v1 v2 v3 v4 : Int} (k1 : ((fup (g 45) 15 0) 15 = 0) → EV d mX8_readStatement Q 190 [vR 45, vI v1, vI v2, vI v3, vI v4] [vI ((fup (g 45) 15 0) 14), vR 45] (cset g 45 (fup (g 45) 15 0))) (k2 : ¬ ((fup (g 45) 15 0) 15 = 0) → EV d mX8_readStatement Q 186 [vR 45, vI v1, vI v2, vI v3, vI v4] [vI ((fup (g 45) 15 0) 14), vR 45] (cset g 45 (fup (g 45) 15 0))) : EV d mX8_readStatement Q 170 [vR 45, vI v1, vI v2, vI v3, vI v4] [vR 45] g := by
  refine wp_iconst dX8_readStatement_170 kc_0 ?_
  refine wp_putZ dX8_readStatement_171 fl_8_173 L_45 rfl rfl (Or.inl rfl) ?_
  refine wp_aload_n dX8_readStatement_174 rfl rfl ?_
  refine wp_dup dX8_readStatement_175 rfl ?_
  refine wp_get (v := vI ((fup (g 45) 15 0) 14)) dX8_readStatement_176 fl_8_170 L_45 rfl ?_
  refine wp_aload_n dX8_readStatement_179 rfl rfl ?_
  refine wp_get (v := vI ((fup (g 45) 15 0) 15)) dX8_readStatement_180 fl_8_173 L_45 rfl ?_
  exact wp_if_eq (tgt := 190) dX8_readStatement_183 rfl k1 k2
theorem b_X8_readStatement_186 {d : Nat} {Q : Option pV → pG → Prop} {g : pG} {v1 v2 v3 v4 vs1 : Int} {R : Int → pG → Prop} (hc : CT d mX8_readDigits [vR 45, vI 1] (cset g 45 (fup (g 45) 14 (w32 (vs1 + 0)))) (qI R)) (k : ∀ (x : Int) (gg : pG), R x gg → EV d mX8_readStatement Q 207 [vR 45, vI v1, vI v2, vI v3, vI v4] [vI x, vI (w32 (v3 + 1)), vR 55] gg) : EV d mX8_readStatement Q 186 [vR 45, vI v1, vI v2, vI v3, vI v4] [vI vs1, vR 45] g := by
  refine wp_iconst dX8_readStatement_186 kc_0 ?_
  refine wp_goto (tgt := 191) dX8_readStatement_187 rfl ?_
  refine wp_iadd dX8_readStatement_191 ?_
  refine wp_putI dX8_readStatement_192 fl_8_170 L_45 rfl rfl ?_
  refine wp_aload_n dX8_readStatement_195 rfl rfl ?_
  refine wp_get (v := vR 55) dX8_readStatement_196 fl_8_47 L_45 rfl ?_
  refine wp_iload_n dX8_readStatement_199 rfl ?_
  refine wp_iconst dX8_readStatement_200 kc_1 ?_
  refine wp_iadd dX8_readStatement_201 ?_
  refine wp_aload_n dX8_readStatement_202 rfl rfl ?_
  refine wp_iconst dX8_readStatement_203 kc_1 ?_
  exact wp_callvI (As := [vI 1]) dX8_readStatement_204 ml_8_190 (by decide) rfl L_45 (by decide) rfl (Nat.le_of_ble_eq_true rfl) rfl (Nat.le_refl _) (Nat.le_refl _) hc k
theorem b_X8_readStatement_190 {d : Nat} {Q : Option pV → pG → Prop} {g : pG} {v1 v2 v3 v4 vs1 : Int} {R : Int → pG → Prop} (hc : CT d mX8_readDigits [vR 45, vI 1] (cset g 45 (fup (g 45) 14 (w32 (vs1 + 1)))) (qI R)) (k : ∀ (x : Int) (gg : pG), R x gg → EV d mX8_readStatement Q 207 [vR 45, vI v1, vI v2, vI v3, vI v4] [vI x, vI (w32 (v3 + 1)), vR 55] gg) : EV d mX8_readStatement Q 190 [vR 45, vI v1, vI v2, vI v3, vI v4] [vI vs1, vR 45] g := by
  refine wp_iconst dX8_readStatement_190 kc_1 ?_
  refine wp_iadd dX8_readStatement_191 ?_
  refine wp_putI dX8_readStatement_192 fl_8_170 L_45 rfl rfl ?_
  refine wp_aload_n dX8_readStatement_195 rfl rfl ?_
  refine wp_get (v := vR 55) dX8_readStatement_196 fl_8_47 L_45 rfl ?_
  refine wp_iload_n dX8_readStatement_199 rfl ?_
  refine wp_iconst dX8_readStatement_200 kc_1 ?_
  refine wp_iadd dX8_readStatement_201 ?_
  refine wp_aload_n dX8_readStatement_202 rfl rfl ?_
  refine wp_iconst dX8_readStatement_203 kc_1 ?_
  exact wp_callvI (As := [vI 1]) dX8_readStatement_204 ml_8_190 (by decide) rfl L_45 (by decide) rfl (Nat.le_of_ble_eq_true rfl) rfl (Nat.le_refl _) (Nat.le_refl _) hc k
theorem b_X8_readStatement_207 {d : Nat} {Q : Option pV → pG → Prop} {g : pG} {v1 v2 v3 v4 vs1 vs2 : Int} (k1 : (v4 ≠ 45) → EV d mX8_readStatement Q 218 [vR 45, vI v1, vI v2, vI v3, vI v4] [vI vs2, vI vs1, vR 55] g) (k2 : ¬ (v4 ≠ 45) → EV d mX8_readStatement Q 214 [vR 45, vI v1, vI v2, vI v3, vI v4] [vI vs2, vI vs1, vR 55] g) : EV d mX8_readStatement Q 207 [vR 45, vI v1, vI v2, vI v3, vI v4] [vI vs2, vI vs1, vR 55] g := by
  refine wp_iload dX8_readStatement_207 rfl ?_
  refine wp_bipush dX8_readStatement_209 kb_45 kc_45 ?_
  exact wp_icmp_ne (tgt := 218) dX8_readStatement_211 rfl k1 k2
theorem b_X8_readStatement_214 {d : Nat} {Q : Option pV → pG → Prop} {g : pG} {v1 v2 v3 v4 vs1 vs2 : Int} (h1 : 0 ≤ vs1) (h2 : vs1 < 147) (k1 : ((g 45) 15 ≠ 0) → EV d mX8_readStatement Q 268 [vR 45, vI v1, vI v2, vI v3, vI v4] [vR 45] (cset g 55 (fup (g 55) vs1.toNat (w32 (vs2 * (-1)))))) (k2 : ¬ ((g 45) 15 ≠ 0) → EV d mX8_readStatement Q 259 [vR 45, vI v1, vI v2, vI v3, vI v4] [vR 45] (cset g 55 (fup (g 55) vs1.toNat (w32 (vs2 * (-1)))))) : EV d mX8_readStatement Q 214 [vR 45, vI v1, vI v2, vI v3, vI v4] [vI vs2, vI vs1, vR 55] g := by
  refine wp_iconst dX8_readStatement_214 kc_m1 ?_
  refine wp_goto (tgt := 219) dX8_readStatement_215 rfl ?_
  refine wp_imul dX8_readStatement_219 ?_
  refine wp_iastore dX8_readStatement_220 h1 L_55 h2 ?_
  refine wp_goto (tgt := 251) dX8_readStatement_221 rfl ?_
  refine wp_aload_n dX8_readStatement_251 rfl rfl ?_
  refine wp_aload_n dX8_readStatement_252 rfl rfl ?_
  refine wp_get (v := vI ((g 45) 15)) dX8_readStatement_253 fl_8_173 L_45 rfl ?_
  exact wp_if_ne (tgt := 268) dX8_readStatement_256 rfl k1 k2
theorem b_X8_readStatement_218 {d : Nat} {Q : Option pV → pG → Prop} {g : pG} {v1 v2 v3 v4 vs1 vs2 : Int} (h1 : 0 ≤ vs1) (h2 : vs1 < 147) (k1 : ((g 45) 15 ≠ 0) → EV d mX8_readStatement Q 268 [vR 45, vI v1, vI v2, vI v3, vI v4] [vR 45] (cset g 55 (fup (g 55) vs1.toNat (w32 (vs2 * 1))))) (k2 : ¬ ((g 45) 15 ≠ 0) → EV d mX8_readStatement Q 259 [vR 45, vI v1, vI v2, vI v3, vI v4] [vR 45] (cset g 55 (fup (g 55) vs1.toNat (w32 (vs2 * 1))))) : EV d mX8_readStatement Q 218 [vR 45, vI v1, vI v2, vI v3, vI v4] [vI vs2, vI vs1, vR 55] g := by
  refine wp_iconst dX8_readStatement_218 kc_1 ?_
  refine wp_imul dX8_readStatement_219 ?_
  refine wp_iastore dX8_readStatement_220 h1 L_55 h2 ?_
  refine wp_goto (tgt := 251) dX8_readStatement_221 rfl ?_
  refine wp_aload_n dX8_readStatement_251 rfl rfl ?_
  refine wp_aload_n dX8_readStatement_252 rfl rfl ?_
  refine wp_get (v := vI ((g 45) 15)) dX8_readStatement_253 fl_8_173 L_45 rfl ?_
  exact wp_if_ne (tgt := 268) dX8_readStatement_256 rfl k1 k2
theorem b_X8_readStatement_224 {d : Nat} {Q : Option pV → pG → Prop} {g : pG} {v1 v2 v3 : Int} (k1 : (v2 = 117) → EV d mX8_readStatement Q 251 [vR 45, vI v1, vI v2, vI v3, vX 2] [] g) (k2 : ¬ (v2 = 117) → EV d mX8_readStatement Q 230 [vR 45, vI v1, vI v2, vI v3, vX 2] [] g) : EV d mX8_readStatement Q 224 [vR 45, vI v1, vI v2, vI v3, vX 2] [] g := by
  refine wp_iload_n dX8_readStatement_224 rfl ?_
  refine wp_bipush dX8_readStatement_225 kb_117 kc_117 ?_
  exact wp_icmp_eq (tgt := 251) dX8_readStatement_227 rfl k1 k2
theorem b_X8_readStatement_230 {d : Nat} {Q : Option pV → pG → Prop} {g : pG} {v1 v2 v3 : Int} (k1 : (v2 ≠ 115) → EV d mX8_readStatement Q 246 [vR 45, vI v1, vI v2, vI v3, vX 2] [vR 45, vI v3, vR 55] g) (k2 : ¬ (v2 ≠ 115) → EV d mX8_readStatement Q 242 [vR 45, vI v1, vI v2, vI v3, vX 2] [vR 45, vI v3, vR 55] g) : EV d mX8_readStatement Q 230 [vR 45, vI v1, vI v2, vI v3, vX 2] [] g := by
  refine wp_aload_n dX8_readStatement_230 rfl rfl ?_
  refine wp_get (v := vR 55) dX8_readStatement_231 fl_8_47 L_45 rfl ?_
  refine wp_iload_n dX8_readStatement_234 rfl ?_
  refine wp_aload_n dX8_readStatement_235 rfl rfl ?_
  refine wp_iload_n dX8_readStatement_236 rfl ?_
  refine wp_bipush dX8_readStatement_237 kb_115 kc_115 ?_
  exact wp_icmp_ne (tgt := 246) dX8_readStatement_239 rfl k1 k2
theorem b_X8_readStatement_242 {d : Nat} {Q : Option pV → pG → Prop} {g : pG} {v1 v2 v3 vs1 : Int} {R : Int → pG → Prop} (hc : CT d mX8_readDigits [vR 45, vI 3] g (qI R)) (k : ∀ (x : Int) (gg : pG), R x gg → EV d mX8_readStatement Q 250 [vR 45, vI v1, vI v2, vI v3, vX 2] [vI x, vI vs1, vR 55] gg) : EV d mX8_readStatement Q 242 [vR 45, vI v1, vI v2, vI v3, vX 2] [vR 45, vI vs1, vR 55] g := by
  refine wp_iconst dX8_readStatement_242 kc_3 ?_
  refine wp_goto (tgt := 247) dX8_readStatement_243 rfl ?_
  exact wp_callvI (As := [vI 3]) dX8_readStatement_247 ml_8_190 (by decide) rfl L_45 (by decide) rfl (Nat.le_of_ble_eq_true rfl) rfl (Nat.le_refl _) (Nat.le_refl _) hc k
theorem b_X8_readStatement_246 {d : Nat} {Q : Option pV → pG → Prop} {g : pG} {v1 v2 v3 vs1 : Int} {R : Int → pG → Prop} (hc : CT d mX8_readDigits [vR 45, vI 1] g (qI R)) (k : ∀ (x : Int) (gg : pG), R x gg → EV d mX8_readStatement Q 250 [vR 45, vI v1, vI v2, vI v3, vX 2] [vI x, vI vs1, vR 55] gg) : EV d mX8_readStatement Q 246 [vR 45, vI v1, vI v2, vI v3, vX 2] [vR 45, vI vs1, vR 55] g := by
  refine wp_iconst dX8_readStatement_246 kc_1 ?_
  exact wp_callvI (As := [vI 1]) dX8_readStatement_247 ml_8_190 (by decide) rfl L_45 (by decide) rfl (Nat.le_of_ble_eq_true rfl) rfl (Nat.le_refl _) (Nat.le_refl _) hc k
theorem b_X8_readStatement_250 {d : Nat} {Q : Option pV → pG → Prop} {g : pG} {v1 v2 v3 vs1 vs2 : Int} (h1 : 0 ≤ vs1) (h2 : vs1 < 147) (k1 : ((g 45) 15 ≠ 0) → EV d mX8_readStatement Q 268 [vR 45, vI v1, vI v2, vI v3, vX 2] [vR 45] (cset g 55 (fup (g 55) vs1.toNat vs2))) (k2 : ¬ ((g 45) 15 ≠ 0) → EV d mX8_readStatement Q 259 [vR 45, vI v1, vI v2, vI v3, vX 2] [vR 45] (cset g 55 (fup (g 55) vs1.toNat vs2))) : EV d mX8_readStatement Q 250 [vR 45, vI v1, vI v2, vI v3, vX 2] [vI vs2, vI vs1, vR 55] g := by
  refine wp_iastore dX8_readStatement_250 h1 L_55 h2 ?_
  refine wp_aload_n dX8_readStatement_251 rfl rfl ?_
  refine wp_aload_n dX8_readStatement_252 rfl rfl ?_
  refine wp_get (v := vI ((g 45) 15)) dX8_readStatement_253 fl_8_173 L_45 rfl ?_
  exact wp_if_ne (tgt := 268) dX8_readStatement_256 rfl k1 k2
theorem b_X8_readStatement_251 {d : Nat} {Q : Option pV → pG → Prop} {g : pG} {v1 v2 v3 : Int} (k1 : ((g 45) 15 ≠ 0) → EV d mX8_readStatement Q 268 [vR 45, vI v1, vI v2, vI v3, vX 2] [vR 45] g) (k2 : ¬ ((g 45) 15 ≠ 0) → EV d mX8_readStatement Q 259 [vR 45, vI v1, vI v2, vI v3, vX 2] [vR 45] g) : EV d mX8_readStatement Q 251 [vR 45, vI v1, vI v2, vI v3, vX 2] [] g := by
  refine wp_aload_n dX8_readStatement_251 rfl rfl ?_
  refine wp_aload_n dX8_readStatement_252 rfl rfl ?_
  refine wp_get (v := vI ((g 45) 15)) dX8_readStatement_253 fl_8_173 L_45 rfl ?_
  exact wp_if_ne (tgt := 268) dX8_readStatement_256 rfl k1 k2
theorem b_X8_readStatement_259 {d : Nat} {Q : Option pV → pG → Prop} {g : pG} {v1 v2 v3 : Int} {u4 : pV} {R : Int → pG → Prop} (hc : CT d mX8_here [vR 45] g (qI R)) (k : ∀ (x : Int) (gg : pG), R x gg → EV d mX8_readStatement Q 263 [vR 45, vI v1, vI v2, vI v3, u4] [vI x, vR 45] gg) : EV d mX8_readStatement Q 259 [vR 45, vI v1, vI v2, vI v3, u4] [vR 45] g := by
  refine wp_aload_n dX8_readStatement_259 rfl rfl ?_
  exact wp_callvI (As := []) dX8_readStatement_260 ml_8_177 (by decide) rfl L_45 (by decide) rfl (Nat.le_of_ble_eq_true rfl) rfl (Nat.le_refl _) (Nat.le_refl _) hc k
theorem b_X8_readStatement_263 {d : Nat} {Q : Option pV → pG → Prop} {g : pG} {v1 v2 v3 vs1 : Int} {u4 : pV} (k1 : (vs1 = 59) → EV d mX8_readStatement Q 272 [vR 45, vI v1, vI v2, vI v3, u4] [vR 45] g) (k2 : ¬ (vs1 = 59) → EV d mX8_readStatement Q 268 [vR 45, vI v1, vI v2, vI v3, u4] [vR 45] g) : EV d mX8_readStatement Q 263 [vR 45, vI v1, vI v2, vI v3, u4] [vI vs1, vR 45] g := by
  refine wp_bipush dX8_readStatement_263 kb_59 kc_59 ?_
  exact wp_icmp_eq (tgt := 272) dX8_readStatement_265 rfl k1 k2
theorem b_X8_readStatement_268 {d : Nat} {Q : Option pV → pG → Prop} {g : pG} {v1 v2 v3 : Int} {u4 : pV} (k1 : ((fup (g 45) 15 1) 15 = 0) → EV d mX8_readStatement Q 292 [vR 45, vI v1, vI v2, vI v3, u4] [vI ((fup (g 45) 15 1) 14), vR 45] (cset g 45 (fup (g 45) 15 1))) (k2 : ¬ ((fup (g 45) 15 1) 15 = 0) → EV d mX8_readStatement Q 288 [vR 45, vI v1, vI v2, vI v3, u4] [vI ((fup (g 45) 15 1) 14), vR 45] (cset g 45 (fup (g 45) 15 1))) : EV d mX8_readStatement Q 268 [vR 45, vI v1, vI v2, vI v3, u4] [vR 45] g := by
  refine wp_iconst dX8_readStatement_268 kc_1 ?_
  refine wp_goto (tgt := 273) dX8_readStatement_269 rfl ?_
  refine wp_putZ dX8_readStatement_273 fl_8_173 L_45 rfl rfl (Or.inr rfl) ?_
  refine wp_aload_n dX8_readStatement_276 rfl rfl ?_
  refine wp_dup dX8_readStatement_277 rfl ?_
  refine wp_get (v := vI ((fup (g 45) 15 1) 14)) dX8_readStatement_278 fl_8_170 L_45 rfl ?_
  refine wp_aload_n dX8_readStatement_281 rfl rfl ?_
  refine wp_get (v := vI ((fup (g 45) 15 1) 15)) dX8_readStatement_282 fl_8_173 L_45 rfl ?_
  exact wp_if_eq (tgt := 292) dX8_readStatement_285 rfl k1 k2
theorem b_X8_readStatement_272 {d : Nat} {Q : Option pV → pG → Prop} {g : pG} {v1 v2 v3 : Int} {u4 : pV} (k1 : ((fup (g 45) 15 0) 15 = 0) → EV d mX8_readStatement Q 292 [vR 45, vI v1, vI v2, vI v3, u4] [vI ((fup (g 45) 15 0) 14), vR 45] (cset g 45 (fup (g 45) 15 0))) (k2 : ¬ ((fup (g 45) 15 0) 15 = 0) → EV d mX8_readStatement Q 288 [vR 45, vI v1, vI v2, vI v3, u4] [vI ((fup (g 45) 15 0) 14), vR 45] (cset g 45 (fup (g 45) 15 0))) : EV d mX8_readStatement Q 272 [vR 45, vI v1, vI v2, vI v3, u4] [vR 45] g := by
  refine wp_iconst dX8_readStatement_272 kc_0 ?_
  refine wp_putZ dX8_readStatement_273 fl_8_173 L_45 rfl rfl (Or.inl rfl) ?_
  refine wp_aload_n dX8_readStatement_276 rfl rfl ?_
  refine wp_dup dX8_readStatement_277 rfl ?_
  refine wp_get (v := vI ((fup (g 45) 15 0) 14)) dX8_readStatement_278 fl_8_170 L_45 rfl ?_
  refine wp_aload_n dX8_readStatement_281 rfl rfl ?_
  refine wp_get (v := vI ((fup (g 45) 15 0) 15)) dX8_readStatement_282 fl_8_173 L_45 rfl ?_
  exact wp_if_eq (tgt := 292) dX8_readStatement_285 rfl k1 k2
theorem b_X8_readStatement_288 {d : Nat} {Q : Option pV → pG → Prop} {g : pG} {v1 v2 v3 vs1 : Int} {u4 : pV} (hq : Q none (cset (cset g 45 (fup (g 45) 14 (w32 (vs1 + 0)))) 45 (fup (fup (g 45) 14 (w32 (vs1 + 0))) 16 (w32 (((fup (g 45) 14 (w32 (vs1 + 0))) 16) + 1))))) : EV d mX8_readStatement Q 288 [vR 45, vI v1, vI v2, vI v3, u4] [vI vs1, vR 45] g := by
  refine wp_iconst dX8_readStatement_288 kc_0 ?_
  refine wp_goto (tgt := 293) dX8_readStatement_289 rfl ?_
  refine wp_iadd dX8_readStatement_293 ?_
  refine wp_putI dX8_readStatement_294 fl_8_170 L_45 rfl rfl ?_
  refine wp_aload_n dX8_readStatement_297 rfl rfl ?_
  refine wp_dup dX8_readStatement_298 rfl ?_
  refine wp_get (v := vI ((fup (g 45) 14 (w32 (vs1 + 0))) 16)) dX8_readStatement_299 fl_8_184 L_45 rfl ?_
  refine wp_iconst dX8_readStatement_302 kc_1 ?_
  refine wp_iadd dX8_readStatement_303 ?_
  refine wp_putI dX8_readStatement_304 fl_8_184 L_45 rfl rfl ?_
  exact wp_vret dX8_readStatement_307 rfl hq
theorem b_X8_readStatement_292 {d : Nat} {Q : Option pV → pG → Prop} {g : pG} {v1 v2 v3 vs1 : Int} {u4 : pV} (hq : Q none (cset (cset g 45 (fup (g 45) 14 (w32 (vs1 + 1)))) 45 (fup (fup (g 45) 14 (w32 (vs1 + 1))) 16 (w32 (((fup (g 45) 14 (w32 (vs1 + 1))) 16) + 1))))) : EV d mX8_readStatement Q 292 [vR 45, vI v1, vI v2, vI v3, u4] [vI vs1, vR 45] g := by
  refine wp_iconst dX8_readStatement_292 kc_1 ?_
  refine wp_iadd dX8_readStatement_293 ?_
  refine wp_putI dX8_readStatement_294 fl_8_170 L_45 rfl rfl ?_
  refine wp_aload_n dX8_readStatement_297 rfl rfl ?_
  refine wp_dup dX8_readStatement_298 rfl ?_
  refine wp_get (v := vI ((fup (g 45) 14 (w32 (vs1 + 1))) 16)) dX8_readStatement_299 fl_8_184 L_45 rfl ?_
  refine wp_iconst dX8_readStatement_302 kc_1 ?_
  refine wp_iadd dX8_readStatement_303 ?_
  refine wp_putI dX8_readStatement_304 fl_8_184 L_45 rfl rfl ?_
  exact wp_vret dX8_readStatement_307 rfl hq
theorem b_X8_here_0 {d : Nat} {Q : Option pV → pG → Prop} {g : pG} (k1 : ((g 45) 13 ≤ (g 45) 14) → EV d mX8_here Q 23 [vR 45] [] g) (k2 : ¬ ((g 45) 13 ≤ (g 45) 14) → EV d mX8_here Q 11 [vR 45] [] g) : EV d mX8_here Q 0 [vR 45] [] g := by
  refine wp_aload_n dX8_here_0 rfl rfl ?_
  refine wp_get (v := vI ((g 45) 14)) dX8_here_1 fl_8_170 L_45 rfl ?_
  refine wp_aload_n dX8_here_4 rfl rfl ?_
  refine wp_get (v := vI ((g 45) 13)) dX8_here_5 fl_8_167 L_45 rfl ?_
  exact wp_icmp_ge (tgt := 23) dX8_here_8 rfl k1 k2
theorem b_X8_here_11 {d : Nat} {Q : Option pV → pG → Prop} {g : pG} (h1 : 0 ≤ (g 45) 14) (h2 : (g 45) 14 < 96) (hq : Q (some (vI ((g 52) ((g 45) 14).toNat))) g) : EV d mX8_here Q 11 [vR 45] [] g := by
  refine wp_aload_n dX8_here_11 rfl rfl ?_
  refine wp_get (v := vR 52) dX8_here_12 fl_8_38 L_45 rfl ?_
  refine wp_aload_n dX8_here_15 rfl rfl ?_
  refine wp_get (v := vI ((g 45) 14)) dX8_here_16 fl_8_170 L_45 rfl ?_
  refine wp_iaload dX8_here_19 h1 L_52 h2 ?_
  refine wp_goto (tgt := 24) dX8_here_20 rfl ?_
  exact wp_iret dX8_here_24 rfl hq
theorem b_X8_here_23 {d : Nat} {Q : Option pV → pG → Prop} {g : pG} (hq : Q (some (vI (-1))) g) : EV d mX8_here Q 23 [vR 45] [] g := by
  refine wp_iconst dX8_here_23 kc_m1 ?_
  exact wp_iret dX8_here_24 rfl hq
theorem b_X8_isLetter_0 {d : Nat} {Q : Option pV → pG → Prop} {g : pG} {v0 : Int} (k1 : (v0 = 99) → EV d mX8_isLetter Q 36 [vI v0] [] g) (k2 : ¬ (v0 = 99) → EV d mX8_isLetter Q 6 [vI v0] [] g) : EV d mX8_isLetter Q 0 [vI v0] [] g := by
  refine wp_iload_n dX8_isLetter_0 rfl ?_
  refine wp_bipush dX8_isLetter_1 kb_99 kc_99 ?_
  exact wp_icmp_eq (tgt := 36) dX8_isLetter_3 rfl k1 k2
theorem b_X8_isLetter_6 {d : Nat} {Q : Option pV → pG → Prop} {g : pG} {v0 : Int} (k1 : (v0 = 110) → EV d mX8_isLetter Q 36 [vI v0] [] g) (k2 : ¬ (v0 = 110) → EV d mX8_isLetter Q 12 [vI v0] [] g) : EV d mX8_isLetter Q 6 [vI v0] [] g := by
  refine wp_iload_n dX8_isLetter_6 rfl ?_
  refine wp_bipush dX8_isLetter_7 kb_110 kc_110 ?_
  exact wp_icmp_eq (tgt := 36) dX8_isLetter_9 rfl k1 k2
theorem b_X8_isLetter_12 {d : Nat} {Q : Option pV → pG → Prop} {g : pG} {v0 : Int} (k1 : (v0 = 112) → EV d mX8_isLetter Q 36 [vI v0] [] g) (k2 : ¬ (v0 = 112) → EV d mX8_isLetter Q 18 [vI v0] [] g) : EV d mX8_isLetter Q 12 [vI v0] [] g := by
  refine wp_iload_n dX8_isLetter_12 rfl ?_
  refine wp_bipush dX8_isLetter_13 kb_112 kc_112 ?_
  exact wp_icmp_eq (tgt := 36) dX8_isLetter_15 rfl k1 k2
theorem b_X8_isLetter_18 {d : Nat} {Q : Option pV → pG → Prop} {g : pG} {v0 : Int} (k1 : (v0 = 115) → EV d mX8_isLetter Q 36 [vI v0] [] g) (k2 : ¬ (v0 = 115) → EV d mX8_isLetter Q 24 [vI v0] [] g) : EV d mX8_isLetter Q 18 [vI v0] [] g := by
  refine wp_iload_n dX8_isLetter_18 rfl ?_
  refine wp_bipush dX8_isLetter_19 kb_115 kc_115 ?_
  exact wp_icmp_eq (tgt := 36) dX8_isLetter_21 rfl k1 k2
theorem b_X8_isLetter_24 {d : Nat} {Q : Option pV → pG → Prop} {g : pG} {v0 : Int} (k1 : (v0 = 108) → EV d mX8_isLetter Q 36 [vI v0] [] g) (k2 : ¬ (v0 = 108) → EV d mX8_isLetter Q 30 [vI v0] [] g) : EV d mX8_isLetter Q 24 [vI v0] [] g := by
  refine wp_iload_n dX8_isLetter_24 rfl ?_
  refine wp_bipush dX8_isLetter_25 kb_108 kc_108 ?_
  exact wp_icmp_eq (tgt := 36) dX8_isLetter_27 rfl k1 k2
theorem b_X8_isLetter_30 {d : Nat} {Q : Option pV → pG → Prop} {g : pG} {v0 : Int} (k1 : (v0 ≠ 117) → EV d mX8_isLetter Q 40 [vI v0] [] g) (k2 : ¬ (v0 ≠ 117) → EV d mX8_isLetter Q 36 [vI v0] [] g) : EV d mX8_isLetter Q 30 [vI v0] [] g := by
  refine wp_iload_n dX8_isLetter_30 rfl ?_
  refine wp_bipush dX8_isLetter_31 kb_117 kc_117 ?_
  exact wp_icmp_ne (tgt := 40) dX8_isLetter_33 rfl k1 k2
theorem b_X8_isLetter_36 {d : Nat} {Q : Option pV → pG → Prop} {g : pG} {v0 : Int} (hq : Q (some (vI 1)) g) : EV d mX8_isLetter Q 36 [vI v0] [] g := by
  refine wp_iconst dX8_isLetter_36 kc_1 ?_
  refine wp_goto (tgt := 41) dX8_isLetter_37 rfl ?_
  exact wp_zret dX8_isLetter_41 rfl (Or.inr rfl) hq
theorem b_X8_isLetter_40 {d : Nat} {Q : Option pV → pG → Prop} {g : pG} {v0 : Int} (hq : Q (some (vI 0)) g) : EV d mX8_isLetter Q 40 [vI v0] [] g := by
  refine wp_iconst dX8_isLetter_40 kc_0 ?_
  exact wp_zret dX8_isLetter_41 rfl (Or.inl rfl) hq
theorem b_X8_readDigits_0 {d : Nat} {Q : Option pV → pG → Prop} {g : pG} {v1 : Int} (k : EV d mX8_readDigits Q 4 [vR 45, vI v1, vI 0, vI 0] [] g) : EV d mX8_readDigits Q 0 [vR 45, vI v1, vX 2, vX 2] [] g := by
  refine wp_iconst dX8_readDigits_0 kc_0 ?_
  refine wp_istore_n dX8_readDigits_1 (Nat.le_of_ble_eq_true rfl) (pp (c := 1) rfl rfl) ?_
  refine wp_iconst dX8_readDigits_2 kc_0 ?_
  refine wp_istore_n dX8_readDigits_3 (Nat.le_of_ble_eq_true rfl) (pp (c := 2) rfl rfl) ?_
  exact k
theorem b_X8_readDigits_4 {d : Nat} {Q : Option pV → pG → Prop} {g : pG} {v1 v2 v3 : Int} (k1 : (v1 ≤ v3) → EV d mX8_readDigits Q 98 [vR 45, vI v1, vI v2, vI v3] [] g) (k2 : ¬ (v1 ≤ v3) → EV d mX8_readDigits Q 9 [vR 45, vI v1, vI v2, vI v3] [] g) : EV d mX8_readDigits Q 4 [vR 45, vI v1, vI v2, vI v3] [] g := by
  refine wp_iload_n dX8_readDigits_4 rfl ?_
  refine wp_iload_n dX8_readDigits_5 rfl ?_
  exact wp_icmp_ge (tgt := 98) dX8_readDigits_6 rfl k1 k2
theorem b_X8_readDigits_9 {d : Nat} {Q : Option pV → pG → Prop} {g : pG} {v1 v2 v3 : Int} (k1 : ((g 45) 15 ≠ 0) → EV d mX8_readDigits Q 34 [vR 45, vI v1, vI v2, vI v3] [vR 45] g) (k2 : ¬ ((g 45) 15 ≠ 0) → EV d mX8_readDigits Q 17 [vR 45, vI v1, vI v2, vI v3] [vR 45] g) : EV d mX8_readDigits Q 9 [vR 45, vI v1, vI v2, vI v3] [] g := by
  refine wp_aload_n dX8_readDigits_9 rfl rfl ?_
  refine wp_aload_n dX8_readDigits_10 rfl rfl ?_
  refine wp_get (v := vI ((g 45) 15)) dX8_readDigits_11 fl_8_173 L_45 rfl ?_
  exact wp_if_ne (tgt := 34) dX8_readDigits_14 rfl k1 k2
theorem b_X8_readDigits_17 {d : Nat} {Q : Option pV → pG → Prop} {g : pG} {v1 v2 v3 : Int} {R : Int → pG → Prop} (hc : CT d mX8_here [vR 45] g (qI R)) (k : ∀ (x : Int) (gg : pG), R x gg → EV d mX8_readDigits Q 21 [vR 45, vI v1, vI v2, vI v3] [vI x, vR 45] gg) : EV d mX8_readDigits Q 17 [vR 45, vI v1, vI v2, vI v3] [vR 45] g := by
  refine wp_aload_n dX8_readDigits_17 rfl rfl ?_
  exact wp_callvI (As := []) dX8_readDigits_18 ml_8_177 (by decide) rfl L_45 (by decide) rfl (Nat.le_of_ble_eq_true rfl) rfl (Nat.le_refl _) (Nat.le_refl _) hc k
theorem b_X8_readDigits_21 {d : Nat} {Q : Option pV → pG → Prop} {g : pG} {v1 v2 v3 vs1 : Int} {R : Int → pG → Prop} (hc : CT d mX8_in [vL vs1, vL 48, vL 57] g (qI R)) (k : ∀ (x : Int) (gg : pG), R x gg → EV d mX8_readDigits Q 31 [vR 45, vI v1, vI v2, vI v3] [vI x, vR 45] gg) : EV d mX8_readDigits Q 21 [vR 45, vI v1, vI v2, vI v3] [vI vs1, vR 45] g := by
  refine wp_i2l dX8_readDigits_21 ?_
  refine wp_ldc2_w dX8_readDigits_22 k2_8_180 ?_
  refine wp_ldc2_w dX8_readDigits_25 k2_8_182 ?_
  exact wp_callsI (As := [vL vs1, vL 48, vL 57]) dX8_readDigits_28 ml_8_111 (Or.inl rfl) rfl (Nat.le_of_ble_eq_true rfl) rfl (Nat.le_refl _) (Nat.le_refl _) hc k
theorem b_X8_readDigits_31 {d : Nat} {Q : Option pV → pG → Prop} {g : pG} {v1 v2 v3 vs1 : Int} (k1 : (vs1 ≠ 0) → EV d mX8_readDigits Q 38 [vR 45, vI v1, vI v2, vI v3] [vR 45] g) (k2 : ¬ (vs1 ≠ 0) → EV d mX8_readDigits Q 34 [vR 45, vI v1, vI v2, vI v3] [vR 45] g) : EV d mX8_readDigits Q 31 [vR 45, vI v1, vI v2, vI v3] [vI vs1, vR 45] g := by
  exact wp_if_ne (tgt := 38) dX8_readDigits_31 rfl k1 k2
theorem b_X8_readDigits_34 {d : Nat} {Q : Option pV → pG → Prop} {g : pG} {v1 v2 v3 : Int} (k1 : ((fup (g 45) 15 1) 15 = 0) → EV d mX8_readDigits Q 53 [vR 45, vI v1, vI v2, vI v3] [] (cset g 45 (fup (g 45) 15 1))) (k2 : ¬ ((fup (g 45) 15 1) 15 = 0) → EV d mX8_readDigits Q 49 [vR 45, vI v1, vI v2, vI v3] [] (cset g 45 (fup (g 45) 15 1))) : EV d mX8_readDigits Q 34 [vR 45, vI v1, vI v2, vI v3] [vR 45] g := by
  refine wp_iconst dX8_readDigits_34 kc_1 ?_
  refine wp_goto (tgt := 39) dX8_readDigits_35 rfl ?_
  refine wp_putZ dX8_readDigits_39 fl_8_173 L_45 rfl rfl (Or.inr rfl) ?_
  refine wp_aload_n dX8_readDigits_42 rfl rfl ?_
  refine wp_get (v := vI ((fup (g 45) 15 1) 15)) dX8_readDigits_43 fl_8_173 L_45 rfl ?_
  exact wp_if_eq (tgt := 53) dX8_readDigits_46 rfl k1 k2
theorem b_X8_readDigits_38 {d : Nat} {Q : Option pV → pG → Prop} {g : pG} {v1 v2 v3 : Int} (k1 : ((fup (g 45) 15 0) 15 = 0) → EV d mX8_readDigits Q 53 [vR 45, vI v1, vI v2, vI v3] [] (cset g 45 (fup (g 45) 15 0))) (k2 : ¬ ((fup (g 45) 15 0) 15 = 0) → EV d mX8_readDigits Q 49 [vR 45, vI v1, vI v2, vI v3] [] (cset g 45 (fup (g 45) 15 0))) : EV d mX8_readDigits Q 38 [vR 45, vI v1, vI v2, vI v3] [vR 45] g := by
  refine wp_iconst dX8_readDigits_38 kc_0 ?_
  refine wp_putZ dX8_readDigits_39 fl_8_173 L_45 rfl rfl (Or.inl rfl) ?_
  refine wp_aload_n dX8_readDigits_42 rfl rfl ?_
  refine wp_get (v := vI ((fup (g 45) 15 0) 15)) dX8_readDigits_43 fl_8_173 L_45 rfl ?_
  exact wp_if_eq (tgt := 53) dX8_readDigits_46 rfl k1 k2
theorem b_X8_readDigits_49 {d : Nat} {Q : Option pV → pG → Prop} {g : pG} {v1 v2 v3 : Int} (k1 : ((g 45) 15 = 0) → EV d mX8_readDigits Q 87 [vR 45, vI v1, vI 0, vI v3] [vI ((g 45) 14), vR 45] g) (k2 : ¬ ((g 45) 15 = 0) → EV d mX8_readDigits Q 83 [vR 45, vI v1, vI 0, vI v3] [vI ((g 45) 14), vR 45] g) : EV d mX8_readDigits Q 49 [vR 45, vI v1, vI v2, vI v3] [] g := by
  refine wp_iconst dX8_readDigits_49 kc_0 ?_
  refine wp_goto (tgt := 70) dX8_readDigits_50 rfl ?_
  refine wp_istore_n dX8_readDigits_70 (Nat.le_of_ble_eq_true rfl) (pp (c := 1) rfl rfl) ?_
  refine wp_aload_n dX8_readDigits_71 rfl rfl ?_
  refine wp_dup dX8_readDigits_72 rfl ?_
  refine wp_get (v := vI ((g 45) 14)) dX8_readDigits_73 fl_8_170 L_45 rfl ?_
  refine wp_aload_n dX8_readDigits_76 rfl rfl ?_
  refine wp_get (v := vI ((g 45) 15)) dX8_readDigits_77 fl_8_173 L_45 rfl ?_
  exact wp_if_eq (tgt := 87) dX8_readDigits_80 rfl k1 k2
theorem b_X8_readDigits_53 {d : Nat} {Q : Option pV → pG → Prop} {g : pG} {v1 v2 v3 : Int} (h1 : 0 ≤ (g 45) 14) (h2 : (g 45) 14 < 96) (k1 : ((g 45) 15 = 0) → EV d mX8_readDigits Q 87 [vR 45, vI v1, vI (w32 ((w32 ((w32 (10 * v2)) + ((g 52) ((g 45) 14).toNat))) - 48)), vI v3] [vI ((g 45) 14), vR 45] g) (k2 : ¬ ((g 45) 15 = 0) → EV d mX8_readDigits Q 83 [vR 45, vI v1, vI (w32 ((w32 ((w32 (10 * v2)) + ((g 52) ((g 45) 14).toNat))) - 48)), vI v3] [vI ((g 45) 14), vR 45] g) : EV d mX8_readDigits Q 53 [vR 45, vI v1, vI v2, vI v3] [] g := by
  refine wp_bipush dX8_readDigits_53 kb_10 kc_10 ?_
  refine wp_iload_n dX8_readDigits_55 rfl ?_
  refine wp_imul dX8_readDigits_56 ?_
  refine wp_aload_n dX8_readDigits_57 rfl rfl ?_
  refine wp_get (v := vR 52) dX8_readDigits_58 fl_8_38 L_45 rfl ?_
  refine wp_aload_n dX8_readDigits_61 rfl rfl ?_
  refine wp_get (v := vI ((g 45) 14)) dX8_readDigits_62 fl_8_170 L_45 rfl ?_
  refine wp_iaload dX8_readDigits_65 h1 L_52 h2 ?_
  refine wp_iadd dX8_readDigits_66 ?_
  refine wp_bipush dX8_readDigits_67 kb_48 kc_48 ?_
  refine wp_isub dX8_readDigits_69 ?_
  refine wp_istore_n dX8_readDigits_70 (Nat.le_of_ble_eq_true rfl) (pp (c := 1) rfl rfl) ?_
  refine wp_aload_n dX8_readDigits_71 rfl rfl ?_
  refine wp_dup dX8_readDigits_72 rfl ?_
  refine wp_get (v := vI ((g 45) 14)) dX8_readDigits_73 fl_8_170 L_45 rfl ?_
  refine wp_aload_n dX8_readDigits_76 rfl rfl ?_
  refine wp_get (v := vI ((g 45) 15)) dX8_readDigits_77 fl_8_173 L_45 rfl ?_
  exact wp_if_eq (tgt := 87) dX8_readDigits_80 rfl k1 k2
theorem b_X8_readDigits_83 {d : Nat} {Q : Option pV → pG → Prop} {g : pG} {v1 v2 v3 vs1 : Int} (k : EV d mX8_readDigits Q 4 [vR 45, vI v1, vI v2, vI (w32 (v3 + 1))] [] (cset g 45 (fup (g 45) 14 (w32 (vs1 + 0))))) : EV d mX8_readDigits Q 83 [vR 45, vI v1, vI v2, vI v3] [vI vs1, vR 45] g := by
  refine wp_iconst dX8_readDigits_83 kc_0 ?_
  refine wp_goto (tgt := 88) dX8_readDigits_84 rfl ?_
  refine wp_iadd dX8_readDigits_88 ?_
  refine wp_putI dX8_readDigits_89 fl_8_170 L_45 rfl rfl ?_
  refine wp_iinc dX8_readDigits_92 rfl (Nat.le_of_ble_eq_true rfl) (pp (c := 2) rfl rfl) ?_
  refine wp_goto (tgt := 4) dX8_readDigits_95 rfl ?_
  exact k
theorem b_X8_readDigits_87 {d : Nat} {Q : Option pV → pG → Prop} {g : pG} {v1 v2 v3 vs1 : Int} (k : EV d mX8_readDigits Q 4 [vR 45, vI v1, vI v2, vI (w32 (v3 + 1))] [] (cset g 45 (fup (g 45) 14 (w32 (vs1 + 1))))) : EV d mX8_readDigits Q 87 [vR 45, vI v1, vI v2, vI v3] [vI vs1, vR 45] g := by
  refine wp_iconst dX8_readDigits_87 kc_1 ?_
  refine wp_iadd dX8_readDigits_88 ?_
  refine wp_putI dX8_readDigits_89 fl_8_170 L_45 rfl rfl ?_
  refine wp_iinc dX8_readDigits_92 rfl (Nat.le_of_ble_eq_true rfl) (pp (c := 2) rfl rfl) ?_
  refine wp_goto (tgt := 4) dX8_readDigits_95 rfl ?_
  exact k
theorem b_X8_readDigits_98 {d : Nat} {Q : Option pV → pG → Prop} {g : pG} {v1 v2 v3 : Int} (hq : Q (some (vI v2)) g) : EV d mX8_readDigits Q 98 [vR 45, vI v1, vI v2, vI v3] [] g := by
  refine wp_iload_n dX8_readDigits_98 rfl ?_
  exact wp_iret dX8_readDigits_99 rfl hq
theorem b_X8_in_0 {d : Nat} {Q : Option pV → pG → Prop} {g : pG} {l0 l2 l4 : Int} (k1 : (lcmpZ l0 l2 < 0) → EV d mX8_in Q 17 [vL l0, vX 2, vL l2, vX 2, vL l4, vX 2] [] g) (k2 : ¬ (lcmpZ l0 l2 < 0) → EV d mX8_in Q 6 [vL l0, vX 2, vL l2, vX 2, vL l4, vX 2] [] g) : EV d mX8_in Q 0 [vL l0, vX 2, vL l2, vX 2, vL l4, vX 2] [] g := by
  refine wp_lload_n dX8_in_0 rfl ?_
  refine wp_lload_n dX8_in_1 rfl ?_
  refine wp_lcmp dX8_in_2 ?_
  exact wp_if_lt (tgt := 17) dX8_in_3 rfl k1 k2
theorem b_X8_in_6 {d : Nat} {Q : Option pV → pG → Prop} {g : pG} {l0 l2 l4 : Int} (k1 : (0 < lcmpZ l0 l4) → EV d mX8_in Q 17 [vL l0, vX 2, vL l2, vX 2, vL l4, vX 2] [] g) (k2 : ¬ (0 < lcmpZ l0 l4) → EV d mX8_in Q 13 [vL l0, vX 2, vL l2, vX 2, vL l4, vX 2] [] g) : EV d mX8_in Q 6 [vL l0, vX 2, vL l2, vX 2, vL l4, vX 2] [] g := by
  refine wp_lload_n dX8_in_6 rfl ?_
  refine wp_lload dX8_in_7 rfl ?_
  refine wp_lcmp dX8_in_9 ?_
  exact wp_if_gt (tgt := 17) dX8_in_10 rfl k1 k2
theorem b_X8_in_13 {d : Nat} {Q : Option pV → pG → Prop} {g : pG} {l0 l2 l4 : Int} (hq : Q (some (vI 1)) g) : EV d mX8_in Q 13 [vL l0, vX 2, vL l2, vX 2, vL l4, vX 2] [] g := by
  refine wp_iconst dX8_in_13 kc_1 ?_
  refine wp_goto (tgt := 18) dX8_in_14 rfl ?_
  exact wp_zret dX8_in_18 rfl (Or.inr rfl) hq
theorem b_X8_in_17 {d : Nat} {Q : Option pV → pG → Prop} {g : pG} {l0 l2 l4 : Int} (hq : Q (some (vI 0)) g) : EV d mX8_in Q 17 [vL l0, vX 2, vL l2, vX 2, vL l4, vX 2] [] g := by
  refine wp_iconst dX8_in_17 kc_0 ?_
  exact wp_zret dX8_in_18 rfl (Or.inl rfl) hq
theorem b_X8_carryAll_0 {d : Nat} {Q : Option pV → pG → Prop} {g : pG} {r : Nat} {v2 : Int} (hr : LAY[r]? = some (20, [33])) {R : Int → pG → Prop} (h1 : v2 = 0 ∨ v2 = 1) (hc : CT d mX8_carry [vR 45, vI ((fup (fup (fup (g 45) 25 ((r + 1 : Nat) : Int)) 24 v2) 23 0) 0)] (cset (cset (cset g 45 (fup (g 45) 25 ((r + 1 : Nat) : Int))) 45 (fup (fup (g 45) 25 ((r + 1 : Nat) : Int)) 24 v2)) 45 (fup (fup (fup (g 45) 25 ((r + 1 : Nat) : Int)) 24 v2) 23 0)) (qI R)) (k : ∀ (x : Int) (gg : pG), R x gg → EV d mX8_carryAll Q 24 [vR 45, vR r, vI v2, vX 2] [vI x, vR 45] gg) : EV d mX8_carryAll Q 0 [vR 45, vR r, vI v2, vX 2] [] g := by
  refine wp_aload_n dX8_carryAll_0 rfl rfl ?_
  refine wp_aload_n dX8_carryAll_1 rfl rfl ?_
  refine wp_putD dX8_carryAll_2 fl_8_218 L_45 rfl rfl ?_
  refine wp_aload_n dX8_carryAll_5 rfl rfl ?_
  refine wp_iload_n dX8_carryAll_6 rfl ?_
  refine wp_putZ dX8_carryAll_7 fl_8_215 L_45 rfl rfl h1 ?_
  refine wp_aload_n dX8_carryAll_10 rfl rfl ?_
  refine wp_iconst dX8_carryAll_11 kc_0 ?_
  refine wp_putI dX8_carryAll_12 fl_8_221 L_45 rfl rfl ?_
  refine wp_aload_n dX8_carryAll_15 rfl rfl ?_
  refine wp_aload_n dX8_carryAll_16 rfl rfl ?_
  refine wp_aload_n dX8_carryAll_17 rfl rfl ?_
  refine wp_get (v := vI ((fup (fup (fup (g 45) 25 ((r + 1 : Nat) : Int)) 24 v2) 23 0) 0)) dX8_carryAll_18 fl_8_108 L_45 rfl ?_
  exact wp_callvI (As := [vI ((fup (fup (fup (g 45) 25 ((r + 1 : Nat) : Int)) 24 v2) 23 0) 0)]) dX8_carryAll_21 ml_8_224 (by decide) rfl L_45 (by decide) rfl (Nat.le_of_ble_eq_true rfl) rfl (Nat.le_refl _) (Nat.le_refl _) hc k
theorem b_X8_carryAll_24 {d : Nat} {Q : Option pV → pG → Prop} {g : pG} {r : Nat} {v2 vs1 : Int} (hr : LAY[r]? = some (20, [33])) {R : Int → pG → Prop} (hc : CT d mX8_carry [vR 45, vI ((fup (g 45) 0 vs1) 4)] (cset g 45 (fup (g 45) 0 vs1)) (qI R)) (k : ∀ (x : Int) (gg : pG), R x gg → EV d mX8_carryAll Q 36 [vR 45, vR r, vI v2, vX 2] [vI x, vR 45] gg) : EV d mX8_carryAll Q 24 [vR 45, vR r, vI v2, vX 2] [vI vs1, vR 45] g := by
  refine wp_putI dX8_carryAll_24 fl_8_108 L_45 rfl rfl ?_
  refine wp_aload_n dX8_carryAll_27 rfl rfl ?_
  refine wp_aload_n dX8_carryAll_28 rfl rfl ?_
  refine wp_aload_n dX8_carryAll_29 rfl rfl ?_
  refine wp_get (v := vI ((fup (g 45) 0 vs1) 4)) dX8_carryAll_30 fl_8_19 L_45 rfl ?_
  exact wp_callvI (As := [vI ((fup (g 45) 0 vs1) 4)]) dX8_carryAll_33 ml_8_224 (by decide) rfl L_45 (by decide) rfl (Nat.le_of_ble_eq_true rfl) rfl (Nat.le_refl _) (Nat.le_refl _) hc k
theorem b_X8_carryAll_36 {d : Nat} {Q : Option pV → pG → Prop} {g : pG} {r : Nat} {v2 vs1 : Int} (hr : LAY[r]? = some (20, [33])) {R : Int → pG → Prop} (hc : CT d mX8_carry [vR 45, vI ((fup (g 45) 4 vs1) 6)] (cset g 45 (fup (g 45) 4 vs1)) (qI R)) (k : ∀ (x : Int) (gg : pG), R x gg → EV d mX8_carryAll Q 48 [vR 45, vR r, vI v2, vX 2] [vI x, vR 45] gg) : EV d mX8_carryAll Q 36 [vR 45, vR r, vI v2, vX 2] [vI vs1, vR 45] g := by
  refine wp_putI dX8_carryAll_36 fl_8_19 L_45 rfl rfl ?_
  refine wp_aload_n dX8_carryAll_39 rfl rfl ?_
  refine wp_aload_n dX8_carryAll_40 rfl rfl ?_
  refine wp_aload_n dX8_carryAll_41 rfl rfl ?_
  refine wp_get (v := vI ((fup (g 45) 4 vs1) 6)) dX8_carryAll_42 fl_8_26 L_45 rfl ?_
  exact wp_callvI (As := [vI ((fup (g 45) 4 vs1) 6)]) dX8_carryAll_45 ml_8_224 (by decide) rfl L_45 (by decide) rfl (Nat.le_of_ble_eq_true rfl) rfl (Nat.le_refl _) (Nat.le_refl _) hc k
theorem b_X8_carryAll_48 {d : Nat} {Q : Option pV → pG → Prop} {g : pG} {r : Nat} {v2 vs1 : Int} (hr : LAY[r]? = some (20, [33])) {R : Int → pG → Prop} (hc : CT d mX8_carry [vR 45, vI ((fup (g 45) 6 vs1) 7)] (cset g 45 (fup (g 45) 6 vs1)) (qI R)) (k : ∀ (x : Int) (gg : pG), R x gg → EV d mX8_carryAll Q 60 [vR 45, vR r, vI v2, vX 2] [vI x, vR 45] gg) : EV d mX8_carryAll Q 48 [vR 45, vR r, vI v2, vX 2] [vI vs1, vR 45] g := by
  refine wp_putI dX8_carryAll_48 fl_8_26 L_45 rfl rfl ?_
  refine wp_aload_n dX8_carryAll_51 rfl rfl ?_
  refine wp_aload_n dX8_carryAll_52 rfl rfl ?_
  refine wp_aload_n dX8_carryAll_53 rfl rfl ?_
  refine wp_get (v := vI ((fup (g 45) 6 vs1) 7)) dX8_carryAll_54 fl_8_29 L_45 rfl ?_
  exact wp_callvI (As := [vI ((fup (g 45) 6 vs1) 7)]) dX8_carryAll_57 ml_8_224 (by decide) rfl L_45 (by decide) rfl (Nat.le_of_ble_eq_true rfl) rfl (Nat.le_refl _) (Nat.le_refl _) hc k
theorem b_X8_carryAll_60 {d : Nat} {Q : Option pV → pG → Prop} {g : pG} {r : Nat} {v2 vs1 : Int} (hr : LAY[r]? = some (20, [33])) (k : EV d mX8_carryAll Q 65 [vR 45, vR r, vI v2, vI 0] [] (cset g 45 (fup (g 45) 7 vs1))) : EV d mX8_carryAll Q 60 [vR 45, vR r, vI v2, vX 2] [vI vs1, vR 45] g := by
  refine wp_putI dX8_carryAll_60 fl_8_29 L_45 rfl rfl ?_
  refine wp_iconst dX8_carryAll_63 kc_0 ?_
  refine wp_istore_n dX8_carryAll_64 (Nat.le_of_ble_eq_true rfl) (pp (c := 2) rfl rfl) ?_
  exact k
theorem b_X8_carryAll_65 {d : Nat} {Q : Option pV → pG → Prop} {g : pG} {r : Nat} {v2 v3 : Int} (hr : LAY[r]? = some (20, [33])) (k1 : (7 ≤ v3) → EV d mX8_carryAll Q 125 [vR 45, vR r, vI v2, vI v3] [] g) (k2 : ¬ (7 ≤ v3) → EV d mX8_carryAll Q 71 [vR 45, vR r, vI v2, vI v3] [] g) : EV d mX8_carryAll Q 65 [vR 45, vR r, vI v2, vI v3] [] g := by
  refine wp_iload_n dX8_carryAll_65 rfl ?_
  refine wp_bipush dX8_carryAll_66 kb_7 kc_7 ?_
  exact wp_icmp_ge (tgt := 125) dX8_carryAll_68 rfl k1 k2
theorem b_X8_carryAll_71 {d : Nat} {Q : Option pV → pG → Prop} {g : pG} {r : Nat} {v2 v3 : Int} (hr : LAY[r]? = some (20, [33])) {R : Int → pG → Prop} (h1 : 0 ≤ v3) (h2 : v3 < 7) (hc : CT d mX8_carry [vR 45, vI ((g 46) v3.toNat)] g (qI R)) (k : ∀ (x : Int) (gg : pG), R x gg → EV d mX8_carryAll Q 86 [vR 45, vR r, vI v2, vI v3] [vI x, vI v3, vR 46] gg) : EV d mX8_carryAll Q 71 [vR 45, vR r, vI v2, vI v3] [] g := by
  refine wp_aload_n dX8_carryAll_71 rfl rfl ?_
  refine wp_get (v := vR 46) dX8_carryAll_72 fl_8_7 L_45 rfl ?_
  refine wp_iload_n dX8_carryAll_75 rfl ?_
  refine wp_aload_n dX8_carryAll_76 rfl rfl ?_
  refine wp_aload_n dX8_carryAll_77 rfl rfl ?_
  refine wp_get (v := vR 46) dX8_carryAll_78 fl_8_7 L_45 rfl ?_
  refine wp_iload_n dX8_carryAll_81 rfl ?_
  refine wp_iaload dX8_carryAll_82 h1 L_46 h2 ?_
  exact wp_callvI (As := [vI ((g 46) v3.toNat)]) dX8_carryAll_83 ml_8_224 (by decide) rfl L_45 (by decide) rfl (Nat.le_of_ble_eq_true rfl) rfl (Nat.le_refl _) (Nat.le_refl _) hc k
theorem b_X8_carryAll_86 {d : Nat} {Q : Option pV → pG → Prop} {g : pG} {r : Nat} {v2 v3 vs1 vs2 : Int} (hr : LAY[r]? = some (20, [33])) {R : Int → pG → Prop} (h1 : 0 ≤ vs1) (h2 : vs1 < 7) (h3 : 0 ≤ v3) (h4 : v3 < 7) (hc : CT d mX8_carry [vR 45, vI ((g 47) v3.toNat)] (cset g 46 (fup (g 46) vs1.toNat vs2)) (qI R)) (k : ∀ (x : Int) (gg : pG), R x gg → EV d mX8_carryAll Q 102 [vR 45, vR r, vI v2, vI v3] [vI x, vI v3, vR 47] gg) : EV d mX8_carryAll Q 86 [vR 45, vR r, vI v2, vI v3] [vI vs2, vI vs1, vR 46] g := by
  refine wp_iastore dX8_carryAll_86 h1 L_46 h2 ?_
  refine wp_aload_n dX8_carryAll_87 rfl rfl ?_
  refine wp_get (v := vR 47) dX8_carryAll_88 fl_8_13 L_45 rfl ?_
  refine wp_iload_n dX8_carryAll_91 rfl ?_
  refine wp_aload_n dX8_carryAll_92 rfl rfl ?_
  refine wp_aload_n dX8_carryAll_93 rfl rfl ?_
  refine wp_get (v := vR 47) dX8_carryAll_94 fl_8_13 L_45 rfl ?_
  refine wp_iload_n dX8_carryAll_97 rfl ?_
  refine wp_iaload dX8_carryAll_98 h3 L_47 h4 ?_
  exact wp_callvI (As := [vI ((g 47) v3.toNat)]) dX8_carryAll_99 ml_8_224 (by decide) rfl L_45 (by decide) rfl (Nat.le_of_ble_eq_true rfl) rfl (Nat.le_refl _) (Nat.le_refl _) hc k
theorem b_X8_carryAll_102 {d : Nat} {Q : Option pV → pG → Prop} {g : pG} {r : Nat} {v2 v3 vs1 vs2 : Int} (hr : LAY[r]? = some (20, [33])) {R : Int → pG → Prop} (h1 : 0 ≤ vs1) (h2 : vs1 < 7) (h3 : 0 ≤ v3) (h4 : v3 < 7) (hc : CT d mX8_carry [vR 45, vI ((g 48) v3.toNat)] (cset g 47 (fup (g 47) vs1.toNat vs2)) (qI R)) (k : ∀ (x : Int) (gg : pG), R x gg → EV d mX8_carryAll Q 118 [vR 45, vR r, vI v2, vI v3] [vI x, vI v3, vR 48] gg) : EV d mX8_carryAll Q 102 [vR 45, vR r, vI v2, vI v3] [vI vs2, vI vs1, vR 47] g := by
  refine wp_iastore dX8_carryAll_102 h1 L_47 h2 ?_
  refine wp_aload_n dX8_carryAll_103 rfl rfl ?_
  refine wp_get (v := vR 48) dX8_carryAll_104 fl_8_16 L_45 rfl ?_
  refine wp_iload_n dX8_carryAll_107 rfl ?_
  refine wp_aload_n dX8_carryAll_108 rfl rfl ?_
  refine wp_aload_n dX8_carryAll_109 rfl rfl ?_
  refine wp_get (v := vR 48) dX8_carryAll_110 fl_8_16 L_45 rfl ?_
  refine wp_iload_n dX8_carryAll_113 rfl ?_
  refine wp_iaload dX8_carryAll_114 h3 L_48 h4 ?_
  exact wp_callvI (As := [vI ((g 48) v3.toNat)]) dX8_carryAll_115 ml_8_224 (by decide) rfl L_45 (by decide) rfl (Nat.le_of_ble_eq_true rfl) rfl (Nat.le_refl _) (Nat.le_refl _) hc k
theorem b_X8_carryAll_118 {d : Nat} {Q : Option pV → pG → Prop} {g : pG} {r : Nat} {v2 v3 vs1 vs2 : Int} (hr : LAY[r]? = some (20, [33])) (h1 : 0 ≤ vs1) (h2 : vs1 < 7) (k : EV d mX8_carryAll Q 65 [vR 45, vR r, vI v2, vI (w32 (v3 + 1))] [] (cset g 48 (fup (g 48) vs1.toNat vs2))) : EV d mX8_carryAll Q 118 [vR 45, vR r, vI v2, vI v3] [vI vs2, vI vs1, vR 48] g := by
  refine wp_iastore dX8_carryAll_118 h1 L_48 h2 ?_
  refine wp_iinc dX8_carryAll_119 rfl (Nat.le_of_ble_eq_true rfl) (pp (c := 2) rfl rfl) ?_
  refine wp_goto (tgt := 65) dX8_carryAll_122 rfl ?_
  exact k
theorem b_X8_carryAll_125 {d : Nat} {Q : Option pV → pG → Prop} {g : pG} {r : Nat} {v2 v3 : Int} (hr : LAY[r]? = some (20, [33])) (k : EV d mX8_carryAll Q 127 [vR 45, vR r, vI v2, vI 0] [] g) : EV d mX8_carryAll Q 125 [vR 45, vR r, vI v2, vI v3] [] g := by
  refine wp_iconst dX8_carryAll_125 kc_0 ?_
  refine wp_istore_n dX8_carryAll_126 (Nat.le_of_ble_eq_true rfl) (pp (c := 2) rfl rfl) ?_
  exact k
theorem b_X8_carryAll_127 {d : Nat} {Q : Option pV → pG → Prop} {g : pG} {r : Nat} {v2 v3 : Int} (hr : LAY[r]? = some (20, [33])) (k1 : (8 ≤ v3) → EV d mX8_carryAll Q 155 [vR 45, vR r, vI v2, vI v3] [] g) (k2 : ¬ (8 ≤ v3) → EV d mX8_carryAll Q 133 [vR 45, vR r, vI v2, vI v3] [] g) : EV d mX8_carryAll Q 127 [vR 45, vR r, vI v2, vI v3] [] g := by
  refine wp_iload_n dX8_carryAll_127 rfl ?_
  refine wp_bipush dX8_carryAll_128 kb_8 kc_8 ?_
  exact wp_icmp_ge (tgt := 155) dX8_carryAll_130 rfl k1 k2
theorem b_X8_carryAll_133 {d : Nat} {Q : Option pV → pG → Prop} {g : pG} {r : Nat} {v2 v3 : Int} (hr : LAY[r]? = some (20, [33])) {R : Int → pG → Prop} (h1 : 0 ≤ v3) (h2 : v3 < 8) (hc : CT d mX8_carry [vR 45, vI ((g 49) v3.toNat)] g (qI R)) (k : ∀ (x : Int) (gg : pG), R x gg → EV d mX8_carryAll Q 148 [vR 45, vR r, vI v2, vI v3] [vI x, vI v3, vR 49] gg) : EV d mX8_carryAll Q 133 [vR 45, vR r, vI v2, vI v3] [] g := by
  refine wp_aload_n dX8_carryAll_133 rfl rfl ?_
  refine wp_get (v := vR 49) dX8_carryAll_134 fl_8_23 L_45 rfl ?_
  refine wp_iload_n dX8_carryAll_137 rfl ?_
  refine wp_aload_n dX8_carryAll_138 rfl rfl ?_
  refine wp_aload_n dX8_carryAll_139 rfl rfl ?_
  refine wp_get (v := vR 49) dX8_carryAll_140 fl_8_23 L_45 rfl ?_
  refine wp_iload_n dX8_carryAll_143 rfl ?_
  refine wp_iaload dX8_carryAll_144 h1 L_49 h2 ?_
  exact wp_callvI (As := [vI ((g 49) v3.toNat)]) dX8_carryAll_145 ml_8_224 (by decide) rfl L_45 (by decide) rfl (Nat.le_of_ble_eq_true rfl) rfl (Nat.le_refl _) (Nat.le_refl _) hc k
theorem b_X8_carryAll_148 {d : Nat} {Q : Option pV → pG → Prop} {g : pG} {r : Nat} {v2 v3 vs1 vs2 : Int} (hr : LAY[r]? = some (20, [33])) (h1 : 0 ≤ vs1) (h2 : vs1 < 8) (k : EV d mX8_carryAll Q 127 [vR 45, vR r, vI v2, vI (w32 (v3 + 1))] [] (cset g 49 (fup (g 49) vs1.toNat vs2))) : EV d mX8_carryAll Q 148 [vR 45, vR r, vI v2, vI v3] [vI vs2, vI vs1, vR 49] g := by
  refine wp_iastore dX8_carryAll_148 h1 L_49 h2 ?_
  refine wp_iinc dX8_carryAll_149 rfl (Nat.le_of_ble_eq_true rfl) (pp (c := 2) rfl rfl) ?_
  refine wp_goto (tgt := 127) dX8_carryAll_152 rfl ?_
  exact k
theorem b_X8_carryAll_155 {d : Nat} {Q : Option pV → pG → Prop} {g : pG} {r : Nat} {v2 v3 : Int} (hr : LAY[r]? = some (20, [33])) (hq : Q none g) : EV d mX8_carryAll Q 155 [vR 45, vR r, vI v2, vI v3] [] g := by
  exact wp_vret dX8_carryAll_155 rfl hq
theorem b_X8_carry_0 {d : Nat} {Q : Option pV → pG → Prop} {g : pG} {v1 : Int} (k1 : ((g 45) 24 = 0) → EV d mX8_carry Q 17 [vR 45, vI v1] [] g) (k2 : ¬ ((g 45) 24 = 0) → EV d mX8_carry Q 7 [vR 45, vI v1] [] g) : EV d mX8_carry Q 0 [vR 45, vI v1] [] g := by
  refine wp_aload_n dX8_carry_0 rfl rfl ?_
  refine wp_get (v := vI ((g 45) 24)) dX8_carry_1 fl_8_215 L_45 rfl ?_
  exact wp_if_eq (tgt := 17) dX8_carry_4 rfl k1 k2
theorem b_X8_carry_7 {d : Nat} {Q : Option pV → pG → Prop} {g : pG} {r : Nat} {v1 : Int} (hr : LAY[r]? = some (20, [33])) (h1 : rv ((g 45) 25).toNat = vR r) (h2 : 0 ≤ (g 45) 23) (h3 : (g 45) 23 < 33) (h4 : rv ((fup ((cset g r (fup (g r) ((g 45) 23).toNat v1)) 45) 23 (w32 ((((cset g r (fup (g r) ((g 45) 23).toNat v1)) 45) 23) + 1))) 25).toNat = vR r) (h5 : 0 ≤ w32 (((fup ((cset g r (fup (g r) ((g 45) 23).toNat v1)) 45) 23 (w32 ((((cset g r (fup (g r) ((g 45) 23).toNat v1)) 45) 23) + 1))) 23) - 1)) (h6 : w32 (((fup ((cset g r (fup (g r) ((g 45) 23).toNat v1)) 45) 23 (w32 ((((cset g r (fup (g r) ((g 45) 23).toNat v1)) 45) 23) + 1))) 23) - 1) < 33) (hq : Q (some (vI (((cset (cset g r (fup (g r) ((g 45) 23).toNat v1)) 45 (fup ((cset g r (fup (g r) ((g 45) 23).toNat v1)) 45) 23 (w32 ((((cset g r (fup (g r) ((g 45) 23).toNat v1)) 45) 23) + 1)))) r) (w32 (((fup ((cset g r (fup (g r) ((g 45) 23).toNat v1)) 45) 23 (w32 ((((cset g r (fup (g r) ((g 45) 23).toNat v1)) 45) 23) + 1))) 23) - 1)).toNat))) (cset (cset g r (fup (g r) ((g 45) 23).toNat v1)) 45 (fup ((cset g r (fup (g r) ((g 45) 23).toNat v1)) 45) 23 (w32 ((((cset g r (fup (g r) ((g 45) 23).toNat v1)) 45) 23) + 1))))) : EV d mX8_carry Q 7 [vR 45, vI v1] [] g := by
  refine wp_aload_n dX8_carry_7 rfl rfl ?_
  refine wp_get (v := vR r) dX8_carry_8 fl_8_218 L_45 h1 ?_
  refine wp_aload_n dX8_carry_11 rfl rfl ?_
  refine wp_get (v := vI ((g 45) 23)) dX8_carry_12 fl_8_221 L_45 rfl ?_
  refine wp_iload_n dX8_carry_15 rfl ?_
  refine wp_iastore dX8_carry_16 h2 hr h3 ?_
  refine wp_aload_n dX8_carry_17 rfl rfl ?_
  refine wp_dup dX8_carry_18 rfl ?_
  refine wp_get (v := vI (((cset g r (fup (g r) ((g 45) 23).toNat v1)) 45) 23)) dX8_carry_19 fl_8_221 L_45 rfl ?_
  refine wp_iconst dX8_carry_22 kc_1 ?_
  refine wp_iadd dX8_carry_23 ?_
  refine wp_putI dX8_carry_24 fl_8_221 L_45 rfl rfl ?_
  refine wp_aload_n dX8_carry_27 rfl rfl ?_
  refine wp_get (v := vR r) dX8_carry_28 fl_8_218 L_45 h4 ?_
  refine wp_aload_n dX8_carry_31 rfl rfl ?_
  refine wp_get (v := vI ((fup ((cset g r (fup (g r) ((g 45) 23).toNat v1)) 45) 23 (w32 ((((cset g r (fup (g r) ((g 45) 23).toNat v1)) 45) 23) + 1))) 23)) dX8_carry_32 fl_8_221 L_45 rfl ?_
  refine wp_iconst dX8_carry_35 kc_1 ?_
  refine wp_isub dX8_carry_36 ?_
  refine wp_iaload dX8_carry_37 h5 hr h6 ?_
  exact wp_iret dX8_carry_38 rfl hq
theorem b_X8_carry_17 {d : Nat} {Q : Option pV → pG → Prop} {g : pG} {r : Nat} {v1 : Int} (hr : LAY[r]? = some (20, [33])) (h1 : rv ((fup (g 45) 23 (w32 (((g 45) 23) + 1))) 25).toNat = vR r) (h2 : 0 ≤ w32 (((fup (g 45) 23 (w32 (((g 45) 23) + 1))) 23) - 1)) (h3 : w32 (((fup (g 45) 23 (w32 (((g 45) 23) + 1))) 23) - 1) < 33) (hq : Q (some (vI (((cset g 45 (fup (g 45) 23 (w32 (((g 45) 23) + 1)))) r) (w32 (((fup (g 45) 23 (w32 (((g 45) 23) + 1))) 23) - 1)).toNat))) (cset g 45 (fup (g 45) 23 (w32 (((g 45) 23) + 1))))) : EV d mX8_carry Q 17 [vR 45, vI v1] [] g := by
  refine wp_aload_n dX8_carry_17 rfl rfl ?_
  refine wp_dup dX8_carry_18 rfl ?_
  refine wp_get (v := vI ((g 45) 23)) dX8_carry_19 fl_8_221 L_45 rfl ?_
  refine wp_iconst dX8_carry_22 kc_1 ?_
  refine wp_iadd dX8_carry_23 ?_
  refine wp_putI dX8_carry_24 fl_8_221 L_45 rfl rfl ?_
  refine wp_aload_n dX8_carry_27 rfl rfl ?_
  refine wp_get (v := vR r) dX8_carry_28 fl_8_218 L_45 h1 ?_
  refine wp_aload_n dX8_carry_31 rfl rfl ?_
  refine wp_get (v := vI ((fup (g 45) 23 (w32 (((g 45) 23) + 1))) 23)) dX8_carry_32 fl_8_221 L_45 rfl ?_
  refine wp_iconst dX8_carry_35 kc_1 ?_
  refine wp_isub dX8_carry_36 ?_
  refine wp_iaload dX8_carry_37 h2 hr h3 ?_
  exact wp_iret dX8_carry_38 rfl hq
theorem b_X8_comes_0 {d : Nat} {Q : Option pV → pG → Prop} {g : pG} {v1 : Int} (h1 : 0 ≤ w32 (3 * v1)) (h2 : w32 (3 * v1) < 147) (h3 : 0 ≤ v1) (h4 : v1 < 49) (k0 : (g 54) v1.toNat = 99 → EV d mX8_comes Q 72 [vR 45, vI v1, vI (w32 (3 * v1)), vI ((g 55) (w32 (3 * v1)).toNat), vI 1] [] g) (k1 : (g 54) v1.toNat = 108 → EV d mX8_comes Q 191 [vR 45, vI v1, vI (w32 (3 * v1)), vI ((g 55) (w32 (3 * v1)).toNat), vI 1] [] g) (k2 : (g 54) v1.toNat = 110 → EV d mX8_comes Q 123 [vR 45, vI v1, vI (w32 (3 * v1)), vI ((g 55) (w32 (3 * v1)).toNat), vI 1] [] g) (k3 : (g 54) v1.toNat = 112 → EV d mX8_comes Q 147 [vR 45, vI v1, vI (w32 (3 * v1)), vI ((g 55) (w32 (3 * v1)).toNat), vI 1] [] g) (k4 : (g 54) v1.toNat = 115 → EV d mX8_comes Q 184 [vR 45, vI v1, vI (w32 (3 * v1)), vI ((g 55) (w32 (3 * v1)).toNat), vI 1] [] g) (kd : ((g 54) v1.toNat ≠ 99 ∧ (g 54) v1.toNat ≠ 108 ∧ (g 54) v1.toNat ≠ 110 ∧ (g 54) v1.toNat ≠ 112 ∧ (g 54) v1.toNat ≠ 115) → EV d mX8_comes Q 208 [vR 45, vI v1, vI (w32 (3 * v1)), vI ((g 55) (w32 (3 * v1)).toNat), vI 1] [] g) : EV d mX8_comes Q 0 [vR 45, vI v1, vX 2, vX 2, vX 2] [] g := by
  refine wp_iconst dX8_comes_0 kc_3 ?_
  refine wp_iload_n dX8_comes_1 rfl ?_
  refine wp_imul dX8_comes_2 ?_
  refine wp_istore_n dX8_comes_3 (Nat.le_of_ble_eq_true rfl) (pp (c := 1) rfl rfl) ?_
  refine wp_aload_n dX8_comes_4 rfl rfl ?_
  refine wp_get (v := vR 55) dX8_comes_5 fl_8_47 L_45 rfl ?_
  refine wp_iload_n dX8_comes_8 rfl ?_
  refine wp_iaload dX8_comes_9 h1 L_55 h2 ?_
  refine wp_istore_n dX8_comes_10 (Nat.le_of_ble_eq_true rfl) (pp (c := 2) rfl rfl) ?_
  refine wp_iconst dX8_comes_11 kc_1 ?_
  refine wp_istore dX8_comes_12 (Nat.le_of_ble_eq_true rfl) (pp (c := 3) rfl rfl) ?_
  refine wp_aload_n dX8_comes_14 rfl rfl ?_
  refine wp_get (v := vR 54) dX8_comes_15 fl_8_44 L_45 rfl ?_
  refine wp_iload_n dX8_comes_18 rfl ?_
  refine wp_iaload dX8_comes_19 h3 L_54 h4 ?_
  by_cases hq0 : (g 54) v1.toNat = 99
  · exact wp_lsw (x := (g 54) v1.toNat) (tgt := 72) (off := 52) dX8_comes_20 rfl (by rw [hq0]; rfl) rfl (k0 hq0)
  by_cases hq1 : (g 54) v1.toNat = 108
  · exact wp_lsw (x := (g 54) v1.toNat) (tgt := 191) (off := 171) dX8_comes_20 rfl (by rw [hq1]; rfl) rfl (k1 hq1)
  by_cases hq2 : (g 54) v1.toNat = 110
  · exact wp_lsw (x := (g 54) v1.toNat) (tgt := 123) (off := 103) dX8_comes_20 rfl (by rw [hq2]; rfl) rfl (k2 hq2)
  by_cases hq3 : (g 54) v1.toNat = 112
  · exact wp_lsw (x := (g 54) v1.toNat) (tgt := 147) (off := 127) dX8_comes_20 rfl (by rw [hq3]; rfl) rfl (k3 hq3)
  by_cases hq4 : (g 54) v1.toNat = 115
  · exact wp_lsw (x := (g 54) v1.toNat) (tgt := 184) (off := 164) dX8_comes_20 rfl (by rw [hq4]; rfl) rfl (k4 hq4)
  exact wp_lsw (x := (g 54) v1.toNat) (tgt := 208) (off := 188) dX8_comes_20 rfl (by simp [Op.lookupswitch.offset, hq0, Ne.symm hq0, hq1, Ne.symm hq1, hq2, Ne.symm hq2, hq3, Ne.symm hq3, hq4, Ne.symm hq4]) rfl (kd ⟨hq0, hq1, hq2, hq3, hq4⟩)
theorem b_X8_comes_72 {d : Nat} {Q : Option pV → pG → Prop} {g : pG} {v1 v2 v3 v4 : Int} (k1 : (6 ≤ v3) → EV d mX8_comes Q 91 [vR 45, vI v1, vI v2, vI v3, vI v4] [] g) (k2 : ¬ (6 ≤ v3) → EV d mX8_comes Q 78 [vR 45, vI v1, vI v2, vI v3, vI v4] [] g) : EV d mX8_comes Q 72 [vR 45, vI v1, vI v2, vI v3, vI v4] [] g := by
  refine wp_iload_n dX8_comes_72 rfl ?_
  refine wp_bipush dX8_comes_73 kb_6 kc_6 ?_
  exact wp_icmp_ge (tgt := 91) dX8_comes_75 rfl k1 k2
theorem b_X8_comes_78 {d : Nat} {Q : Option pV → pG → Prop} {g : pG} {v1 v2 v3 v4 : Int} (k1 : (7 ≤ (g 45) 0) → EV d mX8_comes Q 91 [vR 45, vI v1, vI v2, vI v3, vI v4] [] g) (k2 : ¬ (7 ≤ (g 45) 0) → EV d mX8_comes Q 87 [vR 45, vI v1, vI v2, vI v3, vI v4] [] g) : EV d mX8_comes Q 78 [vR 45, vI v1, vI v2, vI v3, vI v4] [] g := by
  refine wp_aload_n dX8_comes_78 rfl rfl ?_
  refine wp_get (v := vI ((g 45) 0)) dX8_comes_79 fl_8_108 L_45 rfl ?_
  refine wp_bipush dX8_comes_82 kb_7 kc_7 ?_
  exact wp_icmp_ge (tgt := 91) dX8_comes_84 rfl k1 k2
theorem b_X8_comes_87 {d : Nat} {Q : Option pV → pG → Prop} {g : pG} {v1 v2 v3 v4 : Int} {R : pG → Prop} (h1 : 0 ≤ w32 (v2 + 1)) (h2 : w32 (v2 + 1) < 147) (h3 : 0 ≤ w32 (v2 + 2)) (h4 : w32 (v2 + 2) < 147) (hc : CT d mX8_courtComes [vR 45, vI v3, vI ((g 55) (w32 (v2 + 1)).toNat), vI ((g 55) (w32 (v2 + 2)).toNat)] g (qV R)) (k : ∀ gg : pG, R gg → EV d mX8_comes Q 120 [vR 45, vI v1, vI v2, vI v3, vI 1] [] gg) : EV d mX8_comes Q 87 [vR 45, vI v1, vI v2, vI v3, vI v4] [] g := by
  refine wp_iconst dX8_comes_87 kc_1 ?_
  refine wp_goto (tgt := 92) dX8_comes_88 rfl ?_
  refine wp_istore dX8_comes_92 (Nat.le_of_ble_eq_true rfl) (pp (c := 3) rfl rfl) ?_
  refine wp_iload dX8_comes_94 rfl ?_
  refine wp_if_eq (tgt := 120) dX8_comes_96 rfl (fun hh => absurd hh (by decide)) (fun _ => ?_)
  refine wp_aload_n dX8_comes_99 rfl rfl ?_
  refine wp_iload_n dX8_comes_100 rfl ?_
  refine wp_aload_n dX8_comes_101 rfl rfl ?_
  refine wp_get (v := vR 55) dX8_comes_102 fl_8_47 L_45 rfl ?_
  refine wp_iload_n dX8_comes_105 rfl ?_
  refine wp_iconst dX8_comes_106 kc_1 ?_
  refine wp_iadd dX8_comes_107 ?_
  refine wp_iaload dX8_comes_108 h1 L_55 h2 ?_
  refine wp_aload_n dX8_comes_109 rfl rfl ?_
  refine wp_get (v := vR 55) dX8_comes_110 fl_8_47 L_45 rfl ?_
  refine wp_iload_n dX8_comes_113 rfl ?_
  refine wp_iconst dX8_comes_114 kc_2 ?_
  refine wp_iadd dX8_comes_115 ?_
  refine wp_iaload dX8_comes_116 h3 L_55 h4 ?_
  exact wp_callvV (As := [vI v3, vI ((g 55) (w32 (v2 + 1)).toNat), vI ((g 55) (w32 (v2 + 2)).toNat)]) dX8_comes_117 ml_8_193 (by decide) rfl L_45 (by decide) rfl (Nat.le_of_ble_eq_true rfl) rfl (Nat.le_refl _) (Nat.le_refl _) hc k
theorem b_X8_comes_91 {d : Nat} {Q : Option pV → pG → Prop} {g : pG} {v1 v2 v3 v4 : Int} (hq : Q (some (vI 0)) g) : EV d mX8_comes Q 91 [vR 45, vI v1, vI v2, vI v3, vI v4] [] g := by
  refine wp_iconst dX8_comes_91 kc_0 ?_
  refine wp_istore dX8_comes_92 (Nat.le_of_ble_eq_true rfl) (pp (c := 3) rfl rfl) ?_
  refine wp_iload dX8_comes_94 rfl ?_
  refine wp_if_eq (tgt := 120) dX8_comes_96 rfl (fun _ => ?_) (fun hh => absurd (by decide) hh)
  refine wp_iload dX8_comes_120 rfl ?_
  exact wp_zret dX8_comes_122 rfl (Or.inl rfl) hq
theorem b_X8_comes_120 {d : Nat} {Q : Option pV → pG → Prop} {g : pG} {v1 v2 v3 v4 : Int} (h1 : v4 = 0 ∨ v4 = 1) (hq : Q (some (vI v4)) g) : EV d mX8_comes Q 120 [vR 45, vI v1, vI v2, vI v3, vI v4] [] g := by
  refine wp_iload dX8_comes_120 rfl ?_
  exact wp_zret dX8_comes_122 rfl h1 hq
theorem b_X8_comes_123 {d : Nat} {Q : Option pV → pG → Prop} {g : pG} {v1 v2 v3 v4 : Int} {R : Int → pG → Prop} (hc : CT d mX8_in [vL v3, vL 1, vL 8] g (qI R)) (k : ∀ (x : Int) (gg : pG), R x gg → EV d mX8_comes Q 132 [vR 45, vI v1, vI v2, vI v3, vI v4] [vI x] gg) : EV d mX8_comes Q 123 [vR 45, vI v1, vI v2, vI v3, vI v4] [] g := by
  refine wp_iload_n dX8_comes_123 rfl ?_
  refine wp_i2l dX8_comes_124 ?_
  refine wp_lconst (x := 1) dX8_comes_125 rfl ?_
  refine wp_ldc2_w dX8_comes_126 k2_8_197 ?_
  exact wp_callsI (As := [vL v3, vL 1, vL 8]) dX8_comes_129 ml_8_111 (Or.inl rfl) rfl (Nat.le_of_ble_eq_true rfl) rfl (Nat.le_refl _) (Nat.le_refl _) hc k
theorem b_X8_comes_132 {d : Nat} {Q : Option pV → pG → Prop} {g : pG} {v1 v2 v3 v4 vs0 : Int} (k1 : (vs0 = 0) → EV d mX8_comes Q 144 [vR 45, vI v1, vI v2, vI v3, vI vs0] [] g) (k2 : ¬ (vs0 = 0) → EV d mX8_comes Q 139 [vR 45, vI v1, vI v2, vI v3, vI vs0] [] g) : EV d mX8_comes Q 132 [vR 45, vI v1, vI v2, vI v3, vI v4] [vI vs0] g := by
  refine wp_istore dX8_comes_132 (Nat.le_of_ble_eq_true rfl) (pp (c := 3) rfl rfl) ?_
  refine wp_iload dX8_comes_134 rfl ?_
  exact wp_if_eq (tgt := 144) dX8_comes_136 rfl k1 k2
theorem b_X8_comes_139 {d : Nat} {Q : Option pV → pG → Prop} {g : pG} {v1 v2 v3 v4 : Int} {R : pG → Prop} (hc : CT d mX8_setMany [vR 45, vI v3] g (qV R)) (k : ∀ gg : pG, R gg → EV d mX8_comes Q 144 [vR 45, vI v1, vI v2, vI v3, vI v4] [] gg) : EV d mX8_comes Q 139 [vR 45, vI v1, vI v2, vI v3, vI v4] [] g := by
  refine wp_aload_n dX8_comes_139 rfl rfl ?_
  refine wp_iload_n dX8_comes_140 rfl ?_
  exact wp_callvV (As := [vI v3]) dX8_comes_141 ml_8_199 (by decide) rfl L_45 (by decide) rfl (Nat.le_of_ble_eq_true rfl) rfl (Nat.le_refl _) (Nat.le_refl _) hc k
theorem b_X8_comes_144 {d : Nat} {Q : Option pV → pG → Prop} {g : pG} {v1 v2 v3 v4 : Int} (h1 : v4 = 0 ∨ v4 = 1) (hq : Q (some (vI v4)) g) : EV d mX8_comes Q 144 [vR 45, vI v1, vI v2, vI v3, vI v4] [] g := by
  refine wp_iload dX8_comes_144 rfl ?_
  exact wp_zret dX8_comes_146 rfl h1 hq
theorem b_X8_comes_147 {d : Nat} {Q : Option pV → pG → Prop} {g : pG} {v1 v2 v3 v4 : Int} (k1 : ((g 45) 4 ≤ v3) → EV d mX8_comes Q 159 [vR 45, vI v1, vI v2, vI v3, vI v4] [] g) (k2 : ¬ ((g 45) 4 ≤ v3) → EV d mX8_comes Q 155 [vR 45, vI v1, vI v2, vI v3, vI v4] [] g) : EV d mX8_comes Q 147 [vR 45, vI v1, vI v2, vI v3, vI v4] [] g := by
  refine wp_iload_n dX8_comes_147 rfl ?_
  refine wp_aload_n dX8_comes_148 rfl rfl ?_
  refine wp_get (v := vI ((g 45) 4)) dX8_comes_149 fl_8_19 L_45 rfl ?_
  exact wp_icmp_ge (tgt := 159) dX8_comes_152 rfl k1 k2
theorem b_X8_comes_155 {d : Nat} {Q : Option pV → pG → Prop} {g : pG} {v1 v2 v3 v4 : Int} (h1 : 0 ≤ w32 (v2 + 1)) (h2 : w32 (v2 + 1) < 147) (h3 : 0 ≤ v3) (h4 : v3 < 8) (hq : Q (some (vI 1)) (cset g 49 (fup (g 49) v3.toNat ((g 55) (w32 (v2 + 1)).toNat)))) : EV d mX8_comes Q 155 [vR 45, vI v1, vI v2, vI v3, vI v4] [] g := by
  refine wp_iconst dX8_comes_155 kc_1 ?_
  refine wp_goto (tgt := 160) dX8_comes_156 rfl ?_
  refine wp_istore dX8_comes_160 (Nat.le_of_ble_eq_true rfl) (pp (c := 3) rfl rfl) ?_
  refine wp_iload dX8_comes_162 rfl ?_
  refine wp_if_eq (tgt := 181) dX8_comes_164 rfl (fun hh => absurd hh (by decide)) (fun _ => ?_)
  refine wp_aload_n dX8_comes_167 rfl rfl ?_
  refine wp_get (v := vR 49) dX8_comes_168 fl_8_23 L_45 rfl ?_
  refine wp_iload_n dX8_comes_171 rfl ?_
  refine wp_aload_n dX8_comes_172 rfl rfl ?_
  refine wp_get (v := vR 55) dX8_comes_173 fl_8_47 L_45 rfl ?_
  refine wp_iload_n dX8_comes_176 rfl ?_
  refine wp_iconst dX8_comes_177 kc_1 ?_
  refine wp_iadd dX8_comes_178 ?_
  refine wp_iaload dX8_comes_179 h1 L_55 h2 ?_
  refine wp_iastore dX8_comes_180 h3 L_49 h4 ?_
  refine wp_iload dX8_comes_181 rfl ?_
  exact wp_zret dX8_comes_183 rfl (Or.inr rfl) hq
theorem b_X8_comes_159 {d : Nat} {Q : Option pV → pG → Prop} {g : pG} {v1 v2 v3 v4 : Int} (hq : Q (some (vI 0)) g) : EV d mX8_comes Q 159 [vR 45, vI v1, vI v2, vI v3, vI v4] [] g := by
  refine wp_iconst dX8_comes_159 kc_0 ?_
  refine wp_istore dX8_comes_160 (Nat.le_of_ble_eq_true rfl) (pp (c := 3) rfl rfl) ?_
  refine wp_iload dX8_comes_162 rfl ?_
  refine wp_if_eq (tgt := 181) dX8_comes_164 rfl (fun _ => ?_) (fun hh => absurd (by decide) hh)
  refine wp_iload dX8_comes_181 rfl ?_
  exact wp_zret dX8_comes_183 rfl (Or.inl rfl) hq
theorem b_X8_comes_184 {d : Nat} {Q : Option pV → pG → Prop} {g : pG} {v1 v2 v3 v4 : Int} (hq : Q (some (vI 1)) (cset g 45 (fup (g 45) 6 v3))) : EV d mX8_comes Q 184 [vR 45, vI v1, vI v2, vI v3, vI v4] [] g := by
  refine wp_aload_n dX8_comes_184 rfl rfl ?_
  refine wp_iload_n dX8_comes_185 rfl ?_
  refine wp_putI dX8_comes_186 fl_8_26 L_45 rfl rfl ?_
  refine wp_iconst dX8_comes_189 kc_1 ?_
  exact wp_zret dX8_comes_190 rfl (Or.inr rfl) hq
theorem b_X8_comes_191 {d : Nat} {Q : Option pV → pG → Prop} {g : pG} {v1 v2 v3 v4 : Int} (k1 : (9 ≤ v3) → EV d mX8_comes Q 206 [vR 45, vI v1, vI v2, vI v3, vI v4] [] (cset g 45 (fup (g 45) 7 v3))) (k2 : ¬ (9 ≤ v3) → EV d mX8_comes Q 202 [vR 45, vI v1, vI v2, vI v3, vI v4] [] (cset g 45 (fup (g 45) 7 v3))) : EV d mX8_comes Q 191 [vR 45, vI v1, vI v2, vI v3, vI v4] [] g := by
  refine wp_aload_n dX8_comes_191 rfl rfl ?_
  refine wp_iload_n dX8_comes_192 rfl ?_
  refine wp_putI dX8_comes_193 fl_8_29 L_45 rfl rfl ?_
  refine wp_iload_n dX8_comes_196 rfl ?_
  refine wp_bipush dX8_comes_197 kb_9 kc_9 ?_
  exact wp_icmp_ge (tgt := 206) dX8_comes_199 rfl k1 k2
theorem b_X8_comes_202 {d : Nat} {Q : Option pV → pG → Prop} {g : pG} {v1 v2 v3 v4 : Int} (hq : Q (some (vI 1)) g) : EV d mX8_comes Q 202 [vR 45, vI v1, vI v2, vI v3, vI v4] [] g := by
  refine wp_iconst dX8_comes_202 kc_1 ?_
  refine wp_goto (tgt := 207) dX8_comes_203 rfl ?_
  exact wp_zret dX8_comes_207 rfl (Or.inr rfl) hq
theorem b_X8_comes_206 {d : Nat} {Q : Option pV → pG → Prop} {g : pG} {v1 v2 v3 v4 : Int} (hq : Q (some (vI 0)) g) : EV d mX8_comes Q 206 [vR 45, vI v1, vI v2, vI v3, vI v4] [] g := by
  refine wp_iconst dX8_comes_206 kc_0 ?_
  exact wp_zret dX8_comes_207 rfl (Or.inl rfl) hq
theorem b_X8_comes_208 {d : Nat} {Q : Option pV → pG → Prop} {g : pG} {v1 v2 v3 v4 : Int} (k1 : ((g 45) 0 ≤ 0) → EV d mX8_comes Q 219 [vR 45, vI v1, vI v2, vI v3, vI v4] [] g) (k2 : ¬ ((g 45) 0 ≤ 0) → EV d mX8_comes Q 215 [vR 45, vI v1, vI v2, vI v3, vI v4] [] g) : EV d mX8_comes Q 208 [vR 45, vI v1, vI v2, vI v3, vI v4] [] g := by
  refine wp_aload_n dX8_comes_208 rfl rfl ?_
  refine wp_get (v := vI ((g 45) 0)) dX8_comes_209 fl_8_108 L_45 rfl ?_
  exact wp_if_le (tgt := 219) dX8_comes_212 rfl k1 k2
theorem b_X8_comes_215 {d : Nat} {Q : Option pV → pG → Prop} {g : pG} {v1 v2 v3 v4 : Int} (hq : Q (some (vI 1)) (cset g 45 (fup (g 45) 0 (w32 (((g 45) 0) - 1))))) : EV d mX8_comes Q 215 [vR 45, vI v1, vI v2, vI v3, vI v4] [] g := by
  refine wp_iconst dX8_comes_215 kc_1 ?_
  refine wp_goto (tgt := 220) dX8_comes_216 rfl ?_
  refine wp_istore dX8_comes_220 (Nat.le_of_ble_eq_true rfl) (pp (c := 3) rfl rfl) ?_
  refine wp_aload_n dX8_comes_222 rfl rfl ?_
  refine wp_dup dX8_comes_223 rfl ?_
  refine wp_get (v := vI ((g 45) 0)) dX8_comes_224 fl_8_108 L_45 rfl ?_
  refine wp_iload dX8_comes_227 rfl ?_
  refine wp_if_eq (tgt := 236) dX8_comes_229 rfl (fun hh => absurd hh (by decide)) (fun _ => ?_)
  refine wp_iconst dX8_comes_232 kc_1 ?_
  refine wp_goto (tgt := 237) dX8_comes_233 rfl ?_
  refine wp_isub dX8_comes_237 ?_
  refine wp_putI dX8_comes_238 fl_8_108 L_45 rfl rfl ?_
  refine wp_iload dX8_comes_241 rfl ?_
  exact wp_zret dX8_comes_243 rfl (Or.inr rfl) hq
theorem b_X8_comes_219 {d : Nat} {Q : Option pV → pG → Prop} {g : pG} {v1 v2 v3 v4 : Int} (hq : Q (some (vI 0)) (cset g 45 (fup (g 45) 0 (w32 (((g 45) 0) - 0))))) : EV d mX8_comes Q 219 [vR 45, vI v1, vI v2, vI v3, vI v4] [] g := by
  refine wp_iconst dX8_comes_219 kc_0 ?_
  refine wp_istore dX8_comes_220 (Nat.le_of_ble_eq_true rfl) (pp (c := 3) rfl rfl) ?_
  refine wp_aload_n dX8_comes_222 rfl rfl ?_
  refine wp_dup dX8_comes_223 rfl ?_
  refine wp_get (v := vI ((g 45) 0)) dX8_comes_224 fl_8_108 L_45 rfl ?_
  refine wp_iload dX8_comes_227 rfl ?_
  refine wp_if_eq (tgt := 236) dX8_comes_229 rfl (fun _ => ?_) (fun hh => absurd (by decide) hh)
  refine wp_iconst dX8_comes_236 kc_0 ?_
  refine wp_isub dX8_comes_237 ?_
  refine wp_putI dX8_comes_238 fl_8_108 L_45 rfl rfl ?_
  refine wp_iload dX8_comes_241 rfl ?_
  exact wp_zret dX8_comes_243 rfl (Or.inl rfl) hq
theorem b_X8_courtComes_0 {d : Nat} {Q : Option pV → pG → Prop} {g : pG} {v1 v2 v3 : Int} (h1 : 0 ≤ (g 45) 0) (h2 : (g 45) 0 < 7) (hq : Q none (cset (cset (cset (cset g 46 (fup (g 46) ((g 45) 0).toNat v1)) 47 (fup (g 47) ((g 45) 0).toNat v2)) 48 (fup (g 48) ((g 45) 0).toNat v3)) 45 (fup (g 45) 0 (w32 (((g 45) 0) + 1))))) : EV d mX8_courtComes Q 0 [vR 45, vI v1, vI v2, vI v3] [] g := by
  refine wp_aload_n dX8_courtComes_0 rfl rfl ?_
  refine wp_get (v := vR 46) dX8_courtComes_1 fl_8_7 L_45 rfl ?_
  refine wp_aload_n dX8_courtComes_4 rfl rfl ?_
  refine wp_get (v := vI ((g 45) 0)) dX8_courtComes_5 fl_8_108 L_45 rfl ?_
  refine wp_iload_n dX8_courtComes_8 rfl ?_
  refine wp_iastore dX8_courtComes_9 h1 L_46 h2 ?_
  refine wp_aload_n dX8_courtComes_10 rfl rfl ?_
  refine wp_get (v := vR 47) dX8_courtComes_11 fl_8_13 L_45 rfl ?_
  refine wp_aload_n dX8_courtComes_14 rfl rfl ?_
  refine wp_get (v := vI ((g 45) 0)) dX8_courtComes_15 fl_8_108 L_45 rfl ?_
  refine wp_iload_n dX8_courtComes_18 rfl ?_
  refine wp_iastore dX8_courtComes_19 h1 L_47 h2 ?_
  refine wp_aload_n dX8_courtComes_20 rfl rfl ?_
  refine wp_get (v := vR 48) dX8_courtComes_21 fl_8_16 L_45 rfl ?_
  refine wp_aload_n dX8_courtComes_24 rfl rfl ?_
  refine wp_get (v := vI ((g 45) 0)) dX8_courtComes_25 fl_8_108 L_45 rfl ?_
  refine wp_iload_n dX8_courtComes_28 rfl ?_
  refine wp_iastore dX8_courtComes_29 h1 L_48 h2 ?_
  refine wp_aload_n dX8_courtComes_30 rfl rfl ?_
  refine wp_dup dX8_courtComes_31 rfl ?_
  refine wp_get (v := vI ((g 45) 0)) dX8_courtComes_32 fl_8_108 L_45 rfl ?_
  refine wp_iconst dX8_courtComes_35 kc_1 ?_
  refine wp_iadd dX8_courtComes_36 ?_
  refine wp_putI dX8_courtComes_37 fl_8_108 L_45 rfl rfl ?_
  exact wp_vret dX8_courtComes_40 rfl hq
theorem b_X8_setMany_0 {d : Nat} {Q : Option pV → pG → Prop} {g : pG} {v1 : Int} (k : EV d mX8_setMany Q 7 [vR 45, vI v1, vI v1] [] (cset g 45 (fup (g 45) 4 v1))) : EV d mX8_setMany Q 0 [vR 45, vI v1, vX 2] [] g := by
  refine wp_aload_n dX8_setMany_0 rfl rfl ?_
  refine wp_iload_n dX8_setMany_1 rfl ?_
  refine wp_putI dX8_setMany_2 fl_8_19 L_45 rfl rfl ?_
  refine wp_iload_n dX8_setMany_5 rfl ?_
  refine wp_istore_n dX8_setMany_6 (Nat.le_of_ble_eq_true rfl) (pp (c := 1) rfl rfl) ?_
  exact k
theorem b_X8_setMany_7 {d : Nat} {Q : Option pV → pG → Prop} {g : pG} {v1 v2 : Int} (k1 : (8 ≤ v2) → EV d mX8_setMany Q 26 [vR 45, vI v1, vI v2] [] g) (k2 : ¬ (8 ≤ v2) → EV d mX8_setMany Q 13 [vR 45, vI v1, vI v2] [] g) : EV d mX8_setMany Q 7 [vR 45, vI v1, vI v2] [] g := by
  refine wp_iload_n dX8_setMany_7 rfl ?_
  refine wp_bipush dX8_setMany_8 kb_8 kc_8 ?_
  exact wp_icmp_ge (tgt := 26) dX8_setMany_10 rfl k1 k2
theorem b_X8_setMany_13 {d : Nat} {Q : Option pV → pG → Prop} {g : pG} {v1 v2 : Int} (h1 : 0 ≤ v2) (h2 : v2 < 8) (k : EV d mX8_setMany Q 7 [vR 45, vI v1, vI (w32 (v2 + 1))] [] (cset g 49 (fup (g 49) v2.toNat 0))) : EV d mX8_setMany Q 13 [vR 45, vI v1, vI v2] [] g := by
  refine wp_aload_n dX8_setMany_13 rfl rfl ?_
  refine wp_get (v := vR 49) dX8_setMany_14 fl_8_23 L_45 rfl ?_
  refine wp_iload_n dX8_setMany_17 rfl ?_
  refine wp_iconst dX8_setMany_18 kc_0 ?_
  refine wp_iastore dX8_setMany_19 h1 L_49 h2 ?_
  refine wp_iinc dX8_setMany_20 rfl (Nat.le_of_ble_eq_true rfl) (pp (c := 1) rfl rfl) ?_
  refine wp_goto (tgt := 7) dX8_setMany_23 rfl ?_
  exact k
theorem b_X8_setMany_26 {d : Nat} {Q : Option pV → pG → Prop} {g : pG} {v1 v2 : Int} (hq : Q none g) : EV d mX8_setMany Q 26 [vR 45, vI v1, vI v2] [] g := by
  exact wp_vret dX8_setMany_26 rfl hq
theorem b_X8_image_0 {d : Nat} {Q : Option pV → pG → Prop} {g : pG} {R : pG → Prop} (hc : CT d mX8_carryAll [vR 45, vR 57, vI 1] (cset (cset g 45 (fup (g 45) 8 0)) 45 (fup (fup (g 45) 8 0) 22 1)) (qV R)) (k : ∀ gg : pG, R gg → EV d mX8_image Q 19 [vR 45] [] gg) : EV d mX8_image Q 0 [vR 45] [] g := by
  refine wp_aload_n dX8_image_0 rfl rfl ?_
  refine wp_iconst dX8_image_1 kc_0 ?_
  refine wp_putI dX8_image_2 fl_8_105 L_45 rfl rfl ?_
  refine wp_aload_n dX8_image_5 rfl rfl ?_
  refine wp_iconst dX8_image_6 kc_1 ?_
  refine wp_putZ dX8_image_7 fl_8_227 L_45 rfl rfl (Or.inr rfl) ?_
  refine wp_aload_n dX8_image_10 rfl rfl ?_
  refine wp_aload_n dX8_image_11 rfl rfl ?_
  refine wp_get (v := vR 57) dX8_image_12 fl_8_53 L_45 rfl ?_
  refine wp_iconst dX8_image_15 kc_1 ?_
  exact wp_callvV (As := [vR 57, vI 1]) dX8_image_16 ml_8_205 (by decide) rfl L_45 (by decide) rfl (Nat.le_of_ble_eq_true rfl) rfl (Nat.le_refl _) (Nat.le_refl _) hc k
theorem b_X8_image_19 {d : Nat} {Q : Option pV → pG → Prop} {g : pG} (hq : Q (some (vI ((g 45) 0))) g) : EV d mX8_image Q 19 [vR 45] [] g := by
  refine wp_aload_n dX8_image_19 rfl rfl ?_
  refine wp_get (v := vI ((g 45) 0)) dX8_image_20 fl_8_108 L_45 rfl ?_
  exact wp_iret dX8_image_23 rfl hq
theorem b_X8_restore_0 {d : Nat} {Q : Option pV → pG → Prop} {g : pG} (k1 : ((fup (g 45) 8 0) 22 ≠ 0) → EV d mX8_restore Q 19 [vR 45] [] (cset g 45 (fup (g 45) 8 0))) (k2 : ¬ ((fup (g 45) 8 0) 22 ≠ 0) → EV d mX8_restore Q 12 [vR 45] [] (cset g 45 (fup (g 45) 8 0))) : EV d mX8_restore Q 0 [vR 45] [] g := by
  refine wp_aload_n dX8_restore_0 rfl rfl ?_
  refine wp_iconst dX8_restore_1 kc_0 ?_
  refine wp_putI dX8_restore_2 fl_8_105 L_45 rfl rfl ?_
  refine wp_aload_n dX8_restore_5 rfl rfl ?_
  refine wp_get (v := vI ((fup (g 45) 8 0) 22)) dX8_restore_6 fl_8_227 L_45 rfl ?_
  exact wp_if_ne (tgt := 19) dX8_restore_9 rfl k1 k2
theorem b_X8_restore_12 {d : Nat} {Q : Option pV → pG → Prop} {g : pG} {R : Int → pG → Prop} (hc : CT d mX8_refuse [vR 45, vI (-3)] g (qI R)) (k : ∀ (x : Int) (gg : pG), R x gg → EV d mX8_restore Q 18 [vR 45] [vI x] gg) : EV d mX8_restore Q 12 [vR 45] [] g := by
  refine wp_aload_n dX8_restore_12 rfl rfl ?_
  refine wp_bipush dX8_restore_13 kb_m3 kc_m3 ?_
  exact wp_callvI (As := [vI (-3)]) dX8_restore_15 ml_8_164 (by decide) rfl L_45 (by decide) rfl (Nat.le_of_ble_eq_true rfl) rfl (Nat.le_refl _) (Nat.le_refl _) hc k
theorem b_X8_restore_18 {d : Nat} {Q : Option pV → pG → Prop} {g : pG} {vs0 : Int} (hq : Q (some (vI vs0)) g) : EV d mX8_restore Q 18 [vR 45] [vI vs0] g := by
  exact wp_iret dX8_restore_18 rfl hq
theorem b_X8_restore_19 {d : Nat} {Q : Option pV → pG → Prop} {g : pG} {R : pG → Prop} (hc : CT d mX8_carryAll [vR 45, vR 57, vI 0] g (qV R)) (k : ∀ gg : pG, R gg → EV d mX8_restore Q 28 [vR 45] [] gg) : EV d mX8_restore Q 19 [vR 45] [] g := by
  refine wp_aload_n dX8_restore_19 rfl rfl ?_
  refine wp_aload_n dX8_restore_20 rfl rfl ?_
  refine wp_get (v := vR 57) dX8_restore_21 fl_8_53 L_45 rfl ?_
  refine wp_iconst dX8_restore_24 kc_0 ?_
  exact wp_callvV (As := [vR 57, vI 0]) dX8_restore_25 ml_8_205 (by decide) rfl L_45 (by decide) rfl (Nat.le_of_ble_eq_true rfl) rfl (Nat.le_refl _) (Nat.le_refl _) hc k
theorem b_X8_restore_28 {d : Nat} {Q : Option pV → pG → Prop} {g : pG} (hq : Q (some (vI ((fup (g 45) 28 0) 0))) (cset g 45 (fup (g 45) 28 0))) : EV d mX8_restore Q 28 [vR 45] [] g := by
  refine wp_aload_n dX8_restore_28 rfl rfl ?_
  refine wp_iconst dX8_restore_29 kc_0 ?_
  refine wp_putI dX8_restore_30 fl_8_212 L_45 rfl rfl ?_
  refine wp_aload_n dX8_restore_33 rfl rfl ?_
  refine wp_get (v := vI ((fup (g 45) 28 0) 0)) dX8_restore_34 fl_8_108 L_45 rfl ?_
  exact wp_iret dX8_restore_37 rfl hq
theorem b_X8_back_0 {d : Nat} {Q : Option pV → pG → Prop} {g : pG} (k1 : ((fup (g 45) 8 0) 28 ≠ 0) → EV d mX8_back Q 19 [vR 45, vX 2] [] (cset g 45 (fup (g 45) 8 0))) (k2 : ¬ ((fup (g 45) 8 0) 28 ≠ 0) → EV d mX8_back Q 12 [vR 45, vX 2] [] (cset g 45 (fup (g 45) 8 0))) : EV d mX8_back Q 0 [vR 45, vX 2] [] g := by
  refine wp_aload_n dX8_back_0 rfl rfl ?_
  refine wp_iconst dX8_back_1 kc_0 ?_
  refine wp_putI dX8_back_2 fl_8_105 L_45 rfl rfl ?_
  refine wp_aload_n dX8_back_5 rfl rfl ?_
  refine wp_get (v := vI ((fup (g 45) 8 0) 28)) dX8_back_6 fl_8_212 L_45 rfl ?_
  exact wp_if_ne (tgt := 19) dX8_back_9 rfl k1 k2
theorem b_X8_back_12 {d : Nat} {Q : Option pV → pG → Prop} {g : pG} {R : Int → pG → Prop} (hc : CT d mX8_refuse [vR 45, vI (-3)] g (qI R)) (k : ∀ (x : Int) (gg : pG), R x gg → EV d mX8_back Q 18 [vR 45, vX 2] [vI x] gg) : EV d mX8_back Q 12 [vR 45, vX 2] [] g := by
  refine wp_aload_n dX8_back_12 rfl rfl ?_
  refine wp_bipush dX8_back_13 kb_m3 kc_m3 ?_
  exact wp_callvI (As := [vI (-3)]) dX8_back_15 ml_8_164 (by decide) rfl L_45 (by decide) rfl (Nat.le_of_ble_eq_true rfl) rfl (Nat.le_refl _) (Nat.le_refl _) hc k
theorem b_X8_back_18 {d : Nat} {Q : Option pV → pG → Prop} {g : pG} {vs0 : Int} (hq : Q (some (vI vs0)) g) : EV d mX8_back Q 18 [vR 45, vX 2] [vI vs0] g := by
  exact wp_iret dX8_back_18 rfl hq
theorem b_X8_back_19 {d : Nat} {Q : Option pV → pG → Prop} {g : pG} (k : EV d mX8_back Q 31 [vR 45, vI 0] [] (cset g 45 (fup (g 45) 28 (w32 (((g 45) 28) - 1))))) : EV d mX8_back Q 19 [vR 45, vX 2] [] g := by
  refine wp_aload_n dX8_back_19 rfl rfl ?_
  refine wp_dup dX8_back_20 rfl ?_
  refine wp_get (v := vI ((g 45) 28)) dX8_back_21 fl_8_212 L_45 rfl ?_
  refine wp_iconst dX8_back_24 kc_1 ?_
  refine wp_isub dX8_back_25 ?_
  refine wp_putI dX8_back_26 fl_8_212 L_45 rfl rfl ?_
  refine wp_iconst dX8_back_29 kc_0 ?_
  refine wp_istore_n dX8_back_30 (Nat.le_of_ble_eq_true rfl) (pp (c := 0) rfl rfl) ?_
  exact k
theorem b_X8_back_31 {d : Nat} {Q : Option pV → pG → Prop} {g : pG} {v1 : Int} (k1 : (33 ≤ v1) → EV d mX8_back Q 63 [vR 45, vI v1] [] g) (k2 : ¬ (33 ≤ v1) → EV d mX8_back Q 37 [vR 45, vI v1] [] g) : EV d mX8_back Q 31 [vR 45, vI v1] [] g := by
  refine wp_iload_n dX8_back_31 rfl ?_
  refine wp_bipush dX8_back_32 kb_33 kc_33 ?_
  exact wp_icmp_ge (tgt := 63) dX8_back_34 rfl k1 k2
theorem b_X8_back_37 {d : Nat} {Q : Option pV → pG → Prop} {g : pG} {v1 : Int} (h1 : 0 ≤ w32 ((w32 (33 * ((g 45) 28))) + v1)) (h2 : w32 ((w32 (33 * ((g 45) 28))) + v1) < 264) (h3 : 0 ≤ v1) (h4 : v1 < 33) (k : EV d mX8_back Q 31 [vR 45, vI (w32 (v1 + 1))] [] (cset g 59 (fup (g 59) v1.toNat ((g 58) (w32 ((w32 (33 * ((g 45) 28))) + v1)).toNat)))) : EV d mX8_back Q 37 [vR 45, vI v1] [] g := by
  refine wp_aload_n dX8_back_37 rfl rfl ?_
  refine wp_get (v := vR 59) dX8_back_38 fl_8_59 L_45 rfl ?_
  refine wp_iload_n dX8_back_41 rfl ?_
  refine wp_aload_n dX8_back_42 rfl rfl ?_
  refine wp_get (v := vR 58) dX8_back_43 fl_8_56 L_45 rfl ?_
  refine wp_bipush dX8_back_46 kb_33 kc_33 ?_
  refine wp_aload_n dX8_back_48 rfl rfl ?_
  refine wp_get (v := vI ((g 45) 28)) dX8_back_49 fl_8_212 L_45 rfl ?_
  refine wp_imul dX8_back_52 ?_
  refine wp_iload_n dX8_back_53 rfl ?_
  refine wp_iadd dX8_back_54 ?_
  refine wp_iaload dX8_back_55 h1 L_58 h2 ?_
  refine wp_iastore dX8_back_56 h3 L_59 h4 ?_
  refine wp_iinc dX8_back_57 rfl (Nat.le_of_ble_eq_true rfl) (pp (c := 0) rfl rfl) ?_
  refine wp_goto (tgt := 31) dX8_back_60 rfl ?_
  exact k
theorem b_X8_back_63 {d : Nat} {Q : Option pV → pG → Prop} {g : pG} {v1 : Int} {R : pG → Prop} (hc : CT d mX8_carryAll [vR 45, vR 59, vI 0] g (qV R)) (k : ∀ gg : pG, R gg → EV d mX8_back Q 72 [vR 45, vI v1] [] gg) : EV d mX8_back Q 63 [vR 45, vI v1] [] g := by
  refine wp_aload_n dX8_back_63 rfl rfl ?_
  refine wp_aload_n dX8_back_64 rfl rfl ?_
  refine wp_get (v := vR 59) dX8_back_65 fl_8_59 L_45 rfl ?_
  refine wp_iconst dX8_back_68 kc_0 ?_
  exact wp_callvV (As := [vR 59, vI 0]) dX8_back_69 ml_8_205 (by decide) rfl L_45 (by decide) rfl (Nat.le_of_ble_eq_true rfl) rfl (Nat.le_refl _) (Nat.le_refl _) hc k
theorem b_X8_back_72 {d : Nat} {Q : Option pV → pG → Prop} {g : pG} {v1 : Int} (hq : Q (some (vI ((g 45) 28))) g) : EV d mX8_back Q 72 [vR 45, vI v1] [] g := by
  refine wp_aload_n dX8_back_72 rfl rfl ?_
  refine wp_get (v := vI ((g 45) 28)) dX8_back_73 fl_8_212 L_45 rfl ?_
  exact wp_iret dX8_back_76 rfl hq
theorem b_X8_court_0 {d : Nat} {Q : Option pV → pG → Prop} {g : pG} {v1 v2 : Int} {R : Int → pG → Prop} (hc : CT d mX8_isCourt [vR 45, vI v1] (cset g 45 (fup (g 45) 8 0)) (qI R)) (k : ∀ (x : Int) (gg : pG), R x gg → EV d mX8_court Q 10 [vR 45, vI v1, vI v2] [vI x] gg) : EV d mX8_court Q 0 [vR 45, vI v1, vI v2] [] g := by
  refine wp_aload_n dX8_court_0 rfl rfl ?_
  refine wp_iconst dX8_court_1 kc_0 ?_
  refine wp_putI dX8_court_2 fl_8_105 L_45 rfl rfl ?_
  refine wp_aload_n dX8_court_5 rfl rfl ?_
  refine wp_iload_n dX8_court_6 rfl ?_
  exact wp_callvI (As := [vI v1]) dX8_court_7 ml_8_230 (by decide) rfl L_45 (by decide) rfl (Nat.le_of_ble_eq_true rfl) rfl (Nat.le_refl _) (Nat.le_refl _) hc k
theorem b_X8_court_10 {d : Nat} {Q : Option pV → pG → Prop} {g : pG} {v1 v2 vs0 : Int} (k1 : (vs0 = 0) → EV d mX8_court Q 25 [vR 45, vI v1, vI v2] [] g) (k2 : ¬ (vs0 = 0) → EV d mX8_court Q 13 [vR 45, vI v1, vI v2] [] g) : EV d mX8_court Q 10 [vR 45, vI v1, vI v2] [vI vs0] g := by
  exact wp_if_eq (tgt := 25) dX8_court_10 rfl k1 k2
theorem b_X8_court_13 {d : Nat} {Q : Option pV → pG → Prop} {g : pG} {v1 v2 : Int} {R : Int → pG → Prop} (hc : CT d mX8_in [vL v2, vL 0, vL 2] g (qI R)) (k : ∀ (x : Int) (gg : pG), R x gg → EV d mX8_court Q 22 [vR 45, vI v1, vI v2] [vI x] gg) : EV d mX8_court Q 13 [vR 45, vI v1, vI v2] [] g := by
  refine wp_iload_n dX8_court_13 rfl ?_
  refine wp_i2l dX8_court_14 ?_
  refine wp_lconst (x := 0) dX8_court_15 rfl ?_
  refine wp_ldc2_w dX8_court_16 k2_8_233 ?_
  exact wp_callsI (As := [vL v2, vL 0, vL 2]) dX8_court_19 ml_8_111 (Or.inl rfl) rfl (Nat.le_of_ble_eq_true rfl) rfl (Nat.le_refl _) (Nat.le_refl _) hc k
theorem b_X8_court_22 {d : Nat} {Q : Option pV → pG → Prop} {g : pG} {v1 v2 vs0 : Int} (k1 : (vs0 ≠ 0) → EV d mX8_court Q 44 [vR 45, vI v1, vI v2] [] g) (k2 : ¬ (vs0 ≠ 0) → EV d mX8_court Q 25 [vR 45, vI v1, vI v2] [] g) : EV d mX8_court Q 22 [vR 45, vI v1, vI v2] [vI vs0] g := by
  exact wp_if_ne (tgt := 44) dX8_court_22 rfl k1 k2
theorem b_X8_court_25 {d : Nat} {Q : Option pV → pG → Prop} {g : pG} {v1 v2 : Int} {R : Int → pG → Prop} (hc : CT d mX8_isCourt [vR 45, vI v1] g (qI R)) (k : ∀ (x : Int) (gg : pG), R x gg → EV d mX8_court Q 31 [vR 45, vI v1, vI v2] [vI x, vR 45] gg) : EV d mX8_court Q 25 [vR 45, vI v1, vI v2] [] g := by
  refine wp_aload_n dX8_court_25 rfl rfl ?_
  refine wp_aload_n dX8_court_26 rfl rfl ?_
  refine wp_iload_n dX8_court_27 rfl ?_
  exact wp_callvI (As := [vI v1]) dX8_court_28 ml_8_230 (by decide) rfl L_45 (by decide) rfl (Nat.le_of_ble_eq_true rfl) rfl (Nat.le_refl _) (Nat.le_refl _) hc k
theorem b_X8_court_31 {d : Nat} {Q : Option pV → pG → Prop} {g : pG} {v1 v2 vs1 : Int} (k1 : (vs1 = 0) → EV d mX8_court Q 39 [vR 45, vI v1, vI v2] [vR 45] g) (k2 : ¬ (vs1 = 0) → EV d mX8_court Q 34 [vR 45, vI v1, vI v2] [vR 45] g) : EV d mX8_court Q 31 [vR 45, vI v1, vI v2] [vI vs1, vR 45] g := by
  exact wp_if_eq (tgt := 39) dX8_court_31 rfl k1 k2
theorem b_X8_court_34 {d : Nat} {Q : Option pV → pG → Prop} {g : pG} {v1 v2 : Int} {R : Int → pG → Prop} (hc : CT d mX8_refuse [vR 45, vI (-2)] g (qI R)) (k : ∀ (x : Int) (gg : pG), R x gg → EV d mX8_court Q 43 [vR 45, vI v1, vI v2] [vI x] gg) : EV d mX8_court Q 34 [vR 45, vI v1, vI v2] [vR 45] g := by
  refine wp_bipush dX8_court_34 kb_m2 kc_m2 ?_
  refine wp_goto (tgt := 40) dX8_court_36 rfl ?_
  exact wp_callvI (As := [vI (-2)]) dX8_court_40 ml_8_164 (by decide) rfl L_45 (by decide) rfl (Nat.le_of_ble_eq_true rfl) rfl (Nat.le_refl _) (Nat.le_refl _) hc k
theorem b_X8_court_39 {d : Nat} {Q : Option pV → pG → Prop} {g : pG} {v1 v2 : Int} {R : Int → pG → Prop} (hc : CT d mX8_refuse [vR 45, vI (-1)] g (qI R)) (k : ∀ (x : Int) (gg : pG), R x gg → EV d mX8_court Q 43 [vR 45, vI v1, vI v2] [vI x] gg) : EV d mX8_court Q 39 [vR 45, vI v1, vI v2] [vR 45] g := by
  refine wp_iconst dX8_court_39 kc_m1 ?_
  exact wp_callvI (As := [vI (-1)]) dX8_court_40 ml_8_164 (by decide) rfl L_45 (by decide) rfl (Nat.le_of_ble_eq_true rfl) rfl (Nat.le_refl _) (Nat.le_refl _) hc k
theorem b_X8_court_43 {d : Nat} {Q : Option pV → pG → Prop} {g : pG} {v1 v2 vs0 : Int} (hq : Q (some (vI vs0)) g) : EV d mX8_court Q 43 [vR 45, vI v1, vI v2] [vI vs0] g := by
  exact wp_iret dX8_court_43 rfl hq
theorem b_X8_court_44 {d : Nat} {Q : Option pV → pG → Prop} {g : pG} {v1 v2 : Int} (k1 : (v2 ≠ 0) → EV d mX8_court Q 57 [vR 45, vI v1, vI v2] [] g) (k2 : ¬ (v2 ≠ 0) → EV d mX8_court Q 48 [vR 45, vI v1, vI v2] [] g) : EV d mX8_court Q 44 [vR 45, vI v1, vI v2] [] g := by
  refine wp_iload_n dX8_court_44 rfl ?_
  exact wp_if_ne (tgt := 57) dX8_court_45 rfl k1 k2
theorem b_X8_court_48 {d : Nat} {Q : Option pV → pG → Prop} {g : pG} {v1 v2 : Int} (h1 : 0 ≤ v1) (h2 : v1 < 7) (hq : Q (some (vI ((g 46) v1.toNat))) g) : EV d mX8_court Q 48 [vR 45, vI v1, vI v2] [] g := by
  refine wp_aload_n dX8_court_48 rfl rfl ?_
  refine wp_get (v := vR 46) dX8_court_49 fl_8_7 L_45 rfl ?_
  refine wp_iload_n dX8_court_52 rfl ?_
  refine wp_iaload dX8_court_53 h1 L_46 h2 ?_
  refine wp_goto (tgt := 77) dX8_court_54 rfl ?_
  exact wp_iret dX8_court_77 rfl hq
theorem b_X8_court_57 {d : Nat} {Q : Option pV → pG → Prop} {g : pG} {v1 v2 : Int} (k1 : (v2 ≠ 1) → EV d mX8_court Q 71 [vR 45, vI v1, vI v2] [] g) (k2 : ¬ (v2 ≠ 1) → EV d mX8_court Q 62 [vR 45, vI v1, vI v2] [] g) : EV d mX8_court Q 57 [vR 45, vI v1, vI v2] [] g := by
  refine wp_iload_n dX8_court_57 rfl ?_
  refine wp_iconst dX8_court_58 kc_1 ?_
  exact wp_icmp_ne (tgt := 71) dX8_court_59 rfl k1 k2
theorem b_X8_court_62 {d : Nat} {Q : Option pV → pG → Prop} {g : pG} {v1 v2 : Int} (h1 : 0 ≤ v1) (h2 : v1 < 7) (hq : Q (some (vI ((g 47) v1.toNat))) g) : EV d mX8_court Q 62 [vR 45, vI v1, vI v2] [] g := by
  refine wp_aload_n dX8_court_62 rfl rfl ?_
  refine wp_get (v := vR 47) dX8_court_63 fl_8_13 L_45 rfl ?_
  refine wp_iload_n dX8_court_66 rfl ?_
  refine wp_iaload dX8_court_67 h1 L_47 h2 ?_
  refine wp_goto (tgt := 77) dX8_court_68 rfl ?_
  exact wp_iret dX8_court_77 rfl hq
theorem b_X8_court_71 {d : Nat} {Q : Option pV → pG → Prop} {g : pG} {v1 v2 : Int} (h1 : 0 ≤ v1) (h2 : v1 < 7) (hq : Q (some (vI ((g 48) v1.toNat))) g) : EV d mX8_court Q 71 [vR 45, vI v1, vI v2] [] g := by
  refine wp_aload_n dX8_court_71 rfl rfl ?_
  refine wp_get (v := vR 48) dX8_court_72 fl_8_16 L_45 rfl ?_
  refine wp_iload_n dX8_court_75 rfl ?_
  refine wp_iaload dX8_court_76 h1 L_48 h2 ?_
  exact wp_iret dX8_court_77 rfl hq
theorem b_X8_isCourt_0 {d : Nat} {Q : Option pV → pG → Prop} {g : pG} {v1 : Int} {R : Int → pG → Prop} (hc : CT d mX8_in [vL v1, vL 0, vL (w32 (((g 45) 0) - 1))] g (qI R)) (k : ∀ (x : Int) (gg : pG), R x gg → EV d mX8_isCourt Q 13 [vR 45, vI v1] [vI x] gg) : EV d mX8_isCourt Q 0 [vR 45, vI v1] [] g := by
  refine wp_iload_n dX8_isCourt_0 rfl ?_
  refine wp_i2l dX8_isCourt_1 ?_
  refine wp_lconst (x := 0) dX8_isCourt_2 rfl ?_
  refine wp_aload_n dX8_isCourt_3 rfl rfl ?_
  refine wp_get (v := vI ((g 45) 0)) dX8_isCourt_4 fl_8_108 L_45 rfl ?_
  refine wp_iconst dX8_isCourt_7 kc_1 ?_
  refine wp_isub dX8_isCourt_8 ?_
  refine wp_i2l dX8_isCourt_9 ?_
  exact wp_callsI (As := [vL v1, vL 0, vL (w32 (((g 45) 0) - 1))]) dX8_isCourt_10 ml_8_111 (Or.inl rfl) rfl (Nat.le_of_ble_eq_true rfl) rfl (Nat.le_refl _) (Nat.le_refl _) hc k
theorem b_X8_isCourt_13 {d : Nat} {Q : Option pV → pG → Prop} {g : pG} {v1 vs0 : Int} (h1 : vs0 = 0 ∨ vs0 = 1) (hq : Q (some (vI vs0)) g) : EV d mX8_isCourt Q 13 [vR 45, vI v1] [vI vs0] g := by
  exact wp_zret dX8_isCourt_13 rfl h1 hq
theorem b_X8_point_0 {d : Nat} {Q : Option pV → pG → Prop} {g : pG} {v1 v2 : Int} {R : Int → pG → Prop} (hc : CT d mX8_in [vL v1, vL 0, vL (w32 (((fup (g 45) 8 0) 4) - 1))] (cset g 45 (fup (g 45) 8 0)) (qI R)) (k : ∀ (x : Int) (gg : pG), R x gg → EV d mX8_point Q 18 [vR 45, vI v1, vI v2, vX 2, vX 2] [vI x] gg) : EV d mX8_point Q 0 [vR 45, vI v1, vI v2, vX 2, vX 2] [] g := by
  refine wp_aload_n dX8_point_0 rfl rfl ?_
  refine wp_iconst dX8_point_1 kc_0 ?_
  refine wp_putI dX8_point_2 fl_8_105 L_45 rfl rfl ?_
  refine wp_iload_n dX8_point_5 rfl ?_
  refine wp_i2l dX8_point_6 ?_
  refine wp_lconst (x := 0) dX8_point_7 rfl ?_
  refine wp_aload_n dX8_point_8 rfl rfl ?_
  refine wp_get (v := vI ((fup (g 45) 8 0) 4)) dX8_point_9 fl_8_19 L_45 rfl ?_
  refine wp_iconst dX8_point_12 kc_1 ?_
  refine wp_isub dX8_point_13 ?_
  refine wp_i2l dX8_point_14 ?_
  exact wp_callsI (As := [vL v1, vL 0, vL (w32 (((fup (g 45) 8 0) 4) - 1))]) dX8_point_15 ml_8_111 (Or.inl rfl) rfl (Nat.le_of_ble_eq_true rfl) rfl (Nat.le_refl _) (Nat.le_refl _) hc k
theorem b_X8_point_18 {d : Nat} {Q : Option pV → pG → Prop} {g : pG} {v1 v2 vs0 : Int} (k1 : (vs0 = 0) → EV d mX8_point Q 32 [vR 45, vI v1, vI v2, vX 2, vX 2] [] g) (k2 : ¬ (vs0 = 0) → EV d mX8_point Q 21 [vR 45, vI v1, vI v2, vX 2, vX 2] [] g) : EV d mX8_point Q 18 [vR 45, vI v1, vI v2, vX 2, vX 2] [vI vs0] g := by
  exact wp_if_eq (tgt := 32) dX8_point_18 rfl k1 k2
theorem b_X8_point_21 {d : Nat} {Q : Option pV → pG → Prop} {g : pG} {v1 v2 : Int} {R : Int → pG → Prop} (hc : CT d mX8_wrongNumber [vI v2, vI (-9), vI 9] g (qI R)) (k : ∀ (x : Int) (gg : pG), R x gg → EV d mX8_point Q 29 [vR 45, vI v1, vI v2, vX 2, vX 2] [vI x] gg) : EV d mX8_point Q 21 [vR 45, vI v1, vI v2, vX 2, vX 2] [] g := by
  refine wp_iload_n dX8_point_21 rfl ?_
  refine wp_bipush dX8_point_22 kb_m9 kc_m9 ?_
  refine wp_bipush dX8_point_24 kb_9 kc_9 ?_
  exact wp_callsI (As := [vI v2, vI (-9), vI 9]) dX8_point_26 ml_8_235 (Or.inl rfl) rfl (Nat.le_of_ble_eq_true rfl) rfl (Nat.le_refl _) (Nat.le_refl _) hc k
theorem b_X8_point_29 {d : Nat} {Q : Option pV → pG → Prop} {g : pG} {v1 v2 vs0 : Int} (k1 : (0 ≤ vs0) → EV d mX8_point Q 47 [vR 45, vI v1, vI v2, vI vs0, vX 2] [] g) (k2 : ¬ (0 ≤ vs0) → EV d mX8_point Q 38 [vR 45, vI v1, vI v2, vI vs0, vX 2] [] g) : EV d mX8_point Q 29 [vR 45, vI v1, vI v2, vX 2, vX 2] [vI vs0] g := by
  refine wp_goto (tgt := 33) dX8_point_29 rfl ?_
  refine wp_istore_n dX8_point_33 (Nat.le_of_ble_eq_true rfl) (pp (c := 2) rfl rfl) ?_
  refine wp_iload_n dX8_point_34 rfl ?_
  exact wp_if_ge (tgt := 47) dX8_point_35 rfl k1 k2
theorem b_X8_point_32 {d : Nat} {Q : Option pV → pG → Prop} {g : pG} {v1 v2 : Int} {R : Int → pG → Prop} (hc : CT d mX8_refuse [vR 45, vI (-1)] g (qI R)) (k : ∀ (x : Int) (gg : pG), R x gg → EV d mX8_point Q 45 [vR 45, vI v1, vI v2, vI (-1), vX 2] [vI x, vI 1000000000] gg) : EV d mX8_point Q 32 [vR 45, vI v1, vI v2, vX 2, vX 2] [] g := by
  refine wp_iconst dX8_point_32 kc_m1 ?_
  refine wp_istore_n dX8_point_33 (Nat.le_of_ble_eq_true rfl) (pp (c := 2) rfl rfl) ?_
  refine wp_iload_n dX8_point_34 rfl ?_
  refine wp_if_ge (tgt := 47) dX8_point_35 rfl (fun hh => absurd hh (by decide)) (fun _ => ?_)
  refine wp_ldc dX8_point_38 kl_8_239 ?_
  refine wp_aload_n dX8_point_40 rfl rfl ?_
  refine wp_iload_n dX8_point_41 rfl ?_
  exact wp_callvI (As := [vI (-1)]) dX8_point_42 ml_8_164 (by decide) rfl L_45 (by decide) rfl (Nat.le_of_ble_eq_true rfl) rfl (Nat.le_refl _) (Nat.le_refl _) hc k
theorem b_X8_point_38 {d : Nat} {Q : Option pV → pG → Prop} {g : pG} {v1 v2 v3 : Int} {R : Int → pG → Prop} (hc : CT d mX8_refuse [vR 45, vI v3] g (qI R)) (k : ∀ (x : Int) (gg : pG), R x gg → EV d mX8_point Q 45 [vR 45, vI v1, vI v2, vI v3, vX 2] [vI x, vI 1000000000] gg) : EV d mX8_point Q 38 [vR 45, vI v1, vI v2, vI v3, vX 2] [] g := by
  refine wp_ldc dX8_point_38 kl_8_239 ?_
  refine wp_aload_n dX8_point_40 rfl rfl ?_
  refine wp_iload_n dX8_point_41 rfl ?_
  exact wp_callvI (As := [vI v3]) dX8_point_42 ml_8_164 (by decide) rfl L_45 (by decide) rfl (Nat.le_of_ble_eq_true rfl) rfl (Nat.le_refl _) (Nat.le_refl _) hc k
theorem b_X8_point_45 {d : Nat} {Q : Option pV → pG → Prop} {g : pG} {v1 v2 v3 vs0 vs1 : Int} (hq : Q (some (vI (w32 (vs0 - vs1)))) g) : EV d mX8_point Q 45 [vR 45, vI v1, vI v2, vI v3, vX 2] [vI vs1, vI vs0] g := by
  refine wp_isub dX8_point_45 ?_
  exact wp_iret dX8_point_46 rfl hq
theorem b_X8_point_47 {d : Nat} {Q : Option pV → pG → Prop} {g : pG} {v1 v2 v3 : Int} {R : pG → Prop} (hc : CT d mX8_keepTurn [vR 45] g (qV R)) (k : ∀ gg : pG, R gg → EV d mX8_point Q 51 [vR 45, vI v1, vI v2, vI v3, vX 2] [] gg) : EV d mX8_point Q 47 [vR 45, vI v1, vI v2, vI v3, vX 2] [] g := by
  refine wp_aload_n dX8_point_47 rfl rfl ?_
  exact wp_callvV (As := []) dX8_point_48 ml_8_240 (by decide) rfl L_45 (by decide) rfl (Nat.le_of_ble_eq_true rfl) rfl (Nat.le_refl _) (Nat.le_refl _) hc k
theorem b_X8_point_51 {d : Nat} {Q : Option pV → pG → Prop} {g : pG} {v1 v2 v3 : Int} (h1 : 0 ≤ v1) (h2 : v1 < 8) (hq : Q (some (vI ((g 49) v1.toNat))) (cset g 49 (fup (g 49) v1.toNat v2))) : EV d mX8_point Q 51 [vR 45, vI v1, vI v2, vI v3, vX 2] [] g := by
  refine wp_aload_n dX8_point_51 rfl rfl ?_
  refine wp_get (v := vR 49) dX8_point_52 fl_8_23 L_45 rfl ?_
  refine wp_iload_n dX8_point_55 rfl ?_
  refine wp_iaload dX8_point_56 h1 L_49 h2 ?_
  refine wp_istore dX8_point_57 (Nat.le_of_ble_eq_true rfl) (pp (c := 3) rfl rfl) ?_
  refine wp_aload_n dX8_point_59 rfl rfl ?_
  refine wp_get (v := vR 49) dX8_point_60 fl_8_23 L_45 rfl ?_
  refine wp_iload_n dX8_point_63 rfl ?_
  refine wp_iload_n dX8_point_64 rfl ?_
  refine wp_iastore dX8_point_65 h1 L_49 h2 ?_
  refine wp_iload dX8_point_66 rfl ?_
  exact wp_iret dX8_point_68 rfl hq
theorem b_X8_wrongNumber_0 {d : Nat} {Q : Option pV → pG → Prop} {g : pG} {v0 v1 v2 : Int} (k1 : (v1 ≤ v0) → EV d mX8_wrongNumber Q 10 [vI v0, vI v1, vI v2] [] g) (k2 : ¬ (v1 ≤ v0) → EV d mX8_wrongNumber Q 5 [vI v0, vI v1, vI v2] [] g) : EV d mX8_wrongNumber Q 0 [vI v0, vI v1, vI v2] [] g := by
  refine wp_iload_n dX8_wrongNumber_0 rfl ?_
  refine wp_iload_n dX8_wrongNumber_1 rfl ?_
  exact wp_icmp_ge (tgt := 10) dX8_wrongNumber_2 rfl k1 k2
theorem b_X8_wrongNumber_5 {d : Nat} {Q : Option pV → pG → Prop} {g : pG} {v0 v1 v2 : Int} (hq : Q (some (vI (-4))) g) : EV d mX8_wrongNumber Q 5 [vI v0, vI v1, vI v2] [] g := by
  refine wp_bipush dX8_wrongNumber_5 kb_m4 kc_m4 ?_
  refine wp_goto (tgt := 21) dX8_wrongNumber_7 rfl ?_
  exact wp_iret dX8_wrongNumber_21 rfl hq
theorem b_X8_wrongNumber_10 {d : Nat} {Q : Option pV → pG → Prop} {g : pG} {v0 v1 v2 : Int} (k1 : (v0 ≤ v2) → EV d mX8_wrongNumber Q 20 [vI v0, vI v1, vI v2] [] g) (k2 : ¬ (v0 ≤ v2) → EV d mX8_wrongNumber Q 15 [vI v0, vI v1, vI v2] [] g) : EV d mX8_wrongNumber Q 10 [vI v0, vI v1, vI v2] [] g := by
  refine wp_iload_n dX8_wrongNumber_10 rfl ?_
  refine wp_iload_n dX8_wrongNumber_11 rfl ?_
  exact wp_icmp_le (tgt := 20) dX8_wrongNumber_12 rfl k1 k2
theorem b_X8_wrongNumber_15 {d : Nat} {Q : Option pV → pG → Prop} {g : pG} {v0 v1 v2 : Int} (hq : Q (some (vI (-6))) g) : EV d mX8_wrongNumber Q 15 [vI v0, vI v1, vI v2] [] g := by
  refine wp_bipush dX8_wrongNumber_15 kb_m6 kc_m6 ?_
  refine wp_goto (tgt := 21) dX8_wrongNumber_17 rfl ?_
  exact wp_iret dX8_wrongNumber_21 rfl hq
theorem b_X8_wrongNumber_20 {d : Nat} {Q : Option pV → pG → Prop} {g : pG} {v0 v1 v2 : Int} (hq : Q (some (vI 0)) g) : EV d mX8_wrongNumber Q 20 [vI v0, vI v1, vI v2] [] g := by
  refine wp_iconst dX8_wrongNumber_20 kc_0 ?_
  exact wp_iret dX8_wrongNumber_21 rfl hq
theorem b_X8_keepTurn_0 {d : Nat} {Q : Option pV → pG → Prop} {g : pG} (k1 : ((g 45) 28 ≠ 8) → EV d mX8_keepTurn Q 50 [vR 45, vX 2] [] g) (k2 : ¬ ((g 45) 28 ≠ 8) → EV d mX8_keepTurn Q 9 [vR 45, vX 2] [] g) : EV d mX8_keepTurn Q 0 [vR 45, vX 2] [] g := by
  refine wp_aload_n dX8_keepTurn_0 rfl rfl ?_
  refine wp_get (v := vI ((g 45) 28)) dX8_keepTurn_1 fl_8_212 L_45 rfl ?_
  refine wp_bipush dX8_keepTurn_4 kb_8 kc_8 ?_
  exact wp_icmp_ne (tgt := 50) dX8_keepTurn_6 rfl k1 k2
theorem b_X8_keepTurn_9 {d : Nat} {Q : Option pV → pG → Prop} {g : pG} (k : EV d mX8_keepTurn Q 12 [vR 45, vI 33] [] g) : EV d mX8_keepTurn Q 9 [vR 45, vX 2] [] g := by
  refine wp_bipush dX8_keepTurn_9 kb_33 kc_33 ?_
  refine wp_istore_n dX8_keepTurn_11 (Nat.le_of_ble_eq_true rfl) (pp (c := 0) rfl rfl) ?_
  exact k
theorem b_X8_keepTurn_12 {d : Nat} {Q : Option pV → pG → Prop} {g : pG} {v1 : Int} (k1 : (264 ≤ v1) → EV d mX8_keepTurn Q 40 [vR 45, vI v1] [] g) (k2 : ¬ (264 ≤ v1) → EV d mX8_keepTurn Q 19 [vR 45, vI v1] [] g) : EV d mX8_keepTurn Q 12 [vR 45, vI v1] [] g := by
  refine wp_iload_n dX8_keepTurn_12 rfl ?_
  refine wp_sipush dX8_keepTurn_13 ks_264 kc_264 ?_
  exact wp_icmp_ge (tgt := 40) dX8_keepTurn_16 rfl k1 k2
theorem b_X8_keepTurn_19 {d : Nat} {Q : Option pV → pG → Prop} {g : pG} {v1 : Int} (h1 : 0 ≤ v1) (h2 : v1 < 264) (h3 : 0 ≤ w32 (v1 - 33)) (h4 : w32 (v1 - 33) < 264) (k : EV d mX8_keepTurn Q 12 [vR 45, vI (w32 (v1 + 1))] [] (cset g 58 (fup (g 58) (w32 (v1 - 33)).toNat ((g 58) v1.toNat)))) : EV d mX8_keepTurn Q 19 [vR 45, vI v1] [] g := by
  refine wp_aload_n dX8_keepTurn_19 rfl rfl ?_
  refine wp_get (v := vR 58) dX8_keepTurn_20 fl_8_56 L_45 rfl ?_
  refine wp_iload_n dX8_keepTurn_23 rfl ?_
  refine wp_bipush dX8_keepTurn_24 kb_33 kc_33 ?_
  refine wp_isub dX8_keepTurn_26 ?_
  refine wp_aload_n dX8_keepTurn_27 rfl rfl ?_
  refine wp_get (v := vR 58) dX8_keepTurn_28 fl_8_56 L_45 rfl ?_
  refine wp_iload_n dX8_keepTurn_31 rfl ?_
  refine wp_iaload dX8_keepTurn_32 h1 L_58 h2 ?_
  refine wp_iastore dX8_keepTurn_33 h3 L_58 h4 ?_
  refine wp_iinc dX8_keepTurn_34 rfl (Nat.le_of_ble_eq_true rfl) (pp (c := 0) rfl rfl) ?_
  refine wp_goto (tgt := 12) dX8_keepTurn_37 rfl ?_
  exact k
theorem b_X8_keepTurn_40 {d : Nat} {Q : Option pV → pG → Prop} {g : pG} {v1 : Int} {R : pG → Prop} (hc : CT d mX8_carryAll [vR 45, vR 59, vI 1] (cset g 45 (fup (g 45) 28 (w32 (((g 45) 28) - 1)))) (qV R)) (k : ∀ gg : pG, R gg → EV d mX8_keepTurn Q 59 [vR 45, vI v1] [] gg) : EV d mX8_keepTurn Q 40 [vR 45, vI v1] [] g := by
  refine wp_aload_n dX8_keepTurn_40 rfl rfl ?_
  refine wp_dup dX8_keepTurn_41 rfl ?_
  refine wp_get (v := vI ((g 45) 28)) dX8_keepTurn_42 fl_8_212 L_45 rfl ?_
  refine wp_iconst dX8_keepTurn_45 kc_1 ?_
  refine wp_isub dX8_keepTurn_46 ?_
  refine wp_putI dX8_keepTurn_47 fl_8_212 L_45 rfl rfl ?_
  refine wp_aload_n dX8_keepTurn_50 rfl rfl ?_
  refine wp_aload_n dX8_keepTurn_51 rfl rfl ?_
  refine wp_get (v := vR 59) dX8_keepTurn_52 fl_8_59 L_45 rfl ?_
  refine wp_iconst dX8_keepTurn_55 kc_1 ?_
  exact wp_callvV (As := [vR 59, vI 1]) dX8_keepTurn_56 ml_8_205 (by decide) rfl L_45 (by decide) rfl (Nat.le_of_ble_eq_true rfl) rfl (Nat.le_refl _) (Nat.le_refl _) hc k
theorem b_X8_keepTurn_50 {d : Nat} {Q : Option pV → pG → Prop} {g : pG} {R : pG → Prop} (hc : CT d mX8_carryAll [vR 45, vR 59, vI 1] g (qV R)) (k : ∀ gg : pG, R gg → EV d mX8_keepTurn Q 59 [vR 45, vX 2] [] gg) : EV d mX8_keepTurn Q 50 [vR 45, vX 2] [] g := by
  refine wp_aload_n dX8_keepTurn_50 rfl rfl ?_
  refine wp_aload_n dX8_keepTurn_51 rfl rfl ?_
  refine wp_get (v := vR 59) dX8_keepTurn_52 fl_8_59 L_45 rfl ?_
  refine wp_iconst dX8_keepTurn_55 kc_1 ?_
  exact wp_callvV (As := [vR 59, vI 1]) dX8_keepTurn_56 ml_8_205 (by decide) rfl L_45 (by decide) rfl (Nat.le_of_ble_eq_true rfl) rfl (Nat.le_refl _) (Nat.le_refl _) hc k
theorem b_X8_keepTurn_59 {d : Nat} {Q : Option pV → pG → Prop} {g : pG} {u1 : pV} (k : EV d mX8_keepTurn Q 61 [vR 45, vI 0] [] g) : EV d mX8_keepTurn Q 59 [vR 45, u1] [] g := by
  refine wp_iconst dX8_keepTurn_59 kc_0 ?_
  refine wp_istore_n dX8_keepTurn_60 (Nat.le_of_ble_eq_true rfl) (pp (c := 0) rfl rfl) ?_
  exact k
theorem b_X8_keepTurn_61 {d : Nat} {Q : Option pV → pG → Prop} {g : pG} {v1 : Int} (k1 : (33 ≤ v1) → EV d mX8_keepTurn Q 93 [vR 45, vI v1] [] g) (k2 : ¬ (33 ≤ v1) → EV d mX8_keepTurn Q 67 [vR 45, vI v1] [] g) : EV d mX8_keepTurn Q 61 [vR 45, vI v1] [] g := by
  refine wp_iload_n dX8_keepTurn_61 rfl ?_
  refine wp_bipush dX8_keepTurn_62 kb_33 kc_33 ?_
  exact wp_icmp_ge (tgt := 93) dX8_keepTurn_64 rfl k1 k2
theorem b_X8_keepTurn_67 {d : Nat} {Q : Option pV → pG → Prop} {g : pG} {v1 : Int} (h1 : 0 ≤ v1) (h2 : v1 < 33) (h3 : 0 ≤ w32 ((w32 (33 * ((g 45) 28))) + v1)) (h4 : w32 ((w32 (33 * ((g 45) 28))) + v1) < 264) (k : EV d mX8_keepTurn Q 61 [vR 45, vI (w32 (v1 + 1))] [] (cset g 58 (fup (g 58) (w32 ((w32 (33 * ((g 45) 28))) + v1)).toNat ((g 59) v1.toNat)))) : EV d mX8_keepTurn Q 67 [vR 45, vI v1] [] g := by
  refine wp_aload_n dX8_keepTurn_67 rfl rfl ?_
  refine wp_get (v := vR 58) dX8_keepTurn_68 fl_8_56 L_45 rfl ?_
  refine wp_bipush dX8_keepTurn_71 kb_33 kc_33 ?_
  refine wp_aload_n dX8_keepTurn_73 rfl rfl ?_
  refine wp_get (v := vI ((g 45) 28)) dX8_keepTurn_74 fl_8_212 L_45 rfl ?_
  refine wp_imul dX8_keepTurn_77 ?_
  refine wp_iload_n dX8_keepTurn_78 rfl ?_
  refine wp_iadd dX8_keepTurn_79 ?_
  refine wp_aload_n dX8_keepTurn_80 rfl rfl ?_
  refine wp_get (v := vR 59) dX8_keepTurn_81 fl_8_59 L_45 rfl ?_
  refine wp_iload_n dX8_keepTurn_84 rfl ?_
  refine wp_iaload dX8_keepTurn_85 h1 L_59 h2 ?_
  refine wp_iastore dX8_keepTurn_86 h3 L_58 h4 ?_
  refine wp_iinc dX8_keepTurn_87 rfl (Nat.le_of_ble_eq_true rfl) (pp (c := 0) rfl rfl) ?_
  refine wp_goto (tgt := 61) dX8_keepTurn_90 rfl ?_
  exact k
theorem b_X8_keepTurn_93 {d : Nat} {Q : Option pV → pG → Prop} {g : pG} {v1 : Int} (hq : Q none (cset g 45 (fup (g 45) 28 (w32 (((g 45) 28) + 1))))) : EV d mX8_keepTurn Q 93 [vR 45, vI v1] [] g := by
  refine wp_aload_n dX8_keepTurn_93 rfl rfl ?_
  refine wp_dup dX8_keepTurn_94 rfl ?_
  refine wp_get (v := vI ((g 45) 28)) dX8_keepTurn_95 fl_8_212 L_45 rfl ?_
  refine wp_iconst dX8_keepTurn_98 kc_1 ?_
  refine wp_iadd dX8_keepTurn_99 ?_
  refine wp_putI dX8_keepTurn_100 fl_8_212 L_45 rfl rfl ?_
  exact wp_vret dX8_keepTurn_103 rfl hq
theorem b_X8_kind_0 {d : Nat} {Q : Option pV → pG → Prop} {g : pG} {v1 v2 v3 : Int} {R : Int → pG → Prop} (hc : CT d mX8_isCourt [vR 45, vI v1] (cset g 45 (fup (g 45) 8 0)) (qI R)) (k : ∀ (x : Int) (gg : pG), R x gg → EV d mX8_kind Q 10 [vR 45, vI v1, vI v2, vI v3, vX 2, vX 2] [vI x] gg) : EV d mX8_kind Q 0 [vR 45, vI v1, vI v2, vI v3, vX 2, vX 2] [] g := by
  refine wp_aload_n dX8_kind_0 rfl rfl ?_
  refine wp_iconst dX8_kind_1 kc_0 ?_
  refine wp_putI dX8_kind_2 fl_8_105 L_45 rfl rfl ?_
  refine wp_aload_n dX8_kind_5 rfl rfl ?_
  refine wp_iload_n dX8_kind_6 rfl ?_
  exact wp_callvI (As := [vI v1]) dX8_kind_7 ml_8_230 (by decide) rfl L_45 (by decide) rfl (Nat.le_of_ble_eq_true rfl) rfl (Nat.le_refl _) (Nat.le_refl _) hc k
theorem b_X8_kind_10 {d : Nat} {Q : Option pV → pG → Prop} {g : pG} {v1 v2 v3 vs0 : Int} (k1 : (vs0 ≠ 0) → EV d mX8_kind Q 17 [vR 45, vI v1, vI v2, vI v3, vX 2, vX 2] [] g) (k2 : ¬ (vs0 ≠ 0) → EV d mX8_kind Q 13 [vR 45, vI v1, vI v2, vI v3, vX 2, vX 2] [] g) : EV d mX8_kind Q 10 [vR 45, vI v1, vI v2, vI v3, vX 2, vX 2] [vI vs0] g := by
  exact wp_if_ne (tgt := 17) dX8_kind_10 rfl k1 k2
theorem b_X8_kind_13 {d : Nat} {Q : Option pV → pG → Prop} {g : pG} {v1 v2 v3 : Int} {R : Int → pG → Prop} (hc : CT d mX8_refuse [vR 45, vI (-1)] g (qI R)) (k : ∀ (x : Int) (gg : pG), R x gg → EV d mX8_kind Q 54 [vR 45, vI v1, vI v2, vI v3, vI (-1), vX 2] [vI x] gg) : EV d mX8_kind Q 13 [vR 45, vI v1, vI v2, vI v3, vX 2, vX 2] [] g := by
  refine wp_iconst dX8_kind_13 kc_m1 ?_
  refine wp_goto (tgt := 41) dX8_kind_14 rfl ?_
  refine wp_istore dX8_kind_41 (Nat.le_of_ble_eq_true rfl) (pp (c := 3) rfl rfl) ?_
  refine wp_iload dX8_kind_43 rfl ?_
  refine wp_if_ge (tgt := 55) dX8_kind_45 rfl (fun hh => absurd hh (by decide)) (fun _ => ?_)
  refine wp_aload_n dX8_kind_48 rfl rfl ?_
  refine wp_iload dX8_kind_49 rfl ?_
  exact wp_callvI (As := [vI (-1)]) dX8_kind_51 ml_8_164 (by decide) rfl L_45 (by decide) rfl (Nat.le_of_ble_eq_true rfl) rfl (Nat.le_refl _) (Nat.le_refl _) hc k
theorem b_X8_kind_17 {d : Nat} {Q : Option pV → pG → Prop} {g : pG} {v1 v2 v3 : Int} {R : Int → pG → Prop} (hc : CT d mX8_in [vL v2, vL 0, vL 5] g (qI R)) (k : ∀ (x : Int) (gg : pG), R x gg → EV d mX8_kind Q 26 [vR 45, vI v1, vI v2, vI v3, vX 2, vX 2] [vI x] gg) : EV d mX8_kind Q 17 [vR 45, vI v1, vI v2, vI v3, vX 2, vX 2] [] g := by
  refine wp_iload_n dX8_kind_17 rfl ?_
  refine wp_i2l dX8_kind_18 ?_
  refine wp_lconst (x := 0) dX8_kind_19 rfl ?_
  refine wp_ldc2_w dX8_kind_20 k2_8_243 ?_
  exact wp_callsI (As := [vL v2, vL 0, vL 5]) dX8_kind_23 ml_8_111 (Or.inl rfl) rfl (Nat.le_of_ble_eq_true rfl) rfl (Nat.le_refl _) (Nat.le_refl _) hc k
theorem b_X8_kind_26 {d : Nat} {Q : Option pV → pG → Prop} {g : pG} {v1 v2 v3 vs0 : Int} (k1 : (vs0 ≠ 0) → EV d mX8_kind Q 34 [vR 45, vI v1, vI v2, vI v3, vX 2, vX 2] [] g) (k2 : ¬ (vs0 ≠ 0) → EV d mX8_kind Q 29 [vR 45, vI v1, vI v2, vI v3, vX 2, vX 2] [] g) : EV d mX8_kind Q 26 [vR 45, vI v1, vI v2, vI v3, vX 2, vX 2] [vI vs0] g := by
  exact wp_if_ne (tgt := 34) dX8_kind_26 rfl k1 k2
theorem b_X8_kind_29 {d : Nat} {Q : Option pV → pG → Prop} {g : pG} {v1 v2 v3 : Int} {R : Int → pG → Prop} (hc : CT d mX8_refuse [vR 45, vI (-2)] g (qI R)) (k : ∀ (x : Int) (gg : pG), R x gg → EV d mX8_kind Q 54 [vR 45, vI v1, vI v2, vI v3, vI (-2), vX 2] [vI x] gg) : EV d mX8_kind Q 29 [vR 45, vI v1, vI v2, vI v3, vX 2, vX 2] [] g := by
  refine wp_bipush dX8_kind_29 kb_m2 kc_m2 ?_
  refine wp_goto (tgt := 41) dX8_kind_31 rfl ?_
  refine wp_istore dX8_kind_41 (Nat.le_of_ble_eq_true rfl) (pp (c := 3) rfl rfl) ?_
  refine wp_iload dX8_kind_43 rfl ?_
  refine wp_if_ge (tgt := 55) dX8_kind_45 rfl (fun hh => absurd hh (by decide)) (fun _ => ?_)
  refine wp_aload_n dX8_kind_48 rfl rfl ?_
  refine wp_iload dX8_kind_49 rfl ?_
  exact wp_callvI (As := [vI (-2)]) dX8_kind_51 ml_8_164 (by decide) rfl L_45 (by decide) rfl (Nat.le_of_ble_eq_true rfl) rfl (Nat.le_refl _) (Nat.le_refl _) hc k
theorem b_X8_kind_34 {d : Nat} {Q : Option pV → pG → Prop} {g : pG} {v1 v2 v3 : Int} {R : Int → pG → Prop} (hc : CT d mX8_wrongNumber [vI v3, vI 0, vI 9] g (qI R)) (k : ∀ (x : Int) (gg : pG), R x gg → EV d mX8_kind Q 41 [vR 45, vI v1, vI v2, vI v3, vX 2, vX 2] [vI x] gg) : EV d mX8_kind Q 34 [vR 45, vI v1, vI v2, vI v3, vX 2, vX 2] [] g := by
  refine wp_iload_n dX8_kind_34 rfl ?_
  refine wp_iconst dX8_kind_35 kc_0 ?_
  refine wp_bipush dX8_kind_36 kb_9 kc_9 ?_
  exact wp_callsI (As := [vI v3, vI 0, vI 9]) dX8_kind_38 ml_8_235 (Or.inl rfl) rfl (Nat.le_of_ble_eq_true rfl) rfl (Nat.le_refl _) (Nat.le_refl _) hc k
theorem b_X8_kind_41 {d : Nat} {Q : Option pV → pG → Prop} {g : pG} {v1 v2 v3 vs0 : Int} (k1 : (0 ≤ vs0) → EV d mX8_kind Q 55 [vR 45, vI v1, vI v2, vI v3, vI vs0, vX 2] [] g) (k2 : ¬ (0 ≤ vs0) → EV d mX8_kind Q 48 [vR 45, vI v1, vI v2, vI v3, vI vs0, vX 2] [] g) : EV d mX8_kind Q 41 [vR 45, vI v1, vI v2, vI v3, vX 2, vX 2] [vI vs0] g := by
  refine wp_istore dX8_kind_41 (Nat.le_of_ble_eq_true rfl) (pp (c := 3) rfl rfl) ?_
  refine wp_iload dX8_kind_43 rfl ?_
  exact wp_if_ge (tgt := 55) dX8_kind_45 rfl k1 k2
theorem b_X8_kind_48 {d : Nat} {Q : Option pV → pG → Prop} {g : pG} {v1 v2 v3 v4 : Int} {R : Int → pG → Prop} (hc : CT d mX8_refuse [vR 45, vI v4] g (qI R)) (k : ∀ (x : Int) (gg : pG), R x gg → EV d mX8_kind Q 54 [vR 45, vI v1, vI v2, vI v3, vI v4, vX 2] [vI x] gg) : EV d mX8_kind Q 48 [vR 45, vI v1, vI v2, vI v3, vI v4, vX 2] [] g := by
  refine wp_aload_n dX8_kind_48 rfl rfl ?_
  refine wp_iload dX8_kind_49 rfl ?_
  exact wp_callvI (As := [vI v4]) dX8_kind_51 ml_8_164 (by decide) rfl L_45 (by decide) rfl (Nat.le_of_ble_eq_true rfl) rfl (Nat.le_refl _) (Nat.le_refl _) hc k
theorem b_X8_kind_54 {d : Nat} {Q : Option pV → pG → Prop} {g : pG} {v1 v2 v3 v4 vs0 : Int} (hq : Q (some (vI vs0)) g) : EV d mX8_kind Q 54 [vR 45, vI v1, vI v2, vI v3, vI v4, vX 2] [vI vs0] g := by
  exact wp_iret dX8_kind_54 rfl hq
theorem b_X8_kind_55 {d : Nat} {Q : Option pV → pG → Prop} {g : pG} {v1 v2 v3 v4 : Int} {R : pG → Prop} (hc : CT d mX8_keepTurn [vR 45] g (qV R)) (k : ∀ gg : pG, R gg → EV d mX8_kind Q 59 [vR 45, vI v1, vI v2, vI v3, vI v4, vX 2] [] gg) : EV d mX8_kind Q 55 [vR 45, vI v1, vI v2, vI v3, vI v4, vX 2] [] g := by
  refine wp_aload_n dX8_kind_55 rfl rfl ?_
  exact wp_callvV (As := []) dX8_kind_56 ml_8_240 (by decide) rfl L_45 (by decide) rfl (Nat.le_of_ble_eq_true rfl) rfl (Nat.le_refl _) (Nat.le_refl _) hc k
theorem b_X8_kind_59 {d : Nat} {Q : Option pV → pG → Prop} {g : pG} {v1 v2 v3 v4 : Int} (h1 : 0 ≤ v1) (h2 : v1 < 7) (hq : Q (some (vI (w32 ((w32 (10 * ((g 46) v1.toNat))) + ((g 47) v1.toNat))))) (cset (cset g 46 (fup (g 46) v1.toNat v2)) 47 (fup (g 47) v1.toNat v3))) : EV d mX8_kind Q 59 [vR 45, vI v1, vI v2, vI v3, vI v4, vX 2] [] g := by
  refine wp_bipush dX8_kind_59 kb_10 kc_10 ?_
  refine wp_aload_n dX8_kind_61 rfl rfl ?_
  refine wp_get (v := vR 46) dX8_kind_62 fl_8_7 L_45 rfl ?_
  refine wp_iload_n dX8_kind_65 rfl ?_
  refine wp_iaload dX8_kind_66 h1 L_46 h2 ?_
  refine wp_imul dX8_kind_67 ?_
  refine wp_aload_n dX8_kind_68 rfl rfl ?_
  refine wp_get (v := vR 47) dX8_kind_69 fl_8_13 L_45 rfl ?_
  refine wp_iload_n dX8_kind_72 rfl ?_
  refine wp_iaload dX8_kind_73 h1 L_47 h2 ?_
  refine wp_iadd dX8_kind_74 ?_
  refine wp_istore dX8_kind_75 (Nat.le_of_ble_eq_true rfl) (pp (c := 4) rfl rfl) ?_
  refine wp_aload_n dX8_kind_77 rfl rfl ?_
  refine wp_get (v := vR 46) dX8_kind_78 fl_8_7 L_45 rfl ?_
  refine wp_iload_n dX8_kind_81 rfl ?_
  refine wp_iload_n dX8_kind_82 rfl ?_
  refine wp_iastore dX8_kind_83 h1 L_46 h2 ?_
  refine wp_aload_n dX8_kind_84 rfl rfl ?_
  refine wp_get (v := vR 47) dX8_kind_85 fl_8_13 L_45 rfl ?_
  refine wp_iload_n dX8_kind_88 rfl ?_
  refine wp_iload_n dX8_kind_89 rfl ?_
  refine wp_iastore dX8_kind_90 h1 L_47 h2 ?_
  refine wp_iload dX8_kind_91 rfl ?_
  exact wp_iret dX8_kind_93 rfl hq
theorem b_X8_lowest_0 {d : Nat} {Q : Option pV → pG → Prop} {g : pG} {v1 v2 v3 : Int} {R : Int → pG → Prop} (hc : CT d mX8_in [vL v1, vL 0, vL 5] (cset g 45 (fup (g 45) 8 0)) (qI R)) (k : ∀ (x : Int) (gg : pG), R x gg → EV d mX8_lowest Q 17 [vR 45, vI v1, vI v2, vI v3, vI 0] [vI x] gg) : EV d mX8_lowest Q 0 [vR 45, vI v1, vI v2, vI v3, vX 2] [] g := by
  refine wp_aload_n dX8_lowest_0 rfl rfl ?_
  refine wp_iconst dX8_lowest_1 kc_0 ?_
  refine wp_putI dX8_lowest_2 fl_8_105 L_45 rfl rfl ?_
  refine wp_iconst dX8_lowest_5 kc_0 ?_
  refine wp_istore dX8_lowest_6 (Nat.le_of_ble_eq_true rfl) (pp (c := 3) rfl rfl) ?_
  refine wp_iload_n dX8_lowest_8 rfl ?_
  refine wp_i2l dX8_lowest_9 ?_
  refine wp_lconst (x := 0) dX8_lowest_10 rfl ?_
  refine wp_ldc2_w dX8_lowest_11 k2_8_243 ?_
  exact wp_callsI (As := [vL v1, vL 0, vL 5]) dX8_lowest_14 ml_8_111 (Or.inl rfl) rfl (Nat.le_of_ble_eq_true rfl) rfl (Nat.le_refl _) (Nat.le_refl _) hc k
theorem b_X8_lowest_17 {d : Nat} {Q : Option pV → pG → Prop} {g : pG} {v1 v2 v3 v4 vs0 : Int} (k1 : (vs0 ≠ 0) → EV d mX8_lowest Q 27 [vR 45, vI v1, vI v2, vI v3, vI v4] [] g) (k2 : ¬ (vs0 ≠ 0) → EV d mX8_lowest Q 20 [vR 45, vI v1, vI v2, vI v3, vI v4] [] g) : EV d mX8_lowest Q 17 [vR 45, vI v1, vI v2, vI v3, vI v4] [vI vs0] g := by
  exact wp_if_ne (tgt := 27) dX8_lowest_17 rfl k1 k2
theorem b_X8_lowest_20 {d : Nat} {Q : Option pV → pG → Prop} {g : pG} {v1 v2 v3 v4 : Int} {R : Int → pG → Prop} (hc : CT d mX8_refuse [vR 45, vI (-2)] g (qI R)) (k : ∀ (x : Int) (gg : pG), R x gg → EV d mX8_lowest Q 78 [vR 45, vI v1, vI v2, vI v3, vI (-2)] [vI x] gg) : EV d mX8_lowest Q 20 [vR 45, vI v1, vI v2, vI v3, vI v4] [] g := by
  refine wp_bipush dX8_lowest_20 kb_m2 kc_m2 ?_
  refine wp_istore dX8_lowest_22 (Nat.le_of_ble_eq_true rfl) (pp (c := 3) rfl rfl) ?_
  refine wp_goto (tgt := 67) dX8_lowest_24 rfl ?_
  refine wp_iload dX8_lowest_67 rfl ?_
  refine wp_if_ge (tgt := 79) dX8_lowest_69 rfl (fun hh => absurd hh (by decide)) (fun _ => ?_)
  refine wp_aload_n dX8_lowest_72 rfl rfl ?_
  refine wp_iload dX8_lowest_73 rfl ?_
  exact wp_callvI (As := [vI (-2)]) dX8_lowest_75 ml_8_164 (by decide) rfl L_45 (by decide) rfl (Nat.le_of_ble_eq_true rfl) rfl (Nat.le_refl _) (Nat.le_refl _) hc k
theorem b_X8_lowest_27 {d : Nat} {Q : Option pV → pG → Prop} {g : pG} {v1 v2 v3 v4 : Int} (k1 : (v2 < 0) → EV d mX8_lowest Q 35 [vR 45, vI v1, vI v2, vI v3, vI v4] [] g) (k2 : ¬ (v2 < 0) → EV d mX8_lowest Q 31 [vR 45, vI v1, vI v2, vI v3, vI v4] [] g) : EV d mX8_lowest Q 27 [vR 45, vI v1, vI v2, vI v3, vI v4] [] g := by
  refine wp_iload_n dX8_lowest_27 rfl ?_
  exact wp_if_lt (tgt := 35) dX8_lowest_28 rfl k1 k2
theorem b_X8_lowest_31 {d : Nat} {Q : Option pV → pG → Prop} {g : pG} {v1 v2 v3 v4 : Int} (k1 : (0 ≤ v3) → EV d mX8_lowest Q 42 [vR 45, vI v1, vI v2, vI v3, vI v4] [] g) (k2 : ¬ (0 ≤ v3) → EV d mX8_lowest Q 35 [vR 45, vI v1, vI v2, vI v3, vI v4] [] g) : EV d mX8_lowest Q 31 [vR 45, vI v1, vI v2, vI v3, vI v4] [] g := by
  refine wp_iload_n dX8_lowest_31 rfl ?_
  exact wp_if_ge (tgt := 42) dX8_lowest_32 rfl k1 k2
theorem b_X8_lowest_35 {d : Nat} {Q : Option pV → pG → Prop} {g : pG} {v1 v2 v3 v4 : Int} {R : Int → pG → Prop} (hc : CT d mX8_refuse [vR 45, vI (-4)] g (qI R)) (k : ∀ (x : Int) (gg : pG), R x gg → EV d mX8_lowest Q 78 [vR 45, vI v1, vI v2, vI v3, vI (-4)] [vI x] gg) : EV d mX8_lowest Q 35 [vR 45, vI v1, vI v2, vI v3, vI v4] [] g := by
  refine wp_bipush dX8_lowest_35 kb_m4 kc_m4 ?_
  refine wp_istore dX8_lowest_37 (Nat.le_of_ble_eq_true rfl) (pp (c := 3) rfl rfl) ?_
  refine wp_goto (tgt := 67) dX8_lowest_39 rfl ?_
  refine wp_iload dX8_lowest_67 rfl ?_
  refine wp_if_ge (tgt := 79) dX8_lowest_69 rfl (fun hh => absurd hh (by decide)) (fun _ => ?_)
  refine wp_aload_n dX8_lowest_72 rfl rfl ?_
  refine wp_iload dX8_lowest_73 rfl ?_
  exact wp_callvI (As := [vI (-4)]) dX8_lowest_75 ml_8_164 (by decide) rfl L_45 (by decide) rfl (Nat.le_of_ble_eq_true rfl) rfl (Nat.le_refl _) (Nat.le_refl _) hc k
theorem b_X8_lowest_42 {d : Nat} {Q : Option pV → pG → Prop} {g : pG} {v1 v2 v3 v4 : Int} (k1 : (9 < v2) → EV d mX8_lowest Q 63 [vR 45, vI v1, vI v2, vI v3, vI v4] [] g) (k2 : ¬ (9 < v2) → EV d mX8_lowest Q 48 [vR 45, vI v1, vI v2, vI v3, vI v4] [] g) : EV d mX8_lowest Q 42 [vR 45, vI v1, vI v2, vI v3, vI v4] [] g := by
  refine wp_iload_n dX8_lowest_42 rfl ?_
  refine wp_bipush dX8_lowest_43 kb_9 kc_9 ?_
  exact wp_icmp_gt (tgt := 63) dX8_lowest_45 rfl k1 k2
theorem b_X8_lowest_48 {d : Nat} {Q : Option pV → pG → Prop} {g : pG} {v1 v2 v3 v4 : Int} (k1 : (99 < v3) → EV d mX8_lowest Q 63 [vR 45, vI v1, vI v2, vI v3, vI v4] [] g) (k2 : ¬ (99 < v3) → EV d mX8_lowest Q 54 [vR 45, vI v1, vI v2, vI v3, vI v4] [] g) : EV d mX8_lowest Q 48 [vR 45, vI v1, vI v2, vI v3, vI v4] [] g := by
  refine wp_iload_n dX8_lowest_48 rfl ?_
  refine wp_bipush dX8_lowest_49 kb_99 kc_99 ?_
  exact wp_icmp_gt (tgt := 63) dX8_lowest_51 rfl k1 k2
theorem b_X8_lowest_54 {d : Nat} {Q : Option pV → pG → Prop} {g : pG} {v1 v2 v3 v4 : Int} (k1 : ((g 45) 0 ≠ 7) → EV d mX8_lowest Q 67 [vR 45, vI v1, vI v2, vI v3, vI v4] [] g) (k2 : ¬ ((g 45) 0 ≠ 7) → EV d mX8_lowest Q 63 [vR 45, vI v1, vI v2, vI v3, vI v4] [] g) : EV d mX8_lowest Q 54 [vR 45, vI v1, vI v2, vI v3, vI v4] [] g := by
  refine wp_aload_n dX8_lowest_54 rfl rfl ?_
  refine wp_get (v := vI ((g 45) 0)) dX8_lowest_55 fl_8_108 L_45 rfl ?_
  refine wp_bipush dX8_lowest_58 kb_7 kc_7 ?_
  exact wp_icmp_ne (tgt := 67) dX8_lowest_60 rfl k1 k2
theorem b_X8_lowest_63 {d : Nat} {Q : Option pV → pG → Prop} {g : pG} {v1 v2 v3 v4 : Int} {R : Int → pG → Prop} (hc : CT d mX8_refuse [vR 45, vI (-6)] g (qI R)) (k : ∀ (x : Int) (gg : pG), R x gg → EV d mX8_lowest Q 78 [vR 45, vI v1, vI v2, vI v3, vI (-6)] [vI x] gg) : EV d mX8_lowest Q 63 [vR 45, vI v1, vI v2, vI v3, vI v4] [] g := by
  refine wp_bipush dX8_lowest_63 kb_m6 kc_m6 ?_
  refine wp_istore dX8_lowest_65 (Nat.le_of_ble_eq_true rfl) (pp (c := 3) rfl rfl) ?_
  refine wp_iload dX8_lowest_67 rfl ?_
  refine wp_if_ge (tgt := 79) dX8_lowest_69 rfl (fun hh => absurd hh (by decide)) (fun _ => ?_)
  refine wp_aload_n dX8_lowest_72 rfl rfl ?_
  refine wp_iload dX8_lowest_73 rfl ?_
  exact wp_callvI (As := [vI (-6)]) dX8_lowest_75 ml_8_164 (by decide) rfl L_45 (by decide) rfl (Nat.le_of_ble_eq_true rfl) rfl (Nat.le_refl _) (Nat.le_refl _) hc k
theorem b_X8_lowest_67 {d : Nat} {Q : Option pV → pG → Prop} {g : pG} {v1 v2 v3 v4 : Int} (k1 : (0 ≤ v4) → EV d mX8_lowest Q 79 [vR 45, vI v1, vI v2, vI v3, vI v4] [] g) (k2 : ¬ (0 ≤ v4) → EV d mX8_lowest Q 72 [vR 45, vI v1, vI v2, vI v3, vI v4] [] g) : EV d mX8_lowest Q 67 [vR 45, vI v1, vI v2, vI v3, vI v4] [] g := by
  refine wp_iload dX8_lowest_67 rfl ?_
  exact wp_if_ge (tgt := 79) dX8_lowest_69 rfl k1 k2
theorem b_X8_lowest_72 {d : Nat} {Q : Option pV → pG → Prop} {g : pG} {v1 v2 v3 v4 : Int} {R : Int → pG → Prop} (hc : CT d mX8_refuse [vR 45, vI v4] g (qI R)) (k : ∀ (x : Int) (gg : pG), R x gg → EV d mX8_lowest Q 78 [vR 45, vI v1, vI v2, vI v3, vI v4] [vI x] gg) : EV d mX8_lowest Q 72 [vR 45, vI v1, vI v2, vI v3, vI v4] [] g := by
  refine wp_aload_n dX8_lowest_72 rfl rfl ?_
  refine wp_iload dX8_lowest_73 rfl ?_
  exact wp_callvI (As := [vI v4]) dX8_lowest_75 ml_8_164 (by decide) rfl L_45 (by decide) rfl (Nat.le_of_ble_eq_true rfl) rfl (Nat.le_refl _) (Nat.le_refl _) hc k
theorem b_X8_lowest_78 {d : Nat} {Q : Option pV → pG → Prop} {g : pG} {v1 v2 v3 v4 vs0 : Int} (hq : Q (some (vI vs0)) g) : EV d mX8_lowest Q 78 [vR 45, vI v1, vI v2, vI v3, vI v4] [vI vs0] g := by
  exact wp_iret dX8_lowest_78 rfl hq
theorem b_X8_lowest_79 {d : Nat} {Q : Option pV → pG → Prop} {g : pG} {v1 v2 v3 v4 : Int} {R : pG → Prop} (hc : CT d mX8_keepTurn [vR 45] g (qV R)) (k : ∀ gg : pG, R gg → EV d mX8_lowest Q 83 [vR 45, vI v1, vI v2, vI v3, vI v4] [] gg) : EV d mX8_lowest Q 79 [vR 45, vI v1, vI v2, vI v3, vI v4] [] g := by
  refine wp_aload_n dX8_lowest_79 rfl rfl ?_
  exact wp_callvV (As := []) dX8_lowest_80 ml_8_240 (by decide) rfl L_45 (by decide) rfl (Nat.le_of_ble_eq_true rfl) rfl (Nat.le_refl _) (Nat.le_refl _) hc k
theorem b_X8_lowest_83 {d : Nat} {Q : Option pV → pG → Prop} {g : pG} {v1 v2 v3 v4 : Int} {R : pG → Prop} (hc : CT d mX8_courtComes [vR 45, vI v1, vI v2, vI v3] g (qV R)) (k : ∀ gg : pG, R gg → EV d mX8_lowest Q 90 [vR 45, vI v1, vI v2, vI v3, vI v4] [] gg) : EV d mX8_lowest Q 83 [vR 45, vI v1, vI v2, vI v3, vI v4] [] g := by
  refine wp_aload_n dX8_lowest_83 rfl rfl ?_
  refine wp_iload_n dX8_lowest_84 rfl ?_
  refine wp_iload_n dX8_lowest_85 rfl ?_
  refine wp_iload_n dX8_lowest_86 rfl ?_
  exact wp_callvV (As := [vI v1, vI v2, vI v3]) dX8_lowest_87 ml_8_193 (by decide) rfl L_45 (by decide) rfl (Nat.le_of_ble_eq_true rfl) rfl (Nat.le_refl _) (Nat.le_refl _) hc k
theorem b_X8_lowest_90 {d : Nat} {Q : Option pV → pG → Prop} {g : pG} {v1 v2 v3 v4 : Int} (hq : Q (some (vI ((g 45) 0))) g) : EV d mX8_lowest Q 90 [vR 45, vI v1, vI v2, vI v3, vI v4] [] g := by
  refine wp_aload_n dX8_lowest_90 rfl rfl ?_
  refine wp_get (v := vI ((g 45) 0)) dX8_lowest_91 fl_8_108 L_45 rfl ?_
  exact wp_iret dX8_lowest_94 rfl hq
theorem b_X8_set_0 {d : Nat} {Q : Option pV → pG → Prop} {g : pG} {v1 v2 : Int} {R : Int → pG → Prop} (hc : CT d mX8_in [vL v1, vL 0, vL 2] (cset g 45 (fup (g 45) 8 0)) (qI R)) (k : ∀ (x : Int) (gg : pG), R x gg → EV d mX8_set Q 14 [vR 45, vI v1, vI v2, vX 2, vX 2] [vI x] gg) : EV d mX8_set Q 0 [vR 45, vI v1, vI v2, vX 2, vX 2] [] g := by
  refine wp_aload_n dX8_set_0 rfl rfl ?_
  refine wp_iconst dX8_set_1 kc_0 ?_
  refine wp_putI dX8_set_2 fl_8_105 L_45 rfl rfl ?_
  refine wp_iload_n dX8_set_5 rfl ?_
  refine wp_i2l dX8_set_6 ?_
  refine wp_lconst (x := 0) dX8_set_7 rfl ?_
  refine wp_ldc2_w dX8_set_8 k2_8_233 ?_
  exact wp_callsI (As := [vL v1, vL 0, vL 2]) dX8_set_11 ml_8_111 (Or.inl rfl) rfl (Nat.le_of_ble_eq_true rfl) rfl (Nat.le_refl _) (Nat.le_refl _) hc k
theorem b_X8_set_14 {d : Nat} {Q : Option pV → pG → Prop} {g : pG} {v1 v2 vs0 : Int} (k1 : (vs0 = 0) → EV d mX8_set Q 46 [vR 45, vI v1, vI v2, vX 2, vX 2] [] g) (k2 : ¬ (vs0 = 0) → EV d mX8_set Q 17 [vR 45, vI v1, vI v2, vX 2, vX 2] [] g) : EV d mX8_set Q 14 [vR 45, vI v1, vI v2, vX 2, vX 2] [vI vs0] g := by
  exact wp_if_eq (tgt := 46) dX8_set_14 rfl k1 k2
theorem b_X8_set_17 {d : Nat} {Q : Option pV → pG → Prop} {g : pG} {v1 v2 : Int} (k1 : (v1 ≠ 0) → EV d mX8_set Q 26 [vR 45, vI v1, vI v2, vX 2, vX 2] [vI v2] g) (k2 : ¬ (v1 ≠ 0) → EV d mX8_set Q 22 [vR 45, vI v1, vI v2, vX 2, vX 2] [vI v2] g) : EV d mX8_set Q 17 [vR 45, vI v1, vI v2, vX 2, vX 2] [] g := by
  refine wp_iload_n dX8_set_17 rfl ?_
  refine wp_iload_n dX8_set_18 rfl ?_
  exact wp_if_ne (tgt := 26) dX8_set_19 rfl k1 k2
theorem b_X8_set_22 {d : Nat} {Q : Option pV → pG → Prop} {g : pG} {v1 v2 vs0 : Int} (k1 : (v1 ≠ 1) → EV d mX8_set Q 38 [vR 45, vI v1, vI v2, vX 2, vX 2] [vI 1, vI vs0] g) (k2 : ¬ (v1 ≠ 1) → EV d mX8_set Q 32 [vR 45, vI v1, vI v2, vX 2, vX 2] [vI 1, vI vs0] g) : EV d mX8_set Q 22 [vR 45, vI v1, vI v2, vX 2, vX 2] [vI vs0] g := by
  refine wp_iconst dX8_set_22 kc_1 ?_
  refine wp_goto (tgt := 27) dX8_set_23 rfl ?_
  refine wp_iload_n dX8_set_27 rfl ?_
  refine wp_iconst dX8_set_28 kc_1 ?_
  exact wp_icmp_ne (tgt := 38) dX8_set_29 rfl k1 k2
theorem b_X8_set_26 {d : Nat} {Q : Option pV → pG → Prop} {g : pG} {v1 v2 vs0 : Int} (k1 : (v1 ≠ 1) → EV d mX8_set Q 38 [vR 45, vI v1, vI v2, vX 2, vX 2] [vI 0, vI vs0] g) (k2 : ¬ (v1 ≠ 1) → EV d mX8_set Q 32 [vR 45, vI v1, vI v2, vX 2, vX 2] [vI 0, vI vs0] g) : EV d mX8_set Q 26 [vR 45, vI v1, vI v2, vX 2, vX 2] [vI vs0] g := by
  refine wp_iconst dX8_set_26 kc_0 ?_
  refine wp_iload_n dX8_set_27 rfl ?_
  refine wp_iconst dX8_set_28 kc_1 ?_
  exact wp_icmp_ne (tgt := 38) dX8_set_29 rfl k1 k2
theorem b_X8_set_32 {d : Nat} {Q : Option pV → pG → Prop} {g : pG} {v1 v2 vs0 vs1 : Int} {R : Int → pG → Prop} (hc : CT d mX8_wrongNumber [vI vs0, vI vs1, vI 999] g (qI R)) (k : ∀ (x : Int) (gg : pG), R x gg → EV d mX8_set Q 43 [vR 45, vI v1, vI v2, vX 2, vX 2] [vI x] gg) : EV d mX8_set Q 32 [vR 45, vI v1, vI v2, vX 2, vX 2] [vI vs1, vI vs0] g := by
  refine wp_sipush dX8_set_32 ks_999 kc_999 ?_
  refine wp_goto (tgt := 40) dX8_set_35 rfl ?_
  exact wp_callsI (As := [vI vs0, vI vs1, vI 999]) dX8_set_40 ml_8_235 (Or.inl rfl) rfl (Nat.le_of_ble_eq_true rfl) rfl (Nat.le_refl _) (Nat.le_refl _) hc k
theorem b_X8_set_38 {d : Nat} {Q : Option pV → pG → Prop} {g : pG} {v1 v2 vs0 vs1 : Int} {R : Int → pG → Prop} (hc : CT d mX8_wrongNumber [vI vs0, vI vs1, vI 8] g (qI R)) (k : ∀ (x : Int) (gg : pG), R x gg → EV d mX8_set Q 43 [vR 45, vI v1, vI v2, vX 2, vX 2] [vI x] gg) : EV d mX8_set Q 38 [vR 45, vI v1, vI v2, vX 2, vX 2] [vI vs1, vI vs0] g := by
  refine wp_bipush dX8_set_38 kb_8 kc_8 ?_
  exact wp_callsI (As := [vI vs0, vI vs1, vI 8]) dX8_set_40 ml_8_235 (Or.inl rfl) rfl (Nat.le_of_ble_eq_true rfl) rfl (Nat.le_refl _) (Nat.le_refl _) hc k
theorem b_X8_set_43 {d : Nat} {Q : Option pV → pG → Prop} {g : pG} {v1 v2 vs0 : Int} (k1 : (0 ≤ vs0) → EV d mX8_set Q 59 [vR 45, vI v1, vI v2, vI vs0, vX 2] [] g) (k2 : ¬ (0 ≤ vs0) → EV d mX8_set Q 53 [vR 45, vI v1, vI v2, vI vs0, vX 2] [] g) : EV d mX8_set Q 43 [vR 45, vI v1, vI v2, vX 2, vX 2] [vI vs0] g := by
  refine wp_goto (tgt := 48) dX8_set_43 rfl ?_
  refine wp_istore_n dX8_set_48 (Nat.le_of_ble_eq_true rfl) (pp (c := 2) rfl rfl) ?_
  refine wp_iload_n dX8_set_49 rfl ?_
  exact wp_if_ge (tgt := 59) dX8_set_50 rfl k1 k2
theorem b_X8_set_46 {d : Nat} {Q : Option pV → pG → Prop} {g : pG} {v1 v2 : Int} {R : Int → pG → Prop} (hc : CT d mX8_refuse [vR 45, vI (-2)] g (qI R)) (k : ∀ (x : Int) (gg : pG), R x gg → EV d mX8_set Q 58 [vR 45, vI v1, vI v2, vI (-2), vX 2] [vI x] gg) : EV d mX8_set Q 46 [vR 45, vI v1, vI v2, vX 2, vX 2] [] g := by
  refine wp_bipush dX8_set_46 kb_m2 kc_m2 ?_
  refine wp_istore_n dX8_set_48 (Nat.le_of_ble_eq_true rfl) (pp (c := 2) rfl rfl) ?_
  refine wp_iload_n dX8_set_49 rfl ?_
  refine wp_if_ge (tgt := 59) dX8_set_50 rfl (fun hh => absurd hh (by decide)) (fun _ => ?_)
  refine wp_aload_n dX8_set_53 rfl rfl ?_
  refine wp_iload_n dX8_set_54 rfl ?_
  exact wp_callvI (As := [vI (-2)]) dX8_set_55 ml_8_164 (by decide) rfl L_45 (by decide) rfl (Nat.le_of_ble_eq_true rfl) rfl (Nat.le_refl _) (Nat.le_refl _) hc k
theorem b_X8_set_53 {d : Nat} {Q : Option pV → pG → Prop} {g : pG} {v1 v2 v3 : Int} {R : Int → pG → Prop} (hc : CT d mX8_refuse [vR 45, vI v3] g (qI R)) (k : ∀ (x : Int) (gg : pG), R x gg → EV d mX8_set Q 58 [vR 45, vI v1, vI v2, vI v3, vX 2] [vI x] gg) : EV d mX8_set Q 53 [vR 45, vI v1, vI v2, vI v3, vX 2] [] g := by
  refine wp_aload_n dX8_set_53 rfl rfl ?_
  refine wp_iload_n dX8_set_54 rfl ?_
  exact wp_callvI (As := [vI v3]) dX8_set_55 ml_8_164 (by decide) rfl L_45 (by decide) rfl (Nat.le_of_ble_eq_true rfl) rfl (Nat.le_refl _) (Nat.le_refl _) hc k
theorem b_X8_set_58 {d : Nat} {Q : Option pV → pG → Prop} {g : pG} {v1 v2 v3 vs0 : Int} (hq : Q (some (vI vs0)) g) : EV d mX8_set Q 58 [vR 45, vI v1, vI v2, vI v3, vX 2] [vI vs0] g := by
  exact wp_iret dX8_set_58 rfl hq
theorem b_X8_set_59 {d : Nat} {Q : Option pV → pG → Prop} {g : pG} {v1 v2 v3 : Int} (k1 : (v1 ≠ 0) → EV d mX8_set Q 70 [vR 45, vI v1, vI v2, vI v3, vX 2] [] g) (k2 : ¬ (v1 ≠ 0) → EV d mX8_set Q 63 [vR 45, vI v1, vI v2, vI v3, vX 2] [] g) : EV d mX8_set Q 59 [vR 45, vI v1, vI v2, vI v3, vX 2] [] g := by
  refine wp_iload_n dX8_set_59 rfl ?_
  exact wp_if_ne (tgt := 70) dX8_set_60 rfl k1 k2
theorem b_X8_set_63 {d : Nat} {Q : Option pV → pG → Prop} {g : pG} {v1 v2 v3 : Int} (k1 : (v1 ≠ 0) → EV d mX8_set Q 97 [vR 45, vI v1, vI v2, vI v3, vI ((g 45) 4)] [] g) (k2 : ¬ (v1 ≠ 0) → EV d mX8_set Q 92 [vR 45, vI v1, vI v2, vI v3, vI ((g 45) 4)] [] g) : EV d mX8_set Q 63 [vR 45, vI v1, vI v2, vI v3, vX 2] [] g := by
  refine wp_aload_n dX8_set_63 rfl rfl ?_
  refine wp_get (v := vI ((g 45) 4)) dX8_set_64 fl_8_19 L_45 rfl ?_
  refine wp_goto (tgt := 86) dX8_set_67 rfl ?_
  refine wp_istore dX8_set_86 (Nat.le_of_ble_eq_true rfl) (pp (c := 3) rfl rfl) ?_
  refine wp_iload_n dX8_set_88 rfl ?_
  exact wp_if_ne (tgt := 97) dX8_set_89 rfl k1 k2
theorem b_X8_set_70 {d : Nat} {Q : Option pV → pG → Prop} {g : pG} {v1 v2 v3 : Int} (k1 : (v1 ≠ 1) → EV d mX8_set Q 82 [vR 45, vI v1, vI v2, vI v3, vX 2] [] g) (k2 : ¬ (v1 ≠ 1) → EV d mX8_set Q 75 [vR 45, vI v1, vI v2, vI v3, vX 2] [] g) : EV d mX8_set Q 70 [vR 45, vI v1, vI v2, vI v3, vX 2] [] g := by
  refine wp_iload_n dX8_set_70 rfl ?_
  refine wp_iconst dX8_set_71 kc_1 ?_
  exact wp_icmp_ne (tgt := 82) dX8_set_72 rfl k1 k2
theorem b_X8_set_75 {d : Nat} {Q : Option pV → pG → Prop} {g : pG} {v1 v2 v3 : Int} (k1 : (v1 ≠ 0) → EV d mX8_set Q 97 [vR 45, vI v1, vI v2, vI v3, vI ((g 45) 6)] [] g) (k2 : ¬ (v1 ≠ 0) → EV d mX8_set Q 92 [vR 45, vI v1, vI v2, vI v3, vI ((g 45) 6)] [] g) : EV d mX8_set Q 75 [vR 45, vI v1, vI v2, vI v3, vX 2] [] g := by
  refine wp_aload_n dX8_set_75 rfl rfl ?_
  refine wp_get (v := vI ((g 45) 6)) dX8_set_76 fl_8_26 L_45 rfl ?_
  refine wp_goto (tgt := 86) dX8_set_79 rfl ?_
  refine wp_istore dX8_set_86 (Nat.le_of_ble_eq_true rfl) (pp (c := 3) rfl rfl) ?_
  refine wp_iload_n dX8_set_88 rfl ?_
  exact wp_if_ne (tgt := 97) dX8_set_89 rfl k1 k2
theorem b_X8_set_82 {d : Nat} {Q : Option pV → pG → Prop} {g : pG} {v1 v2 v3 : Int} (k1 : (v1 ≠ 0) → EV d mX8_set Q 97 [vR 45, vI v1, vI v2, vI v3, vI ((g 45) 7)] [] g) (k2 : ¬ (v1 ≠ 0) → EV d mX8_set Q 92 [vR 45, vI v1, vI v2, vI v3, vI ((g 45) 7)] [] g) : EV d mX8_set Q 82 [vR 45, vI v1, vI v2, vI v3, vX 2] [] g := by
  refine wp_aload_n dX8_set_82 rfl rfl ?_
  refine wp_get (v := vI ((g 45) 7)) dX8_set_83 fl_8_29 L_45 rfl ?_
  refine wp_istore dX8_set_86 (Nat.le_of_ble_eq_true rfl) (pp (c := 3) rfl rfl) ?_
  refine wp_iload_n dX8_set_88 rfl ?_
  exact wp_if_ne (tgt := 97) dX8_set_89 rfl k1 k2
theorem b_X8_set_92 {d : Nat} {Q : Option pV → pG → Prop} {g : pG} {v1 v2 v3 v4 : Int} {R : pG → Prop} (hc : CT d mX8_setMany [vR 45, vI v2] g (qV R)) (k : ∀ gg : pG, R gg → EV d mX8_set Q 97 [vR 45, vI v1, vI v2, vI v3, vI v4] [] gg) : EV d mX8_set Q 92 [vR 45, vI v1, vI v2, vI v3, vI v4] [] g := by
  refine wp_aload_n dX8_set_92 rfl rfl ?_
  refine wp_iload_n dX8_set_93 rfl ?_
  exact wp_callvV (As := [vI v2]) dX8_set_94 ml_8_199 (by decide) rfl L_45 (by decide) rfl (Nat.le_of_ble_eq_true rfl) rfl (Nat.le_refl _) (Nat.le_refl _) hc k
theorem b_X8_set_97 {d : Nat} {Q : Option pV → pG → Prop} {g : pG} {v1 v2 v3 v4 : Int} (k1 : (v1 ≠ 1) → EV d mX8_set Q 107 [vR 45, vI v1, vI v2, vI v3, vI v4] [vR 45] g) (k2 : ¬ (v1 ≠ 1) → EV d mX8_set Q 103 [vR 45, vI v1, vI v2, vI v3, vI v4] [vR 45] g) : EV d mX8_set Q 97 [vR 45, vI v1, vI v2, vI v3, vI v4] [] g := by
  refine wp_aload_n dX8_set_97 rfl rfl ?_
  refine wp_iload_n dX8_set_98 rfl ?_
  refine wp_iconst dX8_set_99 kc_1 ?_
  exact wp_icmp_ne (tgt := 107) dX8_set_100 rfl k1 k2
theorem b_X8_set_103 {d : Nat} {Q : Option pV → pG → Prop} {g : pG} {v1 v2 v3 v4 : Int} (k1 : (v1 ≠ 2) → EV d mX8_set Q 124 [vR 45, vI v1, vI v2, vI v3, vI v4] [vR 45] (cset g 45 (fup (g 45) 6 v2))) (k2 : ¬ (v1 ≠ 2) → EV d mX8_set Q 120 [vR 45, vI v1, vI v2, vI v3, vI v4] [vR 45] (cset g 45 (fup (g 45) 6 v2))) : EV d mX8_set Q 103 [vR 45, vI v1, vI v2, vI v3, vI v4] [vR 45] g := by
  refine wp_iload_n dX8_set_103 rfl ?_
  refine wp_goto (tgt := 111) dX8_set_104 rfl ?_
  refine wp_putI dX8_set_111 fl_8_26 L_45 rfl rfl ?_
  refine wp_aload_n dX8_set_114 rfl rfl ?_
  refine wp_iload_n dX8_set_115 rfl ?_
  refine wp_iconst dX8_set_116 kc_2 ?_
  exact wp_icmp_ne (tgt := 124) dX8_set_117 rfl k1 k2
theorem b_X8_set_107 {d : Nat} {Q : Option pV → pG → Prop} {g : pG} {v1 v2 v3 v4 : Int} (k1 : (v1 ≠ 2) → EV d mX8_set Q 124 [vR 45, vI v1, vI v2, vI v3, vI v4] [vR 45] (cset g 45 (fup (g 45) 6 ((g 45) 6)))) (k2 : ¬ (v1 ≠ 2) → EV d mX8_set Q 120 [vR 45, vI v1, vI v2, vI v3, vI v4] [vR 45] (cset g 45 (fup (g 45) 6 ((g 45) 6)))) : EV d mX8_set Q 107 [vR 45, vI v1, vI v2, vI v3, vI v4] [vR 45] g := by
  refine wp_aload_n dX8_set_107 rfl rfl ?_
  refine wp_get (v := vI ((g 45) 6)) dX8_set_108 fl_8_26 L_45 rfl ?_
  refine wp_putI dX8_set_111 fl_8_26 L_45 rfl rfl ?_
  refine wp_aload_n dX8_set_114 rfl rfl ?_
  refine wp_iload_n dX8_set_115 rfl ?_
  refine wp_iconst dX8_set_116 kc_2 ?_
  exact wp_icmp_ne (tgt := 124) dX8_set_117 rfl k1 k2
theorem b_X8_set_120 {d : Nat} {Q : Option pV → pG → Prop} {g : pG} {v1 v2 v3 v4 : Int} (hq : Q (some (vI v4)) (cset (cset g 45 (fup (g 45) 7 v2)) 45 (fup (fup (g 45) 7 v2) 28 0))) : EV d mX8_set Q 120 [vR 45, vI v1, vI v2, vI v3, vI v4] [vR 45] g := by
  refine wp_iload_n dX8_set_120 rfl ?_
  refine wp_goto (tgt := 128) dX8_set_121 rfl ?_
  refine wp_putI dX8_set_128 fl_8_29 L_45 rfl rfl ?_
  refine wp_aload_n dX8_set_131 rfl rfl ?_
  refine wp_iconst dX8_set_132 kc_0 ?_
  refine wp_putI dX8_set_133 fl_8_212 L_45 rfl rfl ?_
  refine wp_iload dX8_set_136 rfl ?_
  exact wp_iret dX8_set_138 rfl hq
theorem b_X8_set_124 {d : Nat} {Q : Option pV → pG → Prop} {g : pG} {v1 v2 v3 v4 : Int} (hq : Q (some (vI v4)) (cset (cset g 45 (fup (g 45) 7 ((g 45) 7))) 45 (fup (fup (g 45) 7 ((g 45) 7)) 28 0))) : EV d mX8_set Q 124 [vR 45, vI v1, vI v2, vI v3, vI v4] [vR 45] g := by
  refine wp_aload_n dX8_set_124 rfl rfl ?_
  refine wp_get (v := vI ((g 45) 7)) dX8_set_125 fl_8_29 L_45 rfl ?_
  refine wp_putI dX8_set_128 fl_8_29 L_45 rfl rfl ?_
  refine wp_aload_n dX8_set_131 rfl rfl ?_
  refine wp_iconst dX8_set_132 kc_0 ?_
  refine wp_putI dX8_set_133 fl_8_212 L_45 rfl rfl ?_
  refine wp_iload dX8_set_136 rfl ?_
  exact wp_iret dX8_set_138 rfl hq
theorem b_X8_down_0 {d : Nat} {Q : Option pV → pG → Prop} {g : pG} {v1 v2 : Int} {R : Int → pG → Prop} (hc : CT d mX8_wrongNumber [vI v1, vI 0, vI ((fup (g 45) 8 0) 0)] (cset g 45 (fup (g 45) 8 0)) (qI R)) (k : ∀ (x : Int) (gg : pG), R x gg → EV d mX8_down Q 14 [vR 45, vI v1, vI v2, vX 2] [vI x] gg) : EV d mX8_down Q 0 [vR 45, vI v1, vI v2, vX 2] [] g := by
  refine wp_aload_n dX8_down_0 rfl rfl ?_
  refine wp_iconst dX8_down_1 kc_0 ?_
  refine wp_putI dX8_down_2 fl_8_105 L_45 rfl rfl ?_
  refine wp_iload_n dX8_down_5 rfl ?_
  refine wp_iconst dX8_down_6 kc_0 ?_
  refine wp_aload_n dX8_down_7 rfl rfl ?_
  refine wp_get (v := vI ((fup (g 45) 8 0) 0)) dX8_down_8 fl_8_108 L_45 rfl ?_
  exact wp_callsI (As := [vI v1, vI 0, vI ((fup (g 45) 8 0) 0)]) dX8_down_11 ml_8_235 (Or.inl rfl) rfl (Nat.le_of_ble_eq_true rfl) rfl (Nat.le_refl _) (Nat.le_refl _) hc k
theorem b_X8_down_14 {d : Nat} {Q : Option pV → pG → Prop} {g : pG} {v1 v2 vs0 : Int} (k1 : (vs0 ≠ 0) → EV d mX8_down Q 52 [vR 45, vI v1, vI v2, vI vs0] [] g) (k2 : ¬ (vs0 ≠ 0) → EV d mX8_down Q 19 [vR 45, vI v1, vI v2, vI vs0] [] g) : EV d mX8_down Q 14 [vR 45, vI v1, vI v2, vX 2] [vI vs0] g := by
  refine wp_istore_n dX8_down_14 (Nat.le_of_ble_eq_true rfl) (pp (c := 2) rfl rfl) ?_
  refine wp_iload_n dX8_down_15 rfl ?_
  exact wp_if_ne (tgt := 52) dX8_down_16 rfl k1 k2
theorem b_X8_down_19 {d : Nat} {Q : Option pV → pG → Prop} {g : pG} {v1 v2 v3 : Int} {R : Int → pG → Prop} (hc : CT d mX8_in [vL v2, vL 0, vL 9] g (qI R)) (k : ∀ (x : Int) (gg : pG), R x gg → EV d mX8_down Q 28 [vR 45, vI v1, vI v2, vI v3] [vI x] gg) : EV d mX8_down Q 19 [vR 45, vI v1, vI v2, vI v3] [] g := by
  refine wp_iload_n dX8_down_19 rfl ?_
  refine wp_i2l dX8_down_20 ?_
  refine wp_lconst (x := 0) dX8_down_21 rfl ?_
  refine wp_ldc2_w dX8_down_22 k2_8_245 ?_
  exact wp_callsI (As := [vL v2, vL 0, vL 9]) dX8_down_25 ml_8_111 (Or.inl rfl) rfl (Nat.le_of_ble_eq_true rfl) rfl (Nat.le_refl _) (Nat.le_refl _) hc k
theorem b_X8_down_28 {d : Nat} {Q : Option pV → pG → Prop} {g : pG} {v1 v2 v3 vs0 : Int} (k1 : (vs0 = 0) → EV d mX8_down Q 47 [vR 45, vI v1, vI v2, vI v3] [] g) (k2 : ¬ (vs0 = 0) → EV d mX8_down Q 31 [vR 45, vI v1, vI v2, vI v3] [] g) : EV d mX8_down Q 28 [vR 45, vI v1, vI v2, vI v3] [vI vs0] g := by
  exact wp_if_eq (tgt := 47) dX8_down_28 rfl k1 k2
theorem b_X8_down_31 {d : Nat} {Q : Option pV → pG → Prop} {g : pG} {v1 v2 v3 : Int} {R : Int → pG → Prop} (hc : CT d mX8_in [vL v2, vL ((g 45) 4), vL 7] g (qI R)) (k : ∀ (x : Int) (gg : pG), R x gg → EV d mX8_down Q 44 [vR 45, vI v1, vI v2, vI v3] [vI x] gg) : EV d mX8_down Q 31 [vR 45, vI v1, vI v2, vI v3] [] g := by
  refine wp_iload_n dX8_down_31 rfl ?_
  refine wp_i2l dX8_down_32 ?_
  refine wp_aload_n dX8_down_33 rfl rfl ?_
  refine wp_get (v := vI ((g 45) 4)) dX8_down_34 fl_8_19 L_45 rfl ?_
  refine wp_i2l dX8_down_37 ?_
  refine wp_ldc2_w dX8_down_38 k2_8_247 ?_
  exact wp_callsI (As := [vL v2, vL ((g 45) 4), vL 7]) dX8_down_41 ml_8_111 (Or.inl rfl) rfl (Nat.le_of_ble_eq_true rfl) rfl (Nat.le_refl _) (Nat.le_refl _) hc k
theorem b_X8_down_44 {d : Nat} {Q : Option pV → pG → Prop} {g : pG} {v1 v2 v3 vs0 : Int} (k1 : (vs0 = 0) → EV d mX8_down Q 52 [vR 45, vI v1, vI v2, vI v3] [] g) (k2 : ¬ (vs0 = 0) → EV d mX8_down Q 47 [vR 45, vI v1, vI v2, vI v3] [] g) : EV d mX8_down Q 44 [vR 45, vI v1, vI v2, vI v3] [vI vs0] g := by
  exact wp_if_eq (tgt := 52) dX8_down_44 rfl k1 k2
theorem b_X8_down_47 {d : Nat} {Q : Option pV → pG → Prop} {g : pG} {v1 v2 v3 : Int} {R : Int → pG → Prop} (hc : CT d mX8_refuse [vR 45, vI (-2)] g (qI R)) (k : ∀ (x : Int) (gg : pG), R x gg → EV d mX8_down Q 65 [vR 45, vI v1, vI v2, vI (-2)] [vI x, vI 1000000000] gg) : EV d mX8_down Q 47 [vR 45, vI v1, vI v2, vI v3] [] g := by
  refine wp_bipush dX8_down_47 kb_m2 kc_m2 ?_
  refine wp_goto (tgt := 53) dX8_down_49 rfl ?_
  refine wp_istore_n dX8_down_53 (Nat.le_of_ble_eq_true rfl) (pp (c := 2) rfl rfl) ?_
  refine wp_iload_n dX8_down_54 rfl ?_
  refine wp_if_ge (tgt := 67) dX8_down_55 rfl (fun hh => absurd hh (by decide)) (fun _ => ?_)
  refine wp_ldc dX8_down_58 kl_8_239 ?_
  refine wp_aload_n dX8_down_60 rfl rfl ?_
  refine wp_iload_n dX8_down_61 rfl ?_
  exact wp_callvI (As := [vI (-2)]) dX8_down_62 ml_8_164 (by decide) rfl L_45 (by decide) rfl (Nat.le_of_ble_eq_true rfl) rfl (Nat.le_refl _) (Nat.le_refl _) hc k
theorem b_X8_down_52 {d : Nat} {Q : Option pV → pG → Prop} {g : pG} {v1 v2 v3 : Int} (k1 : (0 ≤ v3) → EV d mX8_down Q 67 [vR 45, vI v1, vI v2, vI v3] [] g) (k2 : ¬ (0 ≤ v3) → EV d mX8_down Q 58 [vR 45, vI v1, vI v2, vI v3] [] g) : EV d mX8_down Q 52 [vR 45, vI v1, vI v2, vI v3] [] g := by
  refine wp_iload_n dX8_down_52 rfl ?_
  refine wp_istore_n dX8_down_53 (Nat.le_of_ble_eq_true rfl) (pp (c := 2) rfl rfl) ?_
  refine wp_iload_n dX8_down_54 rfl ?_
  exact wp_if_ge (tgt := 67) dX8_down_55 rfl k1 k2
theorem b_X8_down_58 {d : Nat} {Q : Option pV → pG → Prop} {g : pG} {v1 v2 v3 : Int} {R : Int → pG → Prop} (hc : CT d mX8_refuse [vR 45, vI v3] g (qI R)) (k : ∀ (x : Int) (gg : pG), R x gg → EV d mX8_down Q 65 [vR 45, vI v1, vI v2, vI v3] [vI x, vI 1000000000] gg) : EV d mX8_down Q 58 [vR 45, vI v1, vI v2, vI v3] [] g := by
  refine wp_ldc dX8_down_58 kl_8_239 ?_
  refine wp_aload_n dX8_down_60 rfl rfl ?_
  refine wp_iload_n dX8_down_61 rfl ?_
  exact wp_callvI (As := [vI v3]) dX8_down_62 ml_8_164 (by decide) rfl L_45 (by decide) rfl (Nat.le_of_ble_eq_true rfl) rfl (Nat.le_refl _) (Nat.le_refl _) hc k
theorem b_X8_down_65 {d : Nat} {Q : Option pV → pG → Prop} {g : pG} {v1 v2 v3 vs0 vs1 : Int} (hq : Q (some (vI (w32 (vs0 - vs1)))) g) : EV d mX8_down Q 65 [vR 45, vI v1, vI v2, vI v3] [vI vs1, vI vs0] g := by
  refine wp_isub dX8_down_65 ?_
  exact wp_iret dX8_down_66 rfl hq
theorem b_X8_down_67 {d : Nat} {Q : Option pV → pG → Prop} {g : pG} {v1 v2 v3 : Int} {R : pG → Prop} (hc : CT d mX8_downTo [vR 45, vI v1] g (qV R)) (k : ∀ gg : pG, R gg → EV d mX8_down Q 72 [vR 45, vI v1, vI v2, vI v3] [] gg) : EV d mX8_down Q 67 [vR 45, vI v1, vI v2, vI v3] [] g := by
  refine wp_aload_n dX8_down_67 rfl rfl ?_
  refine wp_iload_n dX8_down_68 rfl ?_
  exact wp_callvV (As := [vI v1]) dX8_down_69 ml_8_249 (by decide) rfl L_45 (by decide) rfl (Nat.le_of_ble_eq_true rfl) rfl (Nat.le_refl _) (Nat.le_refl _) hc k
theorem b_X8_down_72 {d : Nat} {Q : Option pV → pG → Prop} {g : pG} {v1 v2 v3 : Int} (k1 : (8 ≤ v2) → EV d mX8_down Q 87 [vR 45, vI v1, vI v2, vI v3] [] g) (k2 : ¬ (8 ≤ v2) → EV d mX8_down Q 78 [vR 45, vI v1, vI v2, vI v3] [] g) : EV d mX8_down Q 72 [vR 45, vI v1, vI v2, vI v3] [] g := by
  refine wp_iload_n dX8_down_72 rfl ?_
  refine wp_bipush dX8_down_73 kb_8 kc_8 ?_
  exact wp_icmp_ge (tgt := 87) dX8_down_75 rfl k1 k2
theorem b_X8_down_78 {d : Nat} {Q : Option pV → pG → Prop} {g : pG} {v1 v2 v3 : Int} (h1 : 0 ≤ v2) (h2 : v2 < 8) (hq : Q (some (vI ((g 51) v2.toNat))) g) : EV d mX8_down Q 78 [vR 45, vI v1, vI v2, vI v3] [] g := by
  refine wp_aload_n dX8_down_78 rfl rfl ?_
  refine wp_get (v := vR 51) dX8_down_79 fl_8_35 L_45 rfl ?_
  refine wp_iload_n dX8_down_82 rfl ?_
  refine wp_iaload dX8_down_83 h1 L_51 h2 ?_
  refine wp_goto (tgt := 112) dX8_down_84 rfl ?_
  exact wp_iret dX8_down_112 rfl hq
theorem b_X8_down_87 {d : Nat} {Q : Option pV → pG → Prop} {g : pG} {v1 v2 v3 : Int} (k1 : (v2 ≠ 8) → EV d mX8_down Q 100 [vR 45, vI v1, vI v2, vI v3] [] g) (k2 : ¬ (v2 ≠ 8) → EV d mX8_down Q 93 [vR 45, vI v1, vI v2, vI v3] [] g) : EV d mX8_down Q 87 [vR 45, vI v1, vI v2, vI v3] [] g := by
  refine wp_iload_n dX8_down_87 rfl ?_
  refine wp_bipush dX8_down_88 kb_8 kc_8 ?_
  exact wp_icmp_ne (tgt := 100) dX8_down_90 rfl k1 k2
theorem b_X8_down_93 {d : Nat} {Q : Option pV → pG → Prop} {g : pG} {v1 v2 v3 : Int} {R : Int → pG → Prop} (hc : CT d mX8_sumNow [vR 45] g (qI R)) (k : ∀ (x : Int) (gg : pG), R x gg → EV d mX8_down Q 97 [vR 45, vI v1, vI v2, vI v3] [vI x] gg) : EV d mX8_down Q 93 [vR 45, vI v1, vI v2, vI v3] [] g := by
  refine wp_aload_n dX8_down_93 rfl rfl ?_
  exact wp_callvI (As := []) dX8_down_94 ml_8_118 (by decide) rfl L_45 (by decide) rfl (Nat.le_of_ble_eq_true rfl) rfl (Nat.le_refl _) (Nat.le_refl _) hc k
theorem b_X8_down_97 {d : Nat} {Q : Option pV → pG → Prop} {g : pG} {v1 v2 v3 vs0 : Int} (hq : Q (some (vI vs0)) g) : EV d mX8_down Q 97 [vR 45, vI v1, vI v2, vI v3] [vI vs0] g := by
  refine wp_goto (tgt := 112) dX8_down_97 rfl ?_
  exact wp_iret dX8_down_112 rfl hq
theorem b_X8_down_100 {d : Nat} {Q : Option pV → pG → Prop} {g : pG} {v1 v2 v3 : Int} {R : Int → pG → Prop} (hc : CT d mX8_isFor [vR 45] g (qI R)) (k : ∀ (x : Int) (gg : pG), R x gg → EV d mX8_down Q 104 [vR 45, vI v1, vI v2, vI v3] [vI x] gg) : EV d mX8_down Q 100 [vR 45, vI v1, vI v2, vI v3] [] g := by
  refine wp_aload_n dX8_down_100 rfl rfl ?_
  exact wp_callvI (As := []) dX8_down_101 ml_8_252 (by decide) rfl L_45 (by decide) rfl (Nat.le_of_ble_eq_true rfl) rfl (Nat.le_refl _) (Nat.le_refl _) hc k
theorem b_X8_down_104 {d : Nat} {Q : Option pV → pG → Prop} {g : pG} {v1 v2 v3 vs0 : Int} (k1 : (vs0 = 0) → EV d mX8_down Q 111 [vR 45, vI v1, vI v2, vI v3] [] g) (k2 : ¬ (vs0 = 0) → EV d mX8_down Q 107 [vR 45, vI v1, vI v2, vI v3] [] g) : EV d mX8_down Q 104 [vR 45, vI v1, vI v2, vI v3] [vI vs0] g := by
  exact wp_if_eq (tgt := 111) dX8_down_104 rfl k1 k2
theorem b_X8_down_107 {d : Nat} {Q : Option pV → pG → Prop} {g : pG} {v1 v2 v3 : Int} (hq : Q (some (vI 1)) g) : EV d mX8_down Q 107 [vR 45, vI v1, vI v2, vI v3] [] g := by
  refine wp_iconst dX8_down_107 kc_1 ?_
  refine wp_goto (tgt := 112) dX8_down_108 rfl ?_
  exact wp_iret dX8_down_112 rfl hq
theorem b_X8_down_111 {d : Nat} {Q : Option pV → pG → Prop} {g : pG} {v1 v2 v3 : Int} (hq : Q (some (vI 0)) g) : EV d mX8_down Q 111 [vR 45, vI v1, vI v2, vI v3] [] g := by
  refine wp_iconst dX8_down_111 kc_0 ?_
  exact wp_iret dX8_down_112 rfl hq
theorem b_X8_downTo_0 {d : Nat} {Q : Option pV → pG → Prop} {g : pG} {v1 : Int} {R : pG → Prop} (hc : CT d mX8_think [vR 45] g (qV R)) (k : ∀ gg : pG, R gg → EV d mX8_downTo Q 4 [vR 45, vI v1, vX 2] [] gg) : EV d mX8_downTo Q 0 [vR 45, vI v1, vX 2] [] g := by
  refine wp_aload_n dX8_downTo_0 rfl rfl ?_
  exact wp_callvV (As := []) dX8_downTo_1 ml_8_158 (by decide) rfl L_45 (by decide) rfl (Nat.le_of_ble_eq_true rfl) rfl (Nat.le_refl _) (Nat.le_refl _) hc k
theorem b_X8_downTo_4 {d : Nat} {Q : Option pV → pG → Prop} {g : pG} {v1 : Int} (k : EV d mX8_downTo Q 6 [vR 45, vI v1, vI 0] [] g) : EV d mX8_downTo Q 4 [vR 45, vI v1, vX 2] [] g := by
  refine wp_iconst dX8_downTo_4 kc_0 ?_
  refine wp_istore_n dX8_downTo_5 (Nat.le_of_ble_eq_true rfl) (pp (c := 1) rfl rfl) ?_
  exact k
theorem b_X8_downTo_6 {d : Nat} {Q : Option pV → pG → Prop} {g : pG} {v1 v2 : Int} (k1 : (v1 ≤ v2) → EV d mX8_downTo Q 22 [vR 45, vI v1, vI v2] [] g) (k2 : ¬ (v1 ≤ v2) → EV d mX8_downTo Q 11 [vR 45, vI v1, vI v2] [] g) : EV d mX8_downTo Q 6 [vR 45, vI v1, vI v2] [] g := by
  refine wp_iload_n dX8_downTo_6 rfl ?_
  refine wp_iload_n dX8_downTo_7 rfl ?_
  exact wp_icmp_ge (tgt := 22) dX8_downTo_8 rfl k1 k2
theorem b_X8_downTo_11 {d : Nat} {Q : Option pV → pG → Prop} {g : pG} {v1 v2 : Int} {R : pG → Prop} (hc : CT d mX8_pass [vR 45, vI v2] g (qV R)) (k : ∀ gg : pG, R gg → EV d mX8_downTo Q 16 [vR 45, vI v1, vI v2] [] gg) : EV d mX8_downTo Q 11 [vR 45, vI v1, vI v2] [] g := by
  refine wp_aload_n dX8_downTo_11 rfl rfl ?_
  refine wp_iload_n dX8_downTo_12 rfl ?_
  exact wp_callvV (As := [vI v2]) dX8_downTo_13 ml_8_154 (by decide) rfl L_45 (by decide) rfl (Nat.le_of_ble_eq_true rfl) rfl (Nat.le_refl _) (Nat.le_refl _) hc k
theorem b_X8_downTo_16 {d : Nat} {Q : Option pV → pG → Prop} {g : pG} {v1 v2 : Int} (k : EV d mX8_downTo Q 6 [vR 45, vI v1, vI (w32 (v2 + 1))] [] g) : EV d mX8_downTo Q 16 [vR 45, vI v1, vI v2] [] g := by
  refine wp_iinc dX8_downTo_16 rfl (Nat.le_of_ble_eq_true rfl) (pp (c := 1) rfl rfl) ?_
  refine wp_goto (tgt := 6) dX8_downTo_19 rfl ?_
  exact k
theorem b_X8_downTo_22 {d : Nat} {Q : Option pV → pG → Prop} {g : pG} {v1 v2 : Int} (hq : Q none g) : EV d mX8_downTo Q 22 [vR 45, vI v1, vI v2] [] g := by
  exact wp_vret dX8_downTo_22 rfl hq
theorem b_X8_think_0 {d : Nat} {Q : Option pV → pG → Prop} {g : pG} (k : EV d mX8_think Q 10 [vR 45, vI 0] [] (cset g 45 (fup (g 45) 11 ((g 45) 4)))) : EV d mX8_think Q 0 [vR 45, vX 2] [] g := by
  refine wp_aload_n dX8_think_0 rfl rfl ?_
  refine wp_aload_n dX8_think_1 rfl rfl ?_
  refine wp_get (v := vI ((g 45) 4)) dX8_think_2 fl_8_19 L_45 rfl ?_
  refine wp_putI dX8_think_5 fl_8_115 L_45 rfl rfl ?_
  refine wp_iconst dX8_think_8 kc_0 ?_
  refine wp_istore_n dX8_think_9 (Nat.le_of_ble_eq_true rfl) (pp (c := 0) rfl rfl) ?_
  exact k
theorem b_X8_think_10 {d : Nat} {Q : Option pV → pG → Prop} {g : pG} {v1 : Int} (k1 : (8 ≤ v1) → EV d mX8_think Q 34 [vR 45, vI v1] [] g) (k2 : ¬ (8 ≤ v1) → EV d mX8_think Q 16 [vR 45, vI v1] [] g) : EV d mX8_think Q 10 [vR 45, vI v1] [] g := by
  refine wp_iload_n dX8_think_10 rfl ?_
  refine wp_bipush dX8_think_11 kb_8 kc_8 ?_
  exact wp_icmp_ge (tgt := 34) dX8_think_13 rfl k1 k2
theorem b_X8_think_16 {d : Nat} {Q : Option pV → pG → Prop} {g : pG} {v1 : Int} (h1 : 0 ≤ v1) (h2 : v1 < 8) (k : EV d mX8_think Q 10 [vR 45, vI (w32 (v1 + 1))] [] (cset g 51 (fup (g 51) v1.toNat ((g 49) v1.toNat)))) : EV d mX8_think Q 16 [vR 45, vI v1] [] g := by
  refine wp_aload_n dX8_think_16 rfl rfl ?_
  refine wp_get (v := vR 51) dX8_think_17 fl_8_35 L_45 rfl ?_
  refine wp_iload_n dX8_think_20 rfl ?_
  refine wp_aload_n dX8_think_21 rfl rfl ?_
  refine wp_get (v := vR 49) dX8_think_22 fl_8_23 L_45 rfl ?_
  refine wp_iload_n dX8_think_25 rfl ?_
  refine wp_iaload dX8_think_26 h1 L_49 h2 ?_
  refine wp_iastore dX8_think_27 h1 L_51 h2 ?_
  refine wp_iinc dX8_think_28 rfl (Nat.le_of_ble_eq_true rfl) (pp (c := 0) rfl rfl) ?_
  refine wp_goto (tgt := 10) dX8_think_31 rfl ?_
  exact k
theorem b_X8_think_34 {d : Nat} {Q : Option pV → pG → Prop} {g : pG} {v1 : Int} (hq : Q none g) : EV d mX8_think Q 34 [vR 45, vI v1] [] g := by
  exact wp_vret dX8_think_34 rfl hq
theorem b_X8_pass_0 {d : Nat} {Q : Option pV → pG → Prop} {g : pG} {v1 : Int} {R : Int → pG → Prop} (hc : CT d mX8_sendsBack [vR 45, vI v1] g (qI R)) (k : ∀ (x : Int) (gg : pG), R x gg → EV d mX8_pass Q 5 [vR 45, vI v1] [vI x] gg) : EV d mX8_pass Q 0 [vR 45, vI v1] [] g := by
  refine wp_aload_n dX8_pass_0 rfl rfl ?_
  refine wp_iload_n dX8_pass_1 rfl ?_
  exact wp_callvI (As := [vI v1]) dX8_pass_2 ml_8_142 (by decide) rfl L_45 (by decide) rfl (Nat.le_of_ble_eq_true rfl) rfl (Nat.le_refl _) (Nat.le_refl _) hc k
theorem b_X8_pass_5 {d : Nat} {Q : Option pV → pG → Prop} {g : pG} {v1 vs0 : Int} (k1 : (vs0 ≠ 0) → EV d mX8_pass Q 24 [vR 45, vI v1] [] g) (k2 : ¬ (vs0 ≠ 0) → EV d mX8_pass Q 8 [vR 45, vI v1] [] g) : EV d mX8_pass Q 5 [vR 45, vI v1] [vI vs0] g := by
  exact wp_if_ne (tgt := 24) dX8_pass_5 rfl k1 k2
theorem b_X8_pass_8 {d : Nat} {Q : Option pV → pG → Prop} {g : pG} {v1 : Int} {R : pG → Prop} (h1 : 0 ≤ v1) (h2 : v1 < 7) (hc : CT d mX8_act [vR 45, vI ((g 46) v1.toNat), vI ((g 47) v1.toNat)] g (qV R)) (k : ∀ gg : pG, R gg → EV d mX8_pass Q 24 [vR 45, vI v1] [] gg) : EV d mX8_pass Q 8 [vR 45, vI v1] [] g := by
  refine wp_aload_n dX8_pass_8 rfl rfl ?_
  refine wp_aload_n dX8_pass_9 rfl rfl ?_
  refine wp_get (v := vR 46) dX8_pass_10 fl_8_7 L_45 rfl ?_
  refine wp_iload_n dX8_pass_13 rfl ?_
  refine wp_iaload dX8_pass_14 h1 L_46 h2 ?_
  refine wp_aload_n dX8_pass_15 rfl rfl ?_
  refine wp_get (v := vR 47) dX8_pass_16 fl_8_13 L_45 rfl ?_
  refine wp_iload_n dX8_pass_19 rfl ?_
  refine wp_iaload dX8_pass_20 h1 L_47 h2 ?_
  exact wp_callvV (As := [vI ((g 46) v1.toNat), vI ((g 47) v1.toNat)]) dX8_pass_21 ml_8_146 (by decide) rfl L_45 (by decide) rfl (Nat.le_of_ble_eq_true rfl) rfl (Nat.le_refl _) (Nat.le_refl _) hc k
theorem b_X8_pass_24 {d : Nat} {Q : Option pV → pG → Prop} {g : pG} {v1 : Int} (hq : Q none g) : EV d mX8_pass Q 24 [vR 45, vI v1] [] g := by
  exact wp_vret dX8_pass_24 rfl hq
theorem b_X8_sendsBack_0 {d : Nat} {Q : Option pV → pG → Prop} {g : pG} {v1 : Int} (h1 : 0 ≤ v1) (h2 : v1 < 7) (k1 : ((g 46) v1.toNat ≠ 3) → EV d mX8_sendsBack Q 25 [vR 45, vI v1] [] g) (k2 : ¬ ((g 46) v1.toNat ≠ 3) → EV d mX8_sendsBack Q 10 [vR 45, vI v1] [] g) : EV d mX8_sendsBack Q 0 [vR 45, vI v1] [] g := by
  refine wp_aload_n dX8_sendsBack_0 rfl rfl ?_
  refine wp_get (v := vR 46) dX8_sendsBack_1 fl_8_7 L_45 rfl ?_
  refine wp_iload_n dX8_sendsBack_4 rfl ?_
  refine wp_iaload dX8_sendsBack_5 h1 L_46 h2 ?_
  refine wp_iconst dX8_sendsBack_6 kc_3 ?_
  exact wp_icmp_ne (tgt := 25) dX8_sendsBack_7 rfl k1 k2
theorem b_X8_sendsBack_10 {d : Nat} {Q : Option pV → pG → Prop} {g : pG} {v1 : Int} {R : Int → pG → Prop} (hc : CT d mX8_standing [vR 45] g (qI R)) (k : ∀ (x : Int) (gg : pG), R x gg → EV d mX8_sendsBack Q 14 [vR 45, vI v1] [vI x] gg) : EV d mX8_sendsBack Q 10 [vR 45, vI v1] [] g := by
  refine wp_aload_n dX8_sendsBack_10 rfl rfl ?_
  exact wp_callvI (As := []) dX8_sendsBack_11 ml_8_139 (by decide) rfl L_45 (by decide) rfl (Nat.le_of_ble_eq_true rfl) rfl (Nat.le_refl _) (Nat.le_refl _) hc k
theorem b_X8_sendsBack_14 {d : Nat} {Q : Option pV → pG → Prop} {g : pG} {v1 vs0 : Int} (k1 : (vs0 ≤ (g 45) 7) → EV d mX8_sendsBack Q 25 [vR 45, vI v1] [] g) (k2 : ¬ (vs0 ≤ (g 45) 7) → EV d mX8_sendsBack Q 21 [vR 45, vI v1] [] g) : EV d mX8_sendsBack Q 14 [vR 45, vI v1] [vI vs0] g := by
  refine wp_aload_n dX8_sendsBack_14 rfl rfl ?_
  refine wp_get (v := vI ((g 45) 7)) dX8_sendsBack_15 fl_8_29 L_45 rfl ?_
  exact wp_icmp_le (tgt := 25) dX8_sendsBack_18 rfl k1 k2
theorem b_X8_sendsBack_21 {d : Nat} {Q : Option pV → pG → Prop} {g : pG} {v1 : Int} (hq : Q (some (vI 1)) g) : EV d mX8_sendsBack Q 21 [vR 45, vI v1] [] g := by
  refine wp_iconst dX8_sendsBack_21 kc_1 ?_
  refine wp_goto (tgt := 26) dX8_sendsBack_22 rfl ?_
  exact wp_zret dX8_sendsBack_26 rfl (Or.inr rfl) hq
theorem b_X8_sendsBack_25 {d : Nat} {Q : Option pV → pG → Prop} {g : pG} {v1 : Int} (hq : Q (some (vI 0)) g) : EV d mX8_sendsBack Q 25 [vR 45, vI v1] [] g := by
  refine wp_iconst dX8_sendsBack_25 kc_0 ?_
  exact wp_zret dX8_sendsBack_26 rfl (Or.inl rfl) hq
theorem b_X8_standing_0 {d : Nat} {Q : Option pV → pG → Prop} {g : pG} (k : EV d mX8_standing Q 4 [vR 45, vI 0, vI 0] [] g) : EV d mX8_standing Q 0 [vR 45, vX 2, vX 2] [] g := by
  refine wp_iconst dX8_standing_0 kc_0 ?_
  refine wp_istore_n dX8_standing_1 (Nat.le_of_ble_eq_true rfl) (pp (c := 0) rfl rfl) ?_
  refine wp_iconst dX8_standing_2 kc_0 ?_
  refine wp_istore_n dX8_standing_3 (Nat.le_of_ble_eq_true rfl) (pp (c := 1) rfl rfl) ?_
  exact k
theorem b_X8_standing_4 {d : Nat} {Q : Option pV → pG → Prop} {g : pG} {v1 v2 : Int} (k1 : ((g 45) 11 ≤ v2) → EV d mX8_standing Q 35 [vR 45, vI v1, vI v2] [] g) (k2 : ¬ ((g 45) 11 ≤ v2) → EV d mX8_standing Q 12 [vR 45, vI v1, vI v2] [] g) : EV d mX8_standing Q 4 [vR 45, vI v1, vI v2] [] g := by
  refine wp_iload_n dX8_standing_4 rfl ?_
  refine wp_aload_n dX8_standing_5 rfl rfl ?_
  refine wp_get (v := vI ((g 45) 11)) dX8_standing_6 fl_8_115 L_45 rfl ?_
  exact wp_icmp_ge (tgt := 35) dX8_standing_9 rfl k1 k2
theorem b_X8_standing_12 {d : Nat} {Q : Option pV → pG → Prop} {g : pG} {v1 v2 : Int} (h1 : 0 ≤ v2) (h2 : v2 < 8) (k1 : ((g 51) v2.toNat ≠ 0) → EV d mX8_standing Q 26 [vR 45, vI v1, vI v2] [vI v1] g) (k2 : ¬ ((g 51) v2.toNat ≠ 0) → EV d mX8_standing Q 22 [vR 45, vI v1, vI v2] [vI v1] g) : EV d mX8_standing Q 12 [vR 45, vI v1, vI v2] [] g := by
  refine wp_iload_n dX8_standing_12 rfl ?_
  refine wp_aload_n dX8_standing_13 rfl rfl ?_
  refine wp_get (v := vR 51) dX8_standing_14 fl_8_35 L_45 rfl ?_
  refine wp_iload_n dX8_standing_17 rfl ?_
  refine wp_iaload dX8_standing_18 h1 L_51 h2 ?_
  exact wp_if_ne (tgt := 26) dX8_standing_19 rfl k1 k2
theorem b_X8_standing_22 {d : Nat} {Q : Option pV → pG → Prop} {g : pG} {v1 v2 vs0 : Int} (k : EV d mX8_standing Q 4 [vR 45, vI (w32 (vs0 + 0)), vI (w32 (v2 + 1))] [] g) : EV d mX8_standing Q 22 [vR 45, vI v1, vI v2] [vI vs0] g := by
  refine wp_iconst dX8_standing_22 kc_0 ?_
  refine wp_goto (tgt := 27) dX8_standing_23 rfl ?_
  refine wp_iadd dX8_standing_27 ?_
  refine wp_istore_n dX8_standing_28 (Nat.le_of_ble_eq_true rfl) (pp (c := 0) rfl rfl) ?_
  refine wp_iinc dX8_standing_29 rfl (Nat.le_of_ble_eq_true rfl) (pp (c := 1) rfl rfl) ?_
  refine wp_goto (tgt := 4) dX8_standing_32 rfl ?_
  exact k
theorem b_X8_standing_26 {d : Nat} {Q : Option pV → pG → Prop} {g : pG} {v1 v2 vs0 : Int} (k : EV d mX8_standing Q 4 [vR 45, vI (w32 (vs0 + 1)), vI (w32 (v2 + 1))] [] g) : EV d mX8_standing Q 26 [vR 45, vI v1, vI v2] [vI vs0] g := by
  refine wp_iconst dX8_standing_26 kc_1 ?_
  refine wp_iadd dX8_standing_27 ?_
  refine wp_istore_n dX8_standing_28 (Nat.le_of_ble_eq_true rfl) (pp (c := 0) rfl rfl) ?_
  refine wp_iinc dX8_standing_29 rfl (Nat.le_of_ble_eq_true rfl) (pp (c := 1) rfl rfl) ?_
  refine wp_goto (tgt := 4) dX8_standing_32 rfl ?_
  exact k
theorem b_X8_standing_35 {d : Nat} {Q : Option pV → pG → Prop} {g : pG} {v1 v2 : Int} (hq : Q (some (vI v1)) g) : EV d mX8_standing Q 35 [vR 45, vI v1, vI v2] [] g := by
  refine wp_iload_n dX8_standing_35 rfl ?_
  exact wp_iret dX8_standing_36 rfl hq
theorem b_X8_act_0 {d : Nat} {Q : Option pV → pG → Prop} {g : pG} {v1 v2 : Int} {R : Int → pG → Prop} (hc : CT d mX8_surest [vR 45] g (qI R)) (k : ∀ (x : Int) (gg : pG), R x gg → EV d mX8_act Q 4 [vR 45, vI v1, vI v2, vX 2, vX 2] [vI x] gg) : EV d mX8_act Q 0 [vR 45, vI v1, vI v2, vX 2, vX 2] [] g := by
  refine wp_aload_n dX8_act_0 rfl rfl ?_
  exact wp_callvI (As := []) dX8_act_1 ml_8_126 (by decide) rfl L_45 (by decide) rfl (Nat.le_of_ble_eq_true rfl) rfl (Nat.le_refl _) (Nat.le_refl _) hc k
theorem b_X8_act_4 {d : Nat} {Q : Option pV → pG → Prop} {g : pG} {v1 v2 vs0 : Int} (k0 : v1 = 1 → EV d mX8_act Q 40 [vR 45, vI v1, vI v2, vI vs0, vX 2] [] g) (k1 : v1 = 2 → EV d mX8_act Q 48 [vR 45, vI v1, vI v2, vI vs0, vX 2] [] g) (k2 : v1 = 3 → EV d mX8_act Q 56 [vR 45, vI v1, vI v2, vI vs0, vX 2] [] g) (k3 : v1 = 4 → EV d mX8_act Q 93 [vR 45, vI v1, vI v2, vI vs0, vX 2] [] g) (k4 : v1 = 5 → EV d mX8_act Q 167 [vR 45, vI v1, vI v2, vI vs0, vX 2] [] g) (kd : (v1 ≠ 1 ∧ v1 ≠ 2 ∧ v1 ≠ 3 ∧ v1 ≠ 4 ∧ v1 ≠ 5) → EV d mX8_act Q 179 [vR 45, vI v1, vI v2, vI vs0, vX 2] [] g) : EV d mX8_act Q 4 [vR 45, vI v1, vI v2, vX 2, vX 2] [vI vs0] g := by
  refine wp_istore_n dX8_act_4 (Nat.le_of_ble_eq_true rfl) (pp (c := 2) rfl rfl) ?_
  refine wp_iload_n dX8_act_5 rfl ?_
  refine wp_tsw (x := v1) dX8_act_6 (fun hh => ⟨179, rfl, kd (by omega)⟩) (fun hh hh2 => ?_)
  rcases (show v1 = 1 ∨ v1 = 2 ∨ v1 = 3 ∨ v1 = 4 ∨ v1 = 5 by omega) with hq | hq | hq | hq | hq
  · exact ⟨34, 40, by rw [hq]; rfl, rfl, k0 hq⟩
  · exact ⟨42, 48, by rw [hq]; rfl, rfl, k1 hq⟩
  · exact ⟨50, 56, by rw [hq]; rfl, rfl, k2 hq⟩
  · exact ⟨87, 93, by rw [hq]; rfl, rfl, k3 hq⟩
  · exact ⟨161, 167, by rw [hq]; rfl, rfl, k4 hq⟩
theorem b_X8_act_40 {d : Nat} {Q : Option pV → pG → Prop} {g : pG} {v1 v2 v3 : Int} {R : pG → Prop} (hc : CT d mX8_bench [vR 45, vI 0] g (qV R)) (k : ∀ gg : pG, R gg → EV d mX8_act Q 45 [vR 45, vI v1, vI v2, vI v3, vX 2] [] gg) : EV d mX8_act Q 40 [vR 45, vI v1, vI v2, vI v3, vX 2] [] g := by
  refine wp_aload_n dX8_act_40 rfl rfl ?_
  refine wp_iconst dX8_act_41 kc_0 ?_
  exact wp_callvV (As := [vI 0]) dX8_act_42 ml_8_132 (by decide) rfl L_45 (by decide) rfl (Nat.le_of_ble_eq_true rfl) rfl (Nat.le_refl _) (Nat.le_refl _) hc k
theorem b_X8_act_45 {d : Nat} {Q : Option pV → pG → Prop} {g : pG} {v1 v2 v3 : Int} (hq : Q none g) : EV d mX8_act Q 45 [vR 45, vI v1, vI v2, vI v3, vX 2] [] g := by
  refine wp_goto (tgt := 183) dX8_act_45 rfl ?_
  exact wp_vret dX8_act_183 rfl hq
theorem b_X8_act_48 {d : Nat} {Q : Option pV → pG → Prop} {g : pG} {v1 v2 v3 : Int} {R : pG → Prop} (hc : CT d mX8_bench [vR 45, vI 1] g (qV R)) (k : ∀ gg : pG, R gg → EV d mX8_act Q 53 [vR 45, vI v1, vI v2, vI v3, vX 2] [] gg) : EV d mX8_act Q 48 [vR 45, vI v1, vI v2, vI v3, vX 2] [] g := by
  refine wp_aload_n dX8_act_48 rfl rfl ?_
  refine wp_iconst dX8_act_49 kc_1 ?_
  exact wp_callvV (As := [vI 1]) dX8_act_50 ml_8_132 (by decide) rfl L_45 (by decide) rfl (Nat.le_of_ble_eq_true rfl) rfl (Nat.le_refl _) (Nat.le_refl _) hc k
theorem b_X8_act_53 {d : Nat} {Q : Option pV → pG → Prop} {g : pG} {v1 v2 v3 : Int} (hq : Q none g) : EV d mX8_act Q 53 [vR 45, vI v1, vI v2, vI v3, vX 2] [] g := by
  refine wp_goto (tgt := 183) dX8_act_53 rfl ?_
  exact wp_vret dX8_act_183 rfl hq
theorem b_X8_act_56 {d : Nat} {Q : Option pV → pG → Prop} {g : pG} {v1 v2 v3 : Int} (h1 : 0 ≤ v3) (h2 : v3 < 8) (k1 : (0 ≤ (g 51) v3.toNat) → EV d mX8_act Q 74 [vR 45, vI v1, vI v2, vI v3, vX 2] [vI v3, vR 51] g) (k2 : ¬ (0 ≤ (g 51) v3.toNat) → EV d mX8_act Q 70 [vR 45, vI v1, vI v2, vI v3, vX 2] [vI v3, vR 51] g) : EV d mX8_act Q 56 [vR 45, vI v1, vI v2, vI v3, vX 2] [] g := by
  refine wp_aload_n dX8_act_56 rfl rfl ?_
  refine wp_get (v := vR 51) dX8_act_57 fl_8_35 L_45 rfl ?_
  refine wp_iload_n dX8_act_60 rfl ?_
  refine wp_aload_n dX8_act_61 rfl rfl ?_
  refine wp_get (v := vR 51) dX8_act_62 fl_8_35 L_45 rfl ?_
  refine wp_iload_n dX8_act_65 rfl ?_
  refine wp_iaload dX8_act_66 h1 L_51 h2 ?_
  exact wp_if_ge (tgt := 74) dX8_act_67 rfl k1 k2
theorem b_X8_act_70 {d : Nat} {Q : Option pV → pG → Prop} {g : pG} {v1 v2 v3 vs1 : Int} (h1 : 0 ≤ vs1) (h2 : vs1 < 8) (hq : Q none (cset g 51 (fup (g 51) vs1.toNat v2))) : EV d mX8_act Q 70 [vR 45, vI v1, vI v2, vI v3, vX 2] [vI vs1, vR 51] g := by
  refine wp_iload_n dX8_act_70 rfl ?_
  refine wp_goto (tgt := 89) dX8_act_71 rfl ?_
  refine wp_iastore dX8_act_89 h1 L_51 h2 ?_
  refine wp_goto (tgt := 183) dX8_act_90 rfl ?_
  exact wp_vret dX8_act_183 rfl hq
theorem b_X8_act_74 {d : Nat} {Q : Option pV → pG → Prop} {g : pG} {v1 v2 v3 vs1 : Int} (h1 : 0 ≤ v3) (h2 : v3 < 8) (k1 : ((g 51) v3.toNat ≤ 0) → EV d mX8_act Q 88 [vR 45, vI v1, vI v2, vI v3, vX 2] [vI vs1, vR 51] g) (k2 : ¬ ((g 51) v3.toNat ≤ 0) → EV d mX8_act Q 83 [vR 45, vI v1, vI v2, vI v3, vX 2] [vI vs1, vR 51] g) : EV d mX8_act Q 74 [vR 45, vI v1, vI v2, vI v3, vX 2] [vI vs1, vR 51] g := by
  refine wp_aload_n dX8_act_74 rfl rfl ?_
  refine wp_get (v := vR 51) dX8_act_75 fl_8_35 L_45 rfl ?_
  refine wp_iload_n dX8_act_78 rfl ?_
  refine wp_iaload dX8_act_79 h1 L_51 h2 ?_
  exact wp_if_le (tgt := 88) dX8_act_80 rfl k1 k2
theorem b_X8_act_83 {d : Nat} {Q : Option pV → pG → Prop} {g : pG} {v1 v2 v3 vs1 : Int} (h1 : 0 ≤ vs1) (h2 : vs1 < 8) (hq : Q none (cset g 51 (fup (g 51) vs1.toNat (w32 (-v2))))) : EV d mX8_act Q 83 [vR 45, vI v1, vI v2, vI v3, vX 2] [vI vs1, vR 51] g := by
  refine wp_iload_n dX8_act_83 rfl ?_
  refine wp_ineg dX8_act_84 ?_
  refine wp_goto (tgt := 89) dX8_act_85 rfl ?_
  refine wp_iastore dX8_act_89 h1 L_51 h2 ?_
  refine wp_goto (tgt := 183) dX8_act_90 rfl ?_
  exact wp_vret dX8_act_183 rfl hq
theorem b_X8_act_88 {d : Nat} {Q : Option pV → pG → Prop} {g : pG} {v1 v2 v3 vs1 : Int} (h1 : 0 ≤ vs1) (h2 : vs1 < 8) (hq : Q none (cset g 51 (fup (g 51) vs1.toNat 0))) : EV d mX8_act Q 88 [vR 45, vI v1, vI v2, vI v3, vX 2] [vI vs1, vR 51] g := by
  refine wp_iconst dX8_act_88 kc_0 ?_
  refine wp_iastore dX8_act_89 h1 L_51 h2 ?_
  refine wp_goto (tgt := 183) dX8_act_90 rfl ?_
  exact wp_vret dX8_act_183 rfl hq
theorem b_X8_act_93 {d : Nat} {Q : Option pV → pG → Prop} {g : pG} {v1 v2 v3 : Int} {R : pG → Prop} (hc : CT d mX8_halve [vR 45] g (qV R)) (k : ∀ gg : pG, R gg → EV d mX8_act Q 97 [vR 45, vI v1, vI v2, vI v3, vX 2] [] gg) : EV d mX8_act Q 93 [vR 45, vI v1, vI v2, vI v3, vX 2] [] g := by
  refine wp_aload_n dX8_act_93 rfl rfl ?_
  exact wp_callvV (As := []) dX8_act_94 ml_8_136 (by decide) rfl L_45 (by decide) rfl (Nat.le_of_ble_eq_true rfl) rfl (Nat.le_refl _) (Nat.le_refl _) hc k
theorem b_X8_act_97 {d : Nat} {Q : Option pV → pG → Prop} {g : pG} {v1 v2 v3 : Int} (k : EV d mX8_act Q 100 [vR 45, vI v1, vI v2, vI v3, vI 0] [] g) : EV d mX8_act Q 97 [vR 45, vI v1, vI v2, vI v3, vX 2] [] g := by
  refine wp_iconst dX8_act_97 kc_0 ?_
  refine wp_istore dX8_act_98 (Nat.le_of_ble_eq_true rfl) (pp (c := 3) rfl rfl) ?_
  exact k
theorem b_X8_act_100 {d : Nat} {Q : Option pV → pG → Prop} {g : pG} {v1 v2 v3 v4 : Int} (k1 : ((g 45) 11 ≤ v4) → EV d mX8_act Q 164 [vR 45, vI v1, vI v2, vI v3, vI v4] [] g) (k2 : ¬ ((g 45) 11 ≤ v4) → EV d mX8_act Q 109 [vR 45, vI v1, vI v2, vI v3, vI v4] [] g) : EV d mX8_act Q 100 [vR 45, vI v1, vI v2, vI v3, vI v4] [] g := by
  refine wp_iload dX8_act_100 rfl ?_
  refine wp_aload_n dX8_act_102 rfl rfl ?_
  refine wp_get (v := vI ((g 45) 11)) dX8_act_103 fl_8_115 L_45 rfl ?_
  exact wp_icmp_ge (tgt := 164) dX8_act_106 rfl k1 k2
theorem b_X8_act_109 {d : Nat} {Q : Option pV → pG → Prop} {g : pG} {v1 v2 v3 v4 : Int} (h1 : 0 ≤ v4) (h2 : v4 < 8) (k1 : (v4 ≠ v3) → EV d mX8_act Q 127 [vR 45, vI v1, vI v2, vI v3, vI v4] [vI ((g 51) v4.toNat), vI v4, vR 51] g) (k2 : ¬ (v4 ≠ v3) → EV d mX8_act Q 123 [vR 45, vI v1, vI v2, vI v3, vI v4] [vI ((g 51) v4.toNat), vI v4, vR 51] g) : EV d mX8_act Q 109 [vR 45, vI v1, vI v2, vI v3, vI v4] [] g := by
  refine wp_aload_n dX8_act_109 rfl rfl ?_
  refine wp_get (v := vR 51) dX8_act_110 fl_8_35 L_45 rfl ?_
  refine wp_iload dX8_act_113 rfl ?_
  refine wp_dup2 dX8_act_115 rfl rfl ?_
  refine wp_iaload dX8_act_116 h1 L_51 h2 ?_
  refine wp_iload dX8_act_117 rfl ?_
  refine wp_iload_n dX8_act_119 rfl ?_
  exact wp_icmp_ne (tgt := 127) dX8_act_120 rfl k1 k2
theorem b_X8_act_123 {d : Nat} {Q : Option pV → pG → Prop} {g : pG} {v1 v2 v3 v4 vs1 vs2 : Int} (h1 : 0 ≤ vs1) (h2 : vs1 < 8) (k : EV d mX8_act Q 100 [vR 45, vI v1, vI v2, vI v3, vI (w32 (v4 + 1))] [] (cset g 51 (fup (g 51) vs1.toNat (w32 (vs2 - 0))))) : EV d mX8_act Q 123 [vR 45, vI v1, vI v2, vI v3, vI v4] [vI vs2, vI vs1, vR 51] g := by
  refine wp_iconst dX8_act_123 kc_0 ?_
  refine wp_goto (tgt := 156) dX8_act_124 rfl ?_
  refine wp_isub dX8_act_156 ?_
  refine wp_iastore dX8_act_157 h1 L_51 h2 ?_
  refine wp_iinc dX8_act_158 rfl (Nat.le_of_ble_eq_true rfl) (pp (c := 3) rfl rfl) ?_
  refine wp_goto (tgt := 100) dX8_act_161 rfl ?_
  exact k
theorem b_X8_act_127 {d : Nat} {Q : Option pV → pG → Prop} {g : pG} {v1 v2 v3 v4 vs1 vs2 : Int} (h1 : 0 ≤ v4) (h2 : v4 < 8) (k1 : ((g 51) v4.toNat ≤ 0) → EV d mX8_act Q 141 [vR 45, vI v1, vI v2, vI v3, vI v4] [vI vs2, vI vs1, vR 51] g) (k2 : ¬ ((g 51) v4.toNat ≤ 0) → EV d mX8_act Q 137 [vR 45, vI v1, vI v2, vI v3, vI v4] [vI vs2, vI vs1, vR 51] g) : EV d mX8_act Q 127 [vR 45, vI v1, vI v2, vI v3, vI v4] [vI vs2, vI vs1, vR 51] g := by
  refine wp_aload_n dX8_act_127 rfl rfl ?_
  refine wp_get (v := vR 51) dX8_act_128 fl_8_35 L_45 rfl ?_
  refine wp_iload dX8_act_131 rfl ?_
  refine wp_iaload dX8_act_133 h1 L_51 h2 ?_
  exact wp_if_le (tgt := 141) dX8_act_134 rfl k1 k2
theorem b_X8_act_137 {d : Nat} {Q : Option pV → pG → Prop} {g : pG} {v1 v2 v3 v4 vs1 vs2 : Int} (h1 : 0 ≤ vs1) (h2 : vs1 < 8) (k : EV d mX8_act Q 100 [vR 45, vI v1, vI v2, vI v3, vI (w32 (v4 + 1))] [] (cset g 51 (fup (g 51) vs1.toNat (w32 (vs2 - 1))))) : EV d mX8_act Q 137 [vR 45, vI v1, vI v2, vI v3, vI v4] [vI vs2, vI vs1, vR 51] g := by
  refine wp_iconst dX8_act_137 kc_1 ?_
  refine wp_goto (tgt := 156) dX8_act_138 rfl ?_
  refine wp_isub dX8_act_156 ?_
  refine wp_iastore dX8_act_157 h1 L_51 h2 ?_
  refine wp_iinc dX8_act_158 rfl (Nat.le_of_ble_eq_true rfl) (pp (c := 3) rfl rfl) ?_
  refine wp_goto (tgt := 100) dX8_act_161 rfl ?_
  exact k
theorem b_X8_act_141 {d : Nat} {Q : Option pV → pG → Prop} {g : pG} {v1 v2 v3 v4 vs1 vs2 : Int} (h1 : 0 ≤ v4) (h2 : v4 < 8) (k1 : (0 ≤ (g 51) v4.toNat) → EV d mX8_act Q 155 [vR 45, vI v1, vI v2, vI v3, vI v4] [vI vs2, vI vs1, vR 51] g) (k2 : ¬ (0 ≤ (g 51) v4.toNat) → EV d mX8_act Q 151 [vR 45, vI v1, vI v2, vI v3, vI v4] [vI vs2, vI vs1, vR 51] g) : EV d mX8_act Q 141 [vR 45, vI v1, vI v2, vI v3, vI v4] [vI vs2, vI vs1, vR 51] g := by
  refine wp_aload_n dX8_act_141 rfl rfl ?_
  refine wp_get (v := vR 51) dX8_act_142 fl_8_35 L_45 rfl ?_
  refine wp_iload dX8_act_145 rfl ?_
  refine wp_iaload dX8_act_147 h1 L_51 h2 ?_
  exact wp_if_ge (tgt := 155) dX8_act_148 rfl k1 k2
theorem b_X8_act_151 {d : Nat} {Q : Option pV → pG → Prop} {g : pG} {v1 v2 v3 v4 vs1 vs2 : Int} (h1 : 0 ≤ vs1) (h2 : vs1 < 8) (k : EV d mX8_act Q 100 [vR 45, vI v1, vI v2, vI v3, vI (w32 (v4 + 1))] [] (cset g 51 (fup (g 51) vs1.toNat (w32 (vs2 - (-1)))))) : EV d mX8_act Q 151 [vR 45, vI v1, vI v2, vI v3, vI v4] [vI vs2, vI vs1, vR 51] g := by
  refine wp_iconst dX8_act_151 kc_m1 ?_
  refine wp_goto (tgt := 156) dX8_act_152 rfl ?_
  refine wp_isub dX8_act_156 ?_
  refine wp_iastore dX8_act_157 h1 L_51 h2 ?_
  refine wp_iinc dX8_act_158 rfl (Nat.le_of_ble_eq_true rfl) (pp (c := 3) rfl rfl) ?_
  refine wp_goto (tgt := 100) dX8_act_161 rfl ?_
  exact k
theorem b_X8_act_155 {d : Nat} {Q : Option pV → pG → Prop} {g : pG} {v1 v2 v3 v4 vs1 vs2 : Int} (h1 : 0 ≤ vs1) (h2 : vs1 < 8) (k : EV d mX8_act Q 100 [vR 45, vI v1, vI v2, vI v3, vI (w32 (v4 + 1))] [] (cset g 51 (fup (g 51) vs1.toNat (w32 (vs2 - 0))))) : EV d mX8_act Q 155 [vR 45, vI v1, vI v2, vI v3, vI v4] [vI vs2, vI vs1, vR 51] g := by
  refine wp_iconst dX8_act_155 kc_0 ?_
  refine wp_isub dX8_act_156 ?_
  refine wp_iastore dX8_act_157 h1 L_51 h2 ?_
  refine wp_iinc dX8_act_158 rfl (Nat.le_of_ble_eq_true rfl) (pp (c := 3) rfl rfl) ?_
  refine wp_goto (tgt := 100) dX8_act_161 rfl ?_
  exact k
theorem b_X8_act_164 {d : Nat} {Q : Option pV → pG → Prop} {g : pG} {v1 v2 v3 v4 : Int} (hq : Q none g) : EV d mX8_act Q 164 [vR 45, vI v1, vI v2, vI v3, vI v4] [] g := by
  refine wp_goto (tgt := 183) dX8_act_164 rfl ?_
  exact wp_vret dX8_act_183 rfl hq
theorem b_X8_act_167 {d : Nat} {Q : Option pV → pG → Prop} {g : pG} {v1 v2 v3 : Int} {R : pG → Prop} (hc : CT d mX8_bench [vR 45, vI 1] g (qV R)) (k : ∀ gg : pG, R gg → EV d mX8_act Q 172 [vR 45, vI v1, vI v2, vI v3, vX 2] [] gg) : EV d mX8_act Q 167 [vR 45, vI v1, vI v2, vI v3, vX 2] [] g := by
  refine wp_aload_n dX8_act_167 rfl rfl ?_
  refine wp_iconst dX8_act_168 kc_1 ?_
  exact wp_callvV (As := [vI 1]) dX8_act_169 ml_8_132 (by decide) rfl L_45 (by decide) rfl (Nat.le_of_ble_eq_true rfl) rfl (Nat.le_refl _) (Nat.le_refl _) hc k
theorem b_X8_act_172 {d : Nat} {Q : Option pV → pG → Prop} {g : pG} {v1 v2 v3 : Int} {R : pG → Prop} (hc : CT d mX8_halve [vR 45] g (qV R)) (k : ∀ gg : pG, R gg → EV d mX8_act Q 176 [vR 45, vI v1, vI v2, vI v3, vX 2] [] gg) : EV d mX8_act Q 172 [vR 45, vI v1, vI v2, vI v3, vX 2] [] g := by
  refine wp_aload_n dX8_act_172 rfl rfl ?_
  exact wp_callvV (As := []) dX8_act_173 ml_8_136 (by decide) rfl L_45 (by decide) rfl (Nat.le_of_ble_eq_true rfl) rfl (Nat.le_refl _) (Nat.le_refl _) hc k
theorem b_X8_act_176 {d : Nat} {Q : Option pV → pG → Prop} {g : pG} {v1 v2 v3 : Int} (hq : Q none g) : EV d mX8_act Q 176 [vR 45, vI v1, vI v2, vI v3, vX 2] [] g := by
  refine wp_goto (tgt := 183) dX8_act_176 rfl ?_
  exact wp_vret dX8_act_183 rfl hq
theorem b_X8_act_179 {d : Nat} {Q : Option pV → pG → Prop} {g : pG} {v1 v2 v3 : Int} {R : pG → Prop} (hc : CT d mX8_halve [vR 45] g (qV R)) (k : ∀ gg : pG, R gg → EV d mX8_act Q 183 [vR 45, vI v1, vI v2, vI v3, vX 2] [] gg) : EV d mX8_act Q 179 [vR 45, vI v1, vI v2, vI v3, vX 2] [] g := by
  refine wp_aload_n dX8_act_179 rfl rfl ?_
  exact wp_callvV (As := []) dX8_act_180 ml_8_136 (by decide) rfl L_45 (by decide) rfl (Nat.le_of_ble_eq_true rfl) rfl (Nat.le_refl _) (Nat.le_refl _) hc k
theorem b_X8_act_183 {d : Nat} {Q : Option pV → pG → Prop} {g : pG} {v1 v2 v3 : Int} (hq : Q none g) : EV d mX8_act Q 183 [vR 45, vI v1, vI v2, vI v3, vX 2] [] g := by
  exact wp_vret dX8_act_183 rfl hq
theorem b_X8_surest_0 {d : Nat} {Q : Option pV → pG → Prop} {g : pG} (k : EV d mX8_surest Q 4 [vR 45, vI 0, vI 1] [] g) : EV d mX8_surest Q 0 [vR 45, vX 2, vX 2] [] g := by
  refine wp_iconst dX8_surest_0 kc_0 ?_
  refine wp_istore_n dX8_surest_1 (Nat.le_of_ble_eq_true rfl) (pp (c := 0) rfl rfl) ?_
  refine wp_iconst dX8_surest_2 kc_1 ?_
  refine wp_istore_n dX8_surest_3 (Nat.le_of_ble_eq_true rfl) (pp (c := 1) rfl rfl) ?_
  exact k
theorem b_X8_surest_4 {d : Nat} {Q : Option pV → pG → Prop} {g : pG} {v1 v2 : Int} (k1 : ((g 45) 11 ≤ v2) → EV d mX8_surest Q 45 [vR 45, vI v1, vI v2] [] g) (k2 : ¬ ((g 45) 11 ≤ v2) → EV d mX8_surest Q 12 [vR 45, vI v1, vI v2] [] g) : EV d mX8_surest Q 4 [vR 45, vI v1, vI v2] [] g := by
  refine wp_iload_n dX8_surest_4 rfl ?_
  refine wp_aload_n dX8_surest_5 rfl rfl ?_
  refine wp_get (v := vI ((g 45) 11)) dX8_surest_6 fl_8_115 L_45 rfl ?_
  exact wp_icmp_ge (tgt := 45) dX8_surest_9 rfl k1 k2
theorem b_X8_surest_12 {d : Nat} {Q : Option pV → pG → Prop} {g : pG} {v1 v2 : Int} {R : Int → pG → Prop} (h1 : 0 ≤ v2) (h2 : v2 < 8) (hc : CT d mX8_plainly [vI ((g 51) v2.toNat)] g (qI R)) (k : ∀ (x : Int) (gg : pG), R x gg → EV d mX8_surest Q 21 [vR 45, vI v1, vI v2] [vI x] gg) : EV d mX8_surest Q 12 [vR 45, vI v1, vI v2] [] g := by
  refine wp_aload_n dX8_surest_12 rfl rfl ?_
  refine wp_get (v := vR 51) dX8_surest_13 fl_8_35 L_45 rfl ?_
  refine wp_iload_n dX8_surest_16 rfl ?_
  refine wp_iaload dX8_surest_17 h1 L_51 h2 ?_
  exact wp_callsI (As := [vI ((g 51) v2.toNat)]) dX8_surest_18 ml_8_122 (Or.inl rfl) rfl (Nat.le_of_ble_eq_true rfl) rfl (Nat.le_refl _) (Nat.le_refl _) hc k
theorem b_X8_surest_21 {d : Nat} {Q : Option pV → pG → Prop} {g : pG} {v1 v2 vs0 : Int} {R : Int → pG → Prop} (h1 : 0 ≤ v1) (h2 : v1 < 8) (hc : CT d mX8_plainly [vI ((g 51) v1.toNat)] g (qI R)) (k : ∀ (x : Int) (gg : pG), R x gg → EV d mX8_surest Q 30 [vR 45, vI v1, vI v2] [vI x, vI vs0] gg) : EV d mX8_surest Q 21 [vR 45, vI v1, vI v2] [vI vs0] g := by
  refine wp_aload_n dX8_surest_21 rfl rfl ?_
  refine wp_get (v := vR 51) dX8_surest_22 fl_8_35 L_45 rfl ?_
  refine wp_iload_n dX8_surest_25 rfl ?_
  refine wp_iaload dX8_surest_26 h1 L_51 h2 ?_
  exact wp_callsI (As := [vI ((g 51) v1.toNat)]) dX8_surest_27 ml_8_122 (Or.inl rfl) rfl (Nat.le_of_ble_eq_true rfl) rfl (Nat.le_refl _) (Nat.le_refl _) hc k
theorem b_X8_surest_30 {d : Nat} {Q : Option pV → pG → Prop} {g : pG} {v1 v2 vs0 vs1 : Int} (k1 : (vs0 ≤ vs1) → EV d mX8_surest Q 37 [vR 45, vI v1, vI v2] [] g) (k2 : ¬ (vs0 ≤ vs1) → EV d mX8_surest Q 33 [vR 45, vI v1, vI v2] [] g) : EV d mX8_surest Q 30 [vR 45, vI v1, vI v2] [vI vs1, vI vs0] g := by
  exact wp_icmp_le (tgt := 37) dX8_surest_30 rfl k1 k2
theorem b_X8_surest_33 {d : Nat} {Q : Option pV → pG → Prop} {g : pG} {v1 v2 : Int} (k : EV d mX8_surest Q 4 [vR 45, vI v2, vI (w32 (v2 + 1))] [] g) : EV d mX8_surest Q 33 [vR 45, vI v1, vI v2] [] g := by
  refine wp_iload_n dX8_surest_33 rfl ?_
  refine wp_goto (tgt := 38) dX8_surest_34 rfl ?_
  refine wp_istore_n dX8_surest_38 (Nat.le_of_ble_eq_true rfl) (pp (c := 0) rfl rfl) ?_
  refine wp_iinc dX8_surest_39 rfl (Nat.le_of_ble_eq_true rfl) (pp (c := 1) rfl rfl) ?_
  refine wp_goto (tgt := 4) dX8_surest_42 rfl ?_
  exact k
theorem b_X8_surest_37 {d : Nat} {Q : Option pV → pG → Prop} {g : pG} {v1 v2 : Int} (k : EV d mX8_surest Q 4 [vR 45, vI v1, vI (w32 (v2 + 1))] [] g) : EV d mX8_surest Q 37 [vR 45, vI v1, vI v2] [] g := by
  refine wp_iload_n dX8_surest_37 rfl ?_
  refine wp_istore_n dX8_surest_38 (Nat.le_of_ble_eq_true rfl) (pp (c := 0) rfl rfl) ?_
  refine wp_iinc dX8_surest_39 rfl (Nat.le_of_ble_eq_true rfl) (pp (c := 1) rfl rfl) ?_
  refine wp_goto (tgt := 4) dX8_surest_42 rfl ?_
  exact k
theorem b_X8_surest_45 {d : Nat} {Q : Option pV → pG → Prop} {g : pG} {v1 v2 : Int} (hq : Q (some (vI v1)) g) : EV d mX8_surest Q 45 [vR 45, vI v1, vI v2] [] g := by
  refine wp_iload_n dX8_surest_45 rfl ?_
  exact wp_iret dX8_surest_46 rfl hq
theorem b_X8_plainly_0 {d : Nat} {Q : Option pV → pG → Prop} {g : pG} {v0 : Int} (k1 : (0 ≤ v0) → EV d mX8_plainly Q 9 [vI v0] [] g) (k2 : ¬ (0 ≤ v0) → EV d mX8_plainly Q 4 [vI v0] [] g) : EV d mX8_plainly Q 0 [vI v0] [] g := by
  refine wp_iload_n dX8_plainly_0 rfl ?_
  exact wp_if_ge (tgt := 9) dX8_plainly_1 rfl k1 k2
theorem b_X8_plainly_4 {d : Nat} {Q : Option pV → pG → Prop} {g : pG} {v0 : Int} (hq : Q (some (vI (w32 (-v0)))) g) : EV d mX8_plainly Q 4 [vI v0] [] g := by
  refine wp_iload_n dX8_plainly_4 rfl ?_
  refine wp_ineg dX8_plainly_5 ?_
  refine wp_goto (tgt := 10) dX8_plainly_6 rfl ?_
  exact wp_iret dX8_plainly_10 rfl hq
theorem b_X8_plainly_9 {d : Nat} {Q : Option pV → pG → Prop} {g : pG} {v0 : Int} (hq : Q (some (vI v0)) g) : EV d mX8_plainly Q 9 [vI v0] [] g := by
  refine wp_iload_n dX8_plainly_9 rfl ?_
  exact wp_iret dX8_plainly_10 rfl hq
theorem b_X8_bench_0 {d : Nat} {Q : Option pV → pG → Prop} {g : pG} {v1 : Int} {R : Int → pG → Prop} (hc : CT d mX8_surest [vR 45] g (qI R)) (k : ∀ (x : Int) (gg : pG), R x gg → EV d mX8_bench Q 4 [vR 45, vI v1, vX 2, vX 2] [vI x] gg) : EV d mX8_bench Q 0 [vR 45, vI v1, vX 2, vX 2] [] g := by
  refine wp_aload_n dX8_bench_0 rfl rfl ?_
  exact wp_callvI (As := []) dX8_bench_1 ml_8_126 (by decide) rfl L_45 (by decide) rfl (Nat.le_of_ble_eq_true rfl) rfl (Nat.le_refl _) (Nat.le_refl _) hc k
theorem b_X8_bench_4 {d : Nat} {Q : Option pV → pG → Prop} {g : pG} {v1 vs0 : Int} (h1 : 0 ≤ vs0) (h2 : vs0 < 8) (k1 : (v1 = 0) → EV d mX8_bench Q 56 [vR 45, vI v1, vI vs0, vX 2] [] (cset g 51 (fup (g 51) vs0.toNat (w32 (-((g 51) vs0.toNat)))))) (k2 : ¬ (v1 = 0) → EV d mX8_bench Q 22 [vR 45, vI v1, vI vs0, vX 2] [] (cset g 51 (fup (g 51) vs0.toNat (w32 (-((g 51) vs0.toNat)))))) : EV d mX8_bench Q 4 [vR 45, vI v1, vX 2, vX 2] [vI vs0] g := by
  refine wp_istore_n dX8_bench_4 (Nat.le_of_ble_eq_true rfl) (pp (c := 1) rfl rfl) ?_
  refine wp_aload_n dX8_bench_5 rfl rfl ?_
  refine wp_get (v := vR 51) dX8_bench_6 fl_8_35 L_45 rfl ?_
  refine wp_iload_n dX8_bench_9 rfl ?_
  refine wp_aload_n dX8_bench_10 rfl rfl ?_
  refine wp_get (v := vR 51) dX8_bench_11 fl_8_35 L_45 rfl ?_
  refine wp_iload_n dX8_bench_14 rfl ?_
  refine wp_iaload dX8_bench_15 h1 L_51 h2 ?_
  refine wp_ineg dX8_bench_16 ?_
  refine wp_iastore dX8_bench_17 h1 L_51 h2 ?_
  refine wp_iload_n dX8_bench_18 rfl ?_
  exact wp_if_eq (tgt := 56) dX8_bench_19 rfl k1 k2
theorem b_X8_bench_22 {d : Nat} {Q : Option pV → pG → Prop} {g : pG} {v1 v2 : Int} (k1 : ((g 45) 11 ≤ 1) → EV d mX8_bench Q 56 [vR 45, vI v1, vI v2, vX 2] [] g) (k2 : ¬ ((g 45) 11 ≤ 1) → EV d mX8_bench Q 30 [vR 45, vI v1, vI v2, vX 2] [] g) : EV d mX8_bench Q 22 [vR 45, vI v1, vI v2, vX 2] [] g := by
  refine wp_aload_n dX8_bench_22 rfl rfl ?_
  refine wp_get (v := vI ((g 45) 11)) dX8_bench_23 fl_8_115 L_45 rfl ?_
  refine wp_iconst dX8_bench_26 kc_1 ?_
  exact wp_icmp_le (tgt := 56) dX8_bench_27 rfl k1 k2
theorem b_X8_bench_30 {d : Nat} {Q : Option pV → pG → Prop} {g : pG} {v1 v2 : Int} {R : Int → pG → Prop} (h1 : (g 45) 11 ≠ 0) (h2 : 0 ≤ w32 ((w32 (v2 + 1)).tmod ((g 45) 11))) (h3 : w32 ((w32 (v2 + 1)).tmod ((g 45) 11)) < 8) (hc : CT d mX8_held [vI (w32 (((g 51) (w32 ((w32 (v2 + 1)).tmod ((g 45) 11))).toNat) - 1))] g (qI R)) (k : ∀ (x : Int) (gg : pG), R x gg → EV d mX8_bench Q 55 [vR 45, vI v1, vI v2, vI (w32 ((w32 (v2 + 1)).tmod ((g 45) 11)))] [vI x, vI (w32 ((w32 (v2 + 1)).tmod ((g 45) 11))), vR 51] gg) : EV d mX8_bench Q 30 [vR 45, vI v1, vI v2, vX 2] [] g := by
  refine wp_iload_n dX8_bench_30 rfl ?_
  refine wp_iconst dX8_bench_31 kc_1 ?_
  refine wp_iadd dX8_bench_32 ?_
  refine wp_aload_n dX8_bench_33 rfl rfl ?_
  refine wp_get (v := vI ((g 45) 11)) dX8_bench_34 fl_8_115 L_45 rfl ?_
  refine wp_irem dX8_bench_37 h1 ?_
  refine wp_istore_n dX8_bench_38 (Nat.le_of_ble_eq_true rfl) (pp (c := 2) rfl rfl) ?_
  refine wp_aload_n dX8_bench_39 rfl rfl ?_
  refine wp_get (v := vR 51) dX8_bench_40 fl_8_35 L_45 rfl ?_
  refine wp_iload_n dX8_bench_43 rfl ?_
  refine wp_aload_n dX8_bench_44 rfl rfl ?_
  refine wp_get (v := vR 51) dX8_bench_45 fl_8_35 L_45 rfl ?_
  refine wp_iload_n dX8_bench_48 rfl ?_
  refine wp_iaload dX8_bench_49 h2 L_51 h3 ?_
  refine wp_iconst dX8_bench_50 kc_1 ?_
  refine wp_isub dX8_bench_51 ?_
  exact wp_callsI (As := [vI (w32 (((g 51) (w32 ((w32 (v2 + 1)).tmod ((g 45) 11))).toNat) - 1))]) dX8_bench_52 ml_8_129 (Or.inl rfl) rfl (Nat.le_of_ble_eq_true rfl) rfl (Nat.le_refl _) (Nat.le_refl _) hc k
theorem b_X8_bench_55 {d : Nat} {Q : Option pV → pG → Prop} {g : pG} {v1 v2 v3 vs1 vs2 : Int} (h1 : 0 ≤ vs1) (h2 : vs1 < 8) (hq : Q none (cset g 51 (fup (g 51) vs1.toNat vs2))) : EV d mX8_bench Q 55 [vR 45, vI v1, vI v2, vI v3] [vI vs2, vI vs1, vR 51] g := by
  refine wp_iastore dX8_bench_55 h1 L_51 h2 ?_
  exact wp_vret dX8_bench_56 rfl hq
theorem b_X8_bench_56 {d : Nat} {Q : Option pV → pG → Prop} {g : pG} {v1 v2 : Int} (hq : Q none g) : EV d mX8_bench Q 56 [vR 45, vI v1, vI v2, vX 2] [] g := by
  exact wp_vret dX8_bench_56 rfl hq
theorem b_X8_held_0 {d : Nat} {Q : Option pV → pG → Prop} {g : pG} {v0 : Int} (k1 : ((-9) ≤ v0) → EV d mX8_held Q 11 [vI v0] [] g) (k2 : ¬ ((-9) ≤ v0) → EV d mX8_held Q 6 [vI v0] [] g) : EV d mX8_held Q 0 [vI v0] [] g := by
  refine wp_iload_n dX8_held_0 rfl ?_
  refine wp_bipush dX8_held_1 kb_m9 kc_m9 ?_
  exact wp_icmp_ge (tgt := 11) dX8_held_3 rfl k1 k2
theorem b_X8_held_6 {d : Nat} {Q : Option pV → pG → Prop} {g : pG} {v0 : Int} (hq : Q (some (vI (-9))) g) : EV d mX8_held Q 6 [vI v0] [] g := by
  refine wp_bipush dX8_held_6 kb_m9 kc_m9 ?_
  refine wp_goto (tgt := 23) dX8_held_8 rfl ?_
  exact wp_iret dX8_held_23 rfl hq
theorem b_X8_held_11 {d : Nat} {Q : Option pV → pG → Prop} {g : pG} {v0 : Int} (k1 : (v0 ≤ 9) → EV d mX8_held Q 22 [vI v0] [] g) (k2 : ¬ (v0 ≤ 9) → EV d mX8_held Q 17 [vI v0] [] g) : EV d mX8_held Q 11 [vI v0] [] g := by
  refine wp_iload_n dX8_held_11 rfl ?_
  refine wp_bipush dX8_held_12 kb_9 kc_9 ?_
  exact wp_icmp_le (tgt := 22) dX8_held_14 rfl k1 k2
theorem b_X8_held_17 {d : Nat} {Q : Option pV → pG → Prop} {g : pG} {v0 : Int} (hq : Q (some (vI 9)) g) : EV d mX8_held Q 17 [vI v0] [] g := by
  refine wp_bipush dX8_held_17 kb_9 kc_9 ?_
  refine wp_goto (tgt := 23) dX8_held_19 rfl ?_
  exact wp_iret dX8_held_23 rfl hq
theorem b_X8_held_22 {d : Nat} {Q : Option pV → pG → Prop} {g : pG} {v0 : Int} (hq : Q (some (vI v0)) g) : EV d mX8_held Q 22 [vI v0] [] g := by
  refine wp_iload_n dX8_held_22 rfl ?_
  exact wp_iret dX8_held_23 rfl hq
theorem b_X8_halve_0 {d : Nat} {Q : Option pV → pG → Prop} {g : pG} {R : Int → pG → Prop} (hc : CT d mX8_surest [vR 45] g (qI R)) (k : ∀ (x : Int) (gg : pG), R x gg → EV d mX8_halve Q 4 [vR 45, vX 2] [vI x] gg) : EV d mX8_halve Q 0 [vR 45, vX 2] [] g := by
  refine wp_aload_n dX8_halve_0 rfl rfl ?_
  exact wp_callvI (As := []) dX8_halve_1 ml_8_126 (by decide) rfl L_45 (by decide) rfl (Nat.le_of_ble_eq_true rfl) rfl (Nat.le_refl _) (Nat.le_refl _) hc k
theorem b_X8_halve_4 {d : Nat} {Q : Option pV → pG → Prop} {g : pG} {vs0 : Int} (h1 : 0 ≤ vs0) (h2 : vs0 < 8) (hq : Q none (cset g 51 (fup (g 51) vs0.toNat (w32 (((g 51) vs0.toNat).tdiv 2))))) : EV d mX8_halve Q 4 [vR 45, vX 2] [vI vs0] g := by
  refine wp_istore_n dX8_halve_4 (Nat.le_of_ble_eq_true rfl) (pp (c := 0) rfl rfl) ?_
  refine wp_aload_n dX8_halve_5 rfl rfl ?_
  refine wp_get (v := vR 51) dX8_halve_6 fl_8_35 L_45 rfl ?_
  refine wp_iload_n dX8_halve_9 rfl ?_
  refine wp_aload_n dX8_halve_10 rfl rfl ?_
  refine wp_get (v := vR 51) dX8_halve_11 fl_8_35 L_45 rfl ?_
  refine wp_iload_n dX8_halve_14 rfl ?_
  refine wp_iaload dX8_halve_15 h1 L_51 h2 ?_
  refine wp_iconst dX8_halve_16 kc_2 ?_
  refine wp_idiv dX8_halve_17 (by decide) ?_
  refine wp_iastore dX8_halve_18 h1 L_51 h2 ?_
  exact wp_vret dX8_halve_19 rfl hq
theorem b_X8_sumNow_0 {d : Nat} {Q : Option pV → pG → Prop} {g : pG} (k : EV d mX8_sumNow Q 4 [vR 45, vI 0, vI 0] [] g) : EV d mX8_sumNow Q 0 [vR 45, vX 2, vX 2] [] g := by
  refine wp_iconst dX8_sumNow_0 kc_0 ?_
  refine wp_istore_n dX8_sumNow_1 (Nat.le_of_ble_eq_true rfl) (pp (c := 0) rfl rfl) ?_
  refine wp_iconst dX8_sumNow_2 kc_0 ?_
  refine wp_istore_n dX8_sumNow_3 (Nat.le_of_ble_eq_true rfl) (pp (c := 1) rfl rfl) ?_
  exact k
theorem b_X8_sumNow_4 {d : Nat} {Q : Option pV → pG → Prop} {g : pG} {v1 v2 : Int} (k1 : ((g 45) 11 ≤ v2) → EV d mX8_sumNow Q 27 [vR 45, vI v1, vI v2] [] g) (k2 : ¬ ((g 45) 11 ≤ v2) → EV d mX8_sumNow Q 12 [vR 45, vI v1, vI v2] [] g) : EV d mX8_sumNow Q 4 [vR 45, vI v1, vI v2] [] g := by
  refine wp_iload_n dX8_sumNow_4 rfl ?_
  refine wp_aload_n dX8_sumNow_5 rfl rfl ?_
  refine wp_get (v := vI ((g 45) 11)) dX8_sumNow_6 fl_8_115 L_45 rfl ?_
  exact wp_icmp_ge (tgt := 27) dX8_sumNow_9 rfl k1 k2
theorem b_X8_sumNow_12 {d : Nat} {Q : Option pV → pG → Prop} {g : pG} {v1 v2 : Int} (h1 : 0 ≤ v2) (h2 : v2 < 8) (k : EV d mX8_sumNow Q 4 [vR 45, vI (w32 (v1 + ((g 51) v2.toNat))), vI (w32 (v2 + 1))] [] g) : EV d mX8_sumNow Q 12 [vR 45, vI v1, vI v2] [] g := by
  refine wp_iload_n dX8_sumNow_12 rfl ?_
  refine wp_aload_n dX8_sumNow_13 rfl rfl ?_
  refine wp_get (v := vR 51) dX8_sumNow_14 fl_8_35 L_45 rfl ?_
  refine wp_iload_n dX8_sumNow_17 rfl ?_
  refine wp_iaload dX8_sumNow_18 h1 L_51 h2 ?_
  refine wp_iadd dX8_sumNow_19 ?_
  refine wp_istore_n dX8_sumNow_20 (Nat.le_of_ble_eq_true rfl) (pp (c := 0) rfl rfl) ?_
  refine wp_iinc dX8_sumNow_21 rfl (Nat.le_of_ble_eq_true rfl) (pp (c := 1) rfl rfl) ?_
  refine wp_goto (tgt := 4) dX8_sumNow_24 rfl ?_
  exact k
theorem b_X8_sumNow_27 {d : Nat} {Q : Option pV → pG → Prop} {g : pG} {v1 v2 : Int} (hq : Q (some (vI v1)) g) : EV d mX8_sumNow Q 27 [vR 45, vI v1, vI v2] [] g := by
  refine wp_iload_n dX8_sumNow_27 rfl ?_
  exact wp_iret dX8_sumNow_28 rfl hq
theorem b_X8_isFor_0 {d : Nat} {Q : Option pV → pG → Prop} {g : pG} {R : Int → pG → Prop} (hc : CT d mX8_sumNow [vR 45] g (qI R)) (k : ∀ (x : Int) (gg : pG), R x gg → EV d mX8_isFor Q 4 [vR 45] [vI x] gg) : EV d mX8_isFor Q 0 [vR 45] [] g := by
  refine wp_aload_n dX8_isFor_0 rfl rfl ?_
  exact wp_callvI (As := []) dX8_isFor_1 ml_8_118 (by decide) rfl L_45 (by decide) rfl (Nat.le_of_ble_eq_true rfl) rfl (Nat.le_refl _) (Nat.le_refl _) hc k
theorem b_X8_isFor_4 {d : Nat} {Q : Option pV → pG → Prop} {g : pG} {vs0 : Int} (k1 : (vs0 ≤ 0) → EV d mX8_isFor Q 11 [vR 45] [] g) (k2 : ¬ (vs0 ≤ 0) → EV d mX8_isFor Q 7 [vR 45] [] g) : EV d mX8_isFor Q 4 [vR 45] [vI vs0] g := by
  exact wp_if_le (tgt := 11) dX8_isFor_4 rfl k1 k2
theorem b_X8_isFor_7 {d : Nat} {Q : Option pV → pG → Prop} {g : pG} (hq : Q (some (vI 1)) g) : EV d mX8_isFor Q 7 [vR 45] [] g := by
  refine wp_iconst dX8_isFor_7 kc_1 ?_
  refine wp_goto (tgt := 12) dX8_isFor_8 rfl ?_
  exact wp_zret dX8_isFor_12 rfl (Or.inr rfl) hq
theorem b_X8_isFor_11 {d : Nat} {Q : Option pV → pG → Prop} {g : pG} (hq : Q (some (vI 0)) g) : EV d mX8_isFor Q 11 [vR 45] [] g := by
  refine wp_iconst dX8_isFor_11 kc_0 ?_
  exact wp_zret dX8_isFor_12 rfl (Or.inl rfl) hq
theorem b_X8_turns_0 {d : Nat} {Q : Option pV → pG → Prop} {g : pG} {v1 : Int} {R : Int → pG → Prop} (hc : CT d mX8_in [vL v1, vL 0, vL 1] (cset g 45 (fup (g 45) 8 0)) (qI R)) (k : ∀ (x : Int) (gg : pG), R x gg → EV d mX8_turns Q 12 [vR 45, vI v1, vX 2, vX 2, vX 2, vX 2, vX 2] [vI x] gg) : EV d mX8_turns Q 0 [vR 45, vI v1, vX 2, vX 2, vX 2, vX 2, vX 2] [] g := by
  refine wp_aload_n dX8_turns_0 rfl rfl ?_
  refine wp_iconst dX8_turns_1 kc_0 ?_
  refine wp_putI dX8_turns_2 fl_8_105 L_45 rfl rfl ?_
  refine wp_iload_n dX8_turns_5 rfl ?_
  refine wp_i2l dX8_turns_6 ?_
  refine wp_lconst (x := 0) dX8_turns_7 rfl ?_
  refine wp_lconst (x := 1) dX8_turns_8 rfl ?_
  exact wp_callsI (As := [vL v1, vL 0, vL 1]) dX8_turns_9 ml_8_111 (Or.inl rfl) rfl (Nat.le_of_ble_eq_true rfl) rfl (Nat.le_refl _) (Nat.le_refl _) hc k
theorem b_X8_turns_12 {d : Nat} {Q : Option pV → pG → Prop} {g : pG} {v1 vs0 : Int} (k1 : (vs0 ≠ 0) → EV d mX8_turns Q 22 [vR 45, vI v1, vX 2, vX 2, vX 2, vX 2, vX 2] [] g) (k2 : ¬ (vs0 ≠ 0) → EV d mX8_turns Q 15 [vR 45, vI v1, vX 2, vX 2, vX 2, vX 2, vX 2] [] g) : EV d mX8_turns Q 12 [vR 45, vI v1, vX 2, vX 2, vX 2, vX 2, vX 2] [vI vs0] g := by
  exact wp_if_ne (tgt := 22) dX8_turns_12 rfl k1 k2
theorem b_X8_turns_15 {d : Nat} {Q : Option pV → pG → Prop} {g : pG} {v1 : Int} {R : Int → pG → Prop} (hc : CT d mX8_refuse [vR 45, vI (-2)] g (qI R)) (k : ∀ (x : Int) (gg : pG), R x gg → EV d mX8_turns Q 21 [vR 45, vI v1, vX 2, vX 2, vX 2, vX 2, vX 2] [vI x] gg) : EV d mX8_turns Q 15 [vR 45, vI v1, vX 2, vX 2, vX 2, vX 2, vX 2] [] g := by
  refine wp_aload_n dX8_turns_15 rfl rfl ?_
  refine wp_bipush dX8_turns_16 kb_m2 kc_m2 ?_
  exact wp_callvI (As := [vI (-2)]) dX8_turns_18 ml_8_164 (by decide) rfl L_45 (by decide) rfl (Nat.le_of_ble_eq_true rfl) rfl (Nat.le_refl _) (Nat.le_refl _) hc k
theorem b_X8_turns_21 {d : Nat} {Q : Option pV → pG → Prop} {g : pG} {v1 vs0 : Int} (hq : Q (some (vI vs0)) g) : EV d mX8_turns Q 21 [vR 45, vI v1, vX 2, vX 2, vX 2, vX 2, vX 2] [vI vs0] g := by
  exact wp_iret dX8_turns_21 rfl hq
theorem b_X8_turns_22 {d : Nat} {Q : Option pV → pG → Prop} {g : pG} {v1 : Int} {R : pG → Prop} (hc : CT d mX8_think [vR 45] g (qV R)) (k : ∀ gg : pG, R gg → EV d mX8_turns Q 31 [vR 45, vI v1, vI (-9), vI 0, vX 2, vX 2, vX 2] [] gg) : EV d mX8_turns Q 22 [vR 45, vI v1, vX 2, vX 2, vX 2, vX 2, vX 2] [] g := by
  refine wp_bipush dX8_turns_22 kb_m9 kc_m9 ?_
  refine wp_istore_n dX8_turns_24 (Nat.le_of_ble_eq_true rfl) (pp (c := 1) rfl rfl) ?_
  refine wp_iconst dX8_turns_25 kc_0 ?_
  refine wp_istore_n dX8_turns_26 (Nat.le_of_ble_eq_true rfl) (pp (c := 2) rfl rfl) ?_
  refine wp_aload_n dX8_turns_27 rfl rfl ?_
  exact wp_callvV (As := []) dX8_turns_28 ml_8_158 (by decide) rfl L_45 (by decide) rfl (Nat.le_of_ble_eq_true rfl) rfl (Nat.le_refl _) (Nat.le_refl _) hc k
theorem b_X8_turns_31 {d : Nat} {Q : Option pV → pG → Prop} {g : pG} {v1 v2 v3 : Int} (k : EV d mX8_turns Q 34 [vR 45, vI v1, vI v2, vI v3, vI 0, vX 2, vX 2] [] g) : EV d mX8_turns Q 31 [vR 45, vI v1, vI v2, vI v3, vX 2, vX 2, vX 2] [] g := by
  refine wp_iconst dX8_turns_31 kc_0 ?_
  refine wp_istore dX8_turns_32 (Nat.le_of_ble_eq_true rfl) (pp (c := 3) rfl rfl) ?_
  exact k
theorem b_X8_turns_34 {d : Nat} {Q : Option pV → pG → Prop} {g : pG} {v1 v2 v3 v4 : Int} {u5 u6 : pV} (k1 : ((g 45) 0 ≤ v4) → EV d mX8_turns Q 106 [vR 45, vI v1, vI v2, vI v3, vI v4, u5, u6] [] g) (k2 : ¬ ((g 45) 0 ≤ v4) → EV d mX8_turns Q 43 [vR 45, vI v1, vI v2, vI v3, vI v4, u5, u6] [] g) : EV d mX8_turns Q 34 [vR 45, vI v1, vI v2, vI v3, vI v4, u5, u6] [] g := by
  refine wp_iload dX8_turns_34 rfl ?_
  refine wp_aload_n dX8_turns_36 rfl rfl ?_
  refine wp_get (v := vI ((g 45) 0)) dX8_turns_37 fl_8_108 L_45 rfl ?_
  exact wp_icmp_ge (tgt := 106) dX8_turns_40 rfl k1 k2
theorem b_X8_turns_43 {d : Nat} {Q : Option pV → pG → Prop} {g : pG} {v1 v2 v3 v4 : Int} {u5 u6 : pV} {R : Int → pG → Prop} (hc : CT d mX8_isFor [vR 45] g (qI R)) (k : ∀ (x : Int) (gg : pG), R x gg → EV d mX8_turns Q 47 [vR 45, vI v1, vI v2, vI v3, vI v4, u5, u6] [vI x] gg) : EV d mX8_turns Q 43 [vR 45, vI v1, vI v2, vI v3, vI v4, u5, u6] [] g := by
  refine wp_aload_n dX8_turns_43 rfl rfl ?_
  exact wp_callvI (As := []) dX8_turns_44 ml_8_252 (by decide) rfl L_45 (by decide) rfl (Nat.le_of_ble_eq_true rfl) rfl (Nat.le_refl _) (Nat.le_refl _) hc k
theorem b_X8_turns_47 {d : Nat} {Q : Option pV → pG → Prop} {g : pG} {v1 v2 v3 v4 vs0 : Int} {u5 u6 : pV} {R : pG → Prop} (hc : CT d mX8_pass [vR 45, vI v4] g (qV R)) (k : ∀ gg : pG, R gg → EV d mX8_turns Q 55 [vR 45, vI v1, vI v2, vI v3, vI v4, vI vs0, u6] [] gg) : EV d mX8_turns Q 47 [vR 45, vI v1, vI v2, vI v3, vI v4, u5, u6] [vI vs0] g := by
  refine wp_istore dX8_turns_47 (Nat.le_of_ble_eq_true rfl) (pp (c := 4) rfl rfl) ?_
  refine wp_aload_n dX8_turns_49 rfl rfl ?_
  refine wp_iload dX8_turns_50 rfl ?_
  exact wp_callvV (As := [vI v4]) dX8_turns_52 ml_8_154 (by decide) rfl L_45 (by decide) rfl (Nat.le_of_ble_eq_true rfl) rfl (Nat.le_refl _) (Nat.le_refl _) hc k
theorem b_X8_turns_55 {d : Nat} {Q : Option pV → pG → Prop} {g : pG} {v1 v2 v3 v4 v5 : Int} {u6 : pV} {R : Int → pG → Prop} (hc : CT d mX8_isFor [vR 45] g (qI R)) (k : ∀ (x : Int) (gg : pG), R x gg → EV d mX8_turns Q 59 [vR 45, vI v1, vI v2, vI v3, vI v4, vI v5, u6] [vI x] gg) : EV d mX8_turns Q 55 [vR 45, vI v1, vI v2, vI v3, vI v4, vI v5, u6] [] g := by
  refine wp_aload_n dX8_turns_55 rfl rfl ?_
  exact wp_callvI (As := []) dX8_turns_56 ml_8_252 (by decide) rfl L_45 (by decide) rfl (Nat.le_of_ble_eq_true rfl) rfl (Nat.le_refl _) (Nat.le_refl _) hc k
theorem b_X8_turns_59 {d : Nat} {Q : Option pV → pG → Prop} {g : pG} {v1 v2 v3 v4 v5 vs0 : Int} {u6 : pV} (k1 : (vs0 = v5) → EV d mX8_turns Q 68 [vR 45, vI v1, vI v2, vI v3, vI v4, vI v5, u6] [] g) (k2 : ¬ (vs0 = v5) → EV d mX8_turns Q 64 [vR 45, vI v1, vI v2, vI v3, vI v4, vI v5, u6] [] g) : EV d mX8_turns Q 59 [vR 45, vI v1, vI v2, vI v3, vI v4, vI v5, u6] [vI vs0] g := by
  refine wp_iload dX8_turns_59 rfl ?_
  exact wp_icmp_eq (tgt := 68) dX8_turns_61 rfl k1 k2
theorem b_X8_turns_64 {d : Nat} {Q : Option pV → pG → Prop} {g : pG} {v1 v2 v3 v4 v5 : Int} {u6 : pV} (k1 : (0 ≤ v2) → EV d mX8_turns Q 85 [vR 45, vI v1, vI v2, vI v3, vI v4, vI v5, vI 1] [] g) (k2 : ¬ (0 ≤ v2) → EV d mX8_turns Q 80 [vR 45, vI v1, vI v2, vI v3, vI v4, vI v5, vI 1] [] g) : EV d mX8_turns Q 64 [vR 45, vI v1, vI v2, vI v3, vI v4, vI v5, u6] [] g := by
  refine wp_iconst dX8_turns_64 kc_1 ?_
  refine wp_goto (tgt := 69) dX8_turns_65 rfl ?_
  refine wp_istore dX8_turns_69 (Nat.le_of_ble_eq_true rfl) (pp (c := 5) rfl rfl) ?_
  refine wp_iload dX8_turns_71 rfl ?_
  refine wp_if_eq (tgt := 85) dX8_turns_73 rfl (fun hh => absurd hh (by decide)) (fun _ => ?_)
  refine wp_iload_n dX8_turns_76 rfl ?_
  exact wp_if_ge (tgt := 85) dX8_turns_77 rfl k1 k2
theorem b_X8_turns_68 {d : Nat} {Q : Option pV → pG → Prop} {g : pG} {v1 v2 v3 v4 v5 : Int} {u6 : pV} (k : EV d mX8_turns Q 34 [vR 45, vI v1, vI v2, vI (w32 (v3 + 0)), vI (w32 (v4 + 1)), vI v5, vI 0] [] g) : EV d mX8_turns Q 68 [vR 45, vI v1, vI v2, vI v3, vI v4, vI v5, u6] [] g := by
  refine wp_iconst dX8_turns_68 kc_0 ?_
  refine wp_istore dX8_turns_69 (Nat.le_of_ble_eq_true rfl) (pp (c := 5) rfl rfl) ?_
  refine wp_iload dX8_turns_71 rfl ?_
  refine wp_if_eq (tgt := 85) dX8_turns_73 rfl (fun _ => ?_) (fun hh => absurd (by decide) hh)
  refine wp_iload_n dX8_turns_85 rfl ?_
  refine wp_istore_n dX8_turns_86 (Nat.le_of_ble_eq_true rfl) (pp (c := 1) rfl rfl) ?_
  refine wp_iload_n dX8_turns_87 rfl ?_
  refine wp_iload dX8_turns_88 rfl ?_
  refine wp_if_eq (tgt := 97) dX8_turns_90 rfl (fun _ => ?_) (fun hh => absurd (by decide) hh)
  refine wp_iconst dX8_turns_97 kc_0 ?_
  refine wp_iadd dX8_turns_98 ?_
  refine wp_istore_n dX8_turns_99 (Nat.le_of_ble_eq_true rfl) (pp (c := 2) rfl rfl) ?_
  refine wp_iinc dX8_turns_100 rfl (Nat.le_of_ble_eq_true rfl) (pp (c := 3) rfl rfl) ?_
  refine wp_goto (tgt := 34) dX8_turns_103 rfl ?_
  exact k
theorem b_X8_turns_80 {d : Nat} {Q : Option pV → pG → Prop} {g : pG} {v1 v2 v3 v4 v5 v6 : Int} (k1 : (v6 = 0) → EV d mX8_turns Q 97 [vR 45, vI v1, vI v4, vI v3, vI v4, vI v5, vI v6] [vI v3] g) (k2 : ¬ (v6 = 0) → EV d mX8_turns Q 93 [vR 45, vI v1, vI v4, vI v3, vI v4, vI v5, vI v6] [vI v3] g) : EV d mX8_turns Q 80 [vR 45, vI v1, vI v2, vI v3, vI v4, vI v5, vI v6] [] g := by
  refine wp_iload dX8_turns_80 rfl ?_
  refine wp_goto (tgt := 86) dX8_turns_82 rfl ?_
  refine wp_istore_n dX8_turns_86 (Nat.le_of_ble_eq_true rfl) (pp (c := 1) rfl rfl) ?_
  refine wp_iload_n dX8_turns_87 rfl ?_
  refine wp_iload dX8_turns_88 rfl ?_
  exact wp_if_eq (tgt := 97) dX8_turns_90 rfl k1 k2
theorem b_X8_turns_85 {d : Nat} {Q : Option pV → pG → Prop} {g : pG} {v1 v2 v3 v4 v5 v6 : Int} (k1 : (v6 = 0) → EV d mX8_turns Q 97 [vR 45, vI v1, vI v2, vI v3, vI v4, vI v5, vI v6] [vI v3] g) (k2 : ¬ (v6 = 0) → EV d mX8_turns Q 93 [vR 45, vI v1, vI v2, vI v3, vI v4, vI v5, vI v6] [vI v3] g) : EV d mX8_turns Q 85 [vR 45, vI v1, vI v2, vI v3, vI v4, vI v5, vI v6] [] g := by
  refine wp_iload_n dX8_turns_85 rfl ?_
  refine wp_istore_n dX8_turns_86 (Nat.le_of_ble_eq_true rfl) (pp (c := 1) rfl rfl) ?_
  refine wp_iload_n dX8_turns_87 rfl ?_
  refine wp_iload dX8_turns_88 rfl ?_
  exact wp_if_eq (tgt := 97) dX8_turns_90 rfl k1 k2
theorem b_X8_turns_93 {d : Nat} {Q : Option pV → pG → Prop} {g : pG} {v1 v2 v3 v4 v5 v6 vs0 : Int} (k : EV d mX8_turns Q 34 [vR 45, vI v1, vI v2, vI (w32 (vs0 + 1)), vI (w32 (v4 + 1)), vI v5, vI v6] [] g) : EV d mX8_turns Q 93 [vR 45, vI v1, vI v2, vI v3, vI v4, vI v5, vI v6] [vI vs0] g := by
  refine wp_iconst dX8_turns_93 kc_1 ?_
  refine wp_goto (tgt := 98) dX8_turns_94 rfl ?_
  refine wp_iadd dX8_turns_98 ?_
  refine wp_istore_n dX8_turns_99 (Nat.le_of_ble_eq_true rfl) (pp (c := 2) rfl rfl) ?_
  refine wp_iinc dX8_turns_100 rfl (Nat.le_of_ble_eq_true rfl) (pp (c := 3) rfl rfl) ?_
  refine wp_goto (tgt := 34) dX8_turns_103 rfl ?_
  exact k
theorem b_X8_turns_97 {d : Nat} {Q : Option pV → pG → Prop} {g : pG} {v1 v2 v3 v4 v5 v6 vs0 : Int} (k : EV d mX8_turns Q 34 [vR 45, vI v1, vI v2, vI (w32 (vs0 + 0)), vI (w32 (v4 + 1)), vI v5, vI v6] [] g) : EV d mX8_turns Q 97 [vR 45, vI v1, vI v2, vI v3, vI v4, vI v5, vI v6] [vI vs0] g := by
  refine wp_iconst dX8_turns_97 kc_0 ?_
  refine wp_iadd dX8_turns_98 ?_
  refine wp_istore_n dX8_turns_99 (Nat.le_of_ble_eq_true rfl) (pp (c := 2) rfl rfl) ?_
  refine wp_iinc dX8_turns_100 rfl (Nat.le_of_ble_eq_true rfl) (pp (c := 3) rfl rfl) ?_
  refine wp_goto (tgt := 34) dX8_turns_103 rfl ?_
  exact k
theorem b_X8_turns_106 {d : Nat} {Q : Option pV → pG → Prop} {g : pG} {v1 v2 v3 v4 : Int} {u5 u6 : pV} (k1 : (v1 ≠ 0) → EV d mX8_turns Q 114 [vR 45, vI v1, vI v2, vI v3, vI v4, u5, u6] [] g) (k2 : ¬ (v1 ≠ 0) → EV d mX8_turns Q 110 [vR 45, vI v1, vI v2, vI v3, vI v4, u5, u6] [] g) : EV d mX8_turns Q 106 [vR 45, vI v1, vI v2, vI v3, vI v4, u5, u6] [] g := by
  refine wp_iload_n dX8_turns_106 rfl ?_
  exact wp_if_ne (tgt := 114) dX8_turns_107 rfl k1 k2
theorem b_X8_turns_110 {d : Nat} {Q : Option pV → pG → Prop} {g : pG} {v1 v2 v3 v4 : Int} {u5 u6 : pV} (hq : Q (some (vI v2)) g) : EV d mX8_turns Q 110 [vR 45, vI v1, vI v2, vI v3, vI v4, u5, u6] [] g := by
  refine wp_iload_n dX8_turns_110 rfl ?_
  refine wp_goto (tgt := 115) dX8_turns_111 rfl ?_
  exact wp_iret dX8_turns_115 rfl hq
theorem b_X8_turns_114 {d : Nat} {Q : Option pV → pG → Prop} {g : pG} {v1 v2 v3 v4 : Int} {u5 u6 : pV} (hq : Q (some (vI v3)) g) : EV d mX8_turns Q 114 [vR 45, vI v1, vI v2, vI v3, vI v4, u5, u6] [] g := by
  refine wp_iload_n dX8_turns_114 rfl ?_
  exact wp_iret dX8_turns_115 rfl hq
theorem b_X8_costs_0 {d : Nat} {Q : Option pV → pG → Prop} {g : pG} {v1 : Int} {R : Int → pG → Prop} (hc : CT d mX8_wrongNumber [vI v1, vI 0, vI ((fup (g 45) 8 0) 0)] (cset g 45 (fup (g 45) 8 0)) (qI R)) (k : ∀ (x : Int) (gg : pG), R x gg → EV d mX8_costs Q 14 [vR 45, vI v1, vX 2, vX 2] [vI x] gg) : EV d mX8_costs Q 0 [vR 45, vI v1, vX 2, vX 2] [] g := by
  refine wp_aload_n dX8_costs_0 rfl rfl ?_
  refine wp_iconst dX8_costs_1 kc_0 ?_
  refine wp_putI dX8_costs_2 fl_8_105 L_45 rfl rfl ?_
  refine wp_iload_n dX8_costs_5 rfl ?_
  refine wp_iconst dX8_costs_6 kc_0 ?_
  refine wp_aload_n dX8_costs_7 rfl rfl ?_
  refine wp_get (v := vI ((fup (g 45) 8 0) 0)) dX8_costs_8 fl_8_108 L_45 rfl ?_
  exact wp_callsI (As := [vI v1, vI 0, vI ((fup (g 45) 8 0) 0)]) dX8_costs_11 ml_8_235 (Or.inl rfl) rfl (Nat.le_of_ble_eq_true rfl) rfl (Nat.le_refl _) (Nat.le_refl _) hc k
theorem b_X8_costs_14 {d : Nat} {Q : Option pV → pG → Prop} {g : pG} {v1 vs0 : Int} (k1 : (0 ≤ vs0) → EV d mX8_costs Q 31 [vR 45, vI v1, vX 2, vX 2] [] g) (k2 : ¬ (0 ≤ vs0) → EV d mX8_costs Q 17 [vR 45, vI v1, vX 2, vX 2] [] g) : EV d mX8_costs Q 14 [vR 45, vI v1, vX 2, vX 2] [vI vs0] g := by
  exact wp_if_ge (tgt := 31) dX8_costs_14 rfl k1 k2
theorem b_X8_costs_17 {d : Nat} {Q : Option pV → pG → Prop} {g : pG} {v1 : Int} {R : Int → pG → Prop} (hc : CT d mX8_wrongNumber [vI v1, vI 0, vI ((g 45) 0)] g (qI R)) (k : ∀ (x : Int) (gg : pG), R x gg → EV d mX8_costs Q 27 [vR 45, vI v1, vX 2, vX 2] [vI x, vR 45] gg) : EV d mX8_costs Q 17 [vR 45, vI v1, vX 2, vX 2] [] g := by
  refine wp_aload_n dX8_costs_17 rfl rfl ?_
  refine wp_iload_n dX8_costs_18 rfl ?_
  refine wp_iconst dX8_costs_19 kc_0 ?_
  refine wp_aload_n dX8_costs_20 rfl rfl ?_
  refine wp_get (v := vI ((g 45) 0)) dX8_costs_21 fl_8_108 L_45 rfl ?_
  exact wp_callsI (As := [vI v1, vI 0, vI ((g 45) 0)]) dX8_costs_24 ml_8_235 (Or.inl rfl) rfl (Nat.le_of_ble_eq_true rfl) rfl (Nat.le_refl _) (Nat.le_refl _) hc k
theorem b_X8_costs_27 {d : Nat} {Q : Option pV → pG → Prop} {g : pG} {v1 vs1 : Int} {R : Int → pG → Prop} (hc : CT d mX8_refuse [vR 45, vI vs1] g (qI R)) (k : ∀ (x : Int) (gg : pG), R x gg → EV d mX8_costs Q 30 [vR 45, vI v1, vX 2, vX 2] [vI x] gg) : EV d mX8_costs Q 27 [vR 45, vI v1, vX 2, vX 2] [vI vs1, vR 45] g := by
  exact wp_callvI (As := [vI vs1]) dX8_costs_27 ml_8_164 (by decide) rfl L_45 (by decide) rfl (Nat.le_of_ble_eq_true rfl) rfl (Nat.le_refl _) (Nat.le_refl _) hc k
theorem b_X8_costs_30 {d : Nat} {Q : Option pV → pG → Prop} {g : pG} {v1 vs0 : Int} (hq : Q (some (vI vs0)) g) : EV d mX8_costs Q 30 [vR 45, vI v1, vX 2, vX 2] [vI vs0] g := by
  exact wp_iret dX8_costs_30 rfl hq
theorem b_X8_costs_31 {d : Nat} {Q : Option pV → pG → Prop} {g : pG} {v1 : Int} (k : EV d mX8_costs Q 35 [vR 45, vI v1, vI 0, vI 0] [] g) : EV d mX8_costs Q 31 [vR 45, vI v1, vX 2, vX 2] [] g := by
  refine wp_iconst dX8_costs_31 kc_0 ?_
  refine wp_istore_n dX8_costs_32 (Nat.le_of_ble_eq_true rfl) (pp (c := 1) rfl rfl) ?_
  refine wp_iconst dX8_costs_33 kc_0 ?_
  refine wp_istore_n dX8_costs_34 (Nat.le_of_ble_eq_true rfl) (pp (c := 2) rfl rfl) ?_
  exact k
theorem b_X8_costs_35 {d : Nat} {Q : Option pV → pG → Prop} {g : pG} {v1 v2 v3 : Int} (k1 : (v1 ≤ v3) → EV d mX8_costs Q 55 [vR 45, vI v1, vI v2, vI v3] [] g) (k2 : ¬ (v1 ≤ v3) → EV d mX8_costs Q 40 [vR 45, vI v1, vI v2, vI v3] [] g) : EV d mX8_costs Q 35 [vR 45, vI v1, vI v2, vI v3] [] g := by
  refine wp_iload_n dX8_costs_35 rfl ?_
  refine wp_iload_n dX8_costs_36 rfl ?_
  exact wp_icmp_ge (tgt := 55) dX8_costs_37 rfl k1 k2
theorem b_X8_costs_40 {d : Nat} {Q : Option pV → pG → Prop} {g : pG} {v1 v2 v3 : Int} (h1 : 0 ≤ v3) (h2 : v3 < 7) (k : EV d mX8_costs Q 35 [vR 45, vI v1, vI (w32 (v2 + ((g 48) v3.toNat))), vI (w32 (v3 + 1))] [] g) : EV d mX8_costs Q 40 [vR 45, vI v1, vI v2, vI v3] [] g := by
  refine wp_iload_n dX8_costs_40 rfl ?_
  refine wp_aload_n dX8_costs_41 rfl rfl ?_
  refine wp_get (v := vR 48) dX8_costs_42 fl_8_16 L_45 rfl ?_
  refine wp_iload_n dX8_costs_45 rfl ?_
  refine wp_iaload dX8_costs_46 h1 L_48 h2 ?_
  refine wp_iadd dX8_costs_47 ?_
  refine wp_istore_n dX8_costs_48 (Nat.le_of_ble_eq_true rfl) (pp (c := 1) rfl rfl) ?_
  refine wp_iinc dX8_costs_49 rfl (Nat.le_of_ble_eq_true rfl) (pp (c := 2) rfl rfl) ?_
  refine wp_goto (tgt := 35) dX8_costs_52 rfl ?_
  exact k
theorem b_X8_costs_55 {d : Nat} {Q : Option pV → pG → Prop} {g : pG} {v1 v2 v3 : Int} (hq : Q (some (vI v2)) g) : EV d mX8_costs Q 55 [vR 45, vI v1, vI v2, vI v3] [] g := by
  refine wp_iload_n dX8_costs_55 rfl ?_
  exact wp_iret dX8_costs_56 rfl hq
theorem b_X8_up_0 {d : Nat} {Q : Option pV → pG → Prop} {g : pG} {R : pG → Prop} (hc : CT d mX8_think [vR 45] (cset g 45 (fup (g 45) 8 0)) (qV R)) (k : ∀ gg : pG, R gg → EV d mX8_up Q 12 [vR 45, vI (-9), vX 2] [] gg) : EV d mX8_up Q 0 [vR 45, vX 2, vX 2] [] g := by
  refine wp_aload_n dX8_up_0 rfl rfl ?_
  refine wp_iconst dX8_up_1 kc_0 ?_
  refine wp_putI dX8_up_2 fl_8_105 L_45 rfl rfl ?_
  refine wp_bipush dX8_up_5 kb_m9 kc_m9 ?_
  refine wp_istore_n dX8_up_7 (Nat.le_of_ble_eq_true rfl) (pp (c := 0) rfl rfl) ?_
  refine wp_aload_n dX8_up_8 rfl rfl ?_
  exact wp_callvV (As := []) dX8_up_9 ml_8_158 (by decide) rfl L_45 (by decide) rfl (Nat.le_of_ble_eq_true rfl) rfl (Nat.le_refl _) (Nat.le_refl _) hc k
theorem b_X8_up_12 {d : Nat} {Q : Option pV → pG → Prop} {g : pG} {v1 : Int} (k : EV d mX8_up Q 14 [vR 45, vI v1, vI 0] [] g) : EV d mX8_up Q 12 [vR 45, vI v1, vX 2] [] g := by
  refine wp_iconst dX8_up_12 kc_0 ?_
  refine wp_istore_n dX8_up_13 (Nat.le_of_ble_eq_true rfl) (pp (c := 1) rfl rfl) ?_
  exact k
theorem b_X8_up_14 {d : Nat} {Q : Option pV → pG → Prop} {g : pG} {v1 v2 : Int} (k1 : ((g 45) 0 ≤ v2) → EV d mX8_up Q 51 [vR 45, vI v1, vI v2] [] g) (k2 : ¬ ((g 45) 0 ≤ v2) → EV d mX8_up Q 22 [vR 45, vI v1, vI v2] [] g) : EV d mX8_up Q 14 [vR 45, vI v1, vI v2] [] g := by
  refine wp_iload_n dX8_up_14 rfl ?_
  refine wp_aload_n dX8_up_15 rfl rfl ?_
  refine wp_get (v := vI ((g 45) 0)) dX8_up_16 fl_8_108 L_45 rfl ?_
  exact wp_icmp_ge (tgt := 51) dX8_up_19 rfl k1 k2
theorem b_X8_up_22 {d : Nat} {Q : Option pV → pG → Prop} {g : pG} {v1 v2 : Int} (k1 : (0 ≤ v1) → EV d mX8_up Q 38 [vR 45, vI v1, vI v2] [] g) (k2 : ¬ (0 ≤ v1) → EV d mX8_up Q 26 [vR 45, vI v1, vI v2] [] g) : EV d mX8_up Q 22 [vR 45, vI v1, vI v2] [] g := by
  refine wp_iload_n dX8_up_22 rfl ?_
  exact wp_if_ge (tgt := 38) dX8_up_23 rfl k1 k2
theorem b_X8_up_26 {d : Nat} {Q : Option pV → pG → Prop} {g : pG} {v1 v2 : Int} {R : Int → pG → Prop} (hc : CT d mX8_sendsBack [vR 45, vI v2] g (qI R)) (k : ∀ (x : Int) (gg : pG), R x gg → EV d mX8_up Q 31 [vR 45, vI v1, vI v2] [vI x] gg) : EV d mX8_up Q 26 [vR 45, vI v1, vI v2] [] g := by
  refine wp_aload_n dX8_up_26 rfl rfl ?_
  refine wp_iload_n dX8_up_27 rfl ?_
  exact wp_callvI (As := [vI v2]) dX8_up_28 ml_8_142 (by decide) rfl L_45 (by decide) rfl (Nat.le_of_ble_eq_true rfl) rfl (Nat.le_refl _) (Nat.le_refl _) hc k
theorem b_X8_up_31 {d : Nat} {Q : Option pV → pG → Prop} {g : pG} {v1 v2 vs0 : Int} (k1 : (vs0 = 0) → EV d mX8_up Q 38 [vR 45, vI v1, vI v2] [] g) (k2 : ¬ (vs0 = 0) → EV d mX8_up Q 34 [vR 45, vI v1, vI v2] [] g) : EV d mX8_up Q 31 [vR 45, vI v1, vI v2] [vI vs0] g := by
  exact wp_if_eq (tgt := 38) dX8_up_31 rfl k1 k2
theorem b_X8_up_34 {d : Nat} {Q : Option pV → pG → Prop} {g : pG} {v1 v2 : Int} {R : pG → Prop} (hc : CT d mX8_pass [vR 45, vI v2] g (qV R)) (k : ∀ gg : pG, R gg → EV d mX8_up Q 45 [vR 45, vI v2, vI v2] [] gg) : EV d mX8_up Q 34 [vR 45, vI v1, vI v2] [] g := by
  refine wp_iload_n dX8_up_34 rfl ?_
  refine wp_goto (tgt := 39) dX8_up_35 rfl ?_
  refine wp_istore_n dX8_up_39 (Nat.le_of_ble_eq_true rfl) (pp (c := 0) rfl rfl) ?_
  refine wp_aload_n dX8_up_40 rfl rfl ?_
  refine wp_iload_n dX8_up_41 rfl ?_
  exact wp_callvV (As := [vI v2]) dX8_up_42 ml_8_154 (by decide) rfl L_45 (by decide) rfl (Nat.le_of_ble_eq_true rfl) rfl (Nat.le_refl _) (Nat.le_refl _) hc k
theorem b_X8_up_38 {d : Nat} {Q : Option pV → pG → Prop} {g : pG} {v1 v2 : Int} {R : pG → Prop} (hc : CT d mX8_pass [vR 45, vI v2] g (qV R)) (k : ∀ gg : pG, R gg → EV d mX8_up Q 45 [vR 45, vI v1, vI v2] [] gg) : EV d mX8_up Q 38 [vR 45, vI v1, vI v2] [] g := by
  refine wp_iload_n dX8_up_38 rfl ?_
  refine wp_istore_n dX8_up_39 (Nat.le_of_ble_eq_true rfl) (pp (c := 0) rfl rfl) ?_
  refine wp_aload_n dX8_up_40 rfl rfl ?_
  refine wp_iload_n dX8_up_41 rfl ?_
  exact wp_callvV (As := [vI v2]) dX8_up_42 ml_8_154 (by decide) rfl L_45 (by decide) rfl (Nat.le_of_ble_eq_true rfl) rfl (Nat.le_refl _) (Nat.le_refl _) hc k
theorem b_X8_up_45 {d : Nat} {Q : Option pV → pG → Prop} {g : pG} {v1 v2 : Int} (k : EV d mX8_up Q 14 [vR 45, vI v1, vI (w32 (v2 + 1))] [] g) : EV d mX8_up Q 45 [vR 45, vI v1, vI v2] [] g := by
  refine wp_iinc dX8_up_45 rfl (Nat.le_of_ble_eq_true rfl) (pp (c := 1) rfl rfl) ?_
  refine wp_goto (tgt := 14) dX8_up_48 rfl ?_
  exact k
theorem b_X8_up_51 {d : Nat} {Q : Option pV → pG → Prop} {g : pG} {v1 v2 : Int} (hq : Q (some (vI v1)) g) : EV d mX8_up Q 51 [vR 45, vI v1, vI v2] [] g := by
  refine wp_iload_n dX8_up_51 rfl ?_
  exact wp_iret dX8_up_52 rfl hq
theorem b_X8_round_0 {d : Nat} {Q : Option pV → pG → Prop} {g : pG} {v1 : Int} {R : Int → pG → Prop} (hc : CT d mX8_in [vL v1, vL 0, vL 2] (cset g 45 (fup (g 45) 8 0)) (qI R)) (k : ∀ (x : Int) (gg : pG), R x gg → EV d mX8_round Q 14 [vR 45, vI v1] [vI x] gg) : EV d mX8_round Q 0 [vR 45, vI v1] [] g := by
  refine wp_aload_n dX8_round_0 rfl rfl ?_
  refine wp_iconst dX8_round_1 kc_0 ?_
  refine wp_putI dX8_round_2 fl_8_105 L_45 rfl rfl ?_
  refine wp_iload_n dX8_round_5 rfl ?_
  refine wp_i2l dX8_round_6 ?_
  refine wp_lconst (x := 0) dX8_round_7 rfl ?_
  refine wp_ldc2_w dX8_round_8 k2_8_233 ?_
  exact wp_callsI (As := [vL v1, vL 0, vL 2]) dX8_round_11 ml_8_111 (Or.inl rfl) rfl (Nat.le_of_ble_eq_true rfl) rfl (Nat.le_refl _) (Nat.le_refl _) hc k
theorem b_X8_round_14 {d : Nat} {Q : Option pV → pG → Prop} {g : pG} {v1 vs0 : Int} (k1 : (vs0 ≠ 0) → EV d mX8_round Q 27 [vR 45, vI v1] [] g) (k2 : ¬ (vs0 ≠ 0) → EV d mX8_round Q 17 [vR 45, vI v1] [] g) : EV d mX8_round Q 14 [vR 45, vI v1] [vI vs0] g := by
  exact wp_if_ne (tgt := 27) dX8_round_14 rfl k1 k2
theorem b_X8_round_17 {d : Nat} {Q : Option pV → pG → Prop} {g : pG} {v1 : Int} {R : Int → pG → Prop} (hc : CT d mX8_refuse [vR 45, vI (-2)] g (qI R)) (k : ∀ (x : Int) (gg : pG), R x gg → EV d mX8_round Q 25 [vR 45, vI v1] [vI x, vI 1000000000] gg) : EV d mX8_round Q 17 [vR 45, vI v1] [] g := by
  refine wp_ldc dX8_round_17 kl_8_239 ?_
  refine wp_aload_n dX8_round_19 rfl rfl ?_
  refine wp_bipush dX8_round_20 kb_m2 kc_m2 ?_
  exact wp_callvI (As := [vI (-2)]) dX8_round_22 ml_8_164 (by decide) rfl L_45 (by decide) rfl (Nat.le_of_ble_eq_true rfl) rfl (Nat.le_refl _) (Nat.le_refl _) hc k
theorem b_X8_round_25 {d : Nat} {Q : Option pV → pG → Prop} {g : pG} {v1 vs0 vs1 : Int} (hq : Q (some (vI (w32 (vs0 - vs1)))) g) : EV d mX8_round Q 25 [vR 45, vI v1] [vI vs1, vI vs0] g := by
  refine wp_isub dX8_round_25 ?_
  exact wp_iret dX8_round_26 rfl hq
theorem b_X8_round_27 {d : Nat} {Q : Option pV → pG → Prop} {g : pG} {v1 : Int} {R : pG → Prop} (hc : CT d mX8_goRound [vR 45] g (qV R)) (k : ∀ gg : pG, R gg → EV d mX8_round Q 31 [vR 45, vI v1] [] gg) : EV d mX8_round Q 27 [vR 45, vI v1] [] g := by
  refine wp_aload_n dX8_round_27 rfl rfl ?_
  exact wp_callvV (As := []) dX8_round_28 ml_8_268 (by decide) rfl L_45 (by decide) rfl (Nat.le_of_ble_eq_true rfl) rfl (Nat.le_refl _) (Nat.le_refl _) hc k
theorem b_X8_round_31 {d : Nat} {Q : Option pV → pG → Prop} {g : pG} {v1 : Int} (k1 : (v1 ≠ 0) → EV d mX8_round Q 42 [vR 45, vI v1] [] g) (k2 : ¬ (v1 ≠ 0) → EV d mX8_round Q 35 [vR 45, vI v1] [] g) : EV d mX8_round Q 31 [vR 45, vI v1] [] g := by
  refine wp_iload_n dX8_round_31 rfl ?_
  exact wp_if_ne (tgt := 42) dX8_round_32 rfl k1 k2
theorem b_X8_round_35 {d : Nat} {Q : Option pV → pG → Prop} {g : pG} {v1 : Int} (hq : Q (some (vI ((g 45) 29))) g) : EV d mX8_round Q 35 [vR 45, vI v1] [] g := by
  refine wp_aload_n dX8_round_35 rfl rfl ?_
  refine wp_get (v := vI ((g 45) 29)) dX8_round_36 fl_8_265 L_45 rfl ?_
  refine wp_goto (tgt := 70) dX8_round_39 rfl ?_
  exact wp_iret dX8_round_70 rfl hq
theorem b_X8_round_42 {d : Nat} {Q : Option pV → pG → Prop} {g : pG} {v1 : Int} (k1 : (v1 ≠ 2) → EV d mX8_round Q 54 [vR 45, vI v1] [] g) (k2 : ¬ (v1 ≠ 2) → EV d mX8_round Q 47 [vR 45, vI v1] [] g) : EV d mX8_round Q 42 [vR 45, vI v1] [] g := by
  refine wp_iload_n dX8_round_42 rfl ?_
  refine wp_iconst dX8_round_43 kc_2 ?_
  exact wp_icmp_ne (tgt := 54) dX8_round_44 rfl k1 k2
theorem b_X8_round_47 {d : Nat} {Q : Option pV → pG → Prop} {g : pG} {v1 : Int} (hq : Q (some (vI ((g 45) 30))) g) : EV d mX8_round Q 47 [vR 45, vI v1] [] g := by
  refine wp_aload_n dX8_round_47 rfl rfl ?_
  refine wp_get (v := vI ((g 45) 30)) dX8_round_48 fl_8_259 L_45 rfl ?_
  refine wp_goto (tgt := 70) dX8_round_51 rfl ?_
  exact wp_iret dX8_round_70 rfl hq
theorem b_X8_round_54 {d : Nat} {Q : Option pV → pG → Prop} {g : pG} {v1 : Int} (k1 : (0 ≤ (g 45) 29) → EV d mX8_round Q 66 [vR 45, vI v1] [] g) (k2 : ¬ (0 ≤ (g 45) 29) → EV d mX8_round Q 61 [vR 45, vI v1] [] g) : EV d mX8_round Q 54 [vR 45, vI v1] [] g := by
  refine wp_aload_n dX8_round_54 rfl rfl ?_
  refine wp_get (v := vI ((g 45) 29)) dX8_round_55 fl_8_265 L_45 rfl ?_
  exact wp_if_ge (tgt := 66) dX8_round_58 rfl k1 k2
theorem b_X8_round_61 {d : Nat} {Q : Option pV → pG → Prop} {g : pG} {v1 : Int} (hq : Q (some (vI (-99))) g) : EV d mX8_round Q 61 [vR 45, vI v1] [] g := by
  refine wp_bipush dX8_round_61 kb_m99 kc_m99 ?_
  refine wp_goto (tgt := 70) dX8_round_63 rfl ?_
  exact wp_iret dX8_round_70 rfl hq
theorem b_X8_round_66 {d : Nat} {Q : Option pV → pG → Prop} {g : pG} {v1 : Int} {R : Int → pG → Prop} (hc : CT d mX8_sumNow [vR 45] g (qI R)) (k : ∀ (x : Int) (gg : pG), R x gg → EV d mX8_round Q 70 [vR 45, vI v1] [vI x] gg) : EV d mX8_round Q 66 [vR 45, vI v1] [] g := by
  refine wp_aload_n dX8_round_66 rfl rfl ?_
  exact wp_callvI (As := []) dX8_round_67 ml_8_118 (by decide) rfl L_45 (by decide) rfl (Nat.le_of_ble_eq_true rfl) rfl (Nat.le_refl _) (Nat.le_refl _) hc k
theorem b_X8_round_70 {d : Nat} {Q : Option pV → pG → Prop} {g : pG} {v1 vs0 : Int} (hq : Q (some (vI vs0)) g) : EV d mX8_round Q 70 [vR 45, vI v1] [vI vs0] g := by
  exact wp_iret dX8_round_70 rfl hq
theorem b_X8_goRound_0 {d : Nat} {Q : Option pV → pG → Prop} {g : pG} {R : pG → Prop} (hc : CT d mX8_think [vR 45] g (qV R)) (k : ∀ gg : pG, R gg → EV d mX8_goRound Q 4 [vR 45, vX 2, vX 2, vX 2] [] gg) : EV d mX8_goRound Q 0 [vR 45, vX 2, vX 2, vX 2] [] g := by
  refine wp_aload_n dX8_goRound_0 rfl rfl ?_
  exact wp_callvV (As := []) dX8_goRound_1 ml_8_158 (by decide) rfl L_45 (by decide) rfl (Nat.le_of_ble_eq_true rfl) rfl (Nat.le_refl _) (Nat.le_refl _) hc k
theorem b_X8_goRound_4 {d : Nat} {Q : Option pV → pG → Prop} {g : pG} {R : Int → pG → Prop} (hc : CT d mX8_comesAgain [vR 45, vI 0] (cset (cset g 45 (fup (g 45) 30 (-9))) 45 (fup (fup (g 45) 30 (-9)) 33 0)) (qI R)) (k : ∀ (x : Int) (gg : pG), R x gg → EV d mX8_goRound Q 24 [vR 45, vI 0, vI 0, vX 2] [vI x] gg) : EV d mX8_goRound Q 4 [vR 45, vX 2, vX 2, vX 2] [] g := by
  refine wp_aload_n dX8_goRound_4 rfl rfl ?_
  refine wp_bipush dX8_goRound_5 kb_m9 kc_m9 ?_
  refine wp_putI dX8_goRound_7 fl_8_259 L_45 rfl rfl ?_
  refine wp_aload_n dX8_goRound_10 rfl rfl ?_
  refine wp_iconst dX8_goRound_11 kc_0 ?_
  refine wp_putI dX8_goRound_12 fl_8_256 L_45 rfl rfl ?_
  refine wp_iconst dX8_goRound_15 kc_0 ?_
  refine wp_istore_n dX8_goRound_16 (Nat.le_of_ble_eq_true rfl) (pp (c := 0) rfl rfl) ?_
  refine wp_iconst dX8_goRound_17 kc_0 ?_
  refine wp_istore_n dX8_goRound_18 (Nat.le_of_ble_eq_true rfl) (pp (c := 1) rfl rfl) ?_
  refine wp_aload_n dX8_goRound_19 rfl rfl ?_
  refine wp_iconst dX8_goRound_20 kc_0 ?_
  exact wp_callvI (As := [vI 0]) dX8_goRound_21 ml_8_262 (by decide) rfl L_45 (by decide) rfl (Nat.le_of_ble_eq_true rfl) rfl (Nat.le_refl _) (Nat.le_refl _) hc k
theorem b_X8_goRound_24 {d : Nat} {Q : Option pV → pG → Prop} {g : pG} {v1 v2 vs0 : Int} (k : EV d mX8_goRound Q 25 [vR 45, vI v1, vI v2, vX 2] [] g) : EV d mX8_goRound Q 24 [vR 45, vI v1, vI v2, vX 2] [vI vs0] g := by
  refine wp_pop dX8_goRound_24 rfl ?_
  exact k
theorem b_X8_goRound_25 {d : Nat} {Q : Option pV → pG → Prop} {g : pG} {v1 v2 : Int} {u3 : pV} (k1 : ((g 45) 0 ≤ v2) → EV d mX8_goRound Q 92 [vR 45, vI v1, vI v2, u3] [] g) (k2 : ¬ ((g 45) 0 ≤ v2) → EV d mX8_goRound Q 33 [vR 45, vI v1, vI v2, u3] [] g) : EV d mX8_goRound Q 25 [vR 45, vI v1, vI v2, u3] [] g := by
  refine wp_iload_n dX8_goRound_25 rfl ?_
  refine wp_aload_n dX8_goRound_26 rfl rfl ?_
  refine wp_get (v := vI ((g 45) 0)) dX8_goRound_27 fl_8_108 L_45 rfl ?_
  exact wp_icmp_ge (tgt := 92) dX8_goRound_30 rfl k1 k2
theorem b_X8_goRound_33 {d : Nat} {Q : Option pV → pG → Prop} {g : pG} {v1 v2 : Int} {u3 : pV} (k1 : (200 ≤ v1) → EV d mX8_goRound Q 92 [vR 45, vI v1, vI v2, u3] [] g) (k2 : ¬ (200 ≤ v1) → EV d mX8_goRound Q 40 [vR 45, vI v1, vI v2, u3] [] g) : EV d mX8_goRound Q 33 [vR 45, vI v1, vI v2, u3] [] g := by
  refine wp_iload_n dX8_goRound_33 rfl ?_
  refine wp_sipush dX8_goRound_34 ks_200 kc_200 ?_
  exact wp_icmp_ge (tgt := 92) dX8_goRound_37 rfl k1 k2
theorem b_X8_goRound_40 {d : Nat} {Q : Option pV → pG → Prop} {g : pG} {v1 v2 : Int} {u3 : pV} {R : Int → pG → Prop} (hc : CT d mX8_sendsBack [vR 45, vI v2] g (qI R)) (k : ∀ (x : Int) (gg : pG), R x gg → EV d mX8_goRound Q 48 [vR 45, vI (w32 (v1 + 1)), vI v2, u3] [vI x] gg) : EV d mX8_goRound Q 40 [vR 45, vI v1, vI v2, u3] [] g := by
  refine wp_iinc dX8_goRound_40 rfl (Nat.le_of_ble_eq_true rfl) (pp (c := 0) rfl rfl) ?_
  refine wp_aload_n dX8_goRound_43 rfl rfl ?_
  refine wp_iload_n dX8_goRound_44 rfl ?_
  exact wp_callvI (As := [vI v2]) dX8_goRound_45 ml_8_142 (by decide) rfl L_45 (by decide) rfl (Nat.le_of_ble_eq_true rfl) rfl (Nat.le_refl _) (Nat.le_refl _) hc k
theorem b_X8_goRound_48 {d : Nat} {Q : Option pV → pG → Prop} {g : pG} {v1 v2 vs0 : Int} {u3 : pV} (k1 : (vs0 = 0) → EV d mX8_goRound Q 81 [vR 45, vI v1, vI v2, u3] [] g) (k2 : ¬ (vs0 = 0) → EV d mX8_goRound Q 51 [vR 45, vI v1, vI v2, u3] [] g) : EV d mX8_goRound Q 48 [vR 45, vI v1, vI v2, u3] [vI vs0] g := by
  exact wp_if_eq (tgt := 81) dX8_goRound_48 rfl k1 k2
theorem b_X8_goRound_51 {d : Nat} {Q : Option pV → pG → Prop} {g : pG} {v1 v2 : Int} {u3 : pV} {R : Int → pG → Prop} (hc : CT d mX8_comesAgain [vR 45, vI v1] g (qI R)) (k : ∀ (x : Int) (gg : pG), R x gg → EV d mX8_goRound Q 58 [vR 45, vI v1, vI 0, u3] [vI x] gg) : EV d mX8_goRound Q 51 [vR 45, vI v1, vI v2, u3] [] g := by
  refine wp_iconst dX8_goRound_51 kc_0 ?_
  refine wp_istore_n dX8_goRound_52 (Nat.le_of_ble_eq_true rfl) (pp (c := 1) rfl rfl) ?_
  refine wp_aload_n dX8_goRound_53 rfl rfl ?_
  refine wp_iload_n dX8_goRound_54 rfl ?_
  exact wp_callvI (As := [vI v1]) dX8_goRound_55 ml_8_262 (by decide) rfl L_45 (by decide) rfl (Nat.le_of_ble_eq_true rfl) rfl (Nat.le_refl _) (Nat.le_refl _) hc k
theorem b_X8_goRound_58 {d : Nat} {Q : Option pV → pG → Prop} {g : pG} {v1 v2 vs0 : Int} {u3 : pV} (k1 : (0 ≤ (g 45) 30) → EV d mX8_goRound Q 71 [vR 45, vI v1, vI v2, vI vs0] [vR 45] g) (k2 : ¬ (0 ≤ (g 45) 30) → EV d mX8_goRound Q 67 [vR 45, vI v1, vI v2, vI vs0] [vR 45] g) : EV d mX8_goRound Q 58 [vR 45, vI v1, vI v2, u3] [vI vs0] g := by
  refine wp_istore_n dX8_goRound_58 (Nat.le_of_ble_eq_true rfl) (pp (c := 2) rfl rfl) ?_
  refine wp_aload_n dX8_goRound_59 rfl rfl ?_
  refine wp_aload_n dX8_goRound_60 rfl rfl ?_
  refine wp_get (v := vI ((g 45) 30)) dX8_goRound_61 fl_8_259 L_45 rfl ?_
  exact wp_if_ge (tgt := 71) dX8_goRound_64 rfl k1 k2
theorem b_X8_goRound_67 {d : Nat} {Q : Option pV → pG → Prop} {g : pG} {v1 v2 v3 : Int} (k : EV d mX8_goRound Q 25 [vR 45, vI v1, vI v2, vI v3] [] (cset g 45 (fup (g 45) 30 v3))) : EV d mX8_goRound Q 67 [vR 45, vI v1, vI v2, vI v3] [vR 45] g := by
  refine wp_iload_n dX8_goRound_67 rfl ?_
  refine wp_goto (tgt := 75) dX8_goRound_68 rfl ?_
  refine wp_putI dX8_goRound_75 fl_8_259 L_45 rfl rfl ?_
  refine wp_goto (tgt := 25) dX8_goRound_78 rfl ?_
  exact k
theorem b_X8_goRound_71 {d : Nat} {Q : Option pV → pG → Prop} {g : pG} {v1 v2 v3 : Int} (k : EV d mX8_goRound Q 25 [vR 45, vI v1, vI v2, vI v3] [] (cset g 45 (fup (g 45) 30 ((g 45) 30)))) : EV d mX8_goRound Q 71 [vR 45, vI v1, vI v2, vI v3] [vR 45] g := by
  refine wp_aload_n dX8_goRound_71 rfl rfl ?_
  refine wp_get (v := vI ((g 45) 30)) dX8_goRound_72 fl_8_259 L_45 rfl ?_
  refine wp_putI dX8_goRound_75 fl_8_259 L_45 rfl rfl ?_
  refine wp_goto (tgt := 25) dX8_goRound_78 rfl ?_
  exact k
