theorem b_X8_layOrder_0 {d : Nat} {Q : Option pV → pG → Prop} {g : pG} {v1 v2 : Int} (k : EV d mX8_layOrder Q 8 [vR 45, vI v1, vI v2, vI v1, vI 0, vI 0, vX 2, vX 2, vX 2] [] g) : EV d mX8_layOrder Q 0 [vR 45, vI v1, vI v2, vX 2, vX 2, vX 2, vX 2, vX 2, vX 2] [] g := by
  refine wp_iload_n dX8_layOrder_0 rfl ?_
  refine wp_istore_n dX8_layOrder_1 (Nat.le_of_ble_eq_true rfl) (pp (c := 2) rfl rfl) ?_
  refine wp_iconst dX8_layOrder_2 kc_0 ?_
  refine wp_istore dX8_layOrder_3 (Nat.le_of_ble_eq_true rfl) (pp (c := 3) rfl rfl) ?_
  refine wp_iconst dX8_layOrder_5 kc_0 ?_
  refine wp_istore dX8_layOrder_6 (Nat.le_of_ble_eq_true rfl) (pp (c := 4) rfl rfl) ?_
  exact k
theorem b_X8_layOrder_8 {d : Nat} {Q : Option pV → pG → Prop} {g : pG} {v1 v2 v3 v4 v5 : Int} {u6 u7 u8 : pV} (k1 : (v2 ≤ v5) → EV d mX8_layOrder Q 104 [vR 45, vI v1, vI v2, vI v3, vI v4, vI v5, u6, u7, u8] [] g) (k2 : ¬ (v2 ≤ v5) → EV d mX8_layOrder Q 14 [vR 45, vI v1, vI v2, vI v3, vI v4, vI v5, u6, u7, u8] [] g) : EV d mX8_layOrder Q 8 [vR 45, vI v1, vI v2, vI v3, vI v4, vI v5, u6, u7, u8] [] g := by
  refine wp_iload dX8_layOrder_8 rfl ?_
  refine wp_iload_n dX8_layOrder_10 rfl ?_
  exact wp_icmp_ge (tgt := 104) dX8_layOrder_11 rfl k1 k2
theorem b_X8_layOrder_14 {d : Nat} {Q : Option pV → pG → Prop} {g : pG} {v1 v2 v3 v4 v5 : Int} {u6 u7 u8 : pV} {R : Int → pG → Prop} (hc : CT d mX8_ordersOf [vI (w32 ((w32 (v2 - 1)) - v5))] g (qI R)) (k : ∀ (x : Int) (gg : pG), R x gg → EV d mX8_layOrder Q 23 [vR 45, vI v1, vI v2, vI v3, vI v4, vI v5, u6, u7, u8] [vI x] gg) : EV d mX8_layOrder Q 14 [vR 45, vI v1, vI v2, vI v3, vI v4, vI v5, u6, u7, u8] [] g := by
  refine wp_iload_n dX8_layOrder_14 rfl ?_
  refine wp_iconst dX8_layOrder_15 kc_1 ?_
  refine wp_isub dX8_layOrder_16 ?_
  refine wp_iload dX8_layOrder_17 rfl ?_
  refine wp_isub dX8_layOrder_19 ?_
  exact wp_callsI (As := [vI (w32 ((w32 (v2 - 1)) - v5))]) dX8_layOrder_20 ml_8_324 (Or.inl rfl) rfl (Nat.le_of_ble_eq_true rfl) rfl (Nat.le_refl _) (Nat.le_refl _) hc k
theorem b_X8_layOrder_23 {d : Nat} {Q : Option pV → pG → Prop} {g : pG} {v1 v2 v3 v4 v5 vs0 : Int} {u6 u7 u8 : pV} (h1 : vs0 ≠ 0) (k : EV d mX8_layOrder Q 39 [vR 45, vI v1, vI v2, vI (w32 (v3.tmod vs0)), vI v4, vI v5, vI vs0, vI (w32 (v3.tdiv vs0)), vI 0] [] g) : EV d mX8_layOrder Q 23 [vR 45, vI v1, vI v2, vI v3, vI v4, vI v5, u6, u7, u8] [vI vs0] g := by
  refine wp_istore dX8_layOrder_23 (Nat.le_of_ble_eq_true rfl) (pp (c := 5) rfl rfl) ?_
  refine wp_iload_n dX8_layOrder_25 rfl ?_
  refine wp_iload dX8_layOrder_26 rfl ?_
  refine wp_idiv dX8_layOrder_28 h1 ?_
  refine wp_istore dX8_layOrder_29 (Nat.le_of_ble_eq_true rfl) (pp (c := 6) rfl rfl) ?_
  refine wp_iload_n dX8_layOrder_31 rfl ?_
  refine wp_iload dX8_layOrder_32 rfl ?_
  refine wp_irem dX8_layOrder_34 h1 ?_
  refine wp_istore_n dX8_layOrder_35 (Nat.le_of_ble_eq_true rfl) (pp (c := 2) rfl rfl) ?_
  refine wp_iconst dX8_layOrder_36 kc_0 ?_
  refine wp_istore dX8_layOrder_37 (Nat.le_of_ble_eq_true rfl) (pp (c := 7) rfl rfl) ?_
  exact k
theorem b_X8_layOrder_39 {d : Nat} {Q : Option pV → pG → Prop} {g : pG} {v1 v2 v3 v4 v5 v6 v7 v8 : Int} {R : Int → pG → Prop} (hc : CT d mX8_hasBit [vI v4, vI v8] g (qI R)) (k : ∀ (x : Int) (gg : pG), R x gg → EV d mX8_layOrder Q 46 [vR 45, vI v1, vI v2, vI v3, vI v4, vI v5, vI v6, vI v7, vI v8] [vI x] gg) : EV d mX8_layOrder Q 39 [vR 45, vI v1, vI v2, vI v3, vI v4, vI v5, vI v6, vI v7, vI v8] [] g := by
  refine wp_iload dX8_layOrder_39 rfl ?_
  refine wp_iload dX8_layOrder_41 rfl ?_
  exact wp_callsI (As := [vI v4, vI v8]) dX8_layOrder_43 ml_8_150 (Or.inl rfl) rfl (Nat.le_of_ble_eq_true rfl) rfl (Nat.le_refl _) (Nat.le_refl _) hc k
theorem b_X8_layOrder_46 {d : Nat} {Q : Option pV → pG → Prop} {g : pG} {v1 v2 v3 v4 v5 v6 v7 v8 vs0 : Int} (k1 : (vs0 ≠ 0) → EV d mX8_layOrder Q 54 [vR 45, vI v1, vI v2, vI v3, vI v4, vI v5, vI v6, vI v7, vI v8] [] g) (k2 : ¬ (vs0 ≠ 0) → EV d mX8_layOrder Q 49 [vR 45, vI v1, vI v2, vI v3, vI v4, vI v5, vI v6, vI v7, vI v8] [] g) : EV d mX8_layOrder Q 46 [vR 45, vI v1, vI v2, vI v3, vI v4, vI v5, vI v6, vI v7, vI v8] [vI vs0] g := by
  exact wp_if_ne (tgt := 54) dX8_layOrder_46 rfl k1 k2
theorem b_X8_layOrder_49 {d : Nat} {Q : Option pV → pG → Prop} {g : pG} {v1 v2 v3 v4 v5 v6 v7 v8 : Int} (k1 : (v7 ≤ 0) → EV d mX8_layOrder Q 80 [vR 45, vI v1, vI v2, vI v3, vI v4, vI v5, vI v6, vI v7, vI v8] [] g) (k2 : ¬ (v7 ≤ 0) → EV d mX8_layOrder Q 54 [vR 45, vI v1, vI v2, vI v3, vI v4, vI v5, vI v6, vI v7, vI v8] [] g) : EV d mX8_layOrder Q 49 [vR 45, vI v1, vI v2, vI v3, vI v4, vI v5, vI v6, vI v7, vI v8] [] g := by
  refine wp_iload dX8_layOrder_49 rfl ?_
  exact wp_if_le (tgt := 80) dX8_layOrder_51 rfl k1 k2
theorem b_X8_layOrder_54 {d : Nat} {Q : Option pV → pG → Prop} {g : pG} {v1 v2 v3 v4 v5 v6 v7 v8 : Int} {R : Int → pG → Prop} (hc : CT d mX8_hasBit [vI v4, vI v8] g (qI R)) (k : ∀ (x : Int) (gg : pG), R x gg → EV d mX8_layOrder Q 63 [vR 45, vI v1, vI v2, vI v3, vI v4, vI v5, vI v6, vI v7, vI v8] [vI x, vI v7] gg) : EV d mX8_layOrder Q 54 [vR 45, vI v1, vI v2, vI v3, vI v4, vI v5, vI v6, vI v7, vI v8] [] g := by
  refine wp_iload dX8_layOrder_54 rfl ?_
  refine wp_iload dX8_layOrder_56 rfl ?_
  refine wp_iload dX8_layOrder_58 rfl ?_
  exact wp_callsI (As := [vI v4, vI v8]) dX8_layOrder_60 ml_8_150 (Or.inl rfl) rfl (Nat.le_of_ble_eq_true rfl) rfl (Nat.le_refl _) (Nat.le_refl _) hc k
theorem b_X8_layOrder_63 {d : Nat} {Q : Option pV → pG → Prop} {g : pG} {v1 v2 v3 v4 v5 v6 v7 v8 vs0 vs1 : Int} (k1 : (vs1 = 0) → EV d mX8_layOrder Q 70 [vR 45, vI v1, vI v2, vI v3, vI v4, vI v5, vI v6, vI v7, vI v8] [vI vs0] g) (k2 : ¬ (vs1 = 0) → EV d mX8_layOrder Q 66 [vR 45, vI v1, vI v2, vI v3, vI v4, vI v5, vI v6, vI v7, vI v8] [vI vs0] g) : EV d mX8_layOrder Q 63 [vR 45, vI v1, vI v2, vI v3, vI v4, vI v5, vI v6, vI v7, vI v8] [vI vs1, vI vs0] g := by
  exact wp_if_eq (tgt := 70) dX8_layOrder_63 rfl k1 k2
theorem b_X8_layOrder_66 {d : Nat} {Q : Option pV → pG → Prop} {g : pG} {v1 v2 v3 v4 v5 v6 v7 v8 vs0 : Int} (k : EV d mX8_layOrder Q 39 [vR 45, vI v1, vI v2, vI v3, vI v4, vI v5, vI v6, vI (w32 (vs0 - 0)), vI (w32 (v8 + 1))] [] g) : EV d mX8_layOrder Q 66 [vR 45, vI v1, vI v2, vI v3, vI v4, vI v5, vI v6, vI v7, vI v8] [vI vs0] g := by
  refine wp_iconst dX8_layOrder_66 kc_0 ?_
  refine wp_goto (tgt := 71) dX8_layOrder_67 rfl ?_
  refine wp_isub dX8_layOrder_71 ?_
  refine wp_istore dX8_layOrder_72 (Nat.le_of_ble_eq_true rfl) (pp (c := 6) rfl rfl) ?_
  refine wp_iinc dX8_layOrder_74 rfl (Nat.le_of_ble_eq_true rfl) (pp (c := 7) rfl rfl) ?_
  refine wp_goto (tgt := 39) dX8_layOrder_77 rfl ?_
  exact k
theorem b_X8_layOrder_70 {d : Nat} {Q : Option pV → pG → Prop} {g : pG} {v1 v2 v3 v4 v5 v6 v7 v8 vs0 : Int} (k : EV d mX8_layOrder Q 39 [vR 45, vI v1, vI v2, vI v3, vI v4, vI v5, vI v6, vI (w32 (vs0 - 1)), vI (w32 (v8 + 1))] [] g) : EV d mX8_layOrder Q 70 [vR 45, vI v1, vI v2, vI v3, vI v4, vI v5, vI v6, vI v7, vI v8] [vI vs0] g := by
  refine wp_iconst dX8_layOrder_70 kc_1 ?_
  refine wp_isub dX8_layOrder_71 ?_
  refine wp_istore dX8_layOrder_72 (Nat.le_of_ble_eq_true rfl) (pp (c := 6) rfl rfl) ?_
  refine wp_iinc dX8_layOrder_74 rfl (Nat.le_of_ble_eq_true rfl) (pp (c := 7) rfl rfl) ?_
  refine wp_goto (tgt := 39) dX8_layOrder_77 rfl ?_
  exact k
theorem b_X8_layOrder_80 {d : Nat} {Q : Option pV → pG → Prop} {g : pG} {v1 v2 v3 v4 v5 v6 v7 v8 : Int} (h1 : 0 ≤ v5) (h2 : v5 < 5) (k : EV d mX8_layOrder Q 8 [vR 45, vI v1, vI v2, vI v3, vI (zor v4 (zshl 1 v8)), vI (w32 (v5 + 1)), vI v6, vI v7, vI v8] [] (cset g 70 (fup (g 70) v5.toNat v8))) : EV d mX8_layOrder Q 80 [vR 45, vI v1, vI v2, vI v3, vI v4, vI v5, vI v6, vI v7, vI v8] [] g := by
  refine wp_aload_n dX8_layOrder_80 rfl rfl ?_
  refine wp_get (v := vR 70) dX8_layOrder_81 fl_8_93 L_45 rfl ?_
  refine wp_iload dX8_layOrder_84 rfl ?_
  refine wp_iload dX8_layOrder_86 rfl ?_
  refine wp_iastore dX8_layOrder_88 h1 L_70 h2 ?_
  refine wp_iload dX8_layOrder_89 rfl ?_
  refine wp_iconst dX8_layOrder_91 kc_1 ?_
  refine wp_iload dX8_layOrder_92 rfl ?_
  refine wp_ishl dX8_layOrder_94 ?_
  refine wp_ior dX8_layOrder_95 ?_
  refine wp_istore dX8_layOrder_96 (Nat.le_of_ble_eq_true rfl) (pp (c := 3) rfl rfl) ?_
  refine wp_iinc dX8_layOrder_98 rfl (Nat.le_of_ble_eq_true rfl) (pp (c := 4) rfl rfl) ?_
  refine wp_goto (tgt := 8) dX8_layOrder_101 rfl ?_
  exact k
theorem b_X8_layOrder_104 {d : Nat} {Q : Option pV → pG → Prop} {g : pG} {v1 v2 v3 v4 v5 : Int} {u6 u7 u8 : pV} (hq : Q none g) : EV d mX8_layOrder Q 104 [vR 45, vI v1, vI v2, vI v3, vI v4, vI v5, u6, u7, u8] [] g := by
  exact wp_vret dX8_layOrder_104 rfl hq
theorem b_X8_ordersOf_0 {d : Nat} {Q : Option pV → pG → Prop} {g : pG} {v0 : Int} (k : EV d mX8_ordersOf Q 4 [vI v0, vI 1, vI 2] [] g) : EV d mX8_ordersOf Q 0 [vI v0, vX 2, vX 2] [] g := by
  refine wp_iconst dX8_ordersOf_0 kc_1 ?_
  refine wp_istore_n dX8_ordersOf_1 (Nat.le_of_ble_eq_true rfl) (pp (c := 0) rfl rfl) ?_
  refine wp_iconst dX8_ordersOf_2 kc_2 ?_
  refine wp_istore_n dX8_ordersOf_3 (Nat.le_of_ble_eq_true rfl) (pp (c := 1) rfl rfl) ?_
  exact k
theorem b_X8_ordersOf_4 {d : Nat} {Q : Option pV → pG → Prop} {g : pG} {v0 v1 v2 : Int} (k1 : (v0 < v2) → EV d mX8_ordersOf Q 19 [vI v0, vI v1, vI v2] [] g) (k2 : ¬ (v0 < v2) → EV d mX8_ordersOf Q 9 [vI v0, vI v1, vI v2] [] g) : EV d mX8_ordersOf Q 4 [vI v0, vI v1, vI v2] [] g := by
  refine wp_iload_n dX8_ordersOf_4 rfl ?_
  refine wp_iload_n dX8_ordersOf_5 rfl ?_
  exact wp_icmp_gt (tgt := 19) dX8_ordersOf_6 rfl k1 k2
theorem b_X8_ordersOf_9 {d : Nat} {Q : Option pV → pG → Prop} {g : pG} {v0 v1 v2 : Int} (k : EV d mX8_ordersOf Q 4 [vI v0, vI (w32 (v1 * v2)), vI (w32 (v2 + 1))] [] g) : EV d mX8_ordersOf Q 9 [vI v0, vI v1, vI v2] [] g := by
  refine wp_iload_n dX8_ordersOf_9 rfl ?_
  refine wp_iload_n dX8_ordersOf_10 rfl ?_
  refine wp_imul dX8_ordersOf_11 ?_
  refine wp_istore_n dX8_ordersOf_12 (Nat.le_of_ble_eq_true rfl) (pp (c := 0) rfl rfl) ?_
  refine wp_iinc dX8_ordersOf_13 rfl (Nat.le_of_ble_eq_true rfl) (pp (c := 1) rfl rfl) ?_
  refine wp_goto (tgt := 4) dX8_ordersOf_16 rfl ?_
  exact k
theorem b_X8_ordersOf_19 {d : Nat} {Q : Option pV → pG → Prop} {g : pG} {v0 v1 v2 : Int} (hq : Q (some (vI v1)) g) : EV d mX8_ordersOf Q 19 [vI v0, vI v1, vI v2] [] g := by
  refine wp_iload_n dX8_ordersOf_19 rfl ?_
  exact wp_iret dX8_ordersOf_20 rfl hq
theorem b_X8_needed_0 {d : Nat} {Q : Option pV → pG → Prop} {g : pG} {v1 : Int} {R : Int → pG → Prop} (hc : CT d mX8_in [vL v1, vL 0, vL (w32 (((fup (g 45) 8 0) 4) - 1))] (cset g 45 (fup (g 45) 8 0)) (qI R)) (k : ∀ (x : Int) (gg : pG), R x gg → EV d mX8_needed Q 18 [vR 45, vI v1, vX 2] [vI x] gg) : EV d mX8_needed Q 0 [vR 45, vI v1, vX 2] [] g := by
  refine wp_aload_n dX8_needed_0 rfl rfl ?_
  refine wp_iconst dX8_needed_1 kc_0 ?_
  refine wp_putI dX8_needed_2 fl_8_105 L_45 rfl rfl ?_
  refine wp_iload_n dX8_needed_5 rfl ?_
  refine wp_i2l dX8_needed_6 ?_
  refine wp_lconst (x := 0) dX8_needed_7 rfl ?_
  refine wp_aload_n dX8_needed_8 rfl rfl ?_
  refine wp_get (v := vI ((fup (g 45) 8 0) 4)) dX8_needed_9 fl_8_19 L_45 rfl ?_
  refine wp_iconst dX8_needed_12 kc_1 ?_
  refine wp_isub dX8_needed_13 ?_
  refine wp_i2l dX8_needed_14 ?_
  exact wp_callsI (As := [vL v1, vL 0, vL (w32 (((fup (g 45) 8 0) 4) - 1))]) dX8_needed_15 ml_8_111 (Or.inl rfl) rfl (Nat.le_of_ble_eq_true rfl) rfl (Nat.le_refl _) (Nat.le_refl _) hc k
theorem b_X8_needed_18 {d : Nat} {Q : Option pV → pG → Prop} {g : pG} {v1 vs0 : Int} (k1 : (vs0 ≠ 0) → EV d mX8_needed Q 27 [vR 45, vI v1, vX 2] [] g) (k2 : ¬ (vs0 ≠ 0) → EV d mX8_needed Q 21 [vR 45, vI v1, vX 2] [] g) : EV d mX8_needed Q 18 [vR 45, vI v1, vX 2] [vI vs0] g := by
  exact wp_if_ne (tgt := 27) dX8_needed_18 rfl k1 k2
theorem b_X8_needed_21 {d : Nat} {Q : Option pV → pG → Prop} {g : pG} {v1 : Int} {R : Int → pG → Prop} (hc : CT d mX8_refuse [vR 45, vI (-1)] g (qI R)) (k : ∀ (x : Int) (gg : pG), R x gg → EV d mX8_needed Q 26 [vR 45, vI v1, vX 2] [vI x] gg) : EV d mX8_needed Q 21 [vR 45, vI v1, vX 2] [] g := by
  refine wp_aload_n dX8_needed_21 rfl rfl ?_
  refine wp_iconst dX8_needed_22 kc_m1 ?_
  exact wp_callvI (As := [vI (-1)]) dX8_needed_23 ml_8_164 (by decide) rfl L_45 (by decide) rfl (Nat.le_of_ble_eq_true rfl) rfl (Nat.le_refl _) (Nat.le_refl _) hc k
theorem b_X8_needed_26 {d : Nat} {Q : Option pV → pG → Prop} {g : pG} {v1 vs0 : Int} (hq : Q (some (vI vs0)) g) : EV d mX8_needed Q 26 [vR 45, vI v1, vX 2] [vI vs0] g := by
  exact wp_iret dX8_needed_26 rfl hq
theorem b_X8_needed_27 {d : Nat} {Q : Option pV → pG → Prop} {g : pG} {v1 : Int} (k : EV d mX8_needed Q 30 [vR 45, vI v1, vI (-9)] [] g) : EV d mX8_needed Q 27 [vR 45, vI v1, vX 2] [] g := by
  refine wp_bipush dX8_needed_27 kb_m9 kc_m9 ?_
  refine wp_istore_n dX8_needed_29 (Nat.le_of_ble_eq_true rfl) (pp (c := 1) rfl rfl) ?_
  exact k
theorem b_X8_needed_30 {d : Nat} {Q : Option pV → pG → Prop} {g : pG} {v1 v2 : Int} (k1 : (9 < v2) → EV d mX8_needed Q 67 [vR 45, vI v1, vI v2] [] g) (k2 : ¬ (9 < v2) → EV d mX8_needed Q 36 [vR 45, vI v1, vI v2] [] g) : EV d mX8_needed Q 30 [vR 45, vI v1, vI v2] [] g := by
  refine wp_iload_n dX8_needed_30 rfl ?_
  refine wp_bipush dX8_needed_31 kb_9 kc_9 ?_
  exact wp_icmp_gt (tgt := 67) dX8_needed_33 rfl k1 k2
theorem b_X8_needed_36 {d : Nat} {Q : Option pV → pG → Prop} {g : pG} {v1 v2 : Int} {R : pG → Prop} (hc : CT d mX8_think [vR 45] g (qV R)) (k : ∀ gg : pG, R gg → EV d mX8_needed Q 40 [vR 45, vI v1, vI v2] [] gg) : EV d mX8_needed Q 36 [vR 45, vI v1, vI v2] [] g := by
  refine wp_aload_n dX8_needed_36 rfl rfl ?_
  exact wp_callvV (As := []) dX8_needed_37 ml_8_158 (by decide) rfl L_45 (by decide) rfl (Nat.le_of_ble_eq_true rfl) rfl (Nat.le_refl _) (Nat.le_refl _) hc k
theorem b_X8_needed_40 {d : Nat} {Q : Option pV → pG → Prop} {g : pG} {v1 v2 : Int} {R : pG → Prop} (h1 : 0 ≤ v1) (h2 : v1 < 8) (hc : CT d mX8_passAll [vR 45, vI 0] (cset g 51 (fup (g 51) v1.toNat v2)) (qV R)) (k : ∀ gg : pG, R gg → EV d mX8_needed Q 52 [vR 45, vI v1, vI v2] [] gg) : EV d mX8_needed Q 40 [vR 45, vI v1, vI v2] [] g := by
  refine wp_aload_n dX8_needed_40 rfl rfl ?_
  refine wp_get (v := vR 51) dX8_needed_41 fl_8_35 L_45 rfl ?_
  refine wp_iload_n dX8_needed_44 rfl ?_
  refine wp_iload_n dX8_needed_45 rfl ?_
  refine wp_iastore dX8_needed_46 h1 L_51 h2 ?_
  refine wp_aload_n dX8_needed_47 rfl rfl ?_
  refine wp_iconst dX8_needed_48 kc_0 ?_
  exact wp_callvV (As := [vI 0]) dX8_needed_49 ml_8_161 (by decide) rfl L_45 (by decide) rfl (Nat.le_of_ble_eq_true rfl) rfl (Nat.le_refl _) (Nat.le_refl _) hc k
theorem b_X8_needed_52 {d : Nat} {Q : Option pV → pG → Prop} {g : pG} {v1 v2 : Int} {R : Int → pG → Prop} (hc : CT d mX8_isFor [vR 45] g (qI R)) (k : ∀ (x : Int) (gg : pG), R x gg → EV d mX8_needed Q 56 [vR 45, vI v1, vI v2] [vI x] gg) : EV d mX8_needed Q 52 [vR 45, vI v1, vI v2] [] g := by
  refine wp_aload_n dX8_needed_52 rfl rfl ?_
  exact wp_callvI (As := []) dX8_needed_53 ml_8_252 (by decide) rfl L_45 (by decide) rfl (Nat.le_of_ble_eq_true rfl) rfl (Nat.le_refl _) (Nat.le_refl _) hc k
theorem b_X8_needed_56 {d : Nat} {Q : Option pV → pG → Prop} {g : pG} {v1 v2 vs0 : Int} (k1 : (vs0 = 0) → EV d mX8_needed Q 61 [vR 45, vI v1, vI v2] [] g) (k2 : ¬ (vs0 = 0) → EV d mX8_needed Q 59 [vR 45, vI v1, vI v2] [] g) : EV d mX8_needed Q 56 [vR 45, vI v1, vI v2] [vI vs0] g := by
  exact wp_if_eq (tgt := 61) dX8_needed_56 rfl k1 k2
theorem b_X8_needed_59 {d : Nat} {Q : Option pV → pG → Prop} {g : pG} {v1 v2 : Int} (hq : Q (some (vI v2)) g) : EV d mX8_needed Q 59 [vR 45, vI v1, vI v2] [] g := by
  refine wp_iload_n dX8_needed_59 rfl ?_
  exact wp_iret dX8_needed_60 rfl hq
theorem b_X8_needed_61 {d : Nat} {Q : Option pV → pG → Prop} {g : pG} {v1 v2 : Int} (k : EV d mX8_needed Q 30 [vR 45, vI v1, vI (w32 (v2 + 1))] [] g) : EV d mX8_needed Q 61 [vR 45, vI v1, vI v2] [] g := by
  refine wp_iinc dX8_needed_61 rfl (Nat.le_of_ble_eq_true rfl) (pp (c := 1) rfl rfl) ?_
  refine wp_goto (tgt := 30) dX8_needed_64 rfl ?_
  exact k
theorem b_X8_needed_67 {d : Nat} {Q : Option pV → pG → Prop} {g : pG} {v1 v2 : Int} (hq : Q (some (vI (-99))) g) : EV d mX8_needed Q 67 [vR 45, vI v1, vI v2] [] g := by
  refine wp_bipush dX8_needed_67 kb_m99 kc_m99 ?_
  exact wp_iret dX8_needed_69 rfl hq
theorem b_X8_cheapest_0 {d : Nat} {Q : Option pV → pG → Prop} {g : pG} {R : Int → pG → Prop} (hc : CT d mX8_sumBehindAll [vR 45] (cset g 45 (fup (g 45) 8 0)) (qI R)) (k : ∀ (x : Int) (gg : pG), R x gg → EV d mX8_cheapest Q 9 [vR 45, vX 2, vX 2, vX 2] [vI x] gg) : EV d mX8_cheapest Q 0 [vR 45, vX 2, vX 2, vX 2] [] g := by
  refine wp_aload_n dX8_cheapest_0 rfl rfl ?_
  refine wp_iconst dX8_cheapest_1 kc_0 ?_
  refine wp_putI dX8_cheapest_2 fl_8_105 L_45 rfl rfl ?_
  refine wp_aload_n dX8_cheapest_5 rfl rfl ?_
  exact wp_callvI (As := []) dX8_cheapest_6 ml_8_297 (by decide) rfl L_45 (by decide) rfl (Nat.le_of_ble_eq_true rfl) rfl (Nat.le_refl _) (Nat.le_refl _) hc k
theorem b_X8_cheapest_9 {d : Nat} {Q : Option pV → pG → Prop} {g : pG} {vs0 : Int} (k1 : (vs0 ≤ 0) → EV d mX8_cheapest Q 16 [vR 45, vX 2, vX 2, vX 2] [] g) (k2 : ¬ (vs0 ≤ 0) → EV d mX8_cheapest Q 12 [vR 45, vX 2, vX 2, vX 2] [] g) : EV d mX8_cheapest Q 9 [vR 45, vX 2, vX 2, vX 2] [vI vs0] g := by
  exact wp_if_le (tgt := 16) dX8_cheapest_9 rfl k1 k2
theorem b_X8_cheapest_12 {d : Nat} {Q : Option pV → pG → Prop} {g : pG} (k : EV d mX8_cheapest Q 23 [vR 45, vI 1, vI (-9), vI 0] [] g) : EV d mX8_cheapest Q 12 [vR 45, vX 2, vX 2, vX 2] [] g := by
  refine wp_iconst dX8_cheapest_12 kc_1 ?_
  refine wp_goto (tgt := 17) dX8_cheapest_13 rfl ?_
  refine wp_istore_n dX8_cheapest_17 (Nat.le_of_ble_eq_true rfl) (pp (c := 0) rfl rfl) ?_
  refine wp_bipush dX8_cheapest_18 kb_m9 kc_m9 ?_
  refine wp_istore_n dX8_cheapest_20 (Nat.le_of_ble_eq_true rfl) (pp (c := 1) rfl rfl) ?_
  refine wp_iconst dX8_cheapest_21 kc_0 ?_
  refine wp_istore_n dX8_cheapest_22 (Nat.le_of_ble_eq_true rfl) (pp (c := 2) rfl rfl) ?_
  exact k
theorem b_X8_cheapest_16 {d : Nat} {Q : Option pV → pG → Prop} {g : pG} (k : EV d mX8_cheapest Q 23 [vR 45, vI 0, vI (-9), vI 0] [] g) : EV d mX8_cheapest Q 16 [vR 45, vX 2, vX 2, vX 2] [] g := by
  refine wp_iconst dX8_cheapest_16 kc_0 ?_
  refine wp_istore_n dX8_cheapest_17 (Nat.le_of_ble_eq_true rfl) (pp (c := 0) rfl rfl) ?_
  refine wp_bipush dX8_cheapest_18 kb_m9 kc_m9 ?_
  refine wp_istore_n dX8_cheapest_20 (Nat.le_of_ble_eq_true rfl) (pp (c := 1) rfl rfl) ?_
  refine wp_iconst dX8_cheapest_21 kc_0 ?_
  refine wp_istore_n dX8_cheapest_22 (Nat.le_of_ble_eq_true rfl) (pp (c := 2) rfl rfl) ?_
  exact k
theorem b_X8_cheapest_23 {d : Nat} {Q : Option pV → pG → Prop} {g : pG} {v1 v2 v3 : Int} (k1 : ((g 45) 0 ≤ v3) → EV d mX8_cheapest Q 81 [vR 45, vI v1, vI v2, vI v3] [] g) (k2 : ¬ ((g 45) 0 ≤ v3) → EV d mX8_cheapest Q 31 [vR 45, vI v1, vI v2, vI v3] [] g) : EV d mX8_cheapest Q 23 [vR 45, vI v1, vI v2, vI v3] [] g := by
  refine wp_iload_n dX8_cheapest_23 rfl ?_
  refine wp_aload_n dX8_cheapest_24 rfl rfl ?_
  refine wp_get (v := vI ((g 45) 0)) dX8_cheapest_25 fl_8_108 L_45 rfl ?_
  exact wp_icmp_ge (tgt := 81) dX8_cheapest_28 rfl k1 k2
theorem b_X8_cheapest_31 {d : Nat} {Q : Option pV → pG → Prop} {g : pG} {v1 v2 v3 : Int} {R : pG → Prop} (hc : CT d mX8_think [vR 45] g (qV R)) (k : ∀ gg : pG, R gg → EV d mX8_cheapest Q 35 [vR 45, vI v1, vI v2, vI v3] [] gg) : EV d mX8_cheapest Q 31 [vR 45, vI v1, vI v2, vI v3] [] g := by
  refine wp_aload_n dX8_cheapest_31 rfl rfl ?_
  exact wp_callvV (As := []) dX8_cheapest_32 ml_8_158 (by decide) rfl L_45 (by decide) rfl (Nat.le_of_ble_eq_true rfl) rfl (Nat.le_refl _) (Nat.le_refl _) hc k
theorem b_X8_cheapest_35 {d : Nat} {Q : Option pV → pG → Prop} {g : pG} {v1 v2 v3 : Int} {R : pG → Prop} (hc : CT d mX8_passAll [vR 45, vI (zshl 1 v3)] g (qV R)) (k : ∀ gg : pG, R gg → EV d mX8_cheapest Q 42 [vR 45, vI v1, vI v2, vI v3] [] gg) : EV d mX8_cheapest Q 35 [vR 45, vI v1, vI v2, vI v3] [] g := by
  refine wp_aload_n dX8_cheapest_35 rfl rfl ?_
  refine wp_iconst dX8_cheapest_36 kc_1 ?_
  refine wp_iload_n dX8_cheapest_37 rfl ?_
  refine wp_ishl dX8_cheapest_38 ?_
  exact wp_callvV (As := [vI (zshl 1 v3)]) dX8_cheapest_39 ml_8_161 (by decide) rfl L_45 (by decide) rfl (Nat.le_of_ble_eq_true rfl) rfl (Nat.le_refl _) (Nat.le_refl _) hc k
theorem b_X8_cheapest_42 {d : Nat} {Q : Option pV → pG → Prop} {g : pG} {v1 v2 v3 : Int} {R : Int → pG → Prop} (hc : CT d mX8_isFor [vR 45] g (qI R)) (k : ∀ (x : Int) (gg : pG), R x gg → EV d mX8_cheapest Q 46 [vR 45, vI v1, vI v2, vI v3] [vI x] gg) : EV d mX8_cheapest Q 42 [vR 45, vI v1, vI v2, vI v3] [] g := by
  refine wp_aload_n dX8_cheapest_42 rfl rfl ?_
  exact wp_callvI (As := []) dX8_cheapest_43 ml_8_252 (by decide) rfl L_45 (by decide) rfl (Nat.le_of_ble_eq_true rfl) rfl (Nat.le_refl _) (Nat.le_refl _) hc k
theorem b_X8_cheapest_46 {d : Nat} {Q : Option pV → pG → Prop} {g : pG} {v1 v2 v3 vs0 : Int} (k1 : (vs0 ≠ v1) → EV d mX8_cheapest Q 73 [vR 45, vI v1, vI v2, vI v3] [] g) (k2 : ¬ (vs0 ≠ v1) → EV d mX8_cheapest Q 50 [vR 45, vI v1, vI v2, vI v3] [] g) : EV d mX8_cheapest Q 46 [vR 45, vI v1, vI v2, vI v3] [vI vs0] g := by
  refine wp_iload_n dX8_cheapest_46 rfl ?_
  exact wp_icmp_ne (tgt := 73) dX8_cheapest_47 rfl k1 k2
theorem b_X8_cheapest_50 {d : Nat} {Q : Option pV → pG → Prop} {g : pG} {v1 v2 v3 : Int} (k1 : (v2 < 0) → EV d mX8_cheapest Q 69 [vR 45, vI v1, vI v2, vI v3] [] g) (k2 : ¬ (v2 < 0) → EV d mX8_cheapest Q 54 [vR 45, vI v1, vI v2, vI v3] [] g) : EV d mX8_cheapest Q 50 [vR 45, vI v1, vI v2, vI v3] [] g := by
  refine wp_iload_n dX8_cheapest_50 rfl ?_
  exact wp_if_lt (tgt := 69) dX8_cheapest_51 rfl k1 k2
theorem b_X8_cheapest_54 {d : Nat} {Q : Option pV → pG → Prop} {g : pG} {v1 v2 v3 : Int} (h1 : 0 ≤ v3) (h2 : v3 < 7) (h3 : 0 ≤ v2) (h4 : v2 < 7) (k1 : ((g 48) v3.toNat ≤ (g 48) v2.toNat) → EV d mX8_cheapest Q 73 [vR 45, vI v1, vI v2, vI v3] [] g) (k2 : ¬ ((g 48) v3.toNat ≤ (g 48) v2.toNat) → EV d mX8_cheapest Q 69 [vR 45, vI v1, vI v2, vI v3] [] g) : EV d mX8_cheapest Q 54 [vR 45, vI v1, vI v2, vI v3] [] g := by
  refine wp_aload_n dX8_cheapest_54 rfl rfl ?_
  refine wp_get (v := vR 48) dX8_cheapest_55 fl_8_16 L_45 rfl ?_
  refine wp_iload_n dX8_cheapest_58 rfl ?_
  refine wp_iaload dX8_cheapest_59 h1 L_48 h2 ?_
  refine wp_aload_n dX8_cheapest_60 rfl rfl ?_
  refine wp_get (v := vR 48) dX8_cheapest_61 fl_8_16 L_45 rfl ?_
  refine wp_iload_n dX8_cheapest_64 rfl ?_
  refine wp_iaload dX8_cheapest_65 h3 L_48 h4 ?_
  exact wp_icmp_le (tgt := 73) dX8_cheapest_66 rfl k1 k2
theorem b_X8_cheapest_69 {d : Nat} {Q : Option pV → pG → Prop} {g : pG} {v1 v2 v3 : Int} (k : EV d mX8_cheapest Q 23 [vR 45, vI v1, vI v3, vI (w32 (v3 + 1))] [] g) : EV d mX8_cheapest Q 69 [vR 45, vI v1, vI v2, vI v3] [] g := by
  refine wp_iload_n dX8_cheapest_69 rfl ?_
  refine wp_goto (tgt := 74) dX8_cheapest_70 rfl ?_
  refine wp_istore_n dX8_cheapest_74 (Nat.le_of_ble_eq_true rfl) (pp (c := 1) rfl rfl) ?_
  refine wp_iinc dX8_cheapest_75 rfl (Nat.le_of_ble_eq_true rfl) (pp (c := 2) rfl rfl) ?_
  refine wp_goto (tgt := 23) dX8_cheapest_78 rfl ?_
  exact k
theorem b_X8_cheapest_73 {d : Nat} {Q : Option pV → pG → Prop} {g : pG} {v1 v2 v3 : Int} (k : EV d mX8_cheapest Q 23 [vR 45, vI v1, vI v2, vI (w32 (v3 + 1))] [] g) : EV d mX8_cheapest Q 73 [vR 45, vI v1, vI v2, vI v3] [] g := by
  refine wp_iload_n dX8_cheapest_73 rfl ?_
  refine wp_istore_n dX8_cheapest_74 (Nat.le_of_ble_eq_true rfl) (pp (c := 1) rfl rfl) ?_
  refine wp_iinc dX8_cheapest_75 rfl (Nat.le_of_ble_eq_true rfl) (pp (c := 2) rfl rfl) ?_
  refine wp_goto (tgt := 23) dX8_cheapest_78 rfl ?_
  exact k
theorem b_X8_cheapest_81 {d : Nat} {Q : Option pV → pG → Prop} {g : pG} {v1 v2 v3 : Int} (hq : Q (some (vI v2)) g) : EV d mX8_cheapest Q 81 [vR 45, vI v1, vI v2, vI v3] [] g := by
  refine wp_iload_n dX8_cheapest_81 rfl ?_
  exact wp_iret dX8_cheapest_82 rfl hq
theorem b_X8_biggest_0 {d : Nat} {Q : Option pV → pG → Prop} {g : pG} {v1 : Int} {R : Int → pG → Prop} (hc : CT d mX8_in [vL v1, vL 0, vL 1] (cset g 45 (fup (g 45) 8 0)) (qI R)) (k : ∀ (x : Int) (gg : pG), R x gg → EV d mX8_biggest Q 12 [vR 45, vI v1, vX 2, vX 2, vX 2, vX 2, vX 2] [vI x] gg) : EV d mX8_biggest Q 0 [vR 45, vI v1, vX 2, vX 2, vX 2, vX 2, vX 2] [] g := by
  refine wp_aload_n dX8_biggest_0 rfl rfl ?_
  refine wp_iconst dX8_biggest_1 kc_0 ?_
  refine wp_putI dX8_biggest_2 fl_8_105 L_45 rfl rfl ?_
  refine wp_iload_n dX8_biggest_5 rfl ?_
  refine wp_i2l dX8_biggest_6 ?_
  refine wp_lconst (x := 0) dX8_biggest_7 rfl ?_
  refine wp_lconst (x := 1) dX8_biggest_8 rfl ?_
  exact wp_callsI (As := [vL v1, vL 0, vL 1]) dX8_biggest_9 ml_8_111 (Or.inl rfl) rfl (Nat.le_of_ble_eq_true rfl) rfl (Nat.le_refl _) (Nat.le_refl _) hc k
theorem b_X8_biggest_12 {d : Nat} {Q : Option pV → pG → Prop} {g : pG} {v1 vs0 : Int} (k1 : (vs0 ≠ 0) → EV d mX8_biggest Q 25 [vR 45, vI v1, vX 2, vX 2, vX 2, vX 2, vX 2] [] g) (k2 : ¬ (vs0 ≠ 0) → EV d mX8_biggest Q 15 [vR 45, vI v1, vX 2, vX 2, vX 2, vX 2, vX 2] [] g) : EV d mX8_biggest Q 12 [vR 45, vI v1, vX 2, vX 2, vX 2, vX 2, vX 2] [vI vs0] g := by
  exact wp_if_ne (tgt := 25) dX8_biggest_12 rfl k1 k2
theorem b_X8_biggest_15 {d : Nat} {Q : Option pV → pG → Prop} {g : pG} {v1 : Int} {R : Int → pG → Prop} (hc : CT d mX8_refuse [vR 45, vI (-2)] g (qI R)) (k : ∀ (x : Int) (gg : pG), R x gg → EV d mX8_biggest Q 23 [vR 45, vI v1, vX 2, vX 2, vX 2, vX 2, vX 2] [vI x, vI 1000000000] gg) : EV d mX8_biggest Q 15 [vR 45, vI v1, vX 2, vX 2, vX 2, vX 2, vX 2] [] g := by
  refine wp_ldc dX8_biggest_15 kl_8_239 ?_
  refine wp_aload_n dX8_biggest_17 rfl rfl ?_
  refine wp_bipush dX8_biggest_18 kb_m2 kc_m2 ?_
  exact wp_callvI (As := [vI (-2)]) dX8_biggest_20 ml_8_164 (by decide) rfl L_45 (by decide) rfl (Nat.le_of_ble_eq_true rfl) rfl (Nat.le_refl _) (Nat.le_refl _) hc k
theorem b_X8_biggest_23 {d : Nat} {Q : Option pV → pG → Prop} {g : pG} {v1 vs0 vs1 : Int} (hq : Q (some (vI (w32 (vs0 - vs1)))) g) : EV d mX8_biggest Q 23 [vR 45, vI v1, vX 2, vX 2, vX 2, vX 2, vX 2] [vI vs1, vI vs0] g := by
  refine wp_isub dX8_biggest_23 ?_
  exact wp_iret dX8_biggest_24 rfl hq
theorem b_X8_biggest_25 {d : Nat} {Q : Option pV → pG → Prop} {g : pG} {v1 : Int} {R : pG → Prop} (hc : CT d mX8_think [vR 45] g (qV R)) (k : ∀ gg : pG, R gg → EV d mX8_biggest Q 34 [vR 45, vI v1, vI (-9), vI 0, vX 2, vX 2, vX 2] [] gg) : EV d mX8_biggest Q 25 [vR 45, vI v1, vX 2, vX 2, vX 2, vX 2, vX 2] [] g := by
  refine wp_bipush dX8_biggest_25 kb_m9 kc_m9 ?_
  refine wp_istore_n dX8_biggest_27 (Nat.le_of_ble_eq_true rfl) (pp (c := 1) rfl rfl) ?_
  refine wp_iconst dX8_biggest_28 kc_0 ?_
  refine wp_istore_n dX8_biggest_29 (Nat.le_of_ble_eq_true rfl) (pp (c := 2) rfl rfl) ?_
  refine wp_aload_n dX8_biggest_30 rfl rfl ?_
  exact wp_callvV (As := []) dX8_biggest_31 ml_8_158 (by decide) rfl L_45 (by decide) rfl (Nat.le_of_ble_eq_true rfl) rfl (Nat.le_refl _) (Nat.le_refl _) hc k
theorem b_X8_biggest_34 {d : Nat} {Q : Option pV → pG → Prop} {g : pG} {v1 v2 v3 : Int} (k : EV d mX8_biggest Q 37 [vR 45, vI v1, vI v2, vI v3, vI 0, vX 2, vX 2] [] g) : EV d mX8_biggest Q 34 [vR 45, vI v1, vI v2, vI v3, vX 2, vX 2, vX 2] [] g := by
  refine wp_iconst dX8_biggest_34 kc_0 ?_
  refine wp_istore dX8_biggest_35 (Nat.le_of_ble_eq_true rfl) (pp (c := 3) rfl rfl) ?_
  exact k
theorem b_X8_biggest_37 {d : Nat} {Q : Option pV → pG → Prop} {g : pG} {v1 v2 v3 v4 : Int} {u5 u6 : pV} (k1 : ((g 45) 0 ≤ v4) → EV d mX8_biggest Q 111 [vR 45, vI v1, vI v2, vI v3, vI v4, u5, u6] [] g) (k2 : ¬ ((g 45) 0 ≤ v4) → EV d mX8_biggest Q 46 [vR 45, vI v1, vI v2, vI v3, vI v4, u5, u6] [] g) : EV d mX8_biggest Q 37 [vR 45, vI v1, vI v2, vI v3, vI v4, u5, u6] [] g := by
  refine wp_iload dX8_biggest_37 rfl ?_
  refine wp_aload_n dX8_biggest_39 rfl rfl ?_
  refine wp_get (v := vI ((g 45) 0)) dX8_biggest_40 fl_8_108 L_45 rfl ?_
  exact wp_icmp_ge (tgt := 111) dX8_biggest_43 rfl k1 k2
theorem b_X8_biggest_46 {d : Nat} {Q : Option pV → pG → Prop} {g : pG} {v1 v2 v3 v4 : Int} {u5 u6 : pV} {R : Int → pG → Prop} (hc : CT d mX8_sumNow [vR 45] g (qI R)) (k : ∀ (x : Int) (gg : pG), R x gg → EV d mX8_biggest Q 50 [vR 45, vI v1, vI v2, vI v3, vI v4, u5, u6] [vI x] gg) : EV d mX8_biggest Q 46 [vR 45, vI v1, vI v2, vI v3, vI v4, u5, u6] [] g := by
  refine wp_aload_n dX8_biggest_46 rfl rfl ?_
  exact wp_callvI (As := []) dX8_biggest_47 ml_8_118 (by decide) rfl L_45 (by decide) rfl (Nat.le_of_ble_eq_true rfl) rfl (Nat.le_refl _) (Nat.le_refl _) hc k
theorem b_X8_biggest_50 {d : Nat} {Q : Option pV → pG → Prop} {g : pG} {v1 v2 v3 v4 vs0 : Int} {u5 u6 : pV} {R : pG → Prop} (hc : CT d mX8_pass [vR 45, vI v4] g (qV R)) (k : ∀ gg : pG, R gg → EV d mX8_biggest Q 58 [vR 45, vI v1, vI v2, vI v3, vI v4, vI vs0, u6] [] gg) : EV d mX8_biggest Q 50 [vR 45, vI v1, vI v2, vI v3, vI v4, u5, u6] [vI vs0] g := by
  refine wp_istore dX8_biggest_50 (Nat.le_of_ble_eq_true rfl) (pp (c := 4) rfl rfl) ?_
  refine wp_aload_n dX8_biggest_52 rfl rfl ?_
  refine wp_iload dX8_biggest_53 rfl ?_
  exact wp_callvV (As := [vI v4]) dX8_biggest_55 ml_8_154 (by decide) rfl L_45 (by decide) rfl (Nat.le_of_ble_eq_true rfl) rfl (Nat.le_refl _) (Nat.le_refl _) hc k
theorem b_X8_biggest_58 {d : Nat} {Q : Option pV → pG → Prop} {g : pG} {v1 v2 v3 v4 v5 : Int} {u6 : pV} {R : Int → pG → Prop} (hc : CT d mX8_sumNow [vR 45] g (qI R)) (k : ∀ (x : Int) (gg : pG), R x gg → EV d mX8_biggest Q 62 [vR 45, vI v1, vI v2, vI v3, vI v4, vI v5, u6] [vI x] gg) : EV d mX8_biggest Q 58 [vR 45, vI v1, vI v2, vI v3, vI v4, vI v5, u6] [] g := by
  refine wp_aload_n dX8_biggest_58 rfl rfl ?_
  exact wp_callvI (As := []) dX8_biggest_59 ml_8_118 (by decide) rfl L_45 (by decide) rfl (Nat.le_of_ble_eq_true rfl) rfl (Nat.le_refl _) (Nat.le_refl _) hc k
theorem b_X8_biggest_62 {d : Nat} {Q : Option pV → pG → Prop} {g : pG} {v1 v2 v3 v4 v5 vs0 : Int} {u6 : pV} {R : Int → pG → Prop} (hc : CT d mX8_plainly [vI (w32 (vs0 - v5))] g (qI R)) (k : ∀ (x : Int) (gg : pG), R x gg → EV d mX8_biggest Q 72 [vR 45, vI v1, vI v2, vI v3, vI v4, vI v5, vI (w32 (vs0 - v5))] [vI x] gg) : EV d mX8_biggest Q 62 [vR 45, vI v1, vI v2, vI v3, vI v4, vI v5, u6] [vI vs0] g := by
  refine wp_iload dX8_biggest_62 rfl ?_
  refine wp_isub dX8_biggest_64 ?_
  refine wp_istore dX8_biggest_65 (Nat.le_of_ble_eq_true rfl) (pp (c := 5) rfl rfl) ?_
  refine wp_iload dX8_biggest_67 rfl ?_
  exact wp_callsI (As := [vI (w32 (vs0 - v5))]) dX8_biggest_69 ml_8_122 (Or.inl rfl) rfl (Nat.le_of_ble_eq_true rfl) rfl (Nat.le_refl _) (Nat.le_refl _) hc k
theorem b_X8_biggest_72 {d : Nat} {Q : Option pV → pG → Prop} {g : pG} {v1 v2 v3 v4 v5 v6 vs0 : Int} {R : Int → pG → Prop} (hc : CT d mX8_plainly [vI v3] g (qI R)) (k : ∀ (x : Int) (gg : pG), R x gg → EV d mX8_biggest Q 76 [vR 45, vI v1, vI v2, vI v3, vI v4, vI v5, vI v6] [vI x, vI vs0] gg) : EV d mX8_biggest Q 72 [vR 45, vI v1, vI v2, vI v3, vI v4, vI v5, vI v6] [vI vs0] g := by
  refine wp_iload_n dX8_biggest_72 rfl ?_
  exact wp_callsI (As := [vI v3]) dX8_biggest_73 ml_8_122 (Or.inl rfl) rfl (Nat.le_of_ble_eq_true rfl) rfl (Nat.le_refl _) (Nat.le_refl _) hc k
theorem b_X8_biggest_76 {d : Nat} {Q : Option pV → pG → Prop} {g : pG} {v1 v2 v3 v4 v5 v6 vs0 vs1 : Int} (k1 : (vs0 ≤ vs1) → EV d mX8_biggest Q 84 [vR 45, vI v1, vI v2, vI v3, vI v4, vI v5, vI v6] [] g) (k2 : ¬ (vs0 ≤ vs1) → EV d mX8_biggest Q 79 [vR 45, vI v1, vI v2, vI v3, vI v4, vI v5, vI v6] [] g) : EV d mX8_biggest Q 76 [vR 45, vI v1, vI v2, vI v3, vI v4, vI v5, vI v6] [vI vs1, vI vs0] g := by
  exact wp_icmp_le (tgt := 84) dX8_biggest_76 rfl k1 k2
theorem b_X8_biggest_79 {d : Nat} {Q : Option pV → pG → Prop} {g : pG} {v1 v2 v3 v4 v5 v6 : Int} {R : Int → pG → Prop} (hc : CT d mX8_plainly [vI v6] g (qI R)) (k : ∀ (x : Int) (gg : pG), R x gg → EV d mX8_biggest Q 91 [vR 45, vI v1, vI v4, vI v3, vI v4, vI v5, vI v6] [vI x] gg) : EV d mX8_biggest Q 79 [vR 45, vI v1, vI v2, vI v3, vI v4, vI v5, vI v6] [] g := by
  refine wp_iload dX8_biggest_79 rfl ?_
  refine wp_goto (tgt := 85) dX8_biggest_81 rfl ?_
  refine wp_istore_n dX8_biggest_85 (Nat.le_of_ble_eq_true rfl) (pp (c := 1) rfl rfl) ?_
  refine wp_iload dX8_biggest_86 rfl ?_
  exact wp_callsI (As := [vI v6]) dX8_biggest_88 ml_8_122 (Or.inl rfl) rfl (Nat.le_of_ble_eq_true rfl) rfl (Nat.le_refl _) (Nat.le_refl _) hc k
theorem b_X8_biggest_84 {d : Nat} {Q : Option pV → pG → Prop} {g : pG} {v1 v2 v3 v4 v5 v6 : Int} {R : Int → pG → Prop} (hc : CT d mX8_plainly [vI v6] g (qI R)) (k : ∀ (x : Int) (gg : pG), R x gg → EV d mX8_biggest Q 91 [vR 45, vI v1, vI v2, vI v3, vI v4, vI v5, vI v6] [vI x] gg) : EV d mX8_biggest Q 84 [vR 45, vI v1, vI v2, vI v3, vI v4, vI v5, vI v6] [] g := by
  refine wp_iload_n dX8_biggest_84 rfl ?_
  refine wp_istore_n dX8_biggest_85 (Nat.le_of_ble_eq_true rfl) (pp (c := 1) rfl rfl) ?_
  refine wp_iload dX8_biggest_86 rfl ?_
  exact wp_callsI (As := [vI v6]) dX8_biggest_88 ml_8_122 (Or.inl rfl) rfl (Nat.le_of_ble_eq_true rfl) rfl (Nat.le_refl _) (Nat.le_refl _) hc k
theorem b_X8_biggest_91 {d : Nat} {Q : Option pV → pG → Prop} {g : pG} {v1 v2 v3 v4 v5 v6 vs0 : Int} {R : Int → pG → Prop} (hc : CT d mX8_plainly [vI v3] g (qI R)) (k : ∀ (x : Int) (gg : pG), R x gg → EV d mX8_biggest Q 95 [vR 45, vI v1, vI v2, vI v3, vI v4, vI v5, vI v6] [vI x, vI vs0] gg) : EV d mX8_biggest Q 91 [vR 45, vI v1, vI v2, vI v3, vI v4, vI v5, vI v6] [vI vs0] g := by
  refine wp_iload_n dX8_biggest_91 rfl ?_
  exact wp_callsI (As := [vI v3]) dX8_biggest_92 ml_8_122 (Or.inl rfl) rfl (Nat.le_of_ble_eq_true rfl) rfl (Nat.le_refl _) (Nat.le_refl _) hc k
theorem b_X8_biggest_95 {d : Nat} {Q : Option pV → pG → Prop} {g : pG} {v1 v2 v3 v4 v5 v6 vs0 vs1 : Int} (k1 : (vs0 ≤ vs1) → EV d mX8_biggest Q 103 [vR 45, vI v1, vI v2, vI v3, vI v4, vI v5, vI v6] [] g) (k2 : ¬ (vs0 ≤ vs1) → EV d mX8_biggest Q 98 [vR 45, vI v1, vI v2, vI v3, vI v4, vI v5, vI v6] [] g) : EV d mX8_biggest Q 95 [vR 45, vI v1, vI v2, vI v3, vI v4, vI v5, vI v6] [vI vs1, vI vs0] g := by
  exact wp_icmp_le (tgt := 103) dX8_biggest_95 rfl k1 k2
theorem b_X8_biggest_98 {d : Nat} {Q : Option pV → pG → Prop} {g : pG} {v1 v2 v3 v4 v5 v6 : Int} (k : EV d mX8_biggest Q 37 [vR 45, vI v1, vI v2, vI v6, vI (w32 (v4 + 1)), vI v5, vI v6] [] g) : EV d mX8_biggest Q 98 [vR 45, vI v1, vI v2, vI v3, vI v4, vI v5, vI v6] [] g := by
  refine wp_iload dX8_biggest_98 rfl ?_
  refine wp_goto (tgt := 104) dX8_biggest_100 rfl ?_
  refine wp_istore_n dX8_biggest_104 (Nat.le_of_ble_eq_true rfl) (pp (c := 2) rfl rfl) ?_
  refine wp_iinc dX8_biggest_105 rfl (Nat.le_of_ble_eq_true rfl) (pp (c := 3) rfl rfl) ?_
  refine wp_goto (tgt := 37) dX8_biggest_108 rfl ?_
  exact k
theorem b_X8_biggest_103 {d : Nat} {Q : Option pV → pG → Prop} {g : pG} {v1 v2 v3 v4 v5 v6 : Int} (k : EV d mX8_biggest Q 37 [vR 45, vI v1, vI v2, vI v3, vI (w32 (v4 + 1)), vI v5, vI v6] [] g) : EV d mX8_biggest Q 103 [vR 45, vI v1, vI v2, vI v3, vI v4, vI v5, vI v6] [] g := by
  refine wp_iload_n dX8_biggest_103 rfl ?_
  refine wp_istore_n dX8_biggest_104 (Nat.le_of_ble_eq_true rfl) (pp (c := 2) rfl rfl) ?_
  refine wp_iinc dX8_biggest_105 rfl (Nat.le_of_ble_eq_true rfl) (pp (c := 3) rfl rfl) ?_
  refine wp_goto (tgt := 37) dX8_biggest_108 rfl ?_
  exact k
theorem b_X8_biggest_111 {d : Nat} {Q : Option pV → pG → Prop} {g : pG} {v1 v2 v3 v4 : Int} {u5 u6 : pV} (k1 : (v1 ≠ 0) → EV d mX8_biggest Q 119 [vR 45, vI v1, vI v2, vI v3, vI v4, u5, u6] [] g) (k2 : ¬ (v1 ≠ 0) → EV d mX8_biggest Q 115 [vR 45, vI v1, vI v2, vI v3, vI v4, u5, u6] [] g) : EV d mX8_biggest Q 111 [vR 45, vI v1, vI v2, vI v3, vI v4, u5, u6] [] g := by
  refine wp_iload_n dX8_biggest_111 rfl ?_
  exact wp_if_ne (tgt := 119) dX8_biggest_112 rfl k1 k2
theorem b_X8_biggest_115 {d : Nat} {Q : Option pV → pG → Prop} {g : pG} {v1 v2 v3 v4 : Int} {u5 u6 : pV} (hq : Q (some (vI v2)) g) : EV d mX8_biggest Q 115 [vR 45, vI v1, vI v2, vI v3, vI v4, u5, u6] [] g := by
  refine wp_iload_n dX8_biggest_115 rfl ?_
  refine wp_goto (tgt := 120) dX8_biggest_116 rfl ?_
  exact wp_iret dX8_biggest_120 rfl hq
theorem b_X8_biggest_119 {d : Nat} {Q : Option pV → pG → Prop} {g : pG} {v1 v2 v3 v4 : Int} {u5 u6 : pV} (hq : Q (some (vI v3)) g) : EV d mX8_biggest Q 119 [vR 45, vI v1, vI v2, vI v3, vI v4, u5, u6] [] g := by
  refine wp_iload_n dX8_biggest_119 rfl ?_
  exact wp_iret dX8_biggest_120 rfl hq
theorem b_X8_swing_0 {d : Nat} {Q : Option pV → pG → Prop} {g : pG} {R : Int → pG → Prop} (hc : CT d mX8_sumBehindAll [vR 45] (cset g 45 (fup (g 45) 8 0)) (qI R)) (k : ∀ (x : Int) (gg : pG), R x gg → EV d mX8_swing Q 9 [vR 45, vX 2, vX 2, vX 2] [vI x] gg) : EV d mX8_swing Q 0 [vR 45, vX 2, vX 2, vX 2] [] g := by
  refine wp_aload_n dX8_swing_0 rfl rfl ?_
  refine wp_iconst dX8_swing_1 kc_0 ?_
  refine wp_putI dX8_swing_2 fl_8_105 L_45 rfl rfl ?_
  refine wp_aload_n dX8_swing_5 rfl rfl ?_
  exact wp_callvI (As := []) dX8_swing_6 ml_8_297 (by decide) rfl L_45 (by decide) rfl (Nat.le_of_ble_eq_true rfl) rfl (Nat.le_refl _) (Nat.le_refl _) hc k
theorem b_X8_swing_9 {d : Nat} {Q : Option pV → pG → Prop} {g : pG} {vs0 : Int} (k1 : (vs0 ≤ 0) → EV d mX8_swing Q 16 [vR 45, vX 2, vX 2, vX 2] [] g) (k2 : ¬ (vs0 ≤ 0) → EV d mX8_swing Q 12 [vR 45, vX 2, vX 2, vX 2] [] g) : EV d mX8_swing Q 9 [vR 45, vX 2, vX 2, vX 2] [vI vs0] g := by
  exact wp_if_le (tgt := 16) dX8_swing_9 rfl k1 k2
theorem b_X8_swing_12 {d : Nat} {Q : Option pV → pG → Prop} {g : pG} (k : EV d mX8_swing Q 22 [vR 45, vI 1, vI 0, vI 0] [] g) : EV d mX8_swing Q 12 [vR 45, vX 2, vX 2, vX 2] [] g := by
  refine wp_iconst dX8_swing_12 kc_1 ?_
  refine wp_goto (tgt := 17) dX8_swing_13 rfl ?_
  refine wp_istore_n dX8_swing_17 (Nat.le_of_ble_eq_true rfl) (pp (c := 0) rfl rfl) ?_
  refine wp_iconst dX8_swing_18 kc_0 ?_
  refine wp_istore_n dX8_swing_19 (Nat.le_of_ble_eq_true rfl) (pp (c := 1) rfl rfl) ?_
  refine wp_iconst dX8_swing_20 kc_0 ?_
  refine wp_istore_n dX8_swing_21 (Nat.le_of_ble_eq_true rfl) (pp (c := 2) rfl rfl) ?_
  exact k
theorem b_X8_swing_16 {d : Nat} {Q : Option pV → pG → Prop} {g : pG} (k : EV d mX8_swing Q 22 [vR 45, vI 0, vI 0, vI 0] [] g) : EV d mX8_swing Q 16 [vR 45, vX 2, vX 2, vX 2] [] g := by
  refine wp_iconst dX8_swing_16 kc_0 ?_
  refine wp_istore_n dX8_swing_17 (Nat.le_of_ble_eq_true rfl) (pp (c := 0) rfl rfl) ?_
  refine wp_iconst dX8_swing_18 kc_0 ?_
  refine wp_istore_n dX8_swing_19 (Nat.le_of_ble_eq_true rfl) (pp (c := 1) rfl rfl) ?_
  refine wp_iconst dX8_swing_20 kc_0 ?_
  refine wp_istore_n dX8_swing_21 (Nat.le_of_ble_eq_true rfl) (pp (c := 2) rfl rfl) ?_
  exact k
theorem b_X8_swing_22 {d : Nat} {Q : Option pV → pG → Prop} {g : pG} {v1 v2 v3 : Int} (k1 : ((g 45) 4 ≤ v3) → EV d mX8_swing Q 76 [vR 45, vI v1, vI v2, vI v3] [] g) (k2 : ¬ ((g 45) 4 ≤ v3) → EV d mX8_swing Q 30 [vR 45, vI v1, vI v2, vI v3] [] g) : EV d mX8_swing Q 22 [vR 45, vI v1, vI v2, vI v3] [] g := by
  refine wp_iload_n dX8_swing_22 rfl ?_
  refine wp_aload_n dX8_swing_23 rfl rfl ?_
  refine wp_get (v := vI ((g 45) 4)) dX8_swing_24 fl_8_19 L_45 rfl ?_
  exact wp_icmp_ge (tgt := 76) dX8_swing_27 rfl k1 k2
theorem b_X8_swing_30 {d : Nat} {Q : Option pV → pG → Prop} {g : pG} {v1 v2 v3 : Int} {R : pG → Prop} (hc : CT d mX8_think [vR 45] g (qV R)) (k : ∀ gg : pG, R gg → EV d mX8_swing Q 34 [vR 45, vI v1, vI v2, vI v3] [] gg) : EV d mX8_swing Q 30 [vR 45, vI v1, vI v2, vI v3] [] g := by
  refine wp_aload_n dX8_swing_30 rfl rfl ?_
  exact wp_callvV (As := []) dX8_swing_31 ml_8_158 (by decide) rfl L_45 (by decide) rfl (Nat.le_of_ble_eq_true rfl) rfl (Nat.le_refl _) (Nat.le_refl _) hc k
theorem b_X8_swing_34 {d : Nat} {Q : Option pV → pG → Prop} {g : pG} {v1 v2 v3 : Int} {R : pG → Prop} (h1 : 0 ≤ v3) (h2 : v3 < 8) (hc : CT d mX8_passAll [vR 45, vI 0] (cset g 51 (fup (g 51) v3.toNat (w32 (-((g 51) v3.toNat))))) (qV R)) (k : ∀ gg : pG, R gg → EV d mX8_swing Q 52 [vR 45, vI v1, vI v2, vI v3] [] gg) : EV d mX8_swing Q 34 [vR 45, vI v1, vI v2, vI v3] [] g := by
  refine wp_aload_n dX8_swing_34 rfl rfl ?_
  refine wp_get (v := vR 51) dX8_swing_35 fl_8_35 L_45 rfl ?_
  refine wp_iload_n dX8_swing_38 rfl ?_
  refine wp_aload_n dX8_swing_39 rfl rfl ?_
  refine wp_get (v := vR 51) dX8_swing_40 fl_8_35 L_45 rfl ?_
  refine wp_iload_n dX8_swing_43 rfl ?_
  refine wp_iaload dX8_swing_44 h1 L_51 h2 ?_
  refine wp_ineg dX8_swing_45 ?_
  refine wp_iastore dX8_swing_46 h1 L_51 h2 ?_
  refine wp_aload_n dX8_swing_47 rfl rfl ?_
  refine wp_iconst dX8_swing_48 kc_0 ?_
  exact wp_callvV (As := [vI 0]) dX8_swing_49 ml_8_161 (by decide) rfl L_45 (by decide) rfl (Nat.le_of_ble_eq_true rfl) rfl (Nat.le_refl _) (Nat.le_refl _) hc k
theorem b_X8_swing_52 {d : Nat} {Q : Option pV → pG → Prop} {g : pG} {v1 v2 v3 : Int} {R : Int → pG → Prop} (hc : CT d mX8_isFor [vR 45] g (qI R)) (k : ∀ (x : Int) (gg : pG), R x gg → EV d mX8_swing Q 57 [vR 45, vI v1, vI v2, vI v3] [vI x, vI v2] gg) : EV d mX8_swing Q 52 [vR 45, vI v1, vI v2, vI v3] [] g := by
  refine wp_iload_n dX8_swing_52 rfl ?_
  refine wp_aload_n dX8_swing_53 rfl rfl ?_
  exact wp_callvI (As := []) dX8_swing_54 ml_8_252 (by decide) rfl L_45 (by decide) rfl (Nat.le_of_ble_eq_true rfl) rfl (Nat.le_refl _) (Nat.le_refl _) hc k
theorem b_X8_swing_57 {d : Nat} {Q : Option pV → pG → Prop} {g : pG} {v1 v2 v3 vs0 vs1 : Int} (k1 : (vs1 ≠ v1) → EV d mX8_swing Q 65 [vR 45, vI v1, vI v2, vI v3] [vI vs0] g) (k2 : ¬ (vs1 ≠ v1) → EV d mX8_swing Q 61 [vR 45, vI v1, vI v2, vI v3] [vI vs0] g) : EV d mX8_swing Q 57 [vR 45, vI v1, vI v2, vI v3] [vI vs1, vI vs0] g := by
  refine wp_iload_n dX8_swing_57 rfl ?_
  exact wp_icmp_ne (tgt := 65) dX8_swing_58 rfl k1 k2
theorem b_X8_swing_61 {d : Nat} {Q : Option pV → pG → Prop} {g : pG} {v1 v2 v3 vs0 : Int} (k : EV d mX8_swing Q 22 [vR 45, vI v1, vI (zor vs0 0), vI (w32 (v3 + 1))] [] g) : EV d mX8_swing Q 61 [vR 45, vI v1, vI v2, vI v3] [vI vs0] g := by
  refine wp_iconst dX8_swing_61 kc_0 ?_
  refine wp_goto (tgt := 68) dX8_swing_62 rfl ?_
  refine wp_ior dX8_swing_68 ?_
  refine wp_istore_n dX8_swing_69 (Nat.le_of_ble_eq_true rfl) (pp (c := 1) rfl rfl) ?_
  refine wp_iinc dX8_swing_70 rfl (Nat.le_of_ble_eq_true rfl) (pp (c := 2) rfl rfl) ?_
  refine wp_goto (tgt := 22) dX8_swing_73 rfl ?_
  exact k
theorem b_X8_swing_65 {d : Nat} {Q : Option pV → pG → Prop} {g : pG} {v1 v2 v3 vs0 : Int} (k : EV d mX8_swing Q 22 [vR 45, vI v1, vI (zor vs0 (zshl 1 v3)), vI (w32 (v3 + 1))] [] g) : EV d mX8_swing Q 65 [vR 45, vI v1, vI v2, vI v3] [vI vs0] g := by
  refine wp_iconst dX8_swing_65 kc_1 ?_
  refine wp_iload_n dX8_swing_66 rfl ?_
  refine wp_ishl dX8_swing_67 ?_
  refine wp_ior dX8_swing_68 ?_
  refine wp_istore_n dX8_swing_69 (Nat.le_of_ble_eq_true rfl) (pp (c := 1) rfl rfl) ?_
  refine wp_iinc dX8_swing_70 rfl (Nat.le_of_ble_eq_true rfl) (pp (c := 2) rfl rfl) ?_
  refine wp_goto (tgt := 22) dX8_swing_73 rfl ?_
  exact k
theorem b_X8_swing_76 {d : Nat} {Q : Option pV → pG → Prop} {g : pG} {v1 v2 v3 : Int} (hq : Q (some (vI v2)) g) : EV d mX8_swing Q 76 [vR 45, vI v1, vI v2, vI v3] [] g := by
  refine wp_iload_n dX8_swing_76 rfl ?_
  exact wp_iret dX8_swing_77 rfl hq
theorem b_X8_worst_0 {d : Nat} {Q : Option pV → pG → Prop} {g : pG} {v1 v2 : Int} {R : Int → pG → Prop} (hc : CT d mX8_isCourt [vR 45, vI v1] (cset g 45 (fup (g 45) 8 0)) (qI R)) (k : ∀ (x : Int) (gg : pG), R x gg → EV d mX8_worst Q 10 [vR 45, vI v1, vI v2, vX 2, vX 2, vX 2, vX 2, vX 2] [vI x] gg) : EV d mX8_worst Q 0 [vR 45, vI v1, vI v2, vX 2, vX 2, vX 2, vX 2, vX 2] [] g := by
  refine wp_aload_n dX8_worst_0 rfl rfl ?_
  refine wp_iconst dX8_worst_1 kc_0 ?_
  refine wp_putI dX8_worst_2 fl_8_105 L_45 rfl rfl ?_
  refine wp_aload_n dX8_worst_5 rfl rfl ?_
  refine wp_iload_n dX8_worst_6 rfl ?_
  exact wp_callvI (As := [vI v1]) dX8_worst_7 ml_8_230 (by decide) rfl L_45 (by decide) rfl (Nat.le_of_ble_eq_true rfl) rfl (Nat.le_refl _) (Nat.le_refl _) hc k
theorem b_X8_worst_10 {d : Nat} {Q : Option pV → pG → Prop} {g : pG} {v1 v2 vs0 : Int} (k1 : (vs0 = 0) → EV d mX8_worst Q 23 [vR 45, vI v1, vI v2, vX 2, vX 2, vX 2, vX 2, vX 2] [] g) (k2 : ¬ (vs0 = 0) → EV d mX8_worst Q 13 [vR 45, vI v1, vI v2, vX 2, vX 2, vX 2, vX 2, vX 2] [] g) : EV d mX8_worst Q 10 [vR 45, vI v1, vI v2, vX 2, vX 2, vX 2, vX 2, vX 2] [vI vs0] g := by
  exact wp_if_eq (tgt := 23) dX8_worst_10 rfl k1 k2
theorem b_X8_worst_13 {d : Nat} {Q : Option pV → pG → Prop} {g : pG} {v1 v2 : Int} {R : Int → pG → Prop} (hc : CT d mX8_in [vL v2, vL 0, vL 1] g (qI R)) (k : ∀ (x : Int) (gg : pG), R x gg → EV d mX8_worst Q 20 [vR 45, vI v1, vI v2, vX 2, vX 2, vX 2, vX 2, vX 2] [vI x] gg) : EV d mX8_worst Q 13 [vR 45, vI v1, vI v2, vX 2, vX 2, vX 2, vX 2, vX 2] [] g := by
  refine wp_iload_n dX8_worst_13 rfl ?_
  refine wp_i2l dX8_worst_14 ?_
  refine wp_lconst (x := 0) dX8_worst_15 rfl ?_
  refine wp_lconst (x := 1) dX8_worst_16 rfl ?_
  exact wp_callsI (As := [vL v2, vL 0, vL 1]) dX8_worst_17 ml_8_111 (Or.inl rfl) rfl (Nat.le_of_ble_eq_true rfl) rfl (Nat.le_refl _) (Nat.le_refl _) hc k
theorem b_X8_worst_20 {d : Nat} {Q : Option pV → pG → Prop} {g : pG} {v1 v2 vs0 : Int} (k1 : (vs0 ≠ 0) → EV d mX8_worst Q 42 [vR 45, vI v1, vI v2, vX 2, vX 2, vX 2, vX 2, vX 2] [] g) (k2 : ¬ (vs0 ≠ 0) → EV d mX8_worst Q 23 [vR 45, vI v1, vI v2, vX 2, vX 2, vX 2, vX 2, vX 2] [] g) : EV d mX8_worst Q 20 [vR 45, vI v1, vI v2, vX 2, vX 2, vX 2, vX 2, vX 2] [vI vs0] g := by
  exact wp_if_ne (tgt := 42) dX8_worst_20 rfl k1 k2
theorem b_X8_worst_23 {d : Nat} {Q : Option pV → pG → Prop} {g : pG} {v1 v2 : Int} {R : Int → pG → Prop} (hc : CT d mX8_isCourt [vR 45, vI v1] g (qI R)) (k : ∀ (x : Int) (gg : pG), R x gg → EV d mX8_worst Q 29 [vR 45, vI v1, vI v2, vX 2, vX 2, vX 2, vX 2, vX 2] [vI x, vR 45] gg) : EV d mX8_worst Q 23 [vR 45, vI v1, vI v2, vX 2, vX 2, vX 2, vX 2, vX 2] [] g := by
  refine wp_aload_n dX8_worst_23 rfl rfl ?_
  refine wp_aload_n dX8_worst_24 rfl rfl ?_
  refine wp_iload_n dX8_worst_25 rfl ?_
  exact wp_callvI (As := [vI v1]) dX8_worst_26 ml_8_230 (by decide) rfl L_45 (by decide) rfl (Nat.le_of_ble_eq_true rfl) rfl (Nat.le_refl _) (Nat.le_refl _) hc k
theorem b_X8_worst_29 {d : Nat} {Q : Option pV → pG → Prop} {g : pG} {v1 v2 vs1 : Int} (k1 : (vs1 = 0) → EV d mX8_worst Q 37 [vR 45, vI v1, vI v2, vX 2, vX 2, vX 2, vX 2, vX 2] [vR 45] g) (k2 : ¬ (vs1 = 0) → EV d mX8_worst Q 32 [vR 45, vI v1, vI v2, vX 2, vX 2, vX 2, vX 2, vX 2] [vR 45] g) : EV d mX8_worst Q 29 [vR 45, vI v1, vI v2, vX 2, vX 2, vX 2, vX 2, vX 2] [vI vs1, vR 45] g := by
  exact wp_if_eq (tgt := 37) dX8_worst_29 rfl k1 k2
theorem b_X8_worst_32 {d : Nat} {Q : Option pV → pG → Prop} {g : pG} {v1 v2 : Int} {R : Int → pG → Prop} (hc : CT d mX8_refuse [vR 45, vI (-2)] g (qI R)) (k : ∀ (x : Int) (gg : pG), R x gg → EV d mX8_worst Q 41 [vR 45, vI v1, vI v2, vX 2, vX 2, vX 2, vX 2, vX 2] [vI x] gg) : EV d mX8_worst Q 32 [vR 45, vI v1, vI v2, vX 2, vX 2, vX 2, vX 2, vX 2] [vR 45] g := by
  refine wp_bipush dX8_worst_32 kb_m2 kc_m2 ?_
  refine wp_goto (tgt := 38) dX8_worst_34 rfl ?_
  exact wp_callvI (As := [vI (-2)]) dX8_worst_38 ml_8_164 (by decide) rfl L_45 (by decide) rfl (Nat.le_of_ble_eq_true rfl) rfl (Nat.le_refl _) (Nat.le_refl _) hc k
theorem b_X8_worst_37 {d : Nat} {Q : Option pV → pG → Prop} {g : pG} {v1 v2 : Int} {R : Int → pG → Prop} (hc : CT d mX8_refuse [vR 45, vI (-1)] g (qI R)) (k : ∀ (x : Int) (gg : pG), R x gg → EV d mX8_worst Q 41 [vR 45, vI v1, vI v2, vX 2, vX 2, vX 2, vX 2, vX 2] [vI x] gg) : EV d mX8_worst Q 37 [vR 45, vI v1, vI v2, vX 2, vX 2, vX 2, vX 2, vX 2] [vR 45] g := by
  refine wp_iconst dX8_worst_37 kc_m1 ?_
  exact wp_callvI (As := [vI (-1)]) dX8_worst_38 ml_8_164 (by decide) rfl L_45 (by decide) rfl (Nat.le_of_ble_eq_true rfl) rfl (Nat.le_refl _) (Nat.le_refl _) hc k
theorem b_X8_worst_41 {d : Nat} {Q : Option pV → pG → Prop} {g : pG} {v1 v2 vs0 : Int} (hq : Q (some (vI vs0)) g) : EV d mX8_worst Q 41 [vR 45, vI v1, vI v2, vX 2, vX 2, vX 2, vX 2, vX 2] [vI vs0] g := by
  exact wp_iret dX8_worst_41 rfl hq
theorem b_X8_worst_42 {d : Nat} {Q : Option pV → pG → Prop} {g : pG} {v1 v2 : Int} (h1 : 0 ≤ v1) (h2 : v1 < 7) (k : EV d mX8_worst Q 60 [vR 45, vI v1, vI v2, vI ((g 46) v1.toNat), vI 0, vI 999, vI 0, vX 2] [] g) : EV d mX8_worst Q 42 [vR 45, vI v1, vI v2, vX 2, vX 2, vX 2, vX 2, vX 2] [] g := by
  refine wp_aload_n dX8_worst_42 rfl rfl ?_
  refine wp_get (v := vR 46) dX8_worst_43 fl_8_7 L_45 rfl ?_
  refine wp_iload_n dX8_worst_46 rfl ?_
  refine wp_iaload dX8_worst_47 h1 L_46 h2 ?_
  refine wp_istore_n dX8_worst_48 (Nat.le_of_ble_eq_true rfl) (pp (c := 2) rfl rfl) ?_
  refine wp_iconst dX8_worst_49 kc_0 ?_
  refine wp_istore dX8_worst_50 (Nat.le_of_ble_eq_true rfl) (pp (c := 3) rfl rfl) ?_
  refine wp_sipush dX8_worst_52 ks_999 kc_999 ?_
  refine wp_istore dX8_worst_55 (Nat.le_of_ble_eq_true rfl) (pp (c := 4) rfl rfl) ?_
  refine wp_iconst dX8_worst_57 kc_0 ?_
  refine wp_istore dX8_worst_58 (Nat.le_of_ble_eq_true rfl) (pp (c := 5) rfl rfl) ?_
  exact k
theorem b_X8_worst_60 {d : Nat} {Q : Option pV → pG → Prop} {g : pG} {v1 v2 v3 v4 v5 v6 : Int} {u7 : pV} (k1 : (6 ≤ v6) → EV d mX8_worst Q 119 [vR 45, vI v1, vI v2, vI v3, vI v4, vI v5, vI v6, u7] [] g) (k2 : ¬ (6 ≤ v6) → EV d mX8_worst Q 67 [vR 45, vI v1, vI v2, vI v3, vI v4, vI v5, vI v6, u7] [] g) : EV d mX8_worst Q 60 [vR 45, vI v1, vI v2, vI v3, vI v4, vI v5, vI v6, u7] [] g := by
  refine wp_iload dX8_worst_60 rfl ?_
  refine wp_bipush dX8_worst_62 kb_6 kc_6 ?_
  exact wp_icmp_ge (tgt := 119) dX8_worst_64 rfl k1 k2
theorem b_X8_worst_67 {d : Nat} {Q : Option pV → pG → Prop} {g : pG} {v1 v2 v3 v4 v5 v6 : Int} {u7 : pV} {R : Int → pG → Prop} (h1 : 0 ≤ v1) (h2 : v1 < 7) (hc : CT d mX8_sumBehindAll [vR 45] (cset g 46 (fup (g 46) v1.toNat v6)) (qI R)) (k : ∀ (x : Int) (gg : pG), R x gg → EV d mX8_worst Q 79 [vR 45, vI v1, vI v2, vI v3, vI v4, vI v5, vI v6, u7] [vI x] gg) : EV d mX8_worst Q 67 [vR 45, vI v1, vI v2, vI v3, vI v4, vI v5, vI v6, u7] [] g := by
  refine wp_aload_n dX8_worst_67 rfl rfl ?_
  refine wp_get (v := vR 46) dX8_worst_68 fl_8_7 L_45 rfl ?_
  refine wp_iload_n dX8_worst_71 rfl ?_
  refine wp_iload dX8_worst_72 rfl ?_
  refine wp_iastore dX8_worst_74 h1 L_46 h2 ?_
  refine wp_aload_n dX8_worst_75 rfl rfl ?_
  exact wp_callvI (As := []) dX8_worst_76 ml_8_297 (by decide) rfl L_45 (by decide) rfl (Nat.le_of_ble_eq_true rfl) rfl (Nat.le_refl _) (Nat.le_refl _) hc k
theorem b_X8_worst_79 {d : Nat} {Q : Option pV → pG → Prop} {g : pG} {v1 v2 v3 v4 v5 v6 vs0 : Int} {u7 : pV} (k1 : (v5 ≤ vs0) → EV d mX8_worst Q 93 [vR 45, vI v1, vI v2, vI v3, vI v4, vI v5, vI v6, vI vs0] [] g) (k2 : ¬ (v5 ≤ vs0) → EV d mX8_worst Q 88 [vR 45, vI v1, vI v2, vI v3, vI v4, vI v5, vI v6, vI vs0] [] g) : EV d mX8_worst Q 79 [vR 45, vI v1, vI v2, vI v3, vI v4, vI v5, vI v6, u7] [vI vs0] g := by
  refine wp_istore dX8_worst_79 (Nat.le_of_ble_eq_true rfl) (pp (c := 6) rfl rfl) ?_
  refine wp_iload dX8_worst_81 rfl ?_
  refine wp_iload dX8_worst_83 rfl ?_
  exact wp_icmp_ge (tgt := 93) dX8_worst_85 rfl k1 k2
theorem b_X8_worst_88 {d : Nat} {Q : Option pV → pG → Prop} {g : pG} {v1 v2 v3 v4 v5 v6 v7 : Int} (k1 : (v5 ≤ v7) → EV d mX8_worst Q 109 [vR 45, vI v1, vI v2, vI v3, vI v6, vI v5, vI v6, vI v7] [] g) (k2 : ¬ (v5 ≤ v7) → EV d mX8_worst Q 104 [vR 45, vI v1, vI v2, vI v3, vI v6, vI v5, vI v6, vI v7] [] g) : EV d mX8_worst Q 88 [vR 45, vI v1, vI v2, vI v3, vI v4, vI v5, vI v6, vI v7] [] g := by
  refine wp_iload dX8_worst_88 rfl ?_
  refine wp_goto (tgt := 95) dX8_worst_90 rfl ?_
  refine wp_istore dX8_worst_95 (Nat.le_of_ble_eq_true rfl) (pp (c := 3) rfl rfl) ?_
  refine wp_iload dX8_worst_97 rfl ?_
  refine wp_iload dX8_worst_99 rfl ?_
  exact wp_icmp_ge (tgt := 109) dX8_worst_101 rfl k1 k2
theorem b_X8_worst_93 {d : Nat} {Q : Option pV → pG → Prop} {g : pG} {v1 v2 v3 v4 v5 v6 v7 : Int} (k1 : (v5 ≤ v7) → EV d mX8_worst Q 109 [vR 45, vI v1, vI v2, vI v3, vI v4, vI v5, vI v6, vI v7] [] g) (k2 : ¬ (v5 ≤ v7) → EV d mX8_worst Q 104 [vR 45, vI v1, vI v2, vI v3, vI v4, vI v5, vI v6, vI v7] [] g) : EV d mX8_worst Q 93 [vR 45, vI v1, vI v2, vI v3, vI v4, vI v5, vI v6, vI v7] [] g := by
  refine wp_iload dX8_worst_93 rfl ?_
  refine wp_istore dX8_worst_95 (Nat.le_of_ble_eq_true rfl) (pp (c := 3) rfl rfl) ?_
  refine wp_iload dX8_worst_97 rfl ?_
  refine wp_iload dX8_worst_99 rfl ?_
  exact wp_icmp_ge (tgt := 109) dX8_worst_101 rfl k1 k2
theorem b_X8_worst_104 {d : Nat} {Q : Option pV → pG → Prop} {g : pG} {v1 v2 v3 v4 v5 v6 v7 : Int} (k : EV d mX8_worst Q 60 [vR 45, vI v1, vI v2, vI v3, vI v4, vI v7, vI (w32 (v6 + 1)), vI v7] [] g) : EV d mX8_worst Q 104 [vR 45, vI v1, vI v2, vI v3, vI v4, vI v5, vI v6, vI v7] [] g := by
  refine wp_iload dX8_worst_104 rfl ?_
  refine wp_goto (tgt := 111) dX8_worst_106 rfl ?_
  refine wp_istore dX8_worst_111 (Nat.le_of_ble_eq_true rfl) (pp (c := 4) rfl rfl) ?_
  refine wp_iinc dX8_worst_113 rfl (Nat.le_of_ble_eq_true rfl) (pp (c := 5) rfl rfl) ?_
  refine wp_goto (tgt := 60) dX8_worst_116 rfl ?_
  exact k
theorem b_X8_worst_109 {d : Nat} {Q : Option pV → pG → Prop} {g : pG} {v1 v2 v3 v4 v5 v6 v7 : Int} (k : EV d mX8_worst Q 60 [vR 45, vI v1, vI v2, vI v3, vI v4, vI v5, vI (w32 (v6 + 1)), vI v7] [] g) : EV d mX8_worst Q 109 [vR 45, vI v1, vI v2, vI v3, vI v4, vI v5, vI v6, vI v7] [] g := by
  refine wp_iload dX8_worst_109 rfl ?_
  refine wp_istore dX8_worst_111 (Nat.le_of_ble_eq_true rfl) (pp (c := 4) rfl rfl) ?_
  refine wp_iinc dX8_worst_113 rfl (Nat.le_of_ble_eq_true rfl) (pp (c := 5) rfl rfl) ?_
  refine wp_goto (tgt := 60) dX8_worst_116 rfl ?_
  exact k
theorem b_X8_worst_119 {d : Nat} {Q : Option pV → pG → Prop} {g : pG} {v1 v2 v3 v4 v5 v6 : Int} {u7 : pV} (h1 : 0 ≤ v1) (h2 : v1 < 7) (k1 : (v2 ≠ 0) → EV d mX8_worst Q 135 [vR 45, vI v1, vI v2, vI v3, vI v4, vI v5, vI v6, u7] [] (cset g 46 (fup (g 46) v1.toNat v3))) (k2 : ¬ (v2 ≠ 0) → EV d mX8_worst Q 130 [vR 45, vI v1, vI v2, vI v3, vI v4, vI v5, vI v6, u7] [] (cset g 46 (fup (g 46) v1.toNat v3))) : EV d mX8_worst Q 119 [vR 45, vI v1, vI v2, vI v3, vI v4, vI v5, vI v6, u7] [] g := by
  refine wp_aload_n dX8_worst_119 rfl rfl ?_
  refine wp_get (v := vR 46) dX8_worst_120 fl_8_7 L_45 rfl ?_
  refine wp_iload_n dX8_worst_123 rfl ?_
  refine wp_iload_n dX8_worst_124 rfl ?_
  refine wp_iastore dX8_worst_125 h1 L_46 h2 ?_
  refine wp_iload_n dX8_worst_126 rfl ?_
  exact wp_if_ne (tgt := 135) dX8_worst_127 rfl k1 k2
theorem b_X8_worst_130 {d : Nat} {Q : Option pV → pG → Prop} {g : pG} {v1 v2 v3 v4 v5 v6 : Int} {u7 : pV} (hq : Q (some (vI v4)) g) : EV d mX8_worst Q 130 [vR 45, vI v1, vI v2, vI v3, vI v4, vI v5, vI v6, u7] [] g := by
  refine wp_iload dX8_worst_130 rfl ?_
  refine wp_goto (tgt := 140) dX8_worst_132 rfl ?_
  exact wp_iret dX8_worst_140 rfl hq
theorem b_X8_worst_135 {d : Nat} {Q : Option pV → pG → Prop} {g : pG} {v1 v2 v3 v4 v5 v6 : Int} {u7 : pV} (hq : Q (some (vI (w32 (v5 + 100)))) g) : EV d mX8_worst Q 135 [vR 45, vI v1, vI v2, vI v3, vI v4, vI v5, vI v6, u7] [] g := by
  refine wp_iload dX8_worst_135 rfl ?_
  refine wp_bipush dX8_worst_137 kb_100 kc_100 ?_
  refine wp_iadd dX8_worst_139 ?_
  exact wp_iret dX8_worst_140 rfl hq
theorem b_X8_same_0 {d : Nat} {Q : Option pV → pG → Prop} {g : pG} (k : EV d mX8_same Q 7 [vR 45, vI 0, vX 2, vX 2, vX 2, vX 2] [] (cset g 45 (fup (g 45) 8 0))) : EV d mX8_same Q 0 [vR 45, vX 2, vX 2, vX 2, vX 2, vX 2] [] g := by
  refine wp_aload_n dX8_same_0 rfl rfl ?_
  refine wp_iconst dX8_same_1 kc_0 ?_
  refine wp_putI dX8_same_2 fl_8_105 L_45 rfl rfl ?_
  refine wp_iconst dX8_same_5 kc_0 ?_
  refine wp_istore_n dX8_same_6 (Nat.le_of_ble_eq_true rfl) (pp (c := 0) rfl rfl) ?_
  exact k
theorem b_X8_same_7 {d : Nat} {Q : Option pV → pG → Prop} {g : pG} {v1 : Int} {u2 : pV} (k1 : ((g 45) 0 ≤ v1) → EV d mX8_same Q 61 [vR 45, vI v1, u2, vX 2, vX 2, vX 2] [] g) (k2 : ¬ ((g 45) 0 ≤ v1) → EV d mX8_same Q 15 [vR 45, vI v1, u2, vX 2, vX 2, vX 2] [] g) : EV d mX8_same Q 7 [vR 45, vI v1, u2, vX 2, vX 2, vX 2] [] g := by
  refine wp_iload_n dX8_same_7 rfl ?_
  refine wp_aload_n dX8_same_8 rfl rfl ?_
  refine wp_get (v := vI ((g 45) 0)) dX8_same_9 fl_8_108 L_45 rfl ?_
  exact wp_icmp_ge (tgt := 61) dX8_same_12 rfl k1 k2
theorem b_X8_same_15 {d : Nat} {Q : Option pV → pG → Prop} {g : pG} {v1 : Int} {u2 : pV} {R : pG → Prop} (hc : CT d mX8_think [vR 45] g (qV R)) (k : ∀ gg : pG, R gg → EV d mX8_same Q 19 [vR 45, vI v1, u2, vX 2, vX 2, vX 2] [] gg) : EV d mX8_same Q 15 [vR 45, vI v1, u2, vX 2, vX 2, vX 2] [] g := by
  refine wp_aload_n dX8_same_15 rfl rfl ?_
  exact wp_callvV (As := []) dX8_same_16 ml_8_158 (by decide) rfl L_45 (by decide) rfl (Nat.le_of_ble_eq_true rfl) rfl (Nat.le_refl _) (Nat.le_refl _) hc k
theorem b_X8_same_19 {d : Nat} {Q : Option pV → pG → Prop} {g : pG} {v1 : Int} {u2 : pV} {R : pG → Prop} (hc : CT d mX8_pass [vR 45, vI v1] g (qV R)) (k : ∀ gg : pG, R gg → EV d mX8_same Q 24 [vR 45, vI v1, u2, vX 2, vX 2, vX 2] [] gg) : EV d mX8_same Q 19 [vR 45, vI v1, u2, vX 2, vX 2, vX 2] [] g := by
  refine wp_aload_n dX8_same_19 rfl rfl ?_
  refine wp_iload_n dX8_same_20 rfl ?_
  exact wp_callvV (As := [vI v1]) dX8_same_21 ml_8_154 (by decide) rfl L_45 (by decide) rfl (Nat.le_of_ble_eq_true rfl) rfl (Nat.le_refl _) (Nat.le_refl _) hc k
theorem b_X8_same_24 {d : Nat} {Q : Option pV → pG → Prop} {g : pG} {v1 : Int} {u2 : pV} (k : EV d mX8_same Q 26 [vR 45, vI v1, vI 0, vX 2, vX 2, vX 2] [] g) : EV d mX8_same Q 24 [vR 45, vI v1, u2, vX 2, vX 2, vX 2] [] g := by
  refine wp_iconst dX8_same_24 kc_0 ?_
  refine wp_istore_n dX8_same_25 (Nat.le_of_ble_eq_true rfl) (pp (c := 1) rfl rfl) ?_
  exact k
theorem b_X8_same_26 {d : Nat} {Q : Option pV → pG → Prop} {g : pG} {v1 v2 : Int} (k1 : (8 ≤ v2) → EV d mX8_same Q 55 [vR 45, vI v1, vI v2, vX 2, vX 2, vX 2] [] g) (k2 : ¬ (8 ≤ v2) → EV d mX8_same Q 32 [vR 45, vI v1, vI v2, vX 2, vX 2, vX 2] [] g) : EV d mX8_same Q 26 [vR 45, vI v1, vI v2, vX 2, vX 2, vX 2] [] g := by
  refine wp_iload_n dX8_same_26 rfl ?_
  refine wp_bipush dX8_same_27 kb_8 kc_8 ?_
  exact wp_icmp_ge (tgt := 55) dX8_same_29 rfl k1 k2
theorem b_X8_same_32 {d : Nat} {Q : Option pV → pG → Prop} {g : pG} {v1 v2 : Int} (h1 : 0 ≤ v2) (h2 : v2 < 8) (h3 : 0 ≤ w32 ((w32 (8 * v1)) + v2)) (h4 : w32 ((w32 (8 * v1)) + v2) < 56) (k : EV d mX8_same Q 26 [vR 45, vI v1, vI (w32 (v2 + 1)), vX 2, vX 2, vX 2] [] (cset g 71 (fup (g 71) (w32 ((w32 (8 * v1)) + v2)).toNat ((g 51) v2.toNat)))) : EV d mX8_same Q 32 [vR 45, vI v1, vI v2, vX 2, vX 2, vX 2] [] g := by
  refine wp_aload_n dX8_same_32 rfl rfl ?_
  refine wp_get (v := vR 71) dX8_same_33 fl_8_96 L_45 rfl ?_
  refine wp_bipush dX8_same_36 kb_8 kc_8 ?_
  refine wp_iload_n dX8_same_38 rfl ?_
  refine wp_imul dX8_same_39 ?_
  refine wp_iload_n dX8_same_40 rfl ?_
  refine wp_iadd dX8_same_41 ?_
  refine wp_aload_n dX8_same_42 rfl rfl ?_
  refine wp_get (v := vR 51) dX8_same_43 fl_8_35 L_45 rfl ?_
  refine wp_iload_n dX8_same_46 rfl ?_
  refine wp_iaload dX8_same_47 h1 L_51 h2 ?_
  refine wp_iastore dX8_same_48 h3 L_71 h4 ?_
  refine wp_iinc dX8_same_49 rfl (Nat.le_of_ble_eq_true rfl) (pp (c := 1) rfl rfl) ?_
  refine wp_goto (tgt := 26) dX8_same_52 rfl ?_
  exact k
theorem b_X8_same_55 {d : Nat} {Q : Option pV → pG → Prop} {g : pG} {v1 v2 : Int} (k : EV d mX8_same Q 7 [vR 45, vI (w32 (v1 + 1)), vI v2, vX 2, vX 2, vX 2] [] g) : EV d mX8_same Q 55 [vR 45, vI v1, vI v2, vX 2, vX 2, vX 2] [] g := by
  refine wp_iinc dX8_same_55 rfl (Nat.le_of_ble_eq_true rfl) (pp (c := 0) rfl rfl) ?_
  refine wp_goto (tgt := 7) dX8_same_58 rfl ?_
  exact k
theorem b_X8_same_61 {d : Nat} {Q : Option pV → pG → Prop} {g : pG} {v1 : Int} {u2 : pV} (k : EV d mX8_same Q 65 [vR 45, vI 0, vI 0, vX 2, vX 2, vX 2] [] g) : EV d mX8_same Q 61 [vR 45, vI v1, u2, vX 2, vX 2, vX 2] [] g := by
  refine wp_iconst dX8_same_61 kc_0 ?_
  refine wp_istore_n dX8_same_62 (Nat.le_of_ble_eq_true rfl) (pp (c := 0) rfl rfl) ?_
  refine wp_iconst dX8_same_63 kc_0 ?_
  refine wp_istore_n dX8_same_64 (Nat.le_of_ble_eq_true rfl) (pp (c := 1) rfl rfl) ?_
  exact k
theorem b_X8_same_65 {d : Nat} {Q : Option pV → pG → Prop} {g : pG} {v1 v2 : Int} {u3 u4 u5 : pV} (k1 : ((g 45) 0 ≤ v2) → EV d mX8_same Q 170 [vR 45, vI v1, vI v2, u3, u4, u5] [] g) (k2 : ¬ ((g 45) 0 ≤ v2) → EV d mX8_same Q 73 [vR 45, vI v1, vI v2, u3, u4, u5] [] g) : EV d mX8_same Q 65 [vR 45, vI v1, vI v2, u3, u4, u5] [] g := by
  refine wp_iload_n dX8_same_65 rfl ?_
  refine wp_aload_n dX8_same_66 rfl rfl ?_
  refine wp_get (v := vI ((g 45) 0)) dX8_same_67 fl_8_108 L_45 rfl ?_
  exact wp_icmp_ge (tgt := 170) dX8_same_70 rfl k1 k2
theorem b_X8_same_73 {d : Nat} {Q : Option pV → pG → Prop} {g : pG} {v1 v2 : Int} {u3 u4 u5 : pV} (k : EV d mX8_same Q 77 [vR 45, vI v1, vI v2, vI (w32 (v2 + 1)), u4, u5] [] g) : EV d mX8_same Q 73 [vR 45, vI v1, vI v2, u3, u4, u5] [] g := by
  refine wp_iload_n dX8_same_73 rfl ?_
  refine wp_iconst dX8_same_74 kc_1 ?_
  refine wp_iadd dX8_same_75 ?_
  refine wp_istore_n dX8_same_76 (Nat.le_of_ble_eq_true rfl) (pp (c := 2) rfl rfl) ?_
  exact k
theorem b_X8_same_77 {d : Nat} {Q : Option pV → pG → Prop} {g : pG} {v1 v2 v3 : Int} {u4 u5 : pV} (k1 : ((g 45) 0 ≤ v3) → EV d mX8_same Q 164 [vR 45, vI v1, vI v2, vI v3, u4, u5] [] g) (k2 : ¬ ((g 45) 0 ≤ v3) → EV d mX8_same Q 85 [vR 45, vI v1, vI v2, vI v3, u4, u5] [] g) : EV d mX8_same Q 77 [vR 45, vI v1, vI v2, vI v3, u4, u5] [] g := by
  refine wp_iload_n dX8_same_77 rfl ?_
  refine wp_aload_n dX8_same_78 rfl rfl ?_
  refine wp_get (v := vI ((g 45) 0)) dX8_same_79 fl_8_108 L_45 rfl ?_
  exact wp_icmp_ge (tgt := 164) dX8_same_82 rfl k1 k2
theorem b_X8_same_85 {d : Nat} {Q : Option pV → pG → Prop} {g : pG} {v1 v2 v3 : Int} {u4 u5 : pV} (k : EV d mX8_same Q 91 [vR 45, vI v1, vI v2, vI v3, vI 1, vI 0] [] g) : EV d mX8_same Q 85 [vR 45, vI v1, vI v2, vI v3, u4, u5] [] g := by
  refine wp_iconst dX8_same_85 kc_1 ?_
  refine wp_istore dX8_same_86 (Nat.le_of_ble_eq_true rfl) (pp (c := 3) rfl rfl) ?_
  refine wp_iconst dX8_same_88 kc_0 ?_
  refine wp_istore dX8_same_89 (Nat.le_of_ble_eq_true rfl) (pp (c := 4) rfl rfl) ?_
  exact k
theorem b_X8_same_91 {d : Nat} {Q : Option pV → pG → Prop} {g : pG} {v1 v2 v3 v4 v5 : Int} (k1 : ((g 45) 4 ≤ v5) → EV d mX8_same Q 145 [vR 45, vI v1, vI v2, vI v3, vI v4, vI v5] [] g) (k2 : ¬ ((g 45) 4 ≤ v5) → EV d mX8_same Q 100 [vR 45, vI v1, vI v2, vI v3, vI v4, vI v5] [] g) : EV d mX8_same Q 91 [vR 45, vI v1, vI v2, vI v3, vI v4, vI v5] [] g := by
  refine wp_iload dX8_same_91 rfl ?_
  refine wp_aload_n dX8_same_93 rfl rfl ?_
  refine wp_get (v := vI ((g 45) 4)) dX8_same_94 fl_8_19 L_45 rfl ?_
  exact wp_icmp_ge (tgt := 145) dX8_same_97 rfl k1 k2
theorem b_X8_same_100 {d : Nat} {Q : Option pV → pG → Prop} {g : pG} {v1 v2 v3 v4 v5 : Int} (k1 : (v4 = 0) → EV d mX8_same Q 136 [vR 45, vI v1, vI v2, vI v3, vI v4, vI v5] [] g) (k2 : ¬ (v4 = 0) → EV d mX8_same Q 105 [vR 45, vI v1, vI v2, vI v3, vI v4, vI v5] [] g) : EV d mX8_same Q 100 [vR 45, vI v1, vI v2, vI v3, vI v4, vI v5] [] g := by
  refine wp_iload dX8_same_100 rfl ?_
  exact wp_if_eq (tgt := 136) dX8_same_102 rfl k1 k2
theorem b_X8_same_105 {d : Nat} {Q : Option pV → pG → Prop} {g : pG} {v1 v2 v3 v4 v5 : Int} (h1 : 0 ≤ w32 ((w32 (8 * v2)) + v5)) (h2 : w32 ((w32 (8 * v2)) + v5) < 56) (h3 : 0 ≤ w32 ((w32 (8 * v3)) + v5)) (h4 : w32 ((w32 (8 * v3)) + v5) < 56) (k1 : ((g 71) (w32 ((w32 (8 * v2)) + v5)).toNat ≠ (g 71) (w32 ((w32 (8 * v3)) + v5)).toNat) → EV d mX8_same Q 136 [vR 45, vI v1, vI v2, vI v3, vI v4, vI v5] [] g) (k2 : ¬ ((g 71) (w32 ((w32 (8 * v2)) + v5)).toNat ≠ (g 71) (w32 ((w32 (8 * v3)) + v5)).toNat) → EV d mX8_same Q 132 [vR 45, vI v1, vI v2, vI v3, vI v4, vI v5] [] g) : EV d mX8_same Q 105 [vR 45, vI v1, vI v2, vI v3, vI v4, vI v5] [] g := by
  refine wp_aload_n dX8_same_105 rfl rfl ?_
  refine wp_get (v := vR 71) dX8_same_106 fl_8_96 L_45 rfl ?_
  refine wp_bipush dX8_same_109 kb_8 kc_8 ?_
  refine wp_iload_n dX8_same_111 rfl ?_
  refine wp_imul dX8_same_112 ?_
  refine wp_iload dX8_same_113 rfl ?_
  refine wp_iadd dX8_same_115 ?_
  refine wp_iaload dX8_same_116 h1 L_71 h2 ?_
  refine wp_aload_n dX8_same_117 rfl rfl ?_
  refine wp_get (v := vR 71) dX8_same_118 fl_8_96 L_45 rfl ?_
  refine wp_bipush dX8_same_121 kb_8 kc_8 ?_
  refine wp_iload_n dX8_same_123 rfl ?_
  refine wp_imul dX8_same_124 ?_
  refine wp_iload dX8_same_125 rfl ?_
  refine wp_iadd dX8_same_127 ?_
  refine wp_iaload dX8_same_128 h3 L_71 h4 ?_
  exact wp_icmp_ne (tgt := 136) dX8_same_129 rfl k1 k2
theorem b_X8_same_132 {d : Nat} {Q : Option pV → pG → Prop} {g : pG} {v1 v2 v3 v4 v5 : Int} (k : EV d mX8_same Q 91 [vR 45, vI v1, vI v2, vI v3, vI 1, vI (w32 (v5 + 1))] [] g) : EV d mX8_same Q 132 [vR 45, vI v1, vI v2, vI v3, vI v4, vI v5] [] g := by
  refine wp_iconst dX8_same_132 kc_1 ?_
  refine wp_goto (tgt := 137) dX8_same_133 rfl ?_
  refine wp_istore dX8_same_137 (Nat.le_of_ble_eq_true rfl) (pp (c := 3) rfl rfl) ?_
  refine wp_iinc dX8_same_139 rfl (Nat.le_of_ble_eq_true rfl) (pp (c := 4) rfl rfl) ?_
  refine wp_goto (tgt := 91) dX8_same_142 rfl ?_
  exact k
theorem b_X8_same_136 {d : Nat} {Q : Option pV → pG → Prop} {g : pG} {v1 v2 v3 v4 v5 : Int} (k : EV d mX8_same Q 91 [vR 45, vI v1, vI v2, vI v3, vI 0, vI (w32 (v5 + 1))] [] g) : EV d mX8_same Q 136 [vR 45, vI v1, vI v2, vI v3, vI v4, vI v5] [] g := by
  refine wp_iconst dX8_same_136 kc_0 ?_
  refine wp_istore dX8_same_137 (Nat.le_of_ble_eq_true rfl) (pp (c := 3) rfl rfl) ?_
  refine wp_iinc dX8_same_139 rfl (Nat.le_of_ble_eq_true rfl) (pp (c := 4) rfl rfl) ?_
  refine wp_goto (tgt := 91) dX8_same_142 rfl ?_
  exact k
theorem b_X8_same_145 {d : Nat} {Q : Option pV → pG → Prop} {g : pG} {v1 v2 v3 v4 v5 : Int} (k1 : (v4 = 0) → EV d mX8_same Q 155 [vR 45, vI v1, vI v2, vI v3, vI v4, vI v5] [vI v1] g) (k2 : ¬ (v4 = 0) → EV d mX8_same Q 151 [vR 45, vI v1, vI v2, vI v3, vI v4, vI v5] [vI v1] g) : EV d mX8_same Q 145 [vR 45, vI v1, vI v2, vI v3, vI v4, vI v5] [] g := by
  refine wp_iload_n dX8_same_145 rfl ?_
  refine wp_iload dX8_same_146 rfl ?_
  exact wp_if_eq (tgt := 155) dX8_same_148 rfl k1 k2
theorem b_X8_same_151 {d : Nat} {Q : Option pV → pG → Prop} {g : pG} {v1 v2 v3 v4 v5 vs0 : Int} (k : EV d mX8_same Q 77 [vR 45, vI (w32 (vs0 + 1)), vI v2, vI (w32 (v3 + 1)), vI v4, vI v5] [] g) : EV d mX8_same Q 151 [vR 45, vI v1, vI v2, vI v3, vI v4, vI v5] [vI vs0] g := by
  refine wp_iconst dX8_same_151 kc_1 ?_
  refine wp_goto (tgt := 156) dX8_same_152 rfl ?_
  refine wp_iadd dX8_same_156 ?_
  refine wp_istore_n dX8_same_157 (Nat.le_of_ble_eq_true rfl) (pp (c := 0) rfl rfl) ?_
  refine wp_iinc dX8_same_158 rfl (Nat.le_of_ble_eq_true rfl) (pp (c := 2) rfl rfl) ?_
  refine wp_goto (tgt := 77) dX8_same_161 rfl ?_
  exact k
theorem b_X8_same_155 {d : Nat} {Q : Option pV → pG → Prop} {g : pG} {v1 v2 v3 v4 v5 vs0 : Int} (k : EV d mX8_same Q 77 [vR 45, vI (w32 (vs0 + 0)), vI v2, vI (w32 (v3 + 1)), vI v4, vI v5] [] g) : EV d mX8_same Q 155 [vR 45, vI v1, vI v2, vI v3, vI v4, vI v5] [vI vs0] g := by
  refine wp_iconst dX8_same_155 kc_0 ?_
  refine wp_iadd dX8_same_156 ?_
  refine wp_istore_n dX8_same_157 (Nat.le_of_ble_eq_true rfl) (pp (c := 0) rfl rfl) ?_
  refine wp_iinc dX8_same_158 rfl (Nat.le_of_ble_eq_true rfl) (pp (c := 2) rfl rfl) ?_
  refine wp_goto (tgt := 77) dX8_same_161 rfl ?_
  exact k
theorem b_X8_same_164 {d : Nat} {Q : Option pV → pG → Prop} {g : pG} {v1 v2 v3 : Int} {u4 u5 : pV} (k : EV d mX8_same Q 65 [vR 45, vI v1, vI (w32 (v2 + 1)), vI v3, u4, u5] [] g) : EV d mX8_same Q 164 [vR 45, vI v1, vI v2, vI v3, u4, u5] [] g := by
  refine wp_iinc dX8_same_164 rfl (Nat.le_of_ble_eq_true rfl) (pp (c := 1) rfl rfl) ?_
  refine wp_goto (tgt := 65) dX8_same_167 rfl ?_
  exact k
theorem b_X8_same_170 {d : Nat} {Q : Option pV → pG → Prop} {g : pG} {v1 v2 : Int} {u3 u4 u5 : pV} (hq : Q (some (vI v1)) g) : EV d mX8_same Q 170 [vR 45, vI v1, vI v2, u3, u4, u5] [] g := by
  refine wp_iload_n dX8_same_170 rfl ?_
  exact wp_iret dX8_same_171 rfl hq
theorem b_X8_dead_0 {d : Nat} {Q : Option pV → pG → Prop} {g : pG} {R : pG → Prop} (hc : CT d mX8_think [vR 45] (cset g 45 (fup (g 45) 8 0)) (qV R)) (k : ∀ gg : pG, R gg → EV d mX8_dead Q 12 [vR 45, vI (-9), vX 2, vX 2, vX 2] [] gg) : EV d mX8_dead Q 0 [vR 45, vX 2, vX 2, vX 2, vX 2] [] g := by
  refine wp_aload_n dX8_dead_0 rfl rfl ?_
  refine wp_iconst dX8_dead_1 kc_0 ?_
  refine wp_putI dX8_dead_2 fl_8_105 L_45 rfl rfl ?_
  refine wp_bipush dX8_dead_5 kb_m9 kc_m9 ?_
  refine wp_istore_n dX8_dead_7 (Nat.le_of_ble_eq_true rfl) (pp (c := 0) rfl rfl) ?_
  refine wp_aload_n dX8_dead_8 rfl rfl ?_
  exact wp_callvV (As := []) dX8_dead_9 ml_8_158 (by decide) rfl L_45 (by decide) rfl (Nat.le_of_ble_eq_true rfl) rfl (Nat.le_refl _) (Nat.le_refl _) hc k
theorem b_X8_dead_12 {d : Nat} {Q : Option pV → pG → Prop} {g : pG} {v1 : Int} (k : EV d mX8_dead Q 14 [vR 45, vI v1, vI 0, vX 2, vX 2] [] g) : EV d mX8_dead Q 12 [vR 45, vI v1, vX 2, vX 2, vX 2] [] g := by
  refine wp_iconst dX8_dead_12 kc_0 ?_
  refine wp_istore_n dX8_dead_13 (Nat.le_of_ble_eq_true rfl) (pp (c := 1) rfl rfl) ?_
  exact k
theorem b_X8_dead_14 {d : Nat} {Q : Option pV → pG → Prop} {g : pG} {v1 v2 : Int} {u3 u4 : pV} (k1 : ((g 45) 0 ≤ v2) → EV d mX8_dead Q 129 [vR 45, vI v1, vI v2, u3, u4] [] g) (k2 : ¬ ((g 45) 0 ≤ v2) → EV d mX8_dead Q 22 [vR 45, vI v1, vI v2, u3, u4] [] g) : EV d mX8_dead Q 14 [vR 45, vI v1, vI v2, u3, u4] [] g := by
  refine wp_iload_n dX8_dead_14 rfl ?_
  refine wp_aload_n dX8_dead_15 rfl rfl ?_
  refine wp_get (v := vI ((g 45) 0)) dX8_dead_16 fl_8_108 L_45 rfl ?_
  exact wp_icmp_ge (tgt := 129) dX8_dead_19 rfl k1 k2
theorem b_X8_dead_22 {d : Nat} {Q : Option pV → pG → Prop} {g : pG} {v1 v2 : Int} {u3 u4 : pV} (k : EV d mX8_dead Q 27 [vR 45, vI v1, vI v2, vI 0, vI 0] [] g) : EV d mX8_dead Q 22 [vR 45, vI v1, vI v2, u3, u4] [] g := by
  refine wp_iconst dX8_dead_22 kc_0 ?_
  refine wp_istore_n dX8_dead_23 (Nat.le_of_ble_eq_true rfl) (pp (c := 2) rfl rfl) ?_
  refine wp_iconst dX8_dead_24 kc_0 ?_
  refine wp_istore dX8_dead_25 (Nat.le_of_ble_eq_true rfl) (pp (c := 3) rfl rfl) ?_
  exact k
theorem b_X8_dead_27 {d : Nat} {Q : Option pV → pG → Prop} {g : pG} {v1 v2 v3 v4 : Int} (k1 : ((g 45) 11 ≤ v4) → EV d mX8_dead Q 56 [vR 45, vI v1, vI v2, vI v3, vI v4] [] g) (k2 : ¬ ((g 45) 11 ≤ v4) → EV d mX8_dead Q 36 [vR 45, vI v1, vI v2, vI v3, vI v4] [] g) : EV d mX8_dead Q 27 [vR 45, vI v1, vI v2, vI v3, vI v4] [] g := by
  refine wp_iload dX8_dead_27 rfl ?_
  refine wp_aload_n dX8_dead_29 rfl rfl ?_
  refine wp_get (v := vI ((g 45) 11)) dX8_dead_30 fl_8_115 L_45 rfl ?_
  exact wp_icmp_ge (tgt := 56) dX8_dead_33 rfl k1 k2
theorem b_X8_dead_36 {d : Nat} {Q : Option pV → pG → Prop} {g : pG} {v1 v2 v3 v4 : Int} (h1 : 0 ≤ v4) (h2 : v4 < 8) (h3 : v4 < 56) (k : EV d mX8_dead Q 27 [vR 45, vI v1, vI v2, vI v3, vI (w32 (v4 + 1))] [] (cset g 71 (fup (g 71) v4.toNat ((g 51) v4.toNat)))) : EV d mX8_dead Q 36 [vR 45, vI v1, vI v2, vI v3, vI v4] [] g := by
  refine wp_aload_n dX8_dead_36 rfl rfl ?_
  refine wp_get (v := vR 71) dX8_dead_37 fl_8_96 L_45 rfl ?_
  refine wp_iload dX8_dead_40 rfl ?_
  refine wp_aload_n dX8_dead_42 rfl rfl ?_
  refine wp_get (v := vR 51) dX8_dead_43 fl_8_35 L_45 rfl ?_
  refine wp_iload dX8_dead_46 rfl ?_
  refine wp_iaload dX8_dead_48 h1 L_51 h2 ?_
  refine wp_iastore dX8_dead_49 h1 L_71 h3 ?_
  refine wp_iinc dX8_dead_50 rfl (Nat.le_of_ble_eq_true rfl) (pp (c := 3) rfl rfl) ?_
  refine wp_goto (tgt := 27) dX8_dead_53 rfl ?_
  exact k
theorem b_X8_dead_56 {d : Nat} {Q : Option pV → pG → Prop} {g : pG} {v1 v2 v3 v4 : Int} {R : pG → Prop} (hc : CT d mX8_pass [vR 45, vI v2] g (qV R)) (k : ∀ gg : pG, R gg → EV d mX8_dead Q 61 [vR 45, vI v1, vI v2, vI v3, vI v4] [] gg) : EV d mX8_dead Q 56 [vR 45, vI v1, vI v2, vI v3, vI v4] [] g := by
  refine wp_aload_n dX8_dead_56 rfl rfl ?_
  refine wp_iload_n dX8_dead_57 rfl ?_
  exact wp_callvV (As := [vI v2]) dX8_dead_58 ml_8_154 (by decide) rfl L_45 (by decide) rfl (Nat.le_of_ble_eq_true rfl) rfl (Nat.le_refl _) (Nat.le_refl _) hc k
theorem b_X8_dead_61 {d : Nat} {Q : Option pV → pG → Prop} {g : pG} {v1 v2 v3 v4 : Int} (k : EV d mX8_dead Q 64 [vR 45, vI v1, vI v2, vI v3, vI 0] [] g) : EV d mX8_dead Q 61 [vR 45, vI v1, vI v2, vI v3, vI v4] [] g := by
  refine wp_iconst dX8_dead_61 kc_0 ?_
  refine wp_istore dX8_dead_62 (Nat.le_of_ble_eq_true rfl) (pp (c := 3) rfl rfl) ?_
  exact k
theorem b_X8_dead_64 {d : Nat} {Q : Option pV → pG → Prop} {g : pG} {v1 v2 v3 v4 : Int} (k1 : ((g 45) 11 ≤ v4) → EV d mX8_dead Q 104 [vR 45, vI v1, vI v2, vI v3, vI v4] [] g) (k2 : ¬ ((g 45) 11 ≤ v4) → EV d mX8_dead Q 73 [vR 45, vI v1, vI v2, vI v3, vI v4] [] g) : EV d mX8_dead Q 64 [vR 45, vI v1, vI v2, vI v3, vI v4] [] g := by
  refine wp_iload dX8_dead_64 rfl ?_
  refine wp_aload_n dX8_dead_66 rfl rfl ?_
  refine wp_get (v := vI ((g 45) 11)) dX8_dead_67 fl_8_115 L_45 rfl ?_
  exact wp_icmp_ge (tgt := 104) dX8_dead_70 rfl k1 k2
theorem b_X8_dead_73 {d : Nat} {Q : Option pV → pG → Prop} {g : pG} {v1 v2 v3 v4 : Int} (h1 : 0 ≤ v4) (h2 : v4 < 56) (h3 : v4 < 8) (k1 : ((g 71) v4.toNat ≠ (g 51) v4.toNat) → EV d mX8_dead Q 95 [vR 45, vI v1, vI v2, vI v3, vI v4] [vI v3] g) (k2 : ¬ ((g 71) v4.toNat ≠ (g 51) v4.toNat) → EV d mX8_dead Q 91 [vR 45, vI v1, vI v2, vI v3, vI v4] [vI v3] g) : EV d mX8_dead Q 73 [vR 45, vI v1, vI v2, vI v3, vI v4] [] g := by
  refine wp_iload_n dX8_dead_73 rfl ?_
  refine wp_aload_n dX8_dead_74 rfl rfl ?_
  refine wp_get (v := vR 71) dX8_dead_75 fl_8_96 L_45 rfl ?_
  refine wp_iload dX8_dead_78 rfl ?_
  refine wp_iaload dX8_dead_80 h1 L_71 h2 ?_
  refine wp_aload_n dX8_dead_81 rfl rfl ?_
  refine wp_get (v := vR 51) dX8_dead_82 fl_8_35 L_45 rfl ?_
  refine wp_iload dX8_dead_85 rfl ?_
  refine wp_iaload dX8_dead_87 h1 L_51 h3 ?_
  exact wp_icmp_ne (tgt := 95) dX8_dead_88 rfl k1 k2
theorem b_X8_dead_91 {d : Nat} {Q : Option pV → pG → Prop} {g : pG} {v1 v2 v3 v4 vs0 : Int} (k : EV d mX8_dead Q 64 [vR 45, vI v1, vI v2, vI (w32 (vs0 + 0)), vI (w32 (v4 + 1))] [] g) : EV d mX8_dead Q 91 [vR 45, vI v1, vI v2, vI v3, vI v4] [vI vs0] g := by
  refine wp_iconst dX8_dead_91 kc_0 ?_
  refine wp_goto (tgt := 96) dX8_dead_92 rfl ?_
  refine wp_iadd dX8_dead_96 ?_
  refine wp_istore_n dX8_dead_97 (Nat.le_of_ble_eq_true rfl) (pp (c := 2) rfl rfl) ?_
  refine wp_iinc dX8_dead_98 rfl (Nat.le_of_ble_eq_true rfl) (pp (c := 3) rfl rfl) ?_
  refine wp_goto (tgt := 64) dX8_dead_101 rfl ?_
  exact k
theorem b_X8_dead_95 {d : Nat} {Q : Option pV → pG → Prop} {g : pG} {v1 v2 v3 v4 vs0 : Int} (k : EV d mX8_dead Q 64 [vR 45, vI v1, vI v2, vI (w32 (vs0 + 1)), vI (w32 (v4 + 1))] [] g) : EV d mX8_dead Q 95 [vR 45, vI v1, vI v2, vI v3, vI v4] [vI vs0] g := by
  refine wp_iconst dX8_dead_95 kc_1 ?_
  refine wp_iadd dX8_dead_96 ?_
  refine wp_istore_n dX8_dead_97 (Nat.le_of_ble_eq_true rfl) (pp (c := 2) rfl rfl) ?_
  refine wp_iinc dX8_dead_98 rfl (Nat.le_of_ble_eq_true rfl) (pp (c := 3) rfl rfl) ?_
  refine wp_goto (tgt := 64) dX8_dead_101 rfl ?_
  exact k
theorem b_X8_dead_104 {d : Nat} {Q : Option pV → pG → Prop} {g : pG} {v1 v2 v3 v4 : Int} (k1 : (v3 ≤ 0) → EV d mX8_dead Q 113 [vR 45, vI v1, vI v2, vI v3, vI v4] [] g) (k2 : ¬ (v3 ≤ 0) → EV d mX8_dead Q 108 [vR 45, vI v1, vI v2, vI v3, vI v4] [] g) : EV d mX8_dead Q 104 [vR 45, vI v1, vI v2, vI v3, vI v4] [] g := by
  refine wp_iload_n dX8_dead_104 rfl ?_
  exact wp_if_le (tgt := 113) dX8_dead_105 rfl k1 k2
theorem b_X8_dead_108 {d : Nat} {Q : Option pV → pG → Prop} {g : pG} {v1 v2 v3 v4 : Int} (k : EV d mX8_dead Q 14 [vR 45, vI (-9), vI (w32 (v2 + 1)), vI v3, vI v4] [] g) : EV d mX8_dead Q 108 [vR 45, vI v1, vI v2, vI v3, vI v4] [] g := by
  refine wp_bipush dX8_dead_108 kb_m9 kc_m9 ?_
  refine wp_goto (tgt := 122) dX8_dead_110 rfl ?_
  refine wp_istore_n dX8_dead_122 (Nat.le_of_ble_eq_true rfl) (pp (c := 0) rfl rfl) ?_
  refine wp_iinc dX8_dead_123 rfl (Nat.le_of_ble_eq_true rfl) (pp (c := 1) rfl rfl) ?_
  refine wp_goto (tgt := 14) dX8_dead_126 rfl ?_
  exact k
theorem b_X8_dead_113 {d : Nat} {Q : Option pV → pG → Prop} {g : pG} {v1 v2 v3 v4 : Int} (k1 : (0 ≤ v1) → EV d mX8_dead Q 121 [vR 45, vI v1, vI v2, vI v3, vI v4] [] g) (k2 : ¬ (0 ≤ v1) → EV d mX8_dead Q 117 [vR 45, vI v1, vI v2, vI v3, vI v4] [] g) : EV d mX8_dead Q 113 [vR 45, vI v1, vI v2, vI v3, vI v4] [] g := by
  refine wp_iload_n dX8_dead_113 rfl ?_
  exact wp_if_ge (tgt := 121) dX8_dead_114 rfl k1 k2
theorem b_X8_dead_117 {d : Nat} {Q : Option pV → pG → Prop} {g : pG} {v1 v2 v3 v4 : Int} (k : EV d mX8_dead Q 14 [vR 45, vI v2, vI (w32 (v2 + 1)), vI v3, vI v4] [] g) : EV d mX8_dead Q 117 [vR 45, vI v1, vI v2, vI v3, vI v4] [] g := by
  refine wp_iload_n dX8_dead_117 rfl ?_
  refine wp_goto (tgt := 122) dX8_dead_118 rfl ?_
  refine wp_istore_n dX8_dead_122 (Nat.le_of_ble_eq_true rfl) (pp (c := 0) rfl rfl) ?_
  refine wp_iinc dX8_dead_123 rfl (Nat.le_of_ble_eq_true rfl) (pp (c := 1) rfl rfl) ?_
  refine wp_goto (tgt := 14) dX8_dead_126 rfl ?_
  exact k
theorem b_X8_dead_121 {d : Nat} {Q : Option pV → pG → Prop} {g : pG} {v1 v2 v3 v4 : Int} (k : EV d mX8_dead Q 14 [vR 45, vI v1, vI (w32 (v2 + 1)), vI v3, vI v4] [] g) : EV d mX8_dead Q 121 [vR 45, vI v1, vI v2, vI v3, vI v4] [] g := by
  refine wp_iload_n dX8_dead_121 rfl ?_
  refine wp_istore_n dX8_dead_122 (Nat.le_of_ble_eq_true rfl) (pp (c := 0) rfl rfl) ?_
  refine wp_iinc dX8_dead_123 rfl (Nat.le_of_ble_eq_true rfl) (pp (c := 1) rfl rfl) ?_
  refine wp_goto (tgt := 14) dX8_dead_126 rfl ?_
  exact k
theorem b_X8_dead_129 {d : Nat} {Q : Option pV → pG → Prop} {g : pG} {v1 v2 : Int} {u3 u4 : pV} (hq : Q (some (vI v1)) g) : EV d mX8_dead Q 129 [vR 45, vI v1, vI v2, u3, u4] [] g := by
  refine wp_iload_n dX8_dead_129 rfl ?_
  exact wp_iret dX8_dead_130 rfl hq
theorem b_X8_flip_0 {d : Nat} {Q : Option pV → pG → Prop} {g : pG} {v1 : Int} {R : Int → pG → Prop} (hc : CT d mX8_in [vL v1, vL 0, vL 1] (cset g 45 (fup (g 45) 8 0)) (qI R)) (k : ∀ (x : Int) (gg : pG), R x gg → EV d mX8_flip Q 12 [vR 45, vI v1, vX 2, vX 2, vX 2] [vI x] gg) : EV d mX8_flip Q 0 [vR 45, vI v1, vX 2, vX 2, vX 2] [] g := by
  refine wp_aload_n dX8_flip_0 rfl rfl ?_
  refine wp_iconst dX8_flip_1 kc_0 ?_
  refine wp_putI dX8_flip_2 fl_8_105 L_45 rfl rfl ?_
  refine wp_iload_n dX8_flip_5 rfl ?_
  refine wp_i2l dX8_flip_6 ?_
  refine wp_lconst (x := 0) dX8_flip_7 rfl ?_
  refine wp_lconst (x := 1) dX8_flip_8 rfl ?_
  exact wp_callsI (As := [vL v1, vL 0, vL 1]) dX8_flip_9 ml_8_111 (Or.inl rfl) rfl (Nat.le_of_ble_eq_true rfl) rfl (Nat.le_refl _) (Nat.le_refl _) hc k
theorem b_X8_flip_12 {d : Nat} {Q : Option pV → pG → Prop} {g : pG} {v1 vs0 : Int} (k1 : (vs0 ≠ 0) → EV d mX8_flip Q 22 [vR 45, vI v1, vX 2, vX 2, vX 2] [] g) (k2 : ¬ (vs0 ≠ 0) → EV d mX8_flip Q 15 [vR 45, vI v1, vX 2, vX 2, vX 2] [] g) : EV d mX8_flip Q 12 [vR 45, vI v1, vX 2, vX 2, vX 2] [vI vs0] g := by
  exact wp_if_ne (tgt := 22) dX8_flip_12 rfl k1 k2
theorem b_X8_flip_15 {d : Nat} {Q : Option pV → pG → Prop} {g : pG} {v1 : Int} {R : Int → pG → Prop} (hc : CT d mX8_refuse [vR 45, vI (-2)] g (qI R)) (k : ∀ (x : Int) (gg : pG), R x gg → EV d mX8_flip Q 21 [vR 45, vI v1, vX 2, vX 2, vX 2] [vI x] gg) : EV d mX8_flip Q 15 [vR 45, vI v1, vX 2, vX 2, vX 2] [] g := by
  refine wp_aload_n dX8_flip_15 rfl rfl ?_
  refine wp_bipush dX8_flip_16 kb_m2 kc_m2 ?_
  exact wp_callvI (As := [vI (-2)]) dX8_flip_18 ml_8_164 (by decide) rfl L_45 (by decide) rfl (Nat.le_of_ble_eq_true rfl) rfl (Nat.le_refl _) (Nat.le_refl _) hc k
theorem b_X8_flip_21 {d : Nat} {Q : Option pV → pG → Prop} {g : pG} {v1 vs0 : Int} (hq : Q (some (vI vs0)) g) : EV d mX8_flip Q 21 [vR 45, vI v1, vX 2, vX 2, vX 2] [vI vs0] g := by
  exact wp_iret dX8_flip_21 rfl hq
theorem b_X8_flip_22 {d : Nat} {Q : Option pV → pG → Prop} {g : pG} {v1 : Int} {R : Int → pG → Prop} (hc : CT d mX8_sumBehindAll [vR 45] g (qI R)) (k : ∀ (x : Int) (gg : pG), R x gg → EV d mX8_flip Q 26 [vR 45, vI v1, vX 2, vX 2, vX 2] [vI x] gg) : EV d mX8_flip Q 22 [vR 45, vI v1, vX 2, vX 2, vX 2] [] g := by
  refine wp_aload_n dX8_flip_22 rfl rfl ?_
  exact wp_callvI (As := []) dX8_flip_23 ml_8_297 (by decide) rfl L_45 (by decide) rfl (Nat.le_of_ble_eq_true rfl) rfl (Nat.le_refl _) (Nat.le_refl _) hc k
theorem b_X8_flip_26 {d : Nat} {Q : Option pV → pG → Prop} {g : pG} {v1 vs0 : Int} (k1 : (vs0 ≤ 0) → EV d mX8_flip Q 33 [vR 45, vI v1, vX 2, vX 2, vX 2] [] g) (k2 : ¬ (vs0 ≤ 0) → EV d mX8_flip Q 29 [vR 45, vI v1, vX 2, vX 2, vX 2] [] g) : EV d mX8_flip Q 26 [vR 45, vI v1, vX 2, vX 2, vX 2] [vI vs0] g := by
  exact wp_if_le (tgt := 33) dX8_flip_26 rfl k1 k2
theorem b_X8_flip_29 {d : Nat} {Q : Option pV → pG → Prop} {g : pG} {v1 : Int} (k : EV d mX8_flip Q 41 [vR 45, vI v1, vI 1, vI (-9), vI 1] [] g) : EV d mX8_flip Q 29 [vR 45, vI v1, vX 2, vX 2, vX 2] [] g := by
  refine wp_iconst dX8_flip_29 kc_1 ?_
  refine wp_goto (tgt := 34) dX8_flip_30 rfl ?_
  refine wp_istore_n dX8_flip_34 (Nat.le_of_ble_eq_true rfl) (pp (c := 1) rfl rfl) ?_
  refine wp_bipush dX8_flip_35 kb_m9 kc_m9 ?_
  refine wp_istore_n dX8_flip_37 (Nat.le_of_ble_eq_true rfl) (pp (c := 2) rfl rfl) ?_
  refine wp_iconst dX8_flip_38 kc_1 ?_
  refine wp_istore dX8_flip_39 (Nat.le_of_ble_eq_true rfl) (pp (c := 3) rfl rfl) ?_
  exact k
theorem b_X8_flip_33 {d : Nat} {Q : Option pV → pG → Prop} {g : pG} {v1 : Int} (k : EV d mX8_flip Q 41 [vR 45, vI v1, vI 0, vI (-9), vI 1] [] g) : EV d mX8_flip Q 33 [vR 45, vI v1, vX 2, vX 2, vX 2] [] g := by
  refine wp_iconst dX8_flip_33 kc_0 ?_
  refine wp_istore_n dX8_flip_34 (Nat.le_of_ble_eq_true rfl) (pp (c := 1) rfl rfl) ?_
  refine wp_bipush dX8_flip_35 kb_m9 kc_m9 ?_
  refine wp_istore_n dX8_flip_37 (Nat.le_of_ble_eq_true rfl) (pp (c := 2) rfl rfl) ?_
  refine wp_iconst dX8_flip_38 kc_1 ?_
  refine wp_istore dX8_flip_39 (Nat.le_of_ble_eq_true rfl) (pp (c := 3) rfl rfl) ?_
  exact k
theorem b_X8_flip_41 {d : Nat} {Q : Option pV → pG → Prop} {g : pG} {v1 v2 v3 v4 : Int} (k1 : (zshl 1 ((g 45) 0) ≤ v4) → EV d mX8_flip Q 99 [vR 45, vI v1, vI v2, vI v3, vI v4] [] g) (k2 : ¬ (zshl 1 ((g 45) 0) ≤ v4) → EV d mX8_flip Q 52 [vR 45, vI v1, vI v2, vI v3, vI v4] [] g) : EV d mX8_flip Q 41 [vR 45, vI v1, vI v2, vI v3, vI v4] [] g := by
  refine wp_iload dX8_flip_41 rfl ?_
  refine wp_iconst dX8_flip_43 kc_1 ?_
  refine wp_aload_n dX8_flip_44 rfl rfl ?_
  refine wp_get (v := vI ((g 45) 0)) dX8_flip_45 fl_8_108 L_45 rfl ?_
  refine wp_ishl dX8_flip_48 ?_
  exact wp_icmp_ge (tgt := 99) dX8_flip_49 rfl k1 k2
theorem b_X8_flip_52 {d : Nat} {Q : Option pV → pG → Prop} {g : pG} {v1 v2 v3 v4 : Int} (k1 : (v3 < 0) → EV d mX8_flip Q 68 [vR 45, vI v1, vI v2, vI v3, vI v4] [] g) (k2 : ¬ (v3 < 0) → EV d mX8_flip Q 56 [vR 45, vI v1, vI v2, vI v3, vI v4] [] g) : EV d mX8_flip Q 52 [vR 45, vI v1, vI v2, vI v3, vI v4] [] g := by
  refine wp_iload_n dX8_flip_52 rfl ?_
  exact wp_if_lt (tgt := 68) dX8_flip_53 rfl k1 k2
theorem b_X8_flip_56 {d : Nat} {Q : Option pV → pG → Prop} {g : pG} {v1 v2 v3 v4 : Int} {R : Int → pG → Prop} (hc : CT d mX8_onesOf [vI v4] g (qI R)) (k : ∀ (x : Int) (gg : pG), R x gg → EV d mX8_flip Q 61 [vR 45, vI v1, vI v2, vI v3, vI v4] [vI x] gg) : EV d mX8_flip Q 56 [vR 45, vI v1, vI v2, vI v3, vI v4] [] g := by
  refine wp_iload dX8_flip_56 rfl ?_
  exact wp_callsI (As := [vI v4]) dX8_flip_58 ml_8_282 (Or.inl rfl) rfl (Nat.le_of_ble_eq_true rfl) rfl (Nat.le_refl _) (Nat.le_refl _) hc k
theorem b_X8_flip_61 {d : Nat} {Q : Option pV → pG → Prop} {g : pG} {v1 v2 v3 v4 vs0 : Int} {R : Int → pG → Prop} (hc : CT d mX8_onesOf [vI v3] g (qI R)) (k : ∀ (x : Int) (gg : pG), R x gg → EV d mX8_flip Q 65 [vR 45, vI v1, vI v2, vI v3, vI v4] [vI x, vI vs0] gg) : EV d mX8_flip Q 61 [vR 45, vI v1, vI v2, vI v3, vI v4] [vI vs0] g := by
  refine wp_iload_n dX8_flip_61 rfl ?_
  exact wp_callsI (As := [vI v3]) dX8_flip_62 ml_8_282 (Or.inl rfl) rfl (Nat.le_of_ble_eq_true rfl) rfl (Nat.le_refl _) (Nat.le_refl _) hc k
theorem b_X8_flip_65 {d : Nat} {Q : Option pV → pG → Prop} {g : pG} {v1 v2 v3 v4 vs0 vs1 : Int} (k1 : (vs1 ≤ vs0) → EV d mX8_flip Q 93 [vR 45, vI v1, vI v2, vI v3, vI v4] [] g) (k2 : ¬ (vs1 ≤ vs0) → EV d mX8_flip Q 68 [vR 45, vI v1, vI v2, vI v3, vI v4] [] g) : EV d mX8_flip Q 65 [vR 45, vI v1, vI v2, vI v3, vI v4] [vI vs1, vI vs0] g := by
  exact wp_icmp_ge (tgt := 93) dX8_flip_65 rfl k1 k2
theorem b_X8_flip_68 {d : Nat} {Q : Option pV → pG → Prop} {g : pG} {v1 v2 v3 v4 : Int} {R : pG → Prop} (hc : CT d mX8_think [vR 45] g (qV R)) (k : ∀ gg : pG, R gg → EV d mX8_flip Q 72 [vR 45, vI v1, vI v2, vI v3, vI v4] [] gg) : EV d mX8_flip Q 68 [vR 45, vI v1, vI v2, vI v3, vI v4] [] g := by
  refine wp_aload_n dX8_flip_68 rfl rfl ?_
  exact wp_callvV (As := []) dX8_flip_69 ml_8_158 (by decide) rfl L_45 (by decide) rfl (Nat.le_of_ble_eq_true rfl) rfl (Nat.le_refl _) (Nat.le_refl _) hc k
theorem b_X8_flip_72 {d : Nat} {Q : Option pV → pG → Prop} {g : pG} {v1 v2 v3 v4 : Int} {R : pG → Prop} (hc : CT d mX8_passAll [vR 45, vI v4] g (qV R)) (k : ∀ gg : pG, R gg → EV d mX8_flip Q 78 [vR 45, vI v1, vI v2, vI v3, vI v4] [] gg) : EV d mX8_flip Q 72 [vR 45, vI v1, vI v2, vI v3, vI v4] [] g := by
  refine wp_aload_n dX8_flip_72 rfl rfl ?_
  refine wp_iload dX8_flip_73 rfl ?_
  exact wp_callvV (As := [vI v4]) dX8_flip_75 ml_8_161 (by decide) rfl L_45 (by decide) rfl (Nat.le_of_ble_eq_true rfl) rfl (Nat.le_refl _) (Nat.le_refl _) hc k
theorem b_X8_flip_78 {d : Nat} {Q : Option pV → pG → Prop} {g : pG} {v1 v2 v3 v4 : Int} {R : Int → pG → Prop} (hc : CT d mX8_isFor [vR 45] g (qI R)) (k : ∀ (x : Int) (gg : pG), R x gg → EV d mX8_flip Q 82 [vR 45, vI v1, vI v2, vI v3, vI v4] [vI x] gg) : EV d mX8_flip Q 78 [vR 45, vI v1, vI v2, vI v3, vI v4] [] g := by
  refine wp_aload_n dX8_flip_78 rfl rfl ?_
  exact wp_callvI (As := []) dX8_flip_79 ml_8_252 (by decide) rfl L_45 (by decide) rfl (Nat.le_of_ble_eq_true rfl) rfl (Nat.le_refl _) (Nat.le_refl _) hc k
theorem b_X8_flip_82 {d : Nat} {Q : Option pV → pG → Prop} {g : pG} {v1 v2 v3 v4 vs0 : Int} (k1 : (vs0 ≠ v2) → EV d mX8_flip Q 90 [vR 45, vI v1, vI v2, vI v3, vI v4] [] g) (k2 : ¬ (vs0 ≠ v2) → EV d mX8_flip Q 86 [vR 45, vI v1, vI v2, vI v3, vI v4] [] g) : EV d mX8_flip Q 82 [vR 45, vI v1, vI v2, vI v3, vI v4] [vI vs0] g := by
  refine wp_iload_n dX8_flip_82 rfl ?_
  exact wp_icmp_ne (tgt := 90) dX8_flip_83 rfl k1 k2
theorem b_X8_flip_86 {d : Nat} {Q : Option pV → pG → Prop} {g : pG} {v1 v2 v3 v4 : Int} (k : EV d mX8_flip Q 41 [vR 45, vI v1, vI v2, vI v3, vI (w32 (v4 + 1))] [] g) : EV d mX8_flip Q 86 [vR 45, vI v1, vI v2, vI v3, vI v4] [] g := by
  refine wp_iload_n dX8_flip_86 rfl ?_
  refine wp_goto (tgt := 92) dX8_flip_87 rfl ?_
  refine wp_istore_n dX8_flip_92 (Nat.le_of_ble_eq_true rfl) (pp (c := 2) rfl rfl) ?_
  refine wp_iinc dX8_flip_93 rfl (Nat.le_of_ble_eq_true rfl) (pp (c := 3) rfl rfl) ?_
  refine wp_goto (tgt := 41) dX8_flip_96 rfl ?_
  exact k
theorem b_X8_flip_90 {d : Nat} {Q : Option pV → pG → Prop} {g : pG} {v1 v2 v3 v4 : Int} (k : EV d mX8_flip Q 41 [vR 45, vI v1, vI v2, vI v4, vI (w32 (v4 + 1))] [] g) : EV d mX8_flip Q 90 [vR 45, vI v1, vI v2, vI v3, vI v4] [] g := by
  refine wp_iload dX8_flip_90 rfl ?_
  refine wp_istore_n dX8_flip_92 (Nat.le_of_ble_eq_true rfl) (pp (c := 2) rfl rfl) ?_
  refine wp_iinc dX8_flip_93 rfl (Nat.le_of_ble_eq_true rfl) (pp (c := 3) rfl rfl) ?_
  refine wp_goto (tgt := 41) dX8_flip_96 rfl ?_
  exact k
theorem b_X8_flip_93 {d : Nat} {Q : Option pV → pG → Prop} {g : pG} {v1 v2 v3 v4 : Int} (k : EV d mX8_flip Q 41 [vR 45, vI v1, vI v2, vI v3, vI (w32 (v4 + 1))] [] g) : EV d mX8_flip Q 93 [vR 45, vI v1, vI v2, vI v3, vI v4] [] g := by
  refine wp_iinc dX8_flip_93 rfl (Nat.le_of_ble_eq_true rfl) (pp (c := 3) rfl rfl) ?_
  refine wp_goto (tgt := 41) dX8_flip_96 rfl ?_
  exact k
theorem b_X8_flip_99 {d : Nat} {Q : Option pV → pG → Prop} {g : pG} {v1 v2 v3 v4 : Int} (k1 : (v1 = 1) → EV d mX8_flip Q 108 [vR 45, vI v1, vI v2, vI v3, vI v4] [] g) (k2 : ¬ (v1 = 1) → EV d mX8_flip Q 104 [vR 45, vI v1, vI v2, vI v3, vI v4] [] g) : EV d mX8_flip Q 99 [vR 45, vI v1, vI v2, vI v3, vI v4] [] g := by
  refine wp_iload_n dX8_flip_99 rfl ?_
  refine wp_iconst dX8_flip_100 kc_1 ?_
  exact wp_icmp_eq (tgt := 108) dX8_flip_101 rfl k1 k2
theorem b_X8_flip_104 {d : Nat} {Q : Option pV → pG → Prop} {g : pG} {v1 v2 v3 v4 : Int} (k1 : (0 ≤ v3) → EV d mX8_flip Q 112 [vR 45, vI v1, vI v2, vI v3, vI v4] [] g) (k2 : ¬ (0 ≤ v3) → EV d mX8_flip Q 108 [vR 45, vI v1, vI v2, vI v3, vI v4] [] g) : EV d mX8_flip Q 104 [vR 45, vI v1, vI v2, vI v3, vI v4] [] g := by
  refine wp_iload_n dX8_flip_104 rfl ?_
  exact wp_if_ge (tgt := 112) dX8_flip_105 rfl k1 k2
theorem b_X8_flip_108 {d : Nat} {Q : Option pV → pG → Prop} {g : pG} {v1 v2 v3 v4 : Int} (hq : Q (some (vI v3)) g) : EV d mX8_flip Q 108 [vR 45, vI v1, vI v2, vI v3, vI v4] [] g := by
  refine wp_iload_n dX8_flip_108 rfl ?_
  refine wp_goto (tgt := 116) dX8_flip_109 rfl ?_
  exact wp_iret dX8_flip_116 rfl hq
theorem b_X8_flip_112 {d : Nat} {Q : Option pV → pG → Prop} {g : pG} {v1 v2 v3 v4 : Int} {R : Int → pG → Prop} (hc : CT d mX8_onesOf [vI v3] g (qI R)) (k : ∀ (x : Int) (gg : pG), R x gg → EV d mX8_flip Q 116 [vR 45, vI v1, vI v2, vI v3, vI v4] [vI x] gg) : EV d mX8_flip Q 112 [vR 45, vI v1, vI v2, vI v3, vI v4] [] g := by
  refine wp_iload_n dX8_flip_112 rfl ?_
  exact wp_callsI (As := [vI v3]) dX8_flip_113 ml_8_282 (Or.inl rfl) rfl (Nat.le_of_ble_eq_true rfl) rfl (Nat.le_refl _) (Nat.le_refl _) hc k
theorem b_X8_flip_116 {d : Nat} {Q : Option pV → pG → Prop} {g : pG} {v1 v2 v3 v4 vs0 : Int} (hq : Q (some (vI vs0)) g) : EV d mX8_flip Q 116 [vR 45, vI v1, vI v2, vI v3, vI v4] [vI vs0] g := by
  exact wp_iret dX8_flip_116 rfl hq
theorem b_X8_margin_0 {d : Nat} {Q : Option pV → pG → Prop} {g : pG} {R : Int → pG → Prop} (hc : CT d mX8_sumBehindAll [vR 45] (cset g 45 (fup (g 45) 8 0)) (qI R)) (k : ∀ (x : Int) (gg : pG), R x gg → EV d mX8_margin Q 9 [vR 45, vX 2, vX 2, vX 2, vX 2, vX 2] [vI x] gg) : EV d mX8_margin Q 0 [vR 45, vX 2, vX 2, vX 2, vX 2, vX 2] [] g := by
  refine wp_aload_n dX8_margin_0 rfl rfl ?_
  refine wp_iconst dX8_margin_1 kc_0 ?_
  refine wp_putI dX8_margin_2 fl_8_105 L_45 rfl rfl ?_
  refine wp_aload_n dX8_margin_5 rfl rfl ?_
  exact wp_callvI (As := []) dX8_margin_6 ml_8_297 (by decide) rfl L_45 (by decide) rfl (Nat.le_of_ble_eq_true rfl) rfl (Nat.le_refl _) (Nat.le_refl _) hc k
theorem b_X8_margin_9 {d : Nat} {Q : Option pV → pG → Prop} {g : pG} {vs0 : Int} (k1 : (vs0 ≤ 0) → EV d mX8_margin Q 16 [vR 45, vX 2, vX 2, vX 2, vX 2, vX 2] [] g) (k2 : ¬ (vs0 ≤ 0) → EV d mX8_margin Q 12 [vR 45, vX 2, vX 2, vX 2, vX 2, vX 2] [] g) : EV d mX8_margin Q 9 [vR 45, vX 2, vX 2, vX 2, vX 2, vX 2] [vI vs0] g := by
  exact wp_if_le (tgt := 16) dX8_margin_9 rfl k1 k2
theorem b_X8_margin_12 {d : Nat} {Q : Option pV → pG → Prop} {g : pG} (k : EV d mX8_margin Q 30 [vR 45, vI 1, vI (w32 (2 * ((g 45) 4))), vI 1, vI 1, vX 2] [] g) : EV d mX8_margin Q 12 [vR 45, vX 2, vX 2, vX 2, vX 2, vX 2] [] g := by
  refine wp_iconst dX8_margin_12 kc_1 ?_
  refine wp_goto (tgt := 17) dX8_margin_13 rfl ?_
  refine wp_istore_n dX8_margin_17 (Nat.le_of_ble_eq_true rfl) (pp (c := 0) rfl rfl) ?_
  refine wp_iconst dX8_margin_18 kc_2 ?_
  refine wp_aload_n dX8_margin_19 rfl rfl ?_
  refine wp_get (v := vI ((g 45) 4)) dX8_margin_20 fl_8_19 L_45 rfl ?_
  refine wp_imul dX8_margin_23 ?_
  refine wp_istore_n dX8_margin_24 (Nat.le_of_ble_eq_true rfl) (pp (c := 1) rfl rfl) ?_
  refine wp_iconst dX8_margin_25 kc_1 ?_
  refine wp_istore_n dX8_margin_26 (Nat.le_of_ble_eq_true rfl) (pp (c := 2) rfl rfl) ?_
  refine wp_iconst dX8_margin_27 kc_1 ?_
  refine wp_istore dX8_margin_28 (Nat.le_of_ble_eq_true rfl) (pp (c := 3) rfl rfl) ?_
  exact k
theorem b_X8_margin_16 {d : Nat} {Q : Option pV → pG → Prop} {g : pG} (k : EV d mX8_margin Q 30 [vR 45, vI 0, vI (w32 (2 * ((g 45) 4))), vI 1, vI 1, vX 2] [] g) : EV d mX8_margin Q 16 [vR 45, vX 2, vX 2, vX 2, vX 2, vX 2] [] g := by
  refine wp_iconst dX8_margin_16 kc_0 ?_
  refine wp_istore_n dX8_margin_17 (Nat.le_of_ble_eq_true rfl) (pp (c := 0) rfl rfl) ?_
  refine wp_iconst dX8_margin_18 kc_2 ?_
  refine wp_aload_n dX8_margin_19 rfl rfl ?_
  refine wp_get (v := vI ((g 45) 4)) dX8_margin_20 fl_8_19 L_45 rfl ?_
  refine wp_imul dX8_margin_23 ?_
  refine wp_istore_n dX8_margin_24 (Nat.le_of_ble_eq_true rfl) (pp (c := 1) rfl rfl) ?_
  refine wp_iconst dX8_margin_25 kc_1 ?_
  refine wp_istore_n dX8_margin_26 (Nat.le_of_ble_eq_true rfl) (pp (c := 2) rfl rfl) ?_
  refine wp_iconst dX8_margin_27 kc_1 ?_
  refine wp_istore dX8_margin_28 (Nat.le_of_ble_eq_true rfl) (pp (c := 3) rfl rfl) ?_
  exact k
theorem b_X8_margin_30 {d : Nat} {Q : Option pV → pG → Prop} {g : pG} {v1 v2 v3 v4 : Int} {u5 : pV} (k1 : (3 < v4) → EV d mX8_margin Q 108 [vR 45, vI v1, vI v2, vI v3, vI v4, u5] [] g) (k2 : ¬ (3 < v4) → EV d mX8_margin Q 36 [vR 45, vI v1, vI v2, vI v3, vI v4, u5] [] g) : EV d mX8_margin Q 30 [vR 45, vI v1, vI v2, vI v3, vI v4, u5] [] g := by
  refine wp_iload dX8_margin_30 rfl ?_
  refine wp_iconst dX8_margin_32 kc_3 ?_
  exact wp_icmp_gt (tgt := 108) dX8_margin_33 rfl k1 k2
theorem b_X8_margin_36 {d : Nat} {Q : Option pV → pG → Prop} {g : pG} {v1 v2 v3 v4 : Int} {u5 : pV} (k : EV d mX8_margin Q 43 [vR 45, vI v1, vI v2, vI (w32 (v3 * v2)), vI v4, vI 0] [] g) : EV d mX8_margin Q 36 [vR 45, vI v1, vI v2, vI v3, vI v4, u5] [] g := by
  refine wp_iload_n dX8_margin_36 rfl ?_
  refine wp_iload_n dX8_margin_37 rfl ?_
  refine wp_imul dX8_margin_38 ?_
  refine wp_istore_n dX8_margin_39 (Nat.le_of_ble_eq_true rfl) (pp (c := 2) rfl rfl) ?_
  refine wp_iconst dX8_margin_40 kc_0 ?_
  refine wp_istore dX8_margin_41 (Nat.le_of_ble_eq_true rfl) (pp (c := 4) rfl rfl) ?_
  exact k
theorem b_X8_margin_43 {d : Nat} {Q : Option pV → pG → Prop} {g : pG} {v1 v2 v3 v4 v5 : Int} (k1 : (v3 ≤ v5) → EV d mX8_margin Q 102 [vR 45, vI v1, vI v2, vI v3, vI v4, vI v5] [] g) (k2 : ¬ (v3 ≤ v5) → EV d mX8_margin Q 49 [vR 45, vI v1, vI v2, vI v3, vI v4, vI v5] [] g) : EV d mX8_margin Q 43 [vR 45, vI v1, vI v2, vI v3, vI v4, vI v5] [] g := by
  refine wp_iload dX8_margin_43 rfl ?_
  refine wp_iload_n dX8_margin_45 rfl ?_
  exact wp_icmp_ge (tgt := 102) dX8_margin_46 rfl k1 k2
theorem b_X8_margin_49 {d : Nat} {Q : Option pV → pG → Prop} {g : pG} {v1 v2 v3 v4 v5 : Int} {R : Int → pG → Prop} (h1 : v2 ≠ 0) (hc : CT d mX8_isOtherBy [vR 45, vI v4, vI v1] (cset (cset (cset g 72 (fup (g 72) 0 (w32 (v5.tmod v2)))) 72 (fup (fup (g 72) 0 (w32 (v5.tmod v2))) 1 (w32 ((w32 (v5.tdiv v2)).tmod v2)))) 72 (fup (fup (fup (g 72) 0 (w32 (v5.tmod v2))) 1 (w32 ((w32 (v5.tdiv v2)).tmod v2))) 2 (w32 ((w32 (v5.tdiv v2)).tdiv v2)))) (qI R)) (k : ∀ (x : Int) (gg : pG), R x gg → EV d mX8_margin Q 90 [vR 45, vI v1, vI v2, vI v3, vI v4, vI v5] [vI x] gg) : EV d mX8_margin Q 49 [vR 45, vI v1, vI v2, vI v3, vI v4, vI v5] [] g := by
  refine wp_aload_n dX8_margin_49 rfl rfl ?_
  refine wp_get (v := vR 72) dX8_margin_50 fl_8_99 L_45 rfl ?_
  refine wp_iconst dX8_margin_53 kc_0 ?_
  refine wp_iload dX8_margin_54 rfl ?_
  refine wp_iload_n dX8_margin_56 rfl ?_
  refine wp_irem dX8_margin_57 h1 ?_
  refine wp_iastore dX8_margin_58 (by decide) L_72 (by decide) ?_
  refine wp_aload_n dX8_margin_59 rfl rfl ?_
  refine wp_get (v := vR 72) dX8_margin_60 fl_8_99 L_45 rfl ?_
  refine wp_iconst dX8_margin_63 kc_1 ?_
  refine wp_iload dX8_margin_64 rfl ?_
  refine wp_iload_n dX8_margin_66 rfl ?_
  refine wp_idiv dX8_margin_67 h1 ?_
  refine wp_iload_n dX8_margin_68 rfl ?_
  refine wp_irem dX8_margin_69 h1 ?_
  refine wp_iastore dX8_margin_70 (by decide) L_72 (by decide) ?_
  refine wp_aload_n dX8_margin_71 rfl rfl ?_
  refine wp_get (v := vR 72) dX8_margin_72 fl_8_99 L_45 rfl ?_
  refine wp_iconst dX8_margin_75 kc_2 ?_
  refine wp_iload dX8_margin_76 rfl ?_
  refine wp_iload_n dX8_margin_78 rfl ?_
  refine wp_idiv dX8_margin_79 h1 ?_
  refine wp_iload_n dX8_margin_80 rfl ?_
  refine wp_idiv dX8_margin_81 h1 ?_
  refine wp_iastore dX8_margin_82 (by decide) L_72 (by decide) ?_
  refine wp_aload_n dX8_margin_83 rfl rfl ?_
  refine wp_iload dX8_margin_84 rfl ?_
  refine wp_iload_n dX8_margin_86 rfl ?_
  exact wp_callvI (As := [vI v4, vI v1]) dX8_margin_87 ml_8_335 (by decide) rfl L_45 (by decide) rfl (Nat.le_of_ble_eq_true rfl) rfl (Nat.le_refl _) (Nat.le_refl _) hc k
theorem b_X8_margin_90 {d : Nat} {Q : Option pV → pG → Prop} {g : pG} {v1 v2 v3 v4 v5 vs0 : Int} (k1 : (vs0 = 0) → EV d mX8_margin Q 96 [vR 45, vI v1, vI v2, vI v3, vI v4, vI v5] [] g) (k2 : ¬ (vs0 = 0) → EV d mX8_margin Q 93 [vR 45, vI v1, vI v2, vI v3, vI v4, vI v5] [] g) : EV d mX8_margin Q 90 [vR 45, vI v1, vI v2, vI v3, vI v4, vI v5] [vI vs0] g := by
  exact wp_if_eq (tgt := 96) dX8_margin_90 rfl k1 k2
theorem b_X8_margin_93 {d : Nat} {Q : Option pV → pG → Prop} {g : pG} {v1 v2 v3 v4 v5 : Int} (hq : Q (some (vI v4)) g) : EV d mX8_margin Q 93 [vR 45, vI v1, vI v2, vI v3, vI v4, vI v5] [] g := by
  refine wp_iload dX8_margin_93 rfl ?_
  exact wp_iret dX8_margin_95 rfl hq
theorem b_X8_margin_96 {d : Nat} {Q : Option pV → pG → Prop} {g : pG} {v1 v2 v3 v4 v5 : Int} (k : EV d mX8_margin Q 43 [vR 45, vI v1, vI v2, vI v3, vI v4, vI (w32 (v5 + 1))] [] g) : EV d mX8_margin Q 96 [vR 45, vI v1, vI v2, vI v3, vI v4, vI v5] [] g := by
  refine wp_iinc dX8_margin_96 rfl (Nat.le_of_ble_eq_true rfl) (pp (c := 4) rfl rfl) ?_
  refine wp_goto (tgt := 43) dX8_margin_99 rfl ?_
  exact k
theorem b_X8_margin_102 {d : Nat} {Q : Option pV → pG → Prop} {g : pG} {v1 v2 v3 v4 v5 : Int} (k : EV d mX8_margin Q 30 [vR 45, vI v1, vI v2, vI v3, vI (w32 (v4 + 1)), vI v5] [] g) : EV d mX8_margin Q 102 [vR 45, vI v1, vI v2, vI v3, vI v4, vI v5] [] g := by
  refine wp_iinc dX8_margin_102 rfl (Nat.le_of_ble_eq_true rfl) (pp (c := 3) rfl rfl) ?_
  refine wp_goto (tgt := 30) dX8_margin_105 rfl ?_
  exact k
theorem b_X8_margin_108 {d : Nat} {Q : Option pV → pG → Prop} {g : pG} {v1 v2 v3 v4 : Int} {u5 : pV} (hq : Q (some (vI (-9))) g) : EV d mX8_margin Q 108 [vR 45, vI v1, vI v2, vI v3, vI v4, u5] [] g := by
  refine wp_bipush dX8_margin_108 kb_m9 kc_m9 ?_
  exact wp_iret dX8_margin_110 rfl hq
theorem b_X8_isOtherBy_0 {d : Nat} {Q : Option pV → pG → Prop} {g : pG} {v1 v2 : Int} {R : pG → Prop} (hc : CT d mX8_think [vR 45] g (qV R)) (k : ∀ gg : pG, R gg → EV d mX8_isOtherBy Q 4 [vR 45, vI v1, vI v2, vX 2, vX 2, vX 2] [] gg) : EV d mX8_isOtherBy Q 0 [vR 45, vI v1, vI v2, vX 2, vX 2, vX 2] [] g := by
  refine wp_aload_n dX8_isOtherBy_0 rfl rfl ?_
  exact wp_callvV (As := []) dX8_isOtherBy_1 ml_8_158 (by decide) rfl L_45 (by decide) rfl (Nat.le_of_ble_eq_true rfl) rfl (Nat.le_refl _) (Nat.le_refl _) hc k
theorem b_X8_isOtherBy_4 {d : Nat} {Q : Option pV → pG → Prop} {g : pG} {v1 v2 : Int} (k : EV d mX8_isOtherBy Q 6 [vR 45, vI v1, vI v2, vI 0, vX 2, vX 2] [] g) : EV d mX8_isOtherBy Q 4 [vR 45, vI v1, vI v2, vX 2, vX 2, vX 2] [] g := by
  refine wp_iconst dX8_isOtherBy_4 kc_0 ?_
  refine wp_istore_n dX8_isOtherBy_5 (Nat.le_of_ble_eq_true rfl) (pp (c := 2) rfl rfl) ?_
  exact k
theorem b_X8_isOtherBy_6 {d : Nat} {Q : Option pV → pG → Prop} {g : pG} {v1 v2 v3 : Int} {u4 u5 : pV} (k1 : (v1 ≤ v3) → EV d mX8_isOtherBy Q 79 [vR 45, vI v1, vI v2, vI v3, u4, u5] [] g) (k2 : ¬ (v1 ≤ v3) → EV d mX8_isOtherBy Q 11 [vR 45, vI v1, vI v2, vI v3, u4, u5] [] g) : EV d mX8_isOtherBy Q 6 [vR 45, vI v1, vI v2, vI v3, u4, u5] [] g := by
  refine wp_iload_n dX8_isOtherBy_6 rfl ?_
  refine wp_iload_n dX8_isOtherBy_7 rfl ?_
  exact wp_icmp_ge (tgt := 79) dX8_isOtherBy_8 rfl k1 k2
theorem b_X8_isOtherBy_11 {d : Nat} {Q : Option pV → pG → Prop} {g : pG} {v1 v2 v3 : Int} {u4 u5 : pV} (h1 : 0 ≤ v3) (h2 : v3 < 3) (h3 : 0 ≤ w32 (((g 72) v3.toNat).tdiv 2)) (h4 : w32 (((g 72) v3.toNat).tdiv 2) < 8) (k1 : (w32 (((g 72) v3.toNat).tmod 2) ≠ 0) → EV d mX8_isOtherBy Q 43 [vR 45, vI v1, vI v2, vI v3, vI (w32 (((g 72) v3.toNat).tdiv 2)), u5] [vI ((g 51) (w32 (((g 72) v3.toNat).tdiv 2)).toNat)] g) (k2 : ¬ (w32 (((g 72) v3.toNat).tmod 2) ≠ 0) → EV d mX8_isOtherBy Q 39 [vR 45, vI v1, vI v2, vI v3, vI (w32 (((g 72) v3.toNat).tdiv 2)), u5] [vI ((g 51) (w32 (((g 72) v3.toNat).tdiv 2)).toNat)] g) : EV d mX8_isOtherBy Q 11 [vR 45, vI v1, vI v2, vI v3, u4, u5] [] g := by
  refine wp_aload_n dX8_isOtherBy_11 rfl rfl ?_
  refine wp_get (v := vR 72) dX8_isOtherBy_12 fl_8_99 L_45 rfl ?_
  refine wp_iload_n dX8_isOtherBy_15 rfl ?_
  refine wp_iaload dX8_isOtherBy_16 h1 L_72 h2 ?_
  refine wp_iconst dX8_isOtherBy_17 kc_2 ?_
  refine wp_idiv dX8_isOtherBy_18 (by decide) ?_
  refine wp_istore dX8_isOtherBy_19 (Nat.le_of_ble_eq_true rfl) (pp (c := 3) rfl rfl) ?_
  refine wp_aload_n dX8_isOtherBy_21 rfl rfl ?_
  refine wp_get (v := vR 51) dX8_isOtherBy_22 fl_8_35 L_45 rfl ?_
  refine wp_iload dX8_isOtherBy_25 rfl ?_
  refine wp_iaload dX8_isOtherBy_27 h3 L_51 h4 ?_
  refine wp_aload_n dX8_isOtherBy_28 rfl rfl ?_
  refine wp_get (v := vR 72) dX8_isOtherBy_29 fl_8_99 L_45 rfl ?_
  refine wp_iload_n dX8_isOtherBy_32 rfl ?_
  refine wp_iaload dX8_isOtherBy_33 h1 L_72 h2 ?_
  refine wp_iconst dX8_isOtherBy_34 kc_2 ?_
  refine wp_irem dX8_isOtherBy_35 (by decide) ?_
  exact wp_if_ne (tgt := 43) dX8_isOtherBy_36 rfl k1 k2
theorem b_X8_isOtherBy_39 {d : Nat} {Q : Option pV → pG → Prop} {g : pG} {v1 v2 v3 v4 vs0 : Int} {u5 : pV} {R : Int → pG → Prop} (hc : CT d mX8_in [vL (w32 (vs0 + 1)), vL (-9), vL 9] g (qI R)) (k : ∀ (x : Int) (gg : pG), R x gg → EV d mX8_isOtherBy Q 59 [vR 45, vI v1, vI v2, vI v3, vI v4, vI (w32 (vs0 + 1))] [vI x] gg) : EV d mX8_isOtherBy Q 39 [vR 45, vI v1, vI v2, vI v3, vI v4, u5] [vI vs0] g := by
  refine wp_iconst dX8_isOtherBy_39 kc_1 ?_
  refine wp_goto (tgt := 44) dX8_isOtherBy_40 rfl ?_
  refine wp_iadd dX8_isOtherBy_44 ?_
  refine wp_istore dX8_isOtherBy_45 (Nat.le_of_ble_eq_true rfl) (pp (c := 4) rfl rfl) ?_
  refine wp_iload dX8_isOtherBy_47 rfl ?_
  refine wp_i2l dX8_isOtherBy_49 ?_
  refine wp_ldc2_w dX8_isOtherBy_50 k2_8_333 ?_
  refine wp_ldc2_w dX8_isOtherBy_53 k2_8_245 ?_
  exact wp_callsI (As := [vL (w32 (vs0 + 1)), vL (-9), vL 9]) dX8_isOtherBy_56 ml_8_111 (Or.inl rfl) rfl (Nat.le_of_ble_eq_true rfl) rfl (Nat.le_refl _) (Nat.le_refl _) hc k
theorem b_X8_isOtherBy_43 {d : Nat} {Q : Option pV → pG → Prop} {g : pG} {v1 v2 v3 v4 vs0 : Int} {u5 : pV} {R : Int → pG → Prop} (hc : CT d mX8_in [vL (w32 (vs0 + (-1))), vL (-9), vL 9] g (qI R)) (k : ∀ (x : Int) (gg : pG), R x gg → EV d mX8_isOtherBy Q 59 [vR 45, vI v1, vI v2, vI v3, vI v4, vI (w32 (vs0 + (-1)))] [vI x] gg) : EV d mX8_isOtherBy Q 43 [vR 45, vI v1, vI v2, vI v3, vI v4, u5] [vI vs0] g := by
  refine wp_iconst dX8_isOtherBy_43 kc_m1 ?_
  refine wp_iadd dX8_isOtherBy_44 ?_
  refine wp_istore dX8_isOtherBy_45 (Nat.le_of_ble_eq_true rfl) (pp (c := 4) rfl rfl) ?_
  refine wp_iload dX8_isOtherBy_47 rfl ?_
  refine wp_i2l dX8_isOtherBy_49 ?_
  refine wp_ldc2_w dX8_isOtherBy_50 k2_8_333 ?_
  refine wp_ldc2_w dX8_isOtherBy_53 k2_8_245 ?_
  exact wp_callsI (As := [vL (w32 (vs0 + (-1))), vL (-9), vL 9]) dX8_isOtherBy_56 ml_8_111 (Or.inl rfl) rfl (Nat.le_of_ble_eq_true rfl) rfl (Nat.le_refl _) (Nat.le_refl _) hc k
theorem b_X8_isOtherBy_59 {d : Nat} {Q : Option pV → pG → Prop} {g : pG} {v1 v2 v3 v4 v5 vs0 : Int} (k1 : (vs0 ≠ 0) → EV d mX8_isOtherBy Q 64 [vR 45, vI v1, vI v2, vI v3, vI v4, vI v5] [] g) (k2 : ¬ (vs0 ≠ 0) → EV d mX8_isOtherBy Q 62 [vR 45, vI v1, vI v2, vI v3, vI v4, vI v5] [] g) : EV d mX8_isOtherBy Q 59 [vR 45, vI v1, vI v2, vI v3, vI v4, vI v5] [vI vs0] g := by
  exact wp_if_ne (tgt := 64) dX8_isOtherBy_59 rfl k1 k2
theorem b_X8_isOtherBy_62 {d : Nat} {Q : Option pV → pG → Prop} {g : pG} {v1 v2 v3 v4 v5 : Int} (hq : Q (some (vI 0)) g) : EV d mX8_isOtherBy Q 62 [vR 45, vI v1, vI v2, vI v3, vI v4, vI v5] [] g := by
  refine wp_iconst dX8_isOtherBy_62 kc_0 ?_
  exact wp_zret dX8_isOtherBy_63 rfl (Or.inl rfl) hq
theorem b_X8_isOtherBy_64 {d : Nat} {Q : Option pV → pG → Prop} {g : pG} {v1 v2 v3 v4 v5 : Int} (h1 : 0 ≤ v4) (h2 : v4 < 8) (k : EV d mX8_isOtherBy Q 6 [vR 45, vI v1, vI v2, vI (w32 (v3 + 1)), vI v4, vI v5] [] (cset g 51 (fup (g 51) v4.toNat v5))) : EV d mX8_isOtherBy Q 64 [vR 45, vI v1, vI v2, vI v3, vI v4, vI v5] [] g := by
  refine wp_aload_n dX8_isOtherBy_64 rfl rfl ?_
  refine wp_get (v := vR 51) dX8_isOtherBy_65 fl_8_35 L_45 rfl ?_
  refine wp_iload dX8_isOtherBy_68 rfl ?_
  refine wp_iload dX8_isOtherBy_70 rfl ?_
  refine wp_iastore dX8_isOtherBy_72 h1 L_51 h2 ?_
  refine wp_iinc dX8_isOtherBy_73 rfl (Nat.le_of_ble_eq_true rfl) (pp (c := 2) rfl rfl) ?_
  refine wp_goto (tgt := 6) dX8_isOtherBy_76 rfl ?_
  exact k
theorem b_X8_isOtherBy_79 {d : Nat} {Q : Option pV → pG → Prop} {g : pG} {v1 v2 v3 : Int} {u4 u5 : pV} {R : pG → Prop} (hc : CT d mX8_passAll [vR 45, vI 0] g (qV R)) (k : ∀ gg : pG, R gg → EV d mX8_isOtherBy Q 84 [vR 45, vI v1, vI v2, vI v3, u4, u5] [] gg) : EV d mX8_isOtherBy Q 79 [vR 45, vI v1, vI v2, vI v3, u4, u5] [] g := by
  refine wp_aload_n dX8_isOtherBy_79 rfl rfl ?_
  refine wp_iconst dX8_isOtherBy_80 kc_0 ?_
  exact wp_callvV (As := [vI 0]) dX8_isOtherBy_81 ml_8_161 (by decide) rfl L_45 (by decide) rfl (Nat.le_of_ble_eq_true rfl) rfl (Nat.le_refl _) (Nat.le_refl _) hc k
theorem b_X8_isOtherBy_84 {d : Nat} {Q : Option pV → pG → Prop} {g : pG} {v1 v2 v3 : Int} {u4 u5 : pV} {R : Int → pG → Prop} (hc : CT d mX8_isFor [vR 45] g (qI R)) (k : ∀ (x : Int) (gg : pG), R x gg → EV d mX8_isOtherBy Q 88 [vR 45, vI v1, vI v2, vI v3, u4, u5] [vI x] gg) : EV d mX8_isOtherBy Q 84 [vR 45, vI v1, vI v2, vI v3, u4, u5] [] g := by
  refine wp_aload_n dX8_isOtherBy_84 rfl rfl ?_
  exact wp_callvI (As := []) dX8_isOtherBy_85 ml_8_252 (by decide) rfl L_45 (by decide) rfl (Nat.le_of_ble_eq_true rfl) rfl (Nat.le_refl _) (Nat.le_refl _) hc k
theorem b_X8_isOtherBy_88 {d : Nat} {Q : Option pV → pG → Prop} {g : pG} {v1 v2 v3 vs0 : Int} {u4 u5 : pV} (k1 : (vs0 = v2) → EV d mX8_isOtherBy Q 96 [vR 45, vI v1, vI v2, vI v3, u4, u5] [] g) (k2 : ¬ (vs0 = v2) → EV d mX8_isOtherBy Q 92 [vR 45, vI v1, vI v2, vI v3, u4, u5] [] g) : EV d mX8_isOtherBy Q 88 [vR 45, vI v1, vI v2, vI v3, u4, u5] [vI vs0] g := by
  refine wp_iload_n dX8_isOtherBy_88 rfl ?_
  exact wp_icmp_eq (tgt := 96) dX8_isOtherBy_89 rfl k1 k2
theorem b_X8_isOtherBy_92 {d : Nat} {Q : Option pV → pG → Prop} {g : pG} {v1 v2 v3 : Int} {u4 u5 : pV} (hq : Q (some (vI 1)) g) : EV d mX8_isOtherBy Q 92 [vR 45, vI v1, vI v2, vI v3, u4, u5] [] g := by
  refine wp_iconst dX8_isOtherBy_92 kc_1 ?_
  refine wp_goto (tgt := 97) dX8_isOtherBy_93 rfl ?_
  exact wp_zret dX8_isOtherBy_97 rfl (Or.inr rfl) hq
theorem b_X8_isOtherBy_96 {d : Nat} {Q : Option pV → pG → Prop} {g : pG} {v1 v2 v3 : Int} {u4 u5 : pV} (hq : Q (some (vI 0)) g) : EV d mX8_isOtherBy Q 96 [vR 45, vI v1, vI v2, vI v3, u4, u5] [] g := by
  refine wp_iconst dX8_isOtherBy_96 kc_0 ?_
  exact wp_zret dX8_isOtherBy_97 rfl (Or.inl rfl) hq
theorem b_X8_beats_0 {d : Nat} {Q : Option pV → pG → Prop} {g : pG} (k1 : ((fup (g 45) 8 0) 41 ≠ (fup (g 45) 8 0) 4) → EV d mX8_beats Q 20 [vR 45, vX 2, vX 2, vX 2] [] (cset g 45 (fup (g 45) 8 0))) (k2 : ¬ ((fup (g 45) 8 0) 41 ≠ (fup (g 45) 8 0) 4) → EV d mX8_beats Q 16 [vR 45, vX 2, vX 2, vX 2] [] (cset g 45 (fup (g 45) 8 0))) : EV d mX8_beats Q 0 [vR 45, vX 2, vX 2, vX 2] [] g := by
  refine wp_aload_n dX8_beats_0 rfl rfl ?_
  refine wp_iconst dX8_beats_1 kc_0 ?_
  refine wp_putI dX8_beats_2 fl_8_105 L_45 rfl rfl ?_
  refine wp_aload_n dX8_beats_5 rfl rfl ?_
  refine wp_get (v := vI ((fup (g 45) 8 0) 41)) dX8_beats_6 fl_8_312 L_45 rfl ?_
  refine wp_aload_n dX8_beats_9 rfl rfl ?_
  refine wp_get (v := vI ((fup (g 45) 8 0) 4)) dX8_beats_10 fl_8_19 L_45 rfl ?_
  exact wp_icmp_ne (tgt := 20) dX8_beats_13 rfl k1 k2
theorem b_X8_beats_16 {d : Nat} {Q : Option pV → pG → Prop} {g : pG} (k : EV d mX8_beats Q 24 [vR 45, vI 1, vI 0, vX 2] [] g) : EV d mX8_beats Q 16 [vR 45, vX 2, vX 2, vX 2] [] g := by
  refine wp_iconst dX8_beats_16 kc_1 ?_
  refine wp_goto (tgt := 21) dX8_beats_17 rfl ?_
  refine wp_istore_n dX8_beats_21 (Nat.le_of_ble_eq_true rfl) (pp (c := 0) rfl rfl) ?_
  refine wp_iconst dX8_beats_22 kc_0 ?_
  refine wp_istore_n dX8_beats_23 (Nat.le_of_ble_eq_true rfl) (pp (c := 1) rfl rfl) ?_
  exact k
theorem b_X8_beats_20 {d : Nat} {Q : Option pV → pG → Prop} {g : pG} (k : EV d mX8_beats Q 24 [vR 45, vI 0, vI 0, vX 2] [] g) : EV d mX8_beats Q 20 [vR 45, vX 2, vX 2, vX 2] [] g := by
  refine wp_iconst dX8_beats_20 kc_0 ?_
  refine wp_istore_n dX8_beats_21 (Nat.le_of_ble_eq_true rfl) (pp (c := 0) rfl rfl) ?_
  refine wp_iconst dX8_beats_22 kc_0 ?_
  refine wp_istore_n dX8_beats_23 (Nat.le_of_ble_eq_true rfl) (pp (c := 1) rfl rfl) ?_
  exact k
theorem b_X8_beats_24 {d : Nat} {Q : Option pV → pG → Prop} {g : pG} {v1 v2 : Int} (k1 : ((g 45) 41 ≤ v2) → EV d mX8_beats Q 59 [vR 45, vI v1, vI v2, vX 2] [] g) (k2 : ¬ ((g 45) 41 ≤ v2) → EV d mX8_beats Q 32 [vR 45, vI v1, vI v2, vX 2] [] g) : EV d mX8_beats Q 24 [vR 45, vI v1, vI v2, vX 2] [] g := by
  refine wp_iload_n dX8_beats_24 rfl ?_
  refine wp_aload_n dX8_beats_25 rfl rfl ?_
  refine wp_get (v := vI ((g 45) 41)) dX8_beats_26 fl_8_312 L_45 rfl ?_
  exact wp_icmp_ge (tgt := 59) dX8_beats_29 rfl k1 k2
theorem b_X8_beats_32 {d : Nat} {Q : Option pV → pG → Prop} {g : pG} {v1 v2 : Int} (k1 : (v1 = 0) → EV d mX8_beats Q 51 [vR 45, vI v1, vI v2, vX 2] [] g) (k2 : ¬ (v1 = 0) → EV d mX8_beats Q 36 [vR 45, vI v1, vI v2, vX 2] [] g) : EV d mX8_beats Q 32 [vR 45, vI v1, vI v2, vX 2] [] g := by
  refine wp_iload_n dX8_beats_32 rfl ?_
  exact wp_if_eq (tgt := 51) dX8_beats_33 rfl k1 k2
theorem b_X8_beats_36 {d : Nat} {Q : Option pV → pG → Prop} {g : pG} {v1 v2 : Int} (h1 : 0 ≤ v2) (h2 : v2 < 16) (k1 : (18 < (g 68) v2.toNat) → EV d mX8_beats Q 51 [vR 45, vI v1, vI v2, vX 2] [] g) (k2 : ¬ (18 < (g 68) v2.toNat) → EV d mX8_beats Q 47 [vR 45, vI v1, vI v2, vX 2] [] g) : EV d mX8_beats Q 36 [vR 45, vI v1, vI v2, vX 2] [] g := by
  refine wp_aload_n dX8_beats_36 rfl rfl ?_
  refine wp_get (v := vR 68) dX8_beats_37 fl_8_87 L_45 rfl ?_
  refine wp_iload_n dX8_beats_40 rfl ?_
  refine wp_iaload dX8_beats_41 h1 L_68 h2 ?_
  refine wp_bipush dX8_beats_42 kb_18 kc_18 ?_
  exact wp_icmp_gt (tgt := 51) dX8_beats_44 rfl k1 k2
theorem b_X8_beats_47 {d : Nat} {Q : Option pV → pG → Prop} {g : pG} {v1 v2 : Int} (k : EV d mX8_beats Q 24 [vR 45, vI 1, vI (w32 (v2 + 1)), vX 2] [] g) : EV d mX8_beats Q 47 [vR 45, vI v1, vI v2, vX 2] [] g := by
  refine wp_iconst dX8_beats_47 kc_1 ?_
  refine wp_goto (tgt := 52) dX8_beats_48 rfl ?_
  refine wp_istore_n dX8_beats_52 (Nat.le_of_ble_eq_true rfl) (pp (c := 0) rfl rfl) ?_
  refine wp_iinc dX8_beats_53 rfl (Nat.le_of_ble_eq_true rfl) (pp (c := 1) rfl rfl) ?_
  refine wp_goto (tgt := 24) dX8_beats_56 rfl ?_
  exact k
theorem b_X8_beats_51 {d : Nat} {Q : Option pV → pG → Prop} {g : pG} {v1 v2 : Int} (k : EV d mX8_beats Q 24 [vR 45, vI 0, vI (w32 (v2 + 1)), vX 2] [] g) : EV d mX8_beats Q 51 [vR 45, vI v1, vI v2, vX 2] [] g := by
  refine wp_iconst dX8_beats_51 kc_0 ?_
  refine wp_istore_n dX8_beats_52 (Nat.le_of_ble_eq_true rfl) (pp (c := 0) rfl rfl) ?_
  refine wp_iinc dX8_beats_53 rfl (Nat.le_of_ble_eq_true rfl) (pp (c := 1) rfl rfl) ?_
  refine wp_goto (tgt := 24) dX8_beats_56 rfl ?_
  exact k
theorem b_X8_beats_59 {d : Nat} {Q : Option pV → pG → Prop} {g : pG} {v1 v2 : Int} (k1 : (v1 ≠ 0) → EV d mX8_beats Q 70 [vR 45, vI v1, vI v2, vX 2] [] g) (k2 : ¬ (v1 ≠ 0) → EV d mX8_beats Q 63 [vR 45, vI v1, vI v2, vX 2] [] g) : EV d mX8_beats Q 59 [vR 45, vI v1, vI v2, vX 2] [] g := by
  refine wp_iload_n dX8_beats_59 rfl ?_
  exact wp_if_ne (tgt := 70) dX8_beats_60 rfl k1 k2
theorem b_X8_beats_63 {d : Nat} {Q : Option pV → pG → Prop} {g : pG} {v1 v2 : Int} {R : Int → pG → Prop} (hc : CT d mX8_refuse [vR 45, vI (-3)] g (qI R)) (k : ∀ (x : Int) (gg : pG), R x gg → EV d mX8_beats Q 69 [vR 45, vI v1, vI v2, vX 2] [vI x] gg) : EV d mX8_beats Q 63 [vR 45, vI v1, vI v2, vX 2] [] g := by
  refine wp_aload_n dX8_beats_63 rfl rfl ?_
  refine wp_bipush dX8_beats_64 kb_m3 kc_m3 ?_
  exact wp_callvI (As := [vI (-3)]) dX8_beats_66 ml_8_164 (by decide) rfl L_45 (by decide) rfl (Nat.le_of_ble_eq_true rfl) rfl (Nat.le_refl _) (Nat.le_refl _) hc k
theorem b_X8_beats_69 {d : Nat} {Q : Option pV → pG → Prop} {g : pG} {v1 v2 vs0 : Int} (hq : Q (some (vI vs0)) g) : EV d mX8_beats Q 69 [vR 45, vI v1, vI v2, vX 2] [vI vs0] g := by
  exact wp_iret dX8_beats_69 rfl hq
theorem b_X8_beats_70 {d : Nat} {Q : Option pV → pG → Prop} {g : pG} {v1 v2 : Int} {R : Int → pG → Prop} (hc : CT d mX8_sumBehindAll [vR 45] g (qI R)) (k : ∀ (x : Int) (gg : pG), R x gg → EV d mX8_beats Q 74 [vR 45, vI v1, vI v2, vX 2] [vI x] gg) : EV d mX8_beats Q 70 [vR 45, vI v1, vI v2, vX 2] [] g := by
  refine wp_aload_n dX8_beats_70 rfl rfl ?_
  exact wp_callvI (As := []) dX8_beats_71 ml_8_297 (by decide) rfl L_45 (by decide) rfl (Nat.le_of_ble_eq_true rfl) rfl (Nat.le_refl _) (Nat.le_refl _) hc k
theorem b_X8_beats_74 {d : Nat} {Q : Option pV → pG → Prop} {g : pG} {v1 v2 vs0 : Int} (k : EV d mX8_beats Q 85 [vR 45, vI v1, vI vs0, vI 0] [] (cset g 45 (fup (g 45) 11 ((g 45) 4)))) : EV d mX8_beats Q 74 [vR 45, vI v1, vI v2, vX 2] [vI vs0] g := by
  refine wp_istore_n dX8_beats_74 (Nat.le_of_ble_eq_true rfl) (pp (c := 1) rfl rfl) ?_
  refine wp_aload_n dX8_beats_75 rfl rfl ?_
  refine wp_aload_n dX8_beats_76 rfl rfl ?_
  refine wp_get (v := vI ((g 45) 4)) dX8_beats_77 fl_8_19 L_45 rfl ?_
  refine wp_putI dX8_beats_80 fl_8_115 L_45 rfl rfl ?_
  refine wp_iconst dX8_beats_83 kc_0 ?_
  refine wp_istore_n dX8_beats_84 (Nat.le_of_ble_eq_true rfl) (pp (c := 2) rfl rfl) ?_
  exact k
theorem b_X8_beats_85 {d : Nat} {Q : Option pV → pG → Prop} {g : pG} {v1 v2 v3 : Int} (k1 : ((g 45) 4 ≤ v3) → EV d mX8_beats Q 114 [vR 45, vI v1, vI v2, vI v3] [] g) (k2 : ¬ ((g 45) 4 ≤ v3) → EV d mX8_beats Q 93 [vR 45, vI v1, vI v2, vI v3] [] g) : EV d mX8_beats Q 85 [vR 45, vI v1, vI v2, vI v3] [] g := by
  refine wp_iload_n dX8_beats_85 rfl ?_
  refine wp_aload_n dX8_beats_86 rfl rfl ?_
  refine wp_get (v := vI ((g 45) 4)) dX8_beats_87 fl_8_19 L_45 rfl ?_
  exact wp_icmp_ge (tgt := 114) dX8_beats_90 rfl k1 k2
theorem b_X8_beats_93 {d : Nat} {Q : Option pV → pG → Prop} {g : pG} {v1 v2 v3 : Int} (h1 : 0 ≤ v3) (h2 : v3 < 16) (h3 : v3 < 8) (k : EV d mX8_beats Q 85 [vR 45, vI v1, vI v2, vI (w32 (v3 + 1))] [] (cset g 51 (fup (g 51) v3.toNat (w32 (((g 68) v3.toNat) - 9))))) : EV d mX8_beats Q 93 [vR 45, vI v1, vI v2, vI v3] [] g := by
  refine wp_aload_n dX8_beats_93 rfl rfl ?_
  refine wp_get (v := vR 51) dX8_beats_94 fl_8_35 L_45 rfl ?_
  refine wp_iload_n dX8_beats_97 rfl ?_
  refine wp_aload_n dX8_beats_98 rfl rfl ?_
  refine wp_get (v := vR 68) dX8_beats_99 fl_8_87 L_45 rfl ?_
  refine wp_iload_n dX8_beats_102 rfl ?_
  refine wp_iaload dX8_beats_103 h1 L_68 h2 ?_
  refine wp_bipush dX8_beats_104 kb_9 kc_9 ?_
  refine wp_isub dX8_beats_106 ?_
  refine wp_iastore dX8_beats_107 h1 L_51 h3 ?_
  refine wp_iinc dX8_beats_108 rfl (Nat.le_of_ble_eq_true rfl) (pp (c := 2) rfl rfl) ?_
  refine wp_goto (tgt := 85) dX8_beats_111 rfl ?_
  exact k
theorem b_X8_beats_114 {d : Nat} {Q : Option pV → pG → Prop} {g : pG} {v1 v2 v3 : Int} {R : pG → Prop} (hc : CT d mX8_passAll [vR 45, vI 0] g (qV R)) (k : ∀ gg : pG, R gg → EV d mX8_beats Q 119 [vR 45, vI v1, vI v2, vI v3] [] gg) : EV d mX8_beats Q 114 [vR 45, vI v1, vI v2, vI v3] [] g := by
  refine wp_aload_n dX8_beats_114 rfl rfl ?_
  refine wp_iconst dX8_beats_115 kc_0 ?_
  exact wp_callvV (As := [vI 0]) dX8_beats_116 ml_8_161 (by decide) rfl L_45 (by decide) rfl (Nat.le_of_ble_eq_true rfl) rfl (Nat.le_refl _) (Nat.le_refl _) hc k
theorem b_X8_beats_119 {d : Nat} {Q : Option pV → pG → Prop} {g : pG} {v1 v2 v3 : Int} {R : Int → pG → Prop} (hc : CT d mX8_sumNow [vR 45] g (qI R)) (k : ∀ (x : Int) (gg : pG), R x gg → EV d mX8_beats Q 123 [vR 45, vI v1, vI v2, vI v3] [vI x] gg) : EV d mX8_beats Q 119 [vR 45, vI v1, vI v2, vI v3] [] g := by
  refine wp_aload_n dX8_beats_119 rfl rfl ?_
  exact wp_callvI (As := []) dX8_beats_120 ml_8_118 (by decide) rfl L_45 (by decide) rfl (Nat.le_of_ble_eq_true rfl) rfl (Nat.le_refl _) (Nat.le_refl _) hc k
theorem b_X8_beats_123 {d : Nat} {Q : Option pV → pG → Prop} {g : pG} {v1 v2 v3 vs0 : Int} (k1 : (vs0 ≤ v2) → EV d mX8_beats Q 131 [vR 45, vI v1, vI v2, vI v3] [] g) (k2 : ¬ (vs0 ≤ v2) → EV d mX8_beats Q 127 [vR 45, vI v1, vI v2, vI v3] [] g) : EV d mX8_beats Q 123 [vR 45, vI v1, vI v2, vI v3] [vI vs0] g := by
  refine wp_iload_n dX8_beats_123 rfl ?_
  exact wp_icmp_le (tgt := 131) dX8_beats_124 rfl k1 k2
theorem b_X8_beats_127 {d : Nat} {Q : Option pV → pG → Prop} {g : pG} {v1 v2 v3 : Int} (hq : Q (some (vI 1)) g) : EV d mX8_beats Q 127 [vR 45, vI v1, vI v2, vI v3] [] g := by
  refine wp_iconst dX8_beats_127 kc_1 ?_
  refine wp_goto (tgt := 132) dX8_beats_128 rfl ?_
  exact wp_iret dX8_beats_132 rfl hq
theorem b_X8_beats_131 {d : Nat} {Q : Option pV → pG → Prop} {g : pG} {v1 v2 v3 : Int} (hq : Q (some (vI 0)) g) : EV d mX8_beats Q 131 [vR 45, vI v1, vI v2, vI v3] [] g := by
  refine wp_iconst dX8_beats_131 kc_0 ?_
  exact wp_iret dX8_beats_132 rfl hq
theorem b_X8_commute_0 {d : Nat} {Q : Option pV → pG → Prop} {g : pG} {v1 v2 : Int} {R : Int → pG → Prop} (hc : CT d mX8_isCourt [vR 45, vI v1] (cset g 45 (fup (g 45) 8 0)) (qI R)) (k : ∀ (x : Int) (gg : pG), R x gg → EV d mX8_commute Q 10 [vR 45, vI v1, vI v2, vX 2, vX 2] [vI x] gg) : EV d mX8_commute Q 0 [vR 45, vI v1, vI v2, vX 2, vX 2] [] g := by
  refine wp_aload_n dX8_commute_0 rfl rfl ?_
  refine wp_iconst dX8_commute_1 kc_0 ?_
  refine wp_putI dX8_commute_2 fl_8_105 L_45 rfl rfl ?_
  refine wp_aload_n dX8_commute_5 rfl rfl ?_
  refine wp_iload_n dX8_commute_6 rfl ?_
  exact wp_callvI (As := [vI v1]) dX8_commute_7 ml_8_230 (by decide) rfl L_45 (by decide) rfl (Nat.le_of_ble_eq_true rfl) rfl (Nat.le_refl _) (Nat.le_refl _) hc k
theorem b_X8_commute_10 {d : Nat} {Q : Option pV → pG → Prop} {g : pG} {v1 v2 vs0 : Int} (k1 : (vs0 = 0) → EV d mX8_commute Q 26 [vR 45, vI v1, vI v2, vX 2, vX 2] [] g) (k2 : ¬ (vs0 = 0) → EV d mX8_commute Q 13 [vR 45, vI v1, vI v2, vX 2, vX 2] [] g) : EV d mX8_commute Q 10 [vR 45, vI v1, vI v2, vX 2, vX 2] [vI vs0] g := by
  exact wp_if_eq (tgt := 26) dX8_commute_10 rfl k1 k2
theorem b_X8_commute_13 {d : Nat} {Q : Option pV → pG → Prop} {g : pG} {v1 v2 : Int} {R : Int → pG → Prop} (hc : CT d mX8_isCourt [vR 45, vI v2] g (qI R)) (k : ∀ (x : Int) (gg : pG), R x gg → EV d mX8_commute Q 18 [vR 45, vI v1, vI v2, vX 2, vX 2] [vI x] gg) : EV d mX8_commute Q 13 [vR 45, vI v1, vI v2, vX 2, vX 2] [] g := by
  refine wp_aload_n dX8_commute_13 rfl rfl ?_
  refine wp_iload_n dX8_commute_14 rfl ?_
  exact wp_callvI (As := [vI v2]) dX8_commute_15 ml_8_230 (by decide) rfl L_45 (by decide) rfl (Nat.le_of_ble_eq_true rfl) rfl (Nat.le_refl _) (Nat.le_refl _) hc k
theorem b_X8_commute_18 {d : Nat} {Q : Option pV → pG → Prop} {g : pG} {v1 v2 vs0 : Int} (k1 : (vs0 = 0) → EV d mX8_commute Q 26 [vR 45, vI v1, vI v2, vX 2, vX 2] [] g) (k2 : ¬ (vs0 = 0) → EV d mX8_commute Q 21 [vR 45, vI v1, vI v2, vX 2, vX 2] [] g) : EV d mX8_commute Q 18 [vR 45, vI v1, vI v2, vX 2, vX 2] [vI vs0] g := by
  exact wp_if_eq (tgt := 26) dX8_commute_18 rfl k1 k2
theorem b_X8_commute_21 {d : Nat} {Q : Option pV → pG → Prop} {g : pG} {v1 v2 : Int} (k1 : (v1 ≠ v2) → EV d mX8_commute Q 32 [vR 45, vI v1, vI v2, vX 2, vX 2] [] g) (k2 : ¬ (v1 ≠ v2) → EV d mX8_commute Q 26 [vR 45, vI v1, vI v2, vX 2, vX 2] [] g) : EV d mX8_commute Q 21 [vR 45, vI v1, vI v2, vX 2, vX 2] [] g := by
  refine wp_iload_n dX8_commute_21 rfl ?_
  refine wp_iload_n dX8_commute_22 rfl ?_
  exact wp_icmp_ne (tgt := 32) dX8_commute_23 rfl k1 k2
theorem b_X8_commute_26 {d : Nat} {Q : Option pV → pG → Prop} {g : pG} {v1 v2 : Int} {R : Int → pG → Prop} (hc : CT d mX8_refuse [vR 45, vI (-1)] g (qI R)) (k : ∀ (x : Int) (gg : pG), R x gg → EV d mX8_commute Q 31 [vR 45, vI v1, vI v2, vX 2, vX 2] [vI x] gg) : EV d mX8_commute Q 26 [vR 45, vI v1, vI v2, vX 2, vX 2] [] g := by
  refine wp_aload_n dX8_commute_26 rfl rfl ?_
  refine wp_iconst dX8_commute_27 kc_m1 ?_
  exact wp_callvI (As := [vI (-1)]) dX8_commute_28 ml_8_164 (by decide) rfl L_45 (by decide) rfl (Nat.le_of_ble_eq_true rfl) rfl (Nat.le_refl _) (Nat.le_refl _) hc k
theorem b_X8_commute_31 {d : Nat} {Q : Option pV → pG → Prop} {g : pG} {v1 v2 vs0 : Int} (hq : Q (some (vI vs0)) g) : EV d mX8_commute Q 31 [vR 45, vI v1, vI v2, vX 2, vX 2] [vI vs0] g := by
  exact wp_iret dX8_commute_31 rfl hq
theorem b_X8_commute_32 {d : Nat} {Q : Option pV → pG → Prop} {g : pG} {v1 v2 : Int} {R : pG → Prop} (hc : CT d mX8_think [vR 45] g (qV R)) (k : ∀ gg : pG, R gg → EV d mX8_commute Q 36 [vR 45, vI v1, vI v2, vX 2, vX 2] [] gg) : EV d mX8_commute Q 32 [vR 45, vI v1, vI v2, vX 2, vX 2] [] g := by
  refine wp_aload_n dX8_commute_32 rfl rfl ?_
  exact wp_callvV (As := []) dX8_commute_33 ml_8_158 (by decide) rfl L_45 (by decide) rfl (Nat.le_of_ble_eq_true rfl) rfl (Nat.le_refl _) (Nat.le_refl _) hc k
theorem b_X8_commute_36 {d : Nat} {Q : Option pV → pG → Prop} {g : pG} {v1 v2 : Int} {R : pG → Prop} (hc : CT d mX8_pass [vR 45, vI v1] g (qV R)) (k : ∀ gg : pG, R gg → EV d mX8_commute Q 41 [vR 45, vI v1, vI v2, vX 2, vX 2] [] gg) : EV d mX8_commute Q 36 [vR 45, vI v1, vI v2, vX 2, vX 2] [] g := by
  refine wp_aload_n dX8_commute_36 rfl rfl ?_
  refine wp_iload_n dX8_commute_37 rfl ?_
  exact wp_callvV (As := [vI v1]) dX8_commute_38 ml_8_154 (by decide) rfl L_45 (by decide) rfl (Nat.le_of_ble_eq_true rfl) rfl (Nat.le_refl _) (Nat.le_refl _) hc k
theorem b_X8_commute_41 {d : Nat} {Q : Option pV → pG → Prop} {g : pG} {v1 v2 : Int} {R : pG → Prop} (hc : CT d mX8_pass [vR 45, vI v2] g (qV R)) (k : ∀ gg : pG, R gg → EV d mX8_commute Q 46 [vR 45, vI v1, vI v2, vX 2, vX 2] [] gg) : EV d mX8_commute Q 41 [vR 45, vI v1, vI v2, vX 2, vX 2] [] g := by
  refine wp_aload_n dX8_commute_41 rfl rfl ?_
  refine wp_iload_n dX8_commute_42 rfl ?_
  exact wp_callvV (As := [vI v2]) dX8_commute_43 ml_8_154 (by decide) rfl L_45 (by decide) rfl (Nat.le_of_ble_eq_true rfl) rfl (Nat.le_refl _) (Nat.le_refl _) hc k
theorem b_X8_commute_46 {d : Nat} {Q : Option pV → pG → Prop} {g : pG} {v1 v2 : Int} (k : EV d mX8_commute Q 48 [vR 45, vI v1, vI v2, vI 0, vX 2] [] g) : EV d mX8_commute Q 46 [vR 45, vI v1, vI v2, vX 2, vX 2] [] g := by
  refine wp_iconst dX8_commute_46 kc_0 ?_
  refine wp_istore_n dX8_commute_47 (Nat.le_of_ble_eq_true rfl) (pp (c := 2) rfl rfl) ?_
  exact k
theorem b_X8_commute_48 {d : Nat} {Q : Option pV → pG → Prop} {g : pG} {v1 v2 v3 : Int} (k1 : ((g 45) 4 ≤ v3) → EV d mX8_commute Q 74 [vR 45, vI v1, vI v2, vI v3, vX 2] [] g) (k2 : ¬ ((g 45) 4 ≤ v3) → EV d mX8_commute Q 56 [vR 45, vI v1, vI v2, vI v3, vX 2] [] g) : EV d mX8_commute Q 48 [vR 45, vI v1, vI v2, vI v3, vX 2] [] g := by
  refine wp_iload_n dX8_commute_48 rfl ?_
  refine wp_aload_n dX8_commute_49 rfl rfl ?_
  refine wp_get (v := vI ((g 45) 4)) dX8_commute_50 fl_8_19 L_45 rfl ?_
  exact wp_icmp_ge (tgt := 74) dX8_commute_53 rfl k1 k2
theorem b_X8_commute_56 {d : Nat} {Q : Option pV → pG → Prop} {g : pG} {v1 v2 v3 : Int} (h1 : 0 ≤ v3) (h2 : v3 < 8) (h3 : v3 < 56) (k : EV d mX8_commute Q 48 [vR 45, vI v1, vI v2, vI (w32 (v3 + 1)), vX 2] [] (cset g 71 (fup (g 71) v3.toNat ((g 51) v3.toNat)))) : EV d mX8_commute Q 56 [vR 45, vI v1, vI v2, vI v3, vX 2] [] g := by
  refine wp_aload_n dX8_commute_56 rfl rfl ?_
  refine wp_get (v := vR 71) dX8_commute_57 fl_8_96 L_45 rfl ?_
  refine wp_iload_n dX8_commute_60 rfl ?_
  refine wp_aload_n dX8_commute_61 rfl rfl ?_
  refine wp_get (v := vR 51) dX8_commute_62 fl_8_35 L_45 rfl ?_
  refine wp_iload_n dX8_commute_65 rfl ?_
  refine wp_iaload dX8_commute_66 h1 L_51 h2 ?_
  refine wp_iastore dX8_commute_67 h1 L_71 h3 ?_
  refine wp_iinc dX8_commute_68 rfl (Nat.le_of_ble_eq_true rfl) (pp (c := 2) rfl rfl) ?_
  refine wp_goto (tgt := 48) dX8_commute_71 rfl ?_
  exact k
theorem b_X8_commute_74 {d : Nat} {Q : Option pV → pG → Prop} {g : pG} {v1 v2 v3 : Int} {R : pG → Prop} (hc : CT d mX8_think [vR 45] g (qV R)) (k : ∀ gg : pG, R gg → EV d mX8_commute Q 78 [vR 45, vI v1, vI v2, vI v3, vX 2] [] gg) : EV d mX8_commute Q 74 [vR 45, vI v1, vI v2, vI v3, vX 2] [] g := by
  refine wp_aload_n dX8_commute_74 rfl rfl ?_
  exact wp_callvV (As := []) dX8_commute_75 ml_8_158 (by decide) rfl L_45 (by decide) rfl (Nat.le_of_ble_eq_true rfl) rfl (Nat.le_refl _) (Nat.le_refl _) hc k
theorem b_X8_commute_78 {d : Nat} {Q : Option pV → pG → Prop} {g : pG} {v1 v2 v3 : Int} {R : pG → Prop} (hc : CT d mX8_pass [vR 45, vI v2] g (qV R)) (k : ∀ gg : pG, R gg → EV d mX8_commute Q 83 [vR 45, vI v1, vI v2, vI v3, vX 2] [] gg) : EV d mX8_commute Q 78 [vR 45, vI v1, vI v2, vI v3, vX 2] [] g := by
  refine wp_aload_n dX8_commute_78 rfl rfl ?_
  refine wp_iload_n dX8_commute_79 rfl ?_
  exact wp_callvV (As := [vI v2]) dX8_commute_80 ml_8_154 (by decide) rfl L_45 (by decide) rfl (Nat.le_of_ble_eq_true rfl) rfl (Nat.le_refl _) (Nat.le_refl _) hc k
theorem b_X8_commute_83 {d : Nat} {Q : Option pV → pG → Prop} {g : pG} {v1 v2 v3 : Int} {R : pG → Prop} (hc : CT d mX8_pass [vR 45, vI v1] g (qV R)) (k : ∀ gg : pG, R gg → EV d mX8_commute Q 88 [vR 45, vI v1, vI v2, vI v3, vX 2] [] gg) : EV d mX8_commute Q 83 [vR 45, vI v1, vI v2, vI v3, vX 2] [] g := by
  refine wp_aload_n dX8_commute_83 rfl rfl ?_
  refine wp_iload_n dX8_commute_84 rfl ?_
  exact wp_callvV (As := [vI v1]) dX8_commute_85 ml_8_154 (by decide) rfl L_45 (by decide) rfl (Nat.le_of_ble_eq_true rfl) rfl (Nat.le_refl _) (Nat.le_refl _) hc k
theorem b_X8_commute_88 {d : Nat} {Q : Option pV → pG → Prop} {g : pG} {v1 v2 v3 : Int} (k : EV d mX8_commute Q 93 [vR 45, vI v1, vI v2, vI 1, vI 0] [] g) : EV d mX8_commute Q 88 [vR 45, vI v1, vI v2, vI v3, vX 2] [] g := by
  refine wp_iconst dX8_commute_88 kc_1 ?_
  refine wp_istore_n dX8_commute_89 (Nat.le_of_ble_eq_true rfl) (pp (c := 2) rfl rfl) ?_
  refine wp_iconst dX8_commute_90 kc_0 ?_
  refine wp_istore dX8_commute_91 (Nat.le_of_ble_eq_true rfl) (pp (c := 3) rfl rfl) ?_
  exact k
theorem b_X8_commute_93 {d : Nat} {Q : Option pV → pG → Prop} {g : pG} {v1 v2 v3 v4 : Int} (k1 : ((g 45) 4 ≤ v4) → EV d mX8_commute Q 135 [vR 45, vI v1, vI v2, vI v3, vI v4] [] g) (k2 : ¬ ((g 45) 4 ≤ v4) → EV d mX8_commute Q 102 [vR 45, vI v1, vI v2, vI v3, vI v4] [] g) : EV d mX8_commute Q 93 [vR 45, vI v1, vI v2, vI v3, vI v4] [] g := by
  refine wp_iload dX8_commute_93 rfl ?_
  refine wp_aload_n dX8_commute_95 rfl rfl ?_
  refine wp_get (v := vI ((g 45) 4)) dX8_commute_96 fl_8_19 L_45 rfl ?_
  exact wp_icmp_ge (tgt := 135) dX8_commute_99 rfl k1 k2
theorem b_X8_commute_102 {d : Nat} {Q : Option pV → pG → Prop} {g : pG} {v1 v2 v3 v4 : Int} (k1 : (v3 = 0) → EV d mX8_commute Q 127 [vR 45, vI v1, vI v2, vI v3, vI v4] [] g) (k2 : ¬ (v3 = 0) → EV d mX8_commute Q 106 [vR 45, vI v1, vI v2, vI v3, vI v4] [] g) : EV d mX8_commute Q 102 [vR 45, vI v1, vI v2, vI v3, vI v4] [] g := by
  refine wp_iload_n dX8_commute_102 rfl ?_
  exact wp_if_eq (tgt := 127) dX8_commute_103 rfl k1 k2
theorem b_X8_commute_106 {d : Nat} {Q : Option pV → pG → Prop} {g : pG} {v1 v2 v3 v4 : Int} (h1 : 0 ≤ v4) (h2 : v4 < 56) (h3 : v4 < 8) (k1 : ((g 71) v4.toNat ≠ (g 51) v4.toNat) → EV d mX8_commute Q 127 [vR 45, vI v1, vI v2, vI v3, vI v4] [] g) (k2 : ¬ ((g 71) v4.toNat ≠ (g 51) v4.toNat) → EV d mX8_commute Q 123 [vR 45, vI v1, vI v2, vI v3, vI v4] [] g) : EV d mX8_commute Q 106 [vR 45, vI v1, vI v2, vI v3, vI v4] [] g := by
  refine wp_aload_n dX8_commute_106 rfl rfl ?_
  refine wp_get (v := vR 71) dX8_commute_107 fl_8_96 L_45 rfl ?_
  refine wp_iload dX8_commute_110 rfl ?_
  refine wp_iaload dX8_commute_112 h1 L_71 h2 ?_
  refine wp_aload_n dX8_commute_113 rfl rfl ?_
  refine wp_get (v := vR 51) dX8_commute_114 fl_8_35 L_45 rfl ?_
  refine wp_iload dX8_commute_117 rfl ?_
  refine wp_iaload dX8_commute_119 h1 L_51 h3 ?_
  exact wp_icmp_ne (tgt := 127) dX8_commute_120 rfl k1 k2
theorem b_X8_commute_123 {d : Nat} {Q : Option pV → pG → Prop} {g : pG} {v1 v2 v3 v4 : Int} (k : EV d mX8_commute Q 93 [vR 45, vI v1, vI v2, vI 1, vI (w32 (v4 + 1))] [] g) : EV d mX8_commute Q 123 [vR 45, vI v1, vI v2, vI v3, vI v4] [] g := by
  refine wp_iconst dX8_commute_123 kc_1 ?_
  refine wp_goto (tgt := 128) dX8_commute_124 rfl ?_
  refine wp_istore_n dX8_commute_128 (Nat.le_of_ble_eq_true rfl) (pp (c := 2) rfl rfl) ?_
  refine wp_iinc dX8_commute_129 rfl (Nat.le_of_ble_eq_true rfl) (pp (c := 3) rfl rfl) ?_
  refine wp_goto (tgt := 93) dX8_commute_132 rfl ?_
  exact k
theorem b_X8_commute_127 {d : Nat} {Q : Option pV → pG → Prop} {g : pG} {v1 v2 v3 v4 : Int} (k : EV d mX8_commute Q 93 [vR 45, vI v1, vI v2, vI 0, vI (w32 (v4 + 1))] [] g) : EV d mX8_commute Q 127 [vR 45, vI v1, vI v2, vI v3, vI v4] [] g := by
  refine wp_iconst dX8_commute_127 kc_0 ?_
  refine wp_istore_n dX8_commute_128 (Nat.le_of_ble_eq_true rfl) (pp (c := 2) rfl rfl) ?_
  refine wp_iinc dX8_commute_129 rfl (Nat.le_of_ble_eq_true rfl) (pp (c := 3) rfl rfl) ?_
  refine wp_goto (tgt := 93) dX8_commute_132 rfl ?_
  exact k
theorem b_X8_commute_135 {d : Nat} {Q : Option pV → pG → Prop} {g : pG} {v1 v2 v3 v4 : Int} (k1 : (v3 = 0) → EV d mX8_commute Q 143 [vR 45, vI v1, vI v2, vI v3, vI v4] [] g) (k2 : ¬ (v3 = 0) → EV d mX8_commute Q 139 [vR 45, vI v1, vI v2, vI v3, vI v4] [] g) : EV d mX8_commute Q 135 [vR 45, vI v1, vI v2, vI v3, vI v4] [] g := by
  refine wp_iload_n dX8_commute_135 rfl ?_
  exact wp_if_eq (tgt := 143) dX8_commute_136 rfl k1 k2
theorem b_X8_commute_139 {d : Nat} {Q : Option pV → pG → Prop} {g : pG} {v1 v2 v3 v4 : Int} (hq : Q (some (vI 1)) g) : EV d mX8_commute Q 139 [vR 45, vI v1, vI v2, vI v3, vI v4] [] g := by
  refine wp_iconst dX8_commute_139 kc_1 ?_
  refine wp_goto (tgt := 144) dX8_commute_140 rfl ?_
  exact wp_iret dX8_commute_144 rfl hq
theorem b_X8_commute_143 {d : Nat} {Q : Option pV → pG → Prop} {g : pG} {v1 v2 v3 v4 : Int} (hq : Q (some (vI 0)) g) : EV d mX8_commute Q 143 [vR 45, vI v1, vI v2, vI v3, vI v4] [] g := by
  refine wp_iconst dX8_commute_143 kc_0 ?_
  exact wp_iret dX8_commute_144 rfl hq
theorem b_X8_again_0 {d : Nat} {Q : Option pV → pG → Prop} {g : pG} {v1 v2 : Int} {R : Int → pG → Prop} (hc : CT d mX8_isCourt [vR 45, vI v1] (cset g 45 (fup (g 45) 8 0)) (qI R)) (k : ∀ (x : Int) (gg : pG), R x gg → EV d mX8_again Q 10 [vR 45, vI v1, vI v2, vX 2, vX 2, vX 2] [vI x] gg) : EV d mX8_again Q 0 [vR 45, vI v1, vI v2, vX 2, vX 2, vX 2] [] g := by
  refine wp_aload_n dX8_again_0 rfl rfl ?_
  refine wp_iconst dX8_again_1 kc_0 ?_
  refine wp_putI dX8_again_2 fl_8_105 L_45 rfl rfl ?_
  refine wp_aload_n dX8_again_5 rfl rfl ?_
  refine wp_iload_n dX8_again_6 rfl ?_
  exact wp_callvI (As := [vI v1]) dX8_again_7 ml_8_230 (by decide) rfl L_45 (by decide) rfl (Nat.le_of_ble_eq_true rfl) rfl (Nat.le_refl _) (Nat.le_refl _) hc k
theorem b_X8_again_10 {d : Nat} {Q : Option pV → pG → Prop} {g : pG} {v1 v2 vs0 : Int} (k1 : (vs0 = 0) → EV d mX8_again Q 22 [vR 45, vI v1, vI v2, vX 2, vX 2, vX 2] [] g) (k2 : ¬ (vs0 = 0) → EV d mX8_again Q 13 [vR 45, vI v1, vI v2, vX 2, vX 2, vX 2] [] g) : EV d mX8_again Q 10 [vR 45, vI v1, vI v2, vX 2, vX 2, vX 2] [vI vs0] g := by
  exact wp_if_eq (tgt := 22) dX8_again_10 rfl k1 k2
theorem b_X8_again_13 {d : Nat} {Q : Option pV → pG → Prop} {g : pG} {v1 v2 : Int} {R : Int → pG → Prop} (hc : CT d mX8_wrongBit [vI 0, vI v2, vI 1] g (qI R)) (k : ∀ (x : Int) (gg : pG), R x gg → EV d mX8_again Q 19 [vR 45, vI v1, vI v2, vX 2, vX 2, vX 2] [vI x] gg) : EV d mX8_again Q 13 [vR 45, vI v1, vI v2, vX 2, vX 2, vX 2] [] g := by
  refine wp_iconst dX8_again_13 kc_0 ?_
  refine wp_iload_n dX8_again_14 rfl ?_
  refine wp_iconst dX8_again_15 kc_1 ?_
  exact wp_callsI (As := [vI 0, vI v2, vI 1]) dX8_again_16 ml_8_279 (Or.inl rfl) rfl (Nat.le_of_ble_eq_true rfl) rfl (Nat.le_refl _) (Nat.le_refl _) hc k
theorem b_X8_again_19 {d : Nat} {Q : Option pV → pG → Prop} {g : pG} {v1 v2 vs0 : Int} (k1 : (0 ≤ vs0) → EV d mX8_again Q 34 [vR 45, vI v1, vI v2, vI vs0, vX 2, vX 2] [] g) (k2 : ¬ (0 ≤ vs0) → EV d mX8_again Q 28 [vR 45, vI v1, vI v2, vI vs0, vX 2, vX 2] [] g) : EV d mX8_again Q 19 [vR 45, vI v1, vI v2, vX 2, vX 2, vX 2] [vI vs0] g := by
  refine wp_goto (tgt := 23) dX8_again_19 rfl ?_
  refine wp_istore_n dX8_again_23 (Nat.le_of_ble_eq_true rfl) (pp (c := 2) rfl rfl) ?_
  refine wp_iload_n dX8_again_24 rfl ?_
  exact wp_if_ge (tgt := 34) dX8_again_25 rfl k1 k2
theorem b_X8_again_22 {d : Nat} {Q : Option pV → pG → Prop} {g : pG} {v1 v2 : Int} {R : Int → pG → Prop} (hc : CT d mX8_refuse [vR 45, vI (-1)] g (qI R)) (k : ∀ (x : Int) (gg : pG), R x gg → EV d mX8_again Q 33 [vR 45, vI v1, vI v2, vI (-1), vX 2, vX 2] [vI x] gg) : EV d mX8_again Q 22 [vR 45, vI v1, vI v2, vX 2, vX 2, vX 2] [] g := by
  refine wp_iconst dX8_again_22 kc_m1 ?_
  refine wp_istore_n dX8_again_23 (Nat.le_of_ble_eq_true rfl) (pp (c := 2) rfl rfl) ?_
  refine wp_iload_n dX8_again_24 rfl ?_
  refine wp_if_ge (tgt := 34) dX8_again_25 rfl (fun hh => absurd hh (by decide)) (fun _ => ?_)
  refine wp_aload_n dX8_again_28 rfl rfl ?_
  refine wp_iload_n dX8_again_29 rfl ?_
  exact wp_callvI (As := [vI (-1)]) dX8_again_30 ml_8_164 (by decide) rfl L_45 (by decide) rfl (Nat.le_of_ble_eq_true rfl) rfl (Nat.le_refl _) (Nat.le_refl _) hc k
theorem b_X8_again_28 {d : Nat} {Q : Option pV → pG → Prop} {g : pG} {v1 v2 v3 : Int} {R : Int → pG → Prop} (hc : CT d mX8_refuse [vR 45, vI v3] g (qI R)) (k : ∀ (x : Int) (gg : pG), R x gg → EV d mX8_again Q 33 [vR 45, vI v1, vI v2, vI v3, vX 2, vX 2] [vI x] gg) : EV d mX8_again Q 28 [vR 45, vI v1, vI v2, vI v3, vX 2, vX 2] [] g := by
  refine wp_aload_n dX8_again_28 rfl rfl ?_
  refine wp_iload_n dX8_again_29 rfl ?_
  exact wp_callvI (As := [vI v3]) dX8_again_30 ml_8_164 (by decide) rfl L_45 (by decide) rfl (Nat.le_of_ble_eq_true rfl) rfl (Nat.le_refl _) (Nat.le_refl _) hc k
theorem b_X8_again_33 {d : Nat} {Q : Option pV → pG → Prop} {g : pG} {v1 v2 v3 vs0 : Int} (hq : Q (some (vI vs0)) g) : EV d mX8_again Q 33 [vR 45, vI v1, vI v2, vI v3, vX 2, vX 2] [vI vs0] g := by
  exact wp_iret dX8_again_33 rfl hq
theorem b_X8_again_34 {d : Nat} {Q : Option pV → pG → Prop} {g : pG} {v1 v2 v3 : Int} {R : pG → Prop} (hc : CT d mX8_think [vR 45] g (qV R)) (k : ∀ gg : pG, R gg → EV d mX8_again Q 38 [vR 45, vI v1, vI v2, vI v3, vX 2, vX 2] [] gg) : EV d mX8_again Q 34 [vR 45, vI v1, vI v2, vI v3, vX 2, vX 2] [] g := by
  refine wp_aload_n dX8_again_34 rfl rfl ?_
  exact wp_callvV (As := []) dX8_again_35 ml_8_158 (by decide) rfl L_45 (by decide) rfl (Nat.le_of_ble_eq_true rfl) rfl (Nat.le_refl _) (Nat.le_refl _) hc k
theorem b_X8_again_38 {d : Nat} {Q : Option pV → pG → Prop} {g : pG} {v1 v2 v3 : Int} (k : EV d mX8_again Q 41 [vR 45, vI v1, vI v2, vI v3, vI 0, vX 2] [] g) : EV d mX8_again Q 38 [vR 45, vI v1, vI v2, vI v3, vX 2, vX 2] [] g := by
  refine wp_iconst dX8_again_38 kc_0 ?_
  refine wp_istore dX8_again_39 (Nat.le_of_ble_eq_true rfl) (pp (c := 3) rfl rfl) ?_
  exact k
theorem b_X8_again_41 {d : Nat} {Q : Option pV → pG → Prop} {g : pG} {v1 v2 v3 v4 : Int} {u5 : pV} (k1 : (60 < v4) → EV d mX8_again Q 135 [vR 45, vI v1, vI v2, vI v3, vI v4, u5] [] g) (k2 : ¬ (60 < v4) → EV d mX8_again Q 48 [vR 45, vI v1, vI v2, vI v3, vI v4, u5] [] g) : EV d mX8_again Q 41 [vR 45, vI v1, vI v2, vI v3, vI v4, u5] [] g := by
  refine wp_iload dX8_again_41 rfl ?_
  refine wp_bipush dX8_again_43 kb_60 kc_60 ?_
  exact wp_icmp_gt (tgt := 135) dX8_again_45 rfl k1 k2
theorem b_X8_again_48 {d : Nat} {Q : Option pV → pG → Prop} {g : pG} {v1 v2 v3 v4 : Int} {u5 : pV} (k : EV d mX8_again Q 51 [vR 45, vI v1, vI v2, vI v3, vI v4, vI 0] [] g) : EV d mX8_again Q 48 [vR 45, vI v1, vI v2, vI v3, vI v4, u5] [] g := by
  refine wp_iconst dX8_again_48 kc_0 ?_
  refine wp_istore dX8_again_49 (Nat.le_of_ble_eq_true rfl) (pp (c := 4) rfl rfl) ?_
  exact k
theorem b_X8_again_51 {d : Nat} {Q : Option pV → pG → Prop} {g : pG} {v1 v2 v3 v4 v5 : Int} (k1 : (v4 ≤ v5) → EV d mX8_again Q 88 [vR 45, vI v1, vI v2, vI v3, vI v4, vI v5] [] g) (k2 : ¬ (v4 ≤ v5) → EV d mX8_again Q 58 [vR 45, vI v1, vI v2, vI v3, vI v4, vI v5] [] g) : EV d mX8_again Q 51 [vR 45, vI v1, vI v2, vI v3, vI v4, vI v5] [] g := by
  refine wp_iload dX8_again_51 rfl ?_
  refine wp_iload dX8_again_53 rfl ?_
  exact wp_icmp_ge (tgt := 88) dX8_again_55 rfl k1 k2
theorem b_X8_again_58 {d : Nat} {Q : Option pV → pG → Prop} {g : pG} {v1 v2 v3 v4 v5 : Int} {R : Int → pG → Prop} (hc : CT d mX8_isAsAt [vR 45, vI v5] g (qI R)) (k : ∀ (x : Int) (gg : pG), R x gg → EV d mX8_again Q 64 [vR 45, vI v1, vI v2, vI v3, vI v4, vI v5] [vI x] gg) : EV d mX8_again Q 58 [vR 45, vI v1, vI v2, vI v3, vI v4, vI v5] [] g := by
  refine wp_aload_n dX8_again_58 rfl rfl ?_
  refine wp_iload dX8_again_59 rfl ?_
  exact wp_callvI (As := [vI v5]) dX8_again_61 ml_8_339 (by decide) rfl L_45 (by decide) rfl (Nat.le_of_ble_eq_true rfl) rfl (Nat.le_refl _) (Nat.le_refl _) hc k
theorem b_X8_again_64 {d : Nat} {Q : Option pV → pG → Prop} {g : pG} {v1 v2 v3 v4 v5 vs0 : Int} (k1 : (vs0 = 0) → EV d mX8_again Q 82 [vR 45, vI v1, vI v2, vI v3, vI v4, vI v5] [] g) (k2 : ¬ (vs0 = 0) → EV d mX8_again Q 67 [vR 45, vI v1, vI v2, vI v3, vI v4, vI v5] [] g) : EV d mX8_again Q 64 [vR 45, vI v1, vI v2, vI v3, vI v4, vI v5] [vI vs0] g := by
  exact wp_if_eq (tgt := 82) dX8_again_64 rfl k1 k2
theorem b_X8_again_67 {d : Nat} {Q : Option pV → pG → Prop} {g : pG} {v1 v2 v3 v4 v5 : Int} (k1 : (v2 ≠ 0) → EV d mX8_again Q 76 [vR 45, vI v1, vI v2, vI v3, vI v4, vI v5] [] g) (k2 : ¬ (v2 ≠ 0) → EV d mX8_again Q 71 [vR 45, vI v1, vI v2, vI v3, vI v4, vI v5] [] g) : EV d mX8_again Q 67 [vR 45, vI v1, vI v2, vI v3, vI v4, vI v5] [] g := by
  refine wp_iload_n dX8_again_67 rfl ?_
  exact wp_if_ne (tgt := 76) dX8_again_68 rfl k1 k2
theorem b_X8_again_71 {d : Nat} {Q : Option pV → pG → Prop} {g : pG} {v1 v2 v3 v4 v5 : Int} (hq : Q (some (vI v4)) g) : EV d mX8_again Q 71 [vR 45, vI v1, vI v2, vI v3, vI v4, vI v5] [] g := by
  refine wp_iload dX8_again_71 rfl ?_
  refine wp_goto (tgt := 81) dX8_again_73 rfl ?_
  exact wp_iret dX8_again_81 rfl hq
theorem b_X8_again_76 {d : Nat} {Q : Option pV → pG → Prop} {g : pG} {v1 v2 v3 v4 v5 : Int} (hq : Q (some (vI (w32 (v4 - v5)))) g) : EV d mX8_again Q 76 [vR 45, vI v1, vI v2, vI v3, vI v4, vI v5] [] g := by
  refine wp_iload dX8_again_76 rfl ?_
  refine wp_iload dX8_again_78 rfl ?_
  refine wp_isub dX8_again_80 ?_
  exact wp_iret dX8_again_81 rfl hq
theorem b_X8_again_82 {d : Nat} {Q : Option pV → pG → Prop} {g : pG} {v1 v2 v3 v4 v5 : Int} (k : EV d mX8_again Q 51 [vR 45, vI v1, vI v2, vI v3, vI v4, vI (w32 (v5 + 1))] [] g) : EV d mX8_again Q 82 [vR 45, vI v1, vI v2, vI v3, vI v4, vI v5] [] g := by
  refine wp_iinc dX8_again_82 rfl (Nat.le_of_ble_eq_true rfl) (pp (c := 4) rfl rfl) ?_
  refine wp_goto (tgt := 51) dX8_again_85 rfl ?_
  exact k
theorem b_X8_again_88 {d : Nat} {Q : Option pV → pG → Prop} {g : pG} {v1 v2 v3 v4 v5 : Int} (k : EV d mX8_again Q 91 [vR 45, vI v1, vI v2, vI v3, vI v4, vI 0] [] g) : EV d mX8_again Q 88 [vR 45, vI v1, vI v2, vI v3, vI v4, vI v5] [] g := by
  refine wp_iconst dX8_again_88 kc_0 ?_
  refine wp_istore dX8_again_89 (Nat.le_of_ble_eq_true rfl) (pp (c := 4) rfl rfl) ?_
  exact k
theorem b_X8_again_91 {d : Nat} {Q : Option pV → pG → Prop} {g : pG} {v1 v2 v3 v4 v5 : Int} (k1 : (8 ≤ v5) → EV d mX8_again Q 124 [vR 45, vI v1, vI v2, vI v3, vI v4, vI v5] [] g) (k2 : ¬ (8 ≤ v5) → EV d mX8_again Q 98 [vR 45, vI v1, vI v2, vI v3, vI v4, vI v5] [] g) : EV d mX8_again Q 91 [vR 45, vI v1, vI v2, vI v3, vI v4, vI v5] [] g := by
  refine wp_iload dX8_again_91 rfl ?_
  refine wp_bipush dX8_again_93 kb_8 kc_8 ?_
  exact wp_icmp_ge (tgt := 124) dX8_again_95 rfl k1 k2
theorem b_X8_again_98 {d : Nat} {Q : Option pV → pG → Prop} {g : pG} {v1 v2 v3 v4 v5 : Int} (h1 : 0 ≤ v5) (h2 : v5 < 8) (h3 : 0 ≤ w32 ((w32 (8 * v4)) + v5)) (h4 : w32 ((w32 (8 * v4)) + v5) < 488) (k : EV d mX8_again Q 91 [vR 45, vI v1, vI v2, vI v3, vI v4, vI (w32 (v5 + 1))] [] (cset g 73 (fup (g 73) (w32 ((w32 (8 * v4)) + v5)).toNat ((g 51) v5.toNat)))) : EV d mX8_again Q 98 [vR 45, vI v1, vI v2, vI v3, vI v4, vI v5] [] g := by
  refine wp_aload_n dX8_again_98 rfl rfl ?_
  refine wp_get (v := vR 73) dX8_again_99 fl_8_102 L_45 rfl ?_
  refine wp_bipush dX8_again_102 kb_8 kc_8 ?_
  refine wp_iload dX8_again_104 rfl ?_
  refine wp_imul dX8_again_106 ?_
  refine wp_iload dX8_again_107 rfl ?_
  refine wp_iadd dX8_again_109 ?_
  refine wp_aload_n dX8_again_110 rfl rfl ?_
  refine wp_get (v := vR 51) dX8_again_111 fl_8_35 L_45 rfl ?_
  refine wp_iload dX8_again_114 rfl ?_
  refine wp_iaload dX8_again_116 h1 L_51 h2 ?_
  refine wp_iastore dX8_again_117 h3 L_73 h4 ?_
  refine wp_iinc dX8_again_118 rfl (Nat.le_of_ble_eq_true rfl) (pp (c := 4) rfl rfl) ?_
  refine wp_goto (tgt := 91) dX8_again_121 rfl ?_
  exact k
theorem b_X8_again_124 {d : Nat} {Q : Option pV → pG → Prop} {g : pG} {v1 v2 v3 v4 v5 : Int} {R : pG → Prop} (hc : CT d mX8_pass [vR 45, vI v1] g (qV R)) (k : ∀ gg : pG, R gg → EV d mX8_again Q 129 [vR 45, vI v1, vI v2, vI v3, vI v4, vI v5] [] gg) : EV d mX8_again Q 124 [vR 45, vI v1, vI v2, vI v3, vI v4, vI v5] [] g := by
  refine wp_aload_n dX8_again_124 rfl rfl ?_
  refine wp_iload_n dX8_again_125 rfl ?_
  exact wp_callvV (As := [vI v1]) dX8_again_126 ml_8_154 (by decide) rfl L_45 (by decide) rfl (Nat.le_of_ble_eq_true rfl) rfl (Nat.le_refl _) (Nat.le_refl _) hc k
theorem b_X8_again_129 {d : Nat} {Q : Option pV → pG → Prop} {g : pG} {v1 v2 v3 v4 v5 : Int} (k : EV d mX8_again Q 41 [vR 45, vI v1, vI v2, vI v3, vI (w32 (v4 + 1)), vI v5] [] g) : EV d mX8_again Q 129 [vR 45, vI v1, vI v2, vI v3, vI v4, vI v5] [] g := by
  refine wp_iinc dX8_again_129 rfl (Nat.le_of_ble_eq_true rfl) (pp (c := 3) rfl rfl) ?_
  refine wp_goto (tgt := 41) dX8_again_132 rfl ?_
  exact k
theorem b_X8_again_135 {d : Nat} {Q : Option pV → pG → Prop} {g : pG} {v1 v2 v3 v4 : Int} {u5 : pV} (hq : Q (some (vI (-9))) g) : EV d mX8_again Q 135 [vR 45, vI v1, vI v2, vI v3, vI v4, u5] [] g := by
  refine wp_bipush dX8_again_135 kb_m9 kc_m9 ?_
  exact wp_iret dX8_again_137 rfl hq
theorem b_X8_isAsAt_0 {d : Nat} {Q : Option pV → pG → Prop} {g : pG} {v1 : Int} (k : EV d mX8_isAsAt Q 4 [vR 45, vI v1, vI 1, vI 0] [] g) : EV d mX8_isAsAt Q 0 [vR 45, vI v1, vX 2, vX 2] [] g := by
  refine wp_iconst dX8_isAsAt_0 kc_1 ?_
  refine wp_istore_n dX8_isAsAt_1 (Nat.le_of_ble_eq_true rfl) (pp (c := 1) rfl rfl) ?_
  refine wp_iconst dX8_isAsAt_2 kc_0 ?_
  refine wp_istore_n dX8_isAsAt_3 (Nat.le_of_ble_eq_true rfl) (pp (c := 2) rfl rfl) ?_
  exact k
theorem b_X8_isAsAt_4 {d : Nat} {Q : Option pV → pG → Prop} {g : pG} {v1 v2 v3 : Int} (k1 : ((g 45) 4 ≤ v3) → EV d mX8_isAsAt Q 48 [vR 45, vI v1, vI v2, vI v3] [] g) (k2 : ¬ ((g 45) 4 ≤ v3) → EV d mX8_isAsAt Q 12 [vR 45, vI v1, vI v2, vI v3] [] g) : EV d mX8_isAsAt Q 4 [vR 45, vI v1, vI v2, vI v3] [] g := by
  refine wp_iload_n dX8_isAsAt_4 rfl ?_
  refine wp_aload_n dX8_isAsAt_5 rfl rfl ?_
  refine wp_get (v := vI ((g 45) 4)) dX8_isAsAt_6 fl_8_19 L_45 rfl ?_
  exact wp_icmp_ge (tgt := 48) dX8_isAsAt_9 rfl k1 k2
theorem b_X8_isAsAt_12 {d : Nat} {Q : Option pV → pG → Prop} {g : pG} {v1 v2 v3 : Int} (k1 : (v2 = 0) → EV d mX8_isAsAt Q 40 [vR 45, vI v1, vI v2, vI v3] [] g) (k2 : ¬ (v2 = 0) → EV d mX8_isAsAt Q 16 [vR 45, vI v1, vI v2, vI v3] [] g) : EV d mX8_isAsAt Q 12 [vR 45, vI v1, vI v2, vI v3] [] g := by
  refine wp_iload_n dX8_isAsAt_12 rfl ?_
  exact wp_if_eq (tgt := 40) dX8_isAsAt_13 rfl k1 k2
theorem b_X8_isAsAt_16 {d : Nat} {Q : Option pV → pG → Prop} {g : pG} {v1 v2 v3 : Int} (h1 : 0 ≤ w32 ((w32 (8 * v1)) + v3)) (h2 : w32 ((w32 (8 * v1)) + v3) < 488) (h3 : 0 ≤ v3) (h4 : v3 < 8) (k1 : ((g 73) (w32 ((w32 (8 * v1)) + v3)).toNat ≠ (g 51) v3.toNat) → EV d mX8_isAsAt Q 40 [vR 45, vI v1, vI v2, vI v3] [] g) (k2 : ¬ ((g 73) (w32 ((w32 (8 * v1)) + v3)).toNat ≠ (g 51) v3.toNat) → EV d mX8_isAsAt Q 36 [vR 45, vI v1, vI v2, vI v3] [] g) : EV d mX8_isAsAt Q 16 [vR 45, vI v1, vI v2, vI v3] [] g := by
  refine wp_aload_n dX8_isAsAt_16 rfl rfl ?_
  refine wp_get (v := vR 73) dX8_isAsAt_17 fl_8_102 L_45 rfl ?_
  refine wp_bipush dX8_isAsAt_20 kb_8 kc_8 ?_
  refine wp_iload_n dX8_isAsAt_22 rfl ?_
  refine wp_imul dX8_isAsAt_23 ?_
  refine wp_iload_n dX8_isAsAt_24 rfl ?_
  refine wp_iadd dX8_isAsAt_25 ?_
  refine wp_iaload dX8_isAsAt_26 h1 L_73 h2 ?_
  refine wp_aload_n dX8_isAsAt_27 rfl rfl ?_
  refine wp_get (v := vR 51) dX8_isAsAt_28 fl_8_35 L_45 rfl ?_
  refine wp_iload_n dX8_isAsAt_31 rfl ?_
  refine wp_iaload dX8_isAsAt_32 h3 L_51 h4 ?_
  exact wp_icmp_ne (tgt := 40) dX8_isAsAt_33 rfl k1 k2
theorem b_X8_isAsAt_36 {d : Nat} {Q : Option pV → pG → Prop} {g : pG} {v1 v2 v3 : Int} (k : EV d mX8_isAsAt Q 4 [vR 45, vI v1, vI 1, vI (w32 (v3 + 1))] [] g) : EV d mX8_isAsAt Q 36 [vR 45, vI v1, vI v2, vI v3] [] g := by
  refine wp_iconst dX8_isAsAt_36 kc_1 ?_
  refine wp_goto (tgt := 41) dX8_isAsAt_37 rfl ?_
  refine wp_istore_n dX8_isAsAt_41 (Nat.le_of_ble_eq_true rfl) (pp (c := 1) rfl rfl) ?_
  refine wp_iinc dX8_isAsAt_42 rfl (Nat.le_of_ble_eq_true rfl) (pp (c := 2) rfl rfl) ?_
  refine wp_goto (tgt := 4) dX8_isAsAt_45 rfl ?_
  exact k
theorem b_X8_isAsAt_40 {d : Nat} {Q : Option pV → pG → Prop} {g : pG} {v1 v2 v3 : Int} (k : EV d mX8_isAsAt Q 4 [vR 45, vI v1, vI 0, vI (w32 (v3 + 1))] [] g) : EV d mX8_isAsAt Q 40 [vR 45, vI v1, vI v2, vI v3] [] g := by
  refine wp_iconst dX8_isAsAt_40 kc_0 ?_
  refine wp_istore_n dX8_isAsAt_41 (Nat.le_of_ble_eq_true rfl) (pp (c := 1) rfl rfl) ?_
  refine wp_iinc dX8_isAsAt_42 rfl (Nat.le_of_ble_eq_true rfl) (pp (c := 2) rfl rfl) ?_
  refine wp_goto (tgt := 4) dX8_isAsAt_45 rfl ?_
  exact k
theorem b_X8_isAsAt_48 {d : Nat} {Q : Option pV → pG → Prop} {g : pG} {v1 v2 v3 : Int} (h1 : v2 = 0 ∨ v2 = 1) (hq : Q (some (vI v2)) g) : EV d mX8_isAsAt Q 48 [vR 45, vI v1, vI v2, vI v3] [] g := by
  refine wp_iload_n dX8_isAsAt_48 rfl ?_
  exact wp_zret dX8_isAsAt_49 rfl h1 hq
theorem b_X8_bestLowest_0 {d : Nat} {Q : Option pV → pG → Prop} {g : pG} {v1 : Int} {R : Int → pG → Prop} (hc : CT d mX8_wrongNumber [vI v1, vI 0, vI 9] (cset g 45 (fup (g 45) 8 0)) (qI R)) (k : ∀ (x : Int) (gg : pG), R x gg → EV d mX8_bestLowest Q 12 [vR 45, vI v1, vX 2, vX 2, vX 2] [vI x] gg) : EV d mX8_bestLowest Q 0 [vR 45, vI v1, vX 2, vX 2, vX 2] [] g := by
  refine wp_aload_n dX8_bestLowest_0 rfl rfl ?_
  refine wp_iconst dX8_bestLowest_1 kc_0 ?_
  refine wp_putI dX8_bestLowest_2 fl_8_105 L_45 rfl rfl ?_
  refine wp_iload_n dX8_bestLowest_5 rfl ?_
  refine wp_iconst dX8_bestLowest_6 kc_0 ?_
  refine wp_bipush dX8_bestLowest_7 kb_9 kc_9 ?_
  exact wp_callsI (As := [vI v1, vI 0, vI 9]) dX8_bestLowest_9 ml_8_235 (Or.inl rfl) rfl (Nat.le_of_ble_eq_true rfl) rfl (Nat.le_refl _) (Nat.le_refl _) hc k
theorem b_X8_bestLowest_12 {d : Nat} {Q : Option pV → pG → Prop} {g : pG} {v1 vs0 : Int} (k1 : (0 ≤ vs0) → EV d mX8_bestLowest Q 27 [vR 45, vI v1, vX 2, vX 2, vX 2] [] g) (k2 : ¬ (0 ≤ vs0) → EV d mX8_bestLowest Q 15 [vR 45, vI v1, vX 2, vX 2, vX 2] [] g) : EV d mX8_bestLowest Q 12 [vR 45, vI v1, vX 2, vX 2, vX 2] [vI vs0] g := by
  exact wp_if_ge (tgt := 27) dX8_bestLowest_12 rfl k1 k2
theorem b_X8_bestLowest_15 {d : Nat} {Q : Option pV → pG → Prop} {g : pG} {v1 : Int} {R : Int → pG → Prop} (hc : CT d mX8_wrongNumber [vI v1, vI 0, vI 9] g (qI R)) (k : ∀ (x : Int) (gg : pG), R x gg → EV d mX8_bestLowest Q 23 [vR 45, vI v1, vX 2, vX 2, vX 2] [vI x, vR 45] gg) : EV d mX8_bestLowest Q 15 [vR 45, vI v1, vX 2, vX 2, vX 2] [] g := by
  refine wp_aload_n dX8_bestLowest_15 rfl rfl ?_
  refine wp_iload_n dX8_bestLowest_16 rfl ?_
  refine wp_iconst dX8_bestLowest_17 kc_0 ?_
  refine wp_bipush dX8_bestLowest_18 kb_9 kc_9 ?_
  exact wp_callsI (As := [vI v1, vI 0, vI 9]) dX8_bestLowest_20 ml_8_235 (Or.inl rfl) rfl (Nat.le_of_ble_eq_true rfl) rfl (Nat.le_refl _) (Nat.le_refl _) hc k
theorem b_X8_bestLowest_23 {d : Nat} {Q : Option pV → pG → Prop} {g : pG} {v1 vs1 : Int} {R : Int → pG → Prop} (hc : CT d mX8_refuse [vR 45, vI vs1] g (qI R)) (k : ∀ (x : Int) (gg : pG), R x gg → EV d mX8_bestLowest Q 26 [vR 45, vI v1, vX 2, vX 2, vX 2] [vI x] gg) : EV d mX8_bestLowest Q 23 [vR 45, vI v1, vX 2, vX 2, vX 2] [vI vs1, vR 45] g := by
  exact wp_callvI (As := [vI vs1]) dX8_bestLowest_23 ml_8_164 (by decide) rfl L_45 (by decide) rfl (Nat.le_of_ble_eq_true rfl) rfl (Nat.le_refl _) (Nat.le_refl _) hc k
theorem b_X8_bestLowest_26 {d : Nat} {Q : Option pV → pG → Prop} {g : pG} {v1 vs0 : Int} (hq : Q (some (vI vs0)) g) : EV d mX8_bestLowest Q 26 [vR 45, vI v1, vX 2, vX 2, vX 2] [vI vs0] g := by
  exact wp_iret dX8_bestLowest_26 rfl hq
theorem b_X8_bestLowest_27 {d : Nat} {Q : Option pV → pG → Prop} {g : pG} {v1 : Int} (k : EV d mX8_bestLowest Q 36 [vR 45, vI v1, vI 0, vI (-999), vI 0] [] g) : EV d mX8_bestLowest Q 27 [vR 45, vI v1, vX 2, vX 2, vX 2] [] g := by
  refine wp_iconst dX8_bestLowest_27 kc_0 ?_
  refine wp_istore_n dX8_bestLowest_28 (Nat.le_of_ble_eq_true rfl) (pp (c := 1) rfl rfl) ?_
  refine wp_sipush dX8_bestLowest_29 ks_m999 kc_m999 ?_
  refine wp_istore_n dX8_bestLowest_32 (Nat.le_of_ble_eq_true rfl) (pp (c := 2) rfl rfl) ?_
  refine wp_iconst dX8_bestLowest_33 kc_0 ?_
  refine wp_istore dX8_bestLowest_34 (Nat.le_of_ble_eq_true rfl) (pp (c := 3) rfl rfl) ?_
  exact k
theorem b_X8_bestLowest_36 {d : Nat} {Q : Option pV → pG → Prop} {g : pG} {v1 v2 v3 v4 : Int} (k1 : (6 ≤ v4) → EV d mX8_bestLowest Q 114 [vR 45, vI v1, vI v2, vI v3, vI v4] [] g) (k2 : ¬ (6 ≤ v4) → EV d mX8_bestLowest Q 43 [vR 45, vI v1, vI v2, vI v3, vI v4] [] g) : EV d mX8_bestLowest Q 36 [vR 45, vI v1, vI v2, vI v3, vI v4] [] g := by
  refine wp_iload dX8_bestLowest_36 rfl ?_
  refine wp_bipush dX8_bestLowest_38 kb_6 kc_6 ?_
  exact wp_icmp_ge (tgt := 114) dX8_bestLowest_40 rfl k1 k2
theorem b_X8_bestLowest_43 {d : Nat} {Q : Option pV → pG → Prop} {g : pG} {v1 v2 v3 v4 : Int} {R : pG → Prop} (hc : CT d mX8_think [vR 45] g (qV R)) (k : ∀ gg : pG, R gg → EV d mX8_bestLowest Q 47 [vR 45, vI v1, vI v2, vI v3, vI v4] [] gg) : EV d mX8_bestLowest Q 43 [vR 45, vI v1, vI v2, vI v3, vI v4] [] g := by
  refine wp_aload_n dX8_bestLowest_43 rfl rfl ?_
  exact wp_callvV (As := []) dX8_bestLowest_44 ml_8_158 (by decide) rfl L_45 (by decide) rfl (Nat.le_of_ble_eq_true rfl) rfl (Nat.le_refl _) (Nat.le_refl _) hc k
theorem b_X8_bestLowest_47 {d : Nat} {Q : Option pV → pG → Prop} {g : pG} {v1 v2 v3 v4 : Int} {R : pG → Prop} (hc : CT d mX8_passAll [vR 45, vI 0] g (qV R)) (k : ∀ gg : pG, R gg → EV d mX8_bestLowest Q 52 [vR 45, vI v1, vI v2, vI v3, vI v4] [] gg) : EV d mX8_bestLowest Q 47 [vR 45, vI v1, vI v2, vI v3, vI v4] [] g := by
  refine wp_aload_n dX8_bestLowest_47 rfl rfl ?_
  refine wp_iconst dX8_bestLowest_48 kc_0 ?_
  exact wp_callvV (As := [vI 0]) dX8_bestLowest_49 ml_8_161 (by decide) rfl L_45 (by decide) rfl (Nat.le_of_ble_eq_true rfl) rfl (Nat.le_refl _) (Nat.le_refl _) hc k
theorem b_X8_bestLowest_52 {d : Nat} {Q : Option pV → pG → Prop} {g : pG} {v1 v2 v3 v4 : Int} (k1 : (v4 ≠ 3) → EV d mX8_bestLowest Q 69 [vR 45, vI v1, vI v2, vI v3, vI v4] [] g) (k2 : ¬ (v4 ≠ 3) → EV d mX8_bestLowest Q 58 [vR 45, vI v1, vI v2, vI v3, vI v4] [] g) : EV d mX8_bestLowest Q 52 [vR 45, vI v1, vI v2, vI v3, vI v4] [] g := by
  refine wp_iload dX8_bestLowest_52 rfl ?_
  refine wp_iconst dX8_bestLowest_54 kc_3 ?_
  exact wp_icmp_ne (tgt := 69) dX8_bestLowest_55 rfl k1 k2
theorem b_X8_bestLowest_58 {d : Nat} {Q : Option pV → pG → Prop} {g : pG} {v1 v2 v3 v4 : Int} {R : Int → pG → Prop} (hc : CT d mX8_standing [vR 45] g (qI R)) (k : ∀ (x : Int) (gg : pG), R x gg → EV d mX8_bestLowest Q 62 [vR 45, vI v1, vI v2, vI v3, vI v4] [vI x] gg) : EV d mX8_bestLowest Q 58 [vR 45, vI v1, vI v2, vI v3, vI v4] [] g := by
  refine wp_aload_n dX8_bestLowest_58 rfl rfl ?_
  exact wp_callvI (As := []) dX8_bestLowest_59 ml_8_139 (by decide) rfl L_45 (by decide) rfl (Nat.le_of_ble_eq_true rfl) rfl (Nat.le_refl _) (Nat.le_refl _) hc k
theorem b_X8_bestLowest_62 {d : Nat} {Q : Option pV → pG → Prop} {g : pG} {v1 v2 v3 v4 vs0 : Int} (k1 : ((g 45) 7 < vs0) → EV d mX8_bestLowest Q 76 [vR 45, vI v1, vI v2, vI v3, vI v4] [] g) (k2 : ¬ ((g 45) 7 < vs0) → EV d mX8_bestLowest Q 69 [vR 45, vI v1, vI v2, vI v3, vI v4] [] g) : EV d mX8_bestLowest Q 62 [vR 45, vI v1, vI v2, vI v3, vI v4] [vI vs0] g := by
  refine wp_aload_n dX8_bestLowest_62 rfl rfl ?_
  refine wp_get (v := vI ((g 45) 7)) dX8_bestLowest_63 fl_8_29 L_45 rfl ?_
  exact wp_icmp_gt (tgt := 76) dX8_bestLowest_66 rfl k1 k2
theorem b_X8_bestLowest_69 {d : Nat} {Q : Option pV → pG → Prop} {g : pG} {v1 v2 v3 v4 : Int} {R : pG → Prop} (hc : CT d mX8_act [vR 45, vI v4, vI v1] g (qV R)) (k : ∀ gg : pG, R gg → EV d mX8_bestLowest Q 76 [vR 45, vI v1, vI v2, vI v3, vI v4] [] gg) : EV d mX8_bestLowest Q 69 [vR 45, vI v1, vI v2, vI v3, vI v4] [] g := by
  refine wp_aload_n dX8_bestLowest_69 rfl rfl ?_
  refine wp_iload dX8_bestLowest_70 rfl ?_
  refine wp_iload_n dX8_bestLowest_72 rfl ?_
  exact wp_callvV (As := [vI v4, vI v1]) dX8_bestLowest_73 ml_8_146 (by decide) rfl L_45 (by decide) rfl (Nat.le_of_ble_eq_true rfl) rfl (Nat.le_refl _) (Nat.le_refl _) hc k
theorem b_X8_bestLowest_76 {d : Nat} {Q : Option pV → pG → Prop} {g : pG} {v1 v2 v3 v4 : Int} {R : Int → pG → Prop} (hc : CT d mX8_sumNow [vR 45] g (qI R)) (k : ∀ (x : Int) (gg : pG), R x gg → EV d mX8_bestLowest Q 80 [vR 45, vI v1, vI v2, vI v3, vI v4] [vI x] gg) : EV d mX8_bestLowest Q 76 [vR 45, vI v1, vI v2, vI v3, vI v4] [] g := by
  refine wp_aload_n dX8_bestLowest_76 rfl rfl ?_
  exact wp_callvI (As := []) dX8_bestLowest_77 ml_8_118 (by decide) rfl L_45 (by decide) rfl (Nat.le_of_ble_eq_true rfl) rfl (Nat.le_refl _) (Nat.le_refl _) hc k
theorem b_X8_bestLowest_80 {d : Nat} {Q : Option pV → pG → Prop} {g : pG} {v1 v2 v3 v4 vs0 : Int} (k1 : (vs0 ≤ v3) → EV d mX8_bestLowest Q 89 [vR 45, vI v1, vI v2, vI v3, vI v4] [] g) (k2 : ¬ (vs0 ≤ v3) → EV d mX8_bestLowest Q 84 [vR 45, vI v1, vI v2, vI v3, vI v4] [] g) : EV d mX8_bestLowest Q 80 [vR 45, vI v1, vI v2, vI v3, vI v4] [vI vs0] g := by
  refine wp_iload_n dX8_bestLowest_80 rfl ?_
  exact wp_icmp_le (tgt := 89) dX8_bestLowest_81 rfl k1 k2
theorem b_X8_bestLowest_84 {d : Nat} {Q : Option pV → pG → Prop} {g : pG} {v1 v2 v3 v4 : Int} {R : Int → pG → Prop} (hc : CT d mX8_sumNow [vR 45] g (qI R)) (k : ∀ (x : Int) (gg : pG), R x gg → EV d mX8_bestLowest Q 95 [vR 45, vI v1, vI v4, vI v3, vI v4] [vI x] gg) : EV d mX8_bestLowest Q 84 [vR 45, vI v1, vI v2, vI v3, vI v4] [] g := by
  refine wp_iload dX8_bestLowest_84 rfl ?_
  refine wp_goto (tgt := 90) dX8_bestLowest_86 rfl ?_
  refine wp_istore_n dX8_bestLowest_90 (Nat.le_of_ble_eq_true rfl) (pp (c := 1) rfl rfl) ?_
  refine wp_aload_n dX8_bestLowest_91 rfl rfl ?_
  exact wp_callvI (As := []) dX8_bestLowest_92 ml_8_118 (by decide) rfl L_45 (by decide) rfl (Nat.le_of_ble_eq_true rfl) rfl (Nat.le_refl _) (Nat.le_refl _) hc k
theorem b_X8_bestLowest_89 {d : Nat} {Q : Option pV → pG → Prop} {g : pG} {v1 v2 v3 v4 : Int} {R : Int → pG → Prop} (hc : CT d mX8_sumNow [vR 45] g (qI R)) (k : ∀ (x : Int) (gg : pG), R x gg → EV d mX8_bestLowest Q 95 [vR 45, vI v1, vI v2, vI v3, vI v4] [vI x] gg) : EV d mX8_bestLowest Q 89 [vR 45, vI v1, vI v2, vI v3, vI v4] [] g := by
  refine wp_iload_n dX8_bestLowest_89 rfl ?_
  refine wp_istore_n dX8_bestLowest_90 (Nat.le_of_ble_eq_true rfl) (pp (c := 1) rfl rfl) ?_
  refine wp_aload_n dX8_bestLowest_91 rfl rfl ?_
  exact wp_callvI (As := []) dX8_bestLowest_92 ml_8_118 (by decide) rfl L_45 (by decide) rfl (Nat.le_of_ble_eq_true rfl) rfl (Nat.le_refl _) (Nat.le_refl _) hc k
theorem b_X8_bestLowest_95 {d : Nat} {Q : Option pV → pG → Prop} {g : pG} {v1 v2 v3 v4 vs0 : Int} (k1 : (vs0 ≤ v3) → EV d mX8_bestLowest Q 106 [vR 45, vI v1, vI v2, vI v3, vI v4] [] g) (k2 : ¬ (vs0 ≤ v3) → EV d mX8_bestLowest Q 99 [vR 45, vI v1, vI v2, vI v3, vI v4] [] g) : EV d mX8_bestLowest Q 95 [vR 45, vI v1, vI v2, vI v3, vI v4] [vI vs0] g := by
  refine wp_iload_n dX8_bestLowest_95 rfl ?_
  exact wp_icmp_le (tgt := 106) dX8_bestLowest_96 rfl k1 k2
theorem b_X8_bestLowest_99 {d : Nat} {Q : Option pV → pG → Prop} {g : pG} {v1 v2 v3 v4 : Int} {R : Int → pG → Prop} (hc : CT d mX8_sumNow [vR 45] g (qI R)) (k : ∀ (x : Int) (gg : pG), R x gg → EV d mX8_bestLowest Q 103 [vR 45, vI v1, vI v2, vI v3, vI v4] [vI x] gg) : EV d mX8_bestLowest Q 99 [vR 45, vI v1, vI v2, vI v3, vI v4] [] g := by
  refine wp_aload_n dX8_bestLowest_99 rfl rfl ?_
  exact wp_callvI (As := []) dX8_bestLowest_100 ml_8_118 (by decide) rfl L_45 (by decide) rfl (Nat.le_of_ble_eq_true rfl) rfl (Nat.le_refl _) (Nat.le_refl _) hc k
theorem b_X8_bestLowest_103 {d : Nat} {Q : Option pV → pG → Prop} {g : pG} {v1 v2 v3 v4 vs0 : Int} (k : EV d mX8_bestLowest Q 36 [vR 45, vI v1, vI v2, vI vs0, vI (w32 (v4 + 1))] [] g) : EV d mX8_bestLowest Q 103 [vR 45, vI v1, vI v2, vI v3, vI v4] [vI vs0] g := by
  refine wp_goto (tgt := 107) dX8_bestLowest_103 rfl ?_
  refine wp_istore_n dX8_bestLowest_107 (Nat.le_of_ble_eq_true rfl) (pp (c := 2) rfl rfl) ?_
  refine wp_iinc dX8_bestLowest_108 rfl (Nat.le_of_ble_eq_true rfl) (pp (c := 3) rfl rfl) ?_
  refine wp_goto (tgt := 36) dX8_bestLowest_111 rfl ?_
  exact k
theorem b_X8_bestLowest_106 {d : Nat} {Q : Option pV → pG → Prop} {g : pG} {v1 v2 v3 v4 : Int} (k : EV d mX8_bestLowest Q 36 [vR 45, vI v1, vI v2, vI v3, vI (w32 (v4 + 1))] [] g) : EV d mX8_bestLowest Q 106 [vR 45, vI v1, vI v2, vI v3, vI v4] [] g := by
  refine wp_iload_n dX8_bestLowest_106 rfl ?_
  refine wp_istore_n dX8_bestLowest_107 (Nat.le_of_ble_eq_true rfl) (pp (c := 2) rfl rfl) ?_
  refine wp_iinc dX8_bestLowest_108 rfl (Nat.le_of_ble_eq_true rfl) (pp (c := 3) rfl rfl) ?_
  refine wp_goto (tgt := 36) dX8_bestLowest_111 rfl ?_
  exact k
theorem b_X8_bestLowest_114 {d : Nat} {Q : Option pV → pG → Prop} {g : pG} {v1 v2 v3 v4 : Int} (hq : Q (some (vI v2)) g) : EV d mX8_bestLowest Q 114 [vR 45, vI v1, vI v2, vI v3, vI v4] [] g := by
  refine wp_iload_n dX8_bestLowest_114 rfl ?_
  exact wp_iret dX8_bestLowest_115 rfl hq
theorem b_X8_peak_0 {d : Nat} {Q : Option pV → pG → Prop} {g : pG} {v1 : Int} {R : Int → pG → Prop} (hc : CT d mX8_in [vL v1, vL 0, vL 1] (cset g 45 (fup (g 45) 8 0)) (qI R)) (k : ∀ (x : Int) (gg : pG), R x gg → EV d mX8_peak Q 12 [vR 45, vI v1, vX 2, vX 2, vX 2] [vI x] gg) : EV d mX8_peak Q 0 [vR 45, vI v1, vX 2, vX 2, vX 2] [] g := by
  refine wp_aload_n dX8_peak_0 rfl rfl ?_
  refine wp_iconst dX8_peak_1 kc_0 ?_
  refine wp_putI dX8_peak_2 fl_8_105 L_45 rfl rfl ?_
  refine wp_iload_n dX8_peak_5 rfl ?_
  refine wp_i2l dX8_peak_6 ?_
  refine wp_lconst (x := 0) dX8_peak_7 rfl ?_
  refine wp_lconst (x := 1) dX8_peak_8 rfl ?_
  exact wp_callsI (As := [vL v1, vL 0, vL 1]) dX8_peak_9 ml_8_111 (Or.inl rfl) rfl (Nat.le_of_ble_eq_true rfl) rfl (Nat.le_refl _) (Nat.le_refl _) hc k
theorem b_X8_peak_12 {d : Nat} {Q : Option pV → pG → Prop} {g : pG} {v1 vs0 : Int} (k1 : (vs0 ≠ 0) → EV d mX8_peak Q 22 [vR 45, vI v1, vX 2, vX 2, vX 2] [] g) (k2 : ¬ (vs0 ≠ 0) → EV d mX8_peak Q 15 [vR 45, vI v1, vX 2, vX 2, vX 2] [] g) : EV d mX8_peak Q 12 [vR 45, vI v1, vX 2, vX 2, vX 2] [vI vs0] g := by
  exact wp_if_ne (tgt := 22) dX8_peak_12 rfl k1 k2
theorem b_X8_peak_15 {d : Nat} {Q : Option pV → pG → Prop} {g : pG} {v1 : Int} {R : Int → pG → Prop} (hc : CT d mX8_refuse [vR 45, vI (-2)] g (qI R)) (k : ∀ (x : Int) (gg : pG), R x gg → EV d mX8_peak Q 21 [vR 45, vI v1, vX 2, vX 2, vX 2] [vI x] gg) : EV d mX8_peak Q 15 [vR 45, vI v1, vX 2, vX 2, vX 2] [] g := by
  refine wp_aload_n dX8_peak_15 rfl rfl ?_
  refine wp_bipush dX8_peak_16 kb_m2 kc_m2 ?_
  exact wp_callvI (As := [vI (-2)]) dX8_peak_18 ml_8_164 (by decide) rfl L_45 (by decide) rfl (Nat.le_of_ble_eq_true rfl) rfl (Nat.le_refl _) (Nat.le_refl _) hc k
theorem b_X8_peak_21 {d : Nat} {Q : Option pV → pG → Prop} {g : pG} {v1 vs0 : Int} (hq : Q (some (vI vs0)) g) : EV d mX8_peak Q 21 [vR 45, vI v1, vX 2, vX 2, vX 2] [vI vs0] g := by
  exact wp_iret dX8_peak_21 rfl hq
theorem b_X8_peak_22 {d : Nat} {Q : Option pV → pG → Prop} {g : pG} {v1 : Int} {R : pG → Prop} (hc : CT d mX8_think [vR 45] g (qV R)) (k : ∀ gg : pG, R gg → EV d mX8_peak Q 26 [vR 45, vI v1, vX 2, vX 2, vX 2] [] gg) : EV d mX8_peak Q 22 [vR 45, vI v1, vX 2, vX 2, vX 2] [] g := by
  refine wp_aload_n dX8_peak_22 rfl rfl ?_
  exact wp_callvV (As := []) dX8_peak_23 ml_8_158 (by decide) rfl L_45 (by decide) rfl (Nat.le_of_ble_eq_true rfl) rfl (Nat.le_refl _) (Nat.le_refl _) hc k
theorem b_X8_peak_26 {d : Nat} {Q : Option pV → pG → Prop} {g : pG} {v1 : Int} {R : Int → pG → Prop} (hc : CT d mX8_sumNow [vR 45] g (qI R)) (k : ∀ (x : Int) (gg : pG), R x gg → EV d mX8_peak Q 32 [vR 45, vI v1, vI 0, vX 2, vX 2] [vI x] gg) : EV d mX8_peak Q 26 [vR 45, vI v1, vX 2, vX 2, vX 2] [] g := by
  refine wp_iconst dX8_peak_26 kc_0 ?_
  refine wp_istore_n dX8_peak_27 (Nat.le_of_ble_eq_true rfl) (pp (c := 1) rfl rfl) ?_
  refine wp_aload_n dX8_peak_28 rfl rfl ?_
  exact wp_callvI (As := []) dX8_peak_29 ml_8_118 (by decide) rfl L_45 (by decide) rfl (Nat.le_of_ble_eq_true rfl) rfl (Nat.le_refl _) (Nat.le_refl _) hc k
theorem b_X8_peak_32 {d : Nat} {Q : Option pV → pG → Prop} {g : pG} {v1 v2 vs0 : Int} (k : EV d mX8_peak Q 36 [vR 45, vI v1, vI v2, vI vs0, vI 0] [] g) : EV d mX8_peak Q 32 [vR 45, vI v1, vI v2, vX 2, vX 2] [vI vs0] g := by
  refine wp_istore_n dX8_peak_32 (Nat.le_of_ble_eq_true rfl) (pp (c := 2) rfl rfl) ?_
  refine wp_iconst dX8_peak_33 kc_0 ?_
  refine wp_istore dX8_peak_34 (Nat.le_of_ble_eq_true rfl) (pp (c := 3) rfl rfl) ?_
  exact k
theorem b_X8_peak_36 {d : Nat} {Q : Option pV → pG → Prop} {g : pG} {v1 v2 v3 v4 : Int} (k1 : ((g 45) 0 ≤ v4) → EV d mX8_peak Q 91 [vR 45, vI v1, vI v2, vI v3, vI v4] [] g) (k2 : ¬ ((g 45) 0 ≤ v4) → EV d mX8_peak Q 45 [vR 45, vI v1, vI v2, vI v3, vI v4] [] g) : EV d mX8_peak Q 36 [vR 45, vI v1, vI v2, vI v3, vI v4] [] g := by
  refine wp_iload dX8_peak_36 rfl ?_
  refine wp_aload_n dX8_peak_38 rfl rfl ?_
  refine wp_get (v := vI ((g 45) 0)) dX8_peak_39 fl_8_108 L_45 rfl ?_
  exact wp_icmp_ge (tgt := 91) dX8_peak_42 rfl k1 k2
theorem b_X8_peak_45 {d : Nat} {Q : Option pV → pG → Prop} {g : pG} {v1 v2 v3 v4 : Int} {R : pG → Prop} (hc : CT d mX8_pass [vR 45, vI v4] g (qV R)) (k : ∀ gg : pG, R gg → EV d mX8_peak Q 51 [vR 45, vI v1, vI v2, vI v3, vI v4] [] gg) : EV d mX8_peak Q 45 [vR 45, vI v1, vI v2, vI v3, vI v4] [] g := by
  refine wp_aload_n dX8_peak_45 rfl rfl ?_
  refine wp_iload dX8_peak_46 rfl ?_
  exact wp_callvV (As := [vI v4]) dX8_peak_48 ml_8_154 (by decide) rfl L_45 (by decide) rfl (Nat.le_of_ble_eq_true rfl) rfl (Nat.le_refl _) (Nat.le_refl _) hc k
theorem b_X8_peak_51 {d : Nat} {Q : Option pV → pG → Prop} {g : pG} {v1 v2 v3 v4 : Int} {R : Int → pG → Prop} (hc : CT d mX8_sumNow [vR 45] g (qI R)) (k : ∀ (x : Int) (gg : pG), R x gg → EV d mX8_peak Q 55 [vR 45, vI v1, vI v2, vI v3, vI v4] [vI x] gg) : EV d mX8_peak Q 51 [vR 45, vI v1, vI v2, vI v3, vI v4] [] g := by
  refine wp_aload_n dX8_peak_51 rfl rfl ?_
  exact wp_callvI (As := []) dX8_peak_52 ml_8_118 (by decide) rfl L_45 (by decide) rfl (Nat.le_of_ble_eq_true rfl) rfl (Nat.le_refl _) (Nat.le_refl _) hc k
theorem b_X8_peak_55 {d : Nat} {Q : Option pV → pG → Prop} {g : pG} {v1 v2 v3 v4 vs0 : Int} (k1 : (vs0 ≤ v3) → EV d mX8_peak Q 66 [vR 45, vI v1, vI v2, vI v3, vI v4] [] g) (k2 : ¬ (vs0 ≤ v3) → EV d mX8_peak Q 59 [vR 45, vI v1, vI v2, vI v3, vI v4] [] g) : EV d mX8_peak Q 55 [vR 45, vI v1, vI v2, vI v3, vI v4] [vI vs0] g := by
  refine wp_iload_n dX8_peak_55 rfl ?_
  exact wp_icmp_le (tgt := 66) dX8_peak_56 rfl k1 k2
theorem b_X8_peak_59 {d : Nat} {Q : Option pV → pG → Prop} {g : pG} {v1 v2 v3 v4 : Int} {R : Int → pG → Prop} (hc : CT d mX8_sumNow [vR 45] g (qI R)) (k : ∀ (x : Int) (gg : pG), R x gg → EV d mX8_peak Q 72 [vR 45, vI v1, vI (w32 (v4 + 1)), vI v3, vI v4] [vI x] gg) : EV d mX8_peak Q 59 [vR 45, vI v1, vI v2, vI v3, vI v4] [] g := by
  refine wp_iload dX8_peak_59 rfl ?_
  refine wp_iconst dX8_peak_61 kc_1 ?_
  refine wp_iadd dX8_peak_62 ?_
  refine wp_goto (tgt := 67) dX8_peak_63 rfl ?_
  refine wp_istore_n dX8_peak_67 (Nat.le_of_ble_eq_true rfl) (pp (c := 1) rfl rfl) ?_
  refine wp_aload_n dX8_peak_68 rfl rfl ?_
  exact wp_callvI (As := []) dX8_peak_69 ml_8_118 (by decide) rfl L_45 (by decide) rfl (Nat.le_of_ble_eq_true rfl) rfl (Nat.le_refl _) (Nat.le_refl _) hc k
theorem b_X8_peak_66 {d : Nat} {Q : Option pV → pG → Prop} {g : pG} {v1 v2 v3 v4 : Int} {R : Int → pG → Prop} (hc : CT d mX8_sumNow [vR 45] g (qI R)) (k : ∀ (x : Int) (gg : pG), R x gg → EV d mX8_peak Q 72 [vR 45, vI v1, vI v2, vI v3, vI v4] [vI x] gg) : EV d mX8_peak Q 66 [vR 45, vI v1, vI v2, vI v3, vI v4] [] g := by
  refine wp_iload_n dX8_peak_66 rfl ?_
  refine wp_istore_n dX8_peak_67 (Nat.le_of_ble_eq_true rfl) (pp (c := 1) rfl rfl) ?_
  refine wp_aload_n dX8_peak_68 rfl rfl ?_
  exact wp_callvI (As := []) dX8_peak_69 ml_8_118 (by decide) rfl L_45 (by decide) rfl (Nat.le_of_ble_eq_true rfl) rfl (Nat.le_refl _) (Nat.le_refl _) hc k
theorem b_X8_peak_72 {d : Nat} {Q : Option pV → pG → Prop} {g : pG} {v1 v2 v3 v4 vs0 : Int} (k1 : (vs0 ≤ v3) → EV d mX8_peak Q 83 [vR 45, vI v1, vI v2, vI v3, vI v4] [] g) (k2 : ¬ (vs0 ≤ v3) → EV d mX8_peak Q 76 [vR 45, vI v1, vI v2, vI v3, vI v4] [] g) : EV d mX8_peak Q 72 [vR 45, vI v1, vI v2, vI v3, vI v4] [vI vs0] g := by
  refine wp_iload_n dX8_peak_72 rfl ?_
  exact wp_icmp_le (tgt := 83) dX8_peak_73 rfl k1 k2
theorem b_X8_peak_76 {d : Nat} {Q : Option pV → pG → Prop} {g : pG} {v1 v2 v3 v4 : Int} {R : Int → pG → Prop} (hc : CT d mX8_sumNow [vR 45] g (qI R)) (k : ∀ (x : Int) (gg : pG), R x gg → EV d mX8_peak Q 80 [vR 45, vI v1, vI v2, vI v3, vI v4] [vI x] gg) : EV d mX8_peak Q 76 [vR 45, vI v1, vI v2, vI v3, vI v4] [] g := by
  refine wp_aload_n dX8_peak_76 rfl rfl ?_
  exact wp_callvI (As := []) dX8_peak_77 ml_8_118 (by decide) rfl L_45 (by decide) rfl (Nat.le_of_ble_eq_true rfl) rfl (Nat.le_refl _) (Nat.le_refl _) hc k
theorem b_X8_peak_80 {d : Nat} {Q : Option pV → pG → Prop} {g : pG} {v1 v2 v3 v4 vs0 : Int} (k : EV d mX8_peak Q 36 [vR 45, vI v1, vI v2, vI vs0, vI (w32 (v4 + 1))] [] g) : EV d mX8_peak Q 80 [vR 45, vI v1, vI v2, vI v3, vI v4] [vI vs0] g := by
  refine wp_goto (tgt := 84) dX8_peak_80 rfl ?_
  refine wp_istore_n dX8_peak_84 (Nat.le_of_ble_eq_true rfl) (pp (c := 2) rfl rfl) ?_
  refine wp_iinc dX8_peak_85 rfl (Nat.le_of_ble_eq_true rfl) (pp (c := 3) rfl rfl) ?_
  refine wp_goto (tgt := 36) dX8_peak_88 rfl ?_
  exact k
theorem b_X8_peak_83 {d : Nat} {Q : Option pV → pG → Prop} {g : pG} {v1 v2 v3 v4 : Int} (k : EV d mX8_peak Q 36 [vR 45, vI v1, vI v2, vI v3, vI (w32 (v4 + 1))] [] g) : EV d mX8_peak Q 83 [vR 45, vI v1, vI v2, vI v3, vI v4] [] g := by
  refine wp_iload_n dX8_peak_83 rfl ?_
  refine wp_istore_n dX8_peak_84 (Nat.le_of_ble_eq_true rfl) (pp (c := 2) rfl rfl) ?_
  refine wp_iinc dX8_peak_85 rfl (Nat.le_of_ble_eq_true rfl) (pp (c := 3) rfl rfl) ?_
  refine wp_goto (tgt := 36) dX8_peak_88 rfl ?_
  exact k
theorem b_X8_peak_91 {d : Nat} {Q : Option pV → pG → Prop} {g : pG} {v1 v2 v3 v4 : Int} (k1 : (v1 ≠ 0) → EV d mX8_peak Q 99 [vR 45, vI v1, vI v2, vI v3, vI v4] [] g) (k2 : ¬ (v1 ≠ 0) → EV d mX8_peak Q 95 [vR 45, vI v1, vI v2, vI v3, vI v4] [] g) : EV d mX8_peak Q 91 [vR 45, vI v1, vI v2, vI v3, vI v4] [] g := by
  refine wp_iload_n dX8_peak_91 rfl ?_
  exact wp_if_ne (tgt := 99) dX8_peak_92 rfl k1 k2
theorem b_X8_peak_95 {d : Nat} {Q : Option pV → pG → Prop} {g : pG} {v1 v2 v3 v4 : Int} (hq : Q (some (vI v2)) g) : EV d mX8_peak Q 95 [vR 45, vI v1, vI v2, vI v3, vI v4] [] g := by
  refine wp_iload_n dX8_peak_95 rfl ?_
  refine wp_goto (tgt := 103) dX8_peak_96 rfl ?_
  exact wp_iret dX8_peak_103 rfl hq
theorem b_X8_peak_99 {d : Nat} {Q : Option pV → pG → Prop} {g : pG} {v1 v2 v3 v4 : Int} (hq : Q (some (vI (w32 (v3 + 100)))) g) : EV d mX8_peak Q 99 [vR 45, vI v1, vI v2, vI v3, vI v4] [] g := by
  refine wp_iload_n dX8_peak_99 rfl ?_
  refine wp_bipush dX8_peak_100 kb_100 kc_100 ?_
  refine wp_iadd dX8_peak_102 ?_
  exact wp_iret dX8_peak_103 rfl hq
theorem b_X8_fullStake_0 {d : Nat} {Q : Option pV → pG → Prop} {g : pG} (k1 : ((fup (g 45) 8 0) 0 ≠ 0) → EV d mX8_fullStake Q 19 [vR 45, vX 2, vX 2] [] (cset g 45 (fup (g 45) 8 0))) (k2 : ¬ ((fup (g 45) 8 0) 0 ≠ 0) → EV d mX8_fullStake Q 12 [vR 45, vX 2, vX 2] [] (cset g 45 (fup (g 45) 8 0))) : EV d mX8_fullStake Q 0 [vR 45, vX 2, vX 2] [] g := by
  refine wp_aload_n dX8_fullStake_0 rfl rfl ?_
  refine wp_iconst dX8_fullStake_1 kc_0 ?_
  refine wp_putI dX8_fullStake_2 fl_8_105 L_45 rfl rfl ?_
  refine wp_aload_n dX8_fullStake_5 rfl rfl ?_
  refine wp_get (v := vI ((fup (g 45) 8 0) 0)) dX8_fullStake_6 fl_8_108 L_45 rfl ?_
  exact wp_if_ne (tgt := 19) dX8_fullStake_9 rfl k1 k2
theorem b_X8_fullStake_12 {d : Nat} {Q : Option pV → pG → Prop} {g : pG} {R : Int → pG → Prop} (hc : CT d mX8_refuse [vR 45, vI (-3)] g (qI R)) (k : ∀ (x : Int) (gg : pG), R x gg → EV d mX8_fullStake Q 18 [vR 45, vX 2, vX 2] [vI x] gg) : EV d mX8_fullStake Q 12 [vR 45, vX 2, vX 2] [] g := by
  refine wp_aload_n dX8_fullStake_12 rfl rfl ?_
  refine wp_bipush dX8_fullStake_13 kb_m3 kc_m3 ?_
  exact wp_callvI (As := [vI (-3)]) dX8_fullStake_15 ml_8_164 (by decide) rfl L_45 (by decide) rfl (Nat.le_of_ble_eq_true rfl) rfl (Nat.le_refl _) (Nat.le_refl _) hc k
theorem b_X8_fullStake_18 {d : Nat} {Q : Option pV → pG → Prop} {g : pG} {vs0 : Int} (hq : Q (some (vI vs0)) g) : EV d mX8_fullStake Q 18 [vR 45, vX 2, vX 2] [vI vs0] g := by
  exact wp_iret dX8_fullStake_18 rfl hq
theorem b_X8_fullStake_19 {d : Nat} {Q : Option pV → pG → Prop} {g : pG} (k : EV d mX8_fullStake Q 32 [vR 45, vI ((g 45) 6), vI (-9)] [] (cset g 45 (fup (g 45) 6 0))) : EV d mX8_fullStake Q 19 [vR 45, vX 2, vX 2] [] g := by
  refine wp_aload_n dX8_fullStake_19 rfl rfl ?_
  refine wp_get (v := vI ((g 45) 6)) dX8_fullStake_20 fl_8_26 L_45 rfl ?_
  refine wp_istore_n dX8_fullStake_23 (Nat.le_of_ble_eq_true rfl) (pp (c := 0) rfl rfl) ?_
  refine wp_bipush dX8_fullStake_24 kb_m9 kc_m9 ?_
  refine wp_istore_n dX8_fullStake_26 (Nat.le_of_ble_eq_true rfl) (pp (c := 1) rfl rfl) ?_
  refine wp_aload_n dX8_fullStake_27 rfl rfl ?_
  refine wp_iconst dX8_fullStake_28 kc_0 ?_
  refine wp_putI dX8_fullStake_29 fl_8_26 L_45 rfl rfl ?_
  exact k
theorem b_X8_fullStake_32 {d : Nat} {Q : Option pV → pG → Prop} {g : pG} {v1 v2 : Int} (k1 : (1000 ≤ (g 45) 6) → EV d mX8_fullStake Q 84 [vR 45, vI v1, vI v2] [] g) (k2 : ¬ (1000 ≤ (g 45) 6) → EV d mX8_fullStake Q 42 [vR 45, vI v1, vI v2] [] g) : EV d mX8_fullStake Q 32 [vR 45, vI v1, vI v2] [] g := by
  refine wp_aload_n dX8_fullStake_32 rfl rfl ?_
  refine wp_get (v := vI ((g 45) 6)) dX8_fullStake_33 fl_8_26 L_45 rfl ?_
  refine wp_sipush dX8_fullStake_36 ks_1000 kc_1000 ?_
  exact wp_icmp_ge (tgt := 84) dX8_fullStake_39 rfl k1 k2
theorem b_X8_fullStake_42 {d : Nat} {Q : Option pV → pG → Prop} {g : pG} {v1 v2 : Int} (k1 : (0 ≤ v2) → EV d mX8_fullStake Q 84 [vR 45, vI v1, vI v2] [] g) (k2 : ¬ (0 ≤ v2) → EV d mX8_fullStake Q 46 [vR 45, vI v1, vI v2] [] g) : EV d mX8_fullStake Q 42 [vR 45, vI v1, vI v2] [] g := by
  refine wp_iload_n dX8_fullStake_42 rfl ?_
  exact wp_if_ge (tgt := 84) dX8_fullStake_43 rfl k1 k2
theorem b_X8_fullStake_46 {d : Nat} {Q : Option pV → pG → Prop} {g : pG} {v1 v2 : Int} {R : pG → Prop} (hc : CT d mX8_layAppeals [vR 45] g (qV R)) (k : ∀ gg : pG, R gg → EV d mX8_fullStake Q 50 [vR 45, vI v1, vI v2] [] gg) : EV d mX8_fullStake Q 46 [vR 45, vI v1, vI v2] [] g := by
  refine wp_aload_n dX8_fullStake_46 rfl rfl ?_
  exact wp_callvV (As := []) dX8_fullStake_47 ml_8_273 (by decide) rfl L_45 (by decide) rfl (Nat.le_of_ble_eq_true rfl) rfl (Nat.le_refl _) (Nat.le_refl _) hc k
theorem b_X8_fullStake_50 {d : Nat} {Q : Option pV → pG → Prop} {g : pG} {v1 v2 : Int} {R : Int → pG → Prop} (hc : CT d mX8_goneThrough [vR 45] g (qI R)) (k : ∀ (x : Int) (gg : pG), R x gg → EV d mX8_fullStake Q 54 [vR 45, vI v1, vI v2] [vI x] gg) : EV d mX8_fullStake Q 50 [vR 45, vI v1, vI v2] [] g := by
  refine wp_aload_n dX8_fullStake_50 rfl rfl ?_
  exact wp_callvI (As := []) dX8_fullStake_51 ml_8_276 (by decide) rfl L_45 (by decide) rfl (Nat.le_of_ble_eq_true rfl) rfl (Nat.le_refl _) (Nat.le_refl _) hc k
theorem b_X8_fullStake_54 {d : Nat} {Q : Option pV → pG → Prop} {g : pG} {v1 v2 vs0 : Int} (k1 : (vs0 ≠ (g 45) 0) → EV d mX8_fullStake Q 68 [vR 45, vI v1, vI v2] [] g) (k2 : ¬ (vs0 ≠ (g 45) 0) → EV d mX8_fullStake Q 61 [vR 45, vI v1, vI v2] [] g) : EV d mX8_fullStake Q 54 [vR 45, vI v1, vI v2] [vI vs0] g := by
  refine wp_aload_n dX8_fullStake_54 rfl rfl ?_
  refine wp_get (v := vI ((g 45) 0)) dX8_fullStake_55 fl_8_108 L_45 rfl ?_
  exact wp_icmp_ne (tgt := 68) dX8_fullStake_58 rfl k1 k2
theorem b_X8_fullStake_61 {d : Nat} {Q : Option pV → pG → Prop} {g : pG} {v1 v2 : Int} (k : EV d mX8_fullStake Q 32 [vR 45, vI v1, vI ((g 45) 6)] [] (cset g 45 (fup (g 45) 6 (w32 (((g 45) 6) + 1))))) : EV d mX8_fullStake Q 61 [vR 45, vI v1, vI v2] [] g := by
  refine wp_aload_n dX8_fullStake_61 rfl rfl ?_
  refine wp_get (v := vI ((g 45) 6)) dX8_fullStake_62 fl_8_26 L_45 rfl ?_
  refine wp_goto (tgt := 70) dX8_fullStake_65 rfl ?_
  refine wp_istore_n dX8_fullStake_70 (Nat.le_of_ble_eq_true rfl) (pp (c := 1) rfl rfl) ?_
  refine wp_aload_n dX8_fullStake_71 rfl rfl ?_
  refine wp_dup dX8_fullStake_72 rfl ?_
  refine wp_get (v := vI ((g 45) 6)) dX8_fullStake_73 fl_8_26 L_45 rfl ?_
  refine wp_iconst dX8_fullStake_76 kc_1 ?_
  refine wp_iadd dX8_fullStake_77 ?_
  refine wp_putI dX8_fullStake_78 fl_8_26 L_45 rfl rfl ?_
  refine wp_goto (tgt := 32) dX8_fullStake_81 rfl ?_
  exact k
theorem b_X8_fullStake_68 {d : Nat} {Q : Option pV → pG → Prop} {g : pG} {v1 v2 : Int} (k : EV d mX8_fullStake Q 32 [vR 45, vI v1, vI (-9)] [] (cset g 45 (fup (g 45) 6 (w32 (((g 45) 6) + 1))))) : EV d mX8_fullStake Q 68 [vR 45, vI v1, vI v2] [] g := by
  refine wp_bipush dX8_fullStake_68 kb_m9 kc_m9 ?_
  refine wp_istore_n dX8_fullStake_70 (Nat.le_of_ble_eq_true rfl) (pp (c := 1) rfl rfl) ?_
  refine wp_aload_n dX8_fullStake_71 rfl rfl ?_
  refine wp_dup dX8_fullStake_72 rfl ?_
  refine wp_get (v := vI ((g 45) 6)) dX8_fullStake_73 fl_8_26 L_45 rfl ?_
  refine wp_iconst dX8_fullStake_76 kc_1 ?_
  refine wp_iadd dX8_fullStake_77 ?_
  refine wp_putI dX8_fullStake_78 fl_8_26 L_45 rfl rfl ?_
  refine wp_goto (tgt := 32) dX8_fullStake_81 rfl ?_
  exact k
theorem b_X8_fullStake_84 {d : Nat} {Q : Option pV → pG → Prop} {g : pG} {v1 v2 : Int} (hq : Q (some (vI v2)) (cset g 45 (fup (g 45) 6 v1))) : EV d mX8_fullStake Q 84 [vR 45, vI v1, vI v2] [] g := by
  refine wp_aload_n dX8_fullStake_84 rfl rfl ?_
  refine wp_iload_n dX8_fullStake_85 rfl ?_
  refine wp_putI dX8_fullStake_86 fl_8_26 L_45 rfl rfl ?_
  refine wp_iload_n dX8_fullStake_89 rfl ?_
  exact wp_iret dX8_fullStake_90 rfl hq
theorem b_X8_heard_0 {d : Nat} {Q : Option pV → pG → Prop} {g : pG} {R : pG → Prop} (hc : CT d mX8_think [vR 45] (cset g 45 (fup (g 45) 8 0)) (qV R)) (k : ∀ gg : pG, R gg → EV d mX8_heard Q 11 [vR 45, vI 0, vX 2, vX 2, vX 2] [] gg) : EV d mX8_heard Q 0 [vR 45, vX 2, vX 2, vX 2, vX 2] [] g := by
  refine wp_aload_n dX8_heard_0 rfl rfl ?_
  refine wp_iconst dX8_heard_1 kc_0 ?_
  refine wp_putI dX8_heard_2 fl_8_105 L_45 rfl rfl ?_
  refine wp_iconst dX8_heard_5 kc_0 ?_
  refine wp_istore_n dX8_heard_6 (Nat.le_of_ble_eq_true rfl) (pp (c := 0) rfl rfl) ?_
  refine wp_aload_n dX8_heard_7 rfl rfl ?_
  exact wp_callvV (As := []) dX8_heard_8 ml_8_158 (by decide) rfl L_45 (by decide) rfl (Nat.le_of_ble_eq_true rfl) rfl (Nat.le_refl _) (Nat.le_refl _) hc k
theorem b_X8_heard_11 {d : Nat} {Q : Option pV → pG → Prop} {g : pG} {v1 : Int} (k : EV d mX8_heard Q 13 [vR 45, vI v1, vI 0, vX 2, vX 2] [] g) : EV d mX8_heard Q 11 [vR 45, vI v1, vX 2, vX 2, vX 2] [] g := by
  refine wp_iconst dX8_heard_11 kc_0 ?_
  refine wp_istore_n dX8_heard_12 (Nat.le_of_ble_eq_true rfl) (pp (c := 1) rfl rfl) ?_
  exact k
theorem b_X8_heard_13 {d : Nat} {Q : Option pV → pG → Prop} {g : pG} {v1 v2 : Int} {u3 u4 : pV} (k1 : ((g 45) 0 ≤ v2) → EV d mX8_heard Q 119 [vR 45, vI v1, vI v2, u3, u4] [] g) (k2 : ¬ ((g 45) 0 ≤ v2) → EV d mX8_heard Q 21 [vR 45, vI v1, vI v2, u3, u4] [] g) : EV d mX8_heard Q 13 [vR 45, vI v1, vI v2, u3, u4] [] g := by
  refine wp_iload_n dX8_heard_13 rfl ?_
  refine wp_aload_n dX8_heard_14 rfl rfl ?_
  refine wp_get (v := vI ((g 45) 0)) dX8_heard_15 fl_8_108 L_45 rfl ?_
  exact wp_icmp_ge (tgt := 119) dX8_heard_18 rfl k1 k2
theorem b_X8_heard_21 {d : Nat} {Q : Option pV → pG → Prop} {g : pG} {v1 v2 : Int} {u3 u4 : pV} (k : EV d mX8_heard Q 23 [vR 45, vI v1, vI v2, vI 0, u4] [] g) : EV d mX8_heard Q 21 [vR 45, vI v1, vI v2, u3, u4] [] g := by
  refine wp_iconst dX8_heard_21 kc_0 ?_
  refine wp_istore_n dX8_heard_22 (Nat.le_of_ble_eq_true rfl) (pp (c := 2) rfl rfl) ?_
  exact k
theorem b_X8_heard_23 {d : Nat} {Q : Option pV → pG → Prop} {g : pG} {v1 v2 v3 : Int} {u4 : pV} (k1 : ((g 45) 4 ≤ v3) → EV d mX8_heard Q 49 [vR 45, vI v1, vI v2, vI v3, u4] [] g) (k2 : ¬ ((g 45) 4 ≤ v3) → EV d mX8_heard Q 31 [vR 45, vI v1, vI v2, vI v3, u4] [] g) : EV d mX8_heard Q 23 [vR 45, vI v1, vI v2, vI v3, u4] [] g := by
  refine wp_iload_n dX8_heard_23 rfl ?_
  refine wp_aload_n dX8_heard_24 rfl rfl ?_
  refine wp_get (v := vI ((g 45) 4)) dX8_heard_25 fl_8_19 L_45 rfl ?_
  exact wp_icmp_ge (tgt := 49) dX8_heard_28 rfl k1 k2
theorem b_X8_heard_31 {d : Nat} {Q : Option pV → pG → Prop} {g : pG} {v1 v2 v3 : Int} {u4 : pV} (h1 : 0 ≤ v3) (h2 : v3 < 8) (h3 : v3 < 56) (k : EV d mX8_heard Q 23 [vR 45, vI v1, vI v2, vI (w32 (v3 + 1)), u4] [] (cset g 71 (fup (g 71) v3.toNat ((g 51) v3.toNat)))) : EV d mX8_heard Q 31 [vR 45, vI v1, vI v2, vI v3, u4] [] g := by
  refine wp_aload_n dX8_heard_31 rfl rfl ?_
  refine wp_get (v := vR 71) dX8_heard_32 fl_8_96 L_45 rfl ?_
  refine wp_iload_n dX8_heard_35 rfl ?_
  refine wp_aload_n dX8_heard_36 rfl rfl ?_
  refine wp_get (v := vR 51) dX8_heard_37 fl_8_35 L_45 rfl ?_
  refine wp_iload_n dX8_heard_40 rfl ?_
  refine wp_iaload dX8_heard_41 h1 L_51 h2 ?_
  refine wp_iastore dX8_heard_42 h1 L_71 h3 ?_
  refine wp_iinc dX8_heard_43 rfl (Nat.le_of_ble_eq_true rfl) (pp (c := 2) rfl rfl) ?_
  refine wp_goto (tgt := 23) dX8_heard_46 rfl ?_
  exact k
theorem b_X8_heard_49 {d : Nat} {Q : Option pV → pG → Prop} {g : pG} {v1 v2 v3 : Int} {u4 : pV} {R : pG → Prop} (hc : CT d mX8_pass [vR 45, vI v2] g (qV R)) (k : ∀ gg : pG, R gg → EV d mX8_heard Q 54 [vR 45, vI v1, vI v2, vI v3, u4] [] gg) : EV d mX8_heard Q 49 [vR 45, vI v1, vI v2, vI v3, u4] [] g := by
  refine wp_aload_n dX8_heard_49 rfl rfl ?_
  refine wp_iload_n dX8_heard_50 rfl ?_
  exact wp_callvV (As := [vI v2]) dX8_heard_51 ml_8_154 (by decide) rfl L_45 (by decide) rfl (Nat.le_of_ble_eq_true rfl) rfl (Nat.le_refl _) (Nat.le_refl _) hc k
theorem b_X8_heard_54 {d : Nat} {Q : Option pV → pG → Prop} {g : pG} {v1 v2 v3 : Int} {u4 : pV} (k : EV d mX8_heard Q 59 [vR 45, vI v1, vI v2, vI 0, vI 0] [] g) : EV d mX8_heard Q 54 [vR 45, vI v1, vI v2, vI v3, u4] [] g := by
  refine wp_iconst dX8_heard_54 kc_0 ?_
  refine wp_istore_n dX8_heard_55 (Nat.le_of_ble_eq_true rfl) (pp (c := 2) rfl rfl) ?_
  refine wp_iconst dX8_heard_56 kc_0 ?_
  refine wp_istore dX8_heard_57 (Nat.le_of_ble_eq_true rfl) (pp (c := 3) rfl rfl) ?_
  exact k
theorem b_X8_heard_59 {d : Nat} {Q : Option pV → pG → Prop} {g : pG} {v1 v2 v3 v4 : Int} (k1 : ((g 45) 4 ≤ v4) → EV d mX8_heard Q 101 [vR 45, vI v1, vI v2, vI v3, vI v4] [] g) (k2 : ¬ ((g 45) 4 ≤ v4) → EV d mX8_heard Q 68 [vR 45, vI v1, vI v2, vI v3, vI v4] [] g) : EV d mX8_heard Q 59 [vR 45, vI v1, vI v2, vI v3, vI v4] [] g := by
  refine wp_iload dX8_heard_59 rfl ?_
  refine wp_aload_n dX8_heard_61 rfl rfl ?_
  refine wp_get (v := vI ((g 45) 4)) dX8_heard_62 fl_8_19 L_45 rfl ?_
  exact wp_icmp_ge (tgt := 101) dX8_heard_65 rfl k1 k2
theorem b_X8_heard_68 {d : Nat} {Q : Option pV → pG → Prop} {g : pG} {v1 v2 v3 v4 : Int} (k1 : (v3 ≠ 0) → EV d mX8_heard Q 89 [vR 45, vI v1, vI v2, vI v3, vI v4] [] g) (k2 : ¬ (v3 ≠ 0) → EV d mX8_heard Q 72 [vR 45, vI v1, vI v2, vI v3, vI v4] [] g) : EV d mX8_heard Q 68 [vR 45, vI v1, vI v2, vI v3, vI v4] [] g := by
  refine wp_iload_n dX8_heard_68 rfl ?_
  exact wp_if_ne (tgt := 89) dX8_heard_69 rfl k1 k2
theorem b_X8_heard_72 {d : Nat} {Q : Option pV → pG → Prop} {g : pG} {v1 v2 v3 v4 : Int} (h1 : 0 ≤ v4) (h2 : v4 < 56) (h3 : v4 < 8) (k1 : ((g 71) v4.toNat = (g 51) v4.toNat) → EV d mX8_heard Q 93 [vR 45, vI v1, vI v2, vI v3, vI v4] [] g) (k2 : ¬ ((g 71) v4.toNat = (g 51) v4.toNat) → EV d mX8_heard Q 89 [vR 45, vI v1, vI v2, vI v3, vI v4] [] g) : EV d mX8_heard Q 72 [vR 45, vI v1, vI v2, vI v3, vI v4] [] g := by
  refine wp_aload_n dX8_heard_72 rfl rfl ?_
  refine wp_get (v := vR 71) dX8_heard_73 fl_8_96 L_45 rfl ?_
  refine wp_iload dX8_heard_76 rfl ?_
  refine wp_iaload dX8_heard_78 h1 L_71 h2 ?_
  refine wp_aload_n dX8_heard_79 rfl rfl ?_
  refine wp_get (v := vR 51) dX8_heard_80 fl_8_35 L_45 rfl ?_
  refine wp_iload dX8_heard_83 rfl ?_
  refine wp_iaload dX8_heard_85 h1 L_51 h3 ?_
  exact wp_icmp_eq (tgt := 93) dX8_heard_86 rfl k1 k2
theorem b_X8_heard_89 {d : Nat} {Q : Option pV → pG → Prop} {g : pG} {v1 v2 v3 v4 : Int} (k : EV d mX8_heard Q 59 [vR 45, vI v1, vI v2, vI 1, vI (w32 (v4 + 1))] [] g) : EV d mX8_heard Q 89 [vR 45, vI v1, vI v2, vI v3, vI v4] [] g := by
  refine wp_iconst dX8_heard_89 kc_1 ?_
  refine wp_goto (tgt := 94) dX8_heard_90 rfl ?_
  refine wp_istore_n dX8_heard_94 (Nat.le_of_ble_eq_true rfl) (pp (c := 2) rfl rfl) ?_
  refine wp_iinc dX8_heard_95 rfl (Nat.le_of_ble_eq_true rfl) (pp (c := 3) rfl rfl) ?_
  refine wp_goto (tgt := 59) dX8_heard_98 rfl ?_
  exact k
theorem b_X8_heard_93 {d : Nat} {Q : Option pV → pG → Prop} {g : pG} {v1 v2 v3 v4 : Int} (k : EV d mX8_heard Q 59 [vR 45, vI v1, vI v2, vI 0, vI (w32 (v4 + 1))] [] g) : EV d mX8_heard Q 93 [vR 45, vI v1, vI v2, vI v3, vI v4] [] g := by
  refine wp_iconst dX8_heard_93 kc_0 ?_
  refine wp_istore_n dX8_heard_94 (Nat.le_of_ble_eq_true rfl) (pp (c := 2) rfl rfl) ?_
  refine wp_iinc dX8_heard_95 rfl (Nat.le_of_ble_eq_true rfl) (pp (c := 3) rfl rfl) ?_
  refine wp_goto (tgt := 59) dX8_heard_98 rfl ?_
  exact k
theorem b_X8_heard_101 {d : Nat} {Q : Option pV → pG → Prop} {g : pG} {v1 v2 v3 v4 : Int} (k1 : (v3 = 0) → EV d mX8_heard Q 110 [vR 45, vI v1, vI v2, vI v3, vI v4] [vI v1] g) (k2 : ¬ (v3 = 0) → EV d mX8_heard Q 106 [vR 45, vI v1, vI v2, vI v3, vI v4] [vI v1] g) : EV d mX8_heard Q 101 [vR 45, vI v1, vI v2, vI v3, vI v4] [] g := by
  refine wp_iload_n dX8_heard_101 rfl ?_
  refine wp_iload_n dX8_heard_102 rfl ?_
  exact wp_if_eq (tgt := 110) dX8_heard_103 rfl k1 k2
theorem b_X8_heard_106 {d : Nat} {Q : Option pV → pG → Prop} {g : pG} {v1 v2 v3 v4 vs0 : Int} (k : EV d mX8_heard Q 13 [vR 45, vI (w32 (vs0 + 1)), vI (w32 (v2 + 1)), vI v3, vI v4] [] g) : EV d mX8_heard Q 106 [vR 45, vI v1, vI v2, vI v3, vI v4] [vI vs0] g := by
  refine wp_iconst dX8_heard_106 kc_1 ?_
  refine wp_goto (tgt := 111) dX8_heard_107 rfl ?_
  refine wp_iadd dX8_heard_111 ?_
  refine wp_istore_n dX8_heard_112 (Nat.le_of_ble_eq_true rfl) (pp (c := 0) rfl rfl) ?_
  refine wp_iinc dX8_heard_113 rfl (Nat.le_of_ble_eq_true rfl) (pp (c := 1) rfl rfl) ?_
  refine wp_goto (tgt := 13) dX8_heard_116 rfl ?_
  exact k
theorem b_X8_heard_110 {d : Nat} {Q : Option pV → pG → Prop} {g : pG} {v1 v2 v3 v4 vs0 : Int} (k : EV d mX8_heard Q 13 [vR 45, vI (w32 (vs0 + 0)), vI (w32 (v2 + 1)), vI v3, vI v4] [] g) : EV d mX8_heard Q 110 [vR 45, vI v1, vI v2, vI v3, vI v4] [vI vs0] g := by
  refine wp_iconst dX8_heard_110 kc_0 ?_
  refine wp_iadd dX8_heard_111 ?_
  refine wp_istore_n dX8_heard_112 (Nat.le_of_ble_eq_true rfl) (pp (c := 0) rfl rfl) ?_
  refine wp_iinc dX8_heard_113 rfl (Nat.le_of_ble_eq_true rfl) (pp (c := 1) rfl rfl) ?_
  refine wp_goto (tgt := 13) dX8_heard_116 rfl ?_
  exact k
theorem b_X8_heard_119 {d : Nat} {Q : Option pV → pG → Prop} {g : pG} {v1 v2 : Int} {u3 u4 : pV} (hq : Q (some (vI v1)) g) : EV d mX8_heard Q 119 [vR 45, vI v1, vI v2, u3, u4] [] g := by
  refine wp_iload_n dX8_heard_119 rfl ?_
  exact wp_iret dX8_heard_120 rfl hq
theorem b_X8_lastSay_0 {d : Nat} {Q : Option pV → pG → Prop} {g : pG} (k1 : ((fup (g 45) 8 0) 0 ≠ 0) → EV d mX8_lastSay Q 19 [vR 45, vX 2, vX 2, vX 2] [] (cset g 45 (fup (g 45) 8 0))) (k2 : ¬ ((fup (g 45) 8 0) 0 ≠ 0) → EV d mX8_lastSay Q 12 [vR 45, vX 2, vX 2, vX 2] [] (cset g 45 (fup (g 45) 8 0))) : EV d mX8_lastSay Q 0 [vR 45, vX 2, vX 2, vX 2] [] g := by
  refine wp_aload_n dX8_lastSay_0 rfl rfl ?_
  refine wp_iconst dX8_lastSay_1 kc_0 ?_
  refine wp_putI dX8_lastSay_2 fl_8_105 L_45 rfl rfl ?_
  refine wp_aload_n dX8_lastSay_5 rfl rfl ?_
  refine wp_get (v := vI ((fup (g 45) 8 0) 0)) dX8_lastSay_6 fl_8_108 L_45 rfl ?_
  exact wp_if_ne (tgt := 19) dX8_lastSay_9 rfl k1 k2
theorem b_X8_lastSay_12 {d : Nat} {Q : Option pV → pG → Prop} {g : pG} {R : Int → pG → Prop} (hc : CT d mX8_refuse [vR 45, vI (-3)] g (qI R)) (k : ∀ (x : Int) (gg : pG), R x gg → EV d mX8_lastSay Q 18 [vR 45, vX 2, vX 2, vX 2] [vI x] gg) : EV d mX8_lastSay Q 12 [vR 45, vX 2, vX 2, vX 2] [] g := by
  refine wp_aload_n dX8_lastSay_12 rfl rfl ?_
  refine wp_bipush dX8_lastSay_13 kb_m3 kc_m3 ?_
  exact wp_callvI (As := [vI (-3)]) dX8_lastSay_15 ml_8_164 (by decide) rfl L_45 (by decide) rfl (Nat.le_of_ble_eq_true rfl) rfl (Nat.le_refl _) (Nat.le_refl _) hc k
theorem b_X8_lastSay_18 {d : Nat} {Q : Option pV → pG → Prop} {g : pG} {vs0 : Int} (hq : Q (some (vI vs0)) g) : EV d mX8_lastSay Q 18 [vR 45, vX 2, vX 2, vX 2] [vI vs0] g := by
  exact wp_iret dX8_lastSay_18 rfl hq
theorem b_X8_lastSay_19 {d : Nat} {Q : Option pV → pG → Prop} {g : pG} (h1 : 0 ≤ w32 (((g 45) 0) - 1)) (h2 : w32 (((g 45) 0) - 1) < 7) (k : EV d mX8_lastSay Q 35 [vR 45, vI ((g 46) (w32 (((g 45) 0) - 1)).toNat), vI 0, vI 0] [] g) : EV d mX8_lastSay Q 19 [vR 45, vX 2, vX 2, vX 2] [] g := by
  refine wp_aload_n dX8_lastSay_19 rfl rfl ?_
  refine wp_get (v := vR 46) dX8_lastSay_20 fl_8_7 L_45 rfl ?_
  refine wp_aload_n dX8_lastSay_23 rfl rfl ?_
  refine wp_get (v := vI ((g 45) 0)) dX8_lastSay_24 fl_8_108 L_45 rfl ?_
  refine wp_iconst dX8_lastSay_27 kc_1 ?_
  refine wp_isub dX8_lastSay_28 ?_
  refine wp_iaload dX8_lastSay_29 h1 L_46 h2 ?_
  refine wp_istore_n dX8_lastSay_30 (Nat.le_of_ble_eq_true rfl) (pp (c := 0) rfl rfl) ?_
  refine wp_iconst dX8_lastSay_31 kc_0 ?_
  refine wp_istore_n dX8_lastSay_32 (Nat.le_of_ble_eq_true rfl) (pp (c := 1) rfl rfl) ?_
  refine wp_iconst dX8_lastSay_33 kc_0 ?_
  refine wp_istore_n dX8_lastSay_34 (Nat.le_of_ble_eq_true rfl) (pp (c := 2) rfl rfl) ?_
  exact k
theorem b_X8_lastSay_35 {d : Nat} {Q : Option pV → pG → Prop} {g : pG} {v1 v2 v3 : Int} (k1 : (6 ≤ v3) → EV d mX8_lastSay Q 76 [vR 45, vI v1, vI v2, vI v3] [] g) (k2 : ¬ (6 ≤ v3) → EV d mX8_lastSay Q 41 [vR 45, vI v1, vI v2, vI v3] [] g) : EV d mX8_lastSay Q 35 [vR 45, vI v1, vI v2, vI v3] [] g := by
  refine wp_iload_n dX8_lastSay_35 rfl ?_
  refine wp_bipush dX8_lastSay_36 kb_6 kc_6 ?_
  exact wp_icmp_ge (tgt := 76) dX8_lastSay_38 rfl k1 k2
theorem b_X8_lastSay_41 {d : Nat} {Q : Option pV → pG → Prop} {g : pG} {v1 v2 v3 : Int} {R : Int → pG → Prop} (h1 : 0 ≤ w32 (((g 45) 0) - 1)) (h2 : w32 (((g 45) 0) - 1) < 7) (hc : CT d mX8_sumBehindAll [vR 45] (cset g 46 (fup (g 46) (w32 (((g 45) 0) - 1)).toNat v3)) (qI R)) (k : ∀ (x : Int) (gg : pG), R x gg → EV d mX8_lastSay Q 58 [vR 45, vI v1, vI v2, vI v3] [vI x, vI v2] gg) : EV d mX8_lastSay Q 41 [vR 45, vI v1, vI v2, vI v3] [] g := by
  refine wp_aload_n dX8_lastSay_41 rfl rfl ?_
  refine wp_get (v := vR 46) dX8_lastSay_42 fl_8_7 L_45 rfl ?_
  refine wp_aload_n dX8_lastSay_45 rfl rfl ?_
  refine wp_get (v := vI ((g 45) 0)) dX8_lastSay_46 fl_8_108 L_45 rfl ?_
  refine wp_iconst dX8_lastSay_49 kc_1 ?_
  refine wp_isub dX8_lastSay_50 ?_
  refine wp_iload_n dX8_lastSay_51 rfl ?_
  refine wp_iastore dX8_lastSay_52 h1 L_46 h2 ?_
  refine wp_iload_n dX8_lastSay_53 rfl ?_
  refine wp_aload_n dX8_lastSay_54 rfl rfl ?_
  exact wp_callvI (As := []) dX8_lastSay_55 ml_8_297 (by decide) rfl L_45 (by decide) rfl (Nat.le_of_ble_eq_true rfl) rfl (Nat.le_refl _) (Nat.le_refl _) hc k
theorem b_X8_lastSay_58 {d : Nat} {Q : Option pV → pG → Prop} {g : pG} {v1 v2 v3 vs0 vs1 : Int} (k1 : (vs1 ≤ 0) → EV d mX8_lastSay Q 67 [vR 45, vI v1, vI v2, vI v3] [vI vs0] g) (k2 : ¬ (vs1 ≤ 0) → EV d mX8_lastSay Q 61 [vR 45, vI v1, vI v2, vI v3] [vI vs0] g) : EV d mX8_lastSay Q 58 [vR 45, vI v1, vI v2, vI v3] [vI vs1, vI vs0] g := by
  exact wp_if_le (tgt := 67) dX8_lastSay_58 rfl k1 k2
theorem b_X8_lastSay_61 {d : Nat} {Q : Option pV → pG → Prop} {g : pG} {v1 v2 v3 vs0 : Int} (k : EV d mX8_lastSay Q 35 [vR 45, vI v1, vI (zor vs0 (zshl 1 v3)), vI (w32 (v3 + 1))] [] g) : EV d mX8_lastSay Q 61 [vR 45, vI v1, vI v2, vI v3] [vI vs0] g := by
  refine wp_iconst dX8_lastSay_61 kc_1 ?_
  refine wp_iload_n dX8_lastSay_62 rfl ?_
  refine wp_ishl dX8_lastSay_63 ?_
  refine wp_goto (tgt := 68) dX8_lastSay_64 rfl ?_
  refine wp_ior dX8_lastSay_68 ?_
  refine wp_istore_n dX8_lastSay_69 (Nat.le_of_ble_eq_true rfl) (pp (c := 1) rfl rfl) ?_
  refine wp_iinc dX8_lastSay_70 rfl (Nat.le_of_ble_eq_true rfl) (pp (c := 2) rfl rfl) ?_
  refine wp_goto (tgt := 35) dX8_lastSay_73 rfl ?_
  exact k
theorem b_X8_lastSay_67 {d : Nat} {Q : Option pV → pG → Prop} {g : pG} {v1 v2 v3 vs0 : Int} (k : EV d mX8_lastSay Q 35 [vR 45, vI v1, vI (zor vs0 0), vI (w32 (v3 + 1))] [] g) : EV d mX8_lastSay Q 67 [vR 45, vI v1, vI v2, vI v3] [vI vs0] g := by
  refine wp_iconst dX8_lastSay_67 kc_0 ?_
  refine wp_ior dX8_lastSay_68 ?_
  refine wp_istore_n dX8_lastSay_69 (Nat.le_of_ble_eq_true rfl) (pp (c := 1) rfl rfl) ?_
  refine wp_iinc dX8_lastSay_70 rfl (Nat.le_of_ble_eq_true rfl) (pp (c := 2) rfl rfl) ?_
  refine wp_goto (tgt := 35) dX8_lastSay_73 rfl ?_
  exact k
theorem b_X8_lastSay_76 {d : Nat} {Q : Option pV → pG → Prop} {g : pG} {v1 v2 v3 : Int} (h1 : 0 ≤ w32 (((g 45) 0) - 1)) (h2 : w32 (((g 45) 0) - 1) < 7) (hq : Q (some (vI v2)) (cset g 46 (fup (g 46) (w32 (((g 45) 0) - 1)).toNat v1))) : EV d mX8_lastSay Q 76 [vR 45, vI v1, vI v2, vI v3] [] g := by
  refine wp_aload_n dX8_lastSay_76 rfl rfl ?_
  refine wp_get (v := vR 46) dX8_lastSay_77 fl_8_7 L_45 rfl ?_
  refine wp_aload_n dX8_lastSay_80 rfl rfl ?_
  refine wp_get (v := vI ((g 45) 0)) dX8_lastSay_81 fl_8_108 L_45 rfl ?_
  refine wp_iconst dX8_lastSay_84 kc_1 ?_
  refine wp_isub dX8_lastSay_85 ?_
  refine wp_iload_n dX8_lastSay_86 rfl ?_
  refine wp_iastore dX8_lastSay_87 h1 L_46 h2 ?_
  refine wp_iload_n dX8_lastSay_88 rfl ?_
  exact wp_iret dX8_lastSay_89 rfl hq
theorem b_X8_row_0 {d : Nat} {Q : Option pV → pG → Prop} {g : pG} {v1 : Int} (k1 : (0 ≤ v1) → EV d mX8_row Q 16 [vR 45, vI v1] [] (cset g 45 (fup (g 45) 8 0))) (k2 : ¬ (0 ≤ v1) → EV d mX8_row Q 9 [vR 45, vI v1] [] (cset g 45 (fup (g 45) 8 0))) : EV d mX8_row Q 0 [vR 45, vI v1] [] g := by
  refine wp_aload_n dX8_row_0 rfl rfl ?_
  refine wp_iconst dX8_row_1 kc_0 ?_
  refine wp_putI dX8_row_2 fl_8_105 L_45 rfl rfl ?_
  refine wp_iload_n dX8_row_5 rfl ?_
  exact wp_if_ge (tgt := 16) dX8_row_6 rfl k1 k2
theorem b_X8_row_9 {d : Nat} {Q : Option pV → pG → Prop} {g : pG} {v1 : Int} {R : Int → pG → Prop} (hc : CT d mX8_refuse [vR 45, vI (-4)] g (qI R)) (k : ∀ (x : Int) (gg : pG), R x gg → EV d mX8_row Q 15 [vR 45, vI v1] [vI x] gg) : EV d mX8_row Q 9 [vR 45, vI v1] [] g := by
  refine wp_aload_n dX8_row_9 rfl rfl ?_
  refine wp_bipush dX8_row_10 kb_m4 kc_m4 ?_
  exact wp_callvI (As := [vI (-4)]) dX8_row_12 ml_8_164 (by decide) rfl L_45 (by decide) rfl (Nat.le_of_ble_eq_true rfl) rfl (Nat.le_refl _) (Nat.le_refl _) hc k
theorem b_X8_row_15 {d : Nat} {Q : Option pV → pG → Prop} {g : pG} {v1 vs0 : Int} (hq : Q (some (vI vs0)) g) : EV d mX8_row Q 15 [vR 45, vI v1] [vI vs0] g := by
  exact wp_iret dX8_row_15 rfl hq
theorem b_X8_row_16 {d : Nat} {Q : Option pV → pG → Prop} {g : pG} {v1 : Int} (k1 : (99 < v1) → EV d mX8_row Q 31 [vR 45, vI v1] [] g) (k2 : ¬ (99 < v1) → EV d mX8_row Q 22 [vR 45, vI v1] [] g) : EV d mX8_row Q 16 [vR 45, vI v1] [] g := by
  refine wp_iload_n dX8_row_16 rfl ?_
  refine wp_bipush dX8_row_17 kb_99 kc_99 ?_
  exact wp_icmp_gt (tgt := 31) dX8_row_19 rfl k1 k2
theorem b_X8_row_22 {d : Nat} {Q : Option pV → pG → Prop} {g : pG} {v1 : Int} (k1 : ((g 45) 41 ≠ 16) → EV d mX8_row Q 38 [vR 45, vI v1] [] g) (k2 : ¬ ((g 45) 41 ≠ 16) → EV d mX8_row Q 31 [vR 45, vI v1] [] g) : EV d mX8_row Q 22 [vR 45, vI v1] [] g := by
  refine wp_aload_n dX8_row_22 rfl rfl ?_
  refine wp_get (v := vI ((g 45) 41)) dX8_row_23 fl_8_312 L_45 rfl ?_
  refine wp_bipush dX8_row_26 kb_16 kc_16 ?_
  exact wp_icmp_ne (tgt := 38) dX8_row_28 rfl k1 k2
theorem b_X8_row_31 {d : Nat} {Q : Option pV → pG → Prop} {g : pG} {v1 : Int} {R : Int → pG → Prop} (hc : CT d mX8_refuse [vR 45, vI (-6)] g (qI R)) (k : ∀ (x : Int) (gg : pG), R x gg → EV d mX8_row Q 37 [vR 45, vI v1] [vI x] gg) : EV d mX8_row Q 31 [vR 45, vI v1] [] g := by
  refine wp_aload_n dX8_row_31 rfl rfl ?_
  refine wp_bipush dX8_row_32 kb_m6 kc_m6 ?_
  exact wp_callvI (As := [vI (-6)]) dX8_row_34 ml_8_164 (by decide) rfl L_45 (by decide) rfl (Nat.le_of_ble_eq_true rfl) rfl (Nat.le_refl _) (Nat.le_refl _) hc k
theorem b_X8_row_37 {d : Nat} {Q : Option pV → pG → Prop} {g : pG} {v1 vs0 : Int} (hq : Q (some (vI vs0)) g) : EV d mX8_row Q 37 [vR 45, vI v1] [vI vs0] g := by
  exact wp_iret dX8_row_37 rfl hq
theorem b_X8_row_38 {d : Nat} {Q : Option pV → pG → Prop} {g : pG} {v1 : Int} (h1 : 0 ≤ (g 45) 41) (h2 : (g 45) 41 < 16) (hq : Q (some (vI ((fup (g 45) 41 (w32 (((g 45) 41) + 1))) 41))) (cset (cset g 68 (fup (g 68) ((g 45) 41).toNat v1)) 45 (fup (g 45) 41 (w32 (((g 45) 41) + 1))))) : EV d mX8_row Q 38 [vR 45, vI v1] [] g := by
  refine wp_aload_n dX8_row_38 rfl rfl ?_
  refine wp_get (v := vR 68) dX8_row_39 fl_8_87 L_45 rfl ?_
  refine wp_aload_n dX8_row_42 rfl rfl ?_
  refine wp_get (v := vI ((g 45) 41)) dX8_row_43 fl_8_312 L_45 rfl ?_
  refine wp_iload_n dX8_row_46 rfl ?_
  refine wp_iastore dX8_row_47 h1 L_68 h2 ?_
  refine wp_aload_n dX8_row_48 rfl rfl ?_
  refine wp_dup dX8_row_49 rfl ?_
  refine wp_get (v := vI ((g 45) 41)) dX8_row_50 fl_8_312 L_45 rfl ?_
  refine wp_iconst dX8_row_53 kc_1 ?_
  refine wp_iadd dX8_row_54 ?_
  refine wp_putI dX8_row_55 fl_8_312 L_45 rfl rfl ?_
  refine wp_aload_n dX8_row_58 rfl rfl ?_
  refine wp_get (v := vI ((fup (g 45) 41 (w32 (((g 45) 41) + 1))) 41)) dX8_row_59 fl_8_312 L_45 rfl ?_
  exact wp_iret dX8_row_62 rfl hq
theorem b_X8_judge_0 {d : Nat} {Q : Option pV → pG → Prop} {g : pG} {R : pG → Prop} (hc : CT d mX8_think [vR 45] (cset (cset g 45 (fup (g 45) 8 0)) 45 (fup (fup (g 45) 8 0) 41 0)) (qV R)) (k : ∀ gg : pG, R gg → EV d mX8_judge Q 19 [vR 45, vI ((fup (g 45) 8 0) 41), vX 2] [] gg) : EV d mX8_judge Q 0 [vR 45, vX 2, vX 2] [] g := by
  refine wp_aload_n dX8_judge_0 rfl rfl ?_
  refine wp_iconst dX8_judge_1 kc_0 ?_
  refine wp_putI dX8_judge_2 fl_8_105 L_45 rfl rfl ?_
  refine wp_aload_n dX8_judge_5 rfl rfl ?_
  refine wp_get (v := vI ((fup (g 45) 8 0) 41)) dX8_judge_6 fl_8_312 L_45 rfl ?_
  refine wp_istore_n dX8_judge_9 (Nat.le_of_ble_eq_true rfl) (pp (c := 0) rfl rfl) ?_
  refine wp_aload_n dX8_judge_10 rfl rfl ?_
  refine wp_iconst dX8_judge_11 kc_0 ?_
  refine wp_putI dX8_judge_12 fl_8_312 L_45 rfl rfl ?_
  refine wp_aload_n dX8_judge_15 rfl rfl ?_
  exact wp_callvV (As := []) dX8_judge_16 ml_8_158 (by decide) rfl L_45 (by decide) rfl (Nat.le_of_ble_eq_true rfl) rfl (Nat.le_refl _) (Nat.le_refl _) hc k
theorem b_X8_judge_19 {d : Nat} {Q : Option pV → pG → Prop} {g : pG} {v1 : Int} (k : EV d mX8_judge Q 21 [vR 45, vI v1, vI 0] [] g) : EV d mX8_judge Q 19 [vR 45, vI v1, vX 2] [] g := by
  refine wp_iconst dX8_judge_19 kc_0 ?_
  refine wp_istore_n dX8_judge_20 (Nat.le_of_ble_eq_true rfl) (pp (c := 1) rfl rfl) ?_
  exact k
theorem b_X8_judge_21 {d : Nat} {Q : Option pV → pG → Prop} {g : pG} {v1 v2 : Int} (k1 : (v1 ≤ v2) → EV d mX8_judge Q 71 [vR 45, vI v1, vI v2] [] g) (k2 : ¬ (v1 ≤ v2) → EV d mX8_judge Q 26 [vR 45, vI v1, vI v2] [] g) : EV d mX8_judge Q 21 [vR 45, vI v1, vI v2] [] g := by
  refine wp_iload_n dX8_judge_21 rfl ?_
  refine wp_iload_n dX8_judge_22 rfl ?_
  exact wp_icmp_ge (tgt := 71) dX8_judge_23 rfl k1 k2
theorem b_X8_judge_26 {d : Nat} {Q : Option pV → pG → Prop} {g : pG} {v1 v2 : Int} (k1 : ((g 45) 0 < v2) → EV d mX8_judge Q 50 [vR 45, vI v1, vI v2] [] g) (k2 : ¬ ((g 45) 0 < v2) → EV d mX8_judge Q 34 [vR 45, vI v1, vI v2] [] g) : EV d mX8_judge Q 26 [vR 45, vI v1, vI v2] [] g := by
  refine wp_iload_n dX8_judge_26 rfl ?_
  refine wp_aload_n dX8_judge_27 rfl rfl ?_
  refine wp_get (v := vI ((g 45) 0)) dX8_judge_28 fl_8_108 L_45 rfl ?_
  exact wp_icmp_gt (tgt := 50) dX8_judge_31 rfl k1 k2
theorem b_X8_judge_34 {d : Nat} {Q : Option pV → pG → Prop} {g : pG} {v1 v2 : Int} {R : Int → pG → Prop} (hc : CT d mX8_sumNow [vR 45] g (qI R)) (k : ∀ (x : Int) (gg : pG), R x gg → EV d mX8_judge Q 38 [vR 45, vI v1, vI v2] [vI x] gg) : EV d mX8_judge Q 34 [vR 45, vI v1, vI v2] [] g := by
  refine wp_aload_n dX8_judge_34 rfl rfl ?_
  exact wp_callvI (As := []) dX8_judge_35 ml_8_118 (by decide) rfl L_45 (by decide) rfl (Nat.le_of_ble_eq_true rfl) rfl (Nat.le_refl _) (Nat.le_refl _) hc k
theorem b_X8_judge_38 {d : Nat} {Q : Option pV → pG → Prop} {g : pG} {v1 v2 vs0 : Int} (h1 : 0 ≤ v2) (h2 : v2 < 16) (k1 : (w32 (vs0 + 50) = (g 68) v2.toNat) → EV d mX8_judge Q 52 [vR 45, vI v1, vI v2] [] g) (k2 : ¬ (w32 (vs0 + 50) = (g 68) v2.toNat) → EV d mX8_judge Q 50 [vR 45, vI v1, vI v2] [] g) : EV d mX8_judge Q 38 [vR 45, vI v1, vI v2] [vI vs0] g := by
  refine wp_bipush dX8_judge_38 kb_50 kc_50 ?_
  refine wp_iadd dX8_judge_40 ?_
  refine wp_aload_n dX8_judge_41 rfl rfl ?_
  refine wp_get (v := vR 68) dX8_judge_42 fl_8_87 L_45 rfl ?_
  refine wp_iload_n dX8_judge_45 rfl ?_
  refine wp_iaload dX8_judge_46 h1 L_68 h2 ?_
  exact wp_icmp_eq (tgt := 52) dX8_judge_47 rfl k1 k2
theorem b_X8_judge_50 {d : Nat} {Q : Option pV → pG → Prop} {g : pG} {v1 v2 : Int} (hq : Q (some (vI v2)) g) : EV d mX8_judge Q 50 [vR 45, vI v1, vI v2] [] g := by
  refine wp_iload_n dX8_judge_50 rfl ?_
  exact wp_iret dX8_judge_51 rfl hq
theorem b_X8_judge_52 {d : Nat} {Q : Option pV → pG → Prop} {g : pG} {v1 v2 : Int} (k1 : ((g 45) 0 ≤ v2) → EV d mX8_judge Q 65 [vR 45, vI v1, vI v2] [] g) (k2 : ¬ ((g 45) 0 ≤ v2) → EV d mX8_judge Q 60 [vR 45, vI v1, vI v2] [] g) : EV d mX8_judge Q 52 [vR 45, vI v1, vI v2] [] g := by
  refine wp_iload_n dX8_judge_52 rfl ?_
  refine wp_aload_n dX8_judge_53 rfl rfl ?_
  refine wp_get (v := vI ((g 45) 0)) dX8_judge_54 fl_8_108 L_45 rfl ?_
  exact wp_icmp_ge (tgt := 65) dX8_judge_57 rfl k1 k2
theorem b_X8_judge_60 {d : Nat} {Q : Option pV → pG → Prop} {g : pG} {v1 v2 : Int} {R : pG → Prop} (hc : CT d mX8_pass [vR 45, vI v2] g (qV R)) (k : ∀ gg : pG, R gg → EV d mX8_judge Q 65 [vR 45, vI v1, vI v2] [] gg) : EV d mX8_judge Q 60 [vR 45, vI v1, vI v2] [] g := by
  refine wp_aload_n dX8_judge_60 rfl rfl ?_
  refine wp_iload_n dX8_judge_61 rfl ?_
  exact wp_callvV (As := [vI v2]) dX8_judge_62 ml_8_154 (by decide) rfl L_45 (by decide) rfl (Nat.le_of_ble_eq_true rfl) rfl (Nat.le_refl _) (Nat.le_refl _) hc k
theorem b_X8_judge_65 {d : Nat} {Q : Option pV → pG → Prop} {g : pG} {v1 v2 : Int} (k : EV d mX8_judge Q 21 [vR 45, vI v1, vI (w32 (v2 + 1))] [] g) : EV d mX8_judge Q 65 [vR 45, vI v1, vI v2] [] g := by
  refine wp_iinc dX8_judge_65 rfl (Nat.le_of_ble_eq_true rfl) (pp (c := 1) rfl rfl) ?_
  refine wp_goto (tgt := 21) dX8_judge_68 rfl ?_
  exact k
theorem b_X8_judge_71 {d : Nat} {Q : Option pV → pG → Prop} {g : pG} {v1 v2 : Int} (hq : Q (some (vI (-9))) g) : EV d mX8_judge Q 71 [vR 45, vI v1, vI v2] [] g := by
  refine wp_bipush dX8_judge_71 kb_m9 kc_m9 ?_
  exact wp_iret dX8_judge_73 rfl hq
theorem b_X8_clear_0 {d : Nat} {Q : Option pV → pG → Prop} {g : pG} (hq : Q (some (vI ((fup (g 45) 8 0) 41))) (cset (cset g 45 (fup (g 45) 8 0)) 45 (fup (fup (g 45) 8 0) 41 0))) : EV d mX8_clear Q 0 [vR 45, vX 2] [] g := by
  refine wp_aload_n dX8_clear_0 rfl rfl ?_
  refine wp_iconst dX8_clear_1 kc_0 ?_
  refine wp_putI dX8_clear_2 fl_8_105 L_45 rfl rfl ?_
  refine wp_aload_n dX8_clear_5 rfl rfl ?_
  refine wp_get (v := vI ((fup (g 45) 8 0) 41)) dX8_clear_6 fl_8_312 L_45 rfl ?_
  refine wp_istore_n dX8_clear_9 (Nat.le_of_ble_eq_true rfl) (pp (c := 0) rfl rfl) ?_
  refine wp_aload_n dX8_clear_10 rfl rfl ?_
  refine wp_iconst dX8_clear_11 kc_0 ?_
  refine wp_putI dX8_clear_12 fl_8_312 L_45 rfl rfl ?_
  refine wp_iload_n dX8_clear_15 rfl ?_
  exact wp_iret dX8_clear_16 rfl hq
theorem b_X8_lots_0 {d : Nat} {Q : Option pV → pG → Prop} {g : pG} {v1 v2 v3 : Int} {R : Int → pG → Prop} (hc : CT d mX8_wrongNumber [vI v1, vI 1, vI 20] (cset g 45 (fup (g 45) 8 0)) (qI R)) (k : ∀ (x : Int) (gg : pG), R x gg → EV d mX8_lots Q 12 [vR 45, vI v1, vI v2, vI v3, vX 2, vX 2, vX 2, vX 2, vX 2, vX 2] [vI x] gg) : EV d mX8_lots Q 0 [vR 45, vI v1, vI v2, vI v3, vX 2, vX 2, vX 2, vX 2, vX 2, vX 2] [] g := by
  refine wp_aload_n dX8_lots_0 rfl rfl ?_
  refine wp_iconst dX8_lots_1 kc_0 ?_
  refine wp_putI dX8_lots_2 fl_8_105 L_45 rfl rfl ?_
  refine wp_iload_n dX8_lots_5 rfl ?_
  refine wp_iconst dX8_lots_6 kc_1 ?_
  refine wp_bipush dX8_lots_7 kb_20 kc_20 ?_
  exact wp_callsI (As := [vI v1, vI 1, vI 20]) dX8_lots_9 ml_8_235 (Or.inl rfl) rfl (Nat.le_of_ble_eq_true rfl) rfl (Nat.le_refl _) (Nat.le_refl _) hc k
theorem b_X8_lots_12 {d : Nat} {Q : Option pV → pG → Prop} {g : pG} {v1 v2 v3 vs0 : Int} {R : Int → pG → Prop} (hc : CT d mX8_wrongBit [vI vs0, vI v3, vI 1] g (qI R)) (k : ∀ (x : Int) (gg : pG), R x gg → EV d mX8_lots Q 17 [vR 45, vI v1, vI v2, vI v3, vX 2, vX 2, vX 2, vX 2, vX 2, vX 2] [vI x] gg) : EV d mX8_lots Q 12 [vR 45, vI v1, vI v2, vI v3, vX 2, vX 2, vX 2, vX 2, vX 2, vX 2] [vI vs0] g := by
  refine wp_iload_n dX8_lots_12 rfl ?_
  refine wp_iconst dX8_lots_13 kc_1 ?_
  exact wp_callsI (As := [vI vs0, vI v3, vI 1]) dX8_lots_14 ml_8_279 (Or.inl rfl) rfl (Nat.le_of_ble_eq_true rfl) rfl (Nat.le_refl _) (Nat.le_refl _) hc k
theorem b_X8_lots_17 {d : Nat} {Q : Option pV → pG → Prop} {g : pG} {v1 v2 v3 vs0 : Int} (k1 : (0 ≤ vs0) → EV d mX8_lots Q 31 [vR 45, vI v1, vI v2, vI v3, vI vs0, vX 2, vX 2, vX 2, vX 2, vX 2] [] g) (k2 : ¬ (0 ≤ vs0) → EV d mX8_lots Q 24 [vR 45, vI v1, vI v2, vI v3, vI vs0, vX 2, vX 2, vX 2, vX 2, vX 2] [] g) : EV d mX8_lots Q 17 [vR 45, vI v1, vI v2, vI v3, vX 2, vX 2, vX 2, vX 2, vX 2, vX 2] [vI vs0] g := by
  refine wp_istore dX8_lots_17 (Nat.le_of_ble_eq_true rfl) (pp (c := 3) rfl rfl) ?_
  refine wp_iload dX8_lots_19 rfl ?_
  exact wp_if_ge (tgt := 31) dX8_lots_21 rfl k1 k2
theorem b_X8_lots_24 {d : Nat} {Q : Option pV → pG → Prop} {g : pG} {v1 v2 v3 v4 : Int} {R : Int → pG → Prop} (hc : CT d mX8_refuse [vR 45, vI v4] g (qI R)) (k : ∀ (x : Int) (gg : pG), R x gg → EV d mX8_lots Q 30 [vR 45, vI v1, vI v2, vI v3, vI v4, vX 2, vX 2, vX 2, vX 2, vX 2] [vI x] gg) : EV d mX8_lots Q 24 [vR 45, vI v1, vI v2, vI v3, vI v4, vX 2, vX 2, vX 2, vX 2, vX 2] [] g := by
  refine wp_aload_n dX8_lots_24 rfl rfl ?_
  refine wp_iload dX8_lots_25 rfl ?_
  exact wp_callvI (As := [vI v4]) dX8_lots_27 ml_8_164 (by decide) rfl L_45 (by decide) rfl (Nat.le_of_ble_eq_true rfl) rfl (Nat.le_refl _) (Nat.le_refl _) hc k
theorem b_X8_lots_30 {d : Nat} {Q : Option pV → pG → Prop} {g : pG} {v1 v2 v3 v4 vs0 : Int} (hq : Q (some (vI vs0)) g) : EV d mX8_lots Q 30 [vR 45, vI v1, vI v2, vI v3, vI v4, vX 2, vX 2, vX 2, vX 2, vX 2] [vI vs0] g := by
  exact wp_iret dX8_lots_30 rfl hq
theorem b_X8_lots_31 {d : Nat} {Q : Option pV → pG → Prop} {g : pG} {v1 v2 v3 v4 : Int} (k : EV d mX8_lots Q 43 [vR 45, vI v1, vI v2, vI v3, vI v4, vI v2, vI 0, vI 0, vI 0, vX 2] [] g) : EV d mX8_lots Q 31 [vR 45, vI v1, vI v2, vI v3, vI v4, vX 2, vX 2, vX 2, vX 2, vX 2] [] g := by
  refine wp_iload_n dX8_lots_31 rfl ?_
  refine wp_istore dX8_lots_32 (Nat.le_of_ble_eq_true rfl) (pp (c := 4) rfl rfl) ?_
  refine wp_iconst dX8_lots_34 kc_0 ?_
  refine wp_istore dX8_lots_35 (Nat.le_of_ble_eq_true rfl) (pp (c := 5) rfl rfl) ?_
  refine wp_iconst dX8_lots_37 kc_0 ?_
  refine wp_istore dX8_lots_38 (Nat.le_of_ble_eq_true rfl) (pp (c := 6) rfl rfl) ?_
  refine wp_iconst dX8_lots_40 kc_0 ?_
  refine wp_istore dX8_lots_41 (Nat.le_of_ble_eq_true rfl) (pp (c := 7) rfl rfl) ?_
  exact k
theorem b_X8_lots_43 {d : Nat} {Q : Option pV → pG → Prop} {g : pG} {v1 v2 v3 v4 v5 v6 v7 v8 : Int} {u9 : pV} (k1 : (v1 ≤ v8) → EV d mX8_lots Q 163 [vR 45, vI v1, vI v2, vI v3, vI v4, vI v5, vI v6, vI v7, vI v8, u9] [] g) (k2 : ¬ (v1 ≤ v8) → EV d mX8_lots Q 49 [vR 45, vI v1, vI v2, vI v3, vI v4, vI v5, vI v6, vI v7, vI v8, u9] [] g) : EV d mX8_lots Q 43 [vR 45, vI v1, vI v2, vI v3, vI v4, vI v5, vI v6, vI v7, vI v8, u9] [] g := by
  refine wp_iload dX8_lots_43 rfl ?_
  refine wp_iload_n dX8_lots_45 rfl ?_
  exact wp_icmp_ge (tgt := 163) dX8_lots_46 rfl k1 k2
theorem b_X8_lots_49 {d : Nat} {Q : Option pV → pG → Prop} {g : pG} {v1 v2 v3 v4 v5 v6 v7 v8 : Int} {u9 : pV} (k : EV d mX8_lots Q 60 [vR 45, vI v1, vI v2, vI v3, vI v4, vI v5, vI v6, vI v7, vI v8, vI 0] [] (cset g 45 (fup (g 45) 11 ((g 45) 4)))) : EV d mX8_lots Q 49 [vR 45, vI v1, vI v2, vI v3, vI v4, vI v5, vI v6, vI v7, vI v8, u9] [] g := by
  refine wp_aload_n dX8_lots_49 rfl rfl ?_
  refine wp_aload_n dX8_lots_50 rfl rfl ?_
  refine wp_get (v := vI ((g 45) 4)) dX8_lots_51 fl_8_19 L_45 rfl ?_
  refine wp_putI dX8_lots_54 fl_8_115 L_45 rfl rfl ?_
  refine wp_iconst dX8_lots_57 kc_0 ?_
  refine wp_istore dX8_lots_58 (Nat.le_of_ble_eq_true rfl) (pp (c := 8) rfl rfl) ?_
  exact k
theorem b_X8_lots_60 {d : Nat} {Q : Option pV → pG → Prop} {g : pG} {v1 v2 v3 v4 v5 v6 v7 v8 v9 : Int} (k1 : ((g 45) 4 ≤ v9) → EV d mX8_lots Q 110 [vR 45, vI v1, vI v2, vI v3, vI v4, vI v5, vI v6, vI v7, vI v8, vI v9] [] g) (k2 : ¬ ((g 45) 4 ≤ v9) → EV d mX8_lots Q 69 [vR 45, vI v1, vI v2, vI v3, vI v4, vI v5, vI v6, vI v7, vI v8, vI v9] [] g) : EV d mX8_lots Q 60 [vR 45, vI v1, vI v2, vI v3, vI v4, vI v5, vI v6, vI v7, vI v8, vI v9] [] g := by
  refine wp_iload dX8_lots_60 rfl ?_
  refine wp_aload_n dX8_lots_62 rfl rfl ?_
  refine wp_get (v := vI ((g 45) 4)) dX8_lots_63 fl_8_19 L_45 rfl ?_
  exact wp_icmp_ge (tgt := 110) dX8_lots_66 rfl k1 k2
theorem b_X8_lots_69 {d : Nat} {Q : Option pV → pG → Prop} {g : pG} {v1 v2 v3 v4 v5 v6 v7 v8 v9 : Int} (h1 : 0 ≤ v9) (h2 : v9 < 8) (k : EV d mX8_lots Q 60 [vR 45, vI v1, vI v2, vI v3, vI v4, vI (w32 ((w32 (v5 * 1103515245)) + 12345)), vI v6, vI v7, vI v8, vI (w32 (v9 + 1))] [] (cset g 51 (fup (g 51) v9.toNat (w32 ((w32 ((w32 ((zand (w32 ((w32 (v5 * 1103515245)) + 12345)) 2147483647).tdiv 65536)).tmod 19)) - 9))))) : EV d mX8_lots Q 69 [vR 45, vI v1, vI v2, vI v3, vI v4, vI v5, vI v6, vI v7, vI v8, vI v9] [] g := by
  refine wp_iload dX8_lots_69 rfl ?_
  refine wp_ldc_w dX8_lots_71 kl_8_342 ?_
  refine wp_imul dX8_lots_74 ?_
  refine wp_sipush dX8_lots_75 ks_12345 kc_12345 ?_
  refine wp_iadd dX8_lots_78 ?_
  refine wp_istore dX8_lots_79 (Nat.le_of_ble_eq_true rfl) (pp (c := 4) rfl rfl) ?_
  refine wp_aload_n dX8_lots_81 rfl rfl ?_
  refine wp_get (v := vR 51) dX8_lots_82 fl_8_35 L_45 rfl ?_
  refine wp_iload dX8_lots_85 rfl ?_
  refine wp_iload dX8_lots_87 rfl ?_
  refine wp_ldc_w dX8_lots_89 kl_8_343 ?_
  refine wp_iand dX8_lots_92 ?_
  refine wp_ldc_w dX8_lots_93 kl_8_344 ?_
  refine wp_idiv dX8_lots_96 (by decide) ?_
  refine wp_bipush dX8_lots_97 kb_19 kc_19 ?_
  refine wp_irem dX8_lots_99 (by decide) ?_
  refine wp_bipush dX8_lots_100 kb_9 kc_9 ?_
  refine wp_isub dX8_lots_102 ?_
  refine wp_iastore dX8_lots_103 h1 L_51 h2 ?_
  refine wp_iinc dX8_lots_104 rfl (Nat.le_of_ble_eq_true rfl) (pp (c := 8) rfl rfl) ?_
  refine wp_goto (tgt := 60) dX8_lots_107 rfl ?_
  exact k
theorem b_X8_lots_110 {d : Nat} {Q : Option pV → pG → Prop} {g : pG} {v1 v2 v3 v4 v5 v6 v7 v8 v9 : Int} {R : Int → pG → Prop} (hc : CT d mX8_isFor [vR 45] g (qI R)) (k : ∀ (x : Int) (gg : pG), R x gg → EV d mX8_lots Q 114 [vR 45, vI v1, vI v2, vI v3, vI v4, vI v5, vI v6, vI v7, vI v8, vI v9] [vI x] gg) : EV d mX8_lots Q 110 [vR 45, vI v1, vI v2, vI v3, vI v4, vI v5, vI v6, vI v7, vI v8, vI v9] [] g := by
  refine wp_aload_n dX8_lots_110 rfl rfl ?_
  exact wp_callvI (As := []) dX8_lots_111 ml_8_252 (by decide) rfl L_45 (by decide) rfl (Nat.le_of_ble_eq_true rfl) rfl (Nat.le_refl _) (Nat.le_refl _) hc k
theorem b_X8_lots_114 {d : Nat} {Q : Option pV → pG → Prop} {g : pG} {v1 v2 v3 v4 v5 v6 v7 v8 v9 vs0 : Int} {R : pG → Prop} (hc : CT d mX8_passAll [vR 45, vI 0] g (qV R)) (k : ∀ gg : pG, R gg → EV d mX8_lots Q 121 [vR 45, vI v1, vI v2, vI v3, vI v4, vI v5, vI v6, vI v7, vI v8, vI vs0] [] gg) : EV d mX8_lots Q 114 [vR 45, vI v1, vI v2, vI v3, vI v4, vI v5, vI v6, vI v7, vI v8, vI v9] [vI vs0] g := by
  refine wp_istore dX8_lots_114 (Nat.le_of_ble_eq_true rfl) (pp (c := 8) rfl rfl) ?_
  refine wp_aload_n dX8_lots_116 rfl rfl ?_
  refine wp_iconst dX8_lots_117 kc_0 ?_
  exact wp_callvV (As := [vI 0]) dX8_lots_118 ml_8_161 (by decide) rfl L_45 (by decide) rfl (Nat.le_of_ble_eq_true rfl) rfl (Nat.le_refl _) (Nat.le_refl _) hc k
theorem b_X8_lots_121 {d : Nat} {Q : Option pV → pG → Prop} {g : pG} {v1 v2 v3 v4 v5 v6 v7 v8 v9 : Int} {R : Int → pG → Prop} (hc : CT d mX8_isFor [vR 45] g (qI R)) (k : ∀ (x : Int) (gg : pG), R x gg → EV d mX8_lots Q 127 [vR 45, vI v1, vI v2, vI v3, vI v4, vI v5, vI v6, vI v7, vI v8, vI v9] [vI x, vI v6] gg) : EV d mX8_lots Q 121 [vR 45, vI v1, vI v2, vI v3, vI v4, vI v5, vI v6, vI v7, vI v8, vI v9] [] g := by
  refine wp_iload dX8_lots_121 rfl ?_
  refine wp_aload_n dX8_lots_123 rfl rfl ?_
  exact wp_callvI (As := []) dX8_lots_124 ml_8_252 (by decide) rfl L_45 (by decide) rfl (Nat.le_of_ble_eq_true rfl) rfl (Nat.le_refl _) (Nat.le_refl _) hc k
theorem b_X8_lots_127 {d : Nat} {Q : Option pV → pG → Prop} {g : pG} {v1 v2 v3 v4 v5 v6 v7 v8 v9 vs0 vs1 : Int} (k1 : (vs1 = 0) → EV d mX8_lots Q 134 [vR 45, vI v1, vI v2, vI v3, vI v4, vI v5, vI v6, vI v7, vI v8, vI v9] [vI vs0] g) (k2 : ¬ (vs1 = 0) → EV d mX8_lots Q 130 [vR 45, vI v1, vI v2, vI v3, vI v4, vI v5, vI v6, vI v7, vI v8, vI v9] [vI vs0] g) : EV d mX8_lots Q 127 [vR 45, vI v1, vI v2, vI v3, vI v4, vI v5, vI v6, vI v7, vI v8, vI v9] [vI vs1, vI vs0] g := by
  exact wp_if_eq (tgt := 134) dX8_lots_127 rfl k1 k2
theorem b_X8_lots_130 {d : Nat} {Q : Option pV → pG → Prop} {g : pG} {v1 v2 v3 v4 v5 v6 v7 v8 v9 vs0 : Int} {R : Int → pG → Prop} (hc : CT d mX8_isFor [vR 45] g (qI R)) (k : ∀ (x : Int) (gg : pG), R x gg → EV d mX8_lots Q 144 [vR 45, vI v1, vI v2, vI v3, vI v4, vI v5, vI (w32 (vs0 + 1)), vI v7, vI v8, vI v9] [vI x, vI v7] gg) : EV d mX8_lots Q 130 [vR 45, vI v1, vI v2, vI v3, vI v4, vI v5, vI v6, vI v7, vI v8, vI v9] [vI vs0] g := by
  refine wp_iconst dX8_lots_130 kc_1 ?_
  refine wp_goto (tgt := 135) dX8_lots_131 rfl ?_
  refine wp_iadd dX8_lots_135 ?_
  refine wp_istore dX8_lots_136 (Nat.le_of_ble_eq_true rfl) (pp (c := 5) rfl rfl) ?_
  refine wp_iload dX8_lots_138 rfl ?_
  refine wp_aload_n dX8_lots_140 rfl rfl ?_
  exact wp_callvI (As := []) dX8_lots_141 ml_8_252 (by decide) rfl L_45 (by decide) rfl (Nat.le_of_ble_eq_true rfl) rfl (Nat.le_refl _) (Nat.le_refl _) hc k
theorem b_X8_lots_134 {d : Nat} {Q : Option pV → pG → Prop} {g : pG} {v1 v2 v3 v4 v5 v6 v7 v8 v9 vs0 : Int} {R : Int → pG → Prop} (hc : CT d mX8_isFor [vR 45] g (qI R)) (k : ∀ (x : Int) (gg : pG), R x gg → EV d mX8_lots Q 144 [vR 45, vI v1, vI v2, vI v3, vI v4, vI v5, vI (w32 (vs0 + 0)), vI v7, vI v8, vI v9] [vI x, vI v7] gg) : EV d mX8_lots Q 134 [vR 45, vI v1, vI v2, vI v3, vI v4, vI v5, vI v6, vI v7, vI v8, vI v9] [vI vs0] g := by
  refine wp_iconst dX8_lots_134 kc_0 ?_
  refine wp_iadd dX8_lots_135 ?_
  refine wp_istore dX8_lots_136 (Nat.le_of_ble_eq_true rfl) (pp (c := 5) rfl rfl) ?_
  refine wp_iload dX8_lots_138 rfl ?_
  refine wp_aload_n dX8_lots_140 rfl rfl ?_
  exact wp_callvI (As := []) dX8_lots_141 ml_8_252 (by decide) rfl L_45 (by decide) rfl (Nat.le_of_ble_eq_true rfl) rfl (Nat.le_refl _) (Nat.le_refl _) hc k
theorem b_X8_lots_144 {d : Nat} {Q : Option pV → pG → Prop} {g : pG} {v1 v2 v3 v4 v5 v6 v7 v8 v9 vs0 vs1 : Int} (k1 : (vs1 ≠ v9) → EV d mX8_lots Q 153 [vR 45, vI v1, vI v2, vI v3, vI v4, vI v5, vI v6, vI v7, vI v8, vI v9] [vI vs0] g) (k2 : ¬ (vs1 ≠ v9) → EV d mX8_lots Q 149 [vR 45, vI v1, vI v2, vI v3, vI v4, vI v5, vI v6, vI v7, vI v8, vI v9] [vI vs0] g) : EV d mX8_lots Q 144 [vR 45, vI v1, vI v2, vI v3, vI v4, vI v5, vI v6, vI v7, vI v8, vI v9] [vI vs1, vI vs0] g := by
  refine wp_iload dX8_lots_144 rfl ?_
  exact wp_icmp_ne (tgt := 153) dX8_lots_146 rfl k1 k2
theorem b_X8_lots_149 {d : Nat} {Q : Option pV → pG → Prop} {g : pG} {v1 v2 v3 v4 v5 v6 v7 v8 v9 vs0 : Int} (k : EV d mX8_lots Q 43 [vR 45, vI v1, vI v2, vI v3, vI v4, vI v5, vI v6, vI (w32 (vs0 + 0)), vI (w32 (v8 + 1)), vI v9] [] g) : EV d mX8_lots Q 149 [vR 45, vI v1, vI v2, vI v3, vI v4, vI v5, vI v6, vI v7, vI v8, vI v9] [vI vs0] g := by
  refine wp_iconst dX8_lots_149 kc_0 ?_
  refine wp_goto (tgt := 154) dX8_lots_150 rfl ?_
  refine wp_iadd dX8_lots_154 ?_
  refine wp_istore dX8_lots_155 (Nat.le_of_ble_eq_true rfl) (pp (c := 6) rfl rfl) ?_
  refine wp_iinc dX8_lots_157 rfl (Nat.le_of_ble_eq_true rfl) (pp (c := 7) rfl rfl) ?_
  refine wp_goto (tgt := 43) dX8_lots_160 rfl ?_
  exact k
theorem b_X8_lots_153 {d : Nat} {Q : Option pV → pG → Prop} {g : pG} {v1 v2 v3 v4 v5 v6 v7 v8 v9 vs0 : Int} (k : EV d mX8_lots Q 43 [vR 45, vI v1, vI v2, vI v3, vI v4, vI v5, vI v6, vI (w32 (vs0 + 1)), vI (w32 (v8 + 1)), vI v9] [] g) : EV d mX8_lots Q 153 [vR 45, vI v1, vI v2, vI v3, vI v4, vI v5, vI v6, vI v7, vI v8, vI v9] [vI vs0] g := by
  refine wp_iconst dX8_lots_153 kc_1 ?_
  refine wp_iadd dX8_lots_154 ?_
  refine wp_istore dX8_lots_155 (Nat.le_of_ble_eq_true rfl) (pp (c := 6) rfl rfl) ?_
  refine wp_iinc dX8_lots_157 rfl (Nat.le_of_ble_eq_true rfl) (pp (c := 7) rfl rfl) ?_
  refine wp_goto (tgt := 43) dX8_lots_160 rfl ?_
  exact k
theorem b_X8_lots_163 {d : Nat} {Q : Option pV → pG → Prop} {g : pG} {v1 v2 v3 v4 v5 v6 v7 v8 : Int} {u9 : pV} (k1 : (v3 ≠ 0) → EV d mX8_lots Q 172 [vR 45, vI v1, vI v2, vI v3, vI v4, vI v5, vI v6, vI v7, vI v8, u9] [] g) (k2 : ¬ (v3 ≠ 0) → EV d mX8_lots Q 167 [vR 45, vI v1, vI v2, vI v3, vI v4, vI v5, vI v6, vI v7, vI v8, u9] [] g) : EV d mX8_lots Q 163 [vR 45, vI v1, vI v2, vI v3, vI v4, vI v5, vI v6, vI v7, vI v8, u9] [] g := by
  refine wp_iload_n dX8_lots_163 rfl ?_
  exact wp_if_ne (tgt := 172) dX8_lots_164 rfl k1 k2
theorem b_X8_lots_167 {d : Nat} {Q : Option pV → pG → Prop} {g : pG} {v1 v2 v3 v4 v5 v6 v7 v8 : Int} {u9 : pV} (hq : Q (some (vI v6)) g) : EV d mX8_lots Q 167 [vR 45, vI v1, vI v2, vI v3, vI v4, vI v5, vI v6, vI v7, vI v8, u9] [] g := by
  refine wp_iload dX8_lots_167 rfl ?_
  refine wp_goto (tgt := 174) dX8_lots_169 rfl ?_
  exact wp_iret dX8_lots_174 rfl hq
theorem b_X8_lots_172 {d : Nat} {Q : Option pV → pG → Prop} {g : pG} {v1 v2 v3 v4 v5 v6 v7 v8 : Int} {u9 : pV} (hq : Q (some (vI v7)) g) : EV d mX8_lots Q 172 [vR 45, vI v1, vI v2, vI v3, vI v4, vI v5, vI v6, vI v7, vI v8, u9] [] g := by
  refine wp_iload dX8_lots_172 rfl ?_
  exact wp_iret dX8_lots_174 rfl hq
theorem b_X8_count_0 {d : Nat} {Q : Option pV → pG → Prop} {g : pG} {v1 : Int} (k0 : v1 = 0 → EV d mX8_count Q 52 [vR 45, vI v1] [] (cset g 45 (fup (g 45) 8 0))) (k1 : v1 = 1 → EV d mX8_count Q 57 [vR 45, vI v1] [] (cset g 45 (fup (g 45) 8 0))) (k2 : v1 = 2 → EV d mX8_count Q 62 [vR 45, vI v1] [] (cset g 45 (fup (g 45) 8 0))) (k3 : v1 = 3 → EV d mX8_count Q 67 [vR 45, vI v1] [] (cset g 45 (fup (g 45) 8 0))) (k4 : v1 = 4 → EV d mX8_count Q 72 [vR 45, vI v1] [] (cset g 45 (fup (g 45) 8 0))) (k5 : v1 = 5 → EV d mX8_count Q 77 [vR 45, vI v1] [] (cset g 45 (fup (g 45) 8 0))) (k6 : v1 = 6 → EV d mX8_count Q 82 [vR 45, vI v1] [] (cset g 45 (fup (g 45) 8 0))) (k7 : v1 = 7 → EV d mX8_count Q 87 [vR 45, vI v1] [] (cset g 45 (fup (g 45) 8 0))) (kd : (v1 ≠ 0 ∧ v1 ≠ 1 ∧ v1 ≠ 2 ∧ v1 ≠ 3 ∧ v1 ≠ 4 ∧ v1 ≠ 5 ∧ v1 ≠ 6 ∧ v1 ≠ 7) → EV d mX8_count Q 96 [vR 45, vI v1] [] (cset g 45 (fup (g 45) 8 0))) : EV d mX8_count Q 0 [vR 45, vI v1] [] g := by
  refine wp_aload_n dX8_count_0 rfl rfl ?_
  refine wp_iconst dX8_count_1 kc_0 ?_
  refine wp_putI dX8_count_2 fl_8_105 L_45 rfl rfl ?_
  refine wp_iload_n dX8_count_5 rfl ?_
  refine wp_tsw (x := v1) dX8_count_6 (fun hh => ⟨96, rfl, kd (by omega)⟩) (fun hh hh2 => ?_)
  rcases (show v1 = 0 ∨ v1 = 1 ∨ v1 = 2 ∨ v1 = 3 ∨ v1 = 4 ∨ v1 = 5 ∨ v1 = 6 ∨ v1 = 7 by omega) with hq | hq | hq | hq | hq | hq | hq | hq
  · exact ⟨46, 52, by rw [hq]; rfl, rfl, k0 hq⟩
  · exact ⟨51, 57, by rw [hq]; rfl, rfl, k1 hq⟩
  · exact ⟨56, 62, by rw [hq]; rfl, rfl, k2 hq⟩
  · exact ⟨61, 67, by rw [hq]; rfl, rfl, k3 hq⟩
  · exact ⟨66, 72, by rw [hq]; rfl, rfl, k4 hq⟩
  · exact ⟨71, 77, by rw [hq]; rfl, rfl, k5 hq⟩
  · exact ⟨76, 82, by rw [hq]; rfl, rfl, k6 hq⟩
  · exact ⟨81, 87, by rw [hq]; rfl, rfl, k7 hq⟩
theorem b_X8_count_52 {d : Nat} {Q : Option pV → pG → Prop} {g : pG} {v1 : Int} (hq : Q (some (vI ((g 45) 0))) g) : EV d mX8_count Q 52 [vR 45, vI v1] [] g := by
  refine wp_aload_n dX8_count_52 rfl rfl ?_
  refine wp_get (v := vI ((g 45) 0)) dX8_count_53 fl_8_108 L_45 rfl ?_
  exact wp_iret dX8_count_56 rfl hq
theorem b_X8_count_57 {d : Nat} {Q : Option pV → pG → Prop} {g : pG} {v1 : Int} (hq : Q (some (vI ((g 45) 4))) g) : EV d mX8_count Q 57 [vR 45, vI v1] [] g := by
  refine wp_aload_n dX8_count_57 rfl rfl ?_
  refine wp_get (v := vI ((g 45) 4)) dX8_count_58 fl_8_19 L_45 rfl ?_
  exact wp_iret dX8_count_61 rfl hq
theorem b_X8_count_62 {d : Nat} {Q : Option pV → pG → Prop} {g : pG} {v1 : Int} (hq : Q (some (vI ((g 45) 6))) g) : EV d mX8_count Q 62 [vR 45, vI v1] [] g := by
  refine wp_aload_n dX8_count_62 rfl rfl ?_
  refine wp_get (v := vI ((g 45) 6)) dX8_count_63 fl_8_26 L_45 rfl ?_
  exact wp_iret dX8_count_66 rfl hq
theorem b_X8_count_67 {d : Nat} {Q : Option pV → pG → Prop} {g : pG} {v1 : Int} (hq : Q (some (vI ((g 45) 7))) g) : EV d mX8_count Q 67 [vR 45, vI v1] [] g := by
  refine wp_aload_n dX8_count_67 rfl rfl ?_
  refine wp_get (v := vI ((g 45) 7)) dX8_count_68 fl_8_29 L_45 rfl ?_
  exact wp_iret dX8_count_71 rfl hq
theorem b_X8_count_72 {d : Nat} {Q : Option pV → pG → Prop} {g : pG} {v1 : Int} (hq : Q (some (vI ((g 45) 13))) g) : EV d mX8_count Q 72 [vR 45, vI v1] [] g := by
  refine wp_aload_n dX8_count_72 rfl rfl ?_
  refine wp_get (v := vI ((g 45) 13)) dX8_count_73 fl_8_167 L_45 rfl ?_
  exact wp_iret dX8_count_76 rfl hq
theorem b_X8_count_77 {d : Nat} {Q : Option pV → pG → Prop} {g : pG} {v1 : Int} (hq : Q (some (vI ((g 45) 41))) g) : EV d mX8_count Q 77 [vR 45, vI v1] [] g := by
  refine wp_aload_n dX8_count_77 rfl rfl ?_
  refine wp_get (v := vI ((g 45) 41)) dX8_count_78 fl_8_312 L_45 rfl ?_
  exact wp_iret dX8_count_81 rfl hq
theorem b_X8_count_82 {d : Nat} {Q : Option pV → pG → Prop} {g : pG} {v1 : Int} (hq : Q (some (vI ((g 45) 28))) g) : EV d mX8_count Q 82 [vR 45, vI v1] [] g := by
  refine wp_aload_n dX8_count_82 rfl rfl ?_
  refine wp_get (v := vI ((g 45) 28)) dX8_count_83 fl_8_212 L_45 rfl ?_
  exact wp_iret dX8_count_86 rfl hq
theorem b_X8_count_87 {d : Nat} {Q : Option pV → pG → Prop} {g : pG} {v1 : Int} {R : pG → Prop} (hc : CT d mX8_think [vR 45] g (qV R)) (k : ∀ gg : pG, R gg → EV d mX8_count Q 91 [vR 45, vI v1] [] gg) : EV d mX8_count Q 87 [vR 45, vI v1] [] g := by
  refine wp_aload_n dX8_count_87 rfl rfl ?_
  exact wp_callvV (As := []) dX8_count_88 ml_8_158 (by decide) rfl L_45 (by decide) rfl (Nat.le_of_ble_eq_true rfl) rfl (Nat.le_refl _) (Nat.le_refl _) hc k
theorem b_X8_count_91 {d : Nat} {Q : Option pV → pG → Prop} {g : pG} {v1 : Int} {R : Int → pG → Prop} (hc : CT d mX8_standing [vR 45] g (qI R)) (k : ∀ (x : Int) (gg : pG), R x gg → EV d mX8_count Q 95 [vR 45, vI v1] [vI x] gg) : EV d mX8_count Q 91 [vR 45, vI v1] [] g := by
  refine wp_aload_n dX8_count_91 rfl rfl ?_
  exact wp_callvI (As := []) dX8_count_92 ml_8_139 (by decide) rfl L_45 (by decide) rfl (Nat.le_of_ble_eq_true rfl) rfl (Nat.le_refl _) (Nat.le_refl _) hc k
theorem b_X8_count_95 {d : Nat} {Q : Option pV → pG → Prop} {g : pG} {v1 vs0 : Int} (hq : Q (some (vI vs0)) g) : EV d mX8_count Q 95 [vR 45, vI v1] [vI vs0] g := by
  exact wp_iret dX8_count_95 rfl hq
theorem b_X8_count_96 {d : Nat} {Q : Option pV → pG → Prop} {g : pG} {v1 : Int} {R : Int → pG → Prop} (hc : CT d mX8_in [vL v1, vL 11, vL 16] g (qI R)) (k : ∀ (x : Int) (gg : pG), R x gg → EV d mX8_count Q 107 [vR 45, vI v1] [vI x] gg) : EV d mX8_count Q 96 [vR 45, vI v1] [] g := by
  refine wp_iload_n dX8_count_96 rfl ?_
  refine wp_i2l dX8_count_97 ?_
  refine wp_ldc2_w dX8_count_98 k2_8_345 ?_
  refine wp_ldc2_w dX8_count_101 k2_8_347 ?_
  exact wp_callsI (As := [vL v1, vL 11, vL 16]) dX8_count_104 ml_8_111 (Or.inl rfl) rfl (Nat.le_of_ble_eq_true rfl) rfl (Nat.le_refl _) (Nat.le_refl _) hc k
theorem b_X8_count_107 {d : Nat} {Q : Option pV → pG → Prop} {g : pG} {v1 vs0 : Int} (k1 : (vs0 = 0) → EV d mX8_count Q 122 [vR 45, vI v1] [] g) (k2 : ¬ (vs0 = 0) → EV d mX8_count Q 110 [vR 45, vI v1] [] g) : EV d mX8_count Q 107 [vR 45, vI v1] [vI vs0] g := by
  exact wp_if_eq (tgt := 122) dX8_count_107 rfl k1 k2
theorem b_X8_count_110 {d : Nat} {Q : Option pV → pG → Prop} {g : pG} {v1 : Int} (h1 : 0 ≤ w32 (v1 - 10)) (h2 : w32 (v1 - 10) < 7) (hq : Q (some (vI ((g 50) (w32 (v1 - 10)).toNat))) g) : EV d mX8_count Q 110 [vR 45, vI v1] [] g := by
  refine wp_aload_n dX8_count_110 rfl rfl ?_
  refine wp_get (v := vR 50) dX8_count_111 fl_8_32 L_45 rfl ?_
  refine wp_iload_n dX8_count_114 rfl ?_
  refine wp_bipush dX8_count_115 kb_10 kc_10 ?_
  refine wp_isub dX8_count_117 ?_
  refine wp_iaload dX8_count_118 h1 L_50 h2 ?_
  refine wp_goto (tgt := 124) dX8_count_119 rfl ?_
  exact wp_iret dX8_count_124 rfl hq
theorem b_X8_count_122 {d : Nat} {Q : Option pV → pG → Prop} {g : pG} {v1 : Int} (hq : Q (some (vI (-9))) g) : EV d mX8_count Q 122 [vR 45, vI v1] [] g := by
  refine wp_bipush dX8_count_122 kb_m9 kc_m9 ?_
  exact wp_iret dX8_count_124 rfl hq
