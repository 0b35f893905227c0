theorem b_X7_worst_0 {d : Nat} {Q : Option pV → pG → Prop} {g : pG} {v1 v2 : Int} {R : Int → pG → Prop} (hc : CT d mX5_hasCourt [vR 1, vI v1] g (qI R)) (k : ∀ (x : Int) (gg : pG), R x gg → EV d mX7_worst Q 8 [vR 0, vI v1, vI v2, vX 2, vX 2, vX 2] [vI x] gg) : EV d mX7_worst Q 0 [vR 0, vI v1, vI v2, vX 2, vX 2, vX 2] [] g := by
  refine wp_aload_n dX7_worst_0 rfl rfl ?_
  refine wp_get (v := vR 1) dX7_worst_1 fl_7_10 L_0 rfl ?_
  refine wp_iload_n dX7_worst_4 rfl ?_
  exact wp_callvI (As := [vI v1]) dX7_worst_5 ml_7_105 (by decide) rfl L_1 (by decide) rfl (Nat.le_of_ble_eq_true rfl) rfl (Nat.le_refl _) (Nat.le_refl _) hc k
theorem b_X7_worst_8 {d : Nat} {Q : Option pV → pG → Prop} {g : pG} {v1 v2 vs0 : Int} (k1 : (vs0 ≠ 0) → EV d mX7_worst Q 17 [vR 0, vI v1, vI v2, vX 2, vX 2, vX 2] [] g) (k2 : ¬ (vs0 ≠ 0) → EV d mX7_worst Q 11 [vR 0, vI v1, vI v2, vX 2, vX 2, vX 2] [] g) : EV d mX7_worst Q 8 [vR 0, vI v1, vI v2, vX 2, vX 2, vX 2] [vI vs0] g := by
  exact wp_if_ne (tgt := 17) dX7_worst_8 rfl k1 k2
theorem b_X7_worst_11 {d : Nat} {Q : Option pV → pG → Prop} {g : pG} {v1 v2 : Int} {R : Int → pG → Prop} (hc : CT d mX7_refuse [vR 0, vI (-1)] g (qI R)) (k : ∀ (x : Int) (gg : pG), R x gg → EV d mX7_worst Q 16 [vR 0, vI v1, vI v2, vX 2, vX 2, vX 2] [vI x] gg) : EV d mX7_worst Q 11 [vR 0, vI v1, vI v2, vX 2, vX 2, vX 2] [] g := by
  refine wp_aload_n dX7_worst_11 rfl rfl ?_
  refine wp_iconst dX7_worst_12 kc_m1 ?_
  exact wp_callvI (As := [vI (-1)]) dX7_worst_13 ml_7_91 (by decide) rfl L_0 (by decide) rfl (Nat.le_of_ble_eq_true rfl) rfl (Nat.le_refl _) (Nat.le_refl _) hc k
theorem b_X7_worst_16 {d : Nat} {Q : Option pV → pG → Prop} {g : pG} {v1 v2 vs0 : Int} (hq : Q (some (vI vs0)) g) : EV d mX7_worst Q 16 [vR 0, vI v1, vI v2, vX 2, vX 2, vX 2] [vI vs0] g := by
  exact wp_iret dX7_worst_16 rfl hq
theorem b_X7_worst_17 {d : Nat} {Q : Option pV → pG → Prop} {g : pG} {v1 v2 : Int} (k1 : (v2 < 0) → EV d mX7_worst Q 26 [vR 0, vI v1, vI v2, vX 2, vX 2, vX 2] [] g) (k2 : ¬ (v2 < 0) → EV d mX7_worst Q 21 [vR 0, vI v1, vI v2, vX 2, vX 2, vX 2] [] g) : EV d mX7_worst Q 17 [vR 0, vI v1, vI v2, vX 2, vX 2, vX 2] [] g := by
  refine wp_iload_n dX7_worst_17 rfl ?_
  exact wp_if_lt (tgt := 26) dX7_worst_18 rfl k1 k2
theorem b_X7_worst_21 {d : Nat} {Q : Option pV → pG → Prop} {g : pG} {v1 v2 : Int} (k1 : (v2 ≤ 1) → EV d mX7_worst Q 33 [vR 0, vI v1, vI v2, vX 2, vX 2, vX 2] [] g) (k2 : ¬ (v2 ≤ 1) → EV d mX7_worst Q 26 [vR 0, vI v1, vI v2, vX 2, vX 2, vX 2] [] g) : EV d mX7_worst Q 21 [vR 0, vI v1, vI v2, vX 2, vX 2, vX 2] [] g := by
  refine wp_iload_n dX7_worst_21 rfl ?_
  refine wp_iconst dX7_worst_22 kc_1 ?_
  exact wp_icmp_le (tgt := 33) dX7_worst_23 rfl k1 k2
theorem b_X7_worst_26 {d : Nat} {Q : Option pV → pG → Prop} {g : pG} {v1 v2 : Int} {R : Int → pG → Prop} (hc : CT d mX7_refuse [vR 0, vI (-2)] g (qI R)) (k : ∀ (x : Int) (gg : pG), R x gg → EV d mX7_worst Q 32 [vR 0, vI v1, vI v2, vX 2, vX 2, vX 2] [vI x] gg) : EV d mX7_worst Q 26 [vR 0, vI v1, vI v2, vX 2, vX 2, vX 2] [] g := by
  refine wp_aload_n dX7_worst_26 rfl rfl ?_
  refine wp_bipush dX7_worst_27 kb_m2 kc_m2 ?_
  exact wp_callvI (As := [vI (-2)]) dX7_worst_29 ml_7_91 (by decide) rfl L_0 (by decide) rfl (Nat.le_of_ble_eq_true rfl) rfl (Nat.le_refl _) (Nat.le_refl _) hc k
theorem b_X7_worst_32 {d : Nat} {Q : Option pV → pG → Prop} {g : pG} {v1 v2 vs0 : Int} (hq : Q (some (vI vs0)) g) : EV d mX7_worst Q 32 [vR 0, vI v1, vI v2, vX 2, vX 2, vX 2] [vI vs0] g := by
  exact wp_iret dX7_worst_32 rfl hq
theorem b_X7_worst_33 {d : Nat} {Q : Option pV → pG → Prop} {g : pG} {v1 v2 : Int} (k : EV d mX7_worst Q 42 [vR 0, vI v1, vI v2, vI 0, vI 1000000000, vI 0] [] g) : EV d mX7_worst Q 33 [vR 0, vI v1, vI v2, vX 2, vX 2, vX 2] [] g := by
  refine wp_iconst dX7_worst_33 kc_0 ?_
  refine wp_istore_n dX7_worst_34 (Nat.le_of_ble_eq_true rfl) (pp (c := 2) rfl rfl) ?_
  refine wp_ldc dX7_worst_35 kl_7_241 ?_
  refine wp_istore dX7_worst_37 (Nat.le_of_ble_eq_true rfl) (pp (c := 3) rfl rfl) ?_
  refine wp_iconst dX7_worst_39 kc_0 ?_
  refine wp_istore dX7_worst_40 (Nat.le_of_ble_eq_true rfl) (pp (c := 4) rfl rfl) ?_
  exact k
theorem b_X7_worst_42 {d : Nat} {Q : Option pV → pG → Prop} {g : pG} {v1 v2 v3 v4 v5 : Int} (k1 : (6 ≤ v5) → EV d mX7_worst Q 86 [vR 0, vI v1, vI v2, vI v3, vI v4, vI v5] [] g) (k2 : ¬ (6 ≤ v5) → EV d mX7_worst Q 49 [vR 0, vI v1, vI v2, vI v3, vI v4, vI v5] [] g) : EV d mX7_worst Q 42 [vR 0, vI v1, vI v2, vI v3, vI v4, vI v5] [] g := by
  refine wp_iload dX7_worst_42 rfl ?_
  refine wp_bipush dX7_worst_44 kb_6 kc_6 ?_
  exact wp_icmp_ge (tgt := 86) dX7_worst_46 rfl k1 k2
theorem b_X7_worst_49 {d : Nat} {Q : Option pV → pG → Prop} {g : pG} {v1 v2 v3 v4 v5 : Int} {R : pG → Prop} (hc : CT d mX7_goDownWith [vR 0, vI v1, vI v5] g (qV R)) (k : ∀ gg : pG, R gg → EV d mX7_worst Q 56 [vR 0, vI v1, vI v2, vI v3, vI v4, vI v5] [] gg) : EV d mX7_worst Q 49 [vR 0, vI v1, vI v2, vI v3, vI v4, vI v5] [] g := by
  refine wp_aload_n dX7_worst_49 rfl rfl ?_
  refine wp_iload_n dX7_worst_50 rfl ?_
  refine wp_iload dX7_worst_51 rfl ?_
  exact wp_callvV (As := [vI v1, vI v5]) dX7_worst_53 ml_7_308 (by decide) rfl L_0 (by decide) rfl (Nat.le_of_ble_eq_true rfl) rfl (Nat.le_refl _) (Nat.le_refl _) hc k
theorem b_X7_worst_56 {d : Nat} {Q : Option pV → pG → Prop} {g : pG} {v1 v2 v3 v4 v5 : Int} {R : Int → pG → Prop} (hc : CT d mX3_sum [vR 27] g (qI R)) (k : ∀ (x : Int) (gg : pG), R x gg → EV d mX7_worst Q 63 [vR 0, vI v1, vI v2, vI v3, vI v4, vI v5] [vI x] gg) : EV d mX7_worst Q 56 [vR 0, vI v1, vI v2, vI v3, vI v4, vI v5] [] g := by
  refine wp_aload_n dX7_worst_56 rfl rfl ?_
  refine wp_get (v := vR 27) dX7_worst_57 fl_7_54 L_0 rfl ?_
  exact wp_callvI (As := []) dX7_worst_60 ml_7_183 (by decide) rfl L_27 (by decide) rfl (Nat.le_of_ble_eq_true rfl) rfl (Nat.le_refl _) (Nat.le_refl _) hc k
theorem b_X7_worst_63 {d : Nat} {Q : Option pV → pG → Prop} {g : pG} {v1 v2 v3 v4 v5 vs0 : Int} (k1 : (v4 ≤ vs0) → EV d mX7_worst Q 80 [vR 0, vI v1, vI v2, vI v3, vI v4, vI v5] [] g) (k2 : ¬ (v4 ≤ vs0) → EV d mX7_worst Q 68 [vR 0, vI v1, vI v2, vI v3, vI v4, vI v5] [] g) : EV d mX7_worst Q 63 [vR 0, vI v1, vI v2, vI v3, vI v4, vI v5] [vI vs0] g := by
  refine wp_iload dX7_worst_63 rfl ?_
  exact wp_icmp_ge (tgt := 80) dX7_worst_65 rfl k1 k2
theorem b_X7_worst_68 {d : Nat} {Q : Option pV → pG → Prop} {g : pG} {v1 v2 v3 v4 v5 : Int} {R : Int → pG → Prop} (hc : CT d mX3_sum [vR 27] g (qI R)) (k : ∀ (x : Int) (gg : pG), R x gg → EV d mX7_worst Q 75 [vR 0, vI v1, vI v2, vI v3, vI v4, vI v5] [vI x] gg) : EV d mX7_worst Q 68 [vR 0, vI v1, vI v2, vI v3, vI v4, vI v5] [] g := by
  refine wp_aload_n dX7_worst_68 rfl rfl ?_
  refine wp_get (v := vR 27) dX7_worst_69 fl_7_54 L_0 rfl ?_
  exact wp_callvI (As := []) dX7_worst_72 ml_7_183 (by decide) rfl L_27 (by decide) rfl (Nat.le_of_ble_eq_true rfl) rfl (Nat.le_refl _) (Nat.le_refl _) hc k
theorem b_X7_worst_75 {d : Nat} {Q : Option pV → pG → Prop} {g : pG} {v1 v2 v3 v4 v5 vs0 : Int} (k : EV d mX7_worst Q 42 [vR 0, vI v1, vI v2, vI v5, vI vs0, vI (w32 (v5 + 1))] [] g) : EV d mX7_worst Q 75 [vR 0, vI v1, vI v2, vI v3, vI v4, vI v5] [vI vs0] g := by
  refine wp_istore dX7_worst_75 (Nat.le_of_ble_eq_true rfl) (pp (c := 3) rfl rfl) ?_
  refine wp_iload dX7_worst_77 rfl ?_
  refine wp_istore_n dX7_worst_79 (Nat.le_of_ble_eq_true rfl) (pp (c := 2) rfl rfl) ?_
  refine wp_iinc dX7_worst_80 rfl (Nat.le_of_ble_eq_true rfl) (pp (c := 4) rfl rfl) ?_
  refine wp_goto (tgt := 42) dX7_worst_83 rfl ?_
  exact k
theorem b_X7_worst_80 {d : Nat} {Q : Option pV → pG → Prop} {g : pG} {v1 v2 v3 v4 v5 : Int} (k : EV d mX7_worst Q 42 [vR 0, vI v1, vI v2, vI v3, vI v4, vI (w32 (v5 + 1))] [] g) : EV d mX7_worst Q 80 [vR 0, vI v1, vI v2, vI v3, vI v4, vI v5] [] g := by
  refine wp_iinc dX7_worst_80 rfl (Nat.le_of_ble_eq_true rfl) (pp (c := 4) rfl rfl) ?_
  refine wp_goto (tgt := 42) dX7_worst_83 rfl ?_
  exact k
theorem b_X7_worst_86 {d : Nat} {Q : Option pV → pG → Prop} {g : pG} {v1 v2 v3 v4 v5 : Int} (k1 : (v2 ≠ 0) → EV d mX7_worst Q 94 [vR 0, vI v1, vI v2, vI v3, vI v4, vI v5] [] g) (k2 : ¬ (v2 ≠ 0) → EV d mX7_worst Q 90 [vR 0, vI v1, vI v2, vI v3, vI v4, vI v5] [] g) : EV d mX7_worst Q 86 [vR 0, vI v1, vI v2, vI v3, vI v4, vI v5] [] g := by
  refine wp_iload_n dX7_worst_86 rfl ?_
  exact wp_if_ne (tgt := 94) dX7_worst_87 rfl k1 k2
theorem b_X7_worst_90 {d : Nat} {Q : Option pV → pG → Prop} {g : pG} {v1 v2 v3 v4 v5 : Int} (hq : Q (some (vI v3)) g) : EV d mX7_worst Q 90 [vR 0, vI v1, vI v2, vI v3, vI v4, vI v5] [] g := by
  refine wp_iload_n dX7_worst_90 rfl ?_
  refine wp_goto (tgt := 99) dX7_worst_91 rfl ?_
  exact wp_iret dX7_worst_99 rfl hq
theorem b_X7_worst_94 {d : Nat} {Q : Option pV → pG → Prop} {g : pG} {v1 v2 v3 v4 v5 : Int} (hq : Q (some (vI (w32 (v4 + 100)))) g) : EV d mX7_worst Q 94 [vR 0, vI v1, vI v2, vI v3, vI v4, vI v5] [] g := by
  refine wp_iload dX7_worst_94 rfl ?_
  refine wp_bipush dX7_worst_96 kb_100 kc_100 ?_
  refine wp_iadd dX7_worst_98 ?_
  exact wp_iret dX7_worst_99 rfl hq
theorem b_X7_goDownWith_0 {d : Nat} {Q : Option pV → pG → Prop} {g : pG} {v1 v2 : Int} {R : pG → Prop} (hc : CT d mX3_copyFrom [vR 27, vR 5] g (qV R)) (k : ∀ gg : pG, R gg → EV d mX7_goDownWith Q 14 [vR 0, vI v1, vI v2, vX 2] [] gg) : EV d mX7_goDownWith Q 0 [vR 0, vI v1, vI v2, vX 2] [] g := by
  refine wp_aload_n dX7_goDownWith_0 rfl rfl ?_
  refine wp_get (v := vR 27) dX7_goDownWith_1 fl_7_54 L_0 rfl ?_
  refine wp_aload_n dX7_goDownWith_4 rfl rfl ?_
  refine wp_get (v := vR 1) dX7_goDownWith_5 fl_7_10 L_0 rfl ?_
  refine wp_get (v := vR 5) dX7_goDownWith_8 fl_7_118 L_1 rfl ?_
  exact wp_callvV (As := [vR 5]) dX7_goDownWith_11 ml_7_236 (by decide) rfl L_27 (by decide) rfl (Nat.le_of_ble_eq_true rfl) rfl (Nat.le_refl _) (Nat.le_refl _) hc k
theorem b_X7_goDownWith_14 {d : Nat} {Q : Option pV → pG → Prop} {g : pG} {v1 v2 : Int} (k : EV d mX7_goDownWith Q 16 [vR 0, vI v1, vI v2, vI 0] [] g) : EV d mX7_goDownWith Q 14 [vR 0, vI v1, vI v2, vX 2] [] g := by
  refine wp_iconst dX7_goDownWith_14 kc_0 ?_
  refine wp_istore_n dX7_goDownWith_15 (Nat.le_of_ble_eq_true rfl) (pp (c := 2) rfl rfl) ?_
  exact k
theorem b_X7_goDownWith_16 {d : Nat} {Q : Option pV → pG → Prop} {g : pG} {v1 v2 v3 : Int} (k1 : ((g 1) 3 ≤ v3) → EV d mX7_goDownWith Q 74 [vR 0, vI v1, vI v2, vI v3] [] g) (k2 : ¬ ((g 1) 3 ≤ v3) → EV d mX7_goDownWith Q 27 [vR 0, vI v1, vI v2, vI v3] [] g) : EV d mX7_goDownWith Q 16 [vR 0, vI v1, vI v2, vI v3] [] g := by
  refine wp_iload_n dX7_goDownWith_16 rfl ?_
  refine wp_aload_n dX7_goDownWith_17 rfl rfl ?_
  refine wp_get (v := vR 1) dX7_goDownWith_18 fl_7_10 L_0 rfl ?_
  refine wp_get (v := vI ((g 1) 3)) dX7_goDownWith_21 fl_7_152 L_1 rfl ?_
  exact wp_icmp_ge (tgt := 74) dX7_goDownWith_24 rfl k1 k2
theorem b_X7_goDownWith_27 {d : Nat} {Q : Option pV → pG → Prop} {g : pG} {v1 v2 v3 : Int} (k1 : (v3 ≠ v1) → EV d mX7_goDownWith Q 56 [vR 0, vI v1, vI v2, vI v3] [] g) (k2 : ¬ (v3 ≠ v1) → EV d mX7_goDownWith Q 32 [vR 0, vI v1, vI v2, vI v3] [] g) : EV d mX7_goDownWith Q 27 [vR 0, vI v1, vI v2, vI v3] [] g := by
  refine wp_iload_n dX7_goDownWith_27 rfl ?_
  refine wp_iload_n dX7_goDownWith_28 rfl ?_
  exact wp_icmp_ne (tgt := 56) dX7_goDownWith_29 rfl k1 k2
theorem b_X7_goDownWith_32 {d : Nat} {Q : Option pV → pG → Prop} {g : pG} {v1 v2 v3 : Int} {R : pG → Prop} (h1 : 0 ≤ v3) (h2 : v3 < 7) (hc : CT d mX5_hearAs [vR 1, vI v2, vI ((g 3) v3.toNat), vR 27] g (qV R)) (k : ∀ gg : pG, R gg → EV d mX7_goDownWith Q 53 [vR 0, vI v1, vI v2, vI v3] [] gg) : EV d mX7_goDownWith Q 32 [vR 0, vI v1, vI v2, vI v3] [] g := by
  refine wp_aload_n dX7_goDownWith_32 rfl rfl ?_
  refine wp_get (v := vR 1) dX7_goDownWith_33 fl_7_10 L_0 rfl ?_
  refine wp_iload_n dX7_goDownWith_36 rfl ?_
  refine wp_aload_n dX7_goDownWith_37 rfl rfl ?_
  refine wp_get (v := vR 1) dX7_goDownWith_38 fl_7_10 L_0 rfl ?_
  refine wp_get (v := vR 3) dX7_goDownWith_41 fl_7_112 L_1 rfl ?_
  refine wp_iload_n dX7_goDownWith_44 rfl ?_
  refine wp_iaload dX7_goDownWith_45 h1 L_3 h2 ?_
  refine wp_aload_n dX7_goDownWith_46 rfl rfl ?_
  refine wp_get (v := vR 27) dX7_goDownWith_47 fl_7_54 L_0 rfl ?_
  exact wp_callvV (As := [vI v2, vI ((g 3) v3.toNat), vR 27]) dX7_goDownWith_50 ml_7_331 (by decide) rfl L_1 (by decide) rfl (Nat.le_of_ble_eq_true rfl) rfl (Nat.le_refl _) (Nat.le_refl _) hc k
theorem b_X7_goDownWith_53 {d : Nat} {Q : Option pV → pG → Prop} {g : pG} {v1 v2 v3 : Int} (k : EV d mX7_goDownWith Q 16 [vR 0, vI v1, vI v2, vI (w32 (v3 + 1))] [] g) : EV d mX7_goDownWith Q 53 [vR 0, vI v1, vI v2, vI v3] [] g := by
  refine wp_goto (tgt := 68) dX7_goDownWith_53 rfl ?_
  refine wp_iinc dX7_goDownWith_68 rfl (Nat.le_of_ble_eq_true rfl) (pp (c := 2) rfl rfl) ?_
  refine wp_goto (tgt := 16) dX7_goDownWith_71 rfl ?_
  exact k
theorem b_X7_goDownWith_56 {d : Nat} {Q : Option pV → pG → Prop} {g : pG} {v1 v2 v3 : Int} {R : pG → Prop} (hc : CT d mX5_hear [vR 1, vI v3, vR 27] g (qV R)) (k : ∀ gg : pG, R gg → EV d mX7_goDownWith Q 68 [vR 0, vI v1, vI v2, vI v3] [] gg) : EV d mX7_goDownWith Q 56 [vR 0, vI v1, vI v2, vI v3] [] g := by
  refine wp_aload_n dX7_goDownWith_56 rfl rfl ?_
  refine wp_get (v := vR 1) dX7_goDownWith_57 fl_7_10 L_0 rfl ?_
  refine wp_iload_n dX7_goDownWith_60 rfl ?_
  refine wp_aload_n dX7_goDownWith_61 rfl rfl ?_
  refine wp_get (v := vR 27) dX7_goDownWith_62 fl_7_54 L_0 rfl ?_
  exact wp_callvV (As := [vI v3, vR 27]) dX7_goDownWith_65 ml_7_186 (by decide) rfl L_1 (by decide) rfl (Nat.le_of_ble_eq_true rfl) rfl (Nat.le_refl _) (Nat.le_refl _) hc k
theorem b_X7_goDownWith_68 {d : Nat} {Q : Option pV → pG → Prop} {g : pG} {v1 v2 v3 : Int} (k : EV d mX7_goDownWith Q 16 [vR 0, vI v1, vI v2, vI (w32 (v3 + 1))] [] g) : EV d mX7_goDownWith Q 68 [vR 0, vI v1, vI v2, vI v3] [] g := by
  refine wp_iinc dX7_goDownWith_68 rfl (Nat.le_of_ble_eq_true rfl) (pp (c := 2) rfl rfl) ?_
  refine wp_goto (tgt := 16) dX7_goDownWith_71 rfl ?_
  exact k
theorem b_X7_goDownWith_74 {d : Nat} {Q : Option pV → pG → Prop} {g : pG} {v1 v2 v3 : Int} (hq : Q none g) : EV d mX7_goDownWith Q 74 [vR 0, vI v1, vI v2, vI v3] [] g := by
  exact wp_vret dX7_goDownWith_74 rfl hq
theorem b_X7_same_0 {d : Nat} {Q : Option pV → pG → Prop} {g : pG} (k : EV d mX7_same Q 4 [vR 0, vI 0, vI 0, vX 2] [] g) : EV d mX7_same Q 0 [vR 0, vX 2, vX 2, vX 2] [] g := by
  refine wp_iconst dX7_same_0 kc_0 ?_
  refine wp_istore_n dX7_same_1 (Nat.le_of_ble_eq_true rfl) (pp (c := 0) rfl rfl) ?_
  refine wp_iconst dX7_same_2 kc_0 ?_
  refine wp_istore_n dX7_same_3 (Nat.le_of_ble_eq_true rfl) (pp (c := 1) rfl rfl) ?_
  exact k
theorem b_X7_same_4 {d : Nat} {Q : Option pV → pG → Prop} {g : pG} {v1 v2 : Int} {u3 : pV} (k1 : ((g 1) 3 ≤ v2) → EV d mX7_same Q 111 [vR 0, vI v1, vI v2, u3] [] g) (k2 : ¬ ((g 1) 3 ≤ v2) → EV d mX7_same Q 15 [vR 0, vI v1, vI v2, u3] [] g) : EV d mX7_same Q 4 [vR 0, vI v1, vI v2, u3] [] g := by
  refine wp_iload_n dX7_same_4 rfl ?_
  refine wp_aload_n dX7_same_5 rfl rfl ?_
  refine wp_get (v := vR 1) dX7_same_6 fl_7_10 L_0 rfl ?_
  refine wp_get (v := vI ((g 1) 3)) dX7_same_9 fl_7_152 L_1 rfl ?_
  exact wp_icmp_ge (tgt := 111) dX7_same_12 rfl k1 k2
theorem b_X7_same_15 {d : Nat} {Q : Option pV → pG → Prop} {g : pG} {v1 v2 : Int} {u3 : pV} (k : EV d mX7_same Q 19 [vR 0, vI v1, vI v2, vI (w32 (v2 + 1))] [] g) : EV d mX7_same Q 15 [vR 0, vI v1, vI v2, u3] [] g := by
  refine wp_iload_n dX7_same_15 rfl ?_
  refine wp_iconst dX7_same_16 kc_1 ?_
  refine wp_iadd dX7_same_17 ?_
  refine wp_istore_n dX7_same_18 (Nat.le_of_ble_eq_true rfl) (pp (c := 2) rfl rfl) ?_
  exact k
theorem b_X7_same_19 {d : Nat} {Q : Option pV → pG → Prop} {g : pG} {v1 v2 v3 : Int} (k1 : ((g 1) 3 ≤ v3) → EV d mX7_same Q 105 [vR 0, vI v1, vI v2, vI v3] [] g) (k2 : ¬ ((g 1) 3 ≤ v3) → EV d mX7_same Q 30 [vR 0, vI v1, vI v2, vI v3] [] g) : EV d mX7_same Q 19 [vR 0, vI v1, vI v2, vI v3] [] g := by
  refine wp_iload_n dX7_same_19 rfl ?_
  refine wp_aload_n dX7_same_20 rfl rfl ?_
  refine wp_get (v := vR 1) dX7_same_21 fl_7_10 L_0 rfl ?_
  refine wp_get (v := vI ((g 1) 3)) dX7_same_24 fl_7_152 L_1 rfl ?_
  exact wp_icmp_ge (tgt := 105) dX7_same_27 rfl k1 k2
theorem b_X7_same_30 {d : Nat} {Q : Option pV → pG → Prop} {g : pG} {v1 v2 v3 : Int} {R : pG → Prop} (hc : CT d mX3_copyFrom [vR 27, vR 5] g (qV R)) (k : ∀ gg : pG, R gg → EV d mX7_same Q 44 [vR 0, vI v1, vI v2, vI v3] [] gg) : EV d mX7_same Q 30 [vR 0, vI v1, vI v2, vI v3] [] g := by
  refine wp_aload_n dX7_same_30 rfl rfl ?_
  refine wp_get (v := vR 27) dX7_same_31 fl_7_54 L_0 rfl ?_
  refine wp_aload_n dX7_same_34 rfl rfl ?_
  refine wp_get (v := vR 1) dX7_same_35 fl_7_10 L_0 rfl ?_
  refine wp_get (v := vR 5) dX7_same_38 fl_7_118 L_1 rfl ?_
  exact wp_callvV (As := [vR 5]) dX7_same_41 ml_7_236 (by decide) rfl L_27 (by decide) rfl (Nat.le_of_ble_eq_true rfl) rfl (Nat.le_refl _) (Nat.le_refl _) hc k
theorem b_X7_same_44 {d : Nat} {Q : Option pV → pG → Prop} {g : pG} {v1 v2 v3 : Int} {R : pG → Prop} (hc : CT d mX3_copyFrom [vR 31, vR 5] g (qV R)) (k : ∀ gg : pG, R gg → EV d mX7_same Q 58 [vR 0, vI v1, vI v2, vI v3] [] gg) : EV d mX7_same Q 44 [vR 0, vI v1, vI v2, vI v3] [] g := by
  refine wp_aload_n dX7_same_44 rfl rfl ?_
  refine wp_get (v := vR 31) dX7_same_45 fl_7_61 L_0 rfl ?_
  refine wp_aload_n dX7_same_48 rfl rfl ?_
  refine wp_get (v := vR 1) dX7_same_49 fl_7_10 L_0 rfl ?_
  refine wp_get (v := vR 5) dX7_same_52 fl_7_118 L_1 rfl ?_
  exact wp_callvV (As := [vR 5]) dX7_same_55 ml_7_236 (by decide) rfl L_31 (by decide) rfl (Nat.le_of_ble_eq_true rfl) rfl (Nat.le_refl _) (Nat.le_refl _) hc k
theorem b_X7_same_58 {d : Nat} {Q : Option pV → pG → Prop} {g : pG} {v1 v2 v3 : Int} {R : pG → Prop} (hc : CT d mX5_hear [vR 1, vI v2, vR 27] g (qV R)) (k : ∀ gg : pG, R gg → EV d mX7_same Q 70 [vR 0, vI v1, vI v2, vI v3] [] gg) : EV d mX7_same Q 58 [vR 0, vI v1, vI v2, vI v3] [] g := by
  refine wp_aload_n dX7_same_58 rfl rfl ?_
  refine wp_get (v := vR 1) dX7_same_59 fl_7_10 L_0 rfl ?_
  refine wp_iload_n dX7_same_62 rfl ?_
  refine wp_aload_n dX7_same_63 rfl rfl ?_
  refine wp_get (v := vR 27) dX7_same_64 fl_7_54 L_0 rfl ?_
  exact wp_callvV (As := [vI v2, vR 27]) dX7_same_67 ml_7_186 (by decide) rfl L_1 (by decide) rfl (Nat.le_of_ble_eq_true rfl) rfl (Nat.le_refl _) (Nat.le_refl _) hc k
theorem b_X7_same_70 {d : Nat} {Q : Option pV → pG → Prop} {g : pG} {v1 v2 v3 : Int} {R : pG → Prop} (hc : CT d mX5_hear [vR 1, vI v3, vR 31] g (qV R)) (k : ∀ gg : pG, R gg → EV d mX7_same Q 82 [vR 0, vI v1, vI v2, vI v3] [] gg) : EV d mX7_same Q 70 [vR 0, vI v1, vI v2, vI v3] [] g := by
  refine wp_aload_n dX7_same_70 rfl rfl ?_
  refine wp_get (v := vR 1) dX7_same_71 fl_7_10 L_0 rfl ?_
  refine wp_iload_n dX7_same_74 rfl ?_
  refine wp_aload_n dX7_same_75 rfl rfl ?_
  refine wp_get (v := vR 31) dX7_same_76 fl_7_61 L_0 rfl ?_
  exact wp_callvV (As := [vI v3, vR 31]) dX7_same_79 ml_7_186 (by decide) rfl L_1 (by decide) rfl (Nat.le_of_ble_eq_true rfl) rfl (Nat.le_refl _) (Nat.le_refl _) hc k
theorem b_X7_same_82 {d : Nat} {Q : Option pV → pG → Prop} {g : pG} {v1 v2 v3 : Int} {R : Int → pG → Prop} (hc : CT d mX3_isAs [vR 27, vR 31] g (qI R)) (k : ∀ (x : Int) (gg : pG), R x gg → EV d mX7_same Q 93 [vR 0, vI v1, vI v2, vI v3] [vI x] gg) : EV d mX7_same Q 82 [vR 0, vI v1, vI v2, vI v3] [] g := by
  refine wp_aload_n dX7_same_82 rfl rfl ?_
  refine wp_get (v := vR 27) dX7_same_83 fl_7_54 L_0 rfl ?_
  refine wp_aload_n dX7_same_86 rfl rfl ?_
  refine wp_get (v := vR 31) dX7_same_87 fl_7_61 L_0 rfl ?_
  exact wp_callvI (As := [vR 31]) dX7_same_90 ml_7_265 (by decide) rfl L_27 (by decide) rfl (Nat.le_of_ble_eq_true rfl) rfl (Nat.le_refl _) (Nat.le_refl _) hc k
theorem b_X7_same_93 {d : Nat} {Q : Option pV → pG → Prop} {g : pG} {v1 v2 v3 vs0 : Int} (k1 : (vs0 = 0) → EV d mX7_same Q 99 [vR 0, vI v1, vI v2, vI v3] [] g) (k2 : ¬ (vs0 = 0) → EV d mX7_same Q 96 [vR 0, vI v1, vI v2, vI v3] [] g) : EV d mX7_same Q 93 [vR 0, vI v1, vI v2, vI v3] [vI vs0] g := by
  exact wp_if_eq (tgt := 99) dX7_same_93 rfl k1 k2
theorem b_X7_same_96 {d : Nat} {Q : Option pV → pG → Prop} {g : pG} {v1 v2 v3 : Int} (k : EV d mX7_same Q 19 [vR 0, vI (w32 (v1 + 1)), vI v2, vI (w32 (v3 + 1))] [] g) : EV d mX7_same Q 96 [vR 0, vI v1, vI v2, vI v3] [] g := by
  refine wp_iinc dX7_same_96 rfl (Nat.le_of_ble_eq_true rfl) (pp (c := 0) rfl rfl) ?_
  refine wp_iinc dX7_same_99 rfl (Nat.le_of_ble_eq_true rfl) (pp (c := 2) rfl rfl) ?_
  refine wp_goto (tgt := 19) dX7_same_102 rfl ?_
  exact k
theorem b_X7_same_99 {d : Nat} {Q : Option pV → pG → Prop} {g : pG} {v1 v2 v3 : Int} (k : EV d mX7_same Q 19 [vR 0, vI v1, vI v2, vI (w32 (v3 + 1))] [] g) : EV d mX7_same Q 99 [vR 0, vI v1, vI v2, vI v3] [] g := by
  refine wp_iinc dX7_same_99 rfl (Nat.le_of_ble_eq_true rfl) (pp (c := 2) rfl rfl) ?_
  refine wp_goto (tgt := 19) dX7_same_102 rfl ?_
  exact k
theorem b_X7_same_105 {d : Nat} {Q : Option pV → pG → Prop} {g : pG} {v1 v2 v3 : Int} (k : EV d mX7_same Q 4 [vR 0, vI v1, vI (w32 (v2 + 1)), vI v3] [] g) : EV d mX7_same Q 105 [vR 0, vI v1, vI v2, vI v3] [] g := by
  refine wp_iinc dX7_same_105 rfl (Nat.le_of_ble_eq_true rfl) (pp (c := 1) rfl rfl) ?_
  refine wp_goto (tgt := 4) dX7_same_108 rfl ?_
  exact k
theorem b_X7_same_111 {d : Nat} {Q : Option pV → pG → Prop} {g : pG} {v1 v2 : Int} {u3 : pV} (hq : Q (some (vI v1)) g) : EV d mX7_same Q 111 [vR 0, vI v1, vI v2, u3] [] g := by
  refine wp_iload_n dX7_same_111 rfl ?_
  exact wp_iret dX7_same_112 rfl hq
theorem b_X7_dead_0 {d : Nat} {Q : Option pV → pG → Prop} {g : pG} {R : pG → Prop} (hc : CT d mX7_goDownTo [vR 0, vI 0] g (qV R)) (k : ∀ gg : pG, R gg → EV d mX7_dead Q 7 [vR 0, vI 0, vX 2] [] gg) : EV d mX7_dead Q 0 [vR 0, vX 2, vX 2] [] g := by
  refine wp_iconst dX7_dead_0 kc_0 ?_
  refine wp_istore_n dX7_dead_1 (Nat.le_of_ble_eq_true rfl) (pp (c := 0) rfl rfl) ?_
  refine wp_aload_n dX7_dead_2 rfl rfl ?_
  refine wp_iconst dX7_dead_3 kc_0 ?_
  exact wp_callvV (As := [vI 0]) dX7_dead_4 ml_7_171 (by decide) rfl L_0 (by decide) rfl (Nat.le_of_ble_eq_true rfl) rfl (Nat.le_refl _) (Nat.le_refl _) hc k
theorem b_X7_dead_7 {d : Nat} {Q : Option pV → pG → Prop} {g : pG} {v1 : Int} (k : EV d mX7_dead Q 9 [vR 0, vI v1, vI 0] [] g) : EV d mX7_dead Q 7 [vR 0, vI v1, vX 2] [] g := by
  refine wp_iconst dX7_dead_7 kc_0 ?_
  refine wp_istore_n dX7_dead_8 (Nat.le_of_ble_eq_true rfl) (pp (c := 1) rfl rfl) ?_
  exact k
theorem b_X7_dead_9 {d : Nat} {Q : Option pV → pG → Prop} {g : pG} {v1 v2 : Int} (k1 : ((g 1) 3 ≤ v2) → EV d mX7_dead Q 38 [vR 0, vI v1, vI v2] [] g) (k2 : ¬ ((g 1) 3 ≤ v2) → EV d mX7_dead Q 20 [vR 0, vI v1, vI v2] [] g) : EV d mX7_dead Q 9 [vR 0, vI v1, vI v2] [] g := by
  refine wp_iload_n dX7_dead_9 rfl ?_
  refine wp_aload_n dX7_dead_10 rfl rfl ?_
  refine wp_get (v := vR 1) dX7_dead_11 fl_7_10 L_0 rfl ?_
  refine wp_get (v := vI ((g 1) 3)) dX7_dead_14 fl_7_152 L_1 rfl ?_
  exact wp_icmp_ge (tgt := 38) dX7_dead_17 rfl k1 k2
theorem b_X7_dead_20 {d : Nat} {Q : Option pV → pG → Prop} {g : pG} {v1 v2 : Int} {R : Int → pG → Prop} (hc : CT d mX7_changesAny [vR 0, vI v2] g (qI R)) (k : ∀ (x : Int) (gg : pG), R x gg → EV d mX7_dead Q 25 [vR 0, vI v1, vI v2] [vI x] gg) : EV d mX7_dead Q 20 [vR 0, vI v1, vI v2] [] g := by
  refine wp_aload_n dX7_dead_20 rfl rfl ?_
  refine wp_iload_n dX7_dead_21 rfl ?_
  exact wp_callvI (As := [vI v2]) dX7_dead_22 ml_7_311 (by decide) rfl L_0 (by decide) rfl (Nat.le_of_ble_eq_true rfl) rfl (Nat.le_refl _) (Nat.le_refl _) hc k
theorem b_X7_dead_25 {d : Nat} {Q : Option pV → pG → Prop} {g : pG} {v1 v2 vs0 : Int} (k1 : (vs0 = 0) → EV d mX7_dead Q 32 [vR 0, vI v1, vI v2] [] g) (k2 : ¬ (vs0 = 0) → EV d mX7_dead Q 28 [vR 0, vI v1, vI v2] [] g) : EV d mX7_dead Q 25 [vR 0, vI v1, vI v2] [vI vs0] g := by
  exact wp_if_eq (tgt := 32) dX7_dead_25 rfl k1 k2
theorem b_X7_dead_28 {d : Nat} {Q : Option pV → pG → Prop} {g : pG} {v1 v2 : Int} (k : EV d mX7_dead Q 9 [vR 0, vI (w32 (v2 + 1)), vI (w32 (v2 + 1))] [] g) : EV d mX7_dead Q 28 [vR 0, vI v1, vI v2] [] g := by
  refine wp_iload_n dX7_dead_28 rfl ?_
  refine wp_iconst dX7_dead_29 kc_1 ?_
  refine wp_iadd dX7_dead_30 ?_
  refine wp_istore_n dX7_dead_31 (Nat.le_of_ble_eq_true rfl) (pp (c := 0) rfl rfl) ?_
  refine wp_iinc dX7_dead_32 rfl (Nat.le_of_ble_eq_true rfl) (pp (c := 1) rfl rfl) ?_
  refine wp_goto (tgt := 9) dX7_dead_35 rfl ?_
  exact k
theorem b_X7_dead_32 {d : Nat} {Q : Option pV → pG → Prop} {g : pG} {v1 v2 : Int} (k : EV d mX7_dead Q 9 [vR 0, vI v1, vI (w32 (v2 + 1))] [] g) : EV d mX7_dead Q 32 [vR 0, vI v1, vI v2] [] g := by
  refine wp_iinc dX7_dead_32 rfl (Nat.le_of_ble_eq_true rfl) (pp (c := 1) rfl rfl) ?_
  refine wp_goto (tgt := 9) dX7_dead_35 rfl ?_
  exact k
theorem b_X7_dead_38 {d : Nat} {Q : Option pV → pG → Prop} {g : pG} {v1 v2 : Int} (k1 : ((g 1) 3 ≤ v1) → EV d mX7_dead Q 53 [vR 0, vI v1, vI v2] [] g) (k2 : ¬ ((g 1) 3 ≤ v1) → EV d mX7_dead Q 49 [vR 0, vI v1, vI v2] [] g) : EV d mX7_dead Q 38 [vR 0, vI v1, vI v2] [] g := by
  refine wp_iload_n dX7_dead_38 rfl ?_
  refine wp_aload_n dX7_dead_39 rfl rfl ?_
  refine wp_get (v := vR 1) dX7_dead_40 fl_7_10 L_0 rfl ?_
  refine wp_get (v := vI ((g 1) 3)) dX7_dead_43 fl_7_152 L_1 rfl ?_
  exact wp_icmp_ge (tgt := 53) dX7_dead_46 rfl k1 k2
theorem b_X7_dead_49 {d : Nat} {Q : Option pV → pG → Prop} {g : pG} {v1 v2 : Int} (hq : Q (some (vI v1)) g) : EV d mX7_dead Q 49 [vR 0, vI v1, vI v2] [] g := by
  refine wp_iload_n dX7_dead_49 rfl ?_
  refine wp_goto (tgt := 55) dX7_dead_50 rfl ?_
  exact wp_iret dX7_dead_55 rfl hq
theorem b_X7_dead_53 {d : Nat} {Q : Option pV → pG → Prop} {g : pG} {v1 v2 : Int} (hq : Q (some (vI (-9))) g) : EV d mX7_dead Q 53 [vR 0, vI v1, vI v2] [] g := by
  refine wp_bipush dX7_dead_53 kb_m9 kc_m9 ?_
  exact wp_iret dX7_dead_55 rfl hq
theorem b_X7_changesAny_0 {d : Nat} {Q : Option pV → pG → Prop} {g : pG} {v1 : Int} {R : pG → Prop} (hc : CT d mX3_copyFrom [vR 31, vR 27] g (qV R)) (k : ∀ gg : pG, R gg → EV d mX7_changesAny Q 11 [vR 0, vI v1] [] gg) : EV d mX7_changesAny Q 0 [vR 0, vI v1] [] g := by
  refine wp_aload_n dX7_changesAny_0 rfl rfl ?_
  refine wp_get (v := vR 31) dX7_changesAny_1 fl_7_61 L_0 rfl ?_
  refine wp_aload_n dX7_changesAny_4 rfl rfl ?_
  refine wp_get (v := vR 27) dX7_changesAny_5 fl_7_54 L_0 rfl ?_
  exact wp_callvV (As := [vR 27]) dX7_changesAny_8 ml_7_236 (by decide) rfl L_31 (by decide) rfl (Nat.le_of_ble_eq_true rfl) rfl (Nat.le_refl _) (Nat.le_refl _) hc k
theorem b_X7_changesAny_11 {d : Nat} {Q : Option pV → pG → Prop} {g : pG} {v1 : Int} {R : pG → Prop} (hc : CT d mX5_hear [vR 1, vI v1, vR 27] g (qV R)) (k : ∀ gg : pG, R gg → EV d mX7_changesAny Q 23 [vR 0, vI v1] [] gg) : EV d mX7_changesAny Q 11 [vR 0, vI v1] [] g := by
  refine wp_aload_n dX7_changesAny_11 rfl rfl ?_
  refine wp_get (v := vR 1) dX7_changesAny_12 fl_7_10 L_0 rfl ?_
  refine wp_iload_n dX7_changesAny_15 rfl ?_
  refine wp_aload_n dX7_changesAny_16 rfl rfl ?_
  refine wp_get (v := vR 27) dX7_changesAny_17 fl_7_54 L_0 rfl ?_
  exact wp_callvV (As := [vI v1, vR 27]) dX7_changesAny_20 ml_7_186 (by decide) rfl L_1 (by decide) rfl (Nat.le_of_ble_eq_true rfl) rfl (Nat.le_refl _) (Nat.le_refl _) hc k
theorem b_X7_changesAny_23 {d : Nat} {Q : Option pV → pG → Prop} {g : pG} {v1 : Int} {R : Int → pG → Prop} (hc : CT d mX3_isAs [vR 27, vR 31] g (qI R)) (k : ∀ (x : Int) (gg : pG), R x gg → EV d mX7_changesAny Q 34 [vR 0, vI v1] [vI x] gg) : EV d mX7_changesAny Q 23 [vR 0, vI v1] [] g := by
  refine wp_aload_n dX7_changesAny_23 rfl rfl ?_
  refine wp_get (v := vR 27) dX7_changesAny_24 fl_7_54 L_0 rfl ?_
  refine wp_aload_n dX7_changesAny_27 rfl rfl ?_
  refine wp_get (v := vR 31) dX7_changesAny_28 fl_7_61 L_0 rfl ?_
  exact wp_callvI (As := [vR 31]) dX7_changesAny_31 ml_7_265 (by decide) rfl L_27 (by decide) rfl (Nat.le_of_ble_eq_true rfl) rfl (Nat.le_refl _) (Nat.le_refl _) hc k
theorem b_X7_changesAny_34 {d : Nat} {Q : Option pV → pG → Prop} {g : pG} {v1 vs0 : Int} (k1 : (vs0 ≠ 0) → EV d mX7_changesAny Q 41 [vR 0, vI v1] [] g) (k2 : ¬ (vs0 ≠ 0) → EV d mX7_changesAny Q 37 [vR 0, vI v1] [] g) : EV d mX7_changesAny Q 34 [vR 0, vI v1] [vI vs0] g := by
  exact wp_if_ne (tgt := 41) dX7_changesAny_34 rfl k1 k2
theorem b_X7_changesAny_37 {d : Nat} {Q : Option pV → pG → Prop} {g : pG} {v1 : Int} (hq : Q (some (vI 1)) g) : EV d mX7_changesAny Q 37 [vR 0, vI v1] [] g := by
  refine wp_iconst dX7_changesAny_37 kc_1 ?_
  refine wp_goto (tgt := 42) dX7_changesAny_38 rfl ?_
  exact wp_zret dX7_changesAny_42 rfl (Or.inr rfl) hq
theorem b_X7_changesAny_41 {d : Nat} {Q : Option pV → pG → Prop} {g : pG} {v1 : Int} (hq : Q (some (vI 0)) g) : EV d mX7_changesAny Q 41 [vR 0, vI v1] [] g := by
  refine wp_iconst dX7_changesAny_41 kc_0 ?_
  exact wp_zret dX7_changesAny_42 rfl (Or.inl rfl) hq
theorem b_X7_flip_0 {d : Nat} {Q : Option pV → pG → Prop} {g : pG} {v1 : Int} (k1 : (v1 < 0) → EV d mX7_flip Q 9 [vR 0, vI v1, vX 2] [] g) (k2 : ¬ (v1 < 0) → EV d mX7_flip Q 4 [vR 0, vI v1, vX 2] [] g) : EV d mX7_flip Q 0 [vR 0, vI v1, vX 2] [] g := by
  refine wp_iload_n dX7_flip_0 rfl ?_
  exact wp_if_lt (tgt := 9) dX7_flip_1 rfl k1 k2
theorem b_X7_flip_4 {d : Nat} {Q : Option pV → pG → Prop} {g : pG} {v1 : Int} (k1 : (v1 ≤ 1) → EV d mX7_flip Q 16 [vR 0, vI v1, vX 2] [] g) (k2 : ¬ (v1 ≤ 1) → EV d mX7_flip Q 9 [vR 0, vI v1, vX 2] [] g) : EV d mX7_flip Q 4 [vR 0, vI v1, vX 2] [] g := by
  refine wp_iload_n dX7_flip_4 rfl ?_
  refine wp_iconst dX7_flip_5 kc_1 ?_
  exact wp_icmp_le (tgt := 16) dX7_flip_6 rfl k1 k2
theorem b_X7_flip_9 {d : Nat} {Q : Option pV → pG → Prop} {g : pG} {v1 : Int} {R : Int → pG → Prop} (hc : CT d mX7_refuse [vR 0, vI (-2)] g (qI R)) (k : ∀ (x : Int) (gg : pG), R x gg → EV d mX7_flip Q 15 [vR 0, vI v1, vX 2] [vI x] gg) : EV d mX7_flip Q 9 [vR 0, vI v1, vX 2] [] g := by
  refine wp_aload_n dX7_flip_9 rfl rfl ?_
  refine wp_bipush dX7_flip_10 kb_m2 kc_m2 ?_
  exact wp_callvI (As := [vI (-2)]) dX7_flip_12 ml_7_91 (by decide) rfl L_0 (by decide) rfl (Nat.le_of_ble_eq_true rfl) rfl (Nat.le_refl _) (Nat.le_refl _) hc k
theorem b_X7_flip_15 {d : Nat} {Q : Option pV → pG → Prop} {g : pG} {v1 vs0 : Int} (hq : Q (some (vI vs0)) g) : EV d mX7_flip Q 15 [vR 0, vI v1, vX 2] [vI vs0] g := by
  exact wp_iret dX7_flip_15 rfl hq
theorem b_X7_flip_16 {d : Nat} {Q : Option pV → pG → Prop} {g : pG} {v1 : Int} {R : Int → pG → Prop} (hc : CT d mX7_fewestAsleep [vR 0] g (qI R)) (k : ∀ (x : Int) (gg : pG), R x gg → EV d mX7_flip Q 20 [vR 0, vI v1, vX 2] [vI x] gg) : EV d mX7_flip Q 16 [vR 0, vI v1, vX 2] [] g := by
  refine wp_aload_n dX7_flip_16 rfl rfl ?_
  exact wp_callvI (As := []) dX7_flip_17 ml_7_314 (by decide) rfl L_0 (by decide) rfl (Nat.le_of_ble_eq_true rfl) rfl (Nat.le_refl _) (Nat.le_refl _) hc k
theorem b_X7_flip_20 {d : Nat} {Q : Option pV → pG → Prop} {g : pG} {v1 vs0 : Int} (k1 : (v1 = 1) → EV d mX7_flip Q 32 [vR 0, vI v1, vI vs0] [] g) (k2 : ¬ (v1 = 1) → EV d mX7_flip Q 26 [vR 0, vI v1, vI vs0] [] g) : EV d mX7_flip Q 20 [vR 0, vI v1, vX 2] [vI vs0] g := by
  refine wp_istore_n dX7_flip_20 (Nat.le_of_ble_eq_true rfl) (pp (c := 1) rfl rfl) ?_
  refine wp_iload_n dX7_flip_21 rfl ?_
  refine wp_iconst dX7_flip_22 kc_1 ?_
  exact wp_icmp_eq (tgt := 32) dX7_flip_23 rfl k1 k2
theorem b_X7_flip_26 {d : Nat} {Q : Option pV → pG → Prop} {g : pG} {v1 v2 : Int} (k1 : (v2 ≠ (-9)) → EV d mX7_flip Q 36 [vR 0, vI v1, vI v2] [] g) (k2 : ¬ (v2 ≠ (-9)) → EV d mX7_flip Q 32 [vR 0, vI v1, vI v2] [] g) : EV d mX7_flip Q 26 [vR 0, vI v1, vI v2] [] g := by
  refine wp_iload_n dX7_flip_26 rfl ?_
  refine wp_bipush dX7_flip_27 kb_m9 kc_m9 ?_
  exact wp_icmp_ne (tgt := 36) dX7_flip_29 rfl k1 k2
theorem b_X7_flip_32 {d : Nat} {Q : Option pV → pG → Prop} {g : pG} {v1 v2 : Int} (hq : Q (some (vI v2)) g) : EV d mX7_flip Q 32 [vR 0, vI v1, vI v2] [] g := by
  refine wp_iload_n dX7_flip_32 rfl ?_
  refine wp_goto (tgt := 40) dX7_flip_33 rfl ?_
  exact wp_iret dX7_flip_40 rfl hq
theorem b_X7_flip_36 {d : Nat} {Q : Option pV → pG → Prop} {g : pG} {v1 v2 : Int} {R : Int → pG → Prop} (hc : CT d mJ6_bitCount_0f7a4 [vI v2] g (qI R)) (k : ∀ (x : Int) (gg : pG), R x gg → EV d mX7_flip Q 40 [vR 0, vI v1, vI v2] [vI x] gg) : EV d mX7_flip Q 36 [vR 0, vI v1, vI v2] [] g := by
  refine wp_iload_n dX7_flip_36 rfl ?_
  exact wp_callsI (As := [vI v2]) dX7_flip_37 ml_7_231 (Or.inl rfl) rfl (Nat.le_of_ble_eq_true rfl) rfl (Nat.le_refl _) (Nat.le_refl _) hc k
theorem b_X7_flip_40 {d : Nat} {Q : Option pV → pG → Prop} {g : pG} {v1 v2 vs0 : Int} (hq : Q (some (vI vs0)) g) : EV d mX7_flip Q 40 [vR 0, vI v1, vI v2] [vI vs0] g := by
  exact wp_iret dX7_flip_40 rfl hq
theorem b_X7_fewestAsleep_0 {d : Nat} {Q : Option pV → pG → Prop} {g : pG} {R : Int → pG → Prop} (hc : CT d mX7_isForBehindAll [vR 0] g (qI R)) (k : ∀ (x : Int) (gg : pG), R x gg → EV d mX7_fewestAsleep Q 4 [vR 0, vX 2, vX 2, vX 2] [vI x] gg) : EV d mX7_fewestAsleep Q 0 [vR 0, vX 2, vX 2, vX 2] [] g := by
  refine wp_aload_n dX7_fewestAsleep_0 rfl rfl ?_
  exact wp_callvI (As := []) dX7_fewestAsleep_1 ml_7_300 (by decide) rfl L_0 (by decide) rfl (Nat.le_of_ble_eq_true rfl) rfl (Nat.le_refl _) (Nat.le_refl _) hc k
theorem b_X7_fewestAsleep_4 {d : Nat} {Q : Option pV → pG → Prop} {g : pG} {vs0 : Int} (k : EV d mX7_fewestAsleep Q 10 [vR 0, vI vs0, vI (-9), vI 1] [] g) : EV d mX7_fewestAsleep Q 4 [vR 0, vX 2, vX 2, vX 2] [vI vs0] g := by
  refine wp_istore_n dX7_fewestAsleep_4 (Nat.le_of_ble_eq_true rfl) (pp (c := 0) rfl rfl) ?_
  refine wp_bipush dX7_fewestAsleep_5 kb_m9 kc_m9 ?_
  refine wp_istore_n dX7_fewestAsleep_7 (Nat.le_of_ble_eq_true rfl) (pp (c := 1) rfl rfl) ?_
  refine wp_iconst dX7_fewestAsleep_8 kc_1 ?_
  refine wp_istore_n dX7_fewestAsleep_9 (Nat.le_of_ble_eq_true rfl) (pp (c := 2) rfl rfl) ?_
  exact k
theorem b_X7_fewestAsleep_10 {d : Nat} {Q : Option pV → pG → Prop} {g : pG} {v1 v2 v3 : Int} (k1 : (zshl 1 ((g 1) 3) ≤ v3) → EV d mX7_fewestAsleep Q 67 [vR 0, vI v1, vI v2, vI v3] [] g) (k2 : ¬ (zshl 1 ((g 1) 3) ≤ v3) → EV d mX7_fewestAsleep Q 23 [vR 0, vI v1, vI v2, vI v3] [] g) : EV d mX7_fewestAsleep Q 10 [vR 0, vI v1, vI v2, vI v3] [] g := by
  refine wp_iload_n dX7_fewestAsleep_10 rfl ?_
  refine wp_iconst dX7_fewestAsleep_11 kc_1 ?_
  refine wp_aload_n dX7_fewestAsleep_12 rfl rfl ?_
  refine wp_get (v := vR 1) dX7_fewestAsleep_13 fl_7_10 L_0 rfl ?_
  refine wp_get (v := vI ((g 1) 3)) dX7_fewestAsleep_16 fl_7_152 L_1 rfl ?_
  refine wp_ishl dX7_fewestAsleep_19 ?_
  exact wp_icmp_ge (tgt := 67) dX7_fewestAsleep_20 rfl k1 k2
theorem b_X7_fewestAsleep_23 {d : Nat} {Q : Option pV → pG → Prop} {g : pG} {v1 v2 v3 : Int} (k1 : (v2 = (-9)) → EV d mX7_fewestAsleep Q 43 [vR 0, vI v1, vI v2, vI v3] [] g) (k2 : ¬ (v2 = (-9)) → EV d mX7_fewestAsleep Q 29 [vR 0, vI v1, vI v2, vI v3] [] g) : EV d mX7_fewestAsleep Q 23 [vR 0, vI v1, vI v2, vI v3] [] g := by
  refine wp_iload_n dX7_fewestAsleep_23 rfl ?_
  refine wp_bipush dX7_fewestAsleep_24 kb_m9 kc_m9 ?_
  exact wp_icmp_eq (tgt := 43) dX7_fewestAsleep_26 rfl k1 k2
theorem b_X7_fewestAsleep_29 {d : Nat} {Q : Option pV → pG → Prop} {g : pG} {v1 v2 v3 : Int} {R : Int → pG → Prop} (hc : CT d mJ6_bitCount_0f7a4 [vI v3] g (qI R)) (k : ∀ (x : Int) (gg : pG), R x gg → EV d mX7_fewestAsleep Q 33 [vR 0, vI v1, vI v2, vI v3] [vI x] gg) : EV d mX7_fewestAsleep Q 29 [vR 0, vI v1, vI v2, vI v3] [] g := by
  refine wp_iload_n dX7_fewestAsleep_29 rfl ?_
  exact wp_callsI (As := [vI v3]) dX7_fewestAsleep_30 ml_7_231 (Or.inl rfl) rfl (Nat.le_of_ble_eq_true rfl) rfl (Nat.le_refl _) (Nat.le_refl _) hc k
theorem b_X7_fewestAsleep_33 {d : Nat} {Q : Option pV → pG → Prop} {g : pG} {v1 v2 v3 vs0 : Int} {R : Int → pG → Prop} (hc : CT d mJ6_bitCount_0f7a4 [vI v2] g (qI R)) (k : ∀ (x : Int) (gg : pG), R x gg → EV d mX7_fewestAsleep Q 37 [vR 0, vI v1, vI v2, vI v3] [vI x, vI vs0] gg) : EV d mX7_fewestAsleep Q 33 [vR 0, vI v1, vI v2, vI v3] [vI vs0] g := by
  refine wp_iload_n dX7_fewestAsleep_33 rfl ?_
  exact wp_callsI (As := [vI v2]) dX7_fewestAsleep_34 ml_7_231 (Or.inl rfl) rfl (Nat.le_of_ble_eq_true rfl) rfl (Nat.le_refl _) (Nat.le_refl _) hc k
theorem b_X7_fewestAsleep_37 {d : Nat} {Q : Option pV → pG → Prop} {g : pG} {v1 v2 v3 vs0 vs1 : Int} (k1 : (vs0 < vs1) → EV d mX7_fewestAsleep Q 43 [vR 0, vI v1, vI v2, vI v3] [] g) (k2 : ¬ (vs0 < vs1) → EV d mX7_fewestAsleep Q 40 [vR 0, vI v1, vI v2, vI v3] [] g) : EV d mX7_fewestAsleep Q 37 [vR 0, vI v1, vI v2, vI v3] [vI vs1, vI vs0] g := by
  exact wp_icmp_lt (tgt := 43) dX7_fewestAsleep_37 rfl k1 k2
theorem b_X7_fewestAsleep_40 {d : Nat} {Q : Option pV → pG → Prop} {g : pG} {v1 v2 v3 : Int} (k : EV d mX7_fewestAsleep Q 10 [vR 0, vI v1, vI v2, vI (w32 (v3 + 1))] [] g) : EV d mX7_fewestAsleep Q 40 [vR 0, vI v1, vI v2, vI v3] [] g := by
  refine wp_goto (tgt := 61) dX7_fewestAsleep_40 rfl ?_
  refine wp_iinc dX7_fewestAsleep_61 rfl (Nat.le_of_ble_eq_true rfl) (pp (c := 2) rfl rfl) ?_
  refine wp_goto (tgt := 10) dX7_fewestAsleep_64 rfl ?_
  exact k
theorem b_X7_fewestAsleep_43 {d : Nat} {Q : Option pV → pG → Prop} {g : pG} {v1 v2 v3 : Int} {R : pG → Prop} (hc : CT d mX7_goDownAsleep [vR 0, vI v3] g (qV R)) (k : ∀ gg : pG, R gg → EV d mX7_fewestAsleep Q 48 [vR 0, vI v1, vI v2, vI v3] [] gg) : EV d mX7_fewestAsleep Q 43 [vR 0, vI v1, vI v2, vI v3] [] g := by
  refine wp_aload_n dX7_fewestAsleep_43 rfl rfl ?_
  refine wp_iload_n dX7_fewestAsleep_44 rfl ?_
  exact wp_callvV (As := [vI v3]) dX7_fewestAsleep_45 ml_7_283 (by decide) rfl L_0 (by decide) rfl (Nat.le_of_ble_eq_true rfl) rfl (Nat.le_refl _) (Nat.le_refl _) hc k
theorem b_X7_fewestAsleep_48 {d : Nat} {Q : Option pV → pG → Prop} {g : pG} {v1 v2 v3 : Int} {R : Int → pG → Prop} (hc : CT d mX3_isFor [vR 27] g (qI R)) (k : ∀ (x : Int) (gg : pG), R x gg → EV d mX7_fewestAsleep Q 55 [vR 0, vI v1, vI v2, vI v3] [vI x] gg) : EV d mX7_fewestAsleep Q 48 [vR 0, vI v1, vI v2, vI v3] [] g := by
  refine wp_aload_n dX7_fewestAsleep_48 rfl rfl ?_
  refine wp_get (v := vR 27) dX7_fewestAsleep_49 fl_7_54 L_0 rfl ?_
  exact wp_callvI (As := []) dX7_fewestAsleep_52 ml_7_175 (by decide) rfl L_27 (by decide) rfl (Nat.le_of_ble_eq_true rfl) rfl (Nat.le_refl _) (Nat.le_refl _) hc k
theorem b_X7_fewestAsleep_55 {d : Nat} {Q : Option pV → pG → Prop} {g : pG} {v1 v2 v3 vs0 : Int} (k1 : (vs0 = v1) → EV d mX7_fewestAsleep Q 61 [vR 0, vI v1, vI v2, vI v3] [] g) (k2 : ¬ (vs0 = v1) → EV d mX7_fewestAsleep Q 59 [vR 0, vI v1, vI v2, vI v3] [] g) : EV d mX7_fewestAsleep Q 55 [vR 0, vI v1, vI v2, vI v3] [vI vs0] g := by
  refine wp_iload_n dX7_fewestAsleep_55 rfl ?_
  exact wp_icmp_eq (tgt := 61) dX7_fewestAsleep_56 rfl k1 k2
theorem b_X7_fewestAsleep_59 {d : Nat} {Q : Option pV → pG → Prop} {g : pG} {v1 v2 v3 : Int} (k : EV d mX7_fewestAsleep Q 10 [vR 0, vI v1, vI v3, vI (w32 (v3 + 1))] [] g) : EV d mX7_fewestAsleep Q 59 [vR 0, vI v1, vI v2, vI v3] [] g := by
  refine wp_iload_n dX7_fewestAsleep_59 rfl ?_
  refine wp_istore_n dX7_fewestAsleep_60 (Nat.le_of_ble_eq_true rfl) (pp (c := 1) rfl rfl) ?_
  refine wp_iinc dX7_fewestAsleep_61 rfl (Nat.le_of_ble_eq_true rfl) (pp (c := 2) rfl rfl) ?_
  refine wp_goto (tgt := 10) dX7_fewestAsleep_64 rfl ?_
  exact k
theorem b_X7_fewestAsleep_61 {d : Nat} {Q : Option pV → pG → Prop} {g : pG} {v1 v2 v3 : Int} (k : EV d mX7_fewestAsleep Q 10 [vR 0, vI v1, vI v2, vI (w32 (v3 + 1))] [] g) : EV d mX7_fewestAsleep Q 61 [vR 0, vI v1, vI v2, vI v3] [] g := by
  refine wp_iinc dX7_fewestAsleep_61 rfl (Nat.le_of_ble_eq_true rfl) (pp (c := 2) rfl rfl) ?_
  refine wp_goto (tgt := 10) dX7_fewestAsleep_64 rfl ?_
  exact k
theorem b_X7_fewestAsleep_67 {d : Nat} {Q : Option pV → pG → Prop} {g : pG} {v1 v2 v3 : Int} (hq : Q (some (vI v2)) g) : EV d mX7_fewestAsleep Q 67 [vR 0, vI v1, vI v2, vI v3] [] g := by
  refine wp_iload_n dX7_fewestAsleep_67 rfl ?_
  exact wp_iret dX7_fewestAsleep_68 rfl hq
theorem b_X7_margin_0 {d : Nat} {Q : Option pV → pG → Prop} {g : pG} {R : Int → pG → Prop} (hc : CT d mX7_isForBehindAll [vR 0] g (qI R)) (k : ∀ (x : Int) (gg : pG), R x gg → EV d mX7_margin Q 4 [vR 0, vX 2, vX 2, vX 2, vX 2, vX 2] [vI x] gg) : EV d mX7_margin Q 0 [vR 0, vX 2, vX 2, vX 2, vX 2, vX 2] [] g := by
  refine wp_aload_n dX7_margin_0 rfl rfl ?_
  exact wp_callvI (As := []) dX7_margin_1 ml_7_300 (by decide) rfl L_0 (by decide) rfl (Nat.le_of_ble_eq_true rfl) rfl (Nat.le_refl _) (Nat.le_refl _) hc k
theorem b_X7_margin_4 {d : Nat} {Q : Option pV → pG → Prop} {g : pG} {vs0 : Int} (k : EV d mX7_margin Q 23 [vR 0, vI vs0, vI (w32 (2 * ((g 5) 1))), vI 1, vI 1, vX 2] [] g) : EV d mX7_margin Q 4 [vR 0, vX 2, vX 2, vX 2, vX 2, vX 2] [vI vs0] g := by
  refine wp_istore_n dX7_margin_4 (Nat.le_of_ble_eq_true rfl) (pp (c := 0) rfl rfl) ?_
  refine wp_iconst dX7_margin_5 kc_2 ?_
  refine wp_aload_n dX7_margin_6 rfl rfl ?_
  refine wp_get (v := vR 1) dX7_margin_7 fl_7_10 L_0 rfl ?_
  refine wp_get (v := vR 5) dX7_margin_10 fl_7_118 L_1 rfl ?_
  refine wp_get (v := vI ((g 5) 1)) dX7_margin_13 fl_7_155 L_5 rfl ?_
  refine wp_imul dX7_margin_16 ?_
  refine wp_istore_n dX7_margin_17 (Nat.le_of_ble_eq_true rfl) (pp (c := 1) rfl rfl) ?_
  refine wp_iconst dX7_margin_18 kc_1 ?_
  refine wp_istore_n dX7_margin_19 (Nat.le_of_ble_eq_true rfl) (pp (c := 2) rfl rfl) ?_
  refine wp_iconst dX7_margin_20 kc_1 ?_
  refine wp_istore dX7_margin_21 (Nat.le_of_ble_eq_true rfl) (pp (c := 3) rfl rfl) ?_
  exact k
theorem b_X7_margin_23 {d : Nat} {Q : Option pV → pG → Prop} {g : pG} {v1 v2 v3 v4 : Int} {u5 : pV} (k1 : (3 < v4) → EV d mX7_margin Q 100 [vR 0, vI v1, vI v2, vI v3, vI v4, u5] [] g) (k2 : ¬ (3 < v4) → EV d mX7_margin Q 29 [vR 0, vI v1, vI v2, vI v3, vI v4, u5] [] g) : EV d mX7_margin Q 23 [vR 0, vI v1, vI v2, vI v3, vI v4, u5] [] g := by
  refine wp_iload dX7_margin_23 rfl ?_
  refine wp_iconst dX7_margin_25 kc_3 ?_
  exact wp_icmp_gt (tgt := 100) dX7_margin_26 rfl k1 k2
theorem b_X7_margin_29 {d : Nat} {Q : Option pV → pG → Prop} {g : pG} {v1 v2 v3 v4 : Int} {u5 : pV} (k : EV d mX7_margin Q 36 [vR 0, vI v1, vI v2, vI (w32 (v3 * v2)), vI v4, vI 0] [] g) : EV d mX7_margin Q 29 [vR 0, vI v1, vI v2, vI v3, vI v4, u5] [] g := by
  refine wp_iload_n dX7_margin_29 rfl ?_
  refine wp_iload_n dX7_margin_30 rfl ?_
  refine wp_imul dX7_margin_31 ?_
  refine wp_istore_n dX7_margin_32 (Nat.le_of_ble_eq_true rfl) (pp (c := 2) rfl rfl) ?_
  refine wp_iconst dX7_margin_33 kc_0 ?_
  refine wp_istore dX7_margin_34 (Nat.le_of_ble_eq_true rfl) (pp (c := 4) rfl rfl) ?_
  exact k
theorem b_X7_margin_36 {d : Nat} {Q : Option pV → pG → Prop} {g : pG} {v1 v2 v3 v4 v5 : Int} (k1 : (v3 ≤ v5) → EV d mX7_margin Q 94 [vR 0, vI v1, vI v2, vI v3, vI v4, vI v5] [] g) (k2 : ¬ (v3 ≤ v5) → EV d mX7_margin Q 42 [vR 0, vI v1, vI v2, vI v3, vI v4, vI v5] [] g) : EV d mX7_margin Q 36 [vR 0, vI v1, vI v2, vI v3, vI v4, vI v5] [] g := by
  refine wp_iload dX7_margin_36 rfl ?_
  refine wp_iload_n dX7_margin_38 rfl ?_
  exact wp_icmp_ge (tgt := 94) dX7_margin_39 rfl k1 k2
theorem b_X7_margin_42 {d : Nat} {Q : Option pV → pG → Prop} {g : pG} {v1 v2 v3 v4 v5 : Int} {R : Int → pG → Prop} (hc : CT d mX7_stepAway [vR 0, vI v5, vI v4] g (qI R)) (k : ∀ (x : Int) (gg : pG), R x gg → EV d mX7_margin Q 50 [vR 0, vI v1, vI v2, vI v3, vI v4, vI v5] [vI x] gg) : EV d mX7_margin Q 42 [vR 0, vI v1, vI v2, vI v3, vI v4, vI v5] [] g := by
  refine wp_aload_n dX7_margin_42 rfl rfl ?_
  refine wp_iload dX7_margin_43 rfl ?_
  refine wp_iload dX7_margin_45 rfl ?_
  exact wp_callvI (As := [vI v5, vI v4]) dX7_margin_47 ml_7_317 (by decide) rfl L_0 (by decide) rfl (Nat.le_of_ble_eq_true rfl) rfl (Nat.le_refl _) (Nat.le_refl _) hc k
theorem b_X7_margin_50 {d : Nat} {Q : Option pV → pG → Prop} {g : pG} {v1 v2 v3 v4 v5 vs0 : Int} (k1 : (vs0 ≠ 0) → EV d mX7_margin Q 56 [vR 0, vI v1, vI v2, vI v3, vI v4, vI v5] [] g) (k2 : ¬ (vs0 ≠ 0) → EV d mX7_margin Q 53 [vR 0, vI v1, vI v2, vI v3, vI v4, vI v5] [] g) : EV d mX7_margin Q 50 [vR 0, vI v1, vI v2, vI v3, vI v4, vI v5] [vI vs0] g := by
  exact wp_if_ne (tgt := 56) dX7_margin_50 rfl k1 k2
theorem b_X7_margin_53 {d : Nat} {Q : Option pV → pG → Prop} {g : pG} {v1 v2 v3 v4 v5 : Int} (k : EV d mX7_margin Q 36 [vR 0, vI v1, vI v2, vI v3, vI v4, vI (w32 (v5 + 1))] [] g) : EV d mX7_margin Q 53 [vR 0, vI v1, vI v2, vI v3, vI v4, vI v5] [] g := by
  refine wp_goto (tgt := 88) dX7_margin_53 rfl ?_
  refine wp_iinc dX7_margin_88 rfl (Nat.le_of_ble_eq_true rfl) (pp (c := 4) rfl rfl) ?_
  refine wp_goto (tgt := 36) dX7_margin_91 rfl ?_
  exact k
theorem b_X7_margin_56 {d : Nat} {Q : Option pV → pG → Prop} {g : pG} {v1 v2 v3 v4 v5 : Int} {R : pG → Prop} (hc : CT d mX5_goDown [vR 1, vR 27, vI ((g 1) 3)] g (qV R)) (k : ∀ gg : pG, R gg → EV d mX7_margin Q 74 [vR 0, vI v1, vI v2, vI v3, vI v4, vI v5] [] gg) : EV d mX7_margin Q 56 [vR 0, vI v1, vI v2, vI v3, vI v4, vI v5] [] g := by
  refine wp_aload_n dX7_margin_56 rfl rfl ?_
  refine wp_get (v := vR 1) dX7_margin_57 fl_7_10 L_0 rfl ?_
  refine wp_aload_n dX7_margin_60 rfl rfl ?_
  refine wp_get (v := vR 27) dX7_margin_61 fl_7_54 L_0 rfl ?_
  refine wp_aload_n dX7_margin_64 rfl rfl ?_
  refine wp_get (v := vR 1) dX7_margin_65 fl_7_10 L_0 rfl ?_
  refine wp_get (v := vI ((g 1) 3)) dX7_margin_68 fl_7_152 L_1 rfl ?_
  exact wp_callvV (As := [vR 27, vI ((g 1) 3)]) dX7_margin_71 ml_7_269 (by decide) rfl L_1 (by decide) rfl (Nat.le_of_ble_eq_true rfl) rfl (Nat.le_refl _) (Nat.le_refl _) hc k
theorem b_X7_margin_74 {d : Nat} {Q : Option pV → pG → Prop} {g : pG} {v1 v2 v3 v4 v5 : Int} {R : Int → pG → Prop} (hc : CT d mX3_isFor [vR 27] g (qI R)) (k : ∀ (x : Int) (gg : pG), R x gg → EV d mX7_margin Q 81 [vR 0, vI v1, vI v2, vI v3, vI v4, vI v5] [vI x] gg) : EV d mX7_margin Q 74 [vR 0, vI v1, vI v2, vI v3, vI v4, vI v5] [] g := by
  refine wp_aload_n dX7_margin_74 rfl rfl ?_
  refine wp_get (v := vR 27) dX7_margin_75 fl_7_54 L_0 rfl ?_
  exact wp_callvI (As := []) dX7_margin_78 ml_7_175 (by decide) rfl L_27 (by decide) rfl (Nat.le_of_ble_eq_true rfl) rfl (Nat.le_refl _) (Nat.le_refl _) hc k
theorem b_X7_margin_81 {d : Nat} {Q : Option pV → pG → Prop} {g : pG} {v1 v2 v3 v4 v5 vs0 : Int} (k1 : (vs0 = v1) → EV d mX7_margin Q 88 [vR 0, vI v1, vI v2, vI v3, vI v4, vI v5] [] g) (k2 : ¬ (vs0 = v1) → EV d mX7_margin Q 85 [vR 0, vI v1, vI v2, vI v3, vI v4, vI v5] [] g) : EV d mX7_margin Q 81 [vR 0, vI v1, vI v2, vI v3, vI v4, vI v5] [vI vs0] g := by
  refine wp_iload_n dX7_margin_81 rfl ?_
  exact wp_icmp_eq (tgt := 88) dX7_margin_82 rfl k1 k2
theorem b_X7_margin_85 {d : Nat} {Q : Option pV → pG → Prop} {g : pG} {v1 v2 v3 v4 v5 : Int} (hq : Q (some (vI v4)) g) : EV d mX7_margin Q 85 [vR 0, vI v1, vI v2, vI v3, vI v4, vI v5] [] g := by
  refine wp_iload dX7_margin_85 rfl ?_
  exact wp_iret dX7_margin_87 rfl hq
theorem b_X7_margin_88 {d : Nat} {Q : Option pV → pG → Prop} {g : pG} {v1 v2 v3 v4 v5 : Int} (k : EV d mX7_margin Q 36 [vR 0, vI v1, vI v2, vI v3, vI v4, vI (w32 (v5 + 1))] [] g) : EV d mX7_margin Q 88 [vR 0, vI v1, vI v2, vI v3, vI v4, vI v5] [] g := by
  refine wp_iinc dX7_margin_88 rfl (Nat.le_of_ble_eq_true rfl) (pp (c := 4) rfl rfl) ?_
  refine wp_goto (tgt := 36) dX7_margin_91 rfl ?_
  exact k
theorem b_X7_margin_94 {d : Nat} {Q : Option pV → pG → Prop} {g : pG} {v1 v2 v3 v4 v5 : Int} (k : EV d mX7_margin Q 23 [vR 0, vI v1, vI v2, vI v3, vI (w32 (v4 + 1)), vI v5] [] g) : EV d mX7_margin Q 94 [vR 0, vI v1, vI v2, vI v3, vI v4, vI v5] [] g := by
  refine wp_iinc dX7_margin_94 rfl (Nat.le_of_ble_eq_true rfl) (pp (c := 3) rfl rfl) ?_
  refine wp_goto (tgt := 23) dX7_margin_97 rfl ?_
  exact k
theorem b_X7_margin_100 {d : Nat} {Q : Option pV → pG → Prop} {g : pG} {v1 v2 v3 v4 : Int} {u5 : pV} (hq : Q (some (vI (-9))) g) : EV d mX7_margin Q 100 [vR 0, vI v1, vI v2, vI v3, vI v4, u5] [] g := by
  refine wp_bipush dX7_margin_100 kb_m9 kc_m9 ?_
  exact wp_iret dX7_margin_102 rfl hq
theorem b_X7_stepAway_0 {d : Nat} {Q : Option pV → pG → Prop} {g : pG} {v1 v2 : Int} {R : pG → Prop} (hc : CT d mX3_copyFrom [vR 27, vR 5] g (qV R)) (k : ∀ gg : pG, R gg → EV d mX7_stepAway Q 14 [vR 0, vI v1, vI v2, vX 2, vX 2, vX 2, vX 2, vX 2] [] gg) : EV d mX7_stepAway Q 0 [vR 0, vI v1, vI v2, vX 2, vX 2, vX 2, vX 2, vX 2] [] g := by
  refine wp_aload_n dX7_stepAway_0 rfl rfl ?_
  refine wp_get (v := vR 27) dX7_stepAway_1 fl_7_54 L_0 rfl ?_
  refine wp_aload_n dX7_stepAway_4 rfl rfl ?_
  refine wp_get (v := vR 1) dX7_stepAway_5 fl_7_10 L_0 rfl ?_
  refine wp_get (v := vR 5) dX7_stepAway_8 fl_7_118 L_1 rfl ?_
  exact wp_callvV (As := [vR 5]) dX7_stepAway_11 ml_7_236 (by decide) rfl L_27 (by decide) rfl (Nat.le_of_ble_eq_true rfl) rfl (Nat.le_refl _) (Nat.le_refl _) hc k
theorem b_X7_stepAway_14 {d : Nat} {Q : Option pV → pG → Prop} {g : pG} {v1 v2 : Int} (k : EV d mX7_stepAway Q 33 [vR 0, vI v1, vI v2, vI (w32 (2 * ((g 27) 1))), vI v1, vI 0, vI 0, vX 2] [] g) : EV d mX7_stepAway Q 14 [vR 0, vI v1, vI v2, vX 2, vX 2, vX 2, vX 2, vX 2] [] g := by
  refine wp_iconst dX7_stepAway_14 kc_2 ?_
  refine wp_aload_n dX7_stepAway_15 rfl rfl ?_
  refine wp_get (v := vR 27) dX7_stepAway_16 fl_7_54 L_0 rfl ?_
  refine wp_get (v := vI ((g 27) 1)) dX7_stepAway_19 fl_7_155 L_27 rfl ?_
  refine wp_imul dX7_stepAway_22 ?_
  refine wp_istore_n dX7_stepAway_23 (Nat.le_of_ble_eq_true rfl) (pp (c := 2) rfl rfl) ?_
  refine wp_iload_n dX7_stepAway_24 rfl ?_
  refine wp_istore dX7_stepAway_25 (Nat.le_of_ble_eq_true rfl) (pp (c := 3) rfl rfl) ?_
  refine wp_iconst dX7_stepAway_27 kc_0 ?_
  refine wp_istore dX7_stepAway_28 (Nat.le_of_ble_eq_true rfl) (pp (c := 4) rfl rfl) ?_
  refine wp_iconst dX7_stepAway_30 kc_0 ?_
  refine wp_istore dX7_stepAway_31 (Nat.le_of_ble_eq_true rfl) (pp (c := 5) rfl rfl) ?_
  exact k
theorem b_X7_stepAway_33 {d : Nat} {Q : Option pV → pG → Prop} {g : pG} {v1 v2 v3 v4 v5 v6 : Int} {u7 : pV} (k1 : (v2 ≤ v6) → EV d mX7_stepAway Q 84 [vR 0, vI v1, vI v2, vI v3, vI v4, vI v5, vI v6, u7] [] g) (k2 : ¬ (v2 ≤ v6) → EV d mX7_stepAway Q 39 [vR 0, vI v1, vI v2, vI v3, vI v4, vI v5, vI v6, u7] [] g) : EV d mX7_stepAway Q 33 [vR 0, vI v1, vI v2, vI v3, vI v4, vI v5, vI v6, u7] [] g := by
  refine wp_iload dX7_stepAway_33 rfl ?_
  refine wp_iload_n dX7_stepAway_35 rfl ?_
  exact wp_icmp_ge (tgt := 84) dX7_stepAway_36 rfl k1 k2
theorem b_X7_stepAway_39 {d : Nat} {Q : Option pV → pG → Prop} {g : pG} {v1 v2 v3 v4 v5 v6 : Int} {u7 : pV} (k1 : (v3 ≤ 0) → EV d mX7_stepAway Q 84 [vR 0, vI v1, vI v2, vI v3, vI v4, vI v5, vI v6, u7] [] g) (k2 : ¬ (v3 ≤ 0) → EV d mX7_stepAway Q 43 [vR 0, vI v1, vI v2, vI v3, vI v4, vI v5, vI v6, u7] [] g) : EV d mX7_stepAway Q 39 [vR 0, vI v1, vI v2, vI v3, vI v4, vI v5, vI v6, u7] [] g := by
  refine wp_iload_n dX7_stepAway_39 rfl ?_
  exact wp_if_le (tgt := 84) dX7_stepAway_40 rfl k1 k2
theorem b_X7_stepAway_43 {d : Nat} {Q : Option pV → pG → Prop} {g : pG} {v1 v2 v3 v4 v5 v6 : Int} {u7 : pV} (h1 : v3 ≠ 0) (k1 : (v5 ≤ w32 (v4.tmod v3)) → EV d mX7_stepAway Q 58 [vR 0, vI v1, vI v2, vI v3, vI v4, vI v5, vI v6, vI (w32 (v4.tmod v3))] [] g) (k2 : ¬ (v5 ≤ w32 (v4.tmod v3)) → EV d mX7_stepAway Q 56 [vR 0, vI v1, vI v2, vI v3, vI v4, vI v5, vI v6, vI (w32 (v4.tmod v3))] [] g) : EV d mX7_stepAway Q 43 [vR 0, vI v1, vI v2, vI v3, vI v4, vI v5, vI v6, u7] [] g := by
  refine wp_iload dX7_stepAway_43 rfl ?_
  refine wp_iload_n dX7_stepAway_45 rfl ?_
  refine wp_irem dX7_stepAway_46 h1 ?_
  refine wp_istore dX7_stepAway_47 (Nat.le_of_ble_eq_true rfl) (pp (c := 6) rfl rfl) ?_
  refine wp_iload dX7_stepAway_49 rfl ?_
  refine wp_iload dX7_stepAway_51 rfl ?_
  exact wp_icmp_ge (tgt := 58) dX7_stepAway_53 rfl k1 k2
theorem b_X7_stepAway_56 {d : Nat} {Q : Option pV → pG → Prop} {g : pG} {v1 v2 v3 v4 v5 v6 v7 : Int} (hq : Q (some (vI 0)) g) : EV d mX7_stepAway Q 56 [vR 0, vI v1, vI v2, vI v3, vI v4, vI v5, vI v6, vI v7] [] g := by
  refine wp_iconst dX7_stepAway_56 kc_0 ?_
  exact wp_zret dX7_stepAway_57 rfl (Or.inl rfl) hq
theorem b_X7_stepAway_58 {d : Nat} {Q : Option pV → pG → Prop} {g : pG} {v1 v2 v3 v4 v5 v6 v7 : Int} {R : Int → pG → Prop} (hc : CT d mX3_move [vR 27, vI v7] g (qI R)) (k : ∀ (x : Int) (gg : pG), R x gg → EV d mX7_stepAway Q 67 [vR 0, vI v1, vI v2, vI v3, vI v4, vI v5, vI v6, vI v7] [vI x] gg) : EV d mX7_stepAway Q 58 [vR 0, vI v1, vI v2, vI v3, vI v4, vI v5, vI v6, vI v7] [] g := by
  refine wp_aload_n dX7_stepAway_58 rfl rfl ?_
  refine wp_get (v := vR 27) dX7_stepAway_59 fl_7_54 L_0 rfl ?_
  refine wp_iload dX7_stepAway_62 rfl ?_
  exact wp_callvI (As := [vI v7]) dX7_stepAway_64 ml_7_246 (by decide) rfl L_27 (by decide) rfl (Nat.le_of_ble_eq_true rfl) rfl (Nat.le_refl _) (Nat.le_refl _) hc k
theorem b_X7_stepAway_67 {d : Nat} {Q : Option pV → pG → Prop} {g : pG} {v1 v2 v3 v4 v5 v6 v7 vs0 : Int} (h1 : v3 ≠ 0) (k : EV d mX7_stepAway Q 33 [vR 0, vI v1, vI v2, vI v3, vI (w32 (v4.tdiv v3)), vI v7, vI (w32 (v6 + 1)), vI v7] [] g) : EV d mX7_stepAway Q 67 [vR 0, vI v1, vI v2, vI v3, vI v4, vI v5, vI v6, vI v7] [vI vs0] g := by
  refine wp_pop dX7_stepAway_67 rfl ?_
  refine wp_iload dX7_stepAway_68 rfl ?_
  refine wp_istore dX7_stepAway_70 (Nat.le_of_ble_eq_true rfl) (pp (c := 4) rfl rfl) ?_
  refine wp_iload dX7_stepAway_72 rfl ?_
  refine wp_iload_n dX7_stepAway_74 rfl ?_
  refine wp_idiv dX7_stepAway_75 h1 ?_
  refine wp_istore dX7_stepAway_76 (Nat.le_of_ble_eq_true rfl) (pp (c := 3) rfl rfl) ?_
  refine wp_iinc dX7_stepAway_78 rfl (Nat.le_of_ble_eq_true rfl) (pp (c := 5) rfl rfl) ?_
  refine wp_goto (tgt := 33) dX7_stepAway_81 rfl ?_
  exact k
theorem b_X7_stepAway_84 {d : Nat} {Q : Option pV → pG → Prop} {g : pG} {v1 v2 v3 v4 v5 v6 : Int} {u7 : pV} (hq : Q (some (vI 1)) g) : EV d mX7_stepAway Q 84 [vR 0, vI v1, vI v2, vI v3, vI v4, vI v5, vI v6, u7] [] g := by
  refine wp_iconst dX7_stepAway_84 kc_1 ?_
  exact wp_zret dX7_stepAway_85 rfl (Or.inr rfl) hq
theorem b_X7_beats_0 {d : Nat} {Q : Option pV → pG → Prop} {g : pG} {R : Int → pG → Prop} (hc : CT d mX7_tellsNumbers [vR 0, vI ((g 5) 1)] g (qI R)) (k : ∀ (x : Int) (gg : pG), R x gg → EV d mX7_beats Q 14 [vR 0] [vI x] gg) : EV d mX7_beats Q 0 [vR 0] [] g := by
  refine wp_aload_n dX7_beats_0 rfl rfl ?_
  refine wp_aload_n dX7_beats_1 rfl rfl ?_
  refine wp_get (v := vR 1) dX7_beats_2 fl_7_10 L_0 rfl ?_
  refine wp_get (v := vR 5) dX7_beats_5 fl_7_118 L_1 rfl ?_
  refine wp_get (v := vI ((g 5) 1)) dX7_beats_8 fl_7_155 L_5 rfl ?_
  exact wp_callvI (As := [vI ((g 5) 1)]) dX7_beats_11 ml_7_255 (by decide) rfl L_0 (by decide) rfl (Nat.le_of_ble_eq_true rfl) rfl (Nat.le_refl _) (Nat.le_refl _) hc k
theorem b_X7_beats_14 {d : Nat} {Q : Option pV → pG → Prop} {g : pG} {vs0 : Int} (k1 : (vs0 ≠ 0) → EV d mX7_beats Q 24 [vR 0] [] g) (k2 : ¬ (vs0 ≠ 0) → EV d mX7_beats Q 17 [vR 0] [] g) : EV d mX7_beats Q 14 [vR 0] [vI vs0] g := by
  exact wp_if_ne (tgt := 24) dX7_beats_14 rfl k1 k2
theorem b_X7_beats_17 {d : Nat} {Q : Option pV → pG → Prop} {g : pG} {R : Int → pG → Prop} (hc : CT d mX7_refuse [vR 0, vI (-3)] g (qI R)) (k : ∀ (x : Int) (gg : pG), R x gg → EV d mX7_beats Q 23 [vR 0] [vI x] gg) : EV d mX7_beats Q 17 [vR 0] [] g := by
  refine wp_aload_n dX7_beats_17 rfl rfl ?_
  refine wp_bipush dX7_beats_18 kb_m3 kc_m3 ?_
  exact wp_callvI (As := [vI (-3)]) dX7_beats_20 ml_7_91 (by decide) rfl L_0 (by decide) rfl (Nat.le_of_ble_eq_true rfl) rfl (Nat.le_refl _) (Nat.le_refl _) hc k
theorem b_X7_beats_23 {d : Nat} {Q : Option pV → pG → Prop} {g : pG} {vs0 : Int} (hq : Q (some (vI vs0)) g) : EV d mX7_beats Q 23 [vR 0] [vI vs0] g := by
  exact wp_iret dX7_beats_23 rfl hq
theorem b_X7_beats_24 {d : Nat} {Q : Option pV → pG → Prop} {g : pG} {R : pG → Prop} (hc : CT d mX7_readTold [vR 0, vR 31, vI 0, vI 1] g (qV R)) (k : ∀ gg : pG, R gg → EV d mX7_beats Q 34 [vR 0] [] gg) : EV d mX7_beats Q 24 [vR 0] [] g := by
  refine wp_aload_n dX7_beats_24 rfl rfl ?_
  refine wp_aload_n dX7_beats_25 rfl rfl ?_
  refine wp_get (v := vR 31) dX7_beats_26 fl_7_61 L_0 rfl ?_
  refine wp_iconst dX7_beats_29 kc_0 ?_
  refine wp_iconst dX7_beats_30 kc_1 ?_
  exact wp_callvV (As := [vR 31, vI 0, vI 1]) dX7_beats_31 ml_7_258 (by decide) rfl L_0 (by decide) rfl (Nat.le_of_ble_eq_true rfl) rfl (Nat.le_refl _) (Nat.le_refl _) hc k
theorem b_X7_beats_34 {d : Nat} {Q : Option pV → pG → Prop} {g : pG} {R : pG → Prop} (hc : CT d mX5_goDown [vR 1, vR 31, vI ((g 1) 3)] g (qV R)) (k : ∀ gg : pG, R gg → EV d mX7_beats Q 52 [vR 0] [] gg) : EV d mX7_beats Q 34 [vR 0] [] g := by
  refine wp_aload_n dX7_beats_34 rfl rfl ?_
  refine wp_get (v := vR 1) dX7_beats_35 fl_7_10 L_0 rfl ?_
  refine wp_aload_n dX7_beats_38 rfl rfl ?_
  refine wp_get (v := vR 31) dX7_beats_39 fl_7_61 L_0 rfl ?_
  refine wp_aload_n dX7_beats_42 rfl rfl ?_
  refine wp_get (v := vR 1) dX7_beats_43 fl_7_10 L_0 rfl ?_
  refine wp_get (v := vI ((g 1) 3)) dX7_beats_46 fl_7_152 L_1 rfl ?_
  exact wp_callvV (As := [vR 31, vI ((g 1) 3)]) dX7_beats_49 ml_7_269 (by decide) rfl L_1 (by decide) rfl (Nat.le_of_ble_eq_true rfl) rfl (Nat.le_refl _) (Nat.le_refl _) hc k
theorem b_X7_beats_52 {d : Nat} {Q : Option pV → pG → Prop} {g : pG} {R : pG → Prop} (hc : CT d mX7_goDownTo [vR 0, vI ((g 1) 3)] g (qV R)) (k : ∀ gg : pG, R gg → EV d mX7_beats Q 63 [vR 0] [] gg) : EV d mX7_beats Q 52 [vR 0] [] g := by
  refine wp_aload_n dX7_beats_52 rfl rfl ?_
  refine wp_aload_n dX7_beats_53 rfl rfl ?_
  refine wp_get (v := vR 1) dX7_beats_54 fl_7_10 L_0 rfl ?_
  refine wp_get (v := vI ((g 1) 3)) dX7_beats_57 fl_7_152 L_1 rfl ?_
  exact wp_callvV (As := [vI ((g 1) 3)]) dX7_beats_60 ml_7_171 (by decide) rfl L_0 (by decide) rfl (Nat.le_of_ble_eq_true rfl) rfl (Nat.le_refl _) (Nat.le_refl _) hc k
theorem b_X7_beats_63 {d : Nat} {Q : Option pV → pG → Prop} {g : pG} {R : Int → pG → Prop} (hc : CT d mX3_sum [vR 31] g (qI R)) (k : ∀ (x : Int) (gg : pG), R x gg → EV d mX7_beats Q 70 [vR 0] [vI x] gg) : EV d mX7_beats Q 63 [vR 0] [] g := by
  refine wp_aload_n dX7_beats_63 rfl rfl ?_
  refine wp_get (v := vR 31) dX7_beats_64 fl_7_61 L_0 rfl ?_
  exact wp_callvI (As := []) dX7_beats_67 ml_7_183 (by decide) rfl L_31 (by decide) rfl (Nat.le_of_ble_eq_true rfl) rfl (Nat.le_refl _) (Nat.le_refl _) hc k
theorem b_X7_beats_70 {d : Nat} {Q : Option pV → pG → Prop} {g : pG} {vs0 : Int} {R : Int → pG → Prop} (hc : CT d mX3_sum [vR 27] g (qI R)) (k : ∀ (x : Int) (gg : pG), R x gg → EV d mX7_beats Q 77 [vR 0] [vI x, vI vs0] gg) : EV d mX7_beats Q 70 [vR 0] [vI vs0] g := by
  refine wp_aload_n dX7_beats_70 rfl rfl ?_
  refine wp_get (v := vR 27) dX7_beats_71 fl_7_54 L_0 rfl ?_
  exact wp_callvI (As := []) dX7_beats_74 ml_7_183 (by decide) rfl L_27 (by decide) rfl (Nat.le_of_ble_eq_true rfl) rfl (Nat.le_refl _) (Nat.le_refl _) hc k
theorem b_X7_beats_77 {d : Nat} {Q : Option pV → pG → Prop} {g : pG} {vs0 vs1 : Int} (k1 : (vs0 ≤ vs1) → EV d mX7_beats Q 84 [vR 0] [] g) (k2 : ¬ (vs0 ≤ vs1) → EV d mX7_beats Q 80 [vR 0] [] g) : EV d mX7_beats Q 77 [vR 0] [vI vs1, vI vs0] g := by
  exact wp_icmp_le (tgt := 84) dX7_beats_77 rfl k1 k2
theorem b_X7_beats_80 {d : Nat} {Q : Option pV → pG → Prop} {g : pG} {R : Int → pG → Prop} (hc : CT d mX7_bit [vI 1] g (qI R)) (k : ∀ (x : Int) (gg : pG), R x gg → EV d mX7_beats Q 88 [vR 0] [vI x] gg) : EV d mX7_beats Q 80 [vR 0] [] g := by
  refine wp_iconst dX7_beats_80 kc_1 ?_
  refine wp_goto (tgt := 85) dX7_beats_81 rfl ?_
  exact wp_callsI (As := [vI 1]) dX7_beats_85 ml_7_179 (Or.inl rfl) rfl (Nat.le_of_ble_eq_true rfl) rfl (Nat.le_refl _) (Nat.le_refl _) hc k
theorem b_X7_beats_84 {d : Nat} {Q : Option pV → pG → Prop} {g : pG} {R : Int → pG → Prop} (hc : CT d mX7_bit [vI 0] g (qI R)) (k : ∀ (x : Int) (gg : pG), R x gg → EV d mX7_beats Q 88 [vR 0] [vI x] gg) : EV d mX7_beats Q 84 [vR 0] [] g := by
  refine wp_iconst dX7_beats_84 kc_0 ?_
  exact wp_callsI (As := [vI 0]) dX7_beats_85 ml_7_179 (Or.inl rfl) rfl (Nat.le_of_ble_eq_true rfl) rfl (Nat.le_refl _) (Nat.le_refl _) hc k
theorem b_X7_beats_88 {d : Nat} {Q : Option pV → pG → Prop} {g : pG} {vs0 : Int} (hq : Q (some (vI vs0)) g) : EV d mX7_beats Q 88 [vR 0] [vI vs0] g := by
  exact wp_iret dX7_beats_88 rfl hq
theorem b_X7_commute_0 {d : Nat} {Q : Option pV → pG → Prop} {g : pG} {v1 v2 : Int} {R : Int → pG → Prop} (hc : CT d mX5_hasCourt [vR 1, vI v1] g (qI R)) (k : ∀ (x : Int) (gg : pG), R x gg → EV d mX7_commute Q 8 [vR 0, vI v1, vI v2] [vI x] gg) : EV d mX7_commute Q 0 [vR 0, vI v1, vI v2] [] g := by
  refine wp_aload_n dX7_commute_0 rfl rfl ?_
  refine wp_get (v := vR 1) dX7_commute_1 fl_7_10 L_0 rfl ?_
  refine wp_iload_n dX7_commute_4 rfl ?_
  exact wp_callvI (As := [vI v1]) dX7_commute_5 ml_7_105 (by decide) rfl L_1 (by decide) rfl (Nat.le_of_ble_eq_true rfl) rfl (Nat.le_refl _) (Nat.le_refl _) hc k
theorem b_X7_commute_8 {d : Nat} {Q : Option pV → pG → Prop} {g : pG} {v1 v2 vs0 : Int} (k1 : (vs0 = 0) → EV d mX7_commute Q 27 [vR 0, vI v1, vI v2] [] g) (k2 : ¬ (vs0 = 0) → EV d mX7_commute Q 11 [vR 0, vI v1, vI v2] [] g) : EV d mX7_commute Q 8 [vR 0, vI v1, vI v2] [vI vs0] g := by
  exact wp_if_eq (tgt := 27) dX7_commute_8 rfl k1 k2
theorem b_X7_commute_11 {d : Nat} {Q : Option pV → pG → Prop} {g : pG} {v1 v2 : Int} {R : Int → pG → Prop} (hc : CT d mX5_hasCourt [vR 1, vI v2] g (qI R)) (k : ∀ (x : Int) (gg : pG), R x gg → EV d mX7_commute Q 19 [vR 0, vI v1, vI v2] [vI x] gg) : EV d mX7_commute Q 11 [vR 0, vI v1, vI v2] [] g := by
  refine wp_aload_n dX7_commute_11 rfl rfl ?_
  refine wp_get (v := vR 1) dX7_commute_12 fl_7_10 L_0 rfl ?_
  refine wp_iload_n dX7_commute_15 rfl ?_
  exact wp_callvI (As := [vI v2]) dX7_commute_16 ml_7_105 (by decide) rfl L_1 (by decide) rfl (Nat.le_of_ble_eq_true rfl) rfl (Nat.le_refl _) (Nat.le_refl _) hc k
theorem b_X7_commute_19 {d : Nat} {Q : Option pV → pG → Prop} {g : pG} {v1 v2 vs0 : Int} (k1 : (vs0 = 0) → EV d mX7_commute Q 27 [vR 0, vI v1, vI v2] [] g) (k2 : ¬ (vs0 = 0) → EV d mX7_commute Q 22 [vR 0, vI v1, vI v2] [] g) : EV d mX7_commute Q 19 [vR 0, vI v1, vI v2] [vI vs0] g := by
  exact wp_if_eq (tgt := 27) dX7_commute_19 rfl k1 k2
theorem b_X7_commute_22 {d : Nat} {Q : Option pV → pG → Prop} {g : pG} {v1 v2 : Int} (k1 : (v1 ≠ v2) → EV d mX7_commute Q 33 [vR 0, vI v1, vI v2] [] g) (k2 : ¬ (v1 ≠ v2) → EV d mX7_commute Q 27 [vR 0, vI v1, vI v2] [] g) : EV d mX7_commute Q 22 [vR 0, vI v1, vI v2] [] g := by
  refine wp_iload_n dX7_commute_22 rfl ?_
  refine wp_iload_n dX7_commute_23 rfl ?_
  exact wp_icmp_ne (tgt := 33) dX7_commute_24 rfl k1 k2
theorem b_X7_commute_27 {d : Nat} {Q : Option pV → pG → Prop} {g : pG} {v1 v2 : Int} {R : Int → pG → Prop} (hc : CT d mX7_refuse [vR 0, vI (-1)] g (qI R)) (k : ∀ (x : Int) (gg : pG), R x gg → EV d mX7_commute Q 32 [vR 0, vI v1, vI v2] [vI x] gg) : EV d mX7_commute Q 27 [vR 0, vI v1, vI v2] [] g := by
  refine wp_aload_n dX7_commute_27 rfl rfl ?_
  refine wp_iconst dX7_commute_28 kc_m1 ?_
  exact wp_callvI (As := [vI (-1)]) dX7_commute_29 ml_7_91 (by decide) rfl L_0 (by decide) rfl (Nat.le_of_ble_eq_true rfl) rfl (Nat.le_refl _) (Nat.le_refl _) hc k
theorem b_X7_commute_32 {d : Nat} {Q : Option pV → pG → Prop} {g : pG} {v1 v2 vs0 : Int} (hq : Q (some (vI vs0)) g) : EV d mX7_commute Q 32 [vR 0, vI v1, vI v2] [vI vs0] g := by
  exact wp_iret dX7_commute_32 rfl hq
theorem b_X7_commute_33 {d : Nat} {Q : Option pV → pG → Prop} {g : pG} {v1 v2 : Int} {R : pG → Prop} (hc : CT d mX3_copyFrom [vR 27, vR 5] g (qV R)) (k : ∀ gg : pG, R gg → EV d mX7_commute Q 47 [vR 0, vI v1, vI v2] [] gg) : EV d mX7_commute Q 33 [vR 0, vI v1, vI v2] [] g := by
  refine wp_aload_n dX7_commute_33 rfl rfl ?_
  refine wp_get (v := vR 27) dX7_commute_34 fl_7_54 L_0 rfl ?_
  refine wp_aload_n dX7_commute_37 rfl rfl ?_
  refine wp_get (v := vR 1) dX7_commute_38 fl_7_10 L_0 rfl ?_
  refine wp_get (v := vR 5) dX7_commute_41 fl_7_118 L_1 rfl ?_
  exact wp_callvV (As := [vR 5]) dX7_commute_44 ml_7_236 (by decide) rfl L_27 (by decide) rfl (Nat.le_of_ble_eq_true rfl) rfl (Nat.le_refl _) (Nat.le_refl _) hc k
theorem b_X7_commute_47 {d : Nat} {Q : Option pV → pG → Prop} {g : pG} {v1 v2 : Int} {R : pG → Prop} (hc : CT d mX3_copyFrom [vR 29, vR 5] g (qV R)) (k : ∀ gg : pG, R gg → EV d mX7_commute Q 61 [vR 0, vI v1, vI v2] [] gg) : EV d mX7_commute Q 47 [vR 0, vI v1, vI v2] [] g := by
  refine wp_aload_n dX7_commute_47 rfl rfl ?_
  refine wp_get (v := vR 29) dX7_commute_48 fl_7_58 L_0 rfl ?_
  refine wp_aload_n dX7_commute_51 rfl rfl ?_
  refine wp_get (v := vR 1) dX7_commute_52 fl_7_10 L_0 rfl ?_
  refine wp_get (v := vR 5) dX7_commute_55 fl_7_118 L_1 rfl ?_
  exact wp_callvV (As := [vR 5]) dX7_commute_58 ml_7_236 (by decide) rfl L_29 (by decide) rfl (Nat.le_of_ble_eq_true rfl) rfl (Nat.le_refl _) (Nat.le_refl _) hc k
theorem b_X7_commute_61 {d : Nat} {Q : Option pV → pG → Prop} {g : pG} {v1 v2 : Int} {R : pG → Prop} (hc : CT d mX5_hear [vR 1, vI v1, vR 27] g (qV R)) (k : ∀ gg : pG, R gg → EV d mX7_commute Q 73 [vR 0, vI v1, vI v2] [] gg) : EV d mX7_commute Q 61 [vR 0, vI v1, vI v2] [] g := by
  refine wp_aload_n dX7_commute_61 rfl rfl ?_
  refine wp_get (v := vR 1) dX7_commute_62 fl_7_10 L_0 rfl ?_
  refine wp_iload_n dX7_commute_65 rfl ?_
  refine wp_aload_n dX7_commute_66 rfl rfl ?_
  refine wp_get (v := vR 27) dX7_commute_67 fl_7_54 L_0 rfl ?_
  exact wp_callvV (As := [vI v1, vR 27]) dX7_commute_70 ml_7_186 (by decide) rfl L_1 (by decide) rfl (Nat.le_of_ble_eq_true rfl) rfl (Nat.le_refl _) (Nat.le_refl _) hc k
theorem b_X7_commute_73 {d : Nat} {Q : Option pV → pG → Prop} {g : pG} {v1 v2 : Int} {R : pG → Prop} (hc : CT d mX5_hear [vR 1, vI v2, vR 27] g (qV R)) (k : ∀ gg : pG, R gg → EV d mX7_commute Q 85 [vR 0, vI v1, vI v2] [] gg) : EV d mX7_commute Q 73 [vR 0, vI v1, vI v2] [] g := by
  refine wp_aload_n dX7_commute_73 rfl rfl ?_
  refine wp_get (v := vR 1) dX7_commute_74 fl_7_10 L_0 rfl ?_
  refine wp_iload_n dX7_commute_77 rfl ?_
  refine wp_aload_n dX7_commute_78 rfl rfl ?_
  refine wp_get (v := vR 27) dX7_commute_79 fl_7_54 L_0 rfl ?_
  exact wp_callvV (As := [vI v2, vR 27]) dX7_commute_82 ml_7_186 (by decide) rfl L_1 (by decide) rfl (Nat.le_of_ble_eq_true rfl) rfl (Nat.le_refl _) (Nat.le_refl _) hc k
theorem b_X7_commute_85 {d : Nat} {Q : Option pV → pG → Prop} {g : pG} {v1 v2 : Int} {R : pG → Prop} (hc : CT d mX5_hear [vR 1, vI v2, vR 29] g (qV R)) (k : ∀ gg : pG, R gg → EV d mX7_commute Q 97 [vR 0, vI v1, vI v2] [] gg) : EV d mX7_commute Q 85 [vR 0, vI v1, vI v2] [] g := by
  refine wp_aload_n dX7_commute_85 rfl rfl ?_
  refine wp_get (v := vR 1) dX7_commute_86 fl_7_10 L_0 rfl ?_
  refine wp_iload_n dX7_commute_89 rfl ?_
  refine wp_aload_n dX7_commute_90 rfl rfl ?_
  refine wp_get (v := vR 29) dX7_commute_91 fl_7_58 L_0 rfl ?_
  exact wp_callvV (As := [vI v2, vR 29]) dX7_commute_94 ml_7_186 (by decide) rfl L_1 (by decide) rfl (Nat.le_of_ble_eq_true rfl) rfl (Nat.le_refl _) (Nat.le_refl _) hc k
theorem b_X7_commute_97 {d : Nat} {Q : Option pV → pG → Prop} {g : pG} {v1 v2 : Int} {R : pG → Prop} (hc : CT d mX5_hear [vR 1, vI v1, vR 29] g (qV R)) (k : ∀ gg : pG, R gg → EV d mX7_commute Q 109 [vR 0, vI v1, vI v2] [] gg) : EV d mX7_commute Q 97 [vR 0, vI v1, vI v2] [] g := by
  refine wp_aload_n dX7_commute_97 rfl rfl ?_
  refine wp_get (v := vR 1) dX7_commute_98 fl_7_10 L_0 rfl ?_
  refine wp_iload_n dX7_commute_101 rfl ?_
  refine wp_aload_n dX7_commute_102 rfl rfl ?_
  refine wp_get (v := vR 29) dX7_commute_103 fl_7_58 L_0 rfl ?_
  exact wp_callvV (As := [vI v1, vR 29]) dX7_commute_106 ml_7_186 (by decide) rfl L_1 (by decide) rfl (Nat.le_of_ble_eq_true rfl) rfl (Nat.le_refl _) (Nat.le_refl _) hc k
theorem b_X7_commute_109 {d : Nat} {Q : Option pV → pG → Prop} {g : pG} {v1 v2 : Int} {R : Int → pG → Prop} (hc : CT d mX3_isAs [vR 27, vR 29] g (qI R)) (k : ∀ (x : Int) (gg : pG), R x gg → EV d mX7_commute Q 120 [vR 0, vI v1, vI v2] [vI x] gg) : EV d mX7_commute Q 109 [vR 0, vI v1, vI v2] [] g := by
  refine wp_aload_n dX7_commute_109 rfl rfl ?_
  refine wp_get (v := vR 27) dX7_commute_110 fl_7_54 L_0 rfl ?_
  refine wp_aload_n dX7_commute_113 rfl rfl ?_
  refine wp_get (v := vR 29) dX7_commute_114 fl_7_58 L_0 rfl ?_
  exact wp_callvI (As := [vR 29]) dX7_commute_117 ml_7_265 (by decide) rfl L_27 (by decide) rfl (Nat.le_of_ble_eq_true rfl) rfl (Nat.le_refl _) (Nat.le_refl _) hc k
theorem b_X7_commute_120 {d : Nat} {Q : Option pV → pG → Prop} {g : pG} {v1 v2 vs0 : Int} {R : Int → pG → Prop} (hc : CT d mX7_bit [vI vs0] g (qI R)) (k : ∀ (x : Int) (gg : pG), R x gg → EV d mX7_commute Q 123 [vR 0, vI v1, vI v2] [vI x] gg) : EV d mX7_commute Q 120 [vR 0, vI v1, vI v2] [vI vs0] g := by
  exact wp_callsI (As := [vI vs0]) dX7_commute_120 ml_7_179 (Or.inl rfl) rfl (Nat.le_of_ble_eq_true rfl) rfl (Nat.le_refl _) (Nat.le_refl _) hc k
theorem b_X7_commute_123 {d : Nat} {Q : Option pV → pG → Prop} {g : pG} {v1 v2 vs0 : Int} (hq : Q (some (vI vs0)) g) : EV d mX7_commute Q 123 [vR 0, vI v1, vI v2] [vI vs0] g := by
  exact wp_iret dX7_commute_123 rfl hq
theorem b_X7_again_0 {d : Nat} {Q : Option pV → pG → Prop} {g : pG} {v1 v2 : Int} {R : Int → pG → Prop} (hc : CT d mX5_hasCourt [vR 1, vI v1] g (qI R)) (k : ∀ (x : Int) (gg : pG), R x gg → EV d mX7_again Q 8 [vR 0, vI v1, vI v2, vX 2, vX 2] [vI x] gg) : EV d mX7_again Q 0 [vR 0, vI v1, vI v2, vX 2, vX 2] [] g := by
  refine wp_aload_n dX7_again_0 rfl rfl ?_
  refine wp_get (v := vR 1) dX7_again_1 fl_7_10 L_0 rfl ?_
  refine wp_iload_n dX7_again_4 rfl ?_
  exact wp_callvI (As := [vI v1]) dX7_again_5 ml_7_105 (by decide) rfl L_1 (by decide) rfl (Nat.le_of_ble_eq_true rfl) rfl (Nat.le_refl _) (Nat.le_refl _) hc k
theorem b_X7_again_8 {d : Nat} {Q : Option pV → pG → Prop} {g : pG} {v1 v2 vs0 : Int} (k1 : (vs0 ≠ 0) → EV d mX7_again Q 17 [vR 0, vI v1, vI v2, vX 2, vX 2] [] g) (k2 : ¬ (vs0 ≠ 0) → EV d mX7_again Q 11 [vR 0, vI v1, vI v2, vX 2, vX 2] [] g) : EV d mX7_again Q 8 [vR 0, vI v1, vI v2, vX 2, vX 2] [vI vs0] g := by
  exact wp_if_ne (tgt := 17) dX7_again_8 rfl k1 k2
theorem b_X7_again_11 {d : Nat} {Q : Option pV → pG → Prop} {g : pG} {v1 v2 : Int} {R : Int → pG → Prop} (hc : CT d mX7_refuse [vR 0, vI (-1)] g (qI R)) (k : ∀ (x : Int) (gg : pG), R x gg → EV d mX7_again Q 16 [vR 0, vI v1, vI v2, vX 2, vX 2] [vI x] gg) : EV d mX7_again Q 11 [vR 0, vI v1, vI v2, vX 2, vX 2] [] g := by
  refine wp_aload_n dX7_again_11 rfl rfl ?_
  refine wp_iconst dX7_again_12 kc_m1 ?_
  exact wp_callvI (As := [vI (-1)]) dX7_again_13 ml_7_91 (by decide) rfl L_0 (by decide) rfl (Nat.le_of_ble_eq_true rfl) rfl (Nat.le_refl _) (Nat.le_refl _) hc k
theorem b_X7_again_16 {d : Nat} {Q : Option pV → pG → Prop} {g : pG} {v1 v2 vs0 : Int} (hq : Q (some (vI vs0)) g) : EV d mX7_again Q 16 [vR 0, vI v1, vI v2, vX 2, vX 2] [vI vs0] g := by
  exact wp_iret dX7_again_16 rfl hq
theorem b_X7_again_17 {d : Nat} {Q : Option pV → pG → Prop} {g : pG} {v1 v2 : Int} (k1 : (v2 < 0) → EV d mX7_again Q 26 [vR 0, vI v1, vI v2, vX 2, vX 2] [] g) (k2 : ¬ (v2 < 0) → EV d mX7_again Q 21 [vR 0, vI v1, vI v2, vX 2, vX 2] [] g) : EV d mX7_again Q 17 [vR 0, vI v1, vI v2, vX 2, vX 2] [] g := by
  refine wp_iload_n dX7_again_17 rfl ?_
  exact wp_if_lt (tgt := 26) dX7_again_18 rfl k1 k2
theorem b_X7_again_21 {d : Nat} {Q : Option pV → pG → Prop} {g : pG} {v1 v2 : Int} (k1 : (v2 ≤ 1) → EV d mX7_again Q 33 [vR 0, vI v1, vI v2, vX 2, vX 2] [] g) (k2 : ¬ (v2 ≤ 1) → EV d mX7_again Q 26 [vR 0, vI v1, vI v2, vX 2, vX 2] [] g) : EV d mX7_again Q 21 [vR 0, vI v1, vI v2, vX 2, vX 2] [] g := by
  refine wp_iload_n dX7_again_21 rfl ?_
  refine wp_iconst dX7_again_22 kc_1 ?_
  exact wp_icmp_le (tgt := 33) dX7_again_23 rfl k1 k2
theorem b_X7_again_26 {d : Nat} {Q : Option pV → pG → Prop} {g : pG} {v1 v2 : Int} {R : Int → pG → Prop} (hc : CT d mX7_refuse [vR 0, vI (-2)] g (qI R)) (k : ∀ (x : Int) (gg : pG), R x gg → EV d mX7_again Q 32 [vR 0, vI v1, vI v2, vX 2, vX 2] [vI x] gg) : EV d mX7_again Q 26 [vR 0, vI v1, vI v2, vX 2, vX 2] [] g := by
  refine wp_aload_n dX7_again_26 rfl rfl ?_
  refine wp_bipush dX7_again_27 kb_m2 kc_m2 ?_
  exact wp_callvI (As := [vI (-2)]) dX7_again_29 ml_7_91 (by decide) rfl L_0 (by decide) rfl (Nat.le_of_ble_eq_true rfl) rfl (Nat.le_refl _) (Nat.le_refl _) hc k
theorem b_X7_again_32 {d : Nat} {Q : Option pV → pG → Prop} {g : pG} {v1 v2 vs0 : Int} (hq : Q (some (vI vs0)) g) : EV d mX7_again Q 32 [vR 0, vI v1, vI v2, vX 2, vX 2] [vI vs0] g := by
  exact wp_iret dX7_again_32 rfl hq
theorem b_X7_again_33 {d : Nat} {Q : Option pV → pG → Prop} {g : pG} {v1 v2 : Int} {R : pG → Prop} (hc : CT d mX7_goDownTo [vR 0, vI 0] g (qV R)) (k : ∀ gg : pG, R gg → EV d mX7_again Q 38 [vR 0, vI v1, vI v2, vX 2, vX 2] [] gg) : EV d mX7_again Q 33 [vR 0, vI v1, vI v2, vX 2, vX 2] [] g := by
  refine wp_aload_n dX7_again_33 rfl rfl ?_
  refine wp_iconst dX7_again_34 kc_0 ?_
  exact wp_callvV (As := [vI 0]) dX7_again_35 ml_7_171 (by decide) rfl L_0 (by decide) rfl (Nat.le_of_ble_eq_true rfl) rfl (Nat.le_refl _) (Nat.le_refl _) hc k
theorem b_X7_again_38 {d : Nat} {Q : Option pV → pG → Prop} {g : pG} {v1 v2 : Int} {R : Int → pG → Prop} (hc : CT d mX3_told [vR 27] (cset g 39 (fup (g 39) 2 0)) (qL R)) (k : ∀ (x : Int) (gg : pG), R x gg → EV d mX7_again Q 57 [vR 0, vI v1, vI v2, vX 2, vX 2] [vL x, vR 39] gg) : EV d mX7_again Q 38 [vR 0, vI v1, vI v2, vX 2, vX 2] [] g := by
  refine wp_aload_n dX7_again_38 rfl rfl ?_
  refine wp_get (v := vR 39) dX7_again_39 fl_7_74 L_0 rfl ?_
  refine wp_iconst dX7_again_42 kc_0 ?_
  refine wp_putI dX7_again_43 fl_7_320 L_39 rfl rfl ?_
  refine wp_aload_n dX7_again_46 rfl rfl ?_
  refine wp_get (v := vR 39) dX7_again_47 fl_7_74 L_0 rfl ?_
  refine wp_aload_n dX7_again_50 rfl rfl ?_
  refine wp_get (v := vR 27) dX7_again_51 fl_7_54 L_0 rfl ?_
  exact wp_callvL (As := []) dX7_again_54 ml_7_321 (by decide) rfl L_27 (by decide) rfl (Nat.le_of_ble_eq_true rfl) rfl (Nat.le_refl _) (Nat.le_refl _) hc k
theorem b_X7_again_57 {d : Nat} {Q : Option pV → pG → Prop} {g : pG} {v1 v2 ls1 : Int} {R : pG → Prop} (hc : CT d mX4_note [vR 39, vL ls1, vI 0] g (qV R)) (k : ∀ gg : pG, R gg → EV d mX7_again Q 61 [vR 0, vI v1, vI v2, vX 2, vX 2] [] gg) : EV d mX7_again Q 57 [vR 0, vI v1, vI v2, vX 2, vX 2] [vL ls1, vR 39] g := by
  refine wp_iconst dX7_again_57 kc_0 ?_
  exact wp_callvV (As := [vL ls1, vI 0]) dX7_again_58 ml_7_324 (by decide) rfl L_39 (by decide) rfl (Nat.le_of_ble_eq_true rfl) rfl (Nat.le_refl _) (Nat.le_refl _) hc k
theorem b_X7_again_61 {d : Nat} {Q : Option pV → pG → Prop} {g : pG} {v1 v2 : Int} (k : EV d mX7_again Q 63 [vR 0, vI v1, vI v2, vI 1, vX 2] [] g) : EV d mX7_again Q 61 [vR 0, vI v1, vI v2, vX 2, vX 2] [] g := by
  refine wp_iconst dX7_again_61 kc_1 ?_
  refine wp_istore_n dX7_again_62 (Nat.le_of_ble_eq_true rfl) (pp (c := 2) rfl rfl) ?_
  exact k
theorem b_X7_again_63 {d : Nat} {Q : Option pV → pG → Prop} {g : pG} {v1 v2 v3 : Int} {u4 : pV} (k1 : (60 < v3) → EV d mX7_again Q 136 [vR 0, vI v1, vI v2, vI v3, u4] [] g) (k2 : ¬ (60 < v3) → EV d mX7_again Q 69 [vR 0, vI v1, vI v2, vI v3, u4] [] g) : EV d mX7_again Q 63 [vR 0, vI v1, vI v2, vI v3, u4] [] g := by
  refine wp_iload_n dX7_again_63 rfl ?_
  refine wp_bipush dX7_again_64 kb_60 kc_60 ?_
  exact wp_icmp_gt (tgt := 136) dX7_again_66 rfl k1 k2
theorem b_X7_again_69 {d : Nat} {Q : Option pV → pG → Prop} {g : pG} {v1 v2 v3 : Int} {u4 : pV} {R : pG → Prop} (hc : CT d mX5_hear [vR 1, vI v1, vR 27] g (qV R)) (k : ∀ gg : pG, R gg → EV d mX7_again Q 81 [vR 0, vI v1, vI v2, vI v3, u4] [] gg) : EV d mX7_again Q 69 [vR 0, vI v1, vI v2, vI v3, u4] [] g := by
  refine wp_aload_n dX7_again_69 rfl rfl ?_
  refine wp_get (v := vR 1) dX7_again_70 fl_7_10 L_0 rfl ?_
  refine wp_iload_n dX7_again_73 rfl ?_
  refine wp_aload_n dX7_again_74 rfl rfl ?_
  refine wp_get (v := vR 27) dX7_again_75 fl_7_54 L_0 rfl ?_
  exact wp_callvV (As := [vI v1, vR 27]) dX7_again_78 ml_7_186 (by decide) rfl L_1 (by decide) rfl (Nat.le_of_ble_eq_true rfl) rfl (Nat.le_refl _) (Nat.le_refl _) hc k
theorem b_X7_again_81 {d : Nat} {Q : Option pV → pG → Prop} {g : pG} {v1 v2 v3 : Int} {u4 : pV} {R : Int → pG → Prop} (hc : CT d mX3_told [vR 27] g (qL R)) (k : ∀ (x : Int) (gg : pG), R x gg → EV d mX7_again Q 92 [vR 0, vI v1, vI v2, vI v3, u4] [vL x, vR 39] gg) : EV d mX7_again Q 81 [vR 0, vI v1, vI v2, vI v3, u4] [] g := by
  refine wp_aload_n dX7_again_81 rfl rfl ?_
  refine wp_get (v := vR 39) dX7_again_82 fl_7_74 L_0 rfl ?_
  refine wp_aload_n dX7_again_85 rfl rfl ?_
  refine wp_get (v := vR 27) dX7_again_86 fl_7_54 L_0 rfl ?_
  exact wp_callvL (As := []) dX7_again_89 ml_7_321 (by decide) rfl L_27 (by decide) rfl (Nat.le_of_ble_eq_true rfl) rfl (Nat.le_refl _) (Nat.le_refl _) hc k
theorem b_X7_again_92 {d : Nat} {Q : Option pV → pG → Prop} {g : pG} {v1 v2 v3 ls1 : Int} {u4 : pV} {R : Int → pG → Prop} (hc : CT d mX4_find [vR 39, vL ls1] g (qI R)) (k : ∀ (x : Int) (gg : pG), R x gg → EV d mX7_again Q 95 [vR 0, vI v1, vI v2, vI v3, u4] [vI x] gg) : EV d mX7_again Q 92 [vR 0, vI v1, vI v2, vI v3, u4] [vL ls1, vR 39] g := by
  exact wp_callvI (As := [vL ls1]) dX7_again_92 ml_7_327 (by decide) rfl L_39 (by decide) rfl (Nat.le_of_ble_eq_true rfl) rfl (Nat.le_refl _) (Nat.le_refl _) hc k
theorem b_X7_again_95 {d : Nat} {Q : Option pV → pG → Prop} {g : pG} {v1 v2 v3 vs0 : Int} {u4 : pV} (k1 : (vs0 < 0) → EV d mX7_again Q 115 [vR 0, vI v1, vI v2, vI v3, vI vs0] [] g) (k2 : ¬ (vs0 < 0) → EV d mX7_again Q 102 [vR 0, vI v1, vI v2, vI v3, vI vs0] [] g) : EV d mX7_again Q 95 [vR 0, vI v1, vI v2, vI v3, u4] [vI vs0] g := by
  refine wp_istore dX7_again_95 (Nat.le_of_ble_eq_true rfl) (pp (c := 3) rfl rfl) ?_
  refine wp_iload dX7_again_97 rfl ?_
  exact wp_if_lt (tgt := 115) dX7_again_99 rfl k1 k2
theorem b_X7_again_102 {d : Nat} {Q : Option pV → pG → Prop} {g : pG} {v1 v2 v3 v4 : Int} (k1 : (v2 ≠ 0) → EV d mX7_again Q 110 [vR 0, vI v1, vI v2, vI v3, vI v4] [] g) (k2 : ¬ (v2 ≠ 0) → EV d mX7_again Q 106 [vR 0, vI v1, vI v2, vI v3, vI v4] [] g) : EV d mX7_again Q 102 [vR 0, vI v1, vI v2, vI v3, vI v4] [] g := by
  refine wp_iload_n dX7_again_102 rfl ?_
  exact wp_if_ne (tgt := 110) dX7_again_103 rfl k1 k2
theorem b_X7_again_106 {d : Nat} {Q : Option pV → pG → Prop} {g : pG} {v1 v2 v3 v4 : Int} (hq : Q (some (vI v3)) g) : EV d mX7_again Q 106 [vR 0, vI v1, vI v2, vI v3, vI v4] [] g := by
  refine wp_iload_n dX7_again_106 rfl ?_
  refine wp_goto (tgt := 114) dX7_again_107 rfl ?_
  exact wp_iret dX7_again_114 rfl hq
theorem b_X7_again_110 {d : Nat} {Q : Option pV → pG → Prop} {g : pG} {v1 v2 v3 v4 : Int} (hq : Q (some (vI (w32 (v3 - v4)))) g) : EV d mX7_again Q 110 [vR 0, vI v1, vI v2, vI v3, vI v4] [] g := by
  refine wp_iload_n dX7_again_110 rfl ?_
  refine wp_iload dX7_again_111 rfl ?_
  refine wp_isub dX7_again_113 ?_
  exact wp_iret dX7_again_114 rfl hq
theorem b_X7_again_115 {d : Nat} {Q : Option pV → pG → Prop} {g : pG} {v1 v2 v3 v4 : Int} {R : Int → pG → Prop} (hc : CT d mX3_told [vR 27] g (qL R)) (k : ∀ (x : Int) (gg : pG), R x gg → EV d mX7_again Q 126 [vR 0, vI v1, vI v2, vI v3, vI v4] [vL x, vR 39] gg) : EV d mX7_again Q 115 [vR 0, vI v1, vI v2, vI v3, vI v4] [] g := by
  refine wp_aload_n dX7_again_115 rfl rfl ?_
  refine wp_get (v := vR 39) dX7_again_116 fl_7_74 L_0 rfl ?_
  refine wp_aload_n dX7_again_119 rfl rfl ?_
  refine wp_get (v := vR 27) dX7_again_120 fl_7_54 L_0 rfl ?_
  exact wp_callvL (As := []) dX7_again_123 ml_7_321 (by decide) rfl L_27 (by decide) rfl (Nat.le_of_ble_eq_true rfl) rfl (Nat.le_refl _) (Nat.le_refl _) hc k
theorem b_X7_again_126 {d : Nat} {Q : Option pV → pG → Prop} {g : pG} {v1 v2 v3 v4 ls1 : Int} {R : pG → Prop} (hc : CT d mX4_note [vR 39, vL ls1, vI v3] g (qV R)) (k : ∀ gg : pG, R gg → EV d mX7_again Q 130 [vR 0, vI v1, vI v2, vI v3, vI v4] [] gg) : EV d mX7_again Q 126 [vR 0, vI v1, vI v2, vI v3, vI v4] [vL ls1, vR 39] g := by
  refine wp_iload_n dX7_again_126 rfl ?_
  exact wp_callvV (As := [vL ls1, vI v3]) dX7_again_127 ml_7_324 (by decide) rfl L_39 (by decide) rfl (Nat.le_of_ble_eq_true rfl) rfl (Nat.le_refl _) (Nat.le_refl _) hc k
theorem b_X7_again_130 {d : Nat} {Q : Option pV → pG → Prop} {g : pG} {v1 v2 v3 v4 : Int} (k : EV d mX7_again Q 63 [vR 0, vI v1, vI v2, vI (w32 (v3 + 1)), vI v4] [] g) : EV d mX7_again Q 130 [vR 0, vI v1, vI v2, vI v3, vI v4] [] g := by
  refine wp_iinc dX7_again_130 rfl (Nat.le_of_ble_eq_true rfl) (pp (c := 2) rfl rfl) ?_
  refine wp_goto (tgt := 63) dX7_again_133 rfl ?_
  exact k
theorem b_X7_again_136 {d : Nat} {Q : Option pV → pG → Prop} {g : pG} {v1 v2 v3 : Int} {u4 : pV} (hq : Q (some (vI (-9))) g) : EV d mX7_again Q 136 [vR 0, vI v1, vI v2, vI v3, u4] [] g := by
  refine wp_bipush dX7_again_136 kb_m9 kc_m9 ?_
  exact wp_iret dX7_again_138 rfl hq
theorem b_X7_bestLowest_0 {d : Nat} {Q : Option pV → pG → Prop} {g : pG} {v1 : Int} {R : Int → pG → Prop} (hc : CT d mX7_outside [vI v1, vI 0, vI 9] g (qI R)) (k : ∀ (x : Int) (gg : pG), R x gg → EV d mX7_bestLowest Q 7 [vR 0, vI v1, vX 2, vX 2, vX 2, vX 2] [vI x] gg) : EV d mX7_bestLowest Q 0 [vR 0, vI v1, vX 2, vX 2, vX 2, vX 2] [] g := by
  refine wp_iload_n dX7_bestLowest_0 rfl ?_
  refine wp_iconst dX7_bestLowest_1 kc_0 ?_
  refine wp_bipush dX7_bestLowest_2 kb_9 kc_9 ?_
  exact wp_callsI (As := [vI v1, vI 0, vI 9]) dX7_bestLowest_4 ml_7_127 (Or.inl rfl) rfl (Nat.le_of_ble_eq_true rfl) rfl (Nat.le_refl _) (Nat.le_refl _) hc k
theorem b_X7_bestLowest_7 {d : Nat} {Q : Option pV → pG → Prop} {g : pG} {v1 vs0 : Int} (k1 : (vs0 = 0) → EV d mX7_bestLowest Q 18 [vR 0, vI v1, vI vs0, vX 2, vX 2, vX 2] [] g) (k2 : ¬ (vs0 = 0) → EV d mX7_bestLowest Q 12 [vR 0, vI v1, vI vs0, vX 2, vX 2, vX 2] [] g) : EV d mX7_bestLowest Q 7 [vR 0, vI v1, vX 2, vX 2, vX 2, vX 2] [vI vs0] g := by
  refine wp_istore_n dX7_bestLowest_7 (Nat.le_of_ble_eq_true rfl) (pp (c := 1) rfl rfl) ?_
  refine wp_iload_n dX7_bestLowest_8 rfl ?_
  exact wp_if_eq (tgt := 18) dX7_bestLowest_9 rfl k1 k2
theorem b_X7_bestLowest_12 {d : Nat} {Q : Option pV → pG → Prop} {g : pG} {v1 v2 : Int} {R : Int → pG → Prop} (hc : CT d mX7_refuse [vR 0, vI v2] g (qI R)) (k : ∀ (x : Int) (gg : pG), R x gg → EV d mX7_bestLowest Q 17 [vR 0, vI v1, vI v2, vX 2, vX 2, vX 2] [vI x] gg) : EV d mX7_bestLowest Q 12 [vR 0, vI v1, vI v2, vX 2, vX 2, vX 2] [] g := by
  refine wp_aload_n dX7_bestLowest_12 rfl rfl ?_
  refine wp_iload_n dX7_bestLowest_13 rfl ?_
  exact wp_callvI (As := [vI v2]) dX7_bestLowest_14 ml_7_91 (by decide) rfl L_0 (by decide) rfl (Nat.le_of_ble_eq_true rfl) rfl (Nat.le_refl _) (Nat.le_refl _) hc k
theorem b_X7_bestLowest_17 {d : Nat} {Q : Option pV → pG → Prop} {g : pG} {v1 v2 vs0 : Int} (hq : Q (some (vI vs0)) g) : EV d mX7_bestLowest Q 17 [vR 0, vI v1, vI v2, vX 2, vX 2, vX 2] [vI vs0] g := by
  exact wp_iret dX7_bestLowest_17 rfl hq
theorem b_X7_bestLowest_18 {d : Nat} {Q : Option pV → pG → Prop} {g : pG} {v1 v2 : Int} (k : EV d mX7_bestLowest Q 27 [vR 0, vI v1, vI v2, vI 0, vI (-1000000000), vI 0] [] g) : EV d mX7_bestLowest Q 18 [vR 0, vI v1, vI v2, vX 2, vX 2, vX 2] [] g := by
  refine wp_iconst dX7_bestLowest_18 kc_0 ?_
  refine wp_istore_n dX7_bestLowest_19 (Nat.le_of_ble_eq_true rfl) (pp (c := 2) rfl rfl) ?_
  refine wp_ldc dX7_bestLowest_20 kl_7_240 ?_
  refine wp_istore dX7_bestLowest_22 (Nat.le_of_ble_eq_true rfl) (pp (c := 3) rfl rfl) ?_
  refine wp_iconst dX7_bestLowest_24 kc_0 ?_
  refine wp_istore dX7_bestLowest_25 (Nat.le_of_ble_eq_true rfl) (pp (c := 4) rfl rfl) ?_
  exact k
theorem b_X7_bestLowest_27 {d : Nat} {Q : Option pV → pG → Prop} {g : pG} {v1 v2 v3 v4 v5 : Int} (k1 : (6 ≤ v5) → EV d mX7_bestLowest Q 89 [vR 0, vI v1, vI v2, vI v3, vI v4, vI v5] [] g) (k2 : ¬ (6 ≤ v5) → EV d mX7_bestLowest Q 34 [vR 0, vI v1, vI v2, vI v3, vI v4, vI v5] [] g) : EV d mX7_bestLowest Q 27 [vR 0, vI v1, vI v2, vI v3, vI v4, vI v5] [] g := by
  refine wp_iload dX7_bestLowest_27 rfl ?_
  refine wp_bipush dX7_bestLowest_29 kb_6 kc_6 ?_
  exact wp_icmp_ge (tgt := 89) dX7_bestLowest_31 rfl k1 k2
theorem b_X7_bestLowest_34 {d : Nat} {Q : Option pV → pG → Prop} {g : pG} {v1 v2 v3 v4 v5 : Int} {R : pG → Prop} (hc : CT d mX7_goDownTo [vR 0, vI ((g 1) 3)] g (qV R)) (k : ∀ gg : pG, R gg → EV d mX7_bestLowest Q 45 [vR 0, vI v1, vI v2, vI v3, vI v4, vI v5] [] gg) : EV d mX7_bestLowest Q 34 [vR 0, vI v1, vI v2, vI v3, vI v4, vI v5] [] g := by
  refine wp_aload_n dX7_bestLowest_34 rfl rfl ?_
  refine wp_aload_n dX7_bestLowest_35 rfl rfl ?_
  refine wp_get (v := vR 1) dX7_bestLowest_36 fl_7_10 L_0 rfl ?_
  refine wp_get (v := vI ((g 1) 3)) dX7_bestLowest_39 fl_7_152 L_1 rfl ?_
  exact wp_callvV (As := [vI ((g 1) 3)]) dX7_bestLowest_42 ml_7_171 (by decide) rfl L_0 (by decide) rfl (Nat.le_of_ble_eq_true rfl) rfl (Nat.le_refl _) (Nat.le_refl _) hc k
theorem b_X7_bestLowest_45 {d : Nat} {Q : Option pV → pG → Prop} {g : pG} {v1 v2 v3 v4 v5 : Int} {R : pG → Prop} (hc : CT d mX5_hearAs [vR 1, vI v5, vI v1, vR 27] g (qV R)) (k : ∀ gg : pG, R gg → EV d mX7_bestLowest Q 59 [vR 0, vI v1, vI v2, vI v3, vI v4, vI v5] [] gg) : EV d mX7_bestLowest Q 45 [vR 0, vI v1, vI v2, vI v3, vI v4, vI v5] [] g := by
  refine wp_aload_n dX7_bestLowest_45 rfl rfl ?_
  refine wp_get (v := vR 1) dX7_bestLowest_46 fl_7_10 L_0 rfl ?_
  refine wp_iload dX7_bestLowest_49 rfl ?_
  refine wp_iload_n dX7_bestLowest_51 rfl ?_
  refine wp_aload_n dX7_bestLowest_52 rfl rfl ?_
  refine wp_get (v := vR 27) dX7_bestLowest_53 fl_7_54 L_0 rfl ?_
  exact wp_callvV (As := [vI v5, vI v1, vR 27]) dX7_bestLowest_56 ml_7_331 (by decide) rfl L_1 (by decide) rfl (Nat.le_of_ble_eq_true rfl) rfl (Nat.le_refl _) (Nat.le_refl _) hc k
theorem b_X7_bestLowest_59 {d : Nat} {Q : Option pV → pG → Prop} {g : pG} {v1 v2 v3 v4 v5 : Int} {R : Int → pG → Prop} (hc : CT d mX3_sum [vR 27] g (qI R)) (k : ∀ (x : Int) (gg : pG), R x gg → EV d mX7_bestLowest Q 66 [vR 0, vI v1, vI v2, vI v3, vI v4, vI v5] [vI x] gg) : EV d mX7_bestLowest Q 59 [vR 0, vI v1, vI v2, vI v3, vI v4, vI v5] [] g := by
  refine wp_aload_n dX7_bestLowest_59 rfl rfl ?_
  refine wp_get (v := vR 27) dX7_bestLowest_60 fl_7_54 L_0 rfl ?_
  exact wp_callvI (As := []) dX7_bestLowest_63 ml_7_183 (by decide) rfl L_27 (by decide) rfl (Nat.le_of_ble_eq_true rfl) rfl (Nat.le_refl _) (Nat.le_refl _) hc k
theorem b_X7_bestLowest_66 {d : Nat} {Q : Option pV → pG → Prop} {g : pG} {v1 v2 v3 v4 v5 vs0 : Int} (k1 : (vs0 ≤ v4) → EV d mX7_bestLowest Q 83 [vR 0, vI v1, vI v2, vI v3, vI v4, vI v5] [] g) (k2 : ¬ (vs0 ≤ v4) → EV d mX7_bestLowest Q 71 [vR 0, vI v1, vI v2, vI v3, vI v4, vI v5] [] g) : EV d mX7_bestLowest Q 66 [vR 0, vI v1, vI v2, vI v3, vI v4, vI v5] [vI vs0] g := by
  refine wp_iload dX7_bestLowest_66 rfl ?_
  exact wp_icmp_le (tgt := 83) dX7_bestLowest_68 rfl k1 k2
theorem b_X7_bestLowest_71 {d : Nat} {Q : Option pV → pG → Prop} {g : pG} {v1 v2 v3 v4 v5 : Int} {R : Int → pG → Prop} (hc : CT d mX3_sum [vR 27] g (qI R)) (k : ∀ (x : Int) (gg : pG), R x gg → EV d mX7_bestLowest Q 78 [vR 0, vI v1, vI v2, vI v3, vI v4, vI v5] [vI x] gg) : EV d mX7_bestLowest Q 71 [vR 0, vI v1, vI v2, vI v3, vI v4, vI v5] [] g := by
  refine wp_aload_n dX7_bestLowest_71 rfl rfl ?_
  refine wp_get (v := vR 27) dX7_bestLowest_72 fl_7_54 L_0 rfl ?_
  exact wp_callvI (As := []) dX7_bestLowest_75 ml_7_183 (by decide) rfl L_27 (by decide) rfl (Nat.le_of_ble_eq_true rfl) rfl (Nat.le_refl _) (Nat.le_refl _) hc k
theorem b_X7_bestLowest_78 {d : Nat} {Q : Option pV → pG → Prop} {g : pG} {v1 v2 v3 v4 v5 vs0 : Int} (k : EV d mX7_bestLowest Q 27 [vR 0, vI v1, vI v2, vI v5, vI vs0, vI (w32 (v5 + 1))] [] g) : EV d mX7_bestLowest Q 78 [vR 0, vI v1, vI v2, vI v3, vI v4, vI v5] [vI vs0] g := by
  refine wp_istore dX7_bestLowest_78 (Nat.le_of_ble_eq_true rfl) (pp (c := 3) rfl rfl) ?_
  refine wp_iload dX7_bestLowest_80 rfl ?_
  refine wp_istore_n dX7_bestLowest_82 (Nat.le_of_ble_eq_true rfl) (pp (c := 2) rfl rfl) ?_
  refine wp_iinc dX7_bestLowest_83 rfl (Nat.le_of_ble_eq_true rfl) (pp (c := 4) rfl rfl) ?_
  refine wp_goto (tgt := 27) dX7_bestLowest_86 rfl ?_
  exact k
theorem b_X7_bestLowest_83 {d : Nat} {Q : Option pV → pG → Prop} {g : pG} {v1 v2 v3 v4 v5 : Int} (k : EV d mX7_bestLowest Q 27 [vR 0, vI v1, vI v2, vI v3, vI v4, vI (w32 (v5 + 1))] [] g) : EV d mX7_bestLowest Q 83 [vR 0, vI v1, vI v2, vI v3, vI v4, vI v5] [] g := by
  refine wp_iinc dX7_bestLowest_83 rfl (Nat.le_of_ble_eq_true rfl) (pp (c := 4) rfl rfl) ?_
  refine wp_goto (tgt := 27) dX7_bestLowest_86 rfl ?_
  exact k
theorem b_X7_bestLowest_89 {d : Nat} {Q : Option pV → pG → Prop} {g : pG} {v1 v2 v3 v4 v5 : Int} (hq : Q (some (vI v3)) g) : EV d mX7_bestLowest Q 89 [vR 0, vI v1, vI v2, vI v3, vI v4, vI v5] [] g := by
  refine wp_iload_n dX7_bestLowest_89 rfl ?_
  exact wp_iret dX7_bestLowest_90 rfl hq
theorem b_X7_peak_0 {d : Nat} {Q : Option pV → pG → Prop} {g : pG} {v1 : Int} (k1 : (v1 < 0) → EV d mX7_peak Q 9 [vR 0, vI v1, vX 2, vX 2, vX 2] [] g) (k2 : ¬ (v1 < 0) → EV d mX7_peak Q 4 [vR 0, vI v1, vX 2, vX 2, vX 2] [] g) : EV d mX7_peak Q 0 [vR 0, vI v1, vX 2, vX 2, vX 2] [] g := by
  refine wp_iload_n dX7_peak_0 rfl ?_
  exact wp_if_lt (tgt := 9) dX7_peak_1 rfl k1 k2
theorem b_X7_peak_4 {d : Nat} {Q : Option pV → pG → Prop} {g : pG} {v1 : Int} (k1 : (v1 ≤ 1) → EV d mX7_peak Q 16 [vR 0, vI v1, vX 2, vX 2, vX 2] [] g) (k2 : ¬ (v1 ≤ 1) → EV d mX7_peak Q 9 [vR 0, vI v1, vX 2, vX 2, vX 2] [] g) : EV d mX7_peak Q 4 [vR 0, vI v1, vX 2, vX 2, vX 2] [] g := by
  refine wp_iload_n dX7_peak_4 rfl ?_
  refine wp_iconst dX7_peak_5 kc_1 ?_
  exact wp_icmp_le (tgt := 16) dX7_peak_6 rfl k1 k2
theorem b_X7_peak_9 {d : Nat} {Q : Option pV → pG → Prop} {g : pG} {v1 : Int} {R : Int → pG → Prop} (hc : CT d mX7_refuse [vR 0, vI (-2)] g (qI R)) (k : ∀ (x : Int) (gg : pG), R x gg → EV d mX7_peak Q 15 [vR 0, vI v1, vX 2, vX 2, vX 2] [vI x] gg) : EV d mX7_peak Q 9 [vR 0, vI v1, vX 2, vX 2, vX 2] [] g := by
  refine wp_aload_n dX7_peak_9 rfl rfl ?_
  refine wp_bipush dX7_peak_10 kb_m2 kc_m2 ?_
  exact wp_callvI (As := [vI (-2)]) dX7_peak_12 ml_7_91 (by decide) rfl L_0 (by decide) rfl (Nat.le_of_ble_eq_true rfl) rfl (Nat.le_refl _) (Nat.le_refl _) hc k
theorem b_X7_peak_15 {d : Nat} {Q : Option pV → pG → Prop} {g : pG} {v1 vs0 : Int} (hq : Q (some (vI vs0)) g) : EV d mX7_peak Q 15 [vR 0, vI v1, vX 2, vX 2, vX 2] [vI vs0] g := by
  exact wp_iret dX7_peak_15 rfl hq
theorem b_X7_peak_16 {d : Nat} {Q : Option pV → pG → Prop} {g : pG} {v1 : Int} {R : pG → Prop} (hc : CT d mX7_goDownTo [vR 0, vI 0] g (qV R)) (k : ∀ gg : pG, R gg → EV d mX7_peak Q 21 [vR 0, vI v1, vX 2, vX 2, vX 2] [] gg) : EV d mX7_peak Q 16 [vR 0, vI v1, vX 2, vX 2, vX 2] [] g := by
  refine wp_aload_n dX7_peak_16 rfl rfl ?_
  refine wp_iconst dX7_peak_17 kc_0 ?_
  exact wp_callvV (As := [vI 0]) dX7_peak_18 ml_7_171 (by decide) rfl L_0 (by decide) rfl (Nat.le_of_ble_eq_true rfl) rfl (Nat.le_refl _) (Nat.le_refl _) hc k
theorem b_X7_peak_21 {d : Nat} {Q : Option pV → pG → Prop} {g : pG} {v1 : Int} {R : Int → pG → Prop} (hc : CT d mX3_sum [vR 27] g (qI R)) (k : ∀ (x : Int) (gg : pG), R x gg → EV d mX7_peak Q 30 [vR 0, vI v1, vI 0, vX 2, vX 2] [vI x] gg) : EV d mX7_peak Q 21 [vR 0, vI v1, vX 2, vX 2, vX 2] [] g := by
  refine wp_iconst dX7_peak_21 kc_0 ?_
  refine wp_istore_n dX7_peak_22 (Nat.le_of_ble_eq_true rfl) (pp (c := 1) rfl rfl) ?_
  refine wp_aload_n dX7_peak_23 rfl rfl ?_
  refine wp_get (v := vR 27) dX7_peak_24 fl_7_54 L_0 rfl ?_
  exact wp_callvI (As := []) dX7_peak_27 ml_7_183 (by decide) rfl L_27 (by decide) rfl (Nat.le_of_ble_eq_true rfl) rfl (Nat.le_refl _) (Nat.le_refl _) hc k
theorem b_X7_peak_30 {d : Nat} {Q : Option pV → pG → Prop} {g : pG} {v1 v2 vs0 : Int} (k : EV d mX7_peak Q 34 [vR 0, vI v1, vI v2, vI vs0, vI 0] [] g) : EV d mX7_peak Q 30 [vR 0, vI v1, vI v2, vX 2, vX 2] [vI vs0] g := by
  refine wp_istore_n dX7_peak_30 (Nat.le_of_ble_eq_true rfl) (pp (c := 2) rfl rfl) ?_
  refine wp_iconst dX7_peak_31 kc_0 ?_
  refine wp_istore dX7_peak_32 (Nat.le_of_ble_eq_true rfl) (pp (c := 3) rfl rfl) ?_
  exact k
theorem b_X7_peak_34 {d : Nat} {Q : Option pV → pG → Prop} {g : pG} {v1 v2 v3 v4 : Int} (k1 : ((g 1) 3 ≤ v4) → EV d mX7_peak Q 89 [vR 0, vI v1, vI v2, vI v3, vI v4] [] g) (k2 : ¬ ((g 1) 3 ≤ v4) → EV d mX7_peak Q 46 [vR 0, vI v1, vI v2, vI v3, vI v4] [] g) : EV d mX7_peak Q 34 [vR 0, vI v1, vI v2, vI v3, vI v4] [] g := by
  refine wp_iload dX7_peak_34 rfl ?_
  refine wp_aload_n dX7_peak_36 rfl rfl ?_
  refine wp_get (v := vR 1) dX7_peak_37 fl_7_10 L_0 rfl ?_
  refine wp_get (v := vI ((g 1) 3)) dX7_peak_40 fl_7_152 L_1 rfl ?_
  exact wp_icmp_ge (tgt := 89) dX7_peak_43 rfl k1 k2
theorem b_X7_peak_46 {d : Nat} {Q : Option pV → pG → Prop} {g : pG} {v1 v2 v3 v4 : Int} {R : pG → Prop} (hc : CT d mX5_hear [vR 1, vI v4, vR 27] g (qV R)) (k : ∀ gg : pG, R gg → EV d mX7_peak Q 59 [vR 0, vI v1, vI v2, vI v3, vI v4] [] gg) : EV d mX7_peak Q 46 [vR 0, vI v1, vI v2, vI v3, vI v4] [] g := by
  refine wp_aload_n dX7_peak_46 rfl rfl ?_
  refine wp_get (v := vR 1) dX7_peak_47 fl_7_10 L_0 rfl ?_
  refine wp_iload dX7_peak_50 rfl ?_
  refine wp_aload_n dX7_peak_52 rfl rfl ?_
  refine wp_get (v := vR 27) dX7_peak_53 fl_7_54 L_0 rfl ?_
  exact wp_callvV (As := [vI v4, vR 27]) dX7_peak_56 ml_7_186 (by decide) rfl L_1 (by decide) rfl (Nat.le_of_ble_eq_true rfl) rfl (Nat.le_refl _) (Nat.le_refl _) hc k
theorem b_X7_peak_59 {d : Nat} {Q : Option pV → pG → Prop} {g : pG} {v1 v2 v3 v4 : Int} {R : Int → pG → Prop} (hc : CT d mX3_sum [vR 27] g (qI R)) (k : ∀ (x : Int) (gg : pG), R x gg → EV d mX7_peak Q 66 [vR 0, vI v1, vI v2, vI v3, vI v4] [vI x] gg) : EV d mX7_peak Q 59 [vR 0, vI v1, vI v2, vI v3, vI v4] [] g := by
  refine wp_aload_n dX7_peak_59 rfl rfl ?_
  refine wp_get (v := vR 27) dX7_peak_60 fl_7_54 L_0 rfl ?_
  exact wp_callvI (As := []) dX7_peak_63 ml_7_183 (by decide) rfl L_27 (by decide) rfl (Nat.le_of_ble_eq_true rfl) rfl (Nat.le_refl _) (Nat.le_refl _) hc k
theorem b_X7_peak_66 {d : Nat} {Q : Option pV → pG → Prop} {g : pG} {v1 v2 v3 v4 vs0 : Int} (k1 : (vs0 ≤ v3) → EV d mX7_peak Q 83 [vR 0, vI v1, vI v2, vI v3, vI v4] [] g) (k2 : ¬ (vs0 ≤ v3) → EV d mX7_peak Q 70 [vR 0, vI v1, vI v2, vI v3, vI v4] [] g) : EV d mX7_peak Q 66 [vR 0, vI v1, vI v2, vI v3, vI v4] [vI vs0] g := by
  refine wp_iload_n dX7_peak_66 rfl ?_
  exact wp_icmp_le (tgt := 83) dX7_peak_67 rfl k1 k2
theorem b_X7_peak_70 {d : Nat} {Q : Option pV → pG → Prop} {g : pG} {v1 v2 v3 v4 : Int} {R : Int → pG → Prop} (hc : CT d mX3_sum [vR 27] g (qI R)) (k : ∀ (x : Int) (gg : pG), R x gg → EV d mX7_peak Q 77 [vR 0, vI v1, vI v2, vI v3, vI v4] [vI x] gg) : EV d mX7_peak Q 70 [vR 0, vI v1, vI v2, vI v3, vI v4] [] g := by
  refine wp_aload_n dX7_peak_70 rfl rfl ?_
  refine wp_get (v := vR 27) dX7_peak_71 fl_7_54 L_0 rfl ?_
  exact wp_callvI (As := []) dX7_peak_74 ml_7_183 (by decide) rfl L_27 (by decide) rfl (Nat.le_of_ble_eq_true rfl) rfl (Nat.le_refl _) (Nat.le_refl _) hc k
theorem b_X7_peak_77 {d : Nat} {Q : Option pV → pG → Prop} {g : pG} {v1 v2 v3 v4 vs0 : Int} (k : EV d mX7_peak Q 34 [vR 0, vI v1, vI (w32 (v4 + 1)), vI vs0, vI (w32 (v4 + 1))] [] g) : EV d mX7_peak Q 77 [vR 0, vI v1, vI v2, vI v3, vI v4] [vI vs0] g := by
  refine wp_istore_n dX7_peak_77 (Nat.le_of_ble_eq_true rfl) (pp (c := 2) rfl rfl) ?_
  refine wp_iload dX7_peak_78 rfl ?_
  refine wp_iconst dX7_peak_80 kc_1 ?_
  refine wp_iadd dX7_peak_81 ?_
  refine wp_istore_n dX7_peak_82 (Nat.le_of_ble_eq_true rfl) (pp (c := 1) rfl rfl) ?_
  refine wp_iinc dX7_peak_83 rfl (Nat.le_of_ble_eq_true rfl) (pp (c := 3) rfl rfl) ?_
  refine wp_goto (tgt := 34) dX7_peak_86 rfl ?_
  exact k
theorem b_X7_peak_83 {d : Nat} {Q : Option pV → pG → Prop} {g : pG} {v1 v2 v3 v4 : Int} (k : EV d mX7_peak Q 34 [vR 0, vI v1, vI v2, vI v3, vI (w32 (v4 + 1))] [] g) : EV d mX7_peak Q 83 [vR 0, vI v1, vI v2, vI v3, vI v4] [] g := by
  refine wp_iinc dX7_peak_83 rfl (Nat.le_of_ble_eq_true rfl) (pp (c := 3) rfl rfl) ?_
  refine wp_goto (tgt := 34) dX7_peak_86 rfl ?_
  exact k
theorem b_X7_peak_89 {d : Nat} {Q : Option pV → pG → Prop} {g : pG} {v1 v2 v3 v4 : Int} (k1 : (v1 ≠ 0) → EV d mX7_peak Q 97 [vR 0, vI v1, vI v2, vI v3, vI v4] [] g) (k2 : ¬ (v1 ≠ 0) → EV d mX7_peak Q 93 [vR 0, vI v1, vI v2, vI v3, vI v4] [] g) : EV d mX7_peak Q 89 [vR 0, vI v1, vI v2, vI v3, vI v4] [] g := by
  refine wp_iload_n dX7_peak_89 rfl ?_
  exact wp_if_ne (tgt := 97) dX7_peak_90 rfl k1 k2
theorem b_X7_peak_93 {d : Nat} {Q : Option pV → pG → Prop} {g : pG} {v1 v2 v3 v4 : Int} (hq : Q (some (vI v2)) g) : EV d mX7_peak Q 93 [vR 0, vI v1, vI v2, vI v3, vI v4] [] g := by
  refine wp_iload_n dX7_peak_93 rfl ?_
  refine wp_goto (tgt := 101) dX7_peak_94 rfl ?_
  exact wp_iret dX7_peak_101 rfl hq
theorem b_X7_peak_97 {d : Nat} {Q : Option pV → pG → Prop} {g : pG} {v1 v2 v3 v4 : Int} (hq : Q (some (vI (w32 (v3 + 100)))) g) : EV d mX7_peak Q 97 [vR 0, vI v1, vI v2, vI v3, vI v4] [] g := by
  refine wp_iload_n dX7_peak_97 rfl ?_
  refine wp_bipush dX7_peak_98 kb_100 kc_100 ?_
  refine wp_iadd dX7_peak_100 ?_
  exact wp_iret dX7_peak_101 rfl hq
theorem b_X7_fullStake_0 {d : Nat} {Q : Option pV → pG → Prop} {g : pG} (k1 : ((g 1) 3 ≠ 0) → EV d mX7_fullStake Q 17 [vR 0, vX 2, vX 2] [] g) (k2 : ¬ ((g 1) 3 ≠ 0) → EV d mX7_fullStake Q 10 [vR 0, vX 2, vX 2] [] g) : EV d mX7_fullStake Q 0 [vR 0, vX 2, vX 2] [] g := by
  refine wp_aload_n dX7_fullStake_0 rfl rfl ?_
  refine wp_get (v := vR 1) dX7_fullStake_1 fl_7_10 L_0 rfl ?_
  refine wp_get (v := vI ((g 1) 3)) dX7_fullStake_4 fl_7_152 L_1 rfl ?_
  exact wp_if_ne (tgt := 17) dX7_fullStake_7 rfl k1 k2
theorem b_X7_fullStake_10 {d : Nat} {Q : Option pV → pG → Prop} {g : pG} {R : Int → pG → Prop} (hc : CT d mX7_refuse [vR 0, vI (-3)] g (qI R)) (k : ∀ (x : Int) (gg : pG), R x gg → EV d mX7_fullStake Q 16 [vR 0, vX 2, vX 2] [vI x] gg) : EV d mX7_fullStake Q 10 [vR 0, vX 2, vX 2] [] g := by
  refine wp_aload_n dX7_fullStake_10 rfl rfl ?_
  refine wp_bipush dX7_fullStake_11 kb_m3 kc_m3 ?_
  exact wp_callvI (As := [vI (-3)]) dX7_fullStake_13 ml_7_91 (by decide) rfl L_0 (by decide) rfl (Nat.le_of_ble_eq_true rfl) rfl (Nat.le_refl _) (Nat.le_refl _) hc k
theorem b_X7_fullStake_16 {d : Nat} {Q : Option pV → pG → Prop} {g : pG} {vs0 : Int} (hq : Q (some (vI vs0)) g) : EV d mX7_fullStake Q 16 [vR 0, vX 2, vX 2] [vI vs0] g := by
  exact wp_iret dX7_fullStake_16 rfl hq
theorem b_X7_fullStake_17 {d : Nat} {Q : Option pV → pG → Prop} {g : pG} {R : pG → Prop} (hc : CT d mX6_weigh [vR 33, vR 1, vR 27] g (qV R)) (k : ∀ gg : pG, R gg → EV d mX7_fullStake Q 32 [vR 0, vX 2, vX 2] [] gg) : EV d mX7_fullStake Q 17 [vR 0, vX 2, vX 2] [] g := by
  refine wp_aload_n dX7_fullStake_17 rfl rfl ?_
  refine wp_get (v := vR 33) dX7_fullStake_18 fl_7_67 L_0 rfl ?_
  refine wp_aload_n dX7_fullStake_21 rfl rfl ?_
  refine wp_get (v := vR 1) dX7_fullStake_22 fl_7_10 L_0 rfl ?_
  refine wp_aload_n dX7_fullStake_25 rfl rfl ?_
  refine wp_get (v := vR 27) dX7_fullStake_26 fl_7_54 L_0 rfl ?_
  exact wp_callvV (As := [vR 1, vR 27]) dX7_fullStake_29 ml_7_211 (by decide) rfl L_33 (by decide) rfl (Nat.le_of_ble_eq_true rfl) rfl (Nat.le_refl _) (Nat.le_refl _) hc k
theorem b_X7_fullStake_32 {d : Nat} {Q : Option pV → pG → Prop} {g : pG} (k : EV d mX7_fullStake Q 44 [vR 0, vI (w32 (((g 1) 3) - 1)), vI 0] [] g) : EV d mX7_fullStake Q 32 [vR 0, vX 2, vX 2] [] g := by
  refine wp_aload_n dX7_fullStake_32 rfl rfl ?_
  refine wp_get (v := vR 1) dX7_fullStake_33 fl_7_10 L_0 rfl ?_
  refine wp_get (v := vI ((g 1) 3)) dX7_fullStake_36 fl_7_152 L_1 rfl ?_
  refine wp_iconst dX7_fullStake_39 kc_1 ?_
  refine wp_isub dX7_fullStake_40 ?_
  refine wp_istore_n dX7_fullStake_41 (Nat.le_of_ble_eq_true rfl) (pp (c := 0) rfl rfl) ?_
  refine wp_iconst dX7_fullStake_42 kc_0 ?_
  refine wp_istore_n dX7_fullStake_43 (Nat.le_of_ble_eq_true rfl) (pp (c := 1) rfl rfl) ?_
  exact k
theorem b_X7_fullStake_44 {d : Nat} {Q : Option pV → pG → Prop} {g : pG} {v1 v2 : Int} (k1 : (v1 ≤ v2) → EV d mX7_fullStake Q 79 [vR 0, vI v1, vI v2] [] g) (k2 : ¬ (v1 ≤ v2) → EV d mX7_fullStake Q 49 [vR 0, vI v1, vI v2] [] g) : EV d mX7_fullStake Q 44 [vR 0, vI v1, vI v2] [] g := by
  refine wp_iload_n dX7_fullStake_44 rfl ?_
  refine wp_iload_n dX7_fullStake_45 rfl ?_
  exact wp_icmp_ge (tgt := 79) dX7_fullStake_46 rfl k1 k2
theorem b_X7_fullStake_49 {d : Nat} {Q : Option pV → pG → Prop} {g : pG} {v1 v2 : Int} (h1 : 0 ≤ v2) (h2 : v2 < 7) (h3 : 0 ≤ v1) (h4 : v1 < 7) (k1 : ((g 34) v2.toNat ≠ (g 34) v1.toNat) → EV d mX7_fullStake Q 73 [vR 0, vI v1, vI v2] [] g) (k2 : ¬ ((g 34) v2.toNat ≠ (g 34) v1.toNat) → EV d mX7_fullStake Q 70 [vR 0, vI v1, vI v2] [] g) : EV d mX7_fullStake Q 49 [vR 0, vI v1, vI v2] [] g := by
  refine wp_aload_n dX7_fullStake_49 rfl rfl ?_
  refine wp_get (v := vR 33) dX7_fullStake_50 fl_7_67 L_0 rfl ?_
  refine wp_get (v := vR 34) dX7_fullStake_53 fl_7_276 L_33 rfl ?_
  refine wp_iload_n dX7_fullStake_56 rfl ?_
  refine wp_baload dX7_fullStake_57 h1 L_34 h2 ?_
  refine wp_aload_n dX7_fullStake_58 rfl rfl ?_
  refine wp_get (v := vR 33) dX7_fullStake_59 fl_7_67 L_0 rfl ?_
  refine wp_get (v := vR 34) dX7_fullStake_62 fl_7_276 L_33 rfl ?_
  refine wp_iload_n dX7_fullStake_65 rfl ?_
  refine wp_baload dX7_fullStake_66 h3 L_34 h4 ?_
  exact wp_icmp_ne (tgt := 73) dX7_fullStake_67 rfl k1 k2
theorem b_X7_fullStake_70 {d : Nat} {Q : Option pV → pG → Prop} {g : pG} {v1 v2 : Int} (hq : Q (some (vI (-9))) g) : EV d mX7_fullStake Q 70 [vR 0, vI v1, vI v2] [] g := by
  refine wp_bipush dX7_fullStake_70 kb_m9 kc_m9 ?_
  exact wp_iret dX7_fullStake_72 rfl hq
theorem b_X7_fullStake_73 {d : Nat} {Q : Option pV → pG → Prop} {g : pG} {v1 v2 : Int} (k : EV d mX7_fullStake Q 44 [vR 0, vI v1, vI (w32 (v2 + 1))] [] g) : EV d mX7_fullStake Q 73 [vR 0, vI v1, vI v2] [] g := by
  refine wp_iinc dX7_fullStake_73 rfl (Nat.le_of_ble_eq_true rfl) (pp (c := 1) rfl rfl) ?_
  refine wp_goto (tgt := 44) dX7_fullStake_76 rfl ?_
  exact k
theorem b_X7_fullStake_79 {d : Nat} {Q : Option pV → pG → Prop} {g : pG} {v1 v2 : Int} (k1 : (v1 ≠ 0) → EV d mX7_fullStake Q 87 [vR 0, vI v1, vI v2] [] g) (k2 : ¬ (v1 ≠ 0) → EV d mX7_fullStake Q 83 [vR 0, vI v1, vI v2] [] g) : EV d mX7_fullStake Q 79 [vR 0, vI v1, vI v2] [] g := by
  refine wp_iload_n dX7_fullStake_79 rfl ?_
  exact wp_if_ne (tgt := 87) dX7_fullStake_80 rfl k1 k2
theorem b_X7_fullStake_83 {d : Nat} {Q : Option pV → pG → Prop} {g : pG} {v1 v2 : Int} (hq : Q (some (vI 0)) g) : EV d mX7_fullStake Q 83 [vR 0, vI v1, vI v2] [] g := by
  refine wp_iconst dX7_fullStake_83 kc_0 ?_
  refine wp_goto (tgt := 104) dX7_fullStake_84 rfl ?_
  exact wp_iret dX7_fullStake_104 rfl hq
theorem b_X7_fullStake_87 {d : Nat} {Q : Option pV → pG → Prop} {g : pG} {v1 v2 : Int} {R : Int → pG → Prop} (hc : CT d mX5_costsBetween [vR 1, vI 1, vI ((g 1) 3)] g (qI R)) (k : ∀ (x : Int) (gg : pG), R x gg → EV d mX7_fullStake Q 102 [vR 0, vI v1, vI v2] [vI x] gg) : EV d mX7_fullStake Q 87 [vR 0, vI v1, vI v2] [] g := by
  refine wp_aload_n dX7_fullStake_87 rfl rfl ?_
  refine wp_get (v := vR 1) dX7_fullStake_88 fl_7_10 L_0 rfl ?_
  refine wp_iconst dX7_fullStake_91 kc_1 ?_
  refine wp_aload_n dX7_fullStake_92 rfl rfl ?_
  refine wp_get (v := vR 1) dX7_fullStake_93 fl_7_10 L_0 rfl ?_
  refine wp_get (v := vI ((g 1) 3)) dX7_fullStake_96 fl_7_152 L_1 rfl ?_
  exact wp_callvI (As := [vI 1, vI ((g 1) 3)]) dX7_fullStake_99 ml_7_190 (by decide) rfl L_1 (by decide) rfl (Nat.le_of_ble_eq_true rfl) rfl (Nat.le_refl _) (Nat.le_refl _) hc k
theorem b_X7_fullStake_102 {d : Nat} {Q : Option pV → pG → Prop} {g : pG} {v1 v2 vs0 : Int} (hq : Q (some (vI (w32 (vs0 + 1)))) g) : EV d mX7_fullStake Q 102 [vR 0, vI v1, vI v2] [vI vs0] g := by
  refine wp_iconst dX7_fullStake_102 kc_1 ?_
  refine wp_iadd dX7_fullStake_103 ?_
  exact wp_iret dX7_fullStake_104 rfl hq
theorem b_X7_heard_0 {d : Nat} {Q : Option pV → pG → Prop} {g : pG} {R : pG → Prop} (hc : CT d mX7_goDownTo [vR 0, vI 0] g (qV R)) (k : ∀ gg : pG, R gg → EV d mX7_heard Q 7 [vR 0, vI 0, vX 2] [] gg) : EV d mX7_heard Q 0 [vR 0, vX 2, vX 2] [] g := by
  refine wp_iconst dX7_heard_0 kc_0 ?_
  refine wp_istore_n dX7_heard_1 (Nat.le_of_ble_eq_true rfl) (pp (c := 0) rfl rfl) ?_
  refine wp_aload_n dX7_heard_2 rfl rfl ?_
  refine wp_iconst dX7_heard_3 kc_0 ?_
  exact wp_callvV (As := [vI 0]) dX7_heard_4 ml_7_171 (by decide) rfl L_0 (by decide) rfl (Nat.le_of_ble_eq_true rfl) rfl (Nat.le_refl _) (Nat.le_refl _) hc k
theorem b_X7_heard_7 {d : Nat} {Q : Option pV → pG → Prop} {g : pG} {v1 : Int} (k : EV d mX7_heard Q 9 [vR 0, vI v1, vI 0] [] g) : EV d mX7_heard Q 7 [vR 0, vI v1, vX 2] [] g := by
  refine wp_iconst dX7_heard_7 kc_0 ?_
  refine wp_istore_n dX7_heard_8 (Nat.le_of_ble_eq_true rfl) (pp (c := 1) rfl rfl) ?_
  exact k
theorem b_X7_heard_9 {d : Nat} {Q : Option pV → pG → Prop} {g : pG} {v1 v2 : Int} (k1 : ((g 1) 3 ≤ v2) → EV d mX7_heard Q 37 [vR 0, vI v1, vI v2] [] g) (k2 : ¬ ((g 1) 3 ≤ v2) → EV d mX7_heard Q 20 [vR 0, vI v1, vI v2] [] g) : EV d mX7_heard Q 9 [vR 0, vI v1, vI v2] [] g := by
  refine wp_iload_n dX7_heard_9 rfl ?_
  refine wp_aload_n dX7_heard_10 rfl rfl ?_
  refine wp_get (v := vR 1) dX7_heard_11 fl_7_10 L_0 rfl ?_
  refine wp_get (v := vI ((g 1) 3)) dX7_heard_14 fl_7_152 L_1 rfl ?_
  exact wp_icmp_ge (tgt := 37) dX7_heard_17 rfl k1 k2
theorem b_X7_heard_20 {d : Nat} {Q : Option pV → pG → Prop} {g : pG} {v1 v2 : Int} {R : Int → pG → Prop} (hc : CT d mX7_changesAny [vR 0, vI v2] g (qI R)) (k : ∀ (x : Int) (gg : pG), R x gg → EV d mX7_heard Q 25 [vR 0, vI v1, vI v2] [vI x] gg) : EV d mX7_heard Q 20 [vR 0, vI v1, vI v2] [] g := by
  refine wp_aload_n dX7_heard_20 rfl rfl ?_
  refine wp_iload_n dX7_heard_21 rfl ?_
  exact wp_callvI (As := [vI v2]) dX7_heard_22 ml_7_311 (by decide) rfl L_0 (by decide) rfl (Nat.le_of_ble_eq_true rfl) rfl (Nat.le_refl _) (Nat.le_refl _) hc k
theorem b_X7_heard_25 {d : Nat} {Q : Option pV → pG → Prop} {g : pG} {v1 v2 vs0 : Int} (k1 : (vs0 = 0) → EV d mX7_heard Q 31 [vR 0, vI v1, vI v2] [] g) (k2 : ¬ (vs0 = 0) → EV d mX7_heard Q 28 [vR 0, vI v1, vI v2] [] g) : EV d mX7_heard Q 25 [vR 0, vI v1, vI v2] [vI vs0] g := by
  exact wp_if_eq (tgt := 31) dX7_heard_25 rfl k1 k2
theorem b_X7_heard_28 {d : Nat} {Q : Option pV → pG → Prop} {g : pG} {v1 v2 : Int} (k : EV d mX7_heard Q 9 [vR 0, vI (w32 (v1 + 1)), vI (w32 (v2 + 1))] [] g) : EV d mX7_heard Q 28 [vR 0, vI v1, vI v2] [] g := by
  refine wp_iinc dX7_heard_28 rfl (Nat.le_of_ble_eq_true rfl) (pp (c := 0) rfl rfl) ?_
  refine wp_iinc dX7_heard_31 rfl (Nat.le_of_ble_eq_true rfl) (pp (c := 1) rfl rfl) ?_
  refine wp_goto (tgt := 9) dX7_heard_34 rfl ?_
  exact k
theorem b_X7_heard_31 {d : Nat} {Q : Option pV → pG → Prop} {g : pG} {v1 v2 : Int} (k : EV d mX7_heard Q 9 [vR 0, vI v1, vI (w32 (v2 + 1))] [] g) : EV d mX7_heard Q 31 [vR 0, vI v1, vI v2] [] g := by
  refine wp_iinc dX7_heard_31 rfl (Nat.le_of_ble_eq_true rfl) (pp (c := 1) rfl rfl) ?_
  refine wp_goto (tgt := 9) dX7_heard_34 rfl ?_
  exact k
theorem b_X7_heard_37 {d : Nat} {Q : Option pV → pG → Prop} {g : pG} {v1 v2 : Int} (hq : Q (some (vI v1)) g) : EV d mX7_heard Q 37 [vR 0, vI v1, vI v2] [] g := by
  refine wp_iload_n dX7_heard_37 rfl ?_
  exact wp_iret dX7_heard_38 rfl hq
theorem b_X7_lastSay_0 {d : Nat} {Q : Option pV → pG → Prop} {g : pG} (k1 : ((g 1) 3 ≠ 0) → EV d mX7_lastSay Q 17 [vR 0, vX 2, vX 2] [] g) (k2 : ¬ ((g 1) 3 ≠ 0) → EV d mX7_lastSay Q 10 [vR 0, vX 2, vX 2] [] g) : EV d mX7_lastSay Q 0 [vR 0, vX 2, vX 2] [] g := by
  refine wp_aload_n dX7_lastSay_0 rfl rfl ?_
  refine wp_get (v := vR 1) dX7_lastSay_1 fl_7_10 L_0 rfl ?_
  refine wp_get (v := vI ((g 1) 3)) dX7_lastSay_4 fl_7_152 L_1 rfl ?_
  exact wp_if_ne (tgt := 17) dX7_lastSay_7 rfl k1 k2
theorem b_X7_lastSay_10 {d : Nat} {Q : Option pV → pG → Prop} {g : pG} {R : Int → pG → Prop} (hc : CT d mX7_refuse [vR 0, vI (-3)] g (qI R)) (k : ∀ (x : Int) (gg : pG), R x gg → EV d mX7_lastSay Q 16 [vR 0, vX 2, vX 2] [vI x] gg) : EV d mX7_lastSay Q 10 [vR 0, vX 2, vX 2] [] g := by
  refine wp_aload_n dX7_lastSay_10 rfl rfl ?_
  refine wp_bipush dX7_lastSay_11 kb_m3 kc_m3 ?_
  exact wp_callvI (As := [vI (-3)]) dX7_lastSay_13 ml_7_91 (by decide) rfl L_0 (by decide) rfl (Nat.le_of_ble_eq_true rfl) rfl (Nat.le_refl _) (Nat.le_refl _) hc k
theorem b_X7_lastSay_16 {d : Nat} {Q : Option pV → pG → Prop} {g : pG} {vs0 : Int} (hq : Q (some (vI vs0)) g) : EV d mX7_lastSay Q 16 [vR 0, vX 2, vX 2] [vI vs0] g := by
  exact wp_iret dX7_lastSay_16 rfl hq
theorem b_X7_lastSay_17 {d : Nat} {Q : Option pV → pG → Prop} {g : pG} (k : EV d mX7_lastSay Q 21 [vR 0, vI 0, vI 0] [] g) : EV d mX7_lastSay Q 17 [vR 0, vX 2, vX 2] [] g := by
  refine wp_iconst dX7_lastSay_17 kc_0 ?_
  refine wp_istore_n dX7_lastSay_18 (Nat.le_of_ble_eq_true rfl) (pp (c := 0) rfl rfl) ?_
  refine wp_iconst dX7_lastSay_19 kc_0 ?_
  refine wp_istore_n dX7_lastSay_20 (Nat.le_of_ble_eq_true rfl) (pp (c := 1) rfl rfl) ?_
  exact k
theorem b_X7_lastSay_21 {d : Nat} {Q : Option pV → pG → Prop} {g : pG} {v1 v2 : Int} (k1 : (6 ≤ v2) → EV d mX7_lastSay Q 63 [vR 0, vI v1, vI v2] [] g) (k2 : ¬ (6 ≤ v2) → EV d mX7_lastSay Q 27 [vR 0, vI v1, vI v2] [] g) : EV d mX7_lastSay Q 21 [vR 0, vI v1, vI v2] [] g := by
  refine wp_iload_n dX7_lastSay_21 rfl ?_
  refine wp_bipush dX7_lastSay_22 kb_6 kc_6 ?_
  exact wp_icmp_ge (tgt := 63) dX7_lastSay_24 rfl k1 k2
theorem b_X7_lastSay_27 {d : Nat} {Q : Option pV → pG → Prop} {g : pG} {v1 v2 : Int} {R : pG → Prop} (hc : CT d mX7_goDownWith [vR 0, vI (w32 (((g 1) 3) - 1)), vI v2] g (qV R)) (k : ∀ gg : pG, R gg → EV d mX7_lastSay Q 41 [vR 0, vI v1, vI v2] [] gg) : EV d mX7_lastSay Q 27 [vR 0, vI v1, vI v2] [] g := by
  refine wp_aload_n dX7_lastSay_27 rfl rfl ?_
  refine wp_aload_n dX7_lastSay_28 rfl rfl ?_
  refine wp_get (v := vR 1) dX7_lastSay_29 fl_7_10 L_0 rfl ?_
  refine wp_get (v := vI ((g 1) 3)) dX7_lastSay_32 fl_7_152 L_1 rfl ?_
  refine wp_iconst dX7_lastSay_35 kc_1 ?_
  refine wp_isub dX7_lastSay_36 ?_
  refine wp_iload_n dX7_lastSay_37 rfl ?_
  exact wp_callvV (As := [vI (w32 (((g 1) 3) - 1)), vI v2]) dX7_lastSay_38 ml_7_308 (by decide) rfl L_0 (by decide) rfl (Nat.le_of_ble_eq_true rfl) rfl (Nat.le_refl _) (Nat.le_refl _) hc k
theorem b_X7_lastSay_41 {d : Nat} {Q : Option pV → pG → Prop} {g : pG} {v1 v2 : Int} {R : Int → pG → Prop} (hc : CT d mX3_isFor [vR 27] g (qI R)) (k : ∀ (x : Int) (gg : pG), R x gg → EV d mX7_lastSay Q 48 [vR 0, vI v1, vI v2] [vI x] gg) : EV d mX7_lastSay Q 41 [vR 0, vI v1, vI v2] [] g := by
  refine wp_aload_n dX7_lastSay_41 rfl rfl ?_
  refine wp_get (v := vR 27) dX7_lastSay_42 fl_7_54 L_0 rfl ?_
  exact wp_callvI (As := []) dX7_lastSay_45 ml_7_175 (by decide) rfl L_27 (by decide) rfl (Nat.le_of_ble_eq_true rfl) rfl (Nat.le_refl _) (Nat.le_refl _) hc k
theorem b_X7_lastSay_48 {d : Nat} {Q : Option pV → pG → Prop} {g : pG} {v1 v2 vs0 : Int} (k1 : (vs0 = 0) → EV d mX7_lastSay Q 57 [vR 0, vI v1, vI v2] [] g) (k2 : ¬ (vs0 = 0) → EV d mX7_lastSay Q 51 [vR 0, vI v1, vI v2] [] g) : EV d mX7_lastSay Q 48 [vR 0, vI v1, vI v2] [vI vs0] g := by
  exact wp_if_eq (tgt := 57) dX7_lastSay_48 rfl k1 k2
theorem b_X7_lastSay_51 {d : Nat} {Q : Option pV → pG → Prop} {g : pG} {v1 v2 : Int} (k : EV d mX7_lastSay Q 21 [vR 0, vI (zor v1 (zshl 1 v2)), vI (w32 (v2 + 1))] [] g) : EV d mX7_lastSay Q 51 [vR 0, vI v1, vI v2] [] g := by
  refine wp_iload_n dX7_lastSay_51 rfl ?_
  refine wp_iconst dX7_lastSay_52 kc_1 ?_
  refine wp_iload_n dX7_lastSay_53 rfl ?_
  refine wp_ishl dX7_lastSay_54 ?_
  refine wp_ior dX7_lastSay_55 ?_
  refine wp_istore_n dX7_lastSay_56 (Nat.le_of_ble_eq_true rfl) (pp (c := 0) rfl rfl) ?_
  refine wp_iinc dX7_lastSay_57 rfl (Nat.le_of_ble_eq_true rfl) (pp (c := 1) rfl rfl) ?_
  refine wp_goto (tgt := 21) dX7_lastSay_60 rfl ?_
  exact k
theorem b_X7_lastSay_57 {d : Nat} {Q : Option pV → pG → Prop} {g : pG} {v1 v2 : Int} (k : EV d mX7_lastSay Q 21 [vR 0, vI v1, vI (w32 (v2 + 1))] [] g) : EV d mX7_lastSay Q 57 [vR 0, vI v1, vI v2] [] g := by
  refine wp_iinc dX7_lastSay_57 rfl (Nat.le_of_ble_eq_true rfl) (pp (c := 1) rfl rfl) ?_
  refine wp_goto (tgt := 21) dX7_lastSay_60 rfl ?_
  exact k
theorem b_X7_lastSay_63 {d : Nat} {Q : Option pV → pG → Prop} {g : pG} {v1 v2 : Int} (hq : Q (some (vI v1)) g) : EV d mX7_lastSay Q 63 [vR 0, vI v1, vI v2] [] g := by
  refine wp_iload_n dX7_lastSay_63 rfl ?_
  exact wp_iret dX7_lastSay_64 rfl hq
theorem b_X7_row_0 {d : Nat} {Q : Option pV → pG → Prop} {g : pG} {v1 : Int} (k1 : (0 ≤ v1) → EV d mX7_row Q 11 [vR 0, vI v1] [] g) (k2 : ¬ (0 ≤ v1) → EV d mX7_row Q 4 [vR 0, vI v1] [] g) : EV d mX7_row Q 0 [vR 0, vI v1] [] g := by
  refine wp_iload_n dX7_row_0 rfl ?_
  exact wp_if_ge (tgt := 11) dX7_row_1 rfl k1 k2
theorem b_X7_row_4 {d : Nat} {Q : Option pV → pG → Prop} {g : pG} {v1 : Int} {R : Int → pG → Prop} (hc : CT d mX7_refuse [vR 0, vI (-4)] g (qI R)) (k : ∀ (x : Int) (gg : pG), R x gg → EV d mX7_row Q 10 [vR 0, vI v1] [vI x] gg) : EV d mX7_row Q 4 [vR 0, vI v1] [] g := by
  refine wp_aload_n dX7_row_4 rfl rfl ?_
  refine wp_bipush dX7_row_5 kb_m4 kc_m4 ?_
  exact wp_callvI (As := [vI (-4)]) dX7_row_7 ml_7_91 (by decide) rfl L_0 (by decide) rfl (Nat.le_of_ble_eq_true rfl) rfl (Nat.le_refl _) (Nat.le_refl _) hc k
theorem b_X7_row_10 {d : Nat} {Q : Option pV → pG → Prop} {g : pG} {v1 vs0 : Int} (hq : Q (some (vI vs0)) g) : EV d mX7_row Q 10 [vR 0, vI v1] [vI vs0] g := by
  exact wp_iret dX7_row_10 rfl hq
theorem b_X7_row_11 {d : Nat} {Q : Option pV → pG → Prop} {g : pG} {v1 : Int} (k1 : (99 < v1) → EV d mX7_row Q 29 [vR 0, vI v1] [] g) (k2 : ¬ (99 < v1) → EV d mX7_row Q 17 [vR 0, vI v1] [] g) : EV d mX7_row Q 11 [vR 0, vI v1] [] g := by
  refine wp_iload_n dX7_row_11 rfl ?_
  refine wp_bipush dX7_row_12 kb_99 kc_99 ?_
  exact wp_icmp_gt (tgt := 29) dX7_row_14 rfl k1 k2
theorem b_X7_row_17 {d : Nat} {Q : Option pV → pG → Prop} {g : pG} {v1 : Int} (k1 : ((g 0) 7 < 16) → EV d mX7_row Q 36 [vR 0, vI v1] [] g) (k2 : ¬ ((g 0) 7 < 16) → EV d mX7_row Q 29 [vR 0, vI v1] [] g) : EV d mX7_row Q 17 [vR 0, vI v1] [] g := by
  refine wp_aload_n dX7_row_17 rfl rfl ?_
  refine wp_get (v := vI ((g 0) 7)) dX7_row_18 fl_7_44 L_0 rfl ?_
  refine wp_aload_n dX7_row_21 rfl rfl ?_
  refine wp_get (v := vR 25) dX7_row_22 fl_7_40 L_0 rfl ?_
  refine wp_alen (N := 16) dX7_row_25 L_25 (by decide) (by decide) kc_16 ?_
  exact wp_icmp_lt (tgt := 36) dX7_row_26 rfl k1 k2
theorem b_X7_row_29 {d : Nat} {Q : Option pV → pG → Prop} {g : pG} {v1 : Int} {R : Int → pG → Prop} (hc : CT d mX7_refuse [vR 0, vI (-6)] g (qI R)) (k : ∀ (x : Int) (gg : pG), R x gg → EV d mX7_row Q 35 [vR 0, vI v1] [vI x] gg) : EV d mX7_row Q 29 [vR 0, vI v1] [] g := by
  refine wp_aload_n dX7_row_29 rfl rfl ?_
  refine wp_bipush dX7_row_30 kb_m6 kc_m6 ?_
  exact wp_callvI (As := [vI (-6)]) dX7_row_32 ml_7_91 (by decide) rfl L_0 (by decide) rfl (Nat.le_of_ble_eq_true rfl) rfl (Nat.le_refl _) (Nat.le_refl _) hc k
theorem b_X7_row_35 {d : Nat} {Q : Option pV → pG → Prop} {g : pG} {v1 vs0 : Int} (hq : Q (some (vI vs0)) g) : EV d mX7_row Q 35 [vR 0, vI v1] [vI vs0] g := by
  exact wp_iret dX7_row_35 rfl hq
theorem b_X7_row_36 {d : Nat} {Q : Option pV → pG → Prop} {g : pG} {v1 : Int} (h1 : 0 ≤ (g 0) 7) (h2 : (g 0) 7 < 16) (hq : Q (some (vI ((fup (g 0) 7 (w32 (((g 0) 7) + 1))) 7))) (cset (cset g 25 (fup (g 25) ((g 0) 7).toNat v1)) 0 (fup (g 0) 7 (w32 (((g 0) 7) + 1))))) : EV d mX7_row Q 36 [vR 0, vI v1] [] g := by
  refine wp_aload_n dX7_row_36 rfl rfl ?_
  refine wp_get (v := vR 25) dX7_row_37 fl_7_40 L_0 rfl ?_
  refine wp_aload_n dX7_row_40 rfl rfl ?_
  refine wp_get (v := vI ((g 0) 7)) dX7_row_41 fl_7_44 L_0 rfl ?_
  refine wp_iload_n dX7_row_44 rfl ?_
  refine wp_iastore dX7_row_45 h1 L_25 h2 ?_
  refine wp_aload_n dX7_row_46 rfl rfl ?_
  refine wp_dup dX7_row_47 rfl ?_
  refine wp_get (v := vI ((g 0) 7)) dX7_row_48 fl_7_44 L_0 rfl ?_
  refine wp_iconst dX7_row_51 kc_1 ?_
  refine wp_iadd dX7_row_52 ?_
  refine wp_putI dX7_row_53 fl_7_44 L_0 rfl rfl ?_
  refine wp_aload_n dX7_row_56 rfl rfl ?_
  refine wp_get (v := vI ((fup (g 0) 7 (w32 (((g 0) 7) + 1))) 7)) dX7_row_57 fl_7_44 L_0 rfl ?_
  exact wp_iret dX7_row_60 rfl hq
theorem b_X7_judge_0 {d : Nat} {Q : Option pV → pG → Prop} {g : pG} {R : Int → pG → Prop} (hc : CT d mX7_firstNotSo [vR 0] g (qI R)) (k : ∀ (x : Int) (gg : pG), R x gg → EV d mX7_judge Q 4 [vR 0, vX 2] [vI x] gg) : EV d mX7_judge Q 0 [vR 0, vX 2] [] g := by
  refine wp_aload_n dX7_judge_0 rfl rfl ?_
  exact wp_callvI (As := []) dX7_judge_1 ml_7_335 (by decide) rfl L_0 (by decide) rfl (Nat.le_of_ble_eq_true rfl) rfl (Nat.le_refl _) (Nat.le_refl _) hc k
theorem b_X7_judge_4 {d : Nat} {Q : Option pV → pG → Prop} {g : pG} {vs0 : Int} (hq : Q (some (vI vs0)) (cset g 0 (fup (g 0) 7 0))) : EV d mX7_judge Q 4 [vR 0, vX 2] [vI vs0] g := by
  refine wp_istore_n dX7_judge_4 (Nat.le_of_ble_eq_true rfl) (pp (c := 0) rfl rfl) ?_
  refine wp_aload_n dX7_judge_5 rfl rfl ?_
  refine wp_iconst dX7_judge_6 kc_0 ?_
  refine wp_putI dX7_judge_7 fl_7_44 L_0 rfl rfl ?_
  refine wp_iload_n dX7_judge_10 rfl ?_
  exact wp_iret dX7_judge_11 rfl hq
theorem b_X7_firstNotSo_0 {d : Nat} {Q : Option pV → pG → Prop} {g : pG} {R : pG → Prop} (hc : CT d mX7_goDownTo [vR 0, vI 0] g (qV R)) (k : ∀ gg : pG, R gg → EV d mX7_firstNotSo Q 5 [vR 0, vX 2] [] gg) : EV d mX7_firstNotSo Q 0 [vR 0, vX 2] [] g := by
  refine wp_aload_n dX7_firstNotSo_0 rfl rfl ?_
  refine wp_iconst dX7_firstNotSo_1 kc_0 ?_
  exact wp_callvV (As := [vI 0]) dX7_firstNotSo_2 ml_7_171 (by decide) rfl L_0 (by decide) rfl (Nat.le_of_ble_eq_true rfl) rfl (Nat.le_refl _) (Nat.le_refl _) hc k
theorem b_X7_firstNotSo_5 {d : Nat} {Q : Option pV → pG → Prop} {g : pG} (k : EV d mX7_firstNotSo Q 7 [vR 0, vI 0] [] g) : EV d mX7_firstNotSo Q 5 [vR 0, vX 2] [] g := by
  refine wp_iconst dX7_firstNotSo_5 kc_0 ?_
  refine wp_istore_n dX7_firstNotSo_6 (Nat.le_of_ble_eq_true rfl) (pp (c := 0) rfl rfl) ?_
  exact k
theorem b_X7_firstNotSo_7 {d : Nat} {Q : Option pV → pG → Prop} {g : pG} {v1 : Int} (k1 : ((g 0) 7 ≤ v1) → EV d mX7_firstNotSo Q 65 [vR 0, vI v1] [] g) (k2 : ¬ ((g 0) 7 ≤ v1) → EV d mX7_firstNotSo Q 15 [vR 0, vI v1] [] g) : EV d mX7_firstNotSo Q 7 [vR 0, vI v1] [] g := by
  refine wp_iload_n dX7_firstNotSo_7 rfl ?_
  refine wp_aload_n dX7_firstNotSo_8 rfl rfl ?_
  refine wp_get (v := vI ((g 0) 7)) dX7_firstNotSo_9 fl_7_44 L_0 rfl ?_
  exact wp_icmp_ge (tgt := 65) dX7_firstNotSo_12 rfl k1 k2
theorem b_X7_firstNotSo_15 {d : Nat} {Q : Option pV → pG → Prop} {g : pG} {v1 : Int} (k1 : ((g 1) 3 < v1) → EV d mX7_firstNotSo Q 45 [vR 0, vI v1] [] g) (k2 : ¬ ((g 1) 3 < v1) → EV d mX7_firstNotSo Q 26 [vR 0, vI v1] [] g) : EV d mX7_firstNotSo Q 15 [vR 0, vI v1] [] g := by
  refine wp_iload_n dX7_firstNotSo_15 rfl ?_
  refine wp_aload_n dX7_firstNotSo_16 rfl rfl ?_
  refine wp_get (v := vR 1) dX7_firstNotSo_17 fl_7_10 L_0 rfl ?_
  refine wp_get (v := vI ((g 1) 3)) dX7_firstNotSo_20 fl_7_152 L_1 rfl ?_
  exact wp_icmp_gt (tgt := 45) dX7_firstNotSo_23 rfl k1 k2
theorem b_X7_firstNotSo_26 {d : Nat} {Q : Option pV → pG → Prop} {g : pG} {v1 : Int} {R : Int → pG → Prop} (h1 : 0 ≤ v1) (h2 : v1 < 16) (hc : CT d mX3_sum [vR 27] g (qI R)) (k : ∀ (x : Int) (gg : pG), R x gg → EV d mX7_firstNotSo Q 39 [vR 0, vI v1] [vI x, vI ((g 25) v1.toNat)] gg) : EV d mX7_firstNotSo Q 26 [vR 0, vI v1] [] g := by
  refine wp_aload_n dX7_firstNotSo_26 rfl rfl ?_
  refine wp_get (v := vR 25) dX7_firstNotSo_27 fl_7_40 L_0 rfl ?_
  refine wp_iload_n dX7_firstNotSo_30 rfl ?_
  refine wp_iaload dX7_firstNotSo_31 h1 L_25 h2 ?_
  refine wp_aload_n dX7_firstNotSo_32 rfl rfl ?_
  refine wp_get (v := vR 27) dX7_firstNotSo_33 fl_7_54 L_0 rfl ?_
  exact wp_callvI (As := []) dX7_firstNotSo_36 ml_7_183 (by decide) rfl L_27 (by decide) rfl (Nat.le_of_ble_eq_true rfl) rfl (Nat.le_refl _) (Nat.le_refl _) hc k
theorem b_X7_firstNotSo_39 {d : Nat} {Q : Option pV → pG → Prop} {g : pG} {v1 vs0 vs1 : Int} (k1 : (vs0 = w32 (vs1 + 50)) → EV d mX7_firstNotSo Q 47 [vR 0, vI v1] [] g) (k2 : ¬ (vs0 = w32 (vs1 + 50)) → EV d mX7_firstNotSo Q 45 [vR 0, vI v1] [] g) : EV d mX7_firstNotSo Q 39 [vR 0, vI v1] [vI vs1, vI vs0] g := by
  refine wp_bipush dX7_firstNotSo_39 kb_50 kc_50 ?_
  refine wp_iadd dX7_firstNotSo_41 ?_
  exact wp_icmp_eq (tgt := 47) dX7_firstNotSo_42 rfl k1 k2
theorem b_X7_firstNotSo_45 {d : Nat} {Q : Option pV → pG → Prop} {g : pG} {v1 : Int} (hq : Q (some (vI v1)) g) : EV d mX7_firstNotSo Q 45 [vR 0, vI v1] [] g := by
  refine wp_iload_n dX7_firstNotSo_45 rfl ?_
  exact wp_iret dX7_firstNotSo_46 rfl hq
theorem b_X7_firstNotSo_47 {d : Nat} {Q : Option pV → pG → Prop} {g : pG} {v1 : Int} {R : pG → Prop} (hc : CT d mX5_hear [vR 1, vI v1, vR 27] g (qV R)) (k : ∀ gg : pG, R gg → EV d mX7_firstNotSo Q 59 [vR 0, vI v1] [] gg) : EV d mX7_firstNotSo Q 47 [vR 0, vI v1] [] g := by
  refine wp_aload_n dX7_firstNotSo_47 rfl rfl ?_
  refine wp_get (v := vR 1) dX7_firstNotSo_48 fl_7_10 L_0 rfl ?_
  refine wp_iload_n dX7_firstNotSo_51 rfl ?_
  refine wp_aload_n dX7_firstNotSo_52 rfl rfl ?_
  refine wp_get (v := vR 27) dX7_firstNotSo_53 fl_7_54 L_0 rfl ?_
  exact wp_callvV (As := [vI v1, vR 27]) dX7_firstNotSo_56 ml_7_186 (by decide) rfl L_1 (by decide) rfl (Nat.le_of_ble_eq_true rfl) rfl (Nat.le_refl _) (Nat.le_refl _) hc k
theorem b_X7_firstNotSo_59 {d : Nat} {Q : Option pV → pG → Prop} {g : pG} {v1 : Int} (k : EV d mX7_firstNotSo Q 7 [vR 0, vI (w32 (v1 + 1))] [] g) : EV d mX7_firstNotSo Q 59 [vR 0, vI v1] [] g := by
  refine wp_iinc dX7_firstNotSo_59 rfl (Nat.le_of_ble_eq_true rfl) (pp (c := 0) rfl rfl) ?_
  refine wp_goto (tgt := 7) dX7_firstNotSo_62 rfl ?_
  exact k
theorem b_X7_firstNotSo_65 {d : Nat} {Q : Option pV → pG → Prop} {g : pG} {v1 : Int} (hq : Q (some (vI (-9))) g) : EV d mX7_firstNotSo Q 65 [vR 0, vI v1] [] g := by
  refine wp_bipush dX7_firstNotSo_65 kb_m9 kc_m9 ?_
  exact wp_iret dX7_firstNotSo_67 rfl hq
theorem b_X7_clear_0 {d : Nat} {Q : Option pV → pG → Prop} {g : pG} (hq : Q (some (vI ((g 0) 7))) (cset g 0 (fup (g 0) 7 0))) : EV d mX7_clear Q 0 [vR 0, vX 2] [] g := by
  refine wp_aload_n dX7_clear_0 rfl rfl ?_
  refine wp_get (v := vI ((g 0) 7)) dX7_clear_1 fl_7_44 L_0 rfl ?_
  refine wp_istore_n dX7_clear_4 (Nat.le_of_ble_eq_true rfl) (pp (c := 0) rfl rfl) ?_
  refine wp_aload_n dX7_clear_5 rfl rfl ?_
  refine wp_iconst dX7_clear_6 kc_0 ?_
  refine wp_putI dX7_clear_7 fl_7_44 L_0 rfl rfl ?_
  refine wp_iload_n dX7_clear_10 rfl ?_
  exact wp_iret dX7_clear_11 rfl hq
theorem b_X7_lots_0 {d : Nat} {Q : Option pV → pG → Prop} {g : pG} {v1 v2 v3 : Int} {R : Int → pG → Prop} (hc : CT d mX7_outside [vI v1, vI 1, vI 20] g (qI R)) (k : ∀ (x : Int) (gg : pG), R x gg → EV d mX7_lots Q 7 [vR 0, vI v1, vI v2, vI v3, vX 2, vX 2, vX 2, vX 2, vX 2, vX 2] [vI x] gg) : EV d mX7_lots Q 0 [vR 0, vI v1, vI v2, vI v3, vX 2, vX 2, vX 2, vX 2, vX 2, vX 2] [] g := by
  refine wp_iload_n dX7_lots_0 rfl ?_
  refine wp_iconst dX7_lots_1 kc_1 ?_
  refine wp_bipush dX7_lots_2 kb_20 kc_20 ?_
  exact wp_callsI (As := [vI v1, vI 1, vI 20]) dX7_lots_4 ml_7_127 (Or.inl rfl) rfl (Nat.le_of_ble_eq_true rfl) rfl (Nat.le_refl _) (Nat.le_refl _) hc k
theorem b_X7_lots_7 {d : Nat} {Q : Option pV → pG → Prop} {g : pG} {v1 v2 v3 vs0 : Int} (k1 : (vs0 = 0) → EV d mX7_lots Q 21 [vR 0, vI v1, vI v2, vI v3, vI vs0, vX 2, vX 2, vX 2, vX 2, vX 2] [] g) (k2 : ¬ (vs0 = 0) → EV d mX7_lots Q 14 [vR 0, vI v1, vI v2, vI v3, vI vs0, vX 2, vX 2, vX 2, vX 2, vX 2] [] g) : EV d mX7_lots Q 7 [vR 0, vI v1, vI v2, vI v3, vX 2, vX 2, vX 2, vX 2, vX 2, vX 2] [vI vs0] g := by
  refine wp_istore dX7_lots_7 (Nat.le_of_ble_eq_true rfl) (pp (c := 3) rfl rfl) ?_
  refine wp_iload dX7_lots_9 rfl ?_
  exact wp_if_eq (tgt := 21) dX7_lots_11 rfl k1 k2
theorem b_X7_lots_14 {d : Nat} {Q : Option pV → pG → Prop} {g : pG} {v1 v2 v3 v4 : Int} {R : Int → pG → Prop} (hc : CT d mX7_refuse [vR 0, vI v4] g (qI R)) (k : ∀ (x : Int) (gg : pG), R x gg → EV d mX7_lots Q 20 [vR 0, vI v1, vI v2, vI v3, vI v4, vX 2, vX 2, vX 2, vX 2, vX 2] [vI x] gg) : EV d mX7_lots Q 14 [vR 0, vI v1, vI v2, vI v3, vI v4, vX 2, vX 2, vX 2, vX 2, vX 2] [] g := by
  refine wp_aload_n dX7_lots_14 rfl rfl ?_
  refine wp_iload dX7_lots_15 rfl ?_
  exact wp_callvI (As := [vI v4]) dX7_lots_17 ml_7_91 (by decide) rfl L_0 (by decide) rfl (Nat.le_of_ble_eq_true rfl) rfl (Nat.le_refl _) (Nat.le_refl _) hc k
theorem b_X7_lots_20 {d : Nat} {Q : Option pV → pG → Prop} {g : pG} {v1 v2 v3 v4 vs0 : Int} (hq : Q (some (vI vs0)) g) : EV d mX7_lots Q 20 [vR 0, vI v1, vI v2, vI v3, vI v4, vX 2, vX 2, vX 2, vX 2, vX 2] [vI vs0] g := by
  exact wp_iret dX7_lots_20 rfl hq
theorem b_X7_lots_21 {d : Nat} {Q : Option pV → pG → Prop} {g : pG} {v1 v2 v3 v4 : Int} (k1 : (v3 < 0) → EV d mX7_lots Q 30 [vR 0, vI v1, vI v2, vI v3, vI v4, vX 2, vX 2, vX 2, vX 2, vX 2] [] g) (k2 : ¬ (v3 < 0) → EV d mX7_lots Q 25 [vR 0, vI v1, vI v2, vI v3, vI v4, vX 2, vX 2, vX 2, vX 2, vX 2] [] g) : EV d mX7_lots Q 21 [vR 0, vI v1, vI v2, vI v3, vI v4, vX 2, vX 2, vX 2, vX 2, vX 2] [] g := by
  refine wp_iload_n dX7_lots_21 rfl ?_
  exact wp_if_lt (tgt := 30) dX7_lots_22 rfl k1 k2
theorem b_X7_lots_25 {d : Nat} {Q : Option pV → pG → Prop} {g : pG} {v1 v2 v3 v4 : Int} (k1 : (v3 ≤ 1) → EV d mX7_lots Q 37 [vR 0, vI v1, vI v2, vI v3, vI v4, vX 2, vX 2, vX 2, vX 2, vX 2] [] g) (k2 : ¬ (v3 ≤ 1) → EV d mX7_lots Q 30 [vR 0, vI v1, vI v2, vI v3, vI v4, vX 2, vX 2, vX 2, vX 2, vX 2] [] g) : EV d mX7_lots Q 25 [vR 0, vI v1, vI v2, vI v3, vI v4, vX 2, vX 2, vX 2, vX 2, vX 2] [] g := by
  refine wp_iload_n dX7_lots_25 rfl ?_
  refine wp_iconst dX7_lots_26 kc_1 ?_
  exact wp_icmp_le (tgt := 37) dX7_lots_27 rfl k1 k2
theorem b_X7_lots_30 {d : Nat} {Q : Option pV → pG → Prop} {g : pG} {v1 v2 v3 v4 : Int} {R : Int → pG → Prop} (hc : CT d mX7_refuse [vR 0, vI (-2)] g (qI R)) (k : ∀ (x : Int) (gg : pG), R x gg → EV d mX7_lots Q 36 [vR 0, vI v1, vI v2, vI v3, vI v4, vX 2, vX 2, vX 2, vX 2, vX 2] [vI x] gg) : EV d mX7_lots Q 30 [vR 0, vI v1, vI v2, vI v3, vI v4, vX 2, vX 2, vX 2, vX 2, vX 2] [] g := by
  refine wp_aload_n dX7_lots_30 rfl rfl ?_
  refine wp_bipush dX7_lots_31 kb_m2 kc_m2 ?_
  exact wp_callvI (As := [vI (-2)]) dX7_lots_33 ml_7_91 (by decide) rfl L_0 (by decide) rfl (Nat.le_of_ble_eq_true rfl) rfl (Nat.le_refl _) (Nat.le_refl _) hc k
theorem b_X7_lots_36 {d : Nat} {Q : Option pV → pG → Prop} {g : pG} {v1 v2 v3 v4 vs0 : Int} (hq : Q (some (vI vs0)) g) : EV d mX7_lots Q 36 [vR 0, vI v1, vI v2, vI v3, vI v4, vX 2, vX 2, vX 2, vX 2, vX 2] [vI vs0] g := by
  exact wp_iret dX7_lots_36 rfl hq
theorem b_X7_lots_37 {d : Nat} {Q : Option pV → pG → Prop} {g : pG} {v1 v2 v3 v4 : Int} {R : pG → Prop} (hc : CT d mX3_copyFrom [vR 27, vR 5] g (qV R)) (k : ∀ gg : pG, R gg → EV d mX7_lots Q 60 [vR 0, vI v1, vI v2, vI v3, vI v4, vI v2, vI 0, vI 0, vX 2, vX 2] [] gg) : EV d mX7_lots Q 37 [vR 0, vI v1, vI v2, vI v3, vI v4, vX 2, vX 2, vX 2, vX 2, vX 2] [] g := by
  refine wp_iload_n dX7_lots_37 rfl ?_
  refine wp_istore dX7_lots_38 (Nat.le_of_ble_eq_true rfl) (pp (c := 4) rfl rfl) ?_
  refine wp_iconst dX7_lots_40 kc_0 ?_
  refine wp_istore dX7_lots_41 (Nat.le_of_ble_eq_true rfl) (pp (c := 5) rfl rfl) ?_
  refine wp_iconst dX7_lots_43 kc_0 ?_
  refine wp_istore dX7_lots_44 (Nat.le_of_ble_eq_true rfl) (pp (c := 6) rfl rfl) ?_
  refine wp_aload_n dX7_lots_46 rfl rfl ?_
  refine wp_get (v := vR 27) dX7_lots_47 fl_7_54 L_0 rfl ?_
  refine wp_aload_n dX7_lots_50 rfl rfl ?_
  refine wp_get (v := vR 1) dX7_lots_51 fl_7_10 L_0 rfl ?_
  refine wp_get (v := vR 5) dX7_lots_54 fl_7_118 L_1 rfl ?_
  exact wp_callvV (As := [vR 5]) dX7_lots_57 ml_7_236 (by decide) rfl L_27 (by decide) rfl (Nat.le_of_ble_eq_true rfl) rfl (Nat.le_refl _) (Nat.le_refl _) hc k
theorem b_X7_lots_60 {d : Nat} {Q : Option pV → pG → Prop} {g : pG} {v1 v2 v3 v4 v5 v6 v7 : Int} (k : EV d mX7_lots Q 63 [vR 0, vI v1, vI v2, vI v3, vI v4, vI v5, vI v6, vI v7, vI 0, vX 2] [] g) : EV d mX7_lots Q 60 [vR 0, vI v1, vI v2, vI v3, vI v4, vI v5, vI v6, vI v7, vX 2, vX 2] [] g := by
  refine wp_iconst dX7_lots_60 kc_0 ?_
  refine wp_istore dX7_lots_61 (Nat.le_of_ble_eq_true rfl) (pp (c := 7) rfl rfl) ?_
  exact k
theorem b_X7_lots_63 {d : Nat} {Q : Option pV → pG → Prop} {g : pG} {v1 v2 v3 v4 v5 v6 v7 v8 : Int} {u9 : pV} (k1 : (v1 ≤ v8) → EV d mX7_lots Q 200 [vR 0, vI v1, vI v2, vI v3, vI v4, vI v5, vI v6, vI v7, vI v8, u9] [] g) (k2 : ¬ (v1 ≤ v8) → EV d mX7_lots Q 69 [vR 0, vI v1, vI v2, vI v3, vI v4, vI v5, vI v6, vI v7, vI v8, u9] [] g) : EV d mX7_lots Q 63 [vR 0, vI v1, vI v2, vI v3, vI v4, vI v5, vI v6, vI v7, vI v8, u9] [] g := by
  refine wp_iload dX7_lots_63 rfl ?_
  refine wp_iload_n dX7_lots_65 rfl ?_
  exact wp_icmp_ge (tgt := 200) dX7_lots_66 rfl k1 k2
theorem b_X7_lots_69 {d : Nat} {Q : Option pV → pG → Prop} {g : pG} {v1 v2 v3 v4 v5 v6 v7 v8 : Int} {u9 : pV} (k : EV d mX7_lots Q 72 [vR 0, vI v1, vI v2, vI v3, vI v4, vI v5, vI v6, vI v7, vI v8, vI 0] [] g) : EV d mX7_lots Q 69 [vR 0, vI v1, vI v2, vI v3, vI v4, vI v5, vI v6, vI v7, vI v8, u9] [] g := by
  refine wp_iconst dX7_lots_69 kc_0 ?_
  refine wp_istore dX7_lots_70 (Nat.le_of_ble_eq_true rfl) (pp (c := 8) rfl rfl) ?_
  exact k
theorem b_X7_lots_72 {d : Nat} {Q : Option pV → pG → Prop} {g : pG} {v1 v2 v3 v4 v5 v6 v7 v8 v9 : Int} (k1 : ((g 27) 1 ≤ v9) → EV d mX7_lots Q 127 [vR 0, vI v1, vI v2, vI v3, vI v4, vI v5, vI v6, vI v7, vI v8, vI v9] [] g) (k2 : ¬ ((g 27) 1 ≤ v9) → EV d mX7_lots Q 84 [vR 0, vI v1, vI v2, vI v3, vI v4, vI v5, vI v6, vI v7, vI v8, vI v9] [] g) : EV d mX7_lots Q 72 [vR 0, vI v1, vI v2, vI v3, vI v4, vI v5, vI v6, vI v7, vI v8, vI v9] [] g := by
  refine wp_iload dX7_lots_72 rfl ?_
  refine wp_aload_n dX7_lots_74 rfl rfl ?_
  refine wp_get (v := vR 27) dX7_lots_75 fl_7_54 L_0 rfl ?_
  refine wp_get (v := vI ((g 27) 1)) dX7_lots_78 fl_7_155 L_27 rfl ?_
  exact wp_icmp_ge (tgt := 127) dX7_lots_81 rfl k1 k2
theorem b_X7_lots_84 {d : Nat} {Q : Option pV → pG → Prop} {g : pG} {v1 v2 v3 v4 v5 v6 v7 v8 v9 : Int} {R : pG → Prop} (hc : CT d mX3_put [vR 27, vI v9, vI (w32 ((w32 ((w32 ((zand (w32 ((w32 (v5 * 1103515245)) + 12345)) 2147483647).tdiv 65536)).tmod 19)) - 9))] g (qV R)) (k : ∀ gg : pG, R gg → EV d mX7_lots Q 121 [vR 0, vI v1, vI v2, vI v3, vI v4, vI (w32 ((w32 (v5 * 1103515245)) + 12345)), vI v6, vI v7, vI v8, vI v9] [] gg) : EV d mX7_lots Q 84 [vR 0, vI v1, vI v2, vI v3, vI v4, vI v5, vI v6, vI v7, vI v8, vI v9] [] g := by
  refine wp_iload dX7_lots_84 rfl ?_
  refine wp_ldc_w dX7_lots_86 kl_7_338 ?_
  refine wp_imul dX7_lots_89 ?_
  refine wp_sipush dX7_lots_90 ks_12345 kc_12345 ?_
  refine wp_iadd dX7_lots_93 ?_
  refine wp_istore dX7_lots_94 (Nat.le_of_ble_eq_true rfl) (pp (c := 4) rfl rfl) ?_
  refine wp_aload_n dX7_lots_96 rfl rfl ?_
  refine wp_get (v := vR 27) dX7_lots_97 fl_7_54 L_0 rfl ?_
  refine wp_iload dX7_lots_100 rfl ?_
  refine wp_iload dX7_lots_102 rfl ?_
  refine wp_ldc_w dX7_lots_104 kl_7_339 ?_
  refine wp_iand dX7_lots_107 ?_
  refine wp_ldc_w dX7_lots_108 kl_7_340 ?_
  refine wp_idiv dX7_lots_111 (by decide) ?_
  refine wp_bipush dX7_lots_112 kb_19 kc_19 ?_
  refine wp_irem dX7_lots_114 (by decide) ?_
  refine wp_bipush dX7_lots_115 kb_9 kc_9 ?_
  refine wp_isub dX7_lots_117 ?_
  exact wp_callvV (As := [vI v9, vI (w32 ((w32 ((w32 ((zand (w32 ((w32 (v5 * 1103515245)) + 12345)) 2147483647).tdiv 65536)).tmod 19)) - 9))]) dX7_lots_118 ml_7_138 (by decide) rfl L_27 (by decide) rfl (Nat.le_of_ble_eq_true rfl) rfl (Nat.le_refl _) (Nat.le_refl _) hc k
theorem b_X7_lots_121 {d : Nat} {Q : Option pV → pG → Prop} {g : pG} {v1 v2 v3 v4 v5 v6 v7 v8 v9 : Int} (k : EV d mX7_lots Q 72 [vR 0, vI v1, vI v2, vI v3, vI v4, vI v5, vI v6, vI v7, vI v8, vI (w32 (v9 + 1))] [] g) : EV d mX7_lots Q 121 [vR 0, vI v1, vI v2, vI v3, vI v4, vI v5, vI v6, vI v7, vI v8, vI v9] [] g := by
  refine wp_iinc dX7_lots_121 rfl (Nat.le_of_ble_eq_true rfl) (pp (c := 8) rfl rfl) ?_
  refine wp_goto (tgt := 72) dX7_lots_124 rfl ?_
  exact k
theorem b_X7_lots_127 {d : Nat} {Q : Option pV → pG → Prop} {g : pG} {v1 v2 v3 v4 v5 v6 v7 v8 v9 : Int} {R : Int → pG → Prop} (hc : CT d mX3_isFor [vR 27] g (qI R)) (k : ∀ (x : Int) (gg : pG), R x gg → EV d mX7_lots Q 134 [vR 0, vI v1, vI v2, vI v3, vI v4, vI v5, vI v6, vI v7, vI v8, vI v9] [vI x] gg) : EV d mX7_lots Q 127 [vR 0, vI v1, vI v2, vI v3, vI v4, vI v5, vI v6, vI v7, vI v8, vI v9] [] g := by
  refine wp_aload_n dX7_lots_127 rfl rfl ?_
  refine wp_get (v := vR 27) dX7_lots_128 fl_7_54 L_0 rfl ?_
  exact wp_callvI (As := []) dX7_lots_131 ml_7_175 (by decide) rfl L_27 (by decide) rfl (Nat.le_of_ble_eq_true rfl) rfl (Nat.le_refl _) (Nat.le_refl _) hc k
theorem b_X7_lots_134 {d : Nat} {Q : Option pV → pG → Prop} {g : pG} {v1 v2 v3 v4 v5 v6 v7 v8 v9 vs0 : Int} {R : pG → Prop} (hc : CT d mX5_goDown [vR 1, vR 27, vI ((g 1) 3)] g (qV R)) (k : ∀ gg : pG, R gg → EV d mX7_lots Q 154 [vR 0, vI v1, vI v2, vI v3, vI v4, vI v5, vI v6, vI v7, vI v8, vI vs0] [] gg) : EV d mX7_lots Q 134 [vR 0, vI v1, vI v2, vI v3, vI v4, vI v5, vI v6, vI v7, vI v8, vI v9] [vI vs0] g := by
  refine wp_istore dX7_lots_134 (Nat.le_of_ble_eq_true rfl) (pp (c := 8) rfl rfl) ?_
  refine wp_aload_n dX7_lots_136 rfl rfl ?_
  refine wp_get (v := vR 1) dX7_lots_137 fl_7_10 L_0 rfl ?_
  refine wp_aload_n dX7_lots_140 rfl rfl ?_
  refine wp_get (v := vR 27) dX7_lots_141 fl_7_54 L_0 rfl ?_
  refine wp_aload_n dX7_lots_144 rfl rfl ?_
  refine wp_get (v := vR 1) dX7_lots_145 fl_7_10 L_0 rfl ?_
  refine wp_get (v := vI ((g 1) 3)) dX7_lots_148 fl_7_152 L_1 rfl ?_
  exact wp_callvV (As := [vR 27, vI ((g 1) 3)]) dX7_lots_151 ml_7_269 (by decide) rfl L_1 (by decide) rfl (Nat.le_of_ble_eq_true rfl) rfl (Nat.le_refl _) (Nat.le_refl _) hc k
theorem b_X7_lots_154 {d : Nat} {Q : Option pV → pG → Prop} {g : pG} {v1 v2 v3 v4 v5 v6 v7 v8 v9 : Int} {R : Int → pG → Prop} (hc : CT d mX3_isFor [vR 27] g (qI R)) (k : ∀ (x : Int) (gg : pG), R x gg → EV d mX7_lots Q 163 [vR 0, vI v1, vI v2, vI v3, vI v4, vI v5, vI v6, vI v7, vI v8, vI v9] [vI x, vI v6] gg) : EV d mX7_lots Q 154 [vR 0, vI v1, vI v2, vI v3, vI v4, vI v5, vI v6, vI v7, vI v8, vI v9] [] g := by
  refine wp_iload dX7_lots_154 rfl ?_
  refine wp_aload_n dX7_lots_156 rfl rfl ?_
  refine wp_get (v := vR 27) dX7_lots_157 fl_7_54 L_0 rfl ?_
  exact wp_callvI (As := []) dX7_lots_160 ml_7_175 (by decide) rfl L_27 (by decide) rfl (Nat.le_of_ble_eq_true rfl) rfl (Nat.le_refl _) (Nat.le_refl _) hc k
theorem b_X7_lots_163 {d : Nat} {Q : Option pV → pG → Prop} {g : pG} {v1 v2 v3 v4 v5 v6 v7 v8 v9 vs0 vs1 : Int} {R : Int → pG → Prop} (hc : CT d mX7_bit [vI vs1] g (qI R)) (k : ∀ (x : Int) (gg : pG), R x gg → EV d mX7_lots Q 166 [vR 0, vI v1, vI v2, vI v3, vI v4, vI v5, vI v6, vI v7, vI v8, vI v9] [vI x, vI vs0] gg) : EV d mX7_lots Q 163 [vR 0, vI v1, vI v2, vI v3, vI v4, vI v5, vI v6, vI v7, vI v8, vI v9] [vI vs1, vI vs0] g := by
  exact wp_callsI (As := [vI vs1]) dX7_lots_163 ml_7_179 (Or.inl rfl) rfl (Nat.le_of_ble_eq_true rfl) rfl (Nat.le_refl _) (Nat.le_refl _) hc k
theorem b_X7_lots_166 {d : Nat} {Q : Option pV → pG → Prop} {g : pG} {v1 v2 v3 v4 v5 v6 v7 v8 v9 vs0 vs1 : Int} {R : Int → pG → Prop} (hc : CT d mX3_isFor [vR 27] g (qI R)) (k : ∀ (x : Int) (gg : pG), R x gg → EV d mX7_lots Q 178 [vR 0, vI v1, vI v2, vI v3, vI v4, vI v5, vI (w32 (vs0 + vs1)), vI v7, vI v8, vI v9] [vI x, vI v7] gg) : EV d mX7_lots Q 166 [vR 0, vI v1, vI v2, vI v3, vI v4, vI v5, vI v6, vI v7, vI v8, vI v9] [vI vs1, vI vs0] g := by
  refine wp_iadd dX7_lots_166 ?_
  refine wp_istore dX7_lots_167 (Nat.le_of_ble_eq_true rfl) (pp (c := 5) rfl rfl) ?_
  refine wp_iload dX7_lots_169 rfl ?_
  refine wp_aload_n dX7_lots_171 rfl rfl ?_
  refine wp_get (v := vR 27) dX7_lots_172 fl_7_54 L_0 rfl ?_
  exact wp_callvI (As := []) dX7_lots_175 ml_7_175 (by decide) rfl L_27 (by decide) rfl (Nat.le_of_ble_eq_true rfl) rfl (Nat.le_refl _) (Nat.le_refl _) hc k
theorem b_X7_lots_178 {d : Nat} {Q : Option pV → pG → Prop} {g : pG} {v1 v2 v3 v4 v5 v6 v7 v8 v9 vs0 vs1 : Int} (k1 : (vs1 = v9) → EV d mX7_lots Q 187 [vR 0, vI v1, vI v2, vI v3, vI v4, vI v5, vI v6, vI v7, vI v8, vI v9] [vI vs0] g) (k2 : ¬ (vs1 = v9) → EV d mX7_lots Q 183 [vR 0, vI v1, vI v2, vI v3, vI v4, vI v5, vI v6, vI v7, vI v8, vI v9] [vI vs0] g) : EV d mX7_lots Q 178 [vR 0, vI v1, vI v2, vI v3, vI v4, vI v5, vI v6, vI v7, vI v8, vI v9] [vI vs1, vI vs0] g := by
  refine wp_iload dX7_lots_178 rfl ?_
  exact wp_icmp_eq (tgt := 187) dX7_lots_180 rfl k1 k2
theorem b_X7_lots_183 {d : Nat} {Q : Option pV → pG → Prop} {g : pG} {v1 v2 v3 v4 v5 v6 v7 v8 v9 vs0 : Int} {R : Int → pG → Prop} (hc : CT d mX7_bit [vI 1] g (qI R)) (k : ∀ (x : Int) (gg : pG), R x gg → EV d mX7_lots Q 191 [vR 0, vI v1, vI v2, vI v3, vI v4, vI v5, vI v6, vI v7, vI v8, vI v9] [vI x, vI vs0] gg) : EV d mX7_lots Q 183 [vR 0, vI v1, vI v2, vI v3, vI v4, vI v5, vI v6, vI v7, vI v8, vI v9] [vI vs0] g := by
  refine wp_iconst dX7_lots_183 kc_1 ?_
  refine wp_goto (tgt := 188) dX7_lots_184 rfl ?_
  exact wp_callsI (As := [vI 1]) dX7_lots_188 ml_7_179 (Or.inl rfl) rfl (Nat.le_of_ble_eq_true rfl) rfl (Nat.le_refl _) (Nat.le_refl _) hc k
theorem b_X7_lots_187 {d : Nat} {Q : Option pV → pG → Prop} {g : pG} {v1 v2 v3 v4 v5 v6 v7 v8 v9 vs0 : Int} {R : Int → pG → Prop} (hc : CT d mX7_bit [vI 0] g (qI R)) (k : ∀ (x : Int) (gg : pG), R x gg → EV d mX7_lots Q 191 [vR 0, vI v1, vI v2, vI v3, vI v4, vI v5, vI v6, vI v7, vI v8, vI v9] [vI x, vI vs0] gg) : EV d mX7_lots Q 187 [vR 0, vI v1, vI v2, vI v3, vI v4, vI v5, vI v6, vI v7, vI v8, vI v9] [vI vs0] g := by
  refine wp_iconst dX7_lots_187 kc_0 ?_
  exact wp_callsI (As := [vI 0]) dX7_lots_188 ml_7_179 (Or.inl rfl) rfl (Nat.le_of_ble_eq_true rfl) rfl (Nat.le_refl _) (Nat.le_refl _) hc k
theorem b_X7_lots_191 {d : Nat} {Q : Option pV → pG → Prop} {g : pG} {v1 v2 v3 v4 v5 v6 v7 v8 v9 vs0 vs1 : Int} (k : EV d mX7_lots Q 63 [vR 0, vI v1, vI v2, vI v3, vI v4, vI v5, vI v6, vI (w32 (vs0 + vs1)), vI (w32 (v8 + 1)), vI v9] [] g) : EV d mX7_lots Q 191 [vR 0, vI v1, vI v2, vI v3, vI v4, vI v5, vI v6, vI v7, vI v8, vI v9] [vI vs1, vI vs0] g := by
  refine wp_iadd dX7_lots_191 ?_
  refine wp_istore dX7_lots_192 (Nat.le_of_ble_eq_true rfl) (pp (c := 6) rfl rfl) ?_
  refine wp_iinc dX7_lots_194 rfl (Nat.le_of_ble_eq_true rfl) (pp (c := 7) rfl rfl) ?_
  refine wp_goto (tgt := 63) dX7_lots_197 rfl ?_
  exact k
theorem b_X7_lots_200 {d : Nat} {Q : Option pV → pG → Prop} {g : pG} {v1 v2 v3 v4 v5 v6 v7 v8 : Int} {u9 : pV} (k1 : (v3 ≠ 0) → EV d mX7_lots Q 209 [vR 0, vI v1, vI v2, vI v3, vI v4, vI v5, vI v6, vI v7, vI v8, u9] [] g) (k2 : ¬ (v3 ≠ 0) → EV d mX7_lots Q 204 [vR 0, vI v1, vI v2, vI v3, vI v4, vI v5, vI v6, vI v7, vI v8, u9] [] g) : EV d mX7_lots Q 200 [vR 0, vI v1, vI v2, vI v3, vI v4, vI v5, vI v6, vI v7, vI v8, u9] [] g := by
  refine wp_iload_n dX7_lots_200 rfl ?_
  exact wp_if_ne (tgt := 209) dX7_lots_201 rfl k1 k2
theorem b_X7_lots_204 {d : Nat} {Q : Option pV → pG → Prop} {g : pG} {v1 v2 v3 v4 v5 v6 v7 v8 : Int} {u9 : pV} (hq : Q (some (vI v6)) g) : EV d mX7_lots Q 204 [vR 0, vI v1, vI v2, vI v3, vI v4, vI v5, vI v6, vI v7, vI v8, u9] [] g := by
  refine wp_iload dX7_lots_204 rfl ?_
  refine wp_goto (tgt := 211) dX7_lots_206 rfl ?_
  exact wp_iret dX7_lots_211 rfl hq
theorem b_X7_lots_209 {d : Nat} {Q : Option pV → pG → Prop} {g : pG} {v1 v2 v3 v4 v5 v6 v7 v8 : Int} {u9 : pV} (hq : Q (some (vI v7)) g) : EV d mX7_lots Q 209 [vR 0, vI v1, vI v2, vI v3, vI v4, vI v5, vI v6, vI v7, vI v8, u9] [] g := by
  refine wp_iload dX7_lots_209 rfl ?_
  exact wp_iret dX7_lots_211 rfl hq
theorem b_X7_image_0 {d : Nat} {Q : Option pV → pG → Prop} {g : pG} {R : pG → Prop} (hc : CT d mX5_copyFrom [vR 13, vR 1] g (qV R)) (k : ∀ gg : pG, R gg → EV d mX7_image Q 11 [vR 0] [] gg) : EV d mX7_image Q 0 [vR 0] [] g := by
  refine wp_aload_n dX7_image_0 rfl rfl ?_
  refine wp_get (v := vR 13) dX7_image_1 fl_7_19 L_0 rfl ?_
  refine wp_aload_n dX7_image_4 rfl rfl ?_
  refine wp_get (v := vR 1) dX7_image_5 fl_7_10 L_0 rfl ?_
  exact wp_callvV (As := [vR 1]) dX7_image_8 ml_7_341 (by decide) rfl L_13 (by decide) rfl (Nat.le_of_ble_eq_true rfl) rfl (Nat.le_refl _) (Nat.le_refl _) hc k
theorem b_X7_image_11 {d : Nat} {Q : Option pV → pG → Prop} {g : pG} (hq : Q (some (vI ((g 1) 3))) (cset g 0 (fup (g 0) 3 1))) : EV d mX7_image Q 11 [vR 0] [] g := by
  refine wp_aload_n dX7_image_11 rfl rfl ?_
  refine wp_iconst dX7_image_12 kc_1 ?_
  refine wp_putZ dX7_image_13 fl_7_22 L_0 rfl rfl (Or.inr rfl) ?_
  refine wp_aload_n dX7_image_16 rfl rfl ?_
  refine wp_get (v := vR 1) dX7_image_17 fl_7_10 L_0 rfl ?_
  refine wp_get (v := vI ((g 1) 3)) dX7_image_20 fl_7_152 L_1 rfl ?_
  exact wp_iret dX7_image_23 rfl hq
theorem b_X7_restore_0 {d : Nat} {Q : Option pV → pG → Prop} {g : pG} (k1 : ((g 0) 3 ≠ 0) → EV d mX7_restore Q 14 [vR 0] [] g) (k2 : ¬ ((g 0) 3 ≠ 0) → EV d mX7_restore Q 7 [vR 0] [] g) : EV d mX7_restore Q 0 [vR 0] [] g := by
  refine wp_aload_n dX7_restore_0 rfl rfl ?_
  refine wp_get (v := vI ((g 0) 3)) dX7_restore_1 fl_7_22 L_0 rfl ?_
  exact wp_if_ne (tgt := 14) dX7_restore_4 rfl k1 k2
theorem b_X7_restore_7 {d : Nat} {Q : Option pV → pG → Prop} {g : pG} {R : Int → pG → Prop} (hc : CT d mX7_refuse [vR 0, vI (-3)] g (qI R)) (k : ∀ (x : Int) (gg : pG), R x gg → EV d mX7_restore Q 13 [vR 0] [vI x] gg) : EV d mX7_restore Q 7 [vR 0] [] g := by
  refine wp_aload_n dX7_restore_7 rfl rfl ?_
  refine wp_bipush dX7_restore_8 kb_m3 kc_m3 ?_
  exact wp_callvI (As := [vI (-3)]) dX7_restore_10 ml_7_91 (by decide) rfl L_0 (by decide) rfl (Nat.le_of_ble_eq_true rfl) rfl (Nat.le_refl _) (Nat.le_refl _) hc k
theorem b_X7_restore_13 {d : Nat} {Q : Option pV → pG → Prop} {g : pG} {vs0 : Int} (hq : Q (some (vI vs0)) g) : EV d mX7_restore Q 13 [vR 0] [vI vs0] g := by
  exact wp_iret dX7_restore_13 rfl hq
theorem b_X7_restore_14 {d : Nat} {Q : Option pV → pG → Prop} {g : pG} {R : pG → Prop} (hc : CT d mX5_copyFrom [vR 1, vR 13] g (qV R)) (k : ∀ gg : pG, R gg → EV d mX7_restore Q 25 [vR 0] [] gg) : EV d mX7_restore Q 14 [vR 0] [] g := by
  refine wp_aload_n dX7_restore_14 rfl rfl ?_
  refine wp_get (v := vR 1) dX7_restore_15 fl_7_10 L_0 rfl ?_
  refine wp_aload_n dX7_restore_18 rfl rfl ?_
  refine wp_get (v := vR 13) dX7_restore_19 fl_7_19 L_0 rfl ?_
  exact wp_callvV (As := [vR 13]) dX7_restore_22 ml_7_341 (by decide) rfl L_1 (by decide) rfl (Nat.le_of_ble_eq_true rfl) rfl (Nat.le_refl _) (Nat.le_refl _) hc k
theorem b_X7_restore_25 {d : Nat} {Q : Option pV → pG → Prop} {g : pG} (hq : Q (some (vI ((g 1) 3))) (cset g 21 (fup (g 21) 3 0))) : EV d mX7_restore Q 25 [vR 0] [] g := by
  refine wp_aload_n dX7_restore_25 rfl rfl ?_
  refine wp_get (v := vR 21) dX7_restore_26 fl_7_36 L_0 rfl ?_
  refine wp_iconst dX7_restore_29 kc_0 ?_
  refine wp_putI dX7_restore_30 fl_7_166 L_21 rfl rfl ?_
  refine wp_aload_n dX7_restore_33 rfl rfl ?_
  refine wp_get (v := vR 1) dX7_restore_34 fl_7_10 L_0 rfl ?_
  refine wp_get (v := vI ((g 1) 3)) dX7_restore_37 fl_7_152 L_1 rfl ?_
  exact wp_iret dX7_restore_40 rfl hq
theorem b_X7_count_0 {d : Nat} {Q : Option pV → pG → Prop} {g : pG} {v1 : Int} (k0 : v1 = 0 → EV d mX7_count Q 48 [vR 0, vI v1] [] g) (k1 : v1 = 1 → EV d mX7_count Q 56 [vR 0, vI v1] [] g) (k2 : v1 = 2 → EV d mX7_count Q 67 [vR 0, vI v1] [] g) (k3 : v1 = 3 → EV d mX7_count Q 75 [vR 0, vI v1] [] g) (k4 : v1 = 4 → EV d mX7_count Q 83 [vR 0, vI v1] [] g) (k5 : v1 = 5 → EV d mX7_count Q 91 [vR 0, vI v1] [] g) (k6 : v1 = 6 → EV d mX7_count Q 96 [vR 0, vI v1] [] g) (k7 : v1 = 7 → EV d mX7_count Q 104 [vR 0, vI v1] [] g) (kd : (v1 ≠ 0 ∧ v1 ≠ 1 ∧ v1 ≠ 2 ∧ v1 ≠ 3 ∧ v1 ≠ 4 ∧ v1 ≠ 5 ∧ v1 ≠ 6 ∧ v1 ≠ 7) → EV d mX7_count Q 115 [vR 0, vI v1] [] g) : EV d mX7_count Q 0 [vR 0, vI v1] [] g := by
  refine wp_iload_n dX7_count_0 rfl ?_
  refine wp_tsw (x := v1) dX7_count_1 (fun hh => ⟨115, rfl, kd (by omega)⟩) (fun hh hh2 => ?_)
  rcases (show v1 = 0 ∨ v1 = 1 ∨ v1 = 2 ∨ v1 = 3 ∨ v1 = 4 ∨ v1 = 5 ∨ v1 = 6 ∨ v1 = 7 by omega) with hq | hq | hq | hq | hq | hq | hq | hq
  · exact ⟨47, 48, by rw [hq]; rfl, rfl, k0 hq⟩
  · exact ⟨55, 56, by rw [hq]; rfl, rfl, k1 hq⟩
  · exact ⟨66, 67, by rw [hq]; rfl, rfl, k2 hq⟩
  · exact ⟨74, 75, by rw [hq]; rfl, rfl, k3 hq⟩
  · exact ⟨82, 83, by rw [hq]; rfl, rfl, k4 hq⟩
  · exact ⟨90, 91, by rw [hq]; rfl, rfl, k5 hq⟩
  · exact ⟨95, 96, by rw [hq]; rfl, rfl, k6 hq⟩
  · exact ⟨103, 104, by rw [hq]; rfl, rfl, k7 hq⟩
theorem b_X7_count_48 {d : Nat} {Q : Option pV → pG → Prop} {g : pG} {v1 : Int} (hq : Q (some (vI ((g 1) 3))) g) : EV d mX7_count Q 48 [vR 0, vI v1] [] g := by
  refine wp_aload_n dX7_count_48 rfl rfl ?_
  refine wp_get (v := vR 1) dX7_count_49 fl_7_10 L_0 rfl ?_
  refine wp_get (v := vI ((g 1) 3)) dX7_count_52 fl_7_152 L_1 rfl ?_
  exact wp_iret dX7_count_55 rfl hq
theorem b_X7_count_56 {d : Nat} {Q : Option pV → pG → Prop} {g : pG} {v1 : Int} (hq : Q (some (vI ((g 5) 1))) g) : EV d mX7_count Q 56 [vR 0, vI v1] [] g := by
  refine wp_aload_n dX7_count_56 rfl rfl ?_
  refine wp_get (v := vR 1) dX7_count_57 fl_7_10 L_0 rfl ?_
  refine wp_get (v := vR 5) dX7_count_60 fl_7_118 L_1 rfl ?_
  refine wp_get (v := vI ((g 5) 1)) dX7_count_63 fl_7_155 L_5 rfl ?_
  exact wp_iret dX7_count_66 rfl hq
theorem b_X7_count_67 {d : Nat} {Q : Option pV → pG → Prop} {g : pG} {v1 : Int} (hq : Q (some (vI ((g 1) 5))) g) : EV d mX7_count Q 67 [vR 0, vI v1] [] g := by
  refine wp_aload_n dX7_count_67 rfl rfl ?_
  refine wp_get (v := vR 1) dX7_count_68 fl_7_10 L_0 rfl ?_
  refine wp_get (v := vI ((g 1) 5)) dX7_count_71 fl_7_156 L_1 rfl ?_
  exact wp_iret dX7_count_74 rfl hq
theorem b_X7_count_75 {d : Nat} {Q : Option pV → pG → Prop} {g : pG} {v1 : Int} (hq : Q (some (vI ((g 1) 6))) g) : EV d mX7_count Q 75 [vR 0, vI v1] [] g := by
  refine wp_aload_n dX7_count_75 rfl rfl ?_
  refine wp_get (v := vR 1) dX7_count_76 fl_7_10 L_0 rfl ?_
  refine wp_get (v := vI ((g 1) 6)) dX7_count_79 fl_7_159 L_1 rfl ?_
  exact wp_iret dX7_count_82 rfl hq
theorem b_X7_count_83 {d : Nat} {Q : Option pV → pG → Prop} {g : pG} {v1 : Int} (hq : Q (some (vI ((g 19) 1))) g) : EV d mX7_count Q 83 [vR 0, vI v1] [] g := by
  refine wp_aload_n dX7_count_83 rfl rfl ?_
  refine wp_get (v := vR 19) dX7_count_84 fl_7_29 L_0 rfl ?_
  refine wp_get (v := vI ((g 19) 1)) dX7_count_87 fl_7_95 L_19 rfl ?_
  exact wp_iret dX7_count_90 rfl hq
theorem b_X7_count_91 {d : Nat} {Q : Option pV → pG → Prop} {g : pG} {v1 : Int} (hq : Q (some (vI ((g 0) 7))) g) : EV d mX7_count Q 91 [vR 0, vI v1] [] g := by
  refine wp_aload_n dX7_count_91 rfl rfl ?_
  refine wp_get (v := vI ((g 0) 7)) dX7_count_92 fl_7_44 L_0 rfl ?_
  exact wp_iret dX7_count_95 rfl hq
theorem b_X7_count_96 {d : Nat} {Q : Option pV → pG → Prop} {g : pG} {v1 : Int} (hq : Q (some (vI ((g 21) 3))) g) : EV d mX7_count Q 96 [vR 0, vI v1] [] g := by
  refine wp_aload_n dX7_count_96 rfl rfl ?_
  refine wp_get (v := vR 21) dX7_count_97 fl_7_36 L_0 rfl ?_
  refine wp_get (v := vI ((g 21) 3)) dX7_count_100 fl_7_166 L_21 rfl ?_
  exact wp_iret dX7_count_103 rfl hq
theorem b_X7_count_104 {d : Nat} {Q : Option pV → pG → Prop} {g : pG} {v1 : Int} {R : Int → pG → Prop} (hc : CT d mX3_notZero [vR 5] g (qI R)) (k : ∀ (x : Int) (gg : pG), R x gg → EV d mX7_count Q 114 [vR 0, vI v1] [vI x] gg) : EV d mX7_count Q 104 [vR 0, vI v1] [] g := by
  refine wp_aload_n dX7_count_104 rfl rfl ?_
  refine wp_get (v := vR 1) dX7_count_105 fl_7_10 L_0 rfl ?_
  refine wp_get (v := vR 5) dX7_count_108 fl_7_118 L_1 rfl ?_
  exact wp_callvI (As := []) dX7_count_111 ml_7_344 (by decide) rfl L_5 (by decide) rfl (Nat.le_of_ble_eq_true rfl) rfl (Nat.le_refl _) (Nat.le_refl _) hc k
theorem b_X7_count_114 {d : Nat} {Q : Option pV → pG → Prop} {g : pG} {v1 vs0 : Int} (hq : Q (some (vI vs0)) g) : EV d mX7_count Q 114 [vR 0, vI v1] [vI vs0] g := by
  exact wp_iret dX7_count_114 rfl hq
theorem b_X7_count_115 {d : Nat} {Q : Option pV → pG → Prop} {g : pG} {v1 : Int} (k1 : (v1 < 11) → EV d mX7_count Q 139 [vR 0, vI v1] [] g) (k2 : ¬ (v1 < 11) → EV d mX7_count Q 121 [vR 0, vI v1] [] g) : EV d mX7_count Q 115 [vR 0, vI v1] [] g := by
  refine wp_iload_n dX7_count_115 rfl ?_
  refine wp_bipush dX7_count_116 kb_11 kc_11 ?_
  exact wp_icmp_lt (tgt := 139) dX7_count_118 rfl k1 k2
theorem b_X7_count_121 {d : Nat} {Q : Option pV → pG → Prop} {g : pG} {v1 : Int} (k1 : (16 < v1) → EV d mX7_count Q 139 [vR 0, vI v1] [] g) (k2 : ¬ (16 < v1) → EV d mX7_count Q 127 [vR 0, vI v1] [] g) : EV d mX7_count Q 121 [vR 0, vI v1] [] g := by
  refine wp_iload_n dX7_count_121 rfl ?_
  refine wp_bipush dX7_count_122 kb_16 kc_16 ?_
  exact wp_icmp_gt (tgt := 139) dX7_count_124 rfl k1 k2
theorem b_X7_count_127 {d : Nat} {Q : Option pV → pG → Prop} {g : pG} {v1 : Int} (h1 : 0 ≤ w32 (v1 - 10)) (h2 : w32 (v1 - 10) < 7) (hq : Q (some (vI ((g 26) (w32 (v1 - 10)).toNat))) g) : EV d mX7_count Q 127 [vR 0, vI v1] [] g := by
  refine wp_aload_n dX7_count_127 rfl rfl ?_
  refine wp_get (v := vR 26) dX7_count_128 fl_7_48 L_0 rfl ?_
  refine wp_iload_n dX7_count_131 rfl ?_
  refine wp_bipush dX7_count_132 kb_10 kc_10 ?_
  refine wp_isub dX7_count_134 ?_
  refine wp_iaload dX7_count_135 h1 L_26 h2 ?_
  refine wp_goto (tgt := 141) dX7_count_136 rfl ?_
  exact wp_iret dX7_count_141 rfl hq
theorem b_X7_count_139 {d : Nat} {Q : Option pV → pG → Prop} {g : pG} {v1 : Int} (hq : Q (some (vI (-9))) g) : EV d mX7_count Q 139 [vR 0, vI v1] [] g := by
  refine wp_bipush dX7_count_139 kb_m9 kc_m9 ?_
  exact wp_iret dX7_count_141 rfl hq
