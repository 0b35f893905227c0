theorem b_X7_feed_0 {d : Nat} {Q : Option pV → pG → Prop} {g : pG} {v1 : Int} (k1 : (0 ≤ v1) → EV d mX7_feed Q 11 [vR 0, vI v1] [] g) (k2 : ¬ (0 ≤ v1) → EV d mX7_feed Q 4 [vR 0, vI v1] [] g) : EV d mX7_feed Q 0 [vR 0, vI v1] [] g := by
  refine wp_iload_n dX7_feed_0 rfl ?_
  exact wp_if_ge (tgt := 11) dX7_feed_1 rfl k1 k2
theorem b_X7_feed_4 {d : Nat} {Q : Option pV → pG → Prop} {g : pG} {v1 : Int} {R : Int → pG → Prop} (hc : CT d mX7_refuse [vR 0, vI (-4)] g (qI R)) (k : ∀ (x : Int) (gg : pG), R x gg → EV d mX7_feed Q 10 [vR 0, vI v1] [vI x] gg) : EV d mX7_feed Q 4 [vR 0, vI v1] [] g := by
  refine wp_aload_n dX7_feed_4 rfl rfl ?_
  refine wp_bipush dX7_feed_5 kb_m4 kc_m4 ?_
  exact wp_callvI (As := [vI (-4)]) dX7_feed_7 ml_7_91 (by decide) rfl L_0 (by decide) rfl (Nat.le_of_ble_eq_true rfl) rfl (Nat.le_refl _) (Nat.le_refl _) hc k
theorem b_X7_feed_10 {d : Nat} {Q : Option pV → pG → Prop} {g : pG} {v1 vs0 : Int} (hq : Q (some (vI vs0)) g) : EV d mX7_feed Q 10 [vR 0, vI v1] [vI vs0] g := by
  exact wp_iret dX7_feed_10 rfl hq
theorem b_X7_feed_11 {d : Nat} {Q : Option pV → pG → Prop} {g : pG} {v1 : Int} (k1 : (255 < v1) → EV d mX7_feed Q 30 [vR 0, vI v1] [] g) (k2 : ¬ (255 < v1) → EV d mX7_feed Q 18 [vR 0, vI v1] [] g) : EV d mX7_feed Q 11 [vR 0, vI v1] [] g := by
  refine wp_iload_n dX7_feed_11 rfl ?_
  refine wp_sipush dX7_feed_12 ks_255 kc_255 ?_
  exact wp_icmp_gt (tgt := 30) dX7_feed_15 rfl k1 k2
theorem b_X7_feed_18 {d : Nat} {Q : Option pV → pG → Prop} {g : pG} {v1 : Int} (k1 : ((g 19) 1 < 96) → EV d mX7_feed Q 37 [vR 0, vI v1] [] g) (k2 : ¬ ((g 19) 1 < 96) → EV d mX7_feed Q 30 [vR 0, vI v1] [] g) : EV d mX7_feed Q 18 [vR 0, vI v1] [] g := by
  refine wp_aload_n dX7_feed_18 rfl rfl ?_
  refine wp_get (v := vR 19) dX7_feed_19 fl_7_29 L_0 rfl ?_
  refine wp_get (v := vI ((g 19) 1)) dX7_feed_22 fl_7_95 L_19 rfl ?_
  refine wp_bipush dX7_feed_25 kb_96 kc_96 ?_
  exact wp_icmp_lt (tgt := 37) dX7_feed_27 rfl k1 k2
theorem b_X7_feed_30 {d : Nat} {Q : Option pV → pG → Prop} {g : pG} {v1 : Int} {R : Int → pG → Prop} (hc : CT d mX7_refuse [vR 0, vI (-6)] g (qI R)) (k : ∀ (x : Int) (gg : pG), R x gg → EV d mX7_feed Q 36 [vR 0, vI v1] [vI x] gg) : EV d mX7_feed Q 30 [vR 0, vI v1] [] g := by
  refine wp_aload_n dX7_feed_30 rfl rfl ?_
  refine wp_bipush dX7_feed_31 kb_m6 kc_m6 ?_
  exact wp_callvI (As := [vI (-6)]) dX7_feed_33 ml_7_91 (by decide) rfl L_0 (by decide) rfl (Nat.le_of_ble_eq_true rfl) rfl (Nat.le_refl _) (Nat.le_refl _) hc k
theorem b_X7_feed_36 {d : Nat} {Q : Option pV → pG → Prop} {g : pG} {v1 vs0 : Int} (hq : Q (some (vI vs0)) g) : EV d mX7_feed Q 36 [vR 0, vI v1] [vI vs0] g := by
  exact wp_iret dX7_feed_36 rfl hq
theorem b_X7_feed_37 {d : Nat} {Q : Option pV → pG → Prop} {g : pG} {v1 : Int} {R : Int → pG → Prop} (hc : CT d mX2_take [vR 19, vI v1] g (qI R)) (k : ∀ (x : Int) (gg : pG), R x gg → EV d mX7_feed Q 45 [vR 0, vI v1] [vI x] gg) : EV d mX7_feed Q 37 [vR 0, vI v1] [] g := by
  refine wp_aload_n dX7_feed_37 rfl rfl ?_
  refine wp_get (v := vR 19) dX7_feed_38 fl_7_29 L_0 rfl ?_
  refine wp_iload_n dX7_feed_41 rfl ?_
  exact wp_callvI (As := [vI v1]) dX7_feed_42 ml_7_98 (by decide) rfl L_19 (by decide) rfl (Nat.le_of_ble_eq_true rfl) rfl (Nat.le_refl _) (Nat.le_refl _) hc k
theorem b_X7_feed_45 {d : Nat} {Q : Option pV → pG → Prop} {g : pG} {v1 vs0 : Int} (hq : Q (some (vI vs0)) g) : EV d mX7_feed Q 45 [vR 0, vI v1] [vI vs0] g := by
  exact wp_iret dX7_feed_45 rfl hq
theorem b_X7_refuse_0 {d : Nat} {Q : Option pV → pG → Prop} {g : pG} {v1 : Int} (k1 : (w32 (-v1) ≤ 0) → EV d mX7_refuse Q 26 [vR 0, vI v1, vI (w32 (-v1))] [] g) (k2 : ¬ (w32 (-v1) ≤ 0) → EV d mX7_refuse Q 7 [vR 0, vI v1, vI (w32 (-v1))] [] g) : EV d mX7_refuse Q 0 [vR 0, vI v1, vX 2] [] g := by
  refine wp_iload_n dX7_refuse_0 rfl ?_
  refine wp_ineg dX7_refuse_1 ?_
  refine wp_istore_n dX7_refuse_2 (Nat.le_of_ble_eq_true rfl) (pp (c := 1) rfl rfl) ?_
  refine wp_iload_n dX7_refuse_3 rfl ?_
  exact wp_if_le (tgt := 26) dX7_refuse_4 rfl k1 k2
theorem b_X7_refuse_7 {d : Nat} {Q : Option pV → pG → Prop} {g : pG} {v1 v2 : Int} (k1 : (7 ≤ v2) → EV d mX7_refuse Q 26 [vR 0, vI v1, vI v2] [] g) (k2 : ¬ (7 ≤ v2) → EV d mX7_refuse Q 16 [vR 0, vI v1, vI v2] [] g) : EV d mX7_refuse Q 7 [vR 0, vI v1, vI v2] [] g := by
  refine wp_iload_n dX7_refuse_7 rfl ?_
  refine wp_aload_n dX7_refuse_8 rfl rfl ?_
  refine wp_get (v := vR 26) dX7_refuse_9 fl_7_48 L_0 rfl ?_
  refine wp_alen (N := 7) dX7_refuse_12 L_26 (by decide) (by decide) kc_7 ?_
  exact wp_icmp_ge (tgt := 26) dX7_refuse_13 rfl k1 k2
theorem b_X7_refuse_16 {d : Nat} {Q : Option pV → pG → Prop} {g : pG} {v1 v2 : Int} (h1 : 0 ≤ v2) (h2 : v2 < 7) (hq : Q (some (vI v1)) (cset g 26 (fup (g 26) v2.toNat (w32 (((g 26) v2.toNat) + 1))))) : EV d mX7_refuse Q 16 [vR 0, vI v1, vI v2] [] g := by
  refine wp_aload_n dX7_refuse_16 rfl rfl ?_
  refine wp_get (v := vR 26) dX7_refuse_17 fl_7_48 L_0 rfl ?_
  refine wp_iload_n dX7_refuse_20 rfl ?_
  refine wp_dup2 dX7_refuse_21 rfl rfl ?_
  refine wp_iaload dX7_refuse_22 h1 L_26 h2 ?_
  refine wp_iconst dX7_refuse_23 kc_1 ?_
  refine wp_iadd dX7_refuse_24 ?_
  refine wp_iastore dX7_refuse_25 h1 L_26 h2 ?_
  refine wp_iload_n dX7_refuse_26 rfl ?_
  exact wp_iret dX7_refuse_27 rfl hq
theorem b_X7_refuse_26 {d : Nat} {Q : Option pV → pG → Prop} {g : pG} {v1 v2 : Int} (hq : Q (some (vI v1)) g) : EV d mX7_refuse Q 26 [vR 0, vI v1, vI v2] [] g := by
  refine wp_iload_n dX7_refuse_26 rfl ?_
  exact wp_iret dX7_refuse_27 rfl hq
theorem b_X7_caseOf_0 {d : Nat} {Q : Option pV → pG → Prop} {g : pG} {R : Int → pG → Prop} (hc : CT d mX7_tellLetters [vR 0] g (qI R)) (k : ∀ (x : Int) (gg : pG), R x gg → EV d mX7_caseOf Q 4 [vR 0, vX 2] [vI x] gg) : EV d mX7_caseOf Q 0 [vR 0, vX 2] [] g := by
  refine wp_aload_n dX7_caseOf_0 rfl rfl ?_
  exact wp_callvI (As := []) dX7_caseOf_1 ml_7_101 (by decide) rfl L_0 (by decide) rfl (Nat.le_of_ble_eq_true rfl) rfl (Nat.le_refl _) (Nat.le_refl _) hc k
theorem b_X7_caseOf_4 {d : Nat} {Q : Option pV → pG → Prop} {g : pG} {vs0 : Int} (hq : Q (some (vI vs0)) (cset g 19 (fup (g 19) 1 0))) : EV d mX7_caseOf Q 4 [vR 0, vX 2] [vI vs0] g := by
  refine wp_istore_n dX7_caseOf_4 (Nat.le_of_ble_eq_true rfl) (pp (c := 0) rfl rfl) ?_
  refine wp_aload_n dX7_caseOf_5 rfl rfl ?_
  refine wp_get (v := vR 19) dX7_caseOf_6 fl_7_29 L_0 rfl ?_
  refine wp_iconst dX7_caseOf_9 kc_0 ?_
  refine wp_putI dX7_caseOf_10 fl_7_95 L_19 rfl rfl ?_
  refine wp_iload_n dX7_caseOf_13 rfl ?_
  exact wp_iret dX7_caseOf_14 rfl hq
theorem b_X7_tellLetters_0 {d : Nat} {Q : Option pV → pG → Prop} {g : pG} {R : Int → pG → Prop} (hc : CT d mX2_firstBad [vR 19] g (qI R)) (k : ∀ (x : Int) (gg : pG), R x gg → EV d mX7_tellLetters Q 7 [vR 0, vX 2, vX 2, vX 2] [vI x] gg) : EV d mX7_tellLetters Q 0 [vR 0, vX 2, vX 2, vX 2] [] g := by
  refine wp_aload_n dX7_tellLetters_0 rfl rfl ?_
  refine wp_get (v := vR 19) dX7_tellLetters_1 fl_7_29 L_0 rfl ?_
  exact wp_callvI (As := []) dX7_tellLetters_4 ml_7_349 (by decide) rfl L_19 (by decide) rfl (Nat.le_of_ble_eq_true rfl) rfl (Nat.le_refl _) (Nat.le_refl _) hc k
theorem b_X7_tellLetters_7 {d : Nat} {Q : Option pV → pG → Prop} {g : pG} {vs0 : Int} (k1 : (vs0 < 0) → EV d mX7_tellLetters Q 18 [vR 0, vI vs0, vX 2, vX 2] [] g) (k2 : ¬ (vs0 < 0) → EV d mX7_tellLetters Q 12 [vR 0, vI vs0, vX 2, vX 2] [] g) : EV d mX7_tellLetters Q 7 [vR 0, vX 2, vX 2, vX 2] [vI vs0] g := by
  refine wp_istore_n dX7_tellLetters_7 (Nat.le_of_ble_eq_true rfl) (pp (c := 0) rfl rfl) ?_
  refine wp_iload_n dX7_tellLetters_8 rfl ?_
  exact wp_if_lt (tgt := 18) dX7_tellLetters_9 rfl k1 k2
theorem b_X7_tellLetters_12 {d : Nat} {Q : Option pV → pG → Prop} {g : pG} {v1 : Int} (hq : Q (some (vI (w32 ((-1000) - v1)))) g) : EV d mX7_tellLetters Q 12 [vR 0, vI v1, vX 2, vX 2] [] g := by
  refine wp_sipush dX7_tellLetters_12 ks_m1000 kc_m1000 ?_
  refine wp_iload_n dX7_tellLetters_15 rfl ?_
  refine wp_isub dX7_tellLetters_16 ?_
  exact wp_iret dX7_tellLetters_17 rfl hq
theorem b_X7_tellLetters_18 {d : Nat} {Q : Option pV → pG → Prop} {g : pG} {v1 : Int} {R : pG → Prop} (hc : CT d mX5_copyFrom [vR 7, vR 1] g (qV R)) (k : ∀ gg : pG, R gg → EV d mX7_tellLetters Q 29 [vR 0, vI v1, vX 2, vX 2] [] gg) : EV d mX7_tellLetters Q 18 [vR 0, vI v1, vX 2, vX 2] [] g := by
  refine wp_aload_n dX7_tellLetters_18 rfl rfl ?_
  refine wp_get (v := vR 7) dX7_tellLetters_19 fl_7_16 L_0 rfl ?_
  refine wp_aload_n dX7_tellLetters_22 rfl rfl ?_
  refine wp_get (v := vR 1) dX7_tellLetters_23 fl_7_10 L_0 rfl ?_
  exact wp_callvV (As := [vR 1]) dX7_tellLetters_26 ml_7_341 (by decide) rfl L_7 (by decide) rfl (Nat.le_of_ble_eq_true rfl) rfl (Nat.le_refl _) (Nat.le_refl _) hc k
theorem b_X7_tellLetters_29 {d : Nat} {Q : Option pV → pG → Prop} {g : pG} {v1 : Int} (k : EV d mX7_tellLetters Q 33 [vR 0, vI v1, vI 0, vI 0] [] g) : EV d mX7_tellLetters Q 29 [vR 0, vI v1, vX 2, vX 2] [] g := by
  refine wp_iconst dX7_tellLetters_29 kc_0 ?_
  refine wp_istore_n dX7_tellLetters_30 (Nat.le_of_ble_eq_true rfl) (pp (c := 1) rfl rfl) ?_
  refine wp_iconst dX7_tellLetters_31 kc_0 ?_
  refine wp_istore_n dX7_tellLetters_32 (Nat.le_of_ble_eq_true rfl) (pp (c := 2) rfl rfl) ?_
  exact k
theorem b_X7_tellLetters_33 {d : Nat} {Q : Option pV → pG → Prop} {g : pG} {v1 v2 v3 : Int} (k1 : ((g 19) 1 ≤ v3) → EV d mX7_tellLetters Q 85 [vR 0, vI v1, vI v2, vI v3] [] g) (k2 : ¬ ((g 19) 1 ≤ v3) → EV d mX7_tellLetters Q 44 [vR 0, vI v1, vI v2, vI v3] [] g) : EV d mX7_tellLetters Q 33 [vR 0, vI v1, vI v2, vI v3] [] g := by
  refine wp_iload_n dX7_tellLetters_33 rfl ?_
  refine wp_aload_n dX7_tellLetters_34 rfl rfl ?_
  refine wp_get (v := vR 19) dX7_tellLetters_35 fl_7_29 L_0 rfl ?_
  refine wp_get (v := vI ((g 19) 1)) dX7_tellLetters_38 fl_7_95 L_19 rfl ?_
  exact wp_icmp_ge (tgt := 85) dX7_tellLetters_41 rfl k1 k2
theorem b_X7_tellLetters_44 {d : Nat} {Q : Option pV → pG → Prop} {g : pG} {v1 v2 v3 : Int} {R : Int → pG → Prop} (hc : CT d mX2_beginsAt [vR 19, vI v3] g (qI R)) (k : ∀ (x : Int) (gg : pG), R x gg → EV d mX7_tellLetters Q 52 [vR 0, vI v1, vI v2, vI v3] [vI x] gg) : EV d mX7_tellLetters Q 44 [vR 0, vI v1, vI v2, vI v3] [] g := by
  refine wp_aload_n dX7_tellLetters_44 rfl rfl ?_
  refine wp_get (v := vR 19) dX7_tellLetters_45 fl_7_29 L_0 rfl ?_
  refine wp_iload_n dX7_tellLetters_48 rfl ?_
  exact wp_callvI (As := [vI v3]) dX7_tellLetters_49 ml_7_352 (by decide) rfl L_19 (by decide) rfl (Nat.le_of_ble_eq_true rfl) rfl (Nat.le_refl _) (Nat.le_refl _) hc k
theorem b_X7_tellLetters_52 {d : Nat} {Q : Option pV → pG → Prop} {g : pG} {v1 v2 v3 vs0 : Int} (k1 : (vs0 = 0) → EV d mX7_tellLetters Q 79 [vR 0, vI v1, vI v2, vI v3] [] g) (k2 : ¬ (vs0 = 0) → EV d mX7_tellLetters Q 55 [vR 0, vI v1, vI v2, vI v3] [] g) : EV d mX7_tellLetters Q 52 [vR 0, vI v1, vI v2, vI v3] [vI vs0] g := by
  exact wp_if_eq (tgt := 79) dX7_tellLetters_52 rfl k1 k2
theorem b_X7_tellLetters_55 {d : Nat} {Q : Option pV → pG → Prop} {g : pG} {v1 v2 v3 : Int} {R : Int → pG → Prop} (hc : CT d mX2_tellOne [vR 19, vI v3, vR 7] g (qI R)) (k : ∀ (x : Int) (gg : pG), R x gg → EV d mX7_tellLetters Q 67 [vR 0, vI v1, vI v2, vI v3] [vI x] gg) : EV d mX7_tellLetters Q 55 [vR 0, vI v1, vI v2, vI v3] [] g := by
  refine wp_aload_n dX7_tellLetters_55 rfl rfl ?_
  refine wp_get (v := vR 19) dX7_tellLetters_56 fl_7_29 L_0 rfl ?_
  refine wp_iload_n dX7_tellLetters_59 rfl ?_
  refine wp_aload_n dX7_tellLetters_60 rfl rfl ?_
  refine wp_get (v := vR 7) dX7_tellLetters_61 fl_7_16 L_0 rfl ?_
  exact wp_callvI (As := [vI v3, vR 7]) dX7_tellLetters_64 ml_7_355 (by decide) rfl L_19 (by decide) rfl (Nat.le_of_ble_eq_true rfl) rfl (Nat.le_refl _) (Nat.le_refl _) hc k
theorem b_X7_tellLetters_67 {d : Nat} {Q : Option pV → pG → Prop} {g : pG} {v1 v2 v3 vs0 : Int} (k1 : (vs0 ≠ 0) → EV d mX7_tellLetters Q 76 [vR 0, vI v1, vI v2, vI v3] [] g) (k2 : ¬ (vs0 ≠ 0) → EV d mX7_tellLetters Q 70 [vR 0, vI v1, vI v2, vI v3] [] g) : EV d mX7_tellLetters Q 67 [vR 0, vI v1, vI v2, vI v3] [vI vs0] g := by
  exact wp_if_ne (tgt := 76) dX7_tellLetters_67 rfl k1 k2
theorem b_X7_tellLetters_70 {d : Nat} {Q : Option pV → pG → Prop} {g : pG} {v1 v2 v3 : Int} (hq : Q (some (vI (w32 ((-2000) - v3)))) g) : EV d mX7_tellLetters Q 70 [vR 0, vI v1, vI v2, vI v3] [] g := by
  refine wp_sipush dX7_tellLetters_70 ks_m2000 kc_m2000 ?_
  refine wp_iload_n dX7_tellLetters_73 rfl ?_
  refine wp_isub dX7_tellLetters_74 ?_
  exact wp_iret dX7_tellLetters_75 rfl hq
theorem b_X7_tellLetters_76 {d : Nat} {Q : Option pV → pG → Prop} {g : pG} {v1 v2 v3 : Int} (k : EV d mX7_tellLetters Q 33 [vR 0, vI v1, vI (w32 (v2 + 1)), vI (w32 (v3 + 1))] [] g) : EV d mX7_tellLetters Q 76 [vR 0, vI v1, vI v2, vI v3] [] g := by
  refine wp_iinc dX7_tellLetters_76 rfl (Nat.le_of_ble_eq_true rfl) (pp (c := 1) rfl rfl) ?_
  refine wp_iinc dX7_tellLetters_79 rfl (Nat.le_of_ble_eq_true rfl) (pp (c := 2) rfl rfl) ?_
  refine wp_goto (tgt := 33) dX7_tellLetters_82 rfl ?_
  exact k
theorem b_X7_tellLetters_79 {d : Nat} {Q : Option pV → pG → Prop} {g : pG} {v1 v2 v3 : Int} (k : EV d mX7_tellLetters Q 33 [vR 0, vI v1, vI v2, vI (w32 (v3 + 1))] [] g) : EV d mX7_tellLetters Q 79 [vR 0, vI v1, vI v2, vI v3] [] g := by
  refine wp_iinc dX7_tellLetters_79 rfl (Nat.le_of_ble_eq_true rfl) (pp (c := 2) rfl rfl) ?_
  refine wp_goto (tgt := 33) dX7_tellLetters_82 rfl ?_
  exact k
theorem b_X7_tellLetters_85 {d : Nat} {Q : Option pV → pG → Prop} {g : pG} {v1 v2 v3 : Int} {R : pG → Prop} (hc : CT d mX5_copyFrom [vR 1, vR 7] g (qV R)) (k : ∀ gg : pG, R gg → EV d mX7_tellLetters Q 96 [vR 0, vI v1, vI v2, vI v3] [] gg) : EV d mX7_tellLetters Q 85 [vR 0, vI v1, vI v2, vI v3] [] g := by
  refine wp_aload_n dX7_tellLetters_85 rfl rfl ?_
  refine wp_get (v := vR 1) dX7_tellLetters_86 fl_7_10 L_0 rfl ?_
  refine wp_aload_n dX7_tellLetters_89 rfl rfl ?_
  refine wp_get (v := vR 7) dX7_tellLetters_90 fl_7_16 L_0 rfl ?_
  exact wp_callvV (As := [vR 7]) dX7_tellLetters_93 ml_7_341 (by decide) rfl L_1 (by decide) rfl (Nat.le_of_ble_eq_true rfl) rfl (Nat.le_refl _) (Nat.le_refl _) hc k
theorem b_X7_tellLetters_96 {d : Nat} {Q : Option pV → pG → Prop} {g : pG} {v1 v2 v3 : Int} (hq : Q (some (vI v2)) (cset g 21 (fup (g 21) 3 0))) : EV d mX7_tellLetters Q 96 [vR 0, vI v1, vI v2, vI v3] [] g := by
  refine wp_aload_n dX7_tellLetters_96 rfl rfl ?_
  refine wp_get (v := vR 21) dX7_tellLetters_97 fl_7_36 L_0 rfl ?_
  refine wp_iconst dX7_tellLetters_100 kc_0 ?_
  refine wp_putI dX7_tellLetters_101 fl_7_166 L_21 rfl rfl ?_
  refine wp_iload_n dX7_tellLetters_104 rfl ?_
  exact wp_iret dX7_tellLetters_105 rfl hq
theorem b_X7_isKind_0 {d : Nat} {Q : Option pV → pG → Prop} {g : pG} {v0 : Int} (k1 : (v0 < 0) → EV d mX7_isKind Q 14 [vI v0] [] g) (k2 : ¬ (v0 < 0) → EV d mX7_isKind Q 4 [vI v0] [] g) : EV d mX7_isKind Q 0 [vI v0] [] g := by
  refine wp_iload_n dX7_isKind_0 rfl ?_
  exact wp_if_lt (tgt := 14) dX7_isKind_1 rfl k1 k2
theorem b_X7_isKind_4 {d : Nat} {Q : Option pV → pG → Prop} {g : pG} {v0 : Int} (k1 : (6 ≤ v0) → EV d mX7_isKind Q 14 [vI v0] [] g) (k2 : ¬ (6 ≤ v0) → EV d mX7_isKind Q 10 [vI v0] [] g) : EV d mX7_isKind Q 4 [vI v0] [] g := by
  refine wp_iload_n dX7_isKind_4 rfl ?_
  refine wp_bipush dX7_isKind_5 kb_6 kc_6 ?_
  exact wp_icmp_ge (tgt := 14) dX7_isKind_7 rfl k1 k2
theorem b_X7_isKind_10 {d : Nat} {Q : Option pV → pG → Prop} {g : pG} {v0 : Int} (hq : Q (some (vI 1)) g) : EV d mX7_isKind Q 10 [vI v0] [] g := by
  refine wp_iconst dX7_isKind_10 kc_1 ?_
  refine wp_goto (tgt := 15) dX7_isKind_11 rfl ?_
  exact wp_zret dX7_isKind_15 rfl (Or.inr rfl) hq
theorem b_X7_isKind_14 {d : Nat} {Q : Option pV → pG → Prop} {g : pG} {v0 : Int} (hq : Q (some (vI 0)) g) : EV d mX7_isKind Q 14 [vI v0] [] g := by
  refine wp_iconst dX7_isKind_14 kc_0 ?_
  exact wp_zret dX7_isKind_15 rfl (Or.inl rfl) hq
theorem b_X7_outside_0 {d : Nat} {Q : Option pV → pG → Prop} {g : pG} {v0 v1 v2 : Int} (k1 : (v1 ≤ v0) → EV d mX7_outside Q 8 [vI v0, vI v1, vI v2] [] g) (k2 : ¬ (v1 ≤ v0) → EV d mX7_outside Q 5 [vI v0, vI v1, vI v2] [] g) : EV d mX7_outside Q 0 [vI v0, vI v1, vI v2] [] g := by
  refine wp_iload_n dX7_outside_0 rfl ?_
  refine wp_iload_n dX7_outside_1 rfl ?_
  exact wp_icmp_ge (tgt := 8) dX7_outside_2 rfl k1 k2
theorem b_X7_outside_5 {d : Nat} {Q : Option pV → pG → Prop} {g : pG} {v0 v1 v2 : Int} (hq : Q (some (vI (-4))) g) : EV d mX7_outside Q 5 [vI v0, vI v1, vI v2] [] g := by
  refine wp_bipush dX7_outside_5 kb_m4 kc_m4 ?_
  exact wp_iret dX7_outside_7 rfl hq
theorem b_X7_outside_8 {d : Nat} {Q : Option pV → pG → Prop} {g : pG} {v0 v1 v2 : Int} (k1 : (v0 ≤ v2) → EV d mX7_outside Q 18 [vI v0, vI v1, vI v2] [] g) (k2 : ¬ (v0 ≤ v2) → EV d mX7_outside Q 13 [vI v0, vI v1, vI v2] [] g) : EV d mX7_outside Q 8 [vI v0, vI v1, vI v2] [] g := by
  refine wp_iload_n dX7_outside_8 rfl ?_
  refine wp_iload_n dX7_outside_9 rfl ?_
  exact wp_icmp_le (tgt := 18) dX7_outside_10 rfl k1 k2
theorem b_X7_outside_13 {d : Nat} {Q : Option pV → pG → Prop} {g : pG} {v0 v1 v2 : Int} (hq : Q (some (vI (-6))) g) : EV d mX7_outside Q 13 [vI v0, vI v1, vI v2] [] g := by
  refine wp_bipush dX7_outside_13 kb_m6 kc_m6 ?_
  refine wp_goto (tgt := 19) dX7_outside_15 rfl ?_
  exact wp_iret dX7_outside_19 rfl hq
theorem b_X7_outside_18 {d : Nat} {Q : Option pV → pG → Prop} {g : pG} {v0 v1 v2 : Int} (hq : Q (some (vI 0)) g) : EV d mX7_outside Q 18 [vI v0, vI v1, vI v2] [] g := by
  refine wp_iconst dX7_outside_18 kc_0 ?_
  exact wp_iret dX7_outside_19 rfl hq
theorem b_X7_court_0 {d : Nat} {Q : Option pV → pG → Prop} {g : pG} {v1 v2 : Int} {R : Int → pG → Prop} (hc : CT d mX5_hasCourt [vR 1, vI v1] g (qI R)) (k : ∀ (x : Int) (gg : pG), R x gg → EV d mX7_court Q 8 [vR 0, vI v1, vI v2] [vI x] gg) : EV d mX7_court Q 0 [vR 0, vI v1, vI v2] [] g := by
  refine wp_aload_n dX7_court_0 rfl rfl ?_
  refine wp_get (v := vR 1) dX7_court_1 fl_7_10 L_0 rfl ?_
  refine wp_iload_n dX7_court_4 rfl ?_
  exact wp_callvI (As := [vI v1]) dX7_court_5 ml_7_105 (by decide) rfl L_1 (by decide) rfl (Nat.le_of_ble_eq_true rfl) rfl (Nat.le_refl _) (Nat.le_refl _) hc k
theorem b_X7_court_8 {d : Nat} {Q : Option pV → pG → Prop} {g : pG} {v1 v2 vs0 : Int} (k1 : (vs0 ≠ 0) → EV d mX7_court Q 17 [vR 0, vI v1, vI v2] [] g) (k2 : ¬ (vs0 ≠ 0) → EV d mX7_court Q 11 [vR 0, vI v1, vI v2] [] g) : EV d mX7_court Q 8 [vR 0, vI v1, vI v2] [vI vs0] g := by
  exact wp_if_ne (tgt := 17) dX7_court_8 rfl k1 k2
theorem b_X7_court_11 {d : Nat} {Q : Option pV → pG → Prop} {g : pG} {v1 v2 : Int} {R : Int → pG → Prop} (hc : CT d mX7_refuse [vR 0, vI (-1)] g (qI R)) (k : ∀ (x : Int) (gg : pG), R x gg → EV d mX7_court Q 16 [vR 0, vI v1, vI v2] [vI x] gg) : EV d mX7_court Q 11 [vR 0, vI v1, vI v2] [] g := by
  refine wp_aload_n dX7_court_11 rfl rfl ?_
  refine wp_iconst dX7_court_12 kc_m1 ?_
  exact wp_callvI (As := [vI (-1)]) dX7_court_13 ml_7_91 (by decide) rfl L_0 (by decide) rfl (Nat.le_of_ble_eq_true rfl) rfl (Nat.le_refl _) (Nat.le_refl _) hc k
theorem b_X7_court_16 {d : Nat} {Q : Option pV → pG → Prop} {g : pG} {v1 v2 vs0 : Int} (hq : Q (some (vI vs0)) g) : EV d mX7_court Q 16 [vR 0, vI v1, vI v2] [vI vs0] g := by
  exact wp_iret dX7_court_16 rfl hq
theorem b_X7_court_17 {d : Nat} {Q : Option pV → pG → Prop} {g : pG} {v1 v2 : Int} (k0 : v2 = 0 → EV d mX7_court Q 44 [vR 0, vI v1, vI v2] [] g) (k1 : v2 = 1 → EV d mX7_court Q 54 [vR 0, vI v1, vI v2] [] g) (k2 : v2 = 2 → EV d mX7_court Q 64 [vR 0, vI v1, vI v2] [] g) (kd : (v2 ≠ 0 ∧ v2 ≠ 1 ∧ v2 ≠ 2) → EV d mX7_court Q 74 [vR 0, vI v1, vI v2] [] g) : EV d mX7_court Q 17 [vR 0, vI v1, vI v2] [] g := by
  refine wp_iload_n dX7_court_17 rfl ?_
  refine wp_tsw (x := v2) dX7_court_18 (fun hh => ⟨74, rfl, kd (by omega)⟩) (fun hh hh2 => ?_)
  rcases (show v2 = 0 ∨ v2 = 1 ∨ v2 = 2 by omega) with hq | hq | hq
  · exact ⟨26, 44, by rw [hq]; rfl, rfl, k0 hq⟩
  · exact ⟨36, 54, by rw [hq]; rfl, rfl, k1 hq⟩
  · exact ⟨46, 64, by rw [hq]; rfl, rfl, k2 hq⟩
theorem b_X7_court_44 {d : Nat} {Q : Option pV → pG → Prop} {g : pG} {v1 v2 : Int} (h1 : 0 ≤ v1) (h2 : v1 < 7) (hq : Q (some (vI ((g 2) v1.toNat))) g) : EV d mX7_court Q 44 [vR 0, vI v1, vI v2] [] g := by
  refine wp_aload_n dX7_court_44 rfl rfl ?_
  refine wp_get (v := vR 1) dX7_court_45 fl_7_10 L_0 rfl ?_
  refine wp_get (v := vR 2) dX7_court_48 fl_7_109 L_1 rfl ?_
  refine wp_iload_n dX7_court_51 rfl ?_
  refine wp_iaload dX7_court_52 h1 L_2 h2 ?_
  exact wp_iret dX7_court_53 rfl hq
theorem b_X7_court_54 {d : Nat} {Q : Option pV → pG → Prop} {g : pG} {v1 v2 : Int} (h1 : 0 ≤ v1) (h2 : v1 < 7) (hq : Q (some (vI ((g 3) v1.toNat))) g) : EV d mX7_court Q 54 [vR 0, vI v1, vI v2] [] g := by
  refine wp_aload_n dX7_court_54 rfl rfl ?_
  refine wp_get (v := vR 1) dX7_court_55 fl_7_10 L_0 rfl ?_
  refine wp_get (v := vR 3) dX7_court_58 fl_7_112 L_1 rfl ?_
  refine wp_iload_n dX7_court_61 rfl ?_
  refine wp_iaload dX7_court_62 h1 L_3 h2 ?_
  exact wp_iret dX7_court_63 rfl hq
theorem b_X7_court_64 {d : Nat} {Q : Option pV → pG → Prop} {g : pG} {v1 v2 : Int} (h1 : 0 ≤ v1) (h2 : v1 < 7) (hq : Q (some (vI ((g 4) v1.toNat))) g) : EV d mX7_court Q 64 [vR 0, vI v1, vI v2] [] g := by
  refine wp_aload_n dX7_court_64 rfl rfl ?_
  refine wp_get (v := vR 1) dX7_court_65 fl_7_10 L_0 rfl ?_
  refine wp_get (v := vR 4) dX7_court_68 fl_7_115 L_1 rfl ?_
  refine wp_iload_n dX7_court_71 rfl ?_
  refine wp_iaload dX7_court_72 h1 L_4 h2 ?_
  exact wp_iret dX7_court_73 rfl hq
theorem b_X7_court_74 {d : Nat} {Q : Option pV → pG → Prop} {g : pG} {v1 v2 : Int} {R : Int → pG → Prop} (hc : CT d mX7_refuse [vR 0, vI (-2)] g (qI R)) (k : ∀ (x : Int) (gg : pG), R x gg → EV d mX7_court Q 80 [vR 0, vI v1, vI v2] [vI x] gg) : EV d mX7_court Q 74 [vR 0, vI v1, vI v2] [] g := by
  refine wp_aload_n dX7_court_74 rfl rfl ?_
  refine wp_bipush dX7_court_75 kb_m2 kc_m2 ?_
  exact wp_callvI (As := [vI (-2)]) dX7_court_77 ml_7_91 (by decide) rfl L_0 (by decide) rfl (Nat.le_of_ble_eq_true rfl) rfl (Nat.le_refl _) (Nat.le_refl _) hc k
theorem b_X7_court_80 {d : Nat} {Q : Option pV → pG → Prop} {g : pG} {v1 v2 vs0 : Int} (hq : Q (some (vI vs0)) g) : EV d mX7_court Q 80 [vR 0, vI v1, vI v2] [vI vs0] g := by
  exact wp_iret dX7_court_80 rfl hq
theorem b_X7_point_0 {d : Nat} {Q : Option pV → pG → Prop} {g : pG} {v1 v2 : Int} {R : Int → pG → Prop} (hc : CT d mX3_has [vR 5, vI v1] g (qI R)) (k : ∀ (x : Int) (gg : pG), R x gg → EV d mX7_point Q 11 [vR 0, vI v1, vI v2, vX 2, vX 2] [vI x] gg) : EV d mX7_point Q 0 [vR 0, vI v1, vI v2, vX 2, vX 2] [] g := by
  refine wp_aload_n dX7_point_0 rfl rfl ?_
  refine wp_get (v := vR 1) dX7_point_1 fl_7_10 L_0 rfl ?_
  refine wp_get (v := vR 5) dX7_point_4 fl_7_118 L_1 rfl ?_
  refine wp_iload_n dX7_point_7 rfl ?_
  exact wp_callvI (As := [vI v1]) dX7_point_8 ml_7_121 (by decide) rfl L_5 (by decide) rfl (Nat.le_of_ble_eq_true rfl) rfl (Nat.le_refl _) (Nat.le_refl _) hc k
theorem b_X7_point_11 {d : Nat} {Q : Option pV → pG → Prop} {g : pG} {v1 v2 vs0 : Int} (k1 : (vs0 ≠ 0) → EV d mX7_point Q 20 [vR 0, vI v1, vI v2, vX 2, vX 2] [] g) (k2 : ¬ (vs0 ≠ 0) → EV d mX7_point Q 14 [vR 0, vI v1, vI v2, vX 2, vX 2] [] g) : EV d mX7_point Q 11 [vR 0, vI v1, vI v2, vX 2, vX 2] [vI vs0] g := by
  exact wp_if_ne (tgt := 20) dX7_point_11 rfl k1 k2
theorem b_X7_point_14 {d : Nat} {Q : Option pV → pG → Prop} {g : pG} {v1 v2 : Int} {R : Int → pG → Prop} (hc : CT d mX7_refuseHigh [vR 0, vI (-1)] g (qI R)) (k : ∀ (x : Int) (gg : pG), R x gg → EV d mX7_point Q 19 [vR 0, vI v1, vI v2, vX 2, vX 2] [vI x] gg) : EV d mX7_point Q 14 [vR 0, vI v1, vI v2, vX 2, vX 2] [] g := by
  refine wp_aload_n dX7_point_14 rfl rfl ?_
  refine wp_iconst dX7_point_15 kc_m1 ?_
  exact wp_callvI (As := [vI (-1)]) dX7_point_16 ml_7_124 (by decide) rfl L_0 (by decide) rfl (Nat.le_of_ble_eq_true rfl) rfl (Nat.le_refl _) (Nat.le_refl _) hc k
theorem b_X7_point_19 {d : Nat} {Q : Option pV → pG → Prop} {g : pG} {v1 v2 vs0 : Int} (hq : Q (some (vI vs0)) g) : EV d mX7_point Q 19 [vR 0, vI v1, vI v2, vX 2, vX 2] [vI vs0] g := by
  exact wp_iret dX7_point_19 rfl hq
theorem b_X7_point_20 {d : Nat} {Q : Option pV → pG → Prop} {g : pG} {v1 v2 : Int} {R : Int → pG → Prop} (hc : CT d mX7_outside [vI v2, vI (-9), vI 9] g (qI R)) (k : ∀ (x : Int) (gg : pG), R x gg → EV d mX7_point Q 28 [vR 0, vI v1, vI v2, vX 2, vX 2] [vI x] gg) : EV d mX7_point Q 20 [vR 0, vI v1, vI v2, vX 2, vX 2] [] g := by
  refine wp_iload_n dX7_point_20 rfl ?_
  refine wp_bipush dX7_point_21 kb_m9 kc_m9 ?_
  refine wp_bipush dX7_point_23 kb_9 kc_9 ?_
  exact wp_callsI (As := [vI v2, vI (-9), vI 9]) dX7_point_25 ml_7_127 (Or.inl rfl) rfl (Nat.le_of_ble_eq_true rfl) rfl (Nat.le_refl _) (Nat.le_refl _) hc k
theorem b_X7_point_28 {d : Nat} {Q : Option pV → pG → Prop} {g : pG} {v1 v2 vs0 : Int} (k1 : (vs0 = 0) → EV d mX7_point Q 39 [vR 0, vI v1, vI v2, vI vs0, vX 2] [] g) (k2 : ¬ (vs0 = 0) → EV d mX7_point Q 33 [vR 0, vI v1, vI v2, vI vs0, vX 2] [] g) : EV d mX7_point Q 28 [vR 0, vI v1, vI v2, vX 2, vX 2] [vI vs0] g := by
  refine wp_istore_n dX7_point_28 (Nat.le_of_ble_eq_true rfl) (pp (c := 2) rfl rfl) ?_
  refine wp_iload_n dX7_point_29 rfl ?_
  exact wp_if_eq (tgt := 39) dX7_point_30 rfl k1 k2
theorem b_X7_point_33 {d : Nat} {Q : Option pV → pG → Prop} {g : pG} {v1 v2 v3 : Int} {R : Int → pG → Prop} (hc : CT d mX7_refuseHigh [vR 0, vI v3] g (qI R)) (k : ∀ (x : Int) (gg : pG), R x gg → EV d mX7_point Q 38 [vR 0, vI v1, vI v2, vI v3, vX 2] [vI x] gg) : EV d mX7_point Q 33 [vR 0, vI v1, vI v2, vI v3, vX 2] [] g := by
  refine wp_aload_n dX7_point_33 rfl rfl ?_
  refine wp_iload_n dX7_point_34 rfl ?_
  exact wp_callvI (As := [vI v3]) dX7_point_35 ml_7_124 (by decide) rfl L_0 (by decide) rfl (Nat.le_of_ble_eq_true rfl) rfl (Nat.le_refl _) (Nat.le_refl _) hc k
theorem b_X7_point_38 {d : Nat} {Q : Option pV → pG → Prop} {g : pG} {v1 v2 v3 vs0 : Int} (hq : Q (some (vI vs0)) g) : EV d mX7_point Q 38 [vR 0, vI v1, vI v2, vI v3, vX 2] [vI vs0] g := by
  exact wp_iret dX7_point_38 rfl hq
theorem b_X7_point_39 {d : Nat} {Q : Option pV → pG → Prop} {g : pG} {v1 v2 v3 : Int} {R : Int → pG → Prop} (hc : CT d mX3_number [vR 5, vI v1] g (qI R)) (k : ∀ (x : Int) (gg : pG), R x gg → EV d mX7_point Q 50 [vR 0, vI v1, vI v2, vI v3, vX 2] [vI x] gg) : EV d mX7_point Q 39 [vR 0, vI v1, vI v2, vI v3, vX 2] [] g := by
  refine wp_aload_n dX7_point_39 rfl rfl ?_
  refine wp_get (v := vR 1) dX7_point_40 fl_7_10 L_0 rfl ?_
  refine wp_get (v := vR 5) dX7_point_43 fl_7_118 L_1 rfl ?_
  refine wp_iload_n dX7_point_46 rfl ?_
  exact wp_callvI (As := [vI v1]) dX7_point_47 ml_7_131 (by decide) rfl L_5 (by decide) rfl (Nat.le_of_ble_eq_true rfl) rfl (Nat.le_refl _) (Nat.le_refl _) hc k
theorem b_X7_point_50 {d : Nat} {Q : Option pV → pG → Prop} {g : pG} {v1 v2 v3 vs0 : Int} {R : pG → Prop} (hc : CT d mX0_note [vR 21, vI 0, vI v1, vI vs0] g (qV R)) (k : ∀ gg : pG, R gg → EV d mX7_point Q 63 [vR 0, vI v1, vI v2, vI v3, vI vs0] [] gg) : EV d mX7_point Q 50 [vR 0, vI v1, vI v2, vI v3, vX 2] [vI vs0] g := by
  refine wp_istore dX7_point_50 (Nat.le_of_ble_eq_true rfl) (pp (c := 3) rfl rfl) ?_
  refine wp_aload_n dX7_point_52 rfl rfl ?_
  refine wp_get (v := vR 21) dX7_point_53 fl_7_36 L_0 rfl ?_
  refine wp_iconst dX7_point_56 kc_0 ?_
  refine wp_iload_n dX7_point_57 rfl ?_
  refine wp_iload dX7_point_58 rfl ?_
  exact wp_callvV (As := [vI 0, vI v1, vI vs0]) dX7_point_60 ml_7_134 (by decide) rfl L_21 (by decide) rfl (Nat.le_of_ble_eq_true rfl) rfl (Nat.le_refl _) (Nat.le_refl _) hc k
theorem b_X7_point_63 {d : Nat} {Q : Option pV → pG → Prop} {g : pG} {v1 v2 v3 v4 : Int} {R : pG → Prop} (hc : CT d mX3_put [vR 5, vI v1, vI v2] g (qV R)) (k : ∀ gg : pG, R gg → EV d mX7_point Q 75 [vR 0, vI v1, vI v2, vI v3, vI v4] [] gg) : EV d mX7_point Q 63 [vR 0, vI v1, vI v2, vI v3, vI v4] [] g := by
  refine wp_aload_n dX7_point_63 rfl rfl ?_
  refine wp_get (v := vR 1) dX7_point_64 fl_7_10 L_0 rfl ?_
  refine wp_get (v := vR 5) dX7_point_67 fl_7_118 L_1 rfl ?_
  refine wp_iload_n dX7_point_70 rfl ?_
  refine wp_iload_n dX7_point_71 rfl ?_
  exact wp_callvV (As := [vI v1, vI v2]) dX7_point_72 ml_7_138 (by decide) rfl L_5 (by decide) rfl (Nat.le_of_ble_eq_true rfl) rfl (Nat.le_refl _) (Nat.le_refl _) hc k
theorem b_X7_point_75 {d : Nat} {Q : Option pV → pG → Prop} {g : pG} {v1 v2 v3 v4 : Int} (hq : Q (some (vI v4)) g) : EV d mX7_point Q 75 [vR 0, vI v1, vI v2, vI v3, vI v4] [] g := by
  refine wp_iload dX7_point_75 rfl ?_
  exact wp_iret dX7_point_77 rfl hq
theorem b_X7_refuseHigh_0 {d : Nat} {Q : Option pV → pG → Prop} {g : pG} {v1 : Int} {R : Int → pG → Prop} (hc : CT d mX7_refuse [vR 0, vI v1] g (qI R)) (k : ∀ (x : Int) (gg : pG), R x gg → EV d mX7_refuseHigh Q 7 [vR 0, vI v1] [vI x, vI 1000000000] gg) : EV d mX7_refuseHigh Q 0 [vR 0, vI v1] [] g := by
  refine wp_ldc dX7_refuseHigh_0 kl_7_241 ?_
  refine wp_aload_n dX7_refuseHigh_2 rfl rfl ?_
  refine wp_iload_n dX7_refuseHigh_3 rfl ?_
  exact wp_callvI (As := [vI v1]) dX7_refuseHigh_4 ml_7_91 (by decide) rfl L_0 (by decide) rfl (Nat.le_of_ble_eq_true rfl) rfl (Nat.le_refl _) (Nat.le_refl _) hc k
theorem b_X7_refuseHigh_7 {d : Nat} {Q : Option pV → pG → Prop} {g : pG} {v1 vs0 vs1 : Int} (hq : Q (some (vI (w32 (vs0 - vs1)))) g) : EV d mX7_refuseHigh Q 7 [vR 0, vI v1] [vI vs1, vI vs0] g := by
  refine wp_isub dX7_refuseHigh_7 ?_
  exact wp_iret dX7_refuseHigh_8 rfl hq
theorem b_X7_kind_0 {d : Nat} {Q : Option pV → pG → Prop} {g : pG} {v1 v2 v3 : Int} {R : Int → pG → Prop} (hc : CT d mX5_hasCourt [vR 1, vI v1] g (qI R)) (k : ∀ (x : Int) (gg : pG), R x gg → EV d mX7_kind Q 8 [vR 0, vI v1, vI v2, vI v3, vX 2, vX 2] [vI x] gg) : EV d mX7_kind Q 0 [vR 0, vI v1, vI v2, vI v3, vX 2, vX 2] [] g := by
  refine wp_aload_n dX7_kind_0 rfl rfl ?_
  refine wp_get (v := vR 1) dX7_kind_1 fl_7_10 L_0 rfl ?_
  refine wp_iload_n dX7_kind_4 rfl ?_
  exact wp_callvI (As := [vI v1]) dX7_kind_5 ml_7_105 (by decide) rfl L_1 (by decide) rfl (Nat.le_of_ble_eq_true rfl) rfl (Nat.le_refl _) (Nat.le_refl _) hc k
theorem b_X7_kind_8 {d : Nat} {Q : Option pV → pG → Prop} {g : pG} {v1 v2 v3 vs0 : Int} (k1 : (vs0 ≠ 0) → EV d mX7_kind Q 17 [vR 0, vI v1, vI v2, vI v3, vX 2, vX 2] [] g) (k2 : ¬ (vs0 ≠ 0) → EV d mX7_kind Q 11 [vR 0, vI v1, vI v2, vI v3, vX 2, vX 2] [] g) : EV d mX7_kind Q 8 [vR 0, vI v1, vI v2, vI v3, vX 2, vX 2] [vI vs0] g := by
  exact wp_if_ne (tgt := 17) dX7_kind_8 rfl k1 k2
theorem b_X7_kind_11 {d : Nat} {Q : Option pV → pG → Prop} {g : pG} {v1 v2 v3 : Int} {R : Int → pG → Prop} (hc : CT d mX7_refuse [vR 0, vI (-1)] g (qI R)) (k : ∀ (x : Int) (gg : pG), R x gg → EV d mX7_kind Q 16 [vR 0, vI v1, vI v2, vI v3, vX 2, vX 2] [vI x] gg) : EV d mX7_kind Q 11 [vR 0, vI v1, vI v2, vI v3, vX 2, vX 2] [] g := by
  refine wp_aload_n dX7_kind_11 rfl rfl ?_
  refine wp_iconst dX7_kind_12 kc_m1 ?_
  exact wp_callvI (As := [vI (-1)]) dX7_kind_13 ml_7_91 (by decide) rfl L_0 (by decide) rfl (Nat.le_of_ble_eq_true rfl) rfl (Nat.le_refl _) (Nat.le_refl _) hc k
theorem b_X7_kind_16 {d : Nat} {Q : Option pV → pG → Prop} {g : pG} {v1 v2 v3 vs0 : Int} (hq : Q (some (vI vs0)) g) : EV d mX7_kind Q 16 [vR 0, vI v1, vI v2, vI v3, vX 2, vX 2] [vI vs0] g := by
  exact wp_iret dX7_kind_16 rfl hq
theorem b_X7_kind_17 {d : Nat} {Q : Option pV → pG → Prop} {g : pG} {v1 v2 v3 : Int} {R : Int → pG → Prop} (hc : CT d mX7_isKind [vI v2] g (qI R)) (k : ∀ (x : Int) (gg : pG), R x gg → EV d mX7_kind Q 21 [vR 0, vI v1, vI v2, vI v3, vX 2, vX 2] [vI x] gg) : EV d mX7_kind Q 17 [vR 0, vI v1, vI v2, vI v3, vX 2, vX 2] [] g := by
  refine wp_iload_n dX7_kind_17 rfl ?_
  exact wp_callsI (As := [vI v2]) dX7_kind_18 ml_7_142 (Or.inl rfl) rfl (Nat.le_of_ble_eq_true rfl) rfl (Nat.le_refl _) (Nat.le_refl _) hc k
theorem b_X7_kind_21 {d : Nat} {Q : Option pV → pG → Prop} {g : pG} {v1 v2 v3 vs0 : Int} (k1 : (vs0 ≠ 0) → EV d mX7_kind Q 31 [vR 0, vI v1, vI v2, vI v3, vX 2, vX 2] [] g) (k2 : ¬ (vs0 ≠ 0) → EV d mX7_kind Q 24 [vR 0, vI v1, vI v2, vI v3, vX 2, vX 2] [] g) : EV d mX7_kind Q 21 [vR 0, vI v1, vI v2, vI v3, vX 2, vX 2] [vI vs0] g := by
  exact wp_if_ne (tgt := 31) dX7_kind_21 rfl k1 k2
theorem b_X7_kind_24 {d : Nat} {Q : Option pV → pG → Prop} {g : pG} {v1 v2 v3 : Int} {R : Int → pG → Prop} (hc : CT d mX7_refuse [vR 0, vI (-2)] g (qI R)) (k : ∀ (x : Int) (gg : pG), R x gg → EV d mX7_kind Q 30 [vR 0, vI v1, vI v2, vI v3, vX 2, vX 2] [vI x] gg) : EV d mX7_kind Q 24 [vR 0, vI v1, vI v2, vI v3, vX 2, vX 2] [] g := by
  refine wp_aload_n dX7_kind_24 rfl rfl ?_
  refine wp_bipush dX7_kind_25 kb_m2 kc_m2 ?_
  exact wp_callvI (As := [vI (-2)]) dX7_kind_27 ml_7_91 (by decide) rfl L_0 (by decide) rfl (Nat.le_of_ble_eq_true rfl) rfl (Nat.le_refl _) (Nat.le_refl _) hc k
theorem b_X7_kind_30 {d : Nat} {Q : Option pV → pG → Prop} {g : pG} {v1 v2 v3 vs0 : Int} (hq : Q (some (vI vs0)) g) : EV d mX7_kind Q 30 [vR 0, vI v1, vI v2, vI v3, vX 2, vX 2] [vI vs0] g := by
  exact wp_iret dX7_kind_30 rfl hq
theorem b_X7_kind_31 {d : Nat} {Q : Option pV → pG → Prop} {g : pG} {v1 v2 v3 : Int} {R : Int → pG → Prop} (hc : CT d mX7_outside [vI v3, vI 0, vI 9] g (qI R)) (k : ∀ (x : Int) (gg : pG), R x gg → EV d mX7_kind Q 38 [vR 0, vI v1, vI v2, vI v3, vX 2, vX 2] [vI x] gg) : EV d mX7_kind Q 31 [vR 0, vI v1, vI v2, vI v3, vX 2, vX 2] [] g := by
  refine wp_iload_n dX7_kind_31 rfl ?_
  refine wp_iconst dX7_kind_32 kc_0 ?_
  refine wp_bipush dX7_kind_33 kb_9 kc_9 ?_
  exact wp_callsI (As := [vI v3, vI 0, vI 9]) dX7_kind_35 ml_7_127 (Or.inl rfl) rfl (Nat.le_of_ble_eq_true rfl) rfl (Nat.le_refl _) (Nat.le_refl _) hc k
theorem b_X7_kind_38 {d : Nat} {Q : Option pV → pG → Prop} {g : pG} {v1 v2 v3 vs0 : Int} (k1 : (vs0 = 0) → EV d mX7_kind Q 52 [vR 0, vI v1, vI v2, vI v3, vI vs0, vX 2] [] g) (k2 : ¬ (vs0 = 0) → EV d mX7_kind Q 45 [vR 0, vI v1, vI v2, vI v3, vI vs0, vX 2] [] g) : EV d mX7_kind Q 38 [vR 0, vI v1, vI v2, vI v3, vX 2, vX 2] [vI vs0] g := by
  refine wp_istore dX7_kind_38 (Nat.le_of_ble_eq_true rfl) (pp (c := 3) rfl rfl) ?_
  refine wp_iload dX7_kind_40 rfl ?_
  exact wp_if_eq (tgt := 52) dX7_kind_42 rfl k1 k2
theorem b_X7_kind_45 {d : Nat} {Q : Option pV → pG → Prop} {g : pG} {v1 v2 v3 v4 : Int} {R : Int → pG → Prop} (hc : CT d mX7_refuse [vR 0, vI v4] g (qI R)) (k : ∀ (x : Int) (gg : pG), R x gg → EV d mX7_kind Q 51 [vR 0, vI v1, vI v2, vI v3, vI v4, vX 2] [vI x] gg) : EV d mX7_kind Q 45 [vR 0, vI v1, vI v2, vI v3, vI v4, vX 2] [] g := by
  refine wp_aload_n dX7_kind_45 rfl rfl ?_
  refine wp_iload dX7_kind_46 rfl ?_
  exact wp_callvI (As := [vI v4]) dX7_kind_48 ml_7_91 (by decide) rfl L_0 (by decide) rfl (Nat.le_of_ble_eq_true rfl) rfl (Nat.le_refl _) (Nat.le_refl _) hc k
theorem b_X7_kind_51 {d : Nat} {Q : Option pV → pG → Prop} {g : pG} {v1 v2 v3 v4 vs0 : Int} (hq : Q (some (vI vs0)) g) : EV d mX7_kind Q 51 [vR 0, vI v1, vI v2, vI v3, vI v4, vX 2] [vI vs0] g := by
  exact wp_iret dX7_kind_51 rfl hq
theorem b_X7_kind_52 {d : Nat} {Q : Option pV → pG → Prop} {g : pG} {v1 v2 v3 v4 : Int} {R : pG → Prop} (h1 : 0 ≤ v1) (h2 : v1 < 7) (hc : CT d mX0_note [vR 21, vI 1, vI v1, vI (w32 ((w32 (10 * ((g 2) v1.toNat))) + ((g 3) v1.toNat)))] g (qV R)) (k : ∀ gg : pG, R gg → EV d mX7_kind Q 87 [vR 0, vI v1, vI v2, vI v3, vI v4, vI (w32 ((w32 (10 * ((g 2) v1.toNat))) + ((g 3) v1.toNat)))] [] gg) : EV d mX7_kind Q 52 [vR 0, vI v1, vI v2, vI v3, vI v4, vX 2] [] g := by
  refine wp_bipush dX7_kind_52 kb_10 kc_10 ?_
  refine wp_aload_n dX7_kind_54 rfl rfl ?_
  refine wp_get (v := vR 1) dX7_kind_55 fl_7_10 L_0 rfl ?_
  refine wp_get (v := vR 2) dX7_kind_58 fl_7_109 L_1 rfl ?_
  refine wp_iload_n dX7_kind_61 rfl ?_
  refine wp_iaload dX7_kind_62 h1 L_2 h2 ?_
  refine wp_imul dX7_kind_63 ?_
  refine wp_aload_n dX7_kind_64 rfl rfl ?_
  refine wp_get (v := vR 1) dX7_kind_65 fl_7_10 L_0 rfl ?_
  refine wp_get (v := vR 3) dX7_kind_68 fl_7_112 L_1 rfl ?_
  refine wp_iload_n dX7_kind_71 rfl ?_
  refine wp_iaload dX7_kind_72 h1 L_3 h2 ?_
  refine wp_iadd dX7_kind_73 ?_
  refine wp_istore dX7_kind_74 (Nat.le_of_ble_eq_true rfl) (pp (c := 4) rfl rfl) ?_
  refine wp_aload_n dX7_kind_76 rfl rfl ?_
  refine wp_get (v := vR 21) dX7_kind_77 fl_7_36 L_0 rfl ?_
  refine wp_iconst dX7_kind_80 kc_1 ?_
  refine wp_iload_n dX7_kind_81 rfl ?_
  refine wp_iload dX7_kind_82 rfl ?_
  exact wp_callvV (As := [vI 1, vI v1, vI (w32 ((w32 (10 * ((g 2) v1.toNat))) + ((g 3) v1.toNat)))]) dX7_kind_84 ml_7_134 (by decide) rfl L_21 (by decide) rfl (Nat.le_of_ble_eq_true rfl) rfl (Nat.le_refl _) (Nat.le_refl _) hc k
theorem b_X7_kind_87 {d : Nat} {Q : Option pV → pG → Prop} {g : pG} {v1 v2 v3 v4 v5 : Int} {R : pG → Prop} (hc : CT d mX5_rename [vR 1, vI v1, vI v2, vI v3] g (qV R)) (k : ∀ gg : pG, R gg → EV d mX7_kind Q 97 [vR 0, vI v1, vI v2, vI v3, vI v4, vI v5] [] gg) : EV d mX7_kind Q 87 [vR 0, vI v1, vI v2, vI v3, vI v4, vI v5] [] g := by
  refine wp_aload_n dX7_kind_87 rfl rfl ?_
  refine wp_get (v := vR 1) dX7_kind_88 fl_7_10 L_0 rfl ?_
  refine wp_iload_n dX7_kind_91 rfl ?_
  refine wp_iload_n dX7_kind_92 rfl ?_
  refine wp_iload_n dX7_kind_93 rfl ?_
  exact wp_callvV (As := [vI v1, vI v2, vI v3]) dX7_kind_94 ml_7_145 (by decide) rfl L_1 (by decide) rfl (Nat.le_of_ble_eq_true rfl) rfl (Nat.le_refl _) (Nat.le_refl _) hc k
theorem b_X7_kind_97 {d : Nat} {Q : Option pV → pG → Prop} {g : pG} {v1 v2 v3 v4 v5 : Int} (hq : Q (some (vI v5)) g) : EV d mX7_kind Q 97 [vR 0, vI v1, vI v2, vI v3, vI v4, vI v5] [] g := by
  refine wp_iload dX7_kind_97 rfl ?_
  exact wp_iret dX7_kind_99 rfl hq
theorem b_X7_lowest_0 {d : Nat} {Q : Option pV → pG → Prop} {g : pG} {v1 v2 v3 : Int} {R : Int → pG → Prop} (hc : CT d mX7_isKind [vI v1] g (qI R)) (k : ∀ (x : Int) (gg : pG), R x gg → EV d mX7_lowest Q 4 [vR 0, vI v1, vI v2, vI v3] [vI x] gg) : EV d mX7_lowest Q 0 [vR 0, vI v1, vI v2, vI v3] [] g := by
  refine wp_iload_n dX7_lowest_0 rfl ?_
  exact wp_callsI (As := [vI v1]) dX7_lowest_1 ml_7_142 (Or.inl rfl) rfl (Nat.le_of_ble_eq_true rfl) rfl (Nat.le_refl _) (Nat.le_refl _) hc k
theorem b_X7_lowest_4 {d : Nat} {Q : Option pV → pG → Prop} {g : pG} {v1 v2 v3 vs0 : Int} (k1 : (vs0 ≠ 0) → EV d mX7_lowest Q 14 [vR 0, vI v1, vI v2, vI v3] [] g) (k2 : ¬ (vs0 ≠ 0) → EV d mX7_lowest Q 7 [vR 0, vI v1, vI v2, vI v3] [] g) : EV d mX7_lowest Q 4 [vR 0, vI v1, vI v2, vI v3] [vI vs0] g := by
  exact wp_if_ne (tgt := 14) dX7_lowest_4 rfl k1 k2
theorem b_X7_lowest_7 {d : Nat} {Q : Option pV → pG → Prop} {g : pG} {v1 v2 v3 : Int} {R : Int → pG → Prop} (hc : CT d mX7_refuse [vR 0, vI (-2)] g (qI R)) (k : ∀ (x : Int) (gg : pG), R x gg → EV d mX7_lowest Q 13 [vR 0, vI v1, vI v2, vI v3] [vI x] gg) : EV d mX7_lowest Q 7 [vR 0, vI v1, vI v2, vI v3] [] g := by
  refine wp_aload_n dX7_lowest_7 rfl rfl ?_
  refine wp_bipush dX7_lowest_8 kb_m2 kc_m2 ?_
  exact wp_callvI (As := [vI (-2)]) dX7_lowest_10 ml_7_91 (by decide) rfl L_0 (by decide) rfl (Nat.le_of_ble_eq_true rfl) rfl (Nat.le_refl _) (Nat.le_refl _) hc k
theorem b_X7_lowest_13 {d : Nat} {Q : Option pV → pG → Prop} {g : pG} {v1 v2 v3 vs0 : Int} (hq : Q (some (vI vs0)) g) : EV d mX7_lowest Q 13 [vR 0, vI v1, vI v2, vI v3] [vI vs0] g := by
  exact wp_iret dX7_lowest_13 rfl hq
theorem b_X7_lowest_14 {d : Nat} {Q : Option pV → pG → Prop} {g : pG} {v1 v2 v3 : Int} (k1 : (v2 < 0) → EV d mX7_lowest Q 22 [vR 0, vI v1, vI v2, vI v3] [] g) (k2 : ¬ (v2 < 0) → EV d mX7_lowest Q 18 [vR 0, vI v1, vI v2, vI v3] [] g) : EV d mX7_lowest Q 14 [vR 0, vI v1, vI v2, vI v3] [] g := by
  refine wp_iload_n dX7_lowest_14 rfl ?_
  exact wp_if_lt (tgt := 22) dX7_lowest_15 rfl k1 k2
theorem b_X7_lowest_18 {d : Nat} {Q : Option pV → pG → Prop} {g : pG} {v1 v2 v3 : Int} (k1 : (0 ≤ v3) → EV d mX7_lowest Q 29 [vR 0, vI v1, vI v2, vI v3] [] g) (k2 : ¬ (0 ≤ v3) → EV d mX7_lowest Q 22 [vR 0, vI v1, vI v2, vI v3] [] g) : EV d mX7_lowest Q 18 [vR 0, vI v1, vI v2, vI v3] [] g := by
  refine wp_iload_n dX7_lowest_18 rfl ?_
  exact wp_if_ge (tgt := 29) dX7_lowest_19 rfl k1 k2
theorem b_X7_lowest_22 {d : Nat} {Q : Option pV → pG → Prop} {g : pG} {v1 v2 v3 : Int} {R : Int → pG → Prop} (hc : CT d mX7_refuse [vR 0, vI (-4)] g (qI R)) (k : ∀ (x : Int) (gg : pG), R x gg → EV d mX7_lowest Q 28 [vR 0, vI v1, vI v2, vI v3] [vI x] gg) : EV d mX7_lowest Q 22 [vR 0, vI v1, vI v2, vI v3] [] g := by
  refine wp_aload_n dX7_lowest_22 rfl rfl ?_
  refine wp_bipush dX7_lowest_23 kb_m4 kc_m4 ?_
  exact wp_callvI (As := [vI (-4)]) dX7_lowest_25 ml_7_91 (by decide) rfl L_0 (by decide) rfl (Nat.le_of_ble_eq_true rfl) rfl (Nat.le_refl _) (Nat.le_refl _) hc k
theorem b_X7_lowest_28 {d : Nat} {Q : Option pV → pG → Prop} {g : pG} {v1 v2 v3 vs0 : Int} (hq : Q (some (vI vs0)) g) : EV d mX7_lowest Q 28 [vR 0, vI v1, vI v2, vI v3] [vI vs0] g := by
  exact wp_iret dX7_lowest_28 rfl hq
theorem b_X7_lowest_29 {d : Nat} {Q : Option pV → pG → Prop} {g : pG} {v1 v2 v3 : Int} {R : Int → pG → Prop} (hc : CT d mX5_addLowest [vR 1, vI v1, vI v2, vI v3] g (qI R)) (k : ∀ (x : Int) (gg : pG), R x gg → EV d mX7_lowest Q 39 [vR 0, vI v1, vI v2, vI v3] [vI x] gg) : EV d mX7_lowest Q 29 [vR 0, vI v1, vI v2, vI v3] [] g := by
  refine wp_aload_n dX7_lowest_29 rfl rfl ?_
  refine wp_get (v := vR 1) dX7_lowest_30 fl_7_10 L_0 rfl ?_
  refine wp_iload_n dX7_lowest_33 rfl ?_
  refine wp_iload_n dX7_lowest_34 rfl ?_
  refine wp_iload_n dX7_lowest_35 rfl ?_
  exact wp_callvI (As := [vI v1, vI v2, vI v3]) dX7_lowest_36 ml_7_148 (by decide) rfl L_1 (by decide) rfl (Nat.le_of_ble_eq_true rfl) rfl (Nat.le_refl _) (Nat.le_refl _) hc k
theorem b_X7_lowest_39 {d : Nat} {Q : Option pV → pG → Prop} {g : pG} {v1 v2 v3 vs0 : Int} (k1 : (vs0 ≠ 0) → EV d mX7_lowest Q 49 [vR 0, vI v1, vI v2, vI v3] [] g) (k2 : ¬ (vs0 ≠ 0) → EV d mX7_lowest Q 42 [vR 0, vI v1, vI v2, vI v3] [] g) : EV d mX7_lowest Q 39 [vR 0, vI v1, vI v2, vI v3] [vI vs0] g := by
  exact wp_if_ne (tgt := 49) dX7_lowest_39 rfl k1 k2
theorem b_X7_lowest_42 {d : Nat} {Q : Option pV → pG → Prop} {g : pG} {v1 v2 v3 : Int} {R : Int → pG → Prop} (hc : CT d mX7_refuse [vR 0, vI (-6)] g (qI R)) (k : ∀ (x : Int) (gg : pG), R x gg → EV d mX7_lowest Q 48 [vR 0, vI v1, vI v2, vI v3] [vI x] gg) : EV d mX7_lowest Q 42 [vR 0, vI v1, vI v2, vI v3] [] g := by
  refine wp_aload_n dX7_lowest_42 rfl rfl ?_
  refine wp_bipush dX7_lowest_43 kb_m6 kc_m6 ?_
  exact wp_callvI (As := [vI (-6)]) dX7_lowest_45 ml_7_91 (by decide) rfl L_0 (by decide) rfl (Nat.le_of_ble_eq_true rfl) rfl (Nat.le_refl _) (Nat.le_refl _) hc k
theorem b_X7_lowest_48 {d : Nat} {Q : Option pV → pG → Prop} {g : pG} {v1 v2 v3 vs0 : Int} (hq : Q (some (vI vs0)) g) : EV d mX7_lowest Q 48 [vR 0, vI v1, vI v2, vI v3] [vI vs0] g := by
  exact wp_iret dX7_lowest_48 rfl hq
theorem b_X7_lowest_49 {d : Nat} {Q : Option pV → pG → Prop} {g : pG} {v1 v2 v3 : Int} {R : pG → Prop} (hc : CT d mX0_note [vR 21, vI 2, vI 0, vI 0] g (qV R)) (k : ∀ gg : pG, R gg → EV d mX7_lowest Q 59 [vR 0, vI v1, vI v2, vI v3] [] gg) : EV d mX7_lowest Q 49 [vR 0, vI v1, vI v2, vI v3] [] g := by
  refine wp_aload_n dX7_lowest_49 rfl rfl ?_
  refine wp_get (v := vR 21) dX7_lowest_50 fl_7_36 L_0 rfl ?_
  refine wp_iconst dX7_lowest_53 kc_2 ?_
  refine wp_iconst dX7_lowest_54 kc_0 ?_
  refine wp_iconst dX7_lowest_55 kc_0 ?_
  exact wp_callvV (As := [vI 2, vI 0, vI 0]) dX7_lowest_56 ml_7_134 (by decide) rfl L_21 (by decide) rfl (Nat.le_of_ble_eq_true rfl) rfl (Nat.le_refl _) (Nat.le_refl _) hc k
theorem b_X7_lowest_59 {d : Nat} {Q : Option pV → pG → Prop} {g : pG} {v1 v2 v3 : Int} (hq : Q (some (vI ((g 1) 3))) g) : EV d mX7_lowest Q 59 [vR 0, vI v1, vI v2, vI v3] [] g := by
  refine wp_aload_n dX7_lowest_59 rfl rfl ?_
  refine wp_get (v := vR 1) dX7_lowest_60 fl_7_10 L_0 rfl ?_
  refine wp_get (v := vI ((g 1) 3)) dX7_lowest_63 fl_7_152 L_1 rfl ?_
  exact wp_iret dX7_lowest_66 rfl hq
theorem b_X7_set_0 {d : Nat} {Q : Option pV → pG → Prop} {g : pG} {v1 v2 : Int} (k0 : v1 = 0 → EV d mX7_set Q 28 [vR 0, vI v1, vI v2, vX 2, vX 2] [] g) (k1 : v1 = 1 → EV d mX7_set Q 51 [vR 0, vI v1, vI v2, vX 2, vX 2] [] g) (k2 : v1 = 2 → EV d mX7_set Q 72 [vR 0, vI v1, vI v2, vX 2, vX 2] [] g) (kd : (v1 ≠ 0 ∧ v1 ≠ 1 ∧ v1 ≠ 2) → EV d mX7_set Q 92 [vR 0, vI v1, vI v2, vX 2, vX 2] [] g) : EV d mX7_set Q 0 [vR 0, vI v1, vI v2, vX 2, vX 2] [] g := by
  refine wp_iload_n dX7_set_0 rfl ?_
  refine wp_tsw (x := v1) dX7_set_1 (fun hh => ⟨92, rfl, kd (by omega)⟩) (fun hh hh2 => ?_)
  rcases (show v1 = 0 ∨ v1 = 1 ∨ v1 = 2 by omega) with hq | hq | hq
  · exact ⟨27, 28, by rw [hq]; rfl, rfl, k0 hq⟩
  · exact ⟨50, 51, by rw [hq]; rfl, rfl, k1 hq⟩
  · exact ⟨71, 72, by rw [hq]; rfl, rfl, k2 hq⟩
theorem b_X7_set_28 {d : Nat} {Q : Option pV → pG → Prop} {g : pG} {v1 v2 : Int} {R : Int → pG → Prop} (hc : CT d mX7_outside [vI v2, vI 1, vI 8] g (qI R)) (k : ∀ (x : Int) (gg : pG), R x gg → EV d mX7_set Q 46 [vR 0, vI v1, vI v2, vI ((g 5) 1), vX 2] [vI x] gg) : EV d mX7_set Q 28 [vR 0, vI v1, vI v2, vX 2, vX 2] [] g := by
  refine wp_aload_n dX7_set_28 rfl rfl ?_
  refine wp_get (v := vR 1) dX7_set_29 fl_7_10 L_0 rfl ?_
  refine wp_get (v := vR 5) dX7_set_32 fl_7_118 L_1 rfl ?_
  refine wp_get (v := vI ((g 5) 1)) dX7_set_35 fl_7_155 L_5 rfl ?_
  refine wp_istore_n dX7_set_38 (Nat.le_of_ble_eq_true rfl) (pp (c := 2) rfl rfl) ?_
  refine wp_iload_n dX7_set_39 rfl ?_
  refine wp_iconst dX7_set_40 kc_1 ?_
  refine wp_bipush dX7_set_41 kb_8 kc_8 ?_
  exact wp_callsI (As := [vI v2, vI 1, vI 8]) dX7_set_43 ml_7_127 (Or.inl rfl) rfl (Nat.le_of_ble_eq_true rfl) rfl (Nat.le_refl _) (Nat.le_refl _) hc k
theorem b_X7_set_46 {d : Nat} {Q : Option pV → pG → Prop} {g : pG} {v1 v2 v3 vs0 : Int} (k1 : (vs0 = 0) → EV d mX7_set Q 111 [vR 0, vI v1, vI v2, vI v3, vI vs0] [] g) (k2 : ¬ (vs0 = 0) → EV d mX7_set Q 104 [vR 0, vI v1, vI v2, vI v3, vI vs0] [] g) : EV d mX7_set Q 46 [vR 0, vI v1, vI v2, vI v3, vX 2] [vI vs0] g := by
  refine wp_istore dX7_set_46 (Nat.le_of_ble_eq_true rfl) (pp (c := 3) rfl rfl) ?_
  refine wp_goto (tgt := 99) dX7_set_48 rfl ?_
  refine wp_iload dX7_set_99 rfl ?_
  exact wp_if_eq (tgt := 111) dX7_set_101 rfl k1 k2
theorem b_X7_set_51 {d : Nat} {Q : Option pV → pG → Prop} {g : pG} {v1 v2 : Int} {R : Int → pG → Prop} (hc : CT d mX7_outside [vI v2, vI 0, vI 999] g (qI R)) (k : ∀ (x : Int) (gg : pG), R x gg → EV d mX7_set Q 67 [vR 0, vI v1, vI v2, vI ((g 1) 5), vX 2] [vI x] gg) : EV d mX7_set Q 51 [vR 0, vI v1, vI v2, vX 2, vX 2] [] g := by
  refine wp_aload_n dX7_set_51 rfl rfl ?_
  refine wp_get (v := vR 1) dX7_set_52 fl_7_10 L_0 rfl ?_
  refine wp_get (v := vI ((g 1) 5)) dX7_set_55 fl_7_156 L_1 rfl ?_
  refine wp_istore_n dX7_set_58 (Nat.le_of_ble_eq_true rfl) (pp (c := 2) rfl rfl) ?_
  refine wp_iload_n dX7_set_59 rfl ?_
  refine wp_iconst dX7_set_60 kc_0 ?_
  refine wp_sipush dX7_set_61 ks_999 kc_999 ?_
  exact wp_callsI (As := [vI v2, vI 0, vI 999]) dX7_set_64 ml_7_127 (Or.inl rfl) rfl (Nat.le_of_ble_eq_true rfl) rfl (Nat.le_refl _) (Nat.le_refl _) hc k
theorem b_X7_set_67 {d : Nat} {Q : Option pV → pG → Prop} {g : pG} {v1 v2 v3 vs0 : Int} (k1 : (vs0 = 0) → EV d mX7_set Q 111 [vR 0, vI v1, vI v2, vI v3, vI vs0] [] g) (k2 : ¬ (vs0 = 0) → EV d mX7_set Q 104 [vR 0, vI v1, vI v2, vI v3, vI vs0] [] g) : EV d mX7_set Q 67 [vR 0, vI v1, vI v2, vI v3, vX 2] [vI vs0] g := by
  refine wp_istore dX7_set_67 (Nat.le_of_ble_eq_true rfl) (pp (c := 3) rfl rfl) ?_
  refine wp_goto (tgt := 99) dX7_set_69 rfl ?_
  refine wp_iload dX7_set_99 rfl ?_
  exact wp_if_eq (tgt := 111) dX7_set_101 rfl k1 k2
theorem b_X7_set_72 {d : Nat} {Q : Option pV → pG → Prop} {g : pG} {v1 v2 : Int} {R : Int → pG → Prop} (hc : CT d mX7_outside [vI v2, vI 0, vI 8] g (qI R)) (k : ∀ (x : Int) (gg : pG), R x gg → EV d mX7_set Q 87 [vR 0, vI v1, vI v2, vI ((g 1) 6), vX 2] [vI x] gg) : EV d mX7_set Q 72 [vR 0, vI v1, vI v2, vX 2, vX 2] [] g := by
  refine wp_aload_n dX7_set_72 rfl rfl ?_
  refine wp_get (v := vR 1) dX7_set_73 fl_7_10 L_0 rfl ?_
  refine wp_get (v := vI ((g 1) 6)) dX7_set_76 fl_7_159 L_1 rfl ?_
  refine wp_istore_n dX7_set_79 (Nat.le_of_ble_eq_true rfl) (pp (c := 2) rfl rfl) ?_
  refine wp_iload_n dX7_set_80 rfl ?_
  refine wp_iconst dX7_set_81 kc_0 ?_
  refine wp_bipush dX7_set_82 kb_8 kc_8 ?_
  exact wp_callsI (As := [vI v2, vI 0, vI 8]) dX7_set_84 ml_7_127 (Or.inl rfl) rfl (Nat.le_of_ble_eq_true rfl) rfl (Nat.le_refl _) (Nat.le_refl _) hc k
theorem b_X7_set_87 {d : Nat} {Q : Option pV → pG → Prop} {g : pG} {v1 v2 v3 vs0 : Int} (k1 : (vs0 = 0) → EV d mX7_set Q 111 [vR 0, vI v1, vI v2, vI v3, vI vs0] [] g) (k2 : ¬ (vs0 = 0) → EV d mX7_set Q 104 [vR 0, vI v1, vI v2, vI v3, vI vs0] [] g) : EV d mX7_set Q 87 [vR 0, vI v1, vI v2, vI v3, vX 2] [vI vs0] g := by
  refine wp_istore dX7_set_87 (Nat.le_of_ble_eq_true rfl) (pp (c := 3) rfl rfl) ?_
  refine wp_goto (tgt := 99) dX7_set_89 rfl ?_
  refine wp_iload dX7_set_99 rfl ?_
  exact wp_if_eq (tgt := 111) dX7_set_101 rfl k1 k2
theorem b_X7_set_92 {d : Nat} {Q : Option pV → pG → Prop} {g : pG} {v1 v2 : Int} {R : Int → pG → Prop} (hc : CT d mX7_refuse [vR 0, vI (-2)] g (qI R)) (k : ∀ (x : Int) (gg : pG), R x gg → EV d mX7_set Q 98 [vR 0, vI v1, vI v2, vX 2, vX 2] [vI x] gg) : EV d mX7_set Q 92 [vR 0, vI v1, vI v2, vX 2, vX 2] [] g := by
  refine wp_aload_n dX7_set_92 rfl rfl ?_
  refine wp_bipush dX7_set_93 kb_m2 kc_m2 ?_
  exact wp_callvI (As := [vI (-2)]) dX7_set_95 ml_7_91 (by decide) rfl L_0 (by decide) rfl (Nat.le_of_ble_eq_true rfl) rfl (Nat.le_refl _) (Nat.le_refl _) hc k
theorem b_X7_set_98 {d : Nat} {Q : Option pV → pG → Prop} {g : pG} {v1 v2 vs0 : Int} (hq : Q (some (vI vs0)) g) : EV d mX7_set Q 98 [vR 0, vI v1, vI v2, vX 2, vX 2] [vI vs0] g := by
  exact wp_iret dX7_set_98 rfl hq
theorem b_X7_set_104 {d : Nat} {Q : Option pV → pG → Prop} {g : pG} {v1 v2 v3 v4 : Int} {R : Int → pG → Prop} (hc : CT d mX7_refuse [vR 0, vI v4] g (qI R)) (k : ∀ (x : Int) (gg : pG), R x gg → EV d mX7_set Q 110 [vR 0, vI v1, vI v2, vI v3, vI v4] [vI x] gg) : EV d mX7_set Q 104 [vR 0, vI v1, vI v2, vI v3, vI v4] [] g := by
  refine wp_aload_n dX7_set_104 rfl rfl ?_
  refine wp_iload dX7_set_105 rfl ?_
  exact wp_callvI (As := [vI v4]) dX7_set_107 ml_7_91 (by decide) rfl L_0 (by decide) rfl (Nat.le_of_ble_eq_true rfl) rfl (Nat.le_refl _) (Nat.le_refl _) hc k
theorem b_X7_set_110 {d : Nat} {Q : Option pV → pG → Prop} {g : pG} {v1 v2 v3 v4 vs0 : Int} (hq : Q (some (vI vs0)) g) : EV d mX7_set Q 110 [vR 0, vI v1, vI v2, vI v3, vI v4] [vI vs0] g := by
  exact wp_iret dX7_set_110 rfl hq
theorem b_X7_set_111 {d : Nat} {Q : Option pV → pG → Prop} {g : pG} {v1 v2 v3 v4 : Int} {R : Int → pG → Prop} (hc : CT d mX5_change [vR 1, vI v1, vI v2] g (qI R)) (k : ∀ (x : Int) (gg : pG), R x gg → EV d mX7_set Q 120 [vR 0, vI v1, vI v2, vI v3, vI v4] [vI x] gg) : EV d mX7_set Q 111 [vR 0, vI v1, vI v2, vI v3, vI v4] [] g := by
  refine wp_aload_n dX7_set_111 rfl rfl ?_
  refine wp_get (v := vR 1) dX7_set_112 fl_7_10 L_0 rfl ?_
  refine wp_iload_n dX7_set_115 rfl ?_
  refine wp_iload_n dX7_set_116 rfl ?_
  exact wp_callvI (As := [vI v1, vI v2]) dX7_set_117 ml_7_162 (by decide) rfl L_1 (by decide) rfl (Nat.le_of_ble_eq_true rfl) rfl (Nat.le_refl _) (Nat.le_refl _) hc k
theorem b_X7_set_120 {d : Nat} {Q : Option pV → pG → Prop} {g : pG} {v1 v2 v3 v4 vs0 : Int} (hq : Q (some (vI v3)) (cset g 21 (fup (g 21) 3 0))) : EV d mX7_set Q 120 [vR 0, vI v1, vI v2, vI v3, vI v4] [vI vs0] g := by
  refine wp_pop dX7_set_120 rfl ?_
  refine wp_aload_n dX7_set_121 rfl rfl ?_
  refine wp_get (v := vR 21) dX7_set_122 fl_7_36 L_0 rfl ?_
  refine wp_iconst dX7_set_125 kc_0 ?_
  refine wp_putI dX7_set_126 fl_7_166 L_21 rfl rfl ?_
  refine wp_iload_n dX7_set_129 rfl ?_
  exact wp_iret dX7_set_130 rfl hq
theorem b_X7_back_0 {d : Nat} {Q : Option pV → pG → Prop} {g : pG} (k1 : ((g 21) 3 ≠ 0) → EV d mX7_back Q 17 [vR 0] [] g) (k2 : ¬ ((g 21) 3 ≠ 0) → EV d mX7_back Q 10 [vR 0] [] g) : EV d mX7_back Q 0 [vR 0] [] g := by
  refine wp_aload_n dX7_back_0 rfl rfl ?_
  refine wp_get (v := vR 21) dX7_back_1 fl_7_36 L_0 rfl ?_
  refine wp_get (v := vI ((g 21) 3)) dX7_back_4 fl_7_166 L_21 rfl ?_
  exact wp_if_ne (tgt := 17) dX7_back_7 rfl k1 k2
theorem b_X7_back_10 {d : Nat} {Q : Option pV → pG → Prop} {g : pG} {R : Int → pG → Prop} (hc : CT d mX7_refuse [vR 0, vI (-3)] g (qI R)) (k : ∀ (x : Int) (gg : pG), R x gg → EV d mX7_back Q 16 [vR 0] [vI x] gg) : EV d mX7_back Q 10 [vR 0] [] g := by
  refine wp_aload_n dX7_back_10 rfl rfl ?_
  refine wp_bipush dX7_back_11 kb_m3 kc_m3 ?_
  exact wp_callvI (As := [vI (-3)]) dX7_back_13 ml_7_91 (by decide) rfl L_0 (by decide) rfl (Nat.le_of_ble_eq_true rfl) rfl (Nat.le_refl _) (Nat.le_refl _) hc k
theorem b_X7_back_16 {d : Nat} {Q : Option pV → pG → Prop} {g : pG} {vs0 : Int} (hq : Q (some (vI vs0)) g) : EV d mX7_back Q 16 [vR 0] [vI vs0] g := by
  exact wp_iret dX7_back_16 rfl hq
theorem b_X7_back_17 {d : Nat} {Q : Option pV → pG → Prop} {g : pG} {R : Int → pG → Prop} (hc : CT d mX0_takeBack [vR 21, vR 1] g (qI R)) (k : ∀ (x : Int) (gg : pG), R x gg → EV d mX7_back Q 28 [vR 0] [vI x] gg) : EV d mX7_back Q 17 [vR 0] [] g := by
  refine wp_aload_n dX7_back_17 rfl rfl ?_
  refine wp_get (v := vR 21) dX7_back_18 fl_7_36 L_0 rfl ?_
  refine wp_aload_n dX7_back_21 rfl rfl ?_
  refine wp_get (v := vR 1) dX7_back_22 fl_7_10 L_0 rfl ?_
  exact wp_callvI (As := [vR 1]) dX7_back_25 ml_7_167 (by decide) rfl L_21 (by decide) rfl (Nat.le_of_ble_eq_true rfl) rfl (Nat.le_refl _) (Nat.le_refl _) hc k
theorem b_X7_back_28 {d : Nat} {Q : Option pV → pG → Prop} {g : pG} {vs0 : Int} (hq : Q (some (vI vs0)) g) : EV d mX7_back Q 28 [vR 0] [vI vs0] g := by
  exact wp_iret dX7_back_28 rfl hq
theorem b_X7_down_0 {d : Nat} {Q : Option pV → pG → Prop} {g : pG} {v1 v2 : Int} {R : Int → pG → Prop} (hc : CT d mX7_outside [vI v1, vI 0, vI ((g 1) 3)] g (qI R)) (k : ∀ (x : Int) (gg : pG), R x gg → EV d mX7_down Q 12 [vR 0, vI v1, vI v2, vX 2] [vI x] gg) : EV d mX7_down Q 0 [vR 0, vI v1, vI v2, vX 2] [] g := by
  refine wp_iload_n dX7_down_0 rfl ?_
  refine wp_iconst dX7_down_1 kc_0 ?_
  refine wp_aload_n dX7_down_2 rfl rfl ?_
  refine wp_get (v := vR 1) dX7_down_3 fl_7_10 L_0 rfl ?_
  refine wp_get (v := vI ((g 1) 3)) dX7_down_6 fl_7_152 L_1 rfl ?_
  exact wp_callsI (As := [vI v1, vI 0, vI ((g 1) 3)]) dX7_down_9 ml_7_127 (Or.inl rfl) rfl (Nat.le_of_ble_eq_true rfl) rfl (Nat.le_refl _) (Nat.le_refl _) hc k
theorem b_X7_down_12 {d : Nat} {Q : Option pV → pG → Prop} {g : pG} {v1 v2 vs0 : Int} (k1 : (vs0 = 0) → EV d mX7_down Q 23 [vR 0, vI v1, vI v2, vI vs0] [] g) (k2 : ¬ (vs0 = 0) → EV d mX7_down Q 17 [vR 0, vI v1, vI v2, vI vs0] [] g) : EV d mX7_down Q 12 [vR 0, vI v1, vI v2, vX 2] [vI vs0] g := by
  refine wp_istore_n dX7_down_12 (Nat.le_of_ble_eq_true rfl) (pp (c := 2) rfl rfl) ?_
  refine wp_iload_n dX7_down_13 rfl ?_
  exact wp_if_eq (tgt := 23) dX7_down_14 rfl k1 k2
theorem b_X7_down_17 {d : Nat} {Q : Option pV → pG → Prop} {g : pG} {v1 v2 v3 : Int} {R : Int → pG → Prop} (hc : CT d mX7_refuseHigh [vR 0, vI v3] g (qI R)) (k : ∀ (x : Int) (gg : pG), R x gg → EV d mX7_down Q 22 [vR 0, vI v1, vI v2, vI v3] [vI x] gg) : EV d mX7_down Q 17 [vR 0, vI v1, vI v2, vI v3] [] g := by
  refine wp_aload_n dX7_down_17 rfl rfl ?_
  refine wp_iload_n dX7_down_18 rfl ?_
  exact wp_callvI (As := [vI v3]) dX7_down_19 ml_7_124 (by decide) rfl L_0 (by decide) rfl (Nat.le_of_ble_eq_true rfl) rfl (Nat.le_refl _) (Nat.le_refl _) hc k
theorem b_X7_down_22 {d : Nat} {Q : Option pV → pG → Prop} {g : pG} {v1 v2 v3 vs0 : Int} (hq : Q (some (vI vs0)) g) : EV d mX7_down Q 22 [vR 0, vI v1, vI v2, vI v3] [vI vs0] g := by
  exact wp_iret dX7_down_22 rfl hq
theorem b_X7_down_23 {d : Nat} {Q : Option pV → pG → Prop} {g : pG} {v1 v2 v3 : Int} (k1 : (v2 < 0) → EV d mX7_down Q 53 [vR 0, vI v1, vI v2, vI v3] [] g) (k2 : ¬ (v2 < 0) → EV d mX7_down Q 27 [vR 0, vI v1, vI v2, vI v3] [] g) : EV d mX7_down Q 23 [vR 0, vI v1, vI v2, vI v3] [] g := by
  refine wp_iload_n dX7_down_23 rfl ?_
  exact wp_if_lt (tgt := 53) dX7_down_24 rfl k1 k2
theorem b_X7_down_27 {d : Nat} {Q : Option pV → pG → Prop} {g : pG} {v1 v2 v3 : Int} (k1 : (9 < v2) → EV d mX7_down Q 53 [vR 0, vI v1, vI v2, vI v3] [] g) (k2 : ¬ (9 < v2) → EV d mX7_down Q 33 [vR 0, vI v1, vI v2, vI v3] [] g) : EV d mX7_down Q 27 [vR 0, vI v1, vI v2, vI v3] [] g := by
  refine wp_iload_n dX7_down_27 rfl ?_
  refine wp_bipush dX7_down_28 kb_9 kc_9 ?_
  exact wp_icmp_gt (tgt := 53) dX7_down_30 rfl k1 k2
theorem b_X7_down_33 {d : Nat} {Q : Option pV → pG → Prop} {g : pG} {v1 v2 v3 : Int} (k1 : (8 ≤ v2) → EV d mX7_down Q 60 [vR 0, vI v1, vI v2, vI v3] [] g) (k2 : ¬ (8 ≤ v2) → EV d mX7_down Q 39 [vR 0, vI v1, vI v2, vI v3] [] g) : EV d mX7_down Q 33 [vR 0, vI v1, vI v2, vI v3] [] g := by
  refine wp_iload_n dX7_down_33 rfl ?_
  refine wp_bipush dX7_down_34 kb_8 kc_8 ?_
  exact wp_icmp_ge (tgt := 60) dX7_down_36 rfl k1 k2
theorem b_X7_down_39 {d : Nat} {Q : Option pV → pG → Prop} {g : pG} {v1 v2 v3 : Int} {R : Int → pG → Prop} (hc : CT d mX3_has [vR 5, vI v2] g (qI R)) (k : ∀ (x : Int) (gg : pG), R x gg → EV d mX7_down Q 50 [vR 0, vI v1, vI v2, vI v3] [vI x] gg) : EV d mX7_down Q 39 [vR 0, vI v1, vI v2, vI v3] [] g := by
  refine wp_aload_n dX7_down_39 rfl rfl ?_
  refine wp_get (v := vR 1) dX7_down_40 fl_7_10 L_0 rfl ?_
  refine wp_get (v := vR 5) dX7_down_43 fl_7_118 L_1 rfl ?_
  refine wp_iload_n dX7_down_46 rfl ?_
  exact wp_callvI (As := [vI v2]) dX7_down_47 ml_7_121 (by decide) rfl L_5 (by decide) rfl (Nat.le_of_ble_eq_true rfl) rfl (Nat.le_refl _) (Nat.le_refl _) hc k
theorem b_X7_down_50 {d : Nat} {Q : Option pV → pG → Prop} {g : pG} {v1 v2 v3 vs0 : Int} (k1 : (vs0 ≠ 0) → EV d mX7_down Q 60 [vR 0, vI v1, vI v2, vI v3] [] g) (k2 : ¬ (vs0 ≠ 0) → EV d mX7_down Q 53 [vR 0, vI v1, vI v2, vI v3] [] g) : EV d mX7_down Q 50 [vR 0, vI v1, vI v2, vI v3] [vI vs0] g := by
  exact wp_if_ne (tgt := 60) dX7_down_50 rfl k1 k2
theorem b_X7_down_53 {d : Nat} {Q : Option pV → pG → Prop} {g : pG} {v1 v2 v3 : Int} {R : Int → pG → Prop} (hc : CT d mX7_refuseHigh [vR 0, vI (-2)] g (qI R)) (k : ∀ (x : Int) (gg : pG), R x gg → EV d mX7_down Q 59 [vR 0, vI v1, vI v2, vI v3] [vI x] gg) : EV d mX7_down Q 53 [vR 0, vI v1, vI v2, vI v3] [] g := by
  refine wp_aload_n dX7_down_53 rfl rfl ?_
  refine wp_bipush dX7_down_54 kb_m2 kc_m2 ?_
  exact wp_callvI (As := [vI (-2)]) dX7_down_56 ml_7_124 (by decide) rfl L_0 (by decide) rfl (Nat.le_of_ble_eq_true rfl) rfl (Nat.le_refl _) (Nat.le_refl _) hc k
theorem b_X7_down_59 {d : Nat} {Q : Option pV → pG → Prop} {g : pG} {v1 v2 v3 vs0 : Int} (hq : Q (some (vI vs0)) g) : EV d mX7_down Q 59 [vR 0, vI v1, vI v2, vI v3] [vI vs0] g := by
  exact wp_iret dX7_down_59 rfl hq
theorem b_X7_down_60 {d : Nat} {Q : Option pV → pG → Prop} {g : pG} {v1 v2 v3 : Int} {R : pG → Prop} (hc : CT d mX7_goDownTo [vR 0, vI v1] g (qV R)) (k : ∀ gg : pG, R gg → EV d mX7_down Q 65 [vR 0, vI v1, vI v2, vI v3] [] gg) : EV d mX7_down Q 60 [vR 0, vI v1, vI v2, vI v3] [] g := by
  refine wp_aload_n dX7_down_60 rfl rfl ?_
  refine wp_iload_n dX7_down_61 rfl ?_
  exact wp_callvV (As := [vI v1]) dX7_down_62 ml_7_171 (by decide) rfl L_0 (by decide) rfl (Nat.le_of_ble_eq_true rfl) rfl (Nat.le_refl _) (Nat.le_refl _) hc k
theorem b_X7_down_65 {d : Nat} {Q : Option pV → pG → Prop} {g : pG} {v1 v2 v3 : Int} (k1 : (v2 ≠ 9) → EV d mX7_down Q 82 [vR 0, vI v1, vI v2, vI v3] [] g) (k2 : ¬ (v2 ≠ 9) → EV d mX7_down Q 71 [vR 0, vI v1, vI v2, vI v3] [] g) : EV d mX7_down Q 65 [vR 0, vI v1, vI v2, vI v3] [] g := by
  refine wp_iload_n dX7_down_65 rfl ?_
  refine wp_bipush dX7_down_66 kb_9 kc_9 ?_
  exact wp_icmp_ne (tgt := 82) dX7_down_68 rfl k1 k2
theorem b_X7_down_71 {d : Nat} {Q : Option pV → pG → Prop} {g : pG} {v1 v2 v3 : Int} {R : Int → pG → Prop} (hc : CT d mX3_isFor [vR 27] g (qI R)) (k : ∀ (x : Int) (gg : pG), R x gg → EV d mX7_down Q 78 [vR 0, vI v1, vI v2, vI v3] [vI x] gg) : EV d mX7_down Q 71 [vR 0, vI v1, vI v2, vI v3] [] g := by
  refine wp_aload_n dX7_down_71 rfl rfl ?_
  refine wp_get (v := vR 27) dX7_down_72 fl_7_54 L_0 rfl ?_
  exact wp_callvI (As := []) dX7_down_75 ml_7_175 (by decide) rfl L_27 (by decide) rfl (Nat.le_of_ble_eq_true rfl) rfl (Nat.le_refl _) (Nat.le_refl _) hc k
theorem b_X7_down_78 {d : Nat} {Q : Option pV → pG → Prop} {g : pG} {v1 v2 v3 vs0 : Int} {R : Int → pG → Prop} (hc : CT d mX7_bit [vI vs0] g (qI R)) (k : ∀ (x : Int) (gg : pG), R x gg → EV d mX7_down Q 81 [vR 0, vI v1, vI v2, vI v3] [vI x] gg) : EV d mX7_down Q 78 [vR 0, vI v1, vI v2, vI v3] [vI vs0] g := by
  exact wp_callsI (As := [vI vs0]) dX7_down_78 ml_7_179 (Or.inl rfl) rfl (Nat.le_of_ble_eq_true rfl) rfl (Nat.le_refl _) (Nat.le_refl _) hc k
theorem b_X7_down_81 {d : Nat} {Q : Option pV → pG → Prop} {g : pG} {v1 v2 v3 vs0 : Int} (hq : Q (some (vI vs0)) g) : EV d mX7_down Q 81 [vR 0, vI v1, vI v2, vI v3] [vI vs0] g := by
  exact wp_iret dX7_down_81 rfl hq
theorem b_X7_down_82 {d : Nat} {Q : Option pV → pG → Prop} {g : pG} {v1 v2 v3 : Int} (k1 : (v2 ≠ 8) → EV d mX7_down Q 98 [vR 0, vI v1, vI v2, vI v3] [] g) (k2 : ¬ (v2 ≠ 8) → EV d mX7_down Q 88 [vR 0, vI v1, vI v2, vI v3] [] g) : EV d mX7_down Q 82 [vR 0, vI v1, vI v2, vI v3] [] g := by
  refine wp_iload_n dX7_down_82 rfl ?_
  refine wp_bipush dX7_down_83 kb_8 kc_8 ?_
  exact wp_icmp_ne (tgt := 98) dX7_down_85 rfl k1 k2
theorem b_X7_down_88 {d : Nat} {Q : Option pV → pG → Prop} {g : pG} {v1 v2 v3 : Int} {R : Int → pG → Prop} (hc : CT d mX3_sum [vR 27] g (qI R)) (k : ∀ (x : Int) (gg : pG), R x gg → EV d mX7_down Q 95 [vR 0, vI v1, vI v2, vI v3] [vI x] gg) : EV d mX7_down Q 88 [vR 0, vI v1, vI v2, vI v3] [] g := by
  refine wp_aload_n dX7_down_88 rfl rfl ?_
  refine wp_get (v := vR 27) dX7_down_89 fl_7_54 L_0 rfl ?_
  exact wp_callvI (As := []) dX7_down_92 ml_7_183 (by decide) rfl L_27 (by decide) rfl (Nat.le_of_ble_eq_true rfl) rfl (Nat.le_refl _) (Nat.le_refl _) hc k
theorem b_X7_down_95 {d : Nat} {Q : Option pV → pG → Prop} {g : pG} {v1 v2 v3 vs0 : Int} (hq : Q (some (vI vs0)) g) : EV d mX7_down Q 95 [vR 0, vI v1, vI v2, vI v3] [vI vs0] g := by
  refine wp_goto (tgt := 106) dX7_down_95 rfl ?_
  exact wp_iret dX7_down_106 rfl hq
theorem b_X7_down_98 {d : Nat} {Q : Option pV → pG → Prop} {g : pG} {v1 v2 v3 : Int} {R : Int → pG → Prop} (hc : CT d mX3_number [vR 27, vI v2] g (qI R)) (k : ∀ (x : Int) (gg : pG), R x gg → EV d mX7_down Q 106 [vR 0, vI v1, vI v2, vI v3] [vI x] gg) : EV d mX7_down Q 98 [vR 0, vI v1, vI v2, vI v3] [] g := by
  refine wp_aload_n dX7_down_98 rfl rfl ?_
  refine wp_get (v := vR 27) dX7_down_99 fl_7_54 L_0 rfl ?_
  refine wp_iload_n dX7_down_102 rfl ?_
  exact wp_callvI (As := [vI v2]) dX7_down_103 ml_7_131 (by decide) rfl L_27 (by decide) rfl (Nat.le_of_ble_eq_true rfl) rfl (Nat.le_refl _) (Nat.le_refl _) hc k
theorem b_X7_down_106 {d : Nat} {Q : Option pV → pG → Prop} {g : pG} {v1 v2 v3 vs0 : Int} (hq : Q (some (vI vs0)) g) : EV d mX7_down Q 106 [vR 0, vI v1, vI v2, vI v3] [vI vs0] g := by
  exact wp_iret dX7_down_106 rfl hq
theorem b_X7_goDownTo_0 {d : Nat} {Q : Option pV → pG → Prop} {g : pG} {v1 : Int} {R : pG → Prop} (hc : CT d mX3_copyFrom [vR 27, vR 5] g (qV R)) (k : ∀ gg : pG, R gg → EV d mX7_goDownTo Q 14 [vR 0, vI v1] [] gg) : EV d mX7_goDownTo Q 0 [vR 0, vI v1] [] g := by
  refine wp_aload_n dX7_goDownTo_0 rfl rfl ?_
  refine wp_get (v := vR 27) dX7_goDownTo_1 fl_7_54 L_0 rfl ?_
  refine wp_aload_n dX7_goDownTo_4 rfl rfl ?_
  refine wp_get (v := vR 1) dX7_goDownTo_5 fl_7_10 L_0 rfl ?_
  refine wp_get (v := vR 5) dX7_goDownTo_8 fl_7_118 L_1 rfl ?_
  exact wp_callvV (As := [vR 5]) dX7_goDownTo_11 ml_7_236 (by decide) rfl L_27 (by decide) rfl (Nat.le_of_ble_eq_true rfl) rfl (Nat.le_refl _) (Nat.le_refl _) hc k
theorem b_X7_goDownTo_14 {d : Nat} {Q : Option pV → pG → Prop} {g : pG} {v1 : Int} {R : pG → Prop} (hc : CT d mX5_goDown [vR 1, vR 27, vI v1] g (qV R)) (k : ∀ gg : pG, R gg → EV d mX7_goDownTo Q 26 [vR 0, vI v1] [] gg) : EV d mX7_goDownTo Q 14 [vR 0, vI v1] [] g := by
  refine wp_aload_n dX7_goDownTo_14 rfl rfl ?_
  refine wp_get (v := vR 1) dX7_goDownTo_15 fl_7_10 L_0 rfl ?_
  refine wp_aload_n dX7_goDownTo_18 rfl rfl ?_
  refine wp_get (v := vR 27) dX7_goDownTo_19 fl_7_54 L_0 rfl ?_
  refine wp_iload_n dX7_goDownTo_22 rfl ?_
  exact wp_callvV (As := [vR 27, vI v1]) dX7_goDownTo_23 ml_7_269 (by decide) rfl L_1 (by decide) rfl (Nat.le_of_ble_eq_true rfl) rfl (Nat.le_refl _) (Nat.le_refl _) hc k
theorem b_X7_goDownTo_26 {d : Nat} {Q : Option pV → pG → Prop} {g : pG} {v1 : Int} (hq : Q none g) : EV d mX7_goDownTo Q 26 [vR 0, vI v1] [] g := by
  exact wp_vret dX7_goDownTo_26 rfl hq
theorem b_X7_bit_0 {d : Nat} {Q : Option pV → pG → Prop} {g : pG} {v0 : Int} (k1 : (v0 = 0) → EV d mX7_bit Q 8 [vI v0] [] g) (k2 : ¬ (v0 = 0) → EV d mX7_bit Q 4 [vI v0] [] g) : EV d mX7_bit Q 0 [vI v0] [] g := by
  refine wp_iload_n dX7_bit_0 rfl ?_
  exact wp_if_eq (tgt := 8) dX7_bit_1 rfl k1 k2
theorem b_X7_bit_4 {d : Nat} {Q : Option pV → pG → Prop} {g : pG} {v0 : Int} (hq : Q (some (vI 1)) g) : EV d mX7_bit Q 4 [vI v0] [] g := by
  refine wp_iconst dX7_bit_4 kc_1 ?_
  refine wp_goto (tgt := 9) dX7_bit_5 rfl ?_
  exact wp_iret dX7_bit_9 rfl hq
theorem b_X7_bit_8 {d : Nat} {Q : Option pV → pG → Prop} {g : pG} {v0 : Int} (hq : Q (some (vI 0)) g) : EV d mX7_bit Q 8 [vI v0] [] g := by
  refine wp_iconst dX7_bit_8 kc_0 ?_
  exact wp_iret dX7_bit_9 rfl hq
theorem b_X7_turns_0 {d : Nat} {Q : Option pV → pG → Prop} {g : pG} {v1 : Int} (k1 : (v1 < 0) → EV d mX7_turns Q 9 [vR 0, vI v1, vX 2, vX 2, vX 2, vX 2] [] g) (k2 : ¬ (v1 < 0) → EV d mX7_turns Q 4 [vR 0, vI v1, vX 2, vX 2, vX 2, vX 2] [] g) : EV d mX7_turns Q 0 [vR 0, vI v1, vX 2, vX 2, vX 2, vX 2] [] g := by
  refine wp_iload_n dX7_turns_0 rfl ?_
  exact wp_if_lt (tgt := 9) dX7_turns_1 rfl k1 k2
theorem b_X7_turns_4 {d : Nat} {Q : Option pV → pG → Prop} {g : pG} {v1 : Int} (k1 : (v1 ≤ 1) → EV d mX7_turns Q 16 [vR 0, vI v1, vX 2, vX 2, vX 2, vX 2] [] g) (k2 : ¬ (v1 ≤ 1) → EV d mX7_turns Q 9 [vR 0, vI v1, vX 2, vX 2, vX 2, vX 2] [] g) : EV d mX7_turns Q 4 [vR 0, vI v1, vX 2, vX 2, vX 2, vX 2] [] g := by
  refine wp_iload_n dX7_turns_4 rfl ?_
  refine wp_iconst dX7_turns_5 kc_1 ?_
  exact wp_icmp_le (tgt := 16) dX7_turns_6 rfl k1 k2
theorem b_X7_turns_9 {d : Nat} {Q : Option pV → pG → Prop} {g : pG} {v1 : Int} {R : Int → pG → Prop} (hc : CT d mX7_refuse [vR 0, vI (-2)] g (qI R)) (k : ∀ (x : Int) (gg : pG), R x gg → EV d mX7_turns Q 15 [vR 0, vI v1, vX 2, vX 2, vX 2, vX 2] [vI x] gg) : EV d mX7_turns Q 9 [vR 0, vI v1, vX 2, vX 2, vX 2, vX 2] [] g := by
  refine wp_aload_n dX7_turns_9 rfl rfl ?_
  refine wp_bipush dX7_turns_10 kb_m2 kc_m2 ?_
  exact wp_callvI (As := [vI (-2)]) dX7_turns_12 ml_7_91 (by decide) rfl L_0 (by decide) rfl (Nat.le_of_ble_eq_true rfl) rfl (Nat.le_refl _) (Nat.le_refl _) hc k
theorem b_X7_turns_15 {d : Nat} {Q : Option pV → pG → Prop} {g : pG} {v1 vs0 : Int} (hq : Q (some (vI vs0)) g) : EV d mX7_turns Q 15 [vR 0, vI v1, vX 2, vX 2, vX 2, vX 2] [vI vs0] g := by
  exact wp_iret dX7_turns_15 rfl hq
theorem b_X7_turns_16 {d : Nat} {Q : Option pV → pG → Prop} {g : pG} {v1 : Int} {R : pG → Prop} (hc : CT d mX7_goDownTo [vR 0, vI 0] g (qV R)) (k : ∀ gg : pG, R gg → EV d mX7_turns Q 26 [vR 0, vI v1, vI (-9), vI 0, vX 2, vX 2] [] gg) : EV d mX7_turns Q 16 [vR 0, vI v1, vX 2, vX 2, vX 2, vX 2] [] g := by
  refine wp_bipush dX7_turns_16 kb_m9 kc_m9 ?_
  refine wp_istore_n dX7_turns_18 (Nat.le_of_ble_eq_true rfl) (pp (c := 1) rfl rfl) ?_
  refine wp_iconst dX7_turns_19 kc_0 ?_
  refine wp_istore_n dX7_turns_20 (Nat.le_of_ble_eq_true rfl) (pp (c := 2) rfl rfl) ?_
  refine wp_aload_n dX7_turns_21 rfl rfl ?_
  refine wp_iconst dX7_turns_22 kc_0 ?_
  exact wp_callvV (As := [vI 0]) dX7_turns_23 ml_7_171 (by decide) rfl L_0 (by decide) rfl (Nat.le_of_ble_eq_true rfl) rfl (Nat.le_refl _) (Nat.le_refl _) hc k
theorem b_X7_turns_26 {d : Nat} {Q : Option pV → pG → Prop} {g : pG} {v1 v2 v3 : Int} (k : EV d mX7_turns Q 29 [vR 0, vI v1, vI v2, vI v3, vI 0, vX 2] [] g) : EV d mX7_turns Q 26 [vR 0, vI v1, vI v2, vI v3, vX 2, vX 2] [] g := by
  refine wp_iconst dX7_turns_26 kc_0 ?_
  refine wp_istore dX7_turns_27 (Nat.le_of_ble_eq_true rfl) (pp (c := 3) rfl rfl) ?_
  exact k
theorem b_X7_turns_29 {d : Nat} {Q : Option pV → pG → Prop} {g : pG} {v1 v2 v3 v4 : Int} {u5 : pV} (k1 : ((g 1) 3 ≤ v4) → EV d mX7_turns Q 92 [vR 0, vI v1, vI v2, vI v3, vI v4, u5] [] g) (k2 : ¬ ((g 1) 3 ≤ v4) → EV d mX7_turns Q 41 [vR 0, vI v1, vI v2, vI v3, vI v4, u5] [] g) : EV d mX7_turns Q 29 [vR 0, vI v1, vI v2, vI v3, vI v4, u5] [] g := by
  refine wp_iload dX7_turns_29 rfl ?_
  refine wp_aload_n dX7_turns_31 rfl rfl ?_
  refine wp_get (v := vR 1) dX7_turns_32 fl_7_10 L_0 rfl ?_
  refine wp_get (v := vI ((g 1) 3)) dX7_turns_35 fl_7_152 L_1 rfl ?_
  exact wp_icmp_ge (tgt := 92) dX7_turns_38 rfl k1 k2
theorem b_X7_turns_41 {d : Nat} {Q : Option pV → pG → Prop} {g : pG} {v1 v2 v3 v4 : Int} {u5 : pV} {R : Int → pG → Prop} (hc : CT d mX3_isFor [vR 27] g (qI R)) (k : ∀ (x : Int) (gg : pG), R x gg → EV d mX7_turns Q 48 [vR 0, vI v1, vI v2, vI v3, vI v4, u5] [vI x] gg) : EV d mX7_turns Q 41 [vR 0, vI v1, vI v2, vI v3, vI v4, u5] [] g := by
  refine wp_aload_n dX7_turns_41 rfl rfl ?_
  refine wp_get (v := vR 27) dX7_turns_42 fl_7_54 L_0 rfl ?_
  exact wp_callvI (As := []) dX7_turns_45 ml_7_175 (by decide) rfl L_27 (by decide) rfl (Nat.le_of_ble_eq_true rfl) rfl (Nat.le_refl _) (Nat.le_refl _) hc k
theorem b_X7_turns_48 {d : Nat} {Q : Option pV → pG → Prop} {g : pG} {v1 v2 v3 v4 vs0 : Int} {u5 : pV} {R : pG → Prop} (hc : CT d mX5_hear [vR 1, vI v4, vR 27] g (qV R)) (k : ∀ gg : pG, R gg → EV d mX7_turns Q 63 [vR 0, vI v1, vI v2, vI v3, vI v4, vI vs0] [] gg) : EV d mX7_turns Q 48 [vR 0, vI v1, vI v2, vI v3, vI v4, u5] [vI vs0] g := by
  refine wp_istore dX7_turns_48 (Nat.le_of_ble_eq_true rfl) (pp (c := 4) rfl rfl) ?_
  refine wp_aload_n dX7_turns_50 rfl rfl ?_
  refine wp_get (v := vR 1) dX7_turns_51 fl_7_10 L_0 rfl ?_
  refine wp_iload dX7_turns_54 rfl ?_
  refine wp_aload_n dX7_turns_56 rfl rfl ?_
  refine wp_get (v := vR 27) dX7_turns_57 fl_7_54 L_0 rfl ?_
  exact wp_callvV (As := [vI v4, vR 27]) dX7_turns_60 ml_7_186 (by decide) rfl L_1 (by decide) rfl (Nat.le_of_ble_eq_true rfl) rfl (Nat.le_refl _) (Nat.le_refl _) hc k
theorem b_X7_turns_63 {d : Nat} {Q : Option pV → pG → Prop} {g : pG} {v1 v2 v3 v4 v5 : Int} {R : Int → pG → Prop} (hc : CT d mX3_isFor [vR 27] g (qI R)) (k : ∀ (x : Int) (gg : pG), R x gg → EV d mX7_turns Q 70 [vR 0, vI v1, vI v2, vI v3, vI v4, vI v5] [vI x] gg) : EV d mX7_turns Q 63 [vR 0, vI v1, vI v2, vI v3, vI v4, vI v5] [] g := by
  refine wp_aload_n dX7_turns_63 rfl rfl ?_
  refine wp_get (v := vR 27) dX7_turns_64 fl_7_54 L_0 rfl ?_
  exact wp_callvI (As := []) dX7_turns_67 ml_7_175 (by decide) rfl L_27 (by decide) rfl (Nat.le_of_ble_eq_true rfl) rfl (Nat.le_refl _) (Nat.le_refl _) hc k
theorem b_X7_turns_70 {d : Nat} {Q : Option pV → pG → Prop} {g : pG} {v1 v2 v3 v4 v5 vs0 : Int} (k1 : (vs0 = v5) → EV d mX7_turns Q 86 [vR 0, vI v1, vI v2, vI v3, vI v4, vI v5] [] g) (k2 : ¬ (vs0 = v5) → EV d mX7_turns Q 75 [vR 0, vI v1, vI v2, vI v3, vI v4, vI v5] [] g) : EV d mX7_turns Q 70 [vR 0, vI v1, vI v2, vI v3, vI v4, vI v5] [vI vs0] g := by
  refine wp_iload dX7_turns_70 rfl ?_
  exact wp_icmp_eq (tgt := 86) dX7_turns_72 rfl k1 k2
theorem b_X7_turns_75 {d : Nat} {Q : Option pV → pG → Prop} {g : pG} {v1 v2 v3 v4 v5 : Int} (k1 : (w32 (v3 + 1) ≠ 1) → EV d mX7_turns Q 86 [vR 0, vI v1, vI v2, vI (w32 (v3 + 1)), vI v4, vI v5] [] g) (k2 : ¬ (w32 (v3 + 1) ≠ 1) → EV d mX7_turns Q 83 [vR 0, vI v1, vI v2, vI (w32 (v3 + 1)), vI v4, vI v5] [] g) : EV d mX7_turns Q 75 [vR 0, vI v1, vI v2, vI v3, vI v4, vI v5] [] g := by
  refine wp_iinc dX7_turns_75 rfl (Nat.le_of_ble_eq_true rfl) (pp (c := 2) rfl rfl) ?_
  refine wp_iload_n dX7_turns_78 rfl ?_
  refine wp_iconst dX7_turns_79 kc_1 ?_
  exact wp_icmp_ne (tgt := 86) dX7_turns_80 rfl k1 k2
theorem b_X7_turns_83 {d : Nat} {Q : Option pV → pG → Prop} {g : pG} {v1 v2 v3 v4 v5 : Int} (k : EV d mX7_turns Q 29 [vR 0, vI v1, vI v4, vI v3, vI (w32 (v4 + 1)), vI v5] [] g) : EV d mX7_turns Q 83 [vR 0, vI v1, vI v2, vI v3, vI v4, vI v5] [] g := by
  refine wp_iload dX7_turns_83 rfl ?_
  refine wp_istore_n dX7_turns_85 (Nat.le_of_ble_eq_true rfl) (pp (c := 1) rfl rfl) ?_
  refine wp_iinc dX7_turns_86 rfl (Nat.le_of_ble_eq_true rfl) (pp (c := 3) rfl rfl) ?_
  refine wp_goto (tgt := 29) dX7_turns_89 rfl ?_
  exact k
theorem b_X7_turns_86 {d : Nat} {Q : Option pV → pG → Prop} {g : pG} {v1 v2 v3 v4 v5 : Int} (k : EV d mX7_turns Q 29 [vR 0, vI v1, vI v2, vI v3, vI (w32 (v4 + 1)), vI v5] [] g) : EV d mX7_turns Q 86 [vR 0, vI v1, vI v2, vI v3, vI v4, vI v5] [] g := by
  refine wp_iinc dX7_turns_86 rfl (Nat.le_of_ble_eq_true rfl) (pp (c := 3) rfl rfl) ?_
  refine wp_goto (tgt := 29) dX7_turns_89 rfl ?_
  exact k
theorem b_X7_turns_92 {d : Nat} {Q : Option pV → pG → Prop} {g : pG} {v1 v2 v3 v4 : Int} {u5 : pV} (k1 : (v1 ≠ 0) → EV d mX7_turns Q 100 [vR 0, vI v1, vI v2, vI v3, vI v4, u5] [] g) (k2 : ¬ (v1 ≠ 0) → EV d mX7_turns Q 96 [vR 0, vI v1, vI v2, vI v3, vI v4, u5] [] g) : EV d mX7_turns Q 92 [vR 0, vI v1, vI v2, vI v3, vI v4, u5] [] g := by
  refine wp_iload_n dX7_turns_92 rfl ?_
  exact wp_if_ne (tgt := 100) dX7_turns_93 rfl k1 k2
theorem b_X7_turns_96 {d : Nat} {Q : Option pV → pG → Prop} {g : pG} {v1 v2 v3 v4 : Int} {u5 : pV} (hq : Q (some (vI v2)) g) : EV d mX7_turns Q 96 [vR 0, vI v1, vI v2, vI v3, vI v4, u5] [] g := by
  refine wp_iload_n dX7_turns_96 rfl ?_
  refine wp_goto (tgt := 101) dX7_turns_97 rfl ?_
  exact wp_iret dX7_turns_101 rfl hq
theorem b_X7_turns_100 {d : Nat} {Q : Option pV → pG → Prop} {g : pG} {v1 v2 v3 v4 : Int} {u5 : pV} (hq : Q (some (vI v3)) g) : EV d mX7_turns Q 100 [vR 0, vI v1, vI v2, vI v3, vI v4, u5] [] g := by
  refine wp_iload_n dX7_turns_100 rfl ?_
  exact wp_iret dX7_turns_101 rfl hq
theorem b_X7_costs_0 {d : Nat} {Q : Option pV → pG → Prop} {g : pG} {v1 : Int} {R : Int → pG → Prop} (hc : CT d mX7_outside [vI v1, vI 0, vI ((g 1) 3)] g (qI R)) (k : ∀ (x : Int) (gg : pG), R x gg → EV d mX7_costs Q 12 [vR 0, vI v1, vX 2] [vI x] gg) : EV d mX7_costs Q 0 [vR 0, vI v1, vX 2] [] g := by
  refine wp_iload_n dX7_costs_0 rfl ?_
  refine wp_iconst dX7_costs_1 kc_0 ?_
  refine wp_aload_n dX7_costs_2 rfl rfl ?_
  refine wp_get (v := vR 1) dX7_costs_3 fl_7_10 L_0 rfl ?_
  refine wp_get (v := vI ((g 1) 3)) dX7_costs_6 fl_7_152 L_1 rfl ?_
  exact wp_callsI (As := [vI v1, vI 0, vI ((g 1) 3)]) dX7_costs_9 ml_7_127 (Or.inl rfl) rfl (Nat.le_of_ble_eq_true rfl) rfl (Nat.le_refl _) (Nat.le_refl _) hc k
theorem b_X7_costs_12 {d : Nat} {Q : Option pV → pG → Prop} {g : pG} {v1 vs0 : Int} (k1 : (vs0 = 0) → EV d mX7_costs Q 25 [vR 0, vI v1, vI vs0] [] g) (k2 : ¬ (vs0 = 0) → EV d mX7_costs Q 17 [vR 0, vI v1, vI vs0] [] g) : EV d mX7_costs Q 12 [vR 0, vI v1, vX 2] [vI vs0] g := by
  refine wp_istore_n dX7_costs_12 (Nat.le_of_ble_eq_true rfl) (pp (c := 1) rfl rfl) ?_
  refine wp_iload_n dX7_costs_13 rfl ?_
  exact wp_if_eq (tgt := 25) dX7_costs_14 rfl k1 k2
theorem b_X7_costs_17 {d : Nat} {Q : Option pV → pG → Prop} {g : pG} {v1 v2 : Int} {R : Int → pG → Prop} (hc : CT d mX7_refuse [vR 0, vI v2] g (qI R)) (k : ∀ (x : Int) (gg : pG), R x gg → EV d mX7_costs Q 22 [vR 0, vI v1, vI v2] [vI x] gg) : EV d mX7_costs Q 17 [vR 0, vI v1, vI v2] [] g := by
  refine wp_aload_n dX7_costs_17 rfl rfl ?_
  refine wp_iload_n dX7_costs_18 rfl ?_
  exact wp_callvI (As := [vI v2]) dX7_costs_19 ml_7_91 (by decide) rfl L_0 (by decide) rfl (Nat.le_of_ble_eq_true rfl) rfl (Nat.le_refl _) (Nat.le_refl _) hc k
theorem b_X7_costs_22 {d : Nat} {Q : Option pV → pG → Prop} {g : pG} {v1 v2 vs0 : Int} (hq : Q (some (vI vs0)) g) : EV d mX7_costs Q 22 [vR 0, vI v1, vI v2] [vI vs0] g := by
  refine wp_goto (tgt := 34) dX7_costs_22 rfl ?_
  exact wp_iret dX7_costs_34 rfl hq
theorem b_X7_costs_25 {d : Nat} {Q : Option pV → pG → Prop} {g : pG} {v1 v2 : Int} {R : Int → pG → Prop} (hc : CT d mX5_costsBetween [vR 1, vI 0, vI v1] g (qI R)) (k : ∀ (x : Int) (gg : pG), R x gg → EV d mX7_costs Q 34 [vR 0, vI v1, vI v2] [vI x] gg) : EV d mX7_costs Q 25 [vR 0, vI v1, vI v2] [] g := by
  refine wp_aload_n dX7_costs_25 rfl rfl ?_
  refine wp_get (v := vR 1) dX7_costs_26 fl_7_10 L_0 rfl ?_
  refine wp_iconst dX7_costs_29 kc_0 ?_
  refine wp_iload_n dX7_costs_30 rfl ?_
  exact wp_callvI (As := [vI 0, vI v1]) dX7_costs_31 ml_7_190 (by decide) rfl L_1 (by decide) rfl (Nat.le_of_ble_eq_true rfl) rfl (Nat.le_refl _) (Nat.le_refl _) hc k
theorem b_X7_costs_34 {d : Nat} {Q : Option pV → pG → Prop} {g : pG} {v1 v2 vs0 : Int} (hq : Q (some (vI vs0)) g) : EV d mX7_costs Q 34 [vR 0, vI v1, vI v2] [vI vs0] g := by
  exact wp_iret dX7_costs_34 rfl hq
theorem b_X7_up_0 {d : Nat} {Q : Option pV → pG → Prop} {g : pG} {R : pG → Prop} (hc : CT d mX7_goDownTo [vR 0, vI 0] g (qV R)) (k : ∀ gg : pG, R gg → EV d mX7_up Q 5 [vR 0, vX 2] [] gg) : EV d mX7_up Q 0 [vR 0, vX 2] [] g := by
  refine wp_aload_n dX7_up_0 rfl rfl ?_
  refine wp_iconst dX7_up_1 kc_0 ?_
  exact wp_callvV (As := [vI 0]) dX7_up_2 ml_7_171 (by decide) rfl L_0 (by decide) rfl (Nat.le_of_ble_eq_true rfl) rfl (Nat.le_refl _) (Nat.le_refl _) hc k
theorem b_X7_up_5 {d : Nat} {Q : Option pV → pG → Prop} {g : pG} (k : EV d mX7_up Q 7 [vR 0, vI 0] [] g) : EV d mX7_up Q 5 [vR 0, vX 2] [] g := by
  refine wp_iconst dX7_up_5 kc_0 ?_
  refine wp_istore_n dX7_up_6 (Nat.le_of_ble_eq_true rfl) (pp (c := 0) rfl rfl) ?_
  exact k
theorem b_X7_up_7 {d : Nat} {Q : Option pV → pG → Prop} {g : pG} {v1 : Int} (k1 : ((g 1) 3 ≤ v1) → EV d mX7_up Q 60 [vR 0, vI v1] [] g) (k2 : ¬ ((g 1) 3 ≤ v1) → EV d mX7_up Q 18 [vR 0, vI v1] [] g) : EV d mX7_up Q 7 [vR 0, vI v1] [] g := by
  refine wp_iload_n dX7_up_7 rfl ?_
  refine wp_aload_n dX7_up_8 rfl rfl ?_
  refine wp_get (v := vR 1) dX7_up_9 fl_7_10 L_0 rfl ?_
  refine wp_get (v := vI ((g 1) 3)) dX7_up_12 fl_7_152 L_1 rfl ?_
  exact wp_icmp_ge (tgt := 60) dX7_up_15 rfl k1 k2
theorem b_X7_up_18 {d : Nat} {Q : Option pV → pG → Prop} {g : pG} {v1 : Int} {R : Int → pG → Prop} (hc : CT d mX5_sendsBack [vR 1, vI v1, vR 27, vI ((g 1) 6)] g (qI R)) (k : ∀ (x : Int) (gg : pG), R x gg → EV d mX7_up Q 37 [vR 0, vI v1] [vI x] gg) : EV d mX7_up Q 18 [vR 0, vI v1] [] g := by
  refine wp_aload_n dX7_up_18 rfl rfl ?_
  refine wp_get (v := vR 1) dX7_up_19 fl_7_10 L_0 rfl ?_
  refine wp_iload_n dX7_up_22 rfl ?_
  refine wp_aload_n dX7_up_23 rfl rfl ?_
  refine wp_get (v := vR 27) dX7_up_24 fl_7_54 L_0 rfl ?_
  refine wp_aload_n dX7_up_27 rfl rfl ?_
  refine wp_get (v := vR 1) dX7_up_28 fl_7_10 L_0 rfl ?_
  refine wp_get (v := vI ((g 1) 6)) dX7_up_31 fl_7_159 L_1 rfl ?_
  exact wp_callvI (As := [vI v1, vR 27, vI ((g 1) 6)]) dX7_up_34 ml_7_194 (by decide) rfl L_1 (by decide) rfl (Nat.le_of_ble_eq_true rfl) rfl (Nat.le_refl _) (Nat.le_refl _) hc k
theorem b_X7_up_37 {d : Nat} {Q : Option pV → pG → Prop} {g : pG} {v1 vs0 : Int} (k1 : (vs0 = 0) → EV d mX7_up Q 42 [vR 0, vI v1] [] g) (k2 : ¬ (vs0 = 0) → EV d mX7_up Q 40 [vR 0, vI v1] [] g) : EV d mX7_up Q 37 [vR 0, vI v1] [vI vs0] g := by
  exact wp_if_eq (tgt := 42) dX7_up_37 rfl k1 k2
theorem b_X7_up_40 {d : Nat} {Q : Option pV → pG → Prop} {g : pG} {v1 : Int} (hq : Q (some (vI v1)) g) : EV d mX7_up Q 40 [vR 0, vI v1] [] g := by
  refine wp_iload_n dX7_up_40 rfl ?_
  exact wp_iret dX7_up_41 rfl hq
theorem b_X7_up_42 {d : Nat} {Q : Option pV → pG → Prop} {g : pG} {v1 : Int} {R : pG → Prop} (hc : CT d mX5_hear [vR 1, vI v1, vR 27] g (qV R)) (k : ∀ gg : pG, R gg → EV d mX7_up Q 54 [vR 0, vI v1] [] gg) : EV d mX7_up Q 42 [vR 0, vI v1] [] g := by
  refine wp_aload_n dX7_up_42 rfl rfl ?_
  refine wp_get (v := vR 1) dX7_up_43 fl_7_10 L_0 rfl ?_
  refine wp_iload_n dX7_up_46 rfl ?_
  refine wp_aload_n dX7_up_47 rfl rfl ?_
  refine wp_get (v := vR 27) dX7_up_48 fl_7_54 L_0 rfl ?_
  exact wp_callvV (As := [vI v1, vR 27]) dX7_up_51 ml_7_186 (by decide) rfl L_1 (by decide) rfl (Nat.le_of_ble_eq_true rfl) rfl (Nat.le_refl _) (Nat.le_refl _) hc k
theorem b_X7_up_54 {d : Nat} {Q : Option pV → pG → Prop} {g : pG} {v1 : Int} (k : EV d mX7_up Q 7 [vR 0, vI (w32 (v1 + 1))] [] g) : EV d mX7_up Q 54 [vR 0, vI v1] [] g := by
  refine wp_iinc dX7_up_54 rfl (Nat.le_of_ble_eq_true rfl) (pp (c := 0) rfl rfl) ?_
  refine wp_goto (tgt := 7) dX7_up_57 rfl ?_
  exact k
theorem b_X7_up_60 {d : Nat} {Q : Option pV → pG → Prop} {g : pG} {v1 : Int} (hq : Q (some (vI (-9))) g) : EV d mX7_up Q 60 [vR 0, vI v1] [] g := by
  refine wp_bipush dX7_up_60 kb_m9 kc_m9 ?_
  exact wp_iret dX7_up_62 rfl hq
theorem b_X7_round_0 {d : Nat} {Q : Option pV → pG → Prop} {g : pG} {v1 : Int} (k1 : (v1 < 0) → EV d mX7_round Q 9 [vR 0, vI v1] [] g) (k2 : ¬ (v1 < 0) → EV d mX7_round Q 4 [vR 0, vI v1] [] g) : EV d mX7_round Q 0 [vR 0, vI v1] [] g := by
  refine wp_iload_n dX7_round_0 rfl ?_
  exact wp_if_lt (tgt := 9) dX7_round_1 rfl k1 k2
theorem b_X7_round_4 {d : Nat} {Q : Option pV → pG → Prop} {g : pG} {v1 : Int} (k1 : (v1 ≤ 2) → EV d mX7_round Q 16 [vR 0, vI v1] [] g) (k2 : ¬ (v1 ≤ 2) → EV d mX7_round Q 9 [vR 0, vI v1] [] g) : EV d mX7_round Q 4 [vR 0, vI v1] [] g := by
  refine wp_iload_n dX7_round_4 rfl ?_
  refine wp_iconst dX7_round_5 kc_2 ?_
  exact wp_icmp_le (tgt := 16) dX7_round_6 rfl k1 k2
theorem b_X7_round_9 {d : Nat} {Q : Option pV → pG → Prop} {g : pG} {v1 : Int} {R : Int → pG → Prop} (hc : CT d mX7_refuseHigh [vR 0, vI (-2)] g (qI R)) (k : ∀ (x : Int) (gg : pG), R x gg → EV d mX7_round Q 15 [vR 0, vI v1] [vI x] gg) : EV d mX7_round Q 9 [vR 0, vI v1] [] g := by
  refine wp_aload_n dX7_round_9 rfl rfl ?_
  refine wp_bipush dX7_round_10 kb_m2 kc_m2 ?_
  exact wp_callvI (As := [vI (-2)]) dX7_round_12 ml_7_124 (by decide) rfl L_0 (by decide) rfl (Nat.le_of_ble_eq_true rfl) rfl (Nat.le_refl _) (Nat.le_refl _) hc k
theorem b_X7_round_15 {d : Nat} {Q : Option pV → pG → Prop} {g : pG} {v1 vs0 : Int} (hq : Q (some (vI vs0)) g) : EV d mX7_round Q 15 [vR 0, vI v1] [vI vs0] g := by
  exact wp_iret dX7_round_15 rfl hq
theorem b_X7_round_16 {d : Nat} {Q : Option pV → pG → Prop} {g : pG} {v1 : Int} {R : pG → Prop} (hc : CT d mX1_go [vR 42, vR 1, vI ((g 1) 6), vR 27, vR 39] g (qV R)) (k : ∀ gg : pG, R gg → EV d mX7_round Q 42 [vR 0, vI v1] [] gg) : EV d mX7_round Q 16 [vR 0, vI v1] [] g := by
  refine wp_aload_n dX7_round_16 rfl rfl ?_
  refine wp_get (v := vR 42) dX7_round_17 fl_7_81 L_0 rfl ?_
  refine wp_aload_n dX7_round_20 rfl rfl ?_
  refine wp_get (v := vR 1) dX7_round_21 fl_7_10 L_0 rfl ?_
  refine wp_aload_n dX7_round_24 rfl rfl ?_
  refine wp_get (v := vR 1) dX7_round_25 fl_7_10 L_0 rfl ?_
  refine wp_get (v := vI ((g 1) 6)) dX7_round_28 fl_7_159 L_1 rfl ?_
  refine wp_aload_n dX7_round_31 rfl rfl ?_
  refine wp_get (v := vR 27) dX7_round_32 fl_7_54 L_0 rfl ?_
  refine wp_aload_n dX7_round_35 rfl rfl ?_
  refine wp_get (v := vR 39) dX7_round_36 fl_7_74 L_0 rfl ?_
  exact wp_callvV (As := [vR 1, vI ((g 1) 6), vR 27, vR 39]) dX7_round_39 ml_7_198 (by decide) rfl L_42 (by decide) rfl (Nat.le_of_ble_eq_true rfl) rfl (Nat.le_refl _) (Nat.le_refl _) hc k
theorem b_X7_round_42 {d : Nat} {Q : Option pV → pG → Prop} {g : pG} {v1 : Int} (k1 : (v1 ≠ 2) → EV d mX7_round Q 55 [vR 0, vI v1] [] g) (k2 : ¬ (v1 ≠ 2) → EV d mX7_round Q 47 [vR 0, vI v1] [] g) : EV d mX7_round Q 42 [vR 0, vI v1] [] g := by
  refine wp_iload_n dX7_round_42 rfl ?_
  refine wp_iconst dX7_round_43 kc_2 ?_
  exact wp_icmp_ne (tgt := 55) dX7_round_44 rfl k1 k2
theorem b_X7_round_47 {d : Nat} {Q : Option pV → pG → Prop} {g : pG} {v1 : Int} (hq : Q (some (vI ((g 42) 2))) g) : EV d mX7_round Q 47 [vR 0, vI v1] [] g := by
  refine wp_aload_n dX7_round_47 rfl rfl ?_
  refine wp_get (v := vR 42) dX7_round_48 fl_7_81 L_0 rfl ?_
  refine wp_get (v := vI ((g 42) 2)) dX7_round_51 fl_7_202 L_42 rfl ?_
  exact wp_iret dX7_round_54 rfl hq
theorem b_X7_round_55 {d : Nat} {Q : Option pV → pG → Prop} {g : pG} {v1 : Int} (k1 : ((g 42) 0 ≠ 0) → EV d mX7_round Q 77 [vR 0, vI v1] [] g) (k2 : ¬ ((g 42) 0 ≠ 0) → EV d mX7_round Q 65 [vR 0, vI v1] [] g) : EV d mX7_round Q 55 [vR 0, vI v1] [] g := by
  refine wp_aload_n dX7_round_55 rfl rfl ?_
  refine wp_get (v := vR 42) dX7_round_56 fl_7_81 L_0 rfl ?_
  refine wp_get (v := vI ((g 42) 0)) dX7_round_59 fl_7_205 L_42 rfl ?_
  exact wp_if_ne (tgt := 77) dX7_round_62 rfl k1 k2
theorem b_X7_round_65 {d : Nat} {Q : Option pV → pG → Prop} {g : pG} {v1 : Int} (k1 : (v1 ≠ 0) → EV d mX7_round Q 74 [vR 0, vI v1] [] g) (k2 : ¬ (v1 ≠ 0) → EV d mX7_round Q 69 [vR 0, vI v1] [] g) : EV d mX7_round Q 65 [vR 0, vI v1] [] g := by
  refine wp_iload_n dX7_round_65 rfl ?_
  exact wp_if_ne (tgt := 74) dX7_round_66 rfl k1 k2
theorem b_X7_round_69 {d : Nat} {Q : Option pV → pG → Prop} {g : pG} {v1 : Int} (hq : Q (some (vI (-9))) g) : EV d mX7_round Q 69 [vR 0, vI v1] [] g := by
  refine wp_bipush dX7_round_69 kb_m9 kc_m9 ?_
  refine wp_goto (tgt := 76) dX7_round_71 rfl ?_
  exact wp_iret dX7_round_76 rfl hq
theorem b_X7_round_74 {d : Nat} {Q : Option pV → pG → Prop} {g : pG} {v1 : Int} (hq : Q (some (vI (-99))) g) : EV d mX7_round Q 74 [vR 0, vI v1] [] g := by
  refine wp_bipush dX7_round_74 kb_m99 kc_m99 ?_
  exact wp_iret dX7_round_76 rfl hq
theorem b_X7_round_77 {d : Nat} {Q : Option pV → pG → Prop} {g : pG} {v1 : Int} (k1 : (v1 ≠ 0) → EV d mX7_round Q 91 [vR 0, vI v1] [] g) (k2 : ¬ (v1 ≠ 0) → EV d mX7_round Q 81 [vR 0, vI v1] [] g) : EV d mX7_round Q 77 [vR 0, vI v1] [] g := by
  refine wp_iload_n dX7_round_77 rfl ?_
  exact wp_if_ne (tgt := 91) dX7_round_78 rfl k1 k2
theorem b_X7_round_81 {d : Nat} {Q : Option pV → pG → Prop} {g : pG} {v1 : Int} (hq : Q (some (vI ((g 42) 1))) g) : EV d mX7_round Q 81 [vR 0, vI v1] [] g := by
  refine wp_aload_n dX7_round_81 rfl rfl ?_
  refine wp_get (v := vR 42) dX7_round_82 fl_7_81 L_0 rfl ?_
  refine wp_get (v := vI ((g 42) 1)) dX7_round_85 fl_7_208 L_42 rfl ?_
  refine wp_goto (tgt := 98) dX7_round_88 rfl ?_
  exact wp_iret dX7_round_98 rfl hq
theorem b_X7_round_91 {d : Nat} {Q : Option pV → pG → Prop} {g : pG} {v1 : Int} {R : Int → pG → Prop} (hc : CT d mX3_sum [vR 27] g (qI R)) (k : ∀ (x : Int) (gg : pG), R x gg → EV d mX7_round Q 98 [vR 0, vI v1] [vI x] gg) : EV d mX7_round Q 91 [vR 0, vI v1] [] g := by
  refine wp_aload_n dX7_round_91 rfl rfl ?_
  refine wp_get (v := vR 27) dX7_round_92 fl_7_54 L_0 rfl ?_
  exact wp_callvI (As := []) dX7_round_95 ml_7_183 (by decide) rfl L_27 (by decide) rfl (Nat.le_of_ble_eq_true rfl) rfl (Nat.le_refl _) (Nat.le_refl _) hc k
theorem b_X7_round_98 {d : Nat} {Q : Option pV → pG → Prop} {g : pG} {v1 vs0 : Int} (hq : Q (some (vI vs0)) g) : EV d mX7_round Q 98 [vR 0, vI v1] [vI vs0] g := by
  exact wp_iret dX7_round_98 rfl hq
theorem b_X7_appeals_0 {d : Nat} {Q : Option pV → pG → Prop} {g : pG} {v1 : Int} (k1 : (v1 < 0) → EV d mX7_appeals Q 9 [vR 0, vI v1] [] g) (k2 : ¬ (v1 < 0) → EV d mX7_appeals Q 4 [vR 0, vI v1] [] g) : EV d mX7_appeals Q 0 [vR 0, vI v1] [] g := by
  refine wp_iload_n dX7_appeals_0 rfl ?_
  exact wp_if_lt (tgt := 9) dX7_appeals_1 rfl k1 k2
theorem b_X7_appeals_4 {d : Nat} {Q : Option pV → pG → Prop} {g : pG} {v1 : Int} (k1 : (v1 ≤ 3) → EV d mX7_appeals Q 16 [vR 0, vI v1] [] g) (k2 : ¬ (v1 ≤ 3) → EV d mX7_appeals Q 9 [vR 0, vI v1] [] g) : EV d mX7_appeals Q 4 [vR 0, vI v1] [] g := by
  refine wp_iload_n dX7_appeals_4 rfl ?_
  refine wp_iconst dX7_appeals_5 kc_3 ?_
  exact wp_icmp_le (tgt := 16) dX7_appeals_6 rfl k1 k2
theorem b_X7_appeals_9 {d : Nat} {Q : Option pV → pG → Prop} {g : pG} {v1 : Int} {R : Int → pG → Prop} (hc : CT d mX7_refuse [vR 0, vI (-2)] g (qI R)) (k : ∀ (x : Int) (gg : pG), R x gg → EV d mX7_appeals Q 15 [vR 0, vI v1] [vI x] gg) : EV d mX7_appeals Q 9 [vR 0, vI v1] [] g := by
  refine wp_aload_n dX7_appeals_9 rfl rfl ?_
  refine wp_bipush dX7_appeals_10 kb_m2 kc_m2 ?_
  exact wp_callvI (As := [vI (-2)]) dX7_appeals_12 ml_7_91 (by decide) rfl L_0 (by decide) rfl (Nat.le_of_ble_eq_true rfl) rfl (Nat.le_refl _) (Nat.le_refl _) hc k
theorem b_X7_appeals_15 {d : Nat} {Q : Option pV → pG → Prop} {g : pG} {v1 vs0 : Int} (hq : Q (some (vI vs0)) g) : EV d mX7_appeals Q 15 [vR 0, vI v1] [vI vs0] g := by
  exact wp_iret dX7_appeals_15 rfl hq
theorem b_X7_appeals_16 {d : Nat} {Q : Option pV → pG → Prop} {g : pG} {v1 : Int} {R : pG → Prop} (hc : CT d mX6_weigh [vR 33, vR 1, vR 27] g (qV R)) (k : ∀ gg : pG, R gg → EV d mX7_appeals Q 31 [vR 0, vI v1] [] gg) : EV d mX7_appeals Q 16 [vR 0, vI v1] [] g := by
  refine wp_aload_n dX7_appeals_16 rfl rfl ?_
  refine wp_get (v := vR 33) dX7_appeals_17 fl_7_67 L_0 rfl ?_
  refine wp_aload_n dX7_appeals_20 rfl rfl ?_
  refine wp_get (v := vR 1) dX7_appeals_21 fl_7_10 L_0 rfl ?_
  refine wp_aload_n dX7_appeals_24 rfl rfl ?_
  refine wp_get (v := vR 27) dX7_appeals_25 fl_7_54 L_0 rfl ?_
  exact wp_callvV (As := [vR 1, vR 27]) dX7_appeals_28 ml_7_211 (by decide) rfl L_33 (by decide) rfl (Nat.le_of_ble_eq_true rfl) rfl (Nat.le_refl _) (Nat.le_refl _) hc k
theorem b_X7_appeals_31 {d : Nat} {Q : Option pV → pG → Prop} {g : pG} {v1 : Int} (k0 : v1 = 0 → EV d mX7_appeals Q 60 [vR 0, vI v1] [] g) (k1 : v1 = 1 → EV d mX7_appeals Q 68 [vR 0, vI v1] [] g) (k2 : v1 = 2 → EV d mX7_appeals Q 101 [vR 0, vI v1] [] g) (kd : (v1 ≠ 0 ∧ v1 ≠ 1 ∧ v1 ≠ 2) → EV d mX7_appeals Q 125 [vR 0, vI v1] [] g) : EV d mX7_appeals Q 31 [vR 0, vI v1] [] g := by
  refine wp_iload_n dX7_appeals_31 rfl ?_
  refine wp_tsw (x := v1) dX7_appeals_32 (fun hh => ⟨125, rfl, kd (by omega)⟩) (fun hh hh2 => ?_)
  rcases (show v1 = 0 ∨ v1 = 1 ∨ v1 = 2 by omega) with hq | hq | hq
  · exact ⟨28, 60, by rw [hq]; rfl, rfl, k0 hq⟩
  · exact ⟨36, 68, by rw [hq]; rfl, rfl, k1 hq⟩
  · exact ⟨69, 101, by rw [hq]; rfl, rfl, k2 hq⟩
theorem b_X7_appeals_60 {d : Nat} {Q : Option pV → pG → Prop} {g : pG} {v1 : Int} {R : Int → pG → Prop} (hc : CT d mX6_through [vR 33] g (qI R)) (k : ∀ (x : Int) (gg : pG), R x gg → EV d mX7_appeals Q 67 [vR 0, vI v1] [vI x] gg) : EV d mX7_appeals Q 60 [vR 0, vI v1] [] g := by
  refine wp_aload_n dX7_appeals_60 rfl rfl ?_
  refine wp_get (v := vR 33) dX7_appeals_61 fl_7_67 L_0 rfl ?_
  exact wp_callvI (As := []) dX7_appeals_64 ml_7_215 (by decide) rfl L_33 (by decide) rfl (Nat.le_of_ble_eq_true rfl) rfl (Nat.le_refl _) (Nat.le_refl _) hc k
theorem b_X7_appeals_67 {d : Nat} {Q : Option pV → pG → Prop} {g : pG} {v1 vs0 : Int} (hq : Q (some (vI vs0)) g) : EV d mX7_appeals Q 67 [vR 0, vI v1] [vI vs0] g := by
  exact wp_iret dX7_appeals_67 rfl hq
theorem b_X7_appeals_68 {d : Nat} {Q : Option pV → pG → Prop} {g : pG} {v1 : Int} (k1 : ((g 1) 3 ≠ 0) → EV d mX7_appeals Q 88 [vR 0, vI v1] [] g) (k2 : ¬ ((g 1) 3 ≠ 0) → EV d mX7_appeals Q 78 [vR 0, vI v1] [] g) : EV d mX7_appeals Q 68 [vR 0, vI v1] [] g := by
  refine wp_aload_n dX7_appeals_68 rfl rfl ?_
  refine wp_get (v := vR 1) dX7_appeals_69 fl_7_10 L_0 rfl ?_
  refine wp_get (v := vI ((g 1) 3)) dX7_appeals_72 fl_7_152 L_1 rfl ?_
  exact wp_if_ne (tgt := 88) dX7_appeals_75 rfl k1 k2
theorem b_X7_appeals_78 {d : Nat} {Q : Option pV → pG → Prop} {g : pG} {v1 : Int} {R : Int → pG → Prop} (hc : CT d mX3_isFor [vR 27] g (qI R)) (k : ∀ (x : Int) (gg : pG), R x gg → EV d mX7_appeals Q 85 [vR 0, vI v1] [vI x] gg) : EV d mX7_appeals Q 78 [vR 0, vI v1] [] g := by
  refine wp_aload_n dX7_appeals_78 rfl rfl ?_
  refine wp_get (v := vR 27) dX7_appeals_79 fl_7_54 L_0 rfl ?_
  exact wp_callvI (As := []) dX7_appeals_82 ml_7_175 (by decide) rfl L_27 (by decide) rfl (Nat.le_of_ble_eq_true rfl) rfl (Nat.le_refl _) (Nat.le_refl _) hc k
theorem b_X7_appeals_85 {d : Nat} {Q : Option pV → pG → Prop} {g : pG} {v1 vs0 : Int} {R : Int → pG → Prop} (hc : CT d mX7_bit [vI vs0] g (qI R)) (k : ∀ (x : Int) (gg : pG), R x gg → EV d mX7_appeals Q 100 [vR 0, vI v1] [vI x] gg) : EV d mX7_appeals Q 85 [vR 0, vI v1] [vI vs0] g := by
  refine wp_goto (tgt := 97) dX7_appeals_85 rfl ?_
  exact wp_callsI (As := [vI vs0]) dX7_appeals_97 ml_7_179 (Or.inl rfl) rfl (Nat.le_of_ble_eq_true rfl) rfl (Nat.le_refl _) (Nat.le_refl _) hc k
theorem b_X7_appeals_88 {d : Nat} {Q : Option pV → pG → Prop} {g : pG} {v1 : Int} {R : Int → pG → Prop} (hc : CT d mX7_bit [vI ((g 36) 0)] g (qI R)) (k : ∀ (x : Int) (gg : pG), R x gg → EV d mX7_appeals Q 100 [vR 0, vI v1] [vI x] gg) : EV d mX7_appeals Q 88 [vR 0, vI v1] [] g := by
  refine wp_aload_n dX7_appeals_88 rfl rfl ?_
  refine wp_get (v := vR 33) dX7_appeals_89 fl_7_67 L_0 rfl ?_
  refine wp_get (v := vR 36) dX7_appeals_92 fl_7_218 L_33 rfl ?_
  refine wp_iconst dX7_appeals_95 kc_0 ?_
  refine wp_baload dX7_appeals_96 (by decide) L_36 (by decide) ?_
  exact wp_callsI (As := [vI ((g 36) 0)]) dX7_appeals_97 ml_7_179 (Or.inl rfl) rfl (Nat.le_of_ble_eq_true rfl) rfl (Nat.le_refl _) (Nat.le_refl _) hc k
theorem b_X7_appeals_100 {d : Nat} {Q : Option pV → pG → Prop} {g : pG} {v1 vs0 : Int} (hq : Q (some (vI vs0)) g) : EV d mX7_appeals Q 100 [vR 0, vI v1] [vI vs0] g := by
  exact wp_iret dX7_appeals_100 rfl hq
theorem b_X7_appeals_101 {d : Nat} {Q : Option pV → pG → Prop} {g : pG} {v1 : Int} (k1 : ((g 1) 3 ≠ 0) → EV d mX7_appeals Q 115 [vR 0, vI v1] [] g) (k2 : ¬ ((g 1) 3 ≠ 0) → EV d mX7_appeals Q 111 [vR 0, vI v1] [] g) : EV d mX7_appeals Q 101 [vR 0, vI v1] [] g := by
  refine wp_aload_n dX7_appeals_101 rfl rfl ?_
  refine wp_get (v := vR 1) dX7_appeals_102 fl_7_10 L_0 rfl ?_
  refine wp_get (v := vI ((g 1) 3)) dX7_appeals_105 fl_7_152 L_1 rfl ?_
  exact wp_if_ne (tgt := 115) dX7_appeals_108 rfl k1 k2
theorem b_X7_appeals_111 {d : Nat} {Q : Option pV → pG → Prop} {g : pG} {v1 : Int} (hq : Q (some (vI 0)) g) : EV d mX7_appeals Q 111 [vR 0, vI v1] [] g := by
  refine wp_iconst dX7_appeals_111 kc_0 ?_
  refine wp_goto (tgt := 124) dX7_appeals_112 rfl ?_
  exact wp_iret dX7_appeals_124 rfl hq
theorem b_X7_appeals_115 {d : Nat} {Q : Option pV → pG → Prop} {g : pG} {v1 : Int} (hq : Q (some (vI ((g 37) 0))) g) : EV d mX7_appeals Q 115 [vR 0, vI v1] [] g := by
  refine wp_aload_n dX7_appeals_115 rfl rfl ?_
  refine wp_get (v := vR 33) dX7_appeals_116 fl_7_67 L_0 rfl ?_
  refine wp_get (v := vR 37) dX7_appeals_119 fl_7_222 L_33 rfl ?_
  refine wp_iconst dX7_appeals_122 kc_0 ?_
  refine wp_iaload dX7_appeals_123 (by decide) L_37 (by decide) ?_
  exact wp_iret dX7_appeals_124 rfl hq
theorem b_X7_appeals_125 {d : Nat} {Q : Option pV → pG → Prop} {g : pG} {v1 : Int} (k1 : ((g 1) 3 ≠ 0) → EV d mX7_appeals Q 139 [vR 0, vI v1] [] g) (k2 : ¬ ((g 1) 3 ≠ 0) → EV d mX7_appeals Q 135 [vR 0, vI v1] [] g) : EV d mX7_appeals Q 125 [vR 0, vI v1] [] g := by
  refine wp_aload_n dX7_appeals_125 rfl rfl ?_
  refine wp_get (v := vR 1) dX7_appeals_126 fl_7_10 L_0 rfl ?_
  refine wp_get (v := vI ((g 1) 3)) dX7_appeals_129 fl_7_152 L_1 rfl ?_
  exact wp_if_ne (tgt := 139) dX7_appeals_132 rfl k1 k2
theorem b_X7_appeals_135 {d : Nat} {Q : Option pV → pG → Prop} {g : pG} {v1 : Int} (hq : Q (some (vI 0)) g) : EV d mX7_appeals Q 135 [vR 0, vI v1] [] g := by
  refine wp_iconst dX7_appeals_135 kc_0 ?_
  refine wp_goto (tgt := 148) dX7_appeals_136 rfl ?_
  exact wp_iret dX7_appeals_148 rfl hq
theorem b_X7_appeals_139 {d : Nat} {Q : Option pV → pG → Prop} {g : pG} {v1 : Int} (hq : Q (some (vI ((g 38) 0))) g) : EV d mX7_appeals Q 139 [vR 0, vI v1] [] g := by
  refine wp_aload_n dX7_appeals_139 rfl rfl ?_
  refine wp_get (v := vR 33) dX7_appeals_140 fl_7_67 L_0 rfl ?_
  refine wp_get (v := vR 38) dX7_appeals_143 fl_7_225 L_33 rfl ?_
  refine wp_iconst dX7_appeals_146 kc_0 ?_
  refine wp_iaload dX7_appeals_147 (by decide) L_38 (by decide) ?_
  exact wp_iret dX7_appeals_148 rfl hq
theorem b_X7_press_0 {d : Nat} {Q : Option pV → pG → Prop} {g : pG} {v1 : Int} (k1 : (v1 < 0) → EV d mX7_press Q 9 [vR 0, vI v1, vX 2] [] g) (k2 : ¬ (v1 < 0) → EV d mX7_press Q 4 [vR 0, vI v1, vX 2] [] g) : EV d mX7_press Q 0 [vR 0, vI v1, vX 2] [] g := by
  refine wp_iload_n dX7_press_0 rfl ?_
  exact wp_if_lt (tgt := 9) dX7_press_1 rfl k1 k2
theorem b_X7_press_4 {d : Nat} {Q : Option pV → pG → Prop} {g : pG} {v1 : Int} (k1 : (v1 ≤ 1) → EV d mX7_press Q 16 [vR 0, vI v1, vX 2] [] g) (k2 : ¬ (v1 ≤ 1) → EV d mX7_press Q 9 [vR 0, vI v1, vX 2] [] g) : EV d mX7_press Q 4 [vR 0, vI v1, vX 2] [] g := by
  refine wp_iload_n dX7_press_4 rfl ?_
  refine wp_iconst dX7_press_5 kc_1 ?_
  exact wp_icmp_le (tgt := 16) dX7_press_6 rfl k1 k2
theorem b_X7_press_9 {d : Nat} {Q : Option pV → pG → Prop} {g : pG} {v1 : Int} {R : Int → pG → Prop} (hc : CT d mX7_refuse [vR 0, vI (-2)] g (qI R)) (k : ∀ (x : Int) (gg : pG), R x gg → EV d mX7_press Q 15 [vR 0, vI v1, vX 2] [vI x] gg) : EV d mX7_press Q 9 [vR 0, vI v1, vX 2] [] g := by
  refine wp_aload_n dX7_press_9 rfl rfl ?_
  refine wp_bipush dX7_press_10 kb_m2 kc_m2 ?_
  exact wp_callvI (As := [vI (-2)]) dX7_press_12 ml_7_91 (by decide) rfl L_0 (by decide) rfl (Nat.le_of_ble_eq_true rfl) rfl (Nat.le_refl _) (Nat.le_refl _) hc k
theorem b_X7_press_15 {d : Nat} {Q : Option pV → pG → Prop} {g : pG} {v1 vs0 : Int} (hq : Q (some (vI vs0)) g) : EV d mX7_press Q 15 [vR 0, vI v1, vX 2] [vI vs0] g := by
  exact wp_iret dX7_press_15 rfl hq
theorem b_X7_press_16 {d : Nat} {Q : Option pV → pG → Prop} {g : pG} {v1 : Int} {R : Int → pG → Prop} (hc : CT d mX7_fewestPressed [vR 0] g (qI R)) (k : ∀ (x : Int) (gg : pG), R x gg → EV d mX7_press Q 20 [vR 0, vI v1, vX 2] [vI x] gg) : EV d mX7_press Q 16 [vR 0, vI v1, vX 2] [] g := by
  refine wp_aload_n dX7_press_16 rfl rfl ?_
  exact wp_callvI (As := []) dX7_press_17 ml_7_228 (by decide) rfl L_0 (by decide) rfl (Nat.le_of_ble_eq_true rfl) rfl (Nat.le_refl _) (Nat.le_refl _) hc k
theorem b_X7_press_20 {d : Nat} {Q : Option pV → pG → Prop} {g : pG} {v1 vs0 : Int} (k1 : (v1 = 0) → EV d mX7_press Q 31 [vR 0, vI v1, vI vs0] [] g) (k2 : ¬ (v1 = 0) → EV d mX7_press Q 25 [vR 0, vI v1, vI vs0] [] g) : EV d mX7_press Q 20 [vR 0, vI v1, vX 2] [vI vs0] g := by
  refine wp_istore_n dX7_press_20 (Nat.le_of_ble_eq_true rfl) (pp (c := 1) rfl rfl) ?_
  refine wp_iload_n dX7_press_21 rfl ?_
  exact wp_if_eq (tgt := 31) dX7_press_22 rfl k1 k2
theorem b_X7_press_25 {d : Nat} {Q : Option pV → pG → Prop} {g : pG} {v1 v2 : Int} (k1 : (v2 ≠ (-9)) → EV d mX7_press Q 35 [vR 0, vI v1, vI v2] [] g) (k2 : ¬ (v2 ≠ (-9)) → EV d mX7_press Q 31 [vR 0, vI v1, vI v2] [] g) : EV d mX7_press Q 25 [vR 0, vI v1, vI v2] [] g := by
  refine wp_iload_n dX7_press_25 rfl ?_
  refine wp_bipush dX7_press_26 kb_m9 kc_m9 ?_
  exact wp_icmp_ne (tgt := 35) dX7_press_28 rfl k1 k2
theorem b_X7_press_31 {d : Nat} {Q : Option pV → pG → Prop} {g : pG} {v1 v2 : Int} (hq : Q (some (vI v2)) g) : EV d mX7_press Q 31 [vR 0, vI v1, vI v2] [] g := by
  refine wp_iload_n dX7_press_31 rfl ?_
  refine wp_goto (tgt := 39) dX7_press_32 rfl ?_
  exact wp_iret dX7_press_39 rfl hq
theorem b_X7_press_35 {d : Nat} {Q : Option pV → pG → Prop} {g : pG} {v1 v2 : Int} {R : Int → pG → Prop} (hc : CT d mJ6_bitCount_0f7a4 [vI v2] g (qI R)) (k : ∀ (x : Int) (gg : pG), R x gg → EV d mX7_press Q 39 [vR 0, vI v1, vI v2] [vI x] gg) : EV d mX7_press Q 35 [vR 0, vI v1, vI v2] [] g := by
  refine wp_iload_n dX7_press_35 rfl ?_
  exact wp_callsI (As := [vI v2]) dX7_press_36 ml_7_231 (Or.inl rfl) rfl (Nat.le_of_ble_eq_true rfl) rfl (Nat.le_refl _) (Nat.le_refl _) hc k
theorem b_X7_press_39 {d : Nat} {Q : Option pV → pG → Prop} {g : pG} {v1 v2 vs0 : Int} (hq : Q (some (vI vs0)) g) : EV d mX7_press Q 39 [vR 0, vI v1, vI v2] [vI vs0] g := by
  exact wp_iret dX7_press_39 rfl hq
theorem b_X7_fewestPressed_0 {d : Nat} {Q : Option pV → pG → Prop} {g : pG} (k : EV d mX7_fewestPressed Q 5 [vR 0, vI (-9), vI 0, vX 2] [] g) : EV d mX7_fewestPressed Q 0 [vR 0, vX 2, vX 2, vX 2] [] g := by
  refine wp_bipush dX7_fewestPressed_0 kb_m9 kc_m9 ?_
  refine wp_istore_n dX7_fewestPressed_2 (Nat.le_of_ble_eq_true rfl) (pp (c := 0) rfl rfl) ?_
  refine wp_iconst dX7_fewestPressed_3 kc_0 ?_
  refine wp_istore_n dX7_fewestPressed_4 (Nat.le_of_ble_eq_true rfl) (pp (c := 1) rfl rfl) ?_
  exact k
theorem b_X7_fewestPressed_5 {d : Nat} {Q : Option pV → pG → Prop} {g : pG} {v1 v2 : Int} {u3 : pV} (k1 : (zshl 1 ((g 5) 1) ≤ v2) → EV d mX7_fewestPressed Q 132 [vR 0, vI v1, vI v2, u3] [] g) (k2 : ¬ (zshl 1 ((g 5) 1) ≤ v2) → EV d mX7_fewestPressed Q 21 [vR 0, vI v1, vI v2, u3] [] g) : EV d mX7_fewestPressed Q 5 [vR 0, vI v1, vI v2, u3] [] g := by
  refine wp_iload_n dX7_fewestPressed_5 rfl ?_
  refine wp_iconst dX7_fewestPressed_6 kc_1 ?_
  refine wp_aload_n dX7_fewestPressed_7 rfl rfl ?_
  refine wp_get (v := vR 1) dX7_fewestPressed_8 fl_7_10 L_0 rfl ?_
  refine wp_get (v := vR 5) dX7_fewestPressed_11 fl_7_118 L_1 rfl ?_
  refine wp_get (v := vI ((g 5) 1)) dX7_fewestPressed_14 fl_7_155 L_5 rfl ?_
  refine wp_ishl dX7_fewestPressed_17 ?_
  exact wp_icmp_ge (tgt := 132) dX7_fewestPressed_18 rfl k1 k2
theorem b_X7_fewestPressed_21 {d : Nat} {Q : Option pV → pG → Prop} {g : pG} {v1 v2 : Int} {u3 : pV} (k1 : (v1 = (-9)) → EV d mX7_fewestPressed Q 41 [vR 0, vI v1, vI v2, u3] [] g) (k2 : ¬ (v1 = (-9)) → EV d mX7_fewestPressed Q 27 [vR 0, vI v1, vI v2, u3] [] g) : EV d mX7_fewestPressed Q 21 [vR 0, vI v1, vI v2, u3] [] g := by
  refine wp_iload_n dX7_fewestPressed_21 rfl ?_
  refine wp_bipush dX7_fewestPressed_22 kb_m9 kc_m9 ?_
  exact wp_icmp_eq (tgt := 41) dX7_fewestPressed_24 rfl k1 k2
theorem b_X7_fewestPressed_27 {d : Nat} {Q : Option pV → pG → Prop} {g : pG} {v1 v2 : Int} {u3 : pV} {R : Int → pG → Prop} (hc : CT d mJ6_bitCount_0f7a4 [vI v2] g (qI R)) (k : ∀ (x : Int) (gg : pG), R x gg → EV d mX7_fewestPressed Q 31 [vR 0, vI v1, vI v2, u3] [vI x] gg) : EV d mX7_fewestPressed Q 27 [vR 0, vI v1, vI v2, u3] [] g := by
  refine wp_iload_n dX7_fewestPressed_27 rfl ?_
  exact wp_callsI (As := [vI v2]) dX7_fewestPressed_28 ml_7_231 (Or.inl rfl) rfl (Nat.le_of_ble_eq_true rfl) rfl (Nat.le_refl _) (Nat.le_refl _) hc k
theorem b_X7_fewestPressed_31 {d : Nat} {Q : Option pV → pG → Prop} {g : pG} {v1 v2 vs0 : Int} {u3 : pV} {R : Int → pG → Prop} (hc : CT d mJ6_bitCount_0f7a4 [vI v1] g (qI R)) (k : ∀ (x : Int) (gg : pG), R x gg → EV d mX7_fewestPressed Q 35 [vR 0, vI v1, vI v2, u3] [vI x, vI vs0] gg) : EV d mX7_fewestPressed Q 31 [vR 0, vI v1, vI v2, u3] [vI vs0] g := by
  refine wp_iload_n dX7_fewestPressed_31 rfl ?_
  exact wp_callsI (As := [vI v1]) dX7_fewestPressed_32 ml_7_231 (Or.inl rfl) rfl (Nat.le_of_ble_eq_true rfl) rfl (Nat.le_refl _) (Nat.le_refl _) hc k
theorem b_X7_fewestPressed_35 {d : Nat} {Q : Option pV → pG → Prop} {g : pG} {v1 v2 vs0 vs1 : Int} {u3 : pV} (k1 : (vs0 < vs1) → EV d mX7_fewestPressed Q 41 [vR 0, vI v1, vI v2, u3] [] g) (k2 : ¬ (vs0 < vs1) → EV d mX7_fewestPressed Q 38 [vR 0, vI v1, vI v2, u3] [] g) : EV d mX7_fewestPressed Q 35 [vR 0, vI v1, vI v2, u3] [vI vs1, vI vs0] g := by
  exact wp_icmp_lt (tgt := 41) dX7_fewestPressed_35 rfl k1 k2
theorem b_X7_fewestPressed_38 {d : Nat} {Q : Option pV → pG → Prop} {g : pG} {v1 v2 : Int} {u3 : pV} (k : EV d mX7_fewestPressed Q 5 [vR 0, vI v1, vI (w32 (v2 + 1)), u3] [] g) : EV d mX7_fewestPressed Q 38 [vR 0, vI v1, vI v2, u3] [] g := by
  refine wp_goto (tgt := 126) dX7_fewestPressed_38 rfl ?_
  refine wp_iinc dX7_fewestPressed_126 rfl (Nat.le_of_ble_eq_true rfl) (pp (c := 1) rfl rfl) ?_
  refine wp_goto (tgt := 5) dX7_fewestPressed_129 rfl ?_
  exact k
theorem b_X7_fewestPressed_41 {d : Nat} {Q : Option pV → pG → Prop} {g : pG} {v1 v2 : Int} {u3 : pV} {R : pG → Prop} (hc : CT d mX3_copyFrom [vR 27, vR 5] g (qV R)) (k : ∀ gg : pG, R gg → EV d mX7_fewestPressed Q 55 [vR 0, vI v1, vI v2, u3] [] gg) : EV d mX7_fewestPressed Q 41 [vR 0, vI v1, vI v2, u3] [] g := by
  refine wp_aload_n dX7_fewestPressed_41 rfl rfl ?_
  refine wp_get (v := vR 27) dX7_fewestPressed_42 fl_7_54 L_0 rfl ?_
  refine wp_aload_n dX7_fewestPressed_45 rfl rfl ?_
  refine wp_get (v := vR 1) dX7_fewestPressed_46 fl_7_10 L_0 rfl ?_
  refine wp_get (v := vR 5) dX7_fewestPressed_49 fl_7_118 L_1 rfl ?_
  exact wp_callvV (As := [vR 5]) dX7_fewestPressed_52 ml_7_236 (by decide) rfl L_27 (by decide) rfl (Nat.le_of_ble_eq_true rfl) rfl (Nat.le_refl _) (Nat.le_refl _) hc k
theorem b_X7_fewestPressed_55 {d : Nat} {Q : Option pV → pG → Prop} {g : pG} {v1 v2 : Int} {u3 : pV} (k : EV d mX7_fewestPressed Q 57 [vR 0, vI v1, vI v2, vI 0] [] g) : EV d mX7_fewestPressed Q 55 [vR 0, vI v1, vI v2, u3] [] g := by
  refine wp_iconst dX7_fewestPressed_55 kc_0 ?_
  refine wp_istore_n dX7_fewestPressed_56 (Nat.le_of_ble_eq_true rfl) (pp (c := 2) rfl rfl) ?_
  exact k
theorem b_X7_fewestPressed_57 {d : Nat} {Q : Option pV → pG → Prop} {g : pG} {v1 v2 v3 : Int} (k1 : ((g 27) 1 ≤ v3) → EV d mX7_fewestPressed Q 96 [vR 0, vI v1, vI v2, vI v3] [] g) (k2 : ¬ ((g 27) 1 ≤ v3) → EV d mX7_fewestPressed Q 68 [vR 0, vI v1, vI v2, vI v3] [] g) : EV d mX7_fewestPressed Q 57 [vR 0, vI v1, vI v2, vI v3] [] g := by
  refine wp_iload_n dX7_fewestPressed_57 rfl ?_
  refine wp_aload_n dX7_fewestPressed_58 rfl rfl ?_
  refine wp_get (v := vR 27) dX7_fewestPressed_59 fl_7_54 L_0 rfl ?_
  refine wp_get (v := vI ((g 27) 1)) dX7_fewestPressed_62 fl_7_155 L_27 rfl ?_
  exact wp_icmp_ge (tgt := 96) dX7_fewestPressed_65 rfl k1 k2
theorem b_X7_fewestPressed_68 {d : Nat} {Q : Option pV → pG → Prop} {g : pG} {v1 v2 v3 : Int} {R : Int → pG → Prop} (hc : CT d mX3_number [vR 27, vI v3] g (qI R)) (k : ∀ (x : Int) (gg : pG), R x gg → EV d mX7_fewestPressed Q 81 [vR 0, vI v1, vI v2, vI v3] [vI x, vI v3, vR 27] gg) : EV d mX7_fewestPressed Q 68 [vR 0, vI v1, vI v2, vI v3] [] g := by
  refine wp_aload_n dX7_fewestPressed_68 rfl rfl ?_
  refine wp_get (v := vR 27) dX7_fewestPressed_69 fl_7_54 L_0 rfl ?_
  refine wp_iload_n dX7_fewestPressed_72 rfl ?_
  refine wp_aload_n dX7_fewestPressed_73 rfl rfl ?_
  refine wp_get (v := vR 27) dX7_fewestPressed_74 fl_7_54 L_0 rfl ?_
  refine wp_iload_n dX7_fewestPressed_77 rfl ?_
  exact wp_callvI (As := [vI v3]) dX7_fewestPressed_78 ml_7_131 (by decide) rfl L_27 (by decide) rfl (Nat.le_of_ble_eq_true rfl) rfl (Nat.le_refl _) (Nat.le_refl _) hc k
theorem b_X7_fewestPressed_81 {d : Nat} {Q : Option pV → pG → Prop} {g : pG} {v1 v2 v3 vs1 vs2 : Int} {R : pG → Prop} (hc : CT d mX3_put [vR 27, vI vs1, vI (w32 (vs2 + (zand (zshr v2 v3) 1)))] g (qV R)) (k : ∀ gg : pG, R gg → EV d mX7_fewestPressed Q 90 [vR 0, vI v1, vI v2, vI v3] [] gg) : EV d mX7_fewestPressed Q 81 [vR 0, vI v1, vI v2, vI v3] [vI vs2, vI vs1, vR 27] g := by
  refine wp_iload_n dX7_fewestPressed_81 rfl ?_
  refine wp_iload_n dX7_fewestPressed_82 rfl ?_
  refine wp_ishr dX7_fewestPressed_83 ?_
  refine wp_iconst dX7_fewestPressed_84 kc_1 ?_
  refine wp_iand dX7_fewestPressed_85 ?_
  refine wp_iadd dX7_fewestPressed_86 ?_
  exact wp_callvV (As := [vI vs1, vI (w32 (vs2 + (zand (zshr v2 v3) 1)))]) dX7_fewestPressed_87 ml_7_138 (by decide) rfl L_27 (by decide) rfl (Nat.le_of_ble_eq_true rfl) rfl (Nat.le_refl _) (Nat.le_refl _) hc k
theorem b_X7_fewestPressed_90 {d : Nat} {Q : Option pV → pG → Prop} {g : pG} {v1 v2 v3 : Int} (k : EV d mX7_fewestPressed Q 57 [vR 0, vI v1, vI v2, vI (w32 (v3 + 1))] [] g) : EV d mX7_fewestPressed Q 90 [vR 0, vI v1, vI v2, vI v3] [] g := by
  refine wp_iinc dX7_fewestPressed_90 rfl (Nat.le_of_ble_eq_true rfl) (pp (c := 2) rfl rfl) ?_
  refine wp_goto (tgt := 57) dX7_fewestPressed_93 rfl ?_
  exact k
theorem b_X7_fewestPressed_96 {d : Nat} {Q : Option pV → pG → Prop} {g : pG} {v1 v2 v3 : Int} {R : pG → Prop} (hc : CT d mX5_goDown [vR 1, vR 27, vI ((g 1) 3)] g (qV R)) (k : ∀ gg : pG, R gg → EV d mX7_fewestPressed Q 114 [vR 0, vI v1, vI v2, vI v3] [] gg) : EV d mX7_fewestPressed Q 96 [vR 0, vI v1, vI v2, vI v3] [] g := by
  refine wp_aload_n dX7_fewestPressed_96 rfl rfl ?_
  refine wp_get (v := vR 1) dX7_fewestPressed_97 fl_7_10 L_0 rfl ?_
  refine wp_aload_n dX7_fewestPressed_100 rfl rfl ?_
  refine wp_get (v := vR 27) dX7_fewestPressed_101 fl_7_54 L_0 rfl ?_
  refine wp_aload_n dX7_fewestPressed_104 rfl rfl ?_
  refine wp_get (v := vR 1) dX7_fewestPressed_105 fl_7_10 L_0 rfl ?_
  refine wp_get (v := vI ((g 1) 3)) dX7_fewestPressed_108 fl_7_152 L_1 rfl ?_
  exact wp_callvV (As := [vR 27, vI ((g 1) 3)]) dX7_fewestPressed_111 ml_7_269 (by decide) rfl L_1 (by decide) rfl (Nat.le_of_ble_eq_true rfl) rfl (Nat.le_refl _) (Nat.le_refl _) hc k
theorem b_X7_fewestPressed_114 {d : Nat} {Q : Option pV → pG → Prop} {g : pG} {v1 v2 v3 : Int} {R : Int → pG → Prop} (hc : CT d mX3_isFor [vR 27] g (qI R)) (k : ∀ (x : Int) (gg : pG), R x gg → EV d mX7_fewestPressed Q 121 [vR 0, vI v1, vI v2, vI v3] [vI x] gg) : EV d mX7_fewestPressed Q 114 [vR 0, vI v1, vI v2, vI v3] [] g := by
  refine wp_aload_n dX7_fewestPressed_114 rfl rfl ?_
  refine wp_get (v := vR 27) dX7_fewestPressed_115 fl_7_54 L_0 rfl ?_
  exact wp_callvI (As := []) dX7_fewestPressed_118 ml_7_175 (by decide) rfl L_27 (by decide) rfl (Nat.le_of_ble_eq_true rfl) rfl (Nat.le_refl _) (Nat.le_refl _) hc k
theorem b_X7_fewestPressed_121 {d : Nat} {Q : Option pV → pG → Prop} {g : pG} {v1 v2 v3 vs0 : Int} (k1 : (vs0 = 0) → EV d mX7_fewestPressed Q 126 [vR 0, vI v1, vI v2, vI v3] [] g) (k2 : ¬ (vs0 = 0) → EV d mX7_fewestPressed Q 124 [vR 0, vI v1, vI v2, vI v3] [] g) : EV d mX7_fewestPressed Q 121 [vR 0, vI v1, vI v2, vI v3] [vI vs0] g := by
  exact wp_if_eq (tgt := 126) dX7_fewestPressed_121 rfl k1 k2
theorem b_X7_fewestPressed_124 {d : Nat} {Q : Option pV → pG → Prop} {g : pG} {v1 v2 v3 : Int} (k : EV d mX7_fewestPressed Q 5 [vR 0, vI v2, vI (w32 (v2 + 1)), vI v3] [] g) : EV d mX7_fewestPressed Q 124 [vR 0, vI v1, vI v2, vI v3] [] g := by
  refine wp_iload_n dX7_fewestPressed_124 rfl ?_
  refine wp_istore_n dX7_fewestPressed_125 (Nat.le_of_ble_eq_true rfl) (pp (c := 0) rfl rfl) ?_
  refine wp_iinc dX7_fewestPressed_126 rfl (Nat.le_of_ble_eq_true rfl) (pp (c := 1) rfl rfl) ?_
  refine wp_goto (tgt := 5) dX7_fewestPressed_129 rfl ?_
  exact k
theorem b_X7_fewestPressed_126 {d : Nat} {Q : Option pV → pG → Prop} {g : pG} {v1 v2 v3 : Int} (k : EV d mX7_fewestPressed Q 5 [vR 0, vI v1, vI (w32 (v2 + 1)), vI v3] [] g) : EV d mX7_fewestPressed Q 126 [vR 0, vI v1, vI v2, vI v3] [] g := by
  refine wp_iinc dX7_fewestPressed_126 rfl (Nat.le_of_ble_eq_true rfl) (pp (c := 1) rfl rfl) ?_
  refine wp_goto (tgt := 5) dX7_fewestPressed_129 rfl ?_
  exact k
theorem b_X7_fewestPressed_132 {d : Nat} {Q : Option pV → pG → Prop} {g : pG} {v1 v2 : Int} {u3 : pV} (hq : Q (some (vI v1)) g) : EV d mX7_fewestPressed Q 132 [vR 0, vI v1, vI v2, u3] [] g := by
  refine wp_iload_n dX7_fewestPressed_132 rfl ?_
  exact wp_iret dX7_fewestPressed_133 rfl hq
theorem b_X7_turnsBy_0 {d : Nat} {Q : Option pV → pG → Prop} {g : pG} {v1 v2 : Int} {R : Int → pG → Prop} (hc : CT d mX7_outside [vI v1, vI 0, vI 2] g (qI R)) (k : ∀ (x : Int) (gg : pG), R x gg → EV d mX7_turnsBy Q 6 [vR 0, vI v1, vI v2, vX 2, vX 2, vX 2, vX 2, vX 2, vX 2] [vI x] gg) : EV d mX7_turnsBy Q 0 [vR 0, vI v1, vI v2, vX 2, vX 2, vX 2, vX 2, vX 2, vX 2] [] g := by
  refine wp_iload_n dX7_turnsBy_0 rfl ?_
  refine wp_iconst dX7_turnsBy_1 kc_0 ?_
  refine wp_iconst dX7_turnsBy_2 kc_2 ?_
  exact wp_callsI (As := [vI v1, vI 0, vI 2]) dX7_turnsBy_3 ml_7_127 (Or.inl rfl) rfl (Nat.le_of_ble_eq_true rfl) rfl (Nat.le_refl _) (Nat.le_refl _) hc k
theorem b_X7_turnsBy_6 {d : Nat} {Q : Option pV → pG → Prop} {g : pG} {v1 v2 vs0 : Int} (k1 : (vs0 = 0) → EV d mX7_turnsBy Q 17 [vR 0, vI v1, vI v2, vI vs0, vX 2, vX 2, vX 2, vX 2, vX 2] [] g) (k2 : ¬ (vs0 = 0) → EV d mX7_turnsBy Q 11 [vR 0, vI v1, vI v2, vI vs0, vX 2, vX 2, vX 2, vX 2, vX 2] [] g) : EV d mX7_turnsBy Q 6 [vR 0, vI v1, vI v2, vX 2, vX 2, vX 2, vX 2, vX 2, vX 2] [vI vs0] g := by
  refine wp_istore_n dX7_turnsBy_6 (Nat.le_of_ble_eq_true rfl) (pp (c := 2) rfl rfl) ?_
  refine wp_iload_n dX7_turnsBy_7 rfl ?_
  exact wp_if_eq (tgt := 17) dX7_turnsBy_8 rfl k1 k2
theorem b_X7_turnsBy_11 {d : Nat} {Q : Option pV → pG → Prop} {g : pG} {v1 v2 v3 : Int} {R : Int → pG → Prop} (hc : CT d mX7_refuseHigh [vR 0, vI v3] g (qI R)) (k : ∀ (x : Int) (gg : pG), R x gg → EV d mX7_turnsBy Q 16 [vR 0, vI v1, vI v2, vI v3, vX 2, vX 2, vX 2, vX 2, vX 2] [vI x] gg) : EV d mX7_turnsBy Q 11 [vR 0, vI v1, vI v2, vI v3, vX 2, vX 2, vX 2, vX 2, vX 2] [] g := by
  refine wp_aload_n dX7_turnsBy_11 rfl rfl ?_
  refine wp_iload_n dX7_turnsBy_12 rfl ?_
  exact wp_callvI (As := [vI v3]) dX7_turnsBy_13 ml_7_124 (by decide) rfl L_0 (by decide) rfl (Nat.le_of_ble_eq_true rfl) rfl (Nat.le_refl _) (Nat.le_refl _) hc k
theorem b_X7_turnsBy_16 {d : Nat} {Q : Option pV → pG → Prop} {g : pG} {v1 v2 v3 vs0 : Int} (hq : Q (some (vI vs0)) g) : EV d mX7_turnsBy Q 16 [vR 0, vI v1, vI v2, vI v3, vX 2, vX 2, vX 2, vX 2, vX 2] [vI vs0] g := by
  exact wp_iret dX7_turnsBy_16 rfl hq
theorem b_X7_turnsBy_17 {d : Nat} {Q : Option pV → pG → Prop} {g : pG} {v1 v2 v3 : Int} (k1 : (v2 < 0) → EV d mX7_turnsBy Q 26 [vR 0, vI v1, vI v2, vI v3, vX 2, vX 2, vX 2, vX 2, vX 2] [] g) (k2 : ¬ (v2 < 0) → EV d mX7_turnsBy Q 21 [vR 0, vI v1, vI v2, vI v3, vX 2, vX 2, vX 2, vX 2, vX 2] [] g) : EV d mX7_turnsBy Q 17 [vR 0, vI v1, vI v2, vI v3, vX 2, vX 2, vX 2, vX 2, vX 2] [] g := by
  refine wp_iload_n dX7_turnsBy_17 rfl ?_
  exact wp_if_lt (tgt := 26) dX7_turnsBy_18 rfl k1 k2
theorem b_X7_turnsBy_21 {d : Nat} {Q : Option pV → pG → Prop} {g : pG} {v1 v2 v3 : Int} (k1 : (v2 ≤ 1) → EV d mX7_turnsBy Q 33 [vR 0, vI v1, vI v2, vI v3, vX 2, vX 2, vX 2, vX 2, vX 2] [] g) (k2 : ¬ (v2 ≤ 1) → EV d mX7_turnsBy Q 26 [vR 0, vI v1, vI v2, vI v3, vX 2, vX 2, vX 2, vX 2, vX 2] [] g) : EV d mX7_turnsBy Q 21 [vR 0, vI v1, vI v2, vI v3, vX 2, vX 2, vX 2, vX 2, vX 2] [] g := by
  refine wp_iload_n dX7_turnsBy_21 rfl ?_
  refine wp_iconst dX7_turnsBy_22 kc_1 ?_
  exact wp_icmp_le (tgt := 33) dX7_turnsBy_23 rfl k1 k2
theorem b_X7_turnsBy_26 {d : Nat} {Q : Option pV → pG → Prop} {g : pG} {v1 v2 v3 : Int} {R : Int → pG → Prop} (hc : CT d mX7_refuseHigh [vR 0, vI (-2)] g (qI R)) (k : ∀ (x : Int) (gg : pG), R x gg → EV d mX7_turnsBy Q 32 [vR 0, vI v1, vI v2, vI v3, vX 2, vX 2, vX 2, vX 2, vX 2] [vI x] gg) : EV d mX7_turnsBy Q 26 [vR 0, vI v1, vI v2, vI v3, vX 2, vX 2, vX 2, vX 2, vX 2] [] g := by
  refine wp_aload_n dX7_turnsBy_26 rfl rfl ?_
  refine wp_bipush dX7_turnsBy_27 kb_m2 kc_m2 ?_
  exact wp_callvI (As := [vI (-2)]) dX7_turnsBy_29 ml_7_124 (by decide) rfl L_0 (by decide) rfl (Nat.le_of_ble_eq_true rfl) rfl (Nat.le_refl _) (Nat.le_refl _) hc k
theorem b_X7_turnsBy_32 {d : Nat} {Q : Option pV → pG → Prop} {g : pG} {v1 v2 v3 vs0 : Int} (hq : Q (some (vI vs0)) g) : EV d mX7_turnsBy Q 32 [vR 0, vI v1, vI v2, vI v3, vX 2, vX 2, vX 2, vX 2, vX 2] [vI vs0] g := by
  exact wp_iret dX7_turnsBy_32 rfl hq
theorem b_X7_turnsBy_33 {d : Nat} {Q : Option pV → pG → Prop} {g : pG} {v1 v2 v3 : Int} {R : pG → Prop} (hc : CT d mX3_copyFrom [vR 29, vR 5] g (qV R)) (k : ∀ gg : pG, R gg → EV d mX7_turnsBy Q 47 [vR 0, vI v1, vI v2, vI v3, vX 2, vX 2, vX 2, vX 2, vX 2] [] gg) : EV d mX7_turnsBy Q 33 [vR 0, vI v1, vI v2, vI v3, vX 2, vX 2, vX 2, vX 2, vX 2] [] g := by
  refine wp_aload_n dX7_turnsBy_33 rfl rfl ?_
  refine wp_get (v := vR 29) dX7_turnsBy_34 fl_7_58 L_0 rfl ?_
  refine wp_aload_n dX7_turnsBy_37 rfl rfl ?_
  refine wp_get (v := vR 1) dX7_turnsBy_38 fl_7_10 L_0 rfl ?_
  refine wp_get (v := vR 5) dX7_turnsBy_41 fl_7_118 L_1 rfl ?_
  exact wp_callvV (As := [vR 5]) dX7_turnsBy_44 ml_7_236 (by decide) rfl L_29 (by decide) rfl (Nat.le_of_ble_eq_true rfl) rfl (Nat.le_refl _) (Nat.le_refl _) hc k
theorem b_X7_turnsBy_47 {d : Nat} {Q : Option pV → pG → Prop} {g : pG} {v1 v2 v3 : Int} (k1 : (v1 ≠ 0) → EV d mX7_turnsBy Q 81 [vR 0, vI v1, vI v2, vI v3, vX 2, vX 2, vX 2, vX 2, vX 2] [] g) (k2 : ¬ (v1 ≠ 0) → EV d mX7_turnsBy Q 51 [vR 0, vI v1, vI v2, vI v3, vX 2, vX 2, vX 2, vX 2, vX 2] [] g) : EV d mX7_turnsBy Q 47 [vR 0, vI v1, vI v2, vI v3, vX 2, vX 2, vX 2, vX 2, vX 2] [] g := by
  refine wp_iload_n dX7_turnsBy_47 rfl ?_
  exact wp_if_ne (tgt := 81) dX7_turnsBy_48 rfl k1 k2
theorem b_X7_turnsBy_51 {d : Nat} {Q : Option pV → pG → Prop} {g : pG} {v1 v2 v3 : Int} (k1 : (v2 ≠ 0) → EV d mX7_turnsBy Q 78 [vR 0, vI v1, vI v2, vI v3, vX 2, vX 2, vX 2, vX 2, vX 2] [] g) (k2 : ¬ (v2 ≠ 0) → EV d mX7_turnsBy Q 55 [vR 0, vI v1, vI v2, vI v3, vX 2, vX 2, vX 2, vX 2, vX 2] [] g) : EV d mX7_turnsBy Q 51 [vR 0, vI v1, vI v2, vI v3, vX 2, vX 2, vX 2, vX 2, vX 2] [] g := by
  refine wp_iload_n dX7_turnsBy_51 rfl ?_
  exact wp_if_ne (tgt := 78) dX7_turnsBy_52 rfl k1 k2
theorem b_X7_turnsBy_55 {d : Nat} {Q : Option pV → pG → Prop} {g : pG} {v1 v2 v3 : Int} {R : Int → pG → Prop} (hc : CT d mX7_playOn [vR 1, vR 29, vR 27, vI 0, vI (-1000000000), vI 1000000000] g (qI R)) (k : ∀ (x : Int) (gg : pG), R x gg → EV d mX7_turnsBy Q 75 [vR 0, vI v1, vI v2, vI v3, vX 2, vX 2, vX 2, vX 2, vX 2] [vI x] gg) : EV d mX7_turnsBy Q 55 [vR 0, vI v1, vI v2, vI v3, vX 2, vX 2, vX 2, vX 2, vX 2] [] g := by
  refine wp_aload_n dX7_turnsBy_55 rfl rfl ?_
  refine wp_get (v := vR 1) dX7_turnsBy_56 fl_7_10 L_0 rfl ?_
  refine wp_aload_n dX7_turnsBy_59 rfl rfl ?_
  refine wp_get (v := vR 29) dX7_turnsBy_60 fl_7_58 L_0 rfl ?_
  refine wp_aload_n dX7_turnsBy_63 rfl rfl ?_
  refine wp_get (v := vR 27) dX7_turnsBy_64 fl_7_54 L_0 rfl ?_
  refine wp_iconst dX7_turnsBy_67 kc_0 ?_
  refine wp_ldc dX7_turnsBy_68 kl_7_240 ?_
  refine wp_ldc dX7_turnsBy_70 kl_7_241 ?_
  exact wp_callsI (As := [vR 1, vR 29, vR 27, vI 0, vI (-1000000000), vI 1000000000]) dX7_turnsBy_72 ml_7_242 (Or.inl rfl) rfl (Nat.le_of_ble_eq_true rfl) rfl (Nat.le_refl _) (Nat.le_refl _) hc k
theorem b_X7_turnsBy_75 {d : Nat} {Q : Option pV → pG → Prop} {g : pG} {v1 v2 v3 vs0 : Int} (hq : Q (some (vI vs0)) g) : EV d mX7_turnsBy Q 75 [vR 0, vI v1, vI v2, vI v3, vX 2, vX 2, vX 2, vX 2, vX 2] [vI vs0] g := by
  refine wp_goto (tgt := 80) dX7_turnsBy_75 rfl ?_
  exact wp_iret dX7_turnsBy_80 rfl hq
theorem b_X7_turnsBy_78 {d : Nat} {Q : Option pV → pG → Prop} {g : pG} {v1 v2 v3 : Int} (hq : Q (some (vI (-9))) g) : EV d mX7_turnsBy Q 78 [vR 0, vI v1, vI v2, vI v3, vX 2, vX 2, vX 2, vX 2, vX 2] [] g := by
  refine wp_bipush dX7_turnsBy_78 kb_m9 kc_m9 ?_
  exact wp_iret dX7_turnsBy_80 rfl hq
theorem b_X7_turnsBy_81 {d : Nat} {Q : Option pV → pG → Prop} {g : pG} {v1 v2 v3 : Int} (k : EV d mX7_turnsBy Q 92 [vR 0, vI v1, vI v2, vI v3, vI (-1000000000), vI (-9), vI 0, vX 2, vX 2] [] g) : EV d mX7_turnsBy Q 81 [vR 0, vI v1, vI v2, vI v3, vX 2, vX 2, vX 2, vX 2, vX 2] [] g := by
  refine wp_ldc dX7_turnsBy_81 kl_7_240 ?_
  refine wp_istore dX7_turnsBy_83 (Nat.le_of_ble_eq_true rfl) (pp (c := 3) rfl rfl) ?_
  refine wp_bipush dX7_turnsBy_85 kb_m9 kc_m9 ?_
  refine wp_istore dX7_turnsBy_87 (Nat.le_of_ble_eq_true rfl) (pp (c := 4) rfl rfl) ?_
  refine wp_iconst dX7_turnsBy_89 kc_0 ?_
  refine wp_istore dX7_turnsBy_90 (Nat.le_of_ble_eq_true rfl) (pp (c := 5) rfl rfl) ?_
  exact k
theorem b_X7_turnsBy_92 {d : Nat} {Q : Option pV → pG → Prop} {g : pG} {v1 v2 v3 v4 v5 v6 : Int} {u7 u8 : pV} (k1 : (w32 (2 * ((g 29) 1)) ≤ v6) → EV d mX7_turnsBy Q 179 [vR 0, vI v1, vI v2, vI v3, vI v4, vI v5, vI v6, u7, u8] [] g) (k2 : ¬ (w32 (2 * ((g 29) 1)) ≤ v6) → EV d mX7_turnsBy Q 106 [vR 0, vI v1, vI v2, vI v3, vI v4, vI v5, vI v6, u7, u8] [] g) : EV d mX7_turnsBy Q 92 [vR 0, vI v1, vI v2, vI v3, vI v4, vI v5, vI v6, u7, u8] [] g := by
  refine wp_iload dX7_turnsBy_92 rfl ?_
  refine wp_iconst dX7_turnsBy_94 kc_2 ?_
  refine wp_aload_n dX7_turnsBy_95 rfl rfl ?_
  refine wp_get (v := vR 29) dX7_turnsBy_96 fl_7_58 L_0 rfl ?_
  refine wp_get (v := vI ((g 29) 1)) dX7_turnsBy_99 fl_7_155 L_29 rfl ?_
  refine wp_imul dX7_turnsBy_102 ?_
  exact wp_icmp_ge (tgt := 179) dX7_turnsBy_103 rfl k1 k2
theorem b_X7_turnsBy_106 {d : Nat} {Q : Option pV → pG → Prop} {g : pG} {v1 v2 v3 v4 v5 v6 : Int} {u7 u8 : pV} {R : Int → pG → Prop} (hc : CT d mX3_move [vR 29, vI v6] g (qI R)) (k : ∀ (x : Int) (gg : pG), R x gg → EV d mX7_turnsBy Q 115 [vR 0, vI v1, vI v2, vI v3, vI v4, vI v5, vI v6, u7, u8] [vI x] gg) : EV d mX7_turnsBy Q 106 [vR 0, vI v1, vI v2, vI v3, vI v4, vI v5, vI v6, u7, u8] [] g := by
  refine wp_aload_n dX7_turnsBy_106 rfl rfl ?_
  refine wp_get (v := vR 29) dX7_turnsBy_107 fl_7_58 L_0 rfl ?_
  refine wp_iload dX7_turnsBy_110 rfl ?_
  exact wp_callvI (As := [vI v6]) dX7_turnsBy_112 ml_7_246 (by decide) rfl L_29 (by decide) rfl (Nat.le_of_ble_eq_true rfl) rfl (Nat.le_refl _) (Nat.le_refl _) hc k
theorem b_X7_turnsBy_115 {d : Nat} {Q : Option pV → pG → Prop} {g : pG} {v1 v2 v3 v4 v5 v6 vs0 : Int} {u7 u8 : pV} {R : Int → pG → Prop} (hc : CT d mX7_playOn [vR 1, vR 29, vR 27, vI (w32 ((w32 (2 * v1)) - 1)), vI v4, vI 1000000000] g (qI R)) (k : ∀ (x : Int) (gg : pG), R x gg → EV d mX7_turnsBy Q 141 [vR 0, vI v1, vI v2, vI v3, vI v4, vI v5, vI v6, vI vs0, u8] [vI x] gg) : EV d mX7_turnsBy Q 115 [vR 0, vI v1, vI v2, vI v3, vI v4, vI v5, vI v6, u7, u8] [vI vs0] g := by
  refine wp_istore dX7_turnsBy_115 (Nat.le_of_ble_eq_true rfl) (pp (c := 6) rfl rfl) ?_
  refine wp_aload_n dX7_turnsBy_117 rfl rfl ?_
  refine wp_get (v := vR 1) dX7_turnsBy_118 fl_7_10 L_0 rfl ?_
  refine wp_aload_n dX7_turnsBy_121 rfl rfl ?_
  refine wp_get (v := vR 29) dX7_turnsBy_122 fl_7_58 L_0 rfl ?_
  refine wp_aload_n dX7_turnsBy_125 rfl rfl ?_
  refine wp_get (v := vR 27) dX7_turnsBy_126 fl_7_54 L_0 rfl ?_
  refine wp_iconst dX7_turnsBy_129 kc_2 ?_
  refine wp_iload_n dX7_turnsBy_130 rfl ?_
  refine wp_imul dX7_turnsBy_131 ?_
  refine wp_iconst dX7_turnsBy_132 kc_1 ?_
  refine wp_isub dX7_turnsBy_133 ?_
  refine wp_iload dX7_turnsBy_134 rfl ?_
  refine wp_ldc dX7_turnsBy_136 kl_7_241 ?_
  exact wp_callsI (As := [vR 1, vR 29, vR 27, vI (w32 ((w32 (2 * v1)) - 1)), vI v4, vI 1000000000]) dX7_turnsBy_138 ml_7_242 (Or.inl rfl) rfl (Nat.le_of_ble_eq_true rfl) rfl (Nat.le_refl _) (Nat.le_refl _) hc k
theorem b_X7_turnsBy_141 {d : Nat} {Q : Option pV → pG → Prop} {g : pG} {v1 v2 v3 v4 v5 v6 v7 vs0 : Int} {u8 : pV} {R : pG → Prop} (hc : CT d mX3_put [vR 29, vI (w32 (v6.tdiv 2)), vI v7] g (qV R)) (k : ∀ gg : pG, R gg → EV d mX7_turnsBy Q 156 [vR 0, vI v1, vI v2, vI v3, vI v4, vI v5, vI v6, vI v7, vI vs0] [] gg) : EV d mX7_turnsBy Q 141 [vR 0, vI v1, vI v2, vI v3, vI v4, vI v5, vI v6, vI v7, u8] [vI vs0] g := by
  refine wp_istore dX7_turnsBy_141 (Nat.le_of_ble_eq_true rfl) (pp (c := 7) rfl rfl) ?_
  refine wp_aload_n dX7_turnsBy_143 rfl rfl ?_
  refine wp_get (v := vR 29) dX7_turnsBy_144 fl_7_58 L_0 rfl ?_
  refine wp_iload dX7_turnsBy_147 rfl ?_
  refine wp_iconst dX7_turnsBy_149 kc_2 ?_
  refine wp_idiv dX7_turnsBy_150 (by decide) ?_
  refine wp_iload dX7_turnsBy_151 rfl ?_
  exact wp_callvV (As := [vI (w32 (v6.tdiv 2)), vI v7]) dX7_turnsBy_153 ml_7_138 (by decide) rfl L_29 (by decide) rfl (Nat.le_of_ble_eq_true rfl) rfl (Nat.le_refl _) (Nat.le_refl _) hc k
theorem b_X7_turnsBy_156 {d : Nat} {Q : Option pV → pG → Prop} {g : pG} {v1 v2 v3 v4 v5 v6 v7 v8 : Int} (k1 : (v8 ≤ v4) → EV d mX7_turnsBy Q 173 [vR 0, vI v1, vI v2, vI v3, vI v4, vI v5, vI v6, vI v7, vI v8] [] g) (k2 : ¬ (v8 ≤ v4) → EV d mX7_turnsBy Q 163 [vR 0, vI v1, vI v2, vI v3, vI v4, vI v5, vI v6, vI v7, vI v8] [] g) : EV d mX7_turnsBy Q 156 [vR 0, vI v1, vI v2, vI v3, vI v4, vI v5, vI v6, vI v7, vI v8] [] g := by
  refine wp_iload dX7_turnsBy_156 rfl ?_
  refine wp_iload dX7_turnsBy_158 rfl ?_
  exact wp_icmp_le (tgt := 173) dX7_turnsBy_160 rfl k1 k2
theorem b_X7_turnsBy_163 {d : Nat} {Q : Option pV → pG → Prop} {g : pG} {v1 v2 v3 v4 v5 v6 v7 v8 : Int} (k : EV d mX7_turnsBy Q 92 [vR 0, vI v1, vI v2, vI v3, vI v8, vI (w32 (v6.tdiv 2)), vI (w32 (v6 + 1)), vI v7, vI v8] [] g) : EV d mX7_turnsBy Q 163 [vR 0, vI v1, vI v2, vI v3, vI v4, vI v5, vI v6, vI v7, vI v8] [] g := by
  refine wp_iload dX7_turnsBy_163 rfl ?_
  refine wp_istore dX7_turnsBy_165 (Nat.le_of_ble_eq_true rfl) (pp (c := 3) rfl rfl) ?_
  refine wp_iload dX7_turnsBy_167 rfl ?_
  refine wp_iconst dX7_turnsBy_169 kc_2 ?_
  refine wp_idiv dX7_turnsBy_170 (by decide) ?_
  refine wp_istore dX7_turnsBy_171 (Nat.le_of_ble_eq_true rfl) (pp (c := 4) rfl rfl) ?_
  refine wp_iinc dX7_turnsBy_173 rfl (Nat.le_of_ble_eq_true rfl) (pp (c := 5) rfl rfl) ?_
  refine wp_goto (tgt := 92) dX7_turnsBy_176 rfl ?_
  exact k
theorem b_X7_turnsBy_173 {d : Nat} {Q : Option pV → pG → Prop} {g : pG} {v1 v2 v3 v4 v5 v6 v7 v8 : Int} (k : EV d mX7_turnsBy Q 92 [vR 0, vI v1, vI v2, vI v3, vI v4, vI v5, vI (w32 (v6 + 1)), vI v7, vI v8] [] g) : EV d mX7_turnsBy Q 173 [vR 0, vI v1, vI v2, vI v3, vI v4, vI v5, vI v6, vI v7, vI v8] [] g := by
  refine wp_iinc dX7_turnsBy_173 rfl (Nat.le_of_ble_eq_true rfl) (pp (c := 5) rfl rfl) ?_
  refine wp_goto (tgt := 92) dX7_turnsBy_176 rfl ?_
  exact k
theorem b_X7_turnsBy_179 {d : Nat} {Q : Option pV → pG → Prop} {g : pG} {v1 v2 v3 v4 v5 v6 : Int} {u7 u8 : pV} (k1 : (v2 ≠ 0) → EV d mX7_turnsBy Q 188 [vR 0, vI v1, vI v2, vI v3, vI v4, vI v5, vI v6, u7, u8] [] g) (k2 : ¬ (v2 ≠ 0) → EV d mX7_turnsBy Q 183 [vR 0, vI v1, vI v2, vI v3, vI v4, vI v5, vI v6, u7, u8] [] g) : EV d mX7_turnsBy Q 179 [vR 0, vI v1, vI v2, vI v3, vI v4, vI v5, vI v6, u7, u8] [] g := by
  refine wp_iload_n dX7_turnsBy_179 rfl ?_
  exact wp_if_ne (tgt := 188) dX7_turnsBy_180 rfl k1 k2
theorem b_X7_turnsBy_183 {d : Nat} {Q : Option pV → pG → Prop} {g : pG} {v1 v2 v3 v4 v5 v6 : Int} {u7 u8 : pV} (hq : Q (some (vI v4)) g) : EV d mX7_turnsBy Q 183 [vR 0, vI v1, vI v2, vI v3, vI v4, vI v5, vI v6, u7, u8] [] g := by
  refine wp_iload dX7_turnsBy_183 rfl ?_
  refine wp_goto (tgt := 190) dX7_turnsBy_185 rfl ?_
  exact wp_iret dX7_turnsBy_190 rfl hq
theorem b_X7_turnsBy_188 {d : Nat} {Q : Option pV → pG → Prop} {g : pG} {v1 v2 v3 v4 v5 v6 : Int} {u7 u8 : pV} (hq : Q (some (vI v5)) g) : EV d mX7_turnsBy Q 188 [vR 0, vI v1, vI v2, vI v3, vI v4, vI v5, vI v6, u7, u8] [] g := by
  refine wp_iload dX7_turnsBy_188 rfl ?_
  exact wp_iret dX7_turnsBy_190 rfl hq
theorem b_X7_playOn_0 {d : Nat} {Q : Option pV → pG → Prop} {g : pG} {v3 v4 v5 : Int} (k1 : (0 < v3) → EV d mX7_playOn Q 33 [vR 1, vR 29, vR 27, vI v3, vI v4, vI v5, vX 2, vX 2, vX 2, vX 2, vX 2, vX 2] [] g) (k2 : ¬ (0 < v3) → EV d mX7_playOn Q 4 [vR 1, vR 29, vR 27, vI v3, vI v4, vI v5, vX 2, vX 2, vX 2, vX 2, vX 2, vX 2] [] g) : EV d mX7_playOn Q 0 [vR 1, vR 29, vR 27, vI v3, vI v4, vI v5, vX 2, vX 2, vX 2, vX 2, vX 2, vX 2] [] g := by
  refine wp_iload_n dX7_playOn_0 rfl ?_
  exact wp_if_gt (tgt := 33) dX7_playOn_1 rfl k1 k2
theorem b_X7_playOn_4 {d : Nat} {Q : Option pV → pG → Prop} {g : pG} {v3 v4 v5 : Int} {R : pG → Prop} (hc : CT d mX3_copyFrom [vR 27, vR 29] g (qV R)) (k : ∀ gg : pG, R gg → EV d mX7_playOn Q 9 [vR 1, vR 29, vR 27, vI v3, vI v4, vI v5, vX 2, vX 2, vX 2, vX 2, vX 2, vX 2] [] gg) : EV d mX7_playOn Q 4 [vR 1, vR 29, vR 27, vI v3, vI v4, vI v5, vX 2, vX 2, vX 2, vX 2, vX 2, vX 2] [] g := by
  refine wp_aload_n dX7_playOn_4 rfl rfl ?_
  refine wp_aload_n dX7_playOn_5 rfl rfl ?_
  exact wp_callvV (As := [vR 29]) dX7_playOn_6 ml_7_236 (by decide) rfl L_27 (by decide) rfl (Nat.le_of_ble_eq_true rfl) rfl (Nat.le_refl _) (Nat.le_refl _) hc k
theorem b_X7_playOn_9 {d : Nat} {Q : Option pV → pG → Prop} {g : pG} {v3 v4 v5 : Int} {R : pG → Prop} (hc : CT d mX5_goDown [vR 1, vR 27, vI ((g 1) 3)] g (qV R)) (k : ∀ gg : pG, R gg → EV d mX7_playOn Q 18 [vR 1, vR 29, vR 27, vI v3, vI v4, vI v5, vX 2, vX 2, vX 2, vX 2, vX 2, vX 2] [] gg) : EV d mX7_playOn Q 9 [vR 1, vR 29, vR 27, vI v3, vI v4, vI v5, vX 2, vX 2, vX 2, vX 2, vX 2, vX 2] [] g := by
  refine wp_aload_n dX7_playOn_9 rfl rfl ?_
  refine wp_aload_n dX7_playOn_10 rfl rfl ?_
  refine wp_aload_n dX7_playOn_11 rfl rfl ?_
  refine wp_get (v := vI ((g 1) 3)) dX7_playOn_12 fl_7_152 L_1 rfl ?_
  exact wp_callvV (As := [vR 27, vI ((g 1) 3)]) dX7_playOn_15 ml_7_269 (by decide) rfl L_1 (by decide) rfl (Nat.le_of_ble_eq_true rfl) rfl (Nat.le_refl _) (Nat.le_refl _) hc k
theorem b_X7_playOn_18 {d : Nat} {Q : Option pV → pG → Prop} {g : pG} {v3 v4 v5 : Int} {R : Int → pG → Prop} (hc : CT d mX3_sum [vR 27] g (qI R)) (k : ∀ (x : Int) (gg : pG), R x gg → EV d mX7_playOn Q 26 [vR 1, vR 29, vR 27, vI v3, vI v4, vI v5, vX 2, vX 2, vX 2, vX 2, vX 2, vX 2] [vI x, vI v5, vI v4] gg) : EV d mX7_playOn Q 18 [vR 1, vR 29, vR 27, vI v3, vI v4, vI v5, vX 2, vX 2, vX 2, vX 2, vX 2, vX 2] [] g := by
  refine wp_iload dX7_playOn_18 rfl ?_
  refine wp_iload dX7_playOn_20 rfl ?_
  refine wp_aload_n dX7_playOn_22 rfl rfl ?_
  exact wp_callvI (As := []) dX7_playOn_23 ml_7_183 (by decide) rfl L_27 (by decide) rfl (Nat.le_of_ble_eq_true rfl) rfl (Nat.le_refl _) (Nat.le_refl _) hc k
theorem b_X7_playOn_26 {d : Nat} {Q : Option pV → pG → Prop} {g : pG} {v3 v4 v5 vs0 vs1 vs2 : Int} (hq : Q (some (vI (zmax vs0 (zmin vs1 vs2)))) g) : EV d mX7_playOn Q 26 [vR 1, vR 29, vR 27, vI v3, vI v4, vI v5, vX 2, vX 2, vX 2, vX 2, vX 2, vX 2] [vI vs2, vI vs1, vI vs0] g := by
  refine wp_min dX7_playOn_26 xl_7_359 (Nat.le_refl _) (Nat.le_refl _) (Nat.le_of_ble_eq_true rfl) ?_
  refine wp_max dX7_playOn_29 xl_7_362 (Nat.le_refl _) (Nat.le_refl _) (Nat.le_of_ble_eq_true rfl) ?_
  exact wp_iret dX7_playOn_32 rfl hq
theorem b_X7_playOn_33 {d : Nat} {Q : Option pV → pG → Prop} {g : pG} {v3 v4 v5 : Int} (k1 : (w32 (v3.tmod 2) ≠ 0) → EV d mX7_playOn Q 43 [vR 1, vR 29, vR 27, vI v3, vI v4, vI v5, vX 2, vX 2, vX 2, vX 2, vX 2, vX 2] [] g) (k2 : ¬ (w32 (v3.tmod 2) ≠ 0) → EV d mX7_playOn Q 39 [vR 1, vR 29, vR 27, vI v3, vI v4, vI v5, vX 2, vX 2, vX 2, vX 2, vX 2, vX 2] [] g) : EV d mX7_playOn Q 33 [vR 1, vR 29, vR 27, vI v3, vI v4, vI v5, vX 2, vX 2, vX 2, vX 2, vX 2, vX 2] [] g := by
  refine wp_iload_n dX7_playOn_33 rfl ?_
  refine wp_iconst dX7_playOn_34 kc_2 ?_
  refine wp_irem dX7_playOn_35 (by decide) ?_
  exact wp_if_ne (tgt := 43) dX7_playOn_36 rfl k1 k2
theorem b_X7_playOn_39 {d : Nat} {Q : Option pV → pG → Prop} {g : pG} {v3 v4 v5 : Int} (k : EV d mX7_playOn Q 57 [vR 1, vR 29, vR 27, vI v3, vI v4, vI v5, vI 1, vI v4, vI v5, vI 0, vX 2, vX 2] [] g) : EV d mX7_playOn Q 39 [vR 1, vR 29, vR 27, vI v3, vI v4, vI v5, vX 2, vX 2, vX 2, vX 2, vX 2, vX 2] [] g := by
  refine wp_iconst dX7_playOn_39 kc_1 ?_
  refine wp_goto (tgt := 44) dX7_playOn_40 rfl ?_
  refine wp_istore dX7_playOn_44 (Nat.le_of_ble_eq_true rfl) (pp (c := 5) rfl rfl) ?_
  refine wp_iload dX7_playOn_46 rfl ?_
  refine wp_istore dX7_playOn_48 (Nat.le_of_ble_eq_true rfl) (pp (c := 6) rfl rfl) ?_
  refine wp_iload dX7_playOn_50 rfl ?_
  refine wp_istore dX7_playOn_52 (Nat.le_of_ble_eq_true rfl) (pp (c := 7) rfl rfl) ?_
  refine wp_iconst dX7_playOn_54 kc_0 ?_
  refine wp_istore dX7_playOn_55 (Nat.le_of_ble_eq_true rfl) (pp (c := 8) rfl rfl) ?_
  exact k
theorem b_X7_playOn_43 {d : Nat} {Q : Option pV → pG → Prop} {g : pG} {v3 v4 v5 : Int} (k : EV d mX7_playOn Q 57 [vR 1, vR 29, vR 27, vI v3, vI v4, vI v5, vI 0, vI v4, vI v5, vI 0, vX 2, vX 2] [] g) : EV d mX7_playOn Q 43 [vR 1, vR 29, vR 27, vI v3, vI v4, vI v5, vX 2, vX 2, vX 2, vX 2, vX 2, vX 2] [] g := by
  refine wp_iconst dX7_playOn_43 kc_0 ?_
  refine wp_istore dX7_playOn_44 (Nat.le_of_ble_eq_true rfl) (pp (c := 5) rfl rfl) ?_
  refine wp_iload dX7_playOn_46 rfl ?_
  refine wp_istore dX7_playOn_48 (Nat.le_of_ble_eq_true rfl) (pp (c := 6) rfl rfl) ?_
  refine wp_iload dX7_playOn_50 rfl ?_
  refine wp_istore dX7_playOn_52 (Nat.le_of_ble_eq_true rfl) (pp (c := 7) rfl rfl) ?_
  refine wp_iconst dX7_playOn_54 kc_0 ?_
  refine wp_istore dX7_playOn_55 (Nat.le_of_ble_eq_true rfl) (pp (c := 8) rfl rfl) ?_
  exact k
theorem b_X7_playOn_57 {d : Nat} {Q : Option pV → pG → Prop} {g : pG} {v3 v4 v5 v6 v7 v8 v9 : Int} {u10 u11 : pV} (k1 : (w32 (2 * ((g 29) 1)) ≤ v9) → EV d mX7_playOn Q 140 [vR 1, vR 29, vR 27, vI v3, vI v4, vI v5, vI v6, vI v7, vI v8, vI v9, u10, u11] [] g) (k2 : ¬ (w32 (2 * ((g 29) 1)) ≤ v9) → EV d mX7_playOn Q 68 [vR 1, vR 29, vR 27, vI v3, vI v4, vI v5, vI v6, vI v7, vI v8, vI v9, u10, u11] [] g) : EV d mX7_playOn Q 57 [vR 1, vR 29, vR 27, vI v3, vI v4, vI v5, vI v6, vI v7, vI v8, vI v9, u10, u11] [] g := by
  refine wp_iload dX7_playOn_57 rfl ?_
  refine wp_iconst dX7_playOn_59 kc_2 ?_
  refine wp_aload_n dX7_playOn_60 rfl rfl ?_
  refine wp_get (v := vI ((g 29) 1)) dX7_playOn_61 fl_7_155 L_29 rfl ?_
  refine wp_imul dX7_playOn_64 ?_
  exact wp_icmp_ge (tgt := 140) dX7_playOn_65 rfl k1 k2
theorem b_X7_playOn_68 {d : Nat} {Q : Option pV → pG → Prop} {g : pG} {v3 v4 v5 v6 v7 v8 v9 : Int} {u10 u11 : pV} (k1 : (v8 ≤ v7) → EV d mX7_playOn Q 140 [vR 1, vR 29, vR 27, vI v3, vI v4, vI v5, vI v6, vI v7, vI v8, vI v9, u10, u11] [] g) (k2 : ¬ (v8 ≤ v7) → EV d mX7_playOn Q 75 [vR 1, vR 29, vR 27, vI v3, vI v4, vI v5, vI v6, vI v7, vI v8, vI v9, u10, u11] [] g) : EV d mX7_playOn Q 68 [vR 1, vR 29, vR 27, vI v3, vI v4, vI v5, vI v6, vI v7, vI v8, vI v9, u10, u11] [] g := by
  refine wp_iload dX7_playOn_68 rfl ?_
  refine wp_iload dX7_playOn_70 rfl ?_
  exact wp_icmp_ge (tgt := 140) dX7_playOn_72 rfl k1 k2
theorem b_X7_playOn_75 {d : Nat} {Q : Option pV → pG → Prop} {g : pG} {v3 v4 v5 v6 v7 v8 v9 : Int} {u10 u11 : pV} {R : Int → pG → Prop} (hc : CT d mX3_move [vR 29, vI v9] g (qI R)) (k : ∀ (x : Int) (gg : pG), R x gg → EV d mX7_playOn Q 81 [vR 1, vR 29, vR 27, vI v3, vI v4, vI v5, vI v6, vI v7, vI v8, vI v9, u10, u11] [vI x] gg) : EV d mX7_playOn Q 75 [vR 1, vR 29, vR 27, vI v3, vI v4, vI v5, vI v6, vI v7, vI v8, vI v9, u10, u11] [] g := by
  refine wp_aload_n dX7_playOn_75 rfl rfl ?_
  refine wp_iload dX7_playOn_76 rfl ?_
  exact wp_callvI (As := [vI v9]) dX7_playOn_78 ml_7_246 (by decide) rfl L_29 (by decide) rfl (Nat.le_of_ble_eq_true rfl) rfl (Nat.le_refl _) (Nat.le_refl _) hc k
theorem b_X7_playOn_81 {d : Nat} {Q : Option pV → pG → Prop} {g : pG} {v3 v4 v5 v6 v7 v8 v9 vs0 : Int} {u10 u11 : pV} {R : Int → pG → Prop} (hc : CT d mX7_playOn [vR 1, vR 29, vR 27, vI (w32 (v3 - 1)), vI v7, vI v8] g (qI R)) (k : ∀ (x : Int) (gg : pG), R x gg → EV d mX7_playOn Q 96 [vR 1, vR 29, vR 27, vI v3, vI v4, vI v5, vI v6, vI v7, vI v8, vI v9, vI vs0, u11] [vI x] gg) : EV d mX7_playOn Q 81 [vR 1, vR 29, vR 27, vI v3, vI v4, vI v5, vI v6, vI v7, vI v8, vI v9, u10, u11] [vI vs0] g := by
  refine wp_istore dX7_playOn_81 (Nat.le_of_ble_eq_true rfl) (pp (c := 9) rfl rfl) ?_
  refine wp_aload_n dX7_playOn_83 rfl rfl ?_
  refine wp_aload_n dX7_playOn_84 rfl rfl ?_
  refine wp_aload_n dX7_playOn_85 rfl rfl ?_
  refine wp_iload_n dX7_playOn_86 rfl ?_
  refine wp_iconst dX7_playOn_87 kc_1 ?_
  refine wp_isub dX7_playOn_88 ?_
  refine wp_iload dX7_playOn_89 rfl ?_
  refine wp_iload dX7_playOn_91 rfl ?_
  exact wp_callsI (As := [vR 1, vR 29, vR 27, vI (w32 (v3 - 1)), vI v7, vI v8]) dX7_playOn_93 ml_7_242 (Or.inl rfl) rfl (Nat.le_of_ble_eq_true rfl) rfl (Nat.le_refl _) (Nat.le_refl _) hc k
theorem b_X7_playOn_96 {d : Nat} {Q : Option pV → pG → Prop} {g : pG} {v3 v4 v5 v6 v7 v8 v9 v10 vs0 : Int} {u11 : pV} {R : pG → Prop} (hc : CT d mX3_put [vR 29, vI (w32 (v9.tdiv 2)), vI v10] g (qV R)) (k : ∀ gg : pG, R gg → EV d mX7_playOn Q 108 [vR 1, vR 29, vR 27, vI v3, vI v4, vI v5, vI v6, vI v7, vI v8, vI v9, vI v10, vI vs0] [] gg) : EV d mX7_playOn Q 96 [vR 1, vR 29, vR 27, vI v3, vI v4, vI v5, vI v6, vI v7, vI v8, vI v9, vI v10, u11] [vI vs0] g := by
  refine wp_istore dX7_playOn_96 (Nat.le_of_ble_eq_true rfl) (pp (c := 10) rfl rfl) ?_
  refine wp_aload_n dX7_playOn_98 rfl rfl ?_
  refine wp_iload dX7_playOn_99 rfl ?_
  refine wp_iconst dX7_playOn_101 kc_2 ?_
  refine wp_idiv dX7_playOn_102 (by decide) ?_
  refine wp_iload dX7_playOn_103 rfl ?_
  exact wp_callvV (As := [vI (w32 (v9.tdiv 2)), vI v10]) dX7_playOn_105 ml_7_138 (by decide) rfl L_29 (by decide) rfl (Nat.le_of_ble_eq_true rfl) rfl (Nat.le_refl _) (Nat.le_refl _) hc k
theorem b_X7_playOn_108 {d : Nat} {Q : Option pV → pG → Prop} {g : pG} {v3 v4 v5 v6 v7 v8 v9 v10 v11 : Int} (k1 : (v6 = 0) → EV d mX7_playOn Q 125 [vR 1, vR 29, vR 27, vI v3, vI v4, vI v5, vI v6, vI v7, vI v8, vI v9, vI v10, vI v11] [] g) (k2 : ¬ (v6 = 0) → EV d mX7_playOn Q 113 [vR 1, vR 29, vR 27, vI v3, vI v4, vI v5, vI v6, vI v7, vI v8, vI v9, vI v10, vI v11] [] g) : EV d mX7_playOn Q 108 [vR 1, vR 29, vR 27, vI v3, vI v4, vI v5, vI v6, vI v7, vI v8, vI v9, vI v10, vI v11] [] g := by
  refine wp_iload dX7_playOn_108 rfl ?_
  exact wp_if_eq (tgt := 125) dX7_playOn_110 rfl k1 k2
theorem b_X7_playOn_113 {d : Nat} {Q : Option pV → pG → Prop} {g : pG} {v3 v4 v5 v6 v7 v8 v9 v10 v11 : Int} (k : EV d mX7_playOn Q 57 [vR 1, vR 29, vR 27, vI v3, vI v4, vI v5, vI v6, vI (zmax v7 v11), vI v8, vI (w32 (v9 + 1)), vI v10, vI v11] [] g) : EV d mX7_playOn Q 113 [vR 1, vR 29, vR 27, vI v3, vI v4, vI v5, vI v6, vI v7, vI v8, vI v9, vI v10, vI v11] [] g := by
  refine wp_iload dX7_playOn_113 rfl ?_
  refine wp_iload dX7_playOn_115 rfl ?_
  refine wp_max dX7_playOn_117 xl_7_362 (Nat.le_refl _) (Nat.le_refl _) (Nat.le_of_ble_eq_true rfl) ?_
  refine wp_istore dX7_playOn_120 (Nat.le_of_ble_eq_true rfl) (pp (c := 6) rfl rfl) ?_
  refine wp_goto (tgt := 134) dX7_playOn_122 rfl ?_
  refine wp_iinc dX7_playOn_134 rfl (Nat.le_of_ble_eq_true rfl) (pp (c := 8) rfl rfl) ?_
  refine wp_goto (tgt := 57) dX7_playOn_137 rfl ?_
  exact k
theorem b_X7_playOn_125 {d : Nat} {Q : Option pV → pG → Prop} {g : pG} {v3 v4 v5 v6 v7 v8 v9 v10 v11 : Int} (k : EV d mX7_playOn Q 57 [vR 1, vR 29, vR 27, vI v3, vI v4, vI v5, vI v6, vI v7, vI (zmin v8 v11), vI (w32 (v9 + 1)), vI v10, vI v11] [] g) : EV d mX7_playOn Q 125 [vR 1, vR 29, vR 27, vI v3, vI v4, vI v5, vI v6, vI v7, vI v8, vI v9, vI v10, vI v11] [] g := by
  refine wp_iload dX7_playOn_125 rfl ?_
  refine wp_iload dX7_playOn_127 rfl ?_
  refine wp_min dX7_playOn_129 xl_7_359 (Nat.le_refl _) (Nat.le_refl _) (Nat.le_of_ble_eq_true rfl) ?_
  refine wp_istore dX7_playOn_132 (Nat.le_of_ble_eq_true rfl) (pp (c := 7) rfl rfl) ?_
  refine wp_iinc dX7_playOn_134 rfl (Nat.le_of_ble_eq_true rfl) (pp (c := 8) rfl rfl) ?_
  refine wp_goto (tgt := 57) dX7_playOn_137 rfl ?_
  exact k
theorem b_X7_playOn_140 {d : Nat} {Q : Option pV → pG → Prop} {g : pG} {v3 v4 v5 v6 v7 v8 v9 : Int} {u10 u11 : pV} (k1 : (v6 = 0) → EV d mX7_playOn Q 150 [vR 1, vR 29, vR 27, vI v3, vI v4, vI v5, vI v6, vI v7, vI v8, vI v9, u10, u11] [] g) (k2 : ¬ (v6 = 0) → EV d mX7_playOn Q 145 [vR 1, vR 29, vR 27, vI v3, vI v4, vI v5, vI v6, vI v7, vI v8, vI v9, u10, u11] [] g) : EV d mX7_playOn Q 140 [vR 1, vR 29, vR 27, vI v3, vI v4, vI v5, vI v6, vI v7, vI v8, vI v9, u10, u11] [] g := by
  refine wp_iload dX7_playOn_140 rfl ?_
  exact wp_if_eq (tgt := 150) dX7_playOn_142 rfl k1 k2
theorem b_X7_playOn_145 {d : Nat} {Q : Option pV → pG → Prop} {g : pG} {v3 v4 v5 v6 v7 v8 v9 : Int} {u10 u11 : pV} (hq : Q (some (vI v7)) g) : EV d mX7_playOn Q 145 [vR 1, vR 29, vR 27, vI v3, vI v4, vI v5, vI v6, vI v7, vI v8, vI v9, u10, u11] [] g := by
  refine wp_iload dX7_playOn_145 rfl ?_
  refine wp_goto (tgt := 152) dX7_playOn_147 rfl ?_
  exact wp_iret dX7_playOn_152 rfl hq
theorem b_X7_playOn_150 {d : Nat} {Q : Option pV → pG → Prop} {g : pG} {v3 v4 v5 v6 v7 v8 v9 : Int} {u10 u11 : pV} (hq : Q (some (vI v8)) g) : EV d mX7_playOn Q 150 [vR 1, vR 29, vR 27, vI v3, vI v4, vI v5, vI v6, vI v7, vI v8, vI v9, u10, u11] [] g := by
  refine wp_iload dX7_playOn_150 rfl ?_
  exact wp_iret dX7_playOn_152 rfl hq
theorem b_X7_standsFast_0 {d : Nat} {Q : Option pV → pG → Prop} {g : pG} {R : pG → Prop} (hc : CT d mX7_goDownTo [vR 0, vI 0] g (qV R)) (k : ∀ gg : pG, R gg → EV d mX7_standsFast Q 5 [vR 0] [] gg) : EV d mX7_standsFast Q 0 [vR 0] [] g := by
  refine wp_aload_n dX7_standsFast_0 rfl rfl ?_
  refine wp_iconst dX7_standsFast_1 kc_0 ?_
  exact wp_callvV (As := [vI 0]) dX7_standsFast_2 ml_7_171 (by decide) rfl L_0 (by decide) rfl (Nat.le_of_ble_eq_true rfl) rfl (Nat.le_refl _) (Nat.le_refl _) hc k
theorem b_X7_standsFast_5 {d : Nat} {Q : Option pV → pG → Prop} {g : pG} {R : Int → pG → Prop} (hc : CT d mX7_fastCourts [vR 0] g (qI R)) (k : ∀ (x : Int) (gg : pG), R x gg → EV d mX7_standsFast Q 9 [vR 0] [vI x] gg) : EV d mX7_standsFast Q 5 [vR 0] [] g := by
  refine wp_aload_n dX7_standsFast_5 rfl rfl ?_
  exact wp_callvI (As := []) dX7_standsFast_6 ml_7_249 (by decide) rfl L_0 (by decide) rfl (Nat.le_of_ble_eq_true rfl) rfl (Nat.le_refl _) (Nat.le_refl _) hc k
theorem b_X7_standsFast_9 {d : Nat} {Q : Option pV → pG → Prop} {g : pG} {vs0 : Int} (hq : Q (some (vI vs0)) g) : EV d mX7_standsFast Q 9 [vR 0] [vI vs0] g := by
  exact wp_iret dX7_standsFast_9 rfl hq
theorem b_X7_fastCourts_0 {d : Nat} {Q : Option pV → pG → Prop} {g : pG} {R : Int → pG → Prop} (hc : CT d mX3_isFor [vR 27] g (qI R)) (k : ∀ (x : Int) (gg : pG), R x gg → EV d mX7_fastCourts Q 7 [vR 0, vX 2, vX 2] [vI x] gg) : EV d mX7_fastCourts Q 0 [vR 0, vX 2, vX 2] [] g := by
  refine wp_aload_n dX7_fastCourts_0 rfl rfl ?_
  refine wp_get (v := vR 27) dX7_fastCourts_1 fl_7_54 L_0 rfl ?_
  exact wp_callvI (As := []) dX7_fastCourts_4 ml_7_175 (by decide) rfl L_27 (by decide) rfl (Nat.le_of_ble_eq_true rfl) rfl (Nat.le_refl _) (Nat.le_refl _) hc k
theorem b_X7_fastCourts_7 {d : Nat} {Q : Option pV → pG → Prop} {g : pG} {vs0 : Int} (k : EV d mX7_fastCourts Q 10 [vR 0, vI vs0, vI 0] [] g) : EV d mX7_fastCourts Q 7 [vR 0, vX 2, vX 2] [vI vs0] g := by
  refine wp_istore_n dX7_fastCourts_7 (Nat.le_of_ble_eq_true rfl) (pp (c := 0) rfl rfl) ?_
  refine wp_iconst dX7_fastCourts_8 kc_0 ?_
  refine wp_istore_n dX7_fastCourts_9 (Nat.le_of_ble_eq_true rfl) (pp (c := 1) rfl rfl) ?_
  exact k
theorem b_X7_fastCourts_10 {d : Nat} {Q : Option pV → pG → Prop} {g : pG} {v1 v2 : Int} (k1 : ((g 1) 3 ≤ v2) → EV d mX7_fastCourts Q 52 [vR 0, vI v1, vI v2] [] g) (k2 : ¬ ((g 1) 3 ≤ v2) → EV d mX7_fastCourts Q 21 [vR 0, vI v1, vI v2] [] g) : EV d mX7_fastCourts Q 10 [vR 0, vI v1, vI v2] [] g := by
  refine wp_iload_n dX7_fastCourts_10 rfl ?_
  refine wp_aload_n dX7_fastCourts_11 rfl rfl ?_
  refine wp_get (v := vR 1) dX7_fastCourts_12 fl_7_10 L_0 rfl ?_
  refine wp_get (v := vI ((g 1) 3)) dX7_fastCourts_15 fl_7_152 L_1 rfl ?_
  exact wp_icmp_ge (tgt := 52) dX7_fastCourts_18 rfl k1 k2
theorem b_X7_fastCourts_21 {d : Nat} {Q : Option pV → pG → Prop} {g : pG} {v1 v2 : Int} {R : pG → Prop} (hc : CT d mX5_hear [vR 1, vI v2, vR 27] g (qV R)) (k : ∀ gg : pG, R gg → EV d mX7_fastCourts Q 33 [vR 0, vI v1, vI v2] [] gg) : EV d mX7_fastCourts Q 21 [vR 0, vI v1, vI v2] [] g := by
  refine wp_aload_n dX7_fastCourts_21 rfl rfl ?_
  refine wp_get (v := vR 1) dX7_fastCourts_22 fl_7_10 L_0 rfl ?_
  refine wp_iload_n dX7_fastCourts_25 rfl ?_
  refine wp_aload_n dX7_fastCourts_26 rfl rfl ?_
  refine wp_get (v := vR 27) dX7_fastCourts_27 fl_7_54 L_0 rfl ?_
  exact wp_callvV (As := [vI v2, vR 27]) dX7_fastCourts_30 ml_7_186 (by decide) rfl L_1 (by decide) rfl (Nat.le_of_ble_eq_true rfl) rfl (Nat.le_refl _) (Nat.le_refl _) hc k
theorem b_X7_fastCourts_33 {d : Nat} {Q : Option pV → pG → Prop} {g : pG} {v1 v2 : Int} {R : Int → pG → Prop} (hc : CT d mX3_isFor [vR 27] g (qI R)) (k : ∀ (x : Int) (gg : pG), R x gg → EV d mX7_fastCourts Q 40 [vR 0, vI v1, vI v2] [vI x] gg) : EV d mX7_fastCourts Q 33 [vR 0, vI v1, vI v2] [] g := by
  refine wp_aload_n dX7_fastCourts_33 rfl rfl ?_
  refine wp_get (v := vR 27) dX7_fastCourts_34 fl_7_54 L_0 rfl ?_
  exact wp_callvI (As := []) dX7_fastCourts_37 ml_7_175 (by decide) rfl L_27 (by decide) rfl (Nat.le_of_ble_eq_true rfl) rfl (Nat.le_refl _) (Nat.le_refl _) hc k
theorem b_X7_fastCourts_40 {d : Nat} {Q : Option pV → pG → Prop} {g : pG} {v1 v2 vs0 : Int} (k1 : (vs0 = v1) → EV d mX7_fastCourts Q 46 [vR 0, vI v1, vI v2] [] g) (k2 : ¬ (vs0 = v1) → EV d mX7_fastCourts Q 44 [vR 0, vI v1, vI v2] [] g) : EV d mX7_fastCourts Q 40 [vR 0, vI v1, vI v2] [vI vs0] g := by
  refine wp_iload_n dX7_fastCourts_40 rfl ?_
  exact wp_icmp_eq (tgt := 46) dX7_fastCourts_41 rfl k1 k2
theorem b_X7_fastCourts_44 {d : Nat} {Q : Option pV → pG → Prop} {g : pG} {v1 v2 : Int} (hq : Q (some (vI v2)) g) : EV d mX7_fastCourts Q 44 [vR 0, vI v1, vI v2] [] g := by
  refine wp_iload_n dX7_fastCourts_44 rfl ?_
  exact wp_iret dX7_fastCourts_45 rfl hq
theorem b_X7_fastCourts_46 {d : Nat} {Q : Option pV → pG → Prop} {g : pG} {v1 v2 : Int} (k : EV d mX7_fastCourts Q 10 [vR 0, vI v1, vI (w32 (v2 + 1))] [] g) : EV d mX7_fastCourts Q 46 [vR 0, vI v1, vI v2] [] g := by
  refine wp_iinc dX7_fastCourts_46 rfl (Nat.le_of_ble_eq_true rfl) (pp (c := 1) rfl rfl) ?_
  refine wp_goto (tgt := 10) dX7_fastCourts_49 rfl ?_
  exact k
theorem b_X7_fastCourts_52 {d : Nat} {Q : Option pV → pG → Prop} {g : pG} {v1 v2 : Int} (hq : Q (some (vI ((g 1) 3))) g) : EV d mX7_fastCourts Q 52 [vR 0, vI v1, vI v2] [] g := by
  refine wp_aload_n dX7_fastCourts_52 rfl rfl ?_
  refine wp_get (v := vR 1) dX7_fastCourts_53 fl_7_10 L_0 rfl ?_
  refine wp_get (v := vI ((g 1) 3)) dX7_fastCourts_56 fl_7_152 L_1 rfl ?_
  exact wp_iret dX7_fastCourts_59 rfl hq
theorem b_X7_survive_0 {d : Nat} {Q : Option pV → pG → Prop} {g : pG} {v1 : Int} {R : Int → pG → Prop} (hc : CT d mX7_outside [vI v1, vI 0, vI 4] g (qI R)) (k : ∀ (x : Int) (gg : pG), R x gg → EV d mX7_survive Q 6 [vR 0, vI v1, vX 2, vX 2, vX 2, vX 2] [vI x] gg) : EV d mX7_survive Q 0 [vR 0, vI v1, vX 2, vX 2, vX 2, vX 2] [] g := by
  refine wp_iload_n dX7_survive_0 rfl ?_
  refine wp_iconst dX7_survive_1 kc_0 ?_
  refine wp_iconst dX7_survive_2 kc_4 ?_
  exact wp_callsI (As := [vI v1, vI 0, vI 4]) dX7_survive_3 ml_7_127 (Or.inl rfl) rfl (Nat.le_of_ble_eq_true rfl) rfl (Nat.le_refl _) (Nat.le_refl _) hc k
theorem b_X7_survive_6 {d : Nat} {Q : Option pV → pG → Prop} {g : pG} {v1 vs0 : Int} (k1 : (vs0 = 0) → EV d mX7_survive Q 17 [vR 0, vI v1, vI vs0, vX 2, vX 2, vX 2] [] g) (k2 : ¬ (vs0 = 0) → EV d mX7_survive Q 11 [vR 0, vI v1, vI vs0, vX 2, vX 2, vX 2] [] g) : EV d mX7_survive Q 6 [vR 0, vI v1, vX 2, vX 2, vX 2, vX 2] [vI vs0] g := by
  refine wp_istore_n dX7_survive_6 (Nat.le_of_ble_eq_true rfl) (pp (c := 1) rfl rfl) ?_
  refine wp_iload_n dX7_survive_7 rfl ?_
  exact wp_if_eq (tgt := 17) dX7_survive_8 rfl k1 k2
theorem b_X7_survive_11 {d : Nat} {Q : Option pV → pG → Prop} {g : pG} {v1 v2 : Int} {R : Int → pG → Prop} (hc : CT d mX7_refuse [vR 0, vI v2] g (qI R)) (k : ∀ (x : Int) (gg : pG), R x gg → EV d mX7_survive Q 16 [vR 0, vI v1, vI v2, vX 2, vX 2, vX 2] [vI x] gg) : EV d mX7_survive Q 11 [vR 0, vI v1, vI v2, vX 2, vX 2, vX 2] [] g := by
  refine wp_aload_n dX7_survive_11 rfl rfl ?_
  refine wp_iload_n dX7_survive_12 rfl ?_
  exact wp_callvI (As := [vI v2]) dX7_survive_13 ml_7_91 (by decide) rfl L_0 (by decide) rfl (Nat.le_of_ble_eq_true rfl) rfl (Nat.le_refl _) (Nat.le_refl _) hc k
theorem b_X7_survive_16 {d : Nat} {Q : Option pV → pG → Prop} {g : pG} {v1 v2 vs0 : Int} (hq : Q (some (vI vs0)) g) : EV d mX7_survive Q 16 [vR 0, vI v1, vI v2, vX 2, vX 2, vX 2] [vI vs0] g := by
  exact wp_iret dX7_survive_16 rfl hq
theorem b_X7_survive_17 {d : Nat} {Q : Option pV → pG → Prop} {g : pG} {v1 v2 : Int} (k : EV d mX7_survive Q 29 [vR 0, vI v1, vI v2, vI (w32 ((w32 (2 * v1)) + 1)), vI 0, vI 0] [] g) : EV d mX7_survive Q 17 [vR 0, vI v1, vI v2, vX 2, vX 2, vX 2] [] g := by
  refine wp_iconst dX7_survive_17 kc_2 ?_
  refine wp_iload_n dX7_survive_18 rfl ?_
  refine wp_imul dX7_survive_19 ?_
  refine wp_iconst dX7_survive_20 kc_1 ?_
  refine wp_iadd dX7_survive_21 ?_
  refine wp_istore_n dX7_survive_22 (Nat.le_of_ble_eq_true rfl) (pp (c := 2) rfl rfl) ?_
  refine wp_iconst dX7_survive_23 kc_0 ?_
  refine wp_istore dX7_survive_24 (Nat.le_of_ble_eq_true rfl) (pp (c := 3) rfl rfl) ?_
  refine wp_iconst dX7_survive_26 kc_0 ?_
  refine wp_istore dX7_survive_27 (Nat.le_of_ble_eq_true rfl) (pp (c := 4) rfl rfl) ?_
  exact k
