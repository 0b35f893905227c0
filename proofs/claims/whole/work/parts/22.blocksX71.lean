theorem b_X7_survive_29 {d : Nat} {Q : Option pV → pG → Prop} {g : pG} {v1 v2 v3 v4 v5 : Int} (k1 : (w32 ((w32 (v3 * v3)) * v3) ≤ v5) → EV d mX7_survive Q 72 [vR 0, vI v1, vI v2, vI v3, vI v4, vI v5] [] g) (k2 : ¬ (w32 ((w32 (v3 * v3)) * v3) ≤ v5) → EV d mX7_survive Q 39 [vR 0, vI v1, vI v2, vI v3, vI v4, vI v5] [] g) : EV d mX7_survive Q 29 [vR 0, vI v1, vI v2, vI v3, vI v4, vI v5] [] g := by
  refine wp_iload dX7_survive_29 rfl ?_
  refine wp_iload_n dX7_survive_31 rfl ?_
  refine wp_iload_n dX7_survive_32 rfl ?_
  refine wp_imul dX7_survive_33 ?_
  refine wp_iload_n dX7_survive_34 rfl ?_
  refine wp_imul dX7_survive_35 ?_
  exact wp_icmp_ge (tgt := 72) dX7_survive_36 rfl k1 k2
theorem b_X7_survive_39 {d : Nat} {Q : Option pV → pG → Prop} {g : pG} {v1 v2 v3 v4 v5 : Int} {R : pG → Prop} (hc : CT d mX3_beThree [vR 27, vI v5, vI v1] g (qV R)) (k : ∀ gg : pG, R gg → EV d mX7_survive Q 49 [vR 0, vI v1, vI v2, vI v3, vI v4, vI v5] [] gg) : EV d mX7_survive Q 39 [vR 0, vI v1, vI v2, vI v3, vI v4, vI v5] [] g := by
  refine wp_aload_n dX7_survive_39 rfl rfl ?_
  refine wp_get (v := vR 27) dX7_survive_40 fl_7_54 L_0 rfl ?_
  refine wp_iload dX7_survive_43 rfl ?_
  refine wp_iload_n dX7_survive_45 rfl ?_
  exact wp_callvV (As := [vI v5, vI v1]) dX7_survive_46 ml_7_252 (by decide) rfl L_27 (by decide) rfl (Nat.le_of_ble_eq_true rfl) rfl (Nat.le_refl _) (Nat.le_refl _) hc k
theorem b_X7_survive_49 {d : Nat} {Q : Option pV → pG → Prop} {g : pG} {v1 v2 v3 v4 v5 : Int} {R : Int → pG → Prop} (hc : CT d mX7_fastCourts [vR 0] g (qI R)) (k : ∀ (x : Int) (gg : pG), R x gg → EV d mX7_survive Q 53 [vR 0, vI v1, vI v2, vI v3, vI v4, vI v5] [vI x] gg) : EV d mX7_survive Q 49 [vR 0, vI v1, vI v2, vI v3, vI v4, vI v5] [] g := by
  refine wp_aload_n dX7_survive_49 rfl rfl ?_
  exact wp_callvI (As := []) dX7_survive_50 ml_7_249 (by decide) rfl L_0 (by decide) rfl (Nat.le_of_ble_eq_true rfl) rfl (Nat.le_refl _) (Nat.le_refl _) hc k
theorem b_X7_survive_53 {d : Nat} {Q : Option pV → pG → Prop} {g : pG} {v1 v2 v3 v4 v5 vs0 : Int} (k1 : (vs0 ≠ (g 1) 3) → EV d mX7_survive Q 66 [vR 0, vI v1, vI v2, vI v3, vI v4, vI v5] [] g) (k2 : ¬ (vs0 ≠ (g 1) 3) → EV d mX7_survive Q 63 [vR 0, vI v1, vI v2, vI v3, vI v4, vI v5] [] g) : EV d mX7_survive Q 53 [vR 0, vI v1, vI v2, vI v3, vI v4, vI v5] [vI vs0] g := by
  refine wp_aload_n dX7_survive_53 rfl rfl ?_
  refine wp_get (v := vR 1) dX7_survive_54 fl_7_10 L_0 rfl ?_
  refine wp_get (v := vI ((g 1) 3)) dX7_survive_57 fl_7_152 L_1 rfl ?_
  exact wp_icmp_ne (tgt := 66) dX7_survive_60 rfl k1 k2
theorem b_X7_survive_63 {d : Nat} {Q : Option pV → pG → Prop} {g : pG} {v1 v2 v3 v4 v5 : Int} (k : EV d mX7_survive Q 29 [vR 0, vI v1, vI v2, vI v3, vI (w32 (v4 + 1)), vI (w32 (v5 + 1))] [] g) : EV d mX7_survive Q 63 [vR 0, vI v1, vI v2, vI v3, vI v4, vI v5] [] g := by
  refine wp_iinc dX7_survive_63 rfl (Nat.le_of_ble_eq_true rfl) (pp (c := 3) rfl rfl) ?_
  refine wp_iinc dX7_survive_66 rfl (Nat.le_of_ble_eq_true rfl) (pp (c := 4) rfl rfl) ?_
  refine wp_goto (tgt := 29) dX7_survive_69 rfl ?_
  exact k
theorem b_X7_survive_66 {d : Nat} {Q : Option pV → pG → Prop} {g : pG} {v1 v2 v3 v4 v5 : Int} (k : EV d mX7_survive Q 29 [vR 0, vI v1, vI v2, vI v3, vI v4, vI (w32 (v5 + 1))] [] g) : EV d mX7_survive Q 66 [vR 0, vI v1, vI v2, vI v3, vI v4, vI v5] [] g := by
  refine wp_iinc dX7_survive_66 rfl (Nat.le_of_ble_eq_true rfl) (pp (c := 4) rfl rfl) ?_
  refine wp_goto (tgt := 29) dX7_survive_69 rfl ?_
  exact k
theorem b_X7_survive_72 {d : Nat} {Q : Option pV → pG → Prop} {g : pG} {v1 v2 v3 v4 v5 : Int} (hq : Q (some (vI v4)) g) : EV d mX7_survive Q 72 [vR 0, vI v1, vI v2, vI v3, vI v4, vI v5] [] g := by
  refine wp_iload dX7_survive_72 rfl ?_
  exact wp_iret dX7_survive_74 rfl hq
theorem b_X7_fits_0 {d : Nat} {Q : Option pV → pG → Prop} {g : pG} {v1 : Int} {R : Int → pG → Prop} (hc : CT d mX7_outside [vI v1, vI 0, vI 9] g (qI R)) (k : ∀ (x : Int) (gg : pG), R x gg → EV d mX7_fits Q 7 [vR 0, vI v1, vX 2, vX 2, vX 2] [vI x] gg) : EV d mX7_fits Q 0 [vR 0, vI v1, vX 2, vX 2, vX 2] [] g := by
  refine wp_iload_n dX7_fits_0 rfl ?_
  refine wp_iconst dX7_fits_1 kc_0 ?_
  refine wp_bipush dX7_fits_2 kb_9 kc_9 ?_
  exact wp_callsI (As := [vI v1, vI 0, vI 9]) dX7_fits_4 ml_7_127 (Or.inl rfl) rfl (Nat.le_of_ble_eq_true rfl) rfl (Nat.le_refl _) (Nat.le_refl _) hc k
theorem b_X7_fits_7 {d : Nat} {Q : Option pV → pG → Prop} {g : pG} {v1 vs0 : Int} (k1 : (vs0 = 0) → EV d mX7_fits Q 18 [vR 0, vI v1, vI vs0, vX 2, vX 2] [] g) (k2 : ¬ (vs0 = 0) → EV d mX7_fits Q 12 [vR 0, vI v1, vI vs0, vX 2, vX 2] [] g) : EV d mX7_fits Q 7 [vR 0, vI v1, vX 2, vX 2, vX 2] [vI vs0] g := by
  refine wp_istore_n dX7_fits_7 (Nat.le_of_ble_eq_true rfl) (pp (c := 1) rfl rfl) ?_
  refine wp_iload_n dX7_fits_8 rfl ?_
  exact wp_if_eq (tgt := 18) dX7_fits_9 rfl k1 k2
theorem b_X7_fits_12 {d : Nat} {Q : Option pV → pG → Prop} {g : pG} {v1 v2 : Int} {R : Int → pG → Prop} (hc : CT d mX7_refuse [vR 0, vI v2] g (qI R)) (k : ∀ (x : Int) (gg : pG), R x gg → EV d mX7_fits Q 17 [vR 0, vI v1, vI v2, vX 2, vX 2] [vI x] gg) : EV d mX7_fits Q 12 [vR 0, vI v1, vI v2, vX 2, vX 2] [] g := by
  refine wp_aload_n dX7_fits_12 rfl rfl ?_
  refine wp_iload_n dX7_fits_13 rfl ?_
  exact wp_callvI (As := [vI v2]) dX7_fits_14 ml_7_91 (by decide) rfl L_0 (by decide) rfl (Nat.le_of_ble_eq_true rfl) rfl (Nat.le_refl _) (Nat.le_refl _) hc k
theorem b_X7_fits_17 {d : Nat} {Q : Option pV → pG → Prop} {g : pG} {v1 v2 vs0 : Int} (hq : Q (some (vI vs0)) g) : EV d mX7_fits Q 17 [vR 0, vI v1, vI v2, vX 2, vX 2] [vI vs0] g := by
  exact wp_iret dX7_fits_17 rfl hq
theorem b_X7_fits_18 {d : Nat} {Q : Option pV → pG → Prop} {g : pG} {v1 v2 : Int} {R : Int → pG → Prop} (hc : CT d mX7_tellsNumbers [vR 0, vI (w32 (2 * ((g 5) 1)))] g (qI R)) (k : ∀ (x : Int) (gg : pG), R x gg → EV d mX7_fits Q 34 [vR 0, vI v1, vI v2, vX 2, vX 2] [vI x] gg) : EV d mX7_fits Q 18 [vR 0, vI v1, vI v2, vX 2, vX 2] [] g := by
  refine wp_aload_n dX7_fits_18 rfl rfl ?_
  refine wp_iconst dX7_fits_19 kc_2 ?_
  refine wp_aload_n dX7_fits_20 rfl rfl ?_
  refine wp_get (v := vR 1) dX7_fits_21 fl_7_10 L_0 rfl ?_
  refine wp_get (v := vR 5) dX7_fits_24 fl_7_118 L_1 rfl ?_
  refine wp_get (v := vI ((g 5) 1)) dX7_fits_27 fl_7_155 L_5 rfl ?_
  refine wp_imul dX7_fits_30 ?_
  exact wp_callvI (As := [vI (w32 (2 * ((g 5) 1)))]) dX7_fits_31 ml_7_255 (by decide) rfl L_0 (by decide) rfl (Nat.le_of_ble_eq_true rfl) rfl (Nat.le_refl _) (Nat.le_refl _) hc k
theorem b_X7_fits_34 {d : Nat} {Q : Option pV → pG → Prop} {g : pG} {v1 v2 vs0 : Int} (k1 : (vs0 ≠ 0) → EV d mX7_fits Q 44 [vR 0, vI v1, vI v2, vX 2, vX 2] [] g) (k2 : ¬ (vs0 ≠ 0) → EV d mX7_fits Q 37 [vR 0, vI v1, vI v2, vX 2, vX 2] [] g) : EV d mX7_fits Q 34 [vR 0, vI v1, vI v2, vX 2, vX 2] [vI vs0] g := by
  exact wp_if_ne (tgt := 44) dX7_fits_34 rfl k1 k2
theorem b_X7_fits_37 {d : Nat} {Q : Option pV → pG → Prop} {g : pG} {v1 v2 : Int} {R : Int → pG → Prop} (hc : CT d mX7_refuse [vR 0, vI (-3)] g (qI R)) (k : ∀ (x : Int) (gg : pG), R x gg → EV d mX7_fits Q 43 [vR 0, vI v1, vI v2, vX 2, vX 2] [vI x] gg) : EV d mX7_fits Q 37 [vR 0, vI v1, vI v2, vX 2, vX 2] [] g := by
  refine wp_aload_n dX7_fits_37 rfl rfl ?_
  refine wp_bipush dX7_fits_38 kb_m3 kc_m3 ?_
  exact wp_callvI (As := [vI (-3)]) dX7_fits_40 ml_7_91 (by decide) rfl L_0 (by decide) rfl (Nat.le_of_ble_eq_true rfl) rfl (Nat.le_refl _) (Nat.le_refl _) hc k
theorem b_X7_fits_43 {d : Nat} {Q : Option pV → pG → Prop} {g : pG} {v1 v2 vs0 : Int} (hq : Q (some (vI vs0)) g) : EV d mX7_fits Q 43 [vR 0, vI v1, vI v2, vX 2, vX 2] [vI vs0] g := by
  exact wp_iret dX7_fits_43 rfl hq
theorem b_X7_fits_44 {d : Nat} {Q : Option pV → pG → Prop} {g : pG} {v1 v2 : Int} {R : pG → Prop} (hc : CT d mX7_readTold [vR 0, vR 29, vI 0, vI 2] g (qV R)) (k : ∀ gg : pG, R gg → EV d mX7_fits Q 54 [vR 0, vI v1, vI v2, vX 2, vX 2] [] gg) : EV d mX7_fits Q 44 [vR 0, vI v1, vI v2, vX 2, vX 2] [] g := by
  refine wp_aload_n dX7_fits_44 rfl rfl ?_
  refine wp_aload_n dX7_fits_45 rfl rfl ?_
  refine wp_get (v := vR 29) dX7_fits_46 fl_7_58 L_0 rfl ?_
  refine wp_iconst dX7_fits_49 kc_0 ?_
  refine wp_iconst dX7_fits_50 kc_2 ?_
  exact wp_callvV (As := [vR 29, vI 0, vI 2]) dX7_fits_51 ml_7_258 (by decide) rfl L_0 (by decide) rfl (Nat.le_of_ble_eq_true rfl) rfl (Nat.le_refl _) (Nat.le_refl _) hc k
theorem b_X7_fits_54 {d : Nat} {Q : Option pV → pG → Prop} {g : pG} {v1 v2 : Int} {R : pG → Prop} (hc : CT d mX7_readTold [vR 0, vR 31, vI 1, vI 2] g (qV R)) (k : ∀ gg : pG, R gg → EV d mX7_fits Q 64 [vR 0, vI v1, vI v2, vX 2, vX 2] [] gg) : EV d mX7_fits Q 54 [vR 0, vI v1, vI v2, vX 2, vX 2] [] g := by
  refine wp_aload_n dX7_fits_54 rfl rfl ?_
  refine wp_aload_n dX7_fits_55 rfl rfl ?_
  refine wp_get (v := vR 31) dX7_fits_56 fl_7_61 L_0 rfl ?_
  refine wp_iconst dX7_fits_59 kc_1 ?_
  refine wp_iconst dX7_fits_60 kc_2 ?_
  exact wp_callvV (As := [vR 31, vI 1, vI 2]) dX7_fits_61 ml_7_258 (by decide) rfl L_0 (by decide) rfl (Nat.le_of_ble_eq_true rfl) rfl (Nat.le_refl _) (Nat.le_refl _) hc k
theorem b_X7_fits_64 {d : Nat} {Q : Option pV → pG → Prop} {g : pG} {v1 v2 : Int} (k : EV d mX7_fits Q 69 [vR 0, vI v1, vI v2, vI 0, vI 0] [] g) : EV d mX7_fits Q 64 [vR 0, vI v1, vI v2, vX 2, vX 2] [] g := by
  refine wp_iconst dX7_fits_64 kc_0 ?_
  refine wp_istore_n dX7_fits_65 (Nat.le_of_ble_eq_true rfl) (pp (c := 2) rfl rfl) ?_
  refine wp_iconst dX7_fits_66 kc_0 ?_
  refine wp_istore dX7_fits_67 (Nat.le_of_ble_eq_true rfl) (pp (c := 3) rfl rfl) ?_
  exact k
theorem b_X7_fits_69 {d : Nat} {Q : Option pV → pG → Prop} {g : pG} {v1 v2 v3 v4 : Int} (k1 : (6 ≤ v4) → EV d mX7_fits Q 124 [vR 0, vI v1, vI v2, vI v3, vI v4] [] g) (k2 : ¬ (6 ≤ v4) → EV d mX7_fits Q 76 [vR 0, vI v1, vI v2, vI v3, vI v4] [] g) : EV d mX7_fits Q 69 [vR 0, vI v1, vI v2, vI v3, vI v4] [] g := by
  refine wp_iload dX7_fits_69 rfl ?_
  refine wp_bipush dX7_fits_71 kb_6 kc_6 ?_
  exact wp_icmp_ge (tgt := 124) dX7_fits_73 rfl k1 k2
theorem b_X7_fits_76 {d : Nat} {Q : Option pV → pG → Prop} {g : pG} {v1 v2 v3 v4 : Int} {R : pG → Prop} (hc : CT d mX3_copyFrom [vR 27, vR 29] g (qV R)) (k : ∀ gg : pG, R gg → EV d mX7_fits Q 87 [vR 0, vI v1, vI v2, vI v3, vI v4] [] gg) : EV d mX7_fits Q 76 [vR 0, vI v1, vI v2, vI v3, vI v4] [] g := by
  refine wp_aload_n dX7_fits_76 rfl rfl ?_
  refine wp_get (v := vR 27) dX7_fits_77 fl_7_54 L_0 rfl ?_
  refine wp_aload_n dX7_fits_80 rfl rfl ?_
  refine wp_get (v := vR 29) dX7_fits_81 fl_7_58 L_0 rfl ?_
  exact wp_callvV (As := [vR 29]) dX7_fits_84 ml_7_236 (by decide) rfl L_27 (by decide) rfl (Nat.le_of_ble_eq_true rfl) rfl (Nat.le_refl _) (Nat.le_refl _) hc k
theorem b_X7_fits_87 {d : Nat} {Q : Option pV → pG → Prop} {g : pG} {v1 v2 v3 v4 : Int} {R : pG → Prop} (hc : CT d mX3_suffer [vR 27, vI v4, vI v1] g (qV R)) (k : ∀ gg : pG, R gg → EV d mX7_fits Q 97 [vR 0, vI v1, vI v2, vI v3, vI v4] [] gg) : EV d mX7_fits Q 87 [vR 0, vI v1, vI v2, vI v3, vI v4] [] g := by
  refine wp_aload_n dX7_fits_87 rfl rfl ?_
  refine wp_get (v := vR 27) dX7_fits_88 fl_7_54 L_0 rfl ?_
  refine wp_iload dX7_fits_91 rfl ?_
  refine wp_iload_n dX7_fits_93 rfl ?_
  exact wp_callvV (As := [vI v4, vI v1]) dX7_fits_94 ml_7_262 (by decide) rfl L_27 (by decide) rfl (Nat.le_of_ble_eq_true rfl) rfl (Nat.le_refl _) (Nat.le_refl _) hc k
theorem b_X7_fits_97 {d : Nat} {Q : Option pV → pG → Prop} {g : pG} {v1 v2 v3 v4 : Int} {R : Int → pG → Prop} (hc : CT d mX3_isAs [vR 27, vR 31] g (qI R)) (k : ∀ (x : Int) (gg : pG), R x gg → EV d mX7_fits Q 108 [vR 0, vI v1, vI v2, vI v3, vI v4] [vI x] gg) : EV d mX7_fits Q 97 [vR 0, vI v1, vI v2, vI v3, vI v4] [] g := by
  refine wp_aload_n dX7_fits_97 rfl rfl ?_
  refine wp_get (v := vR 27) dX7_fits_98 fl_7_54 L_0 rfl ?_
  refine wp_aload_n dX7_fits_101 rfl rfl ?_
  refine wp_get (v := vR 31) dX7_fits_102 fl_7_61 L_0 rfl ?_
  exact wp_callvI (As := [vR 31]) dX7_fits_105 ml_7_265 (by decide) rfl L_27 (by decide) rfl (Nat.le_of_ble_eq_true rfl) rfl (Nat.le_refl _) (Nat.le_refl _) hc k
theorem b_X7_fits_108 {d : Nat} {Q : Option pV → pG → Prop} {g : pG} {v1 v2 v3 v4 vs0 : Int} (k1 : (vs0 = 0) → EV d mX7_fits Q 118 [vR 0, vI v1, vI v2, vI v3, vI v4] [] g) (k2 : ¬ (vs0 = 0) → EV d mX7_fits Q 111 [vR 0, vI v1, vI v2, vI v3, vI v4] [] g) : EV d mX7_fits Q 108 [vR 0, vI v1, vI v2, vI v3, vI v4] [vI vs0] g := by
  exact wp_if_eq (tgt := 118) dX7_fits_108 rfl k1 k2
theorem b_X7_fits_111 {d : Nat} {Q : Option pV → pG → Prop} {g : pG} {v1 v2 v3 v4 : Int} (k : EV d mX7_fits Q 69 [vR 0, vI v1, vI v2, vI (zor v3 (zshl 1 v4)), vI (w32 (v4 + 1))] [] g) : EV d mX7_fits Q 111 [vR 0, vI v1, vI v2, vI v3, vI v4] [] g := by
  refine wp_iload_n dX7_fits_111 rfl ?_
  refine wp_iconst dX7_fits_112 kc_1 ?_
  refine wp_iload dX7_fits_113 rfl ?_
  refine wp_ishl dX7_fits_115 ?_
  refine wp_ior dX7_fits_116 ?_
  refine wp_istore_n dX7_fits_117 (Nat.le_of_ble_eq_true rfl) (pp (c := 2) rfl rfl) ?_
  refine wp_iinc dX7_fits_118 rfl (Nat.le_of_ble_eq_true rfl) (pp (c := 3) rfl rfl) ?_
  refine wp_goto (tgt := 69) dX7_fits_121 rfl ?_
  exact k
theorem b_X7_fits_118 {d : Nat} {Q : Option pV → pG → Prop} {g : pG} {v1 v2 v3 v4 : Int} (k : EV d mX7_fits Q 69 [vR 0, vI v1, vI v2, vI v3, vI (w32 (v4 + 1))] [] g) : EV d mX7_fits Q 118 [vR 0, vI v1, vI v2, vI v3, vI v4] [] g := by
  refine wp_iinc dX7_fits_118 rfl (Nat.le_of_ble_eq_true rfl) (pp (c := 3) rfl rfl) ?_
  refine wp_goto (tgt := 69) dX7_fits_121 rfl ?_
  exact k
theorem b_X7_fits_124 {d : Nat} {Q : Option pV → pG → Prop} {g : pG} {v1 v2 v3 v4 : Int} (hq : Q (some (vI v3)) g) : EV d mX7_fits Q 124 [vR 0, vI v1, vI v2, vI v3, vI v4] [] g := by
  refine wp_iload_n dX7_fits_124 rfl ?_
  exact wp_iret dX7_fits_125 rfl hq
theorem b_X7_tellsNumbers_0 {d : Nat} {Q : Option pV → pG → Prop} {g : pG} {v1 : Int} (k1 : ((g 0) 7 = v1) → EV d mX7_tellsNumbers Q 10 [vR 0, vI v1, vX 2] [] g) (k2 : ¬ ((g 0) 7 = v1) → EV d mX7_tellsNumbers Q 8 [vR 0, vI v1, vX 2] [] g) : EV d mX7_tellsNumbers Q 0 [vR 0, vI v1, vX 2] [] g := by
  refine wp_aload_n dX7_tellsNumbers_0 rfl rfl ?_
  refine wp_get (v := vI ((g 0) 7)) dX7_tellsNumbers_1 fl_7_44 L_0 rfl ?_
  refine wp_iload_n dX7_tellsNumbers_4 rfl ?_
  exact wp_icmp_eq (tgt := 10) dX7_tellsNumbers_5 rfl k1 k2
theorem b_X7_tellsNumbers_8 {d : Nat} {Q : Option pV → pG → Prop} {g : pG} {v1 : Int} (hq : Q (some (vI 0)) g) : EV d mX7_tellsNumbers Q 8 [vR 0, vI v1, vX 2] [] g := by
  refine wp_iconst dX7_tellsNumbers_8 kc_0 ?_
  exact wp_zret dX7_tellsNumbers_9 rfl (Or.inl rfl) hq
theorem b_X7_tellsNumbers_10 {d : Nat} {Q : Option pV → pG → Prop} {g : pG} {v1 : Int} (k : EV d mX7_tellsNumbers Q 12 [vR 0, vI v1, vI 0] [] g) : EV d mX7_tellsNumbers Q 10 [vR 0, vI v1, vX 2] [] g := by
  refine wp_iconst dX7_tellsNumbers_10 kc_0 ?_
  refine wp_istore_n dX7_tellsNumbers_11 (Nat.le_of_ble_eq_true rfl) (pp (c := 1) rfl rfl) ?_
  exact k
theorem b_X7_tellsNumbers_12 {d : Nat} {Q : Option pV → pG → Prop} {g : pG} {v1 v2 : Int} (k1 : ((g 0) 7 ≤ v2) → EV d mX7_tellsNumbers Q 39 [vR 0, vI v1, vI v2] [] g) (k2 : ¬ ((g 0) 7 ≤ v2) → EV d mX7_tellsNumbers Q 20 [vR 0, vI v1, vI v2] [] g) : EV d mX7_tellsNumbers Q 12 [vR 0, vI v1, vI v2] [] g := by
  refine wp_iload_n dX7_tellsNumbers_12 rfl ?_
  refine wp_aload_n dX7_tellsNumbers_13 rfl rfl ?_
  refine wp_get (v := vI ((g 0) 7)) dX7_tellsNumbers_14 fl_7_44 L_0 rfl ?_
  exact wp_icmp_ge (tgt := 39) dX7_tellsNumbers_17 rfl k1 k2
theorem b_X7_tellsNumbers_20 {d : Nat} {Q : Option pV → pG → Prop} {g : pG} {v1 v2 : Int} (h1 : 0 ≤ v2) (h2 : v2 < 16) (k1 : ((g 25) v2.toNat ≤ 18) → EV d mX7_tellsNumbers Q 33 [vR 0, vI v1, vI v2] [] g) (k2 : ¬ ((g 25) v2.toNat ≤ 18) → EV d mX7_tellsNumbers Q 31 [vR 0, vI v1, vI v2] [] g) : EV d mX7_tellsNumbers Q 20 [vR 0, vI v1, vI v2] [] g := by
  refine wp_aload_n dX7_tellsNumbers_20 rfl rfl ?_
  refine wp_get (v := vR 25) dX7_tellsNumbers_21 fl_7_40 L_0 rfl ?_
  refine wp_iload_n dX7_tellsNumbers_24 rfl ?_
  refine wp_iaload dX7_tellsNumbers_25 h1 L_25 h2 ?_
  refine wp_bipush dX7_tellsNumbers_26 kb_18 kc_18 ?_
  exact wp_icmp_le (tgt := 33) dX7_tellsNumbers_28 rfl k1 k2
theorem b_X7_tellsNumbers_31 {d : Nat} {Q : Option pV → pG → Prop} {g : pG} {v1 v2 : Int} (hq : Q (some (vI 0)) g) : EV d mX7_tellsNumbers Q 31 [vR 0, vI v1, vI v2] [] g := by
  refine wp_iconst dX7_tellsNumbers_31 kc_0 ?_
  exact wp_zret dX7_tellsNumbers_32 rfl (Or.inl rfl) hq
theorem b_X7_tellsNumbers_33 {d : Nat} {Q : Option pV → pG → Prop} {g : pG} {v1 v2 : Int} (k : EV d mX7_tellsNumbers Q 12 [vR 0, vI v1, vI (w32 (v2 + 1))] [] g) : EV d mX7_tellsNumbers Q 33 [vR 0, vI v1, vI v2] [] g := by
  refine wp_iinc dX7_tellsNumbers_33 rfl (Nat.le_of_ble_eq_true rfl) (pp (c := 1) rfl rfl) ?_
  refine wp_goto (tgt := 12) dX7_tellsNumbers_36 rfl ?_
  exact k
theorem b_X7_tellsNumbers_39 {d : Nat} {Q : Option pV → pG → Prop} {g : pG} {v1 v2 : Int} (hq : Q (some (vI 1)) g) : EV d mX7_tellsNumbers Q 39 [vR 0, vI v1, vI v2] [] g := by
  refine wp_iconst dX7_tellsNumbers_39 kc_1 ?_
  exact wp_zret dX7_tellsNumbers_40 rfl (Or.inr rfl) hq
theorem b_X7_readTold_0 {d : Nat} {Q : Option pV → pG → Prop} {g : pG} {t : Nat} {v2 v3 : Int} (ht : isPts t) {R : pG → Prop} (hc : CT d mX3_copyFrom [vR t, vR 5] g (qV R)) (k : ∀ gg : pG, R gg → EV d mX7_readTold Q 11 [vR 0, vR t, vI v2, vI v3, vX 2, vX 2] [] gg) : EV d mX7_readTold Q 0 [vR 0, vR t, vI v2, vI v3, vX 2, vX 2] [] g := by
  refine wp_aload_n dX7_readTold_0 rfl rfl ?_
  refine wp_aload_n dX7_readTold_1 rfl rfl ?_
  refine wp_get (v := vR 1) dX7_readTold_2 fl_7_10 L_0 rfl ?_
  refine wp_get (v := vR 5) dX7_readTold_5 fl_7_118 L_1 rfl ?_
  exact wp_callvV (As := [vR 5]) dX7_readTold_8 ml_7_236 (by decide) rfl ht.1 (by decide) rfl (Nat.le_of_ble_eq_true rfl) rfl (Nat.le_refl _) (Nat.le_refl _) hc k
theorem b_X7_readTold_11 {d : Nat} {Q : Option pV → pG → Prop} {g : pG} {t : Nat} {v2 v3 : Int} (ht : isPts t) (k : EV d mX7_readTold Q 14 [vR 0, vR t, vI v2, vI v3, vI 0, vX 2] [] g) : EV d mX7_readTold Q 11 [vR 0, vR t, vI v2, vI v3, vX 2, vX 2] [] g := by
  refine wp_iconst dX7_readTold_11 kc_0 ?_
  refine wp_istore dX7_readTold_12 (Nat.le_of_ble_eq_true rfl) (pp (c := 3) rfl rfl) ?_
  exact k
theorem b_X7_readTold_14 {d : Nat} {Q : Option pV → pG → Prop} {g : pG} {t : Nat} {v2 v3 v4 : Int} {u5 : pV} (ht : isPts t) (k1 : ((g t) 1 ≤ v4) → EV d mX7_readTold Q 67 [vR 0, vR t, vI v2, vI v3, vI v4, u5] [] g) (k2 : ¬ ((g t) 1 ≤ v4) → EV d mX7_readTold Q 23 [vR 0, vR t, vI v2, vI v3, vI v4, u5] [] g) : EV d mX7_readTold Q 14 [vR 0, vR t, vI v2, vI v3, vI v4, u5] [] g := by
  refine wp_iload dX7_readTold_14 rfl ?_
  refine wp_aload_n dX7_readTold_16 rfl rfl ?_
  refine wp_get (v := vI ((g t) 1)) dX7_readTold_17 fl_7_155 ht.1 rfl ?_
  exact wp_icmp_ge (tgt := 67) dX7_readTold_20 rfl k1 k2
theorem b_X7_readTold_23 {d : Nat} {Q : Option pV → pG → Prop} {g : pG} {t : Nat} {v2 v3 v4 : Int} {u5 : pV} (ht : isPts t) (k1 : (w32 (v2 + (w32 (v3 * v4))) < 0) → EV d mX7_readTold Q 61 [vR 0, vR t, vI v2, vI v3, vI v4, vI (w32 (v2 + (w32 (v3 * v4))))] [] g) (k2 : ¬ (w32 (v2 + (w32 (v3 * v4))) < 0) → EV d mX7_readTold Q 36 [vR 0, vR t, vI v2, vI v3, vI v4, vI (w32 (v2 + (w32 (v3 * v4))))] [] g) : EV d mX7_readTold Q 23 [vR 0, vR t, vI v2, vI v3, vI v4, u5] [] g := by
  refine wp_iload_n dX7_readTold_23 rfl ?_
  refine wp_iload_n dX7_readTold_24 rfl ?_
  refine wp_iload dX7_readTold_25 rfl ?_
  refine wp_imul dX7_readTold_27 ?_
  refine wp_iadd dX7_readTold_28 ?_
  refine wp_istore dX7_readTold_29 (Nat.le_of_ble_eq_true rfl) (pp (c := 4) rfl rfl) ?_
  refine wp_iload dX7_readTold_31 rfl ?_
  exact wp_if_lt (tgt := 61) dX7_readTold_33 rfl k1 k2
theorem b_X7_readTold_36 {d : Nat} {Q : Option pV → pG → Prop} {g : pG} {t : Nat} {v2 v3 v4 v5 : Int} (ht : isPts t) (k1 : ((g 0) 7 ≤ v5) → EV d mX7_readTold Q 61 [vR 0, vR t, vI v2, vI v3, vI v4, vI v5] [] g) (k2 : ¬ ((g 0) 7 ≤ v5) → EV d mX7_readTold Q 45 [vR 0, vR t, vI v2, vI v3, vI v4, vI v5] [] g) : EV d mX7_readTold Q 36 [vR 0, vR t, vI v2, vI v3, vI v4, vI v5] [] g := by
  refine wp_iload dX7_readTold_36 rfl ?_
  refine wp_aload_n dX7_readTold_38 rfl rfl ?_
  refine wp_get (v := vI ((g 0) 7)) dX7_readTold_39 fl_7_44 L_0 rfl ?_
  exact wp_icmp_ge (tgt := 61) dX7_readTold_42 rfl k1 k2
theorem b_X7_readTold_45 {d : Nat} {Q : Option pV → pG → Prop} {g : pG} {t : Nat} {v2 v3 v4 v5 : Int} (ht : isPts t) {R : pG → Prop} (h1 : 0 ≤ v5) (h2 : v5 < 16) (hc : CT d mX3_put [vR t, vI v4, vI (w32 (((g 25) v5.toNat) - 9))] g (qV R)) (k : ∀ gg : pG, R gg → EV d mX7_readTold Q 61 [vR 0, vR t, vI v2, vI v3, vI v4, vI v5] [] gg) : EV d mX7_readTold Q 45 [vR 0, vR t, vI v2, vI v3, vI v4, vI v5] [] g := by
  refine wp_aload_n dX7_readTold_45 rfl rfl ?_
  refine wp_iload dX7_readTold_46 rfl ?_
  refine wp_aload_n dX7_readTold_48 rfl rfl ?_
  refine wp_get (v := vR 25) dX7_readTold_49 fl_7_40 L_0 rfl ?_
  refine wp_iload dX7_readTold_52 rfl ?_
  refine wp_iaload dX7_readTold_54 h1 L_25 h2 ?_
  refine wp_bipush dX7_readTold_55 kb_9 kc_9 ?_
  refine wp_isub dX7_readTold_57 ?_
  exact wp_callvV (As := [vI v4, vI (w32 (((g 25) v5.toNat) - 9))]) dX7_readTold_58 ml_7_138 (by decide) rfl ht.1 (by decide) rfl (Nat.le_of_ble_eq_true rfl) rfl (Nat.le_refl _) (Nat.le_refl _) hc k
theorem b_X7_readTold_61 {d : Nat} {Q : Option pV → pG → Prop} {g : pG} {t : Nat} {v2 v3 v4 v5 : Int} (ht : isPts t) (k : EV d mX7_readTold Q 14 [vR 0, vR t, vI v2, vI v3, vI (w32 (v4 + 1)), vI v5] [] g) : EV d mX7_readTold Q 61 [vR 0, vR t, vI v2, vI v3, vI v4, vI v5] [] g := by
  refine wp_iinc dX7_readTold_61 rfl (Nat.le_of_ble_eq_true rfl) (pp (c := 3) rfl rfl) ?_
  refine wp_goto (tgt := 14) dX7_readTold_64 rfl ?_
  exact k
theorem b_X7_readTold_67 {d : Nat} {Q : Option pV → pG → Prop} {g : pG} {t : Nat} {v2 v3 v4 : Int} {u5 : pV} (ht : isPts t) (hq : Q none g) : EV d mX7_readTold Q 67 [vR 0, vR t, vI v2, vI v3, vI v4, u5] [] g := by
  exact wp_vret dX7_readTold_67 rfl hq
theorem b_X7_first_0 {d : Nat} {Q : Option pV → pG → Prop} {g : pG} {v1 : Int} (k1 : ((-1) ≤ v1) → EV d mX7_first Q 12 [vR 0, vI v1, vX 2, vX 2, vX 2] [] g) (k2 : ¬ ((-1) ≤ v1) → EV d mX7_first Q 5 [vR 0, vI v1, vX 2, vX 2, vX 2] [] g) : EV d mX7_first Q 0 [vR 0, vI v1, vX 2, vX 2, vX 2] [] g := by
  refine wp_iload_n dX7_first_0 rfl ?_
  refine wp_iconst dX7_first_1 kc_m1 ?_
  exact wp_icmp_ge (tgt := 12) dX7_first_2 rfl k1 k2
theorem b_X7_first_5 {d : Nat} {Q : Option pV → pG → Prop} {g : pG} {v1 : Int} {R : Int → pG → Prop} (hc : CT d mX7_refuseHigh [vR 0, vI (-4)] g (qI R)) (k : ∀ (x : Int) (gg : pG), R x gg → EV d mX7_first Q 11 [vR 0, vI v1, vX 2, vX 2, vX 2] [vI x] gg) : EV d mX7_first Q 5 [vR 0, vI v1, vX 2, vX 2, vX 2] [] g := by
  refine wp_aload_n dX7_first_5 rfl rfl ?_
  refine wp_bipush dX7_first_6 kb_m4 kc_m4 ?_
  exact wp_callvI (As := [vI (-4)]) dX7_first_8 ml_7_124 (by decide) rfl L_0 (by decide) rfl (Nat.le_of_ble_eq_true rfl) rfl (Nat.le_refl _) (Nat.le_refl _) hc k
theorem b_X7_first_11 {d : Nat} {Q : Option pV → pG → Prop} {g : pG} {v1 vs0 : Int} (hq : Q (some (vI vs0)) g) : EV d mX7_first Q 11 [vR 0, vI v1, vX 2, vX 2, vX 2] [vI vs0] g := by
  exact wp_iret dX7_first_11 rfl hq
theorem b_X7_first_12 {d : Nat} {Q : Option pV → pG → Prop} {g : pG} {v1 : Int} (k1 : ((g 5) 1 = 3) → EV d mX7_first Q 33 [vR 0, vI v1, vX 2, vX 2, vX 2] [] g) (k2 : ¬ ((g 5) 1 = 3) → EV d mX7_first Q 26 [vR 0, vI v1, vX 2, vX 2, vX 2] [] g) : EV d mX7_first Q 12 [vR 0, vI v1, vX 2, vX 2, vX 2] [] g := by
  refine wp_aload_n dX7_first_12 rfl rfl ?_
  refine wp_get (v := vR 1) dX7_first_13 fl_7_10 L_0 rfl ?_
  refine wp_get (v := vR 5) dX7_first_16 fl_7_118 L_1 rfl ?_
  refine wp_get (v := vI ((g 5) 1)) dX7_first_19 fl_7_155 L_5 rfl ?_
  refine wp_iconst dX7_first_22 kc_3 ?_
  exact wp_icmp_eq (tgt := 33) dX7_first_23 rfl k1 k2
theorem b_X7_first_26 {d : Nat} {Q : Option pV → pG → Prop} {g : pG} {v1 : Int} {R : Int → pG → Prop} (hc : CT d mX7_refuseHigh [vR 0, vI (-3)] g (qI R)) (k : ∀ (x : Int) (gg : pG), R x gg → EV d mX7_first Q 32 [vR 0, vI v1, vX 2, vX 2, vX 2] [vI x] gg) : EV d mX7_first Q 26 [vR 0, vI v1, vX 2, vX 2, vX 2] [] g := by
  refine wp_aload_n dX7_first_26 rfl rfl ?_
  refine wp_bipush dX7_first_27 kb_m3 kc_m3 ?_
  exact wp_callvI (As := [vI (-3)]) dX7_first_29 ml_7_124 (by decide) rfl L_0 (by decide) rfl (Nat.le_of_ble_eq_true rfl) rfl (Nat.le_refl _) (Nat.le_refl _) hc k
theorem b_X7_first_32 {d : Nat} {Q : Option pV → pG → Prop} {g : pG} {v1 vs0 : Int} (hq : Q (some (vI vs0)) g) : EV d mX7_first Q 32 [vR 0, vI v1, vX 2, vX 2, vX 2] [vI vs0] g := by
  exact wp_iret dX7_first_32 rfl hq
theorem b_X7_first_33 {d : Nat} {Q : Option pV → pG → Prop} {g : pG} {v1 : Int} (k : EV d mX7_first Q 41 [vR 0, vI v1, vI 0, vI 1000000000, vI 0] [] g) : EV d mX7_first Q 33 [vR 0, vI v1, vX 2, vX 2, vX 2] [] g := by
  refine wp_iconst dX7_first_33 kc_0 ?_
  refine wp_istore_n dX7_first_34 (Nat.le_of_ble_eq_true rfl) (pp (c := 1) rfl rfl) ?_
  refine wp_ldc dX7_first_35 kl_7_241 ?_
  refine wp_istore_n dX7_first_37 (Nat.le_of_ble_eq_true rfl) (pp (c := 2) rfl rfl) ?_
  refine wp_iconst dX7_first_38 kc_0 ?_
  refine wp_istore dX7_first_39 (Nat.le_of_ble_eq_true rfl) (pp (c := 3) rfl rfl) ?_
  exact k
theorem b_X7_first_41 {d : Nat} {Q : Option pV → pG → Prop} {g : pG} {v1 v2 v3 v4 : Int} (k1 : (729 ≤ v4) → EV d mX7_first Q 144 [vR 0, vI v1, vI v2, vI v3, vI v4] [] g) (k2 : ¬ (729 ≤ v4) → EV d mX7_first Q 49 [vR 0, vI v1, vI v2, vI v3, vI v4] [] g) : EV d mX7_first Q 41 [vR 0, vI v1, vI v2, vI v3, vI v4] [] g := by
  refine wp_iload dX7_first_41 rfl ?_
  refine wp_sipush dX7_first_43 ks_729 kc_729 ?_
  exact wp_icmp_ge (tgt := 144) dX7_first_46 rfl k1 k2
theorem b_X7_first_49 {d : Nat} {Q : Option pV → pG → Prop} {g : pG} {v1 v2 v3 v4 : Int} {R : pG → Prop} (hc : CT d mX3_beThree [vR 29, vI v4, vI 4] g (qV R)) (k : ∀ gg : pG, R gg → EV d mX7_first Q 59 [vR 0, vI v1, vI v2, vI v3, vI v4] [] gg) : EV d mX7_first Q 49 [vR 0, vI v1, vI v2, vI v3, vI v4] [] g := by
  refine wp_aload_n dX7_first_49 rfl rfl ?_
  refine wp_get (v := vR 29) dX7_first_50 fl_7_58 L_0 rfl ?_
  refine wp_iload dX7_first_53 rfl ?_
  refine wp_iconst dX7_first_55 kc_4 ?_
  exact wp_callvV (As := [vI v4, vI 4]) dX7_first_56 ml_7_252 (by decide) rfl L_29 (by decide) rfl (Nat.le_of_ble_eq_true rfl) rfl (Nat.le_refl _) (Nat.le_refl _) hc k
theorem b_X7_first_59 {d : Nat} {Q : Option pV → pG → Prop} {g : pG} {v1 v2 v3 v4 : Int} {R : pG → Prop} (hc : CT d mX3_copyFrom [vR 27, vR 29] g (qV R)) (k : ∀ gg : pG, R gg → EV d mX7_first Q 70 [vR 0, vI v1, vI v2, vI v3, vI v4] [] gg) : EV d mX7_first Q 59 [vR 0, vI v1, vI v2, vI v3, vI v4] [] g := by
  refine wp_aload_n dX7_first_59 rfl rfl ?_
  refine wp_get (v := vR 27) dX7_first_60 fl_7_54 L_0 rfl ?_
  refine wp_aload_n dX7_first_63 rfl rfl ?_
  refine wp_get (v := vR 29) dX7_first_64 fl_7_58 L_0 rfl ?_
  exact wp_callvV (As := [vR 29]) dX7_first_67 ml_7_236 (by decide) rfl L_27 (by decide) rfl (Nat.le_of_ble_eq_true rfl) rfl (Nat.le_refl _) (Nat.le_refl _) hc k
theorem b_X7_first_70 {d : Nat} {Q : Option pV → pG → Prop} {g : pG} {v1 v2 v3 v4 : Int} {R : pG → Prop} (hc : CT d mX5_goDown [vR 1, vR 27, vI ((g 1) 3)] g (qV R)) (k : ∀ gg : pG, R gg → EV d mX7_first Q 88 [vR 0, vI v1, vI v2, vI v3, vI v4] [] gg) : EV d mX7_first Q 70 [vR 0, vI v1, vI v2, vI v3, vI v4] [] g := by
  refine wp_aload_n dX7_first_70 rfl rfl ?_
  refine wp_get (v := vR 1) dX7_first_71 fl_7_10 L_0 rfl ?_
  refine wp_aload_n dX7_first_74 rfl rfl ?_
  refine wp_get (v := vR 27) dX7_first_75 fl_7_54 L_0 rfl ?_
  refine wp_aload_n dX7_first_78 rfl rfl ?_
  refine wp_get (v := vR 1) dX7_first_79 fl_7_10 L_0 rfl ?_
  refine wp_get (v := vI ((g 1) 3)) dX7_first_82 fl_7_152 L_1 rfl ?_
  exact wp_callvV (As := [vR 27, vI ((g 1) 3)]) dX7_first_85 ml_7_269 (by decide) rfl L_1 (by decide) rfl (Nat.le_of_ble_eq_true rfl) rfl (Nat.le_refl _) (Nat.le_refl _) hc k
theorem b_X7_first_88 {d : Nat} {Q : Option pV → pG → Prop} {g : pG} {v1 v2 v3 v4 : Int} {R : Int → pG → Prop} (hc : CT d mX3_isAs [vR 27, vR 5] g (qI R)) (k : ∀ (x : Int) (gg : pG), R x gg → EV d mX7_first Q 102 [vR 0, vI v1, vI v2, vI v3, vI v4] [vI x] gg) : EV d mX7_first Q 88 [vR 0, vI v1, vI v2, vI v3, vI v4] [] g := by
  refine wp_aload_n dX7_first_88 rfl rfl ?_
  refine wp_get (v := vR 27) dX7_first_89 fl_7_54 L_0 rfl ?_
  refine wp_aload_n dX7_first_92 rfl rfl ?_
  refine wp_get (v := vR 1) dX7_first_93 fl_7_10 L_0 rfl ?_
  refine wp_get (v := vR 5) dX7_first_96 fl_7_118 L_1 rfl ?_
  exact wp_callvI (As := [vR 5]) dX7_first_99 ml_7_265 (by decide) rfl L_27 (by decide) rfl (Nat.le_of_ble_eq_true rfl) rfl (Nat.le_refl _) (Nat.le_refl _) hc k
theorem b_X7_first_102 {d : Nat} {Q : Option pV → pG → Prop} {g : pG} {v1 v2 v3 v4 vs0 : Int} (k1 : (vs0 = 0) → EV d mX7_first Q 138 [vR 0, vI v1, vI v2, vI v3, vI v4] [] g) (k2 : ¬ (vs0 = 0) → EV d mX7_first Q 105 [vR 0, vI v1, vI v2, vI v3, vI v4] [] g) : EV d mX7_first Q 102 [vR 0, vI v1, vI v2, vI v3, vI v4] [vI vs0] g := by
  exact wp_if_eq (tgt := 138) dX7_first_102 rfl k1 k2
theorem b_X7_first_105 {d : Nat} {Q : Option pV → pG → Prop} {g : pG} {v1 v2 v3 v4 : Int} {R : Int → pG → Prop} (hc : CT d mX3_sum [vR 29] g (qI R)) (k : ∀ (x : Int) (gg : pG), R x gg → EV d mX7_first Q 115 [vR 0, vI v1, vI (w32 (v2 + 1)), vI v3, vI v4] [vI x] gg) : EV d mX7_first Q 105 [vR 0, vI v1, vI v2, vI v3, vI v4] [] g := by
  refine wp_iinc dX7_first_105 rfl (Nat.le_of_ble_eq_true rfl) (pp (c := 1) rfl rfl) ?_
  refine wp_aload_n dX7_first_108 rfl rfl ?_
  refine wp_get (v := vR 29) dX7_first_109 fl_7_58 L_0 rfl ?_
  exact wp_callvI (As := []) dX7_first_112 ml_7_183 (by decide) rfl L_29 (by decide) rfl (Nat.le_of_ble_eq_true rfl) rfl (Nat.le_refl _) (Nat.le_refl _) hc k
theorem b_X7_first_115 {d : Nat} {Q : Option pV → pG → Prop} {g : pG} {v1 v2 v3 v4 vs0 : Int} (k1 : (v3 ≤ vs0) → EV d mX7_first Q 138 [vR 0, vI v1, vI v2, vI v3, vI v4] [] g) (k2 : ¬ (v3 ≤ vs0) → EV d mX7_first Q 119 [vR 0, vI v1, vI v2, vI v3, vI v4] [] g) : EV d mX7_first Q 115 [vR 0, vI v1, vI v2, vI v3, vI v4] [vI vs0] g := by
  refine wp_iload_n dX7_first_115 rfl ?_
  exact wp_icmp_ge (tgt := 138) dX7_first_116 rfl k1 k2
theorem b_X7_first_119 {d : Nat} {Q : Option pV → pG → Prop} {g : pG} {v1 v2 v3 v4 : Int} {R : Int → pG → Prop} (hc : CT d mX3_sum [vR 29] g (qI R)) (k : ∀ (x : Int) (gg : pG), R x gg → EV d mX7_first Q 126 [vR 0, vI v1, vI v2, vI v3, vI v4] [vI x] gg) : EV d mX7_first Q 119 [vR 0, vI v1, vI v2, vI v3, vI v4] [] g := by
  refine wp_aload_n dX7_first_119 rfl rfl ?_
  refine wp_get (v := vR 29) dX7_first_120 fl_7_58 L_0 rfl ?_
  exact wp_callvI (As := []) dX7_first_123 ml_7_183 (by decide) rfl L_29 (by decide) rfl (Nat.le_of_ble_eq_true rfl) rfl (Nat.le_refl _) (Nat.le_refl _) hc k
theorem b_X7_first_126 {d : Nat} {Q : Option pV → pG → Prop} {g : pG} {v1 v2 v3 v4 vs0 : Int} {R : pG → Prop} (hc : CT d mX3_copyFrom [vR 31, vR 29] g (qV R)) (k : ∀ gg : pG, R gg → EV d mX7_first Q 138 [vR 0, vI v1, vI v2, vI vs0, vI v4] [] gg) : EV d mX7_first Q 126 [vR 0, vI v1, vI v2, vI v3, vI v4] [vI vs0] g := by
  refine wp_istore_n dX7_first_126 (Nat.le_of_ble_eq_true rfl) (pp (c := 2) rfl rfl) ?_
  refine wp_aload_n dX7_first_127 rfl rfl ?_
  refine wp_get (v := vR 31) dX7_first_128 fl_7_61 L_0 rfl ?_
  refine wp_aload_n dX7_first_131 rfl rfl ?_
  refine wp_get (v := vR 29) dX7_first_132 fl_7_58 L_0 rfl ?_
  exact wp_callvV (As := [vR 29]) dX7_first_135 ml_7_236 (by decide) rfl L_31 (by decide) rfl (Nat.le_of_ble_eq_true rfl) rfl (Nat.le_refl _) (Nat.le_refl _) hc k
theorem b_X7_first_138 {d : Nat} {Q : Option pV → pG → Prop} {g : pG} {v1 v2 v3 v4 : Int} (k : EV d mX7_first Q 41 [vR 0, vI v1, vI v2, vI v3, vI (w32 (v4 + 1))] [] g) : EV d mX7_first Q 138 [vR 0, vI v1, vI v2, vI v3, vI v4] [] g := by
  refine wp_iinc dX7_first_138 rfl (Nat.le_of_ble_eq_true rfl) (pp (c := 3) rfl rfl) ?_
  refine wp_goto (tgt := 41) dX7_first_141 rfl ?_
  exact k
theorem b_X7_first_144 {d : Nat} {Q : Option pV → pG → Prop} {g : pG} {v1 v2 v3 v4 : Int} (k1 : (v1 ≠ (-1)) → EV d mX7_first Q 151 [vR 0, vI v1, vI v2, vI v3, vI v4] [] g) (k2 : ¬ (v1 ≠ (-1)) → EV d mX7_first Q 149 [vR 0, vI v1, vI v2, vI v3, vI v4] [] g) : EV d mX7_first Q 144 [vR 0, vI v1, vI v2, vI v3, vI v4] [] g := by
  refine wp_iload_n dX7_first_144 rfl ?_
  refine wp_iconst dX7_first_145 kc_m1 ?_
  exact wp_icmp_ne (tgt := 151) dX7_first_146 rfl k1 k2
theorem b_X7_first_149 {d : Nat} {Q : Option pV → pG → Prop} {g : pG} {v1 v2 v3 v4 : Int} (hq : Q (some (vI v2)) g) : EV d mX7_first Q 149 [vR 0, vI v1, vI v2, vI v3, vI v4] [] g := by
  refine wp_iload_n dX7_first_149 rfl ?_
  exact wp_iret dX7_first_150 rfl hq
theorem b_X7_first_151 {d : Nat} {Q : Option pV → pG → Prop} {g : pG} {v1 v2 v3 v4 : Int} (k1 : (v2 = 0) → EV d mX7_first Q 160 [vR 0, vI v1, vI v2, vI v3, vI v4] [] g) (k2 : ¬ (v2 = 0) → EV d mX7_first Q 155 [vR 0, vI v1, vI v2, vI v3, vI v4] [] g) : EV d mX7_first Q 151 [vR 0, vI v1, vI v2, vI v3, vI v4] [] g := by
  refine wp_iload_n dX7_first_151 rfl ?_
  exact wp_if_eq (tgt := 160) dX7_first_152 rfl k1 k2
theorem b_X7_first_155 {d : Nat} {Q : Option pV → pG → Prop} {g : pG} {v1 v2 v3 v4 : Int} (k1 : (v1 ≤ 2) → EV d mX7_first Q 165 [vR 0, vI v1, vI v2, vI v3, vI v4] [] g) (k2 : ¬ (v1 ≤ 2) → EV d mX7_first Q 160 [vR 0, vI v1, vI v2, vI v3, vI v4] [] g) : EV d mX7_first Q 155 [vR 0, vI v1, vI v2, vI v3, vI v4] [] g := by
  refine wp_iload_n dX7_first_155 rfl ?_
  refine wp_iconst dX7_first_156 kc_2 ?_
  exact wp_icmp_le (tgt := 165) dX7_first_157 rfl k1 k2
theorem b_X7_first_160 {d : Nat} {Q : Option pV → pG → Prop} {g : pG} {v1 v2 v3 v4 : Int} (hq : Q (some (vI (-9))) g) : EV d mX7_first Q 160 [vR 0, vI v1, vI v2, vI v3, vI v4] [] g := by
  refine wp_bipush dX7_first_160 kb_m9 kc_m9 ?_
  refine wp_goto (tgt := 173) dX7_first_162 rfl ?_
  exact wp_iret dX7_first_173 rfl hq
theorem b_X7_first_165 {d : Nat} {Q : Option pV → pG → Prop} {g : pG} {v1 v2 v3 v4 : Int} {R : Int → pG → Prop} (hc : CT d mX3_number [vR 31, vI v1] g (qI R)) (k : ∀ (x : Int) (gg : pG), R x gg → EV d mX7_first Q 173 [vR 0, vI v1, vI v2, vI v3, vI v4] [vI x] gg) : EV d mX7_first Q 165 [vR 0, vI v1, vI v2, vI v3, vI v4] [] g := by
  refine wp_aload_n dX7_first_165 rfl rfl ?_
  refine wp_get (v := vR 31) dX7_first_166 fl_7_61 L_0 rfl ?_
  refine wp_iload_n dX7_first_169 rfl ?_
  exact wp_callvI (As := [vI v1]) dX7_first_170 ml_7_131 (by decide) rfl L_31 (by decide) rfl (Nat.le_of_ble_eq_true rfl) rfl (Nat.le_refl _) (Nat.le_refl _) hc k
theorem b_X7_first_173 {d : Nat} {Q : Option pV → pG → Prop} {g : pG} {v1 v2 v3 v4 vs0 : Int} (hq : Q (some (vI vs0)) g) : EV d mX7_first Q 173 [vR 0, vI v1, vI v2, vI v3, vI v4] [vI vs0] g := by
  exact wp_iret dX7_first_173 rfl hq
theorem b_X7_apart_0 {d : Nat} {Q : Option pV → pG → Prop} {g : pG} {v1 v2 v3 : Int} {R : Int → pG → Prop} (hc : CT d mX7_isKind [vI v1] g (qI R)) (k : ∀ (x : Int) (gg : pG), R x gg → EV d mX7_apart Q 4 [vR 0, vI v1, vI v2, vI v3, vX 2, vX 2] [vI x] gg) : EV d mX7_apart Q 0 [vR 0, vI v1, vI v2, vI v3, vX 2, vX 2] [] g := by
  refine wp_iload_n dX7_apart_0 rfl ?_
  exact wp_callsI (As := [vI v1]) dX7_apart_1 ml_7_142 (Or.inl rfl) rfl (Nat.le_of_ble_eq_true rfl) rfl (Nat.le_refl _) (Nat.le_refl _) hc k
theorem b_X7_apart_4 {d : Nat} {Q : Option pV → pG → Prop} {g : pG} {v1 v2 v3 vs0 : Int} (k1 : (vs0 = 0) → EV d mX7_apart Q 14 [vR 0, vI v1, vI v2, vI v3, vX 2, vX 2] [] g) (k2 : ¬ (vs0 = 0) → EV d mX7_apart Q 7 [vR 0, vI v1, vI v2, vI v3, vX 2, vX 2] [] g) : EV d mX7_apart Q 4 [vR 0, vI v1, vI v2, vI v3, vX 2, vX 2] [vI vs0] g := by
  exact wp_if_eq (tgt := 14) dX7_apart_4 rfl k1 k2
theorem b_X7_apart_7 {d : Nat} {Q : Option pV → pG → Prop} {g : pG} {v1 v2 v3 : Int} {R : Int → pG → Prop} (hc : CT d mX7_isKind [vI v2] g (qI R)) (k : ∀ (x : Int) (gg : pG), R x gg → EV d mX7_apart Q 11 [vR 0, vI v1, vI v2, vI v3, vX 2, vX 2] [vI x] gg) : EV d mX7_apart Q 7 [vR 0, vI v1, vI v2, vI v3, vX 2, vX 2] [] g := by
  refine wp_iload_n dX7_apart_7 rfl ?_
  exact wp_callsI (As := [vI v2]) dX7_apart_8 ml_7_142 (Or.inl rfl) rfl (Nat.le_of_ble_eq_true rfl) rfl (Nat.le_refl _) (Nat.le_refl _) hc k
theorem b_X7_apart_11 {d : Nat} {Q : Option pV → pG → Prop} {g : pG} {v1 v2 v3 vs0 : Int} (k1 : (vs0 ≠ 0) → EV d mX7_apart Q 21 [vR 0, vI v1, vI v2, vI v3, vX 2, vX 2] [] g) (k2 : ¬ (vs0 ≠ 0) → EV d mX7_apart Q 14 [vR 0, vI v1, vI v2, vI v3, vX 2, vX 2] [] g) : EV d mX7_apart Q 11 [vR 0, vI v1, vI v2, vI v3, vX 2, vX 2] [vI vs0] g := by
  exact wp_if_ne (tgt := 21) dX7_apart_11 rfl k1 k2
theorem b_X7_apart_14 {d : Nat} {Q : Option pV → pG → Prop} {g : pG} {v1 v2 v3 : Int} {R : Int → pG → Prop} (hc : CT d mX7_refuse [vR 0, vI (-2)] g (qI R)) (k : ∀ (x : Int) (gg : pG), R x gg → EV d mX7_apart Q 20 [vR 0, vI v1, vI v2, vI v3, vX 2, vX 2] [vI x] gg) : EV d mX7_apart Q 14 [vR 0, vI v1, vI v2, vI v3, vX 2, vX 2] [] g := by
  refine wp_aload_n dX7_apart_14 rfl rfl ?_
  refine wp_bipush dX7_apart_15 kb_m2 kc_m2 ?_
  exact wp_callvI (As := [vI (-2)]) dX7_apart_17 ml_7_91 (by decide) rfl L_0 (by decide) rfl (Nat.le_of_ble_eq_true rfl) rfl (Nat.le_refl _) (Nat.le_refl _) hc k
theorem b_X7_apart_20 {d : Nat} {Q : Option pV → pG → Prop} {g : pG} {v1 v2 v3 vs0 : Int} (hq : Q (some (vI vs0)) g) : EV d mX7_apart Q 20 [vR 0, vI v1, vI v2, vI v3, vX 2, vX 2] [vI vs0] g := by
  exact wp_iret dX7_apart_20 rfl hq
theorem b_X7_apart_21 {d : Nat} {Q : Option pV → pG → Prop} {g : pG} {v1 v2 v3 : Int} {R : Int → pG → Prop} (hc : CT d mX7_outside [vI v3, vI 0, vI 9] g (qI R)) (k : ∀ (x : Int) (gg : pG), R x gg → EV d mX7_apart Q 28 [vR 0, vI v1, vI v2, vI v3, vX 2, vX 2] [vI x] gg) : EV d mX7_apart Q 21 [vR 0, vI v1, vI v2, vI v3, vX 2, vX 2] [] g := by
  refine wp_iload_n dX7_apart_21 rfl ?_
  refine wp_iconst dX7_apart_22 kc_0 ?_
  refine wp_bipush dX7_apart_23 kb_9 kc_9 ?_
  exact wp_callsI (As := [vI v3, vI 0, vI 9]) dX7_apart_25 ml_7_127 (Or.inl rfl) rfl (Nat.le_of_ble_eq_true rfl) rfl (Nat.le_refl _) (Nat.le_refl _) hc k
theorem b_X7_apart_28 {d : Nat} {Q : Option pV → pG → Prop} {g : pG} {v1 v2 v3 vs0 : Int} (k1 : (vs0 = 0) → EV d mX7_apart Q 42 [vR 0, vI v1, vI v2, vI v3, vI vs0, vX 2] [] g) (k2 : ¬ (vs0 = 0) → EV d mX7_apart Q 35 [vR 0, vI v1, vI v2, vI v3, vI vs0, vX 2] [] g) : EV d mX7_apart Q 28 [vR 0, vI v1, vI v2, vI v3, vX 2, vX 2] [vI vs0] g := by
  refine wp_istore dX7_apart_28 (Nat.le_of_ble_eq_true rfl) (pp (c := 3) rfl rfl) ?_
  refine wp_iload dX7_apart_30 rfl ?_
  exact wp_if_eq (tgt := 42) dX7_apart_32 rfl k1 k2
theorem b_X7_apart_35 {d : Nat} {Q : Option pV → pG → Prop} {g : pG} {v1 v2 v3 v4 : Int} {R : Int → pG → Prop} (hc : CT d mX7_refuse [vR 0, vI v4] g (qI R)) (k : ∀ (x : Int) (gg : pG), R x gg → EV d mX7_apart Q 41 [vR 0, vI v1, vI v2, vI v3, vI v4, vX 2] [vI x] gg) : EV d mX7_apart Q 35 [vR 0, vI v1, vI v2, vI v3, vI v4, vX 2] [] g := by
  refine wp_aload_n dX7_apart_35 rfl rfl ?_
  refine wp_iload dX7_apart_36 rfl ?_
  exact wp_callvI (As := [vI v4]) dX7_apart_38 ml_7_91 (by decide) rfl L_0 (by decide) rfl (Nat.le_of_ble_eq_true rfl) rfl (Nat.le_refl _) (Nat.le_refl _) hc k
theorem b_X7_apart_41 {d : Nat} {Q : Option pV → pG → Prop} {g : pG} {v1 v2 v3 v4 vs0 : Int} (hq : Q (some (vI vs0)) g) : EV d mX7_apart Q 41 [vR 0, vI v1, vI v2, vI v3, vI v4, vX 2] [vI vs0] g := by
  exact wp_iret dX7_apart_41 rfl hq
theorem b_X7_apart_42 {d : Nat} {Q : Option pV → pG → Prop} {g : pG} {v1 v2 v3 v4 : Int} (k : EV d mX7_apart Q 45 [vR 0, vI v1, vI v2, vI v3, vI v4, vI 0] [] g) : EV d mX7_apart Q 42 [vR 0, vI v1, vI v2, vI v3, vI v4, vX 2] [] g := by
  refine wp_iconst dX7_apart_42 kc_0 ?_
  refine wp_istore dX7_apart_43 (Nat.le_of_ble_eq_true rfl) (pp (c := 4) rfl rfl) ?_
  exact k
theorem b_X7_apart_45 {d : Nat} {Q : Option pV → pG → Prop} {g : pG} {v1 v2 v3 v4 v5 : Int} (k1 : (729 ≤ v5) → EV d mX7_apart Q 115 [vR 0, vI v1, vI v2, vI v3, vI v4, vI v5] [] g) (k2 : ¬ (729 ≤ v5) → EV d mX7_apart Q 53 [vR 0, vI v1, vI v2, vI v3, vI v4, vI v5] [] g) : EV d mX7_apart Q 45 [vR 0, vI v1, vI v2, vI v3, vI v4, vI v5] [] g := by
  refine wp_iload dX7_apart_45 rfl ?_
  refine wp_sipush dX7_apart_47 ks_729 kc_729 ?_
  exact wp_icmp_ge (tgt := 115) dX7_apart_50 rfl k1 k2
theorem b_X7_apart_53 {d : Nat} {Q : Option pV → pG → Prop} {g : pG} {v1 v2 v3 v4 v5 : Int} {R : pG → Prop} (hc : CT d mX3_beThree [vR 27, vI v5, vI 4] g (qV R)) (k : ∀ gg : pG, R gg → EV d mX7_apart Q 63 [vR 0, vI v1, vI v2, vI v3, vI v4, vI v5] [] gg) : EV d mX7_apart Q 53 [vR 0, vI v1, vI v2, vI v3, vI v4, vI v5] [] g := by
  refine wp_aload_n dX7_apart_53 rfl rfl ?_
  refine wp_get (v := vR 27) dX7_apart_54 fl_7_54 L_0 rfl ?_
  refine wp_iload dX7_apart_57 rfl ?_
  refine wp_iconst dX7_apart_59 kc_4 ?_
  exact wp_callvV (As := [vI v5, vI 4]) dX7_apart_60 ml_7_252 (by decide) rfl L_27 (by decide) rfl (Nat.le_of_ble_eq_true rfl) rfl (Nat.le_refl _) (Nat.le_refl _) hc k
theorem b_X7_apart_63 {d : Nat} {Q : Option pV → pG → Prop} {g : pG} {v1 v2 v3 v4 v5 : Int} {R : pG → Prop} (hc : CT d mX3_copyFrom [vR 29, vR 27] g (qV R)) (k : ∀ gg : pG, R gg → EV d mX7_apart Q 74 [vR 0, vI v1, vI v2, vI v3, vI v4, vI v5] [] gg) : EV d mX7_apart Q 63 [vR 0, vI v1, vI v2, vI v3, vI v4, vI v5] [] g := by
  refine wp_aload_n dX7_apart_63 rfl rfl ?_
  refine wp_get (v := vR 29) dX7_apart_64 fl_7_58 L_0 rfl ?_
  refine wp_aload_n dX7_apart_67 rfl rfl ?_
  refine wp_get (v := vR 27) dX7_apart_68 fl_7_54 L_0 rfl ?_
  exact wp_callvV (As := [vR 27]) dX7_apart_71 ml_7_236 (by decide) rfl L_29 (by decide) rfl (Nat.le_of_ble_eq_true rfl) rfl (Nat.le_refl _) (Nat.le_refl _) hc k
theorem b_X7_apart_74 {d : Nat} {Q : Option pV → pG → Prop} {g : pG} {v1 v2 v3 v4 v5 : Int} {R : pG → Prop} (hc : CT d mX3_suffer [vR 27, vI v1, vI v3] g (qV R)) (k : ∀ gg : pG, R gg → EV d mX7_apart Q 83 [vR 0, vI v1, vI v2, vI v3, vI v4, vI v5] [] gg) : EV d mX7_apart Q 74 [vR 0, vI v1, vI v2, vI v3, vI v4, vI v5] [] g := by
  refine wp_aload_n dX7_apart_74 rfl rfl ?_
  refine wp_get (v := vR 27) dX7_apart_75 fl_7_54 L_0 rfl ?_
  refine wp_iload_n dX7_apart_78 rfl ?_
  refine wp_iload_n dX7_apart_79 rfl ?_
  exact wp_callvV (As := [vI v1, vI v3]) dX7_apart_80 ml_7_262 (by decide) rfl L_27 (by decide) rfl (Nat.le_of_ble_eq_true rfl) rfl (Nat.le_refl _) (Nat.le_refl _) hc k
theorem b_X7_apart_83 {d : Nat} {Q : Option pV → pG → Prop} {g : pG} {v1 v2 v3 v4 v5 : Int} {R : pG → Prop} (hc : CT d mX3_suffer [vR 29, vI v2, vI v3] g (qV R)) (k : ∀ gg : pG, R gg → EV d mX7_apart Q 92 [vR 0, vI v1, vI v2, vI v3, vI v4, vI v5] [] gg) : EV d mX7_apart Q 83 [vR 0, vI v1, vI v2, vI v3, vI v4, vI v5] [] g := by
  refine wp_aload_n dX7_apart_83 rfl rfl ?_
  refine wp_get (v := vR 29) dX7_apart_84 fl_7_58 L_0 rfl ?_
  refine wp_iload_n dX7_apart_87 rfl ?_
  refine wp_iload_n dX7_apart_88 rfl ?_
  exact wp_callvV (As := [vI v2, vI v3]) dX7_apart_89 ml_7_262 (by decide) rfl L_29 (by decide) rfl (Nat.le_of_ble_eq_true rfl) rfl (Nat.le_refl _) (Nat.le_refl _) hc k
theorem b_X7_apart_92 {d : Nat} {Q : Option pV → pG → Prop} {g : pG} {v1 v2 v3 v4 v5 : Int} {R : Int → pG → Prop} (hc : CT d mX3_isAs [vR 27, vR 29] g (qI R)) (k : ∀ (x : Int) (gg : pG), R x gg → EV d mX7_apart Q 103 [vR 0, vI v1, vI v2, vI v3, vI v4, vI v5] [vI x] gg) : EV d mX7_apart Q 92 [vR 0, vI v1, vI v2, vI v3, vI v4, vI v5] [] g := by
  refine wp_aload_n dX7_apart_92 rfl rfl ?_
  refine wp_get (v := vR 27) dX7_apart_93 fl_7_54 L_0 rfl ?_
  refine wp_aload_n dX7_apart_96 rfl rfl ?_
  refine wp_get (v := vR 29) dX7_apart_97 fl_7_58 L_0 rfl ?_
  exact wp_callvI (As := [vR 29]) dX7_apart_100 ml_7_265 (by decide) rfl L_27 (by decide) rfl (Nat.le_of_ble_eq_true rfl) rfl (Nat.le_refl _) (Nat.le_refl _) hc k
theorem b_X7_apart_103 {d : Nat} {Q : Option pV → pG → Prop} {g : pG} {v1 v2 v3 v4 v5 vs0 : Int} (k1 : (vs0 ≠ 0) → EV d mX7_apart Q 109 [vR 0, vI v1, vI v2, vI v3, vI v4, vI v5] [] g) (k2 : ¬ (vs0 ≠ 0) → EV d mX7_apart Q 106 [vR 0, vI v1, vI v2, vI v3, vI v4, vI v5] [] g) : EV d mX7_apart Q 103 [vR 0, vI v1, vI v2, vI v3, vI v4, vI v5] [vI vs0] g := by
  exact wp_if_ne (tgt := 109) dX7_apart_103 rfl k1 k2
theorem b_X7_apart_106 {d : Nat} {Q : Option pV → pG → Prop} {g : pG} {v1 v2 v3 v4 v5 : Int} (hq : Q (some (vI v5)) g) : EV d mX7_apart Q 106 [vR 0, vI v1, vI v2, vI v3, vI v4, vI v5] [] g := by
  refine wp_iload dX7_apart_106 rfl ?_
  exact wp_iret dX7_apart_108 rfl hq
theorem b_X7_apart_109 {d : Nat} {Q : Option pV → pG → Prop} {g : pG} {v1 v2 v3 v4 v5 : Int} (k : EV d mX7_apart Q 45 [vR 0, vI v1, vI v2, vI v3, vI v4, vI (w32 (v5 + 1))] [] g) : EV d mX7_apart Q 109 [vR 0, vI v1, vI v2, vI v3, vI v4, vI v5] [] g := by
  refine wp_iinc dX7_apart_109 rfl (Nat.le_of_ble_eq_true rfl) (pp (c := 4) rfl rfl) ?_
  refine wp_goto (tgt := 45) dX7_apart_112 rfl ?_
  exact k
theorem b_X7_apart_115 {d : Nat} {Q : Option pV → pG → Prop} {g : pG} {v1 v2 v3 v4 v5 : Int} (hq : Q (some (vI (-9))) g) : EV d mX7_apart Q 115 [vR 0, vI v1, vI v2, vI v3, vI v4, vI v5] [] g := by
  refine wp_bipush dX7_apart_115 kb_m9 kc_m9 ?_
  exact wp_iret dX7_apart_117 rfl hq
theorem b_X7_treaty_0 {d : Nat} {Q : Option pV → pG → Prop} {g : pG} {v1 v2 : Int} (k1 : ((g 1) 3 ≠ 0) → EV d mX7_treaty Q 17 [vR 0, vI v1, vI v2, vX 2] [] g) (k2 : ¬ ((g 1) 3 ≠ 0) → EV d mX7_treaty Q 10 [vR 0, vI v1, vI v2, vX 2] [] g) : EV d mX7_treaty Q 0 [vR 0, vI v1, vI v2, vX 2] [] g := by
  refine wp_aload_n dX7_treaty_0 rfl rfl ?_
  refine wp_get (v := vR 1) dX7_treaty_1 fl_7_10 L_0 rfl ?_
  refine wp_get (v := vI ((g 1) 3)) dX7_treaty_4 fl_7_152 L_1 rfl ?_
  exact wp_if_ne (tgt := 17) dX7_treaty_7 rfl k1 k2
theorem b_X7_treaty_10 {d : Nat} {Q : Option pV → pG → Prop} {g : pG} {v1 v2 : Int} {R : Int → pG → Prop} (hc : CT d mX7_refuse [vR 0, vI (-3)] g (qI R)) (k : ∀ (x : Int) (gg : pG), R x gg → EV d mX7_treaty Q 16 [vR 0, vI v1, vI v2, vX 2] [vI x] gg) : EV d mX7_treaty Q 10 [vR 0, vI v1, vI v2, vX 2] [] g := by
  refine wp_aload_n dX7_treaty_10 rfl rfl ?_
  refine wp_bipush dX7_treaty_11 kb_m3 kc_m3 ?_
  exact wp_callvI (As := [vI (-3)]) dX7_treaty_13 ml_7_91 (by decide) rfl L_0 (by decide) rfl (Nat.le_of_ble_eq_true rfl) rfl (Nat.le_refl _) (Nat.le_refl _) hc k
theorem b_X7_treaty_16 {d : Nat} {Q : Option pV → pG → Prop} {g : pG} {v1 v2 vs0 : Int} (hq : Q (some (vI vs0)) g) : EV d mX7_treaty Q 16 [vR 0, vI v1, vI v2, vX 2] [vI vs0] g := by
  exact wp_iret dX7_treaty_16 rfl hq
theorem b_X7_treaty_17 {d : Nat} {Q : Option pV → pG → Prop} {g : pG} {v1 v2 : Int} {R : Int → pG → Prop} (hc : CT d mX7_outside [vI v1, vI 0, vI (w32 (((g 1) 3) - 1))] g (qI R)) (k : ∀ (x : Int) (gg : pG), R x gg → EV d mX7_treaty Q 31 [vR 0, vI v1, vI v2, vX 2] [vI x] gg) : EV d mX7_treaty Q 17 [vR 0, vI v1, vI v2, vX 2] [] g := by
  refine wp_iload_n dX7_treaty_17 rfl ?_
  refine wp_iconst dX7_treaty_18 kc_0 ?_
  refine wp_aload_n dX7_treaty_19 rfl rfl ?_
  refine wp_get (v := vR 1) dX7_treaty_20 fl_7_10 L_0 rfl ?_
  refine wp_get (v := vI ((g 1) 3)) dX7_treaty_23 fl_7_152 L_1 rfl ?_
  refine wp_iconst dX7_treaty_26 kc_1 ?_
  refine wp_isub dX7_treaty_27 ?_
  exact wp_callsI (As := [vI v1, vI 0, vI (w32 (((g 1) 3) - 1))]) dX7_treaty_28 ml_7_127 (Or.inl rfl) rfl (Nat.le_of_ble_eq_true rfl) rfl (Nat.le_refl _) (Nat.le_refl _) hc k
theorem b_X7_treaty_31 {d : Nat} {Q : Option pV → pG → Prop} {g : pG} {v1 v2 vs0 : Int} (k1 : (vs0 = 0) → EV d mX7_treaty Q 42 [vR 0, vI v1, vI v2, vI vs0] [] g) (k2 : ¬ (vs0 = 0) → EV d mX7_treaty Q 36 [vR 0, vI v1, vI v2, vI vs0] [] g) : EV d mX7_treaty Q 31 [vR 0, vI v1, vI v2, vX 2] [vI vs0] g := by
  refine wp_istore_n dX7_treaty_31 (Nat.le_of_ble_eq_true rfl) (pp (c := 2) rfl rfl) ?_
  refine wp_iload_n dX7_treaty_32 rfl ?_
  exact wp_if_eq (tgt := 42) dX7_treaty_33 rfl k1 k2
theorem b_X7_treaty_36 {d : Nat} {Q : Option pV → pG → Prop} {g : pG} {v1 v2 v3 : Int} {R : Int → pG → Prop} (hc : CT d mX7_refuse [vR 0, vI v3] g (qI R)) (k : ∀ (x : Int) (gg : pG), R x gg → EV d mX7_treaty Q 41 [vR 0, vI v1, vI v2, vI v3] [vI x] gg) : EV d mX7_treaty Q 36 [vR 0, vI v1, vI v2, vI v3] [] g := by
  refine wp_aload_n dX7_treaty_36 rfl rfl ?_
  refine wp_iload_n dX7_treaty_37 rfl ?_
  exact wp_callvI (As := [vI v3]) dX7_treaty_38 ml_7_91 (by decide) rfl L_0 (by decide) rfl (Nat.le_of_ble_eq_true rfl) rfl (Nat.le_refl _) (Nat.le_refl _) hc k
theorem b_X7_treaty_41 {d : Nat} {Q : Option pV → pG → Prop} {g : pG} {v1 v2 v3 vs0 : Int} (hq : Q (some (vI vs0)) g) : EV d mX7_treaty Q 41 [vR 0, vI v1, vI v2, vI v3] [vI vs0] g := by
  exact wp_iret dX7_treaty_41 rfl hq
theorem b_X7_treaty_42 {d : Nat} {Q : Option pV → pG → Prop} {g : pG} {v1 v2 v3 : Int} (k1 : (v2 < 0) → EV d mX7_treaty Q 51 [vR 0, vI v1, vI v2, vI v3] [] g) (k2 : ¬ (v2 < 0) → EV d mX7_treaty Q 46 [vR 0, vI v1, vI v2, vI v3] [] g) : EV d mX7_treaty Q 42 [vR 0, vI v1, vI v2, vI v3] [] g := by
  refine wp_iload_n dX7_treaty_42 rfl ?_
  exact wp_if_lt (tgt := 51) dX7_treaty_43 rfl k1 k2
theorem b_X7_treaty_46 {d : Nat} {Q : Option pV → pG → Prop} {g : pG} {v1 v2 v3 : Int} (k1 : (v2 ≤ 1) → EV d mX7_treaty Q 58 [vR 0, vI v1, vI v2, vI v3] [] g) (k2 : ¬ (v2 ≤ 1) → EV d mX7_treaty Q 51 [vR 0, vI v1, vI v2, vI v3] [] g) : EV d mX7_treaty Q 46 [vR 0, vI v1, vI v2, vI v3] [] g := by
  refine wp_iload_n dX7_treaty_46 rfl ?_
  refine wp_iconst dX7_treaty_47 kc_1 ?_
  exact wp_icmp_le (tgt := 58) dX7_treaty_48 rfl k1 k2
theorem b_X7_treaty_51 {d : Nat} {Q : Option pV → pG → Prop} {g : pG} {v1 v2 v3 : Int} {R : Int → pG → Prop} (hc : CT d mX7_refuse [vR 0, vI (-2)] g (qI R)) (k : ∀ (x : Int) (gg : pG), R x gg → EV d mX7_treaty Q 57 [vR 0, vI v1, vI v2, vI v3] [vI x] gg) : EV d mX7_treaty Q 51 [vR 0, vI v1, vI v2, vI v3] [] g := by
  refine wp_aload_n dX7_treaty_51 rfl rfl ?_
  refine wp_bipush dX7_treaty_52 kb_m2 kc_m2 ?_
  exact wp_callvI (As := [vI (-2)]) dX7_treaty_54 ml_7_91 (by decide) rfl L_0 (by decide) rfl (Nat.le_of_ble_eq_true rfl) rfl (Nat.le_refl _) (Nat.le_refl _) hc k
theorem b_X7_treaty_57 {d : Nat} {Q : Option pV → pG → Prop} {g : pG} {v1 v2 v3 vs0 : Int} (hq : Q (some (vI vs0)) g) : EV d mX7_treaty Q 57 [vR 0, vI v1, vI v2, vI v3] [vI vs0] g := by
  exact wp_iret dX7_treaty_57 rfl hq
theorem b_X7_treaty_58 {d : Nat} {Q : Option pV → pG → Prop} {g : pG} {v1 v2 v3 : Int} {R : pG → Prop} (hc : CT d mX6_weigh [vR 33, vR 1, vR 27] g (qV R)) (k : ∀ gg : pG, R gg → EV d mX7_treaty Q 73 [vR 0, vI v1, vI v2, vI v3] [] gg) : EV d mX7_treaty Q 58 [vR 0, vI v1, vI v2, vI v3] [] g := by
  refine wp_aload_n dX7_treaty_58 rfl rfl ?_
  refine wp_get (v := vR 33) dX7_treaty_59 fl_7_67 L_0 rfl ?_
  refine wp_aload_n dX7_treaty_62 rfl rfl ?_
  refine wp_get (v := vR 1) dX7_treaty_63 fl_7_10 L_0 rfl ?_
  refine wp_aload_n dX7_treaty_66 rfl rfl ?_
  refine wp_get (v := vR 27) dX7_treaty_67 fl_7_54 L_0 rfl ?_
  exact wp_callvV (As := [vR 1, vR 27]) dX7_treaty_70 ml_7_211 (by decide) rfl L_33 (by decide) rfl (Nat.le_of_ble_eq_true rfl) rfl (Nat.le_refl _) (Nat.le_refl _) hc k
theorem b_X7_treaty_73 {d : Nat} {Q : Option pV → pG → Prop} {g : pG} {v1 v2 v3 : Int} (k1 : (v2 ≠ 0) → EV d mX7_treaty Q 99 [vR 0, vI v1, vI v2, vI v3] [] g) (k2 : ¬ (v2 ≠ 0) → EV d mX7_treaty Q 77 [vR 0, vI v1, vI v2, vI v3] [] g) : EV d mX7_treaty Q 73 [vR 0, vI v1, vI v2, vI v3] [] g := by
  refine wp_iload_n dX7_treaty_73 rfl ?_
  exact wp_if_ne (tgt := 99) dX7_treaty_74 rfl k1 k2
theorem b_X7_treaty_77 {d : Nat} {Q : Option pV → pG → Prop} {g : pG} {v1 v2 v3 : Int} (h1 : 0 ≤ v1) (h2 : v1 < 7) (hq : Q (some (vI (w32 (((g 37) v1.toNat) + ((g 38) v1.toNat))))) g) : EV d mX7_treaty Q 77 [vR 0, vI v1, vI v2, vI v3] [] g := by
  refine wp_aload_n dX7_treaty_77 rfl rfl ?_
  refine wp_get (v := vR 33) dX7_treaty_78 fl_7_67 L_0 rfl ?_
  refine wp_get (v := vR 37) dX7_treaty_81 fl_7_222 L_33 rfl ?_
  refine wp_iload_n dX7_treaty_84 rfl ?_
  refine wp_iaload dX7_treaty_85 h1 L_37 h2 ?_
  refine wp_aload_n dX7_treaty_86 rfl rfl ?_
  refine wp_get (v := vR 33) dX7_treaty_87 fl_7_67 L_0 rfl ?_
  refine wp_get (v := vR 38) dX7_treaty_90 fl_7_225 L_33 rfl ?_
  refine wp_iload_n dX7_treaty_93 rfl ?_
  refine wp_iaload dX7_treaty_94 h1 L_38 h2 ?_
  refine wp_iadd dX7_treaty_95 ?_
  refine wp_goto (tgt := 111) dX7_treaty_96 rfl ?_
  exact wp_iret dX7_treaty_111 rfl hq
theorem b_X7_treaty_99 {d : Nat} {Q : Option pV → pG → Prop} {g : pG} {v1 v2 v3 : Int} {R : Int → pG → Prop} (h1 : 0 ≤ v1) (h2 : v1 < 7) (hc : CT d mX7_bit [vI ((g 35) v1.toNat)] g (qI R)) (k : ∀ (x : Int) (gg : pG), R x gg → EV d mX7_treaty Q 111 [vR 0, vI v1, vI v2, vI v3] [vI x] gg) : EV d mX7_treaty Q 99 [vR 0, vI v1, vI v2, vI v3] [] g := by
  refine wp_aload_n dX7_treaty_99 rfl rfl ?_
  refine wp_get (v := vR 33) dX7_treaty_100 fl_7_67 L_0 rfl ?_
  refine wp_get (v := vR 35) dX7_treaty_103 fl_7_273 L_33 rfl ?_
  refine wp_iload_n dX7_treaty_106 rfl ?_
  refine wp_baload dX7_treaty_107 h1 L_35 h2 ?_
  exact wp_callsI (As := [vI ((g 35) v1.toNat)]) dX7_treaty_108 ml_7_179 (Or.inl rfl) rfl (Nat.le_of_ble_eq_true rfl) rfl (Nat.le_refl _) (Nat.le_refl _) hc k
theorem b_X7_treaty_111 {d : Nat} {Q : Option pV → pG → Prop} {g : pG} {v1 v2 v3 vs0 : Int} (hq : Q (some (vI vs0)) g) : EV d mX7_treaty Q 111 [vR 0, vI v1, vI v2, vI v3] [vI vs0] g := by
  exact wp_iret dX7_treaty_111 rfl hq
theorem b_X7_share_0 {d : Nat} {Q : Option pV → pG → Prop} {g : pG} {v1 : Int} {R : Int → pG → Prop} (hc : CT d mX5_hasCourt [vR 1, vI v1] g (qI R)) (k : ∀ (x : Int) (gg : pG), R x gg → EV d mX7_share Q 8 [vR 0, vI v1] [vI x] gg) : EV d mX7_share Q 0 [vR 0, vI v1] [] g := by
  refine wp_aload_n dX7_share_0 rfl rfl ?_
  refine wp_get (v := vR 1) dX7_share_1 fl_7_10 L_0 rfl ?_
  refine wp_iload_n dX7_share_4 rfl ?_
  exact wp_callvI (As := [vI v1]) dX7_share_5 ml_7_105 (by decide) rfl L_1 (by decide) rfl (Nat.le_of_ble_eq_true rfl) rfl (Nat.le_refl _) (Nat.le_refl _) hc k
theorem b_X7_share_8 {d : Nat} {Q : Option pV → pG → Prop} {g : pG} {v1 vs0 : Int} (k1 : (vs0 ≠ 0) → EV d mX7_share Q 17 [vR 0, vI v1] [] g) (k2 : ¬ (vs0 ≠ 0) → EV d mX7_share Q 11 [vR 0, vI v1] [] g) : EV d mX7_share Q 8 [vR 0, vI v1] [vI vs0] g := by
  exact wp_if_ne (tgt := 17) dX7_share_8 rfl k1 k2
theorem b_X7_share_11 {d : Nat} {Q : Option pV → pG → Prop} {g : pG} {v1 : Int} {R : Int → pG → Prop} (hc : CT d mX7_refuse [vR 0, vI (-1)] g (qI R)) (k : ∀ (x : Int) (gg : pG), R x gg → EV d mX7_share Q 16 [vR 0, vI v1] [vI x] gg) : EV d mX7_share Q 11 [vR 0, vI v1] [] g := by
  refine wp_aload_n dX7_share_11 rfl rfl ?_
  refine wp_iconst dX7_share_12 kc_m1 ?_
  exact wp_callvI (As := [vI (-1)]) dX7_share_13 ml_7_91 (by decide) rfl L_0 (by decide) rfl (Nat.le_of_ble_eq_true rfl) rfl (Nat.le_refl _) (Nat.le_refl _) hc k
theorem b_X7_share_16 {d : Nat} {Q : Option pV → pG → Prop} {g : pG} {v1 vs0 : Int} (hq : Q (some (vI vs0)) g) : EV d mX7_share Q 16 [vR 0, vI v1] [vI vs0] g := by
  exact wp_iret dX7_share_16 rfl hq
theorem b_X7_share_17 {d : Nat} {Q : Option pV → pG → Prop} {g : pG} {v1 : Int} {R : pG → Prop} (hc : CT d mX6_weigh [vR 33, vR 1, vR 27] g (qV R)) (k : ∀ gg : pG, R gg → EV d mX7_share Q 32 [vR 0, vI v1] [] gg) : EV d mX7_share Q 17 [vR 0, vI v1] [] g := by
  refine wp_aload_n dX7_share_17 rfl rfl ?_
  refine wp_get (v := vR 33) dX7_share_18 fl_7_67 L_0 rfl ?_
  refine wp_aload_n dX7_share_21 rfl rfl ?_
  refine wp_get (v := vR 1) dX7_share_22 fl_7_10 L_0 rfl ?_
  refine wp_aload_n dX7_share_25 rfl rfl ?_
  refine wp_get (v := vR 27) dX7_share_26 fl_7_54 L_0 rfl ?_
  exact wp_callvV (As := [vR 1, vR 27]) dX7_share_29 ml_7_211 (by decide) rfl L_33 (by decide) rfl (Nat.le_of_ble_eq_true rfl) rfl (Nat.le_refl _) (Nat.le_refl _) hc k
theorem b_X7_share_32 {d : Nat} {Q : Option pV → pG → Prop} {g : pG} {v1 : Int} (k1 : (v1 = 0) → EV d mX7_share Q 47 [vR 0, vI v1] [] g) (k2 : ¬ (v1 = 0) → EV d mX7_share Q 36 [vR 0, vI v1] [] g) : EV d mX7_share Q 32 [vR 0, vI v1] [] g := by
  refine wp_iload_n dX7_share_32 rfl ?_
  exact wp_if_eq (tgt := 47) dX7_share_33 rfl k1 k2
theorem b_X7_share_36 {d : Nat} {Q : Option pV → pG → Prop} {g : pG} {v1 : Int} {R : Int → pG → Prop} (hc : CT d mX6_through [vR 33] g (qI R)) (k : ∀ (x : Int) (gg : pG), R x gg → EV d mX7_share Q 44 [vR 0, vI v1] [vI x, vI v1] gg) : EV d mX7_share Q 36 [vR 0, vI v1] [] g := by
  refine wp_iload_n dX7_share_36 rfl ?_
  refine wp_aload_n dX7_share_37 rfl rfl ?_
  refine wp_get (v := vR 33) dX7_share_38 fl_7_67 L_0 rfl ?_
  exact wp_callvI (As := []) dX7_share_41 ml_7_215 (by decide) rfl L_33 (by decide) rfl (Nat.le_of_ble_eq_true rfl) rfl (Nat.le_refl _) (Nat.le_refl _) hc k
theorem b_X7_share_44 {d : Nat} {Q : Option pV → pG → Prop} {g : pG} {v1 vs0 vs1 : Int} (k1 : (vs0 < vs1) → EV d mX7_share Q 50 [vR 0, vI v1] [] g) (k2 : ¬ (vs0 < vs1) → EV d mX7_share Q 47 [vR 0, vI v1] [] g) : EV d mX7_share Q 44 [vR 0, vI v1] [vI vs1, vI vs0] g := by
  exact wp_icmp_lt (tgt := 50) dX7_share_44 rfl k1 k2
theorem b_X7_share_47 {d : Nat} {Q : Option pV → pG → Prop} {g : pG} {v1 : Int} (hq : Q (some (vI (-9))) g) : EV d mX7_share Q 47 [vR 0, vI v1] [] g := by
  refine wp_bipush dX7_share_47 kb_m9 kc_m9 ?_
  exact wp_iret dX7_share_49 rfl hq
theorem b_X7_share_50 {d : Nat} {Q : Option pV → pG → Prop} {g : pG} {v1 : Int} {R : Int → pG → Prop} (h1 : 0 ≤ w32 (v1 - 1)) (h2 : w32 (v1 - 1) < 7) (hc : CT d mX7_bit [vI ((g 34) (w32 (v1 - 1)).toNat)] g (qI R)) (k : ∀ (x : Int) (gg : pG), R x gg → EV d mX7_share Q 64 [vR 0, vI v1] [vI x] gg) : EV d mX7_share Q 50 [vR 0, vI v1] [] g := by
  refine wp_aload_n dX7_share_50 rfl rfl ?_
  refine wp_get (v := vR 33) dX7_share_51 fl_7_67 L_0 rfl ?_
  refine wp_get (v := vR 34) dX7_share_54 fl_7_276 L_33 rfl ?_
  refine wp_iload_n dX7_share_57 rfl ?_
  refine wp_iconst dX7_share_58 kc_1 ?_
  refine wp_isub dX7_share_59 ?_
  refine wp_baload dX7_share_60 h1 L_34 h2 ?_
  exact wp_callsI (As := [vI ((g 34) (w32 (v1 - 1)).toNat)]) dX7_share_61 ml_7_179 (Or.inl rfl) rfl (Nat.le_of_ble_eq_true rfl) rfl (Nat.le_refl _) (Nat.le_refl _) hc k
theorem b_X7_share_64 {d : Nat} {Q : Option pV → pG → Prop} {g : pG} {v1 vs0 : Int} (hq : Q (some (vI vs0)) g) : EV d mX7_share Q 64 [vR 0, vI v1] [vI vs0] g := by
  exact wp_iret dX7_share_64 rfl hq
theorem b_X7_bedtime_0 {d : Nat} {Q : Option pV → pG → Prop} {g : pG} {v1 v2 : Int} {R : Int → pG → Prop} (hc : CT d mX7_outside [vI v1, vI 2, vI 20] g (qI R)) (k : ∀ (x : Int) (gg : pG), R x gg → EV d mX7_bedtime Q 7 [vR 0, vI v1, vI v2, vX 2, vX 2, vX 2, vX 2, vX 2, vX 2, vX 2] [vI x] gg) : EV d mX7_bedtime Q 0 [vR 0, vI v1, vI v2, vX 2, vX 2, vX 2, vX 2, vX 2, vX 2, vX 2] [] g := by
  refine wp_iload_n dX7_bedtime_0 rfl ?_
  refine wp_iconst dX7_bedtime_1 kc_2 ?_
  refine wp_bipush dX7_bedtime_2 kb_20 kc_20 ?_
  exact wp_callsI (As := [vI v1, vI 2, vI 20]) dX7_bedtime_4 ml_7_127 (Or.inl rfl) rfl (Nat.le_of_ble_eq_true rfl) rfl (Nat.le_refl _) (Nat.le_refl _) hc k
theorem b_X7_bedtime_7 {d : Nat} {Q : Option pV → pG → Prop} {g : pG} {v1 v2 vs0 : Int} (k1 : (vs0 = 0) → EV d mX7_bedtime Q 18 [vR 0, vI v1, vI v2, vI vs0, vX 2, vX 2, vX 2, vX 2, vX 2, vX 2] [] g) (k2 : ¬ (vs0 = 0) → EV d mX7_bedtime Q 12 [vR 0, vI v1, vI v2, vI vs0, vX 2, vX 2, vX 2, vX 2, vX 2, vX 2] [] g) : EV d mX7_bedtime Q 7 [vR 0, vI v1, vI v2, vX 2, vX 2, vX 2, vX 2, vX 2, vX 2, vX 2] [vI vs0] g := by
  refine wp_istore_n dX7_bedtime_7 (Nat.le_of_ble_eq_true rfl) (pp (c := 2) rfl rfl) ?_
  refine wp_iload_n dX7_bedtime_8 rfl ?_
  exact wp_if_eq (tgt := 18) dX7_bedtime_9 rfl k1 k2
theorem b_X7_bedtime_12 {d : Nat} {Q : Option pV → pG → Prop} {g : pG} {v1 v2 v3 : Int} {R : Int → pG → Prop} (hc : CT d mX7_refuseLong [vR 0, vI v3] g (qL R)) (k : ∀ (x : Int) (gg : pG), R x gg → EV d mX7_bedtime Q 17 [vR 0, vI v1, vI v2, vI v3, vX 2, vX 2, vX 2, vX 2, vX 2, vX 2] [vL x] gg) : EV d mX7_bedtime Q 12 [vR 0, vI v1, vI v2, vI v3, vX 2, vX 2, vX 2, vX 2, vX 2, vX 2] [] g := by
  refine wp_aload_n dX7_bedtime_12 rfl rfl ?_
  refine wp_iload_n dX7_bedtime_13 rfl ?_
  exact wp_callvL (As := [vI v3]) dX7_bedtime_14 ml_7_279 (by decide) rfl L_0 (by decide) rfl (Nat.le_of_ble_eq_true rfl) rfl (Nat.le_refl _) (Nat.le_refl _) hc k
theorem b_X7_bedtime_17 {d : Nat} {Q : Option pV → pG → Prop} {g : pG} {v1 v2 v3 ls0 : Int} (hq : Q (some (vL ls0)) g) : EV d mX7_bedtime Q 17 [vR 0, vI v1, vI v2, vI v3, vX 2, vX 2, vX 2, vX 2, vX 2, vX 2] [vL ls0] g := by
  exact wp_lret dX7_bedtime_17 rfl hq
theorem b_X7_bedtime_18 {d : Nat} {Q : Option pV → pG → Prop} {g : pG} {v1 v2 v3 : Int} (k1 : (v2 < 0) → EV d mX7_bedtime Q 27 [vR 0, vI v1, vI v2, vI v3, vX 2, vX 2, vX 2, vX 2, vX 2, vX 2] [] g) (k2 : ¬ (v2 < 0) → EV d mX7_bedtime Q 22 [vR 0, vI v1, vI v2, vI v3, vX 2, vX 2, vX 2, vX 2, vX 2, vX 2] [] g) : EV d mX7_bedtime Q 18 [vR 0, vI v1, vI v2, vI v3, vX 2, vX 2, vX 2, vX 2, vX 2, vX 2] [] g := by
  refine wp_iload_n dX7_bedtime_18 rfl ?_
  exact wp_if_lt (tgt := 27) dX7_bedtime_19 rfl k1 k2
theorem b_X7_bedtime_22 {d : Nat} {Q : Option pV → pG → Prop} {g : pG} {v1 v2 v3 : Int} (k1 : (v2 ≤ 1) → EV d mX7_bedtime Q 34 [vR 0, vI v1, vI v2, vI v3, vX 2, vX 2, vX 2, vX 2, vX 2, vX 2] [] g) (k2 : ¬ (v2 ≤ 1) → EV d mX7_bedtime Q 27 [vR 0, vI v1, vI v2, vI v3, vX 2, vX 2, vX 2, vX 2, vX 2, vX 2] [] g) : EV d mX7_bedtime Q 22 [vR 0, vI v1, vI v2, vI v3, vX 2, vX 2, vX 2, vX 2, vX 2, vX 2] [] g := by
  refine wp_iload_n dX7_bedtime_22 rfl ?_
  refine wp_iconst dX7_bedtime_23 kc_1 ?_
  exact wp_icmp_le (tgt := 34) dX7_bedtime_24 rfl k1 k2
theorem b_X7_bedtime_27 {d : Nat} {Q : Option pV → pG → Prop} {g : pG} {v1 v2 v3 : Int} {R : Int → pG → Prop} (hc : CT d mX7_refuseLong [vR 0, vI (-2)] g (qL R)) (k : ∀ (x : Int) (gg : pG), R x gg → EV d mX7_bedtime Q 33 [vR 0, vI v1, vI v2, vI v3, vX 2, vX 2, vX 2, vX 2, vX 2, vX 2] [vL x] gg) : EV d mX7_bedtime Q 27 [vR 0, vI v1, vI v2, vI v3, vX 2, vX 2, vX 2, vX 2, vX 2, vX 2] [] g := by
  refine wp_aload_n dX7_bedtime_27 rfl rfl ?_
  refine wp_bipush dX7_bedtime_28 kb_m2 kc_m2 ?_
  exact wp_callvL (As := [vI (-2)]) dX7_bedtime_30 ml_7_279 (by decide) rfl L_0 (by decide) rfl (Nat.le_of_ble_eq_true rfl) rfl (Nat.le_refl _) (Nat.le_refl _) hc k
theorem b_X7_bedtime_33 {d : Nat} {Q : Option pV → pG → Prop} {g : pG} {v1 v2 v3 ls0 : Int} (hq : Q (some (vL ls0)) g) : EV d mX7_bedtime Q 33 [vR 0, vI v1, vI v2, vI v3, vX 2, vX 2, vX 2, vX 2, vX 2, vX 2] [vL ls0] g := by
  exact wp_lret dX7_bedtime_33 rfl hq
theorem b_X7_bedtime_34 {d : Nat} {Q : Option pV → pG → Prop} {g : pG} {v1 v2 v3 : Int} (k : EV d mX7_bedtime Q 40 [vR 0, vI v1, vI v2, vI v3, vL 0, vX 2, vI 0, vX 2, vX 2, vX 2] [] g) : EV d mX7_bedtime Q 34 [vR 0, vI v1, vI v2, vI v3, vX 2, vX 2, vX 2, vX 2, vX 2, vX 2] [] g := by
  refine wp_lconst (x := 0) dX7_bedtime_34 rfl ?_
  refine wp_lstore dX7_bedtime_35 (Nat.le_of_ble_eq_true rfl) (pp (c := 3) rfl rfl) ?_
  refine wp_iconst dX7_bedtime_37 kc_0 ?_
  refine wp_istore dX7_bedtime_38 (Nat.le_of_ble_eq_true rfl) (pp (c := 5) rfl rfl) ?_
  exact k
theorem b_X7_bedtime_40 {d : Nat} {Q : Option pV → pG → Prop} {g : pG} {v1 v2 v3 l4 v6 : Int} (k1 : (zshl 1 ((g 1) 3) ≤ v6) → EV d mX7_bedtime Q 100 [vR 0, vI v1, vI v2, vI v3, vL l4, vX 2, vI v6, vX 2, vX 2, vX 2] [] g) (k2 : ¬ (zshl 1 ((g 1) 3) ≤ v6) → EV d mX7_bedtime Q 54 [vR 0, vI v1, vI v2, vI v3, vL l4, vX 2, vI v6, vX 2, vX 2, vX 2] [] g) : EV d mX7_bedtime Q 40 [vR 0, vI v1, vI v2, vI v3, vL l4, vX 2, vI v6, vX 2, vX 2, vX 2] [] g := by
  refine wp_iload dX7_bedtime_40 rfl ?_
  refine wp_iconst dX7_bedtime_42 kc_1 ?_
  refine wp_aload_n dX7_bedtime_43 rfl rfl ?_
  refine wp_get (v := vR 1) dX7_bedtime_44 fl_7_10 L_0 rfl ?_
  refine wp_get (v := vI ((g 1) 3)) dX7_bedtime_47 fl_7_152 L_1 rfl ?_
  refine wp_ishl dX7_bedtime_50 ?_
  exact wp_icmp_ge (tgt := 100) dX7_bedtime_51 rfl k1 k2
theorem b_X7_bedtime_54 {d : Nat} {Q : Option pV → pG → Prop} {g : pG} {v1 v2 v3 l4 v6 : Int} {R : pG → Prop} (hc : CT d mX7_goDownAsleep [vR 0, vI v6] g (qV R)) (k : ∀ gg : pG, R gg → EV d mX7_bedtime Q 60 [vR 0, vI v1, vI v2, vI v3, vL l4, vX 2, vI v6, vX 2, vX 2, vX 2] [] gg) : EV d mX7_bedtime Q 54 [vR 0, vI v1, vI v2, vI v3, vL l4, vX 2, vI v6, vX 2, vX 2, vX 2] [] g := by
  refine wp_aload_n dX7_bedtime_54 rfl rfl ?_
  refine wp_iload dX7_bedtime_55 rfl ?_
  exact wp_callvV (As := [vI v6]) dX7_bedtime_57 ml_7_283 (by decide) rfl L_0 (by decide) rfl (Nat.le_of_ble_eq_true rfl) rfl (Nat.le_refl _) (Nat.le_refl _) hc k
theorem b_X7_bedtime_60 {d : Nat} {Q : Option pV → pG → Prop} {g : pG} {v1 v2 v3 l4 v6 : Int} {R : Int → pG → Prop} (hc : CT d mX3_isFor [vR 27] g (qI R)) (k : ∀ (x : Int) (gg : pG), R x gg → EV d mX7_bedtime Q 67 [vR 0, vI v1, vI v2, vI v3, vL l4, vX 2, vI v6, vX 2, vX 2, vX 2] [vI x] gg) : EV d mX7_bedtime Q 60 [vR 0, vI v1, vI v2, vI v3, vL l4, vX 2, vI v6, vX 2, vX 2, vX 2] [] g := by
  refine wp_aload_n dX7_bedtime_60 rfl rfl ?_
  refine wp_get (v := vR 27) dX7_bedtime_61 fl_7_54 L_0 rfl ?_
  exact wp_callvI (As := []) dX7_bedtime_64 ml_7_175 (by decide) rfl L_27 (by decide) rfl (Nat.le_of_ble_eq_true rfl) rfl (Nat.le_refl _) (Nat.le_refl _) hc k
theorem b_X7_bedtime_67 {d : Nat} {Q : Option pV → pG → Prop} {g : pG} {v1 v2 v3 l4 v6 vs0 : Int} (k1 : (vs0 = 0) → EV d mX7_bedtime Q 94 [vR 0, vI v1, vI v2, vI v3, vL l4, vX 2, vI v6, vX 2, vX 2, vX 2] [] g) (k2 : ¬ (vs0 = 0) → EV d mX7_bedtime Q 70 [vR 0, vI v1, vI v2, vI v3, vL l4, vX 2, vI v6, vX 2, vX 2, vX 2] [] g) : EV d mX7_bedtime Q 67 [vR 0, vI v1, vI v2, vI v3, vL l4, vX 2, vI v6, vX 2, vX 2, vX 2] [vI vs0] g := by
  exact wp_if_eq (tgt := 94) dX7_bedtime_67 rfl k1 k2
theorem b_X7_bedtime_70 {d : Nat} {Q : Option pV → pG → Prop} {g : pG} {v1 v2 v3 l4 v6 : Int} {R : Int → pG → Prop} (hc : CT d mJ6_bitCount_0f7a4 [vI v6] g (qI R)) (k : ∀ (x : Int) (gg : pG), R x gg → EV d mX7_bedtime Q 87 [vR 0, vI v1, vI v2, vI v3, vL l4, vX 2, vI v6, vX 2, vX 2, vX 2] [vI x, vI ((g 1) 3), vI (w32 (v1 - 1)), vL l4] gg) : EV d mX7_bedtime Q 70 [vR 0, vI v1, vI v2, vI v3, vL l4, vX 2, vI v6, vX 2, vX 2, vX 2] [] g := by
  refine wp_lload dX7_bedtime_70 rfl ?_
  refine wp_iload_n dX7_bedtime_72 rfl ?_
  refine wp_iconst dX7_bedtime_73 kc_1 ?_
  refine wp_isub dX7_bedtime_74 ?_
  refine wp_aload_n dX7_bedtime_75 rfl rfl ?_
  refine wp_get (v := vR 1) dX7_bedtime_76 fl_7_10 L_0 rfl ?_
  refine wp_get (v := vI ((g 1) 3)) dX7_bedtime_79 fl_7_152 L_1 rfl ?_
  refine wp_iload dX7_bedtime_82 rfl ?_
  exact wp_callsI (As := [vI v6]) dX7_bedtime_84 ml_7_231 (Or.inl rfl) rfl (Nat.le_of_ble_eq_true rfl) rfl (Nat.le_refl _) (Nat.le_refl _) hc k
theorem b_X7_bedtime_87 {d : Nat} {Q : Option pV → pG → Prop} {g : pG} {v1 v2 v3 l4 v6 ls0 vs1 vs2 vs3 : Int} {R : Int → pG → Prop} (hc : CT d mX7_power [vI vs1, vI (w32 (vs2 - vs3))] g (qL R)) (k : ∀ (x : Int) (gg : pG), R x gg → EV d mX7_bedtime Q 91 [vR 0, vI v1, vI v2, vI v3, vL l4, vX 2, vI v6, vX 2, vX 2, vX 2] [vL x, vL ls0] gg) : EV d mX7_bedtime Q 87 [vR 0, vI v1, vI v2, vI v3, vL l4, vX 2, vI v6, vX 2, vX 2, vX 2] [vI vs3, vI vs2, vI vs1, vL ls0] g := by
  refine wp_isub dX7_bedtime_87 ?_
  exact wp_callsL (As := [vI vs1, vI (w32 (vs2 - vs3))]) dX7_bedtime_88 ml_7_286 (Or.inl rfl) rfl (Nat.le_of_ble_eq_true rfl) rfl (Nat.le_refl _) (Nat.le_refl _) hc k
theorem b_X7_bedtime_91 {d : Nat} {Q : Option pV → pG → Prop} {g : pG} {v1 v2 v3 l4 v6 ls0 ls1 : Int} (k : EV d mX7_bedtime Q 40 [vR 0, vI v1, vI v2, vI v3, vL (w64 (ls0 + ls1)), vX 2, vI (w32 (v6 + 1)), vX 2, vX 2, vX 2] [] g) : EV d mX7_bedtime Q 91 [vR 0, vI v1, vI v2, vI v3, vL l4, vX 2, vI v6, vX 2, vX 2, vX 2] [vL ls1, vL ls0] g := by
  refine wp_ladd dX7_bedtime_91 ?_
  refine wp_lstore dX7_bedtime_92 (Nat.le_of_ble_eq_true rfl) (pp (c := 3) rfl rfl) ?_
  refine wp_iinc dX7_bedtime_94 rfl (Nat.le_of_ble_eq_true rfl) (pp (c := 5) rfl rfl) ?_
  refine wp_goto (tgt := 40) dX7_bedtime_97 rfl ?_
  exact k
theorem b_X7_bedtime_94 {d : Nat} {Q : Option pV → pG → Prop} {g : pG} {v1 v2 v3 l4 v6 : Int} (k : EV d mX7_bedtime Q 40 [vR 0, vI v1, vI v2, vI v3, vL l4, vX 2, vI (w32 (v6 + 1)), vX 2, vX 2, vX 2] [] g) : EV d mX7_bedtime Q 94 [vR 0, vI v1, vI v2, vI v3, vL l4, vX 2, vI v6, vX 2, vX 2, vX 2] [] g := by
  refine wp_iinc dX7_bedtime_94 rfl (Nat.le_of_ble_eq_true rfl) (pp (c := 5) rfl rfl) ?_
  refine wp_goto (tgt := 40) dX7_bedtime_97 rfl ?_
  exact k
theorem b_X7_bedtime_100 {d : Nat} {Q : Option pV → pG → Prop} {g : pG} {v1 v2 v3 l4 v6 : Int} {R : Int → pG → Prop} (hc : CT d mX7_power [vI v1, vI ((g 1) 3)] g (qL R)) (k : ∀ (x : Int) (gg : pG), R x gg → EV d mX7_bedtime Q 111 [vR 0, vI v1, vI v2, vI v3, vL l4, vX 2, vI v6, vX 2, vX 2, vX 2] [vL x] gg) : EV d mX7_bedtime Q 100 [vR 0, vI v1, vI v2, vI v3, vL l4, vX 2, vI v6, vX 2, vX 2, vX 2] [] g := by
  refine wp_iload_n dX7_bedtime_100 rfl ?_
  refine wp_aload_n dX7_bedtime_101 rfl rfl ?_
  refine wp_get (v := vR 1) dX7_bedtime_102 fl_7_10 L_0 rfl ?_
  refine wp_get (v := vI ((g 1) 3)) dX7_bedtime_105 fl_7_152 L_1 rfl ?_
  exact wp_callsL (As := [vI v1, vI ((g 1) 3)]) dX7_bedtime_108 ml_7_286 (Or.inl rfl) rfl (Nat.le_of_ble_eq_true rfl) rfl (Nat.le_refl _) (Nat.le_refl _) hc k
theorem b_X7_bedtime_111 {d : Nat} {Q : Option pV → pG → Prop} {g : pG} {v1 v2 v3 l4 v6 ls0 : Int} {R : Int → pG → Prop} (hc : CT d mX7_commonDivisor [vL l4, vL ls0] g (qL R)) (k : ∀ (x : Int) (gg : pG), R x gg → EV d mX7_bedtime Q 120 [vR 0, vI v1, vI v2, vI v3, vL l4, vX 2, vL ls0, vX 2, vX 2, vX 2] [vL x] gg) : EV d mX7_bedtime Q 111 [vR 0, vI v1, vI v2, vI v3, vL l4, vX 2, vI v6, vX 2, vX 2, vX 2] [vL ls0] g := by
  refine wp_lstore dX7_bedtime_111 (Nat.le_of_ble_eq_true rfl) (pp (c := 5) rfl rfl) ?_
  refine wp_lload dX7_bedtime_113 rfl ?_
  refine wp_lload dX7_bedtime_115 rfl ?_
  exact wp_callsL (As := [vL l4, vL ls0]) dX7_bedtime_117 ml_7_290 (Or.inl rfl) rfl (Nat.le_of_ble_eq_true rfl) rfl (Nat.le_refl _) (Nat.le_refl _) hc k
theorem b_X7_bedtime_120 {d : Nat} {Q : Option pV → pG → Prop} {g : pG} {v1 v2 v3 l4 l6 ls0 : Int} (k1 : (lcmpZ ls0 0 ≠ 0) → EV d mX7_bedtime Q 132 [vR 0, vI v1, vI v2, vI v3, vL l4, vX 2, vL l6, vX 2, vL ls0, vX 2] [] g) (k2 : ¬ (lcmpZ ls0 0 ≠ 0) → EV d mX7_bedtime Q 129 [vR 0, vI v1, vI v2, vI v3, vL l4, vX 2, vL l6, vX 2, vL ls0, vX 2] [] g) : EV d mX7_bedtime Q 120 [vR 0, vI v1, vI v2, vI v3, vL l4, vX 2, vL l6, vX 2, vX 2, vX 2] [vL ls0] g := by
  refine wp_lstore dX7_bedtime_120 (Nat.le_of_ble_eq_true rfl) (pp (c := 7) rfl rfl) ?_
  refine wp_lload dX7_bedtime_122 rfl ?_
  refine wp_lconst (x := 0) dX7_bedtime_124 rfl ?_
  refine wp_lcmp dX7_bedtime_125 ?_
  exact wp_if_ne (tgt := 132) dX7_bedtime_126 rfl k1 k2
theorem b_X7_bedtime_129 {d : Nat} {Q : Option pV → pG → Prop} {g : pG} {v1 v2 v3 l4 l6 l8 : Int} (hq : Q (some (vL v2)) g) : EV d mX7_bedtime Q 129 [vR 0, vI v1, vI v2, vI v3, vL l4, vX 2, vL l6, vX 2, vL l8, vX 2] [] g := by
  refine wp_iload_n dX7_bedtime_129 rfl ?_
  refine wp_i2l dX7_bedtime_130 ?_
  exact wp_lret dX7_bedtime_131 rfl hq
theorem b_X7_bedtime_132 {d : Nat} {Q : Option pV → pG → Prop} {g : pG} {v1 v2 v3 l4 l6 l8 : Int} (k1 : (v2 ≠ 0) → EV d mX7_bedtime Q 144 [vR 0, vI v1, vI v2, vI v3, vL l4, vX 2, vL l6, vX 2, vL l8, vX 2] [] g) (k2 : ¬ (v2 ≠ 0) → EV d mX7_bedtime Q 136 [vR 0, vI v1, vI v2, vI v3, vL l4, vX 2, vL l6, vX 2, vL l8, vX 2] [] g) : EV d mX7_bedtime Q 132 [vR 0, vI v1, vI v2, vI v3, vL l4, vX 2, vL l6, vX 2, vL l8, vX 2] [] g := by
  refine wp_iload_n dX7_bedtime_132 rfl ?_
  exact wp_if_ne (tgt := 144) dX7_bedtime_133 rfl k1 k2
theorem b_X7_bedtime_136 {d : Nat} {Q : Option pV → pG → Prop} {g : pG} {v1 v2 v3 l4 l6 l8 : Int} (h1 : l8 ≠ 0) (hq : Q (some (vL (w64 (l4.tdiv l8)))) g) : EV d mX7_bedtime Q 136 [vR 0, vI v1, vI v2, vI v3, vL l4, vX 2, vL l6, vX 2, vL l8, vX 2] [] g := by
  refine wp_lload dX7_bedtime_136 rfl ?_
  refine wp_lload dX7_bedtime_138 rfl ?_
  refine wp_ldiv dX7_bedtime_140 h1 ?_
  refine wp_goto (tgt := 149) dX7_bedtime_141 rfl ?_
  exact wp_lret dX7_bedtime_149 rfl hq
theorem b_X7_bedtime_144 {d : Nat} {Q : Option pV → pG → Prop} {g : pG} {v1 v2 v3 l4 l6 l8 : Int} (h1 : l8 ≠ 0) (hq : Q (some (vL (w64 (l6.tdiv l8)))) g) : EV d mX7_bedtime Q 144 [vR 0, vI v1, vI v2, vI v3, vL l4, vX 2, vL l6, vX 2, vL l8, vX 2] [] g := by
  refine wp_lload dX7_bedtime_144 rfl ?_
  refine wp_lload dX7_bedtime_146 rfl ?_
  refine wp_ldiv dX7_bedtime_148 h1 ?_
  exact wp_lret dX7_bedtime_149 rfl hq
theorem b_X7_refuseLong_0 {d : Nat} {Q : Option pV → pG → Prop} {g : pG} {v1 : Int} {R : Int → pG → Prop} (hc : CT d mX7_refuse [vR 0, vI v1] g (qI R)) (k : ∀ (x : Int) (gg : pG), R x gg → EV d mX7_refuseLong Q 8 [vR 0, vI v1] [vI x, vL 4000000000000000000] gg) : EV d mX7_refuseLong Q 0 [vR 0, vI v1] [] g := by
  refine wp_ldc2_w dX7_refuseLong_0 k2_7_347 ?_
  refine wp_aload_n dX7_refuseLong_3 rfl rfl ?_
  refine wp_iload_n dX7_refuseLong_4 rfl ?_
  exact wp_callvI (As := [vI v1]) dX7_refuseLong_5 ml_7_91 (by decide) rfl L_0 (by decide) rfl (Nat.le_of_ble_eq_true rfl) rfl (Nat.le_refl _) (Nat.le_refl _) hc k
theorem b_X7_refuseLong_8 {d : Nat} {Q : Option pV → pG → Prop} {g : pG} {v1 ls0 vs1 : Int} (hq : Q (some (vL (w64 (ls0 - vs1)))) g) : EV d mX7_refuseLong Q 8 [vR 0, vI v1] [vI vs1, vL ls0] g := by
  refine wp_i2l dX7_refuseLong_8 ?_
  refine wp_lsub dX7_refuseLong_9 ?_
  exact wp_lret dX7_refuseLong_10 rfl hq
theorem b_X7_goDownAsleep_0 {d : Nat} {Q : Option pV → pG → Prop} {g : pG} {v1 : Int} {R : pG → Prop} (hc : CT d mX3_copyFrom [vR 27, vR 5] g (qV R)) (k : ∀ gg : pG, R gg → EV d mX7_goDownAsleep Q 14 [vR 0, vI v1, vX 2] [] gg) : EV d mX7_goDownAsleep Q 0 [vR 0, vI v1, vX 2] [] g := by
  refine wp_aload_n dX7_goDownAsleep_0 rfl rfl ?_
  refine wp_get (v := vR 27) dX7_goDownAsleep_1 fl_7_54 L_0 rfl ?_
  refine wp_aload_n dX7_goDownAsleep_4 rfl rfl ?_
  refine wp_get (v := vR 1) dX7_goDownAsleep_5 fl_7_10 L_0 rfl ?_
  refine wp_get (v := vR 5) dX7_goDownAsleep_8 fl_7_118 L_1 rfl ?_
  exact wp_callvV (As := [vR 5]) dX7_goDownAsleep_11 ml_7_236 (by decide) rfl L_27 (by decide) rfl (Nat.le_of_ble_eq_true rfl) rfl (Nat.le_refl _) (Nat.le_refl _) hc k
theorem b_X7_goDownAsleep_14 {d : Nat} {Q : Option pV → pG → Prop} {g : pG} {v1 : Int} (k : EV d mX7_goDownAsleep Q 16 [vR 0, vI v1, vI 0] [] g) : EV d mX7_goDownAsleep Q 14 [vR 0, vI v1, vX 2] [] g := by
  refine wp_iconst dX7_goDownAsleep_14 kc_0 ?_
  refine wp_istore_n dX7_goDownAsleep_15 (Nat.le_of_ble_eq_true rfl) (pp (c := 1) rfl rfl) ?_
  exact k
theorem b_X7_goDownAsleep_16 {d : Nat} {Q : Option pV → pG → Prop} {g : pG} {v1 v2 : Int} (k1 : ((g 1) 3 ≤ v2) → EV d mX7_goDownAsleep Q 53 [vR 0, vI v1, vI v2] [] g) (k2 : ¬ ((g 1) 3 ≤ v2) → EV d mX7_goDownAsleep Q 27 [vR 0, vI v1, vI v2] [] g) : EV d mX7_goDownAsleep Q 16 [vR 0, vI v1, vI v2] [] g := by
  refine wp_iload_n dX7_goDownAsleep_16 rfl ?_
  refine wp_aload_n dX7_goDownAsleep_17 rfl rfl ?_
  refine wp_get (v := vR 1) dX7_goDownAsleep_18 fl_7_10 L_0 rfl ?_
  refine wp_get (v := vI ((g 1) 3)) dX7_goDownAsleep_21 fl_7_152 L_1 rfl ?_
  exact wp_icmp_ge (tgt := 53) dX7_goDownAsleep_24 rfl k1 k2
theorem b_X7_goDownAsleep_27 {d : Nat} {Q : Option pV → pG → Prop} {g : pG} {v1 v2 : Int} (k1 : (zand (zshr v1 v2) 1 ≠ 0) → EV d mX7_goDownAsleep Q 47 [vR 0, vI v1, vI v2] [] g) (k2 : ¬ (zand (zshr v1 v2) 1 ≠ 0) → EV d mX7_goDownAsleep Q 35 [vR 0, vI v1, vI v2] [] g) : EV d mX7_goDownAsleep Q 27 [vR 0, vI v1, vI v2] [] g := by
  refine wp_iload_n dX7_goDownAsleep_27 rfl ?_
  refine wp_iload_n dX7_goDownAsleep_28 rfl ?_
  refine wp_ishr dX7_goDownAsleep_29 ?_
  refine wp_iconst dX7_goDownAsleep_30 kc_1 ?_
  refine wp_iand dX7_goDownAsleep_31 ?_
  exact wp_if_ne (tgt := 47) dX7_goDownAsleep_32 rfl k1 k2
theorem b_X7_goDownAsleep_35 {d : Nat} {Q : Option pV → pG → Prop} {g : pG} {v1 v2 : Int} {R : pG → Prop} (hc : CT d mX5_hear [vR 1, vI v2, vR 27] g (qV R)) (k : ∀ gg : pG, R gg → EV d mX7_goDownAsleep Q 47 [vR 0, vI v1, vI v2] [] gg) : EV d mX7_goDownAsleep Q 35 [vR 0, vI v1, vI v2] [] g := by
  refine wp_aload_n dX7_goDownAsleep_35 rfl rfl ?_
  refine wp_get (v := vR 1) dX7_goDownAsleep_36 fl_7_10 L_0 rfl ?_
  refine wp_iload_n dX7_goDownAsleep_39 rfl ?_
  refine wp_aload_n dX7_goDownAsleep_40 rfl rfl ?_
  refine wp_get (v := vR 27) dX7_goDownAsleep_41 fl_7_54 L_0 rfl ?_
  exact wp_callvV (As := [vI v2, vR 27]) dX7_goDownAsleep_44 ml_7_186 (by decide) rfl L_1 (by decide) rfl (Nat.le_of_ble_eq_true rfl) rfl (Nat.le_refl _) (Nat.le_refl _) hc k
theorem b_X7_goDownAsleep_47 {d : Nat} {Q : Option pV → pG → Prop} {g : pG} {v1 v2 : Int} (k : EV d mX7_goDownAsleep Q 16 [vR 0, vI v1, vI (w32 (v2 + 1))] [] g) : EV d mX7_goDownAsleep Q 47 [vR 0, vI v1, vI v2] [] g := by
  refine wp_iinc dX7_goDownAsleep_47 rfl (Nat.le_of_ble_eq_true rfl) (pp (c := 1) rfl rfl) ?_
  refine wp_goto (tgt := 16) dX7_goDownAsleep_50 rfl ?_
  exact k
theorem b_X7_goDownAsleep_53 {d : Nat} {Q : Option pV → pG → Prop} {g : pG} {v1 v2 : Int} (hq : Q none g) : EV d mX7_goDownAsleep Q 53 [vR 0, vI v1, vI v2] [] g := by
  exact wp_vret dX7_goDownAsleep_53 rfl hq
theorem b_X7_power_0 {d : Nat} {Q : Option pV → pG → Prop} {g : pG} {v0 v1 : Int} (k : EV d mX7_power Q 5 [vI v0, vI v1, vL 1, vX 2, vI 0] [] g) : EV d mX7_power Q 0 [vI v0, vI v1, vX 2, vX 2, vX 2] [] g := by
  refine wp_lconst (x := 1) dX7_power_0 rfl ?_
  refine wp_lstore_n dX7_power_1 (Nat.le_of_ble_eq_true rfl) (pp (c := 1) rfl rfl) ?_
  refine wp_iconst dX7_power_2 kc_0 ?_
  refine wp_istore dX7_power_3 (Nat.le_of_ble_eq_true rfl) (pp (c := 3) rfl rfl) ?_
  exact k
theorem b_X7_power_5 {d : Nat} {Q : Option pV → pG → Prop} {g : pG} {v0 v1 l2 v4 : Int} (k1 : (v1 ≤ v4) → EV d mX7_power Q 22 [vI v0, vI v1, vL l2, vX 2, vI v4] [] g) (k2 : ¬ (v1 ≤ v4) → EV d mX7_power Q 11 [vI v0, vI v1, vL l2, vX 2, vI v4] [] g) : EV d mX7_power Q 5 [vI v0, vI v1, vL l2, vX 2, vI v4] [] g := by
  refine wp_iload dX7_power_5 rfl ?_
  refine wp_iload_n dX7_power_7 rfl ?_
  exact wp_icmp_ge (tgt := 22) dX7_power_8 rfl k1 k2
theorem b_X7_power_11 {d : Nat} {Q : Option pV → pG → Prop} {g : pG} {v0 v1 l2 v4 : Int} (k : EV d mX7_power Q 5 [vI v0, vI v1, vL (w64 (l2 * v0)), vX 2, vI (w32 (v4 + 1))] [] g) : EV d mX7_power Q 11 [vI v0, vI v1, vL l2, vX 2, vI v4] [] g := by
  refine wp_lload_n dX7_power_11 rfl ?_
  refine wp_iload_n dX7_power_12 rfl ?_
  refine wp_i2l dX7_power_13 ?_
  refine wp_lmul dX7_power_14 ?_
  refine wp_lstore_n dX7_power_15 (Nat.le_of_ble_eq_true rfl) (pp (c := 1) rfl rfl) ?_
  refine wp_iinc dX7_power_16 rfl (Nat.le_of_ble_eq_true rfl) (pp (c := 3) rfl rfl) ?_
  refine wp_goto (tgt := 5) dX7_power_19 rfl ?_
  exact k
theorem b_X7_power_22 {d : Nat} {Q : Option pV → pG → Prop} {g : pG} {v0 v1 l2 v4 : Int} (hq : Q (some (vL l2)) g) : EV d mX7_power Q 22 [vI v0, vI v1, vL l2, vX 2, vI v4] [] g := by
  refine wp_lload_n dX7_power_22 rfl ?_
  exact wp_lret dX7_power_23 rfl hq
theorem b_X7_commonDivisor_0 {d : Nat} {Q : Option pV → pG → Prop} {g : pG} {l0 l2 : Int} (k : EV d mX7_commonDivisor Q 9 [vL l0, vX 2, vL l2, vX 2, vL l0, vX 2, vL l2, vX 2, vI 0, vX 2, vX 2] [] g) : EV d mX7_commonDivisor Q 0 [vL l0, vX 2, vL l2, vX 2, vX 2, vX 2, vX 2, vX 2, vX 2, vX 2, vX 2] [] g := by
  refine wp_lload_n dX7_commonDivisor_0 rfl ?_
  refine wp_lstore dX7_commonDivisor_1 (Nat.le_of_ble_eq_true rfl) (pp (c := 3) rfl rfl) ?_
  refine wp_lload_n dX7_commonDivisor_3 rfl ?_
  refine wp_lstore dX7_commonDivisor_4 (Nat.le_of_ble_eq_true rfl) (pp (c := 5) rfl rfl) ?_
  refine wp_iconst dX7_commonDivisor_6 kc_0 ?_
  refine wp_istore dX7_commonDivisor_7 (Nat.le_of_ble_eq_true rfl) (pp (c := 7) rfl rfl) ?_
  exact k
theorem b_X7_commonDivisor_9 {d : Nat} {Q : Option pV → pG → Prop} {g : pG} {l0 l2 l4 l6 v8 : Int} {u9 : pV} (k1 : (200 ≤ v8) → EV d mX7_commonDivisor Q 45 [vL l0, vX 2, vL l2, vX 2, vL l4, vX 2, vL l6, vX 2, vI v8, u9, vX 2] [] g) (k2 : ¬ (200 ≤ v8) → EV d mX7_commonDivisor Q 17 [vL l0, vX 2, vL l2, vX 2, vL l4, vX 2, vL l6, vX 2, vI v8, u9, vX 2] [] g) : EV d mX7_commonDivisor Q 9 [vL l0, vX 2, vL l2, vX 2, vL l4, vX 2, vL l6, vX 2, vI v8, u9, vX 2] [] g := by
  refine wp_iload dX7_commonDivisor_9 rfl ?_
  refine wp_sipush dX7_commonDivisor_11 ks_200 kc_200 ?_
  exact wp_icmp_ge (tgt := 45) dX7_commonDivisor_14 rfl k1 k2
theorem b_X7_commonDivisor_17 {d : Nat} {Q : Option pV → pG → Prop} {g : pG} {l0 l2 l4 l6 v8 : Int} {u9 : pV} (k1 : (lcmpZ l6 0 = 0) → EV d mX7_commonDivisor Q 45 [vL l0, vX 2, vL l2, vX 2, vL l4, vX 2, vL l6, vX 2, vI v8, u9, vX 2] [] g) (k2 : ¬ (lcmpZ l6 0 = 0) → EV d mX7_commonDivisor Q 24 [vL l0, vX 2, vL l2, vX 2, vL l4, vX 2, vL l6, vX 2, vI v8, u9, vX 2] [] g) : EV d mX7_commonDivisor Q 17 [vL l0, vX 2, vL l2, vX 2, vL l4, vX 2, vL l6, vX 2, vI v8, u9, vX 2] [] g := by
  refine wp_lload dX7_commonDivisor_17 rfl ?_
  refine wp_lconst (x := 0) dX7_commonDivisor_19 rfl ?_
  refine wp_lcmp dX7_commonDivisor_20 ?_
  exact wp_if_eq (tgt := 45) dX7_commonDivisor_21 rfl k1 k2
theorem b_X7_commonDivisor_24 {d : Nat} {Q : Option pV → pG → Prop} {g : pG} {l0 l2 l4 l6 v8 : Int} {u9 : pV} (h1 : l6 ≠ 0) (k : EV d mX7_commonDivisor Q 9 [vL l0, vX 2, vL l2, vX 2, vL l6, vX 2, vL (w64 (l4.tmod l6)), vX 2, vI (w32 (v8 + 1)), vL (w64 (l4.tmod l6)), vX 2] [] g) : EV d mX7_commonDivisor Q 24 [vL l0, vX 2, vL l2, vX 2, vL l4, vX 2, vL l6, vX 2, vI v8, u9, vX 2] [] g := by
  refine wp_lload dX7_commonDivisor_24 rfl ?_
  refine wp_lload dX7_commonDivisor_26 rfl ?_
  refine wp_lrem dX7_commonDivisor_28 h1 ?_
  refine wp_lstore dX7_commonDivisor_29 (Nat.le_of_ble_eq_true rfl) (pp (c := 8) rfl rfl) ?_
  refine wp_lload dX7_commonDivisor_31 rfl ?_
  refine wp_lstore dX7_commonDivisor_33 (Nat.le_of_ble_eq_true rfl) (pp (c := 3) rfl rfl) ?_
  refine wp_lload dX7_commonDivisor_35 rfl ?_
  refine wp_lstore dX7_commonDivisor_37 (Nat.le_of_ble_eq_true rfl) (pp (c := 5) rfl rfl) ?_
  refine wp_iinc dX7_commonDivisor_39 rfl (Nat.le_of_ble_eq_true rfl) (pp (c := 7) rfl rfl) ?_
  refine wp_goto (tgt := 9) dX7_commonDivisor_42 rfl ?_
  exact k
theorem b_X7_commonDivisor_45 {d : Nat} {Q : Option pV → pG → Prop} {g : pG} {l0 l2 l4 l6 v8 : Int} {u9 : pV} (hq : Q (some (vL l4)) g) : EV d mX7_commonDivisor Q 45 [vL l0, vX 2, vL l2, vX 2, vL l4, vX 2, vL l6, vX 2, vI v8, u9, vX 2] [] g := by
  refine wp_lload dX7_commonDivisor_45 rfl ?_
  exact wp_lret dX7_commonDivisor_47 rfl hq
theorem b_X7_order_0 {d : Nat} {Q : Option pV → pG → Prop} {g : pG} {R : pG → Prop} (hc : CT d mX7_goDownTo [vR 0, vI ((g 1) 3)] g (qV R)) (k : ∀ gg : pG, R gg → EV d mX7_order Q 11 [vR 0, vX 2, vX 2, vX 2, vX 2] [] gg) : EV d mX7_order Q 0 [vR 0, vX 2, vX 2, vX 2, vX 2] [] g := by
  refine wp_aload_n dX7_order_0 rfl rfl ?_
  refine wp_aload_n dX7_order_1 rfl rfl ?_
  refine wp_get (v := vR 1) dX7_order_2 fl_7_10 L_0 rfl ?_
  refine wp_get (v := vI ((g 1) 3)) dX7_order_5 fl_7_152 L_1 rfl ?_
  exact wp_callvV (As := [vI ((g 1) 3)]) dX7_order_8 ml_7_171 (by decide) rfl L_0 (by decide) rfl (Nat.le_of_ble_eq_true rfl) rfl (Nat.le_refl _) (Nat.le_refl _) hc k
theorem b_X7_order_11 {d : Nat} {Q : Option pV → pG → Prop} {g : pG} {R : Int → pG → Prop} (hc : CT d mX3_sum [vR 27] g (qI R)) (k : ∀ (x : Int) (gg : pG), R x gg → EV d mX7_order Q 18 [vR 0, vX 2, vX 2, vX 2, vX 2] [vI x] gg) : EV d mX7_order Q 11 [vR 0, vX 2, vX 2, vX 2, vX 2] [] g := by
  refine wp_aload_n dX7_order_11 rfl rfl ?_
  refine wp_get (v := vR 27) dX7_order_12 fl_7_54 L_0 rfl ?_
  exact wp_callvI (As := []) dX7_order_15 ml_7_183 (by decide) rfl L_27 (by decide) rfl (Nat.le_of_ble_eq_true rfl) rfl (Nat.le_refl _) (Nat.le_refl _) hc k
theorem b_X7_order_18 {d : Nat} {Q : Option pV → pG → Prop} {g : pG} {vs0 : Int} (k : EV d mX7_order Q 24 [vR 0, vI vs0, vI (-9), vI 0, vX 2] [] g) : EV d mX7_order Q 18 [vR 0, vX 2, vX 2, vX 2, vX 2] [vI vs0] g := by
  refine wp_istore_n dX7_order_18 (Nat.le_of_ble_eq_true rfl) (pp (c := 0) rfl rfl) ?_
  refine wp_bipush dX7_order_19 kb_m9 kc_m9 ?_
  refine wp_istore_n dX7_order_21 (Nat.le_of_ble_eq_true rfl) (pp (c := 1) rfl rfl) ?_
  refine wp_iconst dX7_order_22 kc_0 ?_
  refine wp_istore_n dX7_order_23 (Nat.le_of_ble_eq_true rfl) (pp (c := 2) rfl rfl) ?_
  exact k
theorem b_X7_order_24 {d : Nat} {Q : Option pV → pG → Prop} {g : pG} {v1 v2 v3 : Int} {u4 : pV} (k1 : ((g 1) 3 ≤ v3) → EV d mX7_order Q 98 [vR 0, vI v1, vI v2, vI v3, u4] [] g) (k2 : ¬ ((g 1) 3 ≤ v3) → EV d mX7_order Q 35 [vR 0, vI v1, vI v2, vI v3, u4] [] g) : EV d mX7_order Q 24 [vR 0, vI v1, vI v2, vI v3, u4] [] g := by
  refine wp_iload_n dX7_order_24 rfl ?_
  refine wp_aload_n dX7_order_25 rfl rfl ?_
  refine wp_get (v := vR 1) dX7_order_26 fl_7_10 L_0 rfl ?_
  refine wp_get (v := vI ((g 1) 3)) dX7_order_29 fl_7_152 L_1 rfl ?_
  exact wp_icmp_ge (tgt := 98) dX7_order_32 rfl k1 k2
theorem b_X7_order_35 {d : Nat} {Q : Option pV → pG → Prop} {g : pG} {v1 v2 v3 : Int} {u4 : pV} (k : EV d mX7_order Q 40 [vR 0, vI v1, vI v2, vI v3, vI (w32 (v3 + 1))] [] g) : EV d mX7_order Q 35 [vR 0, vI v1, vI v2, vI v3, u4] [] g := by
  refine wp_iload_n dX7_order_35 rfl ?_
  refine wp_iconst dX7_order_36 kc_1 ?_
  refine wp_iadd dX7_order_37 ?_
  refine wp_istore dX7_order_38 (Nat.le_of_ble_eq_true rfl) (pp (c := 3) rfl rfl) ?_
  exact k
theorem b_X7_order_40 {d : Nat} {Q : Option pV → pG → Prop} {g : pG} {v1 v2 v3 v4 : Int} (k1 : ((g 1) 3 ≤ v4) → EV d mX7_order Q 92 [vR 0, vI v1, vI v2, vI v3, vI v4] [] g) (k2 : ¬ ((g 1) 3 ≤ v4) → EV d mX7_order Q 52 [vR 0, vI v1, vI v2, vI v3, vI v4] [] g) : EV d mX7_order Q 40 [vR 0, vI v1, vI v2, vI v3, vI v4] [] g := by
  refine wp_iload dX7_order_40 rfl ?_
  refine wp_aload_n dX7_order_42 rfl rfl ?_
  refine wp_get (v := vR 1) dX7_order_43 fl_7_10 L_0 rfl ?_
  refine wp_get (v := vI ((g 1) 3)) dX7_order_46 fl_7_152 L_1 rfl ?_
  exact wp_icmp_ge (tgt := 92) dX7_order_49 rfl k1 k2
theorem b_X7_order_52 {d : Nat} {Q : Option pV → pG → Prop} {g : pG} {v1 v2 v3 v4 : Int} {R : pG → Prop} (hc : CT d mX7_goDownSwapped [vR 0, vI v3, vI v4] g (qV R)) (k : ∀ gg : pG, R gg → EV d mX7_order Q 59 [vR 0, vI v1, vI v2, vI v3, vI v4] [] gg) : EV d mX7_order Q 52 [vR 0, vI v1, vI v2, vI v3, vI v4] [] g := by
  refine wp_aload_n dX7_order_52 rfl rfl ?_
  refine wp_iload_n dX7_order_53 rfl ?_
  refine wp_iload dX7_order_54 rfl ?_
  exact wp_callvV (As := [vI v3, vI v4]) dX7_order_56 ml_7_294 (by decide) rfl L_0 (by decide) rfl (Nat.le_of_ble_eq_true rfl) rfl (Nat.le_refl _) (Nat.le_refl _) hc k
theorem b_X7_order_59 {d : Nat} {Q : Option pV → pG → Prop} {g : pG} {v1 v2 v3 v4 : Int} {R : Int → pG → Prop} (hc : CT d mX3_sum [vR 27] g (qI R)) (k : ∀ (x : Int) (gg : pG), R x gg → EV d mX7_order Q 66 [vR 0, vI v1, vI v2, vI v3, vI v4] [vI x] gg) : EV d mX7_order Q 59 [vR 0, vI v1, vI v2, vI v3, vI v4] [] g := by
  refine wp_aload_n dX7_order_59 rfl rfl ?_
  refine wp_get (v := vR 27) dX7_order_60 fl_7_54 L_0 rfl ?_
  exact wp_callvI (As := []) dX7_order_63 ml_7_183 (by decide) rfl L_27 (by decide) rfl (Nat.le_of_ble_eq_true rfl) rfl (Nat.le_refl _) (Nat.le_refl _) hc k
theorem b_X7_order_66 {d : Nat} {Q : Option pV → pG → Prop} {g : pG} {v1 v2 v3 v4 vs0 : Int} (k1 : (vs0 ≤ v1) → EV d mX7_order Q 86 [vR 0, vI v1, vI v2, vI v3, vI v4] [] g) (k2 : ¬ (vs0 ≤ v1) → EV d mX7_order Q 70 [vR 0, vI v1, vI v2, vI v3, vI v4] [] g) : EV d mX7_order Q 66 [vR 0, vI v1, vI v2, vI v3, vI v4] [vI vs0] g := by
  refine wp_iload_n dX7_order_66 rfl ?_
  exact wp_icmp_le (tgt := 86) dX7_order_67 rfl k1 k2
theorem b_X7_order_70 {d : Nat} {Q : Option pV → pG → Prop} {g : pG} {v1 v2 v3 v4 : Int} {R : Int → pG → Prop} (hc : CT d mX3_sum [vR 27] g (qI R)) (k : ∀ (x : Int) (gg : pG), R x gg → EV d mX7_order Q 77 [vR 0, vI v1, vI v2, vI v3, vI v4] [vI x] gg) : EV d mX7_order Q 70 [vR 0, vI v1, vI v2, vI v3, vI v4] [] g := by
  refine wp_aload_n dX7_order_70 rfl rfl ?_
  refine wp_get (v := vR 27) dX7_order_71 fl_7_54 L_0 rfl ?_
  exact wp_callvI (As := []) dX7_order_74 ml_7_183 (by decide) rfl L_27 (by decide) rfl (Nat.le_of_ble_eq_true rfl) rfl (Nat.le_refl _) (Nat.le_refl _) hc k
theorem b_X7_order_77 {d : Nat} {Q : Option pV → pG → Prop} {g : pG} {v1 v2 v3 v4 vs0 : Int} (k : EV d mX7_order Q 40 [vR 0, vI vs0, vI (w32 ((w32 (10 * v3)) + v4)), vI v3, vI (w32 (v4 + 1))] [] g) : EV d mX7_order Q 77 [vR 0, vI v1, vI v2, vI v3, vI v4] [vI vs0] g := by
  refine wp_istore_n dX7_order_77 (Nat.le_of_ble_eq_true rfl) (pp (c := 0) rfl rfl) ?_
  refine wp_bipush dX7_order_78 kb_10 kc_10 ?_
  refine wp_iload_n dX7_order_80 rfl ?_
  refine wp_imul dX7_order_81 ?_
  refine wp_iload dX7_order_82 rfl ?_
  refine wp_iadd dX7_order_84 ?_
  refine wp_istore_n dX7_order_85 (Nat.le_of_ble_eq_true rfl) (pp (c := 1) rfl rfl) ?_
  refine wp_iinc dX7_order_86 rfl (Nat.le_of_ble_eq_true rfl) (pp (c := 3) rfl rfl) ?_
  refine wp_goto (tgt := 40) dX7_order_89 rfl ?_
  exact k
theorem b_X7_order_86 {d : Nat} {Q : Option pV → pG → Prop} {g : pG} {v1 v2 v3 v4 : Int} (k : EV d mX7_order Q 40 [vR 0, vI v1, vI v2, vI v3, vI (w32 (v4 + 1))] [] g) : EV d mX7_order Q 86 [vR 0, vI v1, vI v2, vI v3, vI v4] [] g := by
  refine wp_iinc dX7_order_86 rfl (Nat.le_of_ble_eq_true rfl) (pp (c := 3) rfl rfl) ?_
  refine wp_goto (tgt := 40) dX7_order_89 rfl ?_
  exact k
theorem b_X7_order_92 {d : Nat} {Q : Option pV → pG → Prop} {g : pG} {v1 v2 v3 v4 : Int} (k : EV d mX7_order Q 24 [vR 0, vI v1, vI v2, vI (w32 (v3 + 1)), vI v4] [] g) : EV d mX7_order Q 92 [vR 0, vI v1, vI v2, vI v3, vI v4] [] g := by
  refine wp_iinc dX7_order_92 rfl (Nat.le_of_ble_eq_true rfl) (pp (c := 2) rfl rfl) ?_
  refine wp_goto (tgt := 24) dX7_order_95 rfl ?_
  exact k
theorem b_X7_order_98 {d : Nat} {Q : Option pV → pG → Prop} {g : pG} {v1 v2 v3 : Int} {u4 : pV} (hq : Q (some (vI v2)) g) : EV d mX7_order Q 98 [vR 0, vI v1, vI v2, vI v3, u4] [] g := by
  refine wp_iload_n dX7_order_98 rfl ?_
  exact wp_iret dX7_order_99 rfl hq
theorem b_X7_goDownSwapped_0 {d : Nat} {Q : Option pV → pG → Prop} {g : pG} {v1 v2 : Int} {R : pG → Prop} (hc : CT d mX3_copyFrom [vR 27, vR 5] g (qV R)) (k : ∀ gg : pG, R gg → EV d mX7_goDownSwapped Q 14 [vR 0, vI v1, vI v2, vX 2] [] gg) : EV d mX7_goDownSwapped Q 0 [vR 0, vI v1, vI v2, vX 2] [] g := by
  refine wp_aload_n dX7_goDownSwapped_0 rfl rfl ?_
  refine wp_get (v := vR 27) dX7_goDownSwapped_1 fl_7_54 L_0 rfl ?_
  refine wp_aload_n dX7_goDownSwapped_4 rfl rfl ?_
  refine wp_get (v := vR 1) dX7_goDownSwapped_5 fl_7_10 L_0 rfl ?_
  refine wp_get (v := vR 5) dX7_goDownSwapped_8 fl_7_118 L_1 rfl ?_
  exact wp_callvV (As := [vR 5]) dX7_goDownSwapped_11 ml_7_236 (by decide) rfl L_27 (by decide) rfl (Nat.le_of_ble_eq_true rfl) rfl (Nat.le_refl _) (Nat.le_refl _) hc k
theorem b_X7_goDownSwapped_14 {d : Nat} {Q : Option pV → pG → Prop} {g : pG} {v1 v2 : Int} (k : EV d mX7_goDownSwapped Q 16 [vR 0, vI v1, vI v2, vI 0] [] g) : EV d mX7_goDownSwapped Q 14 [vR 0, vI v1, vI v2, vX 2] [] g := by
  refine wp_iconst dX7_goDownSwapped_14 kc_0 ?_
  refine wp_istore_n dX7_goDownSwapped_15 (Nat.le_of_ble_eq_true rfl) (pp (c := 2) rfl rfl) ?_
  exact k
theorem b_X7_goDownSwapped_16 {d : Nat} {Q : Option pV → pG → Prop} {g : pG} {v1 v2 v3 : Int} (k1 : ((g 1) 3 ≤ v3) → EV d mX7_goDownSwapped Q 74 [vR 0, vI v1, vI v2, vI v3] [] g) (k2 : ¬ ((g 1) 3 ≤ v3) → EV d mX7_goDownSwapped Q 27 [vR 0, vI v1, vI v2, vI v3] [] g) : EV d mX7_goDownSwapped Q 16 [vR 0, vI v1, vI v2, vI v3] [] g := by
  refine wp_iload_n dX7_goDownSwapped_16 rfl ?_
  refine wp_aload_n dX7_goDownSwapped_17 rfl rfl ?_
  refine wp_get (v := vR 1) dX7_goDownSwapped_18 fl_7_10 L_0 rfl ?_
  refine wp_get (v := vI ((g 1) 3)) dX7_goDownSwapped_21 fl_7_152 L_1 rfl ?_
  exact wp_icmp_ge (tgt := 74) dX7_goDownSwapped_24 rfl k1 k2
theorem b_X7_goDownSwapped_27 {d : Nat} {Q : Option pV → pG → Prop} {g : pG} {v1 v2 v3 : Int} (k1 : (v3 ≠ v1) → EV d mX7_goDownSwapped Q 47 [vR 0, vI v1, vI v2, vI v3] [] g) (k2 : ¬ (v3 ≠ v1) → EV d mX7_goDownSwapped Q 32 [vR 0, vI v1, vI v2, vI v3] [] g) : EV d mX7_goDownSwapped Q 27 [vR 0, vI v1, vI v2, vI v3] [] g := by
  refine wp_iload_n dX7_goDownSwapped_27 rfl ?_
  refine wp_iload_n dX7_goDownSwapped_28 rfl ?_
  exact wp_icmp_ne (tgt := 47) dX7_goDownSwapped_29 rfl k1 k2
theorem b_X7_goDownSwapped_32 {d : Nat} {Q : Option pV → pG → Prop} {g : pG} {v1 v2 v3 : Int} {R : pG → Prop} (hc : CT d mX5_hear [vR 1, vI v2, vR 27] g (qV R)) (k : ∀ gg : pG, R gg → EV d mX7_goDownSwapped Q 44 [vR 0, vI v1, vI v2, vI v3] [] gg) : EV d mX7_goDownSwapped Q 32 [vR 0, vI v1, vI v2, vI v3] [] g := by
  refine wp_aload_n dX7_goDownSwapped_32 rfl rfl ?_
  refine wp_get (v := vR 1) dX7_goDownSwapped_33 fl_7_10 L_0 rfl ?_
  refine wp_iload_n dX7_goDownSwapped_36 rfl ?_
  refine wp_aload_n dX7_goDownSwapped_37 rfl rfl ?_
  refine wp_get (v := vR 27) dX7_goDownSwapped_38 fl_7_54 L_0 rfl ?_
  exact wp_callvV (As := [vI v2, vR 27]) dX7_goDownSwapped_41 ml_7_186 (by decide) rfl L_1 (by decide) rfl (Nat.le_of_ble_eq_true rfl) rfl (Nat.le_refl _) (Nat.le_refl _) hc k
theorem b_X7_goDownSwapped_44 {d : Nat} {Q : Option pV → pG → Prop} {g : pG} {v1 v2 v3 : Int} (k : EV d mX7_goDownSwapped Q 16 [vR 0, vI v1, vI v2, vI (w32 (v3 + 1))] [] g) : EV d mX7_goDownSwapped Q 44 [vR 0, vI v1, vI v2, vI v3] [] g := by
  refine wp_goto (tgt := 68) dX7_goDownSwapped_44 rfl ?_
  refine wp_iinc dX7_goDownSwapped_68 rfl (Nat.le_of_ble_eq_true rfl) (pp (c := 2) rfl rfl) ?_
  refine wp_goto (tgt := 16) dX7_goDownSwapped_71 rfl ?_
  exact k
theorem b_X7_goDownSwapped_47 {d : Nat} {Q : Option pV → pG → Prop} {g : pG} {v1 v2 v3 : Int} (k1 : (v3 ≠ v2) → EV d mX7_goDownSwapped Q 60 [vR 0, vI v1, vI v2, vI v3] [vR 1] g) (k2 : ¬ (v3 ≠ v2) → EV d mX7_goDownSwapped Q 56 [vR 0, vI v1, vI v2, vI v3] [vR 1] g) : EV d mX7_goDownSwapped Q 47 [vR 0, vI v1, vI v2, vI v3] [] g := by
  refine wp_aload_n dX7_goDownSwapped_47 rfl rfl ?_
  refine wp_get (v := vR 1) dX7_goDownSwapped_48 fl_7_10 L_0 rfl ?_
  refine wp_iload_n dX7_goDownSwapped_51 rfl ?_
  refine wp_iload_n dX7_goDownSwapped_52 rfl ?_
  exact wp_icmp_ne (tgt := 60) dX7_goDownSwapped_53 rfl k1 k2
theorem b_X7_goDownSwapped_56 {d : Nat} {Q : Option pV → pG → Prop} {g : pG} {v1 v2 v3 : Int} {R : pG → Prop} (hc : CT d mX5_hear [vR 1, vI v1, vR 27] g (qV R)) (k : ∀ gg : pG, R gg → EV d mX7_goDownSwapped Q 68 [vR 0, vI v1, vI v2, vI v3] [] gg) : EV d mX7_goDownSwapped Q 56 [vR 0, vI v1, vI v2, vI v3] [vR 1] g := by
  refine wp_iload_n dX7_goDownSwapped_56 rfl ?_
  refine wp_goto (tgt := 61) dX7_goDownSwapped_57 rfl ?_
  refine wp_aload_n dX7_goDownSwapped_61 rfl rfl ?_
  refine wp_get (v := vR 27) dX7_goDownSwapped_62 fl_7_54 L_0 rfl ?_
  exact wp_callvV (As := [vI v1, vR 27]) dX7_goDownSwapped_65 ml_7_186 (by decide) rfl L_1 (by decide) rfl (Nat.le_of_ble_eq_true rfl) rfl (Nat.le_refl _) (Nat.le_refl _) hc k
theorem b_X7_goDownSwapped_60 {d : Nat} {Q : Option pV → pG → Prop} {g : pG} {v1 v2 v3 : Int} {R : pG → Prop} (hc : CT d mX5_hear [vR 1, vI v3, vR 27] g (qV R)) (k : ∀ gg : pG, R gg → EV d mX7_goDownSwapped Q 68 [vR 0, vI v1, vI v2, vI v3] [] gg) : EV d mX7_goDownSwapped Q 60 [vR 0, vI v1, vI v2, vI v3] [vR 1] g := by
  refine wp_iload_n dX7_goDownSwapped_60 rfl ?_
  refine wp_aload_n dX7_goDownSwapped_61 rfl rfl ?_
  refine wp_get (v := vR 27) dX7_goDownSwapped_62 fl_7_54 L_0 rfl ?_
  exact wp_callvV (As := [vI v3, vR 27]) dX7_goDownSwapped_65 ml_7_186 (by decide) rfl L_1 (by decide) rfl (Nat.le_of_ble_eq_true rfl) rfl (Nat.le_refl _) (Nat.le_refl _) hc k
theorem b_X7_goDownSwapped_68 {d : Nat} {Q : Option pV → pG → Prop} {g : pG} {v1 v2 v3 : Int} (k : EV d mX7_goDownSwapped Q 16 [vR 0, vI v1, vI v2, vI (w32 (v3 + 1))] [] g) : EV d mX7_goDownSwapped Q 68 [vR 0, vI v1, vI v2, vI v3] [] g := by
  refine wp_iinc dX7_goDownSwapped_68 rfl (Nat.le_of_ble_eq_true rfl) (pp (c := 2) rfl rfl) ?_
  refine wp_goto (tgt := 16) dX7_goDownSwapped_71 rfl ?_
  exact k
theorem b_X7_goDownSwapped_74 {d : Nat} {Q : Option pV → pG → Prop} {g : pG} {v1 v2 v3 : Int} (hq : Q none g) : EV d mX7_goDownSwapped Q 74 [vR 0, vI v1, vI v2, vI v3] [] g := by
  exact wp_vret dX7_goDownSwapped_74 rfl hq
theorem b_X7_bestOrder_0 {d : Nat} {Q : Option pV → pG → Prop} {g : pG} {v1 : Int} (k1 : ((g 1) 3 ≤ 5) → EV d mX7_bestOrder Q 18 [vR 0, vI v1, vX 2] [] g) (k2 : ¬ ((g 1) 3 ≤ 5) → EV d mX7_bestOrder Q 11 [vR 0, vI v1, vX 2] [] g) : EV d mX7_bestOrder Q 0 [vR 0, vI v1, vX 2] [] g := by
  refine wp_aload_n dX7_bestOrder_0 rfl rfl ?_
  refine wp_get (v := vR 1) dX7_bestOrder_1 fl_7_10 L_0 rfl ?_
  refine wp_get (v := vI ((g 1) 3)) dX7_bestOrder_4 fl_7_152 L_1 rfl ?_
  refine wp_iconst dX7_bestOrder_7 kc_5 ?_
  exact wp_icmp_le (tgt := 18) dX7_bestOrder_8 rfl k1 k2
theorem b_X7_bestOrder_11 {d : Nat} {Q : Option pV → pG → Prop} {g : pG} {v1 : Int} {R : Int → pG → Prop} (hc : CT d mX7_refuseHigh [vR 0, vI (-3)] g (qI R)) (k : ∀ (x : Int) (gg : pG), R x gg → EV d mX7_bestOrder Q 17 [vR 0, vI v1, vX 2] [vI x] gg) : EV d mX7_bestOrder Q 11 [vR 0, vI v1, vX 2] [] g := by
  refine wp_aload_n dX7_bestOrder_11 rfl rfl ?_
  refine wp_bipush dX7_bestOrder_12 kb_m3 kc_m3 ?_
  exact wp_callvI (As := [vI (-3)]) dX7_bestOrder_14 ml_7_124 (by decide) rfl L_0 (by decide) rfl (Nat.le_of_ble_eq_true rfl) rfl (Nat.le_refl _) (Nat.le_refl _) hc k
theorem b_X7_bestOrder_17 {d : Nat} {Q : Option pV → pG → Prop} {g : pG} {v1 vs0 : Int} (hq : Q (some (vI vs0)) g) : EV d mX7_bestOrder Q 17 [vR 0, vI v1, vX 2] [vI vs0] g := by
  exact wp_iret dX7_bestOrder_17 rfl hq
theorem b_X7_bestOrder_18 {d : Nat} {Q : Option pV → pG → Prop} {g : pG} {v1 : Int} (k1 : ((-1) ≤ v1) → EV d mX7_bestOrder Q 30 [vR 0, vI v1, vX 2] [] g) (k2 : ¬ ((-1) ≤ v1) → EV d mX7_bestOrder Q 23 [vR 0, vI v1, vX 2] [] g) : EV d mX7_bestOrder Q 18 [vR 0, vI v1, vX 2] [] g := by
  refine wp_iload_n dX7_bestOrder_18 rfl ?_
  refine wp_iconst dX7_bestOrder_19 kc_m1 ?_
  exact wp_icmp_ge (tgt := 30) dX7_bestOrder_20 rfl k1 k2
theorem b_X7_bestOrder_23 {d : Nat} {Q : Option pV → pG → Prop} {g : pG} {v1 : Int} {R : Int → pG → Prop} (hc : CT d mX7_refuseHigh [vR 0, vI (-4)] g (qI R)) (k : ∀ (x : Int) (gg : pG), R x gg → EV d mX7_bestOrder Q 29 [vR 0, vI v1, vX 2] [vI x] gg) : EV d mX7_bestOrder Q 23 [vR 0, vI v1, vX 2] [] g := by
  refine wp_aload_n dX7_bestOrder_23 rfl rfl ?_
  refine wp_bipush dX7_bestOrder_24 kb_m4 kc_m4 ?_
  exact wp_callvI (As := [vI (-4)]) dX7_bestOrder_26 ml_7_124 (by decide) rfl L_0 (by decide) rfl (Nat.le_of_ble_eq_true rfl) rfl (Nat.le_refl _) (Nat.le_refl _) hc k
theorem b_X7_bestOrder_29 {d : Nat} {Q : Option pV → pG → Prop} {g : pG} {v1 vs0 : Int} (hq : Q (some (vI vs0)) g) : EV d mX7_bestOrder Q 29 [vR 0, vI v1, vX 2] [vI vs0] g := by
  exact wp_iret dX7_bestOrder_29 rfl hq
theorem b_X7_bestOrder_30 {d : Nat} {Q : Option pV → pG → Prop} {g : pG} {v1 : Int} {R : Int → pG → Prop} (hc : CT d mX7_findBestOrder [vR 0] g (qI R)) (k : ∀ (x : Int) (gg : pG), R x gg → EV d mX7_bestOrder Q 34 [vR 0, vI v1, vX 2] [vI x] gg) : EV d mX7_bestOrder Q 30 [vR 0, vI v1, vX 2] [] g := by
  refine wp_aload_n dX7_bestOrder_30 rfl rfl ?_
  exact wp_callvI (As := []) dX7_bestOrder_31 ml_7_297 (by decide) rfl L_0 (by decide) rfl (Nat.le_of_ble_eq_true rfl) rfl (Nat.le_refl _) (Nat.le_refl _) hc k
theorem b_X7_bestOrder_34 {d : Nat} {Q : Option pV → pG → Prop} {g : pG} {v1 vs0 : Int} (k1 : (v1 ≠ (-1)) → EV d mX7_bestOrder Q 42 [vR 0, vI v1, vI vs0] [] g) (k2 : ¬ (v1 ≠ (-1)) → EV d mX7_bestOrder Q 40 [vR 0, vI v1, vI vs0] [] g) : EV d mX7_bestOrder Q 34 [vR 0, vI v1, vX 2] [vI vs0] g := by
  refine wp_istore_n dX7_bestOrder_34 (Nat.le_of_ble_eq_true rfl) (pp (c := 1) rfl rfl) ?_
  refine wp_iload_n dX7_bestOrder_35 rfl ?_
  refine wp_iconst dX7_bestOrder_36 kc_m1 ?_
  exact wp_icmp_ne (tgt := 42) dX7_bestOrder_37 rfl k1 k2
theorem b_X7_bestOrder_40 {d : Nat} {Q : Option pV → pG → Prop} {g : pG} {v1 v2 : Int} (hq : Q (some (vI v2)) g) : EV d mX7_bestOrder Q 40 [vR 0, vI v1, vI v2] [] g := by
  refine wp_iload_n dX7_bestOrder_40 rfl ?_
  exact wp_iret dX7_bestOrder_41 rfl hq
theorem b_X7_bestOrder_42 {d : Nat} {Q : Option pV → pG → Prop} {g : pG} {v1 v2 : Int} (k1 : ((g 1) 3 ≤ v1) → EV d mX7_bestOrder Q 71 [vR 0, vI v1, vI v2] [] g) (k2 : ¬ ((g 1) 3 ≤ v1) → EV d mX7_bestOrder Q 53 [vR 0, vI v1, vI v2] [] g) : EV d mX7_bestOrder Q 42 [vR 0, vI v1, vI v2] [] g := by
  refine wp_iload_n dX7_bestOrder_42 rfl ?_
  refine wp_aload_n dX7_bestOrder_43 rfl rfl ?_
  refine wp_get (v := vR 1) dX7_bestOrder_44 fl_7_10 L_0 rfl ?_
  refine wp_get (v := vI ((g 1) 3)) dX7_bestOrder_47 fl_7_152 L_1 rfl ?_
  exact wp_icmp_ge (tgt := 71) dX7_bestOrder_50 rfl k1 k2
theorem b_X7_bestOrder_53 {d : Nat} {Q : Option pV → pG → Prop} {g : pG} {v1 v2 : Int} (k1 : (5 ≤ v1) → EV d mX7_bestOrder Q 71 [vR 0, vI v1, vI v2] [] g) (k2 : ¬ (5 ≤ v1) → EV d mX7_bestOrder Q 62 [vR 0, vI v1, vI v2] [] g) : EV d mX7_bestOrder Q 53 [vR 0, vI v1, vI v2] [] g := by
  refine wp_iload_n dX7_bestOrder_53 rfl ?_
  refine wp_aload_n dX7_bestOrder_54 rfl rfl ?_
  refine wp_get (v := vR 44) dX7_bestOrder_55 fl_7_88 L_0 rfl ?_
  refine wp_alen (N := 5) dX7_bestOrder_58 L_44 (by decide) (by decide) kc_5 ?_
  exact wp_icmp_ge (tgt := 71) dX7_bestOrder_59 rfl k1 k2
theorem b_X7_bestOrder_62 {d : Nat} {Q : Option pV → pG → Prop} {g : pG} {v1 v2 : Int} (h1 : 0 ≤ v1) (h2 : v1 < 5) (hq : Q (some (vI ((g 44) v1.toNat))) g) : EV d mX7_bestOrder Q 62 [vR 0, vI v1, vI v2] [] g := by
  refine wp_aload_n dX7_bestOrder_62 rfl rfl ?_
  refine wp_get (v := vR 44) dX7_bestOrder_63 fl_7_88 L_0 rfl ?_
  refine wp_iload_n dX7_bestOrder_66 rfl ?_
  refine wp_iaload dX7_bestOrder_67 h1 L_44 h2 ?_
  refine wp_goto (tgt := 73) dX7_bestOrder_68 rfl ?_
  exact wp_iret dX7_bestOrder_73 rfl hq
theorem b_X7_bestOrder_71 {d : Nat} {Q : Option pV → pG → Prop} {g : pG} {v1 v2 : Int} (hq : Q (some (vI (-9))) g) : EV d mX7_bestOrder Q 71 [vR 0, vI v1, vI v2] [] g := by
  refine wp_bipush dX7_bestOrder_71 kb_m9 kc_m9 ?_
  exact wp_iret dX7_bestOrder_73 rfl hq
theorem b_X7_findBestOrder_0 {d : Nat} {Q : Option pV → pG → Prop} {g : pG} (k : EV d mX7_findBestOrder Q 18 [vR 0, vI (zmin ((g 1) 3) 5), vI 0, vX 2, vX 2, vX 2] [] g) : EV d mX7_findBestOrder Q 0 [vR 0, vX 2, vX 2, vX 2, vX 2, vX 2] [] g := by
  refine wp_aload_n dX7_findBestOrder_0 rfl rfl ?_
  refine wp_get (v := vR 1) dX7_findBestOrder_1 fl_7_10 L_0 rfl ?_
  refine wp_get (v := vI ((g 1) 3)) dX7_findBestOrder_4 fl_7_152 L_1 rfl ?_
  refine wp_aload_n dX7_findBestOrder_7 rfl rfl ?_
  refine wp_get (v := vR 43) dX7_findBestOrder_8 fl_7_85 L_0 rfl ?_
  refine wp_alen (N := 5) dX7_findBestOrder_11 L_43 (by decide) (by decide) kc_5 ?_
  refine wp_min dX7_findBestOrder_12 xl_7_359 (Nat.le_refl _) (Nat.le_refl _) (Nat.le_of_ble_eq_true rfl) ?_
  refine wp_istore_n dX7_findBestOrder_15 (Nat.le_of_ble_eq_true rfl) (pp (c := 0) rfl rfl) ?_
  refine wp_iconst dX7_findBestOrder_16 kc_0 ?_
  refine wp_istore_n dX7_findBestOrder_17 (Nat.le_of_ble_eq_true rfl) (pp (c := 1) rfl rfl) ?_
  exact k
theorem b_X7_findBestOrder_18 {d : Nat} {Q : Option pV → pG → Prop} {g : pG} {v1 v2 : Int} (k1 : (v1 ≤ v2) → EV d mX7_findBestOrder Q 36 [vR 0, vI v1, vI v2, vX 2, vX 2, vX 2] [] g) (k2 : ¬ (v1 ≤ v2) → EV d mX7_findBestOrder Q 23 [vR 0, vI v1, vI v2, vX 2, vX 2, vX 2] [] g) : EV d mX7_findBestOrder Q 18 [vR 0, vI v1, vI v2, vX 2, vX 2, vX 2] [] g := by
  refine wp_iload_n dX7_findBestOrder_18 rfl ?_
  refine wp_iload_n dX7_findBestOrder_19 rfl ?_
  exact wp_icmp_ge (tgt := 36) dX7_findBestOrder_20 rfl k1 k2
theorem b_X7_findBestOrder_23 {d : Nat} {Q : Option pV → pG → Prop} {g : pG} {v1 v2 : Int} (h1 : 0 ≤ v2) (h2 : v2 < 5) (k : EV d mX7_findBestOrder Q 18 [vR 0, vI v1, vI (w32 (v2 + 1)), vX 2, vX 2, vX 2] [] (cset g 43 (fup (g 43) v2.toNat v2))) : EV d mX7_findBestOrder Q 23 [vR 0, vI v1, vI v2, vX 2, vX 2, vX 2] [] g := by
  refine wp_aload_n dX7_findBestOrder_23 rfl rfl ?_
  refine wp_get (v := vR 43) dX7_findBestOrder_24 fl_7_85 L_0 rfl ?_
  refine wp_iload_n dX7_findBestOrder_27 rfl ?_
  refine wp_iload_n dX7_findBestOrder_28 rfl ?_
  refine wp_iastore dX7_findBestOrder_29 h1 L_43 h2 ?_
  refine wp_iinc dX7_findBestOrder_30 rfl (Nat.le_of_ble_eq_true rfl) (pp (c := 1) rfl rfl) ?_
  refine wp_goto (tgt := 18) dX7_findBestOrder_33 rfl ?_
  exact k
theorem b_X7_findBestOrder_36 {d : Nat} {Q : Option pV → pG → Prop} {g : pG} {v1 v2 : Int} (k : EV d mX7_findBestOrder Q 44 [vR 0, vI v1, vI (-1000000000), vI 1, vI 0, vX 2] [] g) : EV d mX7_findBestOrder Q 36 [vR 0, vI v1, vI v2, vX 2, vX 2, vX 2] [] g := by
  refine wp_ldc dX7_findBestOrder_36 kl_7_240 ?_
  refine wp_istore_n dX7_findBestOrder_38 (Nat.le_of_ble_eq_true rfl) (pp (c := 1) rfl rfl) ?_
  refine wp_iconst dX7_findBestOrder_39 kc_1 ?_
  refine wp_istore_n dX7_findBestOrder_40 (Nat.le_of_ble_eq_true rfl) (pp (c := 2) rfl rfl) ?_
  refine wp_iconst dX7_findBestOrder_41 kc_0 ?_
  refine wp_istore dX7_findBestOrder_42 (Nat.le_of_ble_eq_true rfl) (pp (c := 3) rfl rfl) ?_
  exact k
theorem b_X7_findBestOrder_44 {d : Nat} {Q : Option pV → pG → Prop} {g : pG} {v1 v2 v3 v4 : Int} {u5 : pV} (k1 : (120 ≤ v4) → EV d mX7_findBestOrder Q 147 [vR 0, vI v1, vI v2, vI v3, vI v4, u5] [] g) (k2 : ¬ (120 ≤ v4) → EV d mX7_findBestOrder Q 51 [vR 0, vI v1, vI v2, vI v3, vI v4, u5] [] g) : EV d mX7_findBestOrder Q 44 [vR 0, vI v1, vI v2, vI v3, vI v4, u5] [] g := by
  refine wp_iload dX7_findBestOrder_44 rfl ?_
  refine wp_bipush dX7_findBestOrder_46 kb_120 kc_120 ?_
  exact wp_icmp_ge (tgt := 147) dX7_findBestOrder_48 rfl k1 k2
theorem b_X7_findBestOrder_51 {d : Nat} {Q : Option pV → pG → Prop} {g : pG} {v1 v2 v3 v4 : Int} {u5 : pV} (k1 : (v3 = 0) → EV d mX7_findBestOrder Q 147 [vR 0, vI v1, vI v2, vI v3, vI v4, u5] [] g) (k2 : ¬ (v3 = 0) → EV d mX7_findBestOrder Q 55 [vR 0, vI v1, vI v2, vI v3, vI v4, u5] [] g) : EV d mX7_findBestOrder Q 51 [vR 0, vI v1, vI v2, vI v3, vI v4, u5] [] g := by
  refine wp_iload_n dX7_findBestOrder_51 rfl ?_
  exact wp_if_eq (tgt := 147) dX7_findBestOrder_52 rfl k1 k2
theorem b_X7_findBestOrder_55 {d : Nat} {Q : Option pV → pG → Prop} {g : pG} {v1 v2 v3 v4 : Int} {u5 : pV} {R : pG → Prop} (hc : CT d mX3_copyFrom [vR 27, vR 5] g (qV R)) (k : ∀ gg : pG, R gg → EV d mX7_findBestOrder Q 69 [vR 0, vI v1, vI v2, vI v3, vI v4, u5] [] gg) : EV d mX7_findBestOrder Q 55 [vR 0, vI v1, vI v2, vI v3, vI v4, u5] [] g := by
  refine wp_aload_n dX7_findBestOrder_55 rfl rfl ?_
  refine wp_get (v := vR 27) dX7_findBestOrder_56 fl_7_54 L_0 rfl ?_
  refine wp_aload_n dX7_findBestOrder_59 rfl rfl ?_
  refine wp_get (v := vR 1) dX7_findBestOrder_60 fl_7_10 L_0 rfl ?_
  refine wp_get (v := vR 5) dX7_findBestOrder_63 fl_7_118 L_1 rfl ?_
  exact wp_callvV (As := [vR 5]) dX7_findBestOrder_66 ml_7_236 (by decide) rfl L_27 (by decide) rfl (Nat.le_of_ble_eq_true rfl) rfl (Nat.le_refl _) (Nat.le_refl _) hc k
theorem b_X7_findBestOrder_69 {d : Nat} {Q : Option pV → pG → Prop} {g : pG} {v1 v2 v3 v4 : Int} {u5 : pV} (k : EV d mX7_findBestOrder Q 72 [vR 0, vI v1, vI v2, vI v3, vI v4, vI 0] [] g) : EV d mX7_findBestOrder Q 69 [vR 0, vI v1, vI v2, vI v3, vI v4, u5] [] g := by
  refine wp_iconst dX7_findBestOrder_69 kc_0 ?_
  refine wp_istore dX7_findBestOrder_70 (Nat.le_of_ble_eq_true rfl) (pp (c := 4) rfl rfl) ?_
  exact k
theorem b_X7_findBestOrder_72 {d : Nat} {Q : Option pV → pG → Prop} {g : pG} {v1 v2 v3 v4 v5 : Int} (k1 : (v1 ≤ v5) → EV d mX7_findBestOrder Q 102 [vR 0, vI v1, vI v2, vI v3, vI v4, vI v5] [] g) (k2 : ¬ (v1 ≤ v5) → EV d mX7_findBestOrder Q 78 [vR 0, vI v1, vI v2, vI v3, vI v4, vI v5] [] g) : EV d mX7_findBestOrder Q 72 [vR 0, vI v1, vI v2, vI v3, vI v4, vI v5] [] g := by
  refine wp_iload dX7_findBestOrder_72 rfl ?_
  refine wp_iload_n dX7_findBestOrder_74 rfl ?_
  exact wp_icmp_ge (tgt := 102) dX7_findBestOrder_75 rfl k1 k2
theorem b_X7_findBestOrder_78 {d : Nat} {Q : Option pV → pG → Prop} {g : pG} {v1 v2 v3 v4 v5 : Int} {R : pG → Prop} (h1 : 0 ≤ v5) (h2 : v5 < 5) (hc : CT d mX5_hear [vR 1, vI ((g 43) v5.toNat), vR 27] g (qV R)) (k : ∀ gg : pG, R gg → EV d mX7_findBestOrder Q 96 [vR 0, vI v1, vI v2, vI v3, vI v4, vI v5] [] gg) : EV d mX7_findBestOrder Q 78 [vR 0, vI v1, vI v2, vI v3, vI v4, vI v5] [] g := by
  refine wp_aload_n dX7_findBestOrder_78 rfl rfl ?_
  refine wp_get (v := vR 1) dX7_findBestOrder_79 fl_7_10 L_0 rfl ?_
  refine wp_aload_n dX7_findBestOrder_82 rfl rfl ?_
  refine wp_get (v := vR 43) dX7_findBestOrder_83 fl_7_85 L_0 rfl ?_
  refine wp_iload dX7_findBestOrder_86 rfl ?_
  refine wp_iaload dX7_findBestOrder_88 h1 L_43 h2 ?_
  refine wp_aload_n dX7_findBestOrder_89 rfl rfl ?_
  refine wp_get (v := vR 27) dX7_findBestOrder_90 fl_7_54 L_0 rfl ?_
  exact wp_callvV (As := [vI ((g 43) v5.toNat), vR 27]) dX7_findBestOrder_93 ml_7_186 (by decide) rfl L_1 (by decide) rfl (Nat.le_of_ble_eq_true rfl) rfl (Nat.le_refl _) (Nat.le_refl _) hc k
theorem b_X7_findBestOrder_96 {d : Nat} {Q : Option pV → pG → Prop} {g : pG} {v1 v2 v3 v4 v5 : Int} (k : EV d mX7_findBestOrder Q 72 [vR 0, vI v1, vI v2, vI v3, vI v4, vI (w32 (v5 + 1))] [] g) : EV d mX7_findBestOrder Q 96 [vR 0, vI v1, vI v2, vI v3, vI v4, vI v5] [] g := by
  refine wp_iinc dX7_findBestOrder_96 rfl (Nat.le_of_ble_eq_true rfl) (pp (c := 4) rfl rfl) ?_
  refine wp_goto (tgt := 72) dX7_findBestOrder_99 rfl ?_
  exact k
theorem b_X7_findBestOrder_102 {d : Nat} {Q : Option pV → pG → Prop} {g : pG} {v1 v2 v3 v4 v5 : Int} {R : Int → pG → Prop} (hc : CT d mX3_sum [vR 27] g (qI R)) (k : ∀ (x : Int) (gg : pG), R x gg → EV d mX7_findBestOrder Q 109 [vR 0, vI v1, vI v2, vI v3, vI v4, vI v5] [vI x] gg) : EV d mX7_findBestOrder Q 102 [vR 0, vI v1, vI v2, vI v3, vI v4, vI v5] [] g := by
  refine wp_aload_n dX7_findBestOrder_102 rfl rfl ?_
  refine wp_get (v := vR 27) dX7_findBestOrder_103 fl_7_54 L_0 rfl ?_
  exact wp_callvI (As := []) dX7_findBestOrder_106 ml_7_183 (by decide) rfl L_27 (by decide) rfl (Nat.le_of_ble_eq_true rfl) rfl (Nat.le_refl _) (Nat.le_refl _) hc k
theorem b_X7_findBestOrder_109 {d : Nat} {Q : Option pV → pG → Prop} {g : pG} {v1 v2 v3 v4 v5 vs0 : Int} (k1 : (vs0 ≤ v2) → EV d mX7_findBestOrder Q 135 [vR 0, vI v1, vI v2, vI v3, vI v4, vI v5] [] g) (k2 : ¬ (vs0 ≤ v2) → EV d mX7_findBestOrder Q 113 [vR 0, vI v1, vI v2, vI v3, vI v4, vI v5] [] g) : EV d mX7_findBestOrder Q 109 [vR 0, vI v1, vI v2, vI v3, vI v4, vI v5] [vI vs0] g := by
  refine wp_iload_n dX7_findBestOrder_109 rfl ?_
  exact wp_icmp_le (tgt := 135) dX7_findBestOrder_110 rfl k1 k2
theorem b_X7_findBestOrder_113 {d : Nat} {Q : Option pV → pG → Prop} {g : pG} {v1 v2 v3 v4 v5 : Int} {R : Int → pG → Prop} (hc : CT d mX3_sum [vR 27] g (qI R)) (k : ∀ (x : Int) (gg : pG), R x gg → EV d mX7_findBestOrder Q 120 [vR 0, vI v1, vI v2, vI v3, vI v4, vI v5] [vI x] gg) : EV d mX7_findBestOrder Q 113 [vR 0, vI v1, vI v2, vI v3, vI v4, vI v5] [] g := by
  refine wp_aload_n dX7_findBestOrder_113 rfl rfl ?_
  refine wp_get (v := vR 27) dX7_findBestOrder_114 fl_7_54 L_0 rfl ?_
  exact wp_callvI (As := []) dX7_findBestOrder_117 ml_7_183 (by decide) rfl L_27 (by decide) rfl (Nat.le_of_ble_eq_true rfl) rfl (Nat.le_refl _) (Nat.le_refl _) hc k
theorem b_X7_findBestOrder_120 {d : Nat} {Q : Option pV → pG → Prop} {g : pG} {v1 v2 v3 v4 v5 vs0 : Int} {R : Int → pG → Prop} (h1 : 0 ≤ v1) (h2 : 0 + v1 ≤ 5) (hc : CT d mX7_toNextOrder [vR 0, vI v1] (cset g 44 (fcp (g 43) (g 44) 0 0 v1.toNat)) (qI R)) (k : ∀ (x : Int) (gg : pG), R x gg → EV d mX7_findBestOrder Q 140 [vR 0, vI v1, vI vs0, vI v3, vI v4, vI v5] [vI x] gg) : EV d mX7_findBestOrder Q 120 [vR 0, vI v1, vI v2, vI v3, vI v4, vI v5] [vI vs0] g := by
  refine wp_istore_n dX7_findBestOrder_120 (Nat.le_of_ble_eq_true rfl) (pp (c := 1) rfl rfl) ?_
  refine wp_aload_n dX7_findBestOrder_121 rfl rfl ?_
  refine wp_get (v := vR 43) dX7_findBestOrder_122 fl_7_85 L_0 rfl ?_
  refine wp_iconst dX7_findBestOrder_125 kc_0 ?_
  refine wp_aload_n dX7_findBestOrder_126 rfl rfl ?_
  refine wp_get (v := vR 44) dX7_findBestOrder_127 fl_7_88 L_0 rfl ?_
  refine wp_iconst dX7_findBestOrder_130 kc_0 ?_
  refine wp_iload_n dX7_findBestOrder_131 rfl ?_
  refine wp_acopy (n0 := 5) (n1 := 5) dX7_findBestOrder_132 al_7_365 L_43 L_44 h1 (by decide) (by decide) h2 h2 (Nat.le_of_ble_eq_true rfl) ?_
  refine wp_aload_n dX7_findBestOrder_135 rfl rfl ?_
  refine wp_iload_n dX7_findBestOrder_136 rfl ?_
  exact wp_callvI (As := [vI v1]) dX7_findBestOrder_137 ml_7_371 (by decide) rfl L_0 (by decide) rfl (Nat.le_of_ble_eq_true rfl) rfl (Nat.le_refl _) (Nat.le_refl _) hc k
theorem b_X7_findBestOrder_135 {d : Nat} {Q : Option pV → pG → Prop} {g : pG} {v1 v2 v3 v4 v5 : Int} {R : Int → pG → Prop} (hc : CT d mX7_toNextOrder [vR 0, vI v1] g (qI R)) (k : ∀ (x : Int) (gg : pG), R x gg → EV d mX7_findBestOrder Q 140 [vR 0, vI v1, vI v2, vI v3, vI v4, vI v5] [vI x] gg) : EV d mX7_findBestOrder Q 135 [vR 0, vI v1, vI v2, vI v3, vI v4, vI v5] [] g := by
  refine wp_aload_n dX7_findBestOrder_135 rfl rfl ?_
  refine wp_iload_n dX7_findBestOrder_136 rfl ?_
  exact wp_callvI (As := [vI v1]) dX7_findBestOrder_137 ml_7_371 (by decide) rfl L_0 (by decide) rfl (Nat.le_of_ble_eq_true rfl) rfl (Nat.le_refl _) (Nat.le_refl _) hc k
theorem b_X7_findBestOrder_140 {d : Nat} {Q : Option pV → pG → Prop} {g : pG} {v1 v2 v3 v4 v5 vs0 : Int} (k : EV d mX7_findBestOrder Q 44 [vR 0, vI v1, vI v2, vI vs0, vI (w32 (v4 + 1)), vI v5] [] g) : EV d mX7_findBestOrder Q 140 [vR 0, vI v1, vI v2, vI v3, vI v4, vI v5] [vI vs0] g := by
  refine wp_istore_n dX7_findBestOrder_140 (Nat.le_of_ble_eq_true rfl) (pp (c := 2) rfl rfl) ?_
  refine wp_iinc dX7_findBestOrder_141 rfl (Nat.le_of_ble_eq_true rfl) (pp (c := 3) rfl rfl) ?_
  refine wp_goto (tgt := 44) dX7_findBestOrder_144 rfl ?_
  exact k
theorem b_X7_findBestOrder_147 {d : Nat} {Q : Option pV → pG → Prop} {g : pG} {v1 v2 v3 v4 : Int} {u5 : pV} (hq : Q (some (vI v2)) g) : EV d mX7_findBestOrder Q 147 [vR 0, vI v1, vI v2, vI v3, vI v4, u5] [] g := by
  refine wp_iload_n dX7_findBestOrder_147 rfl ?_
  exact wp_iret dX7_findBestOrder_148 rfl hq
theorem b_X7_toNextOrder_0 {d : Nat} {Q : Option pV → pG → Prop} {g : pG} {v1 : Int} (k : EV d mX7_toNextOrder Q 4 [vR 0, vI v1, vI (w32 (v1 - 2)), vX 2, vX 2, vX 2] [] g) : EV d mX7_toNextOrder Q 0 [vR 0, vI v1, vX 2, vX 2, vX 2, vX 2] [] g := by
  refine wp_iload_n dX7_toNextOrder_0 rfl ?_
  refine wp_iconst dX7_toNextOrder_1 kc_2 ?_
  refine wp_isub dX7_toNextOrder_2 ?_
  refine wp_istore_n dX7_toNextOrder_3 (Nat.le_of_ble_eq_true rfl) (pp (c := 1) rfl rfl) ?_
  exact k
theorem b_X7_toNextOrder_4 {d : Nat} {Q : Option pV → pG → Prop} {g : pG} {v1 v2 : Int} (k1 : (v2 < 0) → EV d mX7_toNextOrder Q 31 [vR 0, vI v1, vI v2, vX 2, vX 2, vX 2] [] g) (k2 : ¬ (v2 < 0) → EV d mX7_toNextOrder Q 8 [vR 0, vI v1, vI v2, vX 2, vX 2, vX 2] [] g) : EV d mX7_toNextOrder Q 4 [vR 0, vI v1, vI v2, vX 2, vX 2, vX 2] [] g := by
  refine wp_iload_n dX7_toNextOrder_4 rfl ?_
  exact wp_if_lt (tgt := 31) dX7_toNextOrder_5 rfl k1 k2
theorem b_X7_toNextOrder_8 {d : Nat} {Q : Option pV → pG → Prop} {g : pG} {v1 v2 : Int} (h1 : 0 ≤ v2) (h2 : v2 < 5) (h3 : 0 ≤ w32 (v2 + 1)) (h4 : w32 (v2 + 1) < 5) (k1 : ((g 43) v2.toNat ≤ (g 43) (w32 (v2 + 1)).toNat) → EV d mX7_toNextOrder Q 31 [vR 0, vI v1, vI v2, vX 2, vX 2, vX 2] [] g) (k2 : ¬ ((g 43) v2.toNat ≤ (g 43) (w32 (v2 + 1)).toNat) → EV d mX7_toNextOrder Q 25 [vR 0, vI v1, vI v2, vX 2, vX 2, vX 2] [] g) : EV d mX7_toNextOrder Q 8 [vR 0, vI v1, vI v2, vX 2, vX 2, vX 2] [] g := by
  refine wp_aload_n dX7_toNextOrder_8 rfl rfl ?_
  refine wp_get (v := vR 43) dX7_toNextOrder_9 fl_7_85 L_0 rfl ?_
  refine wp_iload_n dX7_toNextOrder_12 rfl ?_
  refine wp_iaload dX7_toNextOrder_13 h1 L_43 h2 ?_
  refine wp_aload_n dX7_toNextOrder_14 rfl rfl ?_
  refine wp_get (v := vR 43) dX7_toNextOrder_15 fl_7_85 L_0 rfl ?_
  refine wp_iload_n dX7_toNextOrder_18 rfl ?_
  refine wp_iconst dX7_toNextOrder_19 kc_1 ?_
  refine wp_iadd dX7_toNextOrder_20 ?_
  refine wp_iaload dX7_toNextOrder_21 h3 L_43 h4 ?_
  exact wp_icmp_le (tgt := 31) dX7_toNextOrder_22 rfl k1 k2
theorem b_X7_toNextOrder_25 {d : Nat} {Q : Option pV → pG → Prop} {g : pG} {v1 v2 : Int} (k : EV d mX7_toNextOrder Q 4 [vR 0, vI v1, vI (w32 (v2 + (-1))), vX 2, vX 2, vX 2] [] g) : EV d mX7_toNextOrder Q 25 [vR 0, vI v1, vI v2, vX 2, vX 2, vX 2] [] g := by
  refine wp_iinc dX7_toNextOrder_25 rfl (Nat.le_of_ble_eq_true rfl) (pp (c := 1) rfl rfl) ?_
  refine wp_goto (tgt := 4) dX7_toNextOrder_28 rfl ?_
  exact k
theorem b_X7_toNextOrder_31 {d : Nat} {Q : Option pV → pG → Prop} {g : pG} {v1 v2 : Int} (k1 : (0 ≤ v2) → EV d mX7_toNextOrder Q 37 [vR 0, vI v1, vI v2, vX 2, vX 2, vX 2] [] g) (k2 : ¬ (0 ≤ v2) → EV d mX7_toNextOrder Q 35 [vR 0, vI v1, vI v2, vX 2, vX 2, vX 2] [] g) : EV d mX7_toNextOrder Q 31 [vR 0, vI v1, vI v2, vX 2, vX 2, vX 2] [] g := by
  refine wp_iload_n dX7_toNextOrder_31 rfl ?_
  exact wp_if_ge (tgt := 37) dX7_toNextOrder_32 rfl k1 k2
theorem b_X7_toNextOrder_35 {d : Nat} {Q : Option pV → pG → Prop} {g : pG} {v1 v2 : Int} (hq : Q (some (vI 0)) g) : EV d mX7_toNextOrder Q 35 [vR 0, vI v1, vI v2, vX 2, vX 2, vX 2] [] g := by
  refine wp_iconst dX7_toNextOrder_35 kc_0 ?_
  exact wp_zret dX7_toNextOrder_36 rfl (Or.inl rfl) hq
theorem b_X7_toNextOrder_37 {d : Nat} {Q : Option pV → pG → Prop} {g : pG} {v1 v2 : Int} (k : EV d mX7_toNextOrder Q 41 [vR 0, vI v1, vI v2, vI (w32 (v1 - 1)), vX 2, vX 2] [] g) : EV d mX7_toNextOrder Q 37 [vR 0, vI v1, vI v2, vX 2, vX 2, vX 2] [] g := by
  refine wp_iload_n dX7_toNextOrder_37 rfl ?_
  refine wp_iconst dX7_toNextOrder_38 kc_1 ?_
  refine wp_isub dX7_toNextOrder_39 ?_
  refine wp_istore_n dX7_toNextOrder_40 (Nat.le_of_ble_eq_true rfl) (pp (c := 2) rfl rfl) ?_
  exact k
theorem b_X7_toNextOrder_41 {d : Nat} {Q : Option pV → pG → Prop} {g : pG} {v1 v2 v3 : Int} (k1 : (v3 ≤ v2) → EV d mX7_toNextOrder Q 67 [vR 0, vI v1, vI v2, vI v3, vX 2, vX 2] [] g) (k2 : ¬ (v3 ≤ v2) → EV d mX7_toNextOrder Q 46 [vR 0, vI v1, vI v2, vI v3, vX 2, vX 2] [] g) : EV d mX7_toNextOrder Q 41 [vR 0, vI v1, vI v2, vI v3, vX 2, vX 2] [] g := by
  refine wp_iload_n dX7_toNextOrder_41 rfl ?_
  refine wp_iload_n dX7_toNextOrder_42 rfl ?_
  exact wp_icmp_le (tgt := 67) dX7_toNextOrder_43 rfl k1 k2
theorem b_X7_toNextOrder_46 {d : Nat} {Q : Option pV → pG → Prop} {g : pG} {v1 v2 v3 : Int} (h1 : 0 ≤ v3) (h2 : v3 < 5) (h3 : 0 ≤ v2) (h4 : v2 < 5) (k1 : ((g 43) v2.toNat ≤ (g 43) v3.toNat) → EV d mX7_toNextOrder Q 67 [vR 0, vI v1, vI v2, vI v3, vX 2, vX 2] [] g) (k2 : ¬ ((g 43) v2.toNat ≤ (g 43) v3.toNat) → EV d mX7_toNextOrder Q 61 [vR 0, vI v1, vI v2, vI v3, vX 2, vX 2] [] g) : EV d mX7_toNextOrder Q 46 [vR 0, vI v1, vI v2, vI v3, vX 2, vX 2] [] g := by
  refine wp_aload_n dX7_toNextOrder_46 rfl rfl ?_
  refine wp_get (v := vR 43) dX7_toNextOrder_47 fl_7_85 L_0 rfl ?_
  refine wp_iload_n dX7_toNextOrder_50 rfl ?_
  refine wp_iaload dX7_toNextOrder_51 h1 L_43 h2 ?_
  refine wp_aload_n dX7_toNextOrder_52 rfl rfl ?_
  refine wp_get (v := vR 43) dX7_toNextOrder_53 fl_7_85 L_0 rfl ?_
  refine wp_iload_n dX7_toNextOrder_56 rfl ?_
  refine wp_iaload dX7_toNextOrder_57 h3 L_43 h4 ?_
  exact wp_icmp_ge (tgt := 67) dX7_toNextOrder_58 rfl k1 k2
theorem b_X7_toNextOrder_61 {d : Nat} {Q : Option pV → pG → Prop} {g : pG} {v1 v2 v3 : Int} (k : EV d mX7_toNextOrder Q 41 [vR 0, vI v1, vI v2, vI (w32 (v3 + (-1))), vX 2, vX 2] [] g) : EV d mX7_toNextOrder Q 61 [vR 0, vI v1, vI v2, vI v3, vX 2, vX 2] [] g := by
  refine wp_iinc dX7_toNextOrder_61 rfl (Nat.le_of_ble_eq_true rfl) (pp (c := 2) rfl rfl) ?_
  refine wp_goto (tgt := 41) dX7_toNextOrder_64 rfl ?_
  exact k
theorem b_X7_toNextOrder_67 {d : Nat} {Q : Option pV → pG → Prop} {g : pG} {v1 v2 v3 : Int} {R : pG → Prop} (hc : CT d mX7_swapPlaces [vR 0, vI v2, vI v3] g (qV R)) (k : ∀ gg : pG, R gg → EV d mX7_toNextOrder Q 73 [vR 0, vI v1, vI v2, vI v3, vX 2, vX 2] [] gg) : EV d mX7_toNextOrder Q 67 [vR 0, vI v1, vI v2, vI v3, vX 2, vX 2] [] g := by
  refine wp_aload_n dX7_toNextOrder_67 rfl rfl ?_
  refine wp_iload_n dX7_toNextOrder_68 rfl ?_
  refine wp_iload_n dX7_toNextOrder_69 rfl ?_
  exact wp_callvV (As := [vI v2, vI v3]) dX7_toNextOrder_70 ml_7_374 (by decide) rfl L_0 (by decide) rfl (Nat.le_of_ble_eq_true rfl) rfl (Nat.le_refl _) (Nat.le_refl _) hc k
theorem b_X7_toNextOrder_73 {d : Nat} {Q : Option pV → pG → Prop} {g : pG} {v1 v2 v3 : Int} (k : EV d mX7_toNextOrder Q 83 [vR 0, vI v1, vI v2, vI v3, vI (w32 (v1 - 1)), vI (w32 (v2 + 1))] [] g) : EV d mX7_toNextOrder Q 73 [vR 0, vI v1, vI v2, vI v3, vX 2, vX 2] [] g := by
  refine wp_iload_n dX7_toNextOrder_73 rfl ?_
  refine wp_iconst dX7_toNextOrder_74 kc_1 ?_
  refine wp_isub dX7_toNextOrder_75 ?_
  refine wp_istore dX7_toNextOrder_76 (Nat.le_of_ble_eq_true rfl) (pp (c := 3) rfl rfl) ?_
  refine wp_iload_n dX7_toNextOrder_78 rfl ?_
  refine wp_iconst dX7_toNextOrder_79 kc_1 ?_
  refine wp_iadd dX7_toNextOrder_80 ?_
  refine wp_istore dX7_toNextOrder_81 (Nat.le_of_ble_eq_true rfl) (pp (c := 4) rfl rfl) ?_
  exact k
theorem b_X7_toNextOrder_83 {d : Nat} {Q : Option pV → pG → Prop} {g : pG} {v1 v2 v3 v4 v5 : Int} (k1 : (v4 ≤ v5) → EV d mX7_toNextOrder Q 107 [vR 0, vI v1, vI v2, vI v3, vI v4, vI v5] [] g) (k2 : ¬ (v4 ≤ v5) → EV d mX7_toNextOrder Q 90 [vR 0, vI v1, vI v2, vI v3, vI v4, vI v5] [] g) : EV d mX7_toNextOrder Q 83 [vR 0, vI v1, vI v2, vI v3, vI v4, vI v5] [] g := by
  refine wp_iload dX7_toNextOrder_83 rfl ?_
  refine wp_iload dX7_toNextOrder_85 rfl ?_
  exact wp_icmp_ge (tgt := 107) dX7_toNextOrder_87 rfl k1 k2
theorem b_X7_toNextOrder_90 {d : Nat} {Q : Option pV → pG → Prop} {g : pG} {v1 v2 v3 v4 v5 : Int} {R : pG → Prop} (hc : CT d mX7_swapPlaces [vR 0, vI v5, vI v4] g (qV R)) (k : ∀ gg : pG, R gg → EV d mX7_toNextOrder Q 98 [vR 0, vI v1, vI v2, vI v3, vI v4, vI v5] [] gg) : EV d mX7_toNextOrder Q 90 [vR 0, vI v1, vI v2, vI v3, vI v4, vI v5] [] g := by
  refine wp_aload_n dX7_toNextOrder_90 rfl rfl ?_
  refine wp_iload dX7_toNextOrder_91 rfl ?_
  refine wp_iload dX7_toNextOrder_93 rfl ?_
  exact wp_callvV (As := [vI v5, vI v4]) dX7_toNextOrder_95 ml_7_374 (by decide) rfl L_0 (by decide) rfl (Nat.le_of_ble_eq_true rfl) rfl (Nat.le_refl _) (Nat.le_refl _) hc k
theorem b_X7_toNextOrder_98 {d : Nat} {Q : Option pV → pG → Prop} {g : pG} {v1 v2 v3 v4 v5 : Int} (k : EV d mX7_toNextOrder Q 83 [vR 0, vI v1, vI v2, vI v3, vI (w32 (v4 + (-1))), vI (w32 (v5 + 1))] [] g) : EV d mX7_toNextOrder Q 98 [vR 0, vI v1, vI v2, vI v3, vI v4, vI v5] [] g := by
  refine wp_iinc dX7_toNextOrder_98 rfl (Nat.le_of_ble_eq_true rfl) (pp (c := 3) rfl rfl) ?_
  refine wp_iinc dX7_toNextOrder_101 rfl (Nat.le_of_ble_eq_true rfl) (pp (c := 4) rfl rfl) ?_
  refine wp_goto (tgt := 83) dX7_toNextOrder_104 rfl ?_
  exact k
theorem b_X7_toNextOrder_107 {d : Nat} {Q : Option pV → pG → Prop} {g : pG} {v1 v2 v3 v4 v5 : Int} (hq : Q (some (vI 1)) g) : EV d mX7_toNextOrder Q 107 [vR 0, vI v1, vI v2, vI v3, vI v4, vI v5] [] g := by
  refine wp_iconst dX7_toNextOrder_107 kc_1 ?_
  exact wp_zret dX7_toNextOrder_108 rfl (Or.inr rfl) hq
theorem b_X7_swapPlaces_0 {d : Nat} {Q : Option pV → pG → Prop} {g : pG} {v1 v2 : Int} (h1 : 0 ≤ v1) (h2 : v1 < 5) (h3 : 0 ≤ v2) (h4 : v2 < 5) (hq : Q none (cset (cset g 43 (fup (g 43) v1.toNat ((g 43) v2.toNat))) 43 (fup (fup (g 43) v1.toNat ((g 43) v2.toNat)) v2.toNat ((g 43) v1.toNat)))) : EV d mX7_swapPlaces Q 0 [vR 0, vI v1, vI v2, vX 2] [] g := by
  refine wp_aload_n dX7_swapPlaces_0 rfl rfl ?_
  refine wp_get (v := vR 43) dX7_swapPlaces_1 fl_7_85 L_0 rfl ?_
  refine wp_iload_n dX7_swapPlaces_4 rfl ?_
  refine wp_iaload dX7_swapPlaces_5 h1 L_43 h2 ?_
  refine wp_istore_n dX7_swapPlaces_6 (Nat.le_of_ble_eq_true rfl) (pp (c := 2) rfl rfl) ?_
  refine wp_aload_n dX7_swapPlaces_7 rfl rfl ?_
  refine wp_get (v := vR 43) dX7_swapPlaces_8 fl_7_85 L_0 rfl ?_
  refine wp_iload_n dX7_swapPlaces_11 rfl ?_
  refine wp_aload_n dX7_swapPlaces_12 rfl rfl ?_
  refine wp_get (v := vR 43) dX7_swapPlaces_13 fl_7_85 L_0 rfl ?_
  refine wp_iload_n dX7_swapPlaces_16 rfl ?_
  refine wp_iaload dX7_swapPlaces_17 h3 L_43 h4 ?_
  refine wp_iastore dX7_swapPlaces_18 h1 L_43 h2 ?_
  refine wp_aload_n dX7_swapPlaces_19 rfl rfl ?_
  refine wp_get (v := vR 43) dX7_swapPlaces_20 fl_7_85 L_0 rfl ?_
  refine wp_iload_n dX7_swapPlaces_23 rfl ?_
  refine wp_iload_n dX7_swapPlaces_24 rfl ?_
  refine wp_iastore dX7_swapPlaces_25 h3 L_43 h4 ?_
  exact wp_vret dX7_swapPlaces_26 rfl hq
theorem b_X7_needed_0 {d : Nat} {Q : Option pV → pG → Prop} {g : pG} {v1 : Int} {R : Int → pG → Prop} (hc : CT d mX3_has [vR 5, vI v1] g (qI R)) (k : ∀ (x : Int) (gg : pG), R x gg → EV d mX7_needed Q 11 [vR 0, vI v1, vX 2] [vI x] gg) : EV d mX7_needed Q 0 [vR 0, vI v1, vX 2] [] g := by
  refine wp_aload_n dX7_needed_0 rfl rfl ?_
  refine wp_get (v := vR 1) dX7_needed_1 fl_7_10 L_0 rfl ?_
  refine wp_get (v := vR 5) dX7_needed_4 fl_7_118 L_1 rfl ?_
  refine wp_iload_n dX7_needed_7 rfl ?_
  exact wp_callvI (As := [vI v1]) dX7_needed_8 ml_7_121 (by decide) rfl L_5 (by decide) rfl (Nat.le_of_ble_eq_true rfl) rfl (Nat.le_refl _) (Nat.le_refl _) hc k
theorem b_X7_needed_11 {d : Nat} {Q : Option pV → pG → Prop} {g : pG} {v1 vs0 : Int} (k1 : (vs0 ≠ 0) → EV d mX7_needed Q 20 [vR 0, vI v1, vX 2] [] g) (k2 : ¬ (vs0 ≠ 0) → EV d mX7_needed Q 14 [vR 0, vI v1, vX 2] [] g) : EV d mX7_needed Q 11 [vR 0, vI v1, vX 2] [vI vs0] g := by
  exact wp_if_ne (tgt := 20) dX7_needed_11 rfl k1 k2
theorem b_X7_needed_14 {d : Nat} {Q : Option pV → pG → Prop} {g : pG} {v1 : Int} {R : Int → pG → Prop} (hc : CT d mX7_refuse [vR 0, vI (-1)] g (qI R)) (k : ∀ (x : Int) (gg : pG), R x gg → EV d mX7_needed Q 19 [vR 0, vI v1, vX 2] [vI x] gg) : EV d mX7_needed Q 14 [vR 0, vI v1, vX 2] [] g := by
  refine wp_aload_n dX7_needed_14 rfl rfl ?_
  refine wp_iconst dX7_needed_15 kc_m1 ?_
  exact wp_callvI (As := [vI (-1)]) dX7_needed_16 ml_7_91 (by decide) rfl L_0 (by decide) rfl (Nat.le_of_ble_eq_true rfl) rfl (Nat.le_refl _) (Nat.le_refl _) hc k
theorem b_X7_needed_19 {d : Nat} {Q : Option pV → pG → Prop} {g : pG} {v1 vs0 : Int} (hq : Q (some (vI vs0)) g) : EV d mX7_needed Q 19 [vR 0, vI v1, vX 2] [vI vs0] g := by
  exact wp_iret dX7_needed_19 rfl hq
theorem b_X7_needed_20 {d : Nat} {Q : Option pV → pG → Prop} {g : pG} {v1 : Int} (k : EV d mX7_needed Q 23 [vR 0, vI v1, vI (-9)] [] g) : EV d mX7_needed Q 20 [vR 0, vI v1, vX 2] [] g := by
  refine wp_bipush dX7_needed_20 kb_m9 kc_m9 ?_
  refine wp_istore_n dX7_needed_22 (Nat.le_of_ble_eq_true rfl) (pp (c := 1) rfl rfl) ?_
  exact k
theorem b_X7_needed_23 {d : Nat} {Q : Option pV → pG → Prop} {g : pG} {v1 v2 : Int} (k1 : (9 < v2) → EV d mX7_needed Q 88 [vR 0, vI v1, vI v2] [] g) (k2 : ¬ (9 < v2) → EV d mX7_needed Q 29 [vR 0, vI v1, vI v2] [] g) : EV d mX7_needed Q 23 [vR 0, vI v1, vI v2] [] g := by
  refine wp_iload_n dX7_needed_23 rfl ?_
  refine wp_bipush dX7_needed_24 kb_9 kc_9 ?_
  exact wp_icmp_gt (tgt := 88) dX7_needed_26 rfl k1 k2
theorem b_X7_needed_29 {d : Nat} {Q : Option pV → pG → Prop} {g : pG} {v1 v2 : Int} {R : pG → Prop} (hc : CT d mX3_copyFrom [vR 27, vR 5] g (qV R)) (k : ∀ gg : pG, R gg → EV d mX7_needed Q 43 [vR 0, vI v1, vI v2] [] gg) : EV d mX7_needed Q 29 [vR 0, vI v1, vI v2] [] g := by
  refine wp_aload_n dX7_needed_29 rfl rfl ?_
  refine wp_get (v := vR 27) dX7_needed_30 fl_7_54 L_0 rfl ?_
  refine wp_aload_n dX7_needed_33 rfl rfl ?_
  refine wp_get (v := vR 1) dX7_needed_34 fl_7_10 L_0 rfl ?_
  refine wp_get (v := vR 5) dX7_needed_37 fl_7_118 L_1 rfl ?_
  exact wp_callvV (As := [vR 5]) dX7_needed_40 ml_7_236 (by decide) rfl L_27 (by decide) rfl (Nat.le_of_ble_eq_true rfl) rfl (Nat.le_refl _) (Nat.le_refl _) hc k
theorem b_X7_needed_43 {d : Nat} {Q : Option pV → pG → Prop} {g : pG} {v1 v2 : Int} {R : pG → Prop} (hc : CT d mX3_put [vR 27, vI v1, vI v2] g (qV R)) (k : ∀ gg : pG, R gg → EV d mX7_needed Q 52 [vR 0, vI v1, vI v2] [] gg) : EV d mX7_needed Q 43 [vR 0, vI v1, vI v2] [] g := by
  refine wp_aload_n dX7_needed_43 rfl rfl ?_
  refine wp_get (v := vR 27) dX7_needed_44 fl_7_54 L_0 rfl ?_
  refine wp_iload_n dX7_needed_47 rfl ?_
  refine wp_iload_n dX7_needed_48 rfl ?_
  exact wp_callvV (As := [vI v1, vI v2]) dX7_needed_49 ml_7_138 (by decide) rfl L_27 (by decide) rfl (Nat.le_of_ble_eq_true rfl) rfl (Nat.le_refl _) (Nat.le_refl _) hc k
theorem b_X7_needed_52 {d : Nat} {Q : Option pV → pG → Prop} {g : pG} {v1 v2 : Int} {R : pG → Prop} (hc : CT d mX5_goDown [vR 1, vR 27, vI ((g 1) 3)] g (qV R)) (k : ∀ gg : pG, R gg → EV d mX7_needed Q 70 [vR 0, vI v1, vI v2] [] gg) : EV d mX7_needed Q 52 [vR 0, vI v1, vI v2] [] g := by
  refine wp_aload_n dX7_needed_52 rfl rfl ?_
  refine wp_get (v := vR 1) dX7_needed_53 fl_7_10 L_0 rfl ?_
  refine wp_aload_n dX7_needed_56 rfl rfl ?_
  refine wp_get (v := vR 27) dX7_needed_57 fl_7_54 L_0 rfl ?_
  refine wp_aload_n dX7_needed_60 rfl rfl ?_
  refine wp_get (v := vR 1) dX7_needed_61 fl_7_10 L_0 rfl ?_
  refine wp_get (v := vI ((g 1) 3)) dX7_needed_64 fl_7_152 L_1 rfl ?_
  exact wp_callvV (As := [vR 27, vI ((g 1) 3)]) dX7_needed_67 ml_7_269 (by decide) rfl L_1 (by decide) rfl (Nat.le_of_ble_eq_true rfl) rfl (Nat.le_refl _) (Nat.le_refl _) hc k
theorem b_X7_needed_70 {d : Nat} {Q : Option pV → pG → Prop} {g : pG} {v1 v2 : Int} {R : Int → pG → Prop} (hc : CT d mX3_isFor [vR 27] g (qI R)) (k : ∀ (x : Int) (gg : pG), R x gg → EV d mX7_needed Q 77 [vR 0, vI v1, vI v2] [vI x] gg) : EV d mX7_needed Q 70 [vR 0, vI v1, vI v2] [] g := by
  refine wp_aload_n dX7_needed_70 rfl rfl ?_
  refine wp_get (v := vR 27) dX7_needed_71 fl_7_54 L_0 rfl ?_
  exact wp_callvI (As := []) dX7_needed_74 ml_7_175 (by decide) rfl L_27 (by decide) rfl (Nat.le_of_ble_eq_true rfl) rfl (Nat.le_refl _) (Nat.le_refl _) hc k
theorem b_X7_needed_77 {d : Nat} {Q : Option pV → pG → Prop} {g : pG} {v1 v2 vs0 : Int} (k1 : (vs0 = 0) → EV d mX7_needed Q 82 [vR 0, vI v1, vI v2] [] g) (k2 : ¬ (vs0 = 0) → EV d mX7_needed Q 80 [vR 0, vI v1, vI v2] [] g) : EV d mX7_needed Q 77 [vR 0, vI v1, vI v2] [vI vs0] g := by
  exact wp_if_eq (tgt := 82) dX7_needed_77 rfl k1 k2
theorem b_X7_needed_80 {d : Nat} {Q : Option pV → pG → Prop} {g : pG} {v1 v2 : Int} (hq : Q (some (vI v2)) g) : EV d mX7_needed Q 80 [vR 0, vI v1, vI v2] [] g := by
  refine wp_iload_n dX7_needed_80 rfl ?_
  exact wp_iret dX7_needed_81 rfl hq
theorem b_X7_needed_82 {d : Nat} {Q : Option pV → pG → Prop} {g : pG} {v1 v2 : Int} (k : EV d mX7_needed Q 23 [vR 0, vI v1, vI (w32 (v2 + 1))] [] g) : EV d mX7_needed Q 82 [vR 0, vI v1, vI v2] [] g := by
  refine wp_iinc dX7_needed_82 rfl (Nat.le_of_ble_eq_true rfl) (pp (c := 1) rfl rfl) ?_
  refine wp_goto (tgt := 23) dX7_needed_85 rfl ?_
  exact k
theorem b_X7_needed_88 {d : Nat} {Q : Option pV → pG → Prop} {g : pG} {v1 v2 : Int} (hq : Q (some (vI (-99))) g) : EV d mX7_needed Q 88 [vR 0, vI v1, vI v2] [] g := by
  refine wp_bipush dX7_needed_88 kb_m99 kc_m99 ?_
  exact wp_iret dX7_needed_90 rfl hq
theorem b_X7_cheapest_0 {d : Nat} {Q : Option pV → pG → Prop} {g : pG} {R : Int → pG → Prop} (hc : CT d mX7_isForBehindAll [vR 0] g (qI R)) (k : ∀ (x : Int) (gg : pG), R x gg → EV d mX7_cheapest Q 4 [vR 0, vX 2, vX 2, vX 2, vX 2] [vI x] gg) : EV d mX7_cheapest Q 0 [vR 0, vX 2, vX 2, vX 2, vX 2] [] g := by
  refine wp_aload_n dX7_cheapest_0 rfl rfl ?_
  exact wp_callvI (As := []) dX7_cheapest_1 ml_7_300 (by decide) rfl L_0 (by decide) rfl (Nat.le_of_ble_eq_true rfl) rfl (Nat.le_refl _) (Nat.le_refl _) hc k
theorem b_X7_cheapest_4 {d : Nat} {Q : Option pV → pG → Prop} {g : pG} {vs0 : Int} (k : EV d mX7_cheapest Q 13 [vR 0, vI vs0, vI (-9), vI (-1), vI 0] [] g) : EV d mX7_cheapest Q 4 [vR 0, vX 2, vX 2, vX 2, vX 2] [vI vs0] g := by
  refine wp_istore_n dX7_cheapest_4 (Nat.le_of_ble_eq_true rfl) (pp (c := 0) rfl rfl) ?_
  refine wp_bipush dX7_cheapest_5 kb_m9 kc_m9 ?_
  refine wp_istore_n dX7_cheapest_7 (Nat.le_of_ble_eq_true rfl) (pp (c := 1) rfl rfl) ?_
  refine wp_iconst dX7_cheapest_8 kc_m1 ?_
  refine wp_istore_n dX7_cheapest_9 (Nat.le_of_ble_eq_true rfl) (pp (c := 2) rfl rfl) ?_
  refine wp_iconst dX7_cheapest_10 kc_0 ?_
  refine wp_istore dX7_cheapest_11 (Nat.le_of_ble_eq_true rfl) (pp (c := 3) rfl rfl) ?_
  exact k
theorem b_X7_cheapest_13 {d : Nat} {Q : Option pV → pG → Prop} {g : pG} {v1 v2 v3 v4 : Int} (k1 : ((g 1) 3 ≤ v4) → EV d mX7_cheapest Q 78 [vR 0, vI v1, vI v2, vI v3, vI v4] [] g) (k2 : ¬ ((g 1) 3 ≤ v4) → EV d mX7_cheapest Q 25 [vR 0, vI v1, vI v2, vI v3, vI v4] [] g) : EV d mX7_cheapest Q 13 [vR 0, vI v1, vI v2, vI v3, vI v4] [] g := by
  refine wp_iload dX7_cheapest_13 rfl ?_
  refine wp_aload_n dX7_cheapest_15 rfl rfl ?_
  refine wp_get (v := vR 1) dX7_cheapest_16 fl_7_10 L_0 rfl ?_
  refine wp_get (v := vI ((g 1) 3)) dX7_cheapest_19 fl_7_152 L_1 rfl ?_
  exact wp_icmp_ge (tgt := 78) dX7_cheapest_22 rfl k1 k2
theorem b_X7_cheapest_25 {d : Nat} {Q : Option pV → pG → Prop} {g : pG} {v1 v2 v3 v4 : Int} {R : pG → Prop} (hc : CT d mX7_goDownAsleep [vR 0, vI (zshl 1 v4)] g (qV R)) (k : ∀ gg : pG, R gg → EV d mX7_cheapest Q 33 [vR 0, vI v1, vI v2, vI v3, vI v4] [] gg) : EV d mX7_cheapest Q 25 [vR 0, vI v1, vI v2, vI v3, vI v4] [] g := by
  refine wp_aload_n dX7_cheapest_25 rfl rfl ?_
  refine wp_iconst dX7_cheapest_26 kc_1 ?_
  refine wp_iload dX7_cheapest_27 rfl ?_
  refine wp_ishl dX7_cheapest_29 ?_
  exact wp_callvV (As := [vI (zshl 1 v4)]) dX7_cheapest_30 ml_7_283 (by decide) rfl L_0 (by decide) rfl (Nat.le_of_ble_eq_true rfl) rfl (Nat.le_refl _) (Nat.le_refl _) hc k
theorem b_X7_cheapest_33 {d : Nat} {Q : Option pV → pG → Prop} {g : pG} {v1 v2 v3 v4 : Int} {R : Int → pG → Prop} (hc : CT d mX3_isFor [vR 27] g (qI R)) (k : ∀ (x : Int) (gg : pG), R x gg → EV d mX7_cheapest Q 40 [vR 0, vI v1, vI v2, vI v3, vI v4] [vI x] gg) : EV d mX7_cheapest Q 33 [vR 0, vI v1, vI v2, vI v3, vI v4] [] g := by
  refine wp_aload_n dX7_cheapest_33 rfl rfl ?_
  refine wp_get (v := vR 27) dX7_cheapest_34 fl_7_54 L_0 rfl ?_
  exact wp_callvI (As := []) dX7_cheapest_37 ml_7_175 (by decide) rfl L_27 (by decide) rfl (Nat.le_of_ble_eq_true rfl) rfl (Nat.le_refl _) (Nat.le_refl _) hc k
theorem b_X7_cheapest_40 {d : Nat} {Q : Option pV → pG → Prop} {g : pG} {v1 v2 v3 v4 vs0 : Int} (k1 : (vs0 ≠ v1) → EV d mX7_cheapest Q 72 [vR 0, vI v1, vI v2, vI v3, vI v4] [] g) (k2 : ¬ (vs0 ≠ v1) → EV d mX7_cheapest Q 44 [vR 0, vI v1, vI v2, vI v3, vI v4] [] g) : EV d mX7_cheapest Q 40 [vR 0, vI v1, vI v2, vI v3, vI v4] [vI vs0] g := by
  refine wp_iload_n dX7_cheapest_40 rfl ?_
  exact wp_icmp_ne (tgt := 72) dX7_cheapest_41 rfl k1 k2
theorem b_X7_cheapest_44 {d : Nat} {Q : Option pV → pG → Prop} {g : pG} {v1 v2 v3 v4 : Int} (h1 : 0 ≤ v4) (h2 : v4 < 7) (k1 : ((g 4) v4.toNat ≤ v3) → EV d mX7_cheapest Q 72 [vR 0, vI v1, vI v2, vI v3, vI v4] [] g) (k2 : ¬ ((g 4) v4.toNat ≤ v3) → EV d mX7_cheapest Q 58 [vR 0, vI v1, vI v2, vI v3, vI v4] [] g) : EV d mX7_cheapest Q 44 [vR 0, vI v1, vI v2, vI v3, vI v4] [] g := by
  refine wp_aload_n dX7_cheapest_44 rfl rfl ?_
  refine wp_get (v := vR 1) dX7_cheapest_45 fl_7_10 L_0 rfl ?_
  refine wp_get (v := vR 4) dX7_cheapest_48 fl_7_115 L_1 rfl ?_
  refine wp_iload dX7_cheapest_51 rfl ?_
  refine wp_iaload dX7_cheapest_53 h1 L_4 h2 ?_
  refine wp_iload_n dX7_cheapest_54 rfl ?_
  exact wp_icmp_le (tgt := 72) dX7_cheapest_55 rfl k1 k2
theorem b_X7_cheapest_58 {d : Nat} {Q : Option pV → pG → Prop} {g : pG} {v1 v2 v3 v4 : Int} (h1 : 0 ≤ v4) (h2 : v4 < 7) (k : EV d mX7_cheapest Q 13 [vR 0, vI v1, vI v4, vI ((g 4) v4.toNat), vI (w32 (v4 + 1))] [] g) : EV d mX7_cheapest Q 58 [vR 0, vI v1, vI v2, vI v3, vI v4] [] g := by
  refine wp_iload dX7_cheapest_58 rfl ?_
  refine wp_istore_n dX7_cheapest_60 (Nat.le_of_ble_eq_true rfl) (pp (c := 1) rfl rfl) ?_
  refine wp_aload_n dX7_cheapest_61 rfl rfl ?_
  refine wp_get (v := vR 1) dX7_cheapest_62 fl_7_10 L_0 rfl ?_
  refine wp_get (v := vR 4) dX7_cheapest_65 fl_7_115 L_1 rfl ?_
  refine wp_iload dX7_cheapest_68 rfl ?_
  refine wp_iaload dX7_cheapest_70 h1 L_4 h2 ?_
  refine wp_istore_n dX7_cheapest_71 (Nat.le_of_ble_eq_true rfl) (pp (c := 2) rfl rfl) ?_
  refine wp_iinc dX7_cheapest_72 rfl (Nat.le_of_ble_eq_true rfl) (pp (c := 3) rfl rfl) ?_
  refine wp_goto (tgt := 13) dX7_cheapest_75 rfl ?_
  exact k
theorem b_X7_cheapest_72 {d : Nat} {Q : Option pV → pG → Prop} {g : pG} {v1 v2 v3 v4 : Int} (k : EV d mX7_cheapest Q 13 [vR 0, vI v1, vI v2, vI v3, vI (w32 (v4 + 1))] [] g) : EV d mX7_cheapest Q 72 [vR 0, vI v1, vI v2, vI v3, vI v4] [] g := by
  refine wp_iinc dX7_cheapest_72 rfl (Nat.le_of_ble_eq_true rfl) (pp (c := 3) rfl rfl) ?_
  refine wp_goto (tgt := 13) dX7_cheapest_75 rfl ?_
  exact k
theorem b_X7_cheapest_78 {d : Nat} {Q : Option pV → pG → Prop} {g : pG} {v1 v2 v3 v4 : Int} (hq : Q (some (vI v2)) g) : EV d mX7_cheapest Q 78 [vR 0, vI v1, vI v2, vI v3, vI v4] [] g := by
  refine wp_iload_n dX7_cheapest_78 rfl ?_
  exact wp_iret dX7_cheapest_79 rfl hq
theorem b_X7_isForBehindAll_0 {d : Nat} {Q : Option pV → pG → Prop} {g : pG} {R : pG → Prop} (hc : CT d mX3_copyFrom [vR 27, vR 5] g (qV R)) (k : ∀ gg : pG, R gg → EV d mX7_isForBehindAll Q 14 [vR 0] [] gg) : EV d mX7_isForBehindAll Q 0 [vR 0] [] g := by
  refine wp_aload_n dX7_isForBehindAll_0 rfl rfl ?_
  refine wp_get (v := vR 27) dX7_isForBehindAll_1 fl_7_54 L_0 rfl ?_
  refine wp_aload_n dX7_isForBehindAll_4 rfl rfl ?_
  refine wp_get (v := vR 1) dX7_isForBehindAll_5 fl_7_10 L_0 rfl ?_
  refine wp_get (v := vR 5) dX7_isForBehindAll_8 fl_7_118 L_1 rfl ?_
  exact wp_callvV (As := [vR 5]) dX7_isForBehindAll_11 ml_7_236 (by decide) rfl L_27 (by decide) rfl (Nat.le_of_ble_eq_true rfl) rfl (Nat.le_refl _) (Nat.le_refl _) hc k
theorem b_X7_isForBehindAll_14 {d : Nat} {Q : Option pV → pG → Prop} {g : pG} {R : pG → Prop} (hc : CT d mX5_goDown [vR 1, vR 27, vI ((g 1) 3)] g (qV R)) (k : ∀ gg : pG, R gg → EV d mX7_isForBehindAll Q 32 [vR 0] [] gg) : EV d mX7_isForBehindAll Q 14 [vR 0] [] g := by
  refine wp_aload_n dX7_isForBehindAll_14 rfl rfl ?_
  refine wp_get (v := vR 1) dX7_isForBehindAll_15 fl_7_10 L_0 rfl ?_
  refine wp_aload_n dX7_isForBehindAll_18 rfl rfl ?_
  refine wp_get (v := vR 27) dX7_isForBehindAll_19 fl_7_54 L_0 rfl ?_
  refine wp_aload_n dX7_isForBehindAll_22 rfl rfl ?_
  refine wp_get (v := vR 1) dX7_isForBehindAll_23 fl_7_10 L_0 rfl ?_
  refine wp_get (v := vI ((g 1) 3)) dX7_isForBehindAll_26 fl_7_152 L_1 rfl ?_
  exact wp_callvV (As := [vR 27, vI ((g 1) 3)]) dX7_isForBehindAll_29 ml_7_269 (by decide) rfl L_1 (by decide) rfl (Nat.le_of_ble_eq_true rfl) rfl (Nat.le_refl _) (Nat.le_refl _) hc k
theorem b_X7_isForBehindAll_32 {d : Nat} {Q : Option pV → pG → Prop} {g : pG} {R : Int → pG → Prop} (hc : CT d mX3_isFor [vR 27] g (qI R)) (k : ∀ (x : Int) (gg : pG), R x gg → EV d mX7_isForBehindAll Q 39 [vR 0] [vI x] gg) : EV d mX7_isForBehindAll Q 32 [vR 0] [] g := by
  refine wp_aload_n dX7_isForBehindAll_32 rfl rfl ?_
  refine wp_get (v := vR 27) dX7_isForBehindAll_33 fl_7_54 L_0 rfl ?_
  exact wp_callvI (As := []) dX7_isForBehindAll_36 ml_7_175 (by decide) rfl L_27 (by decide) rfl (Nat.le_of_ble_eq_true rfl) rfl (Nat.le_refl _) (Nat.le_refl _) hc k
theorem b_X7_isForBehindAll_39 {d : Nat} {Q : Option pV → pG → Prop} {g : pG} {vs0 : Int} (h1 : vs0 = 0 ∨ vs0 = 1) (hq : Q (some (vI vs0)) g) : EV d mX7_isForBehindAll Q 39 [vR 0] [vI vs0] g := by
  exact wp_zret dX7_isForBehindAll_39 rfl h1 hq
theorem b_X7_biggest_0 {d : Nat} {Q : Option pV → pG → Prop} {g : pG} {v1 : Int} (k1 : (v1 < 0) → EV d mX7_biggest Q 9 [vR 0, vI v1, vX 2, vX 2, vX 2, vX 2, vX 2] [] g) (k2 : ¬ (v1 < 0) → EV d mX7_biggest Q 4 [vR 0, vI v1, vX 2, vX 2, vX 2, vX 2, vX 2] [] g) : EV d mX7_biggest Q 0 [vR 0, vI v1, vX 2, vX 2, vX 2, vX 2, vX 2] [] g := by
  refine wp_iload_n dX7_biggest_0 rfl ?_
  exact wp_if_lt (tgt := 9) dX7_biggest_1 rfl k1 k2
theorem b_X7_biggest_4 {d : Nat} {Q : Option pV → pG → Prop} {g : pG} {v1 : Int} (k1 : (v1 ≤ 1) → EV d mX7_biggest Q 16 [vR 0, vI v1, vX 2, vX 2, vX 2, vX 2, vX 2] [] g) (k2 : ¬ (v1 ≤ 1) → EV d mX7_biggest Q 9 [vR 0, vI v1, vX 2, vX 2, vX 2, vX 2, vX 2] [] g) : EV d mX7_biggest Q 4 [vR 0, vI v1, vX 2, vX 2, vX 2, vX 2, vX 2] [] g := by
  refine wp_iload_n dX7_biggest_4 rfl ?_
  refine wp_iconst dX7_biggest_5 kc_1 ?_
  exact wp_icmp_le (tgt := 16) dX7_biggest_6 rfl k1 k2
theorem b_X7_biggest_9 {d : Nat} {Q : Option pV → pG → Prop} {g : pG} {v1 : Int} {R : Int → pG → Prop} (hc : CT d mX7_refuseHigh [vR 0, vI (-2)] g (qI R)) (k : ∀ (x : Int) (gg : pG), R x gg → EV d mX7_biggest Q 15 [vR 0, vI v1, vX 2, vX 2, vX 2, vX 2, vX 2] [vI x] gg) : EV d mX7_biggest Q 9 [vR 0, vI v1, vX 2, vX 2, vX 2, vX 2, vX 2] [] g := by
  refine wp_aload_n dX7_biggest_9 rfl rfl ?_
  refine wp_bipush dX7_biggest_10 kb_m2 kc_m2 ?_
  exact wp_callvI (As := [vI (-2)]) dX7_biggest_12 ml_7_124 (by decide) rfl L_0 (by decide) rfl (Nat.le_of_ble_eq_true rfl) rfl (Nat.le_refl _) (Nat.le_refl _) hc k
theorem b_X7_biggest_15 {d : Nat} {Q : Option pV → pG → Prop} {g : pG} {v1 vs0 : Int} (hq : Q (some (vI vs0)) g) : EV d mX7_biggest Q 15 [vR 0, vI v1, vX 2, vX 2, vX 2, vX 2, vX 2] [vI vs0] g := by
  exact wp_iret dX7_biggest_15 rfl hq
theorem b_X7_biggest_16 {d : Nat} {Q : Option pV → pG → Prop} {g : pG} {v1 : Int} {R : pG → Prop} (hc : CT d mX7_goDownTo [vR 0, vI 0] g (qV R)) (k : ∀ gg : pG, R gg → EV d mX7_biggest Q 26 [vR 0, vI v1, vI 0, vI (-9), vX 2, vX 2, vX 2] [] gg) : EV d mX7_biggest Q 16 [vR 0, vI v1, vX 2, vX 2, vX 2, vX 2, vX 2] [] g := by
  refine wp_iconst dX7_biggest_16 kc_0 ?_
  refine wp_istore_n dX7_biggest_17 (Nat.le_of_ble_eq_true rfl) (pp (c := 1) rfl rfl) ?_
  refine wp_bipush dX7_biggest_18 kb_m9 kc_m9 ?_
  refine wp_istore_n dX7_biggest_20 (Nat.le_of_ble_eq_true rfl) (pp (c := 2) rfl rfl) ?_
  refine wp_aload_n dX7_biggest_21 rfl rfl ?_
  refine wp_iconst dX7_biggest_22 kc_0 ?_
  exact wp_callvV (As := [vI 0]) dX7_biggest_23 ml_7_171 (by decide) rfl L_0 (by decide) rfl (Nat.le_of_ble_eq_true rfl) rfl (Nat.le_refl _) (Nat.le_refl _) hc k
theorem b_X7_biggest_26 {d : Nat} {Q : Option pV → pG → Prop} {g : pG} {v1 v2 v3 : Int} (k : EV d mX7_biggest Q 29 [vR 0, vI v1, vI v2, vI v3, vI 0, vX 2, vX 2] [] g) : EV d mX7_biggest Q 26 [vR 0, vI v1, vI v2, vI v3, vX 2, vX 2, vX 2] [] g := by
  refine wp_iconst dX7_biggest_26 kc_0 ?_
  refine wp_istore dX7_biggest_27 (Nat.le_of_ble_eq_true rfl) (pp (c := 3) rfl rfl) ?_
  exact k
theorem b_X7_biggest_29 {d : Nat} {Q : Option pV → pG → Prop} {g : pG} {v1 v2 v3 v4 : Int} {u5 u6 : pV} (k1 : ((g 1) 3 ≤ v4) → EV d mX7_biggest Q 99 [vR 0, vI v1, vI v2, vI v3, vI v4, u5, u6] [] g) (k2 : ¬ ((g 1) 3 ≤ v4) → EV d mX7_biggest Q 41 [vR 0, vI v1, vI v2, vI v3, vI v4, u5, u6] [] g) : EV d mX7_biggest Q 29 [vR 0, vI v1, vI v2, vI v3, vI v4, u5, u6] [] g := by
  refine wp_iload dX7_biggest_29 rfl ?_
  refine wp_aload_n dX7_biggest_31 rfl rfl ?_
  refine wp_get (v := vR 1) dX7_biggest_32 fl_7_10 L_0 rfl ?_
  refine wp_get (v := vI ((g 1) 3)) dX7_biggest_35 fl_7_152 L_1 rfl ?_
  exact wp_icmp_ge (tgt := 99) dX7_biggest_38 rfl k1 k2
theorem b_X7_biggest_41 {d : Nat} {Q : Option pV → pG → Prop} {g : pG} {v1 v2 v3 v4 : Int} {u5 u6 : pV} {R : Int → pG → Prop} (hc : CT d mX3_sum [vR 27] g (qI R)) (k : ∀ (x : Int) (gg : pG), R x gg → EV d mX7_biggest Q 48 [vR 0, vI v1, vI v2, vI v3, vI v4, u5, u6] [vI x] gg) : EV d mX7_biggest Q 41 [vR 0, vI v1, vI v2, vI v3, vI v4, u5, u6] [] g := by
  refine wp_aload_n dX7_biggest_41 rfl rfl ?_
  refine wp_get (v := vR 27) dX7_biggest_42 fl_7_54 L_0 rfl ?_
  exact wp_callvI (As := []) dX7_biggest_45 ml_7_183 (by decide) rfl L_27 (by decide) rfl (Nat.le_of_ble_eq_true rfl) rfl (Nat.le_refl _) (Nat.le_refl _) hc k
theorem b_X7_biggest_48 {d : Nat} {Q : Option pV → pG → Prop} {g : pG} {v1 v2 v3 v4 vs0 : Int} {u5 u6 : pV} {R : pG → Prop} (hc : CT d mX5_hear [vR 1, vI v4, vR 27] g (qV R)) (k : ∀ gg : pG, R gg → EV d mX7_biggest Q 63 [vR 0, vI v1, vI v2, vI v3, vI v4, vI vs0, u6] [] gg) : EV d mX7_biggest Q 48 [vR 0, vI v1, vI v2, vI v3, vI v4, u5, u6] [vI vs0] g := by
  refine wp_istore dX7_biggest_48 (Nat.le_of_ble_eq_true rfl) (pp (c := 4) rfl rfl) ?_
  refine wp_aload_n dX7_biggest_50 rfl rfl ?_
  refine wp_get (v := vR 1) dX7_biggest_51 fl_7_10 L_0 rfl ?_
  refine wp_iload dX7_biggest_54 rfl ?_
  refine wp_aload_n dX7_biggest_56 rfl rfl ?_
  refine wp_get (v := vR 27) dX7_biggest_57 fl_7_54 L_0 rfl ?_
  exact wp_callvV (As := [vI v4, vR 27]) dX7_biggest_60 ml_7_186 (by decide) rfl L_1 (by decide) rfl (Nat.le_of_ble_eq_true rfl) rfl (Nat.le_refl _) (Nat.le_refl _) hc k
theorem b_X7_biggest_63 {d : Nat} {Q : Option pV → pG → Prop} {g : pG} {v1 v2 v3 v4 v5 : Int} {u6 : pV} {R : Int → pG → Prop} (hc : CT d mX3_sum [vR 27] g (qI R)) (k : ∀ (x : Int) (gg : pG), R x gg → EV d mX7_biggest Q 70 [vR 0, vI v1, vI v2, vI v3, vI v4, vI v5, u6] [vI x] gg) : EV d mX7_biggest Q 63 [vR 0, vI v1, vI v2, vI v3, vI v4, vI v5, u6] [] g := by
  refine wp_aload_n dX7_biggest_63 rfl rfl ?_
  refine wp_get (v := vR 27) dX7_biggest_64 fl_7_54 L_0 rfl ?_
  exact wp_callvI (As := []) dX7_biggest_67 ml_7_183 (by decide) rfl L_27 (by decide) rfl (Nat.le_of_ble_eq_true rfl) rfl (Nat.le_refl _) (Nat.le_refl _) hc k
theorem b_X7_biggest_70 {d : Nat} {Q : Option pV → pG → Prop} {g : pG} {v1 v2 v3 v4 v5 vs0 : Int} {u6 : pV} (k1 : (zabs (w32 (vs0 - v5)) ≤ zabs v2) → EV d mX7_biggest Q 93 [vR 0, vI v1, vI v2, vI v3, vI v4, vI v5, vI (w32 (vs0 - v5))] [] g) (k2 : ¬ (zabs (w32 (vs0 - v5)) ≤ zabs v2) → EV d mX7_biggest Q 87 [vR 0, vI v1, vI v2, vI v3, vI v4, vI v5, vI (w32 (vs0 - v5))] [] g) : EV d mX7_biggest Q 70 [vR 0, vI v1, vI v2, vI v3, vI v4, vI v5, u6] [vI vs0] g := by
  refine wp_iload dX7_biggest_70 rfl ?_
  refine wp_isub dX7_biggest_72 ?_
  refine wp_istore dX7_biggest_73 (Nat.le_of_ble_eq_true rfl) (pp (c := 5) rfl rfl) ?_
  refine wp_iload dX7_biggest_75 rfl ?_
  refine wp_abs dX7_biggest_77 xl_7_303 (Nat.le_refl _) (Nat.le_refl _) (Nat.le_of_ble_eq_true rfl) ?_
  refine wp_iload_n dX7_biggest_80 rfl ?_
  refine wp_abs dX7_biggest_81 xl_7_303 (Nat.le_refl _) (Nat.le_refl _) (Nat.le_of_ble_eq_true rfl) ?_
  exact wp_icmp_le (tgt := 93) dX7_biggest_84 rfl k1 k2
theorem b_X7_biggest_87 {d : Nat} {Q : Option pV → pG → Prop} {g : pG} {v1 v2 v3 v4 v5 v6 : Int} (k : EV d mX7_biggest Q 29 [vR 0, vI v1, vI v6, vI v4, vI (w32 (v4 + 1)), vI v5, vI v6] [] g) : EV d mX7_biggest Q 87 [vR 0, vI v1, vI v2, vI v3, vI v4, vI v5, vI v6] [] g := by
  refine wp_iload dX7_biggest_87 rfl ?_
  refine wp_istore_n dX7_biggest_89 (Nat.le_of_ble_eq_true rfl) (pp (c := 1) rfl rfl) ?_
  refine wp_iload dX7_biggest_90 rfl ?_
  refine wp_istore_n dX7_biggest_92 (Nat.le_of_ble_eq_true rfl) (pp (c := 2) rfl rfl) ?_
  refine wp_iinc dX7_biggest_93 rfl (Nat.le_of_ble_eq_true rfl) (pp (c := 3) rfl rfl) ?_
  refine wp_goto (tgt := 29) dX7_biggest_96 rfl ?_
  exact k
theorem b_X7_biggest_93 {d : Nat} {Q : Option pV → pG → Prop} {g : pG} {v1 v2 v3 v4 v5 v6 : Int} (k : EV d mX7_biggest Q 29 [vR 0, vI v1, vI v2, vI v3, vI (w32 (v4 + 1)), vI v5, vI v6] [] g) : EV d mX7_biggest Q 93 [vR 0, vI v1, vI v2, vI v3, vI v4, vI v5, vI v6] [] g := by
  refine wp_iinc dX7_biggest_93 rfl (Nat.le_of_ble_eq_true rfl) (pp (c := 3) rfl rfl) ?_
  refine wp_goto (tgt := 29) dX7_biggest_96 rfl ?_
  exact k
theorem b_X7_biggest_99 {d : Nat} {Q : Option pV → pG → Prop} {g : pG} {v1 v2 v3 v4 : Int} {u5 u6 : pV} (k1 : (v1 ≠ 0) → EV d mX7_biggest Q 107 [vR 0, vI v1, vI v2, vI v3, vI v4, u5, u6] [] g) (k2 : ¬ (v1 ≠ 0) → EV d mX7_biggest Q 103 [vR 0, vI v1, vI v2, vI v3, vI v4, u5, u6] [] g) : EV d mX7_biggest Q 99 [vR 0, vI v1, vI v2, vI v3, vI v4, u5, u6] [] g := by
  refine wp_iload_n dX7_biggest_99 rfl ?_
  exact wp_if_ne (tgt := 107) dX7_biggest_100 rfl k1 k2
theorem b_X7_biggest_103 {d : Nat} {Q : Option pV → pG → Prop} {g : pG} {v1 v2 v3 v4 : Int} {u5 u6 : pV} (hq : Q (some (vI v3)) g) : EV d mX7_biggest Q 103 [vR 0, vI v1, vI v2, vI v3, vI v4, u5, u6] [] g := by
  refine wp_iload_n dX7_biggest_103 rfl ?_
  refine wp_goto (tgt := 108) dX7_biggest_104 rfl ?_
  exact wp_iret dX7_biggest_108 rfl hq
theorem b_X7_biggest_107 {d : Nat} {Q : Option pV → pG → Prop} {g : pG} {v1 v2 v3 v4 : Int} {u5 u6 : pV} (hq : Q (some (vI v2)) g) : EV d mX7_biggest Q 107 [vR 0, vI v1, vI v2, vI v3, vI v4, u5, u6] [] g := by
  refine wp_iload_n dX7_biggest_107 rfl ?_
  exact wp_iret dX7_biggest_108 rfl hq
theorem b_X7_swing_0 {d : Nat} {Q : Option pV → pG → Prop} {g : pG} {R : Int → pG → Prop} (hc : CT d mX7_isForBehindAll [vR 0] g (qI R)) (k : ∀ (x : Int) (gg : pG), R x gg → EV d mX7_swing Q 4 [vR 0, vX 2, vX 2, vX 2] [vI x] gg) : EV d mX7_swing Q 0 [vR 0, vX 2, vX 2, vX 2] [] g := by
  refine wp_aload_n dX7_swing_0 rfl rfl ?_
  exact wp_callvI (As := []) dX7_swing_1 ml_7_300 (by decide) rfl L_0 (by decide) rfl (Nat.le_of_ble_eq_true rfl) rfl (Nat.le_refl _) (Nat.le_refl _) hc k
theorem b_X7_swing_4 {d : Nat} {Q : Option pV → pG → Prop} {g : pG} {vs0 : Int} (k : EV d mX7_swing Q 9 [vR 0, vI vs0, vI 0, vI 0] [] g) : EV d mX7_swing Q 4 [vR 0, vX 2, vX 2, vX 2] [vI vs0] g := by
  refine wp_istore_n dX7_swing_4 (Nat.le_of_ble_eq_true rfl) (pp (c := 0) rfl rfl) ?_
  refine wp_iconst dX7_swing_5 kc_0 ?_
  refine wp_istore_n dX7_swing_6 (Nat.le_of_ble_eq_true rfl) (pp (c := 1) rfl rfl) ?_
  refine wp_iconst dX7_swing_7 kc_0 ?_
  refine wp_istore_n dX7_swing_8 (Nat.le_of_ble_eq_true rfl) (pp (c := 2) rfl rfl) ?_
  exact k
theorem b_X7_swing_9 {d : Nat} {Q : Option pV → pG → Prop} {g : pG} {v1 v2 v3 : Int} (k1 : ((g 5) 1 ≤ v3) → EV d mX7_swing Q 95 [vR 0, vI v1, vI v2, vI v3] [] g) (k2 : ¬ ((g 5) 1 ≤ v3) → EV d mX7_swing Q 23 [vR 0, vI v1, vI v2, vI v3] [] g) : EV d mX7_swing Q 9 [vR 0, vI v1, vI v2, vI v3] [] g := by
  refine wp_iload_n dX7_swing_9 rfl ?_
  refine wp_aload_n dX7_swing_10 rfl rfl ?_
  refine wp_get (v := vR 1) dX7_swing_11 fl_7_10 L_0 rfl ?_
  refine wp_get (v := vR 5) dX7_swing_14 fl_7_118 L_1 rfl ?_
  refine wp_get (v := vI ((g 5) 1)) dX7_swing_17 fl_7_155 L_5 rfl ?_
  exact wp_icmp_ge (tgt := 95) dX7_swing_20 rfl k1 k2
theorem b_X7_swing_23 {d : Nat} {Q : Option pV → pG → Prop} {g : pG} {v1 v2 v3 : Int} {R : pG → Prop} (hc : CT d mX3_copyFrom [vR 27, vR 5] g (qV R)) (k : ∀ gg : pG, R gg → EV d mX7_swing Q 37 [vR 0, vI v1, vI v2, vI v3] [] gg) : EV d mX7_swing Q 23 [vR 0, vI v1, vI v2, vI v3] [] g := by
  refine wp_aload_n dX7_swing_23 rfl rfl ?_
  refine wp_get (v := vR 27) dX7_swing_24 fl_7_54 L_0 rfl ?_
  refine wp_aload_n dX7_swing_27 rfl rfl ?_
  refine wp_get (v := vR 1) dX7_swing_28 fl_7_10 L_0 rfl ?_
  refine wp_get (v := vR 5) dX7_swing_31 fl_7_118 L_1 rfl ?_
  exact wp_callvV (As := [vR 5]) dX7_swing_34 ml_7_236 (by decide) rfl L_27 (by decide) rfl (Nat.le_of_ble_eq_true rfl) rfl (Nat.le_refl _) (Nat.le_refl _) hc k
theorem b_X7_swing_37 {d : Nat} {Q : Option pV → pG → Prop} {g : pG} {v1 v2 v3 : Int} {R : Int → pG → Prop} (hc : CT d mX3_number [vR 27, vI v3] g (qI R)) (k : ∀ (x : Int) (gg : pG), R x gg → EV d mX7_swing Q 50 [vR 0, vI v1, vI v2, vI v3] [vI x, vI v3, vR 27] gg) : EV d mX7_swing Q 37 [vR 0, vI v1, vI v2, vI v3] [] g := by
  refine wp_aload_n dX7_swing_37 rfl rfl ?_
  refine wp_get (v := vR 27) dX7_swing_38 fl_7_54 L_0 rfl ?_
  refine wp_iload_n dX7_swing_41 rfl ?_
  refine wp_aload_n dX7_swing_42 rfl rfl ?_
  refine wp_get (v := vR 27) dX7_swing_43 fl_7_54 L_0 rfl ?_
  refine wp_iload_n dX7_swing_46 rfl ?_
  exact wp_callvI (As := [vI v3]) dX7_swing_47 ml_7_131 (by decide) rfl L_27 (by decide) rfl (Nat.le_of_ble_eq_true rfl) rfl (Nat.le_refl _) (Nat.le_refl _) hc k
theorem b_X7_swing_50 {d : Nat} {Q : Option pV → pG → Prop} {g : pG} {v1 v2 v3 vs1 vs2 : Int} {R : pG → Prop} (hc : CT d mX3_put [vR 27, vI vs1, vI (w32 (-vs2))] g (qV R)) (k : ∀ gg : pG, R gg → EV d mX7_swing Q 54 [vR 0, vI v1, vI v2, vI v3] [] gg) : EV d mX7_swing Q 50 [vR 0, vI v1, vI v2, vI v3] [vI vs2, vI vs1, vR 27] g := by
  refine wp_ineg dX7_swing_50 ?_
  exact wp_callvV (As := [vI vs1, vI (w32 (-vs2))]) dX7_swing_51 ml_7_138 (by decide) rfl L_27 (by decide) rfl (Nat.le_of_ble_eq_true rfl) rfl (Nat.le_refl _) (Nat.le_refl _) hc k
theorem b_X7_swing_54 {d : Nat} {Q : Option pV → pG → Prop} {g : pG} {v1 v2 v3 : Int} {R : pG → Prop} (hc : CT d mX5_goDown [vR 1, vR 27, vI ((g 1) 3)] g (qV R)) (k : ∀ gg : pG, R gg → EV d mX7_swing Q 72 [vR 0, vI v1, vI v2, vI v3] [] gg) : EV d mX7_swing Q 54 [vR 0, vI v1, vI v2, vI v3] [] g := by
  refine wp_aload_n dX7_swing_54 rfl rfl ?_
  refine wp_get (v := vR 1) dX7_swing_55 fl_7_10 L_0 rfl ?_
  refine wp_aload_n dX7_swing_58 rfl rfl ?_
  refine wp_get (v := vR 27) dX7_swing_59 fl_7_54 L_0 rfl ?_
  refine wp_aload_n dX7_swing_62 rfl rfl ?_
  refine wp_get (v := vR 1) dX7_swing_63 fl_7_10 L_0 rfl ?_
  refine wp_get (v := vI ((g 1) 3)) dX7_swing_66 fl_7_152 L_1 rfl ?_
  exact wp_callvV (As := [vR 27, vI ((g 1) 3)]) dX7_swing_69 ml_7_269 (by decide) rfl L_1 (by decide) rfl (Nat.le_of_ble_eq_true rfl) rfl (Nat.le_refl _) (Nat.le_refl _) hc k
theorem b_X7_swing_72 {d : Nat} {Q : Option pV → pG → Prop} {g : pG} {v1 v2 v3 : Int} {R : Int → pG → Prop} (hc : CT d mX3_isFor [vR 27] g (qI R)) (k : ∀ (x : Int) (gg : pG), R x gg → EV d mX7_swing Q 79 [vR 0, vI v1, vI v2, vI v3] [vI x] gg) : EV d mX7_swing Q 72 [vR 0, vI v1, vI v2, vI v3] [] g := by
  refine wp_aload_n dX7_swing_72 rfl rfl ?_
  refine wp_get (v := vR 27) dX7_swing_73 fl_7_54 L_0 rfl ?_
  exact wp_callvI (As := []) dX7_swing_76 ml_7_175 (by decide) rfl L_27 (by decide) rfl (Nat.le_of_ble_eq_true rfl) rfl (Nat.le_refl _) (Nat.le_refl _) hc k
theorem b_X7_swing_79 {d : Nat} {Q : Option pV → pG → Prop} {g : pG} {v1 v2 v3 vs0 : Int} (k1 : (vs0 = v1) → EV d mX7_swing Q 89 [vR 0, vI v1, vI v2, vI v3] [] g) (k2 : ¬ (vs0 = v1) → EV d mX7_swing Q 83 [vR 0, vI v1, vI v2, vI v3] [] g) : EV d mX7_swing Q 79 [vR 0, vI v1, vI v2, vI v3] [vI vs0] g := by
  refine wp_iload_n dX7_swing_79 rfl ?_
  exact wp_icmp_eq (tgt := 89) dX7_swing_80 rfl k1 k2
theorem b_X7_swing_83 {d : Nat} {Q : Option pV → pG → Prop} {g : pG} {v1 v2 v3 : Int} (k : EV d mX7_swing Q 9 [vR 0, vI v1, vI (zor v2 (zshl 1 v3)), vI (w32 (v3 + 1))] [] g) : EV d mX7_swing Q 83 [vR 0, vI v1, vI v2, vI v3] [] g := by
  refine wp_iload_n dX7_swing_83 rfl ?_
  refine wp_iconst dX7_swing_84 kc_1 ?_
  refine wp_iload_n dX7_swing_85 rfl ?_
  refine wp_ishl dX7_swing_86 ?_
  refine wp_ior dX7_swing_87 ?_
  refine wp_istore_n dX7_swing_88 (Nat.le_of_ble_eq_true rfl) (pp (c := 1) rfl rfl) ?_
  refine wp_iinc dX7_swing_89 rfl (Nat.le_of_ble_eq_true rfl) (pp (c := 2) rfl rfl) ?_
  refine wp_goto (tgt := 9) dX7_swing_92 rfl ?_
  exact k
theorem b_X7_swing_89 {d : Nat} {Q : Option pV → pG → Prop} {g : pG} {v1 v2 v3 : Int} (k : EV d mX7_swing Q 9 [vR 0, vI v1, vI v2, vI (w32 (v3 + 1))] [] g) : EV d mX7_swing Q 89 [vR 0, vI v1, vI v2, vI v3] [] g := by
  refine wp_iinc dX7_swing_89 rfl (Nat.le_of_ble_eq_true rfl) (pp (c := 2) rfl rfl) ?_
  refine wp_goto (tgt := 9) dX7_swing_92 rfl ?_
  exact k
theorem b_X7_swing_95 {d : Nat} {Q : Option pV → pG → Prop} {g : pG} {v1 v2 v3 : Int} (hq : Q (some (vI v2)) g) : EV d mX7_swing Q 95 [vR 0, vI v1, vI v2, vI v3] [] g := by
  refine wp_iload_n dX7_swing_95 rfl ?_
  exact wp_iret dX7_swing_96 rfl hq
theorem b_X7_rounds_0 {d : Nat} {Q : Option pV → pG → Prop} {g : pG} (k : EV d mX7_rounds Q 4 [vR 0, vI 0, vI 0] [] g) : EV d mX7_rounds Q 0 [vR 0, vX 2, vX 2] [] g := by
  refine wp_iconst dX7_rounds_0 kc_0 ?_
  refine wp_istore_n dX7_rounds_1 (Nat.le_of_ble_eq_true rfl) (pp (c := 0) rfl rfl) ?_
  refine wp_iconst dX7_rounds_2 kc_0 ?_
  refine wp_istore_n dX7_rounds_3 (Nat.le_of_ble_eq_true rfl) (pp (c := 1) rfl rfl) ?_
  exact k
theorem b_X7_rounds_4 {d : Nat} {Q : Option pV → pG → Prop} {g : pG} {v1 v2 : Int} (k1 : (8 < v2) → EV d mX7_rounds Q 52 [vR 0, vI v1, vI v2] [] g) (k2 : ¬ (8 < v2) → EV d mX7_rounds Q 10 [vR 0, vI v1, vI v2] [] g) : EV d mX7_rounds Q 4 [vR 0, vI v1, vI v2] [] g := by
  refine wp_iload_n dX7_rounds_4 rfl ?_
  refine wp_bipush dX7_rounds_5 kb_8 kc_8 ?_
  exact wp_icmp_gt (tgt := 52) dX7_rounds_7 rfl k1 k2
theorem b_X7_rounds_10 {d : Nat} {Q : Option pV → pG → Prop} {g : pG} {v1 v2 : Int} {R : pG → Prop} (hc : CT d mX1_go [vR 42, vR 1, vI v2, vR 27, vR 39] g (qV R)) (k : ∀ gg : pG, R gg → EV d mX7_rounds Q 30 [vR 0, vI v1, vI v2] [] gg) : EV d mX7_rounds Q 10 [vR 0, vI v1, vI v2] [] g := by
  refine wp_aload_n dX7_rounds_10 rfl rfl ?_
  refine wp_get (v := vR 42) dX7_rounds_11 fl_7_81 L_0 rfl ?_
  refine wp_aload_n dX7_rounds_14 rfl rfl ?_
  refine wp_get (v := vR 1) dX7_rounds_15 fl_7_10 L_0 rfl ?_
  refine wp_iload_n dX7_rounds_18 rfl ?_
  refine wp_aload_n dX7_rounds_19 rfl rfl ?_
  refine wp_get (v := vR 27) dX7_rounds_20 fl_7_54 L_0 rfl ?_
  refine wp_aload_n dX7_rounds_23 rfl rfl ?_
  refine wp_get (v := vR 39) dX7_rounds_24 fl_7_74 L_0 rfl ?_
  exact wp_callvV (As := [vR 1, vI v2, vR 27, vR 39]) dX7_rounds_27 ml_7_198 (by decide) rfl L_42 (by decide) rfl (Nat.le_of_ble_eq_true rfl) rfl (Nat.le_refl _) (Nat.le_refl _) hc k
theorem b_X7_rounds_30 {d : Nat} {Q : Option pV → pG → Prop} {g : pG} {v1 v2 : Int} (k1 : ((g 42) 0 = 0) → EV d mX7_rounds Q 46 [vR 0, vI v1, vI v2] [] g) (k2 : ¬ ((g 42) 0 = 0) → EV d mX7_rounds Q 40 [vR 0, vI v1, vI v2] [] g) : EV d mX7_rounds Q 30 [vR 0, vI v1, vI v2] [] g := by
  refine wp_aload_n dX7_rounds_30 rfl rfl ?_
  refine wp_get (v := vR 42) dX7_rounds_31 fl_7_81 L_0 rfl ?_
  refine wp_get (v := vI ((g 42) 0)) dX7_rounds_34 fl_7_205 L_42 rfl ?_
  exact wp_if_eq (tgt := 46) dX7_rounds_37 rfl k1 k2
theorem b_X7_rounds_40 {d : Nat} {Q : Option pV → pG → Prop} {g : pG} {v1 v2 : Int} (k : EV d mX7_rounds Q 4 [vR 0, vI (zor v1 (zshl 1 v2)), vI (w32 (v2 + 1))] [] g) : EV d mX7_rounds Q 40 [vR 0, vI v1, vI v2] [] g := by
  refine wp_iload_n dX7_rounds_40 rfl ?_
  refine wp_iconst dX7_rounds_41 kc_1 ?_
  refine wp_iload_n dX7_rounds_42 rfl ?_
  refine wp_ishl dX7_rounds_43 ?_
  refine wp_ior dX7_rounds_44 ?_
  refine wp_istore_n dX7_rounds_45 (Nat.le_of_ble_eq_true rfl) (pp (c := 0) rfl rfl) ?_
  refine wp_iinc dX7_rounds_46 rfl (Nat.le_of_ble_eq_true rfl) (pp (c := 1) rfl rfl) ?_
  refine wp_goto (tgt := 4) dX7_rounds_49 rfl ?_
  exact k
theorem b_X7_rounds_46 {d : Nat} {Q : Option pV → pG → Prop} {g : pG} {v1 v2 : Int} (k : EV d mX7_rounds Q 4 [vR 0, vI v1, vI (w32 (v2 + 1))] [] g) : EV d mX7_rounds Q 46 [vR 0, vI v1, vI v2] [] g := by
  refine wp_iinc dX7_rounds_46 rfl (Nat.le_of_ble_eq_true rfl) (pp (c := 1) rfl rfl) ?_
  refine wp_goto (tgt := 4) dX7_rounds_49 rfl ?_
  exact k
theorem b_X7_rounds_52 {d : Nat} {Q : Option pV → pG → Prop} {g : pG} {v1 v2 : Int} (hq : Q (some (vI v1)) g) : EV d mX7_rounds Q 52 [vR 0, vI v1, vI v2] [] g := by
  refine wp_iload_n dX7_rounds_52 rfl ?_
  exact wp_iret dX7_rounds_53 rfl hq
