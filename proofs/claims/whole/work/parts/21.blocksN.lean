theorem b_X3_copyFrom_0 {d : Nat} {Q : Option pV → pG → Prop} {g : pG} {t u : Nat} (ht : isPts t) (hu : isPts u) (hq : Q none (cset (cset g t (fup (g t) 1 ((g u) 1))) (t + 1) (fcp ((cset g t (fup (g t) 1 ((g u) 1))) (u + 1)) ((cset g t (fup (g t) 1 ((g u) 1))) (t + 1)) 0 0 8))) : EV d mX3_copyFrom Q 0 [vR t, vR u] [] g := by
  refine wp_aload_n dX3_copyFrom_0 rfl rfl ?_
  refine wp_aload_n dX3_copyFrom_1 rfl rfl ?_
  refine wp_get (v := vI ((g u) 1)) dX3_copyFrom_2 fl_3_15 hu.1 rfl ?_
  refine wp_putI dX3_copyFrom_5 fl_3_15 ht.1 rfl rfl ?_
  refine wp_aload_n dX3_copyFrom_8 rfl rfl ?_
  refine wp_get (v := vR (u + 1)) dX3_copyFrom_9 fl_3_9 hu.1 rfl ?_
  refine wp_iconst dX3_copyFrom_12 kc_0 ?_
  refine wp_aload_n dX3_copyFrom_13 rfl rfl ?_
  refine wp_get (v := vR (t + 1)) dX3_copyFrom_14 fl_3_9 ht.1 rfl ?_
  refine wp_iconst dX3_copyFrom_17 kc_0 ?_
  refine wp_bipush dX3_copyFrom_18 kb_8 kc_8 ?_
  refine wp_acopy (n0 := 8) (n1 := 8) dX3_copyFrom_20 al_3_40 hu.2 ht.2 (by decide) (by decide) (by decide) (by decide) (by decide) (Nat.le_of_ble_eq_true rfl) ?_
  exact wp_vret dX3_copyFrom_23 rfl hq
theorem b_X3_resize_0 {d : Nat} {Q : Option pV → pG → Prop} {g : pG} {t : Nat} {v1 : Int} (ht : isPts t) (k : EV d mX3_resize Q 19 [vR t, vI v1, vI (((cset g t (fup (g t) 1 (zmax 1 (zmin 8 v1)))) t) 1)] [] (cset g t (fup (g t) 1 (zmax 1 (zmin 8 v1))))) : EV d mX3_resize Q 0 [vR t, vI v1, vX 2] [] g := by
  refine wp_aload_n dX3_resize_0 rfl rfl ?_
  refine wp_iconst dX3_resize_1 kc_1 ?_
  refine wp_bipush dX3_resize_2 kb_8 kc_8 ?_
  refine wp_iload_n dX3_resize_4 rfl ?_
  refine wp_min dX3_resize_5 xl_3_23 (Nat.le_refl _) (Nat.le_refl _) (Nat.le_of_ble_eq_true rfl) ?_
  refine wp_max dX3_resize_8 xl_3_29 (Nat.le_refl _) (Nat.le_refl _) (Nat.le_of_ble_eq_true rfl) ?_
  refine wp_putI dX3_resize_11 fl_3_15 ht.1 rfl rfl ?_
  refine wp_aload_n dX3_resize_14 rfl rfl ?_
  refine wp_get (v := vI (((cset g t (fup (g t) 1 (zmax 1 (zmin 8 v1)))) t) 1)) dX3_resize_15 fl_3_15 ht.1 rfl ?_
  refine wp_istore_n dX3_resize_18 (Nat.le_of_ble_eq_true rfl) (pp (c := 1) rfl rfl) ?_
  exact k
theorem b_X3_resize_19 {d : Nat} {Q : Option pV → pG → Prop} {g : pG} {t : Nat} {v1 v2 : Int} (ht : isPts t) (k1 : (8 ≤ v2) → EV d mX3_resize Q 38 [vR t, vI v1, vI v2] [] g) (k2 : ¬ (8 ≤ v2) → EV d mX3_resize Q 25 [vR t, vI v1, vI v2] [] g) : EV d mX3_resize Q 19 [vR t, vI v1, vI v2] [] g := by
  refine wp_iload_n dX3_resize_19 rfl ?_
  refine wp_bipush dX3_resize_20 kb_8 kc_8 ?_
  exact wp_icmp_ge (tgt := 38) dX3_resize_22 rfl k1 k2
theorem b_X3_resize_25 {d : Nat} {Q : Option pV → pG → Prop} {g : pG} {t : Nat} {v1 v2 : Int} (ht : isPts t) (h1 : 0 ≤ v2) (h2 : v2 < 8) (k : EV d mX3_resize Q 19 [vR t, vI v1, vI (w32 (v2 + 1))] [] (cset g (t + 1) (fup (g (t + 1)) v2.toNat 0))) : EV d mX3_resize Q 25 [vR t, vI v1, vI v2] [] g := by
  refine wp_aload_n dX3_resize_25 rfl rfl ?_
  refine wp_get (v := vR (t + 1)) dX3_resize_26 fl_3_9 ht.1 rfl ?_
  refine wp_iload_n dX3_resize_29 rfl ?_
  refine wp_iconst dX3_resize_30 kc_0 ?_
  refine wp_iastore dX3_resize_31 h1 ht.2 h2 ?_
  refine wp_iinc dX3_resize_32 rfl (Nat.le_of_ble_eq_true rfl) (pp (c := 1) rfl rfl) ?_
  refine wp_goto (tgt := 19) dX3_resize_35 rfl ?_
  exact k
theorem b_X3_resize_38 {d : Nat} {Q : Option pV → pG → Prop} {g : pG} {t : Nat} {v1 v2 : Int} (ht : isPts t) (hq : Q none g) : EV d mX3_resize Q 38 [vR t, vI v1, vI v2] [] g := by
  exact wp_vret dX3_resize_38 rfl hq
theorem b_X3_has_0 {d : Nat} {Q : Option pV → pG → Prop} {g : pG} {t : Nat} {v1 : Int} (ht : isPts t) (k1 : (v1 < 0) → EV d mX3_has Q 16 [vR t, vI v1] [] g) (k2 : ¬ (v1 < 0) → EV d mX3_has Q 4 [vR t, vI v1] [] g) : EV d mX3_has Q 0 [vR t, vI v1] [] g := by
  refine wp_iload_n dX3_has_0 rfl ?_
  exact wp_if_lt (tgt := 16) dX3_has_1 rfl k1 k2
theorem b_X3_has_4 {d : Nat} {Q : Option pV → pG → Prop} {g : pG} {t : Nat} {v1 : Int} (ht : isPts t) (k1 : ((g t) 1 ≤ v1) → EV d mX3_has Q 16 [vR t, vI v1] [] g) (k2 : ¬ ((g t) 1 ≤ v1) → EV d mX3_has Q 12 [vR t, vI v1] [] g) : EV d mX3_has Q 4 [vR t, vI v1] [] g := by
  refine wp_iload_n dX3_has_4 rfl ?_
  refine wp_aload_n dX3_has_5 rfl rfl ?_
  refine wp_get (v := vI ((g t) 1)) dX3_has_6 fl_3_15 ht.1 rfl ?_
  exact wp_icmp_ge (tgt := 16) dX3_has_9 rfl k1 k2
theorem b_X3_has_12 {d : Nat} {Q : Option pV → pG → Prop} {g : pG} {t : Nat} {v1 : Int} (ht : isPts t) (hq : Q (some (vI 1)) g) : EV d mX3_has Q 12 [vR t, vI v1] [] g := by
  refine wp_iconst dX3_has_12 kc_1 ?_
  refine wp_goto (tgt := 17) dX3_has_13 rfl ?_
  exact wp_zret dX3_has_17 rfl (Or.inr rfl) hq
theorem b_X3_has_16 {d : Nat} {Q : Option pV → pG → Prop} {g : pG} {t : Nat} {v1 : Int} (ht : isPts t) (hq : Q (some (vI 0)) g) : EV d mX3_has Q 16 [vR t, vI v1] [] g := by
  refine wp_iconst dX3_has_16 kc_0 ?_
  exact wp_zret dX3_has_17 rfl (Or.inl rfl) hq
theorem b_X3_put_0 {d : Nat} {Q : Option pV → pG → Prop} {g : pG} {t : Nat} {v1 v2 : Int} (ht : isPts t) {R : Int → pG → Prop} (hc : CT d mX3_has [vR t, vI v1] g (qI R)) (k : ∀ (x : Int) (gg : pG), R x gg → EV d mX3_put Q 5 [vR t, vI v1, vI v2] [vI x] gg) : EV d mX3_put Q 0 [vR t, vI v1, vI v2] [] g := by
  refine wp_aload_n dX3_put_0 rfl rfl ?_
  refine wp_iload_n dX3_put_1 rfl ?_
  exact wp_callvI (As := [vI v1]) dX3_put_2 ml_3_19 (by decide) rfl ht.1 (by decide) rfl (Nat.le_of_ble_eq_true rfl) rfl (Nat.le_refl _) (Nat.le_refl _) hc k
theorem b_X3_put_5 {d : Nat} {Q : Option pV → pG → Prop} {g : pG} {t : Nat} {v1 v2 vs0 : Int} (ht : isPts t) (k1 : (vs0 = 0) → EV d mX3_put Q 25 [vR t, vI v1, vI v2] [] g) (k2 : ¬ (vs0 = 0) → EV d mX3_put Q 8 [vR t, vI v1, vI v2] [] g) : EV d mX3_put Q 5 [vR t, vI v1, vI v2] [vI vs0] g := by
  exact wp_if_eq (tgt := 25) dX3_put_5 rfl k1 k2
theorem b_X3_put_8 {d : Nat} {Q : Option pV → pG → Prop} {g : pG} {t : Nat} {v1 v2 : Int} (ht : isPts t) (h1 : 0 ≤ v1) (h2 : v1 < 8) (hq : Q none (cset g (t + 1) (fup (g (t + 1)) v1.toNat (zmax (-9) (zmin 9 v2))))) : EV d mX3_put Q 8 [vR t, vI v1, vI v2] [] g := by
  refine wp_aload_n dX3_put_8 rfl rfl ?_
  refine wp_get (v := vR (t + 1)) dX3_put_9 fl_3_9 ht.1 rfl ?_
  refine wp_iload_n dX3_put_12 rfl ?_
  refine wp_bipush dX3_put_13 kb_m9 kc_m9 ?_
  refine wp_bipush dX3_put_15 kb_9 kc_9 ?_
  refine wp_iload_n dX3_put_17 rfl ?_
  refine wp_min dX3_put_18 xl_3_23 (Nat.le_refl _) (Nat.le_refl _) (Nat.le_of_ble_eq_true rfl) ?_
  refine wp_max dX3_put_21 xl_3_29 (Nat.le_refl _) (Nat.le_refl _) (Nat.le_of_ble_eq_true rfl) ?_
  refine wp_iastore dX3_put_24 h1 ht.2 h2 ?_
  exact wp_vret dX3_put_25 rfl hq
theorem b_X3_put_25 {d : Nat} {Q : Option pV → pG → Prop} {g : pG} {t : Nat} {v1 v2 : Int} (ht : isPts t) (hq : Q none g) : EV d mX3_put Q 25 [vR t, vI v1, vI v2] [] g := by
  exact wp_vret dX3_put_25 rfl hq
theorem b_X3_number_0 {d : Nat} {Q : Option pV → pG → Prop} {g : pG} {t : Nat} {v1 : Int} (ht : isPts t) {R : Int → pG → Prop} (hc : CT d mX3_has [vR t, vI v1] g (qI R)) (k : ∀ (x : Int) (gg : pG), R x gg → EV d mX3_number Q 5 [vR t, vI v1] [vI x] gg) : EV d mX3_number Q 0 [vR t, vI v1] [] g := by
  refine wp_aload_n dX3_number_0 rfl rfl ?_
  refine wp_iload_n dX3_number_1 rfl ?_
  exact wp_callvI (As := [vI v1]) dX3_number_2 ml_3_19 (by decide) rfl ht.1 (by decide) rfl (Nat.le_of_ble_eq_true rfl) rfl (Nat.le_refl _) (Nat.le_refl _) hc k
theorem b_X3_number_5 {d : Nat} {Q : Option pV → pG → Prop} {g : pG} {t : Nat} {v1 vs0 : Int} (ht : isPts t) (k1 : (vs0 = 0) → EV d mX3_number Q 17 [vR t, vI v1] [] g) (k2 : ¬ (vs0 = 0) → EV d mX3_number Q 8 [vR t, vI v1] [] g) : EV d mX3_number Q 5 [vR t, vI v1] [vI vs0] g := by
  exact wp_if_eq (tgt := 17) dX3_number_5 rfl k1 k2
theorem b_X3_number_8 {d : Nat} {Q : Option pV → pG → Prop} {g : pG} {t : Nat} {v1 : Int} (ht : isPts t) (h1 : 0 ≤ v1) (h2 : v1 < 8) (hq : Q (some (vI ((g (t + 1)) v1.toNat))) g) : EV d mX3_number Q 8 [vR t, vI v1] [] g := by
  refine wp_aload_n dX3_number_8 rfl rfl ?_
  refine wp_get (v := vR (t + 1)) dX3_number_9 fl_3_9 ht.1 rfl ?_
  refine wp_iload_n dX3_number_12 rfl ?_
  refine wp_iaload dX3_number_13 h1 ht.2 h2 ?_
  refine wp_goto (tgt := 18) dX3_number_14 rfl ?_
  exact wp_iret dX3_number_18 rfl hq
theorem b_X3_number_17 {d : Nat} {Q : Option pV → pG → Prop} {g : pG} {t : Nat} {v1 : Int} (ht : isPts t) (hq : Q (some (vI 0)) g) : EV d mX3_number Q 17 [vR t, vI v1] [] g := by
  refine wp_iconst dX3_number_17 kc_0 ?_
  exact wp_iret dX3_number_18 rfl hq
theorem b_X3_notZero_0 {d : Nat} {Q : Option pV → pG → Prop} {g : pG} {t : Nat} (ht : isPts t) (k : EV d mX3_notZero Q 4 [vR t, vI 0, vI 0] [] g) : EV d mX3_notZero Q 0 [vR t, vX 2, vX 2] [] g := by
  refine wp_iconst dX3_notZero_0 kc_0 ?_
  refine wp_istore_n dX3_notZero_1 (Nat.le_of_ble_eq_true rfl) (pp (c := 0) rfl rfl) ?_
  refine wp_iconst dX3_notZero_2 kc_0 ?_
  refine wp_istore_n dX3_notZero_3 (Nat.le_of_ble_eq_true rfl) (pp (c := 1) rfl rfl) ?_
  exact k
theorem b_X3_notZero_4 {d : Nat} {Q : Option pV → pG → Prop} {g : pG} {t : Nat} {v1 v2 : Int} (ht : isPts t) (k1 : ((g t) 1 ≤ v2) → EV d mX3_notZero Q 30 [vR t, vI v1, vI v2] [] g) (k2 : ¬ ((g t) 1 ≤ v2) → EV d mX3_notZero Q 12 [vR t, vI v1, vI v2] [] g) : EV d mX3_notZero Q 4 [vR t, vI v1, vI v2] [] g := by
  refine wp_iload_n dX3_notZero_4 rfl ?_
  refine wp_aload_n dX3_notZero_5 rfl rfl ?_
  refine wp_get (v := vI ((g t) 1)) dX3_notZero_6 fl_3_15 ht.1 rfl ?_
  exact wp_icmp_ge (tgt := 30) dX3_notZero_9 rfl k1 k2
theorem b_X3_notZero_12 {d : Nat} {Q : Option pV → pG → Prop} {g : pG} {t : Nat} {v1 v2 : Int} (ht : isPts t) (h1 : 0 ≤ v2) (h2 : v2 < 8) (k1 : ((g (t + 1)) v2.toNat = 0) → EV d mX3_notZero Q 24 [vR t, vI v1, vI v2] [] g) (k2 : ¬ ((g (t + 1)) v2.toNat = 0) → EV d mX3_notZero Q 21 [vR t, vI v1, vI v2] [] g) : EV d mX3_notZero Q 12 [vR t, vI v1, vI v2] [] g := by
  refine wp_aload_n dX3_notZero_12 rfl rfl ?_
  refine wp_get (v := vR (t + 1)) dX3_notZero_13 fl_3_9 ht.1 rfl ?_
  refine wp_iload_n dX3_notZero_16 rfl ?_
  refine wp_iaload dX3_notZero_17 h1 ht.2 h2 ?_
  exact wp_if_eq (tgt := 24) dX3_notZero_18 rfl k1 k2
theorem b_X3_notZero_21 {d : Nat} {Q : Option pV → pG → Prop} {g : pG} {t : Nat} {v1 v2 : Int} (ht : isPts t) (k : EV d mX3_notZero Q 4 [vR t, vI (w32 (v1 + 1)), vI (w32 (v2 + 1))] [] g) : EV d mX3_notZero Q 21 [vR t, vI v1, vI v2] [] g := by
  refine wp_iinc dX3_notZero_21 rfl (Nat.le_of_ble_eq_true rfl) (pp (c := 0) rfl rfl) ?_
  refine wp_iinc dX3_notZero_24 rfl (Nat.le_of_ble_eq_true rfl) (pp (c := 1) rfl rfl) ?_
  refine wp_goto (tgt := 4) dX3_notZero_27 rfl ?_
  exact k
theorem b_X3_notZero_24 {d : Nat} {Q : Option pV → pG → Prop} {g : pG} {t : Nat} {v1 v2 : Int} (ht : isPts t) (k : EV d mX3_notZero Q 4 [vR t, vI v1, vI (w32 (v2 + 1))] [] g) : EV d mX3_notZero Q 24 [vR t, vI v1, vI v2] [] g := by
  refine wp_iinc dX3_notZero_24 rfl (Nat.le_of_ble_eq_true rfl) (pp (c := 1) rfl rfl) ?_
  refine wp_goto (tgt := 4) dX3_notZero_27 rfl ?_
  exact k
theorem b_X3_notZero_30 {d : Nat} {Q : Option pV → pG → Prop} {g : pG} {t : Nat} {v1 v2 : Int} (ht : isPts t) (hq : Q (some (vI v1)) g) : EV d mX3_notZero Q 30 [vR t, vI v1, vI v2] [] g := by
  refine wp_iload_n dX3_notZero_30 rfl ?_
  exact wp_iret dX3_notZero_31 rfl hq
theorem b_X3_suffer_0 {d : Nat} {Q : Option pV → pG → Prop} {g : pG} {t : Nat} {v1 v2 : Int} (ht : isPts t) {R : Int → pG → Prop} (hc : CT d mX3_surest [vR t] g (qI R)) (k : ∀ (x : Int) (gg : pG), R x gg → EV d mX3_suffer Q 4 [vR t, vI v1, vI v2, vX 2] [vI x] gg) : EV d mX3_suffer Q 0 [vR t, vI v1, vI v2, vX 2] [] g := by
  refine wp_aload_n dX3_suffer_0 rfl rfl ?_
  exact wp_callvI (As := []) dX3_suffer_1 ml_3_58 (by decide) rfl ht.1 (by decide) rfl (Nat.le_of_ble_eq_true rfl) rfl (Nat.le_refl _) (Nat.le_refl _) hc k
theorem b_X3_suffer_4 {d : Nat} {Q : Option pV → pG → Prop} {g : pG} {t : Nat} {v1 v2 vs0 : Int} (ht : isPts t) (k0 : v1 = 0 → EV d mX3_suffer Q 44 [vR t, vI v1, vI v2, vI vs0] [] g) (k1 : v1 = 1 → EV d mX3_suffer Q 52 [vR t, vI v1, vI v2, vI vs0] [] g) (k2 : v1 = 2 → EV d mX3_suffer Q 60 [vR t, vI v1, vI v2, vI vs0] [] g) (k3 : v1 = 3 → EV d mX3_suffer Q 73 [vR t, vI v1, vI v2, vI vs0] [] g) (k4 : v1 = 4 → EV d mX3_suffer Q 82 [vR t, vI v1, vI v2, vI vs0] [] g) (k5 : v1 = 5 → EV d mX3_suffer Q 95 [vR t, vI v1, vI v2, vI vs0] [] g) (kd : (v1 ≠ 0 ∧ v1 ≠ 1 ∧ v1 ≠ 2 ∧ v1 ≠ 3 ∧ v1 ≠ 4 ∧ v1 ≠ 5) → EV d mX3_suffer Q 116 [vR t, vI v1, vI v2, vI vs0] [] g) : EV d mX3_suffer Q 4 [vR t, vI v1, vI v2, vX 2] [vI vs0] g := by
  refine wp_istore_n dX3_suffer_4 (Nat.le_of_ble_eq_true rfl) (pp (c := 2) rfl rfl) ?_
  refine wp_iload_n dX3_suffer_5 rfl ?_
  refine wp_tsw (x := v1) dX3_suffer_6 (fun hh => ⟨116, rfl, kd (by omega)⟩) (fun hh hh2 => ?_)
  rcases (show v1 = 0 ∨ v1 = 1 ∨ v1 = 2 ∨ v1 = 3 ∨ v1 = 4 ∨ v1 = 5 by omega) with hq | hq | hq | hq | hq | hq
  · exact ⟨38, 44, by rw [hq]; rfl, rfl, k0 hq⟩
  · exact ⟨46, 52, by rw [hq]; rfl, rfl, k1 hq⟩
  · exact ⟨54, 60, by rw [hq]; rfl, rfl, k2 hq⟩
  · exact ⟨67, 73, by rw [hq]; rfl, rfl, k3 hq⟩
  · exact ⟨76, 82, by rw [hq]; rfl, rfl, k4 hq⟩
  · exact ⟨89, 95, by rw [hq]; rfl, rfl, k5 hq⟩
theorem b_X3_suffer_44 {d : Nat} {Q : Option pV → pG → Prop} {g : pG} {t : Nat} {v1 v2 v3 : Int} (ht : isPts t) {R : pG → Prop} (hc : CT d mX3_halve [vR t, vI v3] g (qV R)) (k : ∀ gg : pG, R gg → EV d mX3_suffer Q 49 [vR t, vI v1, vI v2, vI v3] [] gg) : EV d mX3_suffer Q 44 [vR t, vI v1, vI v2, vI v3] [] g := by
  refine wp_aload_n dX3_suffer_44 rfl rfl ?_
  refine wp_iload_n dX3_suffer_45 rfl ?_
  exact wp_callvV (As := [vI v3]) dX3_suffer_46 ml_3_61 (by decide) rfl ht.1 (by decide) rfl (Nat.le_of_ble_eq_true rfl) rfl (Nat.le_refl _) (Nat.le_refl _) hc k
theorem b_X3_suffer_49 {d : Nat} {Q : Option pV → pG → Prop} {g : pG} {t : Nat} {v1 v2 v3 : Int} (ht : isPts t) (hq : Q none g) : EV d mX3_suffer Q 49 [vR t, vI v1, vI v2, vI v3] [] g := by
  refine wp_goto (tgt := 116) dX3_suffer_49 rfl ?_
  exact wp_vret dX3_suffer_116 rfl hq
theorem b_X3_suffer_52 {d : Nat} {Q : Option pV → pG → Prop} {g : pG} {t : Nat} {v1 v2 v3 : Int} (ht : isPts t) {R : pG → Prop} (hc : CT d mX3_turn [vR t, vI v3] g (qV R)) (k : ∀ gg : pG, R gg → EV d mX3_suffer Q 57 [vR t, vI v1, vI v2, vI v3] [] gg) : EV d mX3_suffer Q 52 [vR t, vI v1, vI v2, vI v3] [] g := by
  refine wp_aload_n dX3_suffer_52 rfl rfl ?_
  refine wp_iload_n dX3_suffer_53 rfl ?_
  exact wp_callvV (As := [vI v3]) dX3_suffer_54 ml_3_64 (by decide) rfl ht.1 (by decide) rfl (Nat.le_of_ble_eq_true rfl) rfl (Nat.le_refl _) (Nat.le_refl _) hc k
theorem b_X3_suffer_57 {d : Nat} {Q : Option pV → pG → Prop} {g : pG} {t : Nat} {v1 v2 v3 : Int} (ht : isPts t) (hq : Q none g) : EV d mX3_suffer Q 57 [vR t, vI v1, vI v2, vI v3] [] g := by
  refine wp_goto (tgt := 116) dX3_suffer_57 rfl ?_
  exact wp_vret dX3_suffer_116 rfl hq
theorem b_X3_suffer_60 {d : Nat} {Q : Option pV → pG → Prop} {g : pG} {t : Nat} {v1 v2 v3 : Int} (ht : isPts t) {R : pG → Prop} (hc : CT d mX3_turn [vR t, vI v3] g (qV R)) (k : ∀ gg : pG, R gg → EV d mX3_suffer Q 65 [vR t, vI v1, vI v2, vI v3] [] gg) : EV d mX3_suffer Q 60 [vR t, vI v1, vI v2, vI v3] [] g := by
  refine wp_aload_n dX3_suffer_60 rfl rfl ?_
  refine wp_iload_n dX3_suffer_61 rfl ?_
  exact wp_callvV (As := [vI v3]) dX3_suffer_62 ml_3_64 (by decide) rfl ht.1 (by decide) rfl (Nat.le_of_ble_eq_true rfl) rfl (Nat.le_refl _) (Nat.le_refl _) hc k
theorem b_X3_suffer_65 {d : Nat} {Q : Option pV → pG → Prop} {g : pG} {t : Nat} {v1 v2 v3 : Int} (ht : isPts t) {R : pG → Prop} (hc : CT d mX3_lessenBehind [vR t, vI v3] g (qV R)) (k : ∀ gg : pG, R gg → EV d mX3_suffer Q 70 [vR t, vI v1, vI v2, vI v3] [] gg) : EV d mX3_suffer Q 65 [vR t, vI v1, vI v2, vI v3] [] g := by
  refine wp_aload_n dX3_suffer_65 rfl rfl ?_
  refine wp_iload_n dX3_suffer_66 rfl ?_
  exact wp_callvV (As := [vI v3]) dX3_suffer_67 ml_3_67 (by decide) rfl ht.1 (by decide) rfl (Nat.le_of_ble_eq_true rfl) rfl (Nat.le_refl _) (Nat.le_refl _) hc k
theorem b_X3_suffer_70 {d : Nat} {Q : Option pV → pG → Prop} {g : pG} {t : Nat} {v1 v2 v3 : Int} (ht : isPts t) (hq : Q none g) : EV d mX3_suffer Q 70 [vR t, vI v1, vI v2, vI v3] [] g := by
  refine wp_goto (tgt := 116) dX3_suffer_70 rfl ?_
  exact wp_vret dX3_suffer_116 rfl hq
theorem b_X3_suffer_73 {d : Nat} {Q : Option pV → pG → Prop} {g : pG} {t : Nat} {v1 v2 v3 : Int} (ht : isPts t) {R : pG → Prop} (hc : CT d mX3_bringOver [vR t, vI v3, vI v2] g (qV R)) (k : ∀ gg : pG, R gg → EV d mX3_suffer Q 79 [vR t, vI v1, vI v2, vI v3] [] gg) : EV d mX3_suffer Q 73 [vR t, vI v1, vI v2, vI v3] [] g := by
  refine wp_aload_n dX3_suffer_73 rfl rfl ?_
  refine wp_iload_n dX3_suffer_74 rfl ?_
  refine wp_iload_n dX3_suffer_75 rfl ?_
  exact wp_callvV (As := [vI v3, vI v2]) dX3_suffer_76 ml_3_70 (by decide) rfl ht.1 (by decide) rfl (Nat.le_of_ble_eq_true rfl) rfl (Nat.le_refl _) (Nat.le_refl _) hc k
theorem b_X3_suffer_79 {d : Nat} {Q : Option pV → pG → Prop} {g : pG} {t : Nat} {v1 v2 v3 : Int} (ht : isPts t) (hq : Q none g) : EV d mX3_suffer Q 79 [vR t, vI v1, vI v2, vI v3] [] g := by
  refine wp_goto (tgt := 116) dX3_suffer_79 rfl ?_
  exact wp_vret dX3_suffer_116 rfl hq
theorem b_X3_suffer_82 {d : Nat} {Q : Option pV → pG → Prop} {g : pG} {t : Nat} {v1 v2 v3 : Int} (ht : isPts t) {R : pG → Prop} (hc : CT d mX3_halve [vR t, vI v3] g (qV R)) (k : ∀ gg : pG, R gg → EV d mX3_suffer Q 87 [vR t, vI v1, vI v2, vI v3] [] gg) : EV d mX3_suffer Q 82 [vR t, vI v1, vI v2, vI v3] [] g := by
  refine wp_aload_n dX3_suffer_82 rfl rfl ?_
  refine wp_iload_n dX3_suffer_83 rfl ?_
  exact wp_callvV (As := [vI v3]) dX3_suffer_84 ml_3_61 (by decide) rfl ht.1 (by decide) rfl (Nat.le_of_ble_eq_true rfl) rfl (Nat.le_refl _) (Nat.le_refl _) hc k
theorem b_X3_suffer_87 {d : Nat} {Q : Option pV → pG → Prop} {g : pG} {t : Nat} {v1 v2 v3 : Int} (ht : isPts t) {R : pG → Prop} (hc : CT d mX3_bringOthersNearer [vR t, vI v3] g (qV R)) (k : ∀ gg : pG, R gg → EV d mX3_suffer Q 92 [vR t, vI v1, vI v2, vI v3] [] gg) : EV d mX3_suffer Q 87 [vR t, vI v1, vI v2, vI v3] [] g := by
  refine wp_aload_n dX3_suffer_87 rfl rfl ?_
  refine wp_iload_n dX3_suffer_88 rfl ?_
  exact wp_callvV (As := [vI v3]) dX3_suffer_89 ml_3_73 (by decide) rfl ht.1 (by decide) rfl (Nat.le_of_ble_eq_true rfl) rfl (Nat.le_refl _) (Nat.le_refl _) hc k
theorem b_X3_suffer_92 {d : Nat} {Q : Option pV → pG → Prop} {g : pG} {t : Nat} {v1 v2 v3 : Int} (ht : isPts t) (hq : Q none g) : EV d mX3_suffer Q 92 [vR t, vI v1, vI v2, vI v3] [] g := by
  refine wp_goto (tgt := 116) dX3_suffer_92 rfl ?_
  exact wp_vret dX3_suffer_116 rfl hq
theorem b_X3_suffer_95 {d : Nat} {Q : Option pV → pG → Prop} {g : pG} {t : Nat} {v1 v2 v3 : Int} (ht : isPts t) {R : pG → Prop} (hc : CT d mX3_turn [vR t, vI v3] g (qV R)) (k : ∀ gg : pG, R gg → EV d mX3_suffer Q 100 [vR t, vI v1, vI v2, vI v3] [] gg) : EV d mX3_suffer Q 95 [vR t, vI v1, vI v2, vI v3] [] g := by
  refine wp_aload_n dX3_suffer_95 rfl rfl ?_
  refine wp_iload_n dX3_suffer_96 rfl ?_
  exact wp_callvV (As := [vI v3]) dX3_suffer_97 ml_3_64 (by decide) rfl ht.1 (by decide) rfl (Nat.le_of_ble_eq_true rfl) rfl (Nat.le_refl _) (Nat.le_refl _) hc k
theorem b_X3_suffer_100 {d : Nat} {Q : Option pV → pG → Prop} {g : pG} {t : Nat} {v1 v2 v3 : Int} (ht : isPts t) {R : pG → Prop} (hc : CT d mX3_lessenBehind [vR t, vI v3] g (qV R)) (k : ∀ gg : pG, R gg → EV d mX3_suffer Q 105 [vR t, vI v1, vI v2, vI v3] [] gg) : EV d mX3_suffer Q 100 [vR t, vI v1, vI v2, vI v3] [] g := by
  refine wp_aload_n dX3_suffer_100 rfl rfl ?_
  refine wp_iload_n dX3_suffer_101 rfl ?_
  exact wp_callvV (As := [vI v3]) dX3_suffer_102 ml_3_67 (by decide) rfl ht.1 (by decide) rfl (Nat.le_of_ble_eq_true rfl) rfl (Nat.le_refl _) (Nat.le_refl _) hc k
theorem b_X3_suffer_105 {d : Nat} {Q : Option pV → pG → Prop} {g : pG} {t : Nat} {v1 v2 v3 : Int} (ht : isPts t) {R : Int → pG → Prop} (hc : CT d mX3_surest [vR t] g (qI R)) (k : ∀ (x : Int) (gg : pG), R x gg → EV d mX3_suffer Q 110 [vR t, vI v1, vI v2, vI v3] [vI x, vR t] gg) : EV d mX3_suffer Q 105 [vR t, vI v1, vI v2, vI v3] [] g := by
  refine wp_aload_n dX3_suffer_105 rfl rfl ?_
  refine wp_aload_n dX3_suffer_106 rfl rfl ?_
  exact wp_callvI (As := []) dX3_suffer_107 ml_3_58 (by decide) rfl ht.1 (by decide) rfl (Nat.le_of_ble_eq_true rfl) rfl (Nat.le_refl _) (Nat.le_refl _) hc k
theorem b_X3_suffer_110 {d : Nat} {Q : Option pV → pG → Prop} {g : pG} {t : Nat} {v1 v2 v3 vs1 : Int} (ht : isPts t) {R : pG → Prop} (hc : CT d mX3_halve [vR t, vI vs1] g (qV R)) (k : ∀ gg : pG, R gg → EV d mX3_suffer Q 113 [vR t, vI v1, vI v2, vI v3] [] gg) : EV d mX3_suffer Q 110 [vR t, vI v1, vI v2, vI v3] [vI vs1, vR t] g := by
  exact wp_callvV (As := [vI vs1]) dX3_suffer_110 ml_3_61 (by decide) rfl ht.1 (by decide) rfl (Nat.le_of_ble_eq_true rfl) rfl (Nat.le_refl _) (Nat.le_refl _) hc k
theorem b_X3_suffer_113 {d : Nat} {Q : Option pV → pG → Prop} {g : pG} {t : Nat} {v1 v2 v3 : Int} (ht : isPts t) (hq : Q none g) : EV d mX3_suffer Q 113 [vR t, vI v1, vI v2, vI v3] [] g := by
  refine wp_goto (tgt := 116) dX3_suffer_113 rfl ?_
  exact wp_vret dX3_suffer_116 rfl hq
theorem b_X3_suffer_116 {d : Nat} {Q : Option pV → pG → Prop} {g : pG} {t : Nat} {v1 v2 v3 : Int} (ht : isPts t) (hq : Q none g) : EV d mX3_suffer Q 116 [vR t, vI v1, vI v2, vI v3] [] g := by
  exact wp_vret dX3_suffer_116 rfl hq
theorem b_X3_surest_0 {d : Nat} {Q : Option pV → pG → Prop} {g : pG} {t : Nat} (ht : isPts t) (k : EV d mX3_surest Q 6 [vR t, vI 0, vI 0, vI 0, vX 2] [] g) : EV d mX3_surest Q 0 [vR t, vX 2, vX 2, vX 2, vX 2] [] g := by
  refine wp_iconst dX3_surest_0 kc_0 ?_
  refine wp_istore_n dX3_surest_1 (Nat.le_of_ble_eq_true rfl) (pp (c := 0) rfl rfl) ?_
  refine wp_iconst dX3_surest_2 kc_0 ?_
  refine wp_istore_n dX3_surest_3 (Nat.le_of_ble_eq_true rfl) (pp (c := 1) rfl rfl) ?_
  refine wp_iconst dX3_surest_4 kc_0 ?_
  refine wp_istore_n dX3_surest_5 (Nat.le_of_ble_eq_true rfl) (pp (c := 2) rfl rfl) ?_
  exact k
theorem b_X3_surest_6 {d : Nat} {Q : Option pV → pG → Prop} {g : pG} {t : Nat} {v1 v2 v3 : Int} {u4 : pV} (ht : isPts t) (k1 : ((g t) 1 ≤ v3) → EV d mX3_surest Q 58 [vR t, vI v1, vI v2, vI v3, u4] [] g) (k2 : ¬ ((g t) 1 ≤ v3) → EV d mX3_surest Q 14 [vR t, vI v1, vI v2, vI v3, u4] [] g) : EV d mX3_surest Q 6 [vR t, vI v1, vI v2, vI v3, u4] [] g := by
  refine wp_iload_n dX3_surest_6 rfl ?_
  refine wp_aload_n dX3_surest_7 rfl rfl ?_
  refine wp_get (v := vI ((g t) 1)) dX3_surest_8 fl_3_15 ht.1 rfl ?_
  exact wp_icmp_ge (tgt := 58) dX3_surest_11 rfl k1 k2
theorem b_X3_surest_14 {d : Nat} {Q : Option pV → pG → Prop} {g : pG} {t : Nat} {v1 v2 v3 : Int} {u4 : pV} (ht : isPts t) (h1 : 0 ≤ v3) (h2 : v3 < 8) (k1 : (0 ≤ (g (t + 1)) v3.toNat) → EV d mX3_surest Q 33 [vR t, vI v1, vI v2, vI v3, u4] [] g) (k2 : ¬ (0 ≤ (g (t + 1)) v3.toNat) → EV d mX3_surest Q 23 [vR t, vI v1, vI v2, vI v3, u4] [] g) : EV d mX3_surest Q 14 [vR t, vI v1, vI v2, vI v3, u4] [] g := by
  refine wp_aload_n dX3_surest_14 rfl rfl ?_
  refine wp_get (v := vR (t + 1)) dX3_surest_15 fl_3_9 ht.1 rfl ?_
  refine wp_iload_n dX3_surest_18 rfl ?_
  refine wp_iaload dX3_surest_19 h1 ht.2 h2 ?_
  exact wp_if_ge (tgt := 33) dX3_surest_20 rfl k1 k2
theorem b_X3_surest_23 {d : Nat} {Q : Option pV → pG → Prop} {g : pG} {t : Nat} {v1 v2 v3 : Int} {u4 : pV} (ht : isPts t) (h1 : 0 ≤ v3) (h2 : v3 < 8) (k1 : (w32 (-((g (t + 1)) v3.toNat)) ≤ v2) → EV d mX3_surest Q 52 [vR t, vI v1, vI v2, vI v3, vI (w32 (-((g (t + 1)) v3.toNat)))] [] g) (k2 : ¬ (w32 (-((g (t + 1)) v3.toNat)) ≤ v2) → EV d mX3_surest Q 47 [vR t, vI v1, vI v2, vI v3, vI (w32 (-((g (t + 1)) v3.toNat)))] [] g) : EV d mX3_surest Q 23 [vR t, vI v1, vI v2, vI v3, u4] [] g := by
  refine wp_aload_n dX3_surest_23 rfl rfl ?_
  refine wp_get (v := vR (t + 1)) dX3_surest_24 fl_3_9 ht.1 rfl ?_
  refine wp_iload_n dX3_surest_27 rfl ?_
  refine wp_iaload dX3_surest_28 h1 ht.2 h2 ?_
  refine wp_ineg dX3_surest_29 ?_
  refine wp_goto (tgt := 39) dX3_surest_30 rfl ?_
  refine wp_istore dX3_surest_39 (Nat.le_of_ble_eq_true rfl) (pp (c := 3) rfl rfl) ?_
  refine wp_iload dX3_surest_41 rfl ?_
  refine wp_iload_n dX3_surest_43 rfl ?_
  exact wp_icmp_le (tgt := 52) dX3_surest_44 rfl k1 k2
theorem b_X3_surest_33 {d : Nat} {Q : Option pV → pG → Prop} {g : pG} {t : Nat} {v1 v2 v3 : Int} {u4 : pV} (ht : isPts t) (h1 : 0 ≤ v3) (h2 : v3 < 8) (k1 : ((g (t + 1)) v3.toNat ≤ v2) → EV d mX3_surest Q 52 [vR t, vI v1, vI v2, vI v3, vI ((g (t + 1)) v3.toNat)] [] g) (k2 : ¬ ((g (t + 1)) v3.toNat ≤ v2) → EV d mX3_surest Q 47 [vR t, vI v1, vI v2, vI v3, vI ((g (t + 1)) v3.toNat)] [] g) : EV d mX3_surest Q 33 [vR t, vI v1, vI v2, vI v3, u4] [] g := by
  refine wp_aload_n dX3_surest_33 rfl rfl ?_
  refine wp_get (v := vR (t + 1)) dX3_surest_34 fl_3_9 ht.1 rfl ?_
  refine wp_iload_n dX3_surest_37 rfl ?_
  refine wp_iaload dX3_surest_38 h1 ht.2 h2 ?_
  refine wp_istore dX3_surest_39 (Nat.le_of_ble_eq_true rfl) (pp (c := 3) rfl rfl) ?_
  refine wp_iload dX3_surest_41 rfl ?_
  refine wp_iload_n dX3_surest_43 rfl ?_
  exact wp_icmp_le (tgt := 52) dX3_surest_44 rfl k1 k2
theorem b_X3_surest_47 {d : Nat} {Q : Option pV → pG → Prop} {g : pG} {t : Nat} {v1 v2 v3 v4 : Int} (ht : isPts t) (k : EV d mX3_surest Q 6 [vR t, vI v3, vI v4, vI (w32 (v3 + 1)), vI v4] [] g) : EV d mX3_surest Q 47 [vR t, vI v1, vI v2, vI v3, vI v4] [] g := by
  refine wp_iload dX3_surest_47 rfl ?_
  refine wp_istore_n dX3_surest_49 (Nat.le_of_ble_eq_true rfl) (pp (c := 1) rfl rfl) ?_
  refine wp_iload_n dX3_surest_50 rfl ?_
  refine wp_istore_n dX3_surest_51 (Nat.le_of_ble_eq_true rfl) (pp (c := 0) rfl rfl) ?_
  refine wp_iinc dX3_surest_52 rfl (Nat.le_of_ble_eq_true rfl) (pp (c := 2) rfl rfl) ?_
  refine wp_goto (tgt := 6) dX3_surest_55 rfl ?_
  exact k
theorem b_X3_surest_52 {d : Nat} {Q : Option pV → pG → Prop} {g : pG} {t : Nat} {v1 v2 v3 v4 : Int} (ht : isPts t) (k : EV d mX3_surest Q 6 [vR t, vI v1, vI v2, vI (w32 (v3 + 1)), vI v4] [] g) : EV d mX3_surest Q 52 [vR t, vI v1, vI v2, vI v3, vI v4] [] g := by
  refine wp_iinc dX3_surest_52 rfl (Nat.le_of_ble_eq_true rfl) (pp (c := 2) rfl rfl) ?_
  refine wp_goto (tgt := 6) dX3_surest_55 rfl ?_
  exact k
theorem b_X3_surest_58 {d : Nat} {Q : Option pV → pG → Prop} {g : pG} {t : Nat} {v1 v2 v3 : Int} {u4 : pV} (ht : isPts t) (hq : Q (some (vI v1)) g) : EV d mX3_surest Q 58 [vR t, vI v1, vI v2, vI v3, u4] [] g := by
  refine wp_iload_n dX3_surest_58 rfl ?_
  exact wp_iret dX3_surest_59 rfl hq
theorem b_X3_halve_0 {d : Nat} {Q : Option pV → pG → Prop} {g : pG} {t : Nat} {v1 : Int} (ht : isPts t) {R : Int → pG → Prop} (hc : CT d mX3_has [vR t, vI v1] g (qI R)) (k : ∀ (x : Int) (gg : pG), R x gg → EV d mX3_halve Q 5 [vR t, vI v1] [vI x] gg) : EV d mX3_halve Q 0 [vR t, vI v1] [] g := by
  refine wp_aload_n dX3_halve_0 rfl rfl ?_
  refine wp_iload_n dX3_halve_1 rfl ?_
  exact wp_callvI (As := [vI v1]) dX3_halve_2 ml_3_19 (by decide) rfl ht.1 (by decide) rfl (Nat.le_of_ble_eq_true rfl) rfl (Nat.le_refl _) (Nat.le_refl _) hc k
theorem b_X3_halve_5 {d : Nat} {Q : Option pV → pG → Prop} {g : pG} {t : Nat} {v1 vs0 : Int} (ht : isPts t) (k1 : (vs0 = 0) → EV d mX3_halve Q 22 [vR t, vI v1] [] g) (k2 : ¬ (vs0 = 0) → EV d mX3_halve Q 8 [vR t, vI v1] [] g) : EV d mX3_halve Q 5 [vR t, vI v1] [vI vs0] g := by
  exact wp_if_eq (tgt := 22) dX3_halve_5 rfl k1 k2
theorem b_X3_halve_8 {d : Nat} {Q : Option pV → pG → Prop} {g : pG} {t : Nat} {v1 : Int} (ht : isPts t) (h1 : 0 ≤ v1) (h2 : v1 < 8) (hq : Q none (cset g (t + 1) (fup (g (t + 1)) v1.toNat (w32 (((g (t + 1)) v1.toNat).tdiv 2))))) : EV d mX3_halve Q 8 [vR t, vI v1] [] g := by
  refine wp_aload_n dX3_halve_8 rfl rfl ?_
  refine wp_get (v := vR (t + 1)) dX3_halve_9 fl_3_9 ht.1 rfl ?_
  refine wp_iload_n dX3_halve_12 rfl ?_
  refine wp_aload_n dX3_halve_13 rfl rfl ?_
  refine wp_get (v := vR (t + 1)) dX3_halve_14 fl_3_9 ht.1 rfl ?_
  refine wp_iload_n dX3_halve_17 rfl ?_
  refine wp_iaload dX3_halve_18 h1 ht.2 h2 ?_
  refine wp_iconst dX3_halve_19 kc_2 ?_
  refine wp_idiv dX3_halve_20 (by decide) ?_
  refine wp_iastore dX3_halve_21 h1 ht.2 h2 ?_
  exact wp_vret dX3_halve_22 rfl hq
theorem b_X3_halve_22 {d : Nat} {Q : Option pV → pG → Prop} {g : pG} {t : Nat} {v1 : Int} (ht : isPts t) (hq : Q none g) : EV d mX3_halve Q 22 [vR t, vI v1] [] g := by
  exact wp_vret dX3_halve_22 rfl hq
theorem b_X3_turn_0 {d : Nat} {Q : Option pV → pG → Prop} {g : pG} {t : Nat} {v1 : Int} (ht : isPts t) {R : Int → pG → Prop} (hc : CT d mX3_has [vR t, vI v1] g (qI R)) (k : ∀ (x : Int) (gg : pG), R x gg → EV d mX3_turn Q 5 [vR t, vI v1] [vI x] gg) : EV d mX3_turn Q 0 [vR t, vI v1] [] g := by
  refine wp_aload_n dX3_turn_0 rfl rfl ?_
  refine wp_iload_n dX3_turn_1 rfl ?_
  exact wp_callvI (As := [vI v1]) dX3_turn_2 ml_3_19 (by decide) rfl ht.1 (by decide) rfl (Nat.le_of_ble_eq_true rfl) rfl (Nat.le_refl _) (Nat.le_refl _) hc k
theorem b_X3_turn_5 {d : Nat} {Q : Option pV → pG → Prop} {g : pG} {t : Nat} {v1 vs0 : Int} (ht : isPts t) (k1 : (vs0 = 0) → EV d mX3_turn Q 21 [vR t, vI v1] [] g) (k2 : ¬ (vs0 = 0) → EV d mX3_turn Q 8 [vR t, vI v1] [] g) : EV d mX3_turn Q 5 [vR t, vI v1] [vI vs0] g := by
  exact wp_if_eq (tgt := 21) dX3_turn_5 rfl k1 k2
theorem b_X3_turn_8 {d : Nat} {Q : Option pV → pG → Prop} {g : pG} {t : Nat} {v1 : Int} (ht : isPts t) (h1 : 0 ≤ v1) (h2 : v1 < 8) (hq : Q none (cset g (t + 1) (fup (g (t + 1)) v1.toNat (w32 (-((g (t + 1)) v1.toNat)))))) : EV d mX3_turn Q 8 [vR t, vI v1] [] g := by
  refine wp_aload_n dX3_turn_8 rfl rfl ?_
  refine wp_get (v := vR (t + 1)) dX3_turn_9 fl_3_9 ht.1 rfl ?_
  refine wp_iload_n dX3_turn_12 rfl ?_
  refine wp_aload_n dX3_turn_13 rfl rfl ?_
  refine wp_get (v := vR (t + 1)) dX3_turn_14 fl_3_9 ht.1 rfl ?_
  refine wp_iload_n dX3_turn_17 rfl ?_
  refine wp_iaload dX3_turn_18 h1 ht.2 h2 ?_
  refine wp_ineg dX3_turn_19 ?_
  refine wp_iastore dX3_turn_20 h1 ht.2 h2 ?_
  exact wp_vret dX3_turn_21 rfl hq
theorem b_X3_turn_21 {d : Nat} {Q : Option pV → pG → Prop} {g : pG} {t : Nat} {v1 : Int} (ht : isPts t) (hq : Q none g) : EV d mX3_turn Q 21 [vR t, vI v1] [] g := by
  exact wp_vret dX3_turn_21 rfl hq
theorem b_X3_lessenBehind_0 {d : Nat} {Q : Option pV → pG → Prop} {g : pG} {t : Nat} {v1 : Int} (ht : isPts t) (k1 : ((g t) 1 ≤ w32 (v1 + 1)) → EV d mX3_lessenBehind Q 16 [vR t, vI v1, vX 2] [] g) (k2 : ¬ ((g t) 1 ≤ w32 (v1 + 1)) → EV d mX3_lessenBehind Q 10 [vR t, vI v1, vX 2] [] g) : EV d mX3_lessenBehind Q 0 [vR t, vI v1, vX 2] [] g := by
  refine wp_iload_n dX3_lessenBehind_0 rfl ?_
  refine wp_iconst dX3_lessenBehind_1 kc_1 ?_
  refine wp_iadd dX3_lessenBehind_2 ?_
  refine wp_aload_n dX3_lessenBehind_3 rfl rfl ?_
  refine wp_get (v := vI ((g t) 1)) dX3_lessenBehind_4 fl_3_15 ht.1 rfl ?_
  exact wp_icmp_ge (tgt := 16) dX3_lessenBehind_7 rfl k1 k2
theorem b_X3_lessenBehind_10 {d : Nat} {Q : Option pV → pG → Prop} {g : pG} {t : Nat} {v1 : Int} (ht : isPts t) (k1 : ((g t) 1 ≤ 1) → EV d mX3_lessenBehind Q 55 [vR t, vI v1, vI (w32 (v1 + 1))] [] g) (k2 : ¬ ((g t) 1 ≤ 1) → EV d mX3_lessenBehind Q 26 [vR t, vI v1, vI (w32 (v1 + 1))] [] g) : EV d mX3_lessenBehind Q 10 [vR t, vI v1, vX 2] [] g := by
  refine wp_iload_n dX3_lessenBehind_10 rfl ?_
  refine wp_iconst dX3_lessenBehind_11 kc_1 ?_
  refine wp_iadd dX3_lessenBehind_12 ?_
  refine wp_goto (tgt := 17) dX3_lessenBehind_13 rfl ?_
  refine wp_istore_n dX3_lessenBehind_17 (Nat.le_of_ble_eq_true rfl) (pp (c := 1) rfl rfl) ?_
  refine wp_aload_n dX3_lessenBehind_18 rfl rfl ?_
  refine wp_get (v := vI ((g t) 1)) dX3_lessenBehind_19 fl_3_15 ht.1 rfl ?_
  refine wp_iconst dX3_lessenBehind_22 kc_1 ?_
  exact wp_icmp_le (tgt := 55) dX3_lessenBehind_23 rfl k1 k2
theorem b_X3_lessenBehind_16 {d : Nat} {Q : Option pV → pG → Prop} {g : pG} {t : Nat} {v1 : Int} (ht : isPts t) (k1 : ((g t) 1 ≤ 1) → EV d mX3_lessenBehind Q 55 [vR t, vI v1, vI 0] [] g) (k2 : ¬ ((g t) 1 ≤ 1) → EV d mX3_lessenBehind Q 26 [vR t, vI v1, vI 0] [] g) : EV d mX3_lessenBehind Q 16 [vR t, vI v1, vX 2] [] g := by
  refine wp_iconst dX3_lessenBehind_16 kc_0 ?_
  refine wp_istore_n dX3_lessenBehind_17 (Nat.le_of_ble_eq_true rfl) (pp (c := 1) rfl rfl) ?_
  refine wp_aload_n dX3_lessenBehind_18 rfl rfl ?_
  refine wp_get (v := vI ((g t) 1)) dX3_lessenBehind_19 fl_3_15 ht.1 rfl ?_
  refine wp_iconst dX3_lessenBehind_22 kc_1 ?_
  exact wp_icmp_le (tgt := 55) dX3_lessenBehind_23 rfl k1 k2
theorem b_X3_lessenBehind_26 {d : Nat} {Q : Option pV → pG → Prop} {g : pG} {t : Nat} {v1 v2 : Int} (ht : isPts t) {R : Int → pG → Prop} (hc : CT d mX3_has [vR t, vI v2] g (qI R)) (k : ∀ (x : Int) (gg : pG), R x gg → EV d mX3_lessenBehind Q 31 [vR t, vI v1, vI v2] [vI x] gg) : EV d mX3_lessenBehind Q 26 [vR t, vI v1, vI v2] [] g := by
  refine wp_aload_n dX3_lessenBehind_26 rfl rfl ?_
  refine wp_iload_n dX3_lessenBehind_27 rfl ?_
  exact wp_callvI (As := [vI v2]) dX3_lessenBehind_28 ml_3_19 (by decide) rfl ht.1 (by decide) rfl (Nat.le_of_ble_eq_true rfl) rfl (Nat.le_refl _) (Nat.le_refl _) hc k
theorem b_X3_lessenBehind_31 {d : Nat} {Q : Option pV → pG → Prop} {g : pG} {t : Nat} {v1 v2 vs0 : Int} (ht : isPts t) (k1 : (vs0 = 0) → EV d mX3_lessenBehind Q 55 [vR t, vI v1, vI v2] [] g) (k2 : ¬ (vs0 = 0) → EV d mX3_lessenBehind Q 34 [vR t, vI v1, vI v2] [] g) : EV d mX3_lessenBehind Q 31 [vR t, vI v1, vI v2] [vI vs0] g := by
  exact wp_if_eq (tgt := 55) dX3_lessenBehind_31 rfl k1 k2
theorem b_X3_lessenBehind_34 {d : Nat} {Q : Option pV → pG → Prop} {g : pG} {t : Nat} {v1 v2 : Int} (ht : isPts t) (h1 : 0 ≤ v2) (h2 : v2 < 8) (k1 : ((g (t + 1)) v2.toNat ≤ (-9)) → EV d mX3_lessenBehind Q 55 [vR t, vI v1, vI v2] [] g) (k2 : ¬ ((g (t + 1)) v2.toNat ≤ (-9)) → EV d mX3_lessenBehind Q 45 [vR t, vI v1, vI v2] [] g) : EV d mX3_lessenBehind Q 34 [vR t, vI v1, vI v2] [] g := by
  refine wp_aload_n dX3_lessenBehind_34 rfl rfl ?_
  refine wp_get (v := vR (t + 1)) dX3_lessenBehind_35 fl_3_9 ht.1 rfl ?_
  refine wp_iload_n dX3_lessenBehind_38 rfl ?_
  refine wp_iaload dX3_lessenBehind_39 h1 ht.2 h2 ?_
  refine wp_bipush dX3_lessenBehind_40 kb_m9 kc_m9 ?_
  exact wp_icmp_le (tgt := 55) dX3_lessenBehind_42 rfl k1 k2
theorem b_X3_lessenBehind_45 {d : Nat} {Q : Option pV → pG → Prop} {g : pG} {t : Nat} {v1 v2 : Int} (ht : isPts t) (h1 : 0 ≤ v2) (h2 : v2 < 8) (hq : Q none (cset g (t + 1) (fup (g (t + 1)) v2.toNat (w32 (((g (t + 1)) v2.toNat) - 1))))) : EV d mX3_lessenBehind Q 45 [vR t, vI v1, vI v2] [] g := by
  refine wp_aload_n dX3_lessenBehind_45 rfl rfl ?_
  refine wp_get (v := vR (t + 1)) dX3_lessenBehind_46 fl_3_9 ht.1 rfl ?_
  refine wp_iload_n dX3_lessenBehind_49 rfl ?_
  refine wp_dup2 dX3_lessenBehind_50 rfl rfl ?_
  refine wp_iaload dX3_lessenBehind_51 h1 ht.2 h2 ?_
  refine wp_iconst dX3_lessenBehind_52 kc_1 ?_
  refine wp_isub dX3_lessenBehind_53 ?_
  refine wp_iastore dX3_lessenBehind_54 h1 ht.2 h2 ?_
  exact wp_vret dX3_lessenBehind_55 rfl hq
theorem b_X3_lessenBehind_55 {d : Nat} {Q : Option pV → pG → Prop} {g : pG} {t : Nat} {v1 v2 : Int} (ht : isPts t) (hq : Q none g) : EV d mX3_lessenBehind Q 55 [vR t, vI v1, vI v2] [] g := by
  exact wp_vret dX3_lessenBehind_55 rfl hq
theorem b_X3_bringOver_0 {d : Nat} {Q : Option pV → pG → Prop} {g : pG} {t : Nat} {v1 v2 : Int} (ht : isPts t) {R : Int → pG → Prop} (hc : CT d mX3_has [vR t, vI v1] g (qI R)) (k : ∀ (x : Int) (gg : pG), R x gg → EV d mX3_bringOver Q 5 [vR t, vI v1, vI v2] [vI x] gg) : EV d mX3_bringOver Q 0 [vR t, vI v1, vI v2] [] g := by
  refine wp_aload_n dX3_bringOver_0 rfl rfl ?_
  refine wp_iload_n dX3_bringOver_1 rfl ?_
  exact wp_callvI (As := [vI v1]) dX3_bringOver_2 ml_3_19 (by decide) rfl ht.1 (by decide) rfl (Nat.le_of_ble_eq_true rfl) rfl (Nat.le_refl _) (Nat.le_refl _) hc k
theorem b_X3_bringOver_5 {d : Nat} {Q : Option pV → pG → Prop} {g : pG} {t : Nat} {v1 v2 vs0 : Int} (ht : isPts t) (k1 : (vs0 ≠ 0) → EV d mX3_bringOver Q 9 [vR t, vI v1, vI v2] [] g) (k2 : ¬ (vs0 ≠ 0) → EV d mX3_bringOver Q 8 [vR t, vI v1, vI v2] [] g) : EV d mX3_bringOver Q 5 [vR t, vI v1, vI v2] [vI vs0] g := by
  exact wp_if_ne (tgt := 9) dX3_bringOver_5 rfl k1 k2
theorem b_X3_bringOver_8 {d : Nat} {Q : Option pV → pG → Prop} {g : pG} {t : Nat} {v1 v2 : Int} (ht : isPts t) (hq : Q none g) : EV d mX3_bringOver Q 8 [vR t, vI v1, vI v2] [] g := by
  exact wp_vret dX3_bringOver_8 rfl hq
theorem b_X3_bringOver_9 {d : Nat} {Q : Option pV → pG → Prop} {g : pG} {t : Nat} {v1 v2 : Int} (ht : isPts t) (h1 : 0 ≤ v1) (h2 : v1 < 8) (k1 : (0 ≤ (g (t + 1)) v1.toNat) → EV d mX3_bringOver Q 28 [vR t, vI v1, vI v2] [] g) (k2 : ¬ (0 ≤ (g (t + 1)) v1.toNat) → EV d mX3_bringOver Q 18 [vR t, vI v1, vI v2] [] g) : EV d mX3_bringOver Q 9 [vR t, vI v1, vI v2] [] g := by
  refine wp_aload_n dX3_bringOver_9 rfl rfl ?_
  refine wp_get (v := vR (t + 1)) dX3_bringOver_10 fl_3_9 ht.1 rfl ?_
  refine wp_iload_n dX3_bringOver_13 rfl ?_
  refine wp_iaload dX3_bringOver_14 h1 ht.2 h2 ?_
  exact wp_if_ge (tgt := 28) dX3_bringOver_15 rfl k1 k2
theorem b_X3_bringOver_18 {d : Nat} {Q : Option pV → pG → Prop} {g : pG} {t : Nat} {v1 v2 : Int} (ht : isPts t) (h1 : 0 ≤ v1) (h2 : v1 < 8) (hq : Q none (cset g (t + 1) (fup (g (t + 1)) v1.toNat v2))) : EV d mX3_bringOver Q 18 [vR t, vI v1, vI v2] [] g := by
  refine wp_aload_n dX3_bringOver_18 rfl rfl ?_
  refine wp_get (v := vR (t + 1)) dX3_bringOver_19 fl_3_9 ht.1 rfl ?_
  refine wp_iload_n dX3_bringOver_22 rfl ?_
  refine wp_iload_n dX3_bringOver_23 rfl ?_
  refine wp_iastore dX3_bringOver_24 h1 ht.2 h2 ?_
  refine wp_goto (tgt := 45) dX3_bringOver_25 rfl ?_
  exact wp_vret dX3_bringOver_45 rfl hq
theorem b_X3_bringOver_28 {d : Nat} {Q : Option pV → pG → Prop} {g : pG} {t : Nat} {v1 v2 : Int} (ht : isPts t) (h1 : 0 ≤ v1) (h2 : v1 < 8) (k1 : ((g (t + 1)) v1.toNat ≤ 0) → EV d mX3_bringOver Q 45 [vR t, vI v1, vI v2] [] g) (k2 : ¬ ((g (t + 1)) v1.toNat ≤ 0) → EV d mX3_bringOver Q 37 [vR t, vI v1, vI v2] [] g) : EV d mX3_bringOver Q 28 [vR t, vI v1, vI v2] [] g := by
  refine wp_aload_n dX3_bringOver_28 rfl rfl ?_
  refine wp_get (v := vR (t + 1)) dX3_bringOver_29 fl_3_9 ht.1 rfl ?_
  refine wp_iload_n dX3_bringOver_32 rfl ?_
  refine wp_iaload dX3_bringOver_33 h1 ht.2 h2 ?_
  exact wp_if_le (tgt := 45) dX3_bringOver_34 rfl k1 k2
theorem b_X3_bringOver_37 {d : Nat} {Q : Option pV → pG → Prop} {g : pG} {t : Nat} {v1 v2 : Int} (ht : isPts t) (h1 : 0 ≤ v1) (h2 : v1 < 8) (hq : Q none (cset g (t + 1) (fup (g (t + 1)) v1.toNat (w32 (-v2))))) : EV d mX3_bringOver Q 37 [vR t, vI v1, vI v2] [] g := by
  refine wp_aload_n dX3_bringOver_37 rfl rfl ?_
  refine wp_get (v := vR (t + 1)) dX3_bringOver_38 fl_3_9 ht.1 rfl ?_
  refine wp_iload_n dX3_bringOver_41 rfl ?_
  refine wp_iload_n dX3_bringOver_42 rfl ?_
  refine wp_ineg dX3_bringOver_43 ?_
  refine wp_iastore dX3_bringOver_44 h1 ht.2 h2 ?_
  exact wp_vret dX3_bringOver_45 rfl hq
theorem b_X3_bringOver_45 {d : Nat} {Q : Option pV → pG → Prop} {g : pG} {t : Nat} {v1 v2 : Int} (ht : isPts t) (hq : Q none g) : EV d mX3_bringOver Q 45 [vR t, vI v1, vI v2] [] g := by
  exact wp_vret dX3_bringOver_45 rfl hq
theorem b_X3_bringOthersNearer_0 {d : Nat} {Q : Option pV → pG → Prop} {g : pG} {t : Nat} {v1 : Int} (ht : isPts t) (k : EV d mX3_bringOthersNearer Q 2 [vR t, vI v1, vI 0] [] g) : EV d mX3_bringOthersNearer Q 0 [vR t, vI v1, vX 2] [] g := by
  refine wp_iconst dX3_bringOthersNearer_0 kc_0 ?_
  refine wp_istore_n dX3_bringOthersNearer_1 (Nat.le_of_ble_eq_true rfl) (pp (c := 1) rfl rfl) ?_
  exact k
theorem b_X3_bringOthersNearer_2 {d : Nat} {Q : Option pV → pG → Prop} {g : pG} {t : Nat} {v1 v2 : Int} (ht : isPts t) (k1 : ((g t) 1 ≤ v2) → EV d mX3_bringOthersNearer Q 65 [vR t, vI v1, vI v2] [] g) (k2 : ¬ ((g t) 1 ≤ v2) → EV d mX3_bringOthersNearer Q 10 [vR t, vI v1, vI v2] [] g) : EV d mX3_bringOthersNearer Q 2 [vR t, vI v1, vI v2] [] g := by
  refine wp_iload_n dX3_bringOthersNearer_2 rfl ?_
  refine wp_aload_n dX3_bringOthersNearer_3 rfl rfl ?_
  refine wp_get (v := vI ((g t) 1)) dX3_bringOthersNearer_4 fl_3_15 ht.1 rfl ?_
  exact wp_icmp_ge (tgt := 65) dX3_bringOthersNearer_7 rfl k1 k2
theorem b_X3_bringOthersNearer_10 {d : Nat} {Q : Option pV → pG → Prop} {g : pG} {t : Nat} {v1 v2 : Int} (ht : isPts t) (k1 : (v2 ≠ v1) → EV d mX3_bringOthersNearer Q 18 [vR t, vI v1, vI v2] [] g) (k2 : ¬ (v2 ≠ v1) → EV d mX3_bringOthersNearer Q 15 [vR t, vI v1, vI v2] [] g) : EV d mX3_bringOthersNearer Q 10 [vR t, vI v1, vI v2] [] g := by
  refine wp_iload_n dX3_bringOthersNearer_10 rfl ?_
  refine wp_iload_n dX3_bringOthersNearer_11 rfl ?_
  exact wp_icmp_ne (tgt := 18) dX3_bringOthersNearer_12 rfl k1 k2
theorem b_X3_bringOthersNearer_15 {d : Nat} {Q : Option pV → pG → Prop} {g : pG} {t : Nat} {v1 v2 : Int} (ht : isPts t) (k : EV d mX3_bringOthersNearer Q 2 [vR t, vI v1, vI (w32 (v2 + 1))] [] g) : EV d mX3_bringOthersNearer Q 15 [vR t, vI v1, vI v2] [] g := by
  refine wp_goto (tgt := 59) dX3_bringOthersNearer_15 rfl ?_
  refine wp_iinc dX3_bringOthersNearer_59 rfl (Nat.le_of_ble_eq_true rfl) (pp (c := 1) rfl rfl) ?_
  refine wp_goto (tgt := 2) dX3_bringOthersNearer_62 rfl ?_
  exact k
theorem b_X3_bringOthersNearer_18 {d : Nat} {Q : Option pV → pG → Prop} {g : pG} {t : Nat} {v1 v2 : Int} (ht : isPts t) (h1 : 0 ≤ v2) (h2 : v2 < 8) (k1 : ((g (t + 1)) v2.toNat ≤ 0) → EV d mX3_bringOthersNearer Q 40 [vR t, vI v1, vI v2] [] g) (k2 : ¬ ((g (t + 1)) v2.toNat ≤ 0) → EV d mX3_bringOthersNearer Q 27 [vR t, vI v1, vI v2] [] g) : EV d mX3_bringOthersNearer Q 18 [vR t, vI v1, vI v2] [] g := by
  refine wp_aload_n dX3_bringOthersNearer_18 rfl rfl ?_
  refine wp_get (v := vR (t + 1)) dX3_bringOthersNearer_19 fl_3_9 ht.1 rfl ?_
  refine wp_iload_n dX3_bringOthersNearer_22 rfl ?_
  refine wp_iaload dX3_bringOthersNearer_23 h1 ht.2 h2 ?_
  exact wp_if_le (tgt := 40) dX3_bringOthersNearer_24 rfl k1 k2
theorem b_X3_bringOthersNearer_27 {d : Nat} {Q : Option pV → pG → Prop} {g : pG} {t : Nat} {v1 v2 : Int} (ht : isPts t) (h1 : 0 ≤ v2) (h2 : v2 < 8) (k : EV d mX3_bringOthersNearer Q 2 [vR t, vI v1, vI (w32 (v2 + 1))] [] (cset g (t + 1) (fup (g (t + 1)) v2.toNat (w32 (((g (t + 1)) v2.toNat) - 1))))) : EV d mX3_bringOthersNearer Q 27 [vR t, vI v1, vI v2] [] g := by
  refine wp_aload_n dX3_bringOthersNearer_27 rfl rfl ?_
  refine wp_get (v := vR (t + 1)) dX3_bringOthersNearer_28 fl_3_9 ht.1 rfl ?_
  refine wp_iload_n dX3_bringOthersNearer_31 rfl ?_
  refine wp_dup2 dX3_bringOthersNearer_32 rfl rfl ?_
  refine wp_iaload dX3_bringOthersNearer_33 h1 ht.2 h2 ?_
  refine wp_iconst dX3_bringOthersNearer_34 kc_1 ?_
  refine wp_isub dX3_bringOthersNearer_35 ?_
  refine wp_iastore dX3_bringOthersNearer_36 h1 ht.2 h2 ?_
  refine wp_goto (tgt := 59) dX3_bringOthersNearer_37 rfl ?_
  refine wp_iinc dX3_bringOthersNearer_59 rfl (Nat.le_of_ble_eq_true rfl) (pp (c := 1) rfl rfl) ?_
  refine wp_goto (tgt := 2) dX3_bringOthersNearer_62 rfl ?_
  exact k
theorem b_X3_bringOthersNearer_40 {d : Nat} {Q : Option pV → pG → Prop} {g : pG} {t : Nat} {v1 v2 : Int} (ht : isPts t) (h1 : 0 ≤ v2) (h2 : v2 < 8) (k1 : (0 ≤ (g (t + 1)) v2.toNat) → EV d mX3_bringOthersNearer Q 59 [vR t, vI v1, vI v2] [] g) (k2 : ¬ (0 ≤ (g (t + 1)) v2.toNat) → EV d mX3_bringOthersNearer Q 49 [vR t, vI v1, vI v2] [] g) : EV d mX3_bringOthersNearer Q 40 [vR t, vI v1, vI v2] [] g := by
  refine wp_aload_n dX3_bringOthersNearer_40 rfl rfl ?_
  refine wp_get (v := vR (t + 1)) dX3_bringOthersNearer_41 fl_3_9 ht.1 rfl ?_
  refine wp_iload_n dX3_bringOthersNearer_44 rfl ?_
  refine wp_iaload dX3_bringOthersNearer_45 h1 ht.2 h2 ?_
  exact wp_if_ge (tgt := 59) dX3_bringOthersNearer_46 rfl k1 k2
theorem b_X3_bringOthersNearer_49 {d : Nat} {Q : Option pV → pG → Prop} {g : pG} {t : Nat} {v1 v2 : Int} (ht : isPts t) (h1 : 0 ≤ v2) (h2 : v2 < 8) (k : EV d mX3_bringOthersNearer Q 2 [vR t, vI v1, vI (w32 (v2 + 1))] [] (cset g (t + 1) (fup (g (t + 1)) v2.toNat (w32 (((g (t + 1)) v2.toNat) + 1))))) : EV d mX3_bringOthersNearer Q 49 [vR t, vI v1, vI v2] [] g := by
  refine wp_aload_n dX3_bringOthersNearer_49 rfl rfl ?_
  refine wp_get (v := vR (t + 1)) dX3_bringOthersNearer_50 fl_3_9 ht.1 rfl ?_
  refine wp_iload_n dX3_bringOthersNearer_53 rfl ?_
  refine wp_dup2 dX3_bringOthersNearer_54 rfl rfl ?_
  refine wp_iaload dX3_bringOthersNearer_55 h1 ht.2 h2 ?_
  refine wp_iconst dX3_bringOthersNearer_56 kc_1 ?_
  refine wp_iadd dX3_bringOthersNearer_57 ?_
  refine wp_iastore dX3_bringOthersNearer_58 h1 ht.2 h2 ?_
  refine wp_iinc dX3_bringOthersNearer_59 rfl (Nat.le_of_ble_eq_true rfl) (pp (c := 1) rfl rfl) ?_
  refine wp_goto (tgt := 2) dX3_bringOthersNearer_62 rfl ?_
  exact k
theorem b_X3_bringOthersNearer_59 {d : Nat} {Q : Option pV → pG → Prop} {g : pG} {t : Nat} {v1 v2 : Int} (ht : isPts t) (k : EV d mX3_bringOthersNearer Q 2 [vR t, vI v1, vI (w32 (v2 + 1))] [] g) : EV d mX3_bringOthersNearer Q 59 [vR t, vI v1, vI v2] [] g := by
  refine wp_iinc dX3_bringOthersNearer_59 rfl (Nat.le_of_ble_eq_true rfl) (pp (c := 1) rfl rfl) ?_
  refine wp_goto (tgt := 2) dX3_bringOthersNearer_62 rfl ?_
  exact k
theorem b_X3_bringOthersNearer_65 {d : Nat} {Q : Option pV → pG → Prop} {g : pG} {t : Nat} {v1 v2 : Int} (ht : isPts t) (hq : Q none g) : EV d mX3_bringOthersNearer Q 65 [vR t, vI v1, vI v2] [] g := by
  exact wp_vret dX3_bringOthersNearer_65 rfl hq
theorem b_X3_isFor_0 {d : Nat} {Q : Option pV → pG → Prop} {g : pG} {t : Nat} (ht : isPts t) {R : Int → pG → Prop} (hc : CT d mX3_sum [vR t] g (qI R)) (k : ∀ (x : Int) (gg : pG), R x gg → EV d mX3_isFor Q 4 [vR t] [vI x] gg) : EV d mX3_isFor Q 0 [vR t] [] g := by
  refine wp_aload_n dX3_isFor_0 rfl rfl ?_
  exact wp_callvI (As := []) dX3_isFor_1 ml_3_50 (by decide) rfl ht.1 (by decide) rfl (Nat.le_of_ble_eq_true rfl) rfl (Nat.le_refl _) (Nat.le_refl _) hc k
theorem b_X3_isFor_4 {d : Nat} {Q : Option pV → pG → Prop} {g : pG} {t : Nat} {vs0 : Int} (ht : isPts t) (k1 : (vs0 ≤ 0) → EV d mX3_isFor Q 11 [vR t] [] g) (k2 : ¬ (vs0 ≤ 0) → EV d mX3_isFor Q 7 [vR t] [] g) : EV d mX3_isFor Q 4 [vR t] [vI vs0] g := by
  exact wp_if_le (tgt := 11) dX3_isFor_4 rfl k1 k2
theorem b_X3_isFor_7 {d : Nat} {Q : Option pV → pG → Prop} {g : pG} {t : Nat} (ht : isPts t) (hq : Q (some (vI 1)) g) : EV d mX3_isFor Q 7 [vR t] [] g := by
  refine wp_iconst dX3_isFor_7 kc_1 ?_
  refine wp_goto (tgt := 12) dX3_isFor_8 rfl ?_
  exact wp_zret dX3_isFor_12 rfl (Or.inr rfl) hq
theorem b_X3_isFor_11 {d : Nat} {Q : Option pV → pG → Prop} {g : pG} {t : Nat} (ht : isPts t) (hq : Q (some (vI 0)) g) : EV d mX3_isFor Q 11 [vR t] [] g := by
  refine wp_iconst dX3_isFor_11 kc_0 ?_
  exact wp_zret dX3_isFor_12 rfl (Or.inl rfl) hq
theorem b_X3_sum_0 {d : Nat} {Q : Option pV → pG → Prop} {g : pG} {t : Nat} (ht : isPts t) (k : EV d mX3_sum Q 4 [vR t, vI 0, vI 0] [] g) : EV d mX3_sum Q 0 [vR t, vX 2, vX 2] [] g := by
  refine wp_iconst dX3_sum_0 kc_0 ?_
  refine wp_istore_n dX3_sum_1 (Nat.le_of_ble_eq_true rfl) (pp (c := 0) rfl rfl) ?_
  refine wp_iconst dX3_sum_2 kc_0 ?_
  refine wp_istore_n dX3_sum_3 (Nat.le_of_ble_eq_true rfl) (pp (c := 1) rfl rfl) ?_
  exact k
theorem b_X3_sum_4 {d : Nat} {Q : Option pV → pG → Prop} {g : pG} {t : Nat} {v1 v2 : Int} (ht : isPts t) (k1 : ((g t) 1 ≤ v2) → EV d mX3_sum Q 27 [vR t, vI v1, vI v2] [] g) (k2 : ¬ ((g t) 1 ≤ v2) → EV d mX3_sum Q 12 [vR t, vI v1, vI v2] [] g) : EV d mX3_sum Q 4 [vR t, vI v1, vI v2] [] g := by
  refine wp_iload_n dX3_sum_4 rfl ?_
  refine wp_aload_n dX3_sum_5 rfl rfl ?_
  refine wp_get (v := vI ((g t) 1)) dX3_sum_6 fl_3_15 ht.1 rfl ?_
  exact wp_icmp_ge (tgt := 27) dX3_sum_9 rfl k1 k2
theorem b_X3_sum_12 {d : Nat} {Q : Option pV → pG → Prop} {g : pG} {t : Nat} {v1 v2 : Int} (ht : isPts t) (h1 : 0 ≤ v2) (h2 : v2 < 8) (k : EV d mX3_sum Q 4 [vR t, vI (w32 (v1 + ((g (t + 1)) v2.toNat))), vI (w32 (v2 + 1))] [] g) : EV d mX3_sum Q 12 [vR t, vI v1, vI v2] [] g := by
  refine wp_iload_n dX3_sum_12 rfl ?_
  refine wp_aload_n dX3_sum_13 rfl rfl ?_
  refine wp_get (v := vR (t + 1)) dX3_sum_14 fl_3_9 ht.1 rfl ?_
  refine wp_iload_n dX3_sum_17 rfl ?_
  refine wp_iaload dX3_sum_18 h1 ht.2 h2 ?_
  refine wp_iadd dX3_sum_19 ?_
  refine wp_istore_n dX3_sum_20 (Nat.le_of_ble_eq_true rfl) (pp (c := 0) rfl rfl) ?_
  refine wp_iinc dX3_sum_21 rfl (Nat.le_of_ble_eq_true rfl) (pp (c := 1) rfl rfl) ?_
  refine wp_goto (tgt := 4) dX3_sum_24 rfl ?_
  exact k
theorem b_X3_sum_27 {d : Nat} {Q : Option pV → pG → Prop} {g : pG} {t : Nat} {v1 v2 : Int} (ht : isPts t) (hq : Q (some (vI v1)) g) : EV d mX3_sum Q 27 [vR t, vI v1, vI v2] [] g := by
  refine wp_iload_n dX3_sum_27 rfl ?_
  exact wp_iret dX3_sum_28 rfl hq
theorem b_X3_told_0 {d : Nat} {Q : Option pV → pG → Prop} {g : pG} {t : Nat} (ht : isPts t) (k : EV d mX3_told Q 4 [vR t, vL 0, vX 2, vI 0] [] g) : EV d mX3_told Q 0 [vR t, vX 2, vX 2, vX 2] [] g := by
  refine wp_lconst (x := 0) dX3_told_0 rfl ?_
  refine wp_lstore_n dX3_told_1 (Nat.le_of_ble_eq_true rfl) (pp (c := 0) rfl rfl) ?_
  refine wp_iconst dX3_told_2 kc_0 ?_
  refine wp_istore_n dX3_told_3 (Nat.le_of_ble_eq_true rfl) (pp (c := 2) rfl rfl) ?_
  exact k
theorem b_X3_told_4 {d : Nat} {Q : Option pV → pG → Prop} {g : pG} {t : Nat} {l1 v3 : Int} (ht : isPts t) (k1 : ((g t) 1 ≤ v3) → EV d mX3_told Q 36 [vR t, vL l1, vX 2, vI v3] [] g) (k2 : ¬ ((g t) 1 ≤ v3) → EV d mX3_told Q 12 [vR t, vL l1, vX 2, vI v3] [] g) : EV d mX3_told Q 4 [vR t, vL l1, vX 2, vI v3] [] g := by
  refine wp_iload_n dX3_told_4 rfl ?_
  refine wp_aload_n dX3_told_5 rfl rfl ?_
  refine wp_get (v := vI ((g t) 1)) dX3_told_6 fl_3_15 ht.1 rfl ?_
  exact wp_icmp_ge (tgt := 36) dX3_told_9 rfl k1 k2
theorem b_X3_told_12 {d : Nat} {Q : Option pV → pG → Prop} {g : pG} {t : Nat} {l1 v3 : Int} (ht : isPts t) (h1 : 0 ≤ v3) (h2 : v3 < 8) (k : EV d mX3_told Q 4 [vR t, vL (w64 ((w64 ((w64 (l1 * 19)) + ((g (t + 1)) v3.toNat))) + 9)), vX 2, vI (w32 (v3 + 1))] [] g) : EV d mX3_told Q 12 [vR t, vL l1, vX 2, vI v3] [] g := by
  refine wp_lload_n dX3_told_12 rfl ?_
  refine wp_ldc2_w dX3_told_13 k2_3_54 ?_
  refine wp_lmul dX3_told_16 ?_
  refine wp_aload_n dX3_told_17 rfl rfl ?_
  refine wp_get (v := vR (t + 1)) dX3_told_18 fl_3_9 ht.1 rfl ?_
  refine wp_iload_n dX3_told_21 rfl ?_
  refine wp_iaload dX3_told_22 h1 ht.2 h2 ?_
  refine wp_i2l dX3_told_23 ?_
  refine wp_ladd dX3_told_24 ?_
  refine wp_ldc2_w dX3_told_25 k2_3_56 ?_
  refine wp_ladd dX3_told_28 ?_
  refine wp_lstore_n dX3_told_29 (Nat.le_of_ble_eq_true rfl) (pp (c := 0) rfl rfl) ?_
  refine wp_iinc dX3_told_30 rfl (Nat.le_of_ble_eq_true rfl) (pp (c := 2) rfl rfl) ?_
  refine wp_goto (tgt := 4) dX3_told_33 rfl ?_
  exact k
theorem b_X3_told_36 {d : Nat} {Q : Option pV → pG → Prop} {g : pG} {t : Nat} {l1 v3 : Int} (ht : isPts t) (hq : Q (some (vL l1)) g) : EV d mX3_told Q 36 [vR t, vL l1, vX 2, vI v3] [] g := by
  refine wp_lload_n dX3_told_36 rfl ?_
  exact wp_lret dX3_told_37 rfl hq
theorem b_X3_move_0 {d : Nat} {Q : Option pV → pG → Prop} {g : pG} {t : Nat} {v1 : Int} (ht : isPts t) {R : Int → pG → Prop} (hc : CT d mX3_number [vR t, vI (w32 (v1.tdiv 2))] g (qI R)) (k : ∀ (x : Int) (gg : pG), R x gg → EV d mX3_move Q 7 [vR t, vI v1, vX 2] [vI x] gg) : EV d mX3_move Q 0 [vR t, vI v1, vX 2] [] g := by
  refine wp_aload_n dX3_move_0 rfl rfl ?_
  refine wp_iload_n dX3_move_1 rfl ?_
  refine wp_iconst dX3_move_2 kc_2 ?_
  refine wp_idiv dX3_move_3 (by decide) ?_
  exact wp_callvI (As := [vI (w32 (v1.tdiv 2))]) dX3_move_4 ml_3_32 (by decide) rfl ht.1 (by decide) rfl (Nat.le_of_ble_eq_true rfl) rfl (Nat.le_refl _) (Nat.le_refl _) hc k
theorem b_X3_move_7 {d : Nat} {Q : Option pV → pG → Prop} {g : pG} {t : Nat} {v1 vs0 : Int} (ht : isPts t) (k1 : (w32 (v1.tmod 2) ≠ 0) → EV d mX3_move Q 24 [vR t, vI v1, vI vs0] [vI (w32 (v1.tdiv 2)), vR t] g) (k2 : ¬ (w32 (v1.tmod 2) ≠ 0) → EV d mX3_move Q 18 [vR t, vI v1, vI vs0] [vI (w32 (v1.tdiv 2)), vR t] g) : EV d mX3_move Q 7 [vR t, vI v1, vX 2] [vI vs0] g := by
  refine wp_istore_n dX3_move_7 (Nat.le_of_ble_eq_true rfl) (pp (c := 1) rfl rfl) ?_
  refine wp_aload_n dX3_move_8 rfl rfl ?_
  refine wp_iload_n dX3_move_9 rfl ?_
  refine wp_iconst dX3_move_10 kc_2 ?_
  refine wp_idiv dX3_move_11 (by decide) ?_
  refine wp_iload_n dX3_move_12 rfl ?_
  refine wp_iconst dX3_move_13 kc_2 ?_
  refine wp_irem dX3_move_14 (by decide) ?_
  exact wp_if_ne (tgt := 24) dX3_move_15 rfl k1 k2
theorem b_X3_move_18 {d : Nat} {Q : Option pV → pG → Prop} {g : pG} {t : Nat} {v1 v2 vs1 : Int} (ht : isPts t) {R : pG → Prop} (hc : CT d mX3_put [vR t, vI vs1, vI (w32 (v2 + 1))] g (qV R)) (k : ∀ gg : pG, R gg → EV d mX3_move Q 30 [vR t, vI v1, vI v2] [] gg) : EV d mX3_move Q 18 [vR t, vI v1, vI v2] [vI vs1, vR t] g := by
  refine wp_iload_n dX3_move_18 rfl ?_
  refine wp_iconst dX3_move_19 kc_1 ?_
  refine wp_iadd dX3_move_20 ?_
  refine wp_goto (tgt := 27) dX3_move_21 rfl ?_
  exact wp_callvV (As := [vI vs1, vI (w32 (v2 + 1))]) dX3_move_27 ml_3_36 (by decide) rfl ht.1 (by decide) rfl (Nat.le_of_ble_eq_true rfl) rfl (Nat.le_refl _) (Nat.le_refl _) hc k
theorem b_X3_move_24 {d : Nat} {Q : Option pV → pG → Prop} {g : pG} {t : Nat} {v1 v2 vs1 : Int} (ht : isPts t) {R : pG → Prop} (hc : CT d mX3_put [vR t, vI vs1, vI (w32 (v2 - 1))] g (qV R)) (k : ∀ gg : pG, R gg → EV d mX3_move Q 30 [vR t, vI v1, vI v2] [] gg) : EV d mX3_move Q 24 [vR t, vI v1, vI v2] [vI vs1, vR t] g := by
  refine wp_iload_n dX3_move_24 rfl ?_
  refine wp_iconst dX3_move_25 kc_1 ?_
  refine wp_isub dX3_move_26 ?_
  exact wp_callvV (As := [vI vs1, vI (w32 (v2 - 1))]) dX3_move_27 ml_3_36 (by decide) rfl ht.1 (by decide) rfl (Nat.le_of_ble_eq_true rfl) rfl (Nat.le_refl _) (Nat.le_refl _) hc k
theorem b_X3_move_30 {d : Nat} {Q : Option pV → pG → Prop} {g : pG} {t : Nat} {v1 v2 : Int} (ht : isPts t) (hq : Q (some (vI v2)) g) : EV d mX3_move Q 30 [vR t, vI v1, vI v2] [] g := by
  refine wp_iload_n dX3_move_30 rfl ?_
  exact wp_iret dX3_move_31 rfl hq
theorem b_X3_beThree_0 {d : Nat} {Q : Option pV → pG → Prop} {g : pG} {t : Nat} {v1 v2 : Int} (ht : isPts t) {R : pG → Prop} (hc : CT d mX3_resize [vR t, vI 3] g (qV R)) (k : ∀ gg : pG, R gg → EV d mX3_beThree Q 15 [vR t, vI v1, vI v2, vI (w32 ((w32 (2 * (zmax 0 v2))) + 1))] [] gg) : EV d mX3_beThree Q 0 [vR t, vI v1, vI v2, vX 2] [] g := by
  refine wp_iconst dX3_beThree_0 kc_2 ?_
  refine wp_iconst dX3_beThree_1 kc_0 ?_
  refine wp_iload_n dX3_beThree_2 rfl ?_
  refine wp_max dX3_beThree_3 xl_3_29 (Nat.le_refl _) (Nat.le_refl _) (Nat.le_of_ble_eq_true rfl) ?_
  refine wp_imul dX3_beThree_6 ?_
  refine wp_iconst dX3_beThree_7 kc_1 ?_
  refine wp_iadd dX3_beThree_8 ?_
  refine wp_istore_n dX3_beThree_9 (Nat.le_of_ble_eq_true rfl) (pp (c := 2) rfl rfl) ?_
  refine wp_aload_n dX3_beThree_10 rfl rfl ?_
  refine wp_iconst dX3_beThree_11 kc_3 ?_
  exact wp_callvV (As := [vI 3]) dX3_beThree_12 ml_3_46 (by decide) rfl ht.1 (by decide) rfl (Nat.le_of_ble_eq_true rfl) rfl (Nat.le_refl _) (Nat.le_refl _) hc k
theorem b_X3_beThree_15 {d : Nat} {Q : Option pV → pG → Prop} {g : pG} {t : Nat} {v1 v2 v3 : Int} (ht : isPts t) {R : pG → Prop} (h1 : w32 (v3 * v3) ≠ 0) (hc : CT d mX3_put [vR t, vI 0, vI (w32 ((w32 (v1.tdiv (w32 (v3 * v3)))) - v2))] g (qV R)) (k : ∀ gg : pG, R gg → EV d mX3_beThree Q 27 [vR t, vI v1, vI v2, vI v3] [] gg) : EV d mX3_beThree Q 15 [vR t, vI v1, vI v2, vI v3] [] g := by
  refine wp_aload_n dX3_beThree_15 rfl rfl ?_
  refine wp_iconst dX3_beThree_16 kc_0 ?_
  refine wp_iload_n dX3_beThree_17 rfl ?_
  refine wp_iload_n dX3_beThree_18 rfl ?_
  refine wp_iload_n dX3_beThree_19 rfl ?_
  refine wp_imul dX3_beThree_20 ?_
  refine wp_idiv dX3_beThree_21 h1 ?_
  refine wp_iload_n dX3_beThree_22 rfl ?_
  refine wp_isub dX3_beThree_23 ?_
  exact wp_callvV (As := [vI 0, vI (w32 ((w32 (v1.tdiv (w32 (v3 * v3)))) - v2))]) dX3_beThree_24 ml_3_36 (by decide) rfl ht.1 (by decide) rfl (Nat.le_of_ble_eq_true rfl) rfl (Nat.le_refl _) (Nat.le_refl _) hc k
theorem b_X3_beThree_27 {d : Nat} {Q : Option pV → pG → Prop} {g : pG} {t : Nat} {v1 v2 v3 : Int} (ht : isPts t) {R : pG → Prop} (h1 : v3 ≠ 0) (hc : CT d mX3_put [vR t, vI 1, vI (w32 ((w32 ((w32 (v1.tdiv v3)).tmod v3)) - v2))] g (qV R)) (k : ∀ gg : pG, R gg → EV d mX3_beThree Q 39 [vR t, vI v1, vI v2, vI v3] [] gg) : EV d mX3_beThree Q 27 [vR t, vI v1, vI v2, vI v3] [] g := by
  refine wp_aload_n dX3_beThree_27 rfl rfl ?_
  refine wp_iconst dX3_beThree_28 kc_1 ?_
  refine wp_iload_n dX3_beThree_29 rfl ?_
  refine wp_iload_n dX3_beThree_30 rfl ?_
  refine wp_idiv dX3_beThree_31 h1 ?_
  refine wp_iload_n dX3_beThree_32 rfl ?_
  refine wp_irem dX3_beThree_33 h1 ?_
  refine wp_iload_n dX3_beThree_34 rfl ?_
  refine wp_isub dX3_beThree_35 ?_
  exact wp_callvV (As := [vI 1, vI (w32 ((w32 ((w32 (v1.tdiv v3)).tmod v3)) - v2))]) dX3_beThree_36 ml_3_36 (by decide) rfl ht.1 (by decide) rfl (Nat.le_of_ble_eq_true rfl) rfl (Nat.le_refl _) (Nat.le_refl _) hc k
theorem b_X3_beThree_39 {d : Nat} {Q : Option pV → pG → Prop} {g : pG} {t : Nat} {v1 v2 v3 : Int} (ht : isPts t) {R : pG → Prop} (h1 : v3 ≠ 0) (hc : CT d mX3_put [vR t, vI 2, vI (w32 ((w32 (v1.tmod v3)) - v2))] g (qV R)) (k : ∀ gg : pG, R gg → EV d mX3_beThree Q 49 [vR t, vI v1, vI v2, vI v3] [] gg) : EV d mX3_beThree Q 39 [vR t, vI v1, vI v2, vI v3] [] g := by
  refine wp_aload_n dX3_beThree_39 rfl rfl ?_
  refine wp_iconst dX3_beThree_40 kc_2 ?_
  refine wp_iload_n dX3_beThree_41 rfl ?_
  refine wp_iload_n dX3_beThree_42 rfl ?_
  refine wp_irem dX3_beThree_43 h1 ?_
  refine wp_iload_n dX3_beThree_44 rfl ?_
  refine wp_isub dX3_beThree_45 ?_
  exact wp_callvV (As := [vI 2, vI (w32 ((w32 (v1.tmod v3)) - v2))]) dX3_beThree_46 ml_3_36 (by decide) rfl ht.1 (by decide) rfl (Nat.le_of_ble_eq_true rfl) rfl (Nat.le_refl _) (Nat.le_refl _) hc k
theorem b_X3_beThree_49 {d : Nat} {Q : Option pV → pG → Prop} {g : pG} {t : Nat} {v1 v2 v3 : Int} (ht : isPts t) (hq : Q none g) : EV d mX3_beThree Q 49 [vR t, vI v1, vI v2, vI v3] [] g := by
  exact wp_vret dX3_beThree_49 rfl hq
theorem b_X3_isAs_0 {d : Nat} {Q : Option pV → pG → Prop} {g : pG} {t u : Nat} (ht : isPts t) (hu : isPts u) (k1 : ((g t) 1 = (g u) 1) → EV d mX3_isAs Q 13 [vR t, vR u, vX 2] [] g) (k2 : ¬ ((g t) 1 = (g u) 1) → EV d mX3_isAs Q 11 [vR t, vR u, vX 2] [] g) : EV d mX3_isAs Q 0 [vR t, vR u, vX 2] [] g := by
  refine wp_aload_n dX3_isAs_0 rfl rfl ?_
  refine wp_get (v := vI ((g t) 1)) dX3_isAs_1 fl_3_15 ht.1 rfl ?_
  refine wp_aload_n dX3_isAs_4 rfl rfl ?_
  refine wp_get (v := vI ((g u) 1)) dX3_isAs_5 fl_3_15 hu.1 rfl ?_
  exact wp_icmp_eq (tgt := 13) dX3_isAs_8 rfl k1 k2
theorem b_X3_isAs_11 {d : Nat} {Q : Option pV → pG → Prop} {g : pG} {t u : Nat} (ht : isPts t) (hu : isPts u) (hq : Q (some (vI 0)) g) : EV d mX3_isAs Q 11 [vR t, vR u, vX 2] [] g := by
  refine wp_iconst dX3_isAs_11 kc_0 ?_
  exact wp_zret dX3_isAs_12 rfl (Or.inl rfl) hq
theorem b_X3_isAs_13 {d : Nat} {Q : Option pV → pG → Prop} {g : pG} {t u : Nat} (ht : isPts t) (hu : isPts u) (k : EV d mX3_isAs Q 15 [vR t, vR u, vI 0] [] g) : EV d mX3_isAs Q 13 [vR t, vR u, vX 2] [] g := by
  refine wp_iconst dX3_isAs_13 kc_0 ?_
  refine wp_istore_n dX3_isAs_14 (Nat.le_of_ble_eq_true rfl) (pp (c := 1) rfl rfl) ?_
  exact k
theorem b_X3_isAs_15 {d : Nat} {Q : Option pV → pG → Prop} {g : pG} {t u : Nat} {v2 : Int} (ht : isPts t) (hu : isPts u) (k1 : ((g t) 1 ≤ v2) → EV d mX3_isAs Q 46 [vR t, vR u, vI v2] [] g) (k2 : ¬ ((g t) 1 ≤ v2) → EV d mX3_isAs Q 23 [vR t, vR u, vI v2] [] g) : EV d mX3_isAs Q 15 [vR t, vR u, vI v2] [] g := by
  refine wp_iload_n dX3_isAs_15 rfl ?_
  refine wp_aload_n dX3_isAs_16 rfl rfl ?_
  refine wp_get (v := vI ((g t) 1)) dX3_isAs_17 fl_3_15 ht.1 rfl ?_
  exact wp_icmp_ge (tgt := 46) dX3_isAs_20 rfl k1 k2
theorem b_X3_isAs_23 {d : Nat} {Q : Option pV → pG → Prop} {g : pG} {t u : Nat} {v2 : Int} (ht : isPts t) (hu : isPts u) (h1 : 0 ≤ v2) (h2 : v2 < 8) (k1 : ((g (t + 1)) v2.toNat = (g (u + 1)) v2.toNat) → EV d mX3_isAs Q 40 [vR t, vR u, vI v2] [] g) (k2 : ¬ ((g (t + 1)) v2.toNat = (g (u + 1)) v2.toNat) → EV d mX3_isAs Q 38 [vR t, vR u, vI v2] [] g) : EV d mX3_isAs Q 23 [vR t, vR u, vI v2] [] g := by
  refine wp_aload_n dX3_isAs_23 rfl rfl ?_
  refine wp_get (v := vR (t + 1)) dX3_isAs_24 fl_3_9 ht.1 rfl ?_
  refine wp_iload_n dX3_isAs_27 rfl ?_
  refine wp_iaload dX3_isAs_28 h1 ht.2 h2 ?_
  refine wp_aload_n dX3_isAs_29 rfl rfl ?_
  refine wp_get (v := vR (u + 1)) dX3_isAs_30 fl_3_9 hu.1 rfl ?_
  refine wp_iload_n dX3_isAs_33 rfl ?_
  refine wp_iaload dX3_isAs_34 h1 hu.2 h2 ?_
  exact wp_icmp_eq (tgt := 40) dX3_isAs_35 rfl k1 k2
theorem b_X3_isAs_38 {d : Nat} {Q : Option pV → pG → Prop} {g : pG} {t u : Nat} {v2 : Int} (ht : isPts t) (hu : isPts u) (hq : Q (some (vI 0)) g) : EV d mX3_isAs Q 38 [vR t, vR u, vI v2] [] g := by
  refine wp_iconst dX3_isAs_38 kc_0 ?_
  exact wp_zret dX3_isAs_39 rfl (Or.inl rfl) hq
theorem b_X3_isAs_40 {d : Nat} {Q : Option pV → pG → Prop} {g : pG} {t u : Nat} {v2 : Int} (ht : isPts t) (hu : isPts u) (k : EV d mX3_isAs Q 15 [vR t, vR u, vI (w32 (v2 + 1))] [] g) : EV d mX3_isAs Q 40 [vR t, vR u, vI v2] [] g := by
  refine wp_iinc dX3_isAs_40 rfl (Nat.le_of_ble_eq_true rfl) (pp (c := 1) rfl rfl) ?_
  refine wp_goto (tgt := 15) dX3_isAs_43 rfl ?_
  exact k
theorem b_X3_isAs_46 {d : Nat} {Q : Option pV → pG → Prop} {g : pG} {t u : Nat} {v2 : Int} (ht : isPts t) (hu : isPts u) (hq : Q (some (vI 1)) g) : EV d mX3_isAs Q 46 [vR t, vR u, vI v2] [] g := by
  refine wp_iconst dX3_isAs_46 kc_1 ?_
  exact wp_zret dX3_isAs_47 rfl (Or.inr rfl) hq
theorem b_J6_bitCount_0f7a4_0 {d : Nat} {Q : Option pV → pG → Prop} {g : pG} {v0 : Int} (hq : Q (some (vI (zand (w32 ((w32 ((zand (w32 ((w32 ((zand (w32 (v0 - (zand (zushr v0 1) 1431655765))) 858993459) + (zand (zushr (w32 (v0 - (zand (zushr v0 1) 1431655765))) 2) 858993459))) + (zushr (w32 ((zand (w32 (v0 - (zand (zushr v0 1) 1431655765))) 858993459) + (zand (zushr (w32 (v0 - (zand (zushr v0 1) 1431655765))) 2) 858993459))) 4))) 252645135) + (zushr (zand (w32 ((w32 ((zand (w32 (v0 - (zand (zushr v0 1) 1431655765))) 858993459) + (zand (zushr (w32 (v0 - (zand (zushr v0 1) 1431655765))) 2) 858993459))) + (zushr (w32 ((zand (w32 (v0 - (zand (zushr v0 1) 1431655765))) 858993459) + (zand (zushr (w32 (v0 - (zand (zushr v0 1) 1431655765))) 2) 858993459))) 4))) 252645135) 8))) + (zushr (w32 ((zand (w32 ((w32 ((zand (w32 (v0 - (zand (zushr v0 1) 1431655765))) 858993459) + (zand (zushr (w32 (v0 - (zand (zushr v0 1) 1431655765))) 2) 858993459))) + (zushr (w32 ((zand (w32 (v0 - (zand (zushr v0 1) 1431655765))) 858993459) + (zand (zushr (w32 (v0 - (zand (zushr v0 1) 1431655765))) 2) 858993459))) 4))) 252645135) + (zushr (zand (w32 ((w32 ((zand (w32 (v0 - (zand (zushr v0 1) 1431655765))) 858993459) + (zand (zushr (w32 (v0 - (zand (zushr v0 1) 1431655765))) 2) 858993459))) + (zushr (w32 ((zand (w32 (v0 - (zand (zushr v0 1) 1431655765))) 858993459) + (zand (zushr (w32 (v0 - (zand (zushr v0 1) 1431655765))) 2) 858993459))) 4))) 252645135) 8))) 16))) 63))) g) : EV d mJ6_bitCount_0f7a4 Q 0 [vI v0] [] g := by
  refine wp_iload_n dJ6_bitCount_0f7a4_0 rfl ?_
  refine wp_iload_n dJ6_bitCount_0f7a4_1 rfl ?_
  refine wp_iconst dJ6_bitCount_0f7a4_2 kc_1 ?_
  refine wp_iushr dJ6_bitCount_0f7a4_3 ?_
  refine wp_ldc_w dJ6_bitCount_0f7a4_4 kl_10_265 ?_
  refine wp_iand dJ6_bitCount_0f7a4_7 ?_
  refine wp_isub dJ6_bitCount_0f7a4_8 ?_
  refine wp_istore_n dJ6_bitCount_0f7a4_9 (Nat.le_of_ble_eq_true rfl) (pp0 rfl) ?_
  refine wp_iload_n dJ6_bitCount_0f7a4_10 rfl ?_
  refine wp_ldc_w dJ6_bitCount_0f7a4_11 kl_10_266 ?_
  refine wp_iand dJ6_bitCount_0f7a4_14 ?_
  refine wp_iload_n dJ6_bitCount_0f7a4_15 rfl ?_
  refine wp_iconst dJ6_bitCount_0f7a4_16 kc_2 ?_
  refine wp_iushr dJ6_bitCount_0f7a4_17 ?_
  refine wp_ldc_w dJ6_bitCount_0f7a4_18 kl_10_266 ?_
  refine wp_iand dJ6_bitCount_0f7a4_21 ?_
  refine wp_iadd dJ6_bitCount_0f7a4_22 ?_
  refine wp_istore_n dJ6_bitCount_0f7a4_23 (Nat.le_of_ble_eq_true rfl) (pp0 rfl) ?_
  refine wp_iload_n dJ6_bitCount_0f7a4_24 rfl ?_
  refine wp_iload_n dJ6_bitCount_0f7a4_25 rfl ?_
  refine wp_iconst dJ6_bitCount_0f7a4_26 kc_4 ?_
  refine wp_iushr dJ6_bitCount_0f7a4_27 ?_
  refine wp_iadd dJ6_bitCount_0f7a4_28 ?_
  refine wp_ldc_w dJ6_bitCount_0f7a4_29 kl_10_267 ?_
  refine wp_iand dJ6_bitCount_0f7a4_32 ?_
  refine wp_istore_n dJ6_bitCount_0f7a4_33 (Nat.le_of_ble_eq_true rfl) (pp0 rfl) ?_
  refine wp_iload_n dJ6_bitCount_0f7a4_34 rfl ?_
  refine wp_iload_n dJ6_bitCount_0f7a4_35 rfl ?_
  refine wp_bipush dJ6_bitCount_0f7a4_36 kb_8 kc_8 ?_
  refine wp_iushr dJ6_bitCount_0f7a4_38 ?_
  refine wp_iadd dJ6_bitCount_0f7a4_39 ?_
  refine wp_istore_n dJ6_bitCount_0f7a4_40 (Nat.le_of_ble_eq_true rfl) (pp0 rfl) ?_
  refine wp_iload_n dJ6_bitCount_0f7a4_41 rfl ?_
  refine wp_iload_n dJ6_bitCount_0f7a4_42 rfl ?_
  refine wp_bipush dJ6_bitCount_0f7a4_43 kb_16 kc_16 ?_
  refine wp_iushr dJ6_bitCount_0f7a4_45 ?_
  refine wp_iadd dJ6_bitCount_0f7a4_46 ?_
  refine wp_istore_n dJ6_bitCount_0f7a4_47 (Nat.le_of_ble_eq_true rfl) (pp0 rfl) ?_
  refine wp_iload_n dJ6_bitCount_0f7a4_48 rfl ?_
  refine wp_bipush dJ6_bitCount_0f7a4_49 kb_63 kc_63 ?_
  refine wp_iand dJ6_bitCount_0f7a4_51 ?_
  exact wp_iret dJ6_bitCount_0f7a4_52 rfl hq
theorem b_X4_note_0 {d : Nat} {Q : Option pV → pG → Prop} {g : pG} {l1 v3 : Int} (k1 : (201 ≤ (g 39) 2) → EV d mX4_note Q 42 [vR 39, vL l1, vX 2, vI v3] [] g) (k2 : ¬ (201 ≤ (g 39) 2) → EV d mX4_note Q 12 [vR 39, vL l1, vX 2, vI v3] [] g) : EV d mX4_note Q 0 [vR 39, vL l1, vX 2, vI v3] [] g := by
  refine wp_aload_n dX4_note_0 rfl rfl ?_
  refine wp_get (v := vI ((g 39) 2)) dX4_note_1 fl_4_19 L_39 rfl ?_
  refine wp_aload_n dX4_note_4 rfl rfl ?_
  refine wp_get (v := vR 40) dX4_note_5 fl_4_9 L_39 rfl ?_
  refine wp_alen (N := 201) dX4_note_8 L_40 (by decide) (by decide) kc_201 ?_
  exact wp_icmp_ge (tgt := 42) dX4_note_9 rfl k1 k2
theorem b_X4_note_12 {d : Nat} {Q : Option pV → pG → Prop} {g : pG} {l1 v3 : Int} (h1 : 0 ≤ (g 39) 2) (h2 : (g 39) 2 < 201) (hq : Q none (cset (cset (cset g 40 (fup (g 40) ((g 39) 2).toNat l1)) 41 (fup (g 41) ((g 39) 2).toNat v3)) 39 (fup (g 39) 2 (w32 (((g 39) 2) + 1))))) : EV d mX4_note Q 12 [vR 39, vL l1, vX 2, vI v3] [] g := by
  refine wp_aload_n dX4_note_12 rfl rfl ?_
  refine wp_get (v := vR 40) dX4_note_13 fl_4_9 L_39 rfl ?_
  refine wp_aload_n dX4_note_16 rfl rfl ?_
  refine wp_get (v := vI ((g 39) 2)) dX4_note_17 fl_4_19 L_39 rfl ?_
  refine wp_lload_n dX4_note_20 rfl ?_
  refine wp_lastore dX4_note_21 h1 L_40 h2 ?_
  refine wp_aload_n dX4_note_22 rfl rfl ?_
  refine wp_get (v := vR 41) dX4_note_23 fl_4_15 L_39 rfl ?_
  refine wp_aload_n dX4_note_26 rfl rfl ?_
  refine wp_get (v := vI ((g 39) 2)) dX4_note_27 fl_4_19 L_39 rfl ?_
  refine wp_iload_n dX4_note_30 rfl ?_
  refine wp_iastore dX4_note_31 h1 L_41 h2 ?_
  refine wp_aload_n dX4_note_32 rfl rfl ?_
  refine wp_dup dX4_note_33 rfl ?_
  refine wp_get (v := vI ((g 39) 2)) dX4_note_34 fl_4_19 L_39 rfl ?_
  refine wp_iconst dX4_note_37 kc_1 ?_
  refine wp_iadd dX4_note_38 ?_
  refine wp_putI dX4_note_39 fl_4_19 L_39 rfl rfl ?_
  exact wp_vret dX4_note_42 rfl hq
theorem b_X4_note_42 {d : Nat} {Q : Option pV → pG → Prop} {g : pG} {l1 v3 : Int} (hq : Q none g) : EV d mX4_note Q 42 [vR 39, vL l1, vX 2, vI v3] [] g := by
  exact wp_vret dX4_note_42 rfl hq
theorem b_X4_find_0 {d : Nat} {Q : Option pV → pG → Prop} {g : pG} {l1 : Int} (k : EV d mX4_find Q 2 [vR 39, vL l1, vX 2, vI 0] [] g) : EV d mX4_find Q 0 [vR 39, vL l1, vX 2, vX 2] [] g := by
  refine wp_iconst dX4_find_0 kc_0 ?_
  refine wp_istore_n dX4_find_1 (Nat.le_of_ble_eq_true rfl) (pp (c := 2) rfl rfl) ?_
  exact k
theorem b_X4_find_2 {d : Nat} {Q : Option pV → pG → Prop} {g : pG} {l1 v3 : Int} (k1 : ((g 39) 2 ≤ v3) → EV d mX4_find Q 34 [vR 39, vL l1, vX 2, vI v3] [] g) (k2 : ¬ ((g 39) 2 ≤ v3) → EV d mX4_find Q 10 [vR 39, vL l1, vX 2, vI v3] [] g) : EV d mX4_find Q 2 [vR 39, vL l1, vX 2, vI v3] [] g := by
  refine wp_iload_n dX4_find_2 rfl ?_
  refine wp_aload_n dX4_find_3 rfl rfl ?_
  refine wp_get (v := vI ((g 39) 2)) dX4_find_4 fl_4_19 L_39 rfl ?_
  exact wp_icmp_ge (tgt := 34) dX4_find_7 rfl k1 k2
theorem b_X4_find_10 {d : Nat} {Q : Option pV → pG → Prop} {g : pG} {l1 v3 : Int} (h1 : 0 ≤ v3) (h2 : v3 < 201) (k1 : (lcmpZ ((g 40) v3.toNat) l1 ≠ 0) → EV d mX4_find Q 28 [vR 39, vL l1, vX 2, vI v3] [] g) (k2 : ¬ (lcmpZ ((g 40) v3.toNat) l1 ≠ 0) → EV d mX4_find Q 21 [vR 39, vL l1, vX 2, vI v3] [] g) : EV d mX4_find Q 10 [vR 39, vL l1, vX 2, vI v3] [] g := by
  refine wp_aload_n dX4_find_10 rfl rfl ?_
  refine wp_get (v := vR 40) dX4_find_11 fl_4_9 L_39 rfl ?_
  refine wp_iload_n dX4_find_14 rfl ?_
  refine wp_laload dX4_find_15 h1 L_40 h2 ?_
  refine wp_lload_n dX4_find_16 rfl ?_
  refine wp_lcmp dX4_find_17 ?_
  exact wp_if_ne (tgt := 28) dX4_find_18 rfl k1 k2
theorem b_X4_find_21 {d : Nat} {Q : Option pV → pG → Prop} {g : pG} {l1 v3 : Int} (h1 : 0 ≤ v3) (h2 : v3 < 201) (hq : Q (some (vI ((g 41) v3.toNat))) g) : EV d mX4_find Q 21 [vR 39, vL l1, vX 2, vI v3] [] g := by
  refine wp_aload_n dX4_find_21 rfl rfl ?_
  refine wp_get (v := vR 41) dX4_find_22 fl_4_15 L_39 rfl ?_
  refine wp_iload_n dX4_find_25 rfl ?_
  refine wp_iaload dX4_find_26 h1 L_41 h2 ?_
  exact wp_iret dX4_find_27 rfl hq
theorem b_X4_find_28 {d : Nat} {Q : Option pV → pG → Prop} {g : pG} {l1 v3 : Int} (k : EV d mX4_find Q 2 [vR 39, vL l1, vX 2, vI (w32 (v3 + 1))] [] g) : EV d mX4_find Q 28 [vR 39, vL l1, vX 2, vI v3] [] g := by
  refine wp_iinc dX4_find_28 rfl (Nat.le_of_ble_eq_true rfl) (pp (c := 2) rfl rfl) ?_
  refine wp_goto (tgt := 2) dX4_find_31 rfl ?_
  exact k
theorem b_X4_find_34 {d : Nat} {Q : Option pV → pG → Prop} {g : pG} {l1 v3 : Int} (hq : Q (some (vI (-1))) g) : EV d mX4_find Q 34 [vR 39, vL l1, vX 2, vI v3] [] g := by
  refine wp_iconst dX4_find_34 kc_m1 ?_
  exact wp_iret dX4_find_35 rfl hq
theorem b_X0_note_0 {d : Nat} {Q : Option pV → pG → Prop} {g : pG} {v1 v2 v3 : Int} (k1 : ((g 21) 3 < 8) → EV d mX0_note Q 13 [vR 21, vI v1, vI v2, vI v3] [] g) (k2 : ¬ ((g 21) 3 < 8) → EV d mX0_note Q 9 [vR 21, vI v1, vI v2, vI v3] [] g) : EV d mX0_note Q 0 [vR 21, vI v1, vI v2, vI v3] [] g := by
  refine wp_aload_n dX0_note_0 rfl rfl ?_
  refine wp_get (v := vI ((g 21) 3)) dX0_note_1 fl_0_21 L_21 rfl ?_
  refine wp_bipush dX0_note_4 kb_8 kc_8 ?_
  exact wp_icmp_lt (tgt := 13) dX0_note_6 rfl k1 k2
theorem b_X0_note_9 {d : Nat} {Q : Option pV → pG → Prop} {g : pG} {v1 v2 v3 : Int} {R : pG → Prop} (hc : CT d mX0_forgetOldest [vR 21] g (qV R)) (k : ∀ gg : pG, R gg → EV d mX0_note Q 13 [vR 21, vI v1, vI v2, vI v3] [] gg) : EV d mX0_note Q 9 [vR 21, vI v1, vI v2, vI v3] [] g := by
  refine wp_aload_n dX0_note_9 rfl rfl ?_
  exact wp_callvV (As := []) dX0_note_10 ml_0_25 (by decide) rfl L_21 (by decide) rfl (Nat.le_of_ble_eq_true rfl) rfl (Nat.le_refl _) (Nat.le_refl _) hc k
theorem b_X0_note_13 {d : Nat} {Q : Option pV → pG → Prop} {g : pG} {v1 v2 v3 : Int} (h1 : 0 ≤ (g 21) 3) (h2 : (g 21) 3 < 8) (hq : Q none (cset (cset (cset (cset g 22 (fup (g 22) ((g 21) 3).toNat v1)) 23 (fup (g 23) ((g 21) 3).toNat v2)) 24 (fup (g 24) ((g 21) 3).toNat v3)) 21 (fup (g 21) 3 (w32 (((g 21) 3) + 1))))) : EV d mX0_note Q 13 [vR 21, vI v1, vI v2, vI v3] [] g := by
  refine wp_aload_n dX0_note_13 rfl rfl ?_
  refine wp_get (v := vR 22) dX0_note_14 fl_0_9 L_21 rfl ?_
  refine wp_aload_n dX0_note_17 rfl rfl ?_
  refine wp_get (v := vI ((g 21) 3)) dX0_note_18 fl_0_21 L_21 rfl ?_
  refine wp_iload_n dX0_note_21 rfl ?_
  refine wp_iastore dX0_note_22 h1 L_22 h2 ?_
  refine wp_aload_n dX0_note_23 rfl rfl ?_
  refine wp_get (v := vR 23) dX0_note_24 fl_0_15 L_21 rfl ?_
  refine wp_aload_n dX0_note_27 rfl rfl ?_
  refine wp_get (v := vI ((g 21) 3)) dX0_note_28 fl_0_21 L_21 rfl ?_
  refine wp_iload_n dX0_note_31 rfl ?_
  refine wp_iastore dX0_note_32 h1 L_23 h2 ?_
  refine wp_aload_n dX0_note_33 rfl rfl ?_
  refine wp_get (v := vR 24) dX0_note_34 fl_0_18 L_21 rfl ?_
  refine wp_aload_n dX0_note_37 rfl rfl ?_
  refine wp_get (v := vI ((g 21) 3)) dX0_note_38 fl_0_21 L_21 rfl ?_
  refine wp_iload_n dX0_note_41 rfl ?_
  refine wp_iastore dX0_note_42 h1 L_24 h2 ?_
  refine wp_aload_n dX0_note_43 rfl rfl ?_
  refine wp_dup dX0_note_44 rfl ?_
  refine wp_get (v := vI ((g 21) 3)) dX0_note_45 fl_0_21 L_21 rfl ?_
  refine wp_iconst dX0_note_48 kc_1 ?_
  refine wp_iadd dX0_note_49 ?_
  refine wp_putI dX0_note_50 fl_0_21 L_21 rfl rfl ?_
  exact wp_vret dX0_note_53 rfl hq
theorem b_X0_forgetOldest_0 {d : Nat} {Q : Option pV → pG → Prop} {g : pG} (k : EV d mX0_forgetOldest Q 8 [vR 21, vI 0] [] (cset g 21 (fup (g 21) 3 7))) : EV d mX0_forgetOldest Q 0 [vR 21, vX 2] [] g := by
  refine wp_aload_n dX0_forgetOldest_0 rfl rfl ?_
  refine wp_bipush dX0_forgetOldest_1 kb_7 kc_7 ?_
  refine wp_putI dX0_forgetOldest_3 fl_0_21 L_21 rfl rfl ?_
  refine wp_iconst dX0_forgetOldest_6 kc_0 ?_
  refine wp_istore_n dX0_forgetOldest_7 (Nat.le_of_ble_eq_true rfl) (pp (c := 0) rfl rfl) ?_
  exact k
theorem b_X0_forgetOldest_8 {d : Nat} {Q : Option pV → pG → Prop} {g : pG} {v1 : Int} (k1 : ((g 21) 3 ≤ v1) → EV d mX0_forgetOldest Q 64 [vR 21, vI v1] [] g) (k2 : ¬ ((g 21) 3 ≤ v1) → EV d mX0_forgetOldest Q 16 [vR 21, vI v1] [] g) : EV d mX0_forgetOldest Q 8 [vR 21, vI v1] [] g := by
  refine wp_iload_n dX0_forgetOldest_8 rfl ?_
  refine wp_aload_n dX0_forgetOldest_9 rfl rfl ?_
  refine wp_get (v := vI ((g 21) 3)) dX0_forgetOldest_10 fl_0_21 L_21 rfl ?_
  exact wp_icmp_ge (tgt := 64) dX0_forgetOldest_13 rfl k1 k2
theorem b_X0_forgetOldest_16 {d : Nat} {Q : Option pV → pG → Prop} {g : pG} {v1 : Int} (h1 : 0 ≤ w32 (v1 + 1)) (h2 : w32 (v1 + 1) < 8) (h3 : 0 ≤ v1) (h4 : v1 < 8) (k : EV d mX0_forgetOldest Q 8 [vR 21, vI (w32 (v1 + 1))] [] (cset (cset (cset g 22 (fup (g 22) v1.toNat ((g 22) (w32 (v1 + 1)).toNat))) 23 (fup (g 23) v1.toNat ((g 23) (w32 (v1 + 1)).toNat))) 24 (fup (g 24) v1.toNat ((g 24) (w32 (v1 + 1)).toNat)))) : EV d mX0_forgetOldest Q 16 [vR 21, vI v1] [] g := by
  refine wp_aload_n dX0_forgetOldest_16 rfl rfl ?_
  refine wp_get (v := vR 22) dX0_forgetOldest_17 fl_0_9 L_21 rfl ?_
  refine wp_iload_n dX0_forgetOldest_20 rfl ?_
  refine wp_aload_n dX0_forgetOldest_21 rfl rfl ?_
  refine wp_get (v := vR 22) dX0_forgetOldest_22 fl_0_9 L_21 rfl ?_
  refine wp_iload_n dX0_forgetOldest_25 rfl ?_
  refine wp_iconst dX0_forgetOldest_26 kc_1 ?_
  refine wp_iadd dX0_forgetOldest_27 ?_
  refine wp_iaload dX0_forgetOldest_28 h1 L_22 h2 ?_
  refine wp_iastore dX0_forgetOldest_29 h3 L_22 h4 ?_
  refine wp_aload_n dX0_forgetOldest_30 rfl rfl ?_
  refine wp_get (v := vR 23) dX0_forgetOldest_31 fl_0_15 L_21 rfl ?_
  refine wp_iload_n dX0_forgetOldest_34 rfl ?_
  refine wp_aload_n dX0_forgetOldest_35 rfl rfl ?_
  refine wp_get (v := vR 23) dX0_forgetOldest_36 fl_0_15 L_21 rfl ?_
  refine wp_iload_n dX0_forgetOldest_39 rfl ?_
  refine wp_iconst dX0_forgetOldest_40 kc_1 ?_
  refine wp_iadd dX0_forgetOldest_41 ?_
  refine wp_iaload dX0_forgetOldest_42 h1 L_23 h2 ?_
  refine wp_iastore dX0_forgetOldest_43 h3 L_23 h4 ?_
  refine wp_aload_n dX0_forgetOldest_44 rfl rfl ?_
  refine wp_get (v := vR 24) dX0_forgetOldest_45 fl_0_18 L_21 rfl ?_
  refine wp_iload_n dX0_forgetOldest_48 rfl ?_
  refine wp_aload_n dX0_forgetOldest_49 rfl rfl ?_
  refine wp_get (v := vR 24) dX0_forgetOldest_50 fl_0_18 L_21 rfl ?_
  refine wp_iload_n dX0_forgetOldest_53 rfl ?_
  refine wp_iconst dX0_forgetOldest_54 kc_1 ?_
  refine wp_iadd dX0_forgetOldest_55 ?_
  refine wp_iaload dX0_forgetOldest_56 h1 L_24 h2 ?_
  refine wp_iastore dX0_forgetOldest_57 h3 L_24 h4 ?_
  refine wp_iinc dX0_forgetOldest_58 rfl (Nat.le_of_ble_eq_true rfl) (pp (c := 0) rfl rfl) ?_
  refine wp_goto (tgt := 8) dX0_forgetOldest_61 rfl ?_
  exact k
theorem b_X0_forgetOldest_64 {d : Nat} {Q : Option pV → pG → Prop} {g : pG} {v1 : Int} (hq : Q none g) : EV d mX0_forgetOldest Q 64 [vR 21, vI v1] [] g := by
  exact wp_vret dX0_forgetOldest_64 rfl hq
theorem b_X0_takeBack_0 {d : Nat} {Q : Option pV → pG → Prop} {g : pG} (k1 : ((g 21) 3 ≠ 0) → EV d mX0_takeBack Q 9 [vR 21, vR 1] [] g) (k2 : ¬ ((g 21) 3 ≠ 0) → EV d mX0_takeBack Q 7 [vR 21, vR 1] [] g) : EV d mX0_takeBack Q 0 [vR 21, vR 1] [] g := by
  refine wp_aload_n dX0_takeBack_0 rfl rfl ?_
  refine wp_get (v := vI ((g 21) 3)) dX0_takeBack_1 fl_0_21 L_21 rfl ?_
  exact wp_if_ne (tgt := 9) dX0_takeBack_4 rfl k1 k2
theorem b_X0_takeBack_7 {d : Nat} {Q : Option pV → pG → Prop} {g : pG} (hq : Q (some (vI 0)) g) : EV d mX0_takeBack Q 7 [vR 21, vR 1] [] g := by
  refine wp_iconst dX0_takeBack_7 kc_0 ?_
  exact wp_iret dX0_takeBack_8 rfl hq
theorem b_X0_takeBack_9 {d : Nat} {Q : Option pV → pG → Prop} {g : pG} (h1 : 0 ≤ (fup (g 21) 3 (w32 (((g 21) 3) - 1))) 3) (h2 : (fup (g 21) 3 (w32 (((g 21) 3) - 1))) 3 < 8) (k0 : (g 22) ((fup (g 21) 3 (w32 (((g 21) 3) - 1))) 3).toNat = 0 → EV d mX0_takeBack Q 56 [vR 21, vR 1] [] (cset g 21 (fup (g 21) 3 (w32 (((g 21) 3) - 1))))) (k1 : (g 22) ((fup (g 21) 3 (w32 (((g 21) 3) - 1))) 3).toNat = 1 → EV d mX0_takeBack Q 82 [vR 21, vR 1] [] (cset g 21 (fup (g 21) 3 (w32 (((g 21) 3) - 1))))) (kd : ((g 22) ((fup (g 21) 3 (w32 (((g 21) 3) - 1))) 3).toNat ≠ 0 ∧ (g 22) ((fup (g 21) 3 (w32 (((g 21) 3) - 1))) 3).toNat ≠ 1) → EV d mX0_takeBack Q 122 [vR 21, vR 1] [] (cset g 21 (fup (g 21) 3 (w32 (((g 21) 3) - 1))))) : EV d mX0_takeBack Q 9 [vR 21, vR 1] [] g := by
  refine wp_aload_n dX0_takeBack_9 rfl rfl ?_
  refine wp_dup dX0_takeBack_10 rfl ?_
  refine wp_get (v := vI ((g 21) 3)) dX0_takeBack_11 fl_0_21 L_21 rfl ?_
  refine wp_iconst dX0_takeBack_14 kc_1 ?_
  refine wp_isub dX0_takeBack_15 ?_
  refine wp_putI dX0_takeBack_16 fl_0_21 L_21 rfl rfl ?_
  refine wp_aload_n dX0_takeBack_19 rfl rfl ?_
  refine wp_get (v := vR 22) dX0_takeBack_20 fl_0_9 L_21 rfl ?_
  refine wp_aload_n dX0_takeBack_23 rfl rfl ?_
  refine wp_get (v := vI ((fup (g 21) 3 (w32 (((g 21) 3) - 1))) 3)) dX0_takeBack_24 fl_0_21 L_21 rfl ?_
  refine wp_iaload dX0_takeBack_27 h1 L_22 h2 ?_
  by_cases hq0 : (g 22) ((fup (g 21) 3 (w32 (((g 21) 3) - 1))) 3).toNat = 0
  · exact wp_lsw (x := (g 22) ((fup (g 21) 3 (w32 (((g 21) 3) - 1))) 3).toNat) (tgt := 56) (off := 28) dX0_takeBack_28 rfl (by rw [hq0]; rfl) rfl (k0 hq0)
  by_cases hq1 : (g 22) ((fup (g 21) 3 (w32 (((g 21) 3) - 1))) 3).toNat = 1
  · exact wp_lsw (x := (g 22) ((fup (g 21) 3 (w32 (((g 21) 3) - 1))) 3).toNat) (tgt := 82) (off := 54) dX0_takeBack_28 rfl (by rw [hq1]; rfl) rfl (k1 hq1)
  exact wp_lsw (x := (g 22) ((fup (g 21) 3 (w32 (((g 21) 3) - 1))) 3).toNat) (tgt := 122) (off := 94) dX0_takeBack_28 rfl (by simp [Op.lookupswitch.offset, hq0, Ne.symm hq0, hq1, Ne.symm hq1]) rfl (kd ⟨hq0, hq1⟩)
theorem b_X0_takeBack_56 {d : Nat} {Q : Option pV → pG → Prop} {g : pG} {R : Int → pG → Prop} (h1 : 0 ≤ (g 21) 3) (h2 : (g 21) 3 < 8) (hc : CT d mX5_changePoint [vR 1, vI ((g 23) ((g 21) 3).toNat), vI ((g 24) ((g 21) 3).toNat)] g (qI R)) (k : ∀ (x : Int) (gg : pG), R x gg → EV d mX0_takeBack Q 78 [vR 21, vR 1] [vI x] gg) : EV d mX0_takeBack Q 56 [vR 21, vR 1] [] g := by
  refine wp_aload_n dX0_takeBack_56 rfl rfl ?_
  refine wp_aload_n dX0_takeBack_57 rfl rfl ?_
  refine wp_get (v := vR 23) dX0_takeBack_58 fl_0_15 L_21 rfl ?_
  refine wp_aload_n dX0_takeBack_61 rfl rfl ?_
  refine wp_get (v := vI ((g 21) 3)) dX0_takeBack_62 fl_0_21 L_21 rfl ?_
  refine wp_iaload dX0_takeBack_65 h1 L_23 h2 ?_
  refine wp_aload_n dX0_takeBack_66 rfl rfl ?_
  refine wp_get (v := vR 24) dX0_takeBack_67 fl_0_18 L_21 rfl ?_
  refine wp_aload_n dX0_takeBack_70 rfl rfl ?_
  refine wp_get (v := vI ((g 21) 3)) dX0_takeBack_71 fl_0_21 L_21 rfl ?_
  refine wp_iaload dX0_takeBack_74 h1 L_24 h2 ?_
  exact wp_callvI (As := [vI ((g 23) ((g 21) 3).toNat), vI ((g 24) ((g 21) 3).toNat)]) dX0_takeBack_75 ml_0_28 (by decide) rfl L_1 (by decide) rfl (Nat.le_of_ble_eq_true rfl) rfl (Nat.le_refl _) (Nat.le_refl _) hc k
theorem b_X0_takeBack_78 {d : Nat} {Q : Option pV → pG → Prop} {g : pG} {vs0 : Int} (hq : Q (some (vI ((g 21) 3))) g) : EV d mX0_takeBack Q 78 [vR 21, vR 1] [vI vs0] g := by
  refine wp_pop dX0_takeBack_78 rfl ?_
  refine wp_goto (tgt := 127) dX0_takeBack_79 rfl ?_
  refine wp_aload_n dX0_takeBack_127 rfl rfl ?_
  refine wp_get (v := vI ((g 21) 3)) dX0_takeBack_128 fl_0_21 L_21 rfl ?_
  exact wp_iret dX0_takeBack_131 rfl hq
theorem b_X0_takeBack_82 {d : Nat} {Q : Option pV → pG → Prop} {g : pG} {R : pG → Prop} (h1 : 0 ≤ (g 21) 3) (h2 : (g 21) 3 < 8) (hc : CT d mX5_rename [vR 1, vI ((g 23) ((g 21) 3).toNat), vI (w32 (((g 24) ((g 21) 3).toNat).tdiv 10)), vI (w32 (((g 24) ((g 21) 3).toNat).tmod 10))] g (qV R)) (k : ∀ gg : pG, R gg → EV d mX0_takeBack Q 119 [vR 21, vR 1] [] gg) : EV d mX0_takeBack Q 82 [vR 21, vR 1] [] g := by
  refine wp_aload_n dX0_takeBack_82 rfl rfl ?_
  refine wp_aload_n dX0_takeBack_83 rfl rfl ?_
  refine wp_get (v := vR 23) dX0_takeBack_84 fl_0_15 L_21 rfl ?_
  refine wp_aload_n dX0_takeBack_87 rfl rfl ?_
  refine wp_get (v := vI ((g 21) 3)) dX0_takeBack_88 fl_0_21 L_21 rfl ?_
  refine wp_iaload dX0_takeBack_91 h1 L_23 h2 ?_
  refine wp_aload_n dX0_takeBack_92 rfl rfl ?_
  refine wp_get (v := vR 24) dX0_takeBack_93 fl_0_18 L_21 rfl ?_
  refine wp_aload_n dX0_takeBack_96 rfl rfl ?_
  refine wp_get (v := vI ((g 21) 3)) dX0_takeBack_97 fl_0_21 L_21 rfl ?_
  refine wp_iaload dX0_takeBack_100 h1 L_24 h2 ?_
  refine wp_bipush dX0_takeBack_101 kb_10 kc_10 ?_
  refine wp_idiv dX0_takeBack_103 (by decide) ?_
  refine wp_aload_n dX0_takeBack_104 rfl rfl ?_
  refine wp_get (v := vR 24) dX0_takeBack_105 fl_0_18 L_21 rfl ?_
  refine wp_aload_n dX0_takeBack_108 rfl rfl ?_
  refine wp_get (v := vI ((g 21) 3)) dX0_takeBack_109 fl_0_21 L_21 rfl ?_
  refine wp_iaload dX0_takeBack_112 h1 L_24 h2 ?_
  refine wp_bipush dX0_takeBack_113 kb_10 kc_10 ?_
  refine wp_irem dX0_takeBack_115 (by decide) ?_
  exact wp_callvV (As := [vI ((g 23) ((g 21) 3).toNat), vI (w32 (((g 24) ((g 21) 3).toNat).tdiv 10)), vI (w32 (((g 24) ((g 21) 3).toNat).tmod 10))]) dX0_takeBack_116 ml_0_34 (by decide) rfl L_1 (by decide) rfl (Nat.le_of_ble_eq_true rfl) rfl (Nat.le_refl _) (Nat.le_refl _) hc k
theorem b_X0_takeBack_119 {d : Nat} {Q : Option pV → pG → Prop} {g : pG} (hq : Q (some (vI ((g 21) 3))) g) : EV d mX0_takeBack Q 119 [vR 21, vR 1] [] g := by
  refine wp_goto (tgt := 127) dX0_takeBack_119 rfl ?_
  refine wp_aload_n dX0_takeBack_127 rfl rfl ?_
  refine wp_get (v := vI ((g 21) 3)) dX0_takeBack_128 fl_0_21 L_21 rfl ?_
  exact wp_iret dX0_takeBack_131 rfl hq
theorem b_X0_takeBack_122 {d : Nat} {Q : Option pV → pG → Prop} {g : pG} {R : Int → pG → Prop} (hc : CT d mX5_loseLowest [vR 1] g (qI R)) (k : ∀ (x : Int) (gg : pG), R x gg → EV d mX0_takeBack Q 126 [vR 21, vR 1] [vI x] gg) : EV d mX0_takeBack Q 122 [vR 21, vR 1] [] g := by
  refine wp_aload_n dX0_takeBack_122 rfl rfl ?_
  exact wp_callvI (As := []) dX0_takeBack_123 ml_0_38 (by decide) rfl L_1 (by decide) rfl (Nat.le_of_ble_eq_true rfl) rfl (Nat.le_refl _) (Nat.le_refl _) hc k
theorem b_X0_takeBack_126 {d : Nat} {Q : Option pV → pG → Prop} {g : pG} {vs0 : Int} (hq : Q (some (vI ((g 21) 3))) g) : EV d mX0_takeBack Q 126 [vR 21, vR 1] [vI vs0] g := by
  refine wp_pop dX0_takeBack_126 rfl ?_
  refine wp_aload_n dX0_takeBack_127 rfl rfl ?_
  refine wp_get (v := vI ((g 21) 3)) dX0_takeBack_128 fl_0_21 L_21 rfl ?_
  exact wp_iret dX0_takeBack_131 rfl hq
theorem b_X2_take_0 {d : Nat} {Q : Option pV → pG → Prop} {g : pG} {v1 : Int} (k1 : (96 ≤ (g 19) 1) → EV d mX2_take Q 29 [vR 19, vI v1] [] g) (k2 : ¬ (96 ≤ (g 19) 1) → EV d mX2_take Q 9 [vR 19, vI v1] [] g) : EV d mX2_take Q 0 [vR 19, vI v1] [] g := by
  refine wp_aload_n dX2_take_0 rfl rfl ?_
  refine wp_get (v := vI ((g 19) 1)) dX2_take_1 fl_2_15 L_19 rfl ?_
  refine wp_bipush dX2_take_4 kb_96 kc_96 ?_
  exact wp_icmp_ge (tgt := 29) dX2_take_6 rfl k1 k2
theorem b_X2_take_9 {d : Nat} {Q : Option pV → pG → Prop} {g : pG} {v1 : Int} (h1 : 0 ≤ (g 19) 1) (h2 : (g 19) 1 < 96) (hq : Q (some (vI ((fup (g 19) 1 (w32 (((g 19) 1) + 1))) 1))) (cset (cset g 20 (fup (g 20) ((g 19) 1).toNat v1)) 19 (fup (g 19) 1 (w32 (((g 19) 1) + 1))))) : EV d mX2_take Q 9 [vR 19, vI v1] [] g := by
  refine wp_aload_n dX2_take_9 rfl rfl ?_
  refine wp_get (v := vR 20) dX2_take_10 fl_2_9 L_19 rfl ?_
  refine wp_aload_n dX2_take_13 rfl rfl ?_
  refine wp_get (v := vI ((g 19) 1)) dX2_take_14 fl_2_15 L_19 rfl ?_
  refine wp_iload_n dX2_take_17 rfl ?_
  refine wp_iastore dX2_take_18 h1 L_20 h2 ?_
  refine wp_aload_n dX2_take_19 rfl rfl ?_
  refine wp_dup dX2_take_20 rfl ?_
  refine wp_get (v := vI ((g 19) 1)) dX2_take_21 fl_2_15 L_19 rfl ?_
  refine wp_iconst dX2_take_24 kc_1 ?_
  refine wp_iadd dX2_take_25 ?_
  refine wp_putI dX2_take_26 fl_2_15 L_19 rfl rfl ?_
  refine wp_aload_n dX2_take_29 rfl rfl ?_
  refine wp_get (v := vI ((fup (g 19) 1 (w32 (((g 19) 1) + 1))) 1)) dX2_take_30 fl_2_15 L_19 rfl ?_
  exact wp_iret dX2_take_33 rfl hq
theorem b_X2_take_29 {d : Nat} {Q : Option pV → pG → Prop} {g : pG} {v1 : Int} (hq : Q (some (vI ((g 19) 1))) g) : EV d mX2_take Q 29 [vR 19, vI v1] [] g := by
  refine wp_aload_n dX2_take_29 rfl rfl ?_
  refine wp_get (v := vI ((g 19) 1)) dX2_take_30 fl_2_15 L_19 rfl ?_
  exact wp_iret dX2_take_33 rfl hq
theorem b_X2_suits_0 {d : Nat} {Q : Option pV → pG → Prop} {g : pG} {v0 v1 : Int} (k1 : (v1 ≠ 48) → EV d mX2_suits Q 24 [vI v0, vI v1] [] g) (k2 : ¬ (v1 ≠ 48) → EV d mX2_suits Q 6 [vI v0, vI v1] [] g) : EV d mX2_suits Q 0 [vI v0, vI v1] [] g := by
  refine wp_iload_n dX2_suits_0 rfl ?_
  refine wp_bipush dX2_suits_1 kb_48 kc_48 ?_
  exact wp_icmp_ne (tgt := 24) dX2_suits_3 rfl k1 k2
theorem b_X2_suits_6 {d : Nat} {Q : Option pV → pG → Prop} {g : pG} {v0 v1 : Int} (k1 : (v0 < 48) → EV d mX2_suits Q 22 [vI v0, vI v1] [] g) (k2 : ¬ (v0 < 48) → EV d mX2_suits Q 12 [vI v0, vI v1] [] g) : EV d mX2_suits Q 6 [vI v0, vI v1] [] g := by
  refine wp_iload_n dX2_suits_6 rfl ?_
  refine wp_bipush dX2_suits_7 kb_48 kc_48 ?_
  exact wp_icmp_lt (tgt := 22) dX2_suits_9 rfl k1 k2
theorem b_X2_suits_12 {d : Nat} {Q : Option pV → pG → Prop} {g : pG} {v0 v1 : Int} (k1 : (57 < v0) → EV d mX2_suits Q 22 [vI v0, vI v1] [] g) (k2 : ¬ (57 < v0) → EV d mX2_suits Q 18 [vI v0, vI v1] [] g) : EV d mX2_suits Q 12 [vI v0, vI v1] [] g := by
  refine wp_iload_n dX2_suits_12 rfl ?_
  refine wp_bipush dX2_suits_13 kb_57 kc_57 ?_
  exact wp_icmp_gt (tgt := 22) dX2_suits_15 rfl k1 k2
theorem b_X2_suits_18 {d : Nat} {Q : Option pV → pG → Prop} {g : pG} {v0 v1 : Int} (hq : Q (some (vI 1)) g) : EV d mX2_suits Q 18 [vI v0, vI v1] [] g := by
  refine wp_iconst dX2_suits_18 kc_1 ?_
  refine wp_goto (tgt := 23) dX2_suits_19 rfl ?_
  exact wp_zret dX2_suits_23 rfl (Or.inr rfl) hq
theorem b_X2_suits_22 {d : Nat} {Q : Option pV → pG → Prop} {g : pG} {v0 v1 : Int} (hq : Q (some (vI 0)) g) : EV d mX2_suits Q 22 [vI v0, vI v1] [] g := by
  refine wp_iconst dX2_suits_22 kc_0 ?_
  exact wp_zret dX2_suits_23 rfl (Or.inl rfl) hq
theorem b_X2_suits_24 {d : Nat} {Q : Option pV → pG → Prop} {g : pG} {v0 v1 : Int} (k1 : (v1 ≠ 43) → EV d mX2_suits Q 50 [vI v0, vI v1] [] g) (k2 : ¬ (v1 ≠ 43) → EV d mX2_suits Q 30 [vI v0, vI v1] [] g) : EV d mX2_suits Q 24 [vI v0, vI v1] [] g := by
  refine wp_iload_n dX2_suits_24 rfl ?_
  refine wp_bipush dX2_suits_25 kb_43 kc_43 ?_
  exact wp_icmp_ne (tgt := 50) dX2_suits_27 rfl k1 k2
theorem b_X2_suits_30 {d : Nat} {Q : Option pV → pG → Prop} {g : pG} {v0 v1 : Int} (k1 : (v0 = 43) → EV d mX2_suits Q 42 [vI v0, vI v1] [] g) (k2 : ¬ (v0 = 43) → EV d mX2_suits Q 36 [vI v0, vI v1] [] g) : EV d mX2_suits Q 30 [vI v0, vI v1] [] g := by
  refine wp_iload_n dX2_suits_30 rfl ?_
  refine wp_bipush dX2_suits_31 kb_43 kc_43 ?_
  exact wp_icmp_eq (tgt := 42) dX2_suits_33 rfl k1 k2
theorem b_X2_suits_36 {d : Nat} {Q : Option pV → pG → Prop} {g : pG} {v0 v1 : Int} (k1 : (v0 ≠ 45) → EV d mX2_suits Q 46 [vI v0, vI v1] [] g) (k2 : ¬ (v0 ≠ 45) → EV d mX2_suits Q 42 [vI v0, vI v1] [] g) : EV d mX2_suits Q 36 [vI v0, vI v1] [] g := by
  refine wp_iload_n dX2_suits_36 rfl ?_
  refine wp_bipush dX2_suits_37 kb_45 kc_45 ?_
  exact wp_icmp_ne (tgt := 46) dX2_suits_39 rfl k1 k2
theorem b_X2_suits_42 {d : Nat} {Q : Option pV → pG → Prop} {g : pG} {v0 v1 : Int} (hq : Q (some (vI 1)) g) : EV d mX2_suits Q 42 [vI v0, vI v1] [] g := by
  refine wp_iconst dX2_suits_42 kc_1 ?_
  refine wp_goto (tgt := 60) dX2_suits_43 rfl ?_
  exact wp_zret dX2_suits_60 rfl (Or.inr rfl) hq
theorem b_X2_suits_46 {d : Nat} {Q : Option pV → pG → Prop} {g : pG} {v0 v1 : Int} (hq : Q (some (vI 0)) g) : EV d mX2_suits Q 46 [vI v0, vI v1] [] g := by
  refine wp_iconst dX2_suits_46 kc_0 ?_
  refine wp_goto (tgt := 60) dX2_suits_47 rfl ?_
  exact wp_zret dX2_suits_60 rfl (Or.inl rfl) hq
theorem b_X2_suits_50 {d : Nat} {Q : Option pV → pG → Prop} {g : pG} {v0 v1 : Int} (k1 : (v0 ≠ v1) → EV d mX2_suits Q 59 [vI v0, vI v1] [] g) (k2 : ¬ (v0 ≠ v1) → EV d mX2_suits Q 55 [vI v0, vI v1] [] g) : EV d mX2_suits Q 50 [vI v0, vI v1] [] g := by
  refine wp_iload_n dX2_suits_50 rfl ?_
  refine wp_iload_n dX2_suits_51 rfl ?_
  exact wp_icmp_ne (tgt := 59) dX2_suits_52 rfl k1 k2
theorem b_X2_suits_55 {d : Nat} {Q : Option pV → pG → Prop} {g : pG} {v0 v1 : Int} (hq : Q (some (vI 1)) g) : EV d mX2_suits Q 55 [vI v0, vI v1] [] g := by
  refine wp_iconst dX2_suits_55 kc_1 ?_
  refine wp_goto (tgt := 60) dX2_suits_56 rfl ?_
  exact wp_zret dX2_suits_60 rfl (Or.inr rfl) hq
theorem b_X2_suits_59 {d : Nat} {Q : Option pV → pG → Prop} {g : pG} {v0 v1 : Int} (hq : Q (some (vI 0)) g) : EV d mX2_suits Q 59 [vI v0, vI v1] [] g := by
  refine wp_iconst dX2_suits_59 kc_0 ?_
  exact wp_zret dX2_suits_60 rfl (Or.inl rfl) hq
theorem b_X2_beginsAt_0 {d : Nat} {Q : Option pV → pG → Prop} {g : pG} {v1 : Int} (k1 : (v1 = 0) → EV d mX2_beginsAt Q 16 [vR 19, vI v1] [] g) (k2 : ¬ (v1 = 0) → EV d mX2_beginsAt Q 4 [vR 19, vI v1] [] g) : EV d mX2_beginsAt Q 0 [vR 19, vI v1] [] g := by
  refine wp_iload_n dX2_beginsAt_0 rfl ?_
  exact wp_if_eq (tgt := 16) dX2_beginsAt_1 rfl k1 k2
theorem b_X2_beginsAt_4 {d : Nat} {Q : Option pV → pG → Prop} {g : pG} {v1 : Int} {R : Int → pG → Prop} (hc : CT d mX2_sign [vR 19, vI (w32 (v1 - 1))] g (qI R)) (k : ∀ (x : Int) (gg : pG), R x gg → EV d mX2_beginsAt Q 11 [vR 19, vI v1] [vI x] gg) : EV d mX2_beginsAt Q 4 [vR 19, vI v1] [] g := by
  refine wp_aload_n dX2_beginsAt_4 rfl rfl ?_
  refine wp_iload_n dX2_beginsAt_5 rfl ?_
  refine wp_iconst dX2_beginsAt_6 kc_1 ?_
  refine wp_isub dX2_beginsAt_7 ?_
  exact wp_callvI (As := [vI (w32 (v1 - 1))]) dX2_beginsAt_8 ml_2_19 (by decide) rfl L_19 (by decide) rfl (Nat.le_of_ble_eq_true rfl) rfl (Nat.le_refl _) (Nat.le_refl _) hc k
theorem b_X2_beginsAt_11 {d : Nat} {Q : Option pV → pG → Prop} {g : pG} {v1 vs0 : Int} (k1 : (vs0 ≠ 59) → EV d mX2_beginsAt Q 20 [vR 19, vI v1] [] g) (k2 : ¬ (vs0 ≠ 59) → EV d mX2_beginsAt Q 16 [vR 19, vI v1] [] g) : EV d mX2_beginsAt Q 11 [vR 19, vI v1] [vI vs0] g := by
  refine wp_bipush dX2_beginsAt_11 kb_59 kc_59 ?_
  exact wp_icmp_ne (tgt := 20) dX2_beginsAt_13 rfl k1 k2
theorem b_X2_beginsAt_16 {d : Nat} {Q : Option pV → pG → Prop} {g : pG} {v1 : Int} (hq : Q (some (vI 1)) g) : EV d mX2_beginsAt Q 16 [vR 19, vI v1] [] g := by
  refine wp_iconst dX2_beginsAt_16 kc_1 ?_
  refine wp_goto (tgt := 21) dX2_beginsAt_17 rfl ?_
  exact wp_zret dX2_beginsAt_21 rfl (Or.inr rfl) hq
theorem b_X2_beginsAt_20 {d : Nat} {Q : Option pV → pG → Prop} {g : pG} {v1 : Int} (hq : Q (some (vI 0)) g) : EV d mX2_beginsAt Q 20 [vR 19, vI v1] [] g := by
  refine wp_iconst dX2_beginsAt_20 kc_0 ?_
  exact wp_zret dX2_beginsAt_21 rfl (Or.inl rfl) hq
theorem b_X2_sign_0 {d : Nat} {Q : Option pV → pG → Prop} {g : pG} {v1 : Int} (k1 : (v1 < 0) → EV d mX2_sign Q 21 [vR 19, vI v1] [] g) (k2 : ¬ (v1 < 0) → EV d mX2_sign Q 4 [vR 19, vI v1] [] g) : EV d mX2_sign Q 0 [vR 19, vI v1] [] g := by
  refine wp_iload_n dX2_sign_0 rfl ?_
  exact wp_if_lt (tgt := 21) dX2_sign_1 rfl k1 k2
theorem b_X2_sign_4 {d : Nat} {Q : Option pV → pG → Prop} {g : pG} {v1 : Int} (k1 : ((g 19) 1 ≤ v1) → EV d mX2_sign Q 21 [vR 19, vI v1] [] g) (k2 : ¬ ((g 19) 1 ≤ v1) → EV d mX2_sign Q 12 [vR 19, vI v1] [] g) : EV d mX2_sign Q 4 [vR 19, vI v1] [] g := by
  refine wp_iload_n dX2_sign_4 rfl ?_
  refine wp_aload_n dX2_sign_5 rfl rfl ?_
  refine wp_get (v := vI ((g 19) 1)) dX2_sign_6 fl_2_15 L_19 rfl ?_
  exact wp_icmp_ge (tgt := 21) dX2_sign_9 rfl k1 k2
theorem b_X2_sign_12 {d : Nat} {Q : Option pV → pG → Prop} {g : pG} {v1 : Int} (h1 : 0 ≤ v1) (h2 : v1 < 96) (hq : Q (some (vI ((g 20) v1.toNat))) g) : EV d mX2_sign Q 12 [vR 19, vI v1] [] g := by
  refine wp_aload_n dX2_sign_12 rfl rfl ?_
  refine wp_get (v := vR 20) dX2_sign_13 fl_2_9 L_19 rfl ?_
  refine wp_iload_n dX2_sign_16 rfl ?_
  refine wp_iaload dX2_sign_17 h1 L_20 h2 ?_
  refine wp_goto (tgt := 22) dX2_sign_18 rfl ?_
  exact wp_iret dX2_sign_22 rfl hq
theorem b_X2_sign_21 {d : Nat} {Q : Option pV → pG → Prop} {g : pG} {v1 : Int} (hq : Q (some (vI (-1))) g) : EV d mX2_sign Q 21 [vR 19, vI v1] [] g := by
  refine wp_iconst dX2_sign_21 kc_m1 ?_
  exact wp_iret dX2_sign_22 rfl hq
theorem b_X2_tellOne_0 {d : Nat} {Q : Option pV → pG → Prop} {g : pG} {v1 : Int} {R : Int → pG → Prop} (hc : CT d mX2_sign [vR 19, vI v1] g (qI R)) (k : ∀ (x : Int) (gg : pG), R x gg → EV d mX2_tellOne Q 5 [vR 19, vI v1, vR 7] [vI x] gg) : EV d mX2_tellOne Q 0 [vR 19, vI v1, vR 7] [] g := by
  refine wp_aload_n dX2_tellOne_0 rfl rfl ?_
  refine wp_iload_n dX2_tellOne_1 rfl ?_
  exact wp_callvI (As := [vI v1]) dX2_tellOne_2 ml_2_19 (by decide) rfl L_19 (by decide) rfl (Nat.le_of_ble_eq_true rfl) rfl (Nat.le_refl _) (Nat.le_refl _) hc k
theorem b_X2_tellOne_5 {d : Nat} {Q : Option pV → pG → Prop} {g : pG} {v1 vs0 : Int} (k0 : vs0 = 99 → EV d mX2_tellOne Q 96 [vR 19, vI v1, vR 7] [] g) (k9 : vs0 = 108 → EV d mX2_tellOne Q 223 [vR 19, vI v1, vR 7] [] g) (k11 : vs0 = 110 → EV d mX2_tellOne Q 133 [vR 19, vI v1, vR 7] [] g) (k13 : vs0 = 112 → EV d mX2_tellOne Q 146 [vR 19, vI v1, vR 7] [] g) (k16 : vs0 = 115 → EV d mX2_tellOne Q 188 [vR 19, vI v1, vR 7] [] g) (k18 : vs0 = 117 → EV d mX2_tellOne Q 236 [vR 19, vI v1, vR 7] [] g) (kd : (vs0 ≠ 99 ∧ vs0 ≠ 108 ∧ vs0 ≠ 110 ∧ vs0 ≠ 112 ∧ vs0 ≠ 115 ∧ vs0 ≠ 117) → EV d mX2_tellOne Q 241 [vR 19, vI v1, vR 7] [] g) : EV d mX2_tellOne Q 5 [vR 19, vI v1, vR 7] [vI vs0] g := by
  refine wp_tsw (x := vs0) dX2_tellOne_5 (fun hh => ⟨241, rfl, kd (by omega)⟩) (fun hh hh2 => ?_)
  rcases (show vs0 = 99 ∨ vs0 = 100 ∨ vs0 = 101 ∨ vs0 = 102 ∨ vs0 = 103 ∨ vs0 = 104 ∨ vs0 = 105 ∨ vs0 = 106 ∨ vs0 = 107 ∨ vs0 = 108 ∨ vs0 = 109 ∨ vs0 = 110 ∨ vs0 = 111 ∨ vs0 = 112 ∨ vs0 = 113 ∨ vs0 = 114 ∨ vs0 = 115 ∨ vs0 = 116 ∨ vs0 = 117 by omega) with hq | hq | hq | hq | hq | hq | hq | hq | hq | hq | hq | hq | hq | hq | hq | hq | hq | hq | hq
  · exact ⟨91, 96, by rw [hq]; rfl, rfl, k0 hq⟩
  · exact ⟨236, 241, by rw [hq]; rfl, rfl, kd (by omega)⟩
  · exact ⟨236, 241, by rw [hq]; rfl, rfl, kd (by omega)⟩
  · exact ⟨236, 241, by rw [hq]; rfl, rfl, kd (by omega)⟩
  · exact ⟨236, 241, by rw [hq]; rfl, rfl, kd (by omega)⟩
  · exact ⟨236, 241, by rw [hq]; rfl, rfl, kd (by omega)⟩
  · exact ⟨236, 241, by rw [hq]; rfl, rfl, kd (by omega)⟩
  · exact ⟨236, 241, by rw [hq]; rfl, rfl, kd (by omega)⟩
  · exact ⟨236, 241, by rw [hq]; rfl, rfl, kd (by omega)⟩
  · exact ⟨218, 223, by rw [hq]; rfl, rfl, k9 hq⟩
  · exact ⟨236, 241, by rw [hq]; rfl, rfl, kd (by omega)⟩
  · exact ⟨128, 133, by rw [hq]; rfl, rfl, k11 hq⟩
  · exact ⟨236, 241, by rw [hq]; rfl, rfl, kd (by omega)⟩
  · exact ⟨141, 146, by rw [hq]; rfl, rfl, k13 hq⟩
  · exact ⟨236, 241, by rw [hq]; rfl, rfl, kd (by omega)⟩
  · exact ⟨236, 241, by rw [hq]; rfl, rfl, kd (by omega)⟩
  · exact ⟨183, 188, by rw [hq]; rfl, rfl, k16 hq⟩
  · exact ⟨236, 241, by rw [hq]; rfl, rfl, kd (by omega)⟩
  · exact ⟨231, 236, by rw [hq]; rfl, rfl, k18 hq⟩
theorem b_X2_tellOne_96 {d : Nat} {Q : Option pV → pG → Prop} {g : pG} {v1 : Int} {R : Int → pG → Prop} (hc : CT d mX2_digit [vR 19, vI (w32 (v1 + 1))] g (qI R)) (k : ∀ (x : Int) (gg : pG), R x gg → EV d mX2_tellOne Q 104 [vR 19, vI v1, vR 7] [vI x, vR 7] gg) : EV d mX2_tellOne Q 96 [vR 19, vI v1, vR 7] [] g := by
  refine wp_aload_n dX2_tellOne_96 rfl rfl ?_
  refine wp_aload_n dX2_tellOne_97 rfl rfl ?_
  refine wp_iload_n dX2_tellOne_98 rfl ?_
  refine wp_iconst dX2_tellOne_99 kc_1 ?_
  refine wp_iadd dX2_tellOne_100 ?_
  exact wp_callvI (As := [vI (w32 (v1 + 1))]) dX2_tellOne_101 ml_2_59 (by decide) rfl L_19 (by decide) rfl (Nat.le_of_ble_eq_true rfl) rfl (Nat.le_refl _) (Nat.le_refl _) hc k
theorem b_X2_tellOne_104 {d : Nat} {Q : Option pV → pG → Prop} {g : pG} {v1 vs1 : Int} {R : Int → pG → Prop} (hc : CT d mX2_digit [vR 19, vI (w32 (v1 + 2))] g (qI R)) (k : ∀ (x : Int) (gg : pG), R x gg → EV d mX2_tellOne Q 111 [vR 19, vI v1, vR 7] [vI x, vI vs1, vR 7] gg) : EV d mX2_tellOne Q 104 [vR 19, vI v1, vR 7] [vI vs1, vR 7] g := by
  refine wp_aload_n dX2_tellOne_104 rfl rfl ?_
  refine wp_iload_n dX2_tellOne_105 rfl ?_
  refine wp_iconst dX2_tellOne_106 kc_2 ?_
  refine wp_iadd dX2_tellOne_107 ?_
  exact wp_callvI (As := [vI (w32 (v1 + 2))]) dX2_tellOne_108 ml_2_59 (by decide) rfl L_19 (by decide) rfl (Nat.le_of_ble_eq_true rfl) rfl (Nat.le_refl _) (Nat.le_refl _) hc k
theorem b_X2_tellOne_111 {d : Nat} {Q : Option pV → pG → Prop} {g : pG} {v1 vs1 vs2 : Int} {R : Int → pG → Prop} (hc : CT d mX2_digit [vR 19, vI (w32 (v1 + 3))] g (qI R)) (k : ∀ (x : Int) (gg : pG), R x gg → EV d mX2_tellOne Q 120 [vR 19, vI v1, vR 7] [vI x, vI 10, vI vs2, vI vs1, vR 7] gg) : EV d mX2_tellOne Q 111 [vR 19, vI v1, vR 7] [vI vs2, vI vs1, vR 7] g := by
  refine wp_bipush dX2_tellOne_111 kb_10 kc_10 ?_
  refine wp_aload_n dX2_tellOne_113 rfl rfl ?_
  refine wp_iload_n dX2_tellOne_114 rfl ?_
  refine wp_iconst dX2_tellOne_115 kc_3 ?_
  refine wp_iadd dX2_tellOne_116 ?_
  exact wp_callvI (As := [vI (w32 (v1 + 3))]) dX2_tellOne_117 ml_2_59 (by decide) rfl L_19 (by decide) rfl (Nat.le_of_ble_eq_true rfl) rfl (Nat.le_refl _) (Nat.le_refl _) hc k
theorem b_X2_tellOne_120 {d : Nat} {Q : Option pV → pG → Prop} {g : pG} {v1 vs1 vs2 vs3 vs4 : Int} {R : Int → pG → Prop} (hc : CT d mX2_digit [vR 19, vI (w32 (v1 + 4))] g (qI R)) (k : ∀ (x : Int) (gg : pG), R x gg → EV d mX2_tellOne Q 128 [vR 19, vI v1, vR 7] [vI x, vI (w32 (vs3 * vs4)), vI vs2, vI vs1, vR 7] gg) : EV d mX2_tellOne Q 120 [vR 19, vI v1, vR 7] [vI vs4, vI vs3, vI vs2, vI vs1, vR 7] g := by
  refine wp_imul dX2_tellOne_120 ?_
  refine wp_aload_n dX2_tellOne_121 rfl rfl ?_
  refine wp_iload_n dX2_tellOne_122 rfl ?_
  refine wp_iconst dX2_tellOne_123 kc_4 ?_
  refine wp_iadd dX2_tellOne_124 ?_
  exact wp_callvI (As := [vI (w32 (v1 + 4))]) dX2_tellOne_125 ml_2_59 (by decide) rfl L_19 (by decide) rfl (Nat.le_of_ble_eq_true rfl) rfl (Nat.le_refl _) (Nat.le_refl _) hc k
theorem b_X2_tellOne_128 {d : Nat} {Q : Option pV → pG → Prop} {g : pG} {v1 vs1 vs2 vs3 vs4 : Int} {R : Int → pG → Prop} (hc : CT d mX5_addLowest [vR 7, vI vs1, vI vs2, vI (w32 (vs3 + vs4))] g (qI R)) (k : ∀ (x : Int) (gg : pG), R x gg → EV d mX2_tellOne Q 132 [vR 19, vI v1, vR 7] [vI x] gg) : EV d mX2_tellOne Q 128 [vR 19, vI v1, vR 7] [vI vs4, vI vs3, vI vs2, vI vs1, vR 7] g := by
  refine wp_iadd dX2_tellOne_128 ?_
  exact wp_callvI (As := [vI vs1, vI vs2, vI (w32 (vs3 + vs4))]) dX2_tellOne_129 ml_2_62 (by decide) rfl L_7 (by decide) rfl (Nat.le_of_ble_eq_true rfl) rfl (Nat.le_refl _) (Nat.le_refl _) hc k
theorem b_X2_tellOne_132 {d : Nat} {Q : Option pV → pG → Prop} {g : pG} {v1 vs0 : Int} (h1 : vs0 = 0 ∨ vs0 = 1) (hq : Q (some (vI vs0)) g) : EV d mX2_tellOne Q 132 [vR 19, vI v1, vR 7] [vI vs0] g := by
  exact wp_zret dX2_tellOne_132 rfl h1 hq
theorem b_X2_tellOne_133 {d : Nat} {Q : Option pV → pG → Prop} {g : pG} {v1 : Int} {R : Int → pG → Prop} (hc : CT d mX2_digit [vR 19, vI (w32 (v1 + 1))] g (qI R)) (k : ∀ (x : Int) (gg : pG), R x gg → EV d mX2_tellOne Q 142 [vR 19, vI v1, vR 7] [vI x, vI 0, vR 7] gg) : EV d mX2_tellOne Q 133 [vR 19, vI v1, vR 7] [] g := by
  refine wp_aload_n dX2_tellOne_133 rfl rfl ?_
  refine wp_iconst dX2_tellOne_134 kc_0 ?_
  refine wp_aload_n dX2_tellOne_135 rfl rfl ?_
  refine wp_iload_n dX2_tellOne_136 rfl ?_
  refine wp_iconst dX2_tellOne_137 kc_1 ?_
  refine wp_iadd dX2_tellOne_138 ?_
  exact wp_callvI (As := [vI (w32 (v1 + 1))]) dX2_tellOne_139 ml_2_59 (by decide) rfl L_19 (by decide) rfl (Nat.le_of_ble_eq_true rfl) rfl (Nat.le_refl _) (Nat.le_refl _) hc k
theorem b_X2_tellOne_142 {d : Nat} {Q : Option pV → pG → Prop} {g : pG} {v1 vs1 vs2 : Int} {R : Int → pG → Prop} (hc : CT d mX5_change [vR 7, vI vs1, vI vs2] g (qI R)) (k : ∀ (x : Int) (gg : pG), R x gg → EV d mX2_tellOne Q 145 [vR 19, vI v1, vR 7] [vI x] gg) : EV d mX2_tellOne Q 142 [vR 19, vI v1, vR 7] [vI vs2, vI vs1, vR 7] g := by
  exact wp_callvI (As := [vI vs1, vI vs2]) dX2_tellOne_142 ml_2_68 (by decide) rfl L_7 (by decide) rfl (Nat.le_of_ble_eq_true rfl) rfl (Nat.le_refl _) (Nat.le_refl _) hc k
theorem b_X2_tellOne_145 {d : Nat} {Q : Option pV → pG → Prop} {g : pG} {v1 vs0 : Int} (h1 : vs0 = 0 ∨ vs0 = 1) (hq : Q (some (vI vs0)) g) : EV d mX2_tellOne Q 145 [vR 19, vI v1, vR 7] [vI vs0] g := by
  exact wp_zret dX2_tellOne_145 rfl h1 hq
theorem b_X2_tellOne_146 {d : Nat} {Q : Option pV → pG → Prop} {g : pG} {v1 : Int} {R : Int → pG → Prop} (hc : CT d mX2_digit [vR 19, vI (w32 (v1 + 1))] g (qI R)) (k : ∀ (x : Int) (gg : pG), R x gg → EV d mX2_tellOne Q 154 [vR 19, vI v1, vR 7] [vI x, vR 7] gg) : EV d mX2_tellOne Q 146 [vR 19, vI v1, vR 7] [] g := by
  refine wp_aload_n dX2_tellOne_146 rfl rfl ?_
  refine wp_aload_n dX2_tellOne_147 rfl rfl ?_
  refine wp_iload_n dX2_tellOne_148 rfl ?_
  refine wp_iconst dX2_tellOne_149 kc_1 ?_
  refine wp_iadd dX2_tellOne_150 ?_
  exact wp_callvI (As := [vI (w32 (v1 + 1))]) dX2_tellOne_151 ml_2_59 (by decide) rfl L_19 (by decide) rfl (Nat.le_of_ble_eq_true rfl) rfl (Nat.le_refl _) (Nat.le_refl _) hc k
theorem b_X2_tellOne_154 {d : Nat} {Q : Option pV → pG → Prop} {g : pG} {v1 vs1 : Int} {R : Int → pG → Prop} (hc : CT d mX2_sign [vR 19, vI (w32 (v1 + 2))] g (qI R)) (k : ∀ (x : Int) (gg : pG), R x gg → EV d mX2_tellOne Q 161 [vR 19, vI v1, vR 7] [vI x, vI vs1, vR 7] gg) : EV d mX2_tellOne Q 154 [vR 19, vI v1, vR 7] [vI vs1, vR 7] g := by
  refine wp_aload_n dX2_tellOne_154 rfl rfl ?_
  refine wp_iload_n dX2_tellOne_155 rfl ?_
  refine wp_iconst dX2_tellOne_156 kc_2 ?_
  refine wp_iadd dX2_tellOne_157 ?_
  exact wp_callvI (As := [vI (w32 (v1 + 2))]) dX2_tellOne_158 ml_2_19 (by decide) rfl L_19 (by decide) rfl (Nat.le_of_ble_eq_true rfl) rfl (Nat.le_refl _) (Nat.le_refl _) hc k
theorem b_X2_tellOne_161 {d : Nat} {Q : Option pV → pG → Prop} {g : pG} {v1 vs1 vs2 : Int} (k1 : (vs2 ≠ 45) → EV d mX2_tellOne Q 177 [vR 19, vI v1, vR 7] [vI vs1, vR 7] g) (k2 : ¬ (vs2 ≠ 45) → EV d mX2_tellOne Q 166 [vR 19, vI v1, vR 7] [vI vs1, vR 7] g) : EV d mX2_tellOne Q 161 [vR 19, vI v1, vR 7] [vI vs2, vI vs1, vR 7] g := by
  refine wp_bipush dX2_tellOne_161 kb_45 kc_45 ?_
  exact wp_icmp_ne (tgt := 177) dX2_tellOne_163 rfl k1 k2
theorem b_X2_tellOne_166 {d : Nat} {Q : Option pV → pG → Prop} {g : pG} {v1 vs1 : Int} {R : Int → pG → Prop} (hc : CT d mX2_digit [vR 19, vI (w32 (v1 + 3))] g (qI R)) (k : ∀ (x : Int) (gg : pG), R x gg → EV d mX2_tellOne Q 173 [vR 19, vI v1, vR 7] [vI x, vI vs1, vR 7] gg) : EV d mX2_tellOne Q 166 [vR 19, vI v1, vR 7] [vI vs1, vR 7] g := by
  refine wp_aload_n dX2_tellOne_166 rfl rfl ?_
  refine wp_iload_n dX2_tellOne_167 rfl ?_
  refine wp_iconst dX2_tellOne_168 kc_3 ?_
  refine wp_iadd dX2_tellOne_169 ?_
  exact wp_callvI (As := [vI (w32 (v1 + 3))]) dX2_tellOne_170 ml_2_59 (by decide) rfl L_19 (by decide) rfl (Nat.le_of_ble_eq_true rfl) rfl (Nat.le_refl _) (Nat.le_refl _) hc k
theorem b_X2_tellOne_173 {d : Nat} {Q : Option pV → pG → Prop} {g : pG} {v1 vs1 vs2 : Int} {R : Int → pG → Prop} (hc : CT d mX5_changePoint [vR 7, vI vs1, vI (w32 (-vs2))] g (qI R)) (k : ∀ (x : Int) (gg : pG), R x gg → EV d mX2_tellOne Q 187 [vR 19, vI v1, vR 7] [vI x] gg) : EV d mX2_tellOne Q 173 [vR 19, vI v1, vR 7] [vI vs2, vI vs1, vR 7] g := by
  refine wp_ineg dX2_tellOne_173 ?_
  refine wp_goto (tgt := 184) dX2_tellOne_174 rfl ?_
  exact wp_callvI (As := [vI vs1, vI (w32 (-vs2))]) dX2_tellOne_184 ml_2_71 (by decide) rfl L_7 (by decide) rfl (Nat.le_of_ble_eq_true rfl) rfl (Nat.le_refl _) (Nat.le_refl _) hc k
theorem b_X2_tellOne_177 {d : Nat} {Q : Option pV → pG → Prop} {g : pG} {v1 vs1 : Int} {R : Int → pG → Prop} (hc : CT d mX2_digit [vR 19, vI (w32 (v1 + 3))] g (qI R)) (k : ∀ (x : Int) (gg : pG), R x gg → EV d mX2_tellOne Q 184 [vR 19, vI v1, vR 7] [vI x, vI vs1, vR 7] gg) : EV d mX2_tellOne Q 177 [vR 19, vI v1, vR 7] [vI vs1, vR 7] g := by
  refine wp_aload_n dX2_tellOne_177 rfl rfl ?_
  refine wp_iload_n dX2_tellOne_178 rfl ?_
  refine wp_iconst dX2_tellOne_179 kc_3 ?_
  refine wp_iadd dX2_tellOne_180 ?_
  exact wp_callvI (As := [vI (w32 (v1 + 3))]) dX2_tellOne_181 ml_2_59 (by decide) rfl L_19 (by decide) rfl (Nat.le_of_ble_eq_true rfl) rfl (Nat.le_refl _) (Nat.le_refl _) hc k
theorem b_X2_tellOne_184 {d : Nat} {Q : Option pV → pG → Prop} {g : pG} {v1 vs1 vs2 : Int} {R : Int → pG → Prop} (hc : CT d mX5_changePoint [vR 7, vI vs1, vI vs2] g (qI R)) (k : ∀ (x : Int) (gg : pG), R x gg → EV d mX2_tellOne Q 187 [vR 19, vI v1, vR 7] [vI x] gg) : EV d mX2_tellOne Q 184 [vR 19, vI v1, vR 7] [vI vs2, vI vs1, vR 7] g := by
  exact wp_callvI (As := [vI vs1, vI vs2]) dX2_tellOne_184 ml_2_71 (by decide) rfl L_7 (by decide) rfl (Nat.le_of_ble_eq_true rfl) rfl (Nat.le_refl _) (Nat.le_refl _) hc k
theorem b_X2_tellOne_187 {d : Nat} {Q : Option pV → pG → Prop} {g : pG} {v1 vs0 : Int} (h1 : vs0 = 0 ∨ vs0 = 1) (hq : Q (some (vI vs0)) g) : EV d mX2_tellOne Q 187 [vR 19, vI v1, vR 7] [vI vs0] g := by
  exact wp_zret dX2_tellOne_187 rfl h1 hq
theorem b_X2_tellOne_188 {d : Nat} {Q : Option pV → pG → Prop} {g : pG} {v1 : Int} {R : Int → pG → Prop} (hc : CT d mX2_digit [vR 19, vI (w32 (v1 + 1))] g (qI R)) (k : ∀ (x : Int) (gg : pG), R x gg → EV d mX2_tellOne Q 199 [vR 19, vI v1, vR 7] [vI x, vI 100, vI 1, vR 7] gg) : EV d mX2_tellOne Q 188 [vR 19, vI v1, vR 7] [] g := by
  refine wp_aload_n dX2_tellOne_188 rfl rfl ?_
  refine wp_iconst dX2_tellOne_189 kc_1 ?_
  refine wp_bipush dX2_tellOne_190 kb_100 kc_100 ?_
  refine wp_aload_n dX2_tellOne_192 rfl rfl ?_
  refine wp_iload_n dX2_tellOne_193 rfl ?_
  refine wp_iconst dX2_tellOne_194 kc_1 ?_
  refine wp_iadd dX2_tellOne_195 ?_
  exact wp_callvI (As := [vI (w32 (v1 + 1))]) dX2_tellOne_196 ml_2_59 (by decide) rfl L_19 (by decide) rfl (Nat.le_of_ble_eq_true rfl) rfl (Nat.le_refl _) (Nat.le_refl _) hc k
theorem b_X2_tellOne_199 {d : Nat} {Q : Option pV → pG → Prop} {g : pG} {v1 vs1 vs2 vs3 : Int} {R : Int → pG → Prop} (hc : CT d mX2_digit [vR 19, vI (w32 (v1 + 2))] g (qI R)) (k : ∀ (x : Int) (gg : pG), R x gg → EV d mX2_tellOne Q 209 [vR 19, vI v1, vR 7] [vI x, vI 10, vI (w32 (vs2 * vs3)), vI vs1, vR 7] gg) : EV d mX2_tellOne Q 199 [vR 19, vI v1, vR 7] [vI vs3, vI vs2, vI vs1, vR 7] g := by
  refine wp_imul dX2_tellOne_199 ?_
  refine wp_bipush dX2_tellOne_200 kb_10 kc_10 ?_
  refine wp_aload_n dX2_tellOne_202 rfl rfl ?_
  refine wp_iload_n dX2_tellOne_203 rfl ?_
  refine wp_iconst dX2_tellOne_204 kc_2 ?_
  refine wp_iadd dX2_tellOne_205 ?_
  exact wp_callvI (As := [vI (w32 (v1 + 2))]) dX2_tellOne_206 ml_2_59 (by decide) rfl L_19 (by decide) rfl (Nat.le_of_ble_eq_true rfl) rfl (Nat.le_refl _) (Nat.le_refl _) hc k
theorem b_X2_tellOne_209 {d : Nat} {Q : Option pV → pG → Prop} {g : pG} {v1 vs1 vs2 vs3 vs4 : Int} {R : Int → pG → Prop} (hc : CT d mX2_digit [vR 19, vI (w32 (v1 + 3))] g (qI R)) (k : ∀ (x : Int) (gg : pG), R x gg → EV d mX2_tellOne Q 218 [vR 19, vI v1, vR 7] [vI x, vI (w32 (vs2 + (w32 (vs3 * vs4)))), vI vs1, vR 7] gg) : EV d mX2_tellOne Q 209 [vR 19, vI v1, vR 7] [vI vs4, vI vs3, vI vs2, vI vs1, vR 7] g := by
  refine wp_imul dX2_tellOne_209 ?_
  refine wp_iadd dX2_tellOne_210 ?_
  refine wp_aload_n dX2_tellOne_211 rfl rfl ?_
  refine wp_iload_n dX2_tellOne_212 rfl ?_
  refine wp_iconst dX2_tellOne_213 kc_3 ?_
  refine wp_iadd dX2_tellOne_214 ?_
  exact wp_callvI (As := [vI (w32 (v1 + 3))]) dX2_tellOne_215 ml_2_59 (by decide) rfl L_19 (by decide) rfl (Nat.le_of_ble_eq_true rfl) rfl (Nat.le_refl _) (Nat.le_refl _) hc k
theorem b_X2_tellOne_218 {d : Nat} {Q : Option pV → pG → Prop} {g : pG} {v1 vs1 vs2 vs3 : Int} {R : Int → pG → Prop} (hc : CT d mX5_change [vR 7, vI vs1, vI (w32 (vs2 + vs3))] g (qI R)) (k : ∀ (x : Int) (gg : pG), R x gg → EV d mX2_tellOne Q 222 [vR 19, vI v1, vR 7] [vI x] gg) : EV d mX2_tellOne Q 218 [vR 19, vI v1, vR 7] [vI vs3, vI vs2, vI vs1, vR 7] g := by
  refine wp_iadd dX2_tellOne_218 ?_
  exact wp_callvI (As := [vI vs1, vI (w32 (vs2 + vs3))]) dX2_tellOne_219 ml_2_68 (by decide) rfl L_7 (by decide) rfl (Nat.le_of_ble_eq_true rfl) rfl (Nat.le_refl _) (Nat.le_refl _) hc k
theorem b_X2_tellOne_222 {d : Nat} {Q : Option pV → pG → Prop} {g : pG} {v1 vs0 : Int} (h1 : vs0 = 0 ∨ vs0 = 1) (hq : Q (some (vI vs0)) g) : EV d mX2_tellOne Q 222 [vR 19, vI v1, vR 7] [vI vs0] g := by
  exact wp_zret dX2_tellOne_222 rfl h1 hq
theorem b_X2_tellOne_223 {d : Nat} {Q : Option pV → pG → Prop} {g : pG} {v1 : Int} {R : Int → pG → Prop} (hc : CT d mX2_digit [vR 19, vI (w32 (v1 + 1))] g (qI R)) (k : ∀ (x : Int) (gg : pG), R x gg → EV d mX2_tellOne Q 232 [vR 19, vI v1, vR 7] [vI x, vI 2, vR 7] gg) : EV d mX2_tellOne Q 223 [vR 19, vI v1, vR 7] [] g := by
  refine wp_aload_n dX2_tellOne_223 rfl rfl ?_
  refine wp_iconst dX2_tellOne_224 kc_2 ?_
  refine wp_aload_n dX2_tellOne_225 rfl rfl ?_
  refine wp_iload_n dX2_tellOne_226 rfl ?_
  refine wp_iconst dX2_tellOne_227 kc_1 ?_
  refine wp_iadd dX2_tellOne_228 ?_
  exact wp_callvI (As := [vI (w32 (v1 + 1))]) dX2_tellOne_229 ml_2_59 (by decide) rfl L_19 (by decide) rfl (Nat.le_of_ble_eq_true rfl) rfl (Nat.le_refl _) (Nat.le_refl _) hc k
theorem b_X2_tellOne_232 {d : Nat} {Q : Option pV → pG → Prop} {g : pG} {v1 vs1 vs2 : Int} {R : Int → pG → Prop} (hc : CT d mX5_change [vR 7, vI vs1, vI vs2] g (qI R)) (k : ∀ (x : Int) (gg : pG), R x gg → EV d mX2_tellOne Q 235 [vR 19, vI v1, vR 7] [vI x] gg) : EV d mX2_tellOne Q 232 [vR 19, vI v1, vR 7] [vI vs2, vI vs1, vR 7] g := by
  exact wp_callvI (As := [vI vs1, vI vs2]) dX2_tellOne_232 ml_2_68 (by decide) rfl L_7 (by decide) rfl (Nat.le_of_ble_eq_true rfl) rfl (Nat.le_refl _) (Nat.le_refl _) hc k
theorem b_X2_tellOne_235 {d : Nat} {Q : Option pV → pG → Prop} {g : pG} {v1 vs0 : Int} (h1 : vs0 = 0 ∨ vs0 = 1) (hq : Q (some (vI vs0)) g) : EV d mX2_tellOne Q 235 [vR 19, vI v1, vR 7] [vI vs0] g := by
  exact wp_zret dX2_tellOne_235 rfl h1 hq
theorem b_X2_tellOne_236 {d : Nat} {Q : Option pV → pG → Prop} {g : pG} {v1 : Int} {R : Int → pG → Prop} (hc : CT d mX5_loseLowest [vR 7] g (qI R)) (k : ∀ (x : Int) (gg : pG), R x gg → EV d mX2_tellOne Q 240 [vR 19, vI v1, vR 7] [vI x] gg) : EV d mX2_tellOne Q 236 [vR 19, vI v1, vR 7] [] g := by
  refine wp_aload_n dX2_tellOne_236 rfl rfl ?_
  exact wp_callvI (As := []) dX2_tellOne_237 ml_2_74 (by decide) rfl L_7 (by decide) rfl (Nat.le_of_ble_eq_true rfl) rfl (Nat.le_refl _) (Nat.le_refl _) hc k
theorem b_X2_tellOne_240 {d : Nat} {Q : Option pV → pG → Prop} {g : pG} {v1 vs0 : Int} (h1 : vs0 = 0 ∨ vs0 = 1) (hq : Q (some (vI vs0)) g) : EV d mX2_tellOne Q 240 [vR 19, vI v1, vR 7] [vI vs0] g := by
  exact wp_zret dX2_tellOne_240 rfl h1 hq
theorem b_X2_tellOne_241 {d : Nat} {Q : Option pV → pG → Prop} {g : pG} {v1 : Int} (hq : Q (some (vI 0)) g) : EV d mX2_tellOne Q 241 [vR 19, vI v1, vR 7] [] g := by
  refine wp_iconst dX2_tellOne_241 kc_0 ?_
  exact wp_zret dX2_tellOne_242 rfl (Or.inl rfl) hq
theorem b_X2_digit_0 {d : Nat} {Q : Option pV → pG → Prop} {g : pG} {v1 : Int} {R : Int → pG → Prop} (hc : CT d mX2_sign [vR 19, vI v1] g (qI R)) (k : ∀ (x : Int) (gg : pG), R x gg → EV d mX2_digit Q 5 [vR 19, vI v1] [vI x] gg) : EV d mX2_digit Q 0 [vR 19, vI v1] [] g := by
  refine wp_aload_n dX2_digit_0 rfl rfl ?_
  refine wp_iload_n dX2_digit_1 rfl ?_
  exact wp_callvI (As := [vI v1]) dX2_digit_2 ml_2_19 (by decide) rfl L_19 (by decide) rfl (Nat.le_of_ble_eq_true rfl) rfl (Nat.le_refl _) (Nat.le_refl _) hc k
theorem b_X2_digit_5 {d : Nat} {Q : Option pV → pG → Prop} {g : pG} {v1 vs0 : Int} (hq : Q (some (vI (w32 (vs0 - 48)))) g) : EV d mX2_digit Q 5 [vR 19, vI v1] [vI vs0] g := by
  refine wp_bipush dX2_digit_5 kb_48 kc_48 ?_
  refine wp_isub dX2_digit_7 ?_
  exact wp_iret dX2_digit_8 rfl hq
theorem b_X5_copyFrom_0 {d : Nat} {Q : Option pV → pG → Prop} {g : pG} {r s : Nat} (hr : isSt r) (hs : isSt s) {R : pG → Prop} (hc : CT d mX3_copyFrom [vR (s + 4), vR (r + 4)] (cset (cset (cset (cset g (s + 1) (fcp (g (r + 1)) (g (s + 1)) 0 0 7)) (s + 2) (fcp ((cset g (s + 1) (fcp (g (r + 1)) (g (s + 1)) 0 0 7)) (r + 2)) ((cset g (s + 1) (fcp (g (r + 1)) (g (s + 1)) 0 0 7)) (s + 2)) 0 0 7)) (s + 3) (fcp ((cset (cset g (s + 1) (fcp (g (r + 1)) (g (s + 1)) 0 0 7)) (s + 2) (fcp ((cset g (s + 1) (fcp (g (r + 1)) (g (s + 1)) 0 0 7)) (r + 2)) ((cset g (s + 1) (fcp (g (r + 1)) (g (s + 1)) 0 0 7)) (s + 2)) 0 0 7)) (r + 3)) ((cset (cset g (s + 1) (fcp (g (r + 1)) (g (s + 1)) 0 0 7)) (s + 2) (fcp ((cset g (s + 1) (fcp (g (r + 1)) (g (s + 1)) 0 0 7)) (r + 2)) ((cset g (s + 1) (fcp (g (r + 1)) (g (s + 1)) 0 0 7)) (s + 2)) 0 0 7)) (s + 3)) 0 0 7)) s (fup ((cset (cset (cset g (s + 1) (fcp (g (r + 1)) (g (s + 1)) 0 0 7)) (s + 2) (fcp ((cset g (s + 1) (fcp (g (r + 1)) (g (s + 1)) 0 0 7)) (r + 2)) ((cset g (s + 1) (fcp (g (r + 1)) (g (s + 1)) 0 0 7)) (s + 2)) 0 0 7)) (s + 3) (fcp ((cset (cset g (s + 1) (fcp (g (r + 1)) (g (s + 1)) 0 0 7)) (s + 2) (fcp ((cset g (s + 1) (fcp (g (r + 1)) (g (s + 1)) 0 0 7)) (r + 2)) ((cset g (s + 1) (fcp (g (r + 1)) (g (s + 1)) 0 0 7)) (s + 2)) 0 0 7)) (r + 3)) ((cset (cset g (s + 1) (fcp (g (r + 1)) (g (s + 1)) 0 0 7)) (s + 2) (fcp ((cset g (s + 1) (fcp (g (r + 1)) (g (s + 1)) 0 0 7)) (r + 2)) ((cset g (s + 1) (fcp (g (r + 1)) (g (s + 1)) 0 0 7)) (s + 2)) 0 0 7)) (s + 3)) 0 0 7)) s) 3 (((cset (cset (cset g (s + 1) (fcp (g (r + 1)) (g (s + 1)) 0 0 7)) (s + 2) (fcp ((cset g (s + 1) (fcp (g (r + 1)) (g (s + 1)) 0 0 7)) (r + 2)) ((cset g (s + 1) (fcp (g (r + 1)) (g (s + 1)) 0 0 7)) (s + 2)) 0 0 7)) (s + 3) (fcp ((cset (cset g (s + 1) (fcp (g (r + 1)) (g (s + 1)) 0 0 7)) (s + 2) (fcp ((cset g (s + 1) (fcp (g (r + 1)) (g (s + 1)) 0 0 7)) (r + 2)) ((cset g (s + 1) (fcp (g (r + 1)) (g (s + 1)) 0 0 7)) (s + 2)) 0 0 7)) (r + 3)) ((cset (cset g (s + 1) (fcp (g (r + 1)) (g (s + 1)) 0 0 7)) (s + 2) (fcp ((cset g (s + 1) (fcp (g (r + 1)) (g (s + 1)) 0 0 7)) (r + 2)) ((cset g (s + 1) (fcp (g (r + 1)) (g (s + 1)) 0 0 7)) (s + 2)) 0 0 7)) (s + 3)) 0 0 7)) r) 3))) (qV R)) (k : ∀ gg : pG, R gg → EV d mX5_copyFrom Q 64 [vR s, vR r] [] gg) : EV d mX5_copyFrom Q 0 [vR s, vR r] [] g := by
  refine wp_aload_n dX5_copyFrom_0 rfl rfl ?_
  refine wp_get (v := vR (r + 1)) dX5_copyFrom_1 fl_5_9 hr.1 rfl ?_
  refine wp_iconst dX5_copyFrom_4 kc_0 ?_
  refine wp_aload_n dX5_copyFrom_5 rfl rfl ?_
  refine wp_get (v := vR (s + 1)) dX5_copyFrom_6 fl_5_9 hs.1 rfl ?_
  refine wp_iconst dX5_copyFrom_9 kc_0 ?_
  refine wp_bipush dX5_copyFrom_10 kb_7 kc_7 ?_
  refine wp_acopy (n0 := 7) (n1 := 7) dX5_copyFrom_12 al_5_38 hr.2.1 hs.2.1 (by decide) (by decide) (by decide) (by decide) (by decide) (Nat.le_of_ble_eq_true rfl) ?_
  refine wp_aload_n dX5_copyFrom_15 rfl rfl ?_
  refine wp_get (v := vR (r + 2)) dX5_copyFrom_16 fl_5_15 hr.1 rfl ?_
  refine wp_iconst dX5_copyFrom_19 kc_0 ?_
  refine wp_aload_n dX5_copyFrom_20 rfl rfl ?_
  refine wp_get (v := vR (s + 2)) dX5_copyFrom_21 fl_5_15 hs.1 rfl ?_
  refine wp_iconst dX5_copyFrom_24 kc_0 ?_
  refine wp_bipush dX5_copyFrom_25 kb_7 kc_7 ?_
  refine wp_acopy (n0 := 7) (n1 := 7) dX5_copyFrom_27 al_5_38 hr.2.2.1 hs.2.2.1 (by decide) (by decide) (by decide) (by decide) (by decide) (Nat.le_of_ble_eq_true rfl) ?_
  refine wp_aload_n dX5_copyFrom_30 rfl rfl ?_
  refine wp_get (v := vR (r + 3)) dX5_copyFrom_31 fl_5_18 hr.1 rfl ?_
  refine wp_iconst dX5_copyFrom_34 kc_0 ?_
  refine wp_aload_n dX5_copyFrom_35 rfl rfl ?_
  refine wp_get (v := vR (s + 3)) dX5_copyFrom_36 fl_5_18 hs.1 rfl ?_
  refine wp_iconst dX5_copyFrom_39 kc_0 ?_
  refine wp_bipush dX5_copyFrom_40 kb_7 kc_7 ?_
  refine wp_acopy (n0 := 7) (n1 := 7) dX5_copyFrom_42 al_5_38 hr.2.2.2.1 hs.2.2.2.1 (by decide) (by decide) (by decide) (by decide) (by decide) (Nat.le_of_ble_eq_true rfl) ?_
  refine wp_aload_n dX5_copyFrom_45 rfl rfl ?_
  refine wp_aload_n dX5_copyFrom_46 rfl rfl ?_
  refine wp_get (v := vI (((cset (cset (cset g (s + 1) (fcp (g (r + 1)) (g (s + 1)) 0 0 7)) (s + 2) (fcp ((cset g (s + 1) (fcp (g (r + 1)) (g (s + 1)) 0 0 7)) (r + 2)) ((cset g (s + 1) (fcp (g (r + 1)) (g (s + 1)) 0 0 7)) (s + 2)) 0 0 7)) (s + 3) (fcp ((cset (cset g (s + 1) (fcp (g (r + 1)) (g (s + 1)) 0 0 7)) (s + 2) (fcp ((cset g (s + 1) (fcp (g (r + 1)) (g (s + 1)) 0 0 7)) (r + 2)) ((cset g (s + 1) (fcp (g (r + 1)) (g (s + 1)) 0 0 7)) (s + 2)) 0 0 7)) (r + 3)) ((cset (cset g (s + 1) (fcp (g (r + 1)) (g (s + 1)) 0 0 7)) (s + 2) (fcp ((cset g (s + 1) (fcp (g (r + 1)) (g (s + 1)) 0 0 7)) (r + 2)) ((cset g (s + 1) (fcp (g (r + 1)) (g (s + 1)) 0 0 7)) (s + 2)) 0 0 7)) (s + 3)) 0 0 7)) r) 3)) dX5_copyFrom_47 fl_5_21 hr.1 rfl ?_
  refine wp_putI dX5_copyFrom_50 fl_5_21 hs.1 rfl rfl ?_
  refine wp_aload_n dX5_copyFrom_53 rfl rfl ?_
  refine wp_get (v := vR (s + 4)) dX5_copyFrom_54 fl_5_28 hs.1 rfl ?_
  refine wp_aload_n dX5_copyFrom_57 rfl rfl ?_
  refine wp_get (v := vR (r + 4)) dX5_copyFrom_58 fl_5_28 hr.1 rfl ?_
  exact wp_callvV (As := [vR (r + 4)]) dX5_copyFrom_61 ml_5_44 (by decide) rfl hs.2.2.2.2.1 (by decide) rfl (Nat.le_of_ble_eq_true rfl) rfl (Nat.le_refl _) (Nat.le_refl _) hc k
theorem b_X5_copyFrom_64 {d : Nat} {Q : Option pV → pG → Prop} {g : pG} {r s : Nat} (hr : isSt r) (hs : isSt s) (hq : Q none (cset (cset g s (fup (g s) 5 ((g r) 5))) s (fup ((cset g s (fup (g s) 5 ((g r) 5))) s) 6 (((cset g s (fup (g s) 5 ((g r) 5))) r) 6)))) : EV d mX5_copyFrom Q 64 [vR s, vR r] [] g := by
  refine wp_aload_n dX5_copyFrom_64 rfl rfl ?_
  refine wp_aload_n dX5_copyFrom_65 rfl rfl ?_
  refine wp_get (v := vI ((g r) 5)) dX5_copyFrom_66 fl_5_32 hr.1 rfl ?_
  refine wp_putI dX5_copyFrom_69 fl_5_32 hs.1 rfl rfl ?_
  refine wp_aload_n dX5_copyFrom_72 rfl rfl ?_
  refine wp_aload_n dX5_copyFrom_73 rfl rfl ?_
  refine wp_get (v := vI (((cset g s (fup (g s) 5 ((g r) 5))) r) 6)) dX5_copyFrom_74 fl_5_35 hr.1 rfl ?_
  refine wp_putI dX5_copyFrom_77 fl_5_35 hs.1 rfl rfl ?_
  exact wp_vret dX5_copyFrom_80 rfl hq
theorem b_X5_addLowest_0 {d : Nat} {Q : Option pV → pG → Prop} {g : pG} {s : Nat} {v1 v2 v3 : Int} (hs : isSt s) (k1 : (7 ≤ (g s) 3) → EV d mX5_addLowest Q 16 [vR s, vI v1, vI v2, vI v3] [] g) (k2 : ¬ (7 ≤ (g s) 3) → EV d mX5_addLowest Q 9 [vR s, vI v1, vI v2, vI v3] [] g) : EV d mX5_addLowest Q 0 [vR s, vI v1, vI v2, vI v3] [] g := by
  refine wp_aload_n dX5_addLowest_0 rfl rfl ?_
  refine wp_get (v := vI ((g s) 3)) dX5_addLowest_1 fl_5_21 hs.1 rfl ?_
  refine wp_bipush dX5_addLowest_4 kb_7 kc_7 ?_
  exact wp_icmp_ge (tgt := 16) dX5_addLowest_6 rfl k1 k2
theorem b_X5_addLowest_9 {d : Nat} {Q : Option pV → pG → Prop} {g : pG} {s : Nat} {v1 v2 v3 : Int} (hs : isSt s) {R : Int → pG → Prop} (hc : CT d mX7_isKind [vI v1] g (qI R)) (k : ∀ (x : Int) (gg : pG), R x gg → EV d mX5_addLowest Q 13 [vR s, vI v1, vI v2, vI v3] [vI x] gg) : EV d mX5_addLowest Q 9 [vR s, vI v1, vI v2, vI v3] [] g := by
  refine wp_iload_n dX5_addLowest_9 rfl ?_
  exact wp_callsI (As := [vI v1]) dX5_addLowest_10 ml_5_52 (Or.inr rfl) rfl (Nat.le_of_ble_eq_true rfl) rfl (Nat.le_refl _) (Nat.le_refl _) hc k
theorem b_X5_addLowest_13 {d : Nat} {Q : Option pV → pG → Prop} {g : pG} {s : Nat} {v1 v2 v3 vs0 : Int} (hs : isSt s) (k1 : (vs0 ≠ 0) → EV d mX5_addLowest Q 18 [vR s, vI v1, vI v2, vI v3] [] g) (k2 : ¬ (vs0 ≠ 0) → EV d mX5_addLowest Q 16 [vR s, vI v1, vI v2, vI v3] [] g) : EV d mX5_addLowest Q 13 [vR s, vI v1, vI v2, vI v3] [vI vs0] g := by
  exact wp_if_ne (tgt := 18) dX5_addLowest_13 rfl k1 k2
theorem b_X5_addLowest_16 {d : Nat} {Q : Option pV → pG → Prop} {g : pG} {s : Nat} {v1 v2 v3 : Int} (hs : isSt s) (hq : Q (some (vI 0)) g) : EV d mX5_addLowest Q 16 [vR s, vI v1, vI v2, vI v3] [] g := by
  refine wp_iconst dX5_addLowest_16 kc_0 ?_
  exact wp_zret dX5_addLowest_17 rfl (Or.inl rfl) hq
theorem b_X5_addLowest_18 {d : Nat} {Q : Option pV → pG → Prop} {g : pG} {s : Nat} {v1 v2 v3 : Int} (hs : isSt s) {R : Int → pG → Prop} (hc : CT d mX7_outside [vI v2, vI 0, vI 9] g (qI R)) (k : ∀ (x : Int) (gg : pG), R x gg → EV d mX5_addLowest Q 25 [vR s, vI v1, vI v2, vI v3] [vI x] gg) : EV d mX5_addLowest Q 18 [vR s, vI v1, vI v2, vI v3] [] g := by
  refine wp_iload_n dX5_addLowest_18 rfl ?_
  refine wp_iconst dX5_addLowest_19 kc_0 ?_
  refine wp_bipush dX5_addLowest_20 kb_9 kc_9 ?_
  exact wp_callsI (As := [vI v2, vI 0, vI 9]) dX5_addLowest_22 ml_5_55 (Or.inr rfl) rfl (Nat.le_of_ble_eq_true rfl) rfl (Nat.le_refl _) (Nat.le_refl _) hc k
theorem b_X5_addLowest_25 {d : Nat} {Q : Option pV → pG → Prop} {g : pG} {s : Nat} {v1 v2 v3 vs0 : Int} (hs : isSt s) (k1 : (vs0 ≠ 0) → EV d mX5_addLowest Q 38 [vR s, vI v1, vI v2, vI v3] [] g) (k2 : ¬ (vs0 ≠ 0) → EV d mX5_addLowest Q 28 [vR s, vI v1, vI v2, vI v3] [] g) : EV d mX5_addLowest Q 25 [vR s, vI v1, vI v2, vI v3] [vI vs0] g := by
  exact wp_if_ne (tgt := 38) dX5_addLowest_25 rfl k1 k2
theorem b_X5_addLowest_28 {d : Nat} {Q : Option pV → pG → Prop} {g : pG} {s : Nat} {v1 v2 v3 : Int} (hs : isSt s) {R : Int → pG → Prop} (hc : CT d mX7_outside [vI v3, vI 0, vI 99] g (qI R)) (k : ∀ (x : Int) (gg : pG), R x gg → EV d mX5_addLowest Q 35 [vR s, vI v1, vI v2, vI v3] [vI x] gg) : EV d mX5_addLowest Q 28 [vR s, vI v1, vI v2, vI v3] [] g := by
  refine wp_iload_n dX5_addLowest_28 rfl ?_
  refine wp_iconst dX5_addLowest_29 kc_0 ?_
  refine wp_bipush dX5_addLowest_30 kb_99 kc_99 ?_
  exact wp_callsI (As := [vI v3, vI 0, vI 99]) dX5_addLowest_32 ml_5_55 (Or.inr rfl) rfl (Nat.le_of_ble_eq_true rfl) rfl (Nat.le_refl _) (Nat.le_refl _) hc k
theorem b_X5_addLowest_35 {d : Nat} {Q : Option pV → pG → Prop} {g : pG} {s : Nat} {v1 v2 v3 vs0 : Int} (hs : isSt s) (k1 : (vs0 = 0) → EV d mX5_addLowest Q 40 [vR s, vI v1, vI v2, vI v3] [] g) (k2 : ¬ (vs0 = 0) → EV d mX5_addLowest Q 38 [vR s, vI v1, vI v2, vI v3] [] g) : EV d mX5_addLowest Q 35 [vR s, vI v1, vI v2, vI v3] [vI vs0] g := by
  exact wp_if_eq (tgt := 40) dX5_addLowest_35 rfl k1 k2
theorem b_X5_addLowest_38 {d : Nat} {Q : Option pV → pG → Prop} {g : pG} {s : Nat} {v1 v2 v3 : Int} (hs : isSt s) (hq : Q (some (vI 0)) g) : EV d mX5_addLowest Q 38 [vR s, vI v1, vI v2, vI v3] [] g := by
  refine wp_iconst dX5_addLowest_38 kc_0 ?_
  exact wp_zret dX5_addLowest_39 rfl (Or.inl rfl) hq
theorem b_X5_addLowest_40 {d : Nat} {Q : Option pV → pG → Prop} {g : pG} {s : Nat} {v1 v2 v3 : Int} (hs : isSt s) (h1 : 0 ≤ (g s) 3) (h2 : (g s) 3 < 7) (h3 : 0 ≤ ((cset g (s + 1) (fup (g (s + 1)) ((g s) 3).toNat v1)) s) 3) (h4 : ((cset g (s + 1) (fup (g (s + 1)) ((g s) 3).toNat v1)) s) 3 < 7) (h5 : 0 ≤ ((cset (cset g (s + 1) (fup (g (s + 1)) ((g s) 3).toNat v1)) (s + 2) (fup ((cset g (s + 1) (fup (g (s + 1)) ((g s) 3).toNat v1)) (s + 2)) (((cset g (s + 1) (fup (g (s + 1)) ((g s) 3).toNat v1)) s) 3).toNat v2)) s) 3) (h6 : ((cset (cset g (s + 1) (fup (g (s + 1)) ((g s) 3).toNat v1)) (s + 2) (fup ((cset g (s + 1) (fup (g (s + 1)) ((g s) 3).toNat v1)) (s + 2)) (((cset g (s + 1) (fup (g (s + 1)) ((g s) 3).toNat v1)) s) 3).toNat v2)) s) 3 < 7) (hq : Q (some (vI 1)) (cset (cset (cset (cset g (s + 1) (fup (g (s + 1)) ((g s) 3).toNat v1)) (s + 2) (fup ((cset g (s + 1) (fup (g (s + 1)) ((g s) 3).toNat v1)) (s + 2)) (((cset g (s + 1) (fup (g (s + 1)) ((g s) 3).toNat v1)) s) 3).toNat v2)) (s + 3) (fup ((cset (cset g (s + 1) (fup (g (s + 1)) ((g s) 3).toNat v1)) (s + 2) (fup ((cset g (s + 1) (fup (g (s + 1)) ((g s) 3).toNat v1)) (s + 2)) (((cset g (s + 1) (fup (g (s + 1)) ((g s) 3).toNat v1)) s) 3).toNat v2)) (s + 3)) (((cset (cset g (s + 1) (fup (g (s + 1)) ((g s) 3).toNat v1)) (s + 2) (fup ((cset g (s + 1) (fup (g (s + 1)) ((g s) 3).toNat v1)) (s + 2)) (((cset g (s + 1) (fup (g (s + 1)) ((g s) 3).toNat v1)) s) 3).toNat v2)) s) 3).toNat v3)) s (fup ((cset (cset (cset g (s + 1) (fup (g (s + 1)) ((g s) 3).toNat v1)) (s + 2) (fup ((cset g (s + 1) (fup (g (s + 1)) ((g s) 3).toNat v1)) (s + 2)) (((cset g (s + 1) (fup (g (s + 1)) ((g s) 3).toNat v1)) s) 3).toNat v2)) (s + 3) (fup ((cset (cset g (s + 1) (fup (g (s + 1)) ((g s) 3).toNat v1)) (s + 2) (fup ((cset g (s + 1) (fup (g (s + 1)) ((g s) 3).toNat v1)) (s + 2)) (((cset g (s + 1) (fup (g (s + 1)) ((g s) 3).toNat v1)) s) 3).toNat v2)) (s + 3)) (((cset (cset g (s + 1) (fup (g (s + 1)) ((g s) 3).toNat v1)) (s + 2) (fup ((cset g (s + 1) (fup (g (s + 1)) ((g s) 3).toNat v1)) (s + 2)) (((cset g (s + 1) (fup (g (s + 1)) ((g s) 3).toNat v1)) s) 3).toNat v2)) s) 3).toNat v3)) s) 3 (w32 ((((cset (cset (cset g (s + 1) (fup (g (s + 1)) ((g s) 3).toNat v1)) (s + 2) (fup ((cset g (s + 1) (fup (g (s + 1)) ((g s) 3).toNat v1)) (s + 2)) (((cset g (s + 1) (fup (g (s + 1)) ((g s) 3).toNat v1)) s) 3).toNat v2)) (s + 3) (fup ((cset (cset g (s + 1) (fup (g (s + 1)) ((g s) 3).toNat v1)) (s + 2) (fup ((cset g (s + 1) (fup (g (s + 1)) ((g s) 3).toNat v1)) (s + 2)) (((cset g (s + 1) (fup (g (s + 1)) ((g s) 3).toNat v1)) s) 3).toNat v2)) (s + 3)) (((cset (cset g (s + 1) (fup (g (s + 1)) ((g s) 3).toNat v1)) (s + 2) (fup ((cset g (s + 1) (fup (g (s + 1)) ((g s) 3).toNat v1)) (s + 2)) (((cset g (s + 1) (fup (g (s + 1)) ((g s) 3).toNat v1)) s) 3).toNat v2)) s) 3).toNat v3)) s) 3) + 1))))) : EV d mX5_addLowest Q 40 [vR s, vI v1, vI v2, vI v3] [] g := by
  refine wp_aload_n dX5_addLowest_40 rfl rfl ?_
  refine wp_get (v := vR (s + 1)) dX5_addLowest_41 fl_5_9 hs.1 rfl ?_
  refine wp_aload_n dX5_addLowest_44 rfl rfl ?_
  refine wp_get (v := vI ((g s) 3)) dX5_addLowest_45 fl_5_21 hs.1 rfl ?_
  refine wp_iload_n dX5_addLowest_48 rfl ?_
  refine wp_iastore dX5_addLowest_49 h1 hs.2.1 h2 ?_
  refine wp_aload_n dX5_addLowest_50 rfl rfl ?_
  refine wp_get (v := vR (s + 2)) dX5_addLowest_51 fl_5_15 hs.1 rfl ?_
  refine wp_aload_n dX5_addLowest_54 rfl rfl ?_
  refine wp_get (v := vI (((cset g (s + 1) (fup (g (s + 1)) ((g s) 3).toNat v1)) s) 3)) dX5_addLowest_55 fl_5_21 hs.1 rfl ?_
  refine wp_iload_n dX5_addLowest_58 rfl ?_
  refine wp_iastore dX5_addLowest_59 h3 hs.2.2.1 h4 ?_
  refine wp_aload_n dX5_addLowest_60 rfl rfl ?_
  refine wp_get (v := vR (s + 3)) dX5_addLowest_61 fl_5_18 hs.1 rfl ?_
  refine wp_aload_n dX5_addLowest_64 rfl rfl ?_
  refine wp_get (v := vI (((cset (cset g (s + 1) (fup (g (s + 1)) ((g s) 3).toNat v1)) (s + 2) (fup ((cset g (s + 1) (fup (g (s + 1)) ((g s) 3).toNat v1)) (s + 2)) (((cset g (s + 1) (fup (g (s + 1)) ((g s) 3).toNat v1)) s) 3).toNat v2)) s) 3)) dX5_addLowest_65 fl_5_21 hs.1 rfl ?_
  refine wp_iload_n dX5_addLowest_68 rfl ?_
  refine wp_iastore dX5_addLowest_69 h5 hs.2.2.2.1 h6 ?_
  refine wp_aload_n dX5_addLowest_70 rfl rfl ?_
  refine wp_dup dX5_addLowest_71 rfl ?_
  refine wp_get (v := vI (((cset (cset (cset g (s + 1) (fup (g (s + 1)) ((g s) 3).toNat v1)) (s + 2) (fup ((cset g (s + 1) (fup (g (s + 1)) ((g s) 3).toNat v1)) (s + 2)) (((cset g (s + 1) (fup (g (s + 1)) ((g s) 3).toNat v1)) s) 3).toNat v2)) (s + 3) (fup ((cset (cset g (s + 1) (fup (g (s + 1)) ((g s) 3).toNat v1)) (s + 2) (fup ((cset g (s + 1) (fup (g (s + 1)) ((g s) 3).toNat v1)) (s + 2)) (((cset g (s + 1) (fup (g (s + 1)) ((g s) 3).toNat v1)) s) 3).toNat v2)) (s + 3)) (((cset (cset g (s + 1) (fup (g (s + 1)) ((g s) 3).toNat v1)) (s + 2) (fup ((cset g (s + 1) (fup (g (s + 1)) ((g s) 3).toNat v1)) (s + 2)) (((cset g (s + 1) (fup (g (s + 1)) ((g s) 3).toNat v1)) s) 3).toNat v2)) s) 3).toNat v3)) s) 3)) dX5_addLowest_72 fl_5_21 hs.1 rfl ?_
  refine wp_iconst dX5_addLowest_75 kc_1 ?_
  refine wp_iadd dX5_addLowest_76 ?_
  refine wp_putI dX5_addLowest_77 fl_5_21 hs.1 rfl rfl ?_
  refine wp_iconst dX5_addLowest_80 kc_1 ?_
  exact wp_zret dX5_addLowest_81 rfl (Or.inr rfl) hq
theorem b_X5_change_0 {d : Nat} {Q : Option pV → pG → Prop} {g : pG} {s : Nat} {v1 v2 : Int} (hs : isSt s) (k0 : v1 = 0 → EV d mX5_change Q 28 [vR s, vI v1, vI v2] [] g) (k1 : v1 = 1 → EV d mX5_change Q 50 [vR s, vI v1, vI v2] [] g) (k2 : v1 = 2 → EV d mX5_change Q 70 [vR s, vI v1, vI v2] [] g) (kd : (v1 ≠ 0 ∧ v1 ≠ 1 ∧ v1 ≠ 2) → EV d mX5_change Q 89 [vR s, vI v1, vI v2] [] g) : EV d mX5_change Q 0 [vR s, vI v1, vI v2] [] g := by
  refine wp_iload_n dX5_change_0 rfl ?_
  refine wp_tsw (x := v1) dX5_change_1 (fun hh => ⟨89, rfl, kd (by omega)⟩) (fun hh hh2 => ?_)
  rcases (show v1 = 0 ∨ v1 = 1 ∨ v1 = 2 by omega) with hq | hq | hq
  · exact ⟨27, 28, by rw [hq]; rfl, rfl, k0 hq⟩
  · exact ⟨49, 50, by rw [hq]; rfl, rfl, k1 hq⟩
  · exact ⟨69, 70, by rw [hq]; rfl, rfl, k2 hq⟩
theorem b_X5_change_28 {d : Nat} {Q : Option pV → pG → Prop} {g : pG} {s : Nat} {v1 v2 : Int} (hs : isSt s) {R : Int → pG → Prop} (hc : CT d mX7_outside [vI v2, vI 1, vI 8] g (qI R)) (k : ∀ (x : Int) (gg : pG), R x gg → EV d mX5_change Q 35 [vR s, vI v1, vI v2] [vI x] gg) : EV d mX5_change Q 28 [vR s, vI v1, vI v2] [] g := by
  refine wp_iload_n dX5_change_28 rfl ?_
  refine wp_iconst dX5_change_29 kc_1 ?_
  refine wp_bipush dX5_change_30 kb_8 kc_8 ?_
  exact wp_callsI (As := [vI v2, vI 1, vI 8]) dX5_change_32 ml_5_55 (Or.inr rfl) rfl (Nat.le_of_ble_eq_true rfl) rfl (Nat.le_refl _) (Nat.le_refl _) hc k
theorem b_X5_change_35 {d : Nat} {Q : Option pV → pG → Prop} {g : pG} {s : Nat} {v1 v2 vs0 : Int} (hs : isSt s) (k1 : (vs0 = 0) → EV d mX5_change Q 40 [vR s, vI v1, vI v2] [] g) (k2 : ¬ (vs0 = 0) → EV d mX5_change Q 38 [vR s, vI v1, vI v2] [] g) : EV d mX5_change Q 35 [vR s, vI v1, vI v2] [vI vs0] g := by
  exact wp_if_eq (tgt := 40) dX5_change_35 rfl k1 k2
theorem b_X5_change_38 {d : Nat} {Q : Option pV → pG → Prop} {g : pG} {s : Nat} {v1 v2 : Int} (hs : isSt s) (hq : Q (some (vI 0)) g) : EV d mX5_change Q 38 [vR s, vI v1, vI v2] [] g := by
  refine wp_iconst dX5_change_38 kc_0 ?_
  exact wp_zret dX5_change_39 rfl (Or.inl rfl) hq
theorem b_X5_change_40 {d : Nat} {Q : Option pV → pG → Prop} {g : pG} {s : Nat} {v1 v2 : Int} (hs : isSt s) {R : pG → Prop} (hc : CT d mX3_resize [vR (s + 4), vI v2] g (qV R)) (k : ∀ gg : pG, R gg → EV d mX5_change Q 48 [vR s, vI v1, vI v2] [] gg) : EV d mX5_change Q 40 [vR s, vI v1, vI v2] [] g := by
  refine wp_aload_n dX5_change_40 rfl rfl ?_
  refine wp_get (v := vR (s + 4)) dX5_change_41 fl_5_28 hs.1 rfl ?_
  refine wp_iload_n dX5_change_44 rfl ?_
  exact wp_callvV (As := [vI v2]) dX5_change_45 ml_5_59 (by decide) rfl hs.2.2.2.2.1 (by decide) rfl (Nat.le_of_ble_eq_true rfl) rfl (Nat.le_refl _) (Nat.le_refl _) hc k
theorem b_X5_change_48 {d : Nat} {Q : Option pV → pG → Prop} {g : pG} {s : Nat} {v1 v2 : Int} (hs : isSt s) (hq : Q (some (vI 1)) g) : EV d mX5_change Q 48 [vR s, vI v1, vI v2] [] g := by
  refine wp_iconst dX5_change_48 kc_1 ?_
  exact wp_zret dX5_change_49 rfl (Or.inr rfl) hq
theorem b_X5_change_50 {d : Nat} {Q : Option pV → pG → Prop} {g : pG} {s : Nat} {v1 v2 : Int} (hs : isSt s) {R : Int → pG → Prop} (hc : CT d mX7_outside [vI v2, vI 0, vI 999] g (qI R)) (k : ∀ (x : Int) (gg : pG), R x gg → EV d mX5_change Q 58 [vR s, vI v1, vI v2] [vI x] gg) : EV d mX5_change Q 50 [vR s, vI v1, vI v2] [] g := by
  refine wp_iload_n dX5_change_50 rfl ?_
  refine wp_iconst dX5_change_51 kc_0 ?_
  refine wp_sipush dX5_change_52 ks_999 kc_999 ?_
  exact wp_callsI (As := [vI v2, vI 0, vI 999]) dX5_change_55 ml_5_55 (Or.inr rfl) rfl (Nat.le_of_ble_eq_true rfl) rfl (Nat.le_refl _) (Nat.le_refl _) hc k
theorem b_X5_change_58 {d : Nat} {Q : Option pV → pG → Prop} {g : pG} {s : Nat} {v1 v2 vs0 : Int} (hs : isSt s) (k1 : (vs0 = 0) → EV d mX5_change Q 63 [vR s, vI v1, vI v2] [] g) (k2 : ¬ (vs0 = 0) → EV d mX5_change Q 61 [vR s, vI v1, vI v2] [] g) : EV d mX5_change Q 58 [vR s, vI v1, vI v2] [vI vs0] g := by
  exact wp_if_eq (tgt := 63) dX5_change_58 rfl k1 k2
theorem b_X5_change_61 {d : Nat} {Q : Option pV → pG → Prop} {g : pG} {s : Nat} {v1 v2 : Int} (hs : isSt s) (hq : Q (some (vI 0)) g) : EV d mX5_change Q 61 [vR s, vI v1, vI v2] [] g := by
  refine wp_iconst dX5_change_61 kc_0 ?_
  exact wp_zret dX5_change_62 rfl (Or.inl rfl) hq
theorem b_X5_change_63 {d : Nat} {Q : Option pV → pG → Prop} {g : pG} {s : Nat} {v1 v2 : Int} (hs : isSt s) (hq : Q (some (vI 1)) (cset g s (fup (g s) 5 v2))) : EV d mX5_change Q 63 [vR s, vI v1, vI v2] [] g := by
  refine wp_aload_n dX5_change_63 rfl rfl ?_
  refine wp_iload_n dX5_change_64 rfl ?_
  refine wp_putI dX5_change_65 fl_5_32 hs.1 rfl rfl ?_
  refine wp_iconst dX5_change_68 kc_1 ?_
  exact wp_zret dX5_change_69 rfl (Or.inr rfl) hq
theorem b_X5_change_70 {d : Nat} {Q : Option pV → pG → Prop} {g : pG} {s : Nat} {v1 v2 : Int} (hs : isSt s) {R : Int → pG → Prop} (hc : CT d mX7_outside [vI v2, vI 0, vI 8] g (qI R)) (k : ∀ (x : Int) (gg : pG), R x gg → EV d mX5_change Q 77 [vR s, vI v1, vI v2] [vI x] gg) : EV d mX5_change Q 70 [vR s, vI v1, vI v2] [] g := by
  refine wp_iload_n dX5_change_70 rfl ?_
  refine wp_iconst dX5_change_71 kc_0 ?_
  refine wp_bipush dX5_change_72 kb_8 kc_8 ?_
  exact wp_callsI (As := [vI v2, vI 0, vI 8]) dX5_change_74 ml_5_55 (Or.inr rfl) rfl (Nat.le_of_ble_eq_true rfl) rfl (Nat.le_refl _) (Nat.le_refl _) hc k
theorem b_X5_change_77 {d : Nat} {Q : Option pV → pG → Prop} {g : pG} {s : Nat} {v1 v2 vs0 : Int} (hs : isSt s) (k1 : (vs0 = 0) → EV d mX5_change Q 82 [vR s, vI v1, vI v2] [] g) (k2 : ¬ (vs0 = 0) → EV d mX5_change Q 80 [vR s, vI v1, vI v2] [] g) : EV d mX5_change Q 77 [vR s, vI v1, vI v2] [vI vs0] g := by
  exact wp_if_eq (tgt := 82) dX5_change_77 rfl k1 k2
theorem b_X5_change_80 {d : Nat} {Q : Option pV → pG → Prop} {g : pG} {s : Nat} {v1 v2 : Int} (hs : isSt s) (hq : Q (some (vI 0)) g) : EV d mX5_change Q 80 [vR s, vI v1, vI v2] [] g := by
  refine wp_iconst dX5_change_80 kc_0 ?_
  exact wp_zret dX5_change_81 rfl (Or.inl rfl) hq
theorem b_X5_change_82 {d : Nat} {Q : Option pV → pG → Prop} {g : pG} {s : Nat} {v1 v2 : Int} (hs : isSt s) (hq : Q (some (vI 1)) (cset g s (fup (g s) 6 v2))) : EV d mX5_change Q 82 [vR s, vI v1, vI v2] [] g := by
  refine wp_aload_n dX5_change_82 rfl rfl ?_
  refine wp_iload_n dX5_change_83 rfl ?_
  refine wp_putI dX5_change_84 fl_5_35 hs.1 rfl rfl ?_
  refine wp_iconst dX5_change_87 kc_1 ?_
  exact wp_zret dX5_change_88 rfl (Or.inr rfl) hq
theorem b_X5_change_89 {d : Nat} {Q : Option pV → pG → Prop} {g : pG} {s : Nat} {v1 v2 : Int} (hs : isSt s) (hq : Q (some (vI 0)) g) : EV d mX5_change Q 89 [vR s, vI v1, vI v2] [] g := by
  refine wp_iconst dX5_change_89 kc_0 ?_
  exact wp_zret dX5_change_90 rfl (Or.inl rfl) hq
theorem b_X5_changePoint_0 {d : Nat} {Q : Option pV → pG → Prop} {g : pG} {s : Nat} {v1 v2 : Int} (hs : isSt s) {R : Int → pG → Prop} (hc : CT d mX3_has [vR (s + 4), vI v1] g (qI R)) (k : ∀ (x : Int) (gg : pG), R x gg → EV d mX5_changePoint Q 8 [vR s, vI v1, vI v2] [vI x] gg) : EV d mX5_changePoint Q 0 [vR s, vI v1, vI v2] [] g := by
  refine wp_aload_n dX5_changePoint_0 rfl rfl ?_
  refine wp_get (v := vR (s + 4)) dX5_changePoint_1 fl_5_28 hs.1 rfl ?_
  refine wp_iload_n dX5_changePoint_4 rfl ?_
  exact wp_callvI (As := [vI v1]) dX5_changePoint_5 ml_5_63 (by decide) rfl hs.2.2.2.2.1 (by decide) rfl (Nat.le_of_ble_eq_true rfl) rfl (Nat.le_refl _) (Nat.le_refl _) hc k
theorem b_X5_changePoint_8 {d : Nat} {Q : Option pV → pG → Prop} {g : pG} {s : Nat} {v1 v2 vs0 : Int} (hs : isSt s) (k1 : (vs0 ≠ 0) → EV d mX5_changePoint Q 13 [vR s, vI v1, vI v2] [] g) (k2 : ¬ (vs0 ≠ 0) → EV d mX5_changePoint Q 11 [vR s, vI v1, vI v2] [] g) : EV d mX5_changePoint Q 8 [vR s, vI v1, vI v2] [vI vs0] g := by
  exact wp_if_ne (tgt := 13) dX5_changePoint_8 rfl k1 k2
theorem b_X5_changePoint_11 {d : Nat} {Q : Option pV → pG → Prop} {g : pG} {s : Nat} {v1 v2 : Int} (hs : isSt s) (hq : Q (some (vI 0)) g) : EV d mX5_changePoint Q 11 [vR s, vI v1, vI v2] [] g := by
  refine wp_iconst dX5_changePoint_11 kc_0 ?_
  exact wp_zret dX5_changePoint_12 rfl (Or.inl rfl) hq
theorem b_X5_changePoint_13 {d : Nat} {Q : Option pV → pG → Prop} {g : pG} {s : Nat} {v1 v2 : Int} (hs : isSt s) {R : pG → Prop} (hc : CT d mX3_put [vR (s + 4), vI v1, vI v2] g (qV R)) (k : ∀ gg : pG, R gg → EV d mX5_changePoint Q 22 [vR s, vI v1, vI v2] [] gg) : EV d mX5_changePoint Q 13 [vR s, vI v1, vI v2] [] g := by
  refine wp_aload_n dX5_changePoint_13 rfl rfl ?_
  refine wp_get (v := vR (s + 4)) dX5_changePoint_14 fl_5_28 hs.1 rfl ?_
  refine wp_iload_n dX5_changePoint_17 rfl ?_
  refine wp_iload_n dX5_changePoint_18 rfl ?_
  exact wp_callvV (As := [vI v1, vI v2]) dX5_changePoint_19 ml_5_66 (by decide) rfl hs.2.2.2.2.1 (by decide) rfl (Nat.le_of_ble_eq_true rfl) rfl (Nat.le_refl _) (Nat.le_refl _) hc k
theorem b_X5_changePoint_22 {d : Nat} {Q : Option pV → pG → Prop} {g : pG} {s : Nat} {v1 v2 : Int} (hs : isSt s) (hq : Q (some (vI 1)) g) : EV d mX5_changePoint Q 22 [vR s, vI v1, vI v2] [] g := by
  refine wp_iconst dX5_changePoint_22 kc_1 ?_
  exact wp_zret dX5_changePoint_23 rfl (Or.inr rfl) hq
theorem b_X5_loseLowest_0 {d : Nat} {Q : Option pV → pG → Prop} {g : pG} {s : Nat} (hs : isSt s) (k1 : ((g s) 3 ≠ 0) → EV d mX5_loseLowest Q 9 [vR s] [] g) (k2 : ¬ ((g s) 3 ≠ 0) → EV d mX5_loseLowest Q 7 [vR s] [] g) : EV d mX5_loseLowest Q 0 [vR s] [] g := by
  refine wp_aload_n dX5_loseLowest_0 rfl rfl ?_
  refine wp_get (v := vI ((g s) 3)) dX5_loseLowest_1 fl_5_21 hs.1 rfl ?_
  exact wp_if_ne (tgt := 9) dX5_loseLowest_4 rfl k1 k2
theorem b_X5_loseLowest_7 {d : Nat} {Q : Option pV → pG → Prop} {g : pG} {s : Nat} (hs : isSt s) (hq : Q (some (vI 0)) g) : EV d mX5_loseLowest Q 7 [vR s] [] g := by
  refine wp_iconst dX5_loseLowest_7 kc_0 ?_
  exact wp_zret dX5_loseLowest_8 rfl (Or.inl rfl) hq
theorem b_X5_loseLowest_9 {d : Nat} {Q : Option pV → pG → Prop} {g : pG} {s : Nat} (hs : isSt s) (hq : Q (some (vI 1)) (cset g s (fup (g s) 3 (w32 (((g s) 3) - 1))))) : EV d mX5_loseLowest Q 9 [vR s] [] g := by
  refine wp_aload_n dX5_loseLowest_9 rfl rfl ?_
  refine wp_dup dX5_loseLowest_10 rfl ?_
  refine wp_get (v := vI ((g s) 3)) dX5_loseLowest_11 fl_5_21 hs.1 rfl ?_
  refine wp_iconst dX5_loseLowest_14 kc_1 ?_
  refine wp_isub dX5_loseLowest_15 ?_
  refine wp_putI dX5_loseLowest_16 fl_5_21 hs.1 rfl rfl ?_
  refine wp_iconst dX5_loseLowest_19 kc_1 ?_
  exact wp_zret dX5_loseLowest_20 rfl (Or.inr rfl) hq
theorem b_X5_hasCourt_0 {d : Nat} {Q : Option pV → pG → Prop} {g : pG} {s : Nat} {v1 : Int} (hs : isSt s) (k1 : (v1 < 0) → EV d mX5_hasCourt Q 16 [vR s, vI v1] [] g) (k2 : ¬ (v1 < 0) → EV d mX5_hasCourt Q 4 [vR s, vI v1] [] g) : EV d mX5_hasCourt Q 0 [vR s, vI v1] [] g := by
  refine wp_iload_n dX5_hasCourt_0 rfl ?_
  exact wp_if_lt (tgt := 16) dX5_hasCourt_1 rfl k1 k2
theorem b_X5_hasCourt_4 {d : Nat} {Q : Option pV → pG → Prop} {g : pG} {s : Nat} {v1 : Int} (hs : isSt s) (k1 : ((g s) 3 ≤ v1) → EV d mX5_hasCourt Q 16 [vR s, vI v1] [] g) (k2 : ¬ ((g s) 3 ≤ v1) → EV d mX5_hasCourt Q 12 [vR s, vI v1] [] g) : EV d mX5_hasCourt Q 4 [vR s, vI v1] [] g := by
  refine wp_iload_n dX5_hasCourt_4 rfl ?_
  refine wp_aload_n dX5_hasCourt_5 rfl rfl ?_
  refine wp_get (v := vI ((g s) 3)) dX5_hasCourt_6 fl_5_21 hs.1 rfl ?_
  exact wp_icmp_ge (tgt := 16) dX5_hasCourt_9 rfl k1 k2
theorem b_X5_hasCourt_12 {d : Nat} {Q : Option pV → pG → Prop} {g : pG} {s : Nat} {v1 : Int} (hs : isSt s) (hq : Q (some (vI 1)) g) : EV d mX5_hasCourt Q 12 [vR s, vI v1] [] g := by
  refine wp_iconst dX5_hasCourt_12 kc_1 ?_
  refine wp_goto (tgt := 17) dX5_hasCourt_13 rfl ?_
  exact wp_zret dX5_hasCourt_17 rfl (Or.inr rfl) hq
theorem b_X5_hasCourt_16 {d : Nat} {Q : Option pV → pG → Prop} {g : pG} {s : Nat} {v1 : Int} (hs : isSt s) (hq : Q (some (vI 0)) g) : EV d mX5_hasCourt Q 16 [vR s, vI v1] [] g := by
  refine wp_iconst dX5_hasCourt_16 kc_0 ?_
  exact wp_zret dX5_hasCourt_17 rfl (Or.inl rfl) hq
theorem b_X5_rename_0 {d : Nat} {Q : Option pV → pG → Prop} {g : pG} {v1 v2 v3 : Int} {R : Int → pG → Prop} (hc : CT d mX5_hasCourt [vR 1, vI v1] g (qI R)) (k : ∀ (x : Int) (gg : pG), R x gg → EV d mX5_rename Q 5 [vR 1, vI v1, vI v2, vI v3] [vI x] gg) : EV d mX5_rename Q 0 [vR 1, vI v1, vI v2, vI v3] [] g := by
  refine wp_aload_n dX5_rename_0 rfl rfl ?_
  refine wp_iload_n dX5_rename_1 rfl ?_
  exact wp_callvI (As := [vI v1]) dX5_rename_2 ml_5_48 (by decide) rfl L_1 (by decide) rfl (Nat.le_of_ble_eq_true rfl) rfl (Nat.le_refl _) (Nat.le_refl _) hc k
theorem b_X5_rename_5 {d : Nat} {Q : Option pV → pG → Prop} {g : pG} {v1 v2 v3 vs0 : Int} (k1 : (vs0 = 0) → EV d mX5_rename Q 22 [vR 1, vI v1, vI v2, vI v3] [] g) (k2 : ¬ (vs0 = 0) → EV d mX5_rename Q 8 [vR 1, vI v1, vI v2, vI v3] [] g) : EV d mX5_rename Q 5 [vR 1, vI v1, vI v2, vI v3] [vI vs0] g := by
  exact wp_if_eq (tgt := 22) dX5_rename_5 rfl k1 k2
theorem b_X5_rename_8 {d : Nat} {Q : Option pV → pG → Prop} {g : pG} {v1 v2 v3 : Int} (h1 : 0 ≤ v1) (h2 : v1 < 7) (hq : Q none (cset (cset g 2 (fup (g 2) v1.toNat v2)) 3 (fup (g 3) v1.toNat v3))) : EV d mX5_rename Q 8 [vR 1, vI v1, vI v2, vI v3] [] g := by
  refine wp_aload_n dX5_rename_8 rfl rfl ?_
  refine wp_get (v := vR 2) dX5_rename_9 fl_5_9 L_1 rfl ?_
  refine wp_iload_n dX5_rename_12 rfl ?_
  refine wp_iload_n dX5_rename_13 rfl ?_
  refine wp_iastore dX5_rename_14 h1 L_2 h2 ?_
  refine wp_aload_n dX5_rename_15 rfl rfl ?_
  refine wp_get (v := vR 3) dX5_rename_16 fl_5_15 L_1 rfl ?_
  refine wp_iload_n dX5_rename_19 rfl ?_
  refine wp_iload_n dX5_rename_20 rfl ?_
  refine wp_iastore dX5_rename_21 h1 L_3 h2 ?_
  exact wp_vret dX5_rename_22 rfl hq
theorem b_X5_rename_22 {d : Nat} {Q : Option pV → pG → Prop} {g : pG} {v1 v2 v3 : Int} (hq : Q none g) : EV d mX5_rename Q 22 [vR 1, vI v1, vI v2, vI v3] [] g := by
  exact wp_vret dX5_rename_22 rfl hq
theorem b_X5_goDown_0 {d : Nat} {Q : Option pV → pG → Prop} {g : pG} {t : Nat} {v2 : Int} (ht : isPts t) (k : EV d mX5_goDown Q 2 [vR 1, vR t, vI v2, vI 0] [] g) : EV d mX5_goDown Q 0 [vR 1, vR t, vI v2, vX 2] [] g := by
  refine wp_iconst dX5_goDown_0 kc_0 ?_
  refine wp_istore_n dX5_goDown_1 (Nat.le_of_ble_eq_true rfl) (pp (c := 2) rfl rfl) ?_
  exact k
theorem b_X5_goDown_2 {d : Nat} {Q : Option pV → pG → Prop} {g : pG} {t : Nat} {v2 v3 : Int} (ht : isPts t) (k1 : (v2 ≤ v3) → EV d mX5_goDown Q 38 [vR 1, vR t, vI v2, vI v3] [] g) (k2 : ¬ (v2 ≤ v3) → EV d mX5_goDown Q 7 [vR 1, vR t, vI v2, vI v3] [] g) : EV d mX5_goDown Q 2 [vR 1, vR t, vI v2, vI v3] [] g := by
  refine wp_iload_n dX5_goDown_2 rfl ?_
  refine wp_iload_n dX5_goDown_3 rfl ?_
  exact wp_icmp_ge (tgt := 38) dX5_goDown_4 rfl k1 k2
theorem b_X5_goDown_7 {d : Nat} {Q : Option pV → pG → Prop} {g : pG} {t : Nat} {v2 v3 : Int} (ht : isPts t) (k1 : ((g 1) 3 ≤ v3) → EV d mX5_goDown Q 38 [vR 1, vR t, vI v2, vI v3] [] g) (k2 : ¬ ((g 1) 3 ≤ v3) → EV d mX5_goDown Q 15 [vR 1, vR t, vI v2, vI v3] [] g) : EV d mX5_goDown Q 7 [vR 1, vR t, vI v2, vI v3] [] g := by
  refine wp_iload_n dX5_goDown_7 rfl ?_
  refine wp_aload_n dX5_goDown_8 rfl rfl ?_
  refine wp_get (v := vI ((g 1) 3)) dX5_goDown_9 fl_5_21 L_1 rfl ?_
  exact wp_icmp_ge (tgt := 38) dX5_goDown_12 rfl k1 k2
theorem b_X5_goDown_15 {d : Nat} {Q : Option pV → pG → Prop} {g : pG} {t : Nat} {v2 v3 : Int} (ht : isPts t) {R : pG → Prop} (h1 : 0 ≤ v3) (h2 : v3 < 7) (hc : CT d mX5_hearAs [vR 1, vI ((g 2) v3.toNat), vI ((g 3) v3.toNat), vR t] g (qV R)) (k : ∀ gg : pG, R gg → EV d mX5_goDown Q 32 [vR 1, vR t, vI v2, vI v3] [] gg) : EV d mX5_goDown Q 15 [vR 1, vR t, vI v2, vI v3] [] g := by
  refine wp_aload_n dX5_goDown_15 rfl rfl ?_
  refine wp_aload_n dX5_goDown_16 rfl rfl ?_
  refine wp_get (v := vR 2) dX5_goDown_17 fl_5_9 L_1 rfl ?_
  refine wp_iload_n dX5_goDown_20 rfl ?_
  refine wp_iaload dX5_goDown_21 h1 L_2 h2 ?_
  refine wp_aload_n dX5_goDown_22 rfl rfl ?_
  refine wp_get (v := vR 3) dX5_goDown_23 fl_5_15 L_1 rfl ?_
  refine wp_iload_n dX5_goDown_26 rfl ?_
  refine wp_iaload dX5_goDown_27 h1 L_3 h2 ?_
  refine wp_aload_n dX5_goDown_28 rfl rfl ?_
  exact wp_callvV (As := [vI ((g 2) v3.toNat), vI ((g 3) v3.toNat), vR t]) dX5_goDown_29 ml_5_80 (by decide) rfl L_1 (by decide) rfl (Nat.le_of_ble_eq_true rfl) rfl (Nat.le_refl _) (Nat.le_refl _) hc k
theorem b_X5_goDown_32 {d : Nat} {Q : Option pV → pG → Prop} {g : pG} {t : Nat} {v2 v3 : Int} (ht : isPts t) (k : EV d mX5_goDown Q 2 [vR 1, vR t, vI v2, vI (w32 (v3 + 1))] [] g) : EV d mX5_goDown Q 32 [vR 1, vR t, vI v2, vI v3] [] g := by
  refine wp_iinc dX5_goDown_32 rfl (Nat.le_of_ble_eq_true rfl) (pp (c := 2) rfl rfl) ?_
  refine wp_goto (tgt := 2) dX5_goDown_35 rfl ?_
  exact k
theorem b_X5_goDown_38 {d : Nat} {Q : Option pV → pG → Prop} {g : pG} {t : Nat} {v2 v3 : Int} (ht : isPts t) (hq : Q none g) : EV d mX5_goDown Q 38 [vR 1, vR t, vI v2, vI v3] [] g := by
  exact wp_vret dX5_goDown_38 rfl hq
theorem b_X5_hearAs_0 {d : Nat} {Q : Option pV → pG → Prop} {g : pG} {t : Nat} {v1 v2 : Int} (ht : isPts t) (k1 : (v1 ≠ 3) → EV d mX5_hearAs Q 17 [vR 1, vI v1, vI v2, vR t] [] g) (k2 : ¬ (v1 ≠ 3) → EV d mX5_hearAs Q 5 [vR 1, vI v1, vI v2, vR t] [] g) : EV d mX5_hearAs Q 0 [vR 1, vI v1, vI v2, vR t] [] g := by
  refine wp_iload_n dX5_hearAs_0 rfl ?_
  refine wp_iconst dX5_hearAs_1 kc_3 ?_
  exact wp_icmp_ne (tgt := 17) dX5_hearAs_2 rfl k1 k2
theorem b_X5_hearAs_5 {d : Nat} {Q : Option pV → pG → Prop} {g : pG} {t : Nat} {v1 v2 : Int} (ht : isPts t) {R : Int → pG → Prop} (hc : CT d mX3_notZero [vR t] g (qI R)) (k : ∀ (x : Int) (gg : pG), R x gg → EV d mX5_hearAs Q 9 [vR 1, vI v1, vI v2, vR t] [vI x] gg) : EV d mX5_hearAs Q 5 [vR 1, vI v1, vI v2, vR t] [] g := by
  refine wp_aload_n dX5_hearAs_5 rfl rfl ?_
  exact wp_callvI (As := []) dX5_hearAs_6 ml_5_76 (by decide) rfl ht.1 (by decide) rfl (Nat.le_of_ble_eq_true rfl) rfl (Nat.le_refl _) (Nat.le_refl _) hc k
theorem b_X5_hearAs_9 {d : Nat} {Q : Option pV → pG → Prop} {g : pG} {t : Nat} {v1 v2 vs0 : Int} (ht : isPts t) (k1 : (vs0 ≤ (g 1) 6) → EV d mX5_hearAs Q 17 [vR 1, vI v1, vI v2, vR t] [] g) (k2 : ¬ (vs0 ≤ (g 1) 6) → EV d mX5_hearAs Q 16 [vR 1, vI v1, vI v2, vR t] [] g) : EV d mX5_hearAs Q 9 [vR 1, vI v1, vI v2, vR t] [vI vs0] g := by
  refine wp_aload_n dX5_hearAs_9 rfl rfl ?_
  refine wp_get (v := vI ((g 1) 6)) dX5_hearAs_10 fl_5_35 L_1 rfl ?_
  exact wp_icmp_le (tgt := 17) dX5_hearAs_13 rfl k1 k2
theorem b_X5_hearAs_16 {d : Nat} {Q : Option pV → pG → Prop} {g : pG} {t : Nat} {v1 v2 : Int} (ht : isPts t) (hq : Q none g) : EV d mX5_hearAs Q 16 [vR 1, vI v1, vI v2, vR t] [] g := by
  exact wp_vret dX5_hearAs_16 rfl hq
theorem b_X5_hearAs_17 {d : Nat} {Q : Option pV → pG → Prop} {g : pG} {t : Nat} {v1 v2 : Int} (ht : isPts t) {R : pG → Prop} (hc : CT d mX3_suffer [vR t, vI v1, vI v2] g (qV R)) (k : ∀ gg : pG, R gg → EV d mX5_hearAs Q 23 [vR 1, vI v1, vI v2, vR t] [] gg) : EV d mX5_hearAs Q 17 [vR 1, vI v1, vI v2, vR t] [] g := by
  refine wp_aload_n dX5_hearAs_17 rfl rfl ?_
  refine wp_iload_n dX5_hearAs_18 rfl ?_
  refine wp_iload_n dX5_hearAs_19 rfl ?_
  exact wp_callvV (As := [vI v1, vI v2]) dX5_hearAs_20 ml_5_84 (by decide) rfl ht.1 (by decide) rfl (Nat.le_of_ble_eq_true rfl) rfl (Nat.le_refl _) (Nat.le_refl _) hc k
theorem b_X5_hearAs_23 {d : Nat} {Q : Option pV → pG → Prop} {g : pG} {t : Nat} {v1 v2 : Int} (ht : isPts t) (hq : Q none g) : EV d mX5_hearAs Q 23 [vR 1, vI v1, vI v2, vR t] [] g := by
  exact wp_vret dX5_hearAs_23 rfl hq
theorem b_X5_hear_0 {d : Nat} {Q : Option pV → pG → Prop} {g : pG} {t : Nat} {v1 : Int} (ht : isPts t) {R : Int → pG → Prop} (hc : CT d mX5_hasCourt [vR 1, vI v1] g (qI R)) (k : ∀ (x : Int) (gg : pG), R x gg → EV d mX5_hear Q 5 [vR 1, vI v1, vR t] [vI x] gg) : EV d mX5_hear Q 0 [vR 1, vI v1, vR t] [] g := by
  refine wp_aload_n dX5_hear_0 rfl rfl ?_
  refine wp_iload_n dX5_hear_1 rfl ?_
  exact wp_callvI (As := [vI v1]) dX5_hear_2 ml_5_48 (by decide) rfl L_1 (by decide) rfl (Nat.le_of_ble_eq_true rfl) rfl (Nat.le_refl _) (Nat.le_refl _) hc k
theorem b_X5_hear_5 {d : Nat} {Q : Option pV → pG → Prop} {g : pG} {t : Nat} {v1 vs0 : Int} (ht : isPts t) (k1 : (vs0 = 0) → EV d mX5_hear Q 25 [vR 1, vI v1, vR t] [] g) (k2 : ¬ (vs0 = 0) → EV d mX5_hear Q 8 [vR 1, vI v1, vR t] [] g) : EV d mX5_hear Q 5 [vR 1, vI v1, vR t] [vI vs0] g := by
  exact wp_if_eq (tgt := 25) dX5_hear_5 rfl k1 k2
theorem b_X5_hear_8 {d : Nat} {Q : Option pV → pG → Prop} {g : pG} {t : Nat} {v1 : Int} (ht : isPts t) {R : pG → Prop} (h1 : 0 ≤ v1) (h2 : v1 < 7) (hc : CT d mX5_hearAs [vR 1, vI ((g 2) v1.toNat), vI ((g 3) v1.toNat), vR t] g (qV R)) (k : ∀ gg : pG, R gg → EV d mX5_hear Q 25 [vR 1, vI v1, vR t] [] gg) : EV d mX5_hear Q 8 [vR 1, vI v1, vR t] [] g := by
  refine wp_aload_n dX5_hear_8 rfl rfl ?_
  refine wp_aload_n dX5_hear_9 rfl rfl ?_
  refine wp_get (v := vR 2) dX5_hear_10 fl_5_9 L_1 rfl ?_
  refine wp_iload_n dX5_hear_13 rfl ?_
  refine wp_iaload dX5_hear_14 h1 L_2 h2 ?_
  refine wp_aload_n dX5_hear_15 rfl rfl ?_
  refine wp_get (v := vR 3) dX5_hear_16 fl_5_15 L_1 rfl ?_
  refine wp_iload_n dX5_hear_19 rfl ?_
  refine wp_iaload dX5_hear_20 h1 L_3 h2 ?_
  refine wp_aload_n dX5_hear_21 rfl rfl ?_
  exact wp_callvV (As := [vI ((g 2) v1.toNat), vI ((g 3) v1.toNat), vR t]) dX5_hear_22 ml_5_80 (by decide) rfl L_1 (by decide) rfl (Nat.le_of_ble_eq_true rfl) rfl (Nat.le_refl _) (Nat.le_refl _) hc k
theorem b_X5_hear_25 {d : Nat} {Q : Option pV → pG → Prop} {g : pG} {t : Nat} {v1 : Int} (ht : isPts t) (hq : Q none g) : EV d mX5_hear Q 25 [vR 1, vI v1, vR t] [] g := by
  exact wp_vret dX5_hear_25 rfl hq
theorem b_X5_costsBetween_0 {d : Nat} {Q : Option pV → pG → Prop} {g : pG} {v1 v2 : Int} (k : EV d mX5_costsBetween Q 9 [vR 1, vI v1, vI v2, vI 0, vI (zmax 0 v1)] [] g) : EV d mX5_costsBetween Q 0 [vR 1, vI v1, vI v2, vX 2, vX 2] [] g := by
  refine wp_iconst dX5_costsBetween_0 kc_0 ?_
  refine wp_istore_n dX5_costsBetween_1 (Nat.le_of_ble_eq_true rfl) (pp (c := 2) rfl rfl) ?_
  refine wp_iconst dX5_costsBetween_2 kc_0 ?_
  refine wp_iload_n dX5_costsBetween_3 rfl ?_
  refine wp_max dX5_costsBetween_4 xl_5_70 (Nat.le_refl _) (Nat.le_refl _) (Nat.le_of_ble_eq_true rfl) ?_
  refine wp_istore dX5_costsBetween_7 (Nat.le_of_ble_eq_true rfl) (pp (c := 3) rfl rfl) ?_
  exact k
theorem b_X5_costsBetween_9 {d : Nat} {Q : Option pV → pG → Prop} {g : pG} {v1 v2 v3 v4 : Int} (k1 : (v2 ≤ v4) → EV d mX5_costsBetween Q 40 [vR 1, vI v1, vI v2, vI v3, vI v4] [] g) (k2 : ¬ (v2 ≤ v4) → EV d mX5_costsBetween Q 15 [vR 1, vI v1, vI v2, vI v3, vI v4] [] g) : EV d mX5_costsBetween Q 9 [vR 1, vI v1, vI v2, vI v3, vI v4] [] g := by
  refine wp_iload dX5_costsBetween_9 rfl ?_
  refine wp_iload_n dX5_costsBetween_11 rfl ?_
  exact wp_icmp_ge (tgt := 40) dX5_costsBetween_12 rfl k1 k2
theorem b_X5_costsBetween_15 {d : Nat} {Q : Option pV → pG → Prop} {g : pG} {v1 v2 v3 v4 : Int} (k1 : ((g 1) 3 ≤ v4) → EV d mX5_costsBetween Q 40 [vR 1, vI v1, vI v2, vI v3, vI v4] [] g) (k2 : ¬ ((g 1) 3 ≤ v4) → EV d mX5_costsBetween Q 24 [vR 1, vI v1, vI v2, vI v3, vI v4] [] g) : EV d mX5_costsBetween Q 15 [vR 1, vI v1, vI v2, vI v3, vI v4] [] g := by
  refine wp_iload dX5_costsBetween_15 rfl ?_
  refine wp_aload_n dX5_costsBetween_17 rfl rfl ?_
  refine wp_get (v := vI ((g 1) 3)) dX5_costsBetween_18 fl_5_21 L_1 rfl ?_
  exact wp_icmp_ge (tgt := 40) dX5_costsBetween_21 rfl k1 k2
theorem b_X5_costsBetween_24 {d : Nat} {Q : Option pV → pG → Prop} {g : pG} {v1 v2 v3 v4 : Int} (h1 : 0 ≤ v4) (h2 : v4 < 7) (k : EV d mX5_costsBetween Q 9 [vR 1, vI v1, vI v2, vI (w32 (v3 + ((g 4) v4.toNat))), vI (w32 (v4 + 1))] [] g) : EV d mX5_costsBetween Q 24 [vR 1, vI v1, vI v2, vI v3, vI v4] [] g := by
  refine wp_iload_n dX5_costsBetween_24 rfl ?_
  refine wp_aload_n dX5_costsBetween_25 rfl rfl ?_
  refine wp_get (v := vR 4) dX5_costsBetween_26 fl_5_18 L_1 rfl ?_
  refine wp_iload dX5_costsBetween_29 rfl ?_
  refine wp_iaload dX5_costsBetween_31 h1 L_4 h2 ?_
  refine wp_iadd dX5_costsBetween_32 ?_
  refine wp_istore_n dX5_costsBetween_33 (Nat.le_of_ble_eq_true rfl) (pp (c := 2) rfl rfl) ?_
  refine wp_iinc dX5_costsBetween_34 rfl (Nat.le_of_ble_eq_true rfl) (pp (c := 3) rfl rfl) ?_
  refine wp_goto (tgt := 9) dX5_costsBetween_37 rfl ?_
  exact k
theorem b_X5_costsBetween_40 {d : Nat} {Q : Option pV → pG → Prop} {g : pG} {v1 v2 v3 v4 : Int} (hq : Q (some (vI v3)) g) : EV d mX5_costsBetween Q 40 [vR 1, vI v1, vI v2, vI v3, vI v4] [] g := by
  refine wp_iload_n dX5_costsBetween_40 rfl ?_
  exact wp_iret dX5_costsBetween_41 rfl hq
theorem b_X5_sendsBack_0 {d : Nat} {Q : Option pV → pG → Prop} {g : pG} {t : Nat} {v1 v3 : Int} (ht : isPts t) {R : Int → pG → Prop} (hc : CT d mX5_hasCourt [vR 1, vI v1] g (qI R)) (k : ∀ (x : Int) (gg : pG), R x gg → EV d mX5_sendsBack Q 5 [vR 1, vI v1, vR t, vI v3] [vI x] gg) : EV d mX5_sendsBack Q 0 [vR 1, vI v1, vR t, vI v3] [] g := by
  refine wp_aload_n dX5_sendsBack_0 rfl rfl ?_
  refine wp_iload_n dX5_sendsBack_1 rfl ?_
  exact wp_callvI (As := [vI v1]) dX5_sendsBack_2 ml_5_48 (by decide) rfl L_1 (by decide) rfl (Nat.le_of_ble_eq_true rfl) rfl (Nat.le_refl _) (Nat.le_refl _) hc k
theorem b_X5_sendsBack_5 {d : Nat} {Q : Option pV → pG → Prop} {g : pG} {t : Nat} {v1 v3 vs0 : Int} (ht : isPts t) (k1 : (vs0 = 0) → EV d mX5_sendsBack Q 30 [vR 1, vI v1, vR t, vI v3] [] g) (k2 : ¬ (vs0 = 0) → EV d mX5_sendsBack Q 8 [vR 1, vI v1, vR t, vI v3] [] g) : EV d mX5_sendsBack Q 5 [vR 1, vI v1, vR t, vI v3] [vI vs0] g := by
  exact wp_if_eq (tgt := 30) dX5_sendsBack_5 rfl k1 k2
theorem b_X5_sendsBack_8 {d : Nat} {Q : Option pV → pG → Prop} {g : pG} {t : Nat} {v1 v3 : Int} (ht : isPts t) (h1 : 0 ≤ v1) (h2 : v1 < 7) (k1 : ((g 2) v1.toNat ≠ 3) → EV d mX5_sendsBack Q 30 [vR 1, vI v1, vR t, vI v3] [] g) (k2 : ¬ ((g 2) v1.toNat ≠ 3) → EV d mX5_sendsBack Q 18 [vR 1, vI v1, vR t, vI v3] [] g) : EV d mX5_sendsBack Q 8 [vR 1, vI v1, vR t, vI v3] [] g := by
  refine wp_aload_n dX5_sendsBack_8 rfl rfl ?_
  refine wp_get (v := vR 2) dX5_sendsBack_9 fl_5_9 L_1 rfl ?_
  refine wp_iload_n dX5_sendsBack_12 rfl ?_
  refine wp_iaload dX5_sendsBack_13 h1 L_2 h2 ?_
  refine wp_iconst dX5_sendsBack_14 kc_3 ?_
  exact wp_icmp_ne (tgt := 30) dX5_sendsBack_15 rfl k1 k2
theorem b_X5_sendsBack_18 {d : Nat} {Q : Option pV → pG → Prop} {g : pG} {t : Nat} {v1 v3 : Int} (ht : isPts t) {R : Int → pG → Prop} (hc : CT d mX3_notZero [vR t] g (qI R)) (k : ∀ (x : Int) (gg : pG), R x gg → EV d mX5_sendsBack Q 22 [vR 1, vI v1, vR t, vI v3] [vI x] gg) : EV d mX5_sendsBack Q 18 [vR 1, vI v1, vR t, vI v3] [] g := by
  refine wp_aload_n dX5_sendsBack_18 rfl rfl ?_
  exact wp_callvI (As := []) dX5_sendsBack_19 ml_5_76 (by decide) rfl ht.1 (by decide) rfl (Nat.le_of_ble_eq_true rfl) rfl (Nat.le_refl _) (Nat.le_refl _) hc k
theorem b_X5_sendsBack_22 {d : Nat} {Q : Option pV → pG → Prop} {g : pG} {t : Nat} {v1 v3 vs0 : Int} (ht : isPts t) (k1 : (vs0 ≤ v3) → EV d mX5_sendsBack Q 30 [vR 1, vI v1, vR t, vI v3] [] g) (k2 : ¬ (vs0 ≤ v3) → EV d mX5_sendsBack Q 26 [vR 1, vI v1, vR t, vI v3] [] g) : EV d mX5_sendsBack Q 22 [vR 1, vI v1, vR t, vI v3] [vI vs0] g := by
  refine wp_iload_n dX5_sendsBack_22 rfl ?_
  exact wp_icmp_le (tgt := 30) dX5_sendsBack_23 rfl k1 k2
theorem b_X5_sendsBack_26 {d : Nat} {Q : Option pV → pG → Prop} {g : pG} {t : Nat} {v1 v3 : Int} (ht : isPts t) (hq : Q (some (vI 1)) g) : EV d mX5_sendsBack Q 26 [vR 1, vI v1, vR t, vI v3] [] g := by
  refine wp_iconst dX5_sendsBack_26 kc_1 ?_
  refine wp_goto (tgt := 31) dX5_sendsBack_27 rfl ?_
  exact wp_zret dX5_sendsBack_31 rfl (Or.inr rfl) hq
theorem b_X5_sendsBack_30 {d : Nat} {Q : Option pV → pG → Prop} {g : pG} {t : Nat} {v1 v3 : Int} (ht : isPts t) (hq : Q (some (vI 0)) g) : EV d mX5_sendsBack Q 30 [vR 1, vI v1, vR t, vI v3] [] g := by
  refine wp_iconst dX5_sendsBack_30 kc_0 ?_
  exact wp_zret dX5_sendsBack_31 rfl (Or.inl rfl) hq
theorem b_X6_weigh_0 {d : Nat} {Q : Option pV → pG → Prop} {g : pG} {R : pG → Prop} (hc : CT d mX3_copyFrom [vR 27, vR 5] (cset g 33 (fup (g 33) 5 ((g 1) 3))) (qV R)) (k : ∀ gg : pG, R gg → EV d mX6_weigh Q 16 [vR 33, vR 1, vR 27, vX 2] [] gg) : EV d mX6_weigh Q 0 [vR 33, vR 1, vR 27, vX 2] [] g := by
  refine wp_aload_n dX6_weigh_0 rfl rfl ?_
  refine wp_aload_n dX6_weigh_1 rfl rfl ?_
  refine wp_get (v := vI ((g 1) 3)) dX6_weigh_2 fl_6_32 L_1 rfl ?_
  refine wp_putI dX6_weigh_5 fl_6_28 L_33 rfl rfl ?_
  refine wp_aload_n dX6_weigh_8 rfl rfl ?_
  refine wp_aload_n dX6_weigh_9 rfl rfl ?_
  refine wp_get (v := vR 5) dX6_weigh_10 fl_6_35 L_1 rfl ?_
  exact wp_callvV (As := [vR 5]) dX6_weigh_13 ml_6_39 (by decide) rfl L_27 (by decide) rfl (Nat.le_of_ble_eq_true rfl) rfl (Nat.le_refl _) (Nat.le_refl _) hc k
theorem b_X6_weigh_16 {d : Nat} {Q : Option pV → pG → Prop} {g : pG} (k : EV d mX6_weigh Q 18 [vR 33, vR 1, vR 27, vI 0] [] g) : EV d mX6_weigh Q 16 [vR 33, vR 1, vR 27, vX 2] [] g := by
  refine wp_iconst dX6_weigh_16 kc_0 ?_
  refine wp_istore_n dX6_weigh_17 (Nat.le_of_ble_eq_true rfl) (pp (c := 2) rfl rfl) ?_
  exact k
theorem b_X6_weigh_18 {d : Nat} {Q : Option pV → pG → Prop} {g : pG} {v3 : Int} (k1 : ((g 33) 5 ≤ v3) → EV d mX6_weigh Q 48 [vR 33, vR 1, vR 27, vI v3] [] g) (k2 : ¬ ((g 33) 5 ≤ v3) → EV d mX6_weigh Q 26 [vR 33, vR 1, vR 27, vI v3] [] g) : EV d mX6_weigh Q 18 [vR 33, vR 1, vR 27, vI v3] [] g := by
  refine wp_iload_n dX6_weigh_18 rfl ?_
  refine wp_aload_n dX6_weigh_19 rfl rfl ?_
  refine wp_get (v := vI ((g 33) 5)) dX6_weigh_20 fl_6_28 L_33 rfl ?_
  exact wp_icmp_ge (tgt := 48) dX6_weigh_23 rfl k1 k2
theorem b_X6_weigh_26 {d : Nat} {Q : Option pV → pG → Prop} {g : pG} {v3 : Int} {R : pG → Prop} (hc : CT d mX5_hear [vR 1, vI v3, vR 27] g (qV R)) (k : ∀ gg : pG, R gg → EV d mX6_weigh Q 32 [vR 33, vR 1, vR 27, vI v3] [] gg) : EV d mX6_weigh Q 26 [vR 33, vR 1, vR 27, vI v3] [] g := by
  refine wp_aload_n dX6_weigh_26 rfl rfl ?_
  refine wp_iload_n dX6_weigh_27 rfl ?_
  refine wp_aload_n dX6_weigh_28 rfl rfl ?_
  exact wp_callvV (As := [vI v3, vR 27]) dX6_weigh_29 ml_6_45 (by decide) rfl L_1 (by decide) rfl (Nat.le_of_ble_eq_true rfl) rfl (Nat.le_refl _) (Nat.le_refl _) hc k
theorem b_X6_weigh_32 {d : Nat} {Q : Option pV → pG → Prop} {g : pG} {v3 : Int} {R : Int → pG → Prop} (hc : CT d mX3_isFor [vR 27] g (qI R)) (k : ∀ (x : Int) (gg : pG), R x gg → EV d mX6_weigh Q 41 [vR 33, vR 1, vR 27, vI v3] [vI x, vI v3, vR 34] gg) : EV d mX6_weigh Q 32 [vR 33, vR 1, vR 27, vI v3] [] g := by
  refine wp_aload_n dX6_weigh_32 rfl rfl ?_
  refine wp_get (v := vR 34) dX6_weigh_33 fl_6_9 L_33 rfl ?_
  refine wp_iload_n dX6_weigh_36 rfl ?_
  refine wp_aload_n dX6_weigh_37 rfl rfl ?_
  exact wp_callvI (As := []) dX6_weigh_38 ml_6_49 (by decide) rfl L_27 (by decide) rfl (Nat.le_of_ble_eq_true rfl) rfl (Nat.le_refl _) (Nat.le_refl _) hc k
theorem b_X6_weigh_41 {d : Nat} {Q : Option pV → pG → Prop} {g : pG} {v3 vs1 vs2 : Int} (h1 : 0 ≤ vs1) (h2 : vs1 < 7) (h3 : vs2 = 0 ∨ vs2 = 1) (k : EV d mX6_weigh Q 18 [vR 33, vR 1, vR 27, vI (w32 (v3 + 1))] [] (cset g 34 (fup (g 34) vs1.toNat vs2))) : EV d mX6_weigh Q 41 [vR 33, vR 1, vR 27, vI v3] [vI vs2, vI vs1, vR 34] g := by
  refine wp_bastore dX6_weigh_41 h1 L_34 h2 h3 ?_
  refine wp_iinc dX6_weigh_42 rfl (Nat.le_of_ble_eq_true rfl) (pp (c := 2) rfl rfl) ?_
  refine wp_goto (tgt := 18) dX6_weigh_45 rfl ?_
  exact k
theorem b_X6_weigh_48 {d : Nat} {Q : Option pV → pG → Prop} {g : pG} {v3 : Int} (k : EV d mX6_weigh Q 55 [vR 33, vR 1, vR 27, vI (w32 (((g 33) 5) - 1))] [] g) : EV d mX6_weigh Q 48 [vR 33, vR 1, vR 27, vI v3] [] g := by
  refine wp_aload_n dX6_weigh_48 rfl rfl ?_
  refine wp_get (v := vI ((g 33) 5)) dX6_weigh_49 fl_6_28 L_33 rfl ?_
  refine wp_iconst dX6_weigh_52 kc_1 ?_
  refine wp_isub dX6_weigh_53 ?_
  refine wp_istore_n dX6_weigh_54 (Nat.le_of_ble_eq_true rfl) (pp (c := 2) rfl rfl) ?_
  exact k
theorem b_X6_weigh_55 {d : Nat} {Q : Option pV → pG → Prop} {g : pG} {v3 : Int} (k1 : (v3 < 0) → EV d mX6_weigh Q 114 [vR 33, vR 1, vR 27, vI v3] [] g) (k2 : ¬ (v3 < 0) → EV d mX6_weigh Q 59 [vR 33, vR 1, vR 27, vI v3] [] g) : EV d mX6_weigh Q 55 [vR 33, vR 1, vR 27, vI v3] [] g := by
  refine wp_iload_n dX6_weigh_55 rfl ?_
  exact wp_if_lt (tgt := 114) dX6_weigh_56 rfl k1 k2
theorem b_X6_weigh_59 {d : Nat} {Q : Option pV → pG → Prop} {g : pG} {v3 : Int} (h1 : 0 ≤ v3) (h2 : v3 < 7) (h3 : (g 34) v3.toNat = 0 ∨ (g 34) v3.toNat = 1) (k1 : (w32 (((g 33) 5) - 1) ≤ v3) → EV d mX6_weigh Q 108 [vR 33, vR 1, vR 27, vI v3] [] (cset (cset (cset (cset g 35 (fup (g 35) v3.toNat 0)) 36 (fup (g 36) v3.toNat ((g 34) v3.toNat))) 37 (fup (g 37) v3.toNat 0)) 38 (fup (g 38) v3.toNat 0))) (k2 : ¬ (w32 (((g 33) 5) - 1) ≤ v3) → EV d mX6_weigh Q 102 [vR 33, vR 1, vR 27, vI v3] [] (cset (cset (cset (cset g 35 (fup (g 35) v3.toNat 0)) 36 (fup (g 36) v3.toNat ((g 34) v3.toNat))) 37 (fup (g 37) v3.toNat 0)) 38 (fup (g 38) v3.toNat 0))) : EV d mX6_weigh Q 59 [vR 33, vR 1, vR 27, vI v3] [] g := by
  refine wp_aload_n dX6_weigh_59 rfl rfl ?_
  refine wp_get (v := vR 35) dX6_weigh_60 fl_6_15 L_33 rfl ?_
  refine wp_iload_n dX6_weigh_63 rfl ?_
  refine wp_iconst dX6_weigh_64 kc_0 ?_
  refine wp_bastore dX6_weigh_65 h1 L_35 h2 (Or.inl rfl) ?_
  refine wp_aload_n dX6_weigh_66 rfl rfl ?_
  refine wp_get (v := vR 36) dX6_weigh_67 fl_6_18 L_33 rfl ?_
  refine wp_iload_n dX6_weigh_70 rfl ?_
  refine wp_aload_n dX6_weigh_71 rfl rfl ?_
  refine wp_get (v := vR 34) dX6_weigh_72 fl_6_9 L_33 rfl ?_
  refine wp_iload_n dX6_weigh_75 rfl ?_
  refine wp_baload dX6_weigh_76 h1 L_34 h2 ?_
  refine wp_bastore dX6_weigh_77 h1 L_36 h2 h3 ?_
  refine wp_aload_n dX6_weigh_78 rfl rfl ?_
  refine wp_get (v := vR 37) dX6_weigh_79 fl_6_21 L_33 rfl ?_
  refine wp_iload_n dX6_weigh_82 rfl ?_
  refine wp_iconst dX6_weigh_83 kc_0 ?_
  refine wp_iastore dX6_weigh_84 h1 L_37 h2 ?_
  refine wp_aload_n dX6_weigh_85 rfl rfl ?_
  refine wp_get (v := vR 38) dX6_weigh_86 fl_6_25 L_33 rfl ?_
  refine wp_iload_n dX6_weigh_89 rfl ?_
  refine wp_iconst dX6_weigh_90 kc_0 ?_
  refine wp_iastore dX6_weigh_91 h1 L_38 h2 ?_
  refine wp_iload_n dX6_weigh_92 rfl ?_
  refine wp_aload_n dX6_weigh_93 rfl rfl ?_
  refine wp_get (v := vI ((g 33) 5)) dX6_weigh_94 fl_6_28 L_33 rfl ?_
  refine wp_iconst dX6_weigh_97 kc_1 ?_
  refine wp_isub dX6_weigh_98 ?_
  exact wp_icmp_ge (tgt := 108) dX6_weigh_99 rfl k1 k2
theorem b_X6_weigh_102 {d : Nat} {Q : Option pV → pG → Prop} {g : pG} {v3 : Int} {R : pG → Prop} (hc : CT d mX6_weighStep [vR 33, vR 1, vI v3] g (qV R)) (k : ∀ gg : pG, R gg → EV d mX6_weigh Q 108 [vR 33, vR 1, vR 27, vI v3] [] gg) : EV d mX6_weigh Q 102 [vR 33, vR 1, vR 27, vI v3] [] g := by
  refine wp_aload_n dX6_weigh_102 rfl rfl ?_
  refine wp_aload_n dX6_weigh_103 rfl rfl ?_
  refine wp_iload_n dX6_weigh_104 rfl ?_
  exact wp_callvV (As := [vR 1, vI v3]) dX6_weigh_105 ml_6_53 (by decide) rfl L_33 (by decide) rfl (Nat.le_of_ble_eq_true rfl) rfl (Nat.le_refl _) (Nat.le_refl _) hc k
theorem b_X6_weigh_108 {d : Nat} {Q : Option pV → pG → Prop} {g : pG} {v3 : Int} (k : EV d mX6_weigh Q 55 [vR 33, vR 1, vR 27, vI (w32 (v3 + (-1)))] [] g) : EV d mX6_weigh Q 108 [vR 33, vR 1, vR 27, vI v3] [] g := by
  refine wp_iinc dX6_weigh_108 rfl (Nat.le_of_ble_eq_true rfl) (pp (c := 2) rfl rfl) ?_
  refine wp_goto (tgt := 55) dX6_weigh_111 rfl ?_
  exact k
theorem b_X6_weigh_114 {d : Nat} {Q : Option pV → pG → Prop} {g : pG} {v3 : Int} (hq : Q none g) : EV d mX6_weigh Q 114 [vR 33, vR 1, vR 27, vI v3] [] g := by
  exact wp_vret dX6_weigh_114 rfl hq
theorem b_X6_weighStep_0 {d : Nat} {Q : Option pV → pG → Prop} {g : pG} {v2 : Int} (h1 : 0 ≤ v2) (h2 : v2 < 7) (k1 : ((g 34) v2.toNat ≠ 0) → EV d mX6_weighStep Q 13 [vR 33, vR 1, vI v2, vX 2, vX 2, vX 2] [] g) (k2 : ¬ ((g 34) v2.toNat ≠ 0) → EV d mX6_weighStep Q 9 [vR 33, vR 1, vI v2, vX 2, vX 2, vX 2] [] g) : EV d mX6_weighStep Q 0 [vR 33, vR 1, vI v2, vX 2, vX 2, vX 2] [] g := by
  refine wp_aload_n dX6_weighStep_0 rfl rfl ?_
  refine wp_get (v := vR 34) dX6_weighStep_1 fl_6_9 L_33 rfl ?_
  refine wp_iload_n dX6_weighStep_4 rfl ?_
  refine wp_baload dX6_weighStep_5 h1 L_34 h2 ?_
  exact wp_if_ne (tgt := 13) dX6_weighStep_6 rfl k1 k2
theorem b_X6_weighStep_9 {d : Nat} {Q : Option pV → pG → Prop} {g : pG} {v2 : Int} (h1 : 0 ≤ w32 (v2 + 1)) (h2 : w32 (v2 + 1) < 7) (k1 : ((g 36) (w32 (v2 + 1)).toNat ≠ 1) → EV d mX6_weighStep Q 74 [vR 33, vR 1, vI v2, vI 1, vI ((g 4) (w32 (v2 + 1)).toNat), vI (w32 (((g 4) (w32 (v2 + 1)).toNat) + ((g 37) (w32 (v2 + 1)).toNat)))] [] g) (k2 : ¬ ((g 36) (w32 (v2 + 1)).toNat ≠ 1) → EV d mX6_weighStep Q 65 [vR 33, vR 1, vI v2, vI 1, vI ((g 4) (w32 (v2 + 1)).toNat), vI (w32 (((g 4) (w32 (v2 + 1)).toNat) + ((g 37) (w32 (v2 + 1)).toNat)))] [] g) : EV d mX6_weighStep Q 9 [vR 33, vR 1, vI v2, vX 2, vX 2, vX 2] [] g := by
  refine wp_iconst dX6_weighStep_9 kc_1 ?_
  refine wp_goto (tgt := 14) dX6_weighStep_10 rfl ?_
  refine wp_istore_n dX6_weighStep_14 (Nat.le_of_ble_eq_true rfl) (pp (c := 2) rfl rfl) ?_
  refine wp_aload_n dX6_weighStep_15 rfl rfl ?_
  refine wp_get (v := vR 4) dX6_weighStep_16 fl_6_57 L_1 rfl ?_
  refine wp_iload_n dX6_weighStep_19 rfl ?_
  refine wp_iconst dX6_weighStep_20 kc_1 ?_
  refine wp_iadd dX6_weighStep_21 ?_
  refine wp_iaload dX6_weighStep_22 h1 L_4 h2 ?_
  refine wp_istore dX6_weighStep_23 (Nat.le_of_ble_eq_true rfl) (pp (c := 3) rfl rfl) ?_
  refine wp_iload dX6_weighStep_25 rfl ?_
  refine wp_iload_n dX6_weighStep_27 rfl ?_
  refine wp_if_eq (tgt := 42) dX6_weighStep_28 rfl (fun hh => absurd hh (by decide)) (fun _ => ?_)
  refine wp_aload_n dX6_weighStep_31 rfl rfl ?_
  refine wp_get (v := vR 37) dX6_weighStep_32 fl_6_21 L_33 rfl ?_
  refine wp_iload_n dX6_weighStep_35 rfl ?_
  refine wp_iconst dX6_weighStep_36 kc_1 ?_
  refine wp_iadd dX6_weighStep_37 ?_
  refine wp_iaload dX6_weighStep_38 h1 L_37 h2 ?_
  refine wp_goto (tgt := 50) dX6_weighStep_39 rfl ?_
  refine wp_iadd dX6_weighStep_50 ?_
  refine wp_istore dX6_weighStep_51 (Nat.le_of_ble_eq_true rfl) (pp (c := 4) rfl rfl) ?_
  refine wp_aload_n dX6_weighStep_53 rfl rfl ?_
  refine wp_get (v := vR 36) dX6_weighStep_54 fl_6_18 L_33 rfl ?_
  refine wp_iload_n dX6_weighStep_57 rfl ?_
  refine wp_iconst dX6_weighStep_58 kc_1 ?_
  refine wp_iadd dX6_weighStep_59 ?_
  refine wp_baload dX6_weighStep_60 h1 L_36 h2 ?_
  refine wp_iload_n dX6_weighStep_61 rfl ?_
  exact wp_icmp_ne (tgt := 74) dX6_weighStep_62 rfl k1 k2
theorem b_X6_weighStep_13 {d : Nat} {Q : Option pV → pG → Prop} {g : pG} {v2 : Int} (h1 : 0 ≤ w32 (v2 + 1)) (h2 : w32 (v2 + 1) < 7) (k1 : ((g 36) (w32 (v2 + 1)).toNat ≠ 0) → EV d mX6_weighStep Q 74 [vR 33, vR 1, vI v2, vI 0, vI ((g 4) (w32 (v2 + 1)).toNat), vI (w32 (((g 4) (w32 (v2 + 1)).toNat) + ((g 38) (w32 (v2 + 1)).toNat)))] [] g) (k2 : ¬ ((g 36) (w32 (v2 + 1)).toNat ≠ 0) → EV d mX6_weighStep Q 65 [vR 33, vR 1, vI v2, vI 0, vI ((g 4) (w32 (v2 + 1)).toNat), vI (w32 (((g 4) (w32 (v2 + 1)).toNat) + ((g 38) (w32 (v2 + 1)).toNat)))] [] g) : EV d mX6_weighStep Q 13 [vR 33, vR 1, vI v2, vX 2, vX 2, vX 2] [] g := by
  refine wp_iconst dX6_weighStep_13 kc_0 ?_
  refine wp_istore_n dX6_weighStep_14 (Nat.le_of_ble_eq_true rfl) (pp (c := 2) rfl rfl) ?_
  refine wp_aload_n dX6_weighStep_15 rfl rfl ?_
  refine wp_get (v := vR 4) dX6_weighStep_16 fl_6_57 L_1 rfl ?_
  refine wp_iload_n dX6_weighStep_19 rfl ?_
  refine wp_iconst dX6_weighStep_20 kc_1 ?_
  refine wp_iadd dX6_weighStep_21 ?_
  refine wp_iaload dX6_weighStep_22 h1 L_4 h2 ?_
  refine wp_istore dX6_weighStep_23 (Nat.le_of_ble_eq_true rfl) (pp (c := 3) rfl rfl) ?_
  refine wp_iload dX6_weighStep_25 rfl ?_
  refine wp_iload_n dX6_weighStep_27 rfl ?_
  refine wp_if_eq (tgt := 42) dX6_weighStep_28 rfl (fun _ => ?_) (fun hh => absurd (by decide) hh)
  refine wp_aload_n dX6_weighStep_42 rfl rfl ?_
  refine wp_get (v := vR 38) dX6_weighStep_43 fl_6_25 L_33 rfl ?_
  refine wp_iload_n dX6_weighStep_46 rfl ?_
  refine wp_iconst dX6_weighStep_47 kc_1 ?_
  refine wp_iadd dX6_weighStep_48 ?_
  refine wp_iaload dX6_weighStep_49 h1 L_38 h2 ?_
  refine wp_iadd dX6_weighStep_50 ?_
  refine wp_istore dX6_weighStep_51 (Nat.le_of_ble_eq_true rfl) (pp (c := 4) rfl rfl) ?_
  refine wp_aload_n dX6_weighStep_53 rfl rfl ?_
  refine wp_get (v := vR 36) dX6_weighStep_54 fl_6_18 L_33 rfl ?_
  refine wp_iload_n dX6_weighStep_57 rfl ?_
  refine wp_iconst dX6_weighStep_58 kc_1 ?_
  refine wp_iadd dX6_weighStep_59 ?_
  refine wp_baload dX6_weighStep_60 h1 L_36 h2 ?_
  refine wp_iload_n dX6_weighStep_61 rfl ?_
  exact wp_icmp_ne (tgt := 74) dX6_weighStep_62 rfl k1 k2
theorem b_X6_weighStep_65 {d : Nat} {Q : Option pV → pG → Prop} {g : pG} {v2 v3 v4 v5 : Int} (k1 : (v5 < (g 1) 5) → EV d mX6_weighStep Q 75 [vR 33, vR 1, vI v2, vI v3, vI v4, vI v5] [] g) (k2 : ¬ (v5 < (g 1) 5) → EV d mX6_weighStep Q 74 [vR 33, vR 1, vI v2, vI v3, vI v4, vI v5] [] g) : EV d mX6_weighStep Q 65 [vR 33, vR 1, vI v2, vI v3, vI v4, vI v5] [] g := by
  refine wp_aload_n dX6_weighStep_65 rfl rfl ?_
  refine wp_get (v := vI ((g 1) 5)) dX6_weighStep_66 fl_6_60 L_1 rfl ?_
  refine wp_iload dX6_weighStep_69 rfl ?_
  exact wp_icmp_gt (tgt := 75) dX6_weighStep_71 rfl k1 k2
theorem b_X6_weighStep_74 {d : Nat} {Q : Option pV → pG → Prop} {g : pG} {v2 v3 v4 v5 : Int} (hq : Q none g) : EV d mX6_weighStep Q 74 [vR 33, vR 1, vI v2, vI v3, vI v4, vI v5] [] g := by
  exact wp_vret dX6_weighStep_74 rfl hq
theorem b_X6_weighStep_75 {d : Nat} {Q : Option pV → pG → Prop} {g : pG} {v2 v3 v4 v5 : Int} (h1 : 0 ≤ v2) (h2 : v2 < 7) (h3 : 0 ≤ w32 (v2 + 1)) (h4 : w32 (v2 + 1) < 7) (h5 : (g 36) (w32 (v2 + 1)).toNat = 0 ∨ (g 36) (w32 (v2 + 1)).toNat = 1) (k1 : (v3 = 0) → EV d mX6_weighStep Q 118 [vR 33, vR 1, vI v2, vI v3, vI v4, vI v5] [vI ((g 37) (w32 (v2 + 1)).toNat), vI v2, vR 37] (cset (cset g 35 (fup (g 35) v2.toNat 1)) 36 (fup (g 36) v2.toNat ((g 36) (w32 (v2 + 1)).toNat)))) (k2 : ¬ (v3 = 0) → EV d mX6_weighStep Q 113 [vR 33, vR 1, vI v2, vI v3, vI v4, vI v5] [vI ((g 37) (w32 (v2 + 1)).toNat), vI v2, vR 37] (cset (cset g 35 (fup (g 35) v2.toNat 1)) 36 (fup (g 36) v2.toNat ((g 36) (w32 (v2 + 1)).toNat)))) : EV d mX6_weighStep Q 75 [vR 33, vR 1, vI v2, vI v3, vI v4, vI v5] [] g := by
  refine wp_aload_n dX6_weighStep_75 rfl rfl ?_
  refine wp_get (v := vR 35) dX6_weighStep_76 fl_6_15 L_33 rfl ?_
  refine wp_iload_n dX6_weighStep_79 rfl ?_
  refine wp_iconst dX6_weighStep_80 kc_1 ?_
  refine wp_bastore dX6_weighStep_81 h1 L_35 h2 (Or.inr rfl) ?_
  refine wp_aload_n dX6_weighStep_82 rfl rfl ?_
  refine wp_get (v := vR 36) dX6_weighStep_83 fl_6_18 L_33 rfl ?_
  refine wp_iload_n dX6_weighStep_86 rfl ?_
  refine wp_aload_n dX6_weighStep_87 rfl rfl ?_
  refine wp_get (v := vR 36) dX6_weighStep_88 fl_6_18 L_33 rfl ?_
  refine wp_iload_n dX6_weighStep_91 rfl ?_
  refine wp_iconst dX6_weighStep_92 kc_1 ?_
  refine wp_iadd dX6_weighStep_93 ?_
  refine wp_baload dX6_weighStep_94 h3 L_36 h4 ?_
  refine wp_bastore dX6_weighStep_95 h1 L_36 h2 h5 ?_
  refine wp_aload_n dX6_weighStep_96 rfl rfl ?_
  refine wp_get (v := vR 37) dX6_weighStep_97 fl_6_21 L_33 rfl ?_
  refine wp_iload_n dX6_weighStep_100 rfl ?_
  refine wp_aload_n dX6_weighStep_101 rfl rfl ?_
  refine wp_get (v := vR 37) dX6_weighStep_102 fl_6_21 L_33 rfl ?_
  refine wp_iload_n dX6_weighStep_105 rfl ?_
  refine wp_iconst dX6_weighStep_106 kc_1 ?_
  refine wp_iadd dX6_weighStep_107 ?_
  refine wp_iaload dX6_weighStep_108 h3 L_37 h4 ?_
  refine wp_iload_n dX6_weighStep_109 rfl ?_
  exact wp_if_eq (tgt := 118) dX6_weighStep_110 rfl k1 k2
theorem b_X6_weighStep_113 {d : Nat} {Q : Option pV → pG → Prop} {g : pG} {v2 v3 v4 v5 vs1 vs2 : Int} (h1 : 0 ≤ vs1) (h2 : vs1 < 7) (h3 : 0 ≤ w32 (v2 + 1)) (h4 : w32 (v2 + 1) < 7) (k1 : (v3 = 0) → EV d mX6_weighStep Q 142 [vR 33, vR 1, vI v2, vI v3, vI v4, vI v5] [vI ((g 38) (w32 (v2 + 1)).toNat), vI v2, vR 38] (cset g 37 (fup (g 37) vs1.toNat (w32 (vs2 + v4))))) (k2 : ¬ (v3 = 0) → EV d mX6_weighStep Q 138 [vR 33, vR 1, vI v2, vI v3, vI v4, vI v5] [vI ((g 38) (w32 (v2 + 1)).toNat), vI v2, vR 38] (cset g 37 (fup (g 37) vs1.toNat (w32 (vs2 + v4))))) : EV d mX6_weighStep Q 113 [vR 33, vR 1, vI v2, vI v3, vI v4, vI v5] [vI vs2, vI vs1, vR 37] g := by
  refine wp_iload dX6_weighStep_113 rfl ?_
  refine wp_goto (tgt := 119) dX6_weighStep_115 rfl ?_
  refine wp_iadd dX6_weighStep_119 ?_
  refine wp_iastore dX6_weighStep_120 h1 L_37 h2 ?_
  refine wp_aload_n dX6_weighStep_121 rfl rfl ?_
  refine wp_get (v := vR 38) dX6_weighStep_122 fl_6_25 L_33 rfl ?_
  refine wp_iload_n dX6_weighStep_125 rfl ?_
  refine wp_aload_n dX6_weighStep_126 rfl rfl ?_
  refine wp_get (v := vR 38) dX6_weighStep_127 fl_6_25 L_33 rfl ?_
  refine wp_iload_n dX6_weighStep_130 rfl ?_
  refine wp_iconst dX6_weighStep_131 kc_1 ?_
  refine wp_iadd dX6_weighStep_132 ?_
  refine wp_iaload dX6_weighStep_133 h3 L_38 h4 ?_
  refine wp_iload_n dX6_weighStep_134 rfl ?_
  exact wp_if_eq (tgt := 142) dX6_weighStep_135 rfl k1 k2
theorem b_X6_weighStep_118 {d : Nat} {Q : Option pV → pG → Prop} {g : pG} {v2 v3 v4 v5 vs1 vs2 : Int} (h1 : 0 ≤ vs1) (h2 : vs1 < 7) (h3 : 0 ≤ w32 (v2 + 1)) (h4 : w32 (v2 + 1) < 7) (k1 : (v3 = 0) → EV d mX6_weighStep Q 142 [vR 33, vR 1, vI v2, vI v3, vI v4, vI v5] [vI ((g 38) (w32 (v2 + 1)).toNat), vI v2, vR 38] (cset g 37 (fup (g 37) vs1.toNat (w32 (vs2 + 0))))) (k2 : ¬ (v3 = 0) → EV d mX6_weighStep Q 138 [vR 33, vR 1, vI v2, vI v3, vI v4, vI v5] [vI ((g 38) (w32 (v2 + 1)).toNat), vI v2, vR 38] (cset g 37 (fup (g 37) vs1.toNat (w32 (vs2 + 0))))) : EV d mX6_weighStep Q 118 [vR 33, vR 1, vI v2, vI v3, vI v4, vI v5] [vI vs2, vI vs1, vR 37] g := by
  refine wp_iconst dX6_weighStep_118 kc_0 ?_
  refine wp_iadd dX6_weighStep_119 ?_
  refine wp_iastore dX6_weighStep_120 h1 L_37 h2 ?_
  refine wp_aload_n dX6_weighStep_121 rfl rfl ?_
  refine wp_get (v := vR 38) dX6_weighStep_122 fl_6_25 L_33 rfl ?_
  refine wp_iload_n dX6_weighStep_125 rfl ?_
  refine wp_aload_n dX6_weighStep_126 rfl rfl ?_
  refine wp_get (v := vR 38) dX6_weighStep_127 fl_6_25 L_33 rfl ?_
  refine wp_iload_n dX6_weighStep_130 rfl ?_
  refine wp_iconst dX6_weighStep_131 kc_1 ?_
  refine wp_iadd dX6_weighStep_132 ?_
  refine wp_iaload dX6_weighStep_133 h3 L_38 h4 ?_
  refine wp_iload_n dX6_weighStep_134 rfl ?_
  exact wp_if_eq (tgt := 142) dX6_weighStep_135 rfl k1 k2
theorem b_X6_weighStep_138 {d : Nat} {Q : Option pV → pG → Prop} {g : pG} {v2 v3 v4 v5 vs1 vs2 : Int} (h1 : 0 ≤ vs1) (h2 : vs1 < 7) (hq : Q none (cset g 38 (fup (g 38) vs1.toNat (w32 (vs2 + 0))))) : EV d mX6_weighStep Q 138 [vR 33, vR 1, vI v2, vI v3, vI v4, vI v5] [vI vs2, vI vs1, vR 38] g := by
  refine wp_iconst dX6_weighStep_138 kc_0 ?_
  refine wp_goto (tgt := 144) dX6_weighStep_139 rfl ?_
  refine wp_iadd dX6_weighStep_144 ?_
  refine wp_iastore dX6_weighStep_145 h1 L_38 h2 ?_
  exact wp_vret dX6_weighStep_146 rfl hq
theorem b_X6_weighStep_142 {d : Nat} {Q : Option pV → pG → Prop} {g : pG} {v2 v3 v4 v5 vs1 vs2 : Int} (h1 : 0 ≤ vs1) (h2 : vs1 < 7) (hq : Q none (cset g 38 (fup (g 38) vs1.toNat (w32 (vs2 + v4))))) : EV d mX6_weighStep Q 142 [vR 33, vR 1, vI v2, vI v3, vI v4, vI v5] [vI vs2, vI vs1, vR 38] g := by
  refine wp_iload dX6_weighStep_142 rfl ?_
  refine wp_iadd dX6_weighStep_144 ?_
  refine wp_iastore dX6_weighStep_145 h1 L_38 h2 ?_
  exact wp_vret dX6_weighStep_146 rfl hq
theorem b_X6_through_0 {d : Nat} {Q : Option pV → pG → Prop} {g : pG} (k1 : ((g 33) 5 ≠ 0) → EV d mX6_through Q 9 [vR 33, vX 2] [] g) (k2 : ¬ ((g 33) 5 ≠ 0) → EV d mX6_through Q 7 [vR 33, vX 2] [] g) : EV d mX6_through Q 0 [vR 33, vX 2] [] g := by
  refine wp_aload_n dX6_through_0 rfl rfl ?_
  refine wp_get (v := vI ((g 33) 5)) dX6_through_1 fl_6_28 L_33 rfl ?_
  exact wp_if_ne (tgt := 9) dX6_through_4 rfl k1 k2
theorem b_X6_through_7 {d : Nat} {Q : Option pV → pG → Prop} {g : pG} (hq : Q (some (vI 0)) g) : EV d mX6_through Q 7 [vR 33, vX 2] [] g := by
  refine wp_iconst dX6_through_7 kc_0 ?_
  exact wp_iret dX6_through_8 rfl hq
theorem b_X6_through_9 {d : Nat} {Q : Option pV → pG → Prop} {g : pG} (k : EV d mX6_through Q 11 [vR 33, vI 0] [] g) : EV d mX6_through Q 9 [vR 33, vX 2] [] g := by
  refine wp_iconst dX6_through_9 kc_0 ?_
  refine wp_istore_n dX6_through_10 (Nat.le_of_ble_eq_true rfl) (pp (c := 0) rfl rfl) ?_
  exact k
theorem b_X6_through_11 {d : Nat} {Q : Option pV → pG → Prop} {g : pG} {v1 : Int} (k1 : (w32 (((g 33) 5) - 1) ≤ v1) → EV d mX6_through Q 36 [vR 33, vI v1] [] g) (k2 : ¬ (w32 (((g 33) 5) - 1) ≤ v1) → EV d mX6_through Q 21 [vR 33, vI v1] [] g) : EV d mX6_through Q 11 [vR 33, vI v1] [] g := by
  refine wp_iload_n dX6_through_11 rfl ?_
  refine wp_aload_n dX6_through_12 rfl rfl ?_
  refine wp_get (v := vI ((g 33) 5)) dX6_through_13 fl_6_28 L_33 rfl ?_
  refine wp_iconst dX6_through_16 kc_1 ?_
  refine wp_isub dX6_through_17 ?_
  exact wp_icmp_ge (tgt := 36) dX6_through_18 rfl k1 k2
theorem b_X6_through_21 {d : Nat} {Q : Option pV → pG → Prop} {g : pG} {v1 : Int} (h1 : 0 ≤ v1) (h2 : v1 < 7) (k1 : ((g 35) v1.toNat = 0) → EV d mX6_through Q 36 [vR 33, vI v1] [] g) (k2 : ¬ ((g 35) v1.toNat = 0) → EV d mX6_through Q 30 [vR 33, vI v1] [] g) : EV d mX6_through Q 21 [vR 33, vI v1] [] g := by
  refine wp_aload_n dX6_through_21 rfl rfl ?_
  refine wp_get (v := vR 35) dX6_through_22 fl_6_15 L_33 rfl ?_
  refine wp_iload_n dX6_through_25 rfl ?_
  refine wp_baload dX6_through_26 h1 L_35 h2 ?_
  exact wp_if_eq (tgt := 36) dX6_through_27 rfl k1 k2
theorem b_X6_through_30 {d : Nat} {Q : Option pV → pG → Prop} {g : pG} {v1 : Int} (k : EV d mX6_through Q 11 [vR 33, vI (w32 (v1 + 1))] [] g) : EV d mX6_through Q 30 [vR 33, vI v1] [] g := by
  refine wp_iinc dX6_through_30 rfl (Nat.le_of_ble_eq_true rfl) (pp (c := 0) rfl rfl) ?_
  refine wp_goto (tgt := 11) dX6_through_33 rfl ?_
  exact k
theorem b_X6_through_36 {d : Nat} {Q : Option pV → pG → Prop} {g : pG} {v1 : Int} (hq : Q (some (vI (w32 (v1 + 1)))) g) : EV d mX6_through Q 36 [vR 33, vI v1] [] g := by
  refine wp_iload_n dX6_through_36 rfl ?_
  refine wp_iconst dX6_through_37 kc_1 ?_
  refine wp_iadd dX6_through_38 ?_
  exact wp_iret dX6_through_39 rfl hq
theorem b_X1_go_0 {d : Nat} {Q : Option pV → pG → Prop} {g : pG} {v2 : Int} {R : pG → Prop} (hc : CT d mX3_copyFrom [vR 27, vR 5] g (qV R)) (k : ∀ gg : pG, R gg → EV d mX1_go Q 8 [vR 42, vR 1, vI v2, vR 27, vR 39, vX 2] [] gg) : EV d mX1_go Q 0 [vR 42, vR 1, vI v2, vR 27, vR 39, vX 2] [] g := by
  refine wp_aload_n dX1_go_0 rfl rfl ?_
  refine wp_aload_n dX1_go_1 rfl rfl ?_
  refine wp_get (v := vR 5) dX1_go_2 fl_1_22 L_1 rfl ?_
  exact wp_callvV (As := [vR 5]) dX1_go_5 ml_1_28 (by decide) rfl L_27 (by decide) rfl (Nat.le_of_ble_eq_true rfl) rfl (Nat.le_refl _) (Nat.le_refl _) hc k
theorem b_X1_go_8 {d : Nat} {Q : Option pV → pG → Prop} {g : pG} {v2 : Int} {R : Int → pG → Prop} (hc : CT d mX3_told [vR 27] (cset g 39 (fup (g 39) 2 0)) (qL R)) (k : ∀ (x : Int) (gg : pG), R x gg → EV d mX1_go Q 20 [vR 42, vR 1, vI v2, vR 27, vR 39, vX 2] [vL x, vR 39] gg) : EV d mX1_go Q 8 [vR 42, vR 1, vI v2, vR 27, vR 39, vX 2] [] g := by
  refine wp_aload dX1_go_8 rfl rfl ?_
  refine wp_iconst dX1_go_10 kc_0 ?_
  refine wp_putI dX1_go_11 fl_1_34 L_39 rfl rfl ?_
  refine wp_aload dX1_go_14 rfl rfl ?_
  refine wp_aload_n dX1_go_16 rfl rfl ?_
  exact wp_callvL (As := []) dX1_go_17 ml_1_39 (by decide) rfl L_27 (by decide) rfl (Nat.le_of_ble_eq_true rfl) rfl (Nat.le_refl _) (Nat.le_refl _) hc k
theorem b_X1_go_20 {d : Nat} {Q : Option pV → pG → Prop} {g : pG} {v2 ls1 : Int} {R : pG → Prop} (hc : CT d mX4_note [vR 39, vL ls1, vI 0] g (qV R)) (k : ∀ gg : pG, R gg → EV d mX1_go Q 24 [vR 42, vR 1, vI v2, vR 27, vR 39, vX 2] [] gg) : EV d mX1_go Q 20 [vR 42, vR 1, vI v2, vR 27, vR 39, vX 2] [vL ls1, vR 39] g := by
  refine wp_iconst dX1_go_20 kc_0 ?_
  exact wp_callvV (As := [vL ls1, vI 0]) dX1_go_21 ml_1_43 (by decide) rfl L_39 (by decide) rfl (Nat.le_of_ble_eq_true rfl) rfl (Nat.le_refl _) (Nat.le_refl _) hc k
theorem b_X1_go_24 {d : Nat} {Q : Option pV → pG → Prop} {g : pG} {v2 : Int} (k : EV d mX1_go Q 38 [vR 42, vR 1, vI v2, vR 27, vR 39, vI 0] [] (cset (cset g 42 (fup (g 42) 1 0)) 42 (fup (fup (g 42) 1 0) 2 (-9)))) : EV d mX1_go Q 24 [vR 42, vR 1, vI v2, vR 27, vR 39, vX 2] [] g := by
  refine wp_aload_n dX1_go_24 rfl rfl ?_
  refine wp_iconst dX1_go_25 kc_0 ?_
  refine wp_putI dX1_go_26 fl_1_15 L_42 rfl rfl ?_
  refine wp_aload_n dX1_go_29 rfl rfl ?_
  refine wp_bipush dX1_go_30 kb_m9 kc_m9 ?_
  refine wp_putI dX1_go_32 fl_1_19 L_42 rfl rfl ?_
  refine wp_iconst dX1_go_35 kc_0 ?_
  refine wp_istore dX1_go_36 (Nat.le_of_ble_eq_true rfl) (pp (c := 4) rfl rfl) ?_
  exact k
theorem b_X1_go_38 {d : Nat} {Q : Option pV → pG → Prop} {g : pG} {v2 v5 : Int} (k1 : ((g 1) 3 ≤ v5) → EV d mX1_go Q 124 [vR 42, vR 1, vI v2, vR 27, vR 39, vI v5] [] g) (k2 : ¬ ((g 1) 3 ≤ v5) → EV d mX1_go Q 47 [vR 42, vR 1, vI v2, vR 27, vR 39, vI v5] [] g) : EV d mX1_go Q 38 [vR 42, vR 1, vI v2, vR 27, vR 39, vI v5] [] g := by
  refine wp_iload dX1_go_38 rfl ?_
  refine wp_aload_n dX1_go_40 rfl rfl ?_
  refine wp_get (v := vI ((g 1) 3)) dX1_go_41 fl_1_47 L_1 rfl ?_
  exact wp_icmp_ge (tgt := 124) dX1_go_44 rfl k1 k2
theorem b_X1_go_47 {d : Nat} {Q : Option pV → pG → Prop} {g : pG} {v2 v5 : Int} (k1 : (200 ≤ (g 42) 1) → EV d mX1_go Q 124 [vR 42, vR 1, vI v2, vR 27, vR 39, vI v5] [] g) (k2 : ¬ (200 ≤ (g 42) 1) → EV d mX1_go Q 57 [vR 42, vR 1, vI v2, vR 27, vR 39, vI v5] [] g) : EV d mX1_go Q 47 [vR 42, vR 1, vI v2, vR 27, vR 39, vI v5] [] g := by
  refine wp_aload_n dX1_go_47 rfl rfl ?_
  refine wp_get (v := vI ((g 42) 1)) dX1_go_48 fl_1_15 L_42 rfl ?_
  refine wp_sipush dX1_go_51 ks_200 kc_200 ?_
  exact wp_icmp_ge (tgt := 124) dX1_go_54 rfl k1 k2
theorem b_X1_go_57 {d : Nat} {Q : Option pV → pG → Prop} {g : pG} {v2 v5 : Int} (k1 : ((g 42) 2 ≠ (-9)) → EV d mX1_go Q 124 [vR 42, vR 1, vI v2, vR 27, vR 39, vI v5] [] g) (k2 : ¬ ((g 42) 2 ≠ (-9)) → EV d mX1_go Q 66 [vR 42, vR 1, vI v2, vR 27, vR 39, vI v5] [] g) : EV d mX1_go Q 57 [vR 42, vR 1, vI v2, vR 27, vR 39, vI v5] [] g := by
  refine wp_aload_n dX1_go_57 rfl rfl ?_
  refine wp_get (v := vI ((g 42) 2)) dX1_go_58 fl_1_19 L_42 rfl ?_
  refine wp_bipush dX1_go_61 kb_m9 kc_m9 ?_
  exact wp_icmp_ne (tgt := 124) dX1_go_63 rfl k1 k2
theorem b_X1_go_66 {d : Nat} {Q : Option pV → pG → Prop} {g : pG} {v2 v5 : Int} {R : Int → pG → Prop} (hc : CT d mX5_sendsBack [vR 1, vI v5, vR 27, vI v2] (cset g 42 (fup (g 42) 1 (w32 (((g 42) 1) + 1)))) (qI R)) (k : ∀ (x : Int) (gg : pG), R x gg → EV d mX1_go Q 84 [vR 42, vR 1, vI v2, vR 27, vR 39, vI v5] [vI x] gg) : EV d mX1_go Q 66 [vR 42, vR 1, vI v2, vR 27, vR 39, vI v5] [] g := by
  refine wp_aload_n dX1_go_66 rfl rfl ?_
  refine wp_dup dX1_go_67 rfl ?_
  refine wp_get (v := vI ((g 42) 1)) dX1_go_68 fl_1_15 L_42 rfl ?_
  refine wp_iconst dX1_go_71 kc_1 ?_
  refine wp_iadd dX1_go_72 ?_
  refine wp_putI dX1_go_73 fl_1_15 L_42 rfl rfl ?_
  refine wp_aload_n dX1_go_76 rfl rfl ?_
  refine wp_iload dX1_go_77 rfl ?_
  refine wp_aload_n dX1_go_79 rfl rfl ?_
  refine wp_iload_n dX1_go_80 rfl ?_
  exact wp_callvI (As := [vI v5, vR 27, vI v2]) dX1_go_81 ml_1_50 (by decide) rfl L_1 (by decide) rfl (Nat.le_of_ble_eq_true rfl) rfl (Nat.le_refl _) (Nat.le_refl _) hc k
theorem b_X1_go_84 {d : Nat} {Q : Option pV → pG → Prop} {g : pG} {v2 v5 vs0 : Int} (k1 : (vs0 = 0) → EV d mX1_go Q 100 [vR 42, vR 1, vI v2, vR 27, vR 39, vI v5] [] g) (k2 : ¬ (vs0 = 0) → EV d mX1_go Q 87 [vR 42, vR 1, vI v2, vR 27, vR 39, vI v5] [] g) : EV d mX1_go Q 84 [vR 42, vR 1, vI v2, vR 27, vR 39, vI v5] [vI vs0] g := by
  exact wp_if_eq (tgt := 100) dX1_go_84 rfl k1 k2
theorem b_X1_go_87 {d : Nat} {Q : Option pV → pG → Prop} {g : pG} {v2 v5 : Int} {R : pG → Prop} (hc : CT d mX1_comeToFirst [vR 42, vR 27, vR 39] g (qV R)) (k : ∀ gg : pG, R gg → EV d mX1_go Q 97 [vR 42, vR 1, vI v2, vR 27, vR 39, vI 0] [] gg) : EV d mX1_go Q 87 [vR 42, vR 1, vI v2, vR 27, vR 39, vI v5] [] g := by
  refine wp_iconst dX1_go_87 kc_0 ?_
  refine wp_istore dX1_go_88 (Nat.le_of_ble_eq_true rfl) (pp (c := 4) rfl rfl) ?_
  refine wp_aload_n dX1_go_90 rfl rfl ?_
  refine wp_aload_n dX1_go_91 rfl rfl ?_
  refine wp_aload dX1_go_92 rfl rfl ?_
  exact wp_callvV (As := [vR 27, vR 39]) dX1_go_94 ml_1_54 (by decide) rfl L_42 (by decide) rfl (Nat.le_of_ble_eq_true rfl) rfl (Nat.le_refl _) (Nat.le_refl _) hc k
theorem b_X1_go_97 {d : Nat} {Q : Option pV → pG → Prop} {g : pG} {v2 v5 : Int} (k : EV d mX1_go Q 38 [vR 42, vR 1, vI v2, vR 27, vR 39, vI v5] [] g) : EV d mX1_go Q 97 [vR 42, vR 1, vI v2, vR 27, vR 39, vI v5] [] g := by
  refine wp_goto (tgt := 38) dX1_go_97 rfl ?_
  exact k
theorem b_X1_go_100 {d : Nat} {Q : Option pV → pG → Prop} {g : pG} {v2 v5 : Int} {R : pG → Prop} (h1 : 0 ≤ v5) (h2 : v5 < 7) (hc : CT d mX3_suffer [vR 27, vI ((g 2) v5.toNat), vI ((g 3) v5.toNat)] g (qV R)) (k : ∀ gg : pG, R gg → EV d mX1_go Q 118 [vR 42, vR 1, vI v2, vR 27, vR 39, vI v5] [] gg) : EV d mX1_go Q 100 [vR 42, vR 1, vI v2, vR 27, vR 39, vI v5] [] g := by
  refine wp_aload_n dX1_go_100 rfl rfl ?_
  refine wp_aload_n dX1_go_101 rfl rfl ?_
  refine wp_get (v := vR 2) dX1_go_102 fl_1_58 L_1 rfl ?_
  refine wp_iload dX1_go_105 rfl ?_
  refine wp_iaload dX1_go_107 h1 L_2 h2 ?_
  refine wp_aload_n dX1_go_108 rfl rfl ?_
  refine wp_get (v := vR 3) dX1_go_109 fl_1_62 L_1 rfl ?_
  refine wp_iload dX1_go_112 rfl ?_
  refine wp_iaload dX1_go_114 h1 L_3 h2 ?_
  exact wp_callvV (As := [vI ((g 2) v5.toNat), vI ((g 3) v5.toNat)]) dX1_go_115 ml_1_65 (by decide) rfl L_27 (by decide) rfl (Nat.le_of_ble_eq_true rfl) rfl (Nat.le_refl _) (Nat.le_refl _) hc k
theorem b_X1_go_118 {d : Nat} {Q : Option pV → pG → Prop} {g : pG} {v2 v5 : Int} (k : EV d mX1_go Q 38 [vR 42, vR 1, vI v2, vR 27, vR 39, vI (w32 (v5 + 1))] [] g) : EV d mX1_go Q 118 [vR 42, vR 1, vI v2, vR 27, vR 39, vI v5] [] g := by
  refine wp_iinc dX1_go_118 rfl (Nat.le_of_ble_eq_true rfl) (pp (c := 4) rfl rfl) ?_
  refine wp_goto (tgt := 38) dX1_go_121 rfl ?_
  exact k
theorem b_X1_go_124 {d : Nat} {Q : Option pV → pG → Prop} {g : pG} {v2 v5 : Int} (k1 : (v5 < (g 1) 3) → EV d mX1_go Q 138 [vR 42, vR 1, vI v2, vR 27, vR 39, vI v5] [vR 42] g) (k2 : ¬ (v5 < (g 1) 3) → EV d mX1_go Q 134 [vR 42, vR 1, vI v2, vR 27, vR 39, vI v5] [vR 42] g) : EV d mX1_go Q 124 [vR 42, vR 1, vI v2, vR 27, vR 39, vI v5] [] g := by
  refine wp_aload_n dX1_go_124 rfl rfl ?_
  refine wp_iload dX1_go_125 rfl ?_
  refine wp_aload_n dX1_go_127 rfl rfl ?_
  refine wp_get (v := vI ((g 1) 3)) dX1_go_128 fl_1_47 L_1 rfl ?_
  exact wp_icmp_lt (tgt := 138) dX1_go_131 rfl k1 k2
theorem b_X1_go_134 {d : Nat} {Q : Option pV → pG → Prop} {g : pG} {v2 v5 : Int} (hq : Q none (cset g 42 (fup (g 42) 0 1))) : EV d mX1_go Q 134 [vR 42, vR 1, vI v2, vR 27, vR 39, vI v5] [vR 42] g := by
  refine wp_iconst dX1_go_134 kc_1 ?_
  refine wp_goto (tgt := 139) dX1_go_135 rfl ?_
  refine wp_putZ dX1_go_139 fl_1_9 L_42 rfl rfl (Or.inr rfl) ?_
  exact wp_vret dX1_go_142 rfl hq
theorem b_X1_go_138 {d : Nat} {Q : Option pV → pG → Prop} {g : pG} {v2 v5 : Int} (hq : Q none (cset g 42 (fup (g 42) 0 0))) : EV d mX1_go Q 138 [vR 42, vR 1, vI v2, vR 27, vR 39, vI v5] [vR 42] g := by
  refine wp_iconst dX1_go_138 kc_0 ?_
  refine wp_putZ dX1_go_139 fl_1_9 L_42 rfl rfl (Or.inl rfl) ?_
  exact wp_vret dX1_go_142 rfl hq
theorem b_X1_comeToFirst_0 {d : Nat} {Q : Option pV → pG → Prop} {g : pG} {R : Int → pG → Prop} (hc : CT d mX3_told [vR 27] g (qL R)) (k : ∀ (x : Int) (gg : pG), R x gg → EV d mX1_comeToFirst Q 5 [vR 42, vR 27, vR 39, vX 2] [vL x, vR 39] gg) : EV d mX1_comeToFirst Q 0 [vR 42, vR 27, vR 39, vX 2] [] g := by
  refine wp_aload_n dX1_comeToFirst_0 rfl rfl ?_
  refine wp_aload_n dX1_comeToFirst_1 rfl rfl ?_
  exact wp_callvL (As := []) dX1_comeToFirst_2 ml_1_39 (by decide) rfl L_27 (by decide) rfl (Nat.le_of_ble_eq_true rfl) rfl (Nat.le_refl _) (Nat.le_refl _) hc k
theorem b_X1_comeToFirst_5 {d : Nat} {Q : Option pV → pG → Prop} {g : pG} {ls1 : Int} {R : Int → pG → Prop} (hc : CT d mX4_find [vR 39, vL ls1] g (qI R)) (k : ∀ (x : Int) (gg : pG), R x gg → EV d mX1_comeToFirst Q 8 [vR 42, vR 27, vR 39, vX 2] [vI x] gg) : EV d mX1_comeToFirst Q 5 [vR 42, vR 27, vR 39, vX 2] [vL ls1, vR 39] g := by
  exact wp_callvI (As := [vL ls1]) dX1_comeToFirst_5 ml_1_69 (by decide) rfl L_39 (by decide) rfl (Nat.le_of_ble_eq_true rfl) rfl (Nat.le_refl _) (Nat.le_refl _) hc k
theorem b_X1_comeToFirst_8 {d : Nat} {Q : Option pV → pG → Prop} {g : pG} {vs0 : Int} (k1 : (vs0 < 0) → EV d mX1_comeToFirst Q 26 [vR 42, vR 27, vR 39, vI vs0] [] g) (k2 : ¬ (vs0 < 0) → EV d mX1_comeToFirst Q 13 [vR 42, vR 27, vR 39, vI vs0] [] g) : EV d mX1_comeToFirst Q 8 [vR 42, vR 27, vR 39, vX 2] [vI vs0] g := by
  refine wp_istore_n dX1_comeToFirst_8 (Nat.le_of_ble_eq_true rfl) (pp (c := 2) rfl rfl) ?_
  refine wp_iload_n dX1_comeToFirst_9 rfl ?_
  exact wp_if_lt (tgt := 26) dX1_comeToFirst_10 rfl k1 k2
theorem b_X1_comeToFirst_13 {d : Nat} {Q : Option pV → pG → Prop} {g : pG} {v3 : Int} (hq : Q none (cset g 42 (fup (g 42) 2 (w32 (((g 42) 1) - v3))))) : EV d mX1_comeToFirst Q 13 [vR 42, vR 27, vR 39, vI v3] [] g := by
  refine wp_aload_n dX1_comeToFirst_13 rfl rfl ?_
  refine wp_aload_n dX1_comeToFirst_14 rfl rfl ?_
  refine wp_get (v := vI ((g 42) 1)) dX1_comeToFirst_15 fl_1_15 L_42 rfl ?_
  refine wp_iload_n dX1_comeToFirst_18 rfl ?_
  refine wp_isub dX1_comeToFirst_19 ?_
  refine wp_putI dX1_comeToFirst_20 fl_1_19 L_42 rfl rfl ?_
  refine wp_goto (tgt := 38) dX1_comeToFirst_23 rfl ?_
  exact wp_vret dX1_comeToFirst_38 rfl hq
theorem b_X1_comeToFirst_26 {d : Nat} {Q : Option pV → pG → Prop} {g : pG} {v3 : Int} {R : Int → pG → Prop} (hc : CT d mX3_told [vR 27] g (qL R)) (k : ∀ (x : Int) (gg : pG), R x gg → EV d mX1_comeToFirst Q 31 [vR 42, vR 27, vR 39, vI v3] [vL x, vR 39] gg) : EV d mX1_comeToFirst Q 26 [vR 42, vR 27, vR 39, vI v3] [] g := by
  refine wp_aload_n dX1_comeToFirst_26 rfl rfl ?_
  refine wp_aload_n dX1_comeToFirst_27 rfl rfl ?_
  exact wp_callvL (As := []) dX1_comeToFirst_28 ml_1_39 (by decide) rfl L_27 (by decide) rfl (Nat.le_of_ble_eq_true rfl) rfl (Nat.le_refl _) (Nat.le_refl _) hc k
theorem b_X1_comeToFirst_31 {d : Nat} {Q : Option pV → pG → Prop} {g : pG} {v3 ls1 : Int} {R : pG → Prop} (hc : CT d mX4_note [vR 39, vL ls1, vI ((g 42) 1)] g (qV R)) (k : ∀ gg : pG, R gg → EV d mX1_comeToFirst Q 38 [vR 42, vR 27, vR 39, vI v3] [] gg) : EV d mX1_comeToFirst Q 31 [vR 42, vR 27, vR 39, vI v3] [vL ls1, vR 39] g := by
  refine wp_aload_n dX1_comeToFirst_31 rfl rfl ?_
  refine wp_get (v := vI ((g 42) 1)) dX1_comeToFirst_32 fl_1_15 L_42 rfl ?_
  exact wp_callvV (As := [vL ls1, vI ((g 42) 1)]) dX1_comeToFirst_35 ml_1_43 (by decide) rfl L_39 (by decide) rfl (Nat.le_of_ble_eq_true rfl) rfl (Nat.le_refl _) (Nat.le_refl _) hc k
theorem b_X1_comeToFirst_38 {d : Nat} {Q : Option pV → pG → Prop} {g : pG} {v3 : Int} (hq : Q none g) : EV d mX1_comeToFirst Q 38 [vR 42, vR 27, vR 39, vI v3] [] g := by
  exact wp_vret dX1_comeToFirst_38 rfl hq
