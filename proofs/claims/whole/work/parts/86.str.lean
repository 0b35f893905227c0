/-! the texts: length, isEmpty, charAt, and the shape of a STATEMENT -/
theorem isRX {q : Nat} (h : 3 ≤ q) : isR (vX q) = true := by
  obtain ⟨k, rfl⟩ : ∃ k, q = k + 3 := ⟨q - 3, by omega⟩
  rfl
theorem zshL0 : ∀ j, j < 7 → zshr ((sLen j : Nat) : Int) 0 = ((sLen j : Nat) : Int) := by decide +kernel
theorem zc255 : ∀ j, j < 7 → ∀ k, k < 6 → zand (sCh j k) 255 = sCh j k := by decide +kernel
theorem s_coder {d j : Nat} {g : pG} (hj : j < 7) (hd : 1 ≤ d) : CT d mJ0_coder_7d493 [vX (j + 3)] g (qI fun x g' => x = 0 ∧ g' = g) := by
  refine ct_in hd (Nat.le_of_ble_eq_true rfl) rfl (fun e he => ?_)
  refine wp_gcomp dJ0_coder_7d493_0 rfl ?_
  refine wp_if_eq (tgt := 13) dJ0_coder_7d493_3 rfl (fun h => absurd h (by decide)) (fun _ => ?_)
  refine wp_aload_n dJ0_coder_7d493_6 rfl (isRX (Nat.le_add_left 3 j)) ?_
  refine wp_scod dJ0_coder_7d493_7 rfl (Nat.le_add_left 3 j) (by omega) ?_
  refine wp_goto (tgt := 14) dJ0_coder_7d493_10 rfl ?_
  exact wp_bret dJ0_coder_7d493_14 (Or.inl rfl) (by decide) (by decide) ⟨0, rfl, rfl, rfl⟩
theorem s_length {d j : Nat} {g : pG} (hj : j < 7) (hd : 2 ≤ d) : CT d mJ0_length_8abf5 [vX (j + 3)] g (qI fun x g' => x = ((sLen j : Nat) : Int) ∧ g' = g) := by
  refine ct_in (by omega) (Nat.le_of_ble_eq_true rfl) rfl (fun e he => ?_)
  refine wp_aload_n dJ0_length_8abf5_0 rfl (isRX (Nat.le_add_left 3 j)) ?_
  refine wp_sval dJ0_length_8abf5_1 rfl (Nat.le_add_left 3 j) (by omega) ?_
  refine wp_blen (q := j) dJ0_length_8abf5_4 hj ?_
  refine wp_aload_n dJ0_length_8abf5_5 rfl (isRX (Nat.le_add_left 3 j)) ?_
  refine wp_callxI (As := []) (q := j + 3) dJ0_length_8abf5_6 ml_12_335 rfl (Nat.le_add_left 3 j) (by omega) rfl (Nat.le_of_ble_eq_true rfl) rfl (Nat.le_refl _) (Nat.le_refl _) (s_coder (d := e) hj (by omega)) ?_
  rintro x gg ⟨rfl, rfl⟩
  refine wp_ishr dJ0_length_8abf5_9 ?_
  rw [zshL0 j hj]
  exact wp_iret dJ0_length_8abf5_10 rfl ⟨_, rfl, rfl, rfl⟩
theorem s_isEmpty {d j : Nat} {g : pG} (hj : j < 7) (hd : 1 ≤ d) : CT d mJ0_isEmpty_aae02 [vX (j + 3)] g (qI fun x g' => x = (if sLen j = 0 then 1 else 0) ∧ g' = g) := by
  refine ct_in hd (Nat.le_of_ble_eq_true rfl) rfl (fun e he => ?_)
  refine wp_aload_n dJ0_isEmpty_aae02_0 rfl (isRX (Nat.le_add_left 3 j)) ?_
  refine wp_sval dJ0_isEmpty_aae02_1 rfl (Nat.le_add_left 3 j) (by omega) ?_
  refine wp_blen (q := j) dJ0_isEmpty_aae02_4 hj ?_
  refine wp_if_ne (tgt := 12) dJ0_isEmpty_aae02_5 rfl (fun h => ?_) (fun h => ?_)
  · refine wp_iconst dJ0_isEmpty_aae02_12 (by decide) ?_
    exact wp_zret dJ0_isEmpty_aae02_13 rfl (Or.inl rfl) ⟨0, rfl, by rw [if_neg (by omega)], rfl⟩
  · refine wp_iconst dJ0_isEmpty_aae02_8 (by decide) ?_
    refine wp_goto (tgt := 13) dJ0_isEmpty_aae02_9 rfl ?_
    exact wp_zret dJ0_isEmpty_aae02_13 rfl (Or.inr rfl) ⟨1, rfl, by rw [if_pos (by omega)], rfl⟩
theorem s_isLatin1 {d j : Nat} {g : pG} (hj : j < 7) (hd : 1 ≤ d) : CT d mJ0_isLatin1_aae02 [vX (j + 3)] g (qI fun x g' => x = 1 ∧ g' = g) := by
  refine ct_in hd (Nat.le_of_ble_eq_true rfl) rfl (fun e he => ?_)
  refine wp_gcomp dJ0_isLatin1_aae02_0 rfl ?_
  refine wp_if_eq (tgt := 17) dJ0_isLatin1_aae02_3 rfl (fun h => absurd h (by decide)) (fun _ => ?_)
  refine wp_aload_n dJ0_isLatin1_aae02_6 rfl (isRX (Nat.le_add_left 3 j)) ?_
  refine wp_scod dJ0_isLatin1_aae02_7 rfl (Nat.le_add_left 3 j) (by omega) ?_
  refine wp_if_ne (tgt := 17) dJ0_isLatin1_aae02_10 rfl (fun h => absurd rfl h) (fun _ => ?_)
  refine wp_iconst dJ0_isLatin1_aae02_13 (by decide) ?_
  refine wp_goto (tgt := 18) dJ0_isLatin1_aae02_14 rfl ?_
  exact wp_zret dJ0_isLatin1_aae02_18 rfl (Or.inr rfl) ⟨1, rfl, rfl, rfl⟩
theorem s_check3 {d : Nat} {g : pG} {i n : Int} {v : pV} (hv : v = vX 0 ∨ v = vX 18) (h0 : 0 ≤ i) (h1 : i < n) (hd : 1 ≤ d) : CT d mJ3_checkIndex_8e157 [vI i, vI n, v] g (qI fun x g' => x = i ∧ g' = g) := by
  rcases hv with rfl | rfl
  · refine ct_in hd (Nat.le_of_ble_eq_true rfl) rfl (fun e he => ?_)
    refine wp_iload_n dJ3_checkIndex_8e157_0 rfl ?_
    refine wp_if_lt (tgt := 9) dJ3_checkIndex_8e157_1 rfl (fun h => absurd h0 (by omega)) (fun _ => ?_)
    refine wp_iload_n dJ3_checkIndex_8e157_4 rfl ?_
    refine wp_iload_n dJ3_checkIndex_8e157_5 rfl ?_
    refine wp_icmp_lt (tgt := 16) dJ3_checkIndex_8e157_6 rfl (fun _ => ?_) (fun h => absurd h1 h)
    refine wp_iload_n dJ3_checkIndex_8e157_16 rfl ?_
    exact wp_iret dJ3_checkIndex_8e157_17 rfl ⟨_, rfl, rfl, rfl⟩
  · refine ct_in hd (Nat.le_of_ble_eq_true rfl) rfl (fun e he => ?_)
    refine wp_iload_n dJ3_checkIndex_8e157_0 rfl ?_
    refine wp_if_lt (tgt := 9) dJ3_checkIndex_8e157_1 rfl (fun h => absurd h0 (by omega)) (fun _ => ?_)
    refine wp_iload_n dJ3_checkIndex_8e157_4 rfl ?_
    refine wp_iload_n dJ3_checkIndex_8e157_5 rfl ?_
    refine wp_icmp_lt (tgt := 16) dJ3_checkIndex_8e157_6 rfl (fun _ => ?_) (fun h => absurd h1 h)
    refine wp_iload_n dJ3_checkIndex_8e157_16 rfl ?_
    exact wp_iret dJ3_checkIndex_8e157_17 rfl ⟨_, rfl, rfl, rfl⟩
theorem s_check {d : Nat} {g : pG} {i n : Int} (h0 : 0 ≤ i) (h1 : i < n) (hd : 2 ≤ d) : CT d mJ0_checkIndex_df160 [vI i, vI n] g (qV fun g' => g' = g) := by
  refine ct_in (by omega) (Nat.le_of_ble_eq_true rfl) rfl (fun e he => ?_)
  refine wp_iload_n dJ0_checkIndex_df160_0 rfl ?_
  refine wp_iload_n dJ0_checkIndex_df160_1 rfl ?_
  refine wp_gform rfl dJ0_checkIndex_df160_2 (fun v hv => ?_)
  refine wp_callsI (As := [vI i, vI n, v]) dJ0_checkIndex_df160_5 ml_12_1059 (Or.inl rfl) rfl (Nat.le_of_ble_eq_true rfl) rfl (Nat.le_refl _) (Nat.le_refl _) (s_check3 (d := e) hv h0 h1 (by omega)) ?_
  rintro x gg ⟨rfl, rfl⟩
  refine wp_pop dJ0_checkIndex_df160_8 rfl ?_
  exact wp_vret dJ0_checkIndex_df160_9 rfl ⟨rfl, rfl⟩
theorem s_charAt1 {d j : Nat} {g : pG} {i : Int} (hj : j < 7) (h0 : 0 ≤ i) (h1 : i < ((sLen j : Nat) : Int)) (hd : 3 ≤ d) : CT d mJ1_charAt_3b067 [vX (j + 10), vI i] g (qI fun x g' => x = sCh j i.toNat ∧ g' = g) := by
  have hl6 := sLen_le j hj
  have hi6 : i.toNat < 6 := by omega
  refine ct_in (by omega) (Nat.le_of_ble_eq_true rfl) rfl (fun e he => ?_)
  refine wp_iload_n dJ1_charAt_3b067_0 rfl ?_
  refine wp_aload_n dJ1_charAt_3b067_1 rfl (isRX (by omega)) ?_
  refine wp_blen (q := j) dJ1_charAt_3b067_2 hj ?_
  refine wp_callsV (As := [vI i, vI ((sLen j : Nat) : Int)]) dJ1_charAt_3b067_3 ml_13_9 (Or.inl rfl) rfl (Nat.le_of_ble_eq_true rfl) rfl (Nat.le_refl _) (Nat.le_refl _) (s_check (d := e) h0 h1 (by omega)) ?_
  rintro gg rfl
  refine wp_aload_n dJ1_charAt_3b067_6 rfl (isRX (by omega)) ?_
  refine wp_iload_n dJ1_charAt_3b067_7 rfl ?_
  refine wp_bch (q := j) dJ1_charAt_3b067_8 hj h0 h1 ?_
  refine wp_sipush dJ1_charAt_3b067_9 (by decide +kernel) (by decide +kernel) ?_
  refine wp_iand dJ1_charAt_3b067_12 ?_
  rw [zc255 j hj _ hi6]
  have hb := sCh_bd j hj _ hi6
  refine wp_i2c dJ1_charAt_3b067_13 hb.2.1 hb.2.2 ?_
  exact wp_bret dJ1_charAt_3b067_14 (Or.inr rfl) hb.2.1 hb.2.2 ⟨_, rfl, rfl, rfl⟩
theorem s_charAt {d j : Nat} {g : pG} {i : Int} (hj : j < 7) (h0 : 0 ≤ i) (h1 : i < ((sLen j : Nat) : Int)) (hd : 4 ≤ d) : CT d mJ0_charAt_5068e [vX (j + 3), vI i] g (qI fun x g' => x = sCh j i.toNat ∧ g' = g) := by
  have hl6 := sLen_le j hj
  have hi6 : i.toNat < 6 := by omega
  refine ct_in (by omega) (Nat.le_of_ble_eq_true rfl) rfl (fun e he => ?_)
  refine wp_aload_n dJ0_charAt_5068e_0 rfl (isRX (Nat.le_add_left 3 j)) ?_
  refine wp_callxI (As := []) (q := j + 3) dJ0_charAt_5068e_1 ml_12_492 rfl (Nat.le_add_left 3 j) (by omega) rfl (Nat.le_of_ble_eq_true rfl) rfl (Nat.le_refl _) (Nat.le_refl _) (s_isLatin1 (d := e) hj (by omega)) ?_
  rintro x gg ⟨rfl, rfl⟩
  refine wp_if_eq (tgt := 16) dJ0_charAt_5068e_4 rfl (fun h => absurd h (by decide)) (fun _ => ?_)
  refine wp_aload_n dJ0_charAt_5068e_7 rfl (isRX (Nat.le_add_left 3 j)) ?_
  refine wp_sval dJ0_charAt_5068e_8 rfl (Nat.le_add_left 3 j) (by omega) ?_
  refine wp_iload_n dJ0_charAt_5068e_11 rfl ?_
  refine wp_callsI (As := [vX (j + 10), vI i]) dJ0_charAt_5068e_12 ml_12_495 (Or.inl rfl) rfl (Nat.le_of_ble_eq_true rfl) rfl (Nat.le_refl _) (Nat.le_refl _) (s_charAt1 (d := e) hj h0 h1 (by omega)) ?_
  rintro x gg ⟨rfl, rfl⟩
  have hb := sCh_bd j hj _ hi6
  exact wp_bret dJ0_charAt_5068e_15 (Or.inr rfl) hb.2.1 hb.2.2 ⟨_, rfl, rfl, rfl⟩
/-- which shape a letter opens -/
def shp (o : Int) : Nat := if o = 99 then 1 else if o = 110 then 2 else if o = 112 then 3 else if o = 115 then 4 else if o = 108 then 5 else if o = 117 then 6 else 0
theorem shp_lt (o : Int) : shp o < 7 := by
  unfold shp
  repeat' split
  all_goals omega
theorem s_shape {d : Nat} {g : pG} {o : Int} (hd : 1 ≤ d) : CT d mX2_shape [vI o] g (qS fun x g' => x = shp o + 3 ∧ g' = g) := by
  refine ct_in hd (Nat.le_of_ble_eq_true rfl) rfl (fun e he => ?_)
  have kd : shp o = 0 → EV e mX2_shape (qS fun x g' => x = shp o + 3 ∧ g' = g) 110 [vI o] [] g := by
    intro h
    refine wp_ldcs dX2_shape_110 sl_2_35 ?_
    exact wp_aret dX2_shape_112 rfl (by decide) ⟨3, rfl, by rw [h], rfl⟩
  refine wp_iload_n dX2_shape_0 rfl ?_
  refine wp_tsw (x := o) dX2_shape_1 (fun hh => ⟨110, rfl, kd (by unfold shp; rw [if_neg (by omega), if_neg (by omega), if_neg (by omega), if_neg (by omega), if_neg (by omega), if_neg (by omega)])⟩) (fun hh hh2 => ?_)
  rcases (show o = 99 ∨ o = 100 ∨ o = 101 ∨ o = 102 ∨ o = 103 ∨ o = 104 ∨ o = 105 ∨ o = 106 ∨ o = 107 ∨ o = 108 ∨ o = 109 ∨ o = 110 ∨ o = 111 ∨ o = 112 ∨ o = 113 ∨ o = 114 ∨ o = 115 ∨ o = 116 ∨ o = 117 by omega) with hq | hq | hq | hq | hq | hq | hq | hq | hq | hq | hq | hq | hq | hq | hq | hq | hq | hq | hq
  · refine ⟨91, 92, by rw [hq]; rfl, rfl, ?_⟩
    refine wp_ldcs dX2_shape_92 sl_2_23 ?_
    exact wp_aret dX2_shape_94 rfl (by decide) ⟨4, rfl, by rw [hq]; rfl, rfl⟩
  · exact ⟨109, 110, by rw [hq]; rfl, rfl, kd (by rw [hq]; rfl)⟩
  · exact ⟨109, 110, by rw [hq]; rfl, rfl, kd (by rw [hq]; rfl)⟩
  · exact ⟨109, 110, by rw [hq]; rfl, rfl, kd (by rw [hq]; rfl)⟩
  · exact ⟨109, 110, by rw [hq]; rfl, rfl, kd (by rw [hq]; rfl)⟩
  · exact ⟨109, 110, by rw [hq]; rfl, rfl, kd (by rw [hq]; rfl)⟩
  · exact ⟨109, 110, by rw [hq]; rfl, rfl, kd (by rw [hq]; rfl)⟩
  · exact ⟨109, 110, by rw [hq]; rfl, rfl, kd (by rw [hq]; rfl)⟩
  · exact ⟨109, 110, by rw [hq]; rfl, rfl, kd (by rw [hq]; rfl)⟩
  · refine ⟨103, 104, by rw [hq]; rfl, rfl, ?_⟩
    refine wp_ldcs dX2_shape_104 sl_2_31 ?_
    exact wp_aret dX2_shape_106 rfl (by decide) ⟨8, rfl, by rw [hq]; rfl, rfl⟩
  · exact ⟨109, 110, by rw [hq]; rfl, rfl, kd (by rw [hq]; rfl)⟩
  · refine ⟨94, 95, by rw [hq]; rfl, rfl, ?_⟩
    refine wp_ldcs dX2_shape_95 sl_2_25 ?_
    exact wp_aret dX2_shape_97 rfl (by decide) ⟨5, rfl, by rw [hq]; rfl, rfl⟩
  · exact ⟨109, 110, by rw [hq]; rfl, rfl, kd (by rw [hq]; rfl)⟩
  · refine ⟨97, 98, by rw [hq]; rfl, rfl, ?_⟩
    refine wp_ldcs dX2_shape_98 sl_2_27 ?_
    exact wp_aret dX2_shape_100 rfl (by decide) ⟨6, rfl, by rw [hq]; rfl, rfl⟩
  · exact ⟨109, 110, by rw [hq]; rfl, rfl, kd (by rw [hq]; rfl)⟩
  · exact ⟨109, 110, by rw [hq]; rfl, rfl, kd (by rw [hq]; rfl)⟩
  · refine ⟨100, 101, by rw [hq]; rfl, rfl, ?_⟩
    refine wp_ldcs dX2_shape_101 sl_2_29 ?_
    exact wp_aret dX2_shape_103 rfl (by decide) ⟨7, rfl, by rw [hq]; rfl, rfl⟩
  · exact ⟨109, 110, by rw [hq]; rfl, rfl, kd (by rw [hq]; rfl)⟩
  · refine ⟨106, 107, by rw [hq]; rfl, rfl, ?_⟩
    refine wp_ldcs dX2_shape_107 sl_2_33 ?_
    exact wp_aret dX2_shape_109 rfl (by decide) ⟨9, rfl, by rw [hq]; rfl, rfl⟩
