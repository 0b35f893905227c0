/-! Letters.firstBad -/
def FJ (sg : Nat → Int) (n a j i : Nat) : Prop := ∃ k : Nat, okTo sg k ∧ a = ltP sg k + i ∧ (k = 0 ∨ ltP sg k < n) ∧ j = shp (sg (ltP sg k)) ∧ (∀ u, u < i → suF (sg (ltP sg k + u)) (sCh (shp (sg (ltP sg k))) u)) ∧ (i = 0 ∨ i < sLen j)
theorem FJ_bad {sg : Nat → Int} {n a j i : Nat} (h : FJ sg n a j i) (hb : sLen j = 0 ∨ (i < sLen j ∧ ¬ suF (sg a) (sCh j i))) : FB sg n a := by
  obtain ⟨k, h1, h2, h3, h4, h5, h6⟩ := h
  refine Or.inr ⟨k, a, h1, h3, ?_, rfl⟩
  have hj7 := shp_lt (sg (ltP sg k))
  by_cases hz : shp (sg (ltP sg k)) = 0
  · have : sLen j = 0 := by rw [h4, hz]; rfl
    exact Or.inl ⟨hz, by omega⟩
  · have hp := sLen_pos _ hj7 (by omega)
    rw [← h4] at hp
    rcases hb with hb | ⟨hb1, hb2⟩
    · omega
    · refine Or.inr ⟨by omega, i, by rw [← h4]; exact hb1, h2, h5, ?_⟩
      rw [← h2, ← h4]
      exact hb2
theorem FJ_next {sg : Nat → Int} {n a j i : Nat} (h : FJ sg n a j i) (hi : i < sLen j) (hs : suF (sg a) (sCh j i)) : FI sg n (a + 1) j (i + 1) := by
  obtain ⟨k, h1, h2, h3, h4, h5, h6⟩ := h
  refine ⟨k, h1, by omega, h3, fun u hu => ?_, Or.inl ⟨by omega, h4, ?_, by omega⟩⟩
  · rcases (show u < i ∨ u = i by omega) with q | q
    · exact h5 u q
    · rw [q, ← h2, ← h4]; exact hs
  · rcases Nat.eq_zero_or_pos j with q | q
    · rw [q] at hi
      exact absurd hi (Nat.not_lt_zero _)
    · exact q
theorem FI_stay {sg : Nat → Int} {n a j i : Nat} (h : FI sg n a j i) (hi : i < sLen j) : FJ sg n a j i := by
  obtain ⟨k, h1, h2, h3, h5, h6⟩ := h
  rcases h6 with ⟨q1, q2, q3, q4⟩ | ⟨q1, q2, q3⟩
  · exact ⟨k, h1, h2, h3, q2, h5, Or.inr hi⟩
  · rw [q2] at hi
    exact absurd hi (Nat.not_lt_zero _)
theorem FI_ok {sg : Nat → Int} {a j i k : Nat} (h1 : okTo sg k) (h2 : a = ltP sg k + i) (h5 : ∀ u, u < i → suF (sg (ltP sg k + u)) (sCh (shp (sg (ltP sg k))) u)) (q2 : j = shp (sg (ltP sg k))) (q3 : 1 ≤ j) (hi : sLen j = i) : okTo sg (k + 1) ∧ ltP sg (k + 1) = a := by
  refine ⟨okTo_succ h1 ⟨by omega, fun t ht => h5 t (by rw [← q2] at ht; omega)⟩, ?_⟩
  show ltP sg k + sLen (shp (sg (ltP sg k))) = a
  rw [← q2]
  omega
theorem FI_new {sg : Nat → Int} {n a j i : Nat} (h : FI sg n a j i) (hi : sLen j ≤ i) (ha : a < n) : FJ sg n a (shp (sg a)) 0 := by
  obtain ⟨k, h1, h2, h3, h5, h6⟩ := h
  rcases h6 with ⟨q1, q2, q3, q4⟩ | ⟨q1, q2, q3⟩
  · obtain ⟨z1, z2⟩ := FI_ok h1 h2 h5 q2 q3 (by omega)
    exact ⟨k + 1, z1, by omega, Or.inr (by omega), by rw [z2], fun u hu => absurd hu (Nat.not_lt_zero u), Or.inl rfl⟩
  · have h0 : ltP sg k = 0 := by rw [q3]; rfl
    exact ⟨k, h1, by omega, Or.inl q3, by rw [show ltP sg k = a by omega], fun u hu => absurd hu (Nat.not_lt_zero u), Or.inl rfl⟩
theorem FI_end {sg : Nat → Int} {n j i : Nat} (h : FI sg n n j i) (hn : 0 < n) (hs : sg n = -1) : (i = sLen j → FB sg n (-1)) ∧ (i ≠ sLen j → FB sg n n) := by
  obtain ⟨k, h1, h2, h3, h5, h6⟩ := h
  rcases h6 with ⟨q1, q2, q3, q4⟩ | ⟨q1, q2, q3⟩
  · refine ⟨fun hi => ?_, fun hi => ?_⟩
    · obtain ⟨z1, z2⟩ := FI_ok h1 h2 h5 q2 q3 hi.symm
      exact Or.inl ⟨rfl, k + 1, by omega, z1, z2⟩
    · refine Or.inr ⟨k, n, h1, h3, Or.inr ⟨by omega, i, by rw [← q2]; omega, h2, h5, ?_⟩, rfl⟩
      rw [← h2, hs, ← q2]
      exact not_su (by rw [q2]; exact shp_lt _) (by omega)
  · have h0 : ltP sg k = 0 := by rw [q3]; rfl
    omega
abbrev sgN (g : pG) : Nat → Int := fun i => sgn (g 20) (g 19 1) (i : Int)
theorem sgN_lt {g : pG} {n i : Nat} (hn : g 19 1 = (n : Int)) (hi : i < n) : sgN g i = g 20 i := by
  show sgn (g 20) (g 19 1) (i : Int) = g 20 i
  unfold sgn
  rw [if_neg (by omega)]
  rfl
theorem sgN_ge {g : pG} {n i : Nat} (hn : g 19 1 = (n : Int)) (hi : n ≤ i) : sgN g i = -1 := by
  show sgn (g 20) (g 19 1) (i : Int) = -1
  unfold sgn
  rw [if_pos (by omega)]
theorem s_firstBad {d n : Nat} {g : pG} (hn : g 19 1 = (n : Int)) (h96 : n ≤ 96) (hd : 6 ≤ d) : CT d mX2_firstBad [vR 19] g (qI fun x g' => FB (sgN g) n x ∧ g' = g) := by
  refine ct_in (by omega) (Nat.le_of_ble_eq_true rfl) rfl (fun e he => ?_)
  have ret : ∀ (a : Nat) (u : pV) (v : Int), FB (sgN g) n a → EV e mX2_firstBad (qI fun x g' => FB (sgN g) n x ∧ g' = g) 59 [vR 19, u, vI v, vI (a : Int)] [] g := by
    intro a u v h
    refine wp_iload_n dX2_firstBad_59 rfl ?_
    exact wp_iret dX2_firstBad_60 rfl ⟨_, rfl, h, rfl⟩
  have ret89 : ∀ (u : pV) (v w : Int), FB (sgN g) n n → EV e mX2_firstBad (qI fun x g' => FB (sgN g) n x ∧ g' = g) 89 [vR 19, u, vI v, vI w] [] g := by
    intro u v w h
    refine wp_aload_n dX2_firstBad_89 rfl rfl ?_
    refine wp_get (v := vI (g 19 1)) dX2_firstBad_90 fl_2_15 L_19 rfl ?_
    exact wp_iret dX2_firstBad_93 rfl ⟨_, rfl, by rw [hn]; exact h, rfl⟩
  have tail35 : ∀ (a j i : Nat), a < n → j < 7 → FJ (sgN g) n a j i → (FI (sgN g) n (a + 1) j (i + 1) → EV e mX2_firstBad (qI fun x g' => FB (sgN g) n x ∧ g' = g) 7 [vR 19, vX (j + 3), vI ((i + 1 : Nat) : Int), vI ((a + 1 : Nat) : Int)] [] g) → EV e mX2_firstBad (qI fun x g' => FB (sgN g) n x ∧ g' = g) 35 [vR 19, vX (j + 3), vI (i : Int), vI (a : Int)] [] g := by
    intro a j i ha hj hJ hnext
    have hl6 := sLen_le j hj
    have hsg := sgN_lt hn ha
    have hil : sLen j ≠ 0 → i < sLen j := by
      obtain ⟨k, -, -, -, -, -, h6⟩ := hJ
      omega
    refine wp_aload_n dX2_firstBad_35 rfl (isRX (Nat.le_add_left 3 j)) ?_
    refine wp_callxI (As := []) (q := j + 3) dX2_firstBad_36 ml_2_47 rfl (Nat.le_add_left 3 j) (by omega) rfl (Nat.le_of_ble_eq_true rfl) rfl (Nat.le_refl _) (Nat.le_refl _) (s_isEmpty (d := e) hj (by omega)) ?_
    intro x gg hx
    obtain ⟨hx, hg⟩ := hx
    rw [hg]
    refine wp_if_ne (tgt := 59) dX2_firstBad_39 rfl (fun h => ?_) (fun h => ?_)
    · refine ret a _ _ (FJ_bad hJ (Or.inl ?_))
      by_cases hz : sLen j = 0
      · exact hz
      · rw [if_neg hz] at hx; exact absurd hx h
    · have hz : sLen j ≠ 0 := fun hz => by rw [if_pos hz] at hx; omega
      have hi := hil hz
      refine wp_aload_n dX2_firstBad_42 rfl rfl ?_
      refine wp_get (v := vR 20) dX2_firstBad_43 fl_2_9 L_19 rfl ?_
      refine wp_iload_n dX2_firstBad_46 rfl ?_
      refine wp_iaload dX2_firstBad_47 (by omega) L_20 (by omega) ?_
      refine wp_aload_n dX2_firstBad_48 rfl (isRX (Nat.le_add_left 3 j)) ?_
      refine wp_iload_n dX2_firstBad_49 rfl ?_
      refine wp_callxI (As := [vI (i : Int)]) (q := j + 3) dX2_firstBad_50 ml_2_51 rfl (Nat.le_add_left 3 j) (by omega) rfl (Nat.le_of_ble_eq_true rfl) rfl (Nat.le_refl _) (Nat.le_refl _) (s_charAt (d := e) hj (by omega) (by omega) (by omega)) ?_
      intro x2 g2 hx2
      obtain ⟨hx2, hg2⟩ := hx2
      rw [hg2, hx2]
      refine wp_callsI (As := [vI (g 20 (a : Int).toNat), vI (sCh j (i : Int).toNat)]) dX2_firstBad_53 ml_2_55 (Or.inl rfl) rfl (Nat.le_of_ble_eq_true rfl) rfl (Nat.le_refl _) (Nat.le_refl _) (s_suits (d := e) (by omega)) ?_
      intro x3 g3 hx3
      obtain ⟨hx3, hg3⟩ := hx3
      rw [hg3]
      have ea : (a : Int).toNat = a := Int.toNat_natCast a
      have ei : (i : Int).toNat = i := Int.toNat_natCast i
      rw [ea, ei, ← hsg] at hx3
      refine wp_if_ne (tgt := 61) dX2_firstBad_56 rfl (fun h4 => ?_) (fun h4 => ?_)
      · have hsu : suF (sgN g a) (sCh j i) := by
          rcases bi_cases (suF (sgN g a) (sCh j i)) with ⟨q, q2⟩ | ⟨q, q2⟩
          · exact q2
          · exact absurd (hx3.trans q) h4
        refine wp_iinc dX2_firstBad_61 rfl (Nat.le_of_ble_eq_true rfl) (pp (c := 1) rfl rfl) ?_
        refine wp_iinc dX2_firstBad_64 rfl (Nat.le_of_ble_eq_true rfl) (pp (c := 2) rfl rfl) ?_
        refine wp_goto (tgt := 7) dX2_firstBad_67 rfl ?_
        have e1 : w32 ((i : Int) + 1) = ((i + 1 : Nat) : Int) := w32n i (by omega)
        have e2 : w32 ((a : Int) + 1) = ((a + 1 : Nat) : Int) := w32n a (by omega)
        have := hnext (FJ_next hJ hi hsu)
        rw [← e1, ← e2] at this
        exact this
      · refine ret a _ _ (FJ_bad hJ (Or.inr ⟨hi, ?_⟩))
        intro q
        exact h4 (by rw [hx3, bi_pos q]; decide)
  have loop : ∀ (r a j i : Nat), a + r = n → j < 7 → FI (sgN g) n a j i → EV e mX2_firstBad (qI fun x g' => FB (sgN g) n x ∧ g' = g) 7 [vR 19, vX (j + 3), vI (i : Int), vI (a : Int)] [] g := by
    intro r
    induction r with
    | zero =>
      intro a j i ha hj hI
      have ean : a = n := by omega
      subst ean
      have hl6 := sLen_le j hj
      refine wp_iload_n dX2_firstBad_7 rfl ?_
      refine wp_aload_n dX2_firstBad_8 rfl rfl ?_
      refine wp_get (v := vI (g 19 1)) dX2_firstBad_9 fl_2_15 L_19 rfl ?_
      refine wp_icmp_ge (tgt := 70) dX2_firstBad_12 rfl (fun h => ?_) (fun h => absurd (by rw [hn]; exact Int.le_refl _) h)
      refine wp_aload_n dX2_firstBad_70 rfl rfl ?_
      refine wp_get (v := vI (g 19 1)) dX2_firstBad_71 fl_2_15 L_19 rfl ?_
      refine wp_if_le (tgt := 89) dX2_firstBad_74 rfl (fun h1 => ?_) (fun h1 => ?_)
      · have a0 : a = 0 := by rw [hn] at h1; omega
        subst a0
        refine ret89 _ _ _ (Or.inr ⟨0, 0, fun i hi => absurd hi (Nat.not_lt_zero i), Or.inl rfl, Or.inl ⟨?_, rfl⟩, rfl⟩)
        exact shp_neg (sgN_ge hn (Nat.le_refl 0))
      · have hpos : 0 < a := by rw [hn] at h1; omega
        obtain ⟨E1, E2⟩ := FI_end hI hpos (sgN_ge hn (Nat.le_refl a))
        refine wp_iload_n dX2_firstBad_77 rfl ?_
        refine wp_aload_n dX2_firstBad_78 rfl (isRX (Nat.le_add_left 3 j)) ?_
        refine wp_callxI (As := []) (q := j + 3) dX2_firstBad_79 ml_2_37 rfl (Nat.le_add_left 3 j) (by omega) rfl (Nat.le_of_ble_eq_true rfl) rfl (Nat.le_refl _) (Nat.le_refl _) (s_length (d := e) hj (by omega)) ?_
        intro x gg hx
        obtain ⟨hx, hg⟩ := hx
        rw [hg, hx]
        refine wp_icmp_ne (tgt := 89) dX2_firstBad_82 rfl (fun h2 => ret89 _ _ _ (E2 (fun q => h2 (by rw [q])))) (fun h2 => ?_)
        refine wp_iconst dX2_firstBad_85 (by decide) ?_
        refine wp_goto (tgt := 93) dX2_firstBad_86 rfl ?_
        exact wp_iret dX2_firstBad_93 rfl ⟨-1, rfl, E1 (by omega), rfl⟩
    | succ r ih =>
      intro a j i ha hj hI
      have han : a < n := by omega
      have hl6 := sLen_le j hj
      refine wp_iload_n dX2_firstBad_7 rfl ?_
      refine wp_aload_n dX2_firstBad_8 rfl rfl ?_
      refine wp_get (v := vI (g 19 1)) dX2_firstBad_9 fl_2_15 L_19 rfl ?_
      refine wp_icmp_ge (tgt := 70) dX2_firstBad_12 rfl (fun h => absurd h (by rw [hn]; omega)) (fun h => ?_)
      refine wp_iload_n dX2_firstBad_15 rfl ?_
      refine wp_aload_n dX2_firstBad_16 rfl (isRX (Nat.le_add_left 3 j)) ?_
      refine wp_callxI (As := []) (q := j + 3) dX2_firstBad_17 ml_2_37 rfl (Nat.le_add_left 3 j) (by omega) rfl (Nat.le_of_ble_eq_true rfl) rfl (Nat.le_refl _) (Nat.le_refl _) (s_length (d := e) hj (by omega)) ?_
      intro x gg hx
      obtain ⟨hx, hg⟩ := hx
      rw [hg, hx]
      refine wp_icmp_lt (tgt := 35) dX2_firstBad_20 rfl (fun h2 => ?_) (fun h2 => ?_)
      · have hi : i < sLen j := by omega
        exact tail35 a j i han hj (FI_stay hI hi) (fun hI2 => ih (a + 1) j (i + 1) (by omega) hj hI2)
      · have hi : sLen j ≤ i := by omega
        refine wp_aload_n dX2_firstBad_23 rfl rfl ?_
        refine wp_get (v := vR 20) dX2_firstBad_24 fl_2_9 L_19 rfl ?_
        refine wp_iload_n dX2_firstBad_27 rfl ?_
        refine wp_iaload dX2_firstBad_28 (by omega) L_20 (by omega) ?_
        refine wp_callsS (As := [vI (g 20 (a : Int).toNat)]) dX2_firstBad_29 ml_2_43 (Or.inl rfl) rfl (Nat.le_of_ble_eq_true rfl) rfl (Nat.le_refl _) (Nat.le_refl _) (s_shape (d := e) (by omega)) ?_
        intro x2 g2 hx2
        obtain ⟨hx2, hg2⟩ := hx2
        rw [hg2, hx2]
        rw [show (a : Int).toNat = a from Int.toNat_natCast a, ← sgN_lt hn han]
        have hj2 := shp_lt (sgN g a)
        refine wp_astore_n dX2_firstBad_32 (isRX (Nat.le_add_left 3 _)) (Nat.le_of_ble_eq_true rfl) (pp (c := 0) rfl rfl) ?_
        refine wp_iconst dX2_firstBad_33 (by decide) ?_
        refine wp_istore_n dX2_firstBad_34 (Nat.le_of_ble_eq_true rfl) (pp (c := 1) rfl rfl) ?_
        exact tail35 a (shp (sgN g a)) 0 han hj2 (FI_new hI hi han) (fun hI2 => ih (a + 1) _ 1 (by omega) hj2 hI2)
  refine wp_ldcs dX2_firstBad_0 sl_2_35 ?_
  refine wp_astore_n dX2_firstBad_2 rfl (Nat.le_of_ble_eq_true rfl) (pp (c := 0) rfl rfl) ?_
  refine wp_iconst dX2_firstBad_3 (by decide) ?_
  refine wp_istore_n dX2_firstBad_4 (Nat.le_of_ble_eq_true rfl) (pp (c := 1) rfl rfl) ?_
  refine wp_iconst dX2_firstBad_5 (by decide) ?_
  refine wp_istore_n dX2_firstBad_6 (Nat.le_of_ble_eq_true rfl) (pp (c := 2) rfl rfl) ?_
  exact loop n 0 0 0 (by omega) (by decide) ⟨0, fun i hi => absurd hi (Nat.not_lt_zero i), rfl, Or.inl rfl, fun u hu => absurd hu (Nat.not_lt_zero u), Or.inr ⟨rfl, rfl, rfl⟩⟩
