theorem ix60 (a i : Nat) (h : a < 61) (h2 : i < 8) : w32 (w32 (8 * (a : Int)) + (i : Int)) = ((8 * a + i : Nat) : Int) ∧ ((8 * a + i : Nat) : Int) < 488 := by
  refine ⟨?_, by omega⟩
  rw [w32_of (x := 8 * (a : Int)) (by omega) (by omega), w32_of (by omega) (by omega)]; omega
theorem pdif_st (F H : tF) (i : Nat) : (F i = H i ∧ pdif F H (i + 1) = pdif F H i) ∨ (F i ≠ H i ∧ pdif F H (i + 1) = pdif F H i + 1) := by
  by_cases h : F i = H i
  · left; exact ⟨h, by show _ + (if _ then _ else _) = _; rw [if_pos h]; omega⟩
  · right; exact ⟨h, by show _ + (if _ then _ else _) = _; rw [if_neg h]⟩
theorem m_isAsAt {d t : Nat} {g : pG} {K : tK} {f F : tF} (hd : 1 ≤ d) (hK : KOK K) (hu : SM g K) (hp : NW g (nP K) f) (ht : t < 61) (hF : ∀ i, i < nP K → g 73 (8 * t + i) = F i) : CT d mX8_isAsAt [vR 45, vI t] g (qI (fun x g' => x = bi (∀ i, i < nP K → F i = f i) ∧ g' = g)) := by
  refine ct_in (L := [vR 45, vI t, vX 2, vX 2]) (by omega) (Nat.le_of_ble_eq_true rfl) rfl (fun e he => ?_)
  have h8 := hK.2.2.1
  have hm := hu.2.2.1
  refine b_X8_isAsAt_0 ?_
  refine loopN (P := fun _ g' => g' = g) (nP K) (fun i g' => ∀ (v2 v3 : Int), (v2 = 1 ∧ pdif F f i ≤ 0) ∨ (v2 = 0 ∧ 0 < pdif F f i) → v3 = i → EV e mX8_isAsAt _ 4 [vR 45, vI t, vI v2, vI v3] [] g') ?_ ?_ 0 g (Nat.zero_le _) rfl _ _ (Or.inl ⟨rfl, Int.le_refl _⟩) rfl
  · rintro i g hi rfl ih v2 v3 hv2 rfl
    have i8 : i < 8 := Nat.lt_of_lt_of_le hi h8.2
    have l8 : (i : Int) < 8 := Int.ofNat_lt.mpr i8
    have i9 : (i : Int) < 2147483647 := by omega
    obtain ⟨x1, x2⟩ := ix60 t i ht i8
    have hr := hp.rd hi
    have hf := hF i hi
    have hb := pdif_bd F f i
    have hs := pdif_st F f i
    have hil : ¬ (nP K : Int) ≤ (i : Int) := Int.not_le.mpr (Int.ofNat_lt.mpr hi)
    refine b_X8_isAsAt_4 (fun c => absurd (by rw [hm] at c; exact c) hil) (fun c => ?_)
    clear c hil
    refine b_X8_isAsAt_12 (fun c => ?_) (fun c => ?_)
    · exact b_X8_isAsAt_40 (ih _ rfl _ _ (by clear x1 x2; omega) (w32n i i9))
    · refine b_X8_isAsAt_16 (by rw [x1]; exact Int.natCast_nonneg _) (by rw [x1]; exact x2) (Int.natCast_nonneg _) l8 (fun c2 => ?_) (fun c2 => ?_)
      · rw [x1, Int.toNat_natCast, Int.toNat_natCast, hf, hr] at c2
        exact b_X8_isAsAt_40 (ih _ rfl _ _ (by clear x1 x2; omega) (w32n i i9))
      · rw [x1, Int.toNat_natCast, Int.toNat_natCast, hf, hr] at c2
        exact b_X8_isAsAt_36 (ih _ rfl _ _ (by clear x1 x2; omega) (w32n i i9))
  · rintro g rfl v2 v3 hv2 rfl
    have hz := pdif_0 (f := F) (f' := f) (nP K)
    refine b_X8_isAsAt_4 (fun c => ?_) (fun c => absurd (by rw [hm]; exact Int.le_refl _) c)
    refine b_X8_isAsAt_48 (by omega) ?_
    rcases hv2 with h | h
    · exact ⟨_, rfl, h.1.trans (bi_pos (hz.mp h.2)).symm, rfl⟩
    · exact ⟨_, rfl, h.1.trans (bi_neg (fun z => absurd (hz.mpr z) (Int.not_le.mpr h.2))).symm, rfl⟩
theorem m_again {d : Nat} {g : pG} {K : tK} {c w : Int} (hd : 11 ≤ d) (hK : KOK K) (hu : SM g K) : CT d mX8_again [vR 45, vI c, vI w] g (QM g (aR (rCw K c w) (agA K c.toNat w)) (rCw K c w)) := by
  refine ct_in (L := [vR 45, vI c, vI w, vX 2, vX 2, vX 2]) (by omega) (Nat.le_of_ble_eq_true rfl) rfl (fun e he => ?_)
  have h7 := hK.1
  have h8 := hK.2.2.1
  have hu0 := hu.m (thr g)
  have r1 := rCw_cases K c w
  have r2 := rW_cases w 1
  have r3 : wrB 0 w 1 = rW w 1 := by unfold wrB rW; by_cases h : 0 ≤ w ∧ w ≤ 1
                                     · rw [if_neg (fun z => z.2 h), if_pos h]
                                     · rw [if_pos ⟨rfl, h⟩, if_neg h]
  have b1 := bi_cases (0 ≤ c ∧ c < nC K)
  have he5 : 5 ≤ e := by omega
  have he1 : 1 ≤ e := Nat.le_trans (by decide) he5
  have loop : ∀ g1 v, NW g1 (nP K) (ptC K) → mfr g g1 → rCw K c w = 0 → (0 ≤ c ∧ c < nC K) → EV e mX8_again (QM g (aR (rCw K c w) (agA K c.toNat w)) (rCw K c w)) 41 [vR 45, vI c, vI w, vI v, vI 0, vX 2] [] g1 := by
    intro g1 v hp1 hf1 hr0 hc
    obtain ⟨n, rfl⟩ := Int.eq_ofNat_of_zero_le hc.1
    rw [Int.toNat_natCast] at *
    have hn : n < nC K := by omega
    clear r1 r2 r3 b1 hc
    refine loopN (P := fun t g' => mfr g g' ∧ NW g' (nP K) (agF K n t) ∧ (∀ s i, s < t → i < nP K → g' 73 (8 * s + i) = agF K n s i) ∧ ∀ s, s < t → agH K n s < 0) 61 (fun t g' => ∀ (q : Int) (u : pV), q = t → EV e mX8_again _ 41 [vR 45, vI n, vI w, vI v, vI q, u] [] g') ?_ ?_ 0 g1 (Nat.zero_le _) ⟨hf1, hp1, fun s i hs => absurd hs (Nat.not_lt_zero _), fun s hs => absurd hs (Nat.not_lt_zero _)⟩ _ _ rfl
    · rintro t g2 ht ⟨hf2, hp2, ha2, hn2⟩ ih q u rfl
      have ht60 : ¬ (60 : Int) < (t : Int) := by omega
      have t9 : (t : Int) < 2147483647 := by omega
      refine b_X8_again_41 (fun c => absurd c ht60) (fun c => ?_)
      refine b_X8_again_48 ?_
      refine loopN (P := fun a g' => g' = g2 ∧ ∀ j, j < a → ¬ ∀ i, i < nP K → agF K n j i = agF K n t i) t (fun a g' => ∀ (z : Int), z = a → EV e mX8_again _ 51 [vR 45, vI n, vI w, vI v, vI t, vI z] [] g') ?_ ?_ 0 g2 (Nat.zero_le _) ⟨rfl, fun j hj => absurd hj (Nat.not_lt_zero _)⟩ _ rfl
      · rintro a g2 ha ⟨rfl, hall⟩ ih2 z rfl
        have a9 : (a : Int) < 2147483647 := by clear ih ih2; omega
        have al : ¬ (t : Int) ≤ (a : Int) := Int.not_le.mpr (Int.ofNat_lt.mpr ha)
        refine b_X8_again_51 (fun c => absurd c al) (fun c => ?_)
        refine b_X8_again_58 (m_isAsAt he1 hK (hu.m hf2) hp2 (Nat.lt_trans ha ht) (fun i hi => ha2 a i ha hi)) (fun x g3 hx => ?_)
        obtain ⟨rfl, rfl⟩ := hx
        refine b_X8_again_64 (fun c2 => ?_) (fun c2 => ?_)
        · exact b_X8_again_82 (ih2 _ ⟨rfl, fun j hj => if h : j = a then h ▸ bi_eq0 c2 else hall j (Nat.lt_of_le_of_ne (Nat.lt_succ_iff.mp hj) h)⟩ _ (w32n a a9))
        · have hs := bi_ne0 c2
          have hH : agH K n t = a := ff_hit hall hs ha
          obtain ⟨k, rfl⟩ : ∃ k, t = k + 1 := ⟨t - 1, by clear ih ih2; omega⟩
          have hq : agQ K n k := by show 0 ≤ agH K n (k + 1); rw [hH]; exact Int.natCast_nonneg _
          have hnq : ∀ j, j < k → ¬ agQ K n j := fun j hj z => absurd (hn2 (j + 1) (Nat.succ_lt_succ hj)) (Int.not_lt.mpr z)
          have hA : agA K n w = sel w ((k : Int) + 1) ((k : Int) + 1 - (a : Int)) := by
            unfold agA
            have hk60 : k < 60 := Nat.lt_of_succ_lt_succ ht
            rw [lfind_hit hnq hq 60 hk60, if_pos hk60, hH]
          refine b_X8_again_67 (fun c3 => ?_) (fun c3 => ?_)
          · refine b_X8_again_76 ?_
            rw [w32_of (by clear ih ih2; omega) (by clear ih ih2; omega)]
            exact rm_ok hr0 (aR_0 hr0 (hA.trans (sel1 c3 (by rw [Int.natCast_succ])))) hf2
          · exact b_X8_again_71 (rm_ok hr0 (aR_0 hr0 (hA.trans (sel0 (Classical.not_not.mp c3) (by rw [Int.natCast_succ])))) hf2)
      · rintro g2 ⟨rfl, hall⟩ z rfl
        have hH : agH K n t = -9 := ff_none hall
        refine b_X8_again_51 (fun c => ?_) (fun c => absurd (Int.le_refl _) c)
        refine b_X8_again_88 ?_
        refine loopN (P := fun i g' => mfr g g' ∧ NW g' (nP K) (agF K n t) ∧ (∀ s i, s < t → i < nP K → g' 73 (8 * s + i) = agF K n s i) ∧ ∀ j, j < i → j < nP K → g' 73 (8 * t + j) = agF K n t j) 8 (fun i g' => ∀ (z : Int), z = i → EV e mX8_again _ 91 [vR 45, vI n, vI w, vI v, vI t, vI z] [] g') ?_ ?_ 0 g2 (Nat.zero_le _) ⟨hf2, hp2, ha2, fun j hj => absurd hj (Nat.not_lt_zero _)⟩ _ rfl
        · rintro i g5 hi ⟨hf5, hp5, ha5, hb5⟩ ih2 z rfl
          have l8 : (i : Int) < 8 := Int.ofNat_lt.mpr hi
          have i9 : (i : Int) < 2147483647 := by clear ih ih2; omega
          obtain ⟨x1, x2⟩ := ix60 t i ht hi
          refine b_X8_again_91 (fun c => absurd l8 (Int.not_lt.mpr c)) (fun c => ?_)
          refine b_X8_again_98 (Int.natCast_nonneg _) l8 (by rw [x1]; exact Int.natCast_nonneg _) (by rw [x1]; exact x2) ?_
          rw [x1, Int.toNat_natCast, Int.toNat_natCast]
          clear x1 x2
          refine ih2 _ ⟨hf5.tr (mset _ (by decide)), hp5.ne (by decide), fun s j hs hj => ?_, fun j hj hj2 => ?_⟩ _ (w32n i i9)
          · rw [cset_self, fup_ne _ _ (by clear ih ih2; omega)]; exact ha5 s j hs hj
          · rw [cset_self]
            by_cases e : j = i
            · subst e; rw [fup_self]; exact hp5.rd hj2
            · rw [fup_ne _ _ (by clear ih ih2; omega)]; exact hb5 j (by clear ih ih2; omega) hj2
        · rintro g5 ⟨hf5, hp5, ha5, hb5⟩ z rfl
          refine b_X8_again_91 (fun c => ?_) (fun c => absurd (by decide) c)
          refine b_X8_again_124 (m_pass he5 hK (hu.m hf5) hp5 hn) (fun g6 hx => ?_)
          obtain ⟨hp6, hf6⟩ := hx
          refine b_X8_again_129 (ih _ ⟨hf5.tr hf6.m51, hp6, fun s i hs hi => ?_, fun s hs => ?_⟩ _ _ (w32n t t9))
          · rw [hf6 73 (by decide)]
            by_cases e : s = t
            · subst e; exact hb5 i (Nat.lt_of_lt_of_le hi h8.2) hi
            · exact ha5 s i (by clear ih; omega) hi
          · by_cases e : s = t
            · rw [e, hH]; decide
            · exact hn2 s (by clear ih; omega)
    · rintro g2 ⟨hf2, hp2, ha2, hn2⟩ q u rfl
      refine b_X8_again_41 (fun c => ?_) (fun c => absurd (by decide) c)
      refine b_X8_again_135 (rm_ok hr0 (aR_0 hr0 ?_) hf2)
      unfold agA
      rw [lfind_none 60 (fun j hj z => absurd (hn2 (j + 1) (Nat.succ_lt_succ hj)) (Int.not_lt.mpr z)), if_neg (by decide)]
  refine b_X8_again_0 (m_isCourt (by omega) hK hu0) (fun x0 _ hx => ?_)
  obtain ⟨rfl, rfl⟩ := hx
  refine b_X8_again_10 (fun c10 => ?_) (fun c10 => ?_)
  · refine b_X8_again_22 (m_refuse (by omega) ref1) (fun x2 _ hx => ?_)
    obtain ⟨rfl, rfl⟩ := hx
    refine b_X8_again_33 ?_
    first | exact rm_no (thr g) (m := -1) (by omega) (aR_n (by omega) (by omega)) | exact rm_no (thr g) (m := -2) (by omega) (aR_n (by omega) (by omega))
  · refine b_X8_again_13 (m_wrongBit (by omega)) (fun x2 _ hx => ?_)
    obtain ⟨rfl, rfl⟩ := hx
    refine b_X8_again_19 (fun c19 => ?_) (fun c19 => ?_)
    · refine b_X8_again_34 (m_think (by omega) hK hu0) (fun g1 hx => ?_)
      obtain ⟨hp1, h81, hf1⟩ := hx
      refine b_X8_again_38 ?_
      exact loop _ _ hp1 ((thr g).tr hf1.m) (by omega) (by omega)
    · refine b_X8_again_28 (by rw [show wrB 0 w 1 = -2 by omega]; exact m_refuse (by omega) ref2) (fun x4 _ hx => ?_)
      obtain ⟨rfl, rfl⟩ := hx
      refine b_X8_again_33 ?_
      first | exact rm_no (thr g) (m := -1) (by omega) (aR_n (by omega) (by omega)) | exact rm_no (thr g) (m := -2) (by omega) (aR_n (by omega) (by omega))
