/-- same -/
abbrev smQ (K : tK) (a b : Nat) : Prop := ∀ j, j < nP K → passF K a (ptC K) j = passF K b (ptC K) j
def smI (K : tK) (a : Nat) : Nat → Int
  | 0 => 0
  | m + 1 => smI K a m + bi (smQ K a (a + 1 + m))
def smF (K : tK) : Nat → Int
  | 0 => 0
  | a + 1 => smF K a + smI K a (nC K - (a + 1))
theorem smI_bd (K : tK) (a : Nat) : ∀ m, 0 ≤ smI K a m ∧ smI K a m ≤ m := by
  intro m
  induction m with
  | zero => exact ⟨Int.le_refl _, Int.le_refl _⟩
  | succ m ih =>
    have h := bi_01 (smQ K a (a + 1 + m))
    unfold smI; omega
theorem smF_bd {K : tK} (h7 : nC K ≤ 7) : ∀ a : Nat, 0 ≤ smF K a ∧ smF K a ≤ 7 * (a : Int) := by
  intro a
  induction a with
  | zero => exact ⟨Int.le_refl _, Int.le_refl _⟩
  | succ a ih =>
    have h := smI_bd K a (nC K - (a + 1))
    unfold smF; omega
theorem x_same {d : Nat} {g : pG} {K : tK} (hd : 8 ≤ d) (hK : KOK K) (hu : SU g 1 K) : CT d mX7_same [vR 0] g (QX g (smF K (nC K)) 0) := by
  refine ct_in (L := [vR 0, vX 2, vX 2, vX 2]) (by omega) (Nat.le_of_ble_eq_true rfl) rfl (fun e he => ?_)
  have h7 := hK.1
  refine b_X7_same_0 ?_
  refine loopN (P := fun k g' => xfr g g') (nC K) (fun k g' => ∀ (v1 v2 : Int) (u : pV), v1 = smF K k → v2 = k → EV e mX7_same _ 4 [vR 0, vI v1, vI v2, u] [] g') ?_ ?_ 0 g (Nat.zero_le _) xfr.rf _ _ _ rfl rfl
  · rintro a g2 ha hf2 ih v1 v2 u hv1 rfl
    have hm := (hu.x hf2).1
    have hb1 := smF_bd h7 a
    refine b_X7_same_4 (fun c => absurd c (by omega)) (fun c => ?_)
    refine b_X7_same_15 ?_
    refine loopN (P := fun k g' => xfr g g') (nC K - (a + 1)) (fun m g' => ∀ (v1 v3 : Int), v1 = smF K a + smI K a m → v3 = (a + 1 + m : Nat) → EV e mX7_same _ 19 [vR 0, vI v1, vI a, vI v3] [] g') ?_ ?_ 0 g2 (Nat.zero_le _) hf2 _ _ (hv1.trans (Int.add_zero _).symm) (by rw [w32_of (by omega) (by omega)]; omega)
    · rintro m g3 hm3 hf3 ih2 v1 v3 hv1 rfl
      have hu3 := hu.x hf3
      have hm0 := hu3.1
      have hb2 := smI_bd K a m
      refine b_X7_same_19 (fun c19 => ?_) (fun c19 => ?_)
      · exfalso
        omega
      · refine b_X7_same_30 (s_think (by omega) scr27 hK hu3) (fun g4 hx => ?_)
        obtain ⟨hp4, hf4⟩ := hx
        have hx4 := hf3.tr (hf4.x scr27)
        refine b_X7_same_44 (s_think (by omega) scr31 hK (hu.x hx4)) (fun g5 hx => ?_)
        obtain ⟨hq5, hf5⟩ := hx
        have hx5 := hx4.tr (hf5.x scr31)
        have hp5 := hp4.frm2 hf5 (by decide)
        refine b_X7_same_58 (s_hear (by omega) pts_27 hK (hu.x hx5) hp5 ha) (fun g6 hx => ?_)
        obtain ⟨hp6, hf6⟩ := hx
        have hx6 := hx5.tr (hf6.x scr27)
        have hq6 := hq5.frm hf6 (by decide) (by decide)
        refine b_X7_same_70 (s_hear (by omega) pts_31 hK (hu.x hx6) hq6 (by omega)) (fun g7 hx => ?_)
        obtain ⟨hq7, hf7⟩ := hx
        have hx7 := hx6.tr (hf7.x scr31)
        have hp7 := hp6.frm hf7 (by decide) (by decide)
        refine b_X7_same_82 (s_isAs (by omega) pts_27 pts_31 hp7 hq7) (fun x5 _ hx => ?_)
        obtain ⟨rfl, rfl⟩ := hx
        refine b_X7_same_93 (fun c93 => ?_) (fun c93 => ?_)
        · refine b_X7_same_99 ?_
          have e1 : bi (smQ K a (a + 1 + m)) = 0 := c93
          exact ih2 _ hx7 _ _ (by unfold smI; omega) (by rw [w32_of (by omega) (by omega)]; omega)
        · refine b_X7_same_96 ?_
          have e1 : bi (smQ K a (a + 1 + m)) = 1 := bi_pos (bi_ne0 c93)
          exact ih2 _ hx7 _ _ (by unfold smI; rw [w32_of (by omega) (by omega)]; omega) (by rw [w32_of (by omega) (by omega)]; omega)
    · rintro g3 hf3 v1 v3 hv1 rfl
      have hm0 := (hu.x hf3).1
      refine b_X7_same_19 (fun c19 => ?_) (fun c19 => ?_)
      · refine b_X7_same_105 ?_
        try simp (disch := omega) only [w32_of, Int.toNat_natCast, tn0, tn1, tn2]
        exact ih _ hf3 _ _ _ hv1 (by omega)
      · exfalso
        omega
  · rintro g2 hf2 v1 v2 u hv1 rfl
    have hm := (hu.x hf2).1
    refine b_X7_same_4 (fun c4 => ?_) (fun c4 => ?_)
    · refine b_X7_same_111 ?_
      exact rx_ok rfl hv1.symm hf2
    · exfalso
      omega
theorem ix8 (a i : Nat) (h : a < 8) (h2 : i < 8) : w32 (w32 (8 * (a : Int)) + (i : Int)) = ((8 * a + i : Nat) : Int) := by
  rw [w32_of (x := 8 * (a : Int)) (by omega) (by omega), w32_of (by omega) (by omega)]; omega
theorem m_same {d : Nat} {g : pG} {K : tK} (hd : 11 ≤ d) (hK : KOK K) (hu : SM g K) : CT d mX8_same [vR 45] g (QM g (smF K (nC K)) 0) := by
  refine ct_in (L := [vR 45, vX 2, vX 2, vX 2, vX 2, vX 2]) (by omega) (Nat.le_of_ble_eq_true rfl) rfl (fun e he => ?_)
  have h7 := hK.1
  have h8 := hK.2.2.1
  refine b_X8_same_0 ?_
  refine loopN (P := fun k g' => mfr g g' ∧ ∀ c j, c < k → j < nP K → g' 71 (8 * c + j) = passF K c (ptC K) j) (nC K) (fun k g' => ∀ (v1 : Int) (u : pV), v1 = k → EV e mX8_same _ 7 [vR 45, vI v1, u, vX 2, vX 2, vX 2] [] g') ?_ ?_ 0 _ (Nat.zero_le _) ⟨thr g, fun c j hc => absurd hc (by omega)⟩ _ _ rfl
  · rintro k g2 hk ⟨hf2, ha2⟩ ih v1 u rfl
    have hu2 := hu.m hf2
    have hm := hu2.1
    refine b_X8_same_7 (fun c => absurd c (by omega)) (fun c => ?_)
    refine b_X8_same_15 (m_think (by omega) hK hu2) (fun g3 hx => ?_)
    obtain ⟨hp3, h83, hf3⟩ := hx
    refine b_X8_same_19 (m_pass (by omega) hK (hu2.m hf3.m) hp3 hk) (fun g4 hx => ?_)
    obtain ⟨hp4, hf4⟩ := hx
    have hD4 := hf2.tr (hf3.m.tr hf4.m51)
    have ha4 : ∀ c j, c < k → j < nP K → g4 71 (8 * c + j) = passF K c (ptC K) j := fun c j hc hj => by rw [hf4 71 (by decide), hf3.1 71 (by decide) (by decide)]; exact ha2 c j hc hj
    refine b_X8_same_24 ?_
    refine loopN (P := fun i g' => mfr g g' ∧ NW g' (nP K) (passF K k (ptC K)) ∧ (∀ c j, c < k → j < nP K → g' 71 (8 * c + j) = passF K c (ptC K) j) ∧ ∀ j, j < i → j < nP K → g' 71 (8 * k + j) = passF K k (ptC K) j) 8 (fun i g' => ∀ (v2 : Int), v2 = i → EV e mX8_same _ 26 [vR 45, vI k, vI v2, vX 2, vX 2, vX 2] [] g') ?_ ?_ 0 g4 (Nat.zero_le _) ⟨hD4, hp4, ha4, fun j hj => absurd hj (by omega)⟩ _ rfl
    · rintro i g5 hi ⟨hf5, hp5, ha5, hb5⟩ ih2 v2 rfl
      have hlt : ((8 * k + i : Nat) : Int) < 56 := by omega
      have k8 : k < 8 := by omega
      refine b_X8_same_26 (fun c => absurd c (by omega)) (fun c => ?_)
      refine b_X8_same_32 (by omega) (by omega) (by rw [ix8 _ _ k8 hi]; exact Int.natCast_nonneg _) (by rw [ix8 _ _ k8 hi]; exact hlt) ?_
      rw [ix8 _ _ k8 hi, w32n i (by omega), Int.toNat_natCast, Int.toNat_natCast]
      refine ih2 _ ⟨hf5.tr (mset _ (by decide)), hp5.ne (by decide), fun c j hc hj => ?_, fun j hj hj2 => ?_⟩ _ rfl
      · rw [cset_self, fup_ne _ _ (by omega)]; exact ha5 c j hc hj
      · rw [cset_self]
        by_cases e : j = i
        · subst e; rw [fup_self]; exact hp5.rd hj2
        · rw [fup_ne _ _ (by omega)]; exact hb5 j (by omega) hj2
    · rintro g5 ⟨hf5, hp5, ha5, hb5⟩ v2 rfl
      have hw : w32 ((k : Int) + 1) = ((k + 1 : Nat) : Int) := w32n k (by omega)
      refine b_X8_same_26 (fun c => ?_) (fun c => absurd (by omega) c)
      refine b_X8_same_55 ?_
      refine ih _ ⟨hf5, fun c j hc hj => ?_⟩ _ _ hw
      by_cases e : c = k
      · subst e; exact hb5 j (by omega) hj
      · exact ha5 c j (by omega) hj
  · rintro g2 ⟨hf2, ha2⟩ v1 u rfl
    have hu2 := hu.m hf2
    have hm := hu2.1
    have hm4 := hu2.2.2.1
    refine b_X8_same_7 (fun c => ?_) (fun c => absurd (by omega) c)
    refine b_X8_same_61 ?_
    refine loopN (P := fun k g' => g' = g2) (nC K) (fun k g' => ∀ (v1 v2 : Int) (u u2 u3 : pV), v1 = smF K k → v2 = k → EV e mX8_same _ 65 [vR 45, vI v1, vI v2, u, u2, u3] [] g') ?_ ?_ 0 g2 (Nat.zero_le _) rfl _ _ _ _ _ rfl rfl
    · rintro a g2 ha rfl ih v1 v2 u u2 u3 hv1 rfl
      have hb1 := smF_bd h7 a
      refine b_X8_same_65 (fun c => absurd c (by omega)) (fun c => ?_)
      refine b_X8_same_73 ?_
      refine loopN (P := fun k g' => g' = g2) (nC K - (a + 1)) (fun m g' => ∀ (v1 v3 : Int) (u2 u3 : pV), v1 = smF K a + smI K a m → v3 = (a + 1 + m : Nat) → EV e mX8_same _ 77 [vR 45, vI v1, vI a, vI v3, u2, u3] [] g') ?_ ?_ 0 g2 (Nat.zero_le _) rfl _ _ _ _ (hv1.trans (Int.add_zero _).symm) (by rw [w32_of (by omega) (by omega)]; omega)
      · rintro m g2 hm3 rfl ih2 v1 v3 u2 u3 hv1 rfl
        have hb2 := smI_bd K a m
        have hbl : a + 1 + m < nC K := by omega
        have hv1b : 0 ≤ v1 ∧ v1 < 1000 := by omega
        refine b_X8_same_77 (fun c => absurd c (by omega)) (fun c => ?_)
        refine b_X8_same_85 ?_
        generalize hB : a + 1 + m = b at hbl ⊢
        have hF : ∀ j, j < nP K → g2 71 (8 * a + j) = passF K a (ptC K) j := fun j hj => ha2 a j ha hj
        have hH : ∀ j, j < nP K → g2 71 (8 * b + j) = passF K b (ptC K) j := fun j hj => ha2 b j hbl hj
        have hz := pdif_0 (f := passF K a (ptC K)) (f' := passF K b (ptC K)) (nP K)
        have hbi : bi (smQ K a (a + 1 + m)) = bi (smQ K a b) := by rw [hB]
        generalize hFF : passF K a (ptC K) = F at hF hz
        generalize hHH : passF K b (ptC K) = H at hH hz
        refine loopN (P := fun _ g' => g' = g2) (nP K) (fun i g' => ∀ (v4 v5 : Int), (v4 = 1 ∧ pdif F H i ≤ 0) ∨ (v4 = 0 ∧ 0 < pdif F H i) → v5 = i → EV e mX8_same _ 91 [vR 45, vI v1, vI a, vI b, vI v4, vI v5] [] g') ?_ ?_ 0 g2 (Nat.zero_le _) rfl _ _ (Or.inl ⟨rfl, Int.le_refl _⟩) rfl
        · rintro i g2 hi rfl ih3 v4 v5 hv4 rfl
          have a8 : a < 8 := by omega
          have b8 : b < 8 := by omega
          have i8 : i < 8 := by omega
          have l1 : ((8 * a + i : Nat) : Int) < 56 := by omega
          have l2 : ((8 * b + i : Nat) : Int) < 56 := by omega
          have hb := pdif_bd F H i
          have hs : (F i = H i ∧ pdif F H (i + 1) = pdif F H i) ∨ (F i ≠ H i ∧ pdif F H (i + 1) = pdif F H i + 1) := by
            by_cases h : F i = H i
            · left; exact ⟨h, by show _ + (if _ then _ else _) = _; rw [if_pos h]; omega⟩
            · right; exact ⟨h, by show _ + (if _ then _ else _) = _; rw [if_neg h]⟩
          have r1 := hF i hi
          have r2 := hH i hi
          refine b_X8_same_91 (fun c => absurd c (by omega)) (fun c => ?_)
          refine b_X8_same_100 (fun c => ?_) (fun c => ?_)
          · exact b_X8_same_136 (ih3 _ rfl _ _ (by omega) (w32n i (by omega)))
          · refine b_X8_same_105 (by rw [ix8 _ _ a8 i8]; exact Int.natCast_nonneg _) (by rw [ix8 _ _ a8 i8]; exact l1) (by rw [ix8 _ _ b8 i8]; exact Int.natCast_nonneg _) (by rw [ix8 _ _ b8 i8]; exact l2) (fun c => ?_) (fun c => ?_)
            · rw [ix8 _ _ a8 i8, ix8 _ _ b8 i8, Int.toNat_natCast, Int.toNat_natCast, r1, r2] at c
              exact b_X8_same_136 (ih3 _ rfl _ _ (by omega) (w32n i (by omega)))
            · rw [ix8 _ _ a8 i8, ix8 _ _ b8 i8, Int.toNat_natCast, Int.toNat_natCast, r1, r2] at c
              exact b_X8_same_132 (ih3 _ rfl _ _ (by omega) (w32n i (by omega)))
        · rintro g2 rfl v4 v5 hv4 rfl
          have hq : smQ K a b ↔ pdif F H (nP K) ≤ 0 := by rw [hz, ← hFF, ← hHH]
          have hq1 : pdif F H (nP K) ≤ 0 → bi (smQ K a (a + 1 + m)) = 1 := fun z => hbi.trans (bi_pos (hq.mpr z))
          have hq0 : 0 < pdif F H (nP K) → bi (smQ K a (a + 1 + m)) = 0 := fun z => hbi.trans (bi_neg (fun y => by have := hq.mp y; omega))
          refine b_X8_same_91 (fun c => ?_) (fun c => absurd (by omega) c)
          refine b_X8_same_145 (fun c => ?_) (fun c => ?_)
          · refine b_X8_same_155 (ih2 _ rfl _ _ _ _ ?_ (by rw [← hB]; exact w32n _ (by omega)))
            have e9 := hq0 (by omega)
            unfold smI
            rw [e9, w32_of (by omega) (by omega)]
            omega
          · refine b_X8_same_151 (ih2 _ rfl _ _ _ _ ?_ (by rw [← hB]; exact w32n _ (by omega)))
            have e9 := hq1 (by omega)
            unfold smI
            rw [e9, w32_of (by omega) (by omega)]
            omega
      · rintro g2 rfl v1 v3 u2 u3 hv1 rfl
        refine b_X8_same_77 (fun c => ?_) (fun c => absurd (by omega) c)
        exact b_X8_same_164 (ih _ rfl _ _ _ _ _ hv1 (w32n a (by omega)))
    · rintro g2 rfl v1 v2 u u2 u3 hv1 rfl
      refine b_X8_same_65 (fun c => ?_) (fun c => absurd (by omega) c)
      exact b_X8_same_170 (rm_ok rfl hv1.symm hf2)
