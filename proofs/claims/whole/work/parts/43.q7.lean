/-- cheapest -/
abbrev chpQ (K : tK) (k : Nat) : Prop := bi (0 < psum (slpF K (zshl 1 k) (nC K) (ptC K)) (nP K)) = bi (0 < sumAll K)
def chpF (K : tK) : Nat → Int
  | 0 => -9
  | k + 1 => if chpQ K k ∧ (chpF K k < 0 ∨ csC K (chpF K k).toNat < csC K k) then (k : Int) else chpF K k
theorem chpF_1 {K : tK} {k : Nat} (h : chpQ K k ∧ (chpF K k < 0 ∨ csC K (chpF K k).toNat < csC K k)) : chpF K (k + 1) = k := if_pos h
theorem chpF_0 {K : tK} {k : Nat} (h : ¬ (chpQ K k ∧ (chpF K k < 0 ∨ csC K (chpF K k).toNat < csC K k))) : chpF K (k + 1) = chpF K k := if_neg h
theorem chpF_bd (K : tK) : ∀ k, chpF K k = -9 ∨ (0 ≤ chpF K k ∧ chpF K k < k) := by
  intro k
  induction k with
  | zero => exact Or.inl rfl
  | succ k ih => unfold chpF; split <;> omega
theorem x_cheapest {d : Nat} {g : pG} {K : tK} (hd : 8 ≤ d) (hK : KOK K) (hu : SU g 1 K) : CT d mX7_cheapest [vR 0] g (QX g (chpF K (nC K)) 0) := by
  refine ct_in (L := [vR 0, vX 2, vX 2, vX 2, vX 2]) (by omega) (Nat.le_of_ble_eq_true rfl) rfl (fun e he => ?_)
  have h7 := hK.1
  refine b_X7_cheapest_0 (s_isForAll (by omega) hK hu) (fun x g1 hx => ?_)
  obtain ⟨rfl, hf1⟩ := hx
  refine b_X7_cheapest_4 ?_
  refine loopN (P := fun k g' => xfr g g') (nC K) (fun k g' => ∀ (v2 v3 w : Int), v2 = chpF K k → ((v2 < 0 ∧ v3 = -1) ∨ (0 ≤ v2 ∧ v3 = csC K v2.toNat)) → w = k → EV e mX7_cheapest _ 13 [vR 0, vI (bi (0 < sumAll K)), vI v2, vI v3, vI w] [] g') ?_ ?_ 0 g1 (Nat.zero_le _) (hf1.x scr27) _ _ _ rfl (Or.inl ⟨by decide, rfl⟩) rfl
  · rintro k g2 hk hf2 ih v2 v3 w hv2 hv3 rfl
    have hu2 := hu.x hf2
    have hm := hu2.1
    have hb := chpF_bd K k
    have hc := (hK.2.1 k hk).2.2
    refine b_X7_cheapest_13 (fun c => absurd c (by omega)) (fun c => ?_)
    refine b_X7_cheapest_25 (s_asleep (by omega) hK hu2) (fun g3 hx => ?_)
    obtain ⟨hp3, hf3⟩ := hx
    have hD := hf2.tr (hf3.x scr27)
    have ec : g3 4 k = csC K k := ((hu.x hD).2.1 k hk).2.2
    refine b_X7_cheapest_33 (s_isFor (by omega) pts_27 hp3) (fun x g4 hx => ?_)
    obtain ⟨rfl, rfl⟩ := hx
    have hw : w32 ((k : Int) + 1) = ((k + 1 : Nat) : Int) := w32n k (by omega)
    refine b_X7_cheapest_40 (fun c => ?_) (fun c => ?_)
    · have e1 := chpF_0 (K := K) (k := k) (fun z => c z.1)
      exact b_X7_cheapest_72 (ih _ hD _ _ _ (by rw [e1]; exact hv2) hv3 hw)
    · have c : chpQ K k := Classical.not_not.mp c
      refine b_X7_cheapest_44 (by omega) (by omega) (fun c2 => ?_) (fun c2 => ?_)
      · rw [Int.toNat_natCast, ec] at c2
        have e1 := chpF_0 (K := K) (k := k) (fun z => by rw [← hv2] at z; omega)
        exact b_X7_cheapest_72 (ih _ hD _ _ _ (by rw [e1]; exact hv2) hv3 hw)
      · rw [Int.toNat_natCast, ec] at c2
        have e1 := chpF_1 (K := K) (k := k) ⟨c, by rw [← hv2]; omega⟩
        refine b_X7_cheapest_58 (by omega) (by omega) ?_
        rw [Int.toNat_natCast, ec]
        exact ih _ hD _ _ _ e1.symm (Or.inr ⟨by omega, by rw [Int.toNat_natCast]⟩) hw
  · rintro g2 hf2 v2 v3 w hv2 hv3 rfl
    have hm := (hu.x hf2).1
    refine b_X7_cheapest_13 (fun c13 => ?_) (fun c13 => ?_)
    · refine b_X7_cheapest_78 ?_
      exact rx_ok rfl hv2.symm hf2
    · exfalso
      omega
theorem m_cheapest {d : Nat} {g : pG} {K : tK} (hd : 11 ≤ d) (hK : KOK K) (hu : SM g K) : CT d mX8_cheapest [vR 45] g (QM g (chpF K (nC K)) 0) := by
  refine ct_in (L := [vR 45, vX 2, vX 2, vX 2]) (by omega) (Nat.le_of_ble_eq_true rfl) rfl (fun e he => ?_)
  have h7 := hK.1
  have hu0 := hu.m (thr g)
  have loop : ∀ g1 (v1 : Int), v1 = bi (0 < sumAll K) → mfr g g1 → EV e mX8_cheapest (QM g (chpF K (nC K)) 0) 23 [vR 45, vI v1, vI (-9), vI 0] [] g1 := by
    intro g1 v1 hv1 hf1
    subst hv1
    refine loopN (P := fun k g' => mfr g g') (nC K) (fun k g' => ∀ (v2 w : Int), v2 = chpF K k → w = k → EV e mX8_cheapest _ 23 [vR 45, vI (bi (0 < sumAll K)), vI v2, vI w] [] g') ?_ ?_ 0 g1 (Nat.zero_le _) hf1 _ _ rfl rfl
    · rintro k g2 hk hf2 ih v2 w hv2 rfl
      have hu2 := hu.m hf2
      have hm := hu2.1
      have hb := chpF_bd K k
      have hw : w32 ((k : Int) + 1) = ((k + 1 : Nat) : Int) := w32n k (by omega)
      refine b_X8_cheapest_23 (fun c => absurd c (by omega)) (fun c => ?_)
      refine b_X8_cheapest_31 (m_think (by omega) hK hu2) (fun g3 hx => ?_)
      obtain ⟨hp3, h83, hf3⟩ := hx
      refine b_X8_cheapest_35 (m_passAll (by omega) hK (hu2.m hf3.m) hp3) (fun g4 hx => ?_)
      obtain ⟨hp4, hf4⟩ := hx
      have hD := hf2.tr (hf3.m.tr hf4.m51)
      refine b_X8_cheapest_42 (m_isFor (by omega) hp4) (fun x g5 hx => ?_)
      obtain ⟨rfl, rfl⟩ := hx
      have ec : ∀ j, j < nC K → g5 48 j = csC K j := fun j hj => ((hu.m hD).2.1 j hj).2.2
      refine b_X8_cheapest_46 (fun c => ?_) (fun c => ?_)
      · have e1 := chpF_0 (K := K) (k := k) (fun z => c z.1)
        exact b_X8_cheapest_73 (ih _ hD _ _ (by rw [e1]; exact hv2) hw)
      · have c : chpQ K k := Classical.not_not.mp c
        refine b_X8_cheapest_50 (fun c2 => ?_) (fun c2 => ?_)
        · have e1 := chpF_1 (K := K) (k := k) ⟨c, by rw [← hv2]; omega⟩
          exact b_X8_cheapest_69 (ih _ hD _ _ e1.symm hw)
        · refine b_X8_cheapest_54 (by omega) (by omega) (by omega) (by omega) (fun c3 => ?_) (fun c3 => ?_)
          · rw [Int.toNat_natCast, ec k hk, ec _ (by omega)] at c3
            have e1 := chpF_0 (K := K) (k := k) (fun z => by rw [← hv2] at z; omega)
            exact b_X8_cheapest_73 (ih _ hD _ _ (by rw [e1]; exact hv2) hw)
          · rw [Int.toNat_natCast, ec k hk, ec _ (by omega)] at c3
            have e1 := chpF_1 (K := K) (k := k) ⟨c, by rw [← hv2]; omega⟩
            exact b_X8_cheapest_69 (ih _ hD _ _ e1.symm hw)
    · rintro g2 hf2 v2 w hv2 rfl
      have hm := (hu.m hf2).1
      refine b_X8_cheapest_23 (fun c23 => ?_) (fun c23 => ?_)
      · refine b_X8_cheapest_81 ?_
        exact rm_ok rfl hv2.symm hf2
      · exfalso
        omega
  refine b_X8_cheapest_0 (m_sumAll (by omega) hK hu0) (fun x g1 hx => ?_)
  obtain ⟨rfl, hf1⟩ := hx
  have hD := (thr g).tr hf1.m
  refine b_X8_cheapest_9 (fun c => ?_) (fun c => ?_)
  · exact b_X8_cheapest_16 (loop g1 0 (bi_neg (by omega)).symm hD)
  · exact b_X8_cheapest_12 (loop g1 1 (bi_pos (by omega)).symm hD)
/-- bestLowest -/
def blS (K : tK) (f : Int) (k : Nat) : Int := psum (hearF (nP K) (lnC K) k f (downF K (nC K) (ptC K))) (nP K)
def blF (K : tK) (f : Int) : Nat → Int × Int
  | 0 => (0, -999)
  | k + 1 => if blS K f k ≤ (blF K f k).2 then blF K f k else ((k : Int), blS K f k)
theorem blF_le {K : tK} {f : Int} {k : Nat} (h : blS K f k ≤ (blF K f k).2) : blF K f (k + 1) = blF K f k := if_pos h
theorem blF_gt {K : tK} {f : Int} {k : Nat} (h : ¬ blS K f k ≤ (blF K f k).2) : blF K f (k + 1) = ((k : Int), blS K f k) := if_neg h
theorem KOK.bd {K : tK} (hK : KOK K) : Bd (nP K) (ptC K) := fun j hj => hK.2.2.2.1 j (by have := hK.2.2.1.2; omega)
theorem blS_bd {K : tK} {f : Int} {k : Nat} (hK : KOK K) (hf : 0 ≤ f ∧ f ≤ 9) : -72 ≤ blS K f k ∧ blS K f k ≤ 72 := by
  have h := psum_bd ((Bd.down hK hK.bd (nC K) (Nat.le_refl _)).hear (ln := lnC K) (kind := k) (by have := hK.2.2.1.1; omega) hf) (nP K) (Nat.le_refl _)
  have := hK.2.2.1.2
  unfold blS
  omega
theorem x_bestLowest {d : Nat} {g : pG} {K : tK} {f : Int} (hd : 8 ≤ d) (hK : KOK K) (hu : SU g 1 K) : CT d mX7_bestLowest [vR 0, vI f] g (QX g (aR (wrN f 0 9) (blF K f 6).1) (wrN f 0 9)) := by
  refine ct_in (L := [vR 0, vI f, vX 2, vX 2, vX 2, vX 2]) (by omega) (Nat.le_of_ble_eq_true rfl) rfl (fun e he => ?_)
  have h7 := hK.1
  have r1 := wrN_cases f 0 9
  have loop : ∀ v, wrN f 0 9 = 0 → EV e mX7_bestLowest (QX g (aR (wrN f 0 9) (blF K f 6).1) (wrN f 0 9)) 27 [vR 0, vI f, vI v, vI 0, vI (-1000000000), vI 0] [] g := by
    intro v hr0
    refine loopN (P := fun k g' => xfr g g') 6 (fun k g' => ∀ (v3 v4 w : Int), v3 = (blF K f k).1 → (v4 = (blF K f k).2 ∨ (k = 0 ∧ v4 < -999)) → w = k → EV e mX7_bestLowest _ 27 [vR 0, vI f, vI v, vI v3, vI v4, vI w] [] g') ?_ ?_ 0 g (Nat.zero_le _) xfr.rf _ _ _ rfl (Or.inr ⟨rfl, by decide⟩) rfl
    · rintro k g2 hk hf2 ih v3 v4 w hv3 hv4 rfl
      have hu2 := hu.x hf2
      have hm := hu2.1
      have hS := blS_bd (k := k) hK (f := f) (by omega)
      have hw : w32 ((k : Int) + 1) = ((k + 1 : Nat) : Int) := w32n k (by omega)
      have h0 : k = 0 → (blF K f k).2 = -999 := fun z => by rw [z]; rfl
      refine b_X7_bestLowest_27 (fun c => absurd c (by omega)) (fun c => ?_)
      refine b_X7_bestLowest_34 (by rw [hm]; exact s_goDownTo (by omega) hK hu2 (Nat.le_refl _)) (fun g3 hx => ?_)
      obtain ⟨hp3, hf3⟩ := hx
      have hx3 := hf2.tr (hf3.x scr27)
      refine b_X7_bestLowest_45 (s_hearAs (by omega) pts_27 hp3 (hu.x hx3) (by omega) (by omega)) (fun g4 hx => ?_)
      obtain ⟨hp4, hf4⟩ := hx
      have hx4 := hx3.tr (hf4.x scr27)
      have hs : CT e mX3_sum [vR 27] g4 (qI (fun x g' => x = blS K f k ∧ g' = g4)) := s_sum (by omega) pts_27 hp4
      refine b_X7_bestLowest_59 hs (fun x g5 hx => ?_)
      obtain ⟨rfl, rfl⟩ := hx
      refine b_X7_bestLowest_66 (fun c => ?_) (fun c => ?_)
      · have e1 := blF_le (K := K) (f := f) (k := k) (by omega)
        exact b_X7_bestLowest_83 (ih _ hx4 _ _ _ (by rw [e1]; exact hv3) (Or.inl (by rw [e1]; omega)) hw)
      · have e1 := blF_gt (K := K) (f := f) (k := k) (by omega)
        refine b_X7_bestLowest_71 hs (fun x g6 hx => ?_)
        obtain ⟨rfl, rfl⟩ := hx
        exact b_X7_bestLowest_78 (ih _ hx4 _ _ _ (by rw [e1]) (Or.inl (by rw [e1])) hw)
    · rintro g2 hf2 v3 v4 w hv3 hv4 rfl
      refine b_X7_bestLowest_27 (fun c27 => ?_) (fun c27 => ?_)
      · refine b_X7_bestLowest_89 ?_
        exact rx_ok hr0 (aR_0 hr0 hv3.symm) hf2
      · exfalso
        omega
  refine b_X7_bestLowest_0 (s_outside (by omega)) (fun x0 _ hx => ?_)
  obtain ⟨rfl, rfl⟩ := hx
  refine b_X7_bestLowest_7 (fun c7 => ?_) (fun c7 => ?_)
  · refine b_X7_bestLowest_18 ?_
    exact loop _ (by omega)
  · refine b_X7_bestLowest_12 (s_refuse (by omega) (refW c7)) (fun x2 _ hx => ?_)
    obtain ⟨rfl, rfl⟩ := hx
    refine b_X7_bestLowest_17 ?_
    exact rx_no rfl (aR_n rfl c7)
theorem m_bestLowest {d : Nat} {g : pG} {K : tK} {f : Int} (hd : 11 ≤ d) (hK : KOK K) (hu : SM g K) : CT d mX8_bestLowest [vR 45, vI f] g (QM g (aR (wrN f 0 9) (blF K f 6).1) (wrN f 0 9)) := by
  refine ct_in (L := [vR 45, vI f, vX 2, vX 2, vX 2]) (by omega) (Nat.le_of_ble_eq_true rfl) rfl (fun e he => ?_)
  have h7 := hK.1
  have hu0 := hu.m (thr g)
  have r1 := wrN_cases f 0 9
  have loop : ∀ g1, mfr g g1 → wrN f 0 9 = 0 → EV e mX8_bestLowest (QM g (aR (wrN f 0 9) (blF K f 6).1) (wrN f 0 9)) 36 [vR 45, vI f, vI 0, vI (-999), vI 0] [] g1 := by
    intro g1 hf1 hr0
    refine loopN (P := fun k g' => mfr g g') 6 (fun k g' => ∀ (v3 v4 w : Int), v3 = (blF K f k).1 → v4 = (blF K f k).2 → w = k → EV e mX8_bestLowest _ 36 [vR 45, vI f, vI v3, vI v4, vI w] [] g') ?_ ?_ 0 g1 (Nat.zero_le _) hf1 _ _ _ rfl rfl rfl
    · rintro k g2 hk hf2 ih v3 v4 w hv3 hv4 rfl
      have hu2 := hu.m hf2
      have hw : w32 ((k : Int) + 1) = ((k + 1 : Nat) : Int) := w32n k (by omega)
      refine b_X8_bestLowest_36 (fun c => absurd c (by omega)) (fun c => ?_)
      refine b_X8_bestLowest_43 (m_think (by omega) hK hu2) (fun g3 hx => ?_)
      obtain ⟨hp3, h83, hf3⟩ := hx
      refine b_X8_bestLowest_47 (m_passAll0 (by omega) hK (hu2.m hf3.m) hp3) (fun g4 hx => ?_)
      obtain ⟨hp4, hf4⟩ := hx
      have hD := hf2.tr (hf3.m.tr hf4.m51)
      have hln := (hu.m hD).2.2.2.2.2
      have fin : ∀ g5, NW g5 (nP K) (hearF (nP K) (lnC K) k f (downF K (nC K) (ptC K))) → mfr g g5 → EV e mX8_bestLowest (QM g (aR (wrN f 0 9) (blF K f 6).1) (wrN f 0 9)) 76 [vR 45, vI f, vI v3, vI v4, vI k] [] g5 := by
        intro g5 hp5 hf5
        have hs : CT e mX8_sumNow [vR 45] g5 (qI (fun x g' => x = blS K f k ∧ g' = g5)) := m_sumNow (by omega) hp5
        refine b_X8_bestLowest_76 hs (fun x g6 hx => ?_)
        obtain ⟨rfl, rfl⟩ := hx
        refine b_X8_bestLowest_80 (fun c => ?_) (fun c => ?_)
        · have e1 := blF_le (K := K) (f := f) (k := k) (by omega)
          refine b_X8_bestLowest_89 hs (fun x g6 hx => ?_)
          obtain ⟨rfl, rfl⟩ := hx
          exact b_X8_bestLowest_95 (fun _ => b_X8_bestLowest_106 (ih _ hf5 _ _ _ (by rw [e1]; exact hv3) (by rw [e1]; exact hv4) hw)) (fun c2 => absurd c c2)
        · have e1 := blF_gt (K := K) (f := f) (k := k) (by omega)
          refine b_X8_bestLowest_84 hs (fun x g6 hx => ?_)
          obtain ⟨rfl, rfl⟩ := hx
          refine b_X8_bestLowest_95 (fun c2 => absurd c2 c) (fun _ => ?_)
          refine b_X8_bestLowest_99 hs (fun x g6 hx => ?_)
          obtain ⟨rfl, rfl⟩ := hx
          exact b_X8_bestLowest_103 (ih _ hf5 _ _ _ (by rw [e1]) (by rw [e1]) hw)
      refine b_X8_bestLowest_52 (fun c52 => ?_) (fun c52 => ?_)
      · refine b_X8_bestLowest_69 (m_act (by omega) hp4 (by omega) (by omega)) (fun g5 hx => ?_)
        obtain ⟨hp5, hf5⟩ := hx
        first | exact fin _ (by unfold hearF; rw [if_neg (by omega)]; exact hp5) (hD.tr hf5.m51) | exact fin _ (by unfold hearF; rw [if_pos (by omega)]; exact hp4) hD
      · refine b_X8_bestLowest_58 (m_standing (by omega) hp4) (fun x1 _ hx => ?_)
        obtain ⟨rfl, rfl⟩ := hx
        refine b_X8_bestLowest_62 (fun c62 => ?_) (fun c62 => ?_)
        · first | exact fin _ (by unfold hearF; rw [if_neg (by omega)]; exact hp5) (hD.tr hf5.m51) | exact fin _ (by unfold hearF; rw [if_pos (by omega)]; exact hp4) hD
        · refine b_X8_bestLowest_69 (m_act (by omega) hp4 (by omega) (by omega)) (fun g5 hx => ?_)
          obtain ⟨hp5, hf5⟩ := hx
          first | exact fin _ (by unfold hearF; rw [if_neg (by omega)]; exact hp5) (hD.tr hf5.m51) | exact fin _ (by unfold hearF; rw [if_pos (by omega)]; exact hp4) hD
    · rintro g2 hf2 v3 v4 w hv3 hv4 rfl
      refine b_X8_bestLowest_36 (fun c36 => ?_) (fun c36 => ?_)
      · refine b_X8_bestLowest_114 ?_
        exact rm_ok hr0 (aR_0 hr0 hv3.symm) hf2
      · exfalso
        omega
  refine b_X8_bestLowest_0 (m_wrongNumber (by omega)) (fun x0 _ hx => ?_)
  obtain ⟨rfl, rfl⟩ := hx
  refine b_X8_bestLowest_12 (fun c12 => ?_) (fun c12 => ?_)
  · refine b_X8_bestLowest_27 ?_
    exact loop _ (thr g) (by omega)
  · refine b_X8_bestLowest_15 (m_wrongNumber (by omega)) (fun x2 _ hx => ?_)
    obtain ⟨rfl, rfl⟩ := hx
    refine b_X8_bestLowest_23 (m_refuse (by omega) (refW (by omega))) (fun x3 _ hx => ?_)
    obtain ⟨rfl, rfl⟩ := hx
    refine b_X8_bestLowest_26 ?_
    exact rm_no (thr g) rfl (aR_n rfl (by omega))
