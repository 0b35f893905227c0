theorem m_court {d : Nat} {g : pG} {K : tK} {c w : Int} (hd : 11 ≤ d) (hK : KOK K) (hu : SM g K) : CT d mX8_court [vR 45, vI c, vI w] g (QM g (aR (rCourt K c w) (aCourt K c w)) (rCourt K c w)) := by
  refine ct_in (L := [vR 45, vI c, vI w]) (by omega) (Nat.le_of_ble_eq_true rfl) rfl (fun e he => ?_)
  have h7 := hK.1
  have hu0 := hu.m (thr g)
  have r1 := rCourt_cases K c w
  have r2 := rW_cases w 2
  have b1 := bi_cases (0 ≤ c ∧ c < nC K)
  have b2 := bi_cases (0 ≤ w ∧ w ≤ 2)
  have hr : 0 ≤ c ∧ c < nC K → cset g 45 (fup (g 45) 8 0) 46 c.toNat = kdC K c.toNat ∧ cset g 45 (fup (g 45) 8 0) 47 c.toNat = fgC K c.toNat ∧ cset g 45 (fup (g 45) 8 0) 48 c.toNat = csC K c.toNat := fun h => hu0.2.1 _ (by omega)
  refine b_X8_court_0 (m_isCourt (by omega) hK hu0) (fun x0 _ hx => ?_)
  obtain ⟨rfl, rfl⟩ := hx
  refine b_X8_court_10 (fun c10 => ?_) (fun c10 => ?_)
  · refine b_X8_court_25 (m_isCourt (by omega) hK hu0) (fun x2 _ hx => ?_)
    obtain ⟨rfl, rfl⟩ := hx
    refine b_X8_court_31 (fun c31 => ?_) (fun c31 => ?_)
    · refine b_X8_court_39 (m_refuse (by omega) ref1) (fun x4 _ hx => ?_)
      obtain ⟨rfl, rfl⟩ := hx
      refine b_X8_court_43 ?_
      first | exact rm_no (thr g) (m := -2) (by omega) (aR_n (by omega) (by omega)) | exact rm_no (thr g) (m := -1) (by omega) (aR_n (by omega) (by omega)) | (exfalso; omega)
    · refine b_X8_court_34 (m_refuse (by omega) ref2) (fun x4 _ hx => ?_)
      obtain ⟨rfl, rfl⟩ := hx
      refine b_X8_court_43 ?_
      first | exact rm_no (thr g) (m := -2) (by omega) (aR_n (by omega) (by omega)) | exact rm_no (thr g) (m := -1) (by omega) (aR_n (by omega) (by omega)) | (exfalso; omega)
  · refine b_X8_court_13 (m_in (by omega)) (fun x2 _ hx => ?_)
    obtain ⟨rfl, rfl⟩ := hx
    refine b_X8_court_22 (fun c22 => ?_) (fun c22 => ?_)
    · refine b_X8_court_44 (fun c44 => ?_) (fun c44 => ?_)
      · refine b_X8_court_57 (fun c57 => ?_) (fun c57 => ?_)
        · refine b_X8_court_71 (by omega) (by omega) ?_
          try simp (disch := omega) only [w32_of, Int.toNat_natCast, tn0, tn1, tn2]
          exact rm_ok (by omega) (aR_0 (by omega) (by unfold aCourt; rw [if_neg (by omega), if_neg (by omega)]; exact (hr (by omega)).2.2.symm)) (thr g)
        · refine b_X8_court_62 (by omega) (by omega) ?_
          try simp (disch := omega) only [w32_of, Int.toNat_natCast, tn0, tn1, tn2]
          exact rm_ok (by omega) (aR_0 (by omega) (by unfold aCourt; rw [if_neg (by omega), if_pos (by omega)]; exact (hr (by omega)).2.1.symm)) (thr g)
      · refine b_X8_court_48 (by omega) (by omega) ?_
        try simp (disch := omega) only [w32_of, Int.toNat_natCast, tn0, tn1, tn2]
        exact rm_ok (by omega) (aR_0 (by omega) (by unfold aCourt; rw [if_pos (by omega)]; exact (hr (by omega)).1.symm)) (thr g)
    · refine b_X8_court_25 (m_isCourt (by omega) hK hu0) (fun x4 _ hx => ?_)
      obtain ⟨rfl, rfl⟩ := hx
      refine b_X8_court_31 (fun c31 => ?_) (fun c31 => ?_)
      · refine b_X8_court_39 (m_refuse (by omega) ref1) (fun x6 _ hx => ?_)
        obtain ⟨rfl, rfl⟩ := hx
        refine b_X8_court_43 ?_
        first | exact rm_no (thr g) (m := -2) (by omega) (aR_n (by omega) (by omega)) | exact rm_no (thr g) (m := -1) (by omega) (aR_n (by omega) (by omega)) | (exfalso; omega)
      · refine b_X8_court_34 (m_refuse (by omega) ref2) (fun x6 _ hx => ?_)
        obtain ⟨rfl, rfl⟩ := hx
        refine b_X8_court_43 ?_
        first | exact rm_no (thr g) (m := -2) (by omega) (aR_n (by omega) (by omega)) | exact rm_no (thr g) (m := -1) (by omega) (aR_n (by omega) (by omega)) | (exfalso; omega)
/-- peak -/
def peakF (K : tK) : Nat → Int × Int
  | 0 => (0, su K 0)
  | k + 1 => if su K (k + 1) ≤ (peakF K k).2 then peakF K k else ((k : Int) + 1, su K (k + 1))
theorem peakF_le {K : tK} {k : Nat} (h : su K (k + 1) ≤ (peakF K k).2) : peakF K (k + 1) = peakF K k := if_pos h
theorem peakF_gt {K : tK} {k : Nat} (h : ¬ su K (k + 1) ≤ (peakF K k).2) : peakF K (k + 1) = ((k : Int) + 1, su K (k + 1)) := if_neg h
theorem peakF_bd {K : tK} (hK : KOK K) : ∀ k, k ≤ nC K → -72 ≤ (peakF K k).2 ∧ (peakF K k).2 ≤ 72 := by
  intro k
  induction k with
  | zero => intro _; exact su_bd hK (Nat.zero_le _)
  | succ k ih =>
    intro hk
    have h1 := su_bd hK hk
    by_cases h : su K (k + 1) ≤ (peakF K k).2
    · rw [peakF_le h]; exact ih (by omega)
    · rw [peakF_gt h]; exact h1
theorem x_peak {d : Nat} {g : pG} {K : tK} {w : Int} (hd : 8 ≤ d) (hK : KOK K) (hu : SU g 1 K) : CT d mX7_peak [vR 0, vI w] g (QX g (aR (rW w 1) (sel w (peakF K (nC K)).1 ((peakF K (nC K)).2 + 100))) (rW w 1)) := by
  refine ct_in (L := [vR 0, vI w, vX 2, vX 2, vX 2]) (by omega) (Nat.le_of_ble_eq_true rfl) rfl (fun e he => ?_)
  have h7 := hK.1
  have r2 := rW_cases w 1
  have loop : ∀ g1, PT g1 27 (nP K) (ptC K) → xfr g g1 → rW w 1 = 0 → EV e mX7_peak (QX g (aR (rW w 1) (sel w (peakF K (nC K)).1 ((peakF K (nC K)).2 + 100))) (rW w 1)) 34 [vR 0, vI w, vI 0, vI (su K 0), vI 0] [] g1 := by
    intro g1 hp1 hf1 hr0
    refine loopN (P := fun k g' => PT g' 27 (nP K) (downF K k (ptC K)) ∧ xfr g g') (nC K) (fun k g' => ∀ (v2 v3 w4 : Int), v2 = (peakF K k).1 → v3 = (peakF K k).2 → w4 = k → EV e mX7_peak _ 34 [vR 0, vI w, vI v2, vI v3, vI w4] [] g') ?_ ?_ 0 g1 (Nat.zero_le _) ⟨hp1, hf1⟩ _ _ _ rfl rfl rfl
    · rintro k g2 hk ⟨hp2, hf2⟩ ih v2 v3 w4 hv2 hv3 rfl
      have hu2 := hu.x hf2
      have hm := hu2.1
      refine b_X7_peak_34 (fun c34 => ?_) (fun c34 => ?_)
      · exfalso
        omega
      · refine b_X7_peak_46 (s_hear (by omega) pts_27 hK hu2 hp2 hk) (fun g3 hx => ?_)
        obtain ⟨hp3, hf3⟩ := hx
        refine b_X7_peak_59 (s_sum (by omega) pts_27 hp3) (fun x2 g4 hx => ?_)
        obtain ⟨hx1, rfl⟩ := hx
        refine b_X7_peak_66 (fun c66 => ?_) (fun c66 => ?_)
        · refine b_X7_peak_83 ?_
          have c : su K (k + 1) ≤ (peakF K k).2 := (by rw [hx1, hv3] at c66; exact c66)
          exact ih _ ⟨hp3, hf2.tr (hf3.x scr27)⟩ _ _ _ (by rw [peakF_le c]; exact hv2) (by rw [peakF_le c]; exact hv3) (by rw [w32_of (by omega) (by omega)]; omega)
        · refine b_X7_peak_70 (s_sum (by omega) pts_27 hp3) (fun x4 g5 hx => ?_)
          obtain ⟨hx2, rfl⟩ := hx
          refine b_X7_peak_77 ?_
          have c : ¬ su K (k + 1) ≤ (peakF K k).2 := (by rw [hx1, hv3] at c66; exact c66)
          exact ih _ ⟨hp3, hf2.tr (hf3.x scr27)⟩ _ _ _ (by rw [peakF_gt c, w32_of (by omega) (by omega)]) (by rw [peakF_gt c]; exact hx2) (by rw [w32_of (by omega) (by omega)]; omega)
    · rintro g2 ⟨hp2, hf2⟩ v2 v3 w4 hv2 hv3 rfl
      have hm := (hu.x hf2).1
      have hb := peakF_bd hK (nC K) (Nat.le_refl _)
      refine b_X7_peak_34 (fun c34 => ?_) (fun c34 => ?_)
      · refine b_X7_peak_89 (fun c89 => ?_) (fun c89 => ?_)
        · refine b_X7_peak_97 ?_
          try simp (disch := omega) only [w32_of, Int.toNat_natCast, tn0, tn1, tn2]
          exact rx_ok hr0 (aR_0 hr0 (sel1 (by omega) (by omega))) hf2
        · refine b_X7_peak_93 ?_
          exact rx_ok hr0 (aR_0 hr0 (sel0 (by omega) hv2.symm)) hf2
      · exfalso
        omega
  refine b_X7_peak_0 (fun c0 => ?_) (fun c0 => ?_)
  · refine b_X7_peak_9 (s_refuse (by omega) ref2) (fun x1 _ hx => ?_)
    obtain ⟨rfl, rfl⟩ := hx
    refine b_X7_peak_15 ?_
    exact rx_no (by omega) (aR_n (by omega) (by omega))
  · refine b_X7_peak_4 (fun c4 => ?_) (fun c4 => ?_)
    · refine b_X7_peak_16 (s_goDownTo0 (by omega) hK hu) (fun g1 hx => ?_)
      obtain ⟨hp1, hf1⟩ := hx
      refine b_X7_peak_21 (s_sum (by omega) pts_27 hp1) (fun x3 _ hx => ?_)
      obtain ⟨rfl, rfl⟩ := hx
      refine b_X7_peak_30 ?_
      exact loop _ hp1 (hf1.x scr27) (by omega)
    · refine b_X7_peak_9 (s_refuse (by omega) ref2) (fun x2 _ hx => ?_)
      obtain ⟨rfl, rfl⟩ := hx
      refine b_X7_peak_15 ?_
      exact rx_no (by omega) (aR_n (by omega) (by omega))
theorem m_peak {d : Nat} {g : pG} {K : tK} {w : Int} (hd : 11 ≤ d) (hK : KOK K) (hu : SM g K) : CT d mX8_peak [vR 45, vI w] g (QM g (aR (rW w 1) (sel w (peakF K (nC K)).1 ((peakF K (nC K)).2 + 100))) (rW w 1)) := by
  refine ct_in (L := [vR 45, vI w, vX 2, vX 2, vX 2]) (by omega) (Nat.le_of_ble_eq_true rfl) rfl (fun e he => ?_)
  have h7 := hK.1
  have r2 := rW_cases w 1
  have b1 := bi_cases (0 ≤ w ∧ w ≤ 1)
  have hu0 := hu.m (thr g)
  have loop : ∀ g1, NW g1 (nP K) (ptC K) → mfr g g1 → rW w 1 = 0 → EV e mX8_peak (QM g (aR (rW w 1) (sel w (peakF K (nC K)).1 ((peakF K (nC K)).2 + 100))) (rW w 1)) 36 [vR 45, vI w, vI 0, vI (su K 0), vI 0] [] g1 := by
    intro g1 hp1 hf1 hr0
    refine loopN (P := fun k g' => NW g' (nP K) (downF K k (ptC K)) ∧ mfr g g') (nC K) (fun k g' => ∀ (v2 v3 w4 : Int), v2 = (peakF K k).1 → v3 = (peakF K k).2 → w4 = k → EV e mX8_peak _ 36 [vR 45, vI w, vI v2, vI v3, vI w4] [] g') ?_ ?_ 0 g1 (Nat.zero_le _) ⟨hp1, hf1⟩ _ _ _ rfl rfl rfl
    · rintro k g2 hk ⟨hp2, hf2⟩ ih v2 v3 w4 hv2 hv3 rfl
      have hu2 := hu.m hf2
      have hm := hu2.1
      refine b_X8_peak_36 (fun c => absurd c (by omega)) (fun c => ?_)
      refine b_X8_peak_45 (m_pass (by omega) hK hu2 hp2 hk) (fun g3 hx => ?_)
      obtain ⟨hp3, hf3⟩ := hx
      have hD := hf2.tr hf3.m51
      have hS : CT e mX8_sumNow [vR 45] g3 (qI (fun x g' => x = su K (k + 1) ∧ g' = g3)) := m_sumNow (by omega) hp3
      refine b_X8_peak_51 hS (fun x g4 hx => ?_)
      obtain ⟨rfl, rfl⟩ := hx
      refine b_X8_peak_55 (fun c => ?_) (fun c => ?_)
      · rw [hv3] at c
        refine b_X8_peak_66 (hS) (fun x0 _ hx => ?_)
        obtain ⟨rfl, rfl⟩ := hx
        refine b_X8_peak_72 (fun c72 => ?_) (fun c72 => ?_)
        · refine b_X8_peak_83 ?_
          exact ih _ ⟨hp3, hD⟩ _ _ _ (by rw [peakF_le c]; exact hv2) (by rw [peakF_le c]; exact hv3) (by rw [w32_of (by omega) (by omega)]; omega)
        · rw [hv3] at c72
          exact absurd c c72
      · rw [hv3] at c
        refine b_X8_peak_59 (hS) (fun x0 _ hx => ?_)
        obtain ⟨rfl, rfl⟩ := hx
        try simp (disch := omega) only [w32_of, Int.toNat_natCast, tn0, tn1, tn2]
        refine b_X8_peak_72 (fun c72 => ?_) (fun c72 => ?_)
        · rw [hv3] at c72
          exact absurd c72 c
        · refine b_X8_peak_76 (hS) (fun x2 _ hx => ?_)
          obtain ⟨rfl, rfl⟩ := hx
          refine b_X8_peak_80 ?_
          exact ih _ ⟨hp3, hD⟩ _ _ _ (by rw [peakF_gt c]) (by rw [peakF_gt c]) (by rw [w32_of (by omega) (by omega)]; omega)
    · rintro g2 ⟨hp2, hf2⟩ v2 v3 w4 hv2 hv3 rfl
      have hm := (hu.m hf2).1
      have hb := peakF_bd hK (nC K) (Nat.le_refl _)
      refine b_X8_peak_36 (fun c36 => ?_) (fun c36 => ?_)
      · refine b_X8_peak_91 (fun c91 => ?_) (fun c91 => ?_)
        · refine b_X8_peak_99 ?_
          try simp (disch := omega) only [w32_of, Int.toNat_natCast, tn0, tn1, tn2]
          exact rm_ok hr0 (aR_0 hr0 (sel1 (by omega) (by omega))) hf2
        · refine b_X8_peak_95 ?_
          exact rm_ok hr0 (aR_0 hr0 (sel0 (by omega) hv2.symm)) hf2
      · exfalso
        omega
  refine b_X8_peak_0 (m_in (by omega)) (fun x0 _ hx => ?_)
  obtain ⟨rfl, rfl⟩ := hx
  refine b_X8_peak_12 (fun c12 => ?_) (fun c12 => ?_)
  · refine b_X8_peak_22 (m_think (by omega) hK hu0) (fun g1 hx => ?_)
    obtain ⟨hp1, h81, hf1⟩ := hx
    refine b_X8_peak_26 (m_sumNow (by omega) hp1) (fun x3 _ hx => ?_)
    obtain ⟨rfl, rfl⟩ := hx
    refine b_X8_peak_32 ?_
    exact loop _ hp1 ((thr g).tr hf1.m) (by omega)
  · refine b_X8_peak_15 (m_refuse (by omega) ref2) (fun x2 _ hx => ?_)
    obtain ⟨rfl, rfl⟩ := hx
    refine b_X8_peak_21 ?_
    exact rm_no (thr g) (by omega) (aR_n (by omega) (by omega))
/-- heard, dead: whether court k changes any -/
def chg (K : tK) (k : Nat) : Int := bi (¬ ∀ j, j < nP K → downF K (k + 1) (ptC K) j = downF K k (ptC K) j)
def heardF (K : tK) : Nat → Int
  | 0 => 0
  | k + 1 => heardF K k + chg K k
theorem heardF_bd (K : tK) : ∀ k, 0 ≤ heardF K k ∧ heardF K k ≤ k := by
  intro k
  induction k with
  | zero => exact ⟨Int.le_refl _, Int.le_refl _⟩
  | succ k ih =>
    have h : chg K k = 0 ∨ chg K k = 1 := bi_01 _
    unfold heardF; omega
def deadF (K : tK) : Nat → Int
  | 0 => 0
  | k + 1 => if chg K k = 0 then deadF K k else (k : Int) + 1
theorem deadF_0 {K : tK} {k : Nat} (h : chg K k = 0) : deadF K (k + 1) = deadF K k := if_pos h
theorem deadF_1 {K : tK} {k : Nat} (h : chg K k ≠ 0) : deadF K (k + 1) = (k : Int) + 1 := if_neg h
theorem deadF_bd (K : tK) : ∀ k, 0 ≤ deadF K k ∧ deadF K k ≤ k := by
  intro k
  induction k with
  | zero => exact ⟨Int.le_refl _, Int.le_refl _⟩
  | succ k ih => unfold deadF; split <;> omega
def deadA (K : tK) (k : Nat) : Int := if deadF K k < k then deadF K k else -9
theorem deadA_cases (K : tK) (k : Nat) : (deadF K k < k ∧ deadA K k = deadF K k) ∨ (deadF K k = k ∧ deadA K k = -9) := by
  have := deadF_bd K k
  unfold deadA; split <;> omega
theorem x_heard {d : Nat} {g : pG} {K : tK} (hd : 8 ≤ d) (hK : KOK K) (hu : SU g 1 K) : CT d mX7_heard [vR 0] g (QX g (heardF K (nC K)) 0) := by
  refine ct_in (L := [vR 0, vX 2, vX 2]) (by omega) (Nat.le_of_ble_eq_true rfl) rfl (fun e he => ?_)
  have h7 := hK.1
  refine b_X7_heard_0 (s_goDownTo0 (by omega) hK hu) (fun g1 hx => ?_)
  obtain ⟨hp1, hf1⟩ := hx
  refine b_X7_heard_7 ?_
  refine loopN (P := fun k g' => PT g' 27 (nP K) (downF K k (ptC K)) ∧ xfr g g') (nC K) (fun k g' => ∀ (v1 w : Int), v1 = heardF K k → w = k → EV e mX7_heard _ 9 [vR 0, vI v1, vI w] [] g') ?_ ?_ 0 g1 (Nat.zero_le _) ⟨hp1, hf1.x scr27⟩ _ _ rfl rfl
  · rintro k g2 hk ⟨hp2, hf2⟩ ih v1 w hv1 rfl
    have hu2 := hu.x hf2
    have hm := hu2.1
    have hb := heardF_bd K k
    have h01 : chg K k = 0 ∨ chg K k = 1 := bi_01 _
    refine b_X7_heard_9 (fun c9 => ?_) (fun c9 => ?_)
    · exfalso
      omega
    · refine b_X7_heard_20 (s_changesAny (by omega) hK hu2 hp2 hk) (fun x1 g3 hx => ?_)
      obtain ⟨hx0, hp3, hf3⟩ := hx
      refine b_X7_heard_25 (fun c25 => ?_) (fun c25 => ?_)
      · refine b_X7_heard_31 ?_
        try simp (disch := omega) only [w32_of, Int.toNat_natCast, tn0, tn1, tn2]
        have hx1 := (show _ = chg K k from hx0)
        exact ih _ ⟨hp3, hf2.tr hf3⟩ _ _ (by unfold heardF; omega) (by omega)
      · refine b_X7_heard_28 ?_
        try simp (disch := omega) only [w32_of, Int.toNat_natCast, tn0, tn1, tn2]
        have hx1 := (show _ = chg K k from hx0)
        exact ih _ ⟨hp3, hf2.tr hf3⟩ _ _ (by unfold heardF; omega) (by omega)
  · rintro g2 ⟨hp2, hf2⟩ v1 w hv1 rfl
    have hm := (hu.x hf2).1
    refine b_X7_heard_9 (fun c9 => ?_) (fun c9 => ?_)
    · refine b_X7_heard_37 ?_
      exact rx_ok rfl hv1.symm hf2
    · exfalso
      omega
theorem x_dead {d : Nat} {g : pG} {K : tK} (hd : 8 ≤ d) (hK : KOK K) (hu : SU g 1 K) : CT d mX7_dead [vR 0] g (QX g (deadA K (nC K)) 0) := by
  refine ct_in (L := [vR 0, vX 2, vX 2]) (by omega) (Nat.le_of_ble_eq_true rfl) rfl (fun e he => ?_)
  have h7 := hK.1
  refine b_X7_dead_0 (s_goDownTo0 (by omega) hK hu) (fun g1 hx => ?_)
  obtain ⟨hp1, hf1⟩ := hx
  refine b_X7_dead_7 ?_
  refine loopN (P := fun k g' => PT g' 27 (nP K) (downF K k (ptC K)) ∧ xfr g g') (nC K) (fun k g' => ∀ (v1 w : Int), v1 = deadF K k → w = k → EV e mX7_dead _ 9 [vR 0, vI v1, vI w] [] g') ?_ ?_ 0 g1 (Nat.zero_le _) ⟨hp1, hf1.x scr27⟩ _ _ rfl rfl
  · rintro k g2 hk ⟨hp2, hf2⟩ ih v1 w hv1 rfl
    have hu2 := hu.x hf2
    have hm := hu2.1
    have hb := deadF_bd K k
    have h01 : chg K k = 0 ∨ chg K k = 1 := bi_01 _
    refine b_X7_dead_9 (fun c9 => ?_) (fun c9 => ?_)
    · exfalso
      omega
    · refine b_X7_dead_20 (s_changesAny (by omega) hK hu2 hp2 hk) (fun x1 g3 hx => ?_)
      obtain ⟨hx0, hp3, hf3⟩ := hx
      refine b_X7_dead_25 (fun c25 => ?_) (fun c25 => ?_)
      · refine b_X7_dead_32 ?_
        try simp (disch := omega) only [w32_of, Int.toNat_natCast, tn0, tn1, tn2]
        have hx1 := (show _ = chg K k from hx0)
        first | exact ih _ ⟨hp3, hf2.tr hf3⟩ _ _ (by rw [deadF_0 (by omega)]; exact hv1) (by omega) | exact ih _ ⟨hp3, hf2.tr hf3⟩ _ _ (by rw [deadF_1 (by omega)]) (by omega)
      · refine b_X7_dead_28 ?_
        try simp (disch := omega) only [w32_of, Int.toNat_natCast, tn0, tn1, tn2]
        have hx1 := (show _ = chg K k from hx0)
        first | exact ih _ ⟨hp3, hf2.tr hf3⟩ _ _ (by rw [deadF_0 (by omega)]; exact hv1) (by omega) | exact ih _ ⟨hp3, hf2.tr hf3⟩ _ _ (by rw [deadF_1 (by omega)]) (by omega)
  · rintro g2 ⟨hp2, hf2⟩ v1 w hv1 rfl
    have hm := (hu.x hf2).1
    have hc := deadA_cases K (nC K)
    refine b_X7_dead_9 (fun c9 => ?_) (fun c9 => ?_)
    · refine b_X7_dead_38 (fun c38 => ?_) (fun c38 => ?_)
      · refine b_X7_dead_53 ?_
        exact rx_ok rfl (by omega) hf2
      · refine b_X7_dead_49 ?_
        exact rx_ok rfl (by omega) hf2
    · exfalso
      omega
