def mf2 (g g' : pG) : Prop := (∀ a, (a < 45 ∨ (48 ≤ a ∧ a ≤ 50) ∨ a = 52 ∨ a = 57 ∨ a = 58 ∨ a = 68) → g' a = g a) ∧ ∀ j, (j = 0 ∨ j = 4 ∨ j = 6 ∨ j = 7 ∨ j = 13 ∨ j = 22 ∨ j = 28 ∨ j = 41) → g' 45 j = g 45 j
theorem mfr.two {g g' : pG} (h : mfr g g') : mf2 g g' := ⟨fun a ha => h.1 a (by omega), h.2⟩
theorem mf2.tr {g g1 g2 : pG} (h1 : mf2 g g1) (h2 : mf2 g1 g2) : mf2 g g2 := ⟨fun a ha => (h2.1 a ha).trans (h1.1 a ha), fun j hj => (h2.2 j hj).trans (h1.2 j hj)⟩
theorem mf2.m {g g' : pG} (h : mf2 g g') (h6 : g' 46 = g 46) (h7 : g' 47 = g 47) : mfr g g' := ⟨fun a ha => by
  by_cases e6 : a = 46
  · rw [e6, h6]
  · by_cases e7 : a = 47
    · rw [e7, h7]
    · exact h.1 a (by omega), h.2⟩
theorem mf2.st {g : pG} {c : Nat} (f : tF) (hc : c = 46 ∨ c = 47) : mf2 g (cset g c f) := ⟨fun a ha => by rw [cset_ne _ _ (by omega)], fun j hj => by rw [cset_ne _ _ (by omega)]⟩
def sKF (K : tK) (kd fg : tF) : tK := (nC K, kd, fg, csC K, nP K, ptC K, skC K, lnC K)
theorem SM.two {g g' : pG} {K : tK} {kd fg : tF} (h : SM g K) (hf : mf2 g g') (h6 : ∀ k, k < nC K → g' 46 k = kd k) (h7 : ∀ k, k < nC K → g' 47 k = fg k) : SM g' (sKF K kd fg) := by
  obtain ⟨h1, h2, h3, h4, h5, h8⟩ := h
  refine ⟨by rw [hf.2 0 (by omega)]; exact h1, fun k hk => ⟨h6 k hk, h7 k hk, by rw [hf.1 48 (by omega)]; exact (h2 k hk).2.2⟩, by rw [hf.2 4 (by omega)]; exact h3, fun k hk => by rw [hf.1 49 (by omega)]; exact h4 k hk, by rw [hf.2 6 (by omega)]; exact h5, by rw [hf.2 7 (by omega)]; exact h8⟩
theorem fup2 (f : tF) (c : Nat) (v w : Int) : fup (fup f c v) c w = fup f c w := by
  funext j; unfold fup; split <;> rfl
theorem sumAll_bd {K : tK} (hK : KOK K) : -72 ≤ sumAll K ∧ sumAll K ≤ 72 := su_bd hK (Nat.le_refl _)
/-- worst -/
def rCw (K : tK) (c w : Int) : Int := if 0 ≤ c ∧ c < nC K then rW w 1 else -1
theorem rCw_cases (K : tK) (c w : Int) : ((0 ≤ c ∧ c < nC K) ∧ rCw K c w = rW w 1) ∨ (¬ (0 ≤ c ∧ c < nC K) ∧ rCw K c w = -1) := by
  unfold rCw; split
  · left; exact ⟨by assumption, rfl⟩
  · right; exact ⟨by assumption, rfl⟩
def worstS (K : tK) (c k : Nat) : Int := sumAll (setKd K c k)
def worstF (K : tK) (c : Nat) : Nat → Int × Int
  | 0 => (0, 999)
  | k + 1 => if (worstF K c k).2 ≤ worstS K c k then worstF K c k else ((k : Int), worstS K c k)
theorem worstF_le {K : tK} {c k : Nat} (h : (worstF K c k).2 ≤ worstS K c k) : worstF K c (k + 1) = worstF K c k := if_pos h
theorem worstF_gt {K : tK} {c k : Nat} (h : ¬ (worstF K c k).2 ≤ worstS K c k) : worstF K c (k + 1) = ((k : Int), worstS K c k) := if_neg h
theorem worstS_bd {K : tK} {c k : Nat} (hK : KOK K) (hk : k < 6) : -72 ≤ worstS K c k ∧ worstS K c k ≤ 72 := sumAll_bd (setKd_ok hK (by omega))
theorem worstF_bd {K : tK} {c : Nat} (hK : KOK K) : ∀ k, k ≤ 6 → -72 ≤ (worstF K c k).2 ∧ (worstF K c k).2 ≤ 999 := by
  intro k
  induction k with
  | zero => intro _; exact ⟨(by decide : (-72 : Int) ≤ 999), Int.le_refl _⟩
  | succ k ih =>
    intro hk
    have h1 := worstS_bd (c := c) (k := k) hK (by omega)
    have h2 := ih (by omega)
    by_cases h : (worstF K c k).2 ≤ worstS K c k
    · rw [worstF_le h]; exact h2
    · rw [worstF_gt h]; dsimp only; omega
theorem x_worst {d : Nat} {g : pG} {K : tK} {c w : Int} (hd : 8 ≤ d) (hK : KOK K) (hu : SU g 1 K) : CT d mX7_worst [vR 0, vI c, vI w] g (QX g (aR (rCw K c w) (sel w (worstF K c.toNat 6).1 ((worstF K c.toNat 6).2 + 100))) (rCw K c w)) := by
  refine ct_in (L := [vR 0, vI c, vI w, vX 2, vX 2, vX 2]) (by omega) (Nat.le_of_ble_eq_true rfl) rfl (fun e he => ?_)
  have h7 := hK.1
  have r1 := rCw_cases K c w
  have r2 := rW_cases w 1
  have b1 := bi_cases (0 ≤ c ∧ c < nC K)
  have loop : rCw K c w = 0 → 0 ≤ c → EV e mX7_worst (QX g (aR (rCw K c w) (sel w (worstF K c.toNat 6).1 ((worstF K c.toNat 6).2 + 100))) (rCw K c w)) 42 [vR 0, vI c, vI w, vI 0, vI 1000000000, vI 0] [] g := by
    intro hr0 hc0
    obtain ⟨n, rfl⟩ := Int.eq_ofNat_of_zero_le hc0
    rw [Int.toNat_natCast]
    refine loopN (P := fun k g' => xfr g g') 6 (fun k g' => ∀ (v3 v4 v5 : Int), v3 = (worstF K n k).1 → (v4 = (worstF K n k).2 ∨ (k = 0 ∧ 999 < v4)) → v5 = k → EV e mX7_worst _ 42 [vR 0, vI n, vI w, vI v3, vI v4, vI v5] [] g') ?_ ?_ 0 g (Nat.zero_le _) xfr.rf _ _ _ rfl (Or.inr ⟨rfl, by decide⟩) rfl
    · rintro k g2 hk hf2 ih v3 v4 v5 hv3 hv4 rfl
      have hu2 := hu.x hf2
      have hS := worstS_bd (c := n) (k := k) hK hk
      have hw : w32 ((k : Int) + 1) = ((k + 1 : Nat) : Int) := w32n k (by omega)
      have h0 : k = 0 → (worstF K n k).2 = 999 := fun z => by rw [z]; rfl
      refine b_X7_worst_42 (fun c => absurd c (by omega)) (fun c => ?_)
      refine b_X7_worst_49 (s_with (by omega) hK hu2 (by omega)) (fun g3 hx => ?_)
      obtain ⟨hp3, hf3⟩ := hx
      have hx3 := hf2.tr (hf3.x scr27)
      have hs : CT e mX3_sum [vR 27] g3 (qI (fun x g' => x = worstS K n k ∧ g' = g3)) := s_sum (by omega) pts_27 hp3
      refine b_X7_worst_56 hs (fun x g5 hx => ?_)
      obtain ⟨rfl, rfl⟩ := hx
      refine b_X7_worst_63 (fun c => ?_) (fun c => ?_)
      · have e1 := worstF_le (K := K) (c := n) (k := k) (by omega)
        exact b_X7_worst_80 (ih _ hx3 _ _ _ (by rw [e1]; exact hv3) (Or.inl (by rw [e1]; omega)) hw)
      · have e1 := worstF_gt (K := K) (c := n) (k := k) (by omega)
        refine b_X7_worst_68 hs (fun x g6 hx => ?_)
        obtain ⟨rfl, rfl⟩ := hx
        exact b_X7_worst_75 (ih _ hx3 _ _ _ (by rw [e1]) (Or.inl (by rw [e1])) hw)
    · rintro g2 hf2 v3 v4 v5 hv3 hv4 rfl
      have hb := worstF_bd (c := n) hK 6 (Nat.le_refl _)
      refine b_X7_worst_42 (fun c42 => ?_) (fun c42 => ?_)
      · refine b_X7_worst_86 (fun c86 => ?_) (fun c86 => ?_)
        · refine b_X7_worst_94 ?_
          try simp (disch := omega) only [w32_of, Int.toNat_natCast, tn0, tn1, tn2]
          exact rx_ok hr0 (aR_0 hr0 (sel1 (by omega) (by omega))) hf2
        · refine b_X7_worst_90 ?_
          exact rx_ok hr0 (aR_0 hr0 (sel0 (by omega) hv3.symm)) hf2
      · exfalso
        omega
  refine b_X7_worst_0 (s_hasCourt (by omega) st_1 hu) (fun x0 _ hx => ?_)
  obtain ⟨rfl, rfl⟩ := hx
  refine b_X7_worst_8 (fun c8 => ?_) (fun c8 => ?_)
  · refine b_X7_worst_17 (fun c17 => ?_) (fun c17 => ?_)
    · refine b_X7_worst_26 (s_refuse (by omega) ref2) (fun x3 _ hx => ?_)
      obtain ⟨rfl, rfl⟩ := hx
      refine b_X7_worst_32 ?_
      exact rx_no (by omega) (aR_n (by omega) (by omega))
    · refine b_X7_worst_21 (fun c21 => ?_) (fun c21 => ?_)
      · refine b_X7_worst_33 ?_
        exact loop (by omega) (by omega)
      · refine b_X7_worst_26 (s_refuse (by omega) ref2) (fun x4 _ hx => ?_)
        obtain ⟨rfl, rfl⟩ := hx
        refine b_X7_worst_32 ?_
        exact rx_no (by omega) (aR_n (by omega) (by omega))
  · refine b_X7_worst_11 (s_refuse (by omega) ref1) (fun x2 _ hx => ?_)
    obtain ⟨rfl, rfl⟩ := hx
    refine b_X7_worst_16 ?_
    exact rx_no (by omega) (aR_n (by omega) (by omega))
theorem m_worst {d : Nat} {g : pG} {K : tK} {c w : Int} (hd : 11 ≤ d) (hK : KOK K) (hu : SM g K) : CT d mX8_worst [vR 45, vI c, vI w] g (QM g (aR (rCw K c w) (sel w (worstF K c.toNat 6).1 ((worstF K c.toNat 6).2 + 100))) (rCw K c w)) := by
  refine ct_in (L := [vR 45, vI c, vI w, vX 2, vX 2, vX 2, vX 2, vX 2]) (by omega) (Nat.le_of_ble_eq_true rfl) rfl (fun e he => ?_)
  have h7 := hK.1
  have hu0 := hu.m (thr g)
  have r1 := rCw_cases K c w
  have r2 := rW_cases w 1
  have b1 := bi_cases (0 ≤ c ∧ c < nC K)
  have b2 := bi_cases (0 ≤ w ∧ w ≤ 1)
  have loop : ∀ g1, mfr g g1 → rCw K c w = 0 → (0 ≤ c ∧ c < nC K) → EV e mX8_worst (QM g (aR (rCw K c w) (sel w (worstF K c.toNat 6).1 ((worstF K c.toNat 6).2 + 100))) (rCw K c w)) 60 [vR 45, vI c, vI w, vI (g1 46 c.toNat), vI 0, vI 999, vI 0, vX 2] [] g1 := by
    intro g1 hf1 hr0 hc0
    obtain ⟨n, rfl⟩ := Int.eq_ofNat_of_zero_le hc0.1
    rw [Int.toNat_natCast]
    have e46 : g1 46 = g 46 := hf1.1 46 (by omega)
    rw [e46]
    refine loopN (P := fun k g' => mf2 g g' ∧ g' 47 = g 47 ∧ ∃ v, g' 46 = fup (g 46) n v) 6 (fun k g' => ∀ (v4 v5 v6 : Int) (u : pV), v4 = (worstF K n k).1 → v5 = (worstF K n k).2 → v6 = k → EV e mX8_worst _ 60 [vR 45, vI n, vI w, vI (g 46 n), vI v4, vI v5, vI v6, u] [] g') ?_ ?_ 0 g1 (Nat.zero_le _) ⟨hf1.two, hf1.1 47 (by omega), _, by rw [e46]; exact (fup_id rfl).symm⟩ _ _ _ _ rfl rfl rfl
    · rintro k g2 hk ⟨hf2, h47, vv, h46⟩ ih v4 v5 v6 u hv4 hv5 rfl
      have k6 : ¬ (6 : Int) ≤ (k : Int) := by clear hv4 hv5 r1 r2 b1 b2 ih; omega
      have n0 : (0 : Int) ≤ (n : Int) := Int.natCast_nonneg _
      have he7 : 7 ≤ e := by clear hv4 hv5 r1 r2 b1 b2 ih; omega
      have hk5 : 0 ≤ (k : Int) ∧ (k : Int) ≤ 5 := by clear hv4 hv5 r1 r2 b1 b2 ih; omega
      have n7 : (n : Int) < 7 := by clear hv4 hv5 r1 r2 b1 b2 ih; omega
      have hS := worstS_bd (c := n) (k := k) hK hk
      have hw : w32 ((k : Int) + 1) = ((k + 1 : Nat) : Int) := w32n k (by omega)
      refine b_X8_worst_60 (fun c => absurd c k6) (fun c => ?_)
      have eC : fup (g2 46) n (k : Int) = fup (g 46) n k := by rw [h46, fup2]
      have hf3 : mf2 g (cset g2 46 (fup (g2 46) n (k : Int))) := hf2.tr (mf2.st _ (Or.inl rfl))
      have hu3 : SM (cset g2 46 (fup (g2 46) n (k : Int))) (setKd K n k) := hu.two hf3 (fun j hj => by
        rw [cset_self, eC]
        show fup (g 46) n k j = fup (kdC K) n k j
        unfold fup
        split
        · rfl
        · exact (hu.2.1 j hj).1) (fun j hj => by rw [cset_ne _ _ (by decide), h47]; exact (hu.2.1 j hj).2.1)
      refine b_X8_worst_67 n0 n7 (by rw [Int.toNat_natCast]; exact m_sumAll he7 (setKd_ok hK hk5) hu3) (fun x g4 hx => ?_)
      obtain ⟨hx0, hf4⟩ := hx
      have hx0 : x = worstS K n k := hx0
      subst hx0
      have hD : mf2 g g4 ∧ g4 47 = g 47 ∧ ∃ v, g4 46 = fup (g 46) n v := ⟨hf3.tr hf4.m.two, by rw [hf4.1 47 (by decide) (by decide), cset_ne _ _ (by decide)]; exact h47, _, by rw [hf4.1 46 (by decide) (by decide), cset_self]; exact eC⟩
      refine b_X8_worst_79 (fun c => ?_) (fun c => ?_)
      · have e1 := worstF_le (K := K) (c := n) (k := k) (by omega)
        refine b_X8_worst_93 (fun c2 => ?_) (fun c2 => absurd c c2)
        exact b_X8_worst_109 (ih _ hD _ _ _ _ (by rw [e1]; exact hv4) (by rw [e1]; exact hv5) hw)
      · have e1 := worstF_gt (K := K) (c := n) (k := k) (by omega)
        refine b_X8_worst_88 (fun c2 => absurd c2 c) (fun c2 => ?_)
        exact b_X8_worst_104 (ih _ hD _ _ _ _ (by rw [e1]) (by rw [e1]) hw)
    · rintro g2 ⟨hf2, h47, vv, h46⟩ v4 v5 v6 u hv4 hv5 rfl
      have hb := worstF_bd (c := n) hK 6 (Nat.le_refl _)
      have hfin : mfr g (cset g2 46 (fup (g2 46) n (g 46 n))) := (hf2.tr (mf2.st _ (Or.inl rfl))).m (by rw [cset_self, h46, fup2]; exact fup_id rfl) (by rw [cset_ne _ _ (by decide)]; exact h47)
      refine b_X8_worst_60 (fun c => ?_) (fun c => absurd (by omega) c)
      refine b_X8_worst_119 (by omega) (by omega) (fun c => ?_) (fun c => ?_)
      · rw [Int.toNat_natCast]
        refine b_X8_worst_135 ?_
        rw [w32_of (by omega) (by omega)]
        exact rm_ok hr0 (aR_0 hr0 (sel1 (by omega) (by omega))) hfin
      · rw [Int.toNat_natCast]
        exact b_X8_worst_130 (rm_ok hr0 (aR_0 hr0 (sel0 (by omega) hv4.symm)) hfin)
  refine b_X8_worst_0 (m_isCourt (by omega) hK hu0) (fun x0 _ hx => ?_)
  obtain ⟨rfl, rfl⟩ := hx
  refine b_X8_worst_10 (fun c10 => ?_) (fun c10 => ?_)
  · refine b_X8_worst_23 (m_isCourt (by omega) hK hu0) (fun x2 _ hx => ?_)
    obtain ⟨rfl, rfl⟩ := hx
    refine b_X8_worst_29 (fun c29 => ?_) (fun c29 => ?_)
    · refine b_X8_worst_37 (m_refuse (by omega) ref1) (fun x4 _ hx => ?_)
      obtain ⟨rfl, rfl⟩ := hx
      refine b_X8_worst_41 ?_
      first | exact rm_no (thr g) (m := -2) (by omega) (aR_n (by omega) (by omega)) | exact rm_no (thr g) (m := -1) (by omega) (aR_n (by omega) (by omega)) | (exfalso; omega)
    · refine b_X8_worst_32 (m_refuse (by omega) ref2) (fun x4 _ hx => ?_)
      obtain ⟨rfl, rfl⟩ := hx
      refine b_X8_worst_41 ?_
      first | exact rm_no (thr g) (m := -2) (by omega) (aR_n (by omega) (by omega)) | exact rm_no (thr g) (m := -1) (by omega) (aR_n (by omega) (by omega)) | (exfalso; omega)
  · refine b_X8_worst_13 (m_in (by omega)) (fun x2 _ hx => ?_)
    obtain ⟨rfl, rfl⟩ := hx
    refine b_X8_worst_20 (fun c20 => ?_) (fun c20 => ?_)
    · refine b_X8_worst_42 (by omega) (by omega) ?_
      try simp (disch := omega) only [w32_of, Int.toNat_natCast, tn0, tn1, tn2]
      exact loop _ (thr g) (by omega) (by omega)
    · refine b_X8_worst_23 (m_isCourt (by omega) hK hu0) (fun x4 _ hx => ?_)
      obtain ⟨rfl, rfl⟩ := hx
      refine b_X8_worst_29 (fun c29 => ?_) (fun c29 => ?_)
      · refine b_X8_worst_37 (m_refuse (by omega) ref1) (fun x6 _ hx => ?_)
        obtain ⟨rfl, rfl⟩ := hx
        refine b_X8_worst_41 ?_
        first | exact rm_no (thr g) (m := -2) (by omega) (aR_n (by omega) (by omega)) | exact rm_no (thr g) (m := -1) (by omega) (aR_n (by omega) (by omega)) | (exfalso; omega)
      · refine b_X8_worst_32 (m_refuse (by omega) ref2) (fun x6 _ hx => ?_)
        obtain ⟨rfl, rfl⟩ := hx
        refine b_X8_worst_41 ?_
        first | exact rm_no (thr g) (m := -2) (by omega) (aR_n (by omega) (by omega)) | exact rm_no (thr g) (m := -1) (by omega) (aR_n (by omega) (by omega)) | (exfalso; omega)
/-- lastSay -/
def rLs (K : tK) : Int := if nC K = 0 then -3 else 0
theorem rLs_cases (K : tK) : (nC K = 0 ∧ rLs K = -3) ∨ (nC K ≠ 0 ∧ rLs K = 0) := by
  unfold rLs; split
  · left; exact ⟨by assumption, rfl⟩
  · right; exact ⟨by assumption, rfl⟩
abbrev lsQ (K : tK) (k : Nat) : Prop := 0 < sumAll (setKd K (nC K - 1) k)
theorem x_lastSay {d : Nat} {g : pG} {K : tK} (hd : 8 ≤ d) (hK : KOK K) (hu : SU g 1 K) : CT d mX7_lastSay [vR 0] g (QX g (aR (rLs K) (bitsF (lsQ K) 6)) (rLs K)) := by
  refine ct_in (L := [vR 0, vX 2, vX 2]) (by omega) (Nat.le_of_ble_eq_true rfl) rfl (fun e he => ?_)
  have h7 := hK.1
  have hm := hu.1
  have r1 := rLs_cases K
  have loop : rLs K = 0 → nC K ≠ 0 → EV e mX7_lastSay (QX g (aR (rLs K) (bitsF (lsQ K) 6)) (rLs K)) 21 [vR 0, vI 0, vI 0] [] g := by
    intro hr0 hn0
    refine loopN (P := fun k g' => xfr g g') 6 (fun k g' => ∀ (v1 v2 : Int), v1 = bitsF (lsQ K) k → v2 = k → EV e mX7_lastSay _ 21 [vR 0, vI v1, vI v2] [] g') ?_ ?_ 0 g (Nat.zero_le _) xfr.rf _ _ rfl rfl
    · rintro k g2 hk hf2 ih v1 v2 hv1 rfl
      have hu2 := hu.x hf2
      have hm2 := hu2.1
      have hw : w32 ((k : Int) + 1) = ((k + 1 : Nat) : Int) := w32n k (by omega)
      have e1 : w32 (g2 1 3 - 1) = ((nC K - 1 : Nat) : Int) := by rw [hm2, w32_of (by omega) (by omega)]; omega
      refine b_X7_lastSay_21 (fun c => absurd c (by omega)) (fun c => ?_)
      refine b_X7_lastSay_27 (by rw [e1]; exact s_with (by omega) hK hu2 (by omega)) (fun g3 hx => ?_)
      obtain ⟨hp3, hf3⟩ := hx
      have hx3 := hf2.tr (hf3.x scr27)
      have hs : CT e mX3_isFor [vR 27] g3 (qI (fun x g' => x = bi (lsQ K k) ∧ g' = g3)) := s_isFor (by omega) pts_27 hp3
      refine b_X7_lastSay_41 hs (fun x g5 hx => ?_)
      obtain ⟨rfl, rfl⟩ := hx
      refine b_X7_lastSay_48 (fun c => ?_) (fun c => ?_)
      · exact b_X7_lastSay_57 (ih _ hx3 _ _ (by rw [bitsF_0 (bi_eq0 c)]; exact hv1) hw)
      · exact b_X7_lastSay_51 (ih _ hx3 _ _ (by rw [bitsF_1 (bi_ne0 c), hv1]) hw)
    · rintro g2 hf2 v1 v2 hv1 rfl
      refine b_X7_lastSay_21 (fun c21 => ?_) (fun c21 => ?_)
      · refine b_X7_lastSay_63 ?_
        exact rx_ok hr0 (aR_0 hr0 hv1.symm) hf2
      · exfalso
        omega
  refine b_X7_lastSay_0 (fun c0 => ?_) (fun c0 => ?_)
  · refine b_X7_lastSay_17 ?_
    exact loop (by omega) (by omega)
  · refine b_X7_lastSay_10 (s_refuse (by omega) ref3) (fun x1 _ hx => ?_)
    obtain ⟨rfl, rfl⟩ := hx
    refine b_X7_lastSay_16 ?_
    exact rx_no (by omega) (aR_n (by omega) (by omega))
theorem m_lastSay {d : Nat} {g : pG} {K : tK} (hd : 11 ≤ d) (hK : KOK K) (hu : SM g K) : CT d mX8_lastSay [vR 45] g (QM g (aR (rLs K) (bitsF (lsQ K) 6)) (rLs K)) := by
  refine ct_in (L := [vR 45, vX 2, vX 2, vX 2]) (by omega) (Nat.le_of_ble_eq_true rfl) rfl (fun e he => ?_)
  have h7 := hK.1
  have hu0 := hu.m (thr g)
  have hm0 : fup (g 45) 8 0 0 = nC K := by rw [← hu0.1, cset_self]
  have r1 := rLs_cases K
  refine b_X8_lastSay_0 (fun c => ?_) (fun c => ?_)
  · have hr0 : rLs K = 0 := by omega
    have hn0 : nC K ≠ 0 := by omega
    obtain ⟨n, hn⟩ : ∃ n, nC K - 1 = n := ⟨_, rfl⟩
    have hnn : (n : Int) = (nC K : Int) - 1 := by omega
    have ee : ∀ g2, mf2 g g2 → w32 (g2 45 0 - 1) = (n : Int) := fun g2 h => by rw [h.2 0 (by omega), hu.1, w32_of (by omega) (by omega)]; omega
    have e1 := ee _ (thr g).two
    have e46 : cset g 45 (fup (g 45) 8 0) 46 = g 46 := cset_ne _ _ (by decide)
    refine b_X8_lastSay_19 (by omega) (by omega) ?_
    rw [e1, Int.toNat_natCast, e46]
    refine loopN (P := fun k g' => mf2 g g' ∧ g' 47 = g 47 ∧ ∃ v, g' 46 = fup (g 46) n v) 6 (fun k g' => ∀ (v2 v3 : Int), v2 = bitsF (lsQ K) k → v3 = k → EV e mX8_lastSay _ 35 [vR 45, vI (g 46 n), vI v2, vI v3] [] g') ?_ ?_ 0 _ (Nat.zero_le _) ⟨(thr g).two, cset_ne _ _ (by decide), _, by rw [e46]; exact (fup_id rfl).symm⟩ _ _ rfl rfl
    · rintro k g2 hk ⟨hf2, h47, vv, h46⟩ ih v2 v3 hv2 rfl
      have k6 : ¬ (6 : Int) ≤ (k : Int) := by clear hv2 h46 ih e46 hm0 e1 ee; omega
      have n0 : (0 : Int) ≤ (n : Int) := Int.natCast_nonneg _
      have n7 : (n : Int) < 7 := by clear hv2 h46 ih e46 hm0 e1 ee; omega
      have he7 : 7 ≤ e := by clear hv2 h46 ih e46 hm0 e1 ee; omega
      have hk5 : 0 ≤ (k : Int) ∧ (k : Int) ≤ 5 := by clear hv2 h46 ih e46 hm0 e1 ee; omega
      have hw : w32 ((k : Int) + 1) = ((k + 1 : Nat) : Int) := w32n k (by omega)
      have e2 := ee _ hf2
      refine b_X8_lastSay_35 (fun c => absurd c k6) (fun c => ?_)
      have eC : fup (g2 46) n (k : Int) = fup (g 46) n k := by rw [h46, fup2]
      have hf3 : mf2 g (cset g2 46 (fup (g2 46) n (k : Int))) := hf2.tr (mf2.st _ (Or.inl rfl))
      have hu3 : SM (cset g2 46 (fup (g2 46) n (k : Int))) (setKd K n k) := hu.two hf3 (fun j hj => by
        rw [cset_self, eC]
        show fup (g 46) n k j = fup (kdC K) n k j
        unfold fup
        split
        · rfl
        · exact (hu.2.1 j hj).1) (fun j hj => by rw [cset_ne _ _ (by decide), h47]; exact (hu.2.1 j hj).2.1)
      refine b_X8_lastSay_41 (by rw [e2]; exact n0) (by rw [e2]; exact n7) (by rw [e2, Int.toNat_natCast]; exact m_sumAll he7 (setKd_ok hK hk5) hu3) (fun x g4 hx => ?_)
      obtain ⟨hx0, hf4⟩ := hx
      have hD : mf2 g g4 ∧ g4 47 = g 47 ∧ ∃ v, g4 46 = fup (g 46) n v := ⟨hf3.tr hf4.m.two, by rw [hf4.1 47 (by decide) (by decide), cset_ne _ _ (by decide)]; exact h47, _, by rw [hf4.1 46 (by decide) (by decide), cset_self]; exact eC⟩
      refine b_X8_lastSay_58 (fun c => ?_) (fun c => ?_)
      · have h1 : ¬ lsQ K k := by show ¬ (0 < sumAll (setKd K (nC K - 1) k)); rw [hn]; omega
        exact b_X8_lastSay_67 (ih _ hD _ _ (by rw [bitsF_0 h1, hv2, bitsF_z]) hw)
      · have h1 : lsQ K k := by show 0 < sumAll (setKd K (nC K - 1) k); rw [hn]; omega
        exact b_X8_lastSay_61 (ih _ hD _ _ (by rw [bitsF_1 h1, hv2]) hw)
    · rintro g2 ⟨hf2, h47, vv, h46⟩ v2 v3 hv2 rfl
      have e2 := ee _ hf2
      have hfin : mfr g (cset g2 46 (fup (g2 46) n (g 46 n))) := (hf2.tr (mf2.st _ (Or.inl rfl))).m (by rw [cset_self, h46, fup2]; exact fup_id rfl) (by rw [cset_ne _ _ (by decide)]; exact h47)
      refine b_X8_lastSay_35 (fun c => ?_) (fun c => absurd (by omega) c)
      refine b_X8_lastSay_76 (by omega) (by omega) ?_
      rw [e2, Int.toNat_natCast]
      exact rm_ok hr0 (aR_0 hr0 hv2.symm) hfin
  · refine b_X8_lastSay_12 (m_refuse (by omega) ref3) (fun x g1 hx => ?_)
    obtain ⟨rfl, rfl⟩ := hx
    exact b_X8_lastSay_18 (rm_no (thr g) (by omega) (aR_n (by omega) (by omega)))
