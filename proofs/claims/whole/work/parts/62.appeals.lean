def thrK (K : tK) : Int := if nC K = 0 then 0 else 1 + (lfind (fun k => (wK K (k + 1)).1 = 0) (nC K - 1) : Nat)
theorem thrK_0 {K : tK} (h : nC K = 0) : thrK K = 0 := if_pos h
theorem thrK_p {K : tK} (h : nC K ≠ 0) : thrK K = 1 + (lfind (fun k => (wK K (k + 1)).1 = 0) (nC K - 1) : Nat) := if_neg h
theorem wK_end (K : tK) : (wK K (nC K)).1 = 0 := by
  show (wI (fo K) (csC K) (skC K) (nC K) (nC K)).1 = 0
  rw [wI_n]
theorem s_through {d : Nat} {g : pG} {K : tK} (hd : 1 ≤ d) (hK : KOK K) (h5 : g 33 5 = nC K) (hw : ∀ k, k < nC K → g 35 k = (wK K (k + 1)).1) : CT d mX6_through [vR 33] g (qI (fun x g' => x = thrK K ∧ g' = g)) := by
  refine ct_in (L := [vR 33, vX 2]) (by omega) (Nat.le_of_ble_eq_true rfl) rfl (fun e he => ?_)
  have h7 := hK.1
  refine b_X6_through_0 (fun c => ?_) (fun c => ?_)
  · have hne : nC K ≠ 0 := by omega
    refine b_X6_through_9 ?_
    refine loopN (P := fun k g' => g' = g ∧ ∀ j, j < k → ¬ (wK K (j + 1)).1 = 0) (nC K - 1) (fun k g' => ∀ q : Int, q = k → EV e mX6_through _ 11 [vR 33, vI q] [] g') ?_ ?_ 0 g (Nat.zero_le _) ⟨rfl, fun j hj => absurd hj (Nat.not_lt_zero _)⟩ _ rfl
    · rintro k g hk ⟨rfl, hall⟩ ih q rfl
      have hr := hw k (by omega)
      refine b_X6_through_11 (fun c => absurd c (by rw [h5, w32_of (by omega) (by omega)]; omega)) (fun c => ?_)
      refine b_X6_through_21 (by omega) (by omega) (fun c2 => ?_) (fun c2 => ?_)
      · rw [Int.toNat_natCast, hr] at c2
        refine b_X6_through_36 ⟨_, rfl, ?_, rfl⟩
        rw [thrK_p hne, lfind_hit hall c2 _ hk, w32_of (by omega) (by omega)]
        omega
      · rw [Int.toNat_natCast, hr] at c2
        exact b_X6_through_30 (ih _ ⟨rfl, fun j hj => if h : j = k then h ▸ c2 else hall j (by omega)⟩ _ (w32n k (by omega)))
    · rintro g ⟨rfl, hall⟩ q rfl
      refine b_X6_through_11 (fun c => ?_) (fun c => absurd (by rw [h5, w32_of (by omega) (by omega)]; omega) c)
      refine b_X6_through_36 ⟨_, rfl, ?_, rfl⟩
      rw [thrK_p hne, lfind_none _ hall, w32_of (by omega) (by omega)]
      omega
  · exact b_X6_through_7 ⟨_, rfl, (thrK_0 (by omega)).symm, rfl⟩
theorem m_through {d : Nat} {g : pG} {K : tK} (hd : 1 ≤ d) (hK : KOK K) (h5 : g 45 0 = nC K) (hw : ∀ i, i ≤ nC K → g 63 i = (wK K i).1) : CT d mX8_goneThrough [vR 45] g (qI (fun x g' => x = thrK K ∧ g' = g)) := by
  refine ct_in (L := [vR 45, vX 2]) (by omega) (Nat.le_of_ble_eq_true rfl) rfl (fun e he => ?_)
  have h7 := hK.1
  refine b_X8_goneThrough_0 (fun c => ?_) (fun c => ?_)
  · have h0 : nC K = 0 := by omega
    refine b_X8_goneThrough_11 (b_X8_goneThrough_13 (by decide) (by decide) (fun c2 => ?_) (fun c2 => ?_))
    · exact b_X8_goneThrough_32 ⟨_, rfl, (thrK_0 h0).symm, rfl⟩
    · refine b_X8_goneThrough_22 (fun c3 => ?_) (fun c3 => absurd (by decide) c3)
      exact b_X8_goneThrough_32 ⟨_, rfl, (thrK_0 h0).symm, rfl⟩
  · have hne : nC K ≠ 0 := by omega
    refine b_X8_goneThrough_7 ?_
    refine loopN (P := fun k g' => g' = g ∧ ∀ j, j < k → ¬ (wK K (j + 1)).1 = 0) (nC K - 1) (fun k g' => ∀ q : Int, q = ((k + 1 : Nat) : Int) → EV e mX8_goneThrough _ 13 [vR 45, vI q] [] g') ?_ ?_ 0 g (Nat.zero_le _) ⟨rfl, fun j hj => absurd hj (Nat.not_lt_zero _)⟩ _ rfl
    · rintro k g hk ⟨rfl, hall⟩ ih q rfl
      have hr := hw (k + 1) (by omega)
      refine b_X8_goneThrough_13 (by omega) (by omega) (fun c2 => ?_) (fun c2 => ?_)
      · rw [Int.toNat_natCast, hr] at c2
        refine b_X8_goneThrough_32 ⟨_, rfl, ?_, rfl⟩
        rw [thrK_p hne, lfind_hit hall c2 _ hk]
        omega
      · rw [Int.toNat_natCast, hr] at c2
        refine b_X8_goneThrough_22 (fun c3 => absurd c3 (by omega)) (fun c3 => ?_)
        exact b_X8_goneThrough_26 (ih _ ⟨rfl, fun j hj => if h : j = k then h ▸ c2 else hall j (by omega)⟩ _ (w32n (k + 1) (by omega)))
    · rintro g ⟨rfl, hall⟩ q rfl
      have en : nC K - 1 + 1 = nC K := by omega
      rw [en]
      have hr := hw (nC K) (Nat.le_refl _)
      refine b_X8_goneThrough_13 (by omega) (by omega) (fun c2 => ?_) (fun c2 => ?_)
      · refine b_X8_goneThrough_32 ⟨_, rfl, ?_, rfl⟩
        rw [thrK_p hne, lfind_none _ hall]
        omega
      · rw [Int.toNat_natCast, hr, wK_end] at c2
        exact absurd rfl c2
/-- appeals -/
def aAp (K : tK) (w : Int) : Int := if w = 0 then thrK K else if w = 1 then (if nC K = 0 then fo K 0 else (wK K 1).2.1) else if nC K = 0 then 0 else if w = 2 then (wK K 1).2.2.1 else (wK K 1).2.2.2
theorem aAp_1 {K : tK} : aAp K 1 = if nC K = 0 then fo K 0 else (wK K 1).2.1 := rfl
theorem aAp_2 {K : tK} : aAp K 2 = if nC K = 0 then 0 else (wK K 1).2.2.1 := rfl
theorem aAp_3 {K : tK} {w : Int} (h : w ≠ 0 ∧ w ≠ 1 ∧ w ≠ 2) : aAp K w = if nC K = 0 then 0 else (wK K 1).2.2.2 := by
  unfold aAp; rw [if_neg h.1, if_neg h.2.1, if_neg h.2.2]
theorem x_appeals {d : Nat} {g : pG} {K : tK} {w : Int} (hd : 8 ≤ d) (hK : KOK K) (hu : SU g 1 K) : CT d mX7_appeals [vR 0, vI w] g (QX g (aR (rW w 3) (aAp K w)) (rW w 3)) := by
  refine ct_in (L := [vR 0, vI w]) (by omega) (Nat.le_of_ble_eq_true rfl) rfl (fun e he => ?_)
  have h7 := hK.1
  have r2 := rW_cases w 3
  have he5 : 6 ≤ e := by omega
  have go : rW w 3 = 0 → EV e mX7_appeals (QX g (aR (rW w 3) (aAp K w)) (rW w 3)) 16 [vR 0, vI w] [] g := by
    intro hr0
    refine b_X7_appeals_16 (s_weigh he5 hK hu) (fun g1 hx => ?_)
    obtain ⟨h5, hw, hp, hx1⟩ := hx
    have hu1 := hu.x hx1
    have hn : g1 1 3 = nC K := hu1.1
    refine b_X7_appeals_31 (fun c => ?_) (fun c => ?_) (fun c => ?_) (fun c => ?_)
    · subst c
      refine b_X7_appeals_60 (s_through (by omega) hK h5 (fun k hk => (hw k hk).2.1)) (fun x g2 hx => ?_)
      obtain ⟨rfl, rfl⟩ := hx
      exact b_X7_appeals_67 (rx_ok hr0 (aR_0 hr0 rfl) hx1)
    · subst c
      refine b_X7_appeals_68 (fun c => ?_) (fun c => ?_)
      · have e9 : g1 36 0 = (wK K 1).2.1 := (hw 0 (by omega)).2.2.1
        refine b_X7_appeals_88 (s_bit (by omega) (by rw [e9]; exact (wK_b hK 1).2.1)) (fun x g2 hx => ?_)
        obtain ⟨rfl, rfl⟩ := hx
        exact b_X7_appeals_100 (rx_ok hr0 (aR_0 hr0 (by rw [aAp_1, if_neg (by omega), e9])) hx1)
      · have h0 : nC K = 0 := by omega
        refine b_X7_appeals_78 (s_isFor (by omega) pts_27 hp) (fun x g2 hx => ?_)
        obtain ⟨rfl, rfl⟩ := hx
        refine b_X7_appeals_85 (s_bit (by omega) (bi_01 _)) (fun x g2 hx => ?_)
        obtain ⟨rfl, rfl⟩ := hx
        exact b_X7_appeals_100 (rx_ok hr0 (aR_0 hr0 (by rw [aAp_1, if_pos h0, h0]; rfl)) hx1)
    · subst c
      refine b_X7_appeals_101 (fun c => ?_) (fun c => ?_)
      · have e9 : g1 37 0 = (wK K 1).2.2.1 := (hw 0 (by omega)).2.2.2.1
        exact b_X7_appeals_115 (rx_ok hr0 (aR_0 hr0 (by rw [aAp_2, if_neg (by omega), e9])) hx1)
      · exact b_X7_appeals_111 (rx_ok hr0 (aR_0 hr0 (by rw [aAp_2, if_pos (by omega)])) hx1)
    · refine b_X7_appeals_125 (fun c2 => ?_) (fun c2 => ?_)
      · have e9 : g1 38 0 = (wK K 1).2.2.2 := (hw 0 (by omega)).2.2.2.2
        exact b_X7_appeals_139 (rx_ok hr0 (aR_0 hr0 (by rw [aAp_3 c, if_neg (by omega), e9])) hx1)
      · exact b_X7_appeals_135 (rx_ok hr0 (aR_0 hr0 (by rw [aAp_3 c, if_pos (by omega)])) hx1)
  refine b_X7_appeals_0 (fun c0 => ?_) (fun c0 => ?_)
  · refine b_X7_appeals_9 (s_refuse (by omega) ref2) (fun x1 _ hx => ?_)
    obtain ⟨rfl, rfl⟩ := hx
    refine b_X7_appeals_15 ?_
    exact rx_no (by omega) (aR_n (by omega) (by omega))
  · refine b_X7_appeals_4 (fun c4 => ?_) (fun c4 => ?_)
    · exact go (by omega)
    · refine b_X7_appeals_9 (s_refuse (by omega) ref2) (fun x2 _ hx => ?_)
      obtain ⟨rfl, rfl⟩ := hx
      refine b_X7_appeals_15 ?_
      exact rx_no (by omega) (aR_n (by omega) (by omega))
theorem m_appeals {d : Nat} {g : pG} {K : tK} {w : Int} (hd : 11 ≤ d) (hK : KOK K) (hu : SM g K) : CT d mX8_appeals [vR 45, vI w] g (QM g (aR (rW w 3) (aAp K w)) (rW w 3)) := by
  refine ct_in (L := [vR 45, vI w, vX 2]) (by omega) (Nat.le_of_ble_eq_true rfl) rfl (fun e he => ?_)
  have h7 := hK.1
  have r2 := rW_cases w 3
  have b1 := bi_cases (0 ≤ w ∧ w ≤ 3)
  have hu0 := hu.m (thr g)
  have he6 : 6 ≤ e := by omega
  have go : rW w 3 = 0 → EV e mX8_appeals (QM g (aR (rW w 3) (aAp K w)) (rW w 3)) 24 [vR 45, vI w, vX 2] [] (cset g 45 (fup (g 45) 8 0)) := by
    intro hr0
    refine b_X8_appeals_24 (m_lay he6 hK hu0) (fun g1 hx => ?_)
    obtain ⟨hw, hf1⟩ := hx
    have hx1 := (thr g).tr hf1
    have hu1 := hu.m hx1
    have hn : g1 45 0 = nC K := hu1.1
    have k0 : ∀ v : Int, w = 0 → EV e mX8_appeals (QM g (aR (rW w 3) (aAp K w)) (rW w 3)) 68 [vR 45, vI w, vI v] [] g1 := by
      intro v c
      subst c
      refine b_X8_appeals_68 (m_through (by omega) hK hn (fun i hi => (hw i hi).2.1)) (fun x g2 hx => ?_)
      obtain ⟨rfl, rfl⟩ := hx
      exact b_X8_appeals_72 (rm_ok hr0 (aR_0 hr0 rfl) hx1)
    refine b_X8_appeals_28 (fun c => ?_) (fun c => ?_)
    · have h0 : nC K = 0 := by omega
      have e0 : g1 62 0 = fo K 0 := (hw 0 (by omega)).1
      refine b_X8_appeals_39 (fun c => k0 _ c) (fun c => ?_) (fun c => ?_) (fun c => ?_)
      · subst c
        refine b_X8_appeals_73 (fun c => absurd rfl c) (fun _ => ?_)
        refine b_X8_appeals_77 (fun c => ?_) (fun c => ?_)
        · exact b_X8_appeals_102 (rm_ok hr0 (aR_0 hr0 (by rw [aAp_1, if_pos h0, ← e0, c])) hx1)
        · exact b_X8_appeals_86 (rm_ok hr0 (aR_0 hr0 (by rw [aAp_1, if_pos h0]; have := fo_01 K 0; omega)) hx1)
      · subst c
        refine b_X8_appeals_104 (fun c => absurd rfl c) (fun _ => ?_)
        exact b_X8_appeals_108 (rm_ok hr0 (aR_0 hr0 (by rw [aAp_2, if_pos h0])) hx1)
      · refine b_X8_appeals_119 (fun c => absurd rfl c) (fun _ => ?_)
        exact b_X8_appeals_123 (rm_ok hr0 (aR_0 hr0 (by rw [aAp_3 c, if_pos h0])) hx1)
    · have h0 : nC K ≠ 0 := by omega
      have hw1 := (hw 1 (by omega)).2
      have e1 : g1 64 1 = (wK K 1).2.1 := hw1.2.1
      have e2 : g1 65 1 = (wK K 1).2.2.1 := hw1.2.2.1
      have e3 : g1 66 1 = (wK K 1).2.2.2 := hw1.2.2.2
      have hb := (wK_b hK 1).2.1
      refine b_X8_appeals_35 (fun c => k0 _ c) (fun c => ?_) (fun c => ?_) (fun c => ?_)
      · subst c
        refine b_X8_appeals_73 (fun _ => ?_) (fun c => absurd (by decide) c)
        refine b_X8_appeals_89 (fun c => ?_) (fun c => ?_)
        · exact b_X8_appeals_102 (rm_ok hr0 (aR_0 hr0 (by rw [aAp_1, if_neg h0, ← e1, c])) hx1)
        · exact b_X8_appeals_98 (rm_ok hr0 (aR_0 hr0 (by rw [aAp_1, if_neg h0]; omega)) hx1)
      · subst c
        refine b_X8_appeals_104 (fun _ => ?_) (fun c => absurd (by decide) c)
        exact b_X8_appeals_112 (rm_ok hr0 (aR_0 hr0 (by rw [aAp_2, if_neg h0, e2])) hx1)
      · refine b_X8_appeals_119 (fun _ => ?_) (fun c => absurd (by decide) c)
        exact b_X8_appeals_127 (rm_ok hr0 (aR_0 hr0 (by rw [aAp_3 c, if_neg h0, e3])) hx1)
  refine b_X8_appeals_0 (m_in (by omega)) (fun x g0 hx => ?_)
  obtain ⟨rfl, rfl⟩ := hx
  refine b_X8_appeals_14 (fun c => ?_) (fun c => ?_)
  · exact go (by omega)
  · refine b_X8_appeals_17 (m_refuse (by omega) ref2) (fun x g1 hx => ?_)
    obtain ⟨rfl, rfl⟩ := hx
    exact b_X8_appeals_23 (rm_no (thr g) (by omega) (aR_n (by omega) (by omega)))
/-- treaty -/
def rTr (K : tK) (k w : Int) : Int := if nC K = 0 then -3 else if wrN k 0 ((nC K : Int) - 1) = 0 then rW w 1 else wrN k 0 ((nC K : Int) - 1)
theorem rTr_cases (K : tK) (k w : Int) : (nC K = 0 ∧ rTr K k w = -3) ∨ (nC K ≠ 0 ∧ wrN k 0 ((nC K : Int) - 1) ≠ 0 ∧ rTr K k w = wrN k 0 ((nC K : Int) - 1)) ∨ (nC K ≠ 0 ∧ wrN k 0 ((nC K : Int) - 1) = 0 ∧ rTr K k w = rW w 1) := by
  unfold rTr
  by_cases h1 : nC K = 0
  · rw [if_pos h1]; exact Or.inl ⟨h1, rfl⟩
  · rw [if_neg h1]
    by_cases h2 : wrN k 0 ((nC K : Int) - 1) = 0
    · rw [if_pos h2]; exact Or.inr (Or.inr ⟨h1, h2, rfl⟩)
    · rw [if_neg h2]; exact Or.inr (Or.inl ⟨h1, h2, rfl⟩)
def aTr (K : tK) (k w : Int) : Int := sel w ((wK K (k.toNat + 1)).2.2.1 + (wK K (k.toNat + 1)).2.2.2) (wK K (k.toNat + 1)).1
theorem x_treaty {d : Nat} {g : pG} {K : tK} {k w : Int} (hd : 8 ≤ d) (hK : KOK K) (hu : SU g 1 K) : CT d mX7_treaty [vR 0, vI k, vI w] g (QX g (aR (rTr K k w) (aTr K k w)) (rTr K k w)) := by
  refine ct_in (L := [vR 0, vI k, vI w, vX 2]) (by omega) (Nat.le_of_ble_eq_true rfl) rfl (fun e he => ?_)
  have h7 := hK.1
  have r1 := rTr_cases K k w
  have r2 := rW_cases w 1
  have r3 := wrN_cases k 0 ((nC K : Int) - 1)
  have hn : g 1 3 = nC K := hu.1
  have he5 : 6 ≤ e := by omega
  refine b_X7_treaty_0 (fun c => ?_) (fun c => ?_)
  · have e1 : w32 (g 1 3 - 1) = (nC K : Int) - 1 := by rw [hn, w32_of (by omega) (by omega)]
    refine b_X7_treaty_17 (by rw [e1]; exact s_outside (by omega)) (fun x g0 hx => ?_)
    obtain ⟨rfl, rfl⟩ := hx
    refine b_X7_treaty_31 (fun c2 => ?_) (fun c2 => ?_)
    · have no : ¬ (0 ≤ w ∧ w ≤ 1) → EV e mX7_treaty (QX g0 (aR (rTr K k w) (aTr K k w)) (rTr K k w)) 51 [vR 0, vI k, vI w, vI (wrN k 0 ((nC K : Int) - 1))] [] g0 := by
        intro h
        refine b_X7_treaty_51 (s_refuse (by omega) ref2) (fun x g1 hx => ?_)
        obtain ⟨rfl, rfl⟩ := hx
        exact b_X7_treaty_57 (rx_no (by omega) (aR_n (by omega) (by omega)))
      refine b_X7_treaty_42 (fun c3 => no (by omega)) (fun c3 => ?_)
      refine b_X7_treaty_46 (fun c4 => ?_) (fun c4 => no (by omega))
      have hr0 : rTr K k w = 0 := by omega
      refine b_X7_treaty_58 (s_weigh he5 hK hu) (fun g1 hx => ?_)
      obtain ⟨h5, hw, hp, hx1⟩ := hx
      obtain ⟨h34, hW⟩ := hw k.toNat (by omega)
      have hb := wK_b hK (k.toNat + 1)
      have e5 : g1 35 k.toNat = (wK K (k.toNat + 1)).1 := hW.1
      have e7 : g1 37 k.toNat = (wK K (k.toNat + 1)).2.2.1 := hW.2.2.1
      have e8 : g1 38 k.toNat = (wK K (k.toNat + 1)).2.2.2 := hW.2.2.2
      refine b_X7_treaty_73 (fun c5 => ?_) (fun c5 => ?_)
      · refine b_X7_treaty_99 (by omega) (by omega) (by rw [e5]; exact s_bit (by omega) hb.1) (fun x g2 hx => ?_)
        obtain ⟨rfl, rfl⟩ := hx
        exact b_X7_treaty_111 (rx_ok hr0 (aR_0 hr0 (sel1 c5 rfl)) hx1)
      · refine b_X7_treaty_77 (by omega) (by omega) ?_
        have hb3 := hb.2.2
        rw [e7, e8, w32_of (by omega) (by omega)]
        exact rx_ok hr0 (aR_0 hr0 (sel0 (by omega) rfl)) hx1
    · refine b_X7_treaty_36 (s_refuse (by omega) (refW c2)) (fun x g1 hx => ?_)
      obtain ⟨rfl, rfl⟩ := hx
      exact b_X7_treaty_41 (rx_no (by omega) (aR_n (by omega) (by omega)))
  · refine b_X7_treaty_10 (s_refuse (by omega) ref3) (fun x g1 hx => ?_)
    obtain ⟨rfl, rfl⟩ := hx
    exact b_X7_treaty_16 (rx_no (by omega) (aR_n (by omega) (by omega)))
theorem m_treaty {d : Nat} {g : pG} {K : tK} {k w : Int} (hd : 11 ≤ d) (hK : KOK K) (hu : SM g K) : CT d mX8_treaty [vR 45, vI k, vI w] g (QM g (aR (rTr K k w) (aTr K k w)) (rTr K k w)) := by
  refine ct_in (L := [vR 45, vI k, vI w, vX 2]) (by omega) (Nat.le_of_ble_eq_true rfl) rfl (fun e he => ?_)
  have h7 := hK.1
  have r1 := rTr_cases K k w
  have r2 := rW_cases w 1
  have r3 := wrN_cases k 0 ((nC K : Int) - 1)
  have hu0 := hu.m (thr g)
  have hn : g 45 0 = nC K := hu.1
  have hn0 : fup (g 45) 8 0 0 = nC K := hn
  have hn1 : cset g 45 (fup (g 45) 8 0) 45 0 = nC K := hu0.1
  have he6 : 6 ≤ e := by omega
  refine b_X8_treaty_0 (fun c => ?_) (fun c => ?_)
  · rw [hn0] at c
    generalize hgA : cset g 45 (fup (g 45) 8 0) = gA at hu0 hn1
    have hxA : mfr g gA := by rw [← hgA]; exact thr g
    have e1 : w32 (gA 45 0 - 1) = (nC K : Int) - 1 := by rw [hn1, w32_of (by omega) (by omega)]
    refine b_X8_treaty_17 (by rw [e1]; exact m_wrongNumber (by omega)) (fun x g0 hx => ?_)
    obtain ⟨rfl, rfl⟩ := hx
    refine b_X8_treaty_28 (m_wrongBit (by omega)) (fun x g1 hx => ?_)
    obtain ⟨rfl, rfl⟩ := hx
    have hB : wrB (wrN k 0 ((nC K : Int) - 1)) w 1 = rTr K k w := by
      unfold wrB
      by_cases h : wrN k 0 ((nC K : Int) - 1) = 0 ∧ ¬ (0 ≤ w ∧ w ≤ 1)
      · rw [if_pos h]; omega
      · rw [if_neg h]; omega
    rw [hB]
    refine b_X8_treaty_33 (fun c2 => ?_) (fun c2 => ?_)
    · have hr0 : rTr K k w = 0 := by omega
      refine b_X8_treaty_44 (m_lay he6 hK hu0) (fun g2 hx => ?_)
      obtain ⟨hw, hf1⟩ := hx
      have hx1 := hxA.tr hf1
      obtain ⟨h34, hW⟩ := hw (k.toNat + 1) (by omega)
      have hb := wK_b hK (k.toNat + 1)
      have e5 : g2 63 (k.toNat + 1) = (wK K (k.toNat + 1)).1 := hW.1
      have e7 : g2 65 (k.toNat + 1) = (wK K (k.toNat + 1)).2.2.1 := hW.2.2.1
      have e8 : g2 66 (k.toNat + 1) = (wK K (k.toNat + 1)).2.2.2 := hW.2.2.2
      have ek : w32 (k + 1) = k + 1 := w32_of (by omega) (by omega)
      have ek2 : (k + 1).toNat = k.toNat + 1 := by omega
      refine b_X8_treaty_48 (fun c5 => ?_) (fun c5 => ?_)
      · refine b_X8_treaty_72 (by rw [ek]; omega) (by rw [ek]; omega) ?_
        have hb3 := hb.2.2
        rw [ek, ek2, e7, e8, w32_of (by omega) (by omega)]
        exact rm_ok hr0 (aR_0 hr0 (sel0 (by omega) rfl)) hx1
      · have hb1 := hb.1
        refine b_X8_treaty_53 (by rw [ek]; omega) (by rw [ek]; omega) (fun c6 => ?_) (fun c6 => ?_)
        · rw [ek, ek2, e5] at c6
          exact b_X8_treaty_68 (rm_ok hr0 (aR_0 hr0 (sel1 (by omega) c6)) hx1)
        · rw [ek, ek2, e5] at c6
          exact b_X8_treaty_64 (rm_ok hr0 (aR_0 hr0 (sel1 (by omega) (by omega))) hx1)
    · have hrf : isRef (rTr K k w) := by unfold isRef; omega
      refine b_X8_treaty_38 (m_refuse (by omega) hrf) (fun x g2 hx => ?_)
      obtain ⟨rfl, rfl⟩ := hx
      exact b_X8_treaty_43 (rm_no hxA rfl (aR_n rfl (by omega)))
  · rw [hn0] at c
    refine b_X8_treaty_12 (m_refuse (by omega) ref3) (fun x g1 hx => ?_)
    obtain ⟨rfl, rfl⟩ := hx
    exact b_X8_treaty_43 (rm_no (thr g) (by omega) (aR_n (by omega) (by omega)))
/-- share -/
def rSh (K : tK) (c : Int) : Int := if 0 ≤ c ∧ c < nC K then 0 else -1
theorem rSh_cases (K : tK) (c : Int) : ((0 ≤ c ∧ c < nC K) ∧ rSh K c = 0) ∨ (¬ (0 ≤ c ∧ c < nC K) ∧ rSh K c = -1) := by
  unfold rSh
  by_cases h : 0 ≤ c ∧ c < nC K
  · rw [if_pos h]; exact Or.inl ⟨h, rfl⟩
  · rw [if_neg h]; exact Or.inr ⟨h, rfl⟩
def aSh (K : tK) (c : Int) : Int := if c = 0 ∨ thrK K ≤ c then -9 else fo K c.toNat
theorem x_share {d : Nat} {g : pG} {K : tK} {c : Int} (hd : 8 ≤ d) (hK : KOK K) (hu : SU g 1 K) : CT d mX7_share [vR 0, vI c] g (QX g (aR (rSh K c) (aSh K c)) (rSh K c)) := by
  refine ct_in (L := [vR 0, vI c]) (by omega) (Nat.le_of_ble_eq_true rfl) rfl (fun e he => ?_)
  have h7 := hK.1
  have r1 := rSh_cases K c
  have b1 := bi_cases (0 ≤ c ∧ c < nC K)
  have he5 : 6 ≤ e := by omega
  refine b_X7_share_0 (s_hasCourt (by omega) st_1 hu) (fun x g0 hx => ?_)
  obtain ⟨rfl, rfl⟩ := hx
  refine b_X7_share_8 (fun c1 => ?_) (fun c1 => ?_)
  · have hr0 : rSh K c = 0 := by omega
    refine b_X7_share_17 (s_weigh he5 hK hu) (fun g1 hx => ?_)
    obtain ⟨h5, hw, hp, hx1⟩ := hx
    refine b_X7_share_32 (fun c2 => ?_) (fun c2 => ?_)
    · exact b_X7_share_47 (rx_ok hr0 (aR_0 hr0 (by unfold aSh; rw [if_pos (Or.inl c2)])) hx1)
    · refine b_X7_share_36 (s_through (by omega) hK h5 (fun k hk => (hw k hk).2.1)) (fun x g2 hx => ?_)
      obtain ⟨rfl, rfl⟩ := hx
      refine b_X7_share_44 (fun c3 => ?_) (fun c3 => ?_)
      · have ec : w32 (c - 1) = c - 1 := w32_of (by omega) (by omega)
        have e4 : g2 34 (c - 1).toNat = fo K c.toNat := by
          rw [(hw (c - 1).toNat (by omega)).1, show (c - 1).toNat + 1 = c.toNat by omega]
        refine b_X7_share_50 (by rw [ec]; omega) (by rw [ec]; omega) (by rw [ec, e4]; exact s_bit (by omega) (fo_01 _ _)) (fun x g3 hx => ?_)
        obtain ⟨rfl, rfl⟩ := hx
        exact b_X7_share_64 (rx_ok hr0 (aR_0 hr0 (by unfold aSh; rw [if_neg (fun z => z.elim c2 (fun y => by omega))])) hx1)
      · exact b_X7_share_47 (rx_ok hr0 (aR_0 hr0 (by unfold aSh; rw [if_pos (Or.inr (by omega))])) hx1)
  · refine b_X7_share_11 (s_refuse (by omega) ref1) (fun x g1 hx => ?_)
    obtain ⟨rfl, rfl⟩ := hx
    exact b_X7_share_16 (rx_no (by omega) (aR_n (by omega) (by omega)))
theorem m_share {d : Nat} {g : pG} {K : tK} {c : Int} (hd : 11 ≤ d) (hK : KOK K) (hu : SM g K) : CT d mX8_share [vR 45, vI c] g (QM g (aR (rSh K c) (aSh K c)) (rSh K c)) := by
  refine ct_in (L := [vR 45, vI c]) (by omega) (Nat.le_of_ble_eq_true rfl) rfl (fun e he => ?_)
  have h7 := hK.1
  have r1 := rSh_cases K c
  have b1 := bi_cases (0 ≤ c ∧ c < nC K)
  have hu0 := hu.m (thr g)
  have he6 : 6 ≤ e := by omega
  refine b_X8_share_0 (m_isCourt (by omega) hK hu0) (fun x g0 hx => ?_)
  obtain ⟨rfl, rfl⟩ := hx
  refine b_X8_share_10 (fun c1 => ?_) (fun c1 => ?_)
  · have hr0 : rSh K c = 0 := by omega
    refine b_X8_share_19 (m_lay he6 hK hu0) (fun g1 hx => ?_)
    obtain ⟨hw, hf1⟩ := hx
    have hx1 := (thr g).tr hf1
    refine b_X8_share_23 (fun c2 => ?_) (fun c2 => ?_)
    · exact b_X8_share_35 (rm_ok hr0 (aR_0 hr0 (by unfold aSh; rw [if_pos (Or.inl c2)])) hx1)
    · refine b_X8_share_27 (m_through (by omega) hK (hu.m hx1).1 (fun i hi => (hw i hi).2.1)) (fun x g2 hx => ?_)
      obtain ⟨rfl, rfl⟩ := hx
      refine b_X8_share_32 (fun c3 => ?_) (fun c3 => ?_)
      · have e4 : g2 62 c.toNat = fo K c.toNat := (hw c.toNat (by omega)).1
        have e5 := fo_01 K c.toNat
        have hA : aSh K c = fo K c.toNat := by unfold aSh; rw [if_neg (fun z => z.elim c2 (fun y => by omega))]
        refine b_X8_share_40 (by omega) (by omega) (fun c4 => ?_) (fun c4 => ?_)
        · exact b_X8_share_53 (rm_ok hr0 (aR_0 hr0 (by rw [hA, ← e4, c4])) hx1)
        · exact b_X8_share_49 (rm_ok hr0 (aR_0 hr0 (by rw [hA]; omega)) hx1)
      · exact b_X8_share_35 (rm_ok hr0 (aR_0 hr0 (by unfold aSh; rw [if_pos (Or.inr (by omega))])) hx1)
  · refine b_X8_share_13 (m_refuse (by omega) ref1) (fun x g1 hx => ?_)
    obtain ⟨rfl, rfl⟩ := hx
    exact b_X8_share_18 (rm_no (thr g) (by omega) (aR_n (by omega) (by omega)))
/-- count -/
def cntA (K : tK) (lm rm cm : Int) (rf : tF) (w : Int) : Int := if w = 0 then nC K else if w = 1 then nP K else if w = 2 then skC K else if w = 3 then lnC K else if w = 4 then lm else if w = 5 then rm else if w = 6 then cm else if w = 7 then pnz (ptC K) (nP K) else if 11 ≤ w ∧ w ≤ 16 then rf (w - 10).toNat else -9
theorem cntA_d {K : tK} {lm rm cm : Int} {rf : tF} {w : Int} (h : w ≠ 0 ∧ w ≠ 1 ∧ w ≠ 2 ∧ w ≠ 3 ∧ w ≠ 4 ∧ w ≠ 5 ∧ w ≠ 6 ∧ w ≠ 7) : cntA K lm rm cm rf w = if 11 ≤ w ∧ w ≤ 16 then rf (w - 10).toNat else -9 := by
  unfold cntA
  rw [if_neg h.1, if_neg h.2.1, if_neg h.2.2.1, if_neg h.2.2.2.1, if_neg h.2.2.2.2.1, if_neg h.2.2.2.2.2.1, if_neg h.2.2.2.2.2.2.1, if_neg h.2.2.2.2.2.2.2]
theorem x_count {d : Nat} {g : pG} {K : tK} {w : Int} (hd : 8 ≤ d) (hK : KOK K) (hu : SU g 1 K) : CT d mX7_count [vR 0, vI w] g (QX g (cntA K (g 19 1) (g 0 7) (g 21 3) (g 26) w) 0) := by
  refine ct_in (L := [vR 0, vI w]) (by omega) (Nat.le_of_ble_eq_true rfl) rfl (fun e he => ?_)
  have q : ∀ {x : Int}, cntA K (g 19 1) (g 0 7) (g 21 3) (g 26) w = x → QX g (cntA K (g 19 1) (g 0 7) (g 21 3) (g 26) w) 0 (some (vI x)) g := fun h => rx_ok rfl h xfr.rf
  have no : cntA K (g 19 1) (g 0 7) (g 21 3) (g 26) w = -9 → EV e mX7_count (QX g (cntA K (g 19 1) (g 0 7) (g 21 3) (g 26) w) 0) 139 [vR 0, vI w] [] g := fun h => b_X7_count_139 (q h)
  refine b_X7_count_0 (fun c => ?_) (fun c => ?_) (fun c => ?_) (fun c => ?_) (fun c => ?_) (fun c => ?_) (fun c => ?_) (fun c => ?_) (fun c => ?_)
  · exact b_X7_count_48 (q (by subst c; exact hu.1.symm))
  · exact b_X7_count_56 (q (by subst c; exact hu.2.2.1.symm))
  · exact b_X7_count_67 (q (by subst c; exact hu.2.2.2.2.1.symm))
  · exact b_X7_count_75 (q (by subst c; exact hu.2.2.2.2.2.symm))
  · exact b_X7_count_83 (q (by subst c; rfl))
  · exact b_X7_count_91 (q (by subst c; rfl))
  · exact b_X7_count_96 (q (by subst c; rfl))
  · refine b_X7_count_104 (s_notZero (by omega) pts_5 (hu.pt hK)) (fun x g1 hx => ?_)
    obtain ⟨rfl, rfl⟩ := hx
    exact b_X7_count_114 (q (by subst c; rfl))
  · refine b_X7_count_115 (fun c2 => no (by rw [cntA_d c, if_neg (by omega)])) (fun c2 => ?_)
    refine b_X7_count_121 (fun c3 => no (by rw [cntA_d c, if_neg (by omega)])) (fun c3 => ?_)
    have e1 : w32 (w - 10) = w - 10 := w32_of (by omega) (by omega)
    refine b_X7_count_127 (by rw [e1]; omega) (by rw [e1]; omega) ?_
    rw [e1]
    exact q (by rw [cntA_d c, if_pos (by omega)])
theorem m_count {d : Nat} {g : pG} {K : tK} {w : Int} (hd : 11 ≤ d) (hK : KOK K) (hu : SM g K) : CT d mX8_count [vR 45, vI w] g (QM g (cntA K (g 45 13) (g 45 41) (g 45 28) (g 50) w) 0) := by
  refine ct_in (L := [vR 45, vI w]) (by omega) (Nat.le_of_ble_eq_true rfl) rfl (fun e he => ?_)
  have hu0 := hu.m (thr g)
  have q : ∀ {x : Int} {g' : pG}, cntA K (g 45 13) (g 45 41) (g 45 28) (g 50) w = x → mfr g g' → QM g (cntA K (g 45 13) (g 45 41) (g 45 28) (g 50) w) 0 (some (vI x)) g' := fun h hf => rm_ok rfl h hf
  refine b_X8_count_0 (fun c => ?_) (fun c => ?_) (fun c => ?_) (fun c => ?_) (fun c => ?_) (fun c => ?_) (fun c => ?_) (fun c => ?_) (fun c => ?_)
  · exact b_X8_count_52 (q (by subst c; exact hu0.1.symm) (thr g))
  · exact b_X8_count_57 (q (by subst c; exact hu0.2.2.1.symm) (thr g))
  · exact b_X8_count_62 (q (by subst c; exact hu0.2.2.2.2.1.symm) (thr g))
  · exact b_X8_count_67 (q (by subst c; exact hu0.2.2.2.2.2.symm) (thr g))
  · exact b_X8_count_72 (q (by subst c; rfl) (thr g))
  · exact b_X8_count_77 (q (by subst c; rfl) (thr g))
  · exact b_X8_count_82 (q (by subst c; rfl) (thr g))
  · refine b_X8_count_87 (m_think (by omega) hK hu0) (fun g1 hx => ?_)
    obtain ⟨hp1, h81, hf1⟩ := hx
    refine b_X8_count_91 (m_standing (by omega) hp1) (fun x g2 hx => ?_)
    obtain ⟨rfl, rfl⟩ := hx
    exact b_X8_count_95 (q (by subst c; rfl) ((thr g).tr hf1.m))
  · have b1 := bi_cases (11 ≤ w ∧ w ≤ 16)
    refine b_X8_count_96 (m_in (by omega)) (fun x g1 hx => ?_)
    obtain ⟨rfl, rfl⟩ := hx
    refine b_X8_count_107 (fun c2 => ?_) (fun c2 => ?_)
    · exact b_X8_count_122 (q (by rw [cntA_d c, if_neg (by omega)]) (thr g))
    · have e1 : w32 (w - 10) = w - 10 := w32_of (by omega) (by omega)
      refine b_X8_count_110 (by rw [e1]; omega) (by rw [e1]; omega) ?_
      rw [e1]
      exact q (by rw [cntA_d c, if_pos (by omega)]; rfl) (thr g)
