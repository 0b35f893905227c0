theorem m_ordersOf {d n : Nat} {g : pG} (hd : 1 ≤ d) (hn : n ≤ 5) : CT d mX8_ordersOf [vI n] g (qI (fun x g' => x = (fcN n : Nat) ∧ g' = g)) := by
  refine ct_in (L := [vI n, vX 2, vX 2]) (by omega) (Nat.le_of_ble_eq_true rfl) rfl (fun e he => ?_)
  refine b_X8_ordersOf_0 ?_
  by_cases h1 : n ≤ 1
  · refine b_X8_ordersOf_4 (fun _ => b_X8_ordersOf_19 ⟨_, rfl, ?_, rfl⟩) (fun c => absurd (by omega) c)
    rcases (show n = 0 ∨ n = 1 by omega) with rfl | rfl <;> rfl
  · refine loopN (P := fun _ g' => g' = g) (n + 1) (fun i g' => 2 ≤ i → ∀ x q : Int, x = (fcN (i - 1) : Nat) → q = i → EV e mX8_ordersOf (qI (fun x g' => x = (fcN n : Nat) ∧ g' = g)) 4 [vI n, vI x, vI q] [] g') ?_ ?_ 2 g (by omega) rfl (Nat.le_refl _) _ _ rfl rfl
    · rintro i _ hi rfl ih h2 x q rfl rfl
      have hb := (fc_bd (n := i) (by omega)).2
      have e1 : fcN (i - 1) * i = fcN i := by
        obtain ⟨j, rfl⟩ : ∃ j, i = j + 1 := ⟨i - 1, by omega⟩
        rw [Nat.add_sub_cancel]
        rfl
      have ew : w32 (((fcN (i - 1) : Nat) : Int) * (i : Int)) = (fcN i : Nat) := by
        rw [← Int.natCast_mul, e1]
        exact w32_of (Int.le_trans (by decide) (Int.natCast_nonneg _)) (Int.lt_of_le_of_lt (Int.ofNat_le.mpr hb) (by decide))
      refine b_X8_ordersOf_4 (fun c => absurd c (by clear ih ew; omega)) (fun _ => ?_)
      refine b_X8_ordersOf_9 ?_
      rw [ew, w32n i (by clear ih ew; omega)]
      exact ih _ rfl (by clear ih ew; omega) _ _ (by rw [Nat.add_sub_cancel]) rfl
    · rintro _ rfl h2 x q rfl rfl
      refine b_X8_ordersOf_4 (fun _ => ?_) (fun c => absurd (by omega) c)
      exact b_X8_ordersOf_19 ⟨_, rfl, by rw [Nat.add_sub_cancel], rfl⟩
theorem m_layIn {e : Nat} {g : pG} {Q : Option pV → pG → Prop} {v1 v2 v3 v4 v5 v6 : Int} (he : 1 ≤ e) : ∀ (f sk one r : Nat), inF v4 f sk one = some r → sk < 1000 → one + f ≤ 100 → (∀ v7 : Int, EV e mX8_layOrder Q 80 [vR 45, vI v1, vI v2, vI v3, vI v4, vI v5, vI v6, vI v7, vI r] [] g) → EV e mX8_layOrder Q 39 [vR 45, vI v1, vI v2, vI v3, vI v4, vI v5, vI v6, vI sk, vI one] [] g := by
  intro f
  induction f with
  | zero => intro sk one r h; exact absurd h (by simp [inF])
  | succ f ih =>
    intro sk one r h hsk hone k
    have h : (if zand (zshr v4 one) 1 = 1 then inF v4 f sk (one + 1) else if sk = 0 then some one else inF v4 f (sk - 1) (one + 1)) = some r := h
    refine b_X8_layOrder_39 (m_hasBit he) (fun x g1 hx => ?_)
    obtain ⟨rfl, rfl⟩ := hx
    have e1 := w32n one (by omega)
    by_cases hb : zand (zshr v4 one) 1 = 1
    · rw [if_pos hb] at h
      refine b_X8_layOrder_46 (fun _ => ?_) (fun c => absurd hb (bi_eq0 (Classical.not_not.mp c)))
      refine b_X8_layOrder_54 (m_hasBit he) (fun x g2 hx => ?_)
      obtain ⟨rfl, rfl⟩ := hx
      refine b_X8_layOrder_63 (fun c => absurd hb (bi_eq0 c)) (fun _ => ?_)
      refine b_X8_layOrder_66 ?_
      rw [e1, Int.sub_zero, w32_of (x := (sk : Int)) (by clear ih e1; omega) (by clear ih e1; omega)]
      exact ih sk (one + 1) r h hsk (by clear ih e1; omega) k
    · rw [if_neg hb] at h
      refine b_X8_layOrder_46 (fun c => absurd (bi_ne0 c) hb) (fun _ => ?_)
      by_cases h0 : sk = 0
      · rw [if_pos h0] at h
        obtain rfl := Option.some.inj h
        exact b_X8_layOrder_49 (fun _ => k _) (fun c => absurd (by rw [h0]; decide) c)
      · rw [if_neg h0] at h
        refine b_X8_layOrder_49 (fun c => absurd c (by clear ih e1; omega)) (fun _ => ?_)
        refine b_X8_layOrder_54 (m_hasBit he) (fun x g2 hx => ?_)
        obtain ⟨rfl, rfl⟩ := hx
        refine b_X8_layOrder_63 (fun _ => ?_) (fun c => absurd (bi_ne0 c) hb)
        refine b_X8_layOrder_70 ?_
        rw [e1, show w32 ((sk : Int) - 1) = ((sk - 1 : Nat) : Int) by clear ih e1; rw [w32_of (by omega) (by omega)]; omega]
        exact ih (sk - 1) (one + 1) r h (by clear ih e1; omega) (by clear ih e1; omega) k
theorem m_layOrder {d n k : Nat} {g : pG} (hd : 2 ≤ d) (hn : n ≤ 5) (hk : k < fcN n) : CT d mX8_layOrder [vR 45, vI k, vI n] g (qV (fun g' => (∀ i, i < n → g' 70 i = pmI n k i) ∧ fr g g' 70)) := by
  refine ct_in (L := [vR 45, vI k, vI n, vX 2, vX 2, vX 2, vX 2, vX 2, vX 2]) (by omega) (Nat.le_of_ble_eq_true rfl) rfl (fun e he => ?_)
  have he1 : 1 ≤ e := by omega
  obtain ⟨p, hp, hpi⟩ := pm_lo hn hk
  have hk120 : k < 120 := Nat.lt_of_lt_of_le hk (fc_bd hn).2
  refine b_X8_layOrder_0 ?_
  have L : ∀ (s i rest : Nat) (used : Int) (q : tF) (g1 : pG) (u6 u7 u8 : pV), i + s = n → rest < 120 → loG s rest used i q = some p → fr g g1 70 → (∀ j, j < i → g1 70 j = q j) → EV e mX8_layOrder (qV (fun g' => (∀ i, i < n → g' 70 i = pmI n k i) ∧ fr g g' 70)) 8 [vR 45, vI k, vI n, vI rest, vI used, vI i, u6, u7, u8] [] g1 := by
    intro s
    induction s with
    | zero =>
      intro i rest used q g1 u6 u7 u8 hi hr hG hf hq
      obtain rfl := Option.some.inj (show some q = some p from hG)
      refine b_X8_layOrder_8 (fun _ => ?_) (fun c => absurd (by omega) c)
      exact b_X8_layOrder_104 ⟨rfl, fun j hj => (hq j (by omega)).trans (hpi j hj), hf⟩
    | succ s ih =>
      intro i rest used q g1 u6 u7 u8 hi hr hG hf hq
      have hs5 : s ≤ 5 := by clear ih; omega
      have hfs := fc_bd hs5
      have i5 : (i : Int) < 5 := by clear ih; omega
      have i9 : (i : Int) < 2147483647 := Int.lt_trans i5 (by decide)
      have es : w32 (w32 ((n : Int) - 1) - (i : Int)) = (s : Int) := by
        clear ih
        rw [w32_of (x := (n : Int) - 1) (by omega) (by omega), w32_of (by omega) (by omega)]; omega
      have hG : (match inF used 10 (rest / fcN s) 0 with
        | none => none
        | some one => loG s (rest % fcN s) (zor used (zshl 1 one)) (i + 1) (fup q i one)) = some p := hG
      refine b_X8_layOrder_8 (fun c => absurd c (by clear ih es; omega)) (fun _ => ?_)
      refine b_X8_layOrder_14 (by rw [es]; exact m_ordersOf he1 hs5) (fun x g2 hx => ?_)
      obtain ⟨rfl, rfl⟩ := hx
      have hne : ((fcN s : Nat) : Int) ≠ 0 := by clear ih es; omega
      refine b_X8_layOrder_23 hne ?_
      rw [wmod (a := rest) (b := fcN s) (by clear ih es; omega), wdiv (a := rest) (b := fcN s) (by clear ih es; omega)]
      cases hc : inF used 10 (rest / fcN s) 0 with
      | none => rw [hc] at hG; exact absurd hG (by simp)
      | some one =>
        rw [hc] at hG
        have hG : loG s (rest % fcN s) (zor used (zshl 1 one)) (i + 1) (fup q i one) = some p := hG
        have hsk : rest / fcN s < 1000 := Nat.lt_of_le_of_lt (Nat.div_le_self _ _) (by clear ih es; omega)
        refine m_layIn he1 10 (rest / fcN s) 0 one hc hsk (by decide) (fun v7 => ?_)
        refine b_X8_layOrder_80 (Int.natCast_nonneg _) i5 ?_
        rw [Int.toNat_natCast, w32n i i9]
        refine ih (i + 1) (rest % fcN s) _ _ _ _ _ _ (by clear ih es; omega) (Nat.lt_of_le_of_lt (Nat.mod_le _ _) hr) hG (hf.tr (fr.set _)) (fun j hj => ?_)
        rw [cset_self]
        by_cases e : j = i
        · rw [e, fup_self, fup_self]
        · rw [fup_ne _ _ e, fup_ne _ _ e]; exact hq j (by clear ih es; omega)
  exact L n 0 k 0 _ g _ _ _ (by omega) hk120 hp fr.rf (fun j hj => absurd hj (Nat.not_lt_zero _))
theorem m_sumOrder {d k : Nat} {g : pG} {K : tK} (hd : 6 ≤ d) (hK : KOK K) (hu : SM g K) (h5 : nC K ≤ 5) (hk : k < fcN (nC K)) : CT d mX8_sumByOrder [vR 45, vI k] g (qI (fun x g' => x = boS K k ∧ mfr g g')) := by
  refine ct_in (L := [vR 45, vI k, vX 2]) (by omega) (Nat.le_of_ble_eq_true rfl) rfl (fun e he => ?_)
  have he5 : 5 ≤ e := by omega
  refine b_X8_sumByOrder_0 (by rw [hu.1]; exact m_layOrder (by omega) h5 hk) (fun g1 hx => ?_)
  obtain ⟨h70, hf1⟩ := hx
  have hx1 : mfr g g1 := hf1.m (by decide)
  refine b_X8_sumByOrder_9 (m_think (by omega) hK (hu.m hx1)) (fun g2 hx => ?_)
  obtain ⟨hp2, h82, hf2⟩ := hx
  refine b_X8_sumByOrder_13 ?_
  refine loopN (P := fun i g' => frT g1 g' ∧ NW g' (nP K) (boF K k i)) (nC K) (fun i g' => ∀ q : Int, q = i → EV e mX8_sumByOrder (qI (fun x g' => x = boS K k ∧ mfr g g')) 15 [vR 45, vI k, vI q] [] g') ?_ ?_ 0 g2 (Nat.zero_le _) ⟨hf2, hp2⟩ _ rfl
  · rintro i g3 hi ⟨hf3, hp3⟩ ih q rfl
    have hu3 := hu.m (hx1.tr hf3.m)
    have i5 : (i : Int) < 5 := by clear ih; omega
    have e70 : g3 70 i = pmI (nC K) k i := by rw [hf3.1 70 (by decide) (by decide)]; exact h70 i hi
    refine b_X8_sumByOrder_15 (fun c => absurd c (by rw [hu3.1]; exact Int.not_le.mpr (Int.ofNat_lt.mpr hi))) (fun _ => ?_)
    refine b_X8_sumByOrder_23 (Int.natCast_nonneg _) i5 (by rw [Int.toNat_natCast, e70]; exact m_pass he5 hK hu3 hp3 (pm_lt h5 hk hi)) (fun g4 hx => ?_)
    obtain ⟨hp4, hf4⟩ := hx
    exact b_X8_sumByOrder_33 (ih _ ⟨hf3.tr hf4.toT, hp4⟩ _ (w32n i (Int.lt_trans i5 (by decide))))
  · rintro g3 ⟨hf3, hp3⟩ q rfl
    have hu3 := hu.m (hx1.tr hf3.m)
    refine b_X8_sumByOrder_15 (fun _ => ?_) (fun c => absurd (by rw [hu3.1]; exact Int.le_refl _) c)
    refine b_X8_sumByOrder_39 (m_sumNow (by omega) hp3) (fun x g4 hx => ?_)
    obtain ⟨rfl, rfl⟩ := hx
    exact b_X8_sumByOrder_43 ⟨_, rfl, rfl, hx1.tr hf3.m⟩
theorem m_bestOrder {d : Nat} {g : pG} {K : tK} {i : Int} (hd : 11 ≤ d) (hK : KOK K) (hu : SM g K) : CT d mX8_bestOrder [vR 45, vI i] g (QM g (aH (rBo K i) (aBo K i)) (rBo K i)) := by
  refine ct_in (L := [vR 45, vI i, vX 2, vX 2, vX 2, vX 2, vX 2, vX 2]) (by omega) (Nat.le_of_ble_eq_true rfl) rfl (fun e he => ?_)
  have hu0 := hu.m (thr g)
  have r1 := rBo_cases K i
  have hn0 : fup (g 45) 8 0 0 = nC K := hu.1
  have he6 : 6 ≤ e := by omega
  have he1 : 1 ≤ e := by omega
  refine b_X8_bestOrder_0 (fun c => ?_) (fun c => ?_)
  · rw [hn0] at c
    have h5 : nC K ≤ 5 := by omega
    have hfb := fc_bd h5
    refine b_X8_bestOrder_18 (fun c2 => ?_) (fun c2 => ?_)
    · have hr0 : rBo K i = 0 := by omega
      clear r1
      refine b_X8_bestOrder_28 (m_sumOrder (k := 0) he6 hK hu0 h5 hfb.1) (fun x g1 hx => ?_)
      obtain ⟨rfl, hf1⟩ := hx
      have hx1 := (thr g).tr hf1
      refine b_X8_bestOrder_50 (by rw [(hu.m hx1).1]; exact m_ordersOf he1 h5) (fun x g2 hx => ?_)
      obtain ⟨rfl, rfl⟩ := hx
      refine b_X8_bestOrder_59 ?_
      refine loopN (P := fun k g' => mfr g g') (fcN (nC K)) (fun k g' => 1 ≤ k → ∀ (v3 v4 v6 : Int) (u7 : pV), v3 = (boB K (k - 1) : Nat) → v4 = boS K (boB K (k - 1)) → v6 = k → EV e mX8_bestOrder (QM g (aH (rBo K i) (aBo K i)) (rBo K i)) 64 [vR 45, vI i, vI 0, vI v3, vI v4, vI (fcN (nC K) : Nat), vI v6, u7] [] g') ?_ ?_ 1 g2 hfb.1 hx1 (Nat.le_refl _) _ _ _ _ rfl rfl rfl
      · rintro k g3 hk hx3 ih h1 v3 v4 v6 u7 hv3 hv4 rfl
        obtain ⟨j, rfl⟩ : ∃ j, k = j + 1 := ⟨k - 1, by clear ih; omega⟩
        rw [Nat.add_sub_cancel] at hv3 hv4
        rw [Nat.add_sub_cancel] at ih
        have k9 : ((j + 1 : Nat) : Int) < 2147483647 := by clear ih; omega
        refine b_X8_bestOrder_64 (fun c => absurd (Int.ofNat_lt.mpr hk) (Int.not_lt.mpr c)) (fun _ => ?_)
        refine b_X8_bestOrder_71 (m_sumOrder he6 hK (hu.m hx3) h5 hk) (fun x g4 hx => ?_)
        obtain ⟨rfl, hf4⟩ := hx
        have hx4 := hx3.tr hf4
        refine b_X8_bestOrder_77 (fun z => ?_) (fun z => ?_)
        · have e1 : boB K (j + 1) = boB K j := boB_0 (by rw [← hv4]; exact Int.not_lt.mpr z)
          refine b_X8_bestOrder_91 (fun _ => ?_) (fun c => absurd z c)
          exact b_X8_bestOrder_105 (ih _ hx4 (Nat.succ_le_succ (Nat.zero_le _)) _ _ _ _ (by rw [e1]; exact hv3) (by rw [e1]; exact hv4) (w32n (j + 1) k9))
        · have e1 : boB K (j + 1) = j + 1 := boB_1 (by rw [← hv4]; exact Int.not_le.mp z)
          refine b_X8_bestOrder_86 (fun c => absurd c z) (fun _ => ?_)
          exact b_X8_bestOrder_100 (ih _ hx4 (Nat.succ_le_succ (Nat.zero_le _)) _ _ _ _ (by rw [e1]) (by rw [e1]) (w32n (j + 1) k9))
      · rintro g3 hx3 h1 v3 v4 v6 u7 hv3 hv4 rfl
        have hv3 : v3 = (boL K : Nat) := hv3
        have hv4 : v4 = boS K (boL K) := hv4
        have hbl : boL K < fcN (nC K) := Nat.lt_of_le_of_lt (boB_le K _) (by omega)
        refine b_X8_bestOrder_64 (fun _ => ?_) (fun c => absurd (Int.le_refl _) c)
        refine b_X8_bestOrder_115 (fun c3 => ?_) (fun c3 => ?_)
        · rw [hv3]
          refine b_X8_bestOrder_122 (by rw [(hu.m hx3).1]; exact m_layOrder (by omega) h5 hbl) (fun g4 hx => ?_)
          obtain ⟨h70, hf4⟩ := hx
          have hx4 := hx3.tr (hf4.m (c := 70) (by decide))
          have hn4 := (hu.m hx4).1
          refine b_X8_bestOrder_131 (fun c4 => ?_) (fun c4 => ?_)
          · exact b_X8_bestOrder_148 (rm_ok hr0 (aH_0 hr0 (by unfold aBo; rw [if_neg (by omega), if_neg (by omega)])) hx4)
          · refine b_X8_bestOrder_139 c3 (by omega) (rm_ok hr0 (aH_0 hr0 ?_) hx4)
            unfold aBo
            rw [if_neg (by omega), if_pos (by omega), h70 i.toNat (by omega)]
        · exact b_X8_bestOrder_119 (rm_ok hr0 (aH_0 hr0 (by unfold aBo; rw [if_pos (by omega), hv4])) hx3)
    · refine b_X8_bestOrder_23 (m_refuse he1 ref4) (fun x g1 hx => ?_)
      obtain ⟨rfl, rfl⟩ := hx
      exact b_X8_bestOrder_41 (rm_no (thr g) (m := -4) (by omega) (aH_n (m := -4) (by omega) (by decide) (by decide)))
  · rw [hn0] at c
    refine b_X8_bestOrder_13 (m_refuse he1 ref3) (fun x g1 hx => ?_)
    obtain ⟨rfl, rfl⟩ := hx
    exact b_X8_bestOrder_41 (rm_no (thr g) (m := -3) (by omega) (aH_n (m := -3) (by omega) (by decide) (by decide)))
