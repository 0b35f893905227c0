/-- how many bits -/
def pc1 (v : Int) : Int := w32 (v - (zand (zushr v 1) 1431655765))
def pc2 (v : Int) : Int := w32 ((zand v 858993459) + (zand (zushr v 2) 858993459))
def pc3 (v : Int) : Int := zand (w32 (v + (zushr v 4))) 252645135
def pc4 (v : Int) : Int := w32 (v + (zushr v 8))
def pc5 (v : Int) : Int := w32 (v + (zushr v 16))
def pcZ (v : Int) : Int := zand (pc5 (pc4 (pc3 (pc2 (pc1 v))))) 63
theorem s_bitCount {d : Nat} {g : pG} {v : Int} (hd : 1 ≤ d) : CT d mJ6_bitCount_0f7a4 [vI v] g (qI (fun x g' => x = pcZ v ∧ g' = g)) := by
  refine ct_in (L := [vI v]) (by omega) (Nat.le_of_ble_eq_true rfl) rfl (fun e he => ?_)
  exact b_J6_bitCount_0f7a4_0 ⟨_, rfl, rfl, rfl⟩
def onN (v : Int) : Int := zand v (w32 (v - 1))
def onZ : Nat → Int → Int
  | 0, _ => 0
  | n + 1, v => if v = 0 then 0 else onZ n (onN v) + 1
def onO : Nat → Int → Bool
  | 0, v => decide (v = 0)
  | n + 1, v => decide (v = 0) || onO n (onN v)
def onC : Nat → Bool
  | 0 => true
  | n + 1 => onC n && (onO 9 n && decide (onZ 9 n = pcZ n))
theorem onC_all : onC 256 = true := by decide +kernel
theorem onC_at : ∀ m, onC m = true → ∀ k, k < m → onO 9 k = true ∧ onZ 9 k = pcZ k := by
  intro m
  induction m with
  | zero => intro _ k hk; exact absurd hk (Nat.not_lt_zero _)
  | succ m ih =>
    intro h k hk
    have h : (onC m && (onO 9 m && decide (onZ 9 m = pcZ m))) = true := h
    rw [Bool.and_eq_true, Bool.and_eq_true] at h
    by_cases e : k = m
    · subst e; exact ⟨h.2.1, of_decide_eq_true h.2.2⟩
    · exact ih h.1 k (by omega)
theorem m_onesGo {e : Nat} {g : pG} {Q : Option pV → pG → Prop} {v0 : Int} : ∀ (n : Nat) (acc v : Int), onO n v = true → 0 ≤ acc ∧ acc + n ≤ 100 → Q (some (vI (acc + onZ n v))) g → EV e mX8_onesOf Q 4 [vI v0, vI acc, vI v] [] g := by
  intro n
  induction n with
  | zero =>
    intro acc v h ha hq
    have hv : v = 0 := of_decide_eq_true h
    refine b_X8_onesOf_4 (fun c => b_X8_onesOf_20 ?_) (fun c => absurd hv c)
    rw [show acc = acc + onZ 0 v from (Int.add_zero _).symm]
    exact hq
  | succ n ih =>
    intro acc v h ha hq
    refine b_X8_onesOf_4 (fun c => b_X8_onesOf_20 ?_) (fun c => b_X8_onesOf_8 ?_)
    · rw [show acc = acc + onZ (n + 1) v from by unfold onZ; rw [if_pos c, Int.add_zero]]
      exact hq
    · have ew : w32 (acc + 1) = acc + 1 := w32_of (by omega) (by omega)
      rw [ew]
      clear ew
      refine ih (acc + 1) (onN v) ?_ (by omega) ?_
      · have h : (decide (v = 0) || onO n (onN v)) = true := h
        rw [Bool.or_eq_true] at h
        exact h.resolve_left (fun z => c (of_decide_eq_true z))
      · rw [show acc + 1 + onZ n (onN v) = acc + onZ (n + 1) v from by rw [show onZ (n + 1) v = onZ n (onN v) + 1 from if_neg c]; omega]
        exact hq
theorem m_onesOf {d k : Nat} {g : pG} (hd : 1 ≤ d) (hk : k < 256) : CT d mX8_onesOf [vI k] g (qI (fun x g' => x = pcZ k ∧ g' = g)) := by
  refine ct_in (L := [vI k, vX 2, vX 2]) (by omega) (Nat.le_of_ble_eq_true rfl) rfl (fun e he => ?_)
  have h := onC_at 256 onC_all k hk
  refine b_X8_onesOf_0 (m_onesGo 9 0 k h.1 ⟨Int.le_refl _, by decide⟩ ?_)
  exact ⟨_, rfl, by rw [Int.zero_add]; exact h.2, rfl⟩
theorem m_onesV {d : Nat} {g : pG} {v : Int} (hd : 1 ≤ d) (hv : 0 ≤ v ∧ v < 256) : CT d mX8_onesOf [vI v] g (qI (fun x g' => x = pcZ v ∧ g' = g)) := by
  obtain ⟨n, rfl⟩ := Int.eq_ofNat_of_zero_le hv.1
  exact m_onesOf hd (by omega)
theorem zshl1 {n : Nat} (h : n ≤ 8) : zshl 1 n = ((2 ^ n : Nat) : Int) := by
  have key : ∀ m : Fin 9, zshl 1 (m.val : Int) = ((2 ^ m.val : Nat) : Int) := by decide +kernel
  exact key ⟨n, by omega⟩
theorem two8 {n : Nat} (h : n ≤ 8) : 1 ≤ 2 ^ n ∧ 2 ^ n ≤ 256 := by
  have key : ∀ m : Fin 9, 1 ≤ 2 ^ m.val ∧ 2 ^ m.val ≤ 256 := by decide
  exact key ⟨n, by omega⟩
/-- the fewest bits -/
def minF (q : Nat → Prop) [DecidablePred q] : Nat → Int
  | 0 => -9
  | k + 1 => if (minF q k < 0 ∨ pcZ k < pcZ (minF q k)) ∧ q k then (k : Int) else minF q k
theorem minF_1 {q : Nat → Prop} [DecidablePred q] {k : Nat} (h : minF q k < 0 ∨ pcZ k < pcZ (minF q k)) (h2 : q k) : minF q (k + 1) = k := if_pos ⟨h, h2⟩
theorem minF_0 {q : Nat → Prop} [DecidablePred q] {k : Nat} (h : ¬ ((minF q k < 0 ∨ pcZ k < pcZ (minF q k)) ∧ q k)) : minF q (k + 1) = minF q k := if_neg h
theorem minF_bd (q : Nat → Prop) [DecidablePred q] : ∀ k, minF q k = -9 ∨ (0 ≤ minF q k ∧ minF q k < k) := by
  intro k
  induction k with
  | zero => exact Or.inl rfl
  | succ k ih => unfold minF; split <;> omega
/-- flip -/
abbrev flQ (K : tK) (b : Nat) : Prop := 1 ≤ b ∧ bi (0 < psum (slpF K b (nC K) (ptC K)) (nP K)) ≠ bi (0 < sumAll K)
theorem s_fewA {d : Nat} {g : pG} {K : tK} (hd : 7 ≤ d) (hK : KOK K) (hu : SU g 1 K) : CT d mX7_fewestAsleep [vR 0] g (qI (fun x g' => x = minF (flQ K) (2 ^ nC K) ∧ xfr g g')) := by
  refine ct_in (L := [vR 0, vX 2, vX 2, vX 2]) (by omega) (Nat.le_of_ble_eq_true rfl) rfl (fun e he => ?_)
  have h7 := hK.1
  have h2 := two8 (n := nC K) (by omega)
  have he5 : 6 ≤ e := by omega
  have he1 : 1 ≤ e := by omega
  have hsh := zshl1 (n := nC K) (by omega)
  refine b_X7_fewestAsleep_0 (s_isForAll (by clear hsh h2; omega) hK hu) (fun x g1 hx => ?_)
  obtain ⟨rfl, hf1⟩ := hx
  refine b_X7_fewestAsleep_4 ?_
  have i1 : minF (flQ K) 1 = -9 := minF_0 (k := 0) (fun z => absurd z.2.1 (by decide))
  generalize hM : 2 ^ nC K = M at h2 hsh
  refine loopN (P := fun k g' => xfr g g' ∧ 1 ≤ k) M (fun k g' => ∀ (v2 w : Int), v2 = minF (flQ K) k → w = k → EV e mX7_fewestAsleep _ 10 [vR 0, vI (bi (0 < sumAll K)), vI v2, vI w] [] g') ?_ ?_ 1 g1 h2.1 ⟨hf1.x scr27, Nat.le_refl _⟩ _ _ i1.symm rfl
  · rintro k g2 hk ⟨hf2, h1k⟩ ih v2 w hv2 rfl
    have hu2 := hu.x hf2
    have hm := hu2.1
    have hb := minF_bd (flQ K) k
    have hk9 : (k : Int) < 2147483647 := by clear hsh ih hv2 hb; omega
    have hb2 : v2 = -9 ∨ (0 ≤ v2 ∧ v2 < 256) := by rw [hv2]; clear hsh ih hv2; omega
    have hkl : ¬ (M : Int) ≤ (k : Int) := Int.not_le.mpr (Int.ofNat_lt.mpr hk)
    have hv29 : v2 ≠ -9 → ¬ v2 < 0 := by clear hsh ih hv2 hkl hb; omega
    have ask : (v2 < 0 ∨ pcZ k < pcZ v2) → EV e mX7_fewestAsleep (qI (fun x g' => x = minF (flQ K) M ∧ xfr g g')) 43 [vR 0, vI (bi (0 < sumAll K)), vI v2, vI k] [] g2 := by
      intro hq
      refine b_X7_fewestAsleep_43 (s_asleep he5 hK hu2) (fun g3 hx => ?_)
      obtain ⟨hp3, hf3⟩ := hx
      have hx3 := hf2.tr (hf3.x scr27)
      refine b_X7_fewestAsleep_48 (s_isFor (Nat.le_trans (by decide) he5) pts_27 hp3) (fun x g4 hx => ?_)
      obtain ⟨rfl, rfl⟩ := hx
      refine b_X7_fewestAsleep_55 (fun c => ?_) (fun c => ?_)
      · exact b_X7_fewestAsleep_61 (ih _ ⟨hx3, Nat.le_succ_of_le h1k⟩ _ _ (by rw [minF_0 (fun z => z.2.2 c)]; exact hv2) (w32n k hk9))
      · exact b_X7_fewestAsleep_59 (ih _ ⟨hx3, Nat.le_succ_of_le h1k⟩ _ _ (by rw [minF_1 (by rw [← hv2]; exact hq) ⟨h1k, c⟩]) (w32n k hk9))
    refine b_X7_fewestAsleep_10 (fun c => absurd (by rw [hm, hsh] at c; exact c) hkl) (fun c => ?_)
    clear c
    refine b_X7_fewestAsleep_23 (fun c => ask (Or.inl (by rw [c]; decide))) (fun c => ?_)
    refine b_X7_fewestAsleep_29 (s_bitCount he1) (fun x g3 hx => ?_)
    obtain ⟨rfl, rfl⟩ := hx
    refine b_X7_fewestAsleep_33 (s_bitCount he1) (fun x g3 hx => ?_)
    obtain ⟨rfl, rfl⟩ := hx
    refine b_X7_fewestAsleep_37 (fun c2 => ask (Or.inr c2)) (fun c2 => ?_)
    exact b_X7_fewestAsleep_40 (ih _ ⟨hf2, Nat.le_succ_of_le h1k⟩ _ _ (by rw [minF_0 (fun z => z.1.elim (fun y => hv29 c (by rw [hv2]; exact y)) (fun y => c2 (by rw [hv2]; exact y)))]; exact hv2) (w32n k hk9))
  · rintro g2 ⟨hf2, h1k⟩ v2 w hv2 rfl
    have hm := (hu.x hf2).1
    refine b_X7_fewestAsleep_10 (fun c => ?_) (fun c => absurd (by rw [hm, hsh]; exact Int.le_refl _) c)
    exact b_X7_fewestAsleep_67 ⟨_, rfl, hv2, hf2⟩
def ones (b : Int) : Int := if b < 0 then b else pcZ b
theorem ones_n {b x : Int} (h : b < 0) (hx : b = x) : ones b = x := by unfold ones; rw [if_pos h]; exact hx
theorem ones_p {b x : Int} (h : ¬ b < 0) (hx : pcZ b = x) : ones b = x := by unfold ones; rw [if_neg h]; exact hx
theorem x_flip {d : Nat} {g : pG} {K : tK} {w : Int} (hd : 8 ≤ d) (hK : KOK K) (hu : SU g 1 K) : CT d mX7_flip [vR 0, vI w] g (QX g (aR (rW w 1) (sel w (ones (minF (flQ K) (2 ^ nC K))) (minF (flQ K) (2 ^ nC K)))) (rW w 1)) := by
  refine ct_in (L := [vR 0, vI w, vX 2]) (by omega) (Nat.le_of_ble_eq_true rfl) rfl (fun e he => ?_)
  have r2 := rW_cases w 1
  have hb := minF_bd (flQ K) (2 ^ nC K)
  generalize hB : minF (flQ K) (2 ^ nC K) = B at hb
  refine b_X7_flip_0 (fun c0 => ?_) (fun c0 => ?_)
  · refine b_X7_flip_9 (s_refuse (by omega) ref2) (fun x1 _ hx => ?_)
    obtain ⟨rfl, rfl⟩ := hx
    refine b_X7_flip_15 ?_
    exact rx_no (by omega) (aR_n (by omega) (by omega))
  · refine b_X7_flip_4 (fun c4 => ?_) (fun c4 => ?_)
    · refine b_X7_flip_16 (s_fewA (by omega) hK hu) (fun x2 g1 hx => ?_)
      obtain ⟨hx, hf1⟩ := hx
      rw [hB] at hx
      subst hx
      refine b_X7_flip_20 (fun c20 => ?_) (fun c20 => ?_)
      · refine b_X7_flip_32 ?_
        first | exact rx_ok (by omega) (aR_0 (by omega) (sel1 (by omega) rfl)) hf1 | exact rx_ok (by omega) (aR_0 (by omega) (sel0 (by omega) (ones_n (by omega) rfl))) hf1
      · refine b_X7_flip_26 (fun c26 => ?_) (fun c26 => ?_)
        · refine b_X7_flip_36 (s_bitCount (by omega)) (fun x5 _ hx => ?_)
          obtain ⟨rfl, rfl⟩ := hx
          refine b_X7_flip_40 ?_
          exact rx_ok (by omega) (aR_0 (by omega) (sel0 (by omega) (ones_p (by omega) rfl))) hf1
        · refine b_X7_flip_32 ?_
          first | exact rx_ok (by omega) (aR_0 (by omega) (sel1 (by omega) rfl)) hf1 | exact rx_ok (by omega) (aR_0 (by omega) (sel0 (by omega) (ones_n (by omega) rfl))) hf1
    · refine b_X7_flip_9 (s_refuse (by omega) ref2) (fun x2 _ hx => ?_)
      obtain ⟨rfl, rfl⟩ := hx
      refine b_X7_flip_15 ?_
      exact rx_no (by omega) (aR_n (by omega) (by omega))
theorem m_flip {d : Nat} {g : pG} {K : tK} {w : Int} (hd : 11 ≤ d) (hK : KOK K) (hu : SM g K) : CT d mX8_flip [vR 45, vI w] g (QM g (aR (rW w 1) (sel w (ones (minF (flQ K) (2 ^ nC K))) (minF (flQ K) (2 ^ nC K)))) (rW w 1)) := by
  refine ct_in (L := [vR 45, vI w, vX 2, vX 2, vX 2]) (by omega) (Nat.le_of_ble_eq_true rfl) rfl (fun e he => ?_)
  have h7 := hK.1
  have hu0 := hu.m (thr g)
  have r2 := rW_cases w 1
  have b1 := bi_cases (0 ≤ w ∧ w ≤ 1)
  have he7 : 7 ≤ e := by omega
  have he1 : 1 ≤ e := by omega
  have loop : ∀ g1 (v1 : Int), v1 = bi (0 < sumAll K) → mfr g g1 → rW w 1 = 0 → EV e mX8_flip (QM g (aR (rW w 1) (sel w (ones (minF (flQ K) (2 ^ nC K))) (minF (flQ K) (2 ^ nC K)))) (rW w 1)) 41 [vR 45, vI w, vI v1, vI (-9), vI 1] [] g1 := by
    intro g1 v1 hv1 hf1 hr0
    subst hv1
    have h2 := two8 (n := nC K) (by omega)
    have hsh := zshl1 (n := nC K) (by clear h2; omega)
    have i1 : minF (flQ K) 1 = -9 := minF_0 (k := 0) (fun z => absurd z.2.1 (by decide))
    generalize hM : 2 ^ nC K = M at h2 hsh
    refine loopN (P := fun k g' => mfr g g' ∧ 1 ≤ k) M (fun k g' => ∀ (v3 w4 : Int), v3 = minF (flQ K) k → w4 = k → EV e mX8_flip _ 41 [vR 45, vI w, vI (bi (0 < sumAll K)), vI v3, vI w4] [] g') ?_ ?_ 1 g1 h2.1 ⟨hf1, Nat.le_refl _⟩ _ _ i1.symm rfl
    · rintro k g2 hk ⟨hf2, h1k⟩ ih v2 w hv2 rfl
      have hu2 := hu.m hf2
      have hm := hu2.1
      have hb := minF_bd (flQ K) k
      have hk9 : (k : Int) < 2147483647 := by clear hsh ih hv2 hb; omega
      have hk8 : 0 ≤ (k : Int) ∧ (k : Int) < 256 := by clear hsh ih hv2 hb; omega
      have hb2 : v2 < 0 ∨ (0 ≤ v2 ∧ v2 < 256) := by rw [hv2]; clear hsh ih hv2; omega
      have hkl : ¬ (M : Int) ≤ (k : Int) := Int.not_le.mpr (Int.ofNat_lt.mpr hk)
      have hask : (v2 < 0 ∨ pcZ k < pcZ v2) → EV e mX8_flip (QM g (aR (rW w 1) (sel w (ones (minF (flQ K) M)) (minF (flQ K) M))) (rW w 1)) 68 [vR 45, vI w, vI (bi (0 < sumAll K)), vI v2, vI k] [] g2 := by
        intro hq
        refine b_X8_flip_68 (m_think he1 hK hu2) (fun g3 hx => ?_)
        obtain ⟨hp3, h83, hf3⟩ := hx
        refine b_X8_flip_72 (m_passAll (Nat.le_trans (by decide) he7) hK (hu2.m hf3.m) hp3) (fun g4 hx => ?_)
        obtain ⟨hp4, hf4⟩ := hx
        have hx4 := hf2.tr (hf3.m.tr hf4.m51)
        refine b_X8_flip_78 (m_isFor (Nat.le_trans (by decide) he7) hp4) (fun x g5 hx => ?_)
        obtain ⟨rfl, rfl⟩ := hx
        refine b_X8_flip_82 (fun c => ?_) (fun c => ?_)
        · exact b_X8_flip_90 (ih _ ⟨hx4, Nat.le_succ_of_le h1k⟩ _ _ (by rw [minF_1 (by rw [← hv2]; exact hq) ⟨h1k, c⟩]) (w32n k hk9))
        · exact b_X8_flip_86 (ih _ ⟨hx4, Nat.le_succ_of_le h1k⟩ _ _ (by rw [minF_0 (fun z => z.2.2 (Classical.not_not.mp c))]; exact hv2) (w32n k hk9))
      refine b_X8_flip_41 (fun c => absurd (by rw [hm, hsh] at c; exact c) hkl) (fun c => ?_)
      clear c
      refine b_X8_flip_52 (fun c => hask (Or.inl c)) (fun c => ?_)
      refine b_X8_flip_56 (m_onesV he1 hk8) (fun x g3 hx => ?_)
      obtain ⟨rfl, rfl⟩ := hx
      refine b_X8_flip_61 (m_onesV he1 (hb2.resolve_left c)) (fun x g3 hx => ?_)
      obtain ⟨rfl, rfl⟩ := hx
      refine b_X8_flip_65 (fun c2 => ?_) (fun c2 => hask (Or.inr (Int.not_le.mp c2)))
      exact b_X8_flip_93 (ih _ ⟨hf2, Nat.le_succ_of_le h1k⟩ _ _ (by rw [minF_0 (fun z => z.1.elim (fun y => c (by rw [hv2]; exact y)) (fun y => absurd (by rw [hv2] at c2; exact c2) (Int.not_le.mpr y)))]; exact hv2) (w32n k hk9))
    · rintro g2 ⟨hf2, h1k⟩ v2 w4 hv2 rfl
      have hm := (hu.m hf2).1
      have hb := minF_bd (flQ K) M
      have hb2 : v2 < 0 ∨ (0 ≤ v2 ∧ v2 < 256) := by rw [hv2]; clear hsh hv2; omega
      refine b_X8_flip_41 (fun c => ?_) (fun c => absurd (by rw [hm, hsh]; exact Int.le_refl _) c)
      clear c hsh hm hb
      refine b_X8_flip_99 (fun c => ?_) (fun c => ?_)
      · exact b_X8_flip_108 (rm_ok hr0 (aR_0 hr0 (sel1 (by clear hv2; omega) hv2.symm)) hf2)
      · have hw0 : w = 0 := by clear hv2; omega
        refine b_X8_flip_104 (fun c2 => ?_) (fun c2 => ?_)
        · refine b_X8_flip_112 (m_onesV he1 (hb2.resolve_left (Int.not_lt.mpr c2))) (fun x g3 hx => ?_)
          obtain ⟨rfl, rfl⟩ := hx
          exact b_X8_flip_116 (rm_ok hr0 (aR_0 hr0 (sel0 hw0 (ones_p (by rw [← hv2]; exact Int.not_lt.mpr c2) (by rw [hv2])))) hf2)
        · exact b_X8_flip_108 (rm_ok hr0 (aR_0 hr0 (sel0 hw0 (ones_n (by rw [← hv2]; exact Int.not_le.mp c2) hv2.symm))) hf2)
  refine b_X8_flip_0 (m_in (by omega)) (fun x0 _ hx => ?_)
  obtain ⟨rfl, rfl⟩ := hx
  refine b_X8_flip_12 (fun c12 => ?_) (fun c12 => ?_)
  · refine b_X8_flip_22 (m_sumAll he7 hK hu0) (fun x2 g1 hx => ?_)
    obtain ⟨rfl, hf1⟩ := hx
    refine b_X8_flip_26 (fun c26 => ?_) (fun c26 => ?_)
    · refine b_X8_flip_33 ?_
      first | exact loop _ _ (bi_pos (by omega)).symm ((thr g).tr hf1.m) (by omega) | exact loop _ _ (bi_neg (by omega)).symm ((thr g).tr hf1.m) (by omega)
    · refine b_X8_flip_29 ?_
      first | exact loop _ _ (bi_pos (by omega)).symm ((thr g).tr hf1.m) (by omega) | exact loop _ _ (bi_neg (by omega)).symm ((thr g).tr hf1.m) (by omega)
  · refine b_X8_flip_15 (m_refuse (by omega) ref2) (fun x2 _ hx => ?_)
    obtain ⟨rfl, rfl⟩ := hx
    refine b_X8_flip_21 ?_
    exact rm_no (thr g) (by omega) (aR_n (by omega) (by omega))
