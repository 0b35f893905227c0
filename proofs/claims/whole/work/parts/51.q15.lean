/-- press -/
def prF (K : tK) (b : Int) (i : Nat) : tF := fun k => if k < i then held (ptC K k + zand (zshr b k) 1) else ptC K k
theorem prF_0 (K : tK) (b : Int) : prF K b 0 = ptC K := by
  funext k; unfold prF; rw [if_neg (Nat.not_lt_zero _)]
theorem prF_k (K : tK) (b : Int) (k : Nat) : prF K b k k = ptC K k := by unfold prF; rw [if_neg (Nat.lt_irrefl _)]
theorem prF_s (K : tK) (b : Int) (k : Nat) : fup (prF K b k) k (held (ptC K k + zand (zshr b k) 1)) = prF K b (k + 1) := by
  funext j
  unfold fup prF
  by_cases e : j = k
  · subst e; rw [if_pos rfl, if_pos (Nat.lt_succ_self _)]
  · rw [if_neg e]
    by_cases h : j < k
    · rw [if_pos h, if_pos (Nat.lt_succ_of_lt h)]
    · rw [if_neg h, if_neg (fun z => (Nat.lt_succ_iff_lt_or_eq.mp z).elim h e)]
abbrev prQ (K : tK) (b : Nat) : Prop := bi (0 < psum (downF K (nC K) (prF K b (nP K))) (nP K)) = 1
theorem bi1 {p : Prop} [Decidable p] (h : bi p ≠ 0) : bi p = 1 := (bi_01 p).resolve_left h
theorem s_fewP {d : Nat} {g : pG} {K : tK} (hd : 6 ≤ d) (hK : KOK K) (hu : SU g 1 K) : CT d mX7_fewestPressed [vR 0] g (qI (fun x g' => x = minF (prQ K) (2 ^ nP K) ∧ xfr g g')) := by
  refine ct_in (L := [vR 0, vX 2, vX 2, vX 2]) (by omega) (Nat.le_of_ble_eq_true rfl) rfl (fun e he => ?_)
  have h7 := hK.1
  have h8 := hK.2.2.1
  have h2 := two8 (n := nP K) h8.2
  have he5 : 5 ≤ e := by clear h2; omega
  have he1 : 1 ≤ e := Nat.le_trans (by decide) he5
  have he2 : 2 ≤ e := Nat.le_trans (by decide) he5
  have hsh := zshl1 (n := nP K) h8.2
  refine b_X7_fewestPressed_0 ?_
  generalize hM : 2 ^ nP K = M at h2 hsh
  refine loopN (P := fun k g' => xfr g g') M (fun k g' => ∀ (v1 w : Int) (u : pV), v1 = minF (prQ K) k → w = k → EV e mX7_fewestPressed _ 5 [vR 0, vI v1, vI w, u] [] g') ?_ ?_ 0 g (Nat.zero_le _) xfr.rf _ _ _ rfl rfl
  · rintro k g2 hk hf2 ih v2 w u hv2 rfl
    have hu2 := hu.x hf2
    have hm : g2 5 1 = nP K := hu2.2.2.1
    have hb := minF_bd (prQ K) k
    have hk9 : (k : Int) < 2147483647 := by clear hsh ih hv2 hb; omega
    have hkl : ¬ (M : Int) ≤ (k : Int) := Int.not_le.mpr (Int.ofNat_lt.mpr hk)
    have hv29 : v2 ≠ -9 → ¬ v2 < 0 := by rw [hv2]; clear hsh ih hv2 hkl; omega
    have ask : ∀ u, (v2 < 0 ∨ pcZ k < pcZ v2) → EV e mX7_fewestPressed (qI (fun x g' => x = minF (prQ K) M ∧ xfr g g')) 41 [vR 0, vI v2, vI k, u] [] g2 := by
      intro u hq
      refine b_X7_fewestPressed_41 (s_think he1 scr27 hK hu2) (fun g3 hx => ?_)
      obtain ⟨hp3, hf3⟩ := hx
      have hx3 := hf2.tr (hf3.x scr27)
      refine b_X7_fewestPressed_55 ?_
      refine loopN (P := fun i g' => xfr g g' ∧ PT g' 27 (nP K) (prF K k i)) (nP K) (fun i g' => ∀ (w3 : Int), w3 = i → EV e mX7_fewestPressed _ 57 [vR 0, vI v2, vI k, vI w3] [] g') ?_ ?_ 0 g3 (Nat.zero_le _) ⟨hx3, by rw [prF_0]; exact hp3⟩ _ rfl
      · rintro i g4 hi ⟨hf4, hp4⟩ ih2 w3 rfl
        have hm4 := hp4.1
        have hi9 : (i : Int) < 2147483647 := by clear hsh ih hv2 hb ih2 hkl hk9 hq; omega
        have hil : ¬ (nP K : Int) ≤ (i : Int) := Int.not_le.mpr (Int.ofNat_lt.mpr hi)
        have hz := zand_01 (zshr k i)
        have hbd := hK.2.2.2.1 i (Nat.lt_of_lt_of_le hi h8.2)
        have ew : w32 (ptC K i + zand (zshr k i) 1) = ptC K i + zand (zshr k i) 1 := w32_of (by clear hsh ih hv2 hb ih2 hkl hk9 hq hil; omega) (by clear hsh ih hv2 hb ih2 hkl hk9 hq hil; omega)
        refine b_X7_fewestPressed_57 (fun c => absurd (by rw [hm4] at c; exact c) hil) (fun c => ?_)
        refine b_X7_fewestPressed_68 (s_number he2 pts_27 hp4 hi) (fun x g5 hx => ?_)
        obtain ⟨rfl, rfl⟩ := hx
        refine b_X7_fewestPressed_81 (by rw [prF_k, ew]; exact s_put he2 pts_27 hp4 hi) (fun g6 hx => ?_)
        obtain ⟨hp6, hf6⟩ := hx
        rw [prF_s] at hp6
        exact b_X7_fewestPressed_90 (ih2 _ ⟨hf4.tr (hf6.x scr27), hp6⟩ _ (w32n i hi9))
      · rintro g4 ⟨hf4, hp4⟩ w3 rfl
        have hm4 := hp4.1
        refine b_X7_fewestPressed_57 (fun c => ?_) (fun c => absurd (by rw [hm4]; exact Int.le_refl _) c)
        refine b_X7_fewestPressed_96 (by rw [(hu.x hf4).1]; exact s_goDown (Nat.le_trans (by decide) he5) scr27 hK (hu.x hf4) hp4 (Nat.le_refl _)) (fun g5 hx => ?_)
        obtain ⟨hp5, hf5⟩ := hx
        have hx5 := hf4.tr (hf5.x scr27)
        refine b_X7_fewestPressed_114 (s_isFor he2 pts_27 hp5) (fun x g6 hx => ?_)
        obtain ⟨rfl, rfl⟩ := hx
        refine b_X7_fewestPressed_121 (fun c => ?_) (fun c => ?_)
        · exact b_X7_fewestPressed_126 (ih _ hx5 _ _ _ (by rw [minF_0 (fun z => absurd (z.2.symm.trans c) (by decide))]; exact hv2) (w32n k hk9))
        · exact b_X7_fewestPressed_124 (ih _ hx5 _ _ _ (by rw [minF_1 (by rw [← hv2]; exact hq) (bi1 c)]) (w32n k hk9))
    refine b_X7_fewestPressed_5 (fun c => absurd (by rw [hm, hsh] at c; exact c) hkl) (fun c => ?_)
    clear c
    refine b_X7_fewestPressed_21 (fun c => ask _ (Or.inl (by rw [c]; decide))) (fun c => ?_)
    refine b_X7_fewestPressed_27 (s_bitCount he1) (fun x g3 hx => ?_)
    obtain ⟨rfl, rfl⟩ := hx
    refine b_X7_fewestPressed_31 (s_bitCount he1) (fun x g3 hx => ?_)
    obtain ⟨rfl, rfl⟩ := hx
    refine b_X7_fewestPressed_35 (fun c2 => ask _ (Or.inr c2)) (fun c2 => ?_)
    exact b_X7_fewestPressed_38 (ih _ hf2 _ _ _ (by rw [minF_0 (fun z => z.1.elim (fun y => hv29 c (by rw [hv2]; exact y)) (fun y => c2 (by rw [hv2]; exact y)))]; exact hv2) (w32n k hk9))
  · rintro g2 hf2 v2 w u hv2 rfl
    have hm : g2 5 1 = nP K := (hu.x hf2).2.2.1
    refine b_X7_fewestPressed_5 (fun c => ?_) (fun c => absurd (by rw [hm, hsh]; exact Int.le_refl _) c)
    exact b_X7_fewestPressed_132 ⟨_, rfl, hv2, hf2⟩
theorem x_press {d : Nat} {g : pG} {K : tK} {w : Int} (hd : 8 ≤ d) (hK : KOK K) (hu : SU g 1 K) : CT d mX7_press [vR 0, vI w] g (QX g (aR (rW w 1) (sel w (minF (prQ K) (2 ^ nP K)) (ones (minF (prQ K) (2 ^ nP K))))) (rW w 1)) := by
  refine ct_in (L := [vR 0, vI w, vX 2]) (by omega) (Nat.le_of_ble_eq_true rfl) rfl (fun e he => ?_)
  have r2 := rW_cases w 1
  have hb := minF_bd (prQ K) (2 ^ nP K)
  generalize hB : minF (prQ K) (2 ^ nP K) = B at hb
  refine b_X7_press_0 (fun c0 => ?_) (fun c0 => ?_)
  · refine b_X7_press_9 (s_refuse (by omega) ref2) (fun x1 _ hx => ?_)
    obtain ⟨rfl, rfl⟩ := hx
    refine b_X7_press_15 ?_
    exact rx_no (by omega) (aR_n (by omega) (by omega))
  · refine b_X7_press_4 (fun c4 => ?_) (fun c4 => ?_)
    · refine b_X7_press_16 (s_fewP (by omega) hK hu) (fun x2 g1 hx => ?_)
      obtain ⟨hx, hf1⟩ := hx
      rw [hB] at hx
      subst hx
      refine b_X7_press_20 (fun c20 => ?_) (fun c20 => ?_)
      · refine b_X7_press_31 ?_
        first | exact rx_ok (by omega) (aR_0 (by omega) (sel0 (by omega) rfl)) hf1 | exact rx_ok (by omega) (aR_0 (by omega) (sel1 (by omega) (ones_n (by omega) rfl))) hf1
      · refine b_X7_press_25 (fun c25 => ?_) (fun c25 => ?_)
        · refine b_X7_press_35 (s_bitCount (by omega)) (fun x5 _ hx => ?_)
          obtain ⟨rfl, rfl⟩ := hx
          refine b_X7_press_39 ?_
          exact rx_ok (by omega) (aR_0 (by omega) (sel1 (by omega) (ones_p (by omega) rfl))) hf1
        · refine b_X7_press_31 ?_
          first | exact rx_ok (by omega) (aR_0 (by omega) (sel0 (by omega) rfl)) hf1 | exact rx_ok (by omega) (aR_0 (by omega) (sel1 (by omega) (ones_n (by omega) rfl))) hf1
    · refine b_X7_press_9 (s_refuse (by omega) ref2) (fun x2 _ hx => ?_)
      obtain ⟨rfl, rfl⟩ := hx
      refine b_X7_press_15 ?_
      exact rx_no (by omega) (aR_n (by omega) (by omega))
theorem m_pressBits {d : Nat} {g : pG} {K : tK} (hd : 7 ≤ d) (hK : KOK K) (hu : SM g K) : CT d mX8_pressBits [vR 45] g (qI (fun x g' => x = minF (prQ K) (2 ^ nP K) ∧ mfr g g')) := by
  refine ct_in (L := [vR 45, vX 2, vX 2, vX 2]) (by omega) (Nat.le_of_ble_eq_true rfl) rfl (fun e he => ?_)
  have h7 := hK.1
  have h8 := hK.2.2.1
  have h2 := two8 (n := nP K) h8.2
  have he6 : 6 ≤ e := by clear h2; omega
  have he1 : 1 ≤ e := Nat.le_trans (by decide) he6
  have hsh := zshl1 (n := nP K) h8.2
  refine b_X8_pressBits_0 ?_
  generalize hM : 2 ^ nP K = M at h2 hsh
  refine loopN (P := fun k g' => mfr g g') M (fun k g' => ∀ (v1 w : Int) (u : pV), v1 = minF (prQ K) k → w = k → EV e mX8_pressBits _ 5 [vR 45, vI v1, vI w, u] [] g') ?_ ?_ 0 g (Nat.zero_le _) mfr.rf _ _ _ rfl rfl
  · rintro k g2 hk hf2 ih v2 w u hv2 rfl
    have hu2 := hu.m hf2
    have hm := hu2.2.2.1
    have hb := minF_bd (prQ K) k
    have hk9 : (k : Int) < 2147483647 := by clear hsh ih hv2 hb; omega
    have hk8 : 0 ≤ (k : Int) ∧ (k : Int) < 256 := by clear hsh ih hv2 hb; omega
    have hb2 : v2 < 0 ∨ (0 ≤ v2 ∧ v2 < 256) := by rw [hv2]; clear hsh ih hv2; omega
    have hkl : ¬ (M : Int) ≤ (k : Int) := Int.not_le.mpr (Int.ofNat_lt.mpr hk)
    have ask : ∀ u, (v2 < 0 ∨ pcZ k < pcZ v2) → EV e mX8_pressBits (qI (fun x g' => x = minF (prQ K) M ∧ mfr g g')) 30 [vR 45, vI v2, vI k, u] [] g2 := by
      intro u hq
      refine b_X8_pressBits_30 (m_think he1 hK hu2) (fun g3 hx => ?_)
      obtain ⟨hp3, h83, hf3⟩ := hx
      refine b_X8_pressBits_34 ?_
      refine loopN (P := fun i g' => mfr g g' ∧ NW g' (nP K) (prF K k i)) (nP K) (fun i g' => ∀ (w3 : Int), w3 = i → EV e mX8_pressBits _ 36 [vR 45, vI v2, vI k, vI w3] [] g') ?_ ?_ 0 g3 (Nat.zero_le _) ⟨hf2.tr hf3.m, by rw [prF_0]; exact hp3⟩ _ rfl
      · rintro i g4 hi ⟨hf4, hp4⟩ ih2 w3 rfl
        have hm4 := (hu.m hf4).2.2.1
        have hi9 : (i : Int) < 2147483647 := by clear hsh ih hv2 hb ih2 hkl hk9 hq; omega
        have hil : ¬ (nP K : Int) ≤ (i : Int) := Int.not_le.mpr (Int.ofNat_lt.mpr hi)
        have hz := zand_01 (zshr k i)
        have hbd := hK.2.2.2.1 i (Nat.lt_of_lt_of_le hi h8.2)
        have i0 : 0 ≤ (i : Int) := Int.natCast_nonneg _
        have i8 : (i : Int) < 8 := by clear hsh ih hv2 hb ih2 hkl hk9 hq hil; omega
        have er : g4 51 (Int.toNat (i : Int)) = ptC K i := by rw [Int.toNat_natCast, hp4.rd hi, prF_k]
        have fin : ∀ x, x = held (ptC K i + zand (zshr k i) 1) → EV e mX8_pressBits (qI (fun x g' => x = minF (prQ K) M ∧ mfr g g')) 72 [vR 45, vI v2, vI k, vI i] [vI x, vI i, vR 51] g4 := by
          intro x hx
          refine b_X8_pressBits_72 i0 i8 ?_
          rw [Int.toNat_natCast, hx]
          have hp5 := hp4.put (s := i) (held_bd (ptC K i + zand (zshr k i) 1))
          rw [prF_s] at hp5
          exact ih2 _ ⟨hf4.tr (mset _ (Or.inl rfl)), hp5⟩ _ (w32n i hi9)
        refine b_X8_pressBits_36 (fun c => absurd (by rw [hm4] at c; exact c) hil) (fun c => ?_)
        clear c
        refine b_X8_pressBits_44 i0 i8 (m_hasBit he1) (fun x g5 hx => ?_)
        obtain ⟨rfl, rfl⟩ := hx
        rw [er]
        refine b_X8_pressBits_60 (fun c => ?_) (fun c => ?_)
        · have c1 := bi_eq0 c
          refine b_X8_pressBits_67 (m_held he1) (fun x g6 hx => ?_)
          obtain ⟨rfl, rfl⟩ := hx
          refine fin _ ?_
          rw [hz.resolve_right c1, w32_of (by clear hsh ih hv2 hb ih2 hkl hk9 hq hil c; omega) (by clear hsh ih hv2 hb ih2 hkl hk9 hq hil c; omega)]
        · have c1 := bi_ne0 c
          refine b_X8_pressBits_63 (m_held he1) (fun x g6 hx => ?_)
          obtain ⟨rfl, rfl⟩ := hx
          refine fin _ ?_
          rw [c1, w32_of (by clear hsh ih hv2 hb ih2 hkl hk9 hq hil c; omega) (by clear hsh ih hv2 hb ih2 hkl hk9 hq hil c; omega)]
      · rintro g4 ⟨hf4, hp4⟩ w3 rfl
        have hm4 := (hu.m hf4).2.2.1
        refine b_X8_pressBits_36 (fun c => ?_) (fun c => absurd (by rw [hm4]; exact Int.le_refl _) c)
        refine b_X8_pressBits_79 (m_passAll0 he6 hK (hu.m hf4) hp4) (fun g5 hx => ?_)
        obtain ⟨hp5, hf5⟩ := hx
        have hx5 := hf4.tr hf5.m51
        refine b_X8_pressBits_84 (m_isFor (Nat.le_trans (by decide) he6) hp5) (fun x g6 hx => ?_)
        obtain ⟨rfl, rfl⟩ := hx
        refine b_X8_pressBits_88 (fun c => ?_) (fun c => ?_)
        · exact b_X8_pressBits_95 (ih _ hx5 _ _ _ (by rw [minF_0 (fun z => absurd (z.2.symm.trans c) (by decide))]; exact hv2) (w32n k hk9))
        · exact b_X8_pressBits_91 (ih _ hx5 _ _ _ (by rw [minF_1 (by rw [← hv2]; exact hq) (bi1 c)]) (w32n k hk9))
    refine b_X8_pressBits_5 (fun c => absurd (by rw [hm, hsh] at c; exact c) hkl) (fun c => ?_)
    clear c
    refine b_X8_pressBits_15 (fun c => ask _ (Or.inl c)) (fun c => ?_)
    refine b_X8_pressBits_19 (m_onesV he1 hk8) (fun x g3 hx => ?_)
    obtain ⟨rfl, rfl⟩ := hx
    refine b_X8_pressBits_23 (m_onesV he1 (hb2.resolve_left c)) (fun x g3 hx => ?_)
    obtain ⟨rfl, rfl⟩ := hx
    refine b_X8_pressBits_27 (fun c2 => ?_) (fun c2 => ask _ (Or.inr (Int.not_le.mp c2)))
    exact b_X8_pressBits_97 (ih _ hf2 _ _ _ (by rw [minF_0 (fun z => z.1.elim (fun y => c (by rw [hv2]; exact y)) (fun y => absurd (by rw [hv2] at c2; exact c2) (Int.not_le.mpr y)))]; exact hv2) (w32n k hk9))
  · rintro g2 hf2 v2 w u hv2 rfl
    have hm := (hu.m hf2).2.2.1
    refine b_X8_pressBits_5 (fun c => ?_) (fun c => absurd (by rw [hm, hsh]; exact Int.le_refl _) c)
    exact b_X8_pressBits_103 ⟨_, rfl, hv2, hf2⟩
theorem m_press {d : Nat} {g : pG} {K : tK} {w : Int} (hd : 11 ≤ d) (hK : KOK K) (hu : SM g K) : CT d mX8_press [vR 45, vI w] g (QM g (aR (rW w 1) (sel w (minF (prQ K) (2 ^ nP K)) (ones (minF (prQ K) (2 ^ nP K))))) (rW w 1)) := by
  refine ct_in (L := [vR 45, vI w, vX 2]) (by omega) (Nat.le_of_ble_eq_true rfl) rfl (fun e he => ?_)
  have r2 := rW_cases w 1
  have b1 := bi_cases (0 ≤ w ∧ w ≤ 1)
  have hu0 := hu.m (thr g)
  have hb := minF_bd (prQ K) (2 ^ nP K)
  have h2 := two8 (n := nP K) hK.2.2.1.2
  have hb3 : minF (prQ K) (2 ^ nP K) < 0 ∨ (0 ≤ minF (prQ K) (2 ^ nP K) ∧ minF (prQ K) (2 ^ nP K) < 256) := by omega
  clear hb h2
  generalize hB : minF (prQ K) (2 ^ nP K) = B at hb3
  refine b_X8_press_0 (m_in (by omega)) (fun x0 _ hx => ?_)
  obtain ⟨rfl, rfl⟩ := hx
  refine b_X8_press_12 (fun c12 => ?_) (fun c12 => ?_)
  · refine b_X8_press_22 (m_pressBits (by omega) hK hu0) (fun x2 g1 hx => ?_)
    obtain ⟨hx, hf1⟩ := hx
    rw [hB] at hx
    subst hx
    refine b_X8_press_26 (fun c26 => ?_) (fun c26 => ?_)
    · refine b_X8_press_35 ?_
      first | exact rm_ok (by omega) (aR_0 (by omega) (sel0 (by omega) rfl)) ((thr g).tr hf1) | exact rm_ok (by omega) (aR_0 (by omega) (sel1 (by omega) (ones_n (by omega) rfl))) ((thr g).tr hf1)
    · refine b_X8_press_31 (fun c31 => ?_) (fun c31 => ?_)
      · refine b_X8_press_39 (m_onesV (by omega) (by omega)) (fun x5 _ hx => ?_)
        obtain ⟨rfl, rfl⟩ := hx
        refine b_X8_press_43 ?_
        exact rm_ok (by omega) (aR_0 (by omega) (sel1 (by omega) (ones_p (by omega) rfl))) ((thr g).tr hf1)
      · refine b_X8_press_35 ?_
        first | exact rm_ok (by omega) (aR_0 (by omega) (sel0 (by omega) rfl)) ((thr g).tr hf1) | exact rm_ok (by omega) (aR_0 (by omega) (sel1 (by omega) (ones_n (by omega) rfl))) ((thr g).tr hf1)
  · refine b_X8_press_15 (m_refuse (by omega) ref2) (fun x2 _ hx => ?_)
    obtain ⟨rfl, rfl⟩ := hx
    refine b_X8_press_21 ?_
    exact rm_no (thr g) (by omega) (aR_n (by omega) (by omega))
