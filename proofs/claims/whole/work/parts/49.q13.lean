/-- first -/
abbrev fiQ (K : tK) (c : Nat) : Prop := ∀ j, j < nP K → downF K (nC K) (three c 4) j = ptC K j
def fiS (c : Nat) : Int := psum (three c 4) 3
def fiF (K : tK) : Nat → Int × Int × Int
  | 0 => (0, -9, 99)
  | k + 1 => if fiQ K k then ((fiF K k).1 + 1, if fiS k < (fiF K k).2.2 then ((k : Int), fiS k) else (fiF K k).2) else fiF K k
theorem fiF_0 {K : tK} {k : Nat} (h : ¬ fiQ K k) : fiF K (k + 1) = fiF K k := if_neg h
theorem fiF_1 {K : tK} {k : Nat} (h : fiQ K k) (h2 : fiS k < (fiF K k).2.2) : fiF K (k + 1) = ((fiF K k).1 + 1, (k : Int), fiS k) := by
  show (if fiQ K k then _ else _) = _
  rw [if_pos h, if_pos h2]
theorem fiF_2 {K : tK} {k : Nat} (h : fiQ K k) (h2 : ¬ fiS k < (fiF K k).2.2) : fiF K (k + 1) = ((fiF K k).1 + 1, (fiF K k).2) := by
  show (if fiQ K k then _ else _) = _
  rw [if_pos h, if_neg h2]
theorem fiS_bd {k : Nat} (h : k < 729) : -27 ≤ fiS k ∧ fiS k ≤ 27 := by
  have hw : wideOK (k : Int) 4 := Or.inr (Or.inr (Or.inr (Or.inr ⟨rfl, Int.natCast_nonneg _, Int.ofNat_lt.mpr h⟩)))
  exact psum_bd (three_Bd hw) 3 (Nat.le_refl _)
theorem fiF_bd (K : tK) : ∀ k, k ≤ 729 → 0 ≤ (fiF K k).1 ∧ (fiF K k).1 ≤ k ∧ (((fiF K k).1 = 0 ∧ (fiF K k).2.1 = -9 ∧ (fiF K k).2.2 = 99) ∨ (1 ≤ (fiF K k).1 ∧ 0 ≤ (fiF K k).2.1 ∧ (fiF K k).2.1 < k ∧ -27 ≤ (fiF K k).2.2 ∧ (fiF K k).2.2 ≤ 27)) := by
  intro k
  induction k with
  | zero => intro _; exact ⟨Int.le_refl _, Int.le_refl _, Or.inl ⟨rfl, rfl, rfl⟩⟩
  | succ k ih =>
    intro hk
    have i1 := ih (Nat.le_of_succ_le hk)
    have i2 := fiS_bd (k := k) hk
    clear hk ih
    by_cases h : fiQ K k
    · by_cases h2 : fiS k < (fiF K k).2.2
      · rw [fiF_1 h h2]; dsimp only; omega
      · rw [fiF_2 h h2]; dsimp only; omega
    · rw [fiF_0 h]; omega
def rFirst (K : tK) (i : Int) : Int := if i < -1 then -4 else if nP K ≠ 3 then -3 else 0
theorem rFirst_cases (K : tK) (i : Int) : (i < -1 ∧ rFirst K i = -4) ∨ (-1 ≤ i ∧ nP K ≠ 3 ∧ rFirst K i = -3) ∨ (-1 ≤ i ∧ nP K = 3 ∧ rFirst K i = 0) := by
  unfold rFirst
  by_cases h1 : i < -1
  · rw [if_pos h1]; omega
  · rw [if_neg h1]
    by_cases h2 : nP K ≠ 3
    · rw [if_pos h2]; omega
    · rw [if_neg h2]; omega
def aFirst (K : tK) (i : Int) : Int := if i = -1 then (fiF K 729).1 else if (fiF K 729).1 = 0 ∨ 2 < i then -9 else three (fiF K 729).2.1 4 i.toNat
theorem ref4 : isRef (-4) := Or.inr (Or.inr (Or.inr (Or.inl rfl)))
theorem x_first {d : Nat} {g : pG} {K : tK} {i : Int} (hd : 8 ≤ d) (hK : KOK K) (hu : SU g 1 K) : CT d mX7_first [vR 0, vI i] g (QX g (aH (rFirst K i) (aFirst K i)) (rFirst K i)) := by
  refine ct_in (L := [vR 0, vI i, vX 2, vX 2, vX 2]) (by omega) (Nat.le_of_ble_eq_true rfl) rfl (fun e he => ?_)
  have h7 := hK.1
  have hm : g 5 1 = nP K := hu.2.2.1
  have r1 := rFirst_cases K i
  have loop : rFirst K i = 0 → nP K = 3 → -1 ≤ i → EV e mX7_first (QX g (aH (rFirst K i) (aFirst K i)) (rFirst K i)) 41 [vR 0, vI i, vI 0, vI 1000000000, vI 0] [] g := by
    intro hr0 hN3 hi
    refine loopN (P := fun k g' => xfr g g' ∧ ((fiF K k).1 ≠ 0 → PT g' 31 3 (three (fiF K k).2.1 4))) 729 (fun k g' => ∀ (v2 v3 w : Int), v2 = (fiF K k).1 → ((v2 = 0 ∧ 99 < v3) ∨ (v2 ≠ 0 ∧ v3 = (fiF K k).2.2)) → w = k → EV e mX7_first _ 41 [vR 0, vI i, vI v2, vI v3, vI w] [] g') ?_ ?_ 0 g (Nat.zero_le _) ⟨xfr.rf, fun h => absurd rfl h⟩ _ _ _ rfl (Or.inl ⟨rfl, by decide⟩) rfl
    · rintro k g2 hk ⟨hf2, hp31⟩ ih v2 v3 w hv2 hv3 rfl
      have hu2 := hu.x hf2
      have hk1 : (k : Int) < 729 := Int.ofNat_lt.mpr hk
      have hw : wideOK (k : Int) 4 := Or.inr (Or.inr (Or.inr (Or.inr ⟨rfl, Int.natCast_nonneg _, hk1⟩)))
      have hb := fiF_bd K k (Nat.le_of_lt hk)
      have hS := fiS_bd hk
      have hkw : (k : Int) < 2147483647 := Int.lt_trans hk1 (by decide)
      have he5 : 5 ≤ e := by clear hk hb hv3 hv2 ih; omega
      have he1 : 1 ≤ e := Nat.le_trans (by decide) he5
      have he3 : 3 ≤ e := Nat.le_trans (by decide) he5
      clear hk1
      refine b_X7_first_41 (fun c => absurd c (Int.not_le.mpr (Int.ofNat_lt.mpr hk))) (fun c => ?_)
      clear c
      refine b_X7_first_49 (s_beThree he3 pts_29 hw) (fun g3 hx => ?_)
      obtain ⟨hq3, hf3⟩ := hx
      refine b_X7_first_59 (s_copyP he1 pts_27 pts_29 (by decide) (by decide)) (fun g4 hx => ?_)
      obtain ⟨q1, q2, hf4⟩ := hx
      have hp4 : PT g4 27 3 (three k 4) := hq3.of q1 q2
      have hq4 : PT g4 29 3 (three k 4) := hq3.frm2 hf4 (by decide)
      have hx4 := hf2.tr ((hf3.x scr29).tr (hf4.x scr27))
      have hp4 : PT g4 27 (nP K) (three k 4) := by rw [hN3]; exact hp4
      refine b_X7_first_70 (by rw [(hu.x hx4).1]; exact s_goDown (Nat.le_trans (by decide) he5) scr27 hK (hu.x hx4) hp4 (Nat.le_refl _)) (fun g5 hx => ?_)
      obtain ⟨hp5, hf5⟩ := hx
      have hx5 := hx4.tr (hf5.x scr27)
      have hq5 : PT g5 29 3 (three k 4) := hq4.frm hf5 (by decide) (by decide)
      have h315 : (fiF K k).1 ≠ 0 → PT g5 31 3 (three (fiF K k).2.1 4) := fun h => ((((hp31 h).frm2 hf3 (by decide)).frm2 hf4 (by decide)).frm hf5 (by decide) (by decide))
      refine b_X7_first_88 (s_isAs he1 pts_27 pts_5 hp5 ((hu.x hx5).pt hK)) (fun x g6 hx => ?_)
      obtain ⟨rfl, rfl⟩ := hx
      refine b_X7_first_102 (fun c => ?_) (fun c => ?_)
      · have h1 : ¬ fiQ K k := bi_eq0 c
        exact b_X7_first_138 (ih _ ⟨hx5, by rw [fiF_0 h1]; exact h315⟩ _ _ _ (by rw [fiF_0 h1]; exact hv2) (by rw [fiF_0 h1]; exact hv3) (w32n k hkw))
      · have h1 : fiQ K k := bi_ne0 c
        have hs : CT e mX3_sum [vR 29] g6 (qI (fun x g' => x = fiS k ∧ g' = g6)) := s_sum he1 pts_29 hq5
        refine b_X7_first_105 hs (fun x g7 hx => ?_)
        obtain ⟨rfl, rfl⟩ := hx
        have ew : w32 (v2 + 1) = v2 + 1 := by clear ih; rw [w32_of (by omega) (by omega)]
        rw [ew]
        clear ew
        refine b_X7_first_115 (fun c2 => ?_) (fun c2 => ?_)
        · have e2 := fiF_2 h1 (show ¬ fiS k < (fiF K k).2.2 by clear ih; omega)
          exact b_X7_first_138 (ih _ ⟨hx5, by rw [e2]; exact fun _ => h315 (by clear ih; omega)⟩ _ _ _ (by rw [e2, hv2]) (Or.inr ⟨by clear ih; omega, by rw [e2]; dsimp only; clear ih; omega⟩) (w32n k hkw))
        · have e2 := fiF_1 h1 (show fiS k < (fiF K k).2.2 by clear ih; omega)
          refine b_X7_first_119 hs (fun x g8 hx => ?_)
          obtain ⟨rfl, rfl⟩ := hx
          refine b_X7_first_126 (s_copyP he1 pts_31 pts_29 (by decide) (by decide)) (fun g9 hx => ?_)
          obtain ⟨z1, z2, hf9⟩ := hx
          have hp9 : PT g9 31 3 (three k 4) := hq5.of z1 z2
          exact b_X7_first_138 (ih _ ⟨hx5.tr (hf9.x scr31), by rw [e2]; exact fun _ => hp9⟩ _ _ _ (by rw [e2, hv2]) (Or.inr ⟨by clear ih; omega, by rw [e2]⟩) (w32n k hkw))
    · rintro g2 ⟨hf2, hp31⟩ v2 v3 w hv2 hv3 rfl
      have hb := fiF_bd K 729 (Nat.le_refl _)
      clear hv3
      refine b_X7_first_41 (fun c => ?_) (fun c => absurd (Int.le_refl _) c)
      clear c
      refine b_X7_first_144 (fun c => ?_) (fun c => ?_)
      · refine b_X7_first_151 (fun c2 => ?_) (fun c2 => ?_)
        · exact b_X7_first_160 (rx_ok hr0 (aH_0 hr0 (by unfold aFirst; rw [if_neg c, if_pos (Or.inl (by omega))])) hf2)
        · refine b_X7_first_155 (fun c3 => ?_) (fun c3 => ?_)
          · refine b_X7_first_165 (s_numberV (N := 3) (by omega) pts_31 (hp31 (by omega)) (by omega)) (fun x g3 hx => ?_)
            obtain ⟨rfl, rfl⟩ := hx
            exact b_X7_first_173 (rx_ok hr0 (aH_0 hr0 (by unfold aFirst; rw [if_neg c, if_neg (by omega)])) hf2)
          · exact b_X7_first_160 (rx_ok hr0 (aH_0 hr0 (by unfold aFirst; rw [if_neg c, if_pos (Or.inr (by omega))])) hf2)
      · exact b_X7_first_149 (rx_ok hr0 (aH_0 hr0 (by unfold aFirst; rw [if_pos (Classical.not_not.mp c)]; exact hv2.symm)) hf2)
  refine b_X7_first_0 (fun c0 => ?_) (fun c0 => ?_)
  · refine b_X7_first_12 (fun c12 => ?_) (fun c12 => ?_)
    · refine b_X7_first_33 ?_
      exact loop (by omega) (by omega) (by omega)
    · refine b_X7_first_26 (s_refuseHigh (by omega) ref3) (fun x2 _ hx => ?_)
      obtain ⟨rfl, rfl⟩ := hx
      refine b_X7_first_32 ?_
      exact rx_no (by omega) (aH_n (m := -3) (by omega) (by omega) rfl)
  · refine b_X7_first_5 (s_refuseHigh (by omega) ref4) (fun x1 _ hx => ?_)
    obtain ⟨rfl, rfl⟩ := hx
    refine b_X7_first_11 ?_
    exact rx_no (by omega) (aH_n (m := -4) (by omega) (by omega) rfl)
theorem three4 (v i : Int) (h : 0 ≤ v ∧ v < 729) (hi : 0 ≤ i ∧ i ≤ 2) : three v 4 i.toNat = (if i = 0 then v / 81 else if i = 1 then v / 9 % 9 else v % 9) - 4 := by
  rcases (show i = 0 ∨ i = 1 ∨ i = 2 by omega) with rfl | rfl | rfl
  · rfl
  · rfl
  · rfl
theorem m_first {d : Nat} {g : pG} {K : tK} {i : Int} (hd : 11 ≤ d) (hK : KOK K) (hu : SM g K) : CT d mX8_first [vR 45, vI i] g (QM g (aH (rFirst K i) (aFirst K i)) (rFirst K i)) := by
  refine ct_in (L := [vR 45, vI i, vX 2, vX 2, vX 2, vX 2, vX 2, vX 2]) (by omega) (Nat.le_of_ble_eq_true rfl) rfl (fun e he => ?_)
  have h7 := hK.1
  have hu0 := hu.m (thr g)
  have hm0 : cset g 45 (fup (g 45) 8 0) 45 4 = nP K := hu0.2.2.1
  have r1 := rFirst_cases K i
  have loop : ∀ v g1, mfr g g1 → rFirst K i = 0 → nP K = 3 → -1 ≤ i → EV e mX8_first (QM g (aH (rFirst K i) (aFirst K i)) (rFirst K i)) 56 [vR 45, vI i, vI v, vI 0, vI (-9), vI 99, vI 0, vX 2] [] g1 := by
    intro v g1 hf1 hr0 hN3 hi
    refine loopN (P := fun k g' => mfr g g') 729 (fun k g' => ∀ (v3 v4 v5 w : Int) (u : pV), v3 = (fiF K k).1 → v4 = (fiF K k).2.1 → v5 = (fiF K k).2.2 → w = k → EV e mX8_first _ 56 [vR 45, vI i, vI v, vI v3, vI v4, vI v5, vI w, u] [] g') ?_ ?_ 0 g1 (Nat.zero_le _) hf1 _ _ _ _ _ rfl rfl rfl rfl
    · rintro k g2 hk hf2 ih v3 v4 v5 w u hv3 hv4 hv5 rfl
      have hu2 := hu.m hf2
      have hk1 : (k : Int) < 729 := Int.ofNat_lt.mpr hk
      have hw : wideOK (k : Int) 4 := Or.inr (Or.inr (Or.inr (Or.inr ⟨rfl, Int.natCast_nonneg _, hk1⟩)))
      have hb := fiF_bd K k (Nat.le_of_lt hk)
      have hS := fiS_bd hk
      have hkw : (k : Int) < 2147483647 := Int.lt_trans hk1 (by decide)
      have he6 : 6 ≤ e := by clear hk hb hv3 hv4 hv5 ih; omega
      have he1 : 1 ≤ e := Nat.le_trans (by decide) he6
      clear hk1
      refine b_X8_first_56 (fun c => absurd c (Int.not_le.mpr (Int.ofNat_lt.mpr hk))) (fun c => ?_)
      clear c
      refine b_X8_first_64 (m_thinkThree he1 hw) (fun g3 hx => ?_)
      obtain ⟨hp3, hf3, ho3⟩ := hx
      have hD3 := hf2.tr hf3
      refine b_X8_first_71 (m_sumNow he1 hp3) (fun x g4 hx => ?_)
      obtain ⟨hx0, rfl⟩ := hx
      have hx0 : x = fiS k := hx0
      subst hx0
      have hp3 : NW g4 (nP K) (three k 4) := by rw [hN3]; exact hp3
      refine b_X8_first_75 (m_passAll0 he6 hK (hu.m hD3) hp3) (fun g5 hx => ?_)
      obtain ⟨hp5, hf5⟩ := hx
      have hD5 := hD3.tr hf5.m51
      have hP := (hu.m hD5).2.2.2.1
      have l0 := hP 0 (by decide)
      have l1 := hP 1 (by decide)
      have l2 := hP 2 (by decide)
      have q0 := hp5.rd (k := 0) (by rw [hN3]; decide)
      have q1 := hp5.rd (k := 1) (by rw [hN3]; decide)
      have q2 := hp5.rd (k := 2) (by rw [hN3]; decide)
      have no : ∀ u : Int, ¬ fiQ K k → EV e mX8_first (QM g (aH (rFirst K i) (aFirst K i)) (rFirst K i)) 162 [vR 45, vI i, vI v, vI v3, vI v4, vI v5, vI k, vI u] [] g5 := fun u h1 => b_X8_first_162 (ih _ hD5 _ _ _ _ _ (by rw [fiF_0 h1]; exact hv3) (by rw [fiF_0 h1]; exact hv4) (by rw [fiF_0 h1]; exact hv5) (w32n k hkw))
      refine b_X8_first_82 (fun c => no _ (fun z => c (by rw [l0, q0]; exact z 0 (by rw [hN3]; decide)))) (fun c0 => ?_)
      refine b_X8_first_97 (fun c => no _ (fun z => c (by rw [l1, q1]; exact z 1 (by rw [hN3]; decide)))) (fun c1 => ?_)
      refine b_X8_first_112 (fun c => no _ (fun z => c (by rw [l2, q2]; exact z 2 (by rw [hN3]; decide)))) (fun c2 => ?_)
      rw [l0, q0] at c0
      rw [l1, q1] at c1
      rw [l2, q2] at c2
      have h1 : fiQ K k := fun j hj => by
        rw [hN3] at hj
        rcases (show j = 0 ∨ j = 1 ∨ j = 2 by clear hb ih; omega) with rfl | rfl | rfl
        · exact Classical.not_not.mp c0
        · exact Classical.not_not.mp c1
        · exact Classical.not_not.mp c2
      have hv3b : 0 ≤ v3 ∧ v3 < 2147483647 := by clear ih hkw; omega
      have ew : w32 (v3 + 1) = v3 + 1 := w32_of (by clear ih hb; omega) (by clear ih hb; omega)
      refine b_X8_first_127 (fun c => ?_) (fun c => ?_)
      · rw [ew]
        clear ew
        have e2 := fiF_2 h1 (show ¬ fiS k < (fiF K k).2.2 by clear ih; omega)
        refine b_X8_first_142 (fun _ => ?_) (fun c2 => absurd c c2)
        exact b_X8_first_158 (ih _ hD5 _ _ _ _ _ (by rw [e2, hv3]) (by rw [e2]; exact hv4) (by rw [e2]; exact hv5) (w32n k hkw))
      · rw [ew]
        clear ew
        have e2 := fiF_1 h1 (show fiS k < (fiF K k).2.2 by clear ih; omega)
        refine b_X8_first_137 (fun c2 => absurd c2 c) (fun _ => ?_)
        exact b_X8_first_153 (ih _ hD5 _ _ _ _ _ (by rw [e2, hv3]) (by rw [e2]) (by rw [e2]) (w32n k hkw))
    · rintro g2 hf2 v3 v4 v5 w u hv3 hv4 hv5 rfl
      have hb := fiF_bd K 729 (Nat.le_refl _)
      have hb3 : (0 ≤ v4 ∧ v4 < 729 ∧ (fiF K 729).1 ≠ 0) ∨ (v4 = -9 ∧ (fiF K 729).1 = 0) := by rw [hv4]; clear hv3 hv4 hv5; omega
      clear hb hv5
      refine b_X8_first_56 (fun c => ?_) (fun c => absurd (Int.le_refl _) c)
      clear c
      refine b_X8_first_168 (fun c => ?_) (fun c => ?_)
      · refine b_X8_first_174 (fun c2 => ?_) (fun c2 => ?_)
        · exact b_X8_first_184 (rm_ok hr0 (aH_0 hr0 (by unfold aFirst; rw [if_neg (by clear hv3; omega), if_pos (Or.inl (by clear hv3; omega))])) hf2)
        · refine b_X8_first_179 (fun c3 => ?_) (fun c3 => ?_)
          · have hv : 0 ≤ v4 ∧ v4 < 729 := by clear hv3; omega
            have hne : (fiF K 729).1 ≠ 0 := by clear hv3; omega
            have hA : aFirst K i = (if i = 0 then v4 / 81 else if i = 1 then v4 / 9 % 9 else v4 % 9) - 4 := by
              unfold aFirst
              rw [if_neg (by clear hv3; omega), if_neg (fun z => z.elim hne (fun y => by clear hv3; omega)), ← hv4]
              exact three4 v4 i hv ⟨c, c3⟩
            have t1 : v4.tdiv 81 = v4 / 81 := tdiv_nn hv.1
            have t2 : v4.tdiv 9 = v4 / 9 := tdiv_nn hv.1
            have t3 : v4.tmod 9 = v4 % 9 := tmod_nn hv.1
            have t4 : (v4 / 9).tmod 9 = v4 / 9 % 9 := tmod_nn (by clear hv3; omega)
            clear hb3
            refine b_X8_first_189 (fun c4 => ?_) (fun c4 => ?_)
            · refine b_X8_first_201 (fun c5 => ?_) (fun c5 => ?_)
              · refine b_X8_first_217 (rm_ok hr0 (aH_0 hr0 ?_) hf2)
                rw [hA, if_neg c4, if_neg c5, t3, w32_of (x := v4 % 9) (by clear hv3 hv4; omega) (by clear hv3 hv4; omega), w32_of (by clear hv3 hv4; omega) (by clear hv3 hv4; omega)]
              · refine b_X8_first_206 (rm_ok hr0 (aH_0 hr0 ?_) hf2)
                rw [hA, if_neg c4, if_pos (Classical.not_not.mp c5), t2, w32_of (x := v4 / 9) (by clear hv3 hv4; omega) (by clear hv3 hv4; omega), t4, w32_of (x := v4 / 9 % 9) (by clear hv3 hv4; omega) (by clear hv3 hv4; omega), w32_of (by clear hv3 hv4; omega) (by clear hv3 hv4; omega)]
            · refine b_X8_first_193 (rm_ok hr0 (aH_0 hr0 ?_) hf2)
              rw [hA, if_pos (Classical.not_not.mp c4), t1, w32_of (x := v4 / 81) (by clear hv3 hv4; omega) (by clear hv3 hv4; omega), w32_of (by clear hv3 hv4; omega) (by clear hv3 hv4; omega)]
          · exact b_X8_first_184 (rm_ok hr0 (aH_0 hr0 (by unfold aFirst; rw [if_neg (by clear hv3; omega), if_pos (Or.inr (by clear hv3; omega))])) hf2)
      · exact b_X8_first_172 (rm_ok hr0 (aH_0 hr0 (by unfold aFirst; rw [if_pos (by clear hv3; omega)]; exact hv3.symm)) hf2)
  refine b_X8_first_0 (fun c => ?_) (fun c => ?_)
  · refine b_X8_first_15 (fun c2 => ?_) (fun c2 => ?_)
    · exact b_X8_first_28 (loop _ _ (thr g) (by omega) (by omega) c)
    · refine b_X8_first_23 (m_refuse (by omega) ref3) (fun x g1 hx => ?_)
      obtain ⟨rfl, rfl⟩ := hx
      refine b_X8_first_41 ?_
      exact rm_no (thr g) (by omega) (aH_n (m := -3) (by omega) (by omega) rfl)
  · refine b_X8_first_10 (m_refuse (by omega) ref4) (fun x g1 hx => ?_)
    obtain ⟨rfl, rfl⟩ := hx
    refine b_X8_first_41 ?_
    exact rm_no (thr g) (by omega) (aH_n (m := -4) (by omega) (by omega) rfl)
