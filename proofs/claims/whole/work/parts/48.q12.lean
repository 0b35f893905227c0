/-- the same courts over N POINTS -/
def kN (K : tK) (N : Nat) : tK := (nC K, kdC K, fgC K, csC K, N, fun _ => 0, skC K, lnC K)
theorem kN_ok {K : tK} (hK : KOK K) {N : Nat} (hN : 1 ≤ N ∧ N ≤ 8) : KOK (kN K N) := ⟨hK.1, hK.2.1, hN, fun k _ => ⟨(by decide : (-9 : Int) ≤ 0), (by decide : (0 : Int) ≤ 9)⟩, fun _ _ _ => rfl, hK.2.2.2.2.2⟩
theorem s_hearN {d t N : Nat} {g : pG} {f : tF} {K : tK} {k : Nat} (hd : 5 ≤ d) (ht : isPts t) (hK : KOK K) (hu : SU g 1 K) (hp : PT g t N f) (hk : k < nC K) : CT d mX5_hear [vR 1, vI k, vR t] g (qV (fun g' => PT g' t N (passF (kN K N) k f) ∧ fr g g' (t + 1))) := by
  refine ct_in (L := [vR 1, vI k, vR t]) (by omega) (Nat.le_of_ble_eq_true rfl) rfl (fun e he => ?_)
  have h7 := hK.1
  obtain ⟨e1, e2, e3⟩ := hu.2.1 k hk
  obtain ⟨b1, b2, b3⟩ := hK.2.1 k hk
  have e1 : g 2 k = kdC K k := e1
  have e2 : g 3 k = fgC K k := e2
  refine b_X5_hear_0 ht (s_hasCourt1 (by omega) st_1 hu hk) (fun x0 g0 hx => ?_)
  obtain ⟨rfl, rfl⟩ := hx
  refine b_X5_hear_5 ht (fun c5 => ?_) (fun c5 => ?_)
  · exfalso
    omega
  · have a1 : (0 : Int) ≤ (k : Int) := by omega
    refine b_X5_hear_8 ht (by omega) (by omega) (by rw [Int.toNat_natCast, e1, e2]; exact s_hearAs (by omega) ht hp hu b1 b2) (fun g2 hx => ?_)
    obtain ⟨hp1, hf1⟩ := hx
    refine b_X5_hear_25 ht ?_
    exact ⟨rfl, hp1, hf1⟩
theorem s_fastN {d N : Nat} {g : pG} {K : tK} {f : tF} (hd : 6 ≤ d) (hK : KOK K) (hu : SU g 1 K) (hp : PT g 27 N f) : CT d mX7_fastCourts [vR 0] g (qI (fun x g' => x = (fastF (kN K N) f : Int) ∧ fr2 g g' 27)) := by
  refine ct_in (L := [vR 0, vX 2, vX 2]) (by omega) (Nat.le_of_ble_eq_true rfl) rfl (fun e he => ?_)
  have h7 := hK.1
  refine b_X7_fastCourts_0 (s_isFor (by omega) pts_27 hp) (fun x g1 hx => ?_)
  obtain ⟨rfl, rfl⟩ := hx
  refine b_X7_fastCourts_7 ?_
  refine loopN (P := fun k g' => PT g' 27 N (downF (kN K N) k f) ∧ fr2 g1 g' 27 ∧ ∀ j, j < k → ¬ (bi (0 < psum (downF (kN K N) (j + 1) f) N) ≠ bi (0 < psum f N))) (nC K) (fun k g' => ∀ w : Int, w = k → EV e mX7_fastCourts _ 10 [vR 0, vI (bi (0 < psum f N)), vI w] [] g') ?_ ?_ 0 g1 (Nat.zero_le _) ⟨hp, fr2.rf, fun j hj => absurd hj (by omega)⟩ _ rfl
  · rintro k g2 hk ⟨hp2, hf2, hall⟩ ih w rfl
    have hu2 := hu.x (hf2.x scr27)
    have hm := hu2.1
    refine b_X7_fastCourts_10 (fun c10 => ?_) (fun c10 => ?_)
    · exfalso
      omega
    · refine b_X7_fastCourts_21 (s_hearN (by omega) pts_27 hK hu2 hp2 hk) (fun g3 hx => ?_)
      obtain ⟨hp3, hf3⟩ := hx
      refine b_X7_fastCourts_33 (s_isFor (by omega) pts_27 hp3) (fun x2 _ hx => ?_)
      obtain ⟨rfl, rfl⟩ := hx
      refine b_X7_fastCourts_40 (fun c40 => ?_) (fun c40 => ?_)
      · refine b_X7_fastCourts_46 ?_
        try simp (disch := omega) only [w32_of, Int.toNat_natCast, tn0, tn1, tn2]
        refine ih _ ⟨hp3, hf2.tr hf3.to2, fun j hj => ?_⟩ _ (by omega)
        exact (if h : j = k then (by subst h; exact fun z => z c40) else hall j (by omega))
      · refine b_X7_fastCourts_44 ?_
        exact ⟨_, rfl, by have e1 : fastF (kN K N) f = k := lfind_hit (n := nC (kN K N)) hall c40 hk; rw [e1], hf2.tr hf3.to2⟩
  · rintro g2 ⟨hp2, hf2, hall⟩ w rfl
    have hu2 := hu.x (hf2.x scr27)
    have hm := hu2.1
    refine b_X7_fastCourts_10 (fun c10 => ?_) (fun c10 => ?_)
    · refine b_X7_fastCourts_52 ?_
      exact ⟨_, rfl, by have e1 : fastF (kN K N) f = nC K := lfind_none (nC (kN K N)) hall; rw [e1]; exact hm, hf2⟩
    · exfalso
      omega
theorem m_passN {d N : Nat} {g : pG} {f : tF} {K : tK} {k : Nat} (hd : 5 ≤ d) (hK : KOK K) (hu : SM g K) (hp : NW g N f) (hk : k < nC K) : CT d mX8_pass [vR 45, vI k] g (qV (fun g' => NW g' N (passF (kN K N) k f) ∧ fr g g' 51)) := by
  refine ct_in (L := [vR 45, vI k]) (by omega) (Nat.le_of_ble_eq_true rfl) rfl (fun e he => ?_)
  have h7 := hK.1
  obtain ⟨e1, e2, e3⟩ := hu.2.1 k hk
  obtain ⟨b1, b2, b3⟩ := hK.2.1 k hk
  refine b_X8_pass_0 (m_sendsBack (by omega) hK hu hp hk) (fun x g0 hx => ?_)
  obtain ⟨rfl, rfl⟩ := hx
  refine b_X8_pass_5 (fun c => ?_) (fun c => ?_)
  · have c1 := bi_ne0 c
    refine b_X8_pass_24 ⟨rfl, ?_, fr.rf⟩
    show NW g0 N (hearF N (lnC K) (kdC K k) (fgC K k) f)
    unfold hearF
    rw [if_pos c1]
    exact hp
  · have c1 := bi_eq0 (Classical.not_not.mp c)
    refine b_X8_pass_8 (by omega) (by omega) (by rw [Int.toNat_natCast, e1, e2]; exact m_act (by omega) hp b1 b2) (fun g1 hx => ?_)
    obtain ⟨hp1, hf1⟩ := hx
    refine b_X8_pass_24 ⟨rfl, ?_, hf1⟩
    show NW g1 N (hearF N (lnC K) (kdC K k) (fgC K k) f)
    unfold hearF
    rw [if_neg c1]
    exact hp1
theorem m_fastN {d N : Nat} {g : pG} {K : tK} {f : tF} (hd : 6 ≤ d) (hK : KOK K) (hu : SM g K) (hp : NW g N f) : CT d mX8_fastFrom [vR 45] g (qI (fun x g' => x = (fastF (kN K N) f : Int) ∧ fr g g' 51)) := by
  refine ct_in (L := [vR 45, vX 2, vX 2, vX 2, vX 2]) (by omega) (Nat.le_of_ble_eq_true rfl) rfl (fun e he => ?_)
  have h7 := hK.1
  refine b_X8_fastFrom_0 (m_isFor (by omega) hp) (fun x g1 hx => ?_)
  obtain ⟨rfl, rfl⟩ := hx
  refine b_X8_fastFrom_4 ?_
  refine loopN (P := fun k g' => NW g' N (downF (kN K N) k f) ∧ fr g1 g' 51 ∧ ∀ j, j < k → ¬ (bi (0 < psum (downF (kN K N) (j + 1) f) N) ≠ bi (0 < psum f N))) (nC K) (fun k g' => ∀ v w : Int, v = k → w = k → EV e mX8_fastFrom _ 12 [vR 45, vI (bi (0 < psum f N)), vI v, vI 1, vI w] [] g') ?_ ?_ 0 g1 (Nat.zero_le _) ⟨hp, fr.rf, fun j hj => absurd hj (by omega)⟩ _ _ rfl rfl
  · rintro k g2 hk ⟨hp2, hf2, hall⟩ ih v w hv rfl
    have hu2 := hu.m hf2.m51
    have hm := hu2.1
    refine b_X8_fastFrom_12 (fun c12 => ?_) (fun c12 => ?_)
    · exfalso
      omega
    · refine b_X8_fastFrom_21 (fun c21 => ?_) (fun c21 => ?_)
      · exfalso
        omega
      · refine b_X8_fastFrom_25 (m_passN (by omega) hK hu2 hp2 hk) (fun g3 hx => ?_)
        obtain ⟨hp3, hf3⟩ := hx
        refine b_X8_fastFrom_31 (m_isFor (by omega) hp3) (fun x3 g4 hx => ?_)
        obtain ⟨hx1, rfl⟩ := hx
        refine b_X8_fastFrom_35 (fun c35 => ?_) (fun c35 => ?_)
        · refine b_X8_fastFrom_43 ?_
          have e1 : fastF (kN K N) f = k := lfind_hit (n := nC (kN K N)) hall (fun z => c35 (hx1.trans z)) hk
          have hF : ∀ (v w : Int), v = k → EV e mX8_fastFrom (qI (fun x g' => x = (fastF (kN K N) f : Int) ∧ fr g1 g' 51)) 63 [vR 45, vI (bi (0 < psum f N)), vI v, vI 0, vI w] [] g4 := (fun v w hvk => b_X8_fastFrom_63 ⟨_, rfl, (by rw [e1]; exact hvk), hf2.tr hf3⟩)
          exact b_X8_fastFrom_12 (fun _ => hF _ _ (by rw [w32_of (by omega) (by omega)]; omega)) (fun _ => b_X8_fastFrom_21 (fun _ => hF _ _ (by rw [w32_of (by omega) (by omega)]; omega)) (fun c => absurd rfl c))
        · refine b_X8_fastFrom_39 ?_
          try simp (disch := omega) only [w32_of, Int.toNat_natCast, tn0, tn1, tn2]
          refine ih _ ⟨hp3, hf2.tr hf3, fun j hj => ?_⟩ _ _ (by omega) (by omega)
          exact (if h : j = k then (by subst h; exact fun z => c35 (fun z2 => z (hx1.symm.trans z2))) else hall j (by omega))
  · rintro g2 ⟨hp2, hf2, hall⟩ v w hv rfl
    have hm := (hu.m hf2.m51).1
    refine b_X8_fastFrom_12 (fun c12 => ?_) (fun c12 => ?_)
    · refine b_X8_fastFrom_63 ?_
      exact ⟨_, rfl, by have e1 : fastF (kN K N) f = nC K := lfind_none (nC (kN K N)) hall; rw [e1]; exact hv, hf2⟩
    · exfalso
      omega
/-- survive -/
def cub (f : Int) : Nat := ((2 * f + 1) * (2 * f + 1) * (2 * f + 1)).toNat
theorem cub_w {f : Int} (hf : 0 ≤ f ∧ f ≤ 4) : w32 (w32 (2 * f) + 1) = 2 * f + 1 ∧ w32 (w32 ((2 * f + 1) * (2 * f + 1)) * (2 * f + 1)) = cub f ∧ cub f < 730 ∧ ∀ k : Nat, k < cub f → wideOK k f := by
  rcases (show f = 0 ∨ f = 1 ∨ f = 2 ∨ f = 3 ∨ f = 4 by omega) with rfl | rfl | rfl | rfl | rfl
  · exact ⟨by decide, by decide, by decide, fun k hk => Or.inl ⟨rfl, Int.natCast_nonneg _, Int.ofNat_lt.mpr (show k < 1 from hk)⟩⟩
  · exact ⟨by decide, by decide, by decide, fun k hk => Or.inr (Or.inl ⟨rfl, Int.natCast_nonneg _, Int.ofNat_lt.mpr (show k < 27 from hk)⟩)⟩
  · exact ⟨by decide, by decide, by decide, fun k hk => Or.inr (Or.inr (Or.inl ⟨rfl, Int.natCast_nonneg _, Int.ofNat_lt.mpr (show k < 125 from hk)⟩))⟩
  · exact ⟨by decide, by decide, by decide, fun k hk => Or.inr (Or.inr (Or.inr (Or.inl ⟨rfl, Int.natCast_nonneg _, Int.ofNat_lt.mpr (show k < 343 from hk)⟩)))⟩
  · exact ⟨by decide, by decide, by decide, fun k hk => Or.inr (Or.inr (Or.inr (Or.inr ⟨rfl, Int.natCast_nonneg _, Int.ofNat_lt.mpr (show k < 729 from hk)⟩)))⟩
def svF (K : tK) (f : Int) : Nat → Int
  | 0 => 0
  | k + 1 => svF K f k + bi (fastF (kN K 3) (three k f) = nC K)
theorem svF_bd (K : tK) (f : Int) : ∀ k, 0 ≤ svF K f k ∧ svF K f k ≤ k := by
  intro k
  induction k with
  | zero => exact ⟨Int.le_refl _, Int.le_refl _⟩
  | succ k ih =>
    have h := bi_01 (fastF (kN K 3) (three k f) = nC K)
    unfold svF; omega
theorem x_survive {d : Nat} {g : pG} {K : tK} {f : Int} (hd : 8 ≤ d) (hK : KOK K) (hu : SU g 1 K) : CT d mX7_survive [vR 0, vI f] g (QX g (aR (wrN f 0 4) (svF K f (cub f))) (wrN f 0 4)) := by
  refine ct_in (L := [vR 0, vI f, vX 2, vX 2, vX 2, vX 2]) (by omega) (Nat.le_of_ble_eq_true rfl) rfl (fun e he => ?_)
  have h7 := hK.1
  have r1 := wrN_cases f 0 4
  have loop : ∀ v, wrN f 0 4 = 0 → (0 ≤ f ∧ f ≤ 4) → EV e mX7_survive (QX g (aR (wrN f 0 4) (svF K f (cub f))) (wrN f 0 4)) 29 [vR 0, vI f, vI v, vI (2 * f + 1), vI 0, vI 0] [] g := by
    intro v hr0 hf
    obtain ⟨c1, c2, c3, c4⟩ := cub_w hf
    refine loopN (P := fun k g' => xfr g g') (cub f) (fun k g' => ∀ (v4 w : Int), v4 = svF K f k → w = k → EV e mX7_survive _ 29 [vR 0, vI f, vI v, vI (2 * f + 1), vI v4, vI w] [] g') ?_ ?_ 0 g (Nat.zero_le _) xfr.rf _ _ rfl rfl
    · rintro k g2 hk hf2 ih v4 w hv4 rfl
      have hu2 := hu.x hf2
      have hwd := c4 k hk
      have hk9 : (k : Int) < 2147483647 := by clear c2 c1 ih hv4; omega
      have hb := svF_bd K f k
      have hkl : ¬ (cub f : Int) ≤ (k : Int) := Int.not_le.mpr (Int.ofNat_lt.mpr hk)
      refine b_X7_survive_29 (fun c => absurd (by rw [c2] at c; exact c) hkl) (fun c => ?_)
      refine b_X7_survive_39 (s_beThree (by omega) pts_27 hwd) (fun g3 hx => ?_)
      obtain ⟨hp3, hf3⟩ := hx
      have hx3 := hf2.tr (hf3.x scr27)
      refine b_X7_survive_49 (s_fastN (by omega) hK (hu.x hx3) hp3) (fun x g4 hx => ?_)
      obtain ⟨rfl, hf4⟩ := hx
      have hx4 := hx3.tr (hf4.x scr27)
      have hm4 := (hu.x hx4).1
      refine b_X7_survive_53 (fun c => ?_) (fun c => ?_)
      · rw [hm4] at c
        have e1 : bi (fastF (kN K 3) (three k f) = nC K) = 0 := bi_neg (fun z => c (by rw [z]))
        exact b_X7_survive_66 (ih _ hx4 _ _ (by unfold svF; rw [e1, Int.add_zero]; exact hv4) (w32n k hk9))
      · rw [hm4] at c
        have e1 : bi (fastF (kN K 3) (three k f) = nC K) = 1 := bi_pos (Int.ofNat_inj.mp (Classical.not_not.mp c))
        exact b_X7_survive_63 (ih _ hx4 _ _ (by unfold svF; rw [e1, hv4, w32_of (by clear c1 c2; omega) (by clear c1 c2; omega)]) (w32n k hk9))
    · rintro g2 hf2 v4 w hv4 rfl
      refine b_X7_survive_29 (fun c => ?_) (fun c => absurd (by rw [c2]; exact Int.le_refl _) c)
      exact b_X7_survive_72 (rx_ok hr0 (aR_0 hr0 hv4.symm) hf2)
  refine b_X7_survive_0 (s_outside (by omega)) (fun x g1 hx => ?_)
  obtain ⟨rfl, rfl⟩ := hx
  refine b_X7_survive_6 (fun c => ?_) (fun c => ?_)
  · have hf : 0 ≤ f ∧ f ≤ 4 := by omega
    refine b_X7_survive_17 ?_
    rw [(cub_w hf).1]
    exact loop _ c hf
  · refine b_X7_survive_11 (s_refuse (by omega) (refW c)) (fun x g2 hx => ?_)
    obtain ⟨rfl, rfl⟩ := hx
    exact b_X7_survive_16 (rx_no rfl (aR_n rfl c))
theorem m_survive {d : Nat} {g : pG} {K : tK} {f : Int} (hd : 11 ≤ d) (hK : KOK K) (hu : SM g K) : CT d mX8_survive [vR 45, vI f] g (QM g (aR (wrN f 0 4) (svF K f (cub f))) (wrN f 0 4)) := by
  refine ct_in (L := [vR 45, vI f, vX 2, vX 2, vX 2]) (by omega) (Nat.le_of_ble_eq_true rfl) rfl (fun e he => ?_)
  have h7 := hK.1
  have r1 := wrN_cases f 0 4
  have loop : ∀ g1, mfr g g1 → wrN f 0 4 = 0 → (0 ≤ f ∧ f ≤ 4) → EV e mX8_survive (QM g (aR (wrN f 0 4) (svF K f (cub f))) (wrN f 0 4)) 36 [vR 45, vI f, vI (2 * f + 1), vI 0, vI 0] [] g1 := by
    intro g1 hf1 hr0 hf
    obtain ⟨c1, c2, c3, c4⟩ := cub_w hf
    refine loopN (P := fun k g' => mfr g g') (cub f) (fun k g' => ∀ (v4 w : Int), v4 = svF K f k → w = k → EV e mX8_survive _ 36 [vR 45, vI f, vI (2 * f + 1), vI v4, vI w] [] g') ?_ ?_ 0 g1 (Nat.zero_le _) hf1 _ _ rfl rfl
    · rintro k g2 hk hf2 ih v4 w hv4 rfl
      have hu2 := hu.m hf2
      have hwd := c4 k hk
      have hk9 : (k : Int) < 2147483647 := by clear c2 c1 ih hv4; omega
      have hb := svF_bd K f k
      have hkl : ¬ (cub f : Int) ≤ (k : Int) := Int.not_le.mpr (Int.ofNat_lt.mpr hk)
      refine b_X8_survive_36 (fun c => absurd (by rw [c2] at c; exact c) hkl) (fun c => ?_)
      refine b_X8_survive_46 (m_thinkThree (by omega) hwd) (fun g3 hx => ?_)
      obtain ⟨hp3, hf3, ho3⟩ := hx
      have hx3 := hf2.tr hf3
      refine b_X8_survive_53 (m_fastN (by omega) hK (hu.m hx3) hp3) (fun x g4 hx => ?_)
      obtain ⟨rfl, hf4⟩ := hx
      have hx4 := hx3.tr hf4.m51
      have hm4 := (hu.m hx4).1
      refine b_X8_survive_58 (fun c => ?_) (fun c => ?_)
      · rw [hm4] at c
        have e1 : bi (fastF (kN K 3) (three k f) = nC K) = 0 := bi_neg (fun z => c (by rw [z]))
        exact b_X8_survive_69 (ih _ hx4 _ _ (by unfold svF; rw [e1, Int.add_zero, hv4, Int.add_zero, w32_of (by clear c1 c2; omega) (by clear c1 c2; omega)]) (w32n k hk9))
      · rw [hm4] at c
        have e1 : bi (fastF (kN K 3) (three k f) = nC K) = 1 := bi_pos (Int.ofNat_inj.mp (Classical.not_not.mp c))
        exact b_X8_survive_65 (ih _ hx4 _ _ (by unfold svF; rw [e1, hv4, w32_of (by clear c1 c2; omega) (by clear c1 c2; omega)]) (w32n k hk9))
    · rintro g2 hf2 v4 w hv4 rfl
      refine b_X8_survive_36 (fun c => ?_) (fun c => absurd (by rw [c2]; exact Int.le_refl _) c)
      exact b_X8_survive_78 (rm_ok hr0 (aR_0 hr0 hv4.symm) hf2)
  refine b_X8_survive_0 (m_wrongNumber (by omega)) (fun x g1 hx => ?_)
  obtain ⟨rfl, rfl⟩ := hx
  refine b_X8_survive_11 (fun c => ?_) (fun c => ?_)
  · have hf : 0 ≤ f ∧ f ≤ 4 := by omega
    refine b_X8_survive_25 ?_
    rw [(cub_w hf).1]
    exact loop _ (thr g) (by omega) hf
  · refine b_X8_survive_14 (m_wrongNumber (by omega)) (fun x g1 hx => ?_)
    obtain ⟨rfl, rfl⟩ := hx
    refine b_X8_survive_21 (m_refuse (by omega) (refW (by omega))) (fun x g2 hx => ?_)
    obtain ⟨rfl, rfl⟩ := hx
    exact b_X8_survive_24 (rm_no (thr g) rfl (aR_n rfl (by omega)))
