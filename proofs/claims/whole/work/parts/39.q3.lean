theorem m_downTo {d n : Nat} {g : pG} {K : tK} (hd : 6 ≤ d) (hK : KOK K) (hu : SM g K) (hn : n ≤ nC K) : CT d mX8_downTo [vR 45, vI n] g (qV (fun g' => NW g' (nP K) (downF K n (ptC K)) ∧ mfr g g')) := by
  refine ct_in (L := [vR 45, vI n, vX 2]) (by omega) (Nat.le_of_ble_eq_true rfl) rfl (fun e he => ?_)
  have h7 := hK.1
  refine b_X8_downTo_0 (m_think (by omega) hK hu) (fun g1 hx => ?_)
  obtain ⟨hp1, h81, hf1⟩ := hx
  refine b_X8_downTo_4 ?_
  refine loopN (P := fun k g' => NW g' (nP K) (downF K k (ptC K)) ∧ mfr g g') n (fun k g' => ∀ (w : Int), w = k → EV e mX8_downTo _ 6 [vR 45, vI n, vI w] [] g') ?_ ?_ 0 g1 (Nat.zero_le _) ⟨hp1, hf1.m⟩ _ rfl
  · rintro k g2 hk ⟨hp2, hf2⟩ ih w rfl
    have hu2 := hu.m hf2
    refine b_X8_downTo_6 (fun c6 => ?_) (fun c6 => ?_)
    · exfalso
      omega
    · refine b_X8_downTo_11 (m_pass (by omega) hK hu2 hp2 (by omega)) (fun g3 hx => ?_)
      obtain ⟨hp3, hf3⟩ := hx
      refine b_X8_downTo_16 ?_
      try simp (disch := omega) only [w32_of, Int.toNat_natCast, tn0, tn1, tn2]
      exact ih _ ⟨hp3, hf2.tr hf3.m51⟩ _ (by omega)
  · rintro g2 ⟨hp2, hf2⟩ w rfl
    refine b_X8_downTo_6 (fun c6 => ?_) (fun c6 => ?_)
    · refine b_X8_downTo_22 ?_
      exact ⟨rfl, hp2, hf2⟩
    · exfalso
      omega
theorem m_downToV {d : Nat} {g : pG} {K : tK} {v : Int} (hd : 6 ≤ d) (hK : KOK K) (hu : SM g K) (hv : 0 ≤ v ∧ v ≤ nC K) : CT d mX8_downTo [vR 45, vI v] g (qV (fun g' => NW g' (nP K) (downF K v.toNat (ptC K)) ∧ mfr g g')) := by
  obtain ⟨n, rfl⟩ := Int.eq_ofNat_of_zero_le hv.1
  exact m_downTo hd hK hu (by omega)
theorem m_down {d : Nat} {g : pG} {K : tK} {k w : Int} (hd : 11 ≤ d) (hK : KOK K) (hu : SM g K) : CT d mX8_down [vR 45, vI k, vI w] g (QM g (aH (rDown K k w) (aDown K k w)) (rDown K k w)) := by
  refine ct_in (L := [vR 45, vI k, vI w, vX 2]) (by omega) (Nat.le_of_ble_eq_true rfl) rfl (fun e he => ?_)
  have h7 := hK.1
  have hu0 := hu.m (thr g)
  have hm := hu0.1
  have hm2 : fup (g 45) 8 0 0 = nC K := by rw [← hm, cset_self]
  have hm4 := hu0.2.2.1
  have hN := hK.2.2.1
  have r1 := wrN_cases k 0 (nC K)
  have r2 := rDown_cases K k w
  have b1 := bi_cases (0 ≤ w ∧ w ≤ 9)
  have b2 := bi_cases ((nP K : Int) ≤ w ∧ w ≤ 7)
  refine b_X8_down_0 (by rw [hm2]; exact m_wrongNumber (by omega)) (fun x0 _ hx => ?_)
  obtain ⟨rfl, rfl⟩ := hx
  refine b_X8_down_14 (fun c14 => ?_) (fun c14 => ?_)
  · refine b_X8_down_52 (fun c52 => ?_) (fun c52 => ?_)
    · refine b_X8_down_67 (m_downToV (by omega) hK hu0 (by omega)) (fun g1 hx => ?_)
      obtain ⟨hp1, hf1⟩ := hx
      refine b_X8_down_72 (fun c72 => ?_) (fun c72 => ?_)
      · refine b_X8_down_87 (fun c87 => ?_) (fun c87 => ?_)
        · refine b_X8_down_100 (m_isFor (by omega) hp1) (fun x6 _ hx => ?_)
          obtain ⟨hx0, rfl⟩ := hx
          refine b_X8_down_104 (fun c104 => ?_) (fun c104 => ?_)
          · refine b_X8_down_111 ?_
            exact rm_ok (by omega) (aH_0 (by omega) ((aDown_9 (by omega)).trans (hx0.symm.trans (by omega)))) ((thr g).tr hf1)
          · refine b_X8_down_107 ?_
            exact rm_ok (by omega) (aH_0 (by omega) ((aDown_9 (by omega)).trans (by rw [hx0] at c104; exact bi_pos (bi_ne0 c104)))) ((thr g).tr hf1)
        · refine b_X8_down_93 (m_sumNow (by omega) hp1) (fun x6 _ hx => ?_)
          obtain ⟨rfl, rfl⟩ := hx
          refine b_X8_down_97 ?_
          exact rm_ok (by omega) (aH_0 (by omega) (aDown_8 (by omega))) ((thr g).tr hf1)
      · refine b_X8_down_78 (by omega) (by omega) ?_
        try simp (disch := omega) only [w32_of, Int.toNat_natCast, tn0, tn1, tn2]
        exact rm_ok (by omega) (aH_0 (by omega) ((aDown_lt (by omega)).trans (hp1.rd (by omega)).symm)) ((thr g).tr hf1)
    · refine b_X8_down_58 (m_refuse (by omega) (refW (by omega))) (fun x3 _ hx => ?_)
      obtain ⟨rfl, rfl⟩ := hx
      refine b_X8_down_65 ?_
      rw [w32_of (by omega) (by omega)]
      first | exact rm_no (thr g) (m := -2) (by omega) (aH_n (m := -2) (by omega) (by omega) (by omega)) | exact rm_no (thr g) (m := wrN k 0 (nC K)) (by omega) (aH_n (m := wrN k 0 (nC K)) (by omega) (by omega) (by omega))
  · refine b_X8_down_19 (m_in (by omega)) (fun x2 _ hx => ?_)
    obtain ⟨rfl, rfl⟩ := hx
    refine b_X8_down_28 (fun c28 => ?_) (fun c28 => ?_)
    · refine b_X8_down_47 (m_refuse (by omega) ref2) (fun x4 _ hx => ?_)
      obtain ⟨rfl, rfl⟩ := hx
      refine b_X8_down_65 ?_
      rw [w32_of (by omega) (by omega)]
      first | exact rm_no (thr g) (m := -2) (by omega) (aH_n (m := -2) (by omega) (by omega) (by omega)) | exact rm_no (thr g) (m := wrN k 0 (nC K)) (by omega) (aH_n (m := wrN k 0 (nC K)) (by omega) (by omega) (by omega))
    · refine b_X8_down_31 (by rw [hm4]; exact m_in (by omega)) (fun x4 _ hx => ?_)
      obtain ⟨rfl, rfl⟩ := hx
      refine b_X8_down_44 (fun c44 => ?_) (fun c44 => ?_)
      · refine b_X8_down_52 (fun c52 => ?_) (fun c52 => ?_)
        · refine b_X8_down_67 (m_downToV (by omega) hK hu0 (by omega)) (fun g1 hx => ?_)
          obtain ⟨hp1, hf1⟩ := hx
          refine b_X8_down_72 (fun c72 => ?_) (fun c72 => ?_)
          · refine b_X8_down_87 (fun c87 => ?_) (fun c87 => ?_)
            · refine b_X8_down_100 (m_isFor (by omega) hp1) (fun x10 _ hx => ?_)
              obtain ⟨hx0, rfl⟩ := hx
              refine b_X8_down_104 (fun c104 => ?_) (fun c104 => ?_)
              · refine b_X8_down_111 ?_
                exact rm_ok (by omega) (aH_0 (by omega) ((aDown_9 (by omega)).trans (hx0.symm.trans (by omega)))) ((thr g).tr hf1)
              · refine b_X8_down_107 ?_
                exact rm_ok (by omega) (aH_0 (by omega) ((aDown_9 (by omega)).trans (by rw [hx0] at c104; exact bi_pos (bi_ne0 c104)))) ((thr g).tr hf1)
            · refine b_X8_down_93 (m_sumNow (by omega) hp1) (fun x10 _ hx => ?_)
              obtain ⟨rfl, rfl⟩ := hx
              refine b_X8_down_97 ?_
              exact rm_ok (by omega) (aH_0 (by omega) (aDown_8 (by omega))) ((thr g).tr hf1)
          · refine b_X8_down_78 (by omega) (by omega) ?_
            try simp (disch := omega) only [w32_of, Int.toNat_natCast, tn0, tn1, tn2]
            exact rm_ok (by omega) (aH_0 (by omega) ((aDown_lt (by omega)).trans (hp1.rd (by omega)).symm)) ((thr g).tr hf1)
        · refine b_X8_down_58 (m_refuse (by omega) (refW (by omega))) (fun x7 _ hx => ?_)
          obtain ⟨rfl, rfl⟩ := hx
          refine b_X8_down_65 ?_
          rw [w32_of (by omega) (by omega)]
          first | exact rm_no (thr g) (m := -2) (by omega) (aH_n (m := -2) (by omega) (by omega) (by omega)) | exact rm_no (thr g) (m := wrN k 0 (nC K)) (by omega) (aH_n (m := wrN k 0 (nC K)) (by omega) (by omega) (by omega))
      · refine b_X8_down_47 (m_refuse (by omega) ref2) (fun x6 _ hx => ?_)
        obtain ⟨rfl, rfl⟩ := hx
        refine b_X8_down_65 ?_
        rw [w32_of (by omega) (by omega)]
        first | exact rm_no (thr g) (m := -2) (by omega) (aH_n (m := -2) (by omega) (by omega) (by omega)) | exact rm_no (thr g) (m := wrN k 0 (nC K)) (by omega) (aH_n (m := wrN k 0 (nC K)) (by omega) (by omega) (by omega))
/-- standsFast -/
theorem x_standsFast {d : Nat} {g : pG} {K : tK} (hd : 8 ≤ d) (hK : KOK K) (hu : SU g 1 K) : CT d mX7_standsFast [vR 0] g (QX g (fastF K (ptC K) : Nat) 0) := by
  refine ct_in (L := [vR 0]) (by omega) (Nat.le_of_ble_eq_true rfl) rfl (fun e he => ?_)
  refine b_X7_standsFast_0 (s_goDownTo0 (by omega) hK hu) (fun g1 hx => ?_)
  obtain ⟨hp1, hf1⟩ := hx
  refine b_X7_standsFast_5 (s_fast (by omega) hK (hu.x (hf1.x scr27)) hp1) (fun x1 g2 hx => ?_)
  obtain ⟨rfl, hf2⟩ := hx
  refine b_X7_standsFast_9 ?_
  exact rx_ok rfl rfl ((hf1.tr hf2).x scr27)
theorem m_fastFrom {d : Nat} {g : pG} {K : tK} {f : tF} (hd : 6 ≤ d) (hK : KOK K) (hu : SM g K) (hp : NW g (nP K) f) : CT d mX8_fastFrom [vR 45] g (qI (fun x g' => x = (fastF K f : Int) ∧ fr g g' 51)) := by
  refine ct_in (L := [vR 45, vX 2, vX 2, vX 2, vX 2]) (by omega) (Nat.le_of_ble_eq_true rfl) rfl (fun e he => ?_)
  have h7 := hK.1
  refine b_X8_fastFrom_0 (m_isFor (by omega) hp) (fun x g1 hx => ?_)
  obtain ⟨rfl, rfl⟩ := hx
  refine b_X8_fastFrom_4 ?_
  refine loopN (P := fun k g' => NW g' (nP K) (downF K k f) ∧ fr g1 g' 51 ∧ ∀ j, j < k → ¬ (bi (0 < psum (downF K (j + 1) f) (nP K)) ≠ bi (0 < psum f (nP K)))) (nC K) (fun k g' => ∀ v w : Int, v = k → w = k → EV e mX8_fastFrom _ 12 [vR 45, vI (bi (0 < psum f (nP K))), vI v, vI 1, vI w] [] g') ?_ ?_ 0 g1 (Nat.zero_le _) ⟨hp, fr.rf, fun j hj => absurd hj (by omega)⟩ _ _ rfl rfl
  · rintro k g2 hk ⟨hp2, hf2, hall⟩ ih v w hv rfl
    have hu2 := hu.m hf2.m51
    have hm := hu2.1
    refine b_X8_fastFrom_12 (fun c12 => ?_) (fun c12 => ?_)
    · exfalso
      omega
    · refine b_X8_fastFrom_21 (fun c21 => ?_) (fun c21 => ?_)
      · exfalso
        omega
      · refine b_X8_fastFrom_25 (m_pass (by omega) hK hu2 hp2 hk) (fun g3 hx => ?_)
        obtain ⟨hp3, hf3⟩ := hx
        refine b_X8_fastFrom_31 (m_isFor (by omega) hp3) (fun x3 g4 hx => ?_)
        obtain ⟨hx1, rfl⟩ := hx
        refine b_X8_fastFrom_35 (fun c35 => ?_) (fun c35 => ?_)
        · refine b_X8_fastFrom_43 ?_
          have e1 : fastF K f = k := lfind_hit hall (fun z => c35 (hx1.trans z)) _ hk
          have hF : ∀ (v w : Int), v = k → EV e mX8_fastFrom (qI (fun x g' => x = (fastF K f : Int) ∧ fr g1 g' 51)) 63 [vR 45, vI (bi (0 < psum f (nP K))), vI v, vI 0, vI w] [] g4 := (fun v w hvk => b_X8_fastFrom_63 ⟨_, rfl, (by rw [e1]; exact hvk), hf2.tr hf3⟩)
          exact b_X8_fastFrom_12 (fun _ => hF _ _ (by rw [w32_of (by omega) (by omega)]; omega)) (fun _ => b_X8_fastFrom_21 (fun _ => hF _ _ (by rw [w32_of (by omega) (by omega)]; omega)) (fun c => absurd rfl c))
        · refine b_X8_fastFrom_39 ?_
          try simp (disch := omega) only [w32_of, Int.toNat_natCast, tn0, tn1, tn2]
          refine ih _ ⟨hp3, hf2.tr hf3, fun j hj => ?_⟩ _ _ (by omega) (by omega)
          exact (if h : j = k then (by subst h; exact fun z => c35 (fun z2 => z (hx1.symm.trans z2))) else hall j (by omega))
  · rintro g2 ⟨hp2, hf2, hall⟩ v w hv rfl
    have hm := (hu.m hf2.m51).1
    refine b_X8_fastFrom_12 (fun c12 => ?_) (fun c12 => ?_)
    · refine b_X8_fastFrom_63 ?_
      exact ⟨_, rfl, by unfold fastF; rw [lfind_none _ hall]; exact hv, hf2⟩
    · exfalso
      omega
theorem m_standsFast {d : Nat} {g : pG} {K : tK} (hd : 11 ≤ d) (hK : KOK K) (hu : SM g K) : CT d mX8_standsFast [vR 45] g (QM g (fastF K (ptC K) : Nat) 0) := by
  refine ct_in (L := [vR 45]) (by omega) (Nat.le_of_ble_eq_true rfl) rfl (fun e he => ?_)
  have hu0 := hu.m (thr g)
  refine b_X8_standsFast_0 (m_think (by omega) hK hu0) (fun g1 hx => ?_)
  obtain ⟨hp1, h81, hf1⟩ := hx
  refine b_X8_standsFast_9 (m_fastFrom (by omega) hK (hu0.m hf1.m) hp1) (fun x1 g2 hx => ?_)
  obtain ⟨rfl, hf2⟩ := hx
  refine b_X8_standsFast_13 ?_
  exact rm_ok rfl rfl ((thr g).tr (hf1.m.tr hf2.m51))
/-- biggest -/
def bigF (K : tK) : Nat → Int × Int
  | 0 => (0, -9)
  | k + 1 => if mag (su K (k + 1) - su K k) ≤ mag (bigF K k).1 then bigF K k else (su K (k + 1) - su K k, (k : Int))
theorem bigF_le {K : tK} {k : Nat} (h : mag (su K (k + 1) - su K k) ≤ mag (bigF K k).1) : bigF K (k + 1) = bigF K k := if_pos h
theorem bigF_gt {K : tK} {k : Nat} (h : ¬ mag (su K (k + 1) - su K k) ≤ mag (bigF K k).1) : bigF K (k + 1) = (su K (k + 1) - su K k, (k : Int)) := if_neg h
theorem bigF_bd {K : tK} (hK : KOK K) : ∀ k, k ≤ nC K → -144 ≤ (bigF K k).1 ∧ (bigF K k).1 ≤ 144 := by
  intro k
  induction k with
  | zero => intro _; exact ⟨(by decide : (-144 : Int) ≤ 0), (by decide : (0 : Int) ≤ 144)⟩
  | succ k ih =>
    intro hk
    have h1 := su_bd hK hk
    have h2 := su_bd hK (k := k) (by omega)
    by_cases h : mag (su K (k + 1) - su K k) ≤ mag (bigF K k).1
    · rw [bigF_le h]; exact ih (by omega)
    · rw [bigF_gt h]; dsimp only; omega
theorem zabs_mag {x : Int} (h : -2147483648 < x ∧ x < 2147483648) : zabs x = mag x := by
  unfold zabs mag
  by_cases h0 : x < 0
  · rw [if_neg (by omega), if_pos h0, w32_of (by omega) (by omega)]; omega
  · rw [if_pos (by omega), if_neg h0]
theorem x_biggest {d : Nat} {g : pG} {K : tK} {w : Int} (hd : 8 ≤ d) (hK : KOK K) (hu : SU g 1 K) : CT d mX7_biggest [vR 0, vI w] g (QX g (aH (rW w 1) (sel w (bigF K (nC K)).2 (bigF K (nC K)).1)) (rW w 1)) := by
  refine ct_in (L := [vR 0, vI w, vX 2, vX 2, vX 2, vX 2, vX 2]) (by omega) (Nat.le_of_ble_eq_true rfl) rfl (fun e he => ?_)
  have h7 := hK.1
  have r2 := rW_cases w 1
  have loop : ∀ g1, PT g1 27 (nP K) (ptC K) → xfr g g1 → rW w 1 = 0 → EV e mX7_biggest (QX g (aH (rW w 1) (sel w (bigF K (nC K)).2 (bigF K (nC K)).1)) (rW w 1)) 29 [vR 0, vI w, vI 0, vI (-9), vI 0, vX 2, vX 2] [] g1 := by
    intro g1 hp1 hf1 hr0
    refine loopN (P := fun k g' => PT g' 27 (nP K) (downF K k (ptC K)) ∧ xfr g g') (nC K) (fun k g' => ∀ (v2 v3 w4 : Int) (u u2 : pV), v2 = (bigF K k).1 → v3 = (bigF K k).2 → w4 = k → EV e mX7_biggest _ 29 [vR 0, vI w, vI v2, vI v3, vI w4, u, u2] [] g') ?_ ?_ 0 g1 (Nat.zero_le _) ⟨hp1, hf1⟩ _ _ _ _ _ rfl rfl rfl
    · rintro k g2 hk ⟨hp2, hf2⟩ ih v2 v3 w4 u u2 hv2 hv3 rfl
      have hu2 := hu.x hf2
      have hm := hu2.1
      have hb := bigF_bd hK k (by omega)
      have s1 := su_bd hK (k := k) (by omega)
      have s2 := su_bd hK (k := k + 1) (by omega)
      have ez : w32 (su K (k + 1) - su K k) = su K (k + 1) - su K k := w32_of (by omega) (by omega)
      have za := zabs_mag (x := su K (k + 1) - su K k) (by omega)
      have zb := zabs_mag (x := v2) (by omega)
      refine b_X7_biggest_29 (fun c => absurd c (by omega)) (fun c => ?_)
      refine b_X7_biggest_41 (s_sum (by omega) pts_27 hp2) (fun x g3 hx => ?_)
      obtain ⟨hx0, rfl⟩ := hx
      have hx0 : x = su K k := hx0
      subst hx0
      refine b_X7_biggest_48 (s_hear (by omega) pts_27 hK hu2 hp2 hk) (fun g4 hx => ?_)
      obtain ⟨hp3, hf3⟩ := hx
      refine b_X7_biggest_63 (s_sum (by omega) pts_27 hp3) (fun x g5 hx => ?_)
      obtain ⟨hx0, rfl⟩ := hx
      have hx0 : x = su K (k + 1) := hx0
      subst hx0
      refine b_X7_biggest_70 (fun c => ?_) (fun c => ?_)
      · rw [ez, za, zb, hv2] at c
        refine b_X7_biggest_93 ?_
        exact ih _ ⟨hp3, hf2.tr (hf3.x scr27)⟩ _ _ _ _ _ (by rw [bigF_le c]; exact hv2) (by rw [bigF_le c]; exact hv3) (by rw [w32_of (by omega) (by omega)]; omega)
      · rw [ez, za, zb, hv2] at c
        refine b_X7_biggest_87 ?_
        rw [ez]
        exact ih _ ⟨hp3, hf2.tr (hf3.x scr27)⟩ _ _ _ _ _ (by rw [bigF_gt c]) (by rw [bigF_gt c]) (by rw [w32_of (by omega) (by omega)]; omega)
    · rintro g2 ⟨hp2, hf2⟩ v2 v3 w4 u u2 hv2 hv3 rfl
      have hm := (hu.x hf2).1
      refine b_X7_biggest_29 (fun c29 => ?_) (fun c29 => ?_)
      · refine b_X7_biggest_99 (fun c99 => ?_) (fun c99 => ?_)
        · refine b_X7_biggest_107 ?_
          exact rx_ok hr0 (aH_0 hr0 (sel1 (by omega) hv2.symm)) hf2
        · refine b_X7_biggest_103 ?_
          exact rx_ok hr0 (aH_0 hr0 (sel0 (by omega) hv3.symm)) hf2
      · exfalso
        omega
  refine b_X7_biggest_0 (fun c0 => ?_) (fun c0 => ?_)
  · refine b_X7_biggest_9 (s_refuseHigh (by omega) ref2) (fun x1 _ hx => ?_)
    obtain ⟨rfl, rfl⟩ := hx
    refine b_X7_biggest_15 ?_
    exact rx_no (by omega) (aH_n (m := -2) (by omega) (by omega) rfl)
  · refine b_X7_biggest_4 (fun c4 => ?_) (fun c4 => ?_)
    · refine b_X7_biggest_16 (s_goDownTo0 (by omega) hK hu) (fun g1 hx => ?_)
      obtain ⟨hp1, hf1⟩ := hx
      refine b_X7_biggest_26 ?_
      exact loop g1 hp1 (hf1.x scr27) (by omega)
    · refine b_X7_biggest_9 (s_refuseHigh (by omega) ref2) (fun x2 _ hx => ?_)
      obtain ⟨rfl, rfl⟩ := hx
      refine b_X7_biggest_15 ?_
      exact rx_no (by omega) (aH_n (m := -2) (by omega) (by omega) rfl)
theorem m_biggest {d : Nat} {g : pG} {K : tK} {w : Int} (hd : 11 ≤ d) (hK : KOK K) (hu : SM g K) : CT d mX8_biggest [vR 45, vI w] g (QM g (aH (rW w 1) (sel w (bigF K (nC K)).2 (bigF K (nC K)).1)) (rW w 1)) := by
  refine ct_in (L := [vR 45, vI w, vX 2, vX 2, vX 2, vX 2, vX 2]) (by omega) (Nat.le_of_ble_eq_true rfl) rfl (fun e he => ?_)
  have h7 := hK.1
  have r2 := rW_cases w 1
  have b1 := bi_cases (0 ≤ w ∧ w ≤ 1)
  have hu0 := hu.m (thr g)
  have loop : ∀ g1, NW g1 (nP K) (ptC K) → mfr g g1 → rW w 1 = 0 → EV e mX8_biggest (QM g (aH (rW w 1) (sel w (bigF K (nC K)).2 (bigF K (nC K)).1)) (rW w 1)) 37 [vR 45, vI w, vI (-9), vI 0, vI 0, vX 2, vX 2] [] g1 := by
    intro g1 hp1 hf1 hr0
    refine loopN (P := fun k g' => NW g' (nP K) (downF K k (ptC K)) ∧ mfr g g') (nC K) (fun k g' => ∀ (v2 v3 w4 : Int) (u u2 : pV), v2 = (bigF K k).2 → v3 = (bigF K k).1 → w4 = k → EV e mX8_biggest _ 37 [vR 45, vI w, vI v2, vI v3, vI w4, u, u2] [] g') ?_ ?_ 0 g1 (Nat.zero_le _) ⟨hp1, hf1⟩ _ _ _ _ _ rfl rfl rfl
    · rintro k g2 hk ⟨hp2, hf2⟩ ih v2 v3 w4 u u2 hv2 hv3 rfl
      have hu2 := hu.m hf2
      have hm := hu2.1
      have hb := bigF_bd hK k (by omega)
      have s1 := su_bd hK (k := k) (by omega)
      have s2 := su_bd hK (k := k + 1) (by omega)
      have ez : w32 (su K (k + 1) - su K k) = su K (k + 1) - su K k := w32_of (by omega) (by omega)
      refine b_X8_biggest_37 (fun c => absurd c (by omega)) (fun c => ?_)
      refine b_X8_biggest_46 (m_sumNow (by omega) hp2) (fun x g3 hx => ?_)
      obtain ⟨hx0, rfl⟩ := hx
      have hx0 : x = su K k := hx0
      subst hx0
      refine b_X8_biggest_50 (m_pass (by omega) hK hu2 hp2 hk) (fun g4 hx => ?_)
      obtain ⟨hp3, hf3⟩ := hx
      refine b_X8_biggest_58 (m_sumNow (by omega) hp3) (fun x g5 hx => ?_)
      obtain ⟨hx0, rfl⟩ := hx
      have hx0 : x = su K (k + 1) := hx0
      subst hx0
      have hD := hf2.tr hf3.m51
      refine b_X8_biggest_62 (by rw [ez]; exact m_plainly (by omega) (by omega)) (fun x g6 hx => ?_)
      obtain ⟨rfl, rfl⟩ := hx
      rw [ez]
      refine b_X8_biggest_72 (m_plainly (by omega) (by omega)) (fun x g7 hx => ?_)
      obtain ⟨rfl, rfl⟩ := hx
      refine b_X8_biggest_76 (fun c => ?_) (fun c => ?_)
      · rw [hv3] at c
        refine b_X8_biggest_84 (m_plainly (by omega) (by omega)) (fun x0 _ hx => ?_)
        obtain ⟨rfl, rfl⟩ := hx
        refine b_X8_biggest_91 (m_plainly (by omega) (by omega)) (fun x1 _ hx => ?_)
        obtain ⟨rfl, rfl⟩ := hx
        refine b_X8_biggest_95 (fun c95 => ?_) (fun c95 => ?_)
        · refine b_X8_biggest_103 ?_
          exact ih _ ⟨hp3, hD⟩ _ _ _ _ _ (by rw [bigF_le c]; exact hv2) (by rw [bigF_le c]; exact hv3) (by rw [w32_of (by omega) (by omega)]; omega)
        · rw [hv3] at c95
          exact absurd c c95
      · rw [hv3] at c
        refine b_X8_biggest_79 (m_plainly (by omega) (by omega)) (fun x0 _ hx => ?_)
        obtain ⟨rfl, rfl⟩ := hx
        refine b_X8_biggest_91 (m_plainly (by omega) (by omega)) (fun x1 _ hx => ?_)
        obtain ⟨rfl, rfl⟩ := hx
        refine b_X8_biggest_95 (fun c95 => ?_) (fun c95 => ?_)
        · rw [hv3] at c95
          exact absurd c95 c
        · refine b_X8_biggest_98 ?_
          exact ih _ ⟨hp3, hD⟩ _ _ _ _ _ (by rw [bigF_gt c]) (by rw [bigF_gt c]) (by rw [w32_of (by omega) (by omega)]; omega)
    · rintro g2 ⟨hp2, hf2⟩ v2 v3 w4 u u2 hv2 hv3 rfl
      have hm := (hu.m hf2).1
      refine b_X8_biggest_37 (fun c37 => ?_) (fun c37 => ?_)
      · refine b_X8_biggest_111 (fun c111 => ?_) (fun c111 => ?_)
        · refine b_X8_biggest_119 ?_
          exact rm_ok hr0 (aH_0 hr0 (sel1 (by omega) hv3.symm)) hf2
        · refine b_X8_biggest_115 ?_
          exact rm_ok hr0 (aH_0 hr0 (sel0 (by omega) hv2.symm)) hf2
      · exfalso
        omega
  refine b_X8_biggest_0 (m_in (by omega)) (fun x0 _ hx => ?_)
  obtain ⟨rfl, rfl⟩ := hx
  refine b_X8_biggest_12 (fun c12 => ?_) (fun c12 => ?_)
  · refine b_X8_biggest_25 (m_think (by omega) hK hu0) (fun g1 hx => ?_)
    obtain ⟨hp1, h81, hf1⟩ := hx
    refine b_X8_biggest_34 ?_
    exact loop g1 hp1 ((thr g).tr hf1.m) (by omega)
  · refine b_X8_biggest_15 (m_refuse (by omega) ref2) (fun x2 _ hx => ?_)
    obtain ⟨rfl, rfl⟩ := hx
    refine b_X8_biggest_23 ?_
    try simp (disch := omega) only [w32_of, Int.toNat_natCast, tn0, tn1, tn2]
    exact rm_no (thr g) (by omega) (aH_n (m := -2) (by omega) (by omega) rfl)
