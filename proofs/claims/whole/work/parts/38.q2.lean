theorem hasN {n : Nat} {v : Int} (h : 0 ≤ v) : ((v.toNat : Nat) : Int) = v := Int.toNat_of_nonneg h
theorem s_costsV {d : Nat} {g : pG} {K : tK} {v : Int} (hd : 1 ≤ d) (hK : KOK K) (hu : SU g 1 K) (hv : 0 ≤ v ∧ v ≤ nC K) : CT d mX5_costsBetween [vR 1, vI 0, vI v] g (qI (fun x g' => x = psumB (csC K) 0 v.toNat ∧ g' = g)) := by
  obtain ⟨n, rfl⟩ := Int.eq_ofNat_of_zero_le hv.1
  have h := s_costsB (d := d) (a := 0) (m := n) hd hK hu (by omega)
  rw [Nat.zero_add] at h
  exact h
theorem s_goDownToV {d : Nat} {g : pG} {K : tK} {v : Int} (hd : 6 ≤ d) (hK : KOK K) (hu : SU g 1 K) (hv : 0 ≤ v ∧ v ≤ nC K) : CT d mX7_goDownTo [vR 0, vI v] g (qV (fun g' => PT g' 27 (nP K) (downF K v.toNat (ptC K)) ∧ fr2 g g' 27)) := by
  obtain ⟨n, rfl⟩ := Int.eq_ofNat_of_zero_le hv.1
  exact s_goDownTo hd hK hu (by omega)
theorem refW {v lo hi : Int} (h : wrN v lo hi ≠ 0) : isRef (wrN v lo hi) := by
  have := wrN_cases v lo hi
  unfold isRef
  omega
/-- costs -/
theorem x_costs {d : Nat} {g : pG} {K : tK} {v : Int} (hd : 8 ≤ d) (hK : KOK K) (hu : SU g 1 K) : CT d mX7_costs [vR 0, vI v] g (QX g (aR (wrN v 0 (nC K)) (psumB (csC K) 0 v.toNat)) (wrN v 0 (nC K))) := by
  refine ct_in (L := [vR 0, vI v, vX 2]) (by omega) (Nat.le_of_ble_eq_true rfl) rfl (fun e he => ?_)
  have h7 := hK.1
  have hm := hu.1
  have r1 := wrN_cases v 0 (nC K)
  refine b_X7_costs_0 (by rw [hm]; exact s_outside (by omega)) (fun x0 _ hx => ?_)
  obtain ⟨rfl, rfl⟩ := hx
  refine b_X7_costs_12 (fun c12 => ?_) (fun c12 => ?_)
  · refine b_X7_costs_25 (s_costsV (by omega) hK hu (by omega)) (fun x2 _ hx => ?_)
    obtain ⟨rfl, rfl⟩ := hx
    refine b_X7_costs_34 ?_
    exact rx_ok c12 (aR_0 c12 rfl) xfr.rf
  · refine b_X7_costs_17 (s_refuse (by omega) (refW c12)) (fun x2 _ hx => ?_)
    obtain ⟨rfl, rfl⟩ := hx
    refine b_X7_costs_22 ?_
    exact rx_no rfl (aR_n rfl c12)
theorem m_costs {d : Nat} {g : pG} {K : tK} {v : Int} (hd : 11 ≤ d) (hK : KOK K) (hu : SM g K) : CT d mX8_costs [vR 45, vI v] g (QM g (aR (wrN v 0 (nC K)) (psumB (csC K) 0 v.toNat)) (wrN v 0 (nC K))) := by
  refine ct_in (L := [vR 45, vI v, vX 2, vX 2]) (by omega) (Nat.le_of_ble_eq_true rfl) rfl (fun e he => ?_)
  have h7 := hK.1
  have hu0 := hu.m (thr g)
  have hm := hu0.1
  have hm2 : fup (g 45) 8 0 0 = nC K := by rw [← hm, cset_self]
  have r1 := wrN_cases v 0 (nC K)
  have loop : 0 ≤ v → v ≤ nC K → EV e mX8_costs (QM g (aR (wrN v 0 (nC K)) (psumB (csC K) 0 v.toNat)) (wrN v 0 (nC K))) 35 [vR 45, vI v, vI 0, vI 0] [] (cset g 45 (fup (g 45) 8 0)) := by
    intro h0 h1
    obtain ⟨n, rfl⟩ := Int.eq_ofNat_of_zero_le h0
    rw [Int.toNat_natCast]
    refine loopN (P := fun _ g' => g' = cset g 45 (fup (g 45) 8 0)) n (fun k g' => ∀ (v2 w : Int), v2 = psumB (csC K) 0 k → w = k → EV e mX8_costs _ 35 [vR 45, vI n, vI v2, vI w] [] g') ?_ ?_ 0 _ (Nat.zero_le _) rfl _ _ rfl rfl
    · rintro k _ hk rfl ih v2 w hv2 rfl
      have hb := psumB_bd (f := csC K) (a := 0) (m := n) (B := 99) (fun j _ hj => (hK.2.1 j (by omega)).2.2) k (by omega)
      have hb2 := (hK.2.1 k (by omega)).2.2
      have e2 := (hu0.2.1 k (by omega)).2.2
      refine b_X8_costs_35 (fun c35 => ?_) (fun c35 => ?_)
      · exfalso
        omega
      · refine b_X8_costs_40 (by omega) (by omega) ?_
        try simp (disch := omega) only [w32_of, Int.toNat_natCast, tn0, tn1, tn2, e2]
        exact ih _ rfl _ _ (by unfold psumB; rw [Nat.zero_add]; omega) (by omega)
    · rintro _ rfl v2 w hv2 rfl
      refine b_X8_costs_35 (fun c35 => ?_) (fun c35 => ?_)
      · refine b_X8_costs_55 ?_
        exact rm_ok (by omega) (aR_0 (by omega) hv2.symm) (thr g)
      · exfalso
        omega
  refine b_X8_costs_0 (by rw [hm2]; exact m_wrongNumber (by omega)) (fun x0 _ hx => ?_)
  obtain ⟨rfl, rfl⟩ := hx
  refine b_X8_costs_14 (fun c14 => ?_) (fun c14 => ?_)
  · refine b_X8_costs_31 ?_
    exact loop (by omega) (by omega)
  · refine b_X8_costs_17 (by rw [hm]; exact m_wrongNumber (by omega)) (fun x2 _ hx => ?_)
    obtain ⟨rfl, rfl⟩ := hx
    refine b_X8_costs_27 (m_refuse (by omega) (refW (by omega))) (fun x3 _ hx => ?_)
    obtain ⟨rfl, rfl⟩ := hx
    refine b_X8_costs_30 ?_
    exact rm_no (thr g) rfl (aR_n rfl (by omega))
/-- the first k of which p holds, or -9 -/
def ff (p : Nat → Prop) [DecidablePred p] (n : Nat) : Int := if lfind p n < n then (lfind p n : Int) else -9
theorem ff_none {p : Nat → Prop} [DecidablePred p] {n : Nat} (h : ∀ j, j < n → ¬ p j) : ff p n = -9 := by
  unfold ff; rw [lfind_none n h, if_neg (by omega)]
theorem ff_hit {p : Nat → Prop} [DecidablePred p] {k n : Nat} (h : ∀ j, j < k → ¬ p j) (hp : p k) (hk : k < n) : ff p n = k := by
  unfold ff; rw [lfind_hit h hp n hk, if_pos hk]
theorem lfind_le {p : Nat → Prop} [DecidablePred p] : ∀ n, lfind p n ≤ n := by
  intro n
  induction n with
  | zero => exact Nat.le_refl _
  | succ n ih => unfold lfind; split <;> (try split) <;> omega
theorem ff_zero {p : Nat → Prop} [DecidablePred p] : ff p 0 = -9 := rfl
theorem ff_cases {p : Nat → Prop} [DecidablePred p] (n : Nat) : (ff p n = -9 ∧ lfind p n = n) ∨ (0 ≤ ff p n ∧ ff p n < n ∧ lfind p n < n) := by
  have := lfind_le (p := p) n
  unfold ff; split
  · right; omega
  · left; omega
theorem ff_go {p : Nat → Prop} [DecidablePred p] {n : Nat} (h : 0 ≤ ff p n) : ff p (n + 1) = ff p n := by
  have hc := ff_cases (p := p) n
  have e : lfind p (n + 1) = lfind p n := by
    show (if lfind p n < n then lfind p n else _) = _
    rw [if_pos (by omega)]
  unfold ff
  rw [e, if_pos (by omega), if_pos (by omega)]
theorem ff_new {p : Nat → Prop} [DecidablePred p] {n : Nat} (h : ff p n < 0) (hp : p n) : ff p (n + 1) = n := by
  have hc := ff_cases (p := p) n
  have e : lfind p (n + 1) = n := by
    show (if lfind p n < n then lfind p n else if p n then n else n + 1) = _
    rw [if_neg (by omega), if_pos hp]
  unfold ff
  rw [e, if_pos (by omega)]
theorem ff_not {p : Nat → Prop} [DecidablePred p] {n : Nat} (h : ff p n < 0) (hp : ¬ p n) : ff p (n + 1) = -9 := by
  have hc := ff_cases (p := p) n
  have e : lfind p (n + 1) = n + 1 := by
    show (if lfind p n < n then lfind p n else if p n then n else n + 1) = _
    rw [if_neg (by omega), if_neg hp]
  unfold ff
  rw [e, if_neg (by omega)]
/-- up -/
abbrev upP (K : tK) (k : Nat) : Prop := kdC K k = 3 ∧ lnC K < pnz (downF K k (ptC K)) (nP K)
theorem x_up {d : Nat} {g : pG} {K : tK} (hd : 8 ≤ d) (hK : KOK K) (hu : SU g 1 K) : CT d mX7_up [vR 0] g (QX g (ff (upP K) (nC K)) 0) := by
  refine ct_in (L := [vR 0, vX 2]) (by omega) (Nat.le_of_ble_eq_true rfl) rfl (fun e he => ?_)
  have h7 := hK.1
  refine b_X7_up_0 (s_goDownTo0 (by omega) hK hu) (fun g1 hx => ?_)
  obtain ⟨hp1, hf1⟩ := hx
  refine b_X7_up_5 ?_
  refine loopN (P := fun k g' => PT g' 27 (nP K) (downF K k (ptC K)) ∧ xfr g g' ∧ ∀ j, j < k → ¬ upP K j) (nC K) (fun k g' => ∀ w : Int, w = k → EV e mX7_up _ 7 [vR 0, vI w] [] g') ?_ ?_ 0 g1 (Nat.zero_le _) ⟨hp1, hf1.x scr27, fun j hj => absurd hj (by omega)⟩ _ rfl
  · rintro k g2 hk ⟨hp2, hf2, hall⟩ ih w rfl
    have hu2 := hu.x hf2
    have hm := hu2.1
    have hl : g2 1 6 = lnC K := hu2.2.2.2.2.2
    refine b_X7_up_7 (fun c7 => ?_) (fun c7 => ?_)
    · exfalso
      omega
    · refine b_X7_up_18 (s_sendsBack (by omega) pts_27 hK hu2 hp2 hk) (fun x1 _ hx => ?_)
      obtain ⟨hx0, rfl⟩ := hx
      refine b_X7_up_37 (fun c37 => ?_) (fun c37 => ?_)
      · refine b_X7_up_42 (s_hear (by omega) pts_27 hK hu2 hp2 hk) (fun g3 hx => ?_)
        obtain ⟨hp3, hf3⟩ := hx
        refine b_X7_up_54 ?_
        try simp (disch := omega) only [w32_of, Int.toNat_natCast, tn0, tn1, tn2]
        have hx : ¬ upP K k := (by rw [hl] at hx0; rw [hx0] at c37; exact bi_eq0 c37)
        exact ih _ ⟨hp3, hf2.tr (hf3.x scr27), fun j hj => if h : j = k then h ▸ hx else hall j (by omega)⟩ _ (by omega)
      · refine b_X7_up_40 ?_
        have hx : upP K k := (by rw [hl] at hx0; rw [hx0] at c37; exact bi_ne0 c37)
        exact rx_ok rfl (ff_hit hall hx hk) hf2
  · rintro g2 ⟨hp2, hf2, hall⟩ w rfl
    have hm := (hu.x hf2).1
    refine b_X7_up_7 (fun c7 => ?_) (fun c7 => ?_)
    · refine b_X7_up_60 ?_
      exact rx_ok rfl (ff_none hall) hf2
    · exfalso
      omega
theorem m_up {d : Nat} {g : pG} {K : tK} (hd : 11 ≤ d) (hK : KOK K) (hu : SM g K) : CT d mX8_up [vR 45] g (QM g (ff (upP K) (nC K)) 0) := by
  refine ct_in (L := [vR 45, vX 2, vX 2]) (by omega) (Nat.le_of_ble_eq_true rfl) rfl (fun e he => ?_)
  have h7 := hK.1
  have hu0 := hu.m (thr g)
  refine b_X8_up_0 (m_think (by omega) hK hu0) (fun g1 hx => ?_)
  obtain ⟨hp1, h81, hf1⟩ := hx
  refine b_X8_up_12 ?_
  refine loopN (P := fun k g' => NW g' (nP K) (downF K k (ptC K)) ∧ mfr g g') (nC K) (fun k g' => ∀ (v1 w : Int), v1 = ff (upP K) k → w = k → EV e mX8_up _ 14 [vR 45, vI v1, vI w] [] g') ?_ ?_ 0 g1 (Nat.zero_le _) ⟨hp1, (thr g).tr hf1.m⟩ _ _ rfl rfl
  · rintro k g2 hk ⟨hp2, hf2⟩ ih v1 w hv1 rfl
    have hu2 := hu.m hf2
    have hm := hu2.1
    refine b_X8_up_14 (fun c14 => ?_) (fun c14 => ?_)
    · exfalso
      omega
    · refine b_X8_up_22 (fun c22 => ?_) (fun c22 => ?_)
      · refine b_X8_up_38 (m_pass (by omega) hK hu2 hp2 hk) (fun g3 hx => ?_)
        obtain ⟨hp3, hf3⟩ := hx
        refine b_X8_up_45 ?_
        try simp (disch := omega) only [w32_of, Int.toNat_natCast, tn0, tn1, tn2]
        first | exact ih _ ⟨hp3, hf2.tr hf3.m51⟩ _ _ (by rw [hv1, ff_go (by omega)]) (by omega) | exact ih _ ⟨hp3, hf2.tr hf3.m51⟩ _ _ (by rw [hx0] at c31; have hx : upP K k := bi_ne0 c31; rw [ff_new (by omega) hx]) (by omega) | exact ih _ ⟨hp3, hf2.tr hf3.m51⟩ _ _ (by rw [hx0] at c31; have hx : ¬ upP K k := bi_eq0 c31; have := ff_cases (p := upP K) k; rw [ff_not (by omega) hx]; omega) (by omega)
      · refine b_X8_up_26 (m_sendsBack (by omega) hK hu2 hp2 hk) (fun x2 _ hx => ?_)
        obtain ⟨hx0, rfl⟩ := hx
        refine b_X8_up_31 (fun c31 => ?_) (fun c31 => ?_)
        · refine b_X8_up_38 (m_pass (by omega) hK hu2 hp2 hk) (fun g3 hx => ?_)
          obtain ⟨hp3, hf3⟩ := hx
          refine b_X8_up_45 ?_
          try simp (disch := omega) only [w32_of, Int.toNat_natCast, tn0, tn1, tn2]
          first | exact ih _ ⟨hp3, hf2.tr hf3.m51⟩ _ _ (by rw [hv1, ff_go (by omega)]) (by omega) | exact ih _ ⟨hp3, hf2.tr hf3.m51⟩ _ _ (by rw [hx0] at c31; have hx : upP K k := bi_ne0 c31; rw [ff_new (by omega) hx]) (by omega) | exact ih _ ⟨hp3, hf2.tr hf3.m51⟩ _ _ (by rw [hx0] at c31; have hx : ¬ upP K k := bi_eq0 c31; have := ff_cases (p := upP K) k; rw [ff_not (by omega) hx]; omega) (by omega)
        · refine b_X8_up_34 (m_pass (by omega) hK hu2 hp2 hk) (fun g3 hx => ?_)
          obtain ⟨hp3, hf3⟩ := hx
          refine b_X8_up_45 ?_
          try simp (disch := omega) only [w32_of, Int.toNat_natCast, tn0, tn1, tn2]
          first | exact ih _ ⟨hp3, hf2.tr hf3.m51⟩ _ _ (by rw [hv1, ff_go (by omega)]) (by omega) | exact ih _ ⟨hp3, hf2.tr hf3.m51⟩ _ _ (by rw [hx0] at c31; have hx : upP K k := bi_ne0 c31; rw [ff_new (by omega) hx]) (by omega) | exact ih _ ⟨hp3, hf2.tr hf3.m51⟩ _ _ (by rw [hx0] at c31; have hx : ¬ upP K k := bi_eq0 c31; have := ff_cases (p := upP K) k; rw [ff_not (by omega) hx]; omega) (by omega)
  · rintro g2 ⟨hp2, hf2⟩ v1 w hv1 rfl
    have hm := (hu.m hf2).1
    refine b_X8_up_14 (fun c14 => ?_) (fun c14 => ?_)
    · refine b_X8_up_51 ?_
      exact rm_ok rfl hv1.symm hf2
    · exfalso
      omega
/-- down -/
def rDown (K : tK) (k w : Int) : Int := if wrN k 0 (nC K) = 0 ∧ ¬ ((0 ≤ w ∧ w ≤ 9) ∧ ¬ ((nP K : Int) ≤ w ∧ w ≤ 7)) then -2 else wrN k 0 (nC K)
theorem rDown_cases (K : tK) (k w : Int) : (wrN k 0 (nC K) ≠ 0 ∧ rDown K k w = wrN k 0 (nC K)) ∨ (wrN k 0 (nC K) = 0 ∧ ¬ ((0 ≤ w ∧ w ≤ 9) ∧ ¬ ((nP K : Int) ≤ w ∧ w ≤ 7)) ∧ rDown K k w = -2) ∨ (wrN k 0 (nC K) = 0 ∧ ((0 ≤ w ∧ w ≤ 9) ∧ ¬ ((nP K : Int) ≤ w ∧ w ≤ 7)) ∧ rDown K k w = 0) := by
  unfold rDown; split <;> omega
def aDown (K : tK) (k w : Int) : Int := if w < 8 then downF K k.toNat (ptC K) w.toNat else if w = 8 then su K k.toNat else fo K k.toNat
theorem aDown_lt {K : tK} {k w : Int} (h : w < 8) : aDown K k w = downF K k.toNat (ptC K) w.toNat := if_pos h
theorem aDown_8 {K : tK} {k w : Int} (h : w = 8) : aDown K k w = su K k.toNat := by unfold aDown; rw [if_neg (by omega), if_pos h]
theorem aDown_9 {K : tK} {k w : Int} (h : 8 < w) : aDown K k w = fo K k.toNat := by unfold aDown; rw [if_neg (by omega), if_neg (by omega)]
theorem s_numberV {d t N : Nat} {g : pG} {f : tF} {v : Int} (hd : 2 ≤ d) (ht : isPts t) (hp : PT g t N f) (hv : 0 ≤ v ∧ v < N) : CT d mX3_number [vR t, vI v] g (qI (fun x g' => x = f v.toNat ∧ g' = g)) := by
  obtain ⟨n, rfl⟩ := Int.eq_ofNat_of_zero_le hv.1
  exact s_number hd ht hp (by omega)
theorem x_down {d : Nat} {g : pG} {K : tK} {k w : Int} (hd : 8 ≤ d) (hK : KOK K) (hu : SU g 1 K) : CT d mX7_down [vR 0, vI k, vI w] g (QX g (aH (rDown K k w) (aDown K k w)) (rDown K k w)) := by
  refine ct_in (L := [vR 0, vI k, vI w, vX 2]) (by omega) (Nat.le_of_ble_eq_true rfl) rfl (fun e he => ?_)
  have h7 := hK.1
  have hm := hu.1
  have hN := hK.2.2.1
  have r1 := wrN_cases k 0 (nC K)
  have r2 := rDown_cases K k w
  have b1 := bi_cases (0 ≤ w ∧ w < nP K)
  refine b_X7_down_0 (by rw [hm]; exact s_outside (by omega)) (fun x0 _ hx => ?_)
  obtain ⟨rfl, rfl⟩ := hx
  refine b_X7_down_12 (fun c12 => ?_) (fun c12 => ?_)
  · refine b_X7_down_23 (fun c23 => ?_) (fun c23 => ?_)
    · refine b_X7_down_53 (s_refuseHigh (by omega) ref2) (fun x3 _ hx => ?_)
      obtain ⟨rfl, rfl⟩ := hx
      refine b_X7_down_59 ?_
      exact rx_no (by omega) (aH_n (m := -2) (by omega) (by omega) rfl)
    · refine b_X7_down_27 (fun c27 => ?_) (fun c27 => ?_)
      · refine b_X7_down_53 (s_refuseHigh (by omega) ref2) (fun x4 _ hx => ?_)
        obtain ⟨rfl, rfl⟩ := hx
        refine b_X7_down_59 ?_
        exact rx_no (by omega) (aH_n (m := -2) (by omega) (by omega) rfl)
      · refine b_X7_down_33 (fun c33 => ?_) (fun c33 => ?_)
        · refine b_X7_down_60 (s_goDownToV (by omega) hK hu (by omega)) (fun g1 hx => ?_)
          obtain ⟨hp1, hf1⟩ := hx
          refine b_X7_down_65 (fun c65 => ?_) (fun c65 => ?_)
          · refine b_X7_down_82 (fun c82 => ?_) (fun c82 => ?_)
            · refine b_X7_down_98 (s_numberV (by omega) pts_27 hp1 (by omega)) (fun x8 _ hx => ?_)
              obtain ⟨rfl, rfl⟩ := hx
              refine b_X7_down_106 ?_
              exact rx_ok (by omega) (aH_0 (by omega) (aDown_lt (by omega))) (hf1.x scr27)
            · refine b_X7_down_88 (s_sum (by omega) pts_27 hp1) (fun x8 _ hx => ?_)
              obtain ⟨rfl, rfl⟩ := hx
              refine b_X7_down_95 ?_
              exact rx_ok (by omega) (aH_0 (by omega) (aDown_8 (by omega))) (hf1.x scr27)
          · refine b_X7_down_71 (s_isFor (by omega) pts_27 hp1) (fun x7 _ hx => ?_)
            obtain ⟨rfl, rfl⟩ := hx
            refine b_X7_down_78 (s_bit (by omega) (bi_01 _)) (fun x8 _ hx => ?_)
            obtain ⟨rfl, rfl⟩ := hx
            refine b_X7_down_81 ?_
            exact rx_ok (by omega) (aH_0 (by omega) (aDown_9 (by omega))) (hf1.x scr27)
        · refine b_X7_down_39 (s_hasW (by omega) pts_5 hu.2.2.1) (fun x5 _ hx => ?_)
          obtain ⟨rfl, rfl⟩ := hx
          refine b_X7_down_50 (fun c50 => ?_) (fun c50 => ?_)
          · refine b_X7_down_60 (s_goDownToV (by omega) hK hu (by omega)) (fun g1 hx => ?_)
            obtain ⟨hp1, hf1⟩ := hx
            refine b_X7_down_65 (fun c65 => ?_) (fun c65 => ?_)
            · refine b_X7_down_82 (fun c82 => ?_) (fun c82 => ?_)
              · refine b_X7_down_98 (s_numberV (by omega) pts_27 hp1 (by omega)) (fun x10 _ hx => ?_)
                obtain ⟨rfl, rfl⟩ := hx
                refine b_X7_down_106 ?_
                exact rx_ok (by omega) (aH_0 (by omega) (aDown_lt (by omega))) (hf1.x scr27)
              · refine b_X7_down_88 (s_sum (by omega) pts_27 hp1) (fun x10 _ hx => ?_)
                obtain ⟨rfl, rfl⟩ := hx
                refine b_X7_down_95 ?_
                exact rx_ok (by omega) (aH_0 (by omega) (aDown_8 (by omega))) (hf1.x scr27)
            · refine b_X7_down_71 (s_isFor (by omega) pts_27 hp1) (fun x9 _ hx => ?_)
              obtain ⟨rfl, rfl⟩ := hx
              refine b_X7_down_78 (s_bit (by omega) (bi_01 _)) (fun x10 _ hx => ?_)
              obtain ⟨rfl, rfl⟩ := hx
              refine b_X7_down_81 ?_
              exact rx_ok (by omega) (aH_0 (by omega) (aDown_9 (by omega))) (hf1.x scr27)
          · refine b_X7_down_53 (s_refuseHigh (by omega) ref2) (fun x7 _ hx => ?_)
            obtain ⟨rfl, rfl⟩ := hx
            refine b_X7_down_59 ?_
            exact rx_no (by omega) (aH_n (m := -2) (by omega) (by omega) rfl)
  · refine b_X7_down_17 (s_refuseHigh (by omega) (refW c12)) (fun x2 _ hx => ?_)
    obtain ⟨rfl, rfl⟩ := hx
    refine b_X7_down_22 ?_
    exact rx_no (by omega) (aH_n (m := wrN k 0 (nC K)) (by omega) c12 rfl)
