def SM (g : pG) (K : tK) : Prop := g 45 0 = nC K ∧ (∀ k, k < nC K → g 46 k = kdC K k ∧ g 47 k = fgC K k ∧ g 48 k = csC K k) ∧ g 45 4 = nP K ∧ (∀ k, k < 8 → g 49 k = ptC K k) ∧ g 45 6 = skC K ∧ g 45 7 = lnC K
def NW (g : pG) (N : Nat) (f : tF) : Prop := g 45 11 = N ∧ 1 ≤ N ∧ N ≤ 8 ∧ (∀ k, k < N → g 51 k = f k) ∧ Bd N f
theorem NW.rd {g : pG} {N : Nat} {f : tF} (h : NW g N f) {k : Nat} (hk : k < N) : g 51 k = f k := h.2.2.2.1 k hk
theorem NW.bd {g : pG} {N : Nat} {f : tF} (h : NW g N f) {k : Nat} (hk : k < N) : -9 ≤ f k ∧ f k ≤ 9 := h.2.2.2.2 k hk
theorem NW.put {g : pG} {N : Nat} {f : tF} (h : NW g N f) {s : Nat} {v : Int} (hv : -9 ≤ v ∧ v ≤ 9) : NW (cset g 51 (fup (g 51) s v)) N (fup f s v) := by
  obtain ⟨h1, h2, h3, h4, h5⟩ := h
  refine ⟨by rw [cset_ne _ _ (by omega)]; exact h1, h2, h3, fun k hk => ?_, h5.put s hv⟩
  rw [cset_self]
  unfold fup
  split
  · rfl
  · exact h4 k hk
/-- think(): how many now, and the numbers -/
def frT (g g' : pG) : Prop := (∀ a, a ≠ 45 → a ≠ 51 → g' a = g a) ∧ ∀ j, j ≠ 11 → g' 45 j = g 45 j
theorem frT.rf {g : pG} : frT g g := ⟨fun _ _ _ => rfl, fun _ _ => rfl⟩
theorem frT.tr {g g1 g2 : pG} (h1 : frT g g1) (h2 : frT g1 g2) : frT g g2 := ⟨fun a ha hb => (h2.1 a ha hb).trans (h1.1 a ha hb), fun j hj => (h2.2 j hj).trans (h1.2 j hj)⟩
theorem fr.toT {g g' : pG} (h : fr g g' 51) : frT g g' := ⟨fun a _ hb => h a hb, fun j _ => by rw [h 45 (by omega)]⟩
theorem SM.frm {g g' : pG} {K : tK} (h : SM g K) (hf : frT g g') : SM g' K := by
  obtain ⟨h1, h2, h3, h4, h5, h6⟩ := h
  refine ⟨by rw [hf.2 0 (by omega)]; exact h1, fun k hk => ?_, by rw [hf.2 4 (by omega)]; exact h3, fun k hk => by rw [hf.1 49 (by omega) (by omega)]; exact h4 k hk, by rw [hf.2 6 (by omega)]; exact h5, by rw [hf.2 7 (by omega)]; exact h6⟩
  rw [hf.1 46 (by omega) (by omega), hf.1 47 (by omega) (by omega), hf.1 48 (by omega) (by omega)]
  exact h2 k hk
theorem lcmp_cases (x z : Int) : (x < z ∧ lcmpZ x z = -1) ∨ (x = z ∧ lcmpZ x z = 0) ∨ (z < x ∧ lcmpZ x z = 1) := by
  unfold lcmpZ
  split
  · left; exact ⟨by assumption, rfl⟩
  · split
    · right; left; exact ⟨by assumption, rfl⟩
    · right; right; exact ⟨by omega, rfl⟩
theorem m_in {d : Nat} {g : pG} {v lo hi : Int} (hd : 1 ≤ d) : CT d mX8_in [vL v, vL lo, vL hi] g (qI (fun x g' => x = bi (lo ≤ v ∧ v ≤ hi) ∧ g' = g)) := by
  refine ct_in (L := [vL v, vX 2, vL lo, vX 2, vL hi, vX 2]) (by omega) (Nat.le_of_ble_eq_true rfl) rfl (fun e he => ?_)
  have a1 := lcmp_cases v lo
  have a2 := lcmp_cases v hi
  refine b_X8_in_0 (fun c0 => ?_) (fun c0 => ?_)
  · refine b_X8_in_17 ?_
    exact ⟨_, rfl, (bi_neg (by omega)).symm, rfl⟩
  · refine b_X8_in_6 (fun c6 => ?_) (fun c6 => ?_)
    · refine b_X8_in_17 ?_
      exact ⟨_, rfl, (bi_neg (by omega)).symm, rfl⟩
    · refine b_X8_in_13 ?_
      exact ⟨_, rfl, (bi_pos ⟨by omega, by omega⟩).symm, rfl⟩
theorem m_isCourt {d : Nat} {g : pG} {K : tK} {v : Int} (hd : 2 ≤ d) (hK : KOK K) (hu : SM g K) : CT d mX8_isCourt [vR 45, vI v] g (qI (fun x g' => x = bi (0 ≤ v ∧ v < nC K) ∧ g' = g)) := by
  refine ct_in (L := [vR 45, vI v]) (by omega) (Nat.le_of_ble_eq_true rfl) rfl (fun e he => ?_)
  have hm := hu.1
  have h7 := hK.1
  have e1 : w32 (g 45 0 - 1) = g 45 0 - 1 := w32_of (by omega) (by omega)
  refine b_X8_isCourt_0 (by rw [e1]; exact m_in (by omega)) (fun x g0 hx => ?_)
  obtain ⟨rfl, rfl⟩ := hx
  refine b_X8_isCourt_13 (bi_01 _) ⟨_, rfl, bi_iff ?_, rfl⟩
  omega
def wrN (v lo hi : Int) : Int := if v < lo then -4 else if hi < v then -6 else 0
theorem wrN_cases (v lo hi : Int) : (v < lo ∧ wrN v lo hi = -4) ∨ (lo ≤ v ∧ hi < v ∧ wrN v lo hi = -6) ∨ (lo ≤ v ∧ v ≤ hi ∧ wrN v lo hi = 0) := by
  unfold wrN
  split
  · left; exact ⟨by assumption, rfl⟩
  · split
    · right; left; exact ⟨by omega, by assumption, rfl⟩
    · right; right; exact ⟨by omega, by omega, rfl⟩
theorem m_wrongNumber {d : Nat} {g : pG} {v lo hi : Int} (hd : 1 ≤ d) : CT d mX8_wrongNumber [vI v, vI lo, vI hi] g (qI (fun x g' => x = wrN v lo hi ∧ g' = g)) := by
  refine ct_in (L := [vI v, vI lo, vI hi]) (by omega) (Nat.le_of_ble_eq_true rfl) rfl (fun e he => ?_)
  have a1 := wrN_cases v lo hi
  refine b_X8_wrongNumber_0 (fun c0 => ?_) (fun c0 => ?_)
  · refine b_X8_wrongNumber_10 (fun c10 => ?_) (fun c10 => ?_)
    · refine b_X8_wrongNumber_20 ?_
      exact ⟨_, rfl, by omega, rfl⟩
    · refine b_X8_wrongNumber_15 ?_
      exact ⟨_, rfl, by omega, rfl⟩
  · refine b_X8_wrongNumber_5 ?_
    exact ⟨_, rfl, by omega, rfl⟩
def wrB (wr v most : Int) : Int := if wr = 0 ∧ ¬ (0 ≤ v ∧ v ≤ most) then -2 else wr
theorem m_wrongBit {d : Nat} {g : pG} {wr v most : Int} (hd : 2 ≤ d) : CT d mX8_wrongBit [vI wr, vI v, vI most] g (qI (fun x g' => x = wrB wr v most ∧ g' = g)) := by
  refine ct_in (L := [vI wr, vI v, vI most]) (by omega) (Nat.le_of_ble_eq_true rfl) rfl (fun e he => ?_)
  refine b_X8_wrongBit_0 (fun c0 => ?_) (fun c0 => ?_)
  · refine b_X8_wrongBit_20 ?_
    first | exact ⟨_, rfl, by unfold wrB; rw [if_neg (by omega)], rfl⟩ | exact ⟨_, rfl, by unfold wrB; rw [if_neg (fun z => c12 (by rw [hx0]; exact bi_neg z.2))], rfl⟩
  · refine b_X8_wrongBit_4 (m_in (by omega)) (fun x1 _ hx => ?_)
    obtain ⟨hx0, rfl⟩ := hx
    refine b_X8_wrongBit_12 (fun c12 => ?_) (fun c12 => ?_)
    · refine b_X8_wrongBit_20 ?_
      first | exact ⟨_, rfl, by unfold wrB; rw [if_neg (by omega)], rfl⟩ | exact ⟨_, rfl, by unfold wrB; rw [if_neg (fun z => c12 (by rw [hx0]; exact bi_neg z.2))], rfl⟩
    · refine b_X8_wrongBit_15 ?_
      exact ⟨_, rfl, by unfold wrB; rw [if_pos ⟨by omega, fun z => by rw [hx0, bi_pos z] at c12; omega⟩], rfl⟩
theorem m_plainly {d : Nat} {g : pG} {v : Int} (hd : 1 ≤ d) (hv : -2147483648 < v ∧ v < 2147483648) : CT d mX8_plainly [vI v] g (qI (fun x g' => x = mag v ∧ g' = g)) := by
  refine ct_in (L := [vI v]) (by omega) (Nat.le_of_ble_eq_true rfl) rfl (fun e he => ?_)
  have a1 := mag_cases v
  refine b_X8_plainly_0 (fun c0 => ?_) (fun c0 => ?_)
  · refine b_X8_plainly_9 ?_
    exact ⟨_, rfl, by omega, rfl⟩
  · refine b_X8_plainly_4 ?_
    try simp (disch := omega) only [w32_of, Int.toNat_natCast, tn0, tn1, tn2]
    exact ⟨_, rfl, by omega, rfl⟩
theorem m_held {d : Nat} {g : pG} {v : Int} (hd : 1 ≤ d) : CT d mX8_held [vI v] g (qI (fun x g' => x = held v ∧ g' = g)) := by
  refine ct_in (L := [vI v]) (by omega) (Nat.le_of_ble_eq_true rfl) rfl (fun e he => ?_)
  refine b_X8_held_0 (fun c0 => ?_) (fun c0 => ?_)
  · refine b_X8_held_11 (fun c11 => ?_) (fun c11 => ?_)
    · refine b_X8_held_22 ?_
      exact ⟨_, rfl, by unfold held; rw [if_neg (by omega), if_neg (by omega)], rfl⟩
    · refine b_X8_held_17 ?_
      exact ⟨_, rfl, by unfold held; rw [if_neg (by omega), if_pos (by omega)], rfl⟩
  · refine b_X8_held_6 ?_
    exact ⟨_, rfl, by unfold held; rw [if_pos (by omega)], rfl⟩
theorem m_hasBit {d : Nat} {g : pG} {b k : Int} (hd : 1 ≤ d) : CT d mX8_hasBit [vI b, vI k] g (qI (fun x g' => x = bi (zand (zshr b k) 1 = 1) ∧ g' = g)) := by
  refine ct_in (L := [vI b, vI k]) (by omega) (Nat.le_of_ble_eq_true rfl) rfl (fun e he => ?_)
  refine b_X8_hasBit_0 (fun c0 => ?_) (fun c0 => ?_)
  · refine b_X8_hasBit_13 ?_
    exact ⟨_, rfl, (bi_neg c0).symm, rfl⟩
  · refine b_X8_hasBit_9 ?_
    exact ⟨_, rfl, (bi_pos (by omega)).symm, rfl⟩
theorem m_think {d : Nat} {g : pG} {K : tK} (hd : 1 ≤ d) (hK : KOK K) (hu : SM g K) : CT d mX8_think [vR 45] g (qV (fun g' => NW g' (nP K) (ptC K) ∧ (∀ k, k < 8 → g' 51 k = ptC K k) ∧ frT g g')) := by
  refine ct_in (L := [vR 45, vX 2]) (by omega) (Nat.le_of_ble_eq_true rfl) rfl (fun e he => ?_)
  have hN := hK.2.2.1
  refine b_X8_think_0 ?_
  refine loopN (P := fun k g' => g' 45 11 = nP K ∧ (∀ j, j < k → g' 51 j = ptC K j) ∧ frT g g') 8 (fun k g' => ∀ w : Int, w = k → EV e mX8_think _ 10 [vR 45, vI w] [] g') ?_ ?_ 0 _ (Nat.zero_le _) ⟨?_, fun j hj => absurd hj (by omega), ?_⟩ _ rfl
  · rintro k g1 hk ⟨p1, p2, p3⟩ ih w rfl
    have e49 : g1 49 k = ptC K k := by rw [p3.1 49 (by omega) (by omega)]; exact hu.2.2.2.1 k hk
    refine b_X8_think_10 (fun c10 => ?_) (fun c10 => ?_)
    · exfalso
      omega
    · refine b_X8_think_16 (by omega) (by omega) ?_
      try simp (disch := omega) only [w32_of, Int.toNat_natCast, tn0, tn1, tn2]
      refine ih _ ⟨?_, ?_, ?_⟩ _ (by omega)
      · rw [cset_ne _ _ (by omega)]; exact p1
      · intro j hj; rw [cset_self]; exact (if h : j = k then (by rw [h, fup_self]; exact e49) else (by rw [fup_ne _ _ h]; exact p2 j (by omega)))
      · exact ⟨fun a ha hb => by rw [cset_ne _ _ hb]; exact p3.1 a ha hb, fun j hj => by rw [cset_ne _ _ (by omega)]; exact p3.2 j hj⟩
  · rintro g1 ⟨p1, p2, p3⟩ w rfl
    refine b_X8_think_10 (fun c10 => ?_) (fun c10 => ?_)
    · refine b_X8_think_34 ?_
      exact ⟨rfl, ⟨p1, hN.1, hN.2, fun k hk => p2 k (by omega), fun k hk => hK.2.2.2.1 k (by omega)⟩, p2, p3⟩
    · exfalso
      omega
  · rw [cset_self, fup_self]; exact hu.2.2.1
  · exact ⟨fun a ha hb => by rw [cset_ne _ _ ha], fun j hj => by rw [cset_self, fup_ne _ _ hj]⟩
theorem m_sumNow {d N : Nat} {g : pG} {f : tF} (hd : 1 ≤ d) (hp : NW g N f) : CT d mX8_sumNow [vR 45] g (qI (fun x g' => x = psum f N ∧ g' = g)) := by
  refine ct_in (L := [vR 45, vX 2, vX 2]) (by omega) (Nat.le_of_ble_eq_true rfl) rfl (fun e he => ?_)
  have hm := hp.1
  have h8 := hp.2.2.1
  refine b_X8_sumNow_0 ?_
  refine loopN (P := fun _ g' => g' = g) N (fun k g' => ∀ x w : Int, x = psum f k → w = k → EV e mX8_sumNow _ 4 [vR 45, vI x, vI w] [] g') ?_ ?_ 0 g (Nat.zero_le _) rfl _ _ rfl rfl
  · rintro k _ hk rfl ih x w hx rfl
    have hb := psum_bd hp.2.2.2.2 k (by omega)
    have hb2 := hp.bd hk
    have hr := hp.rd hk
    refine b_X8_sumNow_4 (fun c4 => ?_) (fun c4 => ?_)
    · exfalso
      omega
    · refine b_X8_sumNow_12 (by omega) (by omega) ?_
      try simp (disch := omega) only [w32_of, Int.toNat_natCast, tn0, tn1, tn2]
      exact ih _ rfl _ _ (by unfold psum; omega) (by omega)
  · rintro _ rfl x w rfl rfl
    refine b_X8_sumNow_4 (fun c4 => ?_) (fun c4 => ?_)
    · refine b_X8_sumNow_27 ?_
      exact ⟨_, rfl, rfl, rfl⟩
    · exfalso
      omega
theorem m_isFor {d N : Nat} {g : pG} {f : tF} (hd : 2 ≤ d) (hp : NW g N f) : CT d mX8_isFor [vR 45] g (qI (fun x g' => x = bi (0 < psum f N) ∧ g' = g)) := by
  refine ct_in (L := [vR 45]) (by omega) (Nat.le_of_ble_eq_true rfl) rfl (fun e he => ?_)
  refine b_X8_isFor_0 (m_sumNow (by omega) hp) (fun x0 g0 hx => ?_)
  obtain ⟨rfl, rfl⟩ := hx
  refine b_X8_isFor_4 (fun c4 => ?_) (fun c4 => ?_)
  · refine b_X8_isFor_11 ?_
    exact ⟨_, rfl, (bi_neg (by omega)).symm, rfl⟩
  · refine b_X8_isFor_7 ?_
    exact ⟨_, rfl, (bi_pos (by omega)).symm, rfl⟩
theorem m_standing {d N : Nat} {g : pG} {f : tF} (hd : 1 ≤ d) (hp : NW g N f) : CT d mX8_standing [vR 45] g (qI (fun x g' => x = pnz f N ∧ g' = g)) := by
  refine ct_in (L := [vR 45, vX 2, vX 2]) (by omega) (Nat.le_of_ble_eq_true rfl) rfl (fun e he => ?_)
  have hm := hp.1
  have h8 := hp.2.2.1
  refine b_X8_standing_0 ?_
  refine loopN (P := fun _ g' => g' = g) N (fun k g' => ∀ v w : Int, v = pnz f k → w = k → EV e mX8_standing _ 4 [vR 45, vI v, vI w] [] g') ?_ ?_ 0 g (Nat.zero_le _) rfl _ _ rfl rfl
  · rintro k _ hk rfl ih v w hv rfl
    have hb := pnz_bd f k
    have hr := hp.rd hk
    refine b_X8_standing_4 (fun c4 => ?_) (fun c4 => ?_)
    · exfalso
      omega
    · refine b_X8_standing_12 (by omega) (by omega) (fun c12 => ?_) (fun c12 => ?_)
      · try simp (disch := omega) only [w32_of, Int.toNat_natCast, tn0, tn1, tn2] at c12 ⊢
        refine b_X8_standing_26 ?_
        try simp (disch := omega) only [w32_of, Int.toNat_natCast, tn0, tn1, tn2]
        refine ih _ rfl _ _ ?_ (by omega)
        unfold pnz
        rw [← hr]
        split <;> omega
      · try simp (disch := omega) only [w32_of, Int.toNat_natCast, tn0, tn1, tn2] at c12 ⊢
        refine b_X8_standing_22 ?_
        try simp (disch := omega) only [w32_of, Int.toNat_natCast, tn0, tn1, tn2]
        refine ih _ rfl _ _ ?_ (by omega)
        unfold pnz
        rw [← hr]
        split <;> omega
  · rintro _ rfl v w hv rfl
    refine b_X8_standing_4 (fun c4 => ?_) (fun c4 => ?_)
    · refine b_X8_standing_35 ?_
      exact ⟨_, rfl, hv, rfl⟩
    · exfalso
      omega
theorem m_surest {d N : Nat} {g : pG} {f : tF} (hd : 2 ≤ d) (hp : NW g N f) : CT d mX8_surest [vR 45] g (qI (fun x g' => x = (psur f N : Int) ∧ g' = g)) := by
  refine ct_in (L := [vR 45, vX 2, vX 2]) (by omega) (Nat.le_of_ble_eq_true rfl) rfl (fun e he => ?_)
  have hm := hp.1
  have h8 := hp.2.2.1
  have h1 := hp.2.1
  refine b_X8_surest_0 ?_
  refine loopN (P := fun _ g' => g' = g) N (fun k g' => 1 ≤ k → ∀ (v w : Int), v = (psur f k : Int) → w = k → EV e mX8_surest _ 4 [vR 45, vI v, vI w] [] g') ?_ ?_ 1 g h1 rfl (Nat.le_refl _) _ _ ?_ rfl
  · rintro k _ hk rfl ih hk1 v w rfl rfl
    have hps := psur_lt f k (by omega)
    have hr := hp.rd hk
    have hr2 := hp.rd (k := psur f k) (by omega)
    have hb := hp.bd hk
    have hb2 := hp.bd (k := psur f k) (by omega)
    refine b_X8_surest_4 (fun c4 => ?_) (fun c4 => ?_)
    · exfalso
      omega
    · refine b_X8_surest_12 (by omega) (by omega) (by rw [Int.toNat_natCast, hr]; exact m_plainly (by omega) (by omega)) (fun x1 _ hx => ?_)
      obtain ⟨rfl, rfl⟩ := hx
      refine b_X8_surest_21 (by omega) (by omega) (by rw [Int.toNat_natCast, hr2]; exact m_plainly (by omega) (by omega)) (fun x2 _ hx => ?_)
      obtain ⟨rfl, rfl⟩ := hx
      refine b_X8_surest_30 (fun c30 => ?_) (fun c30 => ?_)
      · refine b_X8_surest_37 ?_
        try simp (disch := omega) only [w32_of, Int.toNat_natCast, tn0, tn1, tn2]
        refine ih _ rfl (by omega) _ _ ?_ (by omega)
        show _ = ((if mag (f (psur f k)) < mag (f k) then k else psur f k : Nat) : Int)
        split <;> omega
      · refine b_X8_surest_33 ?_
        try simp (disch := omega) only [w32_of, Int.toNat_natCast, tn0, tn1, tn2]
        refine ih _ rfl (by omega) _ _ ?_ (by omega)
        show _ = ((if mag (f (psur f k)) < mag (f k) then k else psur f k : Nat) : Int)
        split <;> omega
  · rintro _ rfl hk1 v w rfl rfl
    refine b_X8_surest_4 (fun c4 => ?_) (fun c4 => ?_)
    · refine b_X8_surest_45 ?_
      exact ⟨_, rfl, rfl, rfl⟩
    · exfalso
      omega
  · have := psur_lt f 1 (by omega)
    omega
theorem m_halve {d N : Nat} {g : pG} {f : tF} (hd : 3 ≤ d) (hp : NW g N f) : CT d mX8_halve [vR 45] g (qV (fun g' => NW g' N (fup f (psur f N) (half (f (psur f N)))) ∧ fr g g' 51)) := by
  refine ct_in (L := [vR 45, vX 2]) (by omega) (Nat.le_of_ble_eq_true rfl) rfl (fun e he => ?_)
  have h8 := hp.2.2.1
  have hs := psur_lt f N (by have := hp.2.1; omega)
  have hr := hp.rd hs
  have e1 : w32 ((f (psur f N)).tdiv 2) = half (f (psur f N)) := w9 (half_bd (hp.bd hs))
  refine b_X8_halve_0 (m_surest (by omega) hp) (fun x0 g0 hx => ?_)
  obtain ⟨rfl, rfl⟩ := hx
  refine b_X8_halve_4 (by omega) (by omega) ?_
  try simp (disch := omega) only [w32_of, Int.toNat_natCast, tn0, tn1, tn2]
  rw [hr, e1]
  exact ⟨rfl, hp.put (half_bd (hp.bd hs)), fr.set _⟩
