/-- the ROW emptied, or one more in it -/
def xrow (g : pG) : pG := cset g 0 (fup (g 0) 7 0)
def mrow (g : pG) : pG := cset g 45 (fup (g 45) 41 0)
theorem xfr.row {g g' : pG} (h : xfr g g') : xfr (xrow g) (xrow g') := fun a ha => by
  unfold xrow
  by_cases e : a = 0
  · subst e; rw [cset_self, cset_self, h 0 (by omega)]
  · rw [cset_ne _ _ e, cset_ne _ _ e]; exact h a ha
theorem mfr.row {g g' : pG} (h : mfr g g') : mfr (mrow g) (mrow g') := by
  unfold mrow
  refine ⟨fun a ha => by rw [cset_ne _ _ (by omega), cset_ne _ _ (by omega)]; exact h.1 a ha, fun j hj => ?_⟩
  rw [cset_self, cset_self]
  by_cases e : j = 41
  · subst e; rw [fup_self, fup_self]
  · rw [fup_ne _ _ e, fup_ne _ _ e]; exact h.2 j hj
theorem x_clear {d n : Nat} {g : pG} {r : tF} (hd : 8 ≤ d) (hr : RX g n r) : CT d mX7_clear [vR 0] g (qI (fun x g' => x = n ∧ xfr (xrow g) g')) := by
  refine ct_in (L := [vR 0, vX 2]) (by omega) (Nat.le_of_ble_eq_true rfl) rfl (fun e he => ?_)
  exact b_X7_clear_0 ⟨_, rfl, hr.1, xfr.rf⟩
theorem mclr (g : pG) : mfr (mrow g) (cset (cset g 45 (fup (g 45) 8 0)) 45 (fup (fup (g 45) 8 0) 41 0)) := by
  unfold mrow
  refine ⟨fun a ha => by rw [cset_ne _ _ (by omega), cset_ne _ _ (by omega), cset_ne _ _ (by omega)], fun j hj => ?_⟩
  rw [cset_self, cset_self]
  by_cases e : j = 41
  · subst e; rw [fup_self, fup_self]
  · rw [fup_ne _ _ e, fup_ne _ _ e, fup_ne _ _ (by omega)]
theorem m_clear {d n : Nat} {g : pG} {r : tF} (hd : 11 ≤ d) (hr : RWm g n r) : CT d mX8_clear [vR 45] g (qI (fun x g' => x = n ∧ mfr (mrow g) g')) := by
  refine ct_in (L := [vR 45, vX 2]) (by omega) (Nat.le_of_ble_eq_true rfl) rfl (fun e he => ?_)
  exact b_X8_clear_0 ⟨_, rfl, by rw [fup_ne _ _ (by decide)]; exact hr.1, mclr g⟩
def xput (g : pG) (n : Nat) (v : Int) : pG := cset (cset g 25 (fup (g 25) n v)) 0 (fup (g 0) 7 (n + 1 : Nat))
def mput (g : pG) (n : Nat) (v : Int) : pG := cset (cset g 68 (fup (g 68) n v)) 45 (fup (g 45) 41 (n + 1 : Nat))
theorem mfr.put {g g' : pG} (h : mfr g g') (n : Nat) (v : Int) : mfr (mput g n v) (mput g' n v) := by
  unfold mput
  refine ⟨fun a ha => ?_, fun j hj => ?_⟩
  · have e45 : ∀ (q : pG) (f : tF), cset q 45 f a = q a := fun q f => cset_ne q f (by omega)
    rw [e45, e45]
    by_cases e : a = 68
    · subst e; rw [cset_self, cset_self, h.1 68 (by omega)]
    · rw [cset_ne _ _ e, cset_ne _ _ e]; exact h.1 a ha
  · rw [cset_self, cset_self]
    by_cases e : j = 41
    · subst e; rw [fup_self, fup_self]
    · rw [fup_ne _ _ e, fup_ne _ _ e]; exact h.2 j hj
theorem RX.put {g : pG} {n : Nat} {r : tF} {v : Int} (h : RX g n r) (hn : n < 16) (hv : 0 ≤ v ∧ v ≤ 99) : RX (xput g n v) (n + 1) (fup r n v) := by
  unfold xput
  refine ⟨by rw [cset_self, fup_self], hn, fun i hi => ?_⟩
  rw [cset_ne _ _ (by decide), cset_self]
  by_cases e : i = n
  · subst e; rw [fup_self, fup_self]; exact ⟨rfl, hv⟩
  · rw [fup_ne _ _ e, fup_ne _ _ e]; exact h.2.2 i (by omega)
theorem RWm.put {g : pG} {n : Nat} {r : tF} {v : Int} (h : RWm g n r) (hn : n < 16) (hv : 0 ≤ v ∧ v ≤ 99) : RWm (mput g n v) (n + 1) (fup r n v) := by
  unfold mput
  refine ⟨by rw [cset_self, fup_self], hn, fun i hi => ?_⟩
  rw [cset_ne _ _ (by decide), cset_self]
  by_cases e : i = n
  · subst e; rw [fup_self, fup_self]; exact ⟨rfl, hv⟩
  · rw [fup_ne _ _ e, fup_ne _ _ e]; exact h.2.2 i (by omega)
def rPut (n : Nat) (v : Int) : Int := if v < 0 then -4 else if 99 < v ∨ n = 16 then -6 else 0
theorem rPut_cases (n : Nat) (v : Int) : (v < 0 ∧ rPut n v = -4) ∨ (0 ≤ v ∧ (99 < v ∨ n = 16) ∧ rPut n v = -6) ∨ (0 ≤ v ∧ v ≤ 99 ∧ n ≠ 16 ∧ rPut n v = 0) := by
  unfold rPut
  by_cases h : v < 0
  · rw [if_pos h]; omega
  · rw [if_neg h]
    by_cases h2 : 99 < v ∨ n = 16
    · rw [if_pos h2]; omega
    · rw [if_neg h2]; omega
theorem ref6 : isRef (-6) := Or.inr (Or.inr (Or.inr (Or.inr rfl)))
theorem x_row {d n : Nat} {g : pG} {r : tF} {v : Int} (hd : 8 ≤ d) (hr : RX g n r) : CT d mX7_row [vR 0, vI v] g (qI (fun x g' => x = aR (rPut n v) (n + 1 : Nat) ∧ (rPut n v ≠ 0 → xfr (refX g (rPut n v)) g') ∧ (rPut n v = 0 → xfr (xput g n v) g'))) := by
  refine ct_in (L := [vR 0, vI v]) (by omega) (Nat.le_of_ble_eq_true rfl) rfl (fun e he => ?_)
  have hm := hr.1
  have h16 := hr.2.1
  have r1 := rPut_cases n v
  have no : ∀ m : Int, m ≠ 0 → rPut n v = m → qI (fun x g' => x = aR (rPut n v) (n + 1 : Nat) ∧ (rPut n v ≠ 0 → xfr (refX g (rPut n v)) g') ∧ (rPut n v = 0 → xfr (xput g n v) g')) (some (vI m)) (refX g m) := fun m hm0 h => ⟨_, rfl, (aR_n h hm0).symm, fun _ => by rw [h]; exact xfr.rf, fun z => absurd (h.symm.trans z) hm0⟩
  refine b_X7_row_0 (fun c0 => ?_) (fun c0 => ?_)
  · refine b_X7_row_11 (fun c11 => ?_) (fun c11 => ?_)
    · refine b_X7_row_29 (s_refuse (by omega) ref6) (fun x2 _ hx => ?_)
      obtain ⟨rfl, rfl⟩ := hx
      refine b_X7_row_35 ?_
      exact no _ (by omega) (by omega)
    · refine b_X7_row_17 (fun c17 => ?_) (fun c17 => ?_)
      · refine b_X7_row_36 (by omega) (by omega) ?_
        rw [hm, Int.toNat_natCast, w32n n (by omega), fup_self]
        exact ⟨_, rfl, (aR_0 (by omega) rfl).symm, fun z => absurd (by omega) z, fun _ => xfr.rf⟩
      · refine b_X7_row_29 (s_refuse (by omega) ref6) (fun x3 _ hx => ?_)
        obtain ⟨rfl, rfl⟩ := hx
        refine b_X7_row_35 ?_
        exact no _ (by omega) (by omega)
  · refine b_X7_row_4 (s_refuse (by omega) ref4) (fun x1 _ hx => ?_)
    obtain ⟨rfl, rfl⟩ := hx
    refine b_X7_row_10 ?_
    exact no _ (by omega) (by omega)
theorem m_row {d n : Nat} {g : pG} {r : tF} {v : Int} (hd : 11 ≤ d) (hr : RWm g n r) : CT d mX8_row [vR 45, vI v] g (qI (fun x g' => x = aR (rPut n v) (n + 1 : Nat) ∧ (rPut n v ≠ 0 → mfr (refM g (rPut n v)) g') ∧ (rPut n v = 0 → mfr (mput g n v) g'))) := by
  refine ct_in (L := [vR 45, vI v]) (by omega) (Nat.le_of_ble_eq_true rfl) rfl (fun e he => ?_)
  have h16 := hr.2.1
  have hr0 := hr.m (thr g)
  have hm := hr0.1
  have r1 := rPut_cases n v
  have no : ∀ m : Int, m ≠ 0 → rPut n v = m → qI (fun x g' => x = aR (rPut n v) (n + 1 : Nat) ∧ (rPut n v ≠ 0 → mfr (refM g (rPut n v)) g') ∧ (rPut n v = 0 → mfr (mput g n v) g')) (some (vI m)) (refM (cset g 45 (fup (g 45) 8 0)) m) := fun m hm0 h => ⟨_, rfl, (aR_n h hm0).symm, fun _ => by rw [h]; exact (thr g).ref _, fun z => absurd (h.symm.trans z) hm0⟩
  refine b_X8_row_0 (fun c0 => ?_) (fun c0 => ?_)
  · try simp (disch := omega) only [w32_of, Int.toNat_natCast, tn0, tn1, tn2] at c0 ⊢
    refine b_X8_row_16 (fun c16 => ?_) (fun c16 => ?_)
    · refine b_X8_row_31 (m_refuse (by omega) ref6) (fun x2 _ hx => ?_)
      obtain ⟨rfl, rfl⟩ := hx
      refine b_X8_row_37 ?_
      exact no _ (by omega) (by omega)
    · refine b_X8_row_22 (fun c22 => ?_) (fun c22 => ?_)
      · refine b_X8_row_38 (by omega) (by omega) ?_
        rw [hm, Int.toNat_natCast, w32n n (by omega), fup_self]
        exact ⟨_, rfl, (aR_0 (by omega) rfl).symm, fun z => absurd (by omega) z, fun _ => (thr g).put n v⟩
      · refine b_X8_row_31 (m_refuse (by omega) ref6) (fun x3 _ hx => ?_)
        obtain ⟨rfl, rfl⟩ := hx
        refine b_X8_row_37 ?_
        exact no _ (by omega) (by omega)
  · try simp (disch := omega) only [w32_of, Int.toNat_natCast, tn0, tn1, tn2] at c0 ⊢
    refine b_X8_row_9 (m_refuse (by omega) ref4) (fun x1 _ hx => ?_)
    obtain ⟨rfl, rfl⟩ := hx
    refine b_X8_row_15 ?_
    exact no _ (by omega) (by omega)
/-- judge -/
abbrev juQ (K : tK) (r : tF) (i : Nat) : Prop := nC K < i ∨ r i ≠ su K i + 50
theorem s_hearOut {d t : Nat} {g : pG} {K : tK} {v : Int} (hd : 2 ≤ d) (ht : isPts t) (hu : SU g 1 K) (hv : ¬ (0 ≤ v ∧ v < nC K)) : CT d mX5_hear [vR 1, vI v, vR t] g (qV (fun g' => g' = g)) := by
  refine ct_in (L := [vR 1, vI v, vR t]) (by omega) (Nat.le_of_ble_eq_true rfl) rfl (fun e he => ?_)
  refine b_X5_hear_0 ht (s_hasCourt (by omega) st_1 hu) (fun x g1 hx => ?_)
  obtain ⟨rfl, rfl⟩ := hx
  exact b_X5_hear_5 ht (fun _ => b_X5_hear_25 ht ⟨rfl, rfl⟩) (fun c => absurd (bi_neg hv) c)
theorem s_notSo {d n : Nat} {g : pG} {K : tK} {r : tF} (hd : 7 ≤ d) (hK : KOK K) (hu : SU g 1 K) (hr : RX g n r) : CT d mX7_firstNotSo [vR 0] g (qI (fun x g' => x = ff (juQ K r) n ∧ xfr g g')) := by
  refine ct_in (L := [vR 0, vX 2]) (by omega) (Nat.le_of_ble_eq_true rfl) rfl (fun e he => ?_)
  have h7 := hK.1
  have h16 := hr.2.1
  have he5 : 6 ≤ e := by omega
  refine b_X7_firstNotSo_0 (s_goDownTo0 he5 hK hu) (fun g1 hx => ?_)
  obtain ⟨hp1, hf1⟩ := hx
  refine b_X7_firstNotSo_5 ?_
  refine loopN (P := fun k g' => xfr g g' ∧ (k ≤ nC K → PT g' 27 (nP K) (downF K k (ptC K))) ∧ ∀ j, j < k → ¬ juQ K r j) n (fun k g' => ∀ w : Int, w = k → EV e mX7_firstNotSo _ 7 [vR 0, vI w] [] g') ?_ ?_ 0 g1 (Nat.zero_le _) ⟨hf1.x scr27, fun _ => hp1, fun j hj => absurd hj (Nat.not_lt_zero _)⟩ _ rfl
  · rintro k g2 hk ⟨hf2, hp2, hall⟩ ih w rfl
    have hu2 := hu.x hf2
    have hm := hu2.1
    have hr2 := hr.x hf2
    have hn := hr2.1
    have hv := (hr2.2.2 k hk).1
    have k16 : (k : Int) < 16 := by omega
    refine b_X7_firstNotSo_7 (fun c => absurd c (by omega)) (fun c => ?_)
    refine b_X7_firstNotSo_15 (fun c => ?_) (fun c => ?_)
    · exact b_X7_firstNotSo_45 ⟨_, rfl, (ff_hit hall (Or.inl (by omega)) hk).symm, hf2⟩
    · have hkn : k ≤ nC K := by omega
      have hp2 := hp2 hkn
      have hsb := su_bd hK hkn
      refine b_X7_firstNotSo_26 (Int.natCast_nonneg _) k16 (s_sum (Nat.le_trans (by decide) he5) pts_27 hp2) (fun x g3 hx => ?_)
      obtain ⟨hx0, rfl⟩ := hx
      have hx0 : x = su K k := hx0
      subst hx0
      rw [Int.toNat_natCast, hv]
      refine b_X7_firstNotSo_39 (fun c2 => ?_) (fun c2 => ?_)
      · rw [w32_of (by omega) (by omega)] at c2
        have hno : ¬ juQ K r k := fun z => z.elim (fun y => by omega) (fun y => y c2)
        by_cases hkc : k < nC K
        · refine b_X7_firstNotSo_47 (s_hear (Nat.le_trans (by decide) he5) pts_27 hK hu2 hp2 hkc) (fun g4 hx => ?_)
          obtain ⟨hp4, hf4⟩ := hx
          exact b_X7_firstNotSo_59 (ih _ ⟨hf2.tr (hf4.x scr27), fun _ => hp4, fun j hj => if h : j = k then h ▸ hno else hall j (by omega)⟩ _ (w32n k (by omega)))
        · refine b_X7_firstNotSo_47 (s_hearOut (Nat.le_trans (by decide) he5) pts_27 hu2 (by omega)) (fun g4 hx => ?_)
          subst hx
          exact b_X7_firstNotSo_59 (ih _ ⟨hf2, fun z => absurd z (by omega), fun j hj => if h : j = k then h ▸ hno else hall j (by omega)⟩ _ (w32n k (by omega)))
      · rw [w32_of (by omega) (by omega)] at c2
        exact b_X7_firstNotSo_45 ⟨_, rfl, (ff_hit hall (Or.inr c2) hk).symm, hf2⟩
  · rintro g2 ⟨hf2, hp2, hall⟩ w rfl
    have hn := (hr.x hf2).1
    refine b_X7_firstNotSo_7 (fun c => ?_) (fun c => absurd (by omega) c)
    exact b_X7_firstNotSo_65 ⟨_, rfl, (ff_none hall).symm, hf2⟩
