theorem SU.note {g g' : pG} {K : tK} (h : SU g 1 K) (hf : ∀ a, (a < 21 ∨ 24 < a) → g' a = g a) : SU g' 1 K := h.frm (fun a ha hb => hf a (by omega))
theorem QX.st {g : pG} {st : tSt} {n m x : Int} {st' : tSt} {a : Int} (h : IX g st) (hr : isRef m) (hs : st' = stR st m) (ha : a = x) : QXs g a st' (some (vI x)) (refX g m) := ⟨_, rfl, ha.symm, by rw [hs]; exact h.ref (Or.inr hr), fun c hc => refX_hi hc⟩
/-- point -/
def rPo (K : tK) (p v : Int) : Int := if 0 ≤ p ∧ p < nP K then wrN v (-9) 9 else -1
theorem rPo_cases (K : tK) (p v : Int) : ((0 ≤ p ∧ p < nP K) ∧ rPo K p v = wrN v (-9) 9) ∨ (¬ (0 ≤ p ∧ p < nP K) ∧ rPo K p v = -1) := by
  unfold rPo
  by_cases h : 0 ≤ p ∧ p < nP K
  · rw [if_pos h]; exact Or.inl ⟨h, rfl⟩
  · rw [if_neg h]; exact Or.inr ⟨h, rfl⟩
def stP (st : tSt) (p v : Int) : tSt := if rPo (sK st) p v = 0 then stU st (setPt (sK st) p.toNat v) else stR st (rPo (sK st) p v)
theorem stP_ok {st : tSt} {p v : Int} (h : OKst st) : OKst (stP st p v) := by
  have r := rPo_cases (sK st) p v
  have r2 := wrN_cases v (-9) 9
  unfold stP
  by_cases e : rPo (sK st) p v = 0
  · rw [if_pos e]; exact stU_ok h (setPt_ok h.1 (by omega) (by omega))
  · rw [if_neg e]; exact stR_ok h
theorem UE_pt {K : tK} {p : Nat} {v : Int} (hK : KOK K) (hp : p < nP K) : UE 0 p (ptC K p) (setPt K p v) K := by
  refine Or.inl ⟨rfl, ⟨Int.natCast_nonneg _, Int.ofNat_lt.mpr hp⟩, hK.2.2.2.1 p (by have := hK.2.2.1.2; omega), ?_⟩
  rw [Int.toNat_natCast]
  refine ⟨rfl, fun _ _ => ⟨rfl, rfl, rfl⟩, rfl, fun k _ => ?_, rfl, rfl⟩
  show fup (fup (ptC K) p v) p (ptC K p) k = ptC K k
  rw [fup2, fup_id rfl]
theorem x_point {d : Nat} {g : pG} {st : tSt} {p v : Int} (hd : 8 ≤ d) (hst : OKst st) (hI : IX g st) : CT d mX7_point [vR 0, vI p, vI v] g (QXs g (aH (rPo (sK st) p v) (ptC (sK st) p.toNat)) (stP st p v)) := by
  refine ct_in (L := [vR 0, vI p, vI v, vX 2, vX 2]) (by omega) (Nat.le_of_ble_eq_true rfl) rfl (fun e he => ?_)
  have hK := hst.1
  have hu := hI.1
  have r := rPo_cases (sK st) p v
  have r2 := wrN_cases v (-9) 9
  have h8 := hK.2.2.1
  have no : ∀ m : Int, m ≠ 0 → isRef m → rPo (sK st) p v = m → QXs g (aH (rPo (sK st) p v) (ptC (sK st) p.toNat)) (stP st p v) (some (vI (1000000000 - m))) (refX g m) := fun m hm hr h => ⟨_, rfl, (aH_n h hm rfl).symm, by unfold stP; rw [if_neg (by rw [h]; exact hm), h]; exact hI.ref (Or.inr hr), fun c hc => refX_hi hc⟩
  refine b_X7_point_0 (s_has (by omega) pts_5 (hu.pt hK)) (fun x g0 hx => ?_)
  obtain ⟨rfl, rfl⟩ := hx
  refine b_X7_point_11 (fun c => ?_) (fun c => ?_)
  · have c := bi_ne0 c
    refine b_X7_point_20 (s_outside (by omega)) (fun x g1 hx => ?_)
    obtain ⟨rfl, rfl⟩ := hx
    refine b_X7_point_28 (fun c2 => ?_) (fun c2 => ?_)
    · have hr0 : rPo (sK st) p v = 0 := by omega
      have hv : -9 ≤ v ∧ v ≤ 9 := by omega
      clear no r r2
      obtain ⟨n, rfl⟩ := Int.eq_ofNat_of_zero_le c.1
      have hn : n < nP (sK st) := by omega
      refine b_X7_point_39 (s_number (by omega) pts_5 (hu.pt hK) hn) (fun x g2 hx => ?_)
      obtain ⟨rfl, rfl⟩ := hx
      refine b_X7_point_50 (s_noteC (by omega) hst hI.2.2.2.2.2 (UE_pt (v := v) hK hn)) (fun g3 hx => ?_)
      obtain ⟨hU, hf⟩ := hx
      have hu3 := hu.note hf
      refine b_X7_point_63 (s_putW (by omega) pts_5 hu3.2.2.1 h8.2 hn) (fun g4 hx => ?_)
      subst hx
      rw [held_id hv]
      refine b_X7_point_75 ⟨_, rfl, (aH_0 hr0 (by rw [Int.toNat_natCast])).symm, ?_, fun c hc => by rw [cset_ne _ _ (by omega)]; exact hf c (by omega)⟩
      unfold stP
      rw [if_pos hr0, Int.toNat_natCast]
      obtain ⟨u1, u2, u3, u4, u5, u6⟩ := hu3
      refine hI.mk (K' := setPt (sK st) n v) ⟨?_, fun k hk => ?_, ?_, fun k hk => ?_, ?_, ?_⟩ (hU.frm (fun a ha hb => cset_ne _ _ (by omega))) (fun a ha => ?_)
      · rw [cset_ne _ _ (by decide)]; exact u1
      · rw [cset_ne _ _ (by decide), cset_ne _ _ (by decide), cset_ne _ _ (by decide)]; exact u2 k hk
      · rw [cset_ne _ _ (by decide)]; exact u3
      · show (cset g3 6 (fup (g3 6) n v)) 6 k = fup (ptC (sK st)) n v k
        rw [cset_self]
        by_cases e2 : k = n
        · rw [e2, fup_self, fup_self]
        · rw [fup_ne _ _ e2, fup_ne _ _ e2]; exact u4 k hk
      · rw [cset_ne _ _ (by decide)]; exact u5
      · rw [cset_ne _ _ (by decide)]; exact u6
      · rw [cset_ne _ _ (by omega)]; exact hf a (by omega)
    · refine b_X7_point_33 (s_refuseHigh (by omega) (refW c2)) (fun x g2 hx => ?_)
      obtain ⟨rfl, rfl⟩ := hx
      exact b_X7_point_38 (no _ c2 (refW c2) (by omega))
  · have c := bi_eq0 (Classical.not_not.mp c)
    refine b_X7_point_14 (s_refuseHigh (by omega) ref1) (fun x g1 hx => ?_)
    obtain ⟨rfl, rfl⟩ := hx
    exact b_X7_point_19 (no _ (by decide) ref1 (by omega))
/-- kind -/
def rKi (K : tK) (c kd fg : Int) : Int := if 0 ≤ c ∧ c < nC K then (if 0 ≤ kd ∧ kd ≤ 5 then wrN fg 0 9 else -2) else -1
theorem rKi_cases (K : tK) (c kd fg : Int) : ((0 ≤ c ∧ c < nC K) ∧ (0 ≤ kd ∧ kd ≤ 5) ∧ rKi K c kd fg = wrN fg 0 9) ∨ ((0 ≤ c ∧ c < nC K) ∧ ¬ (0 ≤ kd ∧ kd ≤ 5) ∧ rKi K c kd fg = -2) ∨ (¬ (0 ≤ c ∧ c < nC K) ∧ rKi K c kd fg = -1) := by
  unfold rKi
  by_cases h : 0 ≤ c ∧ c < nC K
  · rw [if_pos h]
    by_cases h2 : 0 ≤ kd ∧ kd ≤ 5
    · rw [if_pos h2]; exact Or.inl ⟨h, h2, rfl⟩
    · rw [if_neg h2]; exact Or.inr (Or.inl ⟨h, h2, rfl⟩)
  · rw [if_neg h]; exact Or.inr (Or.inr ⟨h, rfl⟩)
def stK (st : tSt) (c kd fg : Int) : tSt := if rKi (sK st) c kd fg = 0 then stU st (setKF (sK st) c.toNat kd fg) else stR st (rKi (sK st) c kd fg)
theorem stK_ok {st : tSt} {c kd fg : Int} (h : OKst st) : OKst (stK st c kd fg) := by
  have r := rKi_cases (sK st) c kd fg
  have r2 := wrN_cases fg 0 9
  unfold stK
  by_cases e : rKi (sK st) c kd fg = 0
  · rw [if_pos e]; exact stU_ok h (setKF_ok h.1 (by omega) (by omega))
  · rw [if_neg e]; exact stR_ok h
theorem UE_kf {K : tK} {c : Nat} {kd fg : Int} (hK : KOK K) (hc : c < nC K) : UE 1 c (10 * kdC K c + fgC K c) (setKF K c kd fg) K := by
  obtain ⟨b1, b2, b3⟩ := hK.2.1 c hc
  refine Or.inr (Or.inl ⟨rfl, ⟨Int.natCast_nonneg _, Int.ofNat_lt.mpr hc⟩, by omega, ?_⟩)
  rw [Int.toNat_natCast, show (10 * kdC K c + fgC K c) / 10 = kdC K c by omega, show (10 * kdC K c + fgC K c) % 10 = fgC K c by omega]
  refine ⟨rfl, fun k _ => ⟨?_, ?_, rfl⟩, rfl, fun _ _ => rfl, rfl, rfl⟩
  · show fup (fup (kdC K) c kd) c (kdC K c) k = kdC K k
    rw [fup2, fup_id rfl]
  · show fup (fup (fgC K) c fg) c (fgC K c) k = fgC K k
    rw [fup2, fup_id rfl]
theorem x_kind {d : Nat} {g : pG} {st : tSt} {c kd fg : Int} (hd : 8 ≤ d) (hst : OKst st) (hI : IX g st) : CT d mX7_kind [vR 0, vI c, vI kd, vI fg] g (QXs g (aR (rKi (sK st) c kd fg) (10 * kdC (sK st) c.toNat + fgC (sK st) c.toNat)) (stK st c kd fg)) := by
  refine ct_in (L := [vR 0, vI c, vI kd, vI fg, vX 2, vX 2]) (by omega) (Nat.le_of_ble_eq_true rfl) rfl (fun e he => ?_)
  have hK := hst.1
  have hu := hI.1
  have h7 := hK.1
  have r := rKi_cases (sK st) c kd fg
  have r2 := wrN_cases fg 0 9
  have no : ∀ m : Int, m ≠ 0 → isRef m → rKi (sK st) c kd fg = m → QXs g (aR (rKi (sK st) c kd fg) (10 * kdC (sK st) c.toNat + fgC (sK st) c.toNat)) (stK st c kd fg) (some (vI m)) (refX g m) := fun m hm hr h => ⟨_, rfl, (aR_n h hm).symm, by unfold stK; rw [if_neg (by rw [h]; exact hm), h]; exact hI.ref (Or.inr hr), fun c hc => refX_hi hc⟩
  refine b_X7_kind_0 (s_hasCourt (by omega) st_1 hu) (fun x g0 hx => ?_)
  obtain ⟨rfl, rfl⟩ := hx
  refine b_X7_kind_8 (fun c1 => ?_) (fun c1 => ?_)
  · have c1 := bi_ne0 c1
    refine b_X7_kind_17 (s_isKind (by omega)) (fun x g1 hx => ?_)
    obtain ⟨rfl, rfl⟩ := hx
    refine b_X7_kind_21 (fun c2 => ?_) (fun c2 => ?_)
    · have c2 := bi_ne0 c2
      refine b_X7_kind_31 (s_outside (by omega)) (fun x g2 hx => ?_)
      obtain ⟨rfl, rfl⟩ := hx
      refine b_X7_kind_38 (fun c3 => ?_) (fun c3 => ?_)
      · have hr0 : rKi (sK st) c kd fg = 0 := by omega
        have hfg : 0 ≤ fg ∧ fg ≤ 9 := by omega
        clear no r r2
        obtain ⟨n, rfl⟩ := Int.eq_ofNat_of_zero_le c1.1
        have hn : n < nC (sK st) := by omega
        obtain ⟨e1, e2, e3⟩ := hu.2.1 n hn
        have e1 : g2 2 n = kdC (sK st) n := e1
        have e2 : g2 3 n = fgC (sK st) n := e2
        obtain ⟨b1, b2, b3⟩ := hK.2.1 n hn
        have ew : w32 (w32 (10 * g2 2 n) + g2 3 n) = 10 * kdC (sK st) n + fgC (sK st) n := by
          rw [e1, e2, w32_of (x := 10 * kdC (sK st) n) (by omega) (by omega), w32_of (by omega) (by omega)]
        refine b_X7_kind_52 (by omega) (by omega) (by rw [Int.toNat_natCast, ew]; exact s_noteC (by omega) hst hI.2.2.2.2.2 (UE_kf (kd := kd) (fg := fg) hK hn)) (fun g3 hx => ?_)
        obtain ⟨hU, hf⟩ := hx
        rw [Int.toNat_natCast, ew]
        refine b_X7_kind_87 (s_rename (by omega) (hu.note hf) hK c1) (fun g4 hx => ?_)
        obtain ⟨hu4, hf4⟩ := hx
        refine b_X7_kind_97 ⟨_, rfl, (aR_0 hr0 rfl).symm, ?_, fun c hc => by rw [hf4 c (by omega)]; exact hf c (by omega)⟩
        unfold stK
        rw [if_pos hr0]
        exact hI.mk hu4 (hU.frm (fun a ha hb => hf4 a (by omega))) (fun a ha => by rw [hf4 a (by omega)]; exact hf a (by omega))
      · refine b_X7_kind_45 (s_refuse (by omega) (refW c3)) (fun x g3 hx => ?_)
        obtain ⟨rfl, rfl⟩ := hx
        exact b_X7_kind_51 (no _ c3 (refW c3) (by omega))
    · have c2 := bi_eq0 (Classical.not_not.mp c2)
      refine b_X7_kind_24 (s_refuse (by omega) ref2) (fun x g2 hx => ?_)
      obtain ⟨rfl, rfl⟩ := hx
      exact b_X7_kind_30 (no _ (by decide) ref2 (by omega))
  · have c1 := bi_eq0 (Classical.not_not.mp c1)
    refine b_X7_kind_11 (s_refuse (by omega) ref1) (fun x g1 hx => ?_)
    obtain ⟨rfl, rfl⟩ := hx
    exact b_X7_kind_16 (no _ (by decide) ref1 (by omega))
/-- lowest -/
def rLo (K : tK) (kd fg cs : Int) : Int := if ¬ (0 ≤ kd ∧ kd ≤ 5) then -2 else if fg < 0 ∨ cs < 0 then -4 else if 9 < fg ∨ 99 < cs ∨ nC K = 7 then -6 else 0
theorem rLo_cases (K : tK) (kd fg cs : Int) : (¬ (0 ≤ kd ∧ kd ≤ 5) ∧ rLo K kd fg cs = -2) ∨ ((0 ≤ kd ∧ kd ≤ 5) ∧ (fg < 0 ∨ cs < 0) ∧ rLo K kd fg cs = -4) ∨ ((0 ≤ kd ∧ kd ≤ 5) ∧ (0 ≤ fg ∧ 0 ≤ cs) ∧ (9 < fg ∨ 99 < cs ∨ nC K = 7) ∧ rLo K kd fg cs = -6) ∨ ((0 ≤ kd ∧ kd ≤ 5) ∧ (0 ≤ fg ∧ fg ≤ 9) ∧ (0 ≤ cs ∧ cs ≤ 99) ∧ nC K ≠ 7 ∧ rLo K kd fg cs = 0) := by
  unfold rLo
  by_cases h : ¬ (0 ≤ kd ∧ kd ≤ 5)
  · rw [if_pos h]; exact Or.inl ⟨h, rfl⟩
  · rw [if_neg h]
    by_cases h2 : fg < 0 ∨ cs < 0
    · rw [if_pos h2]; omega
    · rw [if_neg h2]
      by_cases h3 : 9 < fg ∨ 99 < cs ∨ nC K = 7
      · rw [if_pos h3]; omega
      · rw [if_neg h3]; omega
def stA (st : tSt) (kd fg cs : Int) : tSt := if rLo (sK st) kd fg cs = 0 then stU st (addK (sK st) kd fg cs) else stR st (rLo (sK st) kd fg cs)
theorem stA_ok {st : tSt} {kd fg cs : Int} (h : OKst st) : OKst (stA st kd fg cs) := by
  have r := rLo_cases (sK st) kd fg cs
  have h7 := h.1.1
  unfold stA
  by_cases e : rLo (sK st) kd fg cs = 0
  · rw [if_pos e]; exact stU_ok h (addK_ok h.1 (by omega) (by omega) (by omega) (by omega))
  · rw [if_neg e]; exact stR_ok h
theorem UE_add {K : tK} {kd fg cs : Int} : UE 2 0 0 (addK K kd fg cs) K := by
  refine Or.inr (Or.inr ⟨rfl, Nat.succ_pos _, Nat.add_sub_cancel _ _, fun k hk => ?_, rfl, fun _ _ => rfl, rfl, rfl⟩)
  have hk : k < nC K + 1 - 1 := hk
  exact ⟨fup_ne _ _ (by omega), fup_ne _ _ (by omega), fup_ne _ _ (by omega)⟩
theorem x_lowest {d : Nat} {g : pG} {st : tSt} {kd fg cs : Int} (hd : 8 ≤ d) (hst : OKst st) (hI : IX g st) : CT d mX7_lowest [vR 0, vI kd, vI fg, vI cs] g (QXs g (aR (rLo (sK st) kd fg cs) (nC (sK st) + 1 : Nat)) (stA st kd fg cs)) := by
  refine ct_in (L := [vR 0, vI kd, vI fg, vI cs]) (by omega) (Nat.le_of_ble_eq_true rfl) rfl (fun e he => ?_)
  have hK := hst.1
  have hu := hI.1
  have h7 := hK.1
  have r := rLo_cases (sK st) kd fg cs
  have no : ∀ m : Int, m ≠ 0 → isRef m → rLo (sK st) kd fg cs = m → QXs g (aR (rLo (sK st) kd fg cs) (nC (sK st) + 1 : Nat)) (stA st kd fg cs) (some (vI m)) (refX g m) := fun m hm hr h => ⟨_, rfl, (aR_n h hm).symm, by unfold stA; rw [if_neg (by rw [h]; exact hm), h]; exact hI.ref (Or.inr hr), fun c hc => refX_hi hc⟩
  refine b_X7_lowest_0 (s_isKind (by omega)) (fun x g0 hx => ?_)
  obtain ⟨rfl, rfl⟩ := hx
  refine b_X7_lowest_4 (fun c1 => ?_) (fun c1 => ?_)
  · have c1 := bi_ne0 c1
    have low : (fg < 0 ∨ cs < 0) → EV e mX7_lowest (QXs g0 (aR (rLo (sK st) kd fg cs) (nC (sK st) + 1 : Nat)) (stA st kd fg cs)) 22 [vR 0, vI kd, vI fg, vI cs] [] g0 := fun h => b_X7_lowest_22 (s_refuse (by omega) ref4) (fun x g1 hx => by obtain ⟨rfl, rfl⟩ := hx; exact b_X7_lowest_28 (no _ (by decide) ref4 (by omega)))
    refine b_X7_lowest_14 (fun c2 => low (Or.inl c2)) (fun c2 => ?_)
    refine b_X7_lowest_18 (fun c3 => ?_) (fun c3 => low (Or.inr (by omega)))
    refine b_X7_lowest_29 (s_addLowest (by omega) st_1 hu hK) (fun x g1 hx => ?_)
    rcases hx with ⟨rfl, hno, rfl⟩ | ⟨rfl, hyes, hu1, hf1⟩
    · refine b_X7_lowest_39 (fun z => absurd rfl z) (fun _ => ?_)
      refine b_X7_lowest_42 (s_refuse (by omega) ref6) (fun x g2 hx => ?_)
      obtain ⟨rfl, rfl⟩ := hx
      exact b_X7_lowest_48 (no _ (by decide) ref6 (by omega))
    · refine b_X7_lowest_39 (fun _ => ?_) (fun z => absurd (by decide) z)
      have hr0 : rLo (sK st) kd fg cs = 0 := by omega
      have hU1 : UX g1 (sUm st) (sUs st) := hI.2.2.2.2.2.frm (fun a ha hb => hf1 a (by omega))
      refine b_X7_lowest_49 (s_noteC (by omega) hst hU1 (UE_add (kd := kd) (fg := fg) (cs := cs))) (fun g2 hx => ?_)
      obtain ⟨hU, hf⟩ := hx
      have hu2 := hu1.note hf
      have e3 : g2 1 3 = ((nC (sK st) + 1 : Nat) : Int) := hu2.1
      refine b_X7_lowest_59 ⟨_, rfl, (aR_0 hr0 e3.symm).symm, ?_, fun c hc => by rw [hf c (by omega)]; exact hf1 c (by omega)⟩
      unfold stA
      rw [if_pos hr0]
      exact hI.mk hu2 hU (fun a ha => by rw [hf a (by omega)]; exact hf1 a (by omega))
  · have c1 := bi_eq0 (Classical.not_not.mp c1)
    refine b_X7_lowest_7 (s_refuse (by omega) ref2) (fun x g1 hx => ?_)
    obtain ⟨rfl, rfl⟩ := hx
    exact b_X7_lowest_13 (no _ (by decide) ref2 (by omega))
/-- set -/
def rSe (w v : Int) : Int := if w = 0 then wrN v 1 8 else if w = 1 then wrN v 0 999 else if w = 2 then wrN v 0 8 else -2
theorem rSe_chg (w v : Int) : (rSe w v = 0 ∧ okChg w v) ∨ (isRef (rSe w v) ∧ ¬ okChg w v) := by
  have r1 := wrN_cases v 1 8
  have r3 := wrN_cases v 0 8
  have r2 := wrN_cases v 0 999
  unfold rSe
  by_cases h0 : w = 0
  · rw [if_pos h0]; unfold isRef okChg; clear r2; omega
  · rw [if_neg h0]
    by_cases h1 : w = 1
    · rw [if_pos h1]; unfold isRef okChg; omega
    · rw [if_neg h1]
      by_cases h2 : w = 2
      · rw [if_pos h2]; unfold isRef okChg; clear r2; omega
      · rw [if_neg h2]; exact Or.inr ⟨ref2, by unfold okChg; omega⟩
def aSe (K : tK) (w : Int) : Int := if w = 0 then nP K else if w = 1 then skC K else lnC K
def stS (st : tSt) (w v : Int) : tSt := if rSe w v = 0 then stZ st (chgK (sK st) w v) else stR st (rSe w v)
theorem isRef.ne {n : Int} (h : isRef n) : n ≠ 0 := by rcases h with rfl | rfl | rfl | rfl | rfl <;> decide
theorem stS_ok {st : tSt} {w v : Int} (h : OKst st) : OKst (stS st w v) := by
  unfold stS
  rcases rSe_chg w v with ⟨h1, h2⟩ | ⟨h1, h2⟩
  · rw [if_pos h1]; exact stZ_ok h (chgK_ok h.1 h2)
  · rw [if_neg h1.ne]; exact stR_ok h
theorem x_set {d : Nat} {g : pG} {st : tSt} {w v : Int} (hd : 8 ≤ d) (hst : OKst st) (hI : IX g st) : CT d mX7_set [vR 0, vI w, vI v] g (QXs g (aR (rSe w v) (aSe (sK st) w)) (stS st w v)) := by
  refine ct_in (L := [vR 0, vI w, vI v, vX 2, vX 2]) (by omega) (Nat.le_of_ble_eq_true rfl) rfl (fun e he => ?_)
  have hK := hst.1
  have hu := hI.1
  have r := rSe_chg w v
  have he2 : 2 ≤ e := by omega
  have he1 : 1 ≤ e := by omega
  have no : ∀ m : Int, isRef m → rSe w v = m → QXs g (aR (rSe w v) (aSe (sK st) w)) (stS st w v) (some (vI m)) (refX g m) := fun m hr h => ⟨_, rfl, (aR_n h hr.ne).symm, by unfold stS; rw [if_neg (by rw [h]; exact hr.ne), h]; exact hI.ref (Or.inr hr), fun c hc => refX_hi hc⟩
  have bad : ∀ v3 m : Int, m ≠ 0 → rSe w v = m → EV e mX7_set (QXs g (aR (rSe w v) (aSe (sK st) w)) (stS st w v)) 104 [vR 0, vI w, vI v, vI v3, vI m] [] g := by
    intro v3 m hm h
    have hr : isRef m := by
      rcases r with z | z
      · exact absurd (h.symm.trans z.1) hm
      · rw [← h]; exact z.1
    refine b_X7_set_104 (s_refuse he1 hr) (fun x g1 hx => ?_)
    obtain ⟨rfl, rfl⟩ := hx
    exact b_X7_set_110 (no _ hr h)
  have good : ∀ v3 : Int, v3 = aSe (sK st) w → rSe w v = 0 → EV e mX7_set (QXs g (aR (rSe w v) (aSe (sK st) w)) (stS st w v)) 111 [vR 0, vI w, vI v, vI v3, vI 0] [] g := by
    intro v3 hv h0
    have hc : okChg w v := by
      rcases r with z | z
      · exact z.2
      · exact absurd h0 z.1.ne
    refine b_X7_set_111 (s_change he2 st_1 hu hK) (fun x g1 hx => ?_)
    rcases hx with ⟨_, hno, _⟩ | ⟨rfl, _, hu1, hf1⟩
    · exact absurd hc hno
    · refine b_X7_set_120 ⟨_, rfl, (aR_0 h0 hv.symm).symm, ?_, fun c hc => by rw [cset_ne _ _ (by omega)]; exact hf1 c (by omega)⟩
      unfold stS
      rw [if_pos h0]
      refine hI.mk (hu1.frm (fun a ha hb => cset_ne _ _ (by omega))) ⟨by rw [cset_self, fup_self]; rfl, fun i hi => absurd hi (Nat.not_lt_zero _)⟩ (fun a ha => by rw [cset_ne _ _ (by omega)]; exact hf1 a (by omega))
  refine b_X7_set_0 (fun c => ?_) (fun c => ?_) (fun c => ?_) (fun c => ?_)
  · subst c
    refine b_X7_set_28 (s_outside he1) (fun x g1 hx => ?_)
    obtain ⟨rfl, rfl⟩ := hx
    refine b_X7_set_46 (fun z => ?_) (fun z => bad _ _ z rfl)
    rw [z]
    exact good _ hu.2.2.1 z
  · subst c
    refine b_X7_set_51 (s_outside he1) (fun x g1 hx => ?_)
    obtain ⟨rfl, rfl⟩ := hx
    refine b_X7_set_67 (fun z => ?_) (fun z => bad _ _ z rfl)
    rw [z]
    exact good _ hu.2.2.2.2.1 z
  · subst c
    refine b_X7_set_72 (s_outside he1) (fun x g1 hx => ?_)
    obtain ⟨rfl, rfl⟩ := hx
    refine b_X7_set_87 (fun z => ?_) (fun z => bad _ _ z rfl)
    rw [z]
    exact good _ hu.2.2.2.2.2 z
  · refine b_X7_set_92 (s_refuse he1 ref2) (fun x g1 hx => ?_)
    obtain ⟨rfl, rfl⟩ := hx
    exact b_X7_set_98 (no _ ref2 (by unfold rSe; rw [if_neg c.1, if_neg c.2.1, if_neg c.2.2]))
