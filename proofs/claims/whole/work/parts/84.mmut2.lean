theorem m_point {d : Nat} {g : pG} {st : tSt} {p v : Int} (hd : 11 ≤ d) (hst : OKst st) (hI : IM g st) : CT d mX8_point [vR 45, vI p, vI v] g (QMs g (aH (rPo (sK st) p v) (ptC (sK st) p.toNat)) (stP st p v)) := by
  refine ct_in (L := [vR 45, vI p, vI v, vX 2, vX 2]) (by omega) (Nat.le_of_ble_eq_true rfl) rfl (fun e he => ?_)
  have hK := hst.1
  have r := rPo_cases (sK st) p v
  have r2 := wrN_cases v (-9) 9
  have h8 := hK.2.2.1
  have hI0 := hI.th0
  have e4 : w32 (fup (g 45) 8 0 4 - 1) = (nP (sK st) : Int) - 1 := by rw [fup_ne _ _ (by decide), hI.1.2.2.1, w32_of (by omega) (by omega)]
  generalize hgA : cset g 45 (fup (g 45) 8 0) = gA at hI0
  have hA : ∀ c, c < 45 → gA c = g c := fun c hc => by rw [← hgA]; exact clo hc (by decide)
  have no : ∀ m : Int, m ≠ 0 → isRef m → rPo (sK st) p v = m → QMs g (aH (rPo (sK st) p v) (ptC (sK st) p.toNat)) (stP st p v) (some (vI (w32 (1000000000 - m)))) (refM gA m) := fun m hm hr h => ⟨_, rfl, (aH_n h hm (by rcases hr with rfl | rfl | rfl | rfl | rfl <;> rfl)).symm, by unfold stP; rw [if_neg (by rw [h]; exact hm), h]; exact hI0.ref (Or.inr hr), fun q hq => (refM_lo hq).trans (hA q hq)⟩
  refine b_X8_point_0 (by rw [hgA, e4]; exact m_in (by omega)) (fun x g0 hx => ?_)
  obtain ⟨rfl, rfl⟩ := hx
  clear e4
  have hin : (0 ≤ p ∧ p ≤ (nP (sK st) : Int) - 1) ↔ (0 ≤ p ∧ p < nP (sK st)) := by omega
  refine b_X8_point_18 (fun c => ?_) (fun c => ?_)
  · have c := bi_eq0 c
    refine b_X8_point_32 (m_refuse (by omega) ref1) (fun x g1 hx => ?_)
    obtain ⟨rfl, rfl⟩ := hx
    exact b_X8_point_45 (no _ (by decide) ref1 (by omega))
  · have c := hin.mp (bi_ne0 c)
    refine b_X8_point_21 (m_wrongNumber (by omega)) (fun x g1 hx => ?_)
    obtain ⟨rfl, rfl⟩ := hx
    refine b_X8_point_29 (fun c2 => ?_) (fun c2 => ?_)
    · have hr0 : rPo (sK st) p v = 0 := by omega
      have hv : -9 ≤ v ∧ v ≤ 9 := by omega
      clear no r r2 hin
      obtain ⟨n, rfl⟩ := Int.eq_ofNat_of_zero_le c.1
      have hn : n < nP (sK st) := by omega
      refine b_X8_point_47 (m_keepTurn (K' := setPt (sK st) n v) (by omega) hst hI0.1 hI0.2.2.2.2.2) (fun g3 hx => ?_)
      obtain ⟨hu3, hU3, hf3⟩ := hx
      obtain ⟨m1, m2, m3, m4, m5, m6⟩ := hu3
      refine b_X8_point_51 (by omega) (by omega) ?_
      rw [Int.toNat_natCast, m4 n (by omega)]
      refine ⟨_, rfl, (aH_0 hr0 rfl).symm, ?_, fun q hq => by rw [clo hq (by decide), hf3.1 q (Or.inl hq)]; exact hA q hq⟩
      unfold stP
      rw [if_pos hr0, Int.toNat_natCast]
      refine hI0.mk (K' := setPt (sK st) n v) ⟨by rw [cset_ne _ _ (by decide)]; exact m1, fun k hk => by rw [cset_ne _ _ (by decide), cset_ne _ _ (by decide), cset_ne _ _ (by decide)]; exact m2 k hk, by rw [cset_ne _ _ (by decide)]; exact m3, fun k hk => ?_, by rw [cset_ne _ _ (by decide)]; exact m5, by rw [cset_ne _ _ (by decide)]; exact m6⟩ ⟨by rw [cset_ne _ _ (by decide)]; exact hU3.1, fun i hi => by rw [cset_ne _ _ (by decide)]; exact hU3.2 i hi⟩ (fun a ha => by rw [cset_ne _ _ (by omega)]; exact hf3.1 a (by omega)) (fun s hs => by rw [cset_ne _ _ (by decide)]; exact hf3.2 s (by omega))
      rw [cset_self]
      show _ = fup (ptC (sK st)) n v k
      by_cases e2 : k = n
      · rw [e2, fup_self, fup_self]
      · rw [fup_ne _ _ e2, fup_ne _ _ e2]; exact m4 k hk
    · have hne : wrN v (-9) 9 ≠ 0 := by omega
      refine b_X8_point_38 (m_refuse (by omega) (refW hne)) (fun x g2 hx => ?_)
      obtain ⟨rfl, rfl⟩ := hx
      exact b_X8_point_45 (no _ hne (refW hne) (by omega))
theorem m_kind {d : Nat} {g : pG} {st : tSt} {c kd fg : Int} (hd : 11 ≤ d) (hst : OKst st) (hI : IM g st) : CT d mX8_kind [vR 45, vI c, vI kd, vI fg] g (QMs g (aR (rKi (sK st) c kd fg) (10 * kdC (sK st) c.toNat + fgC (sK st) c.toNat)) (stK st c kd fg)) := by
  refine ct_in (L := [vR 45, vI c, vI kd, vI fg, vX 2, vX 2]) (by omega) (Nat.le_of_ble_eq_true rfl) rfl (fun e he => ?_)
  have hK := hst.1
  have h7 := hK.1
  have r := rKi_cases (sK st) c kd fg
  have r2 := wrN_cases fg 0 9
  have hI0 := hI.th0
  generalize hgA : cset g 45 (fup (g 45) 8 0) = gA at hI0
  have hA : ∀ c, c < 45 → gA c = g c := fun c hc => by rw [← hgA]; exact clo hc (by decide)
  have no : ∀ m : Int, m ≠ 0 → isRef m → rKi (sK st) c kd fg = m → QMs g (aR (rKi (sK st) c kd fg) (10 * kdC (sK st) c.toNat + fgC (sK st) c.toNat)) (stK st c kd fg) (some (vI m)) (refM gA m) := fun m hm hr h => ⟨_, rfl, (aR_n h hm).symm, by unfold stK; rw [if_neg (by rw [h]; exact hm), h]; exact hI0.ref (Or.inr hr), fun q hq => (refM_lo hq).trans (hA q hq)⟩
  refine b_X8_kind_0 (by rw [hgA]; exact m_isCourt (by omega) hK hI0.1) (fun x g0 hx => ?_)
  obtain ⟨rfl, rfl⟩ := hx
  refine b_X8_kind_10 (fun c1 => ?_) (fun c1 => ?_)
  · have c1 := bi_ne0 c1
    refine b_X8_kind_17 (m_in (by omega)) (fun x g1 hx => ?_)
    obtain ⟨rfl, rfl⟩ := hx
    refine b_X8_kind_26 (fun c2 => ?_) (fun c2 => ?_)
    · have c2 := bi_ne0 c2
      refine b_X8_kind_34 (m_wrongNumber (by omega)) (fun x g2 hx => ?_)
      obtain ⟨rfl, rfl⟩ := hx
      refine b_X8_kind_41 (fun c3 => ?_) (fun c3 => ?_)
      · have hr0 : rKi (sK st) c kd fg = 0 := by omega
        clear no r r2
        obtain ⟨n, rfl⟩ := Int.eq_ofNat_of_zero_le c1.1
        have hn : n < nC (sK st) := by omega
        obtain ⟨b1, b2, b3⟩ := hK.2.1 n hn
        refine b_X8_kind_55 (m_keepTurn (K' := setKF (sK st) n kd fg) (by omega) hst hI0.1 hI0.2.2.2.2.2) (fun g3 hx => ?_)
        obtain ⟨hu3, hU3, hf3⟩ := hx
        obtain ⟨m1, m2, m3, m4, m5, m6⟩ := hu3
        obtain ⟨e1, e2, e3⟩ := m2 n hn
        have ew : w32 (w32 (10 * g3 46 n) + g3 47 n) = 10 * kdC (sK st) n + fgC (sK st) n := by
          rw [e1, e2, w32_of (x := 10 * kdC (sK st) n) (by omega) (by omega), w32_of (by omega) (by omega)]
        refine b_X8_kind_59 (by omega) (by omega) ?_
        rw [Int.toNat_natCast, ew]
        clear ew
        refine ⟨_, rfl, (aR_0 hr0 rfl).symm, ?_, fun q hq => by rw [clo hq (by decide), clo hq (by decide), hf3.1 q (Or.inl hq)]; exact hA q hq⟩
        unfold stK
        rw [if_pos hr0, Int.toNat_natCast]
        have o : ∀ a, a ≠ 46 → a ≠ 47 → (cset (cset g3 46 (fup (g3 46) n kd)) 47 (fup (g3 47) n fg)) a = g3 a := fun a ha hb => by rw [cset_ne _ _ hb, cset_ne _ _ ha]
        refine hI0.mk (K' := setKF (sK st) n kd fg) ⟨by rw [o 45 (by decide) (by decide)]; exact m1, fun k hk => ?_, by rw [o 45 (by decide) (by decide)]; exact m3, fun k hk => by rw [o 49 (by decide) (by decide)]; exact m4 k hk, by rw [o 45 (by decide) (by decide)]; exact m5, by rw [o 45 (by decide) (by decide)]; exact m6⟩ ⟨by rw [o 45 (by decide) (by decide)]; exact hU3.1, fun i hi => by rw [o 58 (by decide) (by decide)]; exact hU3.2 i hi⟩ (fun a ha => by rw [o a (by omega) (by omega)]; exact hf3.1 a (by omega)) (fun s hs => by rw [o 45 (by decide) (by decide)]; exact hf3.2 s (by omega))
        rw [cset_ne _ _ (by decide), cset_self, cset_self, o 48 (by decide) (by decide)]
        show _ = fup (kdC (sK st)) n kd k ∧ _ = fup (fgC (sK st)) n fg k ∧ _ = csC (sK st) k
        obtain ⟨f1, f2, f3⟩ := m2 k hk
        by_cases e5 : k = n
        · rw [e5, fup_self, fup_self, fup_self, fup_self]; rw [e5] at f3; exact ⟨rfl, rfl, f3⟩
        · rw [fup_ne _ _ e5, fup_ne _ _ e5, fup_ne _ _ e5, fup_ne _ _ e5]; exact ⟨f1, f2, f3⟩
      · have hne : wrN fg 0 9 ≠ 0 := by omega
        refine b_X8_kind_48 (m_refuse (by omega) (refW hne)) (fun x g3 hx => ?_)
        obtain ⟨rfl, rfl⟩ := hx
        exact b_X8_kind_54 (no _ hne (refW hne) (by omega))
    · have c2 := bi_eq0 (Classical.not_not.mp c2)
      refine b_X8_kind_29 (m_refuse (by omega) ref2) (fun x g2 hx => ?_)
      obtain ⟨rfl, rfl⟩ := hx
      exact b_X8_kind_54 (no _ (by decide) ref2 (by omega))
  · have c1 := bi_eq0 (Classical.not_not.mp c1)
    refine b_X8_kind_13 (m_refuse (by omega) ref1) (fun x g1 hx => ?_)
    obtain ⟨rfl, rfl⟩ := hx
    exact b_X8_kind_54 (no _ (by decide) ref1 (by omega))
theorem m_courtComes {d : Nat} {g : pG} {K : tK} {kd fg cs : Int} (hd : 1 ≤ d) (hu : SM g K) (h7 : nC K < 7) : CT d mX8_courtComes [vR 45, vI kd, vI fg, vI cs] g (qV (fun g' => SM g' (addK K kd fg cs) ∧ (∀ a, (a < 45 ∨ 48 < a) → g' a = g a) ∧ ∀ s, s ≠ 0 → g' 45 s = g 45 s)) := by
  refine ct_in (L := [vR 45, vI kd, vI fg, vI cs]) (by omega) (Nat.le_of_ble_eq_true rfl) rfl (fun e he => ?_)
  obtain ⟨m1, m2, m3, m4, m5, m6⟩ := hu
  refine b_X8_courtComes_0 (by rw [m1]; omega) (by rw [m1]; omega) ?_
  rw [m1, Int.toNat_natCast, w32n (nC K) (by omega)]
  refine ⟨rfl, ⟨by rw [cset_self, fup_self]; rfl, fun k hk => ?_, by rw [cset_self, fup_ne _ _ (by decide)]; exact m3, fun k hk => by rw [cset_ne _ _ (by decide), cset_ne _ _ (by decide), cset_ne _ _ (by decide), cset_ne _ _ (by decide)]; exact m4 k hk, by rw [cset_self, fup_ne _ _ (by decide)]; exact m5, by rw [cset_self, fup_ne _ _ (by decide)]; exact m6⟩, fun a ha => by rw [cset_ne _ _ (by omega), cset_ne _ _ (by omega), cset_ne _ _ (by omega), cset_ne _ _ (by omega)], fun s hs => by rw [cset_self, fup_ne _ _ hs]⟩
  rw [cset_ne _ _ (by decide), cset_ne _ _ (by decide), cset_ne _ _ (by decide), cset_self, cset_ne _ _ (by decide), cset_ne _ _ (by decide), cset_self, cset_ne _ _ (by decide), cset_self]
  show _ = fup (kdC K) (nC K) kd k ∧ _ = fup (fgC K) (nC K) fg k ∧ _ = fup (csC K) (nC K) cs k
  have hk : k < nC K + 1 := hk
  by_cases e5 : k = nC K
  · rw [e5, fup_self, fup_self, fup_self, fup_self, fup_self, fup_self]; exact ⟨rfl, rfl, rfl⟩
  · rw [fup_ne _ _ e5, fup_ne _ _ e5, fup_ne _ _ e5, fup_ne _ _ e5, fup_ne _ _ e5, fup_ne _ _ e5]; exact m2 k (by omega)
theorem m_lowest {d : Nat} {g : pG} {st : tSt} {kd fg cs : Int} (hd : 11 ≤ d) (hst : OKst st) (hI : IM g st) : CT d mX8_lowest [vR 45, vI kd, vI fg, vI cs] g (QMs g (aR (rLo (sK st) kd fg cs) (nC (sK st) + 1 : Nat)) (stA st kd fg cs)) := by
  refine ct_in (L := [vR 45, vI kd, vI fg, vI cs, vX 2]) (by omega) (Nat.le_of_ble_eq_true rfl) rfl (fun e he => ?_)
  have hK := hst.1
  have h7 := hK.1
  have r := rLo_cases (sK st) kd fg cs
  have hI0 := hI.th0
  generalize hgA : cset g 45 (fup (g 45) 8 0) = gA at hI0
  have hA : ∀ c, c < 45 → gA c = g c := fun c hc => by rw [← hgA]; exact clo hc (by decide)
  have hn : gA 45 0 = nC (sK st) := hI0.1.1
  have no : ∀ m : Int, m ≠ 0 → isRef m → rLo (sK st) kd fg cs = m → QMs g (aR (rLo (sK st) kd fg cs) (nC (sK st) + 1 : Nat)) (stA st kd fg cs) (some (vI m)) (refM gA m) := fun m hm hr h => ⟨_, rfl, (aR_n h hm).symm, by unfold stA; rw [if_neg (by rw [h]; exact hm), h]; exact hI0.ref (Or.inr hr), fun q hq => (refM_lo hq).trans (hA q hq)⟩
  refine b_X8_lowest_0 (by rw [hgA]; exact m_in (by omega)) (fun x g0 hx => ?_)
  obtain ⟨rfl, rfl⟩ := hx
  refine b_X8_lowest_17 (fun c1 => ?_) (fun c1 => ?_)
  · have c1 := bi_ne0 c1
    have low : (fg < 0 ∨ cs < 0) → EV e mX8_lowest (QMs g (aR (rLo (sK st) kd fg cs) (nC (sK st) + 1 : Nat)) (stA st kd fg cs)) 35 [vR 45, vI kd, vI fg, vI cs, vI 0] [] g0 := fun h => b_X8_lowest_35 (m_refuse (by omega) ref4) (fun x g1 hx => by obtain ⟨rfl, rfl⟩ := hx; exact b_X8_lowest_78 (no _ (by decide) ref4 (by omega)))
    refine b_X8_lowest_27 (fun c2 => low (Or.inl c2)) (fun c2 => ?_)
    refine b_X8_lowest_31 (fun c3 => ?_) (fun c3 => low (Or.inr (by omega)))
    have high : (9 < fg ∨ 99 < cs ∨ nC (sK st) = 7) → EV e mX8_lowest (QMs g (aR (rLo (sK st) kd fg cs) (nC (sK st) + 1 : Nat)) (stA st kd fg cs)) 63 [vR 45, vI kd, vI fg, vI cs, vI 0] [] g0 := fun h => b_X8_lowest_63 (m_refuse (by omega) ref6) (fun x g1 hx => by obtain ⟨rfl, rfl⟩ := hx; exact b_X8_lowest_78 (no _ (by decide) ref6 (by omega)))
    refine b_X8_lowest_42 (fun c4 => high (Or.inl c4)) (fun c4 => ?_)
    refine b_X8_lowest_48 (fun c5 => high (Or.inr (Or.inl c5))) (fun c5 => ?_)
    refine b_X8_lowest_54 (fun c6 => ?_) (fun c6 => high (Or.inr (Or.inr (by omega))))
    have hr0 : rLo (sK st) kd fg cs = 0 := by omega
    refine b_X8_lowest_67 (fun _ => ?_) (fun z => absurd (by decide) z)
    refine b_X8_lowest_79 (m_keepTurn (K' := addK (sK st) kd fg cs) (by omega) hst hI0.1 hI0.2.2.2.2.2) (fun g3 hx => ?_)
    obtain ⟨hu3, hU3, hf3⟩ := hx
    refine b_X8_lowest_83 (m_courtComes (by omega) hu3 (by omega)) (fun g4 hx => ?_)
    obtain ⟨hu4, hf4, hf45⟩ := hx
    refine b_X8_lowest_90 ⟨_, rfl, (aR_0 hr0 hu4.1.symm).symm, ?_, fun q hq => by rw [hf4 q (Or.inl hq), hf3.1 q (Or.inl hq)]; exact hA q hq⟩
    unfold stA
    rw [if_pos hr0]
    exact hI0.mk hu4 ⟨by rw [hf45 28 (by decide)]; exact hU3.1, fun i hi => by rw [hf4 58 (by decide)]; exact hU3.2 i hi⟩ (fun a ha => by rw [hf4 a (by omega)]; exact hf3.1 a (by omega)) (fun s hs => by rw [hf45 s (by omega)]; exact hf3.2 s (by omega))
  · have c1 := bi_eq0 (Classical.not_not.mp c1)
    refine b_X8_lowest_20 (m_refuse (by omega) ref2) (fun x g1 hx => ?_)
    obtain ⟨rfl, rfl⟩ := hx
    exact b_X8_lowest_78 (no _ (by decide) ref2 (by omega))
theorem m_setMany {d v : Nat} {g : pG} {K : tK} (hd : 1 ≤ d) (hu : SM g K) (hv : 1 ≤ v ∧ v ≤ 8) : CT d mX8_setMany [vR 45, vI v] g (qV (fun g' => SM g' (setN K v) ∧ (∀ a, (a < 45 ∨ (45 < a ∧ a ≠ 49)) → g' a = g a) ∧ ∀ s, s ≠ 4 → g' 45 s = g 45 s)) := by
  refine ct_in (L := [vR 45, vI v, vX 2]) (by omega) (Nat.le_of_ble_eq_true rfl) rfl (fun e he => ?_)
  obtain ⟨m1, m2, m3, m4, m5, m6⟩ := hu
  refine b_X8_setMany_0 ?_
  refine loopN (P := fun k g' => (∀ a, a ≠ 45 → a ≠ 49 → g' a = g a) ∧ (∀ s, s ≠ 4 → g' 45 s = g 45 s) ∧ g' 45 4 = v ∧ (∀ j, j < v → g' 49 j = g 49 j) ∧ ∀ j, v ≤ j → j < k → g' 49 j = 0) 8 (fun k g' => v ≤ k → ∀ q : Int, q = k → EV e mX8_setMany _ 7 [vR 45, vI v, vI q] [] g') ?_ ?_ v _ hv.2 ⟨fun a h1 h2 => cset_ne _ _ h1, fun s hs => by rw [cset_self, fup_ne _ _ hs], by rw [cset_self, fup_self], fun j _ => by rw [cset_ne _ _ (by decide)], fun j h1 h2 => absurd h2 (Nat.not_lt.mpr h1)⟩ (Nat.le_refl _) _ rfl
  · rintro k g1 hk ⟨f1, f2, f3, f4, f5⟩ ih hvk q rfl
    have k0 : (0 : Int) ≤ (k : Int) := Int.natCast_nonneg _
    have k8 : (k : Int) < 8 := Int.ofNat_lt.mpr hk
    refine b_X8_setMany_7 (fun c => absurd k8 (Int.not_lt.mpr c)) (fun _ => ?_)
    refine b_X8_setMany_13 k0 k8 ?_
    rw [Int.toNat_natCast]
    refine ih _ ⟨fun a h1 h2 => by rw [cset_ne _ _ h2]; exact f1 a h1 h2, fun s hs => by rw [cset_ne _ _ (by decide)]; exact f2 s hs, by rw [cset_ne _ _ (by decide)]; exact f3, fun j hj => by rw [cset_self, fup_ne _ _ (by omega)]; exact f4 j hj, fun j h1 h2 => ?_⟩ (by omega) _ (w32n k (Int.lt_trans k8 (by decide)))
    rw [cset_self]
    by_cases e5 : j = k
    · rw [e5, fup_self]
    · rw [fup_ne _ _ e5]; exact f5 j h1 (by omega)
  · rintro g1 ⟨f1, f2, f3, f4, f5⟩ hvk q rfl
    refine b_X8_setMany_7 (fun _ => ?_) (fun c => absurd (by decide) c)
    refine b_X8_setMany_26 ⟨rfl, ⟨by rw [f2 0 (by decide)]; exact m1, fun k hk => by rw [f1 46 (by decide) (by decide), f1 47 (by decide) (by decide), f1 48 (by decide) (by decide)]; exact m2 k hk, f3, fun k hk => ?_, by rw [f2 6 (by decide)]; exact m5, by rw [f2 7 (by decide)]; exact m6⟩, fun a ha => f1 a (by omega) (by omega), f2⟩
    show _ = (if k < v then ptC K k else 0)
    by_cases e5 : k < v
    · rw [if_pos e5, f4 k e5]; exact m4 k hk
    · rw [if_neg e5]; exact f5 k (by omega) hk
