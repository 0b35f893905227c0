theorem set_id {g : pG} (j : Nat) : cset g 45 (fup (g 45) j (g 45 j)) = g := setS_id g 45 j
theorem m_set {d : Nat} {g : pG} {st : tSt} {w v : Int} (hd : 11 ≤ d) (hst : OKst st) (hI : IM g st) : CT d mX8_set [vR 45, vI w, vI v] g (QMs g (aR (rSe w v) (aSe (sK st) w)) (stS st w v)) := by
  refine ct_in (L := [vR 45, vI w, vI v, vX 2, vX 2]) (by omega) (Nat.le_of_ble_eq_true rfl) rfl (fun e he => ?_)
  have hK := hst.1
  have r := rSe_chg w v
  have he1 : 1 ≤ e := by omega
  have hI0 := hI.th0
  generalize hgA : cset g 45 (fup (g 45) 8 0) = gA at hI0
  have hA : ∀ c, c < 45 → gA c = g c := fun c hc => by rw [← hgA]; exact clo hc (by decide)
  have no : ∀ m : Int, isRef m → rSe w v = m → QMs g (aR (rSe w v) (aSe (sK st) w)) (stS st w v) (some (vI m)) (refM gA m) := fun m hr h => ⟨_, rfl, (aR_n h hr.ne).symm, by unfold stS; rw [if_neg (by rw [h]; exact hr.ne), h]; exact hI0.ref (Or.inr hr), fun q hq => (refM_lo hq).trans (hA q hq)⟩
  -- the end: the case changed, nothing to be taken back
  have done : ∀ (g1 : pG) (a : Int), rSe w v = 0 → a = aSe (sK st) w → SM g1 (chgK (sK st) w v) → g1 45 28 = 0 → (∀ a, (a < 45 ∨ a = 50 ∨ a = 52 ∨ a = 57 ∨ a = 68) → g1 a = gA a) → (∀ s, (s = 13 ∨ s = 41 ∨ s = 22) → g1 45 s = gA 45 s) → QMs g (aR (rSe w v) (aSe (sK st) w)) (stS st w v) (some (vI a)) g1 := by
    intro g1 a h0 ha hu h28 hf hf5
    refine ⟨_, rfl, (aR_0 h0 ha.symm).symm, ?_, fun q hq => (hf q (Or.inl hq)).trans (hA q hq)⟩
    unfold stS
    rw [if_pos h0]
    exact hI0.mk hu ⟨h28, fun i hi => absurd hi (Nat.not_lt_zero _)⟩ (fun a ha => hf a (Or.inr ha)) hf5
  have bad : ∀ x : Int, x ≠ 0 → x ≤ 0 → rSe w v = x → EV e mX8_set (QMs g (aR (rSe w v) (aSe (sK st) w)) (stS st w v)) 43 [vR 45, vI w, vI v, vX 2, vX 2] [vI x] gA := by
    intro x hx hx0 h
    have hr : isRef x := by
      rcases r with z | z
      · exact absurd (h.symm.trans z.1) hx
      · rw [← h]; exact z.1
    refine b_X8_set_43 (fun c => absurd c (by omega)) (fun _ => ?_)
    refine b_X8_set_53 (m_refuse he1 hr) (fun x' g1 hx => ?_)
    obtain ⟨rfl, rfl⟩ := hx
    exact b_X8_set_58 (no _ hr h)
  obtain ⟨m1, m2, m3, m4, m5, m6⟩ := hI0.1
  refine b_X8_set_0 (by rw [hgA]; exact m_in he1) (fun x g0 hx => ?_)
  obtain ⟨rfl, rfl⟩ := hx
  refine b_X8_set_14 (fun c => ?_) (fun c => ?_)
  · have c := bi_eq0 c
    refine b_X8_set_46 (m_refuse he1 ref2) (fun x g1 hx => ?_)
    obtain ⟨rfl, rfl⟩ := hx
    exact b_X8_set_58 (no _ ref2 (by unfold rSe; rw [if_neg (by omega), if_neg (by omega), if_neg (by omega)]))
  · have c := bi_ne0 c
    rcases (show w = 0 ∨ w = 1 ∨ w = 2 by omega) with rfl | rfl | rfl
    · refine b_X8_set_17 (fun z => absurd rfl z) (fun _ => ?_)
      refine b_X8_set_22 (fun _ => ?_) (fun z => absurd (by decide) z)
      refine b_X8_set_38 (m_wrongNumber he1) (fun x g1 hx => ?_)
      obtain ⟨rfl, rfl⟩ := hx
      have r1 := wrN_cases v 1 8
      by_cases h0 : wrN v 1 8 = 0
      · obtain ⟨n, rfl⟩ := Int.eq_ofNat_of_zero_le (show 0 ≤ v by omega)
        refine b_X8_set_43 (fun _ => ?_) (fun z => absurd (by omega) z)
        refine b_X8_set_59 (fun z => absurd rfl z) (fun _ => ?_)
        refine b_X8_set_63 (fun z => absurd rfl z) (fun _ => ?_)
        refine b_X8_set_92 (m_setMany he1 hI0.1 (by omega)) (fun g2 hx => ?_)
        obtain ⟨hu2, hf2, hf5⟩ := hx
        refine b_X8_set_97 (fun _ => ?_) (fun z => absurd (by decide) z)
        refine b_X8_set_107 (fun _ => ?_) (fun z => absurd (by decide) z)
        rw [set_id]
        refine b_X8_set_124 ?_
        rw [set_id, show fup (fup (g2 45) 7 (g2 45 7)) 28 0 = fup (g2 45) 28 0 by rw [fup_id (f := g2 45) rfl]]
        refine done _ _ h0 m3 ?_ (by rw [cset_self, fup_self]) (fun a ha => by rw [cset_ne _ _ (by omega)]; exact hf2 a (by omega)) (fun s hs => by rw [cset_self, fup_ne _ _ (by omega)]; exact hf5 s (by omega))
        have hu3 := hu2.set28 (v := 0)
        have e9 : chgK (sK st) 0 (n : Int) = setN (sK st) n := by show setN (sK st) (n : Int).toNat = _; rw [Int.toNat_natCast]
        rw [e9]; exact hu3
      · exact bad _ h0 (by omega) rfl
    · refine b_X8_set_17 (fun _ => ?_) (fun z => absurd (by decide) z)
      refine b_X8_set_26 (fun z => absurd rfl z) (fun _ => ?_)
      refine b_X8_set_32 (m_wrongNumber he1) (fun x g1 hx => ?_)
      obtain ⟨rfl, rfl⟩ := hx
      have r1 := wrN_cases v 0 999
      by_cases h0 : wrN v 0 999 = 0
      · refine b_X8_set_43 (fun _ => ?_) (fun z => absurd (by omega) z)
        refine b_X8_set_59 (fun _ => ?_) (fun z => absurd (by decide) z)
        refine b_X8_set_70 (fun z => absurd rfl z) (fun _ => ?_)
        refine b_X8_set_75 (fun _ => ?_) (fun z => absurd (by decide) z)
        refine b_X8_set_97 (fun z => absurd rfl z) (fun _ => ?_)
        refine b_X8_set_103 (fun _ => ?_) (fun z => absurd (by decide) z)
        generalize hgB : cset g1 45 (fup (g1 45) 6 v) = gB
        have o5 : ∀ s, s ≠ 6 → gB 45 s = g1 45 s := fun s hs => by rw [← hgB, cset_self, fup_ne _ _ hs]
        have o : ∀ a, a ≠ 45 → gB a = g1 a := fun a ha => by rw [← hgB, cset_ne _ _ ha]
        have huB : SM gB (setSk (sK st) v) := ⟨by rw [o5 0 (by decide)]; exact m1, fun k hk => by rw [o 46 (by decide), o 47 (by decide), o 48 (by decide)]; exact m2 k hk, by rw [o5 4 (by decide)]; exact m3, fun k hk => by rw [o 49 (by decide)]; exact m4 k hk, by rw [← hgB, cset_self, fup_self]; rfl, by rw [o5 7 (by decide)]; exact m6⟩
        refine b_X8_set_124 ?_
        rw [set_id, show fup (fup (gB 45) 7 (gB 45 7)) 28 0 = fup (gB 45) 28 0 by rw [fup_id (f := gB 45) rfl]]
        exact done _ _ h0 m5 (huB.set28 (v := 0)) (by rw [cset_self, fup_self]) (fun a ha => by rw [cset_ne _ _ (by omega)]; exact o a (by omega)) (fun s hs => by rw [cset_self, fup_ne _ _ (by omega)]; exact o5 s (by omega))
      · exact bad _ h0 (by omega) rfl
    · refine b_X8_set_17 (fun _ => ?_) (fun z => absurd (by decide) z)
      refine b_X8_set_26 (fun _ => ?_) (fun z => absurd (by decide) z)
      refine b_X8_set_38 (m_wrongNumber he1) (fun x g1 hx => ?_)
      obtain ⟨rfl, rfl⟩ := hx
      have r1 := wrN_cases v 0 8
      by_cases h0 : wrN v 0 8 = 0
      · refine b_X8_set_43 (fun _ => ?_) (fun z => absurd (by omega) z)
        refine b_X8_set_59 (fun _ => ?_) (fun z => absurd (by decide) z)
        refine b_X8_set_70 (fun _ => ?_) (fun z => absurd (by decide) z)
        refine b_X8_set_82 (fun _ => ?_) (fun z => absurd (by decide) z)
        refine b_X8_set_97 (fun _ => ?_) (fun z => absurd (by decide) z)
        refine b_X8_set_107 (fun z => absurd rfl z) (fun _ => ?_)
        rw [set_id]
        refine b_X8_set_120 ?_
        generalize hgB : cset g1 45 (fup (g1 45) 7 v) = gB
        have o5 : ∀ s, s ≠ 7 → gB 45 s = g1 45 s := fun s hs => by rw [← hgB, cset_self, fup_ne _ _ hs]
        have o : ∀ a, a ≠ 45 → gB a = g1 a := fun a ha => by rw [← hgB, cset_ne _ _ ha]
        have e7 : fup (g1 45) 7 v = gB 45 := by rw [← hgB, cset_self]
        rw [e7]
        have huB : SM gB (setLn (sK st) v) := ⟨by rw [o5 0 (by decide)]; exact m1, fun k hk => by rw [o 46 (by decide), o 47 (by decide), o 48 (by decide)]; exact m2 k hk, by rw [o5 4 (by decide)]; exact m3, fun k hk => by rw [o 49 (by decide)]; exact m4 k hk, by rw [o5 6 (by decide)]; exact m5, by rw [← hgB, cset_self, fup_self]; rfl⟩
        exact done _ _ h0 m6 (huB.set28 (v := 0)) (by rw [cset_self, fup_self]) (fun a ha => by rw [cset_ne _ _ (by omega)]; exact o a (by omega)) (fun s hs => by rw [cset_self, fup_ne _ _ (by omega)]; exact o5 s (by omega))
      · exact bad _ h0 (by omega) rfl
theorem m_back {d : Nat} {g : pG} {st : tSt} (hd : 11 ≤ d) (hst : OKst st) (hI : IM g st) : CT d mX8_back [vR 45] g (QMs g (aR (rBa (sUm st)) (sUm st - 1 : Nat)) (stBk st)) := by
  refine ct_in (L := [vR 45, vX 2]) (by omega) (Nat.le_of_ble_eq_true rfl) rfl (fun e he => ?_)
  have hI0 := hI.th0
  have h28 : fup (g 45) 8 0 28 = sUm st := hI.2.2.2.2.2.1
  have h8 := hst.2.2.2.2.1
  refine b_X8_back_0 (fun c => ?_) (fun c => ?_)
  · rw [h28] at c
    generalize hgA : cset g 45 (fup (g 45) 8 0) = gA at hI0
    have hA : ∀ c, c < 45 → gA c = g c := fun c hc => by rw [← hgA]; exact clo hc (by decide)
    have hm : sUm st ≠ 0 := by omega
    obtain ⟨n, hn⟩ : ∃ n, sUm st = n + 1 := ⟨sUm st - 1, by omega⟩
    have en : sUm st - 1 = n := by omega
    obtain ⟨u1, u2⟩ := hI0.2.2.2.2.2
    have ew : w32 (gA 45 28 - 1) = (n : Int) := by rw [u1, hn]; exact w32m n (by omega)
    have hs := u2 n (by omega)
    have hKn := hst.2.2.2.2.2.1 n (by omega)
    refine b_X8_back_19 ?_
    rw [ew]
    refine loopN (P := fun k g' => g' 45 28 = n ∧ frZ gA g' ∧ g' 58 = gA 58 ∧ ∀ j, j < k → g' 59 j = gA 58 (33 * n + j)) 33 (fun k g' => ∀ q : Int, q = k → EV e mX8_back (QMs g (aR (rBa (sUm st)) (sUm st - 1 : Nat)) (stBk st)) 31 [vR 45, vI q] [] g') ?_ ?_ 0 _ (Nat.zero_le _) ⟨by rw [cset_self, fup_self], frZ.s28 _, cset_ne _ _ (by decide), fun j hj => absurd hj (Nat.not_lt_zero _)⟩ _ rfl
    · rintro k g2 hk ⟨a28, hf2, a58, a59⟩ ih q rfl
      have k0 : (0 : Int) ≤ (k : Int) := Int.natCast_nonneg _
      have k33 : (k : Int) < 33 := Int.ofNat_lt.mpr hk
      have n8 : n < 8 := by clear ih ew; omega
      obtain ⟨x1, x2⟩ := ix33 n k n8 hk
      refine b_X8_back_31 (fun z => absurd k33 (Int.not_lt.mpr z)) (fun _ => ?_)
      refine b_X8_back_37 (by rw [a28, x1]; exact Int.natCast_nonneg _) (by rw [a28, x1]; exact x2) k0 k33 ?_
      rw [a28, x1, Int.toNat_natCast, Int.toNat_natCast, a58]
      clear x1 x2
      refine ih _ ⟨by rw [cset_ne _ _ (by decide)]; exact a28, hf2.tr (frZ.s59 _), by rw [cset_ne _ _ (by decide)]; exact a58, fun j hj => ?_⟩ _ (w32n k (Int.lt_trans k33 (by decide)))
      rw [cset_self]
      by_cases e5 : j = k
      · rw [e5, fup_self]
      · rw [fup_ne _ _ e5]; exact a59 j (by clear ih ew; omega)
    · rintro g2 ⟨a28, hf2, a58, a59⟩ q rfl
      refine b_X8_back_31 (fun _ => ?_) (fun z => absurd (by decide) z)
      have hs2 : SNP (g2 59) (sUs st n) := hs.to hKn (fun j hj => a59 j hj)
      refine b_X8_back_63 (m_bring (by omega) lay59 (by decide) hKn hs2) (fun g3 hx => ?_)
      obtain ⟨_, hu3, hf3⟩ := hx
      have e28 : g3 45 28 = (n : Int) := by rw [hf3.2 28 (by decide)]; exact a28
      refine b_X8_back_72 ⟨_, rfl, (aR_0 (if_neg hm) (by rw [e28, en])).symm, ?_, fun q hq => by rw [hf3.1 q (Or.inl hq) (by clear ew; omega), hf2.1 q (Or.inl hq)]; exact hA q hq⟩
      unfold stBk stB
      rw [if_neg hm, en]
      refine hI0.mk hu3 ⟨e28, fun i hi => ?_⟩ (fun a ha => by rw [hf3.1 a (by omega) (by omega)]; exact hf2.1 a (by omega)) (fun s hs => by rw [hf3.2 s (by omega)]; exact hf2.2 s (by omega))
      rw [hf3.1 58 (by decide) (by decide), a58]
      exact u2 i (by omega)
  · rw [h28] at c
    have hm : sUm st = 0 := by omega
    refine b_X8_back_12 (m_refuse (by omega) ref3) (fun x g1 hx => ?_)
    obtain ⟨rfl, rfl⟩ := hx
    exact b_X8_back_18 ⟨_, rfl, (aR_n (if_pos hm) (by decide)).symm, by unfold stBk; rw [if_pos hm]; exact hI0.ref (Or.inr ref3), fun q hq => (refM_lo hq).trans (clo hq (by decide))⟩
theorem m_image {d : Nat} {g : pG} {st : tSt} (hd : 11 ≤ d) (hst : OKst st) (hI : IM g st) : CT d mX8_image [vR 45] g (QMs g (nC (sK st)) (stI st)) := by
  refine ct_in (L := [vR 45]) (by omega) (Nat.le_of_ble_eq_true rfl) rfl (fun e he => ?_)
  have hK := hst.1
  have hI0 := hI.th0
  have e22 : cset (cset g 45 (fup (g 45) 8 0)) 45 (fup (fup (g 45) 8 0) 22 1) = cset (cset g 45 (fup (g 45) 8 0)) 45 (fup ((cset g 45 (fup (g 45) 8 0)) 45) 22 1) := by rw [cset_self]
  refine b_X8_image_0 (R := fun g' => SNP (g' 57) (sK st) ∧ SM g' (sK st) ∧ frY 57 (cset (cset g 45 (fup (g 45) 8 0)) 45 (fup ((cset g 45 (fup (g 45) 8 0)) 45) 22 1)) g') ?_ (fun g1 hx => ?_)
  · rw [e22]
    refine m_keep (by omega) lay57 (by decide) hK ?_
    generalize cset g 45 (fup (g 45) 8 0) = gB at hI0
    obtain ⟨m1, m2, m3, m4, m5, m6⟩ := hI0.1
    exact ⟨by rw [cset_self, fup_ne _ _ (by decide)]; exact m1, fun k hk => by rw [cset_ne _ _ (by decide), cset_ne _ _ (by decide), cset_ne _ _ (by decide)]; exact m2 k hk, by rw [cset_self, fup_ne _ _ (by decide)]; exact m3, fun k hk => by rw [cset_ne _ _ (by decide)]; exact m4 k hk, by rw [cset_self, fup_ne _ _ (by decide)]; exact m5, by rw [cset_self, fup_ne _ _ (by decide)]; exact m6⟩
  · clear e22
    generalize hgA : cset g 45 (fup (g 45) 8 0) = gA at hI0 hx
    have hA : ∀ c, c < 45 → gA c = g c := fun c hc => by rw [← hgA]; exact clo hc (by decide)
    obtain ⟨hs, hu1, hf1⟩ := hx
    obtain ⟨h1, ⟨h2, h2'⟩, ⟨h3, h3', h3''⟩, h4, ⟨h5, h5'⟩, ⟨h6, h6'⟩⟩ := hI0
    have o : ∀ a, (a < 45 ∨ 50 ≤ a) → a ≠ 57 → g1 a = gA a := fun a ha hb => by rw [hf1.1 a ha hb, cset_ne _ _ (by omega)]
    have o5 : ∀ s, (s = 13 ∨ s = 41 ∨ s = 28) → g1 45 s = gA 45 s := fun s hs => by rw [hf1.2 s (by omega), cset_self, fup_ne _ _ (by omega)]
    exact b_X8_image_19 ⟨_, rfl, hu1.1, ⟨hu1, ⟨by rw [o5 13 (by decide)]; exact h2, fun i hi => by rw [o 52 (by decide) (by decide)]; exact h2' i hi⟩, ⟨by rw [o5 41 (by decide)]; exact h3, h3', fun i hi => by rw [o 68 (by decide) (by decide)]; exact h3'' i hi⟩, fun j hj => by rw [o 50 (by decide) (by decide)]; exact h4 j hj, ⟨by rw [hf1.2 22 (by decide), cset_self, fup_self]; rfl, fun _ => hs⟩, ⟨by rw [o5 28 (by decide)]; exact h6, fun i hi => by rw [o 58 (by decide) (by decide)]; exact h6' i hi⟩⟩, fun q hq => (o q (Or.inl hq) (by omega)).trans (hA q hq)⟩
theorem m_restore {d : Nat} {g : pG} {st : tSt} (hd : 11 ≤ d) (hst : OKst st) (hI : IM g st) : CT d mX8_restore [vR 45] g (QMs g (aR (rRe (sFl st)) (nC (sKi st))) (stRe st)) := by
  refine ct_in (L := [vR 45]) (by omega) (Nat.le_of_ble_eq_true rfl) rfl (fun e he => ?_)
  have hI0 := hI.th0
  have h22 : fup (g 45) 8 0 22 = sFl st := hI.2.2.2.2.1.1
  refine b_X8_restore_0 (fun c => ?_) (fun c => ?_)
  · rw [h22] at c
    generalize hgA : cset g 45 (fup (g 45) 8 0) = gA at hI0
    have hA : ∀ c, c < 45 → gA c = g c := fun c hc => by rw [← hgA]; exact clo hc (by decide)
    have h1 : sFl st = 1 := hst.2.2.1.resolve_left c
    have hKi := hst.2.2.2.1 h1
    refine b_X8_restore_19 (m_bring (by omega) lay57 (by decide) hKi (hI0.2.2.2.2.1.2 h1)) (fun g1 hx => ?_)
    obtain ⟨hs, hu1, hf1⟩ := hx
    refine b_X8_restore_28 ⟨_, rfl, (aR_0 (if_neg c) (by rw [fup_ne _ _ (by decide)]; exact hu1.1.symm)).symm, ?_, fun q hq => by rw [clo hq (by decide), hf1.1 q (Or.inl hq) (by omega)]; exact hA q hq⟩
    unfold stRe
    rw [if_neg c]
    have hs0 := hI0.2.2.2.2.1
    obtain ⟨h1', ⟨h2, h2'⟩, ⟨h3, h3', h3''⟩, h4, ⟨h5, h5'⟩, h6⟩ := hI0
    have o : ∀ a, (a < 45 ∨ 50 ≤ a) → a ≠ 57 → (cset g1 45 (fup (g1 45) 28 0)) a = gA a := fun a ha hb => by rw [cset_ne _ _ (by omega)]; exact hf1.1 a ha hb
    have o5 : ∀ s, (s = 13 ∨ s = 41 ∨ s = 22) → (cset g1 45 (fup (g1 45) 28 0)) 45 s = gA 45 s := fun s hs => by rw [cset_self, fup_ne _ _ (by omega)]; exact hf1.2 s (by omega)
    exact ⟨hu1.set28, ⟨by rw [o5 13 (by decide)]; exact h2, fun i hi => by rw [o 52 (by decide) (by decide)]; exact h2' i hi⟩, ⟨by rw [o5 41 (by decide)]; exact h3, h3', fun i hi => by rw [o 68 (by decide) (by decide)]; exact h3'' i hi⟩, fun j hj => by rw [o 50 (by decide) (by decide)]; exact h4 j hj, ⟨by rw [o5 22 (by decide)]; exact h5, fun _ => by rw [cset_ne _ _ (by decide)]; exact hs⟩, ⟨by rw [cset_self, fup_self]; rfl, fun i hi => absurd hi (Nat.not_lt_zero _)⟩⟩
  · rw [h22] at c
    have h0 : sFl st = 0 := Classical.not_not.mp c
    refine b_X8_restore_12 (m_refuse (by omega) ref3) (fun x g1 hx => ?_)
    obtain ⟨rfl, rfl⟩ := hx
    exact b_X8_restore_18 ⟨_, rfl, (aR_n (if_pos h0) (by decide)).symm, by unfold stRe; rw [if_pos h0]; exact hI0.ref (Or.inr ref3), fun q hq => (refM_lo hq).trans (clo hq (by decide))⟩
