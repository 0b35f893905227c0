/-- the model's undo -/
def frZ (g g' : pG) : Prop := (∀ a, (a < 45 ∨ (50 ≤ a ∧ a ≠ 58 ∧ a ≠ 59)) → g' a = g a) ∧ ∀ s, (s ≠ 0 ∧ s ≠ 4 ∧ s ≠ 6 ∧ s ≠ 7 ∧ s ≠ 23 ∧ s ≠ 24 ∧ s ≠ 25 ∧ s ≠ 28) → g' 45 s = g 45 s
theorem frZ.tr {g g1 g2 : pG} (h1 : frZ g g1) (h2 : frZ g1 g2) : frZ g g2 := ⟨fun a ha => (h2.1 a ha).trans (h1.1 a ha), fun s hs => (h2.2 s hs).trans (h1.2 s hs)⟩
theorem frZ.rf {g : pG} : frZ g g := ⟨fun _ _ => rfl, fun _ _ => rfl⟩
theorem frY.z {g g' : pG} (h : frY 59 g g') : frZ g g' := ⟨fun a ha => h.1 a (by omega) (by omega), fun s hs => h.2 s (by omega)⟩
theorem SM.set28 {g : pG} {K : tK} {v : Int} (h : SM g K) : SM (cset g 45 (fup (g 45) 28 v)) K := by
  obtain ⟨m1, m2, m3, m4, m5, m6⟩ := h
  exact ⟨by rw [cset_self, fup_ne _ _ (by decide)]; exact m1, fun k hk => by rw [cset_ne _ _ (by decide), cset_ne _ _ (by decide), cset_ne _ _ (by decide)]; exact m2 k hk, by rw [cset_self, fup_ne _ _ (by decide)]; exact m3, fun k hk => by rw [cset_ne _ _ (by decide)]; exact m4 k hk, by rw [cset_self, fup_ne _ _ (by decide)]; exact m5, by rw [cset_self, fup_ne _ _ (by decide)]; exact m6⟩
theorem SM.oth {g : pG} {K : tK} {c : Nat} (f : tF) (h : SM g K) (hc : c < 45 ∨ 50 ≤ c) : SM (cset g c f) K := by
  have o : ∀ a, 45 ≤ a → a ≤ 49 → cset g c f a = g a := fun a h1 h2 => cset_ne _ _ (by omega)
  obtain ⟨m1, m2, m3, m4, m5, m6⟩ := h
  exact ⟨by rw [o 45 (by decide) (by decide)]; exact m1, fun k hk => by rw [o 46 (by decide) (by decide), o 47 (by decide) (by decide), o 48 (by decide) (by decide)]; exact m2 k hk, by rw [o 45 (by decide) (by decide)]; exact m3, fun k hk => by rw [o 49 (by decide) (by decide)]; exact m4 k hk, by rw [o 45 (by decide) (by decide)]; exact m5, by rw [o 45 (by decide) (by decide)]; exact m6⟩
theorem frZ.s28 {g : pG} (v : Int) : frZ g (cset g 45 (fup (g 45) 28 v)) := ⟨fun a ha => cset_ne _ _ (by omega), fun s hs => by rw [cset_self, fup_ne _ _ (by omega)]⟩
theorem frZ.s58 {g : pG} (f : tF) : frZ g (cset g 58 f) := ⟨fun a ha => cset_ne _ _ (by omega), fun s hs => by rw [cset_ne _ _ (by decide)]⟩
theorem frZ.s59 {g : pG} (f : tF) : frZ g (cset g 59 f) := ⟨fun a ha => cset_ne _ _ (by omega), fun s hs => by rw [cset_ne _ _ (by decide)]⟩
theorem ix33 (m j : Nat) (h : m < 8) (h2 : j < 33) : w32 (w32 (33 * (m : Int)) + (j : Int)) = ((33 * m + j : Nat) : Int) ∧ ((33 * m + j : Nat) : Int) < 264 := by
  refine ⟨?_, by omega⟩
  rw [w32_of (x := 33 * (m : Int)) (by omega) (by omega), w32_of (by omega) (by omega)]; omega
theorem lay59 : LAY[59]? = some (20, [33]) := rfl
theorem lay57 : LAY[57]? = some (20, [33]) := rfl
theorem lay56 : LAY[56]? = some (20, [33]) := rfl
theorem m_keepTurn {d : Nat} {g : pG} {st : tSt} {K' : tK} (hd : 4 ≤ d) (hst : OKst st) (hu : SM g (sK st)) (hU : UM g (sUm st) (sUs st)) : CT d mX8_keepTurn [vR 45] g (qV (fun g' => SM g' (sK st) ∧ UM g' (sUm (stU st K')) (sUs (stU st K')) ∧ frZ g g')) := by
  refine ct_in (L := [vR 45, vX 2]) (by omega) (Nat.le_of_ble_eq_true rfl) rfl (fun e he => ?_)
  have hK := hst.1
  obtain ⟨hu8, huK⟩ : sUm st ≤ 8 ∧ sUs st (sUm st) = sK st := ⟨hst.2.2.2.2.1, hst.2.2.2.2.2.2⟩
  obtain ⟨u1, u2⟩ := hU
  have fin : ∀ (g1 : pG) (m : Nat) (S : Nat → tK) (u1 : pV), m < 8 → SM g1 (sK st) → SNP (g1 59) (sK st) → g1 45 28 = m → (∀ i, i < m → SNP (fun j => g1 58 (33 * i + j)) (S i)) → (∀ i, i < m → KOK (S i)) → frZ g g1 → (m + 1 = sUm (stU st K') ∧ (∀ i, i < m → sUs (stU st K') i = S i) ∧ sUs (stU st K') m = sK st) → EV e mX8_keepTurn (qV (fun g' => SM g' (sK st) ∧ UM g' (sUm (stU st K')) (sUs (stU st K')) ∧ frZ g g')) 59 [vR 45, u1] [] g1 := by
    intro g1 m S u1 hm hu1 hs1 h28 hS hSK hf1 hst2
    refine b_X8_keepTurn_59 ?_
    refine loopN (P := fun k g' => SM g' (sK st) ∧ frZ g g' ∧ g' 45 28 = m ∧ g' 59 = g1 59 ∧ (∀ q, q < 33 * m → g' 58 q = g1 58 q) ∧ ∀ j, j < k → g' 58 (33 * m + j) = g1 59 j) 33 (fun k g' => ∀ q : Int, q = k → EV e mX8_keepTurn _ 61 [vR 45, vI q] [] g') ?_ ?_ 0 g1 (Nat.zero_le _) ⟨hu1, hf1, h28, rfl, fun _ _ => rfl, fun j hj => absurd hj (Nat.not_lt_zero _)⟩ _ rfl
    · rintro k g2 hk ⟨hu2, hf2, a28, a59, a58, b58⟩ ih q rfl
      have k0 : (0 : Int) ≤ (k : Int) := Int.natCast_nonneg _
      have k33 : (k : Int) < 33 := Int.ofNat_lt.mpr hk
      obtain ⟨x1, x2⟩ := ix33 m k hm hk
      refine b_X8_keepTurn_61 (fun c => absurd k33 (Int.not_lt.mpr c)) (fun _ => ?_)
      refine b_X8_keepTurn_67 k0 k33 (by rw [a28, x1]; exact Int.natCast_nonneg _) (by rw [a28, x1]; exact x2) ?_
      rw [a28, x1, Int.toNat_natCast, Int.toNat_natCast, a59]
      clear x1 x2
      refine ih _ ⟨hu2.oth _ (Or.inr (by decide)), hf2.tr (frZ.s58 _), by rw [cset_ne _ _ (by decide)]; exact a28, by rw [cset_ne _ _ (by decide)]; exact a59, fun q hq => ?_, fun j hj => ?_⟩ _ (w32n k (Int.lt_trans k33 (by decide)))
      · rw [cset_self, fup_ne _ _ (by clear ih; omega)]; exact a58 q hq
      · rw [cset_self]
        by_cases e : j = k
        · rw [e, fup_self]
        · rw [fup_ne _ _ (by clear ih; omega)]; exact b58 j (by clear ih; omega)
    · rintro g2 ⟨hu2, hf2, a28, a59, a58, b58⟩ q rfl
      refine b_X8_keepTurn_61 (fun _ => ?_) (fun c => absurd (by decide) c)
      refine b_X8_keepTurn_93 ?_
      rw [a28, w32n m (by omega)]
      obtain ⟨t1, t2, t3⟩ := hst2
      refine ⟨rfl, hu2.set28, ⟨by rw [cset_self, fup_self, t1], fun i hi => ?_⟩, hf2.tr (frZ.s28 _)⟩
      have e58 : (cset g2 45 (fup (g2 45) 28 ((m + 1 : Nat) : Int))) 58 = g2 58 := cset_ne _ _ (by decide)
      rw [e58]
      by_cases e : i = m
      · rw [e, t3]
        exact hs1.to hK (fun j hj => b58 j hj)
      · rw [t2 i (by omega)]
        exact (hS i (by omega)).to (hSK i (by omega)) (fun j hj => a58 _ (by omega))
  refine b_X8_keepTurn_0 (fun c => ?_) (fun c => ?_)
  · have e8 : sUm st ≠ 8 := by omega
    refine b_X8_keepTurn_50 (m_keep (by omega) lay59 (by decide) hK hu) (fun g1 hx => ?_)
    obtain ⟨hs1, hu1, hf1⟩ := hx
    refine fin g1 (sUm st) (sUs st) _ (by omega) hu1 hs1 (by rw [hf1.2 28 (by decide)]; exact u1) (fun i hi => ?_) (fun i hi => hst.2.2.2.2.2.1 i (by omega)) hf1.z ?_
    · rw [hf1.1 58 (by decide) (by decide)]; exact u2 i hi
    · show sUm st + 1 = (stU st K').2.2.2.2.2.1 ∧ (∀ i, i < sUm st → (stU st K').2.2.2.2.2.2 i = sUs st i) ∧ (stU st K').2.2.2.2.2.2 (sUm st) = sK st
      rw [stU_n e8]
      refine ⟨rfl, fun i hi => if_pos (by omega), ?_⟩
      show (if sUm st ≤ sUm st then sUs st (sUm st) else K') = sK st
      rw [if_pos (Nat.le_refl _), huK]
  · have e8 : sUm st = 8 := by omega
    refine b_X8_keepTurn_9 ?_
    refine loopN (P := fun i g' => SM g' (sK st) ∧ frZ g g' ∧ g' 45 28 = 8 ∧ (∀ j, j < i → g' 58 j = g 58 (33 + j)) ∧ ∀ j, i ≤ j → g' 58 j = g 58 j) 231 (fun i g' => ∀ q : Int, q = ((33 + i : Nat) : Int) → EV e mX8_keepTurn (qV (fun g' => SM g' (sK st) ∧ UM g' (sUm (stU st K')) (sUs (stU st K')) ∧ frZ g g')) 12 [vR 45, vI q] [] g') ?_ ?_ 0 g (Nat.zero_le _) ⟨hu, frZ.rf, by rw [u1, e8]; rfl, fun j hj => absurd hj (Nat.not_lt_zero _), fun _ _ => rfl⟩ _ rfl
    · rintro i g2 hi ⟨hu2, hf2, a28, a1, a2⟩ ih q rfl
      have q0 : (0 : Int) ≤ ((33 + i : Nat) : Int) := Int.natCast_nonneg _
      have q1 : ((33 + i : Nat) : Int) < 264 := by clear ih fin; omega
      have i0 : (0 : Int) ≤ (i : Int) := Int.natCast_nonneg _
      have i1 : (i : Int) < 264 := by clear ih fin; omega
      have ew : w32 (((33 + i : Nat) : Int) - 33) = (i : Int) := by clear ih fin; rw [w32_of (by omega) (by omega)]; omega
      have ew2 : w32 (((33 + i : Nat) : Int) + 1) = ((33 + (i + 1) : Nat) : Int) := by clear ih fin ew; rw [w32_of (by omega) (by omega)]; omega
      refine b_X8_keepTurn_12 (fun c => absurd q1 (Int.not_lt.mpr c)) (fun _ => ?_)
      refine b_X8_keepTurn_19 q0 q1 (by rw [ew]; exact i0) (by rw [ew]; exact i1) ?_
      rw [ew, ew2, Int.toNat_natCast, Int.toNat_natCast, a2 (33 + i) (by clear ih fin ew ew2; omega)]
      refine ih _ ⟨hu2.oth _ (Or.inr (by decide)), hf2.tr (frZ.s58 _), by rw [cset_ne _ _ (by decide)]; exact a28, fun j hj => ?_, fun j hj => ?_⟩ _ rfl
      · rw [cset_self]
        by_cases e : j = i
        · rw [e, fup_self]
        · rw [fup_ne _ _ e]; exact a1 j (by clear ih fin ew ew2; omega)
      · rw [cset_self, fup_ne _ _ (by clear ih fin ew ew2; omega)]; exact a2 j (by clear ih fin ew ew2; omega)
    · rintro g2 ⟨hu2, hf2, a28, a1, a2⟩ q rfl
      refine b_X8_keepTurn_12 (fun _ => ?_) (fun c => absurd (by decide) c)
      rw [show (33 + 231 : Nat) = 264 from rfl]
      have ew : w32 (g2 45 28 - 1) = 7 := by rw [a28]; rfl
      refine b_X8_keepTurn_40 (by rw [ew]; exact m_keep (by omega) lay59 (by decide) hK hu2.set28) (fun g3 hx => ?_)
      obtain ⟨hs3, hu3, hf3⟩ := hx
      refine fin g3 7 (fun i => sUs st (i + 1)) _ (by decide) hu3 hs3 (by rw [hf3.2 28 (by decide), cset_self, fup_self]; rfl) (fun i hi => ?_) (fun i hi => hst.2.2.2.2.2.1 (i + 1) (by omega)) ((hf2.tr (frZ.s28 _)).tr hf3.z) ?_
      · have e58 : g3 58 = g2 58 := by rw [hf3.1 58 (by decide) (by decide), cset_ne _ _ (by decide)]
        rw [e58]
        refine (u2 (i + 1) (by omega)).to (hst.2.2.2.2.2.1 (i + 1) (by omega)) (fun j hj => ?_)
        show g2 58 (33 * i + j) = g 58 (33 * (i + 1) + j)
        rw [a1 _ (by omega), show 33 + (33 * i + j) = 33 * (i + 1) + j by omega]
      · show 7 + 1 = (stU st K').2.2.2.2.2.1 ∧ (∀ i, i < 7 → (stU st K').2.2.2.2.2.2 i = sUs st (i + 1)) ∧ (stU st K').2.2.2.2.2.2 7 = sK st
        rw [stU_8 e8]
        refine ⟨rfl, fun i hi => if_pos (by omega), ?_⟩
        show (if 7 < 8 then sUs st (7 + 1) else K') = sK st
        rw [if_pos (by decide), ← huK, e8]
theorem IM.mk {g g' : pG} {st : tSt} {K' : tK} {um : Nat} {S : Nat → tK} (h : IM g st) (hu : SM g' K') (hU : UM g' um S) (hf : ∀ a, (a = 50 ∨ a = 52 ∨ a = 57 ∨ a = 68) → g' a = g a) (hf5 : ∀ s, (s = 13 ∨ s = 41 ∨ s = 22) → g' 45 s = g 45 s) : IM g' (K', st.2.1, st.2.2.1, sRf st, st.2.2.2.2.1, (um, S)) := by
  obtain ⟨h1, ⟨h2, h2'⟩, ⟨h3, h3', h3''⟩, h4, ⟨h5, h5'⟩, h6⟩ := h
  exact ⟨hu, ⟨by rw [hf5 13 (by decide)]; exact h2, fun i hi => by rw [hf 52 (by decide)]; exact h2' i hi⟩, ⟨by rw [hf5 41 (by decide)]; exact h3, h3', fun i hi => by rw [hf 68 (by decide)]; exact h3'' i hi⟩, fun j hj => by rw [hf 50 (by decide)]; exact h4 j hj, ⟨by rw [hf5 22 (by decide)]; exact h5, fun z => by rw [hf 57 (by decide)]; exact h5' z⟩, hU⟩
theorem clo {g : pG} {f : tF} {c n : Nat} (h : c < 45) (hn : 45 ≤ n) : cset g n f c = g c := cset_ne _ _ (by omega)
theorem refM_lo {g : pG} {n : Int} {c : Nat} (h : c < 45) : refM g n c = g c := by
  unfold refM
  split
  · rfl
  · exact clo h (by decide)
def QMs (g : pG) (a : Int) (st' : tSt) : Option pV → pG → Prop := qI (fun x g' => x = a ∧ IM g' st' ∧ ∀ c, c < 45 → g' c = g c)
theorem IM.th0 {g : pG} {st : tSt} (h : IM g st) : IM (cset g 45 (fup (g 45) 8 0)) st := h.m (thr g)
theorem m_feed {d : Nat} {g : pG} {st : tSt} {v : Int} (hd : 11 ≤ d) (hst : OKst st) (hI : IM g st) : CT d mX8_feed [vR 45, vI v] g (QMs g (aR (rFd (sLn st) v) (sLn st + 1 : Nat)) (stF st v)) := by
  refine ct_in (L := [vR 45, vI v]) (by omega) (Nat.le_of_ble_eq_true rfl) rfl (fun e he => ?_)
  have r := rFd_cases (sLn st) v
  have h96 := hst.2.1.1
  have hI0 := hI.th0
  generalize hgA : cset g 45 (fup (g 45) 8 0) = gA at hI0
  have hA : ∀ c, c < 45 → gA c = g c := fun c hc => by rw [← hgA]; exact clo hc (by decide)
  have hl := hI0.2.1.1
  have no : ∀ m : Int, m ≠ 0 → isRef m → rFd (sLn st) v = m → QMs g (aR (rFd (sLn st) v) (sLn st + 1 : Nat)) (stF st v) (some (vI m)) (refM gA m) := fun m hm hr h => ⟨_, rfl, (aR_n h hm).symm, by unfold stF; rw [if_neg (by rw [h]; exact hm), h]; exact hI0.ref (Or.inr hr), fun q hq => (refM_lo hq).trans (hA q hq)⟩
  have rm : (255 < v ∨ sLn st = 96) → 0 ≤ v → EV e mX8_feed (QMs g (aR (rFd (sLn st) v) (sLn st + 1 : Nat)) (stF st v)) 32 [vR 45, vI v] [] gA := fun h h0 => b_X8_feed_32 (m_refuse (by omega) ref6) (fun x g1 hx => by obtain ⟨rfl, rfl⟩ := hx; exact b_X8_feed_38 (no _ (by decide) ref6 (by omega)))
  refine b_X8_feed_0 (fun c => ?_) (fun c => ?_)
  · rw [hgA]
    refine b_X8_feed_16 (fun c2 => rm (Or.inl c2) c) (fun c2 => ?_)
    refine b_X8_feed_23 (fun c3 => ?_) (fun c3 => rm (Or.inr (by omega)) c)
    have hr0 : rFd (sLn st) v = 0 := by omega
    have hn : sLn st < 96 := by omega
    refine b_X8_feed_39 (by omega) (by omega) ?_
    rw [fup_self, hl, Int.toNat_natCast, w32n (sLn st) (by omega)]
    refine ⟨_, rfl, (aR_0 hr0 rfl).symm, ?_, fun q hq => by rw [clo hq (by decide), clo hq (by decide)]; exact hA q hq⟩
    unfold stF
    rw [if_pos hr0]
    obtain ⟨h1, ⟨h2, h2'⟩, ⟨h3, h3', h3''⟩, h4, ⟨h5, h5'⟩, ⟨h6, h6'⟩⟩ := hI0
    have o : ∀ a, a ≠ 45 → a ≠ 52 → (cset (cset gA 52 (fup (gA 52) (sLn st) v)) 45 (fup (gA 45) 13 ((sLn st + 1 : Nat) : Int))) a = gA a := fun a ha hb => by rw [cset_ne _ _ ha, cset_ne _ _ hb]
    have o5 : ∀ s, s ≠ 13 → (cset (cset gA 52 (fup (gA 52) (sLn st) v)) 45 (fup (gA 45) 13 ((sLn st + 1 : Nat) : Int))) 45 s = gA 45 s := fun s hs => by rw [cset_self, fup_ne _ _ hs]
    obtain ⟨m1, m2, m3, m4, m5, m6⟩ := h1
    refine ⟨⟨by rw [o5 0 (by decide)]; exact m1, fun k hk => ?_, by rw [o5 4 (by decide)]; exact m3, fun k hk => by rw [o 49 (by decide) (by decide)]; exact m4 k hk, by rw [o5 6 (by decide)]; exact m5, by rw [o5 7 (by decide)]; exact m6⟩, ⟨by rw [cset_self, fup_self]; rfl, fun i hi => ?_⟩, ⟨by rw [o5 41 (by decide)]; exact h3, h3', fun i hi => by rw [o 68 (by decide) (by decide)]; exact h3'' i hi⟩, fun j hj => by rw [o 50 (by decide) (by decide)]; exact h4 j hj, ⟨by rw [o5 22 (by decide)]; exact h5, fun z => by rw [o 57 (by decide) (by decide)]; exact h5' z⟩, ⟨by rw [o5 28 (by decide)]; exact h6, fun i hi => by rw [o 58 (by decide) (by decide)]; exact h6' i hi⟩⟩
    · rw [o 46 (by decide) (by decide), o 47 (by decide) (by decide), o 48 (by decide) (by decide)]; exact m2 k hk
    · rw [cset_ne _ _ (by decide), cset_self]
      show _ = fup (sLv st) (sLn st) v i
      have hi : i < sLn st + 1 := hi
      by_cases e2 : i = sLn st
      · rw [e2, fup_self, fup_self]
      · rw [fup_ne _ _ e2, fup_ne _ _ e2]; exact h2' i (by omega)
  · rw [hgA]
    refine b_X8_feed_9 (m_refuse (by omega) ref4) (fun x g1 hx => ?_)
    obtain ⟨rfl, rfl⟩ := hx
    exact b_X8_feed_15 (no _ (by decide) ref4 (by omega))
