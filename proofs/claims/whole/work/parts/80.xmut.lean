/-- a change noted on the class's side -/
theorem s_forget {d : Nat} {g : pG} (hd : 1 ≤ d) : CT d mX0_forgetOldest [vR 21] g (qV (fun g' => g' 21 3 = 7 ∧ (∀ i, i < 7 → g' 22 i = g 22 (i + 1) ∧ g' 23 i = g 23 (i + 1) ∧ g' 24 i = g 24 (i + 1)) ∧ ∀ a, (a < 21 ∨ 24 < a) → g' a = g a)) := by
  refine ct_in (L := [vR 21, vX 2]) (by omega) (Nat.le_of_ble_eq_true rfl) rfl (fun e he => ?_)
  refine b_X0_forgetOldest_0 ?_
  refine loopN (P := fun i g' => g' 21 3 = 7 ∧ (∀ j, j < i → g' 22 j = g 22 (j + 1) ∧ g' 23 j = g 23 (j + 1) ∧ g' 24 j = g 24 (j + 1)) ∧ (∀ j, i ≤ j → g' 22 j = g 22 j ∧ g' 23 j = g 23 j ∧ g' 24 j = g 24 j) ∧ ∀ a, (a < 21 ∨ 24 < a) → g' a = g a) 7 (fun i g' => ∀ q : Int, q = i → EV e mX0_forgetOldest _ 8 [vR 21, vI q] [] g') ?_ ?_ 0 (cset g 21 (fup (g 21) 3 7)) (Nat.zero_le _) ⟨by rw [cset_self, fup_self], fun j hj => absurd hj (Nat.not_lt_zero _), fun j hj => ⟨rfl, rfl, rfl⟩, fun a ha => cset_ne _ _ (by omega)⟩ _ rfl
  · rintro i g1 hi ⟨h7, ha, hb, hf⟩ ih q rfl
    have i0 : (0 : Int) ≤ (i : Int) := Int.natCast_nonneg _
    have i7 : (i : Int) < 7 := Int.ofNat_lt.mpr hi
    have j0 : (0 : Int) ≤ ((i + 1 : Nat) : Int) := Int.natCast_nonneg _
    have j8 : ((i + 1 : Nat) : Int) < 8 := by omega
    have ew := w32n i (by omega)
    refine b_X0_forgetOldest_8 (fun c => absurd c (by rw [h7]; exact Int.not_le.mpr i7)) (fun _ => ?_)
    refine b_X0_forgetOldest_16 (by rw [ew]; exact j0) (by rw [ew]; exact j8) i0 (Int.lt_trans i7 (by decide)) ?_
    rw [ew, Int.toNat_natCast, Int.toNat_natCast]
    obtain ⟨b1, b2, b3⟩ := hb (i + 1) (Nat.le_succ i)
    rw [b1, b2, b3]
    refine ih _ ⟨?_, fun j hj => ?_, fun j hj => ?_, fun a ha' => ?_⟩ _ rfl
    · rw [cset_ne _ _ (by decide), cset_ne _ _ (by decide), cset_ne _ _ (by decide)]; exact h7
    · rw [cset_ne _ _ (by decide), cset_ne _ _ (by decide), cset_self, cset_ne _ _ (by decide), cset_self, cset_self]
      by_cases e : j = i
      · rw [e, fup_self, fup_self, fup_self]; exact ⟨rfl, rfl, rfl⟩
      · rw [fup_ne _ _ e, fup_ne _ _ e, fup_ne _ _ e]; exact ha j (by clear ew; omega)
    · rw [cset_ne _ _ (by decide), cset_ne _ _ (by decide), cset_self, cset_ne _ _ (by decide), cset_self, cset_self]
      have e : j ≠ i := by clear ew; omega
      rw [fup_ne _ _ e, fup_ne _ _ e, fup_ne _ _ e]; exact hb j (by clear ew; omega)
    · rw [cset_ne _ _ (by clear ew; omega), cset_ne _ _ (by clear ew; omega), cset_ne _ _ (by clear ew; omega)]; exact hf a ha'
  · rintro g1 ⟨h7, ha, hb, hf⟩ q rfl
    refine b_X0_forgetOldest_8 (fun _ => ?_) (fun c => absurd (by rw [h7]; decide) c)
    exact b_X0_forgetOldest_64 ⟨rfl, h7, ha, hf⟩
theorem s_noteC {d : Nat} {g : pG} {st : tSt} {K' : tK} {w p o : Int} (hd : 2 ≤ d) (hst : OKst st) (hU : UX g (sUm st) (sUs st)) (hE : UE w p o K' (sK st)) : CT d mX0_note [vR 21, vI w, vI p, vI o] g (qV (fun g' => UX g' (sUm (stU st K')) (sUs (stU st K')) ∧ ∀ a, (a < 21 ∨ 24 < a) → g' a = g a)) := by
  refine ct_in (L := [vR 21, vI w, vI p, vI o]) (by omega) (Nat.le_of_ble_eq_true rfl) rfl (fun e he => ?_)
  obtain ⟨hu8, huK⟩ : sUm st ≤ 8 ∧ sUs st (sUm st) = sK st := ⟨hst.2.2.2.2.1, hst.2.2.2.2.2.2⟩
  obtain ⟨u1, u2⟩ := hU
  have hS : UX g (sUm st) (sUs st) := ⟨u1, u2⟩
  -- the last step, with m entries ahead
  have fin : ∀ (g1 : pG) (m : Nat), m < 8 → g1 21 3 = m → (∀ a, (a < 21 ∨ 24 < a) → g1 a = g a) → (∀ g2 : pG, g2 21 3 = ((m + 1 : Nat) : Int) → (∀ i, i < m → g2 22 i = g1 22 i ∧ g2 23 i = g1 23 i ∧ g2 24 i = g1 24 i) → (g2 22 m = w ∧ g2 23 m = p ∧ g2 24 m = o) → UX g2 (sUm (stU st K')) (sUs (stU st K'))) → EV e mX0_note (qV (fun g' => UX g' (sUm (stU st K')) (sUs (stU st K')) ∧ ∀ a, (a < 21 ∨ 24 < a) → g' a = g a)) 13 [vR 21, vI w, vI p, vI o] [] g1 := by
    intro g1 m hm h3 hf hux
    refine b_X0_note_13 (by rw [h3]; exact Int.natCast_nonneg _) (by rw [h3]; exact Int.ofNat_lt.mpr hm) ?_
    rw [h3, Int.toNat_natCast, w32n m (by omega)]
    refine ⟨rfl, hux _ (by rw [cset_self, fup_self]) (fun i hi => ?_) ?_, fun a ha => ?_⟩
    · have e : i ≠ m := by omega
      rw [cset_ne _ _ (by decide), cset_ne _ _ (by decide), cset_ne _ _ (by decide), cset_self, cset_ne _ _ (by decide), cset_ne _ _ (by decide), cset_self, cset_ne _ _ (by decide), cset_self, fup_ne _ _ e, fup_ne _ _ e, fup_ne _ _ e]
      exact ⟨rfl, rfl, rfl⟩
    · rw [cset_ne _ _ (by decide), cset_ne _ _ (by decide), cset_ne _ _ (by decide), cset_self, cset_ne _ _ (by decide), cset_ne _ _ (by decide), cset_self, cset_ne _ _ (by decide), cset_self, fup_self, fup_self, fup_self]
      exact ⟨rfl, rfl, rfl⟩
    · rw [cset_ne _ _ (by omega), cset_ne _ _ (by omega), cset_ne _ _ (by omega), cset_ne _ _ (by omega)]; exact hf a ha
  refine b_X0_note_0 (fun c => ?_) (fun c => ?_)
  · have e8 : sUm st ≠ 8 := by omega
    refine fin g (sUm st) (by omega) u1 (fun _ _ => rfl) (fun g2 q1 q2 q3 => ?_)
    show UX g2 (stU st K').2.2.2.2.2.1 (stU st K').2.2.2.2.2.2
    rw [stU_n e8]
    refine ⟨q1, fun i hi => ?_⟩
    have hi : i < sUm st + 1 := hi
    show UE _ _ _ (if i + 1 ≤ sUm st then sUs st (i + 1) else K') (if i ≤ sUm st then sUs st i else K')
    rw [if_pos (show i ≤ sUm st by omega)]
    by_cases e : i = sUm st
    · rw [if_neg (by omega), e, q3.1, q3.2.1, q3.2.2, huK]; exact hE
    · rw [if_pos (by omega), (q2 i (by omega)).1, (q2 i (by omega)).2.1, (q2 i (by omega)).2.2]
      exact u2 i (by omega)
  · have e8 : sUm st = 8 := by omega
    refine b_X0_note_9 (s_forget (by omega)) (fun g1 hx => ?_)
    obtain ⟨h3, hs, hf⟩ := hx
    refine fin g1 7 (by decide) h3 hf (fun g2 q1 q2 q3 => ?_)
    show UX g2 (stU st K').2.2.2.2.2.1 (stU st K').2.2.2.2.2.2
    rw [stU_8 e8]
    refine ⟨q1, fun i hi => ?_⟩
    have hi : i < 8 := hi
    show UE _ _ _ (if i + 1 < 8 then sUs st (i + 1 + 1) else K') (if i < 8 then sUs st (i + 1) else K')
    rw [if_pos hi]
    by_cases e : i = 7
    · rw [if_neg (by omega), e, q3.1, q3.2.1, q3.2.2, show 7 + 1 = sUm st by omega, huK]; exact hE
    · rw [if_pos (by omega), (q2 i (by omega)).1, (q2 i (by omega)).2.1, (q2 i (by omega)).2.2, (hs i (by omega)).1, (hs i (by omega)).2.1, (hs i (by omega)).2.2]
      exact u2 (i + 1) (by omega)
/-- another case, and the changes that can be taken back with it; all else as it was -/
theorem IX.mk {g g' : pG} {st : tSt} {K' : tK} {um : Nat} {S : Nat → tK} (h : IX g st) (hu : SU g' 1 K') (hU : UX g' um S) (hf : ∀ a, (a = 0 ∨ (13 ≤ a ∧ a ≤ 20) ∨ (25 ≤ a ∧ a ≤ 26)) → g' a = g a) : IX g' (K', st.2.1, st.2.2.1, sRf st, st.2.2.2.2.1, (um, S)) := by
  obtain ⟨h1, ⟨h2, h2'⟩, ⟨h3, h3', h3''⟩, h4, ⟨h5, h5'⟩, h6⟩ := h
  exact ⟨hu, ⟨by rw [hf 19 (by decide)]; exact h2, fun i hi => by rw [hf 20 (by decide)]; exact h2' i hi⟩, ⟨by rw [hf 0 (by decide)]; exact h3, h3', fun i hi => by rw [hf 25 (by decide)]; exact h3'' i hi⟩, fun j hj => by rw [hf 26 (by decide)]; exact h4 j hj, ⟨by rw [hf 0 (by decide)]; exact h5, fun z => (h5' z).frm (fun a ha hb => hf a (by omega))⟩, hU⟩
theorem refX_hi {g : pG} {n : Int} {c : Nat} (h : 45 ≤ c) : refX g n c = g c := by
  unfold refX
  split
  · rfl
  · exact cset_ne _ _ (by omega)
def QXs (g : pG) (a : Int) (st' : tSt) : Option pV → pG → Prop := qI (fun x g' => x = a ∧ IX g' st' ∧ ∀ c, 45 ≤ c → g' c = g c)
/-- feed -/
def rFd (n : Nat) (v : Int) : Int := if v < 0 then -4 else if 255 < v ∨ n = 96 then -6 else 0
theorem rFd_cases (n : Nat) (v : Int) : (v < 0 ∧ rFd n v = -4) ∨ (0 ≤ v ∧ (255 < v ∨ n = 96) ∧ rFd n v = -6) ∨ (0 ≤ v ∧ v ≤ 255 ∧ n ≠ 96 ∧ rFd n v = 0) := by
  unfold rFd
  by_cases h : v < 0
  · rw [if_pos h]; omega
  · rw [if_neg h]
    by_cases h2 : 255 < v ∨ n = 96
    · rw [if_pos h2]; omega
    · rw [if_neg h2]; omega
def stF (st : tSt) (v : Int) : tSt := if rFd (sLn st) v = 0 then stL st (sLn st + 1) (fup (sLv st) (sLn st) v) else stR st (rFd (sLn st) v)
theorem stF_ok {st : tSt} {v : Int} (h : OKst st) : OKst (stF st v) := by
  have r := rFd_cases (sLn st) v
  unfold stF
  by_cases e : rFd (sLn st) v = 0
  · rw [if_pos e]
    have := h.2.1.1
    refine stL_ok h (by omega) (fun i hi => ?_)
    by_cases e2 : i = sLn st
    · rw [e2, fup_self]; omega
    · rw [fup_ne _ _ e2]; exact h.2.1.2 i (by omega)
  · rw [if_neg e]; exact stR_ok h
theorem x_feed {d : Nat} {g : pG} {st : tSt} {v : Int} (hd : 8 ≤ d) (hst : OKst st) (hI : IX g st) : CT d mX7_feed [vR 0, vI v] g (QXs g (aR (rFd (sLn st) v) (sLn st + 1 : Nat)) (stF st v)) := by
  refine ct_in (L := [vR 0, vI v]) (by omega) (Nat.le_of_ble_eq_true rfl) rfl (fun e he => ?_)
  have r := rFd_cases (sLn st) v
  have h96 := hst.2.1.1
  have hl := hI.2.1.1
  have no : ∀ m : Int, m ≠ 0 → isRef m → rFd (sLn st) v = m → QXs g (aR (rFd (sLn st) v) (sLn st + 1 : Nat)) (stF st v) (some (vI m)) (refX g m) := fun m hm hr h => ⟨_, rfl, (aR_n h hm).symm, by unfold stF; rw [if_neg (by rw [h]; exact hm), h]; exact hI.ref (Or.inr hr), fun c hc => refX_hi hc⟩
  have rm : ∀ c : Prop, (255 < v ∨ sLn st = 96) → 0 ≤ v → EV e mX7_feed (QXs g (aR (rFd (sLn st) v) (sLn st + 1 : Nat)) (stF st v)) 30 [vR 0, vI v] [] g := fun _ h h0 => b_X7_feed_30 (s_refuse (by omega) ref6) (fun x g1 hx => by obtain ⟨rfl, rfl⟩ := hx; exact b_X7_feed_36 (no _ (by decide) ref6 (by omega)))
  refine b_X7_feed_0 (fun c => ?_) (fun c => ?_)
  · refine b_X7_feed_11 (fun c2 => rm True (Or.inl c2) c) (fun c2 => ?_)
    refine b_X7_feed_18 (fun c3 => ?_) (fun c3 => rm True (Or.inr (by omega)) c)
    have hr0 : rFd (sLn st) v = 0 := by omega
    have hn : sLn st < 96 := by omega
    refine b_X7_feed_37 (R := fun x g' => x = ((sLn st + 1 : Nat) : Int) ∧ g' = cset (cset g 20 (fup (g 20) (sLn st) v)) 19 (fup (g 19) 1 ((sLn st + 1 : Nat) : Int))) ?_ (fun x g1 hx => ?_)
    · obtain ⟨e', rfl⟩ : ∃ e', e = e' + 1 := ⟨e - 1, by omega⟩
      refine ct_in (L := [vR 19, vI v]) (by omega) (Nat.le_of_ble_eq_true rfl) rfl (fun e he => ?_)
      refine b_X2_take_0 (fun c4 => absurd c4 (by omega)) (fun _ => ?_)
      refine b_X2_take_9 (by omega) (by omega) ?_
      rw [fup_self, hl, Int.toNat_natCast, w32n (sLn st) (by omega)]
      exact ⟨_, rfl, rfl, rfl⟩
    · obtain ⟨rfl, rfl⟩ := hx
      refine b_X7_feed_45 ⟨_, rfl, (aR_0 hr0 rfl).symm, ?_, fun c hc => by rw [cset_ne _ _ (by omega), cset_ne _ _ (by omega)]⟩
      unfold stF
      rw [if_pos hr0]
      obtain ⟨h1, ⟨h2, h2'⟩, ⟨h3, h3', h3''⟩, h4, ⟨h5, h5'⟩, h6⟩ := hI
      have o : ∀ a, a ≠ 19 → a ≠ 20 → (cset (cset g 20 (fup (g 20) (sLn st) v)) 19 (fup (g 19) 1 ((sLn st + 1 : Nat) : Int))) a = g a := fun a ha hb => by rw [cset_ne _ _ ha, cset_ne _ _ hb]
      refine ⟨h1.frm (fun a ha hb => o a (by omega) (by omega)), ⟨by rw [cset_self, fup_self]; rfl, fun i hi => ?_⟩, ⟨by rw [o 0 (by decide) (by decide)]; exact h3, h3', fun i hi => by rw [o 25 (by decide) (by decide)]; exact h3'' i hi⟩, fun j hj => by rw [o 26 (by decide) (by decide)]; exact h4 j hj, ⟨by rw [o 0 (by decide) (by decide)]; exact h5, fun z => (h5' z).frm (fun a ha hb => o a (by omega) (by omega))⟩, h6.frm (fun a ha hb => o a (by omega) (by omega))⟩
      rw [cset_ne _ _ (by decide), cset_self]
      show _ = fup (sLv st) (sLn st) v i
      have hi : i < sLn st + 1 := hi
      by_cases e2 : i = sLn st
      · rw [e2, fup_self, fup_self]
      · rw [fup_ne _ _ e2, fup_ne _ _ e2]; exact h2' i (by omega)
  · refine b_X7_feed_4 (s_refuse (by omega) ref4) (fun x g1 hx => ?_)
    obtain ⟨rfl, rfl⟩ := hx
    exact b_X7_feed_10 (no _ (by decide) ref4 (by omega))
