/-- the ROW, on each side -/
def RX (g : pG) (n : Nat) (r : tF) : Prop := g 0 7 = n ∧ n ≤ 16 ∧ ∀ i, i < n → g 25 i = r i ∧ 0 ≤ r i ∧ r i ≤ 99
def RWm (g : pG) (n : Nat) (r : tF) : Prop := g 45 41 = n ∧ n ≤ 16 ∧ ∀ i, i < n → g 68 i = r i ∧ 0 ≤ r i ∧ r i ≤ 99
theorem RX.x {g g' : pG} {n : Nat} {r : tF} (h : RX g n r) (hf : xfr g g') : RX g' n r := ⟨by rw [hf 0 (by omega)]; exact h.1, h.2.1, fun i hi => by rw [hf 25 (by omega)]; exact h.2.2 i hi⟩
theorem RWm.m {g g' : pG} {n : Nat} {r : tF} (h : RWm g n r) (hf : mfr g g') : RWm g' n r := ⟨by rw [hf.2 41 (by omega)]; exact h.1, h.2.1, fun i hi => by rw [hf.1 68 (by omega)]; exact h.2.2 i hi⟩
def rowOK (n : Nat) (r : tF) (m : Nat) : Prop := n = m ∧ ∀ i, i < n → r i ≤ 18
theorem s_tells {d n m : Nat} {g : pG} {r : tF} (hd : 1 ≤ d) (hr : RX g n r) : CT d mX7_tellsNumbers [vR 0, vI m] g (qI (fun x g' => ((x = 1 ∧ rowOK n r m) ∨ (x = 0 ∧ ¬ rowOK n r m)) ∧ g' = g)) := by
  refine ct_in (L := [vR 0, vI m, vX 2]) (by omega) (Nat.le_of_ble_eq_true rfl) rfl (fun e he => ?_)
  obtain ⟨h1, h2, h3⟩ := hr
  refine b_X7_tellsNumbers_0 (fun c => ?_) (fun c => ?_)
  · have e1 : n = m := Int.ofNat_inj.mp (h1.symm.trans c)
    refine b_X7_tellsNumbers_10 ?_
    refine loopN (P := fun k g' => g' = g ∧ ∀ j, j < k → r j ≤ 18) n (fun k g' => ∀ w : Int, w = k → EV e mX7_tellsNumbers _ 12 [vR 0, vI m, vI w] [] g') ?_ ?_ 0 g (Nat.zero_le _) ⟨rfl, fun j hj => absurd hj (Nat.not_lt_zero _)⟩ _ rfl
    · rintro k g hk ⟨rfl, hall⟩ ih w rfl
      have hv := (h3 k hk).1
      refine b_X7_tellsNumbers_12 (fun c => absurd c (by omega)) (fun c => ?_)
      refine b_X7_tellsNumbers_20 (by omega) (by omega) (fun c2 => ?_) (fun c2 => ?_)
      · rw [Int.toNat_natCast, hv] at c2
        exact b_X7_tellsNumbers_33 (ih _ ⟨rfl, fun j hj => if h : j = k then h ▸ c2 else hall j (by omega)⟩ _ (w32n k (by omega)))
      · rw [Int.toNat_natCast, hv] at c2
        exact b_X7_tellsNumbers_31 ⟨_, rfl, Or.inr ⟨rfl, fun z => c2 (z.2 k hk)⟩, rfl⟩
    · rintro g ⟨rfl, hall⟩ w rfl
      refine b_X7_tellsNumbers_12 (fun c => ?_) (fun c => absurd (by rw [h1]; exact Int.le_refl _) c)
      exact b_X7_tellsNumbers_39 ⟨_, rfl, Or.inl ⟨rfl, e1, hall⟩, rfl⟩
  · exact b_X7_tellsNumbers_8 ⟨_, rfl, Or.inr ⟨rfl, fun z => c (by rw [h1, z.1])⟩, rfl⟩
theorem s_readTold {d t n a s : Nat} {g : pG} {K : tK} {r : tF} (hd : 3 ≤ d) (ht : isScr t) (hK : KOK K) (hu : SU g 1 K) (hr : RX g n r) (ha : a ≤ 1) (hs : s = 1 ∨ s = 2) (hall : ∀ i, i < n → r i ≤ 18) (hN : ∀ j, j < nP K → a + s * j < n) : CT d mX7_readTold [vR 0, vR t, vI a, vI s] g (qV (fun g' => PT g' t (nP K) (fun j => r (a + s * j) - 9) ∧ fr2 g g' t)) := by
  refine ct_in (L := [vR 0, vR t, vI a, vI s, vX 2, vX 2]) (by omega) (Nat.le_of_ble_eq_true rfl) rfl (fun e he => ?_)
  have h8 := hK.2.2.1
  have htp := ht.pts
  refine b_X7_readTold_0 htp (s_think (by omega) ht hK hu) (fun g1 hx => ?_)
  obtain ⟨hp1, hf1⟩ := hx
  refine b_X7_readTold_11 htp ?_
  refine loopN (P := fun k g' => fr2 g g' t ∧ ∃ f, PT g' t (nP K) f ∧ ∀ j, j < k → f j = r (a + s * j) - 9) (nP K) (fun k g' => ∀ (w : Int) (u : pV), w = k → EV e mX7_readTold _ 14 [vR 0, vR t, vI a, vI s, vI w, u] [] g') ?_ ?_ 0 g1 (Nat.zero_le _) ⟨hf1, _, hp1, fun j hj => absurd hj (Nat.not_lt_zero _)⟩ _ _ rfl
  · rintro k g2 hk ⟨hf2, f, hp2, he2⟩ ih w u rfl
    have hr2 := hr.x (hf2.x ht)
    have hm := hp2.1
    have hi := hN k hk
    have hn16 := hr2.2.1
    have hv := hr2.2.2 _ hi
    have hv18 := hall _ hi
    have hn7 := hr2.1
    have hk8 : k < 8 := by omega
    have e1 : w32 ((a : Int) + w32 ((s : Int) * (k : Int))) = ((a + s * k : Nat) : Int) := by
      rcases hs with rfl | rfl
      · rw [w32_of (x := ((1 : Nat) : Int) * (k : Int)) (by omega) (by omega), w32_of (by omega) (by omega)]; omega
      · rw [w32_of (x := ((2 : Nat) : Int) * (k : Int)) (by omega) (by omega), w32_of (by omega) (by omega)]; omega
    have l1 : ((a + s * k : Nat) : Int) < 16 := Int.ofNat_lt.mpr (Nat.lt_of_lt_of_le hi hn16)
    have l2 : ¬ ((n : Nat) : Int) ≤ ((a + s * k : Nat) : Int) := Int.not_le.mpr (Int.ofNat_lt.mpr hi)
    have l0 : ¬ ((a + s * k : Nat) : Int) < 0 := Int.not_lt.mpr (Int.natCast_nonneg _)
    have ev : w32 (r (a + s * k) - 9) = r (a + s * k) - 9 := w32_of (by clear e1; omega) (by clear e1; omega)
    have eh : held (r (a + s * k) - 9) = r (a + s * k) - 9 := held_id (by clear e1 ev; omega)
    refine b_X7_readTold_14 htp (fun c => absurd c (by clear e1 ev eh; omega)) (fun c => ?_)
    refine b_X7_readTold_23 htp (fun c => absurd (by rw [e1] at c; exact c) l0) (fun c => ?_)
    rw [e1]
    refine b_X7_readTold_36 htp (fun c => absurd (by rw [hn7] at c; exact c) l2) (fun c => ?_)
    refine b_X7_readTold_45 htp (Int.natCast_nonneg _) l1 (by rw [Int.toNat_natCast, hv.1, ev]; exact s_put (by clear e1 ev eh; omega) htp hp2 hk) (fun g3 hx => ?_)
    obtain ⟨hp3, hf3⟩ := hx
    rw [eh] at hp3
    refine b_X7_readTold_61 htp (ih _ ⟨hf2.tr hf3.to2, _, hp3, fun j hj => ?_⟩ _ _ (w32n k (by clear e1 ev eh; omega)))
    by_cases ej : j = k
    · subst ej; rw [fup_self]
    · rw [fup_ne _ _ ej]; exact he2 j (by clear e1 ev eh; omega)
  · rintro g2 ⟨hf2, f, hp2, he2⟩ w u rfl
    have hm := hp2.1
    refine b_X7_readTold_14 htp (fun c => ?_) (fun c => absurd (by rw [hm]; exact Int.le_refl _) c)
    exact b_X7_readTold_67 htp ⟨rfl, hp2.to he2, hf2⟩
/-- beats -/
def rRow (n : Nat) (r : tF) (m : Nat) : Int := if n = m ∧ (lfind (fun i => ¬ r i ≤ 18) n = n) then 0 else -3
theorem rRow_ok {n m : Nat} {r : tF} (h : rowOK n r m) : rRow n r m = 0 := by
  unfold rRow
  rw [if_pos ⟨h.1, lfind_none n (fun j hj z => z (h.2 j hj))⟩]
theorem rRow_no {n m : Nat} {r : tF} (h : ¬ rowOK n r m) : rRow n r m = -3 := by
  unfold rRow
  rw [if_neg (fun z => ?_)]
  refine h ⟨z.1, fun i hi => Classical.byContradiction (fun y => ?_)⟩
  have key : ∀ k, k ≤ n → (∀ j, j < k → ¬ ¬ r j ≤ 18) := by
    intro k
    induction k with
    | zero => intro _ j hj; exact absurd hj (Nat.not_lt_zero _)
    | succ k ih =>
      intro hk j hj
      by_cases e : j = k
      · subst e
        intro q
        have := lfind_hit (p := fun i => ¬ r i ≤ 18) (ih (by omega)) q n hk
        omega
      · exact ih (by omega) j (by omega)
  exact key n (Nat.le_refl _) i hi y
def aBeats (K : tK) (r : tF) : Int := bi (sumAll K < psum (downF K (nC K) (fun j => r j - 9)) (nP K))
theorem x_beats {d n : Nat} {g : pG} {K : tK} {r : tF} (hd : 8 ≤ d) (hK : KOK K) (hu : SU g 1 K) (hr : RX g n r) : CT d mX7_beats [vR 0] g (QX g (aR (rRow n r (nP K)) (aBeats K r)) (rRow n r (nP K))) := by
  refine ct_in (L := [vR 0]) (by omega) (Nat.le_of_ble_eq_true rfl) rfl (fun e he => ?_)
  have hm : g 5 1 = nP K := hu.2.2.1
  have he5 : 6 ≤ e := by omega
  have he1 : 1 ≤ e := Nat.le_trans (by decide) he5
  refine b_X7_beats_0 (by rw [hm]; exact s_tells he1 hr) (fun x g1 hx => ?_)
  obtain ⟨hx, rfl⟩ := hx
  refine b_X7_beats_14 (fun c => ?_) (fun c => ?_)
  · have hok : rowOK n r (nP K) := by
      rcases hx with h | h
      · exact h.2
      · exact absurd h.1 c
    have hr0 := rRow_ok hok
    have hN : ∀ j, j < nP K → 0 + 1 * j < n := fun j hj => by rw [hok.1]; omega
    refine b_X7_beats_24 (s_readTold (a := 0) (s := 1) (Nat.le_trans (by decide) he5) scr31 hK hu hr (by decide) (Or.inl rfl) hok.2 hN) (fun g2 hx => ?_)
    obtain ⟨hp2, hf2⟩ := hx
    have hp2 := hp2.to (f' := fun j => r j - 9) (fun j _ => by show r (0 + 1 * j) - 9 = _; rw [Nat.zero_add, Nat.one_mul])
    have hx2 := hf2.x scr31
    refine b_X7_beats_34 (by rw [(hu.x hx2).1]; exact s_goDown (Nat.le_trans (by decide) he5) scr31 hK (hu.x hx2) hp2 (Nat.le_refl _)) (fun g3 hx => ?_)
    obtain ⟨hp3, hf3⟩ := hx
    have hx3 := hx2.tr (hf3.x scr31)
    refine b_X7_beats_52 (by rw [(hu.x hx3).1]; exact s_goDownTo he5 hK (hu.x hx3) (Nat.le_refl _)) (fun g4 hx => ?_)
    obtain ⟨hp4, hf4⟩ := hx
    have hx4 := hx3.tr (hf4.x scr27)
    have hp31 := hp3.frm2 hf4 (by decide)
    refine b_X7_beats_63 (s_sum he1 pts_31 hp31) (fun x g5 hx => ?_)
    obtain ⟨rfl, rfl⟩ := hx
    refine b_X7_beats_70 (s_sum he1 pts_27 hp4) (fun x g6 hx => ?_)
    obtain ⟨rfl, rfl⟩ := hx
    refine b_X7_beats_77 (fun c2 => ?_) (fun c2 => ?_)
    · refine b_X7_beats_84 (s_bit he1 (Or.inl rfl)) (fun x g7 hx => ?_)
      obtain ⟨rfl, rfl⟩ := hx
      exact b_X7_beats_88 (rx_ok hr0 (aR_0 hr0 (bi_neg (fun z => absurd c2 (Int.not_le.mpr z)))) hx4)
    · refine b_X7_beats_80 (s_bit he1 (Or.inr rfl)) (fun x g7 hx => ?_)
      obtain ⟨rfl, rfl⟩ := hx
      exact b_X7_beats_88 (rx_ok hr0 (aR_0 hr0 (bi_pos (Int.not_le.mp c2))) hx4)
  · have hno : ¬ rowOK n r (nP K) := by
      rcases hx with h | h
      · exact absurd (by rw [h.1]; decide) c
      · exact h.2
    have hr0 := rRow_no hno
    refine b_X7_beats_17 (s_refuse he1 ref3) (fun x g2 hx => ?_)
    obtain ⟨rfl, rfl⟩ := hx
    exact b_X7_beats_23 (rx_no hr0 (aR_n hr0 (by decide)))
theorem m_beats {d n : Nat} {g : pG} {K : tK} {r : tF} (hd : 11 ≤ d) (hK : KOK K) (hu : SM g K) (hr : RWm g n r) : CT d mX8_beats [vR 45] g (QM g (aR (rRow n r (nP K)) (aBeats K r)) (rRow n r (nP K))) := by
  refine ct_in (L := [vR 45, vX 2, vX 2, vX 2]) (by omega) (Nat.le_of_ble_eq_true rfl) rfl (fun e he => ?_)
  have h8 := hK.2.2.1
  have he7 : 7 ≤ e := by omega
  have he1 : 1 ≤ e := Nat.le_trans (by decide) he7
  have hu0 := hu.m (thr g)
  have hr0 := hr.m (thr g)
  have m4 : fup (g 45) 8 0 4 = nP K := by rw [← hu0.2.2.1, cset_self]
  have m41 : fup (g 45) 8 0 41 = n := by rw [← hr0.1, cset_self]
  have hn16 := hr.2.1
  have loop : ∀ v1 : Int, ((v1 = 1 ∧ n = nP K) ∨ (v1 = 0 ∧ n ≠ nP K)) → EV e mX8_beats (QM g (aR (rRow n r (nP K)) (aBeats K r)) (rRow n r (nP K))) 24 [vR 45, vI v1, vI 0, vX 2] [] (cset g 45 (fup (g 45) 8 0)) := by
    intro v1 hv1
    refine loopN (P := fun k g' => mfr g g') n (fun k g' => ∀ (v1 w : Int), ((v1 = 1 ∧ n = nP K ∧ ∀ j, j < k → r j ≤ 18) ∨ (v1 = 0 ∧ ¬ rowOK n r (nP K))) → w = k → EV e mX8_beats _ 24 [vR 45, vI v1, vI w, vX 2] [] g') ?_ ?_ 0 _ (Nat.zero_le _) (thr g) _ _ (hv1.imp (fun z => ⟨z.1, z.2, fun j hj => absurd hj (Nat.not_lt_zero _)⟩) (fun z => ⟨z.1, fun y => z.2 y.1⟩)) rfl
    · rintro k g2 hk hf2 ih v1 w hv1 rfl
      have hr2 := hr.m hf2
      have hn2 := hr2.1
      have hv := (hr2.2.2 k hk).1
      have hk9 : (k : Int) < 2147483647 := by clear ih hv1; omega
      have hk16 : (k : Int) < 16 := by clear ih hv1; omega
      have hkl : ¬ (n : Int) ≤ (k : Int) := Int.not_le.mpr (Int.ofNat_lt.mpr hk)
      refine b_X8_beats_24 (fun c => absurd (by rw [hn2] at c; exact c) hkl) (fun c => ?_)
      refine b_X8_beats_32 (fun c => ?_) (fun c => ?_)
      · refine b_X8_beats_51 (ih _ hf2 _ _ (Or.inr ⟨rfl, ?_⟩) (w32n k hk9))
        rcases hv1 with h | h
        · rw [h.1] at c; exact absurd c (by decide)
        · exact h.2
      · have h1 : n = nP K ∧ ∀ j, j < k → r j ≤ 18 := by
          rcases hv1 with h | h
          · exact h.2
          · exact absurd h.1 c
        refine b_X8_beats_36 (Int.natCast_nonneg _) hk16 (fun c2 => ?_) (fun c2 => ?_)
        · rw [Int.toNat_natCast, hv] at c2
          exact b_X8_beats_51 (ih _ hf2 _ _ (Or.inr ⟨rfl, fun z => absurd c2 (Int.not_lt.mpr (z.2 k hk))⟩) (w32n k hk9))
        · rw [Int.toNat_natCast, hv] at c2
          exact b_X8_beats_47 (ih _ hf2 _ _ (Or.inl ⟨rfl, h1.1, fun j hj => if h : j = k then h ▸ Int.not_lt.mp c2 else h1.2 j (by clear ih hv1; omega)⟩) (w32n k hk9))
    · rintro g2 hf2 v1 w hv1 rfl
      have hr2 := hr.m hf2
      have hn2 := hr2.1
      refine b_X8_beats_24 (fun c => ?_) (fun c => absurd (by rw [hn2]; exact Int.le_refl _) c)
      clear c
      refine b_X8_beats_59 (fun c => ?_) (fun c => ?_)
      · have hok : rowOK n r (nP K) := by
          rcases hv1 with h | h
          · exact h.2
          · exact absurd h.1 c
        have hz := rRow_ok hok
        refine b_X8_beats_70 (m_sumAll he7 hK (hu.m hf2)) (fun x g3 hx => ?_)
        obtain ⟨rfl, hf3⟩ := hx
        have hf3 := hf2.tr hf3.m
        have hf9 : mfr g3 (cset g3 45 (fup (g3 45) 11 (g3 45 4))) := ⟨fun a ha => by rw [cset_ne _ _ (by clear hv1; omega)], fun j hj => by rw [cset_self, fup_ne _ _ (by clear hv1; omega)]⟩
        refine b_X8_beats_74 ?_
        refine loopN (P := fun i g' => mfr g g' ∧ g' 45 11 = nP K ∧ ∀ j, j < i → g' 51 j = r j - 9) (nP K) (fun i g' => ∀ (w : Int), w = i → EV e mX8_beats _ 85 [vR 45, vI v1, vI (sumAll K), vI w] [] g') ?_ ?_ 0 _ (Nat.zero_le _) ⟨hf3.tr hf9, by rw [cset_self, fup_self]; exact (hu.m hf3).2.2.1, fun j hj => absurd hj (Nat.not_lt_zero _)⟩ _ rfl
        · rintro i g4 hi ⟨hf4, hn4, he4⟩ ih w rfl
          have hil : ¬ (nP K : Int) ≤ (i : Int) := Int.not_le.mpr (Int.ofNat_lt.mpr hi)
          have hin : i < n := by rw [hok.1]; exact hi
          have hv := (hr.m hf4).2.2 i hin
          have hv18 := hok.2 i hin
          have i8 : (i : Int) < 8 := by clear ih hil hv1; omega
          have i16 : (i : Int) < 16 := by clear ih hil hv1; omega
          have i9 : (i : Int) < 2147483647 := by clear ih hil hv1; omega
          have ev : w32 (r i - 9) = r i - 9 := w32_of (by clear ih hil hv1; omega) (by clear ih hil hv1; omega)
          refine b_X8_beats_85 (fun c => absurd (by rw [(hu.m hf4).2.2.1] at c; exact c) hil) (fun c => ?_)
          refine b_X8_beats_93 (Int.natCast_nonneg _) i16 i8 ?_
          rw [Int.toNat_natCast, hv.1, ev]
          refine ih _ ⟨hf4.tr (mset _ (Or.inl rfl)), by rw [cset_ne _ _ (by decide)]; exact hn4, fun j hj => ?_⟩ _ (w32n i i9)
          rw [cset_self]
          by_cases ej : j = i
          · subst ej; rw [fup_self]
          · rw [fup_ne _ _ ej]; exact he4 j (Nat.lt_of_le_of_ne (Nat.lt_succ_iff.mp hj) ej)
        · rintro g4 ⟨hf4, hn4, he4⟩ w rfl
          have hp4 : NW g4 (nP K) (fun j => r j - 9) := ⟨hn4, h8.1, h8.2, he4, fun j hj => by
            have hin : j < n := by rw [hok.1]; exact hj
            have h18 := hok.2 j hin
            have h0 := (hr.2.2 j hin).2.1
            exact (show -9 ≤ r j - 9 ∧ r j - 9 ≤ 9 from ⟨by clear hv1; omega, by clear hv1; omega⟩)⟩
          refine b_X8_beats_85 (fun c => ?_) (fun c => absurd (by rw [(hu.m hf4).2.2.1]; exact Int.le_refl _) c)
          refine b_X8_beats_114 (m_passAll0 (Nat.le_trans (by decide) he7) hK (hu.m hf4) hp4) (fun g5 hx => ?_)
          obtain ⟨hp5, hf5⟩ := hx
          have hf5 := hf4.tr hf5.m51
          refine b_X8_beats_119 (m_sumNow he1 hp5) (fun x g6 hx => ?_)
          obtain ⟨rfl, rfl⟩ := hx
          refine b_X8_beats_123 (fun c2 => ?_) (fun c2 => ?_)
          · exact b_X8_beats_131 (rm_ok hz (aR_0 hz (bi_neg (fun z => absurd c2 (Int.not_le.mpr z)))) hf5)
          · exact b_X8_beats_127 (rm_ok hz (aR_0 hz (bi_pos (Int.not_le.mp c2))) hf5)
      · have hno : ¬ rowOK n r (nP K) := by
          rcases hv1 with h | h
          · exact absurd (by rw [h.1]; decide) c
          · exact h.2
        have hz := rRow_no hno
        refine b_X8_beats_63 (m_refuse he1 ref3) (fun x g3 hx => ?_)
        obtain ⟨rfl, rfl⟩ := hx
        exact b_X8_beats_69 (rm_no hf2 hz (aR_n hz (by decide)))
  refine b_X8_beats_0 (fun c => ?_) (fun c => ?_)
  · rw [m4, m41] at c
    exact b_X8_beats_20 (loop 0 (Or.inr ⟨rfl, fun z => c (by rw [z])⟩))
  · rw [m4, m41] at c
    exact b_X8_beats_16 (loop 1 (Or.inl ⟨rfl, Int.ofNat_inj.mp (Classical.not_not.mp c)⟩))
