theorem bi_cases (p : Prop) [Decidable p] : (bi p = 1 ∧ p) ∨ (bi p = 0 ∧ ¬ p) := by
  by_cases h : p
  · left; exact ⟨bi_pos h, h⟩
  · right; exact ⟨bi_neg h, h⟩
/-- what a query of the reference leaves as it was -/
def mfr (g g' : pG) : Prop := (∀ a, (a < 45 ∨ (46 ≤ a ∧ a ≤ 50) ∨ a = 52 ∨ a = 57 ∨ a = 58 ∨ a = 68) → g' a = g a) ∧ ∀ j, (j = 0 ∨ j = 4 ∨ j = 6 ∨ j = 7 ∨ j = 13 ∨ j = 22 ∨ j = 28 ∨ j = 41) → g' 45 j = g 45 j
theorem mfr.rf {g : pG} : mfr g g := ⟨fun _ _ => rfl, fun _ _ => rfl⟩
theorem mfr.tr {g g1 g2 : pG} (h1 : mfr g g1) (h2 : mfr g1 g2) : mfr g g2 := ⟨fun a ha => (h2.1 a ha).trans (h1.1 a ha), fun j hj => (h2.2 j hj).trans (h1.2 j hj)⟩
theorem frT.m {g g' : pG} (h : frT g g') : mfr g g' := ⟨fun a ha => h.1 a (by omega) (by omega), fun j hj => h.2 j (by omega)⟩
theorem fr.m {g g' : pG} {c : Nat} (h : fr g g' c) (hc : c = 51 ∨ (53 ≤ c ∧ c ≤ 56) ∨ (59 ≤ c ∧ c ≤ 67) ∨ 69 ≤ c) : mfr g g' := ⟨fun a ha => h a (by omega), fun j hj => by rw [h 45 (by omega)]⟩
theorem fr.m51 {g g' : pG} (h : fr g g' 51) : mfr g g' := h.m (Or.inl rfl)
theorem thr (g : pG) : mfr g (cset g 45 (fup (g 45) 8 0)) := ⟨fun a ha => by rw [cset_ne _ _ (by omega)], fun j hj => by rw [cset_self, fup_ne _ _ (by omega)]⟩
theorem mset {g : pG} {c : Nat} (f : tF) (hc : c = 51 ∨ (53 ≤ c ∧ c ≤ 56) ∨ (59 ≤ c ∧ c ≤ 67) ∨ 69 ≤ c) : mfr g (cset g c f) := ⟨fun a ha => by rw [cset_ne _ _ (by omega)], fun j hj => by rw [cset_ne _ _ (by omega)]⟩
theorem SM.m {g g' : pG} {K : tK} (h : SM g K) (hf : mfr g g') : SM g' K := by
  obtain ⟨h1, h2, h3, h4, h5, h6⟩ := h
  refine ⟨by rw [hf.2 0 (by omega)]; exact h1, fun k hk => ?_, by rw [hf.2 4 (by omega)]; exact h3, fun k hk => by rw [hf.1 49 (by omega)]; exact h4 k hk, by rw [hf.2 6 (by omega)]; exact h5, by rw [hf.2 7 (by omega)]; exact h6⟩
  rw [hf.1 46 (by omega), hf.1 47 (by omega), hf.1 48 (by omega)]
  exact h2 k hk
def refM (g : pG) (n : Int) : pG := if n = 0 then g else cset g 50 (fup (g 50) (-n).toNat (w32 (g 50 (-n).toNat + 1)))
theorem refM0 (g : pG) : refM g 0 = g := if_pos rfl
theorem mfr.ref {g g' : pG} (h : mfr g g') (n : Int) : mfr (refM g n) (refM g' n) := by
  unfold refM
  split
  · exact h
  · rw [h.1 50 (by omega)]
    refine ⟨fun a ha => ?_, fun j hj => by rw [cset_ne _ _ (by omega), cset_ne _ _ (by omega)]; exact h.2 j hj⟩
    by_cases ha5 : a = 50
    · subst ha5; rw [cset_self, cset_self]
    · rw [cset_ne _ _ ha5, cset_ne _ _ ha5]; exact h.1 a ha
theorem m_refuse {d : Nat} {g : pG} {n : Int} (hd : 1 ≤ d) (hn : isRef n) : CT d mX8_refuse [vR 45, vI n] g (qI (fun x g' => x = n ∧ g' = refM g n)) := by
  refine ct_in (L := [vR 45, vI n]) (by omega) (Nat.le_of_ble_eq_true rfl) rfl (fun e he => ?_)
  have h1 : -6 ≤ n ∧ n ≤ -1 := by rcases hn with rfl | rfl | rfl | rfl | rfl <;> omega
  have e1 : w32 (-n) = -n := w32_of (by omega) (by omega)
  refine b_X8_refuse_0 (by omega) (by omega) ?_
  try simp (disch := omega) only [w32_of, Int.toNat_natCast, tn0, tn1, tn2]
  exact ⟨_, rfl, rfl, by unfold refM; rw [if_neg (by omega)]⟩
/-- what a query tells: the answer, and a refusal counted -/
def QX (g : pG) (a n : Int) : Option pV → pG → Prop := qI (fun x g' => x = a ∧ xfr (refX g n) g')
def QM (g : pG) (a n : Int) : Option pV → pG → Prop := qI (fun x g' => x = a ∧ mfr (refM g n) g')
theorem rx_no {g : pG} {a n m x : Int} (hn : n = m) (ha : a = x) : QX g a n (some (vI x)) (refX g m) := ⟨_, rfl, ha.symm, by rw [hn]; exact xfr.rf⟩
theorem rx_ok {g g' : pG} {a n x : Int} (hn : n = 0) (ha : a = x) (hf : xfr g g') : QX g a n (some (vI x)) g' := ⟨_, rfl, ha.symm, by rw [hn, refX0]; exact hf⟩
theorem rm_no {g g0 : pG} {a n m x : Int} (hf : mfr g g0) (hn : n = m) (ha : a = x) : QM g a n (some (vI x)) (refM g0 m) := ⟨_, rfl, ha.symm, by rw [hn]; exact hf.ref _⟩
theorem rm_ok {g g' : pG} {a n x : Int} (hn : n = 0) (ha : a = x) (hf : mfr g g') : QM g a n (some (vI x)) g' := ⟨_, rfl, ha.symm, by rw [hn, refM0]; exact hf⟩
def aR (r a : Int) : Int := if r = 0 then a else r
theorem aR_n {r a m : Int} (h : r = m) (hm : m ≠ 0) : aR r a = m := by unfold aR; rw [if_neg (by omega)]; exact h
theorem aR_0 {r a x : Int} (h : r = 0) (hx : a = x) : aR r a = x := by unfold aR; rw [if_pos h]; exact hx
def aH (r a : Int) : Int := if r = 0 then a else 1000000000 - r
theorem aH_n {r a m x : Int} (h : r = m) (hm : m ≠ 0) (hx : x = 1000000000 - m) : aH r a = x := by unfold aH; rw [if_neg (by omega), hx, h]
theorem aH_0 {r a x : Int} (h : r = 0) (hx : a = x) : aH r a = x := by unfold aH; rw [if_pos h]; exact hx
def rW (w m : Int) : Int := if 0 ≤ w ∧ w ≤ m then 0 else -2
theorem rW_cases (w m : Int) : (0 ≤ w ∧ w ≤ m ∧ rW w m = 0) ∨ (¬ (0 ≤ w ∧ w ≤ m) ∧ rW w m = -2) := by
  unfold rW; split
  · left; omega
  · right; omega
def sel (w a b : Int) : Int := if w = 0 then a else b
theorem sel0 {w a b x : Int} (h : w = 0) (hx : a = x) : sel w a b = x := by unfold sel; rw [if_pos h]; exact hx
theorem sel1 {w a b x : Int} (h : w ≠ 0) (hx : b = x) : sel w a b = x := by unfold sel; rw [if_neg h]; exact hx
theorem ref1 : isRef (-1) := Or.inl rfl
theorem ref2 : isRef (-2) := Or.inr (Or.inl rfl)
theorem ref3 : isRef (-3) := Or.inr (Or.inr (Or.inl rfl))
/-- SUM and FOR behind the first k courts -/
def su (K : tK) (k : Nat) : Int := psum (downF K k (ptC K)) (nP K)
def fo (K : tK) (k : Nat) : Int := bi (0 < psum (downF K k (ptC K)) (nP K))
theorem su_bd {K : tK} (hK : KOK K) {k : Nat} (hk : k ≤ nC K) : -72 ≤ su K k ∧ su K k ≤ 72 := by
  have hb : Bd (nP K) (ptC K) := fun j hj => hK.2.2.2.1 j (by have := hK.2.2.1.2; omega)
  have h := psum_bd (Bd.down hK hb k hk) (nP K) (Nat.le_refl _)
  have := hK.2.2.1.2
  unfold su
  omega
/-- court -/
def rCourt (K : tK) (c w : Int) : Int := if 0 ≤ c ∧ c < nC K then rW w 2 else -1
theorem rCourt_cases (K : tK) (c w : Int) : ((0 ≤ c ∧ c < nC K) ∧ rCourt K c w = rW w 2) ∨ (¬ (0 ≤ c ∧ c < nC K) ∧ rCourt K c w = -1) := by
  unfold rCourt; split
  · left; exact ⟨by assumption, rfl⟩
  · right; exact ⟨by assumption, rfl⟩
def aCourt (K : tK) (c w : Int) : Int := if w = 0 then kdC K c.toNat else if w = 1 then fgC K c.toNat else csC K c.toNat
theorem x_court {d : Nat} {g : pG} {K : tK} {c w : Int} (hd : 8 ≤ d) (hK : KOK K) (hu : SU g 1 K) : CT d mX7_court [vR 0, vI c, vI w] g (QX g (aR (rCourt K c w) (aCourt K c w)) (rCourt K c w)) := by
  refine ct_in (L := [vR 0, vI c, vI w]) (by omega) (Nat.le_of_ble_eq_true rfl) rfl (fun e he => ?_)
  have h7 := hK.1
  have r1 := rCourt_cases K c w
  have r2 := rW_cases w 2
  have b1 := bi_cases (0 ≤ c ∧ c < nC K)
  have hr : 0 ≤ c ∧ c < nC K → g 2 c.toNat = kdC K c.toNat ∧ g 3 c.toNat = fgC K c.toNat ∧ g 4 c.toNat = csC K c.toNat := fun h => hu.2.1 _ (by omega)
  refine b_X7_court_0 (s_hasCourt (by omega) st_1 hu) (fun x0 _ hx => ?_)
  obtain ⟨rfl, rfl⟩ := hx
  refine b_X7_court_8 (fun c8 => ?_) (fun c8 => ?_)
  · refine b_X7_court_17 (fun c17 => ?_) (fun c17 => ?_) (fun c17 => ?_) (fun c17 => ?_)
    · refine b_X7_court_44 (by omega) (by omega) ?_
      try simp (disch := omega) only [w32_of, Int.toNat_natCast, tn0, tn1, tn2]
      exact rx_ok (by omega) (aR_0 (by omega) (by unfold aCourt; rw [if_pos (by omega)]; exact (hr (by omega)).1.symm)) xfr.rf
    · refine b_X7_court_54 (by omega) (by omega) ?_
      try simp (disch := omega) only [w32_of, Int.toNat_natCast, tn0, tn1, tn2]
      exact rx_ok (by omega) (aR_0 (by omega) (by unfold aCourt; rw [if_neg (by omega), if_pos (by omega)]; exact (hr (by omega)).2.1.symm)) xfr.rf
    · refine b_X7_court_64 (by omega) (by omega) ?_
      try simp (disch := omega) only [w32_of, Int.toNat_natCast, tn0, tn1, tn2]
      exact rx_ok (by omega) (aR_0 (by omega) (by unfold aCourt; rw [if_neg (by omega), if_neg (by omega)]; exact (hr (by omega)).2.2.symm)) xfr.rf
    · refine b_X7_court_74 (s_refuse (by omega) ref2) (fun x3 _ hx => ?_)
      obtain ⟨rfl, rfl⟩ := hx
      refine b_X7_court_80 ?_
      exact rx_no (by omega) (aR_n (by omega) (by omega))
  · refine b_X7_court_11 (s_refuse (by omega) ref1) (fun x2 _ hx => ?_)
    obtain ⟨rfl, rfl⟩ := hx
    refine b_X7_court_16 ?_
    exact rx_no (by omega) (aR_n (by omega) (by omega))
/-- turns -/
def turnsF (K : tK) : Nat → Int × Int
  | 0 => (-9, 0)
  | k + 1 => if fo K (k + 1) = fo K k then turnsF K k else (if (turnsF K k).1 < 0 then (k : Int) else (turnsF K k).1, (turnsF K k).2 + 1)
theorem turnsF_bd (K : tK) : ∀ k, (((turnsF K k).1 = -9 ∧ (turnsF K k).2 = 0) ∨ (0 ≤ (turnsF K k).1 ∧ 1 ≤ (turnsF K k).2)) ∧ (turnsF K k).2 ≤ k := by
  intro k
  induction k with
  | zero => exact ⟨Or.inl ⟨rfl, rfl⟩, Int.le_refl _⟩
  | succ k ih =>
    unfold turnsF
    split
    · omega
    · dsimp only
      split <;> omega
theorem turnsF_eq {K : tK} {k : Nat} (h : fo K (k + 1) = fo K k) : turnsF K (k + 1) = turnsF K k := by
  show (if fo K (k + 1) = fo K k then turnsF K k else _) = _
  rw [if_pos h]
theorem turnsF_ne {K : tK} {k : Nat} (h : fo K (k + 1) ≠ fo K k) : (turnsF K (k + 1)).1 = (if (turnsF K k).1 < 0 then (k : Int) else (turnsF K k).1) ∧ (turnsF K (k + 1)).2 = (turnsF K k).2 + 1 := by
  have e : turnsF K (k + 1) = (if (turnsF K k).1 < 0 then (k : Int) else (turnsF K k).1, (turnsF K k).2 + 1) := by
    show (if fo K (k + 1) = fo K k then turnsF K k else _) = _
    rw [if_neg h]
  rw [e]
  exact ⟨rfl, rfl⟩
theorem x_turns {d : Nat} {g : pG} {K : tK} {w : Int} (hd : 8 ≤ d) (hK : KOK K) (hu : SU g 1 K) : CT d mX7_turns [vR 0, vI w] g (QX g (aR (rW w 1) (sel w (turnsF K (nC K)).1 (turnsF K (nC K)).2)) (rW w 1)) := by
  refine ct_in (L := [vR 0, vI w, vX 2, vX 2, vX 2, vX 2]) (by omega) (Nat.le_of_ble_eq_true rfl) rfl (fun e he => ?_)
  have h7 := hK.1
  have r2 := rW_cases w 1
  have loop : ∀ g1, PT g1 27 (nP K) (ptC K) → xfr g g1 → rW w 1 = 0 → EV e mX7_turns (QX g (aR (rW w 1) (sel w (turnsF K (nC K)).1 (turnsF K (nC K)).2)) (rW w 1)) 29 [vR 0, vI w, vI (-9), vI 0, vI 0, vX 2] [] g1 := by
    intro g1 hp1 hf1 hr0
    refine loopN (P := fun k g' => PT g' 27 (nP K) (downF K k (ptC K)) ∧ xfr g g') (nC K) (fun k g' => ∀ (v2 v3 w4 : Int) (u : pV), v2 = (turnsF K k).1 → v3 = (turnsF K k).2 → w4 = k → EV e mX7_turns _ 29 [vR 0, vI w, vI v2, vI v3, vI w4, u] [] g') ?_ ?_ 0 g1 (Nat.zero_le _) ⟨hp1, hf1⟩ _ _ _ _ rfl rfl rfl
    · rintro k g2 hk ⟨hp2, hf2⟩ ih v2 v3 w4 u hv2 hv3 rfl
      have hu2 := hu.x hf2
      have hm := hu2.1
      have hb := turnsF_bd K k
      refine b_X7_turns_29 (fun c29 => ?_) (fun c29 => ?_)
      · exfalso
        omega
      · refine b_X7_turns_41 (s_isFor (by omega) pts_27 hp2) (fun x1 _ hx => ?_)
        obtain ⟨hx0, rfl⟩ := hx
        refine b_X7_turns_48 (s_hear (by omega) pts_27 hK hu2 hp2 hk) (fun g3 hx => ?_)
        obtain ⟨hp3, hf3⟩ := hx
        refine b_X7_turns_63 (s_isFor (by omega) pts_27 hp3) (fun x3 _ hx => ?_)
        obtain ⟨hx1, rfl⟩ := hx
        refine b_X7_turns_70 (fun c70 => ?_) (fun c70 => ?_)
        · refine b_X7_turns_86 ?_
          first | (have heq := turnsF_eq (K := K) (k := k) (hx1.symm.trans (c70.trans hx0)); exact ih _ ⟨hp3, hf2.tr (hf3.x scr27)⟩ _ _ _ _ (by rw [heq]; exact hv2) (by rw [heq]; exact hv3) (by rw [w32_of (by omega) (by omega)]; omega)) | (have hne := turnsF_ne (K := K) (k := k) (fun z => c70 (hx1.trans (z.trans hx0.symm))); rw [if_neg (by omega)] at hne; exact ih _ ⟨hp3, hf2.tr (hf3.x scr27)⟩ _ _ _ _ (by omega) (by omega) (by rw [w32_of (by omega) (by omega)]; omega))
        · refine b_X7_turns_75 (fun c75 => ?_) (fun c75 => ?_)
          · try simp (disch := omega) only [w32_of, Int.toNat_natCast, tn0, tn1, tn2] at c75 ⊢
            refine b_X7_turns_86 ?_
            first | (have heq := turnsF_eq (K := K) (k := k) (hx1.symm.trans (c70.trans hx0)); exact ih _ ⟨hp3, hf2.tr (hf3.x scr27)⟩ _ _ _ _ (by rw [heq]; exact hv2) (by rw [heq]; exact hv3) (by rw [w32_of (by omega) (by omega)]; omega)) | (have hne := turnsF_ne (K := K) (k := k) (fun z => c70 (hx1.trans (z.trans hx0.symm))); rw [if_neg (by omega)] at hne; exact ih _ ⟨hp3, hf2.tr (hf3.x scr27)⟩ _ _ _ _ (by omega) (by omega) (by rw [w32_of (by omega) (by omega)]; omega))
          · try simp (disch := omega) only [w32_of, Int.toNat_natCast, tn0, tn1, tn2] at c75 ⊢
            refine b_X7_turns_83 ?_
            have hne := turnsF_ne (K := K) (k := k) (fun z => c70 (hx1.trans (z.trans hx0.symm)))
            rw [if_pos (by omega)] at hne
            exact ih _ ⟨hp3, hf2.tr (hf3.x scr27)⟩ _ _ _ _ (by omega) (by omega) (by rw [w32_of (by omega) (by omega)]; omega)
    · rintro g2 ⟨hp2, hf2⟩ v2 v3 w4 u hv2 hv3 rfl
      have hm := (hu.x hf2).1
      refine b_X7_turns_29 (fun c29 => ?_) (fun c29 => ?_)
      · refine b_X7_turns_92 (fun c92 => ?_) (fun c92 => ?_)
        · refine b_X7_turns_100 ?_
          exact rx_ok hr0 (aR_0 hr0 (sel1 (by omega) hv3.symm)) hf2
        · refine b_X7_turns_96 ?_
          exact rx_ok hr0 (aR_0 hr0 (sel0 (by omega) hv2.symm)) hf2
      · exfalso
        omega
  refine b_X7_turns_0 (fun c0 => ?_) (fun c0 => ?_)
  · refine b_X7_turns_9 (s_refuse (by omega) ref2) (fun x1 _ hx => ?_)
    obtain ⟨rfl, rfl⟩ := hx
    refine b_X7_turns_15 ?_
    exact rx_no (by omega) (aR_n (by omega) (by omega))
  · refine b_X7_turns_4 (fun c4 => ?_) (fun c4 => ?_)
    · refine b_X7_turns_16 (s_goDownTo0 (by omega) hK hu) (fun g1 hx => ?_)
      obtain ⟨hp1, hf1⟩ := hx
      refine b_X7_turns_26 ?_
      exact loop g1 hp1 (hf1.x scr27) (by omega)
    · refine b_X7_turns_9 (s_refuse (by omega) ref2) (fun x2 _ hx => ?_)
      obtain ⟨rfl, rfl⟩ := hx
      refine b_X7_turns_15 ?_
      exact rx_no (by omega) (aR_n (by omega) (by omega))
theorem m_turns {d : Nat} {g : pG} {K : tK} {w : Int} (hd : 11 ≤ d) (hK : KOK K) (hu : SM g K) : CT d mX8_turns [vR 45, vI w] g (QM g (aR (rW w 1) (sel w (turnsF K (nC K)).1 (turnsF K (nC K)).2)) (rW w 1)) := by
  refine ct_in (L := [vR 45, vI w, vX 2, vX 2, vX 2, vX 2, vX 2]) (by omega) (Nat.le_of_ble_eq_true rfl) rfl (fun e he => ?_)
  have h7 := hK.1
  have r2 := rW_cases w 1
  have b1 := bi_cases (0 ≤ w ∧ w ≤ 1)
  have hu0 := hu.m (thr g)
  have loop : ∀ g1, NW g1 (nP K) (ptC K) → mfr g g1 → rW w 1 = 0 → EV e mX8_turns (QM g (aR (rW w 1) (sel w (turnsF K (nC K)).1 (turnsF K (nC K)).2)) (rW w 1)) 34 [vR 45, vI w, vI (-9), vI 0, vI 0, vX 2, vX 2] [] g1 := by
    intro g1 hp1 hf1 hr0
    refine loopN (P := fun k g' => NW g' (nP K) (downF K k (ptC K)) ∧ mfr g g') (nC K) (fun k g' => ∀ (v2 v3 w4 : Int) (u u2 : pV), v2 = (turnsF K k).1 → v3 = (turnsF K k).2 → w4 = k → EV e mX8_turns _ 34 [vR 45, vI w, vI v2, vI v3, vI w4, u, u2] [] g') ?_ ?_ 0 g1 (Nat.zero_le _) ⟨hp1, hf1⟩ _ _ _ _ _ rfl rfl rfl
    · rintro k g2 hk ⟨hp2, hf2⟩ ih v2 v3 w4 u u2 hv2 hv3 rfl
      have hu2 := hu.m hf2
      have hm := hu2.1
      have hb := turnsF_bd K k
      have key : ∀ (x0 x1 : Int) (g3 : pG), x0 = fo K k → x1 = fo K (k + 1) → NW g3 (nP K) (downF K (k + 1) (ptC K)) → mfr g g3 → ∀ (v2' v3' : Int) (u u2 : pV), (x1 = x0 ∧ v2' = v2 ∧ v3' = v3 ∨ (x1 ≠ x0 ∧ v3' = v3 + 1 ∧ ((v2 < 0 ∧ v2' = k) ∨ (0 ≤ v2 ∧ v2' = v2)))) → EV e mX8_turns (QM g (aR (rW w 1) (sel w (turnsF K (nC K)).1 (turnsF K (nC K)).2)) (rW w 1)) 34 [vR 45, vI w, vI v2', vI v3', vI ((k : Int) + 1), u, u2] [] g3 := by
        intro x0 x1 g3 hx0 hx1 hp3 hf3 v2' v3' u u2 hh
        rcases hh with ⟨h1, rfl, rfl⟩ | ⟨h1, h2, h3⟩
        · have heq := turnsF_eq (K := K) (k := k) (hx1.symm.trans (h1.trans hx0))
          exact ih _ ⟨hp3, hf3⟩ _ _ _ _ _ (by rw [heq]; exact hv2) (by rw [heq]; exact hv3) (by omega)
        · have hne := turnsF_ne (K := K) (k := k) (fun z => h1 (hx1.trans (z.trans hx0.symm)))
          refine ih _ ⟨hp3, hf3⟩ _ _ _ _ _ ?_ (by omega) (by omega)
          rw [hne.1]
          split <;> omega
      refine b_X8_turns_34 (fun c34 => ?_) (fun c34 => ?_)
      · exfalso
        omega
      · refine b_X8_turns_43 (m_isFor (by omega) hp2) (fun x1 _ hx => ?_)
        obtain ⟨hx0, rfl⟩ := hx
        refine b_X8_turns_47 (m_pass (by omega) hK hu2 hp2 hk) (fun g3 hx => ?_)
        obtain ⟨hp3, hf3⟩ := hx
        refine b_X8_turns_55 (m_isFor (by omega) hp3) (fun x3 _ hx => ?_)
        obtain ⟨hx1, rfl⟩ := hx
        refine b_X8_turns_59 (fun c59 => ?_) (fun c59 => ?_)
        · refine b_X8_turns_68 ?_
          try simp (disch := omega) only [w32_of, Int.toNat_natCast, tn0, tn1, tn2]
          exact key _ _ _ hx0 hx1 hp3 (hf2.tr hf3.m51) _ _ _ _ (by omega)
        · refine b_X8_turns_64 (fun c64 => ?_) (fun c64 => ?_)
          · refine b_X8_turns_85 (fun c85 => ?_) (fun c85 => ?_)
            · exfalso
              omega
            · refine b_X8_turns_93 ?_
              try simp (disch := omega) only [w32_of, Int.toNat_natCast, tn0, tn1, tn2]
              exact key _ _ _ hx0 hx1 hp3 (hf2.tr hf3.m51) _ _ _ _ (by omega)
          · refine b_X8_turns_80 (fun c80 => ?_) (fun c80 => ?_)
            · exfalso
              omega
            · refine b_X8_turns_93 ?_
              try simp (disch := omega) only [w32_of, Int.toNat_natCast, tn0, tn1, tn2]
              exact key _ _ _ hx0 hx1 hp3 (hf2.tr hf3.m51) _ _ _ _ (by omega)
    · rintro g2 ⟨hp2, hf2⟩ v2 v3 w4 u u2 hv2 hv3 rfl
      have hm := (hu.m hf2).1
      refine b_X8_turns_34 (fun c34 => ?_) (fun c34 => ?_)
      · refine b_X8_turns_106 (fun c106 => ?_) (fun c106 => ?_)
        · refine b_X8_turns_114 ?_
          exact rm_ok hr0 (aR_0 hr0 (sel1 (by omega) hv3.symm)) hf2
        · refine b_X8_turns_110 ?_
          exact rm_ok hr0 (aR_0 hr0 (sel0 (by omega) hv2.symm)) hf2
      · exfalso
        omega
  refine b_X8_turns_0 (m_in (by omega)) (fun x0 _ hx => ?_)
  obtain ⟨rfl, rfl⟩ := hx
  refine b_X8_turns_12 (fun c12 => ?_) (fun c12 => ?_)
  · refine b_X8_turns_22 (m_think (by omega) hK hu0) (fun g1 hx => ?_)
    obtain ⟨hp1, h81, hf1⟩ := hx
    refine b_X8_turns_31 ?_
    exact loop g1 hp1 ((thr g).tr hf1.m) (by omega)
  · refine b_X8_turns_15 (m_refuse (by omega) ref2) (fun x2 _ hx => ?_)
    obtain ⟨rfl, rfl⟩ := hx
    refine b_X8_turns_21 ?_
    exact rm_no (thr g) (by omega) (aR_n (by omega) (by omega))
