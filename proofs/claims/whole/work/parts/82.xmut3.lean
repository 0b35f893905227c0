/-- back -/
def rBa (um : Nat) : Int := if um = 0 then -3 else 0
def stBk (st : tSt) : tSt := if sUm st = 0 then stR st (-3) else stB st
theorem stBk_ok {st : tSt} (h : OKst st) : OKst (stBk st) := by
  unfold stBk
  by_cases e : sUm st = 0
  · rw [if_pos e]; exact stR_ok h
  · rw [if_neg e]; exact stB_ok h
theorem s_takeBack {d : Nat} {g : pG} {st : tSt} (hd : 4 ≤ d) (hst : OKst st) (hI : IX g st) (hm : sUm st ≠ 0) : CT d mX0_takeBack [vR 21, vR 1] g (qI (fun x g' => x = ((sUm st - 1 : Nat) : Int) ∧ IX g' (stB st) ∧ ∀ c, 45 ≤ c → g' c = g c)) := by
  refine ct_in (L := [vR 21, vR 1]) (by omega) (Nat.le_of_ble_eq_true rfl) rfl (fun e he => ?_)
  obtain ⟨n, hn⟩ : ∃ n, sUm st = n + 1 := ⟨sUm st - 1, by omega⟩
  have h8 := hst.2.2.2.2.1
  have hK := hst.1
  have hSn : sUs st (n + 1) = sK st := by rw [← hn]; exact hst.2.2.2.2.2.2
  obtain ⟨u1, u2⟩ := hI.2.2.2.2.2
  have hE := u2 n (by omega)
  rw [hSn] at hE
  have ew : w32 (g 21 3 - 1) = (n : Int) := by rw [u1, hn]; exact w32m n (by omega)
  have n0 : (0 : Int) ≤ (n : Int) := Int.natCast_nonneg _
  have n8 : (n : Int) < 8 := by omega
  have hG : ∀ a, a ≠ 21 → (cset g 21 (fup (g 21) 3 (n : Int))) a = g a := fun a ha => cset_ne _ _ ha
  have hG3 : (cset g 21 (fup (g 21) 3 (n : Int))) 21 3 = (n : Int) := by rw [cset_self, fup_self]
  have hu1 : SU (cset g 21 (fup (g 21) 3 (n : Int))) 1 (sK st) := hI.1.frm (fun a ha hb => hG a (by omega))
  have en : sUm st - 1 = n := by omega
  -- behind the case brought back
  have fin : ∀ (g1 : pG) (K1 : tK), SU g1 1 K1 → Ueq K1 (sUs st n) → frR 1 (cset g 21 (fup (g 21) 3 (n : Int))) g1 → qI (fun x g' => x = ((sUm st - 1 : Nat) : Int) ∧ IX g' (stB st) ∧ ∀ c, 45 ≤ c → g' c = g c) (some (vI (g1 21 3))) g1 := by
    intro g1 K1 hu hq hf
    refine ⟨_, rfl, by rw [hf 21 (by decide), hG3, en], ?_, fun c hc => by rw [hf c (by omega)]; exact hG c (by omega)⟩
    unfold stB
    rw [en]
    refine hI.mk (hu.eq hq) ⟨by rw [hf 21 (by decide), hG3], fun i hi => ?_⟩ (fun a ha => by rw [hf a (by omega)]; exact hG a (by omega))
    rw [hf 22 (by decide), hf 23 (by decide), hf 24 (by decide), hG 22 (by decide), hG 23 (by decide), hG 24 (by decide)]
    exact u2 i (by omega)
  refine b_X0_takeBack_0 (fun _ => ?_) (fun c => absurd (by omega) c)
  rw [show g 22 n = g 22 n from rfl] at hE
  refine b_X0_takeBack_9 (by rw [fup_self, ew]; exact n0) (by rw [fup_self, ew]; exact n8) (fun c => ?_) (fun c => ?_) (fun c => ?_)
  · rw [fup_self, ew, Int.toNat_natCast] at c
    rw [ew]
    rcases hE with ⟨hw, hp, ho, hq⟩ | ⟨hw, _⟩ | ⟨hw, _⟩
    · refine b_X0_takeBack_56 (by rw [hG3]; exact n0) (by rw [hG3]; exact n8) (by rw [hG3, Int.toNat_natCast, hG 23 (by decide), hG 24 (by decide)]; exact s_changePoint (by omega) st_1 hu1 hK) (fun x g1 hx => ?_)
      rcases hx with ⟨_, hno, _⟩ | ⟨rfl, _, hu2, hf2⟩
      · exact absurd hp hno
      · rw [held_id ho] at hu2
        exact b_X0_takeBack_78 (fin g1 _ hu2 hq hf2)
    · exact absurd (c.symm.trans hw) (by decide)
    · exact absurd (c.symm.trans hw) (by decide)
  · rw [fup_self, ew, Int.toNat_natCast] at c
    rw [ew]
    rcases hE with ⟨hw, _⟩ | ⟨hw, hp, ho, hq⟩ | ⟨hw, _⟩
    · exact absurd (c.symm.trans hw) (by decide)
    · have d1 : w32 ((g 24 n).tdiv 10) = g 24 n / 10 := by rw [tdiv_nn ho.1, w32_of (by omega) (by omega)]
      have d2 : w32 ((g 24 n).tmod 10) = g 24 n % 10 := by rw [tmod_nn ho.1, w32_of (by omega) (by omega)]
      refine b_X0_takeBack_82 (by rw [hG3]; exact n0) (by rw [hG3]; exact n8) (by rw [hG3, Int.toNat_natCast, hG 23 (by decide), hG 24 (by decide), d1, d2]; exact s_rename (by omega) hu1 hK hp) (fun g1 hx => ?_)
      obtain ⟨hu2, hf2⟩ := hx
      exact b_X0_takeBack_119 (fin g1 _ hu2 hq hf2)
    · exact absurd (c.symm.trans hw) (by decide)
  · rw [fup_self, ew, Int.toNat_natCast] at c
    rw [ew]
    rcases hE with ⟨hw, _⟩ | ⟨hw, _⟩ | ⟨hw, hp, hq⟩
    · exact absurd hw c.1
    · exact absurd hw c.2
    · refine b_X0_takeBack_122 (s_loseLowest (by omega) st_1 hu1 hK) (fun x g1 hx => ?_)
      rcases hx with ⟨_, hno, _⟩ | ⟨rfl, _, hu2, hf2⟩
      · exact absurd hno (by omega)
      · exact b_X0_takeBack_126 (fin g1 _ hu2 hq hf2)
theorem x_back {d : Nat} {g : pG} {st : tSt} (hd : 8 ≤ d) (hst : OKst st) (hI : IX g st) : CT d mX7_back [vR 0] g (QXs g (aR (rBa (sUm st)) (sUm st - 1 : Nat)) (stBk st)) := by
  refine ct_in (L := [vR 0]) (by omega) (Nat.le_of_ble_eq_true rfl) rfl (fun e he => ?_)
  have u1 := hI.2.2.2.2.2.1
  refine b_X7_back_0 (fun c => ?_) (fun c => ?_)
  · have hm : sUm st ≠ 0 := by omega
    refine b_X7_back_17 (s_takeBack (by omega) hst hI hm) (fun x g1 hx => ?_)
    obtain ⟨rfl, hI1, hf1⟩ := hx
    exact b_X7_back_28 ⟨_, rfl, (aR_0 (if_neg hm) rfl).symm, by unfold stBk; rw [if_neg hm]; exact hI1, hf1⟩
  · have hm : sUm st = 0 := by omega
    refine b_X7_back_10 (s_refuse (by omega) ref3) (fun x g1 hx => ?_)
    obtain ⟨rfl, rfl⟩ := hx
    exact b_X7_back_16 ⟨_, rfl, (aR_n (if_pos hm) (by decide)).symm, by unfold stBk; rw [if_pos hm]; exact hI.ref (Or.inr ref3), fun c hc => refX_hi hc⟩
/-- image, restore -/
theorem x_image {d : Nat} {g : pG} {st : tSt} (hd : 8 ≤ d) (hst : OKst st) (hI : IX g st) : CT d mX7_image [vR 0] g (QXs g (nC (sK st)) (stI st)) := by
  refine ct_in (L := [vR 0]) (by omega) (Nat.le_of_ble_eq_true rfl) rfl (fun e he => ?_)
  have hK := hst.1
  refine b_X7_image_0 (s_copyS (by omega) st_1 st_13 (Or.inl (by decide)) hK hI.1) (fun g1 hx => ?_)
  obtain ⟨hu1, hf1⟩ := hx
  obtain ⟨h1, ⟨h2, h2'⟩, ⟨h3, h3', h3''⟩, h4, ⟨h5, h5'⟩, h6⟩ := hI
  have o : ∀ a, (a < 13 ∨ 19 ≤ a) → a ≠ 0 → (cset g1 0 (fup (g1 0) 3 1)) a = g a := fun a ha hb => by rw [cset_ne _ _ hb]; exact hf1 a ha
  have e0 : g1 0 = g 0 := hf1 0 (by decide)
  have hu0 : SU (cset g1 0 (fup (g1 0) 3 1)) 1 (sK st) := h1.frm (fun a ha hb => o a (by omega) (by omega))
  have e3 : g1 1 3 = nC (sK st) := by rw [hf1 1 (by decide)]; exact h1.1
  refine b_X7_image_11 ⟨_, rfl, e3, ⟨hu0, ⟨by rw [o 19 (by decide) (by decide)]; exact h2, fun i hi => by rw [o 20 (by decide) (by decide)]; exact h2' i hi⟩, ⟨by rw [cset_self, fup_ne _ _ (by decide), e0]; exact h3, h3', fun i hi => by rw [o 25 (by decide) (by decide)]; exact h3'' i hi⟩, fun j hj => by rw [o 26 (by decide) (by decide)]; exact h4 j hj, ⟨by rw [cset_self, fup_self]; rfl, fun _ => hu1.frm (fun a ha hb => cset_ne _ _ (by omega))⟩, h6.frm (fun a ha hb => o a (by omega) (by omega))⟩, fun c hc => o c (by omega) (by omega)⟩
def rRe (fl : Int) : Int := if fl = 0 then -3 else 0
def stRe (st : tSt) : tSt := if sFl st = 0 then stR st (-3) else stZ st (sKi st)
theorem stRe_ok {st : tSt} (h : OKst st) : OKst (stRe st) := by
  unfold stRe
  by_cases e : sFl st = 0
  · rw [if_pos e]; exact stR_ok h
  · rw [if_neg e]; exact stZ_ok h (h.2.2.2.1 (h.2.2.1.resolve_left e))
theorem x_restore {d : Nat} {g : pG} {st : tSt} (hd : 8 ≤ d) (hst : OKst st) (hI : IX g st) : CT d mX7_restore [vR 0] g (QXs g (aR (rRe (sFl st)) (nC (sKi st))) (stRe st)) := by
  refine ct_in (L := [vR 0]) (by omega) (Nat.le_of_ble_eq_true rfl) rfl (fun e he => ?_)
  have hfl := hI.2.2.2.2.1
  refine b_X7_restore_0 (fun c => ?_) (fun c => ?_)
  · have h0 : sFl st ≠ 0 := by rw [← hfl.1]; exact c
    have h1 : sFl st = 1 := hst.2.2.1.resolve_left h0
    have hKi := hst.2.2.2.1 h1
    refine b_X7_restore_14 (s_copyS (by omega) st_13 st_1 (Or.inr (by decide)) hKi (hfl.2 h1)) (fun g1 hx => ?_)
    obtain ⟨hu1, hf1⟩ := hx
    have e3 : g1 1 3 = nC (sKi st) := hu1.1
    refine b_X7_restore_25 ⟨_, rfl, (aR_0 (if_neg h0) e3.symm).symm, ?_, fun c hc => by rw [cset_ne _ _ (by omega)]; exact hf1 c (by omega)⟩
    unfold stRe
    rw [if_neg h0]
    exact hI.mk (hu1.frm (fun a ha hb => cset_ne _ _ (by omega))) ⟨by rw [cset_self, fup_self]; rfl, fun i hi => absurd hi (Nat.not_lt_zero _)⟩ (fun a ha => by rw [cset_ne _ _ (by omega)]; exact hf1 a (by omega))
  · have h0 : sFl st = 0 := by rw [← hfl.1]; exact Classical.not_not.mp c
    refine b_X7_restore_7 (s_refuse (by omega) ref3) (fun x g1 hx => ?_)
    obtain ⟨rfl, rfl⟩ := hx
    exact b_X7_restore_13 ⟨_, rfl, (aR_n (if_pos h0) (by decide)).symm, by unfold stRe; rw [if_pos h0]; exact hI.ref (Or.inr ref3), fun c hc => refX_hi hc⟩
/-- the ROW -/
def stRo (st : tSt) (v : Int) : tSt := if rPut (sRn st) v = 0 then stRw st (sRn st + 1) (fup (sRv st) (sRn st) v) else stR st (rPut (sRn st) v)
theorem stRo_ok {st : tSt} {v : Int} (h : OKst st) : OKst (stRo st v) := by
  unfold stRo
  by_cases e : rPut (sRn st) v = 0
  · rw [if_pos e]; exact h
  · rw [if_neg e]; exact h
