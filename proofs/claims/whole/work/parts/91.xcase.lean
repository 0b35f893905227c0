/-! caseOf, the class -/
abbrev sgS (st : tSt) : Nat → Int := fun i => if i < sLn st then sLv st i else -1
theorem sgN_st {g : pG} {st : tSt} (h : LX g (sLn st) (sLv st)) : sgN g = sgS st := by
  funext i
  by_cases hi : i < sLn st
  · rw [sgN_lt h.1 hi, h.2 i hi]
    exact (if_pos hi).symm
  · rw [sgN_ge h.1 (by omega)]
    exact (if_neg hi).symm
def stC (st : tSt) (o : Option tK) : tSt := match o with
  | none => stL st 0 (sLv st)
  | some K' => stL (stZ st K') 0 (sLv st)
theorem CS_ok {sg : Nat → Int} {n : Nat} {K K' : tK} {a : Int} (hK : KOK K) (h : CS sg n K a (some K')) : KOK K' := by
  rcases h with ⟨k, q, -, -, -, -, h⟩ | ⟨k, -, -, -, ⟨i, Ki, -, -, -, -, h⟩ | ⟨K1, h1, -, h⟩⟩
  · cases h
  · cases h
  · cases h; exact rnK_ok hK k _ h1
theorem stC_ok {st : tSt} {o : Option tK} (h : OKst st) (ho : ∀ K', o = some K' → KOK K') : OKst (stC st o) := by
  cases o with
  | none => exact stL_ok h (Nat.zero_le _) (fun i hi => absurd hi (Nat.not_lt_zero i))
  | some K' => exact stL_ok (stZ_ok h (ho K' rfl)) (Nat.zero_le _) (fun i hi => absurd hi (Nat.not_lt_zero i))
theorem IX.l0 {g : pG} {st : tSt} {v : tF} (h : IX g st) : IX (cset g 19 (fup (g 19) 1 0)) (stL st 0 v) := by
  obtain ⟨h1, ⟨h2, h2'⟩, ⟨h3, h3', h3''⟩, h4, ⟨h5, h5'⟩, h6⟩ := h
  have o : ∀ a, a ≠ 19 → (cset g 19 (fup (g 19) 1 0)) a = g a := fun a ha => cset_ne _ _ ha
  exact ⟨h1.frm (fun a ha hb => o a (by omega)), ⟨by rw [cset_self, fup_self]; rfl, fun i hi => absurd hi (Nat.not_lt_zero i)⟩, ⟨by rw [o 0 (by decide)]; exact h3, h3', fun i hi => by rw [o 25 (by decide)]; exact h3'' i hi⟩, fun j hj => by rw [o 26 (by decide)]; exact h4 j hj, ⟨by rw [o 0 (by decide)]; exact h5, fun z => (h5' z).frm (fun a ha hb => o a (by omega))⟩, h6.frm (fun a ha hb => o a (by omega))⟩
theorem x_caseOf {d : Nat} {g : pG} {st : tSt} (hd : 8 ≤ d) (hst : OKst st) (hI : IX g st) : CT d mX7_caseOf [vR 0] g (qI fun x g' => ∃ o, CS (sgS st) (sLn st) (sK st) x o ∧ IX g' (stC st o) ∧ ∀ c, 45 ≤ c → g' c = g c) := by
  refine ct_in (by omega) (Nat.le_of_ble_eq_true rfl) rfl (fun e he => ?_)
  refine b_X7_caseOf_0 (s_tellLetters (d := e) (by omega) hI.2.1.1 hst.2.1.1 (fun k hk => by rw [hI.2.1.2 k hk]; exact hst.2.1.2 k hk) hI.1 hst.1) (fun x g1 hx => ?_)
  obtain ⟨o, hC, hT⟩ := hx
  rw [sgN_st hI.2.1] at hC
  refine b_X7_caseOf_4 ⟨x, rfl, o, hC, ?_, fun c hc => ?_⟩
  rotate_left
  · rw [cset_ne _ _ (by omega)]
    cases o with
    | none => exact hT c (by omega)
    | some K' => exact hT.2.2 c (by omega)
  cases o with
  | none => exact (hI.x (fun a ha => hT a (by omega))).l0
  | some K' =>
    obtain ⟨t1, t2, t3⟩ := hT
    exact (hI.mk (um := 0) (S := fun _ => K') t1 ⟨t2, fun i hi => absurd hi (Nat.not_lt_zero i)⟩ (fun a ha => t3 a (by omega))).l0
