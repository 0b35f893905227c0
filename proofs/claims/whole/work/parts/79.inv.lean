/-- all that there is: the case, the letters, the ROW, the refusals, the image, what can be taken back (S i: the case ahead of the i-th change that can be, S um: now) -/
abbrev tSt : Type := tK × (Nat × tF) × (Nat × tF) × tF × (Int × tK) × (Nat × (Nat → tK))
abbrev sK (st : tSt) : tK := st.1
abbrev sLn (st : tSt) : Nat := st.2.1.1
abbrev sLv (st : tSt) : tF := st.2.1.2
abbrev sRn (st : tSt) : Nat := st.2.2.1.1
abbrev sRv (st : tSt) : tF := st.2.2.1.2
abbrev sRf (st : tSt) : tF := st.2.2.2.1
abbrev sFl (st : tSt) : Int := st.2.2.2.2.1.1
abbrev sKi (st : tSt) : tK := st.2.2.2.2.1.2
abbrev sUm (st : tSt) : Nat := st.2.2.2.2.2.1
abbrev sUs (st : tSt) : Nat → tK := st.2.2.2.2.2.2
def OKst (st : tSt) : Prop := KOK (sK st) ∧ (sLn st ≤ 96 ∧ ∀ i, i < sLn st → 0 ≤ sLv st i ∧ sLv st i ≤ 255) ∧ (sFl st = 0 ∨ sFl st = 1) ∧ (sFl st = 1 → KOK (sKi st)) ∧ sUm st ≤ 8 ∧ (∀ i, i ≤ sUm st → KOK (sUs st i)) ∧ sUs st (sUm st) = sK st
/-- a change and what takes it back -/
def UE (w p o : Int) (K' K : tK) : Prop := (w = 0 ∧ (0 ≤ p ∧ p < nP K') ∧ (-9 ≤ o ∧ o ≤ 9) ∧ Ueq (setPt K' p.toNat o) K) ∨ (w = 1 ∧ (0 ≤ p ∧ p < nC K') ∧ (0 ≤ o ∧ o < 60) ∧ Ueq (setKF K' p.toNat (o / 10) (o % 10)) K) ∨ (w = 2 ∧ 0 < nC K' ∧ Ueq (dropK K') K)
def UX (g : pG) (um : Nat) (S : Nat → tK) : Prop := g 21 3 = um ∧ ∀ i, i < um → UE (g 22 i) (g 23 i) (g 24 i) (S (i + 1)) (S i)
def UM (g : pG) (um : Nat) (S : Nat → tK) : Prop := g 45 28 = um ∧ ∀ i, i < um → SNP (fun j => g 58 (33 * i + j)) (S i)
def LX (g : pG) (n : Nat) (v : tF) : Prop := g 19 1 = n ∧ ∀ i, i < n → g 20 i = v i
def LM (g : pG) (n : Nat) (v : tF) : Prop := g 45 13 = n ∧ ∀ i, i < n → g 52 i = v i
def IX (g : pG) (st : tSt) : Prop := SU g 1 (sK st) ∧ LX g (sLn st) (sLv st) ∧ RX g (sRn st) (sRv st) ∧ (∀ j, j < 7 → g 26 j = sRf st j) ∧ (g 0 3 = sFl st ∧ (sFl st = 1 → SU g 13 (sKi st))) ∧ UX g (sUm st) (sUs st)
def IM (g : pG) (st : tSt) : Prop := SM g (sK st) ∧ LM g (sLn st) (sLv st) ∧ RWm g (sRn st) (sRv st) ∧ (∀ j, j < 7 → g 50 j = sRf st j) ∧ (g 45 22 = sFl st ∧ (sFl st = 1 → SNP (g 57) (sKi st))) ∧ UM g (sUm st) (sUs st)
theorem UX.frm {g g' : pG} {um : Nat} {S : Nat → tK} (h : UX g um S) (hf : ∀ a, 21 ≤ a → a ≤ 24 → g' a = g a) : UX g' um S := ⟨by rw [hf 21 (by decide) (by decide)]; exact h.1, fun i hi => by rw [hf 22 (by decide) (by decide), hf 23 (by decide) (by decide), hf 24 (by decide) (by decide)]; exact h.2 i hi⟩
theorem IX.x {g g' : pG} {st : tSt} (h : IX g st) (hf : xfr g g') : IX g' st := by
  obtain ⟨h1, ⟨h2, h2'⟩, ⟨h3, h3', h3''⟩, h4, ⟨h5, h5'⟩, h6⟩ := h
  exact ⟨h1.x hf, ⟨by rw [hf 19 (by omega)]; exact h2, fun i hi => by rw [hf 20 (by omega)]; exact h2' i hi⟩, ⟨by rw [hf 0 (by omega)]; exact h3, h3', fun i hi => by rw [hf 25 (by omega)]; exact h3'' i hi⟩, fun j hj => by rw [hf 26 (by omega)]; exact h4 j hj, ⟨by rw [hf 0 (by omega)]; exact h5, fun z => (h5' z).frm (fun a ha hb => hf a (by omega))⟩, h6.frm (fun a ha hb => hf a (by omega))⟩
theorem IM.m {g g' : pG} {st : tSt} (h : IM g st) (hf : mfr g g') : IM g' st := by
  obtain ⟨h1, ⟨h2, h2'⟩, ⟨h3, h3', h3''⟩, h4, ⟨h5, h5'⟩, ⟨h6, h6'⟩⟩ := h
  exact ⟨h1.m hf, ⟨by rw [hf.2 13 (by omega)]; exact h2, fun i hi => by rw [hf.1 52 (by omega)]; exact h2' i hi⟩, ⟨by rw [hf.2 41 (by omega)]; exact h3, h3', fun i hi => by rw [hf.1 68 (by omega)]; exact h3'' i hi⟩, fun j hj => by rw [hf.1 50 (by omega)]; exact h4 j hj, ⟨by rw [hf.2 22 (by omega)]; exact h5, fun z => by rw [hf.1 57 (by omega)]; exact h5' z⟩, ⟨by rw [hf.2 28 (by omega)]; exact h6, fun i hi => by rw [hf.1 58 (by omega)]; exact h6' i hi⟩⟩
/-- a refusal counted -/
def rfU (rf : tF) (n : Int) : tF := if n = 0 then rf else fup rf (-n).toNat (w32 (rf (-n).toNat + 1))
def stR (st : tSt) (n : Int) : tSt := (sK st, st.2.1, st.2.2.1, rfU (sRf st) n, st.2.2.2.2.1, st.2.2.2.2.2)
theorem stR_ok {st : tSt} {n : Int} (h : OKst st) : OKst (stR st n) := h
theorem isRef_bd {n : Int} (h : n = 0 ∨ isRef n) : -6 ≤ n ∧ n ≤ 0 := by
  rcases h with h | h | h | h | h | h <;> omega
theorem IX.ref {g : pG} {st : tSt} {n : Int} (h : IX g st) (hn : n = 0 ∨ isRef n) : IX (refX g n) (stR st n) := by
  have hb := isRef_bd hn
  obtain ⟨h1, ⟨h2, h2'⟩, ⟨h3, h3', h3''⟩, h4, ⟨h5, h5'⟩, h6⟩ := h
  unfold refX stR rfU
  by_cases e : n = 0
  · rw [if_pos e, if_pos e]; exact ⟨h1, ⟨h2, h2'⟩, ⟨h3, h3', h3''⟩, h4, ⟨h5, h5'⟩, h6⟩
  · rw [if_neg e, if_neg e]
    have o : ∀ a, a ≠ 26 → cset g 26 (fup (g 26) (-n).toNat (w32 (g 26 (-n).toNat + 1))) a = g a := fun a ha => cset_ne _ _ ha
    refine ⟨h1.frm (fun a ha hb => o a (by omega)), ⟨by rw [o 19 (by decide)]; exact h2, fun i hi => by rw [o 20 (by decide)]; exact h2' i hi⟩, ⟨by rw [o 0 (by decide)]; exact h3, h3', fun i hi => by rw [o 25 (by decide)]; exact h3'' i hi⟩, fun j hj => ?_, ⟨by rw [o 0 (by decide)]; exact h5, fun z => (h5' z).frm (fun a ha hb => o a (by omega))⟩, h6.frm (fun a ha hb => o a (by omega))⟩
    rw [cset_self, h4 (-n).toNat (by omega)]
    show _ = fup (sRf st) (-n).toNat (w32 (sRf st (-n).toNat + 1)) j
    by_cases ej : j = (-n).toNat
    · rw [ej, fup_self, fup_self]
    · rw [fup_ne _ _ ej, fup_ne _ _ ej]; exact h4 j hj
theorem IM.ref {g : pG} {st : tSt} {n : Int} (h : IM g st) (hn : n = 0 ∨ isRef n) : IM (refM g n) (stR st n) := by
  have hb := isRef_bd hn
  obtain ⟨h1, ⟨h2, h2'⟩, ⟨h3, h3', h3''⟩, h4, ⟨h5, h5'⟩, ⟨h6, h6'⟩⟩ := h
  unfold refM stR rfU
  by_cases e : n = 0
  · rw [if_pos e, if_pos e]; exact ⟨h1, ⟨h2, h2'⟩, ⟨h3, h3', h3''⟩, h4, ⟨h5, h5'⟩, ⟨h6, h6'⟩⟩
  · rw [if_neg e, if_neg e]
    have o : ∀ a, a ≠ 50 → cset g 50 (fup (g 50) (-n).toNat (w32 (g 50 (-n).toNat + 1))) a = g a := fun a ha => cset_ne _ _ ha
    refine ⟨?_, ⟨by rw [o 45 (by decide)]; exact h2, fun i hi => by rw [o 52 (by decide)]; exact h2' i hi⟩, ⟨by rw [o 45 (by decide)]; exact h3, h3', fun i hi => by rw [o 68 (by decide)]; exact h3'' i hi⟩, fun j hj => ?_, ⟨by rw [o 45 (by decide)]; exact h5, fun z => by rw [o 57 (by decide)]; exact h5' z⟩, ⟨by rw [o 45 (by decide)]; exact h6, fun i hi => by rw [o 58 (by decide)]; exact h6' i hi⟩⟩
    · obtain ⟨m1, m2, m3, m4, m5, m6⟩ := h1
      refine ⟨by rw [o 45 (by decide)]; exact m1, fun k hk => ?_, by rw [o 45 (by decide)]; exact m3, fun k hk => by rw [o 49 (by decide)]; exact m4 k hk, by rw [o 45 (by decide)]; exact m5, by rw [o 45 (by decide)]; exact m6⟩
      rw [o 46 (by decide), o 47 (by decide), o 48 (by decide)]; exact m2 k hk
    · rw [cset_self, h4 (-n).toNat (by omega)]
      show _ = fup (sRf st) (-n).toNat (w32 (sRf st (-n).toNat + 1)) j
      by_cases ej : j = (-n).toNat
      · rw [ej, fup_self, fup_self]
      · rw [fup_ne _ _ ej, fup_ne _ _ ej]; exact h4 j hj
theorem IX.q {g g' : pG} {st : tSt} {n : Int} (h : IX g st) (hn : n = 0 ∨ isRef n) (hf : xfr (refX g n) g') : IX g' (stR st n) := (h.ref hn).x hf
theorem IM.q {g g' : pG} {st : tSt} {n : Int} (h : IM g st) (hn : n = 0 ∨ isRef n) (hf : mfr (refM g n) g') : IM g' (stR st n) := (h.ref hn).m hf
/-- the states behind the calls that change -/
def stU (st : tSt) (K' : tK) : tSt := (K', st.2.1, st.2.2.1, sRf st, st.2.2.2.2.1, (if sUm st = 8 then (8, fun i => if i < 8 then sUs st (i + 1) else K') else (sUm st + 1, fun i => if i ≤ sUm st then sUs st i else K')))
def stZ (st : tSt) (K' : tK) : tSt := (K', st.2.1, st.2.2.1, sRf st, st.2.2.2.2.1, (0, fun _ => K'))
def stB (st : tSt) : tSt := (sUs st (sUm st - 1), st.2.1, st.2.2.1, sRf st, st.2.2.2.2.1, (sUm st - 1, sUs st))
def stI (st : tSt) : tSt := (sK st, st.2.1, st.2.2.1, sRf st, (1, sK st), st.2.2.2.2.2)
def stL (st : tSt) (n : Nat) (v : tF) : tSt := (sK st, (n, v), st.2.2.1, sRf st, st.2.2.2.2.1, st.2.2.2.2.2)
def stRw (st : tSt) (n : Nat) (v : tF) : tSt := (sK st, st.2.1, (n, v), sRf st, st.2.2.2.2.1, st.2.2.2.2.2)
theorem stU_8 {st : tSt} {K' : tK} (h : sUm st = 8) : (stU st K').2.2.2.2.2 = (8, fun i => if i < 8 then sUs st (i + 1) else K') := if_pos h
theorem stU_n {st : tSt} {K' : tK} (h : sUm st ≠ 8) : (stU st K').2.2.2.2.2 = (sUm st + 1, fun i => if i ≤ sUm st then sUs st i else K') := if_neg h
theorem stU_ok {st : tSt} {K' : tK} (h : OKst st) (hK : KOK K') : OKst (stU st K') := by
  obtain ⟨h1, h2, h3, h4, h5, h6, h7⟩ := h
  have hu : sUm (stU st K') ≤ 8 ∧ (∀ i, i ≤ sUm (stU st K') → KOK (sUs (stU st K') i)) ∧ sUs (stU st K') (sUm (stU st K')) = K' := by
    show (stU st K').2.2.2.2.2.1 ≤ 8 ∧ (∀ i, i ≤ (stU st K').2.2.2.2.2.1 → KOK ((stU st K').2.2.2.2.2.2 i)) ∧ (stU st K').2.2.2.2.2.2 (stU st K').2.2.2.2.2.1 = K'
    by_cases e : sUm st = 8
    · rw [stU_8 e]
      refine ⟨Nat.le_refl _, fun i hi => ?_, show (if 8 < 8 then sUs st (8 + 1) else K') = K' from if_neg (Nat.lt_irrefl 8)⟩
      show KOK (if i < 8 then sUs st (i + 1) else K')
      by_cases e2 : i < 8
      · rw [if_pos e2]; exact h6 _ (by omega)
      · rw [if_neg e2]; exact hK
    · rw [stU_n e]
      refine ⟨by show sUm st + 1 ≤ 8; omega, fun i hi => ?_, show (if sUm st + 1 ≤ sUm st then sUs st (sUm st + 1) else K') = K' from if_neg (by omega)⟩
      show KOK (if i ≤ sUm st then sUs st i else K')
      by_cases e2 : i ≤ sUm st
      · rw [if_pos e2]; exact h6 _ e2
      · rw [if_neg e2]; exact hK
  exact ⟨hK, h2, h3, h4, hu⟩
theorem stZ_ok {st : tSt} {K' : tK} (h : OKst st) (hK : KOK K') : OKst (stZ st K') := ⟨hK, h.2.1, h.2.2.1, h.2.2.2.1, Nat.zero_le _, fun _ _ => hK, rfl⟩
theorem stB_ok {st : tSt} (h : OKst st) : OKst (stB st) := by
  obtain ⟨h1, h2, h3, h4, h5, h6, h7⟩ := h
  exact ⟨h6 _ (Nat.sub_le _ _), h2, h3, h4, Nat.le_trans (Nat.sub_le _ _) h5, fun i hi => h6 i (Nat.le_trans hi (Nat.sub_le _ _)), rfl⟩
theorem stI_ok {st : tSt} (h : OKst st) : OKst (stI st) := ⟨h.1, h.2.1, Or.inr rfl, fun _ => h.1, h.2.2.2.2⟩
theorem stL_ok {st : tSt} {n : Nat} {v : tF} (h : OKst st) (hn : n ≤ 96) (hv : ∀ i, i < n → 0 ≤ v i ∧ v i ≤ 255) : OKst (stL st n v) := ⟨h.1, ⟨hn, hv⟩, h.2.2⟩
theorem stRw_ok {st : tSt} {n : Nat} {v : tF} (h : OKst st) : OKst (stRw st n v) := h
