/-! two readings of the same letters agree -/
theorem badS {sg : Nat → Int} {p q : Nat} (h : badAt sg p q) (h2 : okS sg p) : False := by
  rcases h with ⟨h1, -⟩ | ⟨h1, t, ht, -, -, h3⟩
  · have := h2.1; omega
  · exact h3 (h2.2 t ht)
theorem bad_un {sg : Nat → Int} {p q q' : Nat} (h : badAt sg p q) (h' : badAt sg p q') : q = q' := by
  rcases h with ⟨h1, h2⟩ | ⟨h1, t, ht, h2, h3, h4⟩
  · rcases h' with ⟨-, h2'⟩ | ⟨h1', -⟩
    · rw [h2, h2']
    · omega
  · rcases h' with ⟨h1', -⟩ | ⟨-, t', ht', h2', h3', h4'⟩
    · omega
    · rcases Nat.lt_trichotomy t t' with z | z | z
      · exact absurd (h3' t z) h4
      · rw [h2, h2', z]
      · exact absurd (h3 t' z) h4'
theorem rnK_some {sg : Nat → Int} {K : tK} {k : Nat} {K' : tK} (h : rnK sg K k = some K') : ∀ r i, i + r = k → ∃ Ki, rnK sg K i = some Ki := by
  intro r
  induction r with
  | zero =>
    intro i hi
    have hi : i = k := by omega
    subst hi
    exact ⟨K', h⟩
  | succ r ih =>
    intro i hi
    obtain ⟨K1, h1⟩ := ih (i + 1) (by omega)
    cases h2 : rnK sg K i with
    | none => unfold rnK at h1; rw [h2] at h1; cases h1
    | some K2 => exact ⟨K2, rfl⟩
theorem rnK_no {sg : Nat → Int} {K Ki : tK} {i k : Nat} {K' : tK} (h1 : rnK sg K i = some Ki) (h2 : stm sg (ltP sg i) Ki = none) (h : rnK sg K k = some K') (hi : i < k) : False := by
  obtain ⟨K2, h3⟩ := rnK_some h (k - (i + 1)) (i + 1) (by omega)
  have h4 : rnK sg K (i + 1) = (rnK sg K i).bind (stm sg (ltP sg i)) := rfl
  rw [h4, h1] at h3
  have h5 : stm sg (ltP sg i) Ki = some K2 := h3
  rw [h2] at h5
  cases h5
theorem CS_bg {sg : Nat → Int} {n k k' q : Nat} (a1 : okTo sg k) (a2 : k = 0 ∨ ltP sg k < n) (a3 : badAt sg (ltP sg k) q) (b1 : 1 ≤ k') (b2 : okTo sg k') (b3 : ltP sg k' = n) : False := by
  rcases Nat.lt_or_ge k k' with z | z
  · exact badS a3 (b2 k z)
  · have h := ltP_le a1 (Nat.le_refl k) z
    omega
theorem CS_un {sg : Nat → Int} {n : Nat} {K : tK} {a a' : Int} {o o' : Option tK} (h : CS sg n K a o) (h' : CS sg n K a' o') : a = a' ∧ o = o' := by
  rcases h with ⟨k, q, a1, a2, a3, a4, a5⟩ | ⟨k, b1, b2, b3, b4⟩
  · rcases h' with ⟨k', q', a1', a2', a3', a4', a5'⟩ | ⟨k', b1', b2', b3', b4'⟩
    · have hk : k = k' := by
        rcases Nat.lt_trichotomy k k' with z | z | z
        · exact (badS a3 (a1' k z)).elim
        · exact z
        · exact (badS a3' (a1 k' z)).elim
      subst hk
      have hq := bad_un a3 a3'
      subst hq
      exact ⟨a4.trans a4'.symm, a5.trans a5'.symm⟩
    · exact (CS_bg a1 a2 a3 b1' b2' b3').elim
  · rcases h' with ⟨k', q', a1', a2', a3', a4', a5'⟩ | ⟨k', b1', b2', b3', b4'⟩
    · exact (CS_bg a1' a2' a3' b1 b2 b3).elim
    · have hk : k = k' := by
        rcases Nat.lt_trichotomy k k' with z | z | z
        · have h := ltP_lt b2' k' k (Nat.le_refl _) z
          omega
        · exact z
        · have h := ltP_lt b2 k k' (Nat.le_refl _) z
          omega
      subst hk
      rcases b4 with ⟨i, Ki, c1, c2, c3, c4, c5⟩ | ⟨K1, c1, c2, c3⟩
      · rcases b4' with ⟨i', Ki', c1', c2', c3', c4', c5'⟩ | ⟨K1', c1', c2', c3'⟩
        · have hi : i = i' := by
            rcases Nat.lt_trichotomy i i' with z | z | z
            · exact (rnK_no c2 c3 c2' z).elim
            · exact z
            · exact (rnK_no c2' c3' c2 z).elim
          subst hi
          exact ⟨c4.trans c4'.symm, c5.trans c5'.symm⟩
        · exact (rnK_no c2 c3 c1' c1).elim
      · rcases b4' with ⟨i', Ki', c1', c2', c3', c4', c5'⟩ | ⟨K1', c1', c2', c3'⟩
        · exact (rnK_no c2' c3' c1 c1').elim
        · rw [c1] at c1'
          have e : K1 = K1' := Option.some.inj c1'
          exact ⟨c2.trans c2'.symm, by rw [c3, c3', e]⟩
/-! one call on both sides -/
theorem IX.lo {g g' : pG} {st : tSt} (h : IX g st) (hf : ∀ c, c < 45 → g' c = g c) : IX g' st := by
  obtain ⟨h1, ⟨h2, h2'⟩, ⟨h3, h3', h3''⟩, h4, ⟨h5, h5'⟩, h6⟩ := h
  exact ⟨h1.frm (fun a _ hb => hf a (by omega)), ⟨by rw [hf 19 (by decide)]; exact h2, fun i hi => by rw [hf 20 (by decide)]; exact h2' i hi⟩, ⟨by rw [hf 0 (by decide)]; exact h3, h3', fun i hi => by rw [hf 25 (by decide)]; exact h3'' i hi⟩, fun j hj => by rw [hf 26 (by decide)]; exact h4 j hj, ⟨by rw [hf 0 (by decide)]; exact h5, fun z => (h5' z).frm (fun a ha hb => hf a (by omega))⟩, h6.frm (fun a ha hb => hf a (by omega))⟩
theorem IM.hi {g g' : pG} {st : tSt} (h : IM g st) (hf : ∀ c, 45 ≤ c → g' c = g c) : IM g' st := by
  obtain ⟨⟨m1, m2, m3, m4, m5, m6⟩, ⟨h2, h2'⟩, ⟨h3, h3', h3''⟩, h4, ⟨h5, h5'⟩, ⟨h6, h6'⟩⟩ := h
  exact ⟨⟨by rw [hf 45 (by decide)]; exact m1, fun k hk => by rw [hf 46 (by decide), hf 47 (by decide), hf 48 (by decide)]; exact m2 k hk, by rw [hf 45 (by decide)]; exact m3, fun k hk => by rw [hf 49 (by decide)]; exact m4 k hk, by rw [hf 45 (by decide)]; exact m5, by rw [hf 45 (by decide)]; exact m6⟩, ⟨by rw [hf 45 (by decide)]; exact h2, fun i hi => by rw [hf 52 (by decide)]; exact h2' i hi⟩, ⟨by rw [hf 45 (by decide)]; exact h3, h3', fun i hi => by rw [hf 68 (by decide)]; exact h3'' i hi⟩, fun j hj => by rw [hf 50 (by decide)]; exact h4 j hj, ⟨by rw [hf 45 (by decide)]; exact h5, fun z => by rw [hf 57 (by decide)]; exact h5' z⟩, ⟨by rw [hf 45 (by decide)]; exact h6, fun i hi => by rw [hf 58 (by decide)]; exact h6' i hi⟩⟩
def BOTH (g : pG) : Prop := ∃ st, OKst st ∧ IX g st ∧ IM g st
def PAIR (d : Nat) (MX MM : pM) (as : List pV) (g : pG) : Prop := ∃ Rx : Int → pG → Prop, CT d MX (vR 0 :: as) g (qI Rx) ∧ ∀ (x : Int) (g1 : pG), Rx x g1 → ∃ Rm : Int → pG → Prop, CT d MM (vR 45 :: as) g1 (qI Rm) ∧ ∀ (z : Int) (g2 : pG), Rm z g2 → z = x ∧ BOTH g2
def PAIRL (d : Nat) (MX MM : pM) (as : List pV) (g : pG) : Prop := ∃ Rx : Int → pG → Prop, CT d MX (vR 0 :: as) g (qL Rx) ∧ ∀ (x : Int) (g1 : pG), Rx x g1 → ∃ Rm : Int → pG → Prop, CT d MM (vR 45 :: as) g1 (qL Rm) ∧ ∀ (z : Int) (g2 : pG), Rm z g2 → z = x ∧ BOTH g2
abbrev rf0 (n : Int) : Prop := n = 0 ∨ isRef n
theorem x_fr {g g1 : pG} {n : Int} (hf : xfr (refX g n) g1) : ∀ c, 45 ≤ c → g1 c = g c := fun c hc => (hf c (Or.inr (Or.inr hc))).trans (refX_hi hc)
theorem m_fr {g g1 : pG} {n : Int} (hf : mfr (refM g n) g1) : ∀ c, c < 45 → g1 c = g c := fun c hc => (hf.1 c (Or.inl hc)).trans (refM_lo hc)
theorem pair_q {d : Nat} {MX MM : pM} {as : List pV} {g : pG} {st : tSt} {a n : Int} (hok : OKst st) (hx : IX g st) (hm : IM g st) (hn : rf0 n) (cx : CT d MX (vR 0 :: as) g (QX g a n)) (cm : ∀ g1, IX g1 (stR st n) → IM g1 st → CT d MM (vR 45 :: as) g1 (QM g1 a n)) : PAIR d MX MM as g := by
  refine ⟨_, cx, fun x g1 h1 => ?_⟩
  obtain ⟨rfl, hf⟩ := h1
  have hx1 := hx.q hn hf
  have hm1 := hm.hi (x_fr hf)
  refine ⟨_, cm g1 hx1 hm1, fun z g2 h2 => ?_⟩
  obtain ⟨rfl, hf2⟩ := h2
  exact ⟨rfl, stR st n, stR_ok hok, hx1.lo (m_fr hf2), hm1.q hn hf2⟩
theorem pair_qL {d : Nat} {MX MM : pM} {as : List pV} {g : pG} {st : tSt} {a n : Int} (hok : OKst st) (hx : IX g st) (hm : IM g st) (hn : rf0 n) (cx : CT d MX (vR 0 :: as) g (QXL g a n)) (cm : ∀ g1, IX g1 (stR st n) → IM g1 st → CT d MM (vR 45 :: as) g1 (QML g1 a n)) : PAIRL d MX MM as g := by
  refine ⟨_, cx, fun x g1 h1 => ?_⟩
  obtain ⟨rfl, hf⟩ := h1
  have hx1 := hx.q hn hf
  have hm1 := hm.hi (x_fr hf)
  refine ⟨_, cm g1 hx1 hm1, fun z g2 h2 => ?_⟩
  obtain ⟨rfl, hf2⟩ := h2
  exact ⟨rfl, stR st n, stR_ok hok, hx1.lo (m_fr hf2), hm1.q hn hf2⟩
theorem pair_s {d : Nat} {MX MM : pM} {as : List pV} {g : pG} {st st' : tSt} {a : Int} (hok : OKst st') (hm : IM g st) (cx : CT d MX (vR 0 :: as) g (QXs g a st')) (cm : ∀ g1, IM g1 st → CT d MM (vR 45 :: as) g1 (QMs g1 a st')) : PAIR d MX MM as g := by
  refine ⟨_, cx, fun x g1 h1 => ?_⟩
  obtain ⟨rfl, hx1, hf⟩ := h1
  refine ⟨_, cm g1 (hm.hi hf), fun z g2 h2 => ?_⟩
  obtain ⟨rfl, hm2, hf2⟩ := h2
  exact ⟨rfl, st', hok, hx1.lo hf2, hm2⟩
theorem pair_case {d : Nat} {g : pG} {st : tSt} (hd : 11 ≤ d) (hok : OKst st) (hx : IX g st) (hm : IM g st) : PAIR d mX7_caseOf mX8_caseOf [] g := by
  refine ⟨_, x_caseOf (by omega) hok hx, fun x g1 h1 => ?_⟩
  obtain ⟨o, hC, hx1, hf⟩ := h1
  refine ⟨_, m_caseOf hd hok (hm.hi hf), fun z g2 h2 => ?_⟩
  obtain ⟨o', hC', hm2, hf2⟩ := h2
  obtain ⟨rfl, rfl⟩ := CS_un hC' hC
  exact ⟨rfl, stC st o', stC_ok hok (fun K' h => by subst h; exact CS_ok hok.1 hC), hx1.lo hf2, hm2⟩
/-! every refusal is one of the six -/
theorem rf_wrN (v lo hi : Int) : rf0 (wrN v lo hi) := by
  rcases wrN_cases v lo hi with h | h | h
  · exact Or.inr (Or.inr (Or.inr (Or.inr (Or.inl h.2))))
  · exact Or.inr (Or.inr (Or.inr (Or.inr (Or.inr h.2.2))))
  · exact Or.inl h.2.2
theorem rf_0 : rf0 0 := Or.inl rfl
theorem rf_1 : rf0 (-1) := Or.inr ref1
theorem rf_2 : rf0 (-2) := Or.inr ref2
theorem rf_3 : rf0 (-3) := Or.inr ref3
theorem rf_4 : rf0 (-4) := Or.inr ref4
theorem rf_if {c : Prop} [h : Decidable c] {a b : Int} (ha : rf0 a) (hb : rf0 b) : rf0 (if c then a else b) := by
  split
  · exact ha
  · exact hb
theorem rf_rW (w m : Int) : rf0 (rW w m) := rf_if rf_0 rf_2
theorem rf_wrB {a v m : Int} (h : rf0 a) : rf0 (wrB a v m) := rf_if rf_2 h
theorem rf_court (K : tK) (c w : Int) : rf0 (rCourt K c w) := rf_if (rf_rW _ _) rf_1
theorem rf_down (K : tK) (k w : Int) : rf0 (rDown K k w) := rf_if rf_2 (rf_wrN _ _ _)
theorem rf_has (K : tK) (v : Int) : rf0 (rHas K v) := rf_if rf_0 rf_1
theorem rf_comm (K : tK) (a b : Int) : rf0 (rComm K a b) := rf_if rf_0 rf_1
theorem rf_cw (K : tK) (c w : Int) : rf0 (rCw K c w) := rf_if (rf_rW _ _) rf_1
theorem rf_ls (K : tK) : rf0 (rLs K) := rf_if rf_3 rf_0
theorem rf_apart (a b f : Int) : rf0 (rApart a b f) := rf_if (rf_wrN _ _ _) rf_2
theorem rf_first (K : tK) (i : Int) : rf0 (rFirst K i) := rf_if rf_4 (rf_if rf_3 rf_0)
theorem rf_row (n : Nat) (r : tF) (m : Nat) : rf0 (rRow n r m) := rf_if rf_0 rf_3
theorem rf_fits (N n : Nat) (r : tF) (f : Int) : rf0 (rFits N n r f) := rf_if (rf_row _ _ _) (rf_wrN _ _ _)
theorem rf_tr (K : tK) (k w : Int) : rf0 (rTr K k w) := rf_if rf_3 (rf_if (rf_rW _ _) (rf_wrN _ _ _))
theorem rf_sh (K : tK) (c : Int) : rf0 (rSh K c) := rf_if rf_0 rf_1
theorem rf_fs (K : tK) : rf0 (rFs K) := rf_if rf_3 rf_0
theorem rf_bd (t p : Int) : rf0 (rBd t p) := rf_if (rf_rW _ _) (rf_wrN _ _ _)
theorem rf_tb (m w : Int) : rf0 (rTb m w) := rf_if (rf_rW _ _) (rf_wrN _ _ _)
theorem rf_bo (K : tK) (i : Int) : rf0 (rBo K i) := rf_if rf_3 (rf_if rf_4 rf_0)
theorem rf_put (n : Nat) (v : Int) : rf0 (rPut n v) := rf_if rf_4 (rf_if (Or.inr ref6) rf_0)
theorem IX.rw {g g' : pG} {st : tSt} {n : Nat} {r : tF} (h : IX g st) (hr : RX g' n r) (hf : ∀ a, a ≠ 0 → a ≠ 25 → g' a = g a) (h3 : g' 0 3 = g 0 3) : IX g' (stRw st n r) := by
  obtain ⟨h1, ⟨h2, h2'⟩, -, h4, ⟨h5, h5'⟩, h6⟩ := h
  exact ⟨h1.frm (fun a ha hb => hf a (by omega) (by omega)), ⟨by rw [hf 19 (by decide) (by decide)]; exact h2, fun i hi => by rw [hf 20 (by decide) (by decide)]; exact h2' i hi⟩, hr, fun j hj => by rw [hf 26 (by decide) (by decide)]; exact h4 j hj, ⟨h3.trans h5, fun z => (h5' z).frm (fun a ha hb => hf a (by omega) (by omega))⟩, h6.frm (fun a ha hb => hf a (by omega) (by omega))⟩
theorem IM.rw {g g' : pG} {st : tSt} {n : Nat} {r : tF} (h : IM g st) (hr : RWm g' n r) (hf : ∀ a, a ≠ 45 → a ≠ 68 → g' a = g a) (h3 : ∀ s, s ≠ 41 → g' 45 s = g 45 s) : IM g' (stRw st n r) := by
  obtain ⟨⟨m1, m2, m3, m4, m5, m6⟩, ⟨h2, h2'⟩, -, h4, ⟨h5, h5'⟩, ⟨h6, h6'⟩⟩ := h
  have o : ∀ a, (a = 46 ∨ a = 47 ∨ a = 48 ∨ a = 49 ∨ a = 50 ∨ a = 52 ∨ a = 57 ∨ a = 58) → g' a = g a := fun a ha => hf a (by omega) (by omega)
  exact ⟨⟨by rw [h3 0 (by decide)]; exact m1, fun k hk => by rw [o 46 (by decide), o 47 (by decide), o 48 (by decide)]; exact m2 k hk, by rw [h3 4 (by decide)]; exact m3, fun k hk => by rw [o 49 (by decide)]; exact m4 k hk, by rw [h3 6 (by decide)]; exact m5, by rw [h3 7 (by decide)]; exact m6⟩, ⟨by rw [h3 13 (by decide)]; exact h2, fun i hi => by rw [o 52 (by decide)]; exact h2' i hi⟩, hr, fun j hj => by rw [o 50 (by decide)]; exact h4 j hj, ⟨by rw [h3 22 (by decide)]; exact h5, fun z => by rw [o 57 (by decide)]; exact h5' z⟩, ⟨by rw [h3 28 (by decide)]; exact h6, fun i hi => by rw [o 58 (by decide)]; exact h6' i hi⟩⟩
theorem IX.put {g : pG} {st : tSt} {v : Int} (h : IX g st) (hn : sRn st < 16) (hv : 0 ≤ v ∧ v ≤ 99) : IX (xput g (sRn st) v) (stRw st (sRn st + 1) (fup (sRv st) (sRn st) v)) :=
  h.rw (h.2.2.1.put hn hv) (fun a ha hb => by unfold xput; rw [cset_ne _ _ ha, cset_ne _ _ hb]) (by unfold xput; rw [cset_self, fup_ne _ _ (by decide)])
theorem IM.put {g : pG} {st : tSt} {v : Int} (h : IM g st) (hn : sRn st < 16) (hv : 0 ≤ v ∧ v ≤ 99) : IM (mput g (sRn st) v) (stRw st (sRn st + 1) (fup (sRv st) (sRn st) v)) :=
  h.rw (h.2.2.1.put hn hv) (fun a ha hb => by unfold mput; rw [cset_ne _ _ ha, cset_ne _ _ hb]) (fun s hs => by unfold mput; rw [cset_self, fup_ne _ _ hs])
theorem IX.row0 {g : pG} {st : tSt} {r : tF} (h : IX g st) : IX (xrow g) (stRw st 0 r) :=
  h.rw ⟨by unfold xrow; rw [cset_self, fup_self]; rfl, Nat.zero_le _, fun i hi => absurd hi (Nat.not_lt_zero i)⟩ (fun a ha hb => by unfold xrow; rw [cset_ne _ _ ha]) (by unfold xrow; rw [cset_self, fup_ne _ _ (by decide)])
theorem IM.row0 {g : pG} {st : tSt} {r : tF} (h : IM g st) : IM (mrow g) (stRw st 0 r) :=
  h.rw ⟨by unfold mrow; rw [cset_self, fup_self]; rfl, Nat.zero_le _, fun i hi => absurd hi (Nat.not_lt_zero i)⟩ (fun a ha hb => by unfold mrow; rw [cset_ne _ _ ha]) (fun s hs => by unfold mrow; rw [cset_self, fup_ne _ _ hs])
theorem xput_hi {g : pG} {n c : Nat} {v : Int} (hc : 45 ≤ c) : xput g n v c = g c := by unfold xput; rw [cset_ne _ _ (by omega), cset_ne _ _ (by omega)]
theorem xrow_hi {g : pG} {c : Nat} (hc : 45 ≤ c) : xrow g c = g c := cset_ne _ _ (by omega)
theorem mput_lo {g : pG} {n c : Nat} {v : Int} (hc : c < 45) : mput g n v c = g c := by unfold mput; rw [clo hc (by decide), clo hc (by decide)]
theorem mrow_lo {g : pG} {c : Nat} (hc : c < 45) : mrow g c = g c := clo hc (by decide)
theorem xfr.hi {g g' : pG} (h : xfr g g') {c : Nat} (hc : 45 ≤ c) : g' c = g c := h c (Or.inr (Or.inr hc))
theorem mfr.lo {g g' : pG} (h : mfr g g') {c : Nat} (hc : c < 45) : g' c = g c := h.1 c (Or.inl hc)
theorem pair_row {d : Nat} {g : pG} {st : tSt} {v : Int} (hd : 11 ≤ d) (hok : OKst st) (hx : IX g st) (hm : IM g st) : PAIR d mX7_row mX8_row [vI v] g := by
  refine ⟨_, x_row (by omega) hx.2.2.1, fun x g1 h1 => ?_⟩
  obtain ⟨rfl, ha, hb⟩ := h1
  by_cases e : rPut (sRn st) v = 0
  · have hf := hb e
    have hc : sRn st < 16 ∧ (0 ≤ v ∧ v ≤ 99) := by
      have h16 := hx.2.2.1.2.1
      have r := rPut_cases (sRn st) v
      omega
    have hx1 := (hx.put hc.1 hc.2).x hf
    have hm1 := hm.hi (fun c hc => (hf.hi hc).trans (xput_hi hc))
    refine ⟨_, m_row hd hm1.2.2.1, fun z g2 h2 => ?_⟩
    obtain ⟨rfl, -, hb2⟩ := h2
    have hf2 := hb2 e
    exact ⟨rfl, _, stRw_ok hok, hx1.lo (fun c hc => (hf2.lo hc).trans (mput_lo hc)), (hm1.put hc.1 hc.2).m hf2⟩
  · have hf := ha e
    have hx1 := hx.q (rf_put _ _) hf
    have hm1 := hm.hi (x_fr hf)
    refine ⟨_, m_row hd hm1.2.2.1, fun z g2 h2 => ?_⟩
    obtain ⟨rfl, ha2, -⟩ := h2
    have hf2 := ha2 e
    exact ⟨rfl, _, stR_ok hok, hx1.lo (m_fr hf2), hm1.q (rf_put _ _) hf2⟩
theorem pair_clear {d : Nat} {g : pG} {st : tSt} (hd : 11 ≤ d) (hok : OKst st) (hx : IX g st) (hm : IM g st) : PAIR d mX7_clear mX8_clear [] g := by
  refine ⟨_, x_clear (by omega) hx.2.2.1, fun x g1 h1 => ?_⟩
  obtain ⟨rfl, hf⟩ := h1
  have hx1 := (hx.row0 (r := sRv st)).x hf
  have hm1 := hm.hi (fun c hc => (hf.hi hc).trans (xrow_hi hc))
  refine ⟨_, m_clear hd hm1.2.2.1, fun z g2 h2 => ?_⟩
  obtain ⟨rfl, hf2⟩ := h2
  exact ⟨rfl, _, stRw_ok hok, hx1.lo (fun c hc => (hf2.lo hc).trans (mrow_lo hc)), (hm1.row0 (r := sRv st)).m hf2⟩
theorem pair_judge {d : Nat} {g : pG} {st : tSt} (hd : 11 ≤ d) (hok : OKst st) (hx : IX g st) (hm : IM g st) : PAIR d mX7_judge mX8_judge [] g := by
  refine ⟨_, x_judge (by omega) hok.1 hx.1 hx.2.2.1, fun x g1 h1 => ?_⟩
  obtain ⟨rfl, hf⟩ := h1
  have hx1 := (hx.row0 (r := sRv st)).x hf
  have hm1 := hm.hi (fun c hc => (hf.hi hc).trans (xrow_hi hc))
  refine ⟨_, m_judge hd hok.1 hm1.1 hm1.2.2.1, fun z g2 h2 => ?_⟩
  obtain ⟨rfl, hf2⟩ := h2
  exact ⟨rfl, _, stRw_ok hok, hx1.lo (fun c hc => (hf2.lo hc).trans (mrow_lo hc)), (hm1.row0 (r := sRv st)).m hf2⟩
theorem cntA_eq {K : tK} {a b c : Int} {f f' : tF} {w : Int} (h : ∀ j, j < 7 → f j = f' j) : cntA K a b c f w = cntA K a b c f' w := by
  unfold cntA
  by_cases e : 11 ≤ w ∧ w ≤ 16
  · rw [if_pos e, if_pos e, h _ (by omega)]
  · rw [if_neg e, if_neg e]
theorem pair_count {d : Nat} {g : pG} {st : tSt} {w : Int} (hd : 11 ≤ d) (hok : OKst st) (hx : IX g st) (hm : IM g st) : PAIR d mX7_count mX8_count [vI w] g := by
  have key : ∀ g1, IM g1 st → cntA (sK st) (g1 45 13) (g1 45 41) (g1 45 28) (g1 50) w = cntA (sK st) (g 19 1) (g 0 7) (g 21 3) (g 26) w := by
    intro g1 h1
    rw [h1.2.1.1, h1.2.2.1.1, h1.2.2.2.2.2.1, hx.2.1.1, hx.2.2.1.1, hx.2.2.2.2.2.1]
    exact cntA_eq (fun j hj => (h1.2.2.2.1 j hj).trans (hx.2.2.2.1 j hj).symm)
  refine pair_q hok hx hm rf_0 (x_count (by omega) hok.1 hx.1) (fun g1 _ h1 => ?_)
  rw [← key g1 h1]
  exact m_count hd hok.1 h1.1
