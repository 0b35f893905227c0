/-! caseOf, the reference -/
theorem sgM_st {g : pG} {st : tSt} (h : LM g (sLn st) (sLv st)) : sgM g = sgS st := by
  funext i
  by_cases hi : i < sLn st
  · rw [sgM_lt h.1 hi, h.2 i hi]
    exact (if_pos hi).symm
  · rw [sgM_ge h.1 (by omega)]
    exact (if_neg hi).symm
theorem IM.lz {g g' : pG} {st : tSt} {K' : tK} {um : Nat} {S : Nat → tK} {v : tF} (h : IM g st) (hu : SM g' K') (hU : UM g' um S) (h13 : g' 45 13 = 0) (hf : ∀ a, (a = 50 ∨ a = 57 ∨ a = 68) → g' a = g a) (hf5 : ∀ s, (s = 41 ∨ s = 22) → g' 45 s = g 45 s) : IM g' (K', (0, v), st.2.2.1, sRf st, st.2.2.2.2.1, (um, S)) := by
  obtain ⟨h1, ⟨h2, h2'⟩, ⟨h3, h3', h3''⟩, h4, ⟨h5, h5'⟩, h6⟩ := h
  exact ⟨hu, ⟨h13, fun i hi => absurd hi (Nat.not_lt_zero i)⟩, ⟨by rw [hf5 41 (by decide)]; exact h3, h3', fun i hi => by rw [hf 68 (by decide)]; exact h3'' i hi⟩, fun j hj => by rw [hf 50 (by decide)]; exact h4 j hj, ⟨by rw [hf5 22 (by decide)]; exact h5, fun z => by rw [hf 57 (by decide)]; exact h5' z⟩, hU⟩
theorem TV.frm {sg : Nat → Int} {p i : Nat} {f f' : Nat → Int} (h : TV sg p i f) (hf : ∀ m, m < 3 * i + 3 → f' m = f m) : TV sg p i f' := by
  obtain ⟨a, b, c, e⟩ := h
  unfold TV
  rw [hf (3 * i) (by omega), hf (3 * i + 1) (by omega), hf (3 * i + 2) (by omega)]
  exact ⟨a, b, c, e⟩
theorem okS_in {sg : Nat → Int} {p n : Nat} (h : okS sg p) (hn : ∀ i, n ≤ i → sg i = -1) : p + sLen (shp (sg p)) ≤ n := by
  have h2 := okS_2 h
  have h3 := h.2 (sLen (shp (sg p)) - 1) (by omega)
  rcases Nat.lt_or_ge (p + (sLen (shp (sg p)) - 1)) n with z | z
  · omega
  · rw [hn _ z] at h3
    exact absurd h3 (not_su (shp_lt _) (by omega))
def LI (sg : Nat → Int) (g : pG) (k : Nat) (g1 : pG) : Prop := (∀ a, (a < 45 ∨ (45 < a ∧ a < 53) ∨ 55 < a) → g1 a = g a) ∧ (∀ s, s ≠ 8 → s ≠ 14 → s ≠ 15 → s ≠ 16 → g1 45 s = g 45 s) ∧ g1 45 16 = (k : Int) ∧ okTo sg k ∧ ∀ i, i < k → g1 53 i = ((ltP sg i : Nat) : Int) ∧ g1 54 i = sg (ltP sg i) ∧ TV sg (ltP sg i) i (g1 55)
theorem ltP_2 {sg : Nat → Int} {k : Nat} (h : okTo sg k) : ∀ m, m ≤ k → 2 * m ≤ ltP sg m := by
  intro m
  induction m with
  | zero => intro _; exact Nat.zero_le _
  | succ m ih =>
    intro hm
    have := ltP_lt h (m + 1) m hm (by omega)
    have := ih (by omega)
    omega
theorem bad_le {sg : Nat → Int} {p q : Nat} (h : badAt sg p q) : q ≤ p + 6 := by
  rcases h with ⟨-, z⟩ | ⟨-, t, z1, z2, -⟩
  · omega
  · have := sLen_le _ (shp_lt (sg p))
    omega
theorem m_caseOf {d : Nat} {g : pG} {st : tSt} (hd : 11 ≤ d) (hst : OKst st) (hI : IM g st) : CT d mX8_caseOf [vR 45] g (qI fun x g' => ∃ o, CS (sgS st) (sLn st) (sK st) x o ∧ IM g' (stC st o) ∧ ∀ c, c < 45 → g' c = g c) := by
  refine ct_in (by omega) (Nat.le_of_ble_eq_true rfl) rfl (fun e he => ?_)
  have hK := hst.1
  have h96 := hst.2.1.1
  have he10 : 10 ≤ e := by omega
  clear he hd
  have hsM : ∀ g1 : pG, g1 52 = g 52 → g1 45 13 = g 45 13 → sgM g1 = sgS st := fun g1 z1 z2 => sgM_st ⟨by rw [z2]; exact hI.2.1.1, fun i hi => by rw [z1]; exact hI.2.1.2 i hi⟩
  have hge : ∀ i, sLn st ≤ i → sgS st i = -1 := fun i hi => if_neg (by omega)
  generalize hsg : sgS st = sg at hsM hge
  -- a bad place
  have badend : ∀ (g2 : pG) (k q : Nat), (∀ a, (a < 45 ∨ (45 < a ∧ a < 53) ∨ 55 < a) → g2 a = g a) → (∀ s, s ≠ 8 → s ≠ 14 → s ≠ 15 → s ≠ 16 → g2 45 s = g 45 s) → g2 45 15 = 1 → g2 45 14 = (q : Int) → okTo sg k → (k = 0 ∨ ltP sg k < sLn st) → badAt sg (ltP sg k) q → EV e mX8_caseOf (qI fun x g' => ∃ o, CS sg (sLn st) (sK st) x o ∧ IM g' (stC st o) ∧ ∀ c, c < 45 → g' c = g c) 52 [vR 45, vX 2] [] g2 := by
    intro g2 k q f1 f2 f3 f4 f5 f6 f7
    have hq := bad_le f7
    have hp : ltP sg k ≤ 96 := by
      rcases f6 with z | z
      · rw [z]; exact Nat.zero_le _
      · omega
    refine b_X8_caseOf_52 (fun h => ?_) (fun _ => ?_)
    · rw [fup_ne _ _ (by decide), f3] at h
      exact absurd h (by decide)
    · have o : ∀ a, a ≠ 45 → (cset g2 45 (fup (g2 45) 13 0)) a = g2 a := fun a ha => cset_ne _ _ ha
      have o5 : ∀ s, s ≠ 13 → (cset g2 45 (fup (g2 45) 13 0)) 45 s = g2 45 s := fun s hs => by rw [cset_self, fup_ne _ _ hs]
      have o13 : (cset g2 45 (fup (g2 45) 13 0)) 45 13 = 0 := by rw [cset_self, fup_self]
      generalize cset g2 45 (fup (g2 45) 13 0) = g3 at o o5 o13 ⊢
      have e14 : g3 45 14 = (q : Int) := by rw [o5 14 (by decide)]; exact f4
      refine b_X8_caseOf_64 ⟨_, rfl, none, Or.inl ⟨k, q, f5, f6, f7, ?_, rfl⟩, ?_, fun c hc => (o c (by omega)).trans (f1 c (Or.inl hc))⟩
      · show w32 (-1000 - g3 45 14) = _
        rw [e14]
        exact w1000 (by omega)
      · obtain ⟨m1, m2, m3, m4, m5, m6⟩ := hI.1
        have s5 : ∀ s, (s = 0 ∨ s = 4 ∨ s = 6 ∨ s = 7 ∨ s = 22 ∨ s = 28 ∨ s = 41) → g3 45 s = g 45 s := fun s hs => by rw [o5 s (by omega)]; exact f2 s (by omega) (by omega) (by omega) (by omega)
        have sA : ∀ a, (45 < a ∧ a < 53) ∨ 55 < a → g3 a = g a := fun a ha => by rw [o a (by omega)]; exact f1 a (by omega)
        refine hI.lz ⟨by rw [s5 0 (by decide)]; exact m1, fun k hk => by rw [sA 46 (by decide), sA 47 (by decide), sA 48 (by decide)]; exact m2 k hk, by rw [s5 4 (by decide)]; exact m3, fun k hk => by rw [sA 49 (by decide)]; exact m4 k hk, by rw [s5 6 (by decide)]; exact m5, by rw [s5 7 (by decide)]; exact m6⟩ ⟨by rw [s5 28 (by decide)]; exact hI.2.2.2.2.2.1, fun i hi => by rw [sA 58 (by decide)]; exact hI.2.2.2.2.2.2 i hi⟩ o13 (fun a ha => sA a (by omega)) (fun s hs => s5 s (by omega))
  -- all is well told: the STATEMENTS come to be
  have goodend : ∀ (g2 : pG) (k : Nat), LI sg g k g2 → 1 ≤ k → k ≤ 48 → ltP sg k = sLn st → g2 45 15 = 0 → EV e mX8_caseOf (qI fun x g' => ∃ o, CS sg (sLn st) (sK st) x o ∧ IM g' (stC st o) ∧ ∀ c, c < 45 → g' c = g c) 52 [vR 45, vX 2] [] g2 := by
    intro g2 k hL hk1 hk48 hn h15
    obtain ⟨f1, f2, f3, f4, f5⟩ := hL
    have hlp : ∀ i, i < k → ltP sg i ≤ 96 := fun i hi => by have := ltP_le f4 (Nat.le_refl k) (Nat.le_of_lt hi); omega
    refine b_X8_caseOf_52 (fun _ => ?_) (fun h => absurd (by rw [fup_ne _ _ (by decide)]; exact h15) h)
    have o : ∀ a, a ≠ 45 → (cset g2 45 (fup (g2 45) 13 0)) a = g2 a := fun a ha => cset_ne _ _ ha
    have o5 : ∀ s, s ≠ 13 → (cset g2 45 (fup (g2 45) 13 0)) 45 s = g2 45 s := fun s hs => by rw [cset_self, fup_ne _ _ hs]
    have o13 : (cset g2 45 (fup (g2 45) 13 0)) 45 13 = 0 := by rw [cset_self, fup_self]
    generalize cset g2 45 (fup (g2 45) 13 0) = g3 at o o5 o13 ⊢
    obtain ⟨m1, m2, m3, m4, m5, m6⟩ := hI.1
    have s5 : ∀ s, (s = 0 ∨ s = 4 ∨ s = 6 ∨ s = 7 ∨ s = 22 ∨ s = 28 ∨ s = 41) → g3 45 s = g 45 s := fun s hs => by rw [o5 s (by omega)]; exact f2 s (by omega) (by omega) (by omega) (by omega)
    have sA : ∀ a, (45 < a ∧ a < 53) ∨ 55 < a → g3 a = g a := fun a ha => by rw [o a (by omega)]; exact f1 a (by omega)
    have u3 : SM g3 (sK st) := ⟨by rw [s5 0 (by decide)]; exact m1, fun k hk => by rw [sA 46 (by decide), sA 47 (by decide), sA 48 (by decide)]; exact m2 k hk, by rw [s5 4 (by decide)]; exact m3, fun k hk => by rw [sA 49 (by decide)]; exact m4 k hk, by rw [s5 6 (by decide)]; exact m5, by rw [s5 7 (by decide)]; exact m6⟩
    refine b_X8_caseOf_73 (m_keep (by omega) lay56 (by decide) hK u3) (fun g4 h4 => ?_)
    obtain ⟨n4, u4, y1, y2⟩ := h4
    refine b_X8_caseOf_82 ?_
    have e16 : g4 45 16 = (k : Int) := by rw [y2 16 (by decide), o5 16 (by decide)]; exact f3
    have e13 : g4 45 13 = 0 := by rw [y2 13 (by decide)]; exact o13
    have t5 : ∀ s, (s = 22 ∨ s = 28 ∨ s = 41) → g4 45 s = g 45 s := fun s hs => by rw [y2 s (by omega)]; exact s5 s (by omega)
    have tA : ∀ a, (a = 50 ∨ a = 57 ∨ a = 58 ∨ a = 68) → g4 a = g a := fun a ha => by rw [y1 a (by omega) (by omega)]; exact sA a (by omega)
    have t0 : ∀ c, c < 45 → g4 c = g c := fun c hc => by rw [y1 c (Or.inl hc) (by omega), o c (by omega), f1 c (Or.inl hc)]
    have t53 : ∀ a, (a = 53 ∨ a = 54 ∨ a = 55) → g4 a = g2 a := fun a ha => by rw [y1 a (by omega) (by omega)]; exact o a (by omega)
    have loop : ∀ (r i : Nat) (g5 : pG) (Ki : tK), i + r = k → MC g4 g5 → SM g5 Ki → rnK sg (sK st) i = some Ki → EV e mX8_caseOf (qI fun x g' => ∃ o, CS sg (sLn st) (sK st) x o ∧ IM g' (stC st o) ∧ ∀ c, c < 45 → g' c = g c) 84 [vR 45, vI (i : Int)] [] g5 := by
      intro r
      induction r with
      | zero =>
        intro i g5 Ki hi hM hu hr
        have eik : i = k := by omega
        subst eik
        have z16 : g5 45 16 = (i : Int) := by rw [hM.2 16 (by decide) (by decide) (by decide) (by decide)]; exact e16
        refine b_X8_caseOf_84 (fun _ => ?_) (fun h => absurd (by rw [z16]; exact Int.le_refl _) h)
        refine b_X8_caseOf_126 ⟨_, rfl, some Ki, Or.inr ⟨i, hk1, f4, hn, Or.inr ⟨Ki, hr, ?_, rfl⟩⟩, ?_, fun c hc => by rw [clo hc (by decide), hM.1 c (Or.inl hc), t0 c hc]⟩
        · show fup (g5 45) 28 0 16 = _
          rw [fup_ne _ _ (by decide)]; exact z16
        · refine hI.lz (um := 0) (S := fun _ => Ki) hu.set28 ⟨by rw [cset_self, fup_self]; rfl, fun i hi => absurd hi (Nat.not_lt_zero i)⟩ ?_ (fun a ha => ?_) (fun s hs => ?_)
          · rw [cset_self, fup_ne _ _ (by decide), hM.2 13 (by decide) (by decide) (by decide) (by decide)]; exact e13
          · rw [cset_ne _ _ (by omega), hM.1 a (by omega)]; exact tA a (by omega)
          · rw [cset_self, fup_ne _ _ (by omega), hM.2 s (by omega) (by omega) (by omega) (by omega)]; exact t5 s (by omega)
      | succ r ih =>
        intro i g5 Ki hi hM hu hr
        have hik : i < k := by omega
        have hi48 : i ≤ 48 := by omega
        have hi102 : i ≤ 102 := by omega
        have hKi := rnK_ok hK i Ki hr
        have z16 : g5 45 16 = (k : Int) := by rw [hM.2 16 (by decide) (by decide) (by decide) (by decide)]; exact e16
        obtain ⟨q1, q2, q3⟩ := f5 i hik
        have q1' : g5 53 i = ((ltP sg i : Nat) : Int) := by rw [hM.1 53 (by decide), t53 53 (by decide)]; exact q1
        have q2' : g5 54 i = sg (ltP sg i) := by rw [hM.1 54 (by decide), t53 54 (by decide)]; exact q2
        have q3' : TV sg (ltP sg i) i (g5 55) := by rw [hM.1 55 (by decide), t53 55 (by decide)]; exact q3
        refine b_X8_caseOf_84 (fun h => absurd h (by rw [z16]; omega)) (fun _ => ?_)
        refine b_X8_caseOf_92 (m_stmt (by omega) hi48 hu hKi q2' (f4 i hik) q3') (fun x g6 h6 => ?_)
        obtain ⟨h6, hM6⟩ := h6
        rcases h6 with ⟨h6, h7⟩ | ⟨h6, K', h7, h8⟩
        · refine b_X8_caseOf_97 (fun c => absurd h6 c) (fun _ => ?_)
          have n6 : SNP (g6 56) (sK st) := by rw [hM6.1 56 (by decide), hM.1 56 (by decide)]; exact n4
          refine b_X8_caseOf_100 (m_bring (by omega) lay56 (by decide) hK n6) (fun g7 hg7 => ?_)
          obtain ⟨-, u7, v1, v2⟩ := hg7
          have q53 : g7 53 i = ((ltP sg i : Nat) : Int) := by rw [v1 53 (by decide) (by decide), hM6.1 53 (by decide)]; exact q1'
          have hl := hlp i hik
          refine b_X8_caseOf_109 (by omega) (by omega) ⟨_, rfl, none, Or.inr ⟨k, hk1, f4, hn, Or.inl ⟨i, Ki, hik, hr, h7, ?_, rfl⟩⟩, ?_, fun c hc => by rw [v1 c (Or.inl hc) (by omega), hM6.1 c (Or.inl hc), hM.1 c (Or.inl hc), t0 c hc]⟩
          · rw [Int.toNat_natCast, q53]
            exact w2000 (by omega)
          · have w5 : ∀ s, (s = 13 ∨ s = 22 ∨ s = 28 ∨ s = 41) → g7 45 s = g4 45 s := fun s hs => by rw [v2 s (by omega), hM6.2 s (by omega) (by omega) (by omega) (by omega), hM.2 s (by omega) (by omega) (by omega) (by omega)]
            have wA : ∀ a, (a = 50 ∨ a = 57 ∨ a = 58 ∨ a = 68) → g7 a = g a := fun a ha => by rw [v1 a (by omega) (by omega), hM6.1 a (by omega), hM.1 a (by omega)]; exact tA a ha
            refine hI.lz u7 ⟨by rw [w5 28 (by decide), t5 28 (by decide)]; exact hI.2.2.2.2.2.1, fun i hi => by rw [wA 58 (by decide)]; exact hI.2.2.2.2.2.2 i hi⟩ (by rw [w5 13 (by decide)]; exact e13) (fun a ha => wA a (by omega)) (fun s hs => by rw [w5 s (by omega)]; exact t5 s (by omega))
        · refine b_X8_caseOf_97 (fun _ => ?_) (fun c => absurd (by rw [h6]; decide) c)
          refine b_X8_caseOf_120 ?_
          rw [w32s hi102]
          refine ih (i + 1) g6 K' (by omega) (hM.tr hM6) h8 ?_
          show (rnK sg (sK st) i).bind (stm sg (ltP sg i)) = some K'
          rw [hr]
          exact h7
    exact loop k 0 g4 (sK st) (by omega) MC.rf u4 rfl
  -- the reading
  have rloop : ∀ (r k : Nat) (g1 : pG), k + r = 49 → LI sg g k g1 → g1 45 15 = 0 → g1 45 14 = ((ltP sg k : Nat) : Int) → EV e mX8_caseOf (qI fun x g' => ∃ o, CS sg (sLn st) (sK st) x o ∧ IM g' (stC st o) ∧ ∀ c, c < 45 → g' c = g c) 20 [vR 45, vX 2] [] g1 := by
    intro r
    induction r with
    | zero =>
      intro k g1 hk hL h15 h14
      have := ltP_2 hL.2.2.2.1 k (Nat.le_refl k)
      exfalso
      have hin := okS_in (hL.2.2.2.1 (k - 1) (by omega)) hge
      have h48 := ltP_2 hL.2.2.2.1 (k - 1) (by omega)
      have h2 := okS_2 (hL.2.2.2.1 (k - 1) (by omega))
      omega
    | succ r ih =>
      intro k g1 hk hL h15 h14
      have hk48 : k ≤ 48 := by omega
      obtain ⟨f1, f2, f3, f4, f5⟩ := hL
      have e13 : g1 45 13 = ((sLn st : Nat) : Int) := by rw [f2 13 (by decide) (by decide) (by decide) (by decide)]; exact hI.2.1.1
      have hs1 : sgM g1 = sg := hsM g1 (f1 52 (by decide)) (f2 13 (by decide) (by decide) (by decide) (by decide))
      have hle : ltP sg k ≤ sLn st := by
        rcases Nat.eq_zero_or_pos k with z | z
        · rw [z]; exact Nat.zero_le _
        · obtain ⟨k', rfl⟩ : ∃ k', k = k' + 1 := ⟨k - 1, by omega⟩
          exact okS_in (f4 k' (by omega)) hge
      have read : (k = 0 ∨ ltP sg k < sLn st) → EV e mX8_caseOf (qI fun x g' => ∃ o, CS sg (sLn st) (sK st) x o ∧ IM g' (stC st o) ∧ ∀ c, c < 45 → g' c = g c) 45 [vR 45, vX 2] [] g1 := by
        intro hkn
        refine b_X8_caseOf_45 (m_readStatement (by omega) e13 h96 (by omega) hk48 h14 h15 f3) (fun g2 h2 => ?_)
        rw [hs1] at h2
        obtain ⟨a1, a2, ⟨a3, a4, a5⟩, a6, a7, a8⟩ := h2
        refine b_X8_caseOf_49 ?_
        have b1 : ∀ a, (a < 45 ∨ (45 < a ∧ a < 53) ∨ 55 < a) → g2 a = g a := fun a ha => (a1 a (by omega) (by omega) (by omega) (by omega)).trans (f1 a ha)
        have b2 : ∀ s, s ≠ 8 → s ≠ 14 → s ≠ 15 → s ≠ 16 → g2 45 s = g 45 s := fun s z1 z2 z3 z4 => (a2 s z2 z3 z4).trans (f2 s z1 z2 z3 z4)
        rcases a8 with ⟨c1, c2, c3, c4⟩ | ⟨c1, q, c2, c3⟩
        · refine ih (k + 1) g2 (by omega) ⟨b1, b2, a7, okTo_succ f4 c2, fun i hi => ?_⟩ c1 c3
          rcases (show i < k ∨ i = k by omega) with z | z
          · obtain ⟨w1, w2⟩ := a5 i z
            obtain ⟨w3, w4, w5⟩ := f5 i z
            exact ⟨w1.trans w3, w2.trans w4, w5.frm (fun m hm => a6 m (by omega))⟩
          · rw [z]
            exact ⟨a3, a4, c4⟩
        · refine b_X8_caseOf_20 (fun _ => badend g2 k q b1 b2 c1 c3 f4 hkn c2) (fun h => absurd (by show g2 45 15 ≠ 0; rw [c1]; decide) h)
      refine b_X8_caseOf_20 (fun h => absurd h15 h) (fun _ => ?_)
      refine b_X8_caseOf_27 (fun h => ?_) (fun h => ?_)
      · have h : g1 45 16 = 0 := h
        rw [f3] at h
        exact read (Or.inl (by omega))
      · have h : ¬ g1 45 16 = 0 := h
        rw [f3] at h
        refine b_X8_caseOf_34 (fun h2 => ?_) (fun h2 => ?_)
        · have h2 : g1 45 13 ≤ g1 45 14 := h2
          rw [e13, h14] at h2
          exact goodend g1 k ⟨f1, f2, f3, f4, f5⟩ (by omega) hk48 (by omega) h15
        · have h2 : ¬ g1 45 13 ≤ g1 45 14 := h2
          rw [e13, h14] at h2
          exact read (Or.inr (by omega))
  refine b_X8_caseOf_0 ?_
  have G45 : (cset (cset (cset (cset g 45 (fup (g 45) 8 0)) 45 (fup (fup (g 45) 8 0) 14 0)) 45 (fup (fup (fup (g 45) 8 0) 14 0) 15 0)) 45 (fup (fup (fup (fup (g 45) 8 0) 14 0) 15 0) 16 0)) 45 = fup (fup (fup (fup (g 45) 8 0) 14 0) 15 0) 16 0 := cset_self _ _ _
  have Go : ∀ a, a ≠ 45 → (cset (cset (cset (cset g 45 (fup (g 45) 8 0)) 45 (fup (fup (g 45) 8 0) 14 0)) 45 (fup (fup (fup (g 45) 8 0) 14 0) 15 0)) 45 (fup (fup (fup (fup (g 45) 8 0) 14 0) 15 0) 16 0)) a = g a := fun a ha => by rw [cset_ne _ _ ha, cset_ne _ _ ha, cset_ne _ _ ha, cset_ne _ _ ha]
  generalize cset (cset (cset (cset g 45 (fup (g 45) 8 0)) 45 (fup (fup (g 45) 8 0) 14 0)) 45 (fup (fup (fup (g 45) 8 0) 14 0) 15 0)) 45 (fup (fup (fup (fup (g 45) 8 0) 14 0) 15 0) 16 0) = g1 at G45 Go ⊢
  refine rloop 49 0 g1 (by decide) ⟨fun a ha => Go a (by omega), fun s z1 z2 z3 z4 => by rw [G45, fup_ne _ _ z4, fup_ne _ _ z3, fup_ne _ _ z2, fup_ne _ _ z1], by rw [G45, fup_self]; rfl, fun i hi => absurd hi (Nat.not_lt_zero i), fun i hi => absurd hi (Nat.not_lt_zero i)⟩ (by rw [G45, fup_ne _ _ (by decide), fup_self]) (by rw [G45, fup_ne _ _ (by decide), fup_ne _ _ (by decide), fup_self]; rfl)
