/-! the reference's reader: a STATEMENT -/
def RK (k p : Nat) (o : Int) (g g' : pG) : Prop := (∀ c, c ≠ 45 → c ≠ 53 → c ≠ 54 → c ≠ 55 → g' c = g c) ∧ (∀ s, s ≠ 14 → s ≠ 15 → g' 45 s = g 45 s) ∧ (g' 53 k = (p : Int) ∧ g' 54 k = o ∧ ∀ i, i < k → g' 53 i = g 53 i ∧ g' 54 i = g 54 i) ∧ ∀ i, i < 3 * k → g' 55 i = g 55 i
theorem RK.rf {k p : Nat} {o : Int} {g g1 g2 : pG} (h : RK k p o g g1) (h2 : RF g1 g2) : RK k p o g g2 := by
  obtain ⟨a, b, c, e⟩ := h
  refine ⟨fun x h1 h3 h4 h5 => (h2.1 x h1).trans (a x h1 h3 h4 h5), fun s h1 h3 => (h2.2 s h1 h3).trans (b s h1 h3), ?_, fun i hi => by rw [h2.1 55 (by decide)]; exact e i hi⟩
  rw [h2.1 53 (by decide), h2.1 54 (by decide)]
  exact c
theorem RK.s55 {k p i : Nat} {o : Int} {g g1 : pG} (v : Int) (h : RK k p o g g1) (hi : 3 * k ≤ i) : RK k p o g (cset g1 55 (fup (g1 55) i v)) := by
  obtain ⟨a, b, c, e⟩ := h
  refine ⟨fun x h1 h3 h4 h5 => (cset_ne _ _ h5).trans (a x h1 h3 h4 h5), fun s h1 h3 => by rw [cset_ne _ _ (by decide)]; exact b s h1 h3, ?_, fun j hj => by rw [cset_self, fup_ne _ _ (by omega)]; exact e j hj⟩
  rw [cset_ne _ _ (by decide), cset_ne _ _ (by decide)]
  exact c
theorem RK.sg {k p : Nat} {o : Int} {g g' : pG} (h : RK k p o g g') : sgM g' = sgM g := by
  funext i
  show sgn (g' 52) (g' 45 13) (i : Int) = sgn (g 52) (g 45 13) (i : Int)
  rw [h.1 52 (by decide) (by decide) (by decide) (by decide), h.2.1 13 (by decide) (by decide)]
def TV (sg : Nat → Int) (p k : Nat) (f : Nat → Int) : Prop :=
  (sg p = 99 → f (3 * k) = dgv sg (p + 1) 1 ∧ f (3 * k + 1) = dgv sg (p + 2) 1 ∧ f (3 * k + 2) = dgv sg (p + 3) 2) ∧ (sg p = 112 → f (3 * k) = dgv sg (p + 1) 1 ∧ f (3 * k + 1) = (if sg (p + 2) = 45 then -(dgv sg (p + 3) 1) else dgv sg (p + 3) 1)) ∧ ((sg p = 110 ∨ sg p = 108) → f (3 * k) = dgv sg (p + 1) 1) ∧ (sg p = 115 → f (3 * k) = dgv sg (p + 1) 3)
def RP (sg : Nat → Int) (k p : Nat) (g g' : pG) : Prop :=
  (∀ c, c ≠ 45 → c ≠ 53 → c ≠ 54 → c ≠ 55 → g' c = g c) ∧ (∀ s, s ≠ 14 → s ≠ 15 → s ≠ 16 → g' 45 s = g 45 s) ∧ (g' 53 k = (p : Int) ∧ g' 54 k = sg p ∧ ∀ i, i < k → g' 53 i = g 53 i ∧ g' 54 i = g 54 i) ∧ (∀ i, i < 3 * k → g' 55 i = g 55 i) ∧ g' 45 16 = ((k + 1 : Nat) : Int) ∧
  ((g' 45 15 = 0 ∧ okS sg p ∧ g' 45 14 = ((p + sLen (shp (sg p)) : Nat) : Int) ∧ TV sg p k (g' 55)) ∨ (g' 45 15 = 1 ∧ ∃ q : Nat, badAt sg p q ∧ g' 45 14 = (q : Int)))
abbrev HJ (sg : Nat → Int) (p j : Nat) : Prop := (1 ≤ shp (sg p) ∧ j = shp (sg p)) ∨ (shp (sg p) = 0 ∧ j = 5)
theorem su_108 {c : Int} (h : suF c (sCh 5 0)) : shp c = 5 := by
  have h : suF c 108 := h
  have : c = 108 := by unfold suF at h; omega
  rw [this]; rfl
theorem SS.back {sg : Nat → Int} {p j i i2 : Nat} {b a a2 : Int} (h : SS sg p j i b a) (h2 : SS sg p j i2 0 a2) (hi : i ≤ i2) : b = 0 := by
  rcases h with ⟨h, -⟩ | ⟨-, t, h1, -, -, h3⟩
  · exact h
  · rcases h2 with ⟨-, -, h4⟩ | ⟨h4, -⟩
    · exact absurd (h4 t (by omega)) h3
    · exact absurd h4 (by decide)
theorem SS_end {sg : Nat → Int} {p j : Nat} {b a : Int} (hj : HJ sg p j) (h : SS sg p j (sLen j) b a) : (b = 0 ∧ okS sg p ∧ a = ((p + sLen (shp (sg p)) : Nat) : Int)) ∨ (b = 1 ∧ ∃ q : Nat, badAt sg p q ∧ a = (q : Int)) := by
  rcases hj with ⟨j1, j2⟩ | ⟨j1, j2⟩
  · subst j2
    rcases h with ⟨h1, h2, h3⟩ | ⟨h1, t, h2, h3, h4, h5⟩
    · exact Or.inl ⟨h1, ⟨j1, h3⟩, h2⟩
    · exact Or.inr ⟨h1, _, Or.inr ⟨j1, t, h2, rfl, h4, h5⟩, h3⟩
  · subst j2
    rcases h with ⟨h1, h2, h3⟩ | ⟨h1, t, h2, h3, h4, h5⟩
    · have := su_108 (h3 0 (by decide))
      rw [Nat.add_zero, j1] at this
      exact absurd this (by decide)
    · rcases Nat.eq_zero_or_pos t with z | z
      · subst z
        exact Or.inr ⟨h1, p, Or.inl ⟨j1, rfl⟩, h3⟩
      · have := su_108 (h4 0 z)
        rw [Nat.add_zero, j1] at this
        exact absurd this (by decide)
theorem su_shp {o : Int} (h : 1 ≤ shp o) : suF o (sCh (shp o) 0) := by
  unfold shp at h ⊢
  by_cases h1 : o = 99
  · rw [h1]; decide
  · by_cases h2 : o = 110
    · rw [h2]; decide
    · by_cases h3 : o = 112
      · rw [h3]; decide
      · by_cases h4 : o = 115
        · rw [h4]; decide
        · by_cases h5 : o = 108
          · rw [h5]; decide
          · by_cases h6 : o = 117
            · rw [h6]; decide
            · rw [if_neg h1, if_neg h2, if_neg h3, if_neg h4, if_neg h5, if_neg h6] at h
              exact absurd h (by decide)
theorem HJ_eq {sg : Nat → Int} {p j m : Nat} {o : Int} (h : HJ sg p j) (ho : sg p = o) (hm : shp o = m) (h1 : 1 ≤ m) : j = m := by
  rcases h with ⟨a, b⟩ | ⟨a, b⟩
  · rw [ho, hm] at b; exact b
  · rw [ho, hm] at a; omega
theorem dgv1 (sg : Nat → Int) (a : Nat) : dgv sg a 1 = sg a - 48 := by
  show 10 * 0 + (sg (a + 0) - 48) = _
  rw [Nat.add_zero]
  omega
theorem SS.at {sg : Nat → Int} {p j i u : Nat} {a : Int} (h : SS sg p j i 0 a) (hu : u < i) : suF (sg (p + u)) (sCh j u) := by
  rcases h with ⟨-, -, h⟩ | ⟨h, -⟩
  · exact h u hu
  · exact absurd h (by decide)
theorem w3k {k : Nat} (h : k ≤ 48) : w32 (3 * (k : Int)) = ((3 * k : Nat) : Int) := by rw [w32_of (by omega) (by omega)]; omega
theorem w3k1 {m : Nat} (h : m ≤ 150) : w32 ((m : Int) + 1) = ((m + 1 : Nat) : Int) ∧ w32 ((m : Int) + 2) = ((m + 2 : Nat) : Int) := ⟨by rw [w32_of (by omega) (by omega)]; omega, by rw [w32_of (by omega) (by omega)]; omega⟩
theorem m_readStatement {d p k n : Nat} {g : pG} (hd : 4 ≤ d) (hn : g 45 13 = (n : Int)) (h96 : n ≤ 96) (hp : p ≤ 96) (hk : k ≤ 48) (h14 : g 45 14 = (p : Int)) (h15 : g 45 15 = 0) (h16 : g 45 16 = (k : Int)) : CT d mX8_readStatement [vR 45] g (qV (RP (sgM g) k p g)) := by
  refine ct_in (by omega) (Nat.le_of_ble_eq_true rfl) rfl (fun e he => ?_)
  generalize hsg : sgM g = sg
  have hk9 : 3 * k ≤ 150 := by omega
  -- the end
  have fin1 : ∀ (gC : pG) (j : Nat), HJ sg p j → RK k p (sg p) g gC → SS sg p j (sLen j) (gC 45 15) (gC 45 14) → (gC 45 15 = 0 → TV sg p k (gC 55)) → qV (RP sg k p g) none (cset gC 45 (fup (gC 45) 16 (w32 (gC 45 16 + 1)))) := by
    intro gC j hj hR hS hT
    have e16 : gC 45 16 = (k : Int) := by rw [hR.2.1 16 (by decide) (by decide)]; exact h16
    have o : ∀ c, c ≠ 45 → (cset gC 45 (fup (gC 45) 16 (w32 (gC 45 16 + 1)))) c = gC c := fun c hc => cset_ne _ _ hc
    have o5 : ∀ s, s ≠ 16 → (cset gC 45 (fup (gC 45) 16 (w32 (gC 45 16 + 1)))) 45 s = gC 45 s := fun s hs => by rw [cset_self, fup_ne _ _ hs]
    have o6 : (cset gC 45 (fup (gC 45) 16 (w32 (gC 45 16 + 1)))) 45 16 = ((k + 1 : Nat) : Int) := by rw [cset_self, fup_self, e16]; exact w32s (by omega)
    generalize cset gC 45 (fup (gC 45) 16 (w32 (gC 45 16 + 1))) = gD at o o5 o6 ⊢
    refine ⟨rfl, fun c h1 h2 h3 h4 => (o c h1).trans (hR.1 c h1 h2 h3 h4), fun s h1 h2 h3 => (o5 s h3).trans (hR.2.1 s h1 h2), ?_, fun i hi => by rw [o 55 (by decide)]; exact hR.2.2.2 i hi, o6, ?_⟩
    · rw [o 53 (by decide), o 54 (by decide)]
      exact hR.2.2.1
    · rw [o5 15 (by decide), o5 14 (by decide), o 55 (by decide)]
      rcases SS_end hj hS with ⟨h1, h2, h3⟩ | ⟨h1, h2⟩
      · exact Or.inl ⟨h1, h2, h3, hT h1⟩
      · exact Or.inr ⟨h1, h2⟩
  have fin268 : ∀ (gu : pG) (v1 v2 v3 : Int) (u4 : pV) (j i : Nat), HJ sg p j → i + 1 = sLen j → i ≤ 5 → RK k p (sg p) g gu → SS sg p j (i + 1) 1 (gu 45 14) → EV e mX8_readStatement (qV (RP sg k p g)) 268 [vR 45, vI v1, vI v2, vI v3, u4] [vR 45] gu := by
    intro gu v1 v2 v3 u4 j i hj hi hi5 hR hS
    obtain ⟨q, hq, hq2⟩ := hS.a_bd
    have hq110 : q ≤ 110 := by omega
    refine b_X8_readStatement_268 (fun h => ?_) (fun _ => ?_)
    · rw [fup_self] at h
      exact absurd h (by decide)
    · obtain ⟨f1, f2, f3⟩ := RF15 gu 1
      rw [show fup (gu 45) 15 1 14 = (q : Int) by rw [fup_ne _ _ (by decide)]; exact hq]
      generalize cset gu 45 (fup (gu 45) 15 1) = gB at f1 f2 f3 ⊢
      refine b_X8_readStatement_288 ?_
      rw [(wat q hq110).1]
      obtain ⟨k1, k2, k3⟩ := RF14 gB (q : Int)
      show qV (RP sg k p g) none (cset (cset gB 45 (fup (gB 45) 14 (q : Int))) 45 (fup ((cset gB 45 (fup (gB 45) 14 (q : Int))) 45) 16 (w32 ((cset gB 45 (fup (gB 45) 14 (q : Int))) 45 16 + 1))))
      generalize cset gB 45 (fup (gB 45) 14 (q : Int)) = gC at k1 k2 k3 ⊢
      rw [f2] at k3
      refine fin1 gC j hj ((hR.rf f1).rf k1) ?_ (fun h => absurd (k3.symm.trans h) (by decide))
      rw [k2, k3, ← hi, ← hq]
      exact hS
  have fin259 : ∀ (gu : pG) (v1 v2 v3 : Int) (u4 : pV) (j i : Nat), HJ sg p j → i + 1 = sLen j → i ≤ 5 → sCh j i = 59 → RK k p (sg p) g gu → gu 45 15 = 0 → SS sg p j i 0 (gu 45 14) → TV sg p k (gu 55) → EV e mX8_readStatement (qV (RP sg k p g)) 259 [vR 45, vI v1, vI v2, vI v3, u4] [vR 45] gu := by
    intro gu v1 v2 v3 u4 j i hj hi hi5 hch hR hb hS hT
    have hq := hS.good
    have hq110 : p + i ≤ 110 := by omega
    have hnu : gu 45 13 = (n : Int) := by rw [hR.2.1 13 (by decide) (by decide)]; exact hn
    refine b_X8_readStatement_259 (m_here (d := e) (by omega) (by rw [hnu]; omega) hq) (fun x g1 h1 => ?_)
    obtain ⟨h1, hg1⟩ := h1
    rw [hg1]
    rw [hR.sg, hsg] at h1
    refine b_X8_readStatement_263 (fun h => ?_) (fun h => ?_)
    · have hsu : suF (sg (p + i)) (sCh j i) := by
        rw [← h1, hch, h]
        decide
      obtain ⟨f1, f2, f3⟩ := RF15 gu 0
      refine b_X8_readStatement_272 (fun _ => ?_) (fun h => absurd (fup_self _ _ _) h)
      rw [show fup (gu 45) 15 0 14 = ((p + i : Nat) : Int) by rw [fup_ne _ _ (by decide)]; exact hq]
      generalize cset gu 45 (fup (gu 45) 15 0) = gB at f1 f2 f3 ⊢
      refine b_X8_readStatement_292 ?_
      rw [(wat (p + i) hq110).2]
      obtain ⟨k1, k2, k3⟩ := RF14 gB ((p + i + 1 : Nat) : Int)
      show qV (RP sg k p g) none (cset (cset gB 45 (fup (gB 45) 14 ((p + i + 1 : Nat) : Int))) 45 (fup ((cset gB 45 (fup (gB 45) 14 ((p + i + 1 : Nat) : Int))) 45) 16 (w32 ((cset gB 45 (fup (gB 45) 14 ((p + i + 1 : Nat) : Int))) 45 16 + 1))))
      generalize cset gB 45 (fup (gB 45) 14 ((p + i + 1 : Nat) : Int)) = gC at k1 k2 k3 ⊢
      rw [f2] at k3
      refine fin1 gC j hj ((hR.rf f1).rf k1) ?_ (fun _ => ?_)
      · rw [k2, k3, ← hi]
        exact hS.nx hsu
      · rw [k1.1 55 (by decide), f1.1 55 (by decide)]
        exact hT
    · refine fin268 gu v1 v2 v3 u4 j i hj hi hi5 hR (hS.bad ?_)
      rw [← h1, hch]
      unfold suF
      omega
  have dig : ∀ (gu : pG) (j i c : Nat) (cI : Int), cI = (c : Int) → c ≤ 3 → i ≤ 5 → RK k p (sg p) g gu → SS sg p j i (gu 45 15) (gu 45 14) → (∀ u, u < c → sCh j (i + u) = 48) → CT e mX8_readDigits [vR 45, vI cI] gu (qI fun x g' => RK k p (sg p) g g' ∧ g' 55 = gu 55 ∧ SS sg p j (i + c) (g' 45 15) (g' 45 14) ∧ (g' 45 15 = 0 → x = dgv sg (p + i) c)) := by
    intro gu j i c cI hcI hc hi hR hS hch
    have hnu : gu 45 13 = (n : Int) := by rw [hR.2.1 13 (by decide) (by decide)]; exact hn
    have es : sgM gu = sg := hR.sg.trans hsg
    refine ct_mono (fun v gg hv => ?_) (m_readDigits (d := e) (p := p) (j := j) (i := i) (c := c) (by omega) hcI hnu h96 hc (by omega) hch (by rw [es]; exact hS))
    obtain ⟨x, hx, h1, h2, h3⟩ := hv
    rw [es] at h2 h3
    exact ⟨x, hx, hR.rf h1, h1.1 55 (by decide), h2, h3⟩
  have ends : ∀ (gu : pG) (v1 v2 v3 : Int) (u4 : pV) (j i : Nat), HJ sg p j → i + 1 = sLen j → i ≤ 5 → sCh j i = 59 → RK k p (sg p) g gu → SS sg p j i (gu 45 15) (gu 45 14) → (gu 45 15 = 0 → TV sg p k (gu 55)) → (gu 45 15 ≠ 0 → EV e mX8_readStatement (qV (RP sg k p g)) 268 [vR 45, vI v1, vI v2, vI v3, u4] [vR 45] gu) ∧ (¬ gu 45 15 ≠ 0 → EV e mX8_readStatement (qV (RP sg k p g)) 259 [vR 45, vI v1, vI v2, vI v3, u4] [vR 45] gu) := by
    intro gu v1 v2 v3 u4 j i hj hi hi5 hch hR hS hT
    refine ⟨fun h => ?_, fun h => ?_⟩
    · have hb : gu 45 15 = 1 := by
        rcases hS.b01 with z | z
        · exact absurd z h
        · exact z
      rw [hb] at hS
      exact fin268 gu v1 v2 v3 u4 j i hj hi hi5 hR (hS.on (by omega))
    · have hb : gu 45 15 = 0 := Classical.not_not.mp h
      rw [hb] at hS
      exact fin259 gu v1 v2 v3 u4 j i hj hi hi5 hch hR hb hS (hT hb)
  have c45 : ∀ (g1 : pG) (f : tF), (cset g1 55 f) 45 = g1 45 := fun g1 f => cset_ne _ _ (by decide)
  have n0 : 0 ≤ ((3 * k : Nat) : Int) ∧ ((3 * k : Nat) : Int) < 147 := by omega
  have n1 : 0 ≤ ((3 * k + 1 : Nat) : Int) ∧ ((3 * k + 1 : Nat) : Int) < 147 := by omega
  have n2 : 0 ≤ ((3 * k + 2 : Nat) : Int) ∧ ((3 * k + 2 : Nat) : Int) < 147 := by omega
  have m99 : ∀ (gC : pG) (j : Nat), HJ sg p j → RK k p (sg p) g gC → SS sg p j 1 (gC 45 15) (gC 45 14) → sg p = 99 → EV e mX8_readStatement (qV (RP sg k p g)) 81 [vR 45, vI (k : Int), vI (sg p), vI ((3 * k : Nat) : Int), vX 2] [] gC := by
    intro gC j hj hR hS ho
    have hj1 := HJ_eq (m := 1) hj ho rfl (by decide)
    subst hj1
    refine b_X8_readStatement_81 (dig gC 1 1 1 1 rfl (by decide) (by decide) hR hS (by decide)) (fun x1 g1 h1 => ?_)
    obtain ⟨r1, e1, s1, d1⟩ := h1
    refine b_X8_readStatement_91 n0.1 n0.2 (by rw [Int.toNat_natCast]; exact dig _ 1 2 1 1 rfl (by decide) (by decide) (r1.s55 x1 (Nat.le_refl _)) (by rw [c45]; exact s1) (by decide)) (fun x2 g2 h2 => ?_)
    obtain ⟨r2, e2, s2, d2⟩ := h2
    rw [cset_self] at e2
    rw [(w3k1 hk9).1]
    refine b_X8_readStatement_104 n1.1 n1.2 (by rw [Int.toNat_natCast]; exact dig _ 1 3 2 2 rfl (by decide) (by decide) (r2.s55 x2 (by omega)) (by rw [c45]; exact s2) (by decide)) (fun x3 g3 h3 => ?_)
    obtain ⟨r3, e3, s3, d3⟩ := h3
    rw [cset_self] at e3
    rw [(w3k1 hk9).2]
    obtain ⟨E1, E2⟩ := ends (cset g3 55 (fup (g3 55) (3 * k + 2) x3)) (k : Int) (sg p) ((3 * k : Nat) : Int) (vX 2) 1 5 hj rfl (by decide) rfl (r3.s55 x3 (by omega)) (by rw [c45]; exact s3) (fun hb => by
      rw [c45] at hb
      rw [hb] at s3
      have b2 := s2.back s3 (by decide)
      have b1 := s1.back s3 (by decide)
      rw [cset_self]
      refine ⟨fun _ => ⟨?_, ?_, ?_⟩, fun h => absurd (ho.symm.trans h) (by decide), fun h => absurd ho (by rcases h with h | h <;> rw [h] <;> decide), fun h => absurd (ho.symm.trans h) (by decide)⟩
      · rw [fup_ne _ _ (by omega), e3, fup_ne _ _ (by omega), e2, fup_self]; exact d1 b1
      · rw [fup_ne _ _ (by omega), e3, fup_self]; exact d2 b2
      · rw [fup_self]; exact d3 hb)
    refine b_X8_readStatement_117 n2.1 n2.2 (fun h => ?_) (fun h => ?_)
    · rw [Int.toNat_natCast]; exact E1 (by rw [c45]; exact h)
    · rw [Int.toNat_natCast]; exact E2 (by rw [c45]; exact h)
  have m112 : ∀ (gC : pG) (j : Nat), HJ sg p j → RK k p (sg p) g gC → SS sg p j 1 (gC 45 15) (gC 45 14) → sg p = 112 → EV e mX8_readStatement (qV (RP sg k p g)) 127 [vR 45, vI (k : Int), vI (sg p), vI ((3 * k : Nat) : Int), vX 2] [] gC := by
    intro gC j hj hR hS ho
    have hj1 := HJ_eq (m := 3) hj ho rfl (by decide)
    subst hj1
    refine b_X8_readStatement_127 (dig gC 3 1 1 1 rfl (by decide) (by decide) hR hS (by decide)) (fun x1 g1 h1 => ?_)
    obtain ⟨r1, e1, s1, d1⟩ := h1
    obtain ⟨q, hq, hq2⟩ := s1.a_bd
    have hq110 : q ≤ 110 := by omega
    have rA := r1.s55 x1 (Nat.le_refl (3 * k))
    have hA55 : (cset g1 55 (fup (g1 55) (3 * k) x1)) 55 = fup (g1 55) (3 * k) x1 := cset_self _ _ _
    have hA45 : (cset g1 55 (fup (g1 55) (3 * k) x1)) 45 = g1 45 := c45 _ _
    have hnA : (cset g1 55 (fup (g1 55) (3 * k) x1)) 45 13 = (n : Int) := by rw [rA.2.1 13 (by decide) (by decide)]; exact hn
    have after : ∀ (g5 : pG) (v4 x5 : Int), RK k p (sg p) g g5 → g5 55 = fup (g1 55) (3 * k) x1 → SS sg p 3 4 (g5 45 15) (g5 45 14) → (g5 45 15 = 0 → x5 = dgv sg (p + 3) 1 ∧ v4 = sg (p + 2) ∧ g1 45 15 = 0) → EV e mX8_readStatement (qV (RP sg k p g)) 207 [vR 45, vI (k : Int), vI (sg p), vI ((3 * k : Nat) : Int), vI v4] [vI x5, vI (w32 (((3 * k : Nat) : Int) + 1)), vR 55] g5 := by
      intro g5 v4 x5 r5 e5 s5 d5
      rw [(w3k1 hk9).1]
      have tv : ∀ w : Int, (g5 45 15 = 0 → w = (if sg (p + 2) = 45 then -(dgv sg (p + 3) 1) else dgv sg (p + 3) 1)) → (cset g5 55 (fup (g5 55) (3 * k + 1) w)) 45 15 = 0 → TV sg p k ((cset g5 55 (fup (g5 55) (3 * k + 1) w)) 55) := by
        intro w hw hb
        rw [c45] at hb
        obtain ⟨-, -, z⟩ := d5 hb
        rw [cset_self]
        refine ⟨fun h => absurd (ho.symm.trans h) (by decide), fun _ => ⟨?_, ?_⟩, fun h => absurd ho (by rcases h with h | h <;> rw [h] <;> decide), fun h => absurd (ho.symm.trans h) (by decide)⟩
        · rw [fup_ne _ _ (by omega), e5, fup_self]; exact d1 z
        · rw [fup_self]; exact hw hb
      have bd : g5 45 15 = 0 → 0 ≤ dgv sg (p + 3) 1 ∧ dgv sg (p + 3) 1 ≤ 9 := by
        intro hb
        rw [hb] at s5
        have := s5.at (u := 3) (by decide)
        have h : suF (sg (p + 3)) 48 := this
        rw [dgv1]
        unfold suF at h
        omega
      refine b_X8_readStatement_207 (fun h => ?_) (fun h => ?_)
      · obtain ⟨E1, E2⟩ := ends (cset g5 55 (fup (g5 55) (3 * k + 1) (w32 (x5 * 1)))) (k : Int) (sg p) ((3 * k : Nat) : Int) (vI v4) 3 4 hj rfl (by decide) rfl (r5.s55 _ (by omega)) (by rw [c45]; exact s5) (tv _ (fun hb => by
          obtain ⟨z1, z2, -⟩ := d5 hb
          have zb := bd hb
          rw [if_neg (by rw [← z2]; exact h), z1, Int.mul_one, w32_of (by omega) (by omega)]))
        refine b_X8_readStatement_218 n1.1 n1.2 (fun h => ?_) (fun h => ?_)
        · rw [Int.toNat_natCast]; exact E1 (by rw [c45]; exact h)
        · rw [Int.toNat_natCast]; exact E2 (by rw [c45]; exact h)
      · have h := Classical.not_not.mp h
        obtain ⟨E1, E2⟩ := ends (cset g5 55 (fup (g5 55) (3 * k + 1) (w32 (x5 * (-1))))) (k : Int) (sg p) ((3 * k : Nat) : Int) (vI v4) 3 4 hj rfl (by decide) rfl (r5.s55 _ (by omega)) (by rw [c45]; exact s5) (tv _ (fun hb => by
          obtain ⟨z1, z2, -⟩ := d5 hb
          have zb := bd hb
          rw [if_pos (by rw [← z2]; exact h), z1, show dgv sg (p + 3) 1 * (-1) = -(dgv sg (p + 3) 1) by omega, w32_of (by omega) (by omega)]))
        refine b_X8_readStatement_214 n1.1 n1.2 (fun h => ?_) (fun h => ?_)
        · rw [Int.toNat_natCast]; exact E1 (by rw [c45]; exact h)
        · rw [Int.toNat_natCast]; exact E2 (by rw [c45]; exact h)
    refine b_X8_readStatement_137 n0.1 n0.2 (by rw [Int.toNat_natCast]; exact m_here (a := q) (by omega) (by rw [hnA]; omega) (by rw [c45]; exact hq)) (fun v4 gA' h4 => ?_)
    obtain ⟨h4, hgA⟩ := h4
    rw [hgA]
    rw [rA.sg, hsg] at h4
    generalize cset g1 55 (fup (g1 55) (3 * k) x1) = gA at rA hA55 hA45 hnA ⊢
    have sA : SS sg p 3 2 (gA 45 15) (gA 45 14) := by rw [hA45]; exact s1
    have qA : gA 45 14 = (q : Int) := by rw [hA45]; exact hq
    have bad166 : SS sg p 3 3 1 (gA 45 14) → EV e mX8_readStatement (qV (RP sg k p g)) 166 [vR 45, vI (k : Int), vI (sg p), vI ((3 * k : Nat) : Int), vI v4] [vR 45] gA := by
      intro hB
      refine b_X8_readStatement_166 (fun h => ?_) (fun _ => ?_)
      · rw [fup_self] at h
        exact absurd h (by decide)
      · obtain ⟨f1, f2, f3⟩ := RF15 gA 1
        rw [show fup (gA 45) 15 1 14 = (q : Int) by rw [fup_ne _ _ (by decide)]; exact qA]
        generalize cset gA 45 (fup (gA 45) 15 1) = gB at f1 f2 f3 ⊢
        obtain ⟨k1, k2, k3⟩ := RF14 gB (q : Int)
        refine b_X8_readStatement_186 (by rw [(wat q hq110).1]; exact dig (cset gB 45 (fup (gB 45) 14 (q : Int))) 3 3 1 1 rfl (by decide) (by decide) ((rA.rf f1).rf k1) (by rw [k2, k3, f2, ← qA]; exact hB) (by decide)) (fun x5 g5 h5 => ?_)
        obtain ⟨r5, e5, s5, d5⟩ := h5
        refine after g5 v4 x5 r5 ?_ s5 (fun hb => ?_)
        · rw [e5, k1.1 55 (by decide), f1.1 55 (by decide)]; exact hA55
        · rw [hb] at s5
          have := hB.back s5 (by decide)
          exact absurd this (by decide)
    have ok170 : gA 45 15 = 0 → (v4 = 43 ∨ v4 = 45) → EV e mX8_readStatement (qV (RP sg k p g)) 170 [vR 45, vI (k : Int), vI (sg p), vI ((3 * k : Nat) : Int), vI v4] [vR 45] gA := by
      intro hb hv
      rw [hb] at sA
      have hqa : q = p + 2 := by have := sA.good; omega
      have hsu : suF (sg (p + 2)) (sCh 3 2) := by
        rw [← hqa, ← h4]
        exact Or.inr (Or.inl ⟨rfl, hv⟩)
      obtain ⟨f1, f2, f3⟩ := RF15 gA 0
      refine b_X8_readStatement_170 (fun _ => ?_) (fun h => absurd (fup_self _ _ _) h)
      rw [show fup (gA 45) 15 0 14 = (q : Int) by rw [fup_ne _ _ (by decide)]; exact qA]
      generalize cset gA 45 (fup (gA 45) 15 0) = gB at f1 f2 f3 ⊢
      obtain ⟨k1, k2, k3⟩ := RF14 gB ((q + 1 : Nat) : Int)
      refine b_X8_readStatement_190 (by rw [(wat q hq110).2]; exact dig (cset gB 45 (fup (gB 45) 14 ((q + 1 : Nat) : Int))) 3 3 1 1 rfl (by decide) (by decide) ((rA.rf f1).rf k1) (by rw [k2, k3, f2, hqa]; exact sA.nx hsu) (by decide)) (fun x5 g5 h5 => ?_)
      obtain ⟨r5, e5, s5, d5⟩ := h5
      refine after g5 v4 x5 r5 ?_ s5 (fun hb5 => ⟨d5 hb5, by rw [h4, hqa], by rw [← hA45]; exact hb⟩)
      rw [e5, k1.1 55 (by decide), f1.1 55 (by decide)]; exact hA55
    refine b_X8_readStatement_142 (fun h => ?_) (fun h => ?_)
    · have hb : gA 45 15 = 1 := by
        rcases sA.b01 with z | z
        · exact absurd z h
        · exact z
      refine bad166 ?_
      rw [hb] at sA
      exact sA.on (by decide)
    · have hb : gA 45 15 = 0 := Classical.not_not.mp h
      refine b_X8_readStatement_152 (fun h43 => ok170 hb (Or.inl h43)) (fun h43 => ?_)
      refine b_X8_readStatement_159 (fun h45 => ok170 hb (Or.inr h45)) (fun h45 => ?_)
      refine bad166 ?_
      rw [hb] at sA
      have hqa : q = p + 2 := by have := sA.good; omega
      refine sA.bad ?_
      rw [← hqa, ← h4]
      intro hz
      have hz : suF v4 43 := hz
      unfold suF at hz
      omega
  have m1 : ∀ (gC : pG) (j c : Nat) (cI : Int), HJ sg p j → RK k p (sg p) g gC → SS sg p j 1 (gC 45 15) (gC 45 14) → cI = (c : Int) → 1 ≤ c ∧ c ≤ 3 → 1 + c + 1 = sLen j → (∀ u, u < c → sCh j (1 + u) = 48) → sCh j (1 + c) = 59 → (∀ f : tF, (f (3 * k) = dgv sg (p + 1) c) → TV sg p k f) → ∀ (x : Int) (gg : pG), (RK k p (sg p) g gg ∧ gg 55 = gC 55 ∧ SS sg p j (1 + c) (gg 45 15) (gg 45 14) ∧ (gg 45 15 = 0 → x = dgv sg (p + 1) c)) → EV e mX8_readStatement (qV (RP sg k p g)) 250 [vR 45, vI (k : Int), vI (sg p), vI ((3 * k : Nat) : Int), vX 2] [vI x, vI ((3 * k : Nat) : Int), vR 55] gg := by
    intro gC j c cI hj hR hS hcI hc hl h48 h59 htv x gg hx
    obtain ⟨r1, e1, s1, d1⟩ := hx
    obtain ⟨E1, E2⟩ := ends (cset gg 55 (fup (gg 55) (3 * k) x)) (k : Int) (sg p) ((3 * k : Nat) : Int) (vX 2) j (1 + c) hj hl (by omega) h59 (r1.s55 x (Nat.le_refl _)) (by rw [c45]; exact s1) (fun hb => by
      rw [c45] at hb
      refine htv _ ?_
      rw [cset_self, fup_self]
      exact d1 hb)
    refine b_X8_readStatement_250 n0.1 n0.2 (fun h => ?_) (fun h => ?_)
    · rw [Int.toNat_natCast]; exact E1 (by rw [c45]; exact h)
    · rw [Int.toNat_natCast]; exact E2 (by rw [c45]; exact h)
  have m121 : ∀ (gC : pG) (j : Nat), HJ sg p j → RK k p (sg p) g gC → SS sg p j 1 (gC 45 15) (gC 45 14) → sg p ≠ 99 → EV e mX8_readStatement (qV (RP sg k p g)) 121 [vR 45, vI (k : Int), vI (sg p), vI ((3 * k : Nat) : Int), vX 2] [] gC := by
    intro gC j hj hR hS ho
    refine b_X8_readStatement_121 (fun h1 => ?_) (fun h1 => m112 gC j hj hR hS (Classical.not_not.mp h1))
    refine b_X8_readStatement_224 (fun h2 => ?_) (fun h2 => ?_)
    · have hj1 := HJ_eq (m := 6) hj h2 rfl (by decide)
      subst hj1
      obtain ⟨E1, E2⟩ := ends gC (k : Int) (sg p) ((3 * k : Nat) : Int) (vX 2) 6 1 hj rfl (by decide) rfl hR hS (fun _ => ⟨fun h => absurd (h2.symm.trans h) (by decide), fun h => absurd (h2.symm.trans h) (by decide), fun h => absurd h2 (by rcases h with h | h <;> rw [h] <;> decide), fun h => absurd (h2.symm.trans h) (by decide)⟩)
      exact b_X8_readStatement_251 E1 E2
    · refine b_X8_readStatement_230 (fun h3 => ?_) (fun h3 => ?_)
      · have htv : ∀ f : tF, (f (3 * k) = dgv sg (p + 1) 1) → TV sg p k f := fun f hf => ⟨fun h => absurd h ho, fun h => absurd h h1, fun _ => hf, fun h => absurd h h3⟩
        have hj25 : j = 2 ∨ j = 5 := by
          rcases hj with ⟨a, b⟩ | ⟨a, b⟩
          · unfold shp at a b
            rw [if_neg ho, if_neg h1, if_neg h3, if_neg h2] at a b
            split at b
            · exact Or.inl b
            · split at b
              · exact Or.inr b
              · rename_i z1 z2
                rw [if_neg z1, if_neg z2] at a
                exact absurd a (by decide)
          · exact Or.inr b
        rcases hj25 with z | z
        · subst z
          exact b_X8_readStatement_246 (dig gC 2 1 1 1 rfl (by decide) (by decide) hR hS (by decide)) (m1 gC 2 1 1 hj hR hS rfl (by decide) rfl (by decide) rfl htv)
        · subst z
          exact b_X8_readStatement_246 (dig gC 5 1 1 1 rfl (by decide) (by decide) hR hS (by decide)) (m1 gC 5 1 1 hj hR hS rfl (by decide) rfl (by decide) rfl htv)
      · have h3 : sg p = 115 := Classical.not_not.mp h3
        have hj1 := HJ_eq (m := 4) hj h3 rfl (by decide)
        subst hj1
        have htv : ∀ f : tF, (f (3 * k) = dgv sg (p + 1) 3) → TV sg p k f := fun f hf => ⟨fun h => absurd h ho, fun h => absurd h h1, fun h => absurd h3 (by rcases h with h | h <;> rw [h] <;> decide), fun _ => hf⟩
        exact b_X8_readStatement_242 (dig gC 4 1 3 3 rfl (by decide) (by decide) hR hS (by decide)) (m1 gC 4 3 3 hj hR hS rfl (by decide) rfl (by decide) rfl htv)
  refine b_X8_readStatement_0 (m_here (d := e) (a := p) (by omega) (by omega) h14) (fun x g0 hx => ?_)
  obtain ⟨hx, hg0⟩ := hx
  rw [hg0]
  rw [hsg] at hx
  rw [h16, hx]
  have RA : RK k p (sg p) g (cset (cset g 53 (fup (g 53) k (p : Int))) 54 (fup (g 54) k (sg p))) := by
    refine ⟨fun c z1 z2 z3 z4 => by rw [cset_ne _ _ z3, cset_ne _ _ z2], fun s _ _ => by rw [cset_ne _ _ (by decide), cset_ne _ _ (by decide)], ⟨by rw [cset_ne _ _ (by decide), cset_self, fup_self], by rw [cset_self, fup_self], fun i hi => ⟨by rw [cset_ne _ _ (by decide), cset_self, fup_ne _ _ (by omega)], by rw [cset_self, fup_ne _ _ (by omega)]⟩⟩, fun i hi => by rw [cset_ne _ _ (by decide), cset_ne _ _ (by decide)]⟩
  have A45 : (cset (cset g 53 (fup (g 53) k (p : Int))) 54 (fup (g 54) k (sg p))) 45 = g 45 := by rw [cset_ne _ _ (by decide), cset_ne _ _ (by decide)]
  refine b_X8_readStatement_9 (by omega) (by omega) (fun h => absurd h15 h) (fun _ => ?_)
  rw [Int.toNat_natCast, h14, w3k hk]
  generalize cset (cset g 53 (fup (g 53) k (p : Int))) 54 (fup (g 54) k (sg p)) = gA at RA A45 ⊢
  have a14 : gA 45 14 = (p : Int) := by rw [A45]; exact h14
  have hp110 : p ≤ 110 := by omega
  refine b_X8_readStatement_39 (m_isLetter (d := e) (by omega)) (fun x2 g2 h2 => ?_)
  obtain ⟨h2, hg2⟩ := h2
  rw [hg2]
  refine b_X8_readStatement_43 (fun h => ?_) (fun h => ?_)
  · have hl : 1 ≤ shp (sg p) := by
      rcases bi_cases (1 ≤ shp (sg p)) with ⟨z, z2⟩ | ⟨z, z2⟩
      · exact z2
      · exact absurd (h2.trans z) h
    obtain ⟨f1, f2, f3⟩ := RF15 gA 0
    refine b_X8_readStatement_50 (fun _ => ?_) (fun h => absurd (fup_self _ _ _) h)
    rw [show fup (gA 45) 15 0 14 = (p : Int) by rw [fup_ne _ _ (by decide)]; exact a14]
    generalize cset gA 45 (fup (gA 45) 15 0) = gB at f1 f2 f3 ⊢
    obtain ⟨k1, k2, k3⟩ := RF14 gB ((p + 1 : Nat) : Int)
    have hS : SS sg p (shp (sg p)) 1 ((cset gB 45 (fup (gB 45) 14 ((p + 1 : Nat) : Int))) 45 15) ((cset gB 45 (fup (gB 45) 14 ((p + 1 : Nat) : Int))) 45 14) := by
      rw [k2, k3, f2]
      refine Or.inl ⟨rfl, rfl, fun u hu => ?_⟩
      rw [show u = 0 by omega, Nat.add_zero]
      exact su_shp hl
    refine b_X8_readStatement_70 (fun h9 => ?_) (fun h9 => ?_)
    · rw [(wat p hp110).2]; exact m121 _ _ (Or.inl ⟨hl, rfl⟩) ((RA.rf f1).rf k1) hS h9
    · rw [(wat p hp110).2]; exact m99 _ _ (Or.inl ⟨hl, rfl⟩) ((RA.rf f1).rf k1) hS (Classical.not_not.mp h9)
  · have hl : shp (sg p) = 0 := by
      rcases bi_cases (1 ≤ shp (sg p)) with ⟨z, z2⟩ | ⟨z, z2⟩
      · exact absurd (h2.trans z) (fun q => h (by rw [q]; decide))
      · omega
    refine b_X8_readStatement_46 (fun h => ?_) (fun _ => ?_)
    · rw [fup_self] at h
      exact absurd h (by decide)
    · obtain ⟨f1, f2, f3⟩ := RF15 gA 1
      rw [show fup (gA 45) 15 1 14 = (p : Int) by rw [fup_ne _ _ (by decide)]; exact a14]
      generalize cset gA 45 (fup (gA 45) 15 1) = gB at f1 f2 f3 ⊢
      obtain ⟨k1, k2, k3⟩ := RF14 gB (p : Int)
      have hS : SS sg p 5 1 ((cset gB 45 (fup (gB 45) 14 (p : Int))) 45 15) ((cset gB 45 (fup (gB 45) 14 (p : Int))) 45 14) := by
        rw [k2, k3, f2]
        refine Or.inr ⟨rfl, 0, by decide, rfl, fun u hu => absurd hu (Nat.not_lt_zero u), fun z => ?_⟩
        have := su_108 z
        rw [Nat.add_zero, hl] at this
        exact absurd this (by decide)
      refine b_X8_readStatement_66 (fun h9 => ?_) (fun h9 => ?_)
      · rw [(wat p hp110).1]; exact m121 _ _ (Or.inr ⟨hl, rfl⟩) ((RA.rf f1).rf k1) hS h9
      · rw [(wat p hp110).1]; exact m99 _ _ (Or.inr ⟨hl, rfl⟩) ((RA.rf f1).rf k1) hS (Classical.not_not.mp h9)
