/-! the reference's reader: a STATEMENT -/
def RK (k p : Nat) (o : Int) (g g' : pG) : Prop := (∀ c, c ≠ 45 → c ≠ 53 → c ≠ 54 → c ≠ 55 → g' c = g c) ∧ (∀ s, s ≠ 14 → s ≠ 15 → g' 45 s = g 45 s) ∧ (g' 53 k = (p : Int) ∧ g' 54 k = o ∧ ∀ i, i < k → g' 53 i = g 53 i ∧ g' 54 i = g 54 i) ∧ ∀ i, i < 3 * k → g' 55 i = g 55 i
theorem RK.rf {k p : Nat} {o : Int} {g g1 g2 : pG} (h : RK k p o g g1) (h2 : RF g1 g2) : RK k p o g g2 := by
  obtain ⟨a, b, c, e⟩ := h
  refine ⟨fun x h1 h3 h4 h5 => (h2.1 x h1).trans (a x h1 h3 h4 h5), fun s h1 h3 => (h2.2 s h1 h3).trans (b s h1 h3), ?_, fun i hi => by rw [h2.1 55 (by decide)]; exact e i hi⟩
  rw [h2.1 53 (by decide), h2.1 54 (by decide)]
  exact c
theorem RK.s55 {k p i : Nat} {o : Int} {g g1 : pG} (v : Int) (h : RK k p o g g1) (hi : 3 * k ≤ i) : RK k p o g (cset g1 55 (fup (g1 55) i v)) := by
  obtain ⟨a, b, c, e⟩ := h
  refine ⟨fun x h1 h3 h4 h5 => (cset_ne _ _ h5).trans (a x h1 h3 h4 h5), fun s h1 h3 => by rw [cset_ne _ _ (by decide)]; exact b s h1 h3, ?_, fun j hj => by rw [cset_self, fup_ne _ _ (by omega)]; exact e j hj⟩
  rw [cset_ne _ _ (by decide), cset_ne _ _ (by decide)]
  exact c
theorem RK.sg {k p : Nat} {o : Int} {g g' : pG} (h : RK k p o g g') : sgM g' = sgM g := by
  funext i
  show sgn (g' 52) (g' 45 13) (i : Int) = sgn (g 52) (g 45 13) (i : Int)
  rw [h.1 52 (by decide) (by decide) (by decide) (by decide), h.2.1 13 (by decide) (by decide)]
def TV (sg : Nat → Int) (p k : Nat) (f : Nat → Int) : Prop :=
  (sg p = 99 → f (3 * k) = dgv sg (p + 1) 1 ∧ f (3 * k + 1) = dgv sg (p + 2) 1 ∧ f (3 * k + 2) = dgv sg (p + 3) 2) ∧ (sg p = 112 → f (3 * k) = dgv sg (p + 1) 1 ∧ f (3 * k + 1) = (if sg (p + 2) = 45 then -(dgv sg (p + 3) 1) else dgv sg (p + 3) 1)) ∧ ((sg p = 110 ∨ sg p = 108) → f (3 * k) = dgv sg (p + 1) 1) ∧ (sg p = 115 → f (3 * k) = dgv sg (p + 1) 3)
def RP (sg : Nat → Int) (k p : Nat) (g g' : pG) : Prop :=
  (∀ c, c ≠ 45 → c ≠ 53 → c ≠ 54 → c ≠ 55 → g' c = g c) ∧ (∀ s, s ≠ 14 → s ≠ 15 → s ≠ 16 → g' 45 s = g 45 s) ∧ (g' 53 k = (p : Int) ∧ g' 54 k = sg p ∧ ∀ i, i < k → g' 53 i = g 53 i ∧ g' 54 i = g 54 i) ∧ (∀ i, i < 3 * k → g' 55 i = g 55 i) ∧ g' 45 16 = ((k + 1 : Nat) : Int) ∧
  ((g' 45 15 = 0 ∧ okS sg p ∧ g' 45 14 = ((p + sLen (shp (sg p)) : Nat) : Int) ∧ TV sg p k (g' 55)) ∨ (g' 45 15 = 1 ∧ ∃ q : Nat, badAt sg p q ∧ g' 45 14 = (q : Int)))
abbrev HJ (sg : Nat → Int) (p j : Nat) : Prop := (1 ≤ shp (sg p) ∧ j = shp (sg p)) ∨ (shp (sg p) = 0 ∧ j = 5)
theorem su_108 {c : Int} (h : suF c (sCh 5 0)) : shp c = 5 := by
  have h : suF c 108 := h
  have : c = 108 := by unfold suF at h; omega
  rw [this]; rfl
theorem SS.back {sg : Nat → Int} {p j i i2 : Nat} {b a a2 : Int} (h : SS sg p j i b a) (h2 : SS sg p j i2 0 a2) (hi : i ≤ i2) : b = 0 := by
  rcases h with ⟨h, -⟩ | ⟨-, t, h1, -, -, h3⟩
  · exact h
  · rcases h2 with ⟨-, -, h4⟩ | ⟨h4, -⟩
    · exact absurd (h4 t (by omega)) h3
    · exact absurd h4 (by decide)
theorem SS_end {sg : Nat → Int} {p j : Nat} {b a : Int} (hj : HJ sg p j) (h : SS sg p j (sLen j) b a) : (b = 0 ∧ okS sg p ∧ a = ((p + sLen (shp (sg p)) : Nat) : Int)) ∨ (b = 1 ∧ ∃ q : Nat, badAt sg p q ∧ a = (q : Int)) := by
  rcases hj with ⟨j1, j2⟩ | ⟨j1, j2⟩
  · subst j2
    rcases h with ⟨h1, h2, h3⟩ | ⟨h1, t, h2, h3, h4, h5⟩
    · exact Or.inl ⟨h1, ⟨j1, h3⟩, h2⟩
    · exact Or.inr ⟨h1, _, Or.inr ⟨j1, t, h2, rfl, h4, h5⟩, h3⟩
  · subst j2
    rcases h with ⟨h1, h2, h3⟩ | ⟨h1, t, h2, h3, h4, h5⟩
    · have := su_108 (h3 0 (by decide))
      rw [Nat.add_zero, j1] at this
      exact absurd this (by decide)
    · rcases Nat.eq_zero_or_pos t with z | z
      · subst z
        exact Or.inr ⟨h1, p, Or.inl ⟨j1, rfl⟩, h3⟩
      · have := su_108 (h4 0 z)
        rw [Nat.add_zero, j1] at this
        exact absurd this (by decide)
theorem w3k {k : Nat} (h : k ≤ 48) : w32 (3 * (k : Int)) = ((3 * k : Nat) : Int) := by rw [w32_of (by omega) (by omega)]; omega
theorem w3k1 {m : Nat} (h : m ≤ 150) : w32 ((m : Int) + 1) = ((m + 1 : Nat) : Int) ∧ w32 ((m : Int) + 2) = ((m + 2 : Nat) : Int) := ⟨by rw [w32_of (by omega) (by omega)]; omega, by rw [w32_of (by omega) (by omega)]; omega⟩
theorem m_readStatement {d p k n : Nat} {g : pG} (hd : 4 ≤ d) (hn : g 45 13 = (n : Int)) (h96 : n ≤ 96) (hp : p ≤ 96) (hk : k ≤ 48) (h14 : g 45 14 = (p : Int)) (h15 : g 45 15 = 0) (h16 : g 45 16 = (k : Int)) : CT d mX8_readStatement [vR 45] g (qV (RP (sgM g) k p g)) := by
  refine ct_in (by omega) (Nat.le_of_ble_eq_true rfl) rfl (fun e he => ?_)
  generalize hsg : sgM g = sg
  have hk9 : 3 * k ≤ 150 := by omega
  -- the end
  have fin1 : ∀ (gC : pG) (j : Nat), HJ sg p j → RK k p (sg p) g gC → SS sg p j (sLen j) (gC 45 15) (gC 45 14) → (gC 45 15 = 0 → TV sg p k (gC 55)) → qV (RP sg k p g) none (cset gC 45 (fup (gC 45) 16 (w32 (gC 45 16 + 1)))) := by
    intro gC j hj hR hS hT
    have e16 : gC 45 16 = (k : Int) := by rw [hR.2.1 16 (by decide) (by decide)]; exact h16
    have o : ∀ c, c ≠ 45 → (cset gC 45 (fup (gC 45) 16 (w32 (gC 45 16 + 1)))) c = gC c := fun c hc => cset_ne _ _ hc
    have o5 : ∀ s, s ≠ 16 → (cset gC 45 (fup (gC 45) 16 (w32 (gC 45 16 + 1)))) 45 s = gC 45 s := fun s hs => by rw [cset_self, fup_ne _ _ hs]
    have o6 : (cset gC 45 (fup (gC 45) 16 (w32 (gC 45 16 + 1)))) 45 16 = ((k + 1 : Nat) : Int) := by rw [cset_self, fup_self, e16]; exact w32s (by omega)
    generalize cset gC 45 (fup (gC 45) 16 (w32 (gC 45 16 + 1))) = gD at o o5 o6 ⊢
    refine ⟨rfl, fun c h1 h2 h3 h4 => (o c h1).trans (hR.1 c h1 h2 h3 h4), fun s h1 h2 h3 => (o5 s h3).trans (hR.2.1 s h1 h2), ?_, fun i hi => by rw [o 55 (by decide)]; exact hR.2.2.2 i hi, o6, ?_⟩
    · rw [o 53 (by decide), o 54 (by decide)]
      exact hR.2.2.1
    · rw [o5 15 (by decide), o5 14 (by decide), o 55 (by decide)]
      rcases SS_end hj hS with ⟨h1, h2, h3⟩ | ⟨h1, h2⟩
      · exact Or.inl ⟨h1, h2, h3, hT h1⟩
      · exact Or.inr ⟨h1, h2⟩
  have fin268 : ∀ (gu : pG) (v1 v2 v3 : Int) (u4 : pV) (j i : Nat), HJ sg p j → i + 1 = sLen j → i ≤ 5 → RK k p (sg p) g gu → SS sg p j (i + 1) 1 (gu 45 14) → EV e mX8_readStatement (qV (RP sg k p g)) 268 [vR 45, vI v1, vI v2, vI v3, u4] [vR 45] gu := by
    intro gu v1 v2 v3 u4 j i hj hi hi5 hR hS
    obtain ⟨q, hq, hq2⟩ := hS.a_bd
    have hq110 : q ≤ 110 := by omega
    refine b_X8_readStatement_268 (fun h => ?_) (fun _ => ?_)
    · rw [fup_self] at h
      exact absurd h (by decide)
    · obtain ⟨f1, f2, f3⟩ := RF15 gu 1
      rw [show fup (gu 45) 15 1 14 = (q : Int) by rw [fup_ne _ _ (by decide)]; exact hq]
      generalize cset gu 45 (fup (gu 45) 15 1) = gB at f1 f2 f3 ⊢
      refine b_X8_readStatement_288 ?_
      rw [(wat q hq110).1]
      obtain ⟨k1, k2, k3⟩ := RF14 gB (q : Int)
      show qV (RP sg k p g) none (cset (cset gB 45 (fup (gB 45) 14 (q : Int))) 45 (fup ((cset gB 45 (fup (gB 45) 14 (q : Int))) 45) 16 (w32 ((cset gB 45 (fup (gB 45) 14 (q : Int))) 45 16 + 1))))
      generalize cset gB 45 (fup (gB 45) 14 (q : Int)) = gC at k1 k2 k3 ⊢
      rw [f2] at k3
      refine fin1 gC j hj ((hR.rf f1).rf k1) ?_ (fun h => absurd (k3.symm.trans h) (by decide))
      rw [k2, k3, ← hi, ← hq]
      exact hS
  have fin259 : ∀ (gu : pG) (v1 v2 v3 : Int) (u4 : pV) (j i : Nat), HJ sg p j → i + 1 = sLen j → i ≤ 5 → sCh j i = 59 → RK k p (sg p) g gu → gu 45 15 = 0 → SS sg p j i 0 (gu 45 14) → TV sg p k (gu 55) → EV e mX8_readStatement (qV (RP sg k p g)) 259 [vR 45, vI v1, vI v2, vI v3, u4] [vR 45] gu := by
    intro gu v1 v2 v3 u4 j i hj hi hi5 hch hR hb hS hT
    have hq := hS.good
    have hq110 : p + i ≤ 110 := by omega
    have hnu : gu 45 13 = (n : Int) := by rw [hR.2.1 13 (by decide) (by decide)]; exact hn
    refine b_X8_readStatement_259 (m_here (d := e) (by omega) (by rw [hnu]; omega) hq) (fun x g1 h1 => ?_)
    obtain ⟨h1, hg1⟩ := h1
    rw [hg1]
    rw [hR.sg, hsg] at h1
    refine b_X8_readStatement_263 (fun h => ?_) (fun h => ?_)
    · have hsu : suF (sg (p + i)) (sCh j i) := by
        rw [← h1, hch, h]
        decide
      obtain ⟨f1, f2, f3⟩ := RF15 gu 0
      refine b_X8_readStatement_272 (fun _ => ?_) (fun h => absurd (fup_self _ _ _) h)
      rw [show fup (gu 45) 15 0 14 = ((p + i : Nat) : Int) by rw [fup_ne _ _ (by decide)]; exact hq]
      generalize cset gu 45 (fup (gu 45) 15 0) = gB at f1 f2 f3 ⊢
      refine b_X8_readStatement_292 ?_
      rw [(wat (p + i) hq110).2]
      obtain ⟨k1, k2, k3⟩ := RF14 gB ((p + i + 1 : Nat) : Int)
      show qV (RP sg k p g) none (cset (cset gB 45 (fup (gB 45) 14 ((p + i + 1 : Nat) : Int))) 45 (fup ((cset gB 45 (fup (gB 45) 14 ((p + i + 1 : Nat) : Int))) 45) 16 (w32 ((cset gB 45 (fup (gB 45) 14 ((p + i + 1 : Nat) : Int))) 45 16 + 1))))
      generalize cset gB 45 (fup (gB 45) 14 ((p + i + 1 : Nat) : Int)) = gC at k1 k2 k3 ⊢
      rw [f2] at k3
      refine fin1 gC j hj ((hR.rf f1).rf k1) ?_ (fun _ => ?_)
      · rw [k2, k3, ← hi]
        exact hS.nx hsu
      · rw [k1.1 55 (by decide), f1.1 55 (by decide)]
        exact hT
    · refine fin268 gu v1 v2 v3 u4 j i hj hi hi5 hR (hS.bad ?_)
      rw [← h1, hch]
      unfold suF
      omega
  have dig : ∀ (gu : pG) (j i c : Nat) (cI : Int), cI = (c : Int) → c ≤ 3 → i ≤ 5 → RK k p (sg p) g gu → SS sg p j i (gu 45 15) (gu 45 14) → (∀ u, u < c → sCh j (i + u) = 48) → CT e mX8_readDigits [vR 45, vI cI] gu (qI fun x g' => RK k p (sg p) g g' ∧ g' 55 = gu 55 ∧ SS sg p j (i + c) (g' 45 15) (g' 45 14) ∧ (g' 45 15 = 0 → x = dgv sg (p + i) c)) := by
    intro gu j i c cI hcI hc hi hR hS hch
    have hnu : gu 45 13 = (n : Int) := by rw [hR.2.1 13 (by decide) (by decide)]; exact hn
    have es : sgM gu = sg := hR.sg.trans hsg
    refine ct_mono (fun v gg hv => ?_) (m_readDigits (d := e) (p := p) (j := j) (i := i) (c := c) (by omega) hcI hnu h96 hc (by omega) hch (by rw [es]; exact hS))
    obtain ⟨x, hx, h1, h2, h3⟩ := hv
    rw [es] at h2 h3
    exact ⟨x, hx, hR.rf h1, h1.1 55 (by decide), h2, h3⟩
  have ends : ∀ (gu : pG) (v1 v2 v3 : Int) (u4 : pV) (j i : Nat), HJ sg p j → i + 1 = sLen j → i ≤ 5 → sCh j i = 59 → RK k p (sg p) g gu → SS sg p j i (gu 45 15) (gu 45 14) → (gu 45 15 = 0 → TV sg p k (gu 55)) → (gu 45 15 ≠ 0 → EV e mX8_readStatement (qV (RP sg k p g)) 268 [vR 45, vI v1, vI v2, vI v3, u4] [vR 45] gu) ∧ (¬ gu 45 15 ≠ 0 → EV e mX8_readStatement (qV (RP sg k p g)) 259 [vR 45, vI v1, vI v2, vI v3, u4] [vR 45] gu) := by
    intro gu v1 v2 v3 u4 j i hj hi hi5 hch hR hS hT
    refine ⟨fun h => ?_, fun h => ?_⟩
    · have hb : gu 45 15 = 1 := by
        rcases hS.b01 with z | z
        · exact absurd z h
        · exact z
      rw [hb] at hS
      exact fin268 gu v1 v2 v3 u4 j i hj hi hi5 hR (hS.on (by omega))
    · have hb : gu 45 15 = 0 := Classical.not_not.mp h
      rw [hb] at hS
      exact fin259 gu v1 v2 v3 u4 j i hj hi hi5 hch hR hb hS (hT hb)
  sorry
