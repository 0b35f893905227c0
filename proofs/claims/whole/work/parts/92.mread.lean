/-! the reference's reader: here, isLetter, readDigits -/
abbrev sgM (g : pG) : Nat → Int := fun i => sgn (g 52) (g 45 13) (i : Int)
theorem sgM_lt {g : pG} {n i : Nat} (hn : g 45 13 = (n : Int)) (hi : i < n) : sgM g i = g 52 i := by
  show sgn (g 52) (g 45 13) (i : Int) = g 52 i
  unfold sgn
  rw [if_neg (by omega)]
  rfl
theorem sgM_ge {g : pG} {n i : Nat} (hn : g 45 13 = (n : Int)) (hi : n ≤ i) : sgM g i = -1 := by
  show sgn (g 52) (g 45 13) (i : Int) = -1
  unfold sgn
  rw [if_pos (by omega)]
def RF (g g' : pG) : Prop := (∀ c, c ≠ 45 → g' c = g c) ∧ ∀ s, s ≠ 14 → s ≠ 15 → g' 45 s = g 45 s
theorem RF.rf {g : pG} : RF g g := ⟨fun _ _ => rfl, fun _ _ _ => rfl⟩
theorem RF.tr {g g1 g2 : pG} (h1 : RF g g1) (h2 : RF g1 g2) : RF g g2 := ⟨fun c hc => (h2.1 c hc).trans (h1.1 c hc), fun s hs hs2 => (h2.2 s hs hs2).trans (h1.2 s hs hs2)⟩
theorem RF15 (g : pG) (b : Int) : RF g (cset g 45 (fup (g 45) 15 b)) ∧ (cset g 45 (fup (g 45) 15 b)) 45 15 = b ∧ (cset g 45 (fup (g 45) 15 b)) 45 14 = g 45 14 := ⟨⟨fun c hc => cset_ne _ _ hc, fun s _ hs2 => by rw [cset_self, fup_ne _ _ hs2]⟩, by rw [cset_self, fup_self], by rw [cset_self, fup_ne _ _ (by decide)]⟩
theorem RF14 (g : pG) (v : Int) : RF g (cset g 45 (fup (g 45) 14 v)) ∧ (cset g 45 (fup (g 45) 14 v)) 45 14 = v ∧ (cset g 45 (fup (g 45) 14 v)) 45 15 = g 45 15 := ⟨⟨fun c hc => cset_ne _ _ hc, fun s hs _ => by rw [cset_self, fup_ne _ _ hs]⟩, by rw [cset_self, fup_self], by rw [cset_self, fup_ne _ _ (by decide)]⟩
theorem sgM_frm {g g' : pG} (h : RF g g') : sgM g' = sgM g := by
  funext i
  show sgn (g' 52) (g' 45 13) (i : Int) = sgn (g 52) (g 45 13) (i : Int)
  rw [h.1 52 (by decide), h.2 13 (by decide) (by decide)]
/-- i letters of shape j from place p on were looked at -/
def SS (sg : Nat → Int) (p j i : Nat) (b a : Int) : Prop := (b = 0 ∧ a = ((p + i : Nat) : Int) ∧ ∀ u, u < i → suF (sg (p + u)) (sCh j u)) ∨ (b = 1 ∧ ∃ t, t < i ∧ a = ((p + t : Nat) : Int) ∧ (∀ u, u < t → suF (sg (p + u)) (sCh j u)) ∧ ¬ suF (sg (p + t)) (sCh j t))
theorem SS.good {sg : Nat → Int} {p j i : Nat} {a : Int} (h : SS sg p j i 0 a) : a = ((p + i : Nat) : Int) := by
  rcases h with ⟨-, h, -⟩ | ⟨h, -⟩
  · exact h
  · exact absurd h (by decide)
theorem SS.nx {sg : Nat → Int} {p j i : Nat} {a : Int} (h : SS sg p j i 0 a) (hs : suF (sg (p + i)) (sCh j i)) : SS sg p j (i + 1) 0 ((p + (i + 1) : Nat) : Int) := by
  rcases h with ⟨-, h, h2⟩ | ⟨h, -⟩
  · refine Or.inl ⟨rfl, rfl, fun u hu => ?_⟩
    rcases (show u < i ∨ u = i by omega) with q | q
    · exact h2 u q
    · rw [q]; exact hs
  · exact absurd h (by decide)
theorem SS.bad {sg : Nat → Int} {p j i : Nat} {a : Int} (h : SS sg p j i 0 a) (hs : ¬ suF (sg (p + i)) (sCh j i)) : SS sg p j (i + 1) 1 a := by
  rcases h with ⟨-, h, h2⟩ | ⟨h, -⟩
  · exact Or.inr ⟨rfl, i, by omega, h, h2, hs⟩
  · exact absurd h (by decide)
theorem SS.on {sg : Nat → Int} {p j i k : Nat} {a : Int} (h : SS sg p j i 1 a) (hk : i ≤ k) : SS sg p j k 1 a := by
  rcases h with ⟨h, -⟩ | ⟨-, t, h1, h2⟩
  · exact absurd h (by decide)
  · exact Or.inr ⟨rfl, t, by omega, h2⟩
theorem SS.b01 {sg : Nat → Int} {p j i : Nat} {b a : Int} (h : SS sg p j i b a) : b = 0 ∨ b = 1 := by
  rcases h with ⟨h, -⟩ | ⟨h, -⟩
  · exact Or.inl h
  · exact Or.inr h
theorem SS.a_bd {sg : Nat → Int} {p j i : Nat} {b a : Int} (h : SS sg p j i b a) : ∃ q : Nat, a = (q : Int) ∧ q ≤ p + i := by
  rcases h with ⟨-, h, -⟩ | ⟨-, t, h1, h2, -⟩
  · exact ⟨_, h, Nat.le_refl _⟩
  · exact ⟨_, h2, by omega⟩
theorem m_here {d a : Nat} {g : pG} (hd : 1 ≤ d) (hn : g 45 13 ≤ 96) (ha : g 45 14 = (a : Int)) : CT d mX8_here [vR 45] g (qI fun x g' => x = sgM g a ∧ g' = g) := by
  refine ct_in hd (Nat.le_of_ble_eq_true rfl) rfl (fun e he => ?_)
  have es : sgM g a = sgn (g 52) (g 45 13) (g 45 14) := by rw [ha]
  refine b_X8_here_0 (fun h => ?_) (fun h => ?_)
  · exact b_X8_here_23 ⟨-1, rfl, by rw [es]; unfold sgn; rw [if_pos (Or.inr h)], rfl⟩
  · have h : ¬ g 45 13 ≤ g 45 14 := h
    exact b_X8_here_11 (by show 0 ≤ g 45 14; omega) (by show g 45 14 < 96; omega) ⟨_, rfl, by rw [es]; unfold sgn; rw [if_neg (by omega)], rfl⟩
theorem m_isLetter {d : Nat} {g : pG} {v : Int} (hd : 1 ≤ d) : CT d mX8_isLetter [vI v] g (qI fun x g' => x = bi (1 ≤ shp v) ∧ g' = g) := by
  refine ct_in hd (Nat.le_of_ble_eq_true rfl) rfl (fun e he => ?_)
  have yes : 1 ≤ shp v → EV e mX8_isLetter (qI fun x g' => x = bi (1 ≤ shp v) ∧ g' = g) 36 [vI v] [] g := fun h => b_X8_isLetter_36 ⟨1, rfl, (bi_pos h).symm, rfl⟩
  refine b_X8_isLetter_0 (fun h1 => yes (by rw [h1]; decide)) (fun h1 => ?_)
  refine b_X8_isLetter_6 (fun h2 => yes (by rw [h2]; decide)) (fun h2 => ?_)
  refine b_X8_isLetter_12 (fun h3 => yes (by rw [h3]; decide)) (fun h3 => ?_)
  refine b_X8_isLetter_18 (fun h4 => yes (by rw [h4]; decide)) (fun h4 => ?_)
  refine b_X8_isLetter_24 (fun h5 => yes (by rw [h5]; decide)) (fun h5 => ?_)
  refine b_X8_isLetter_30 (fun h6 => ?_) (fun h6 => yes (by rw [Classical.not_not.mp h6]; decide))
  refine b_X8_isLetter_40 ⟨0, rfl, (bi_neg ?_).symm, rfl⟩
  unfold shp
  rw [if_neg h1, if_neg h2, if_neg h3, if_neg h4, if_neg h5, if_neg h6]
  decide
def dgv (sg : Nat → Int) (a : Nat) : Nat → Int
  | 0 => 0
  | u + 1 => 10 * dgv sg a u + (sg (a + u) - 48)
theorem w3d {v c : Int} (h : 0 ≤ v ∧ v ≤ 99) (hc : 48 ≤ c ∧ c ≤ 57) : w32 (w32 (w32 (10 * v) + c) - 48) = 10 * v + (c - 48) := by
  rw [w32_of (x := 10 * v) (by omega) (by omega), w32_of (x := 10 * v + c) (by omega) (by omega), w32_of (by omega) (by omega)]
  omega
theorem wat (k : Nat) (h : k ≤ 110) : w32 ((k : Int) + 0) = (k : Int) ∧ w32 ((k : Int) + 1) = ((k + 1 : Nat) : Int) := ⟨by rw [w32_of (by omega) (by omega)]; omega, by rw [w32_of (by omega) (by omega)]; omega⟩
theorem m_readDigits {d p j i c n : Nat} {cI : Int} {g : pG} (hd : 2 ≤ d) (hcI : cI = (c : Int)) (hn : g 45 13 = (n : Int)) (h96 : n ≤ 96) (hc : c ≤ 3) (hpi : p + i + c ≤ 104) (hch : ∀ u, u < c → sCh j (i + u) = 48) (hS : SS (sgM g) p j i (g 45 15) (g 45 14)) : CT d mX8_readDigits [vR 45, vI cI] g (qI fun x g' => RF g g' ∧ SS (sgM g) p j (i + c) (g' 45 15) (g' 45 14) ∧ (g' 45 15 = 0 → x = dgv (sgM g) (p + i) c)) := by
  refine ct_in (by omega) (Nat.le_of_ble_eq_true rfl) rfl (fun e he => ?_)
  rw [hcI]
  refine b_X8_readDigits_0 ?_
  have loop : ∀ (r u : Nat) (v : Int) (gu : pG), u + r = c → RF g gu → SS (sgM g) p j (i + u) (gu 45 15) (gu 45 14) → (gu 45 15 = 0 → v = dgv (sgM g) (p + i) u ∧ 0 ≤ v ∧ (u = 0 → v ≤ 0) ∧ (u = 1 → v ≤ 9) ∧ (u = 2 → v ≤ 99)) → EV e mX8_readDigits (qI fun x g' => RF g g' ∧ SS (sgM g) p j (i + c) (g' 45 15) (g' 45 14) ∧ (g' 45 15 = 0 → x = dgv (sgM g) (p + i) c)) 4 [vR 45, vI (c : Int), vI v, vI (u : Int)] [] gu := by
    intro r
    induction r with
    | zero =>
      intro u v gu hu hR hs hv
      have e0 : u = c := by omega
      subst e0
      refine b_X8_readDigits_4 (fun _ => ?_) (fun h => absurd (Int.le_refl _) h)
      exact b_X8_readDigits_98 ⟨_, rfl, hR, hs, fun h0 => (hv h0).1⟩
    | succ r ih =>
      intro u v gu hu hR hs hv
      have hsg := sgM_frm hR
      have hnu : gu 45 13 = (n : Int) := by rw [hR.2 13 (by decide) (by decide)]; exact hn
      obtain ⟨q, hq, hq2⟩ := hs.a_bd
      have hq104 : q ≤ 110 := by omega
      have hu104 : u ≤ 102 := by omega
      -- bad from here
      have badS : ∀ gB : pG, RF g gB → gB 45 15 = 1 → gB 45 14 = (q : Int) → SS (sgM g) p j (i + (u + 1)) 1 (q : Int) → EV e mX8_readDigits (qI fun x g' => RF g g' ∧ SS (sgM g) p j (i + c) (g' 45 15) (g' 45 14) ∧ (g' 45 15 = 0 → x = dgv (sgM g) (p + i) c)) 49 [vR 45, vI (c : Int), vI v, vI (u : Int)] [] gB := by
        intro gB hRB hb1 hb2 hsb
        refine b_X8_readDigits_49 (fun h => absurd (hb1.symm.trans h) (by decide)) (fun h => ?_)
        refine b_X8_readDigits_83 ?_
        rw [w32s (k := u) hu104]
        have hz : gB 45 14 = (q : Int) := hb2
        obtain ⟨f1, f2, f3⟩ := RF14 gB (w32 (gB 45 14 + 0))
        generalize cset gB 45 (fup (gB 45) 14 (w32 (gB 45 14 + 0))) = gC at f1 f2 f3 ⊢
        rw [hz, (wat q hq104).1] at f2
        rw [hb1] at f3
        refine ih (u + 1) 0 gC (by omega) (hRB.tr f1) ?_ (fun h => absurd (f3.symm.trans h) (by decide))
        rw [f2, f3]
        exact hsb
      have bad34 : SS (sgM g) p j (i + (u + 1)) 1 (q : Int) → EV e mX8_readDigits (qI fun x g' => RF g g' ∧ SS (sgM g) p j (i + c) (g' 45 15) (g' 45 14) ∧ (g' 45 15 = 0 → x = dgv (sgM g) (p + i) c)) 34 [vR 45, vI (c : Int), vI v, vI (u : Int)] [vR 45] gu := by
        intro hsb
        refine b_X8_readDigits_34 (fun h => ?_) (fun _ => ?_)
        · rw [fup_self] at h
          exact absurd h (by decide)
        · obtain ⟨f1, f2, f3⟩ := RF15 gu 1
          exact badS _ (hR.tr f1) f2 (f3.trans hq) hsb
      refine b_X8_readDigits_4 (fun h => absurd h (by omega)) (fun _ => ?_)
      refine b_X8_readDigits_9 (fun h => ?_) (fun h => ?_)
      · refine bad34 ?_
        have hb : gu 45 15 = 1 := by
          rcases hs.b01 with z | z
          · exact absurd z h
          · exact z
        rw [hb, hq] at hs
        exact hs.on (by omega)
      · have hb : gu 45 15 = 0 := Classical.not_not.mp h
        rw [hb] at hs
        have hqa : q = p + (i + u) := by have := hs.good; omega
        obtain ⟨hv1, hv2, hv3, hv4, hv5⟩ := hv hb
        have hc48 := hch u (by omega)
        refine b_X8_readDigits_17 (m_here (d := e) (by omega) (by rw [hnu]; omega) hq) (fun x g1 h1 => ?_)
        obtain ⟨h1, hg1⟩ := h1
        rw [hg1]
        rw [hsg] at h1
        refine b_X8_readDigits_21 (m_in (d := e) (by omega)) (fun x2 g2 h2 => ?_)
        obtain ⟨h2, hg2⟩ := h2
        rw [hg2]
        refine b_X8_readDigits_31 (fun h3 => ?_) (fun h3 => ?_)
        · have hdg : 48 ≤ x ∧ x ≤ 57 := by
            rcases bi_cases (48 ≤ x ∧ x ≤ 57) with ⟨z, z2⟩ | ⟨z, z2⟩
            · exact z2
            · exact absurd (h2.trans z) h3
          have hsu : suF (sgM g (p + (i + u))) (sCh j (i + u)) := by
            rw [← hqa, ← h1, hc48]
            exact Or.inl ⟨rfl, hdg⟩
          have hqn : q < n := by
            rcases Nat.lt_or_ge q n with z | z
            · exact z
            · rw [sgM_ge hn z] at h1
              omega
          obtain ⟨f1, f2, f3⟩ := RF15 gu 0
          refine b_X8_readDigits_38 (fun _ => ?_) (fun h => absurd (fup_self _ _ _) h)
          generalize cset gu 45 (fup (gu 45) 15 0) = gB at f1 f2 f3 ⊢
          have f3 : gB 45 14 = (q : Int) := f3.trans hq
          have e52 : (gB 52) ((gB 45) 14).toNat = x := by
            rw [f3, Int.toNat_natCast, f1.1 52 (by decide), hR.1 52 (by decide), h1, sgM_lt hn hqn]
          refine b_X8_readDigits_53 (by rw [f3]; omega) (by rw [f3]; omega) (fun _ => ?_) (fun h => absurd f2 h)
          rw [e52, w3d ⟨hv2, by omega⟩ hdg]
          refine b_X8_readDigits_87 ?_
          rw [w32s (k := u) hu104]
          obtain ⟨k1, k2, k3⟩ := RF14 gB (w32 (gB 45 14 + 1))
          generalize cset gB 45 (fup (gB 45) 14 (w32 (gB 45 14 + 1))) = gC at k1 k2 k3 ⊢
          rw [f3, (wat q hq104).2] at k2
          rw [f2] at k3
          have hsn := hs.nx hsu
          refine ih (u + 1) _ gC (by omega) ((hR.tr f1).tr k1) ?_ (fun _ => ⟨?_, by omega, by omega, by omega, by omega⟩)
          · rw [k2, k3, hqa]
            exact hsn
          · show 10 * v + (x - 48) = 10 * dgv (sgM g) (p + i) u + (sgM g (p + i + u) - 48)
            rw [hv1, h1, hqa, Nat.add_assoc]
        · refine bad34 ?_
          have hnd : ¬ (48 ≤ x ∧ x ≤ 57) := fun z => h3 (by rw [h2, bi_pos z]; decide)
          rw [hq] at hs
          refine hs.bad ?_
          rw [← hqa, ← h1, hc48]
          unfold suF
          omega
  exact loop c 0 0 g (by omega) RF.rf hS (fun _ => ⟨rfl, Int.le_refl _, fun _ => Int.le_refl _, fun h => absurd h (by decide), fun h => absurd h (by decide)⟩)
