/-- where the model's case lies: cell and slot of its 33 numbers -/
def lcC (i : Nat) : Nat := if i < 4 then 45 else if i < 25 then 46 + (i - 4) % 3 else 49
def lcS (i : Nat) : Nat := if i < 4 then (if i = 0 then 0 else if i = 1 then 4 else if i = 2 then 6 else 7) else if i < 25 then (i - 4) / 3 else i - 25
def encG (g : pG) (i : Nat) : Int := g (lcC i) (lcS i)
theorem lc_inj : (List.range 33).all (fun i => (List.range 33).all (fun j => decide (lcC i = lcC j → lcS i = lcS j → i = j) && decide (45 ≤ lcC i ∧ lcC i ≤ 49 ∧ lcS i < 9 ∧ (lcC i = 45 → lcS i = 0 ∨ lcS i = 4 ∨ lcS i = 6 ∨ lcS i = 7)))) = true := by decide +kernel
theorem lc_at {i j : Nat} (hi : i < 33) (hj : j < 33) : (lcC i = lcC j → lcS i = lcS j → i = j) ∧ (45 ≤ lcC i ∧ lcC i ≤ 49 ∧ lcS i < 9 ∧ (lcC i = 45 → lcS i = 0 ∨ lcS i = 4 ∨ lcS i = 6 ∨ lcS i = 7)) := by
  have h := all_at (p := fun j => decide (lcC i = lcC j → lcS i = lcS j → i = j) && decide (45 ≤ lcC i ∧ lcC i ≤ 49 ∧ lcS i < 9 ∧ (lcC i = 45 → lcS i = 0 ∨ lcS i = 4 ∨ lcS i = 6 ∨ lcS i = 7))) (all_at (p := fun i => (List.range 33).all (fun j => decide (lcC i = lcC j → lcS i = lcS j → i = j) && decide (45 ≤ lcC i ∧ lcC i ≤ 49 ∧ lcS i < 9 ∧ (lcC i = 45 → lcS i = 0 ∨ lcS i = 4 ∨ lcS i = 6 ∨ lcS i = 7)))) lc_inj hi) hj
  rw [Bool.and_eq_true] at h
  exact ⟨of_decide_eq_true h.1, of_decide_eq_true h.2⟩
theorem enc_set {g : pG} {j : Nat} {v : Int} (hj : j < 33) : ∀ i, i < 33 → encG (cset g (lcC j) (fup (g (lcC j)) (lcS j) v)) i = if i = j then v else encG g i := by
  intro i hi
  unfold encG
  by_cases e : i = j
  · rw [if_pos e, e, cset_self, fup_self]
  · rw [if_neg e]
    by_cases ec : lcC i = lcC j
    · have es : lcS i ≠ lcS j := fun z => e ((lc_at hi hj).1 ec z)
      rw [ec, cset_self, fup_ne _ _ es]
    · rw [cset_ne _ _ ec]
theorem enc_o {g g' : pG} (h : ∀ a, 46 ≤ a → a ≤ 49 → g' a = g a) (h5 : ∀ s, (s = 0 ∨ s = 4 ∨ s = 6 ∨ s = 7) → g' 45 s = g 45 s) {i : Nat} (hi : i < 33) : encG g' i = encG g i := by
  obtain ⟨_, h1, h2, h3, h4⟩ := lc_at hi hi
  unfold encG
  by_cases e : lcC i = 45
  · rw [e]; exact h5 _ (h4 e)
  · rw [h _ (by omega) h2]
def SNP (f : Nat → Int) (K : tK) : Prop := f 0 = nC K ∧ f 1 = nP K ∧ f 2 = skC K ∧ f 3 = lnC K ∧ (∀ c, c < nC K → f (4 + 3 * c) = kdC K c ∧ f (5 + 3 * c) = fgC K c ∧ f (6 + 3 * c) = csC K c) ∧ ∀ k, k < 8 → f (25 + k) = ptC K k
theorem SNP.to {f f' : Nat → Int} {K : tK} (h : SNP f K) (hK : KOK K) (he : ∀ i, i < 33 → f' i = f i) : SNP f' K := by
  obtain ⟨h1, h2, h3, h4, h5, h6⟩ := h
  have h7 := hK.1
  refine ⟨by rw [he 0 (by decide)]; exact h1, by rw [he 1 (by decide)]; exact h2, by rw [he 2 (by decide)]; exact h3, by rw [he 3 (by decide)]; exact h4, fun c hc => ?_, fun k hk => by rw [he _ (by omega)]; exact h6 k hk⟩
  rw [he _ (by omega), he _ (by omega), he _ (by omega)]
  exact h5 c hc
theorem lc46 {c : Nat} (hc : c < 7) : (lcC (4 + 3 * c) = 46 ∧ lcS (4 + 3 * c) = c) ∧ (lcC (5 + 3 * c) = 47 ∧ lcS (5 + 3 * c) = c) ∧ (lcC (6 + 3 * c) = 48 ∧ lcS (6 + 3 * c) = c) := by
  rcases (show c = 0 ∨ c = 1 ∨ c = 2 ∨ c = 3 ∨ c = 4 ∨ c = 5 ∨ c = 6 by omega) with rfl | rfl | rfl | rfl | rfl | rfl | rfl <;> decide
theorem lc49 {k : Nat} (hk : k < 8) : lcC (25 + k) = 49 ∧ lcS (25 + k) = k := by
  rcases (show k = 0 ∨ k = 1 ∨ k = 2 ∨ k = 3 ∨ k = 4 ∨ k = 5 ∨ k = 6 ∨ k = 7 by omega) with rfl | rfl | rfl | rfl | rfl | rfl | rfl | rfl <;> decide
theorem SM_enc {g : pG} {K : tK} (hK : KOK K) : SM g K ↔ SNP (encG g) K := by
  have h7 := hK.1
  have e1 : ∀ c, c < 7 → encG g (4 + 3 * c) = g 46 c ∧ encG g (5 + 3 * c) = g 47 c ∧ encG g (6 + 3 * c) = g 48 c := fun c hc => by
    obtain ⟨⟨a, b⟩, ⟨a2, b2⟩, a3, b3⟩ := lc46 hc
    unfold encG
    rw [a, b, a2, b2, a3, b3]; exact ⟨rfl, rfl, rfl⟩
  have e2 : ∀ k, k < 8 → encG g (25 + k) = g 49 k := fun k hk => by
    obtain ⟨a, b⟩ := lc49 hk
    unfold encG
    rw [a, b]
  constructor
  · rintro ⟨h1, h2, h3, h4, h5, h6⟩
    refine ⟨h1, h3, h5, h6, fun c hc => ?_, fun k hk => by rw [e2 k hk]; exact h4 k hk⟩
    obtain ⟨a, b, c'⟩ := e1 c (by omega)
    rw [a, b, c']; exact h2 c hc
  · rintro ⟨h1, h2, h3, h4, h5, h6⟩
    refine ⟨h1, fun c hc => ?_, h2, fun k hk => by rw [← e2 k hk]; exact h6 k hk, h3, h4⟩
    obtain ⟨a, b, c'⟩ := e1 c (by omega)
    rw [← a, ← b, ← c']; exact h5 c hc
/-- what carrying may change -/
def frY (r : Nat) (g g' : pG) : Prop := (∀ a, (a < 45 ∨ 50 ≤ a) → a ≠ r → g' a = g a) ∧ ∀ s, (s ≠ 0 ∧ s ≠ 4 ∧ s ≠ 6 ∧ s ≠ 7 ∧ s ≠ 23 ∧ s ≠ 24 ∧ s ≠ 25) → g' 45 s = g 45 s
theorem frY.tr {r : Nat} {g g1 g2 : pG} (h1 : frY r g g1) (h2 : frY r g1 g2) : frY r g g2 := ⟨fun a ha hb => (h2.1 a ha hb).trans (h1.1 a ha hb), fun s hs => (h2.2 s hs).trans (h1.2 s hs)⟩
/-- j numbers carried; the field of the j-th set (b = j) or not yet (b + 1 = j) -/
def CY (r : Nat) (g : pG) (t : Int) (F : Nat → Int) (j b : Nat) (g1 : pG) : Prop := (g1 45 25 = ((r + 1 : Nat) : Int) ∧ g1 45 24 = t ∧ g1 45 23 = j) ∧ (∀ i, i < 33 → (i < j ∨ t = 0) → g1 r i = F i) ∧ (∀ i, i < 33 → encG g1 i = if i < b then F i else encG g i) ∧ frY r g g1
theorem CY.put {r : Nat} {g : pG} {t : Int} {F : Nat → Int} {j : Nat} {g1 : pG} (hr : 56 ≤ r) (hj : j < 33) (h : CY r g t F (j + 1) j g1) : CY r g t F (j + 1) (j + 1) (cset g1 (lcC j) (fup (g1 (lcC j)) (lcS j) (F j))) := by
  obtain ⟨⟨a1, a2, a3⟩, h2, h3, h4⟩ := h
  obtain ⟨_, c1, c2, c3, c4⟩ := lc_at hj hj
  have k45 : ∀ s, (s ≠ 0 ∧ s ≠ 4 ∧ s ≠ 6 ∧ s ≠ 7) → (cset g1 (lcC j) (fup (g1 (lcC j)) (lcS j) (F j))) 45 s = g1 45 s := by
    intro s hs
    by_cases e : 45 = lcC j
    · rw [← e, cset_self, fup_ne _ _ (by have := c4 e.symm; omega)]
    · rw [cset_ne _ _ e]
  refine ⟨⟨by rw [k45 25 (by decide)]; exact a1, by rw [k45 24 (by decide)]; exact a2, by rw [k45 23 (by decide)]; exact a3⟩, fun i hi hc => by rw [cset_ne _ _ (by omega)]; exact h2 i hi hc, fun i hi => ?_, fun a ha hb => by rw [cset_ne _ _ (by omega)]; exact h4.1 a ha hb, fun s hs => by rw [k45 s (by omega)]; exact h4.2 s hs⟩
  rw [enc_set hj i hi]
  by_cases e : i = j
  · rw [if_pos e, if_pos (by omega), e]
  · rw [if_neg e, h3 i hi]
    by_cases e2 : i < j
    · rw [if_pos e2, if_pos (by omega)]
    · rw [if_neg e2, if_neg (by omega)]
theorem w32m (k : Nat) (h : (k : Int) < 2147483647) : w32 (((k + 1 : Nat) : Int) - 1) = (k : Int) := by
  rw [w32_of (by omega) (by omega)]; omega
theorem m_carry {d r j : Nat} {g g1 : pG} {t v : Int} {F : Nat → Int} (hd : 1 ≤ d) (hr : LAY[r]? = some (20, [33])) (hr5 : 56 ≤ r) (ht : t = 0 ∨ t = 1) (hj : j < 33) (h : CY r g t F j j g1) (hv : v = encG g j) (hF : t = 1 → F j = encG g j) : CT d mX8_carry [vR 45, vI v] g1 (qI (fun x g2 => x = F j ∧ CY r g t F (j + 1) j g2)) := by
  refine ct_in (L := [vR 45, vI v]) (by omega) (Nat.le_of_ble_eq_true rfl) rfl (fun e he => ?_)
  obtain ⟨⟨a1, a2, a3⟩, h2, h3, h4⟩ := h
  have hrv : rv (((r + 1 : Nat) : Int)).toNat = vR r := by rw [Int.toNat_natCast]; rfl
  have j0 : (0 : Int) ≤ (j : Int) := Int.natCast_nonneg _
  have j33 : (j : Int) < 33 := Int.ofNat_lt.mpr hj
  have ew : w32 ((j : Int) + 1) = ((j + 1 : Nat) : Int) := w32n j (by omega)
  have ew2 : w32 (((j + 1 : Nat) : Int) - 1) = (j : Int) := w32m j (by clear ew; omega)
  have hne45 : r ≠ 45 := by omega
  refine b_X8_carry_0 (fun c => ?_) (fun c => ?_)
  · rw [a2] at c
    refine b_X8_carry_17 hr (by rw [fup_ne _ _ (by decide), a1]; exact hrv) (by rw [fup_self, a3, ew, ew2]; exact j0) (by rw [fup_self, a3, ew, ew2]; exact j33) ?_
    rw [fup_self, a3, ew, ew2, Int.toNat_natCast, cset_ne _ _ hne45]
    refine ⟨_, rfl, h2 j hj (Or.inr c), ⟨by rw [cset_self, fup_ne _ _ (by decide)]; exact a1, by rw [cset_self, fup_ne _ _ (by decide)]; exact a2, by rw [cset_self, fup_self]⟩, fun i hi hc => by rw [cset_ne _ _ hne45]; exact h2 i hi (Or.inr c), fun i hi => ?_, fun a ha hb => by rw [cset_ne _ _ (by omega)]; exact h4.1 a ha hb, fun s hs => by rw [cset_self, fup_ne _ _ (by omega)]; exact h4.2 s hs⟩
    rw [← h3 i hi]
    exact enc_o (fun a h1 h2 => cset_ne _ _ (by omega)) (fun s hs => by rw [cset_self, fup_ne _ _ (by omega)]) hi
  · rw [a2] at c
    have ht1 : t = 1 := by omega
    have e45 : ∀ f : tF, (cset g1 r f) 45 = g1 45 := fun f => cset_ne _ _ (by omega)
    refine b_X8_carry_7 hr (by rw [a1]; exact hrv) (by rw [a3]; exact j0) (by rw [a3]; exact j33) (by rw [e45, fup_ne _ _ (by decide), a1]; exact hrv) (by rw [e45, fup_self, a3, ew, ew2]; exact j0) (by rw [e45, fup_self, a3, ew, ew2]; exact j33) ?_
    rw [e45, fup_self, a3, ew, ew2, Int.toNat_natCast, cset_ne _ _ hne45, cset_self, fup_self]
    refine ⟨_, rfl, by rw [hv, hF ht1], ⟨by rw [cset_self, fup_ne _ _ (by decide)]; exact a1, by rw [cset_self, fup_ne _ _ (by decide)]; exact a2, by rw [cset_self, fup_self]⟩, fun i hi hc => ?_, fun i hi => ?_, fun a ha hb => by rw [cset_ne _ _ (by omega), cset_ne _ _ hb]; exact h4.1 a ha hb, fun s hs => by rw [cset_self, fup_ne _ _ (by omega)]; exact h4.2 s hs⟩
    · rw [cset_ne _ _ hne45, cset_self]
      by_cases e : i = j
      · rw [e, fup_self, hv, hF ht1]
      · rw [fup_ne _ _ e]; exact h2 i hi (Or.inl (by clear ew ew2; omega))
    · rw [← h3 i hi]
      exact enc_o (fun a h1 h2 => by rw [cset_ne _ _ (by omega), cset_ne _ _ (by omega)]) (fun s hs => by rw [cset_self, fup_ne _ _ (by omega)]) hi
theorem m_carryAll {d r : Nat} {g : pG} {t : Int} {F : Nat → Int} (hd : 2 ≤ d) (hr : LAY[r]? = some (20, [33])) (hr5 : 56 ≤ r) (ht : t = 0 ∨ t = 1) (hF1 : t = 1 → F = encG g) (hF0 : t = 0 → F = g r) : CT d mX8_carryAll [vR 45, vR r, vI t] g (qV (fun g' => (∀ i, i < 33 → g' r i = F i) ∧ (∀ i, i < 33 → encG g' i = F i) ∧ frY r g g')) := by
  refine ct_in (L := [vR 45, vR r, vI t, vX 2]) (by omega) (Nat.le_of_ble_eq_true rfl) rfl (fun e he => ?_)
  have he1 : 1 ≤ e := by omega
  have hFj : ∀ j, t = 1 → F j = encG g j := fun j h => by rw [hF1 h]
  have hne : r ≠ 45 := by omega
  have s0 : CY r g t F 0 0 (cset (cset (cset g 45 (fup (g 45) 25 ((r + 1 : Nat) : Int))) 45 (fup (fup (g 45) 25 ((r + 1 : Nat) : Int)) 24 t)) 45 (fup (fup (fup (g 45) 25 ((r + 1 : Nat) : Int)) 24 t) 23 0)) := by
    refine ⟨⟨?_, ?_, ?_⟩, fun i hi hc => ?_, fun i hi => ?_, fun a ha hb => ?_, fun s hs => ?_⟩
    · rw [cset_self, fup_ne _ _ (by decide), fup_ne _ _ (by decide), fup_self]
    · rw [cset_self, fup_ne _ _ (by decide), fup_self]
    · rw [cset_self, fup_self]; rfl
    · rw [cset_ne _ _ hne, cset_ne _ _ hne, cset_ne _ _ hne, hF0 (hc.resolve_left (Nat.not_lt_zero _))]
    · rw [if_neg (Nat.not_lt_zero _)]
      exact enc_o (fun a h1 h2 => by rw [cset_ne _ _ (by omega), cset_ne _ _ (by omega), cset_ne _ _ (by omega)]) (fun s hs => by rw [cset_self, fup_ne _ _ (by omega), fup_ne _ _ (by omega), fup_ne _ _ (by omega)]) hi
    · rw [cset_ne _ _ (by omega), cset_ne _ _ (by omega), cset_ne _ _ (by omega)]
    · rw [cset_self, fup_ne _ _ (by omega), fup_ne _ _ (by omega), fup_ne _ _ (by omega)]
  have ev : ∀ {j : Nat} {g1 : pG}, j < 33 → CY r g t F j j g1 → encG g1 j = encG g j := fun hj h => by rw [h.2.2.1 _ hj, if_neg (Nat.lt_irrefl _)]
  refine b_X8_carryAll_0 hr ht (m_carry (j := 0) he1 hr hr5 ht (by decide) s0 (ev (by decide) s0) (hFj 0)) (fun x g1 hx => ?_)
  obtain ⟨rfl, hy1⟩ := hx
  clear s0
  have s1 : CY r g t F 1 1 (cset g1 45 (fup (g1 45) 0 (F 0))) := hy1.put hr5 (by decide)
  refine b_X8_carryAll_24 hr (m_carry (j := 1) he1 hr hr5 ht (by decide) s1 (ev (by decide) s1) (hFj 1)) (fun x g2 hx => ?_)
  obtain ⟨rfl, hy2⟩ := hx
  have s2 : CY r g t F 2 2 (cset g2 45 (fup (g2 45) 4 (F 1))) := hy2.put hr5 (by decide)
  refine b_X8_carryAll_36 hr (m_carry (j := 2) he1 hr hr5 ht (by decide) s2 (ev (by decide) s2) (hFj 2)) (fun x g3 hx => ?_)
  obtain ⟨rfl, hy3⟩ := hx
  have s3 : CY r g t F 3 3 (cset g3 45 (fup (g3 45) 6 (F 2))) := hy3.put hr5 (by decide)
  refine b_X8_carryAll_48 hr (m_carry (j := 3) he1 hr hr5 ht (by decide) s3 (ev (by decide) s3) (hFj 3)) (fun x g4 hx => ?_)
  obtain ⟨rfl, hy4⟩ := hx
  have s4 : CY r g t F 4 4 (cset g4 45 (fup (g4 45) 7 (F 3))) := hy4.put hr5 (by decide)
  refine b_X8_carryAll_60 hr ?_
  clear hy1 hy2 hy3 hy4 s1 s2 s3
  refine loopN (P := fun c g' => CY r g t F (4 + 3 * c) (4 + 3 * c) g') 7 (fun c g' => ∀ q : Int, q = c → EV e mX8_carryAll _ 65 [vR 45, vR r, vI t, vI q] [] g') ?_ ?_ 0 _ (Nat.zero_le _) s4 _ rfl
  · rintro c g5 hc hy ih q rfl
    have c0 : (0 : Int) ≤ (c : Int) := Int.natCast_nonneg _
    have c7 : (c : Int) < 7 := Int.ofNat_lt.mpr hc
    obtain ⟨⟨l1, l2⟩, ⟨l3, l4⟩, l5, l6⟩ := lc46 hc
    have e1 := ev (show 4 + 3 * c < 33 by omega) hy
    have v1 : g5 46 c = encG g (4 + 3 * c) := by rw [← e1]; unfold encG; rw [l1, l2]
    refine b_X8_carryAll_65 hr (fun z => absurd c7 (Int.not_lt.mpr z)) (fun _ => ?_)
    refine b_X8_carryAll_71 hr c0 c7 (by rw [Int.toNat_natCast]; exact m_carry (j := 4 + 3 * c) he1 hr hr5 ht (by omega) hy v1 (hFj _)) (fun x g6 hx => ?_)
    obtain ⟨rfl, hy6⟩ := hx
    have t1 := hy6.put hr5 (by omega)
    rw [l1, l2, show 4 + 3 * c + 1 = 5 + 3 * c by omega] at t1
    have e2 := ev (show 5 + 3 * c < 33 by omega) t1
    have v2 : (cset g6 46 (fup (g6 46) c (F (4 + 3 * c)))) 47 c = encG g (5 + 3 * c) := by rw [← e2]; unfold encG; rw [l3, l4]
    rw [cset_ne _ _ (by decide)] at v2
    refine b_X8_carryAll_86 hr c0 c7 c0 c7 (by rw [Int.toNat_natCast]; exact m_carry (j := 5 + 3 * c) he1 hr hr5 ht (by omega) t1 v2 (hFj _)) (fun x g7 hx => ?_)
    obtain ⟨rfl, hy7⟩ := hx
    have t2 := hy7.put hr5 (by omega)
    rw [l3, l4, show 5 + 3 * c + 1 = 6 + 3 * c by omega] at t2
    have e3 := ev (show 6 + 3 * c < 33 by omega) t2
    have v3 : (cset g7 47 (fup (g7 47) c (F (5 + 3 * c)))) 48 c = encG g (6 + 3 * c) := by rw [← e3]; unfold encG; rw [l5, l6]
    rw [cset_ne _ _ (by decide)] at v3
    refine b_X8_carryAll_102 hr c0 c7 c0 c7 (by rw [Int.toNat_natCast]; exact m_carry (j := 6 + 3 * c) he1 hr hr5 ht (by omega) t2 v3 (hFj _)) (fun x g8 hx => ?_)
    obtain ⟨rfl, hy8⟩ := hx
    have t3 := hy8.put hr5 (by omega)
    rw [l5, l6, show 6 + 3 * c + 1 = 4 + 3 * (c + 1) by omega] at t3
    refine b_X8_carryAll_118 hr c0 c7 ?_
    rw [Int.toNat_natCast]
    exact ih _ t3 _ (w32n c (by omega))
  · rintro g5 hy q rfl
    refine b_X8_carryAll_65 hr (fun _ => ?_) (fun z => absurd (by decide) z)
    refine b_X8_carryAll_125 hr ?_
    refine loopN (P := fun k g' => CY r g t F (25 + k) (25 + k) g') 8 (fun k g' => ∀ q : Int, q = k → EV e mX8_carryAll _ 127 [vR 45, vR r, vI t, vI q] [] g') ?_ ?_ 0 _ (Nat.zero_le _) hy _ rfl
    · rintro k g6 hk hy6 ih q rfl
      have c0 : (0 : Int) ≤ (k : Int) := Int.natCast_nonneg _
      have c8 : (k : Int) < 8 := Int.ofNat_lt.mpr hk
      obtain ⟨l1, l2⟩ := lc49 hk
      have e1 := ev (show 25 + k < 33 by omega) hy6
      have v1 : g6 49 k = encG g (25 + k) := by rw [← e1]; unfold encG; rw [l1, l2]
      refine b_X8_carryAll_127 hr (fun z => absurd c8 (Int.not_lt.mpr z)) (fun _ => ?_)
      refine b_X8_carryAll_133 hr c0 c8 (by rw [Int.toNat_natCast]; exact m_carry (j := 25 + k) he1 hr hr5 ht (by omega) hy6 v1 (hFj _)) (fun x g7 hx => ?_)
      obtain ⟨rfl, hy7⟩ := hx
      have t1 := hy7.put hr5 (by omega)
      rw [l1, l2] at t1
      refine b_X8_carryAll_148 hr c0 c8 ?_
      rw [Int.toNat_natCast]
      exact ih _ t1 _ (w32n k (by omega))
    · rintro g6 hy6 q rfl
      refine b_X8_carryAll_127 hr (fun _ => ?_) (fun z => absurd (by decide) z)
      refine b_X8_carryAll_155 hr ⟨rfl, fun i hi => hy6.2.1 i hi (Or.inl hi), fun i hi => ?_, hy6.2.2.2⟩
      rw [hy6.2.2.1 i hi, if_pos hi]
theorem m_keep {d r : Nat} {g : pG} {K : tK} (hd : 2 ≤ d) (hr : LAY[r]? = some (20, [33])) (hr5 : 56 ≤ r) (hK : KOK K) (hu : SM g K) : CT d mX8_carryAll [vR 45, vR r, vI 1] g (qV (fun g' => SNP (g' r) K ∧ SM g' K ∧ frY r g g')) :=
  ct_mono (fun v gg hq => by
    obtain ⟨rfl, q1, q2, q3⟩ := hq
    have hs := (SM_enc hK).mp hu
    exact ⟨rfl, hs.to hK q1, (SM_enc hK).mpr (hs.to hK q2), q3⟩) (m_carryAll (F := encG g) hd hr hr5 (Or.inr rfl) (fun _ => rfl) (fun h => absurd h (by decide)))
theorem m_bring {d r : Nat} {g : pG} {K : tK} (hd : 2 ≤ d) (hr : LAY[r]? = some (20, [33])) (hr5 : 56 ≤ r) (hK : KOK K) (hs : SNP (g r) K) : CT d mX8_carryAll [vR 45, vR r, vI 0] g (qV (fun g' => SNP (g' r) K ∧ SM g' K ∧ frY r g g')) :=
  ct_mono (fun v gg hq => by
    obtain ⟨rfl, q1, q2, q3⟩ := hq
    exact ⟨rfl, hs.to hK q1, (SM_enc hK).mpr (hs.to hK q2), q3⟩) (m_carryAll (F := g r) hd hr hr5 (Or.inl rfl) (fun h => absurd h (by decide)) (fun _ => rfl))
