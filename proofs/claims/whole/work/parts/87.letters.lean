/-! the letters: what stands where, the STATEMENTS' chain, the first bad place -/
def sgn (f : Nat → Int) (n : Int) (i : Int) : Int := if i < 0 ∨ n ≤ i then -1 else f i.toNat
abbrev suF (c w : Int) : Prop := (w = 48 ∧ 48 ≤ c ∧ c ≤ 57) ∨ (w = 43 ∧ (c = 43 ∨ c = 45)) ∨ (w ≠ 48 ∧ w ≠ 43 ∧ c = w)
def okS (sg : Nat → Int) (p : Nat) : Prop := 1 ≤ shp (sg p) ∧ ∀ t, t < sLen (shp (sg p)) → suF (sg (p + t)) (sCh (shp (sg p)) t)
def ltP (sg : Nat → Int) : Nat → Nat
  | 0 => 0
  | k + 1 => ltP sg k + sLen (shp (sg (ltP sg k)))
def okTo (sg : Nat → Int) (k : Nat) : Prop := ∀ i, i < k → okS sg (ltP sg i)
def badAt (sg : Nat → Int) (p q : Nat) : Prop := (shp (sg p) = 0 ∧ q = p) ∨ (1 ≤ shp (sg p) ∧ ∃ t, t < sLen (shp (sg p)) ∧ q = p + t ∧ (∀ u, u < t → suF (sg (p + u)) (sCh (shp (sg p)) u)) ∧ ¬ suF (sg (p + t)) (sCh (shp (sg p)) t))
/-- the first bad place, or -1 -/
def FB (sg : Nat → Int) (n : Nat) (x : Int) : Prop := (x = -1 ∧ ∃ k, 1 ≤ k ∧ okTo sg k ∧ ltP sg k = n) ∨ (∃ k q : Nat, okTo sg k ∧ (k = 0 ∨ ltP sg k < n) ∧ badAt sg (ltP sg k) q ∧ x = (q : Int))
theorem sLen_pos : ∀ j, j < 7 → 1 ≤ j → 2 ≤ sLen j := by decide
theorem sLen_0 : sLen 0 = 0 := rfl
theorem shp_neg {o : Int} (h : o = -1) : shp o = 0 := by subst h; rfl
theorem sCh_ne : ∀ j, j < 7 → ∀ t, t < sLen j → sCh j t ≠ -1 ∧ 43 ≤ sCh j t := by decide
theorem not_su {j t : Nat} (hj : j < 7) (ht : t < sLen j) : ¬ suF (-1) (sCh j t) := by
  have h := sCh_ne j hj t ht
  unfold suF
  omega
theorem s_sign {d : Nat} {g : pG} {i : Int} (hn : g 19 1 ≤ 96) (hd : 1 ≤ d) : CT d mX2_sign [vR 19, vI i] g (qI fun x g' => x = sgn (g 20) (g 19 1) i ∧ g' = g) := by
  refine ct_in hd (Nat.le_of_ble_eq_true rfl) rfl (fun e he => ?_)
  have hbad : (i < 0 ∨ g 19 1 ≤ i) → EV e mX2_sign (qI fun x g' => x = sgn (g 20) (g 19 1) i ∧ g' = g) 21 [vR 19, vI i] [] g := by
    intro h
    exact b_X2_sign_21 ⟨-1, rfl, by unfold sgn; rw [if_pos h], rfl⟩
  refine b_X2_sign_0 (fun h => hbad (Or.inl h)) (fun h => ?_)
  refine b_X2_sign_4 (fun h2 => hbad (Or.inr h2)) (fun h2 => ?_)
  have h2' : ¬ g 19 1 ≤ i := h2
  exact b_X2_sign_12 (by omega) (by omega) ⟨_, rfl, by unfold sgn; rw [if_neg (by omega)], rfl⟩
theorem sgn_bd {f : Nat → Int} {n : Int} (hf : ∀ k : Nat, (k : Int) < n → 0 ≤ f k ∧ f k ≤ 255) (i : Int) : -1 ≤ sgn f n i ∧ sgn f n i ≤ 255 := by
  unfold sgn
  split
  · omega
  · have := hf i.toNat (by omega)
    omega
theorem s_digit {d : Nat} {g : pG} {i : Int} (hn : g 19 1 ≤ 96) (hf : ∀ k : Nat, (k : Int) < g 19 1 → 0 ≤ g 20 k ∧ g 20 k ≤ 255) (hd : 2 ≤ d) : CT d mX2_digit [vR 19, vI i] g (qI fun x g' => x = sgn (g 20) (g 19 1) i - 48 ∧ g' = g) := by
  refine ct_in (by omega) (Nat.le_of_ble_eq_true rfl) rfl (fun e he => ?_)
  refine b_X2_digit_0 (s_sign (d := e) hn (by omega)) ?_
  rintro x gg ⟨rfl, rfl⟩
  refine b_X2_digit_5 ⟨_, rfl, ?_, rfl⟩
  have := sgn_bd hf i
  rw [w32_of (by omega) (by omega)]
theorem s_suits {d : Nat} {g : pG} {c w : Int} (hd : 1 ≤ d) : CT d mX2_suits [vI c, vI w] g (qI fun x g' => x = bi (suF c w) ∧ g' = g) := by
  refine ct_in hd (Nat.le_of_ble_eq_true rfl) rfl (fun e he => ?_)
  have yes : suF c w → (qI fun x g' => x = bi (suF c w) ∧ g' = g) (some (vI 1)) g := fun h => ⟨1, rfl, (bi_pos h).symm, rfl⟩
  have no : ¬ suF c w → (qI fun x g' => x = bi (suF c w) ∧ g' = g) (some (vI 0)) g := fun h => ⟨0, rfl, (bi_neg h).symm, rfl⟩
  refine b_X2_suits_0 (fun h => ?_) (fun h => ?_)
  · refine b_X2_suits_24 (fun h1 => ?_) (fun h1 => ?_)
    · refine b_X2_suits_50 (fun h2 => ?_) (fun h2 => ?_)
      · exact b_X2_suits_59 (no (by unfold suF; omega))
      · exact b_X2_suits_55 (yes (by unfold suF; omega))
    · refine b_X2_suits_30 (fun h2 => b_X2_suits_42 (yes (by unfold suF; omega))) (fun h2 => ?_)
      refine b_X2_suits_36 (fun h3 => ?_) (fun h3 => ?_)
      · exact b_X2_suits_46 (no (by unfold suF; omega))
      · exact b_X2_suits_42 (yes (by unfold suF; omega))
  · refine b_X2_suits_6 (fun h1 => b_X2_suits_22 (no (by unfold suF; omega))) (fun h1 => ?_)
    refine b_X2_suits_12 (fun h2 => b_X2_suits_22 (no (by unfold suF; omega))) (fun h2 => ?_)
    exact b_X2_suits_18 (yes (by unfold suF; omega))
theorem s_beginsAt {d : Nat} {g : pG} {i : Int} (hi : 0 ≤ i) (hi2 : i ≤ 96) (hn : g 19 1 ≤ 96) (hd : 2 ≤ d) : CT d mX2_beginsAt [vR 19, vI i] g (qI fun x g' => x = bi (i = 0 ∨ sgn (g 20) (g 19 1) (i - 1) = 59) ∧ g' = g) := by
  refine ct_in (by omega) (Nat.le_of_ble_eq_true rfl) rfl (fun e he => ?_)
  refine b_X2_beginsAt_0 (fun h => ?_) (fun h => ?_)
  · exact b_X2_beginsAt_16 ⟨1, rfl, by rw [bi_pos (Or.inl h)], rfl⟩
  · refine b_X2_beginsAt_4 (s_sign (d := e) hn (by omega)) ?_
    rintro x gg ⟨rfl, rfl⟩
    have ew : w32 (i - 1) = i - 1 := w32_of (by omega) (by omega)
    rw [ew]
    refine b_X2_beginsAt_11 (fun h2 => ?_) (fun h2 => ?_)
    · exact b_X2_beginsAt_20 ⟨0, rfl, by rw [bi_neg (fun q => q.elim h h2)], rfl⟩
    · exact b_X2_beginsAt_16 ⟨1, rfl, by rw [bi_pos (Or.inr (Classical.not_not.mp h2))], rfl⟩
/-- on the way: a places are well told; the last k-th STATEMENT began at p, i of its letters are there -/
def FI (sg : Nat → Int) (n a j i : Nat) : Prop := ∃ k : Nat, okTo sg k ∧ a = ltP sg k + i ∧ (k = 0 ∨ ltP sg k < n) ∧ (∀ u, u < i → suF (sg (ltP sg k + u)) (sCh (shp (sg (ltP sg k))) u)) ∧ ((1 ≤ i ∧ j = shp (sg (ltP sg k)) ∧ 1 ≤ j ∧ i ≤ sLen j) ∨ (i = 0 ∧ j = 0 ∧ k = 0))
theorem okTo_succ {sg : Nat → Int} {k : Nat} (h : okTo sg k) (h2 : okS sg (ltP sg k)) : okTo sg (k + 1) := fun i hi => by
  rcases (show i < k ∨ i = k by omega) with q | q
  · exact h i q
  · rw [q]; exact h2
