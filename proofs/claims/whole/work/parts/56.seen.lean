/-- POINTS that have been: how many, which, when -/
def SN (g : pG) (m : Nat) (t w : tF) : Prop := g 39 2 = m ∧ m ≤ 201 ∧ ∀ i, i < m → g 40 i = t i ∧ g 41 i = w i
theorem SN.frm {g g' : pG} {m : Nat} {t w : tF} (h : SN g m t w) (hf : ∀ a, 39 ≤ a → a ≤ 41 → g' a = g a) : SN g' m t w := ⟨by rw [hf 39 (by decide) (by decide)]; exact h.1, h.2.1, fun i hi => by rw [hf 40 (by decide) (by decide), hf 41 (by decide) (by decide)]; exact h.2.2 i hi⟩
def frS (g g' : pG) : Prop := ∀ a, a ≠ 39 → a ≠ 40 → a ≠ 41 → g' a = g a
theorem frS.x {g g' : pG} (h : frS g g') : xfr g g' := fun a ha => h a (by omega) (by omega) (by omega)
theorem s_note {d m : Nat} {g : pG} {t w : tF} {l v : Int} (hd : 1 ≤ d) (hs : SN g m t w) (hm : m < 201) : CT d mX4_note [vR 39, vL l, vI v] g (qV (fun g' => SN g' (m + 1) (fup t m l) (fup w m v) ∧ frS g g')) := by
  refine ct_in (L := [vR 39, vL l, vX 2, vI v]) (by omega) (Nat.le_of_ble_eq_true rfl) rfl (fun e he => ?_)
  obtain ⟨h1, h2, h3⟩ := hs
  refine b_X4_note_0 (fun c => absurd c (by omega)) (fun c => ?_)
  refine b_X4_note_12 (by omega) (by omega) ?_
  rw [h1, Int.toNat_natCast, w32n m (by omega)]
  refine ⟨rfl, ⟨by rw [cset_self, fup_self], hm, fun i hi => ?_⟩, fun a ha hb hc => by rw [cset_ne _ _ ha, cset_ne _ _ hc, cset_ne _ _ hb]⟩
  rw [cset_ne _ _ (by decide), cset_ne _ _ (by decide), cset_self, cset_ne _ _ (by decide), cset_self]
  by_cases e : i = m
  · subst e; rw [fup_self, fup_self, fup_self, fup_self]; exact ⟨rfl, rfl⟩
  · rw [fup_ne _ _ e, fup_ne _ _ e, fup_ne _ _ e, fup_ne _ _ e]; exact h3 i (by omega)
theorem s_find {d m : Nat} {g : pG} {t w : tF} {l : Int} (hd : 1 ≤ d) (hs : SN g m t w) : CT d mX4_find [vR 39, vL l] g (qI (fun x g' => ((∃ k, k < m ∧ (∀ j, j < k → t j ≠ l) ∧ t k = l ∧ x = w k) ∨ ((∀ j, j < m → t j ≠ l) ∧ x = -1)) ∧ g' = g)) := by
  refine ct_in (L := [vR 39, vL l, vX 2, vX 2]) (by omega) (Nat.le_of_ble_eq_true rfl) rfl (fun e he => ?_)
  obtain ⟨h1, h2, h3⟩ := hs
  refine b_X4_find_0 ?_
  refine loopN (P := fun k g' => g' = g ∧ ∀ j, j < k → t j ≠ l) m (fun k g' => ∀ q : Int, q = k → EV e mX4_find _ 2 [vR 39, vL l, vX 2, vI q] [] g') ?_ ?_ 0 g (Nat.zero_le _) ⟨rfl, fun j hj => absurd hj (Nat.not_lt_zero _)⟩ _ rfl
  · rintro k g hk ⟨rfl, hall⟩ ih q rfl
    obtain ⟨e1, e2⟩ := h3 k hk
    have hlc := lcmp_cases (t k) l
    refine b_X4_find_2 (fun c => absurd c (by omega)) (fun c => ?_)
    refine b_X4_find_10 (by omega) (by omega) (fun c2 => ?_) (fun c2 => ?_)
    · rw [Int.toNat_natCast, e1] at c2
      exact b_X4_find_28 (ih _ ⟨rfl, fun j hj => if h : j = k then h ▸ (by omega) else hall j (by omega)⟩ _ (w32n k (by omega)))
    · rw [Int.toNat_natCast, e1] at c2
      refine b_X4_find_21 (by omega) (by omega) ?_
      rw [Int.toNat_natCast, e2]
      exact ⟨_, rfl, Or.inl ⟨k, hk, hall, by omega, rfl⟩, rfl⟩
  · rintro g ⟨rfl, hall⟩ q rfl
    refine b_X4_find_2 (fun c => ?_) (fun c => absurd (by omega) c)
    exact b_X4_find_34 ⟨_, rfl, Or.inr ⟨hall, rfl⟩, rfl⟩
