theorem m_fits {d n : Nat} {g : pG} {K : tK} {r : tF} {f : Int} (hd : 11 ≤ d) (hK : KOK K) (hu : SM g K) (hr : RWm g n r) : CT d mX8_fits [vR 45, vI f] g (QM g (aR (rFits (nP K) n r f) (bitsF (ftQ (nP K) r f) 6)) (rFits (nP K) n r f)) := by
  refine ct_in (L := [vR 45, vI f, vX 2, vX 2, vX 2, vX 2, vX 2]) (by omega) (Nat.le_of_ble_eq_true rfl) rfl (fun e he => ?_)
  have h8 := hK.2.2.1
  have h16 := hr.2.1
  have r1 := wrN_cases f 0 9
  have he5 : 5 ≤ e := by omega
  have he1 : 1 ≤ e := Nat.le_trans (by decide) he5
  have hu0 := hu.m (thr g)
  have hr0 := hr.m (thr g)
  have e2 : w32 (2 * (nP K : Int)) = ((2 * nP K : Nat) : Int) := by rw [w32_of (by omega) (by omega)]; omega
  have row : ∀ v2 : Int, ((wrN f 0 9 ≠ 0 ∧ v2 = wrN f 0 9) ∨ (wrN f 0 9 = 0 ∧ v2 = -3 ∧ n ≠ 2 * nP K) ∨ (wrN f 0 9 = 0 ∧ v2 = 0 ∧ n = 2 * nP K)) → EV e mX8_fits (QM g (aR (rFits (nP K) n r f) (bitsF (ftQ (nP K) r f) 6)) (rFits (nP K) n r f)) 35 [vR 45, vI f, vI v2, vI 0, vX 2, vX 2, vX 2] [] (cset g 45 (fup (g 45) 8 0)) := by
    intro v2 hv2
    clear e2
    refine loopN (P := fun k g' => mfr g g') n (fun k g' => ∀ (v2 w : Int), ((wrN f 0 9 ≠ 0 ∧ v2 = wrN f 0 9) ∨ (wrN f 0 9 = 0 ∧ v2 = -3 ∧ ¬ rowOK n r (2 * nP K)) ∨ (wrN f 0 9 = 0 ∧ v2 = 0 ∧ n = 2 * nP K ∧ ∀ j, j < k → r j ≤ 18)) → w = k → EV e mX8_fits _ 35 [vR 45, vI f, vI v2, vI w, vX 2, vX 2, vX 2] [] g') ?_ ?_ 0 _ (Nat.zero_le _) (thr g) _ _ (hv2.imp id (fun z => z.imp (fun y => ⟨y.1, y.2.1, fun q => y.2.2 q.1⟩) (fun y => ⟨y.1, y.2.1, y.2.2, fun j hj => absurd hj (Nat.not_lt_zero _)⟩))) rfl
    · rintro k g2 hk hf2 ih v2 w hv2 rfl
      have hr2 := hr.m hf2
      have hv := (hr2.2.2 k hk).1
      have k9 : (k : Int) < 2147483647 := by clear ih hv2; omega
      have k16 : (k : Int) < 16 := by clear ih hv2; omega
      have kl : ¬ (n : Int) ≤ (k : Int) := Int.not_le.mpr (Int.ofNat_lt.mpr hk)
      refine b_X8_fits_35 (fun c => absurd (by rw [hr2.1] at c; exact c) kl) (fun c => ?_)
      refine b_X8_fits_43 (fun c => ?_) (fun c => ?_)
      · refine b_X8_fits_63 (ih _ hf2 _ _ ?_ (w32n k k9))
        rcases hv2 with h | h | h
        · exact Or.inl h
        · exact Or.inr (Or.inl h)
        · exact absurd h.2.1 c
      · have h : wrN f 0 9 = 0 ∧ v2 = 0 ∧ n = 2 * nP K ∧ ∀ j, j < k → r j ≤ 18 := by
          rcases hv2 with h | h | h
          · exact absurd (Classical.not_not.mp c) (by rw [h.2]; exact h.1)
          · exact absurd (Classical.not_not.mp c) (by rw [h.2.1]; decide)
          · exact h
        refine b_X8_fits_47 (Int.natCast_nonneg _) k16 (fun c2 => ?_) (fun c2 => ?_)
        · rw [Int.toNat_natCast, hv] at c2
          exact b_X8_fits_63 (ih _ hf2 _ _ (Or.inr (Or.inr ⟨h.1, h.2.1, h.2.2.1, fun j hj => if q : j = k then q ▸ c2 else h.2.2.2 j (Nat.lt_of_le_of_ne (Nat.lt_succ_iff.mp hj) q)⟩)) (w32n k k9))
        · rw [Int.toNat_natCast, hv] at c2
          exact b_X8_fits_58 (ih _ hf2 _ _ (Or.inr (Or.inl ⟨h.1, rfl, fun z => c2 (z.2 k hk)⟩)) (w32n k k9))
    · rintro g2 hf2 v2 w hv2 rfl
      have hr2 := hr.m hf2
      refine b_X8_fits_35 (fun c => ?_) (fun c => absurd (by rw [hr2.1]; exact Int.le_refl _) c)
      clear c
      refine b_X8_fits_71 (fun c => ?_) (fun c => ?_)
      · have h : wrN f 0 9 = 0 ∧ v2 = 0 ∧ rowOK n r (2 * nP K) := by
          rcases hv2 with h | h | h
          · exfalso; obtain ⟨q1, q2⟩ := h; omega
          · exfalso; obtain ⟨q0, q1, q2⟩ := h; omega
          · exact ⟨h.1, h.2.1, h.2.2.1, h.2.2.2⟩
        obtain ⟨hw0, rfl, hok⟩ := h
        have hz : rFits (nP K) n r f = 0 := (rFits_0 hw0).trans (rRow_ok hok)
        have hf : 0 ≤ f ∧ f ≤ 9 := by clear hv2; omega
        have hn := hok.1
        clear hv2 r1
        refine b_X8_fits_81 ?_
        refine loopN (P := fun k g' => mfr g g') 6 (fun k g' => ∀ (v3 v4 : Int) (u5 u6 : pV), v3 = bitsF (ftQ (nP K) r f) k → v4 = k → EV e mX8_fits _ 86 [vR 45, vI f, vI 0, vI v3, vI v4, u5, u6] [] g') ?_ ?_ 0 g2 (Nat.zero_le _) hf2 _ _ _ _ rfl rfl
        · rintro k g3 hk hf3 ih v3 v4 u5 u6 hv3 rfl
          have k5 : 0 ≤ (k : Int) ∧ (k : Int) ≤ 5 := by clear ih; omega
          have k9 : (k : Int) < 2147483647 := by clear ih; omega
          refine b_X8_fits_86 (fun c => absurd c (by clear ih; omega)) (fun c => ?_)
          refine b_X8_fits_93 ?_
          have hf9 : mfr g3 (cset g3 45 (fup (g3 45) 11 (g3 45 4))) := ⟨fun a ha => by rw [cset_ne _ _ (by clear ih; omega)], fun j hj => by rw [cset_self, fup_ne _ _ (by clear ih; omega)]⟩
          refine loopN (P := fun i g' => mfr g g' ∧ g' 45 11 = nP K ∧ ∀ j, j < i → g' 51 j = r (2 * j) - 9) (nP K) (fun i g' => ∀ (w : Int), w = i → EV e mX8_fits _ 104 [vR 45, vI f, vI 0, vI v3, vI k, vI w, u6] [] g') ?_ ?_ 0 _ (Nat.zero_le _) ⟨hf3.tr hf9, by rw [cset_self, fup_self]; exact (hu.m hf3).2.2.1, fun j hj => absurd hj (Nat.not_lt_zero _)⟩ _ rfl
          · rintro i g4 hi ⟨hf4, hn4, he4⟩ ih2 w rfl
            have il : ¬ (nP K : Int) ≤ (i : Int) := Int.not_le.mpr (Int.ofNat_lt.mpr hi)
            have hin : 2 * i < n := by clear ih ih2 il; omega
            have hv := (hr.m hf4).2.2 _ hin
            have h18 := hok.2 _ hin
            have i8 : (i : Int) < 8 := by clear ih ih2 il; omega
            have i9 : (i : Int) < 2147483647 := by clear ih ih2 il; omega
            have j16 : ((2 * i : Nat) : Int) < 16 := by clear ih ih2 il; omega
            have e1 : w32 (2 * (i : Int)) = ((2 * i : Nat) : Int) := by rw [w32_of (by clear ih ih2 il; omega) (by clear ih ih2 il; omega)]; clear ih ih2 il; omega
            refine b_X8_fits_104 (fun c => absurd (by rw [(hu.m hf4).2.2.1] at c; exact c) il) (fun c => ?_)
            refine b_X8_fits_113 (by rw [e1]; exact Int.natCast_nonneg _) (by rw [e1]; exact j16) (Int.natCast_nonneg _) i8 ?_
            rw [e1, Int.toNat_natCast, Int.toNat_natCast, hv.1, w32_of (x := r (2 * i) - 9) (by clear e1 ih ih2 il; omega) (by clear e1 ih ih2 il; omega)]
            clear e1
            refine ih2 _ ⟨hf4.tr (mset _ (Or.inl rfl)), by rw [cset_ne _ _ (by decide)]; exact hn4, fun j hj => ?_⟩ _ (w32n i i9)
            rw [cset_self]
            by_cases ej : j = i
            · subst ej; rw [fup_self]
            · rw [fup_ne _ _ ej]; exact he4 j (Nat.lt_of_le_of_ne (Nat.lt_succ_iff.mp hj) ej)
          · rintro g4 ⟨hf4, hn4, he4⟩ w rfl
            have hp4 : NW g4 (nP K) (fun j => r (2 * j) - 9) := ⟨hn4, h8.1, h8.2, he4, fun j hj => by
              have hin : 2 * j < n := by clear ih; omega
              have h18 := hok.2 _ hin
              have h0 := (hr.2.2 _ hin).2.1
              exact (show -9 ≤ r (2 * j) - 9 ∧ r (2 * j) - 9 ≤ 9 from ⟨by clear ih; omega, by clear ih; omega⟩)⟩
            refine b_X8_fits_104 (fun c => ?_) (fun c => absurd (by rw [(hu.m hf4).2.2.1]; exact Int.le_refl _) c)
            refine b_X8_fits_138 (m_act (Nat.le_trans (by decide) he5) hp4 k5 hf) (fun g5 hx => ?_)
            obtain ⟨hp5, hf5⟩ := hx
            have hf5 := hf4.tr hf5.m51
            have hm5 := (hu.m hf5).2.2.1
            refine b_X8_fits_145 ?_
            generalize hA : actF (nP K) k f (fun i => r (2 * i) - 9) = A at hp5
            refine loopN (P := fun _ g' => g' = g5) (nP K) (fun i g' => ∀ (v5 v6 : Int), (v5 = 1 ∧ pdif A (fun j => r (2 * j + 1) - 9) i ≤ 0) ∨ (v5 = 0 ∧ 0 < pdif A (fun j => r (2 * j + 1) - 9) i) → v6 = i → EV e mX8_fits _ 151 [vR 45, vI f, vI 0, vI v3, vI k, vI v5, vI v6] [] g') ?_ ?_ 0 g5 (Nat.zero_le _) rfl _ _ (Or.inl ⟨rfl, Int.le_refl _⟩) rfl
            · rintro i g5 hi rfl ih2 v5 v6 hv5 rfl
              have il : ¬ (nP K : Int) ≤ (i : Int) := Int.not_le.mpr (Int.ofNat_lt.mpr hi)
              have hin : 2 * i + 1 < n := by clear ih ih2 il; omega
              have hv := (hr.m hf5).2.2 _ hin
              have h18 := hok.2 _ hin
              have i8 : (i : Int) < 8 := by clear ih ih2 il; omega
              have i9 : (i : Int) < 2147483647 := by clear ih ih2 il; omega
              have j16 : ((2 * i + 1 : Nat) : Int) < 16 := by clear ih ih2 il; omega
              have e1 : w32 (w32 (2 * (i : Int)) + 1) = ((2 * i + 1 : Nat) : Int) := by rw [w32_of (x := 2 * (i : Int)) (by clear ih ih2 il; omega) (by clear ih ih2 il; omega), w32_of (by clear ih ih2 il; omega) (by clear ih ih2 il; omega)]; clear ih ih2 il; omega
              have hra := hp5.rd hi
              have hb := pdif_bd A (fun j => r (2 * j + 1) - 9) i
              have hs := pdif_st A (fun j => r (2 * j + 1) - 9) i
              have hs : (A i = r (2 * i + 1) - 9 ∧ _ = _) ∨ (A i ≠ r (2 * i + 1) - 9 ∧ _ = _) := hs
              have ew : w32 (r (2 * i + 1) - 9) = r (2 * i + 1) - 9 := w32_of (by clear e1 ih ih2 il; omega) (by clear e1 ih ih2 il; omega)
              refine b_X8_fits_151 (fun c => absurd (by rw [hm5] at c; exact c) il) (fun c => ?_)
              refine b_X8_fits_160 (fun c => ?_) (fun c => ?_)
              · exact b_X8_fits_193 (ih2 _ rfl _ _ (by clear e1 ew ih ih2 il; omega) (w32n i i9))
              · refine b_X8_fits_165 (Int.natCast_nonneg _) i8 (by rw [e1]; exact Int.natCast_nonneg _) (by rw [e1]; exact j16) (fun c2 => ?_) (fun c2 => ?_)
                · rw [e1, Int.toNat_natCast, Int.toNat_natCast, hra, hv.1, ew] at c2
                  exact b_X8_fits_193 (ih2 _ rfl _ _ (by clear e1 ew ih ih2 il; omega) (w32n i i9))
                · rw [e1, Int.toNat_natCast, Int.toNat_natCast, hra, hv.1, ew] at c2
                  exact b_X8_fits_189 (ih2 _ rfl _ _ (by clear e1 ew ih ih2 il; omega) (w32n i i9))
            · rintro g5 rfl v5 v6 hv5 rfl
              have hz2 := pdif_0 (f := A) (f' := fun j => r (2 * j + 1) - 9) (nP K)
              have hq : ftQ (nP K) r f k ↔ pdif A (fun j => r (2 * j + 1) - 9) (nP K) ≤ 0 := by rw [hz2, ← hA]
              refine b_X8_fits_151 (fun c => ?_) (fun c => absurd (by rw [hm5]; exact Int.le_refl _) c)
              refine b_X8_fits_202 (fun c3 => ?_) (fun c3 => ?_)
              · have h1 : ¬ ftQ (nP K) r f k := fun z => by have := hq.mp z; clear ih; omega
                exact b_X8_fits_215 (ih _ hf5 _ _ _ _ (by rw [bitsF_0 h1, hv3, bitsF_z]) (w32n k k9))
              · have h1 : ftQ (nP K) r f k := hq.mpr (by clear ih; omega)
                exact b_X8_fits_208 (ih _ hf5 _ _ _ _ (by rw [bitsF_1 h1, hv3]) (w32n k k9))
        · rintro g3 hf3 v3 v4 u5 u6 hv3 rfl
          refine b_X8_fits_86 (fun c => ?_) (fun c => absurd (by decide) c)
          exact b_X8_fits_224 (rm_ok hz (aR_0 hz hv3.symm) hf3)
      · have h : rFits (nP K) n r f = v2 ∧ v2 ≠ 0 ∧ isRef v2 := by
          rcases hv2 with h | h | h
          · rw [h.2]; exact ⟨rFits_n h.1, h.1, refW h.1⟩
          · rw [h.2.1]; exact ⟨(rFits_0 h.1).trans (rRow_no h.2.2), by decide, ref3⟩
          · exact absurd (by rw [h.2.1]; decide) c
        refine b_X8_fits_75 (m_refuse he1 h.2.2) (fun x g3 hx => ?_)
        obtain ⟨rfl, rfl⟩ := hx
        exact b_X8_fits_80 (rm_no hf2 h.1 (aR_n h.1 h.2.1))
  refine b_X8_fits_0 (m_wrongNumber he1) (fun x g1 hx => ?_)
  obtain ⟨rfl, rfl⟩ := hx
  refine b_X8_fits_12 (fun c => ?_) (fun c => ?_)
  · exact b_X8_fits_33 (row _ (Or.inl ⟨c, rfl⟩))
  · have c := Classical.not_not.mp c
    refine b_X8_fits_17 (fun c2 => ?_) (fun c2 => ?_)
    · rw [hr0.1, hu0.2.2.1, e2] at c2
      rw [c]
      exact b_X8_fits_33 (row _ (Or.inr (Or.inr ⟨c, rfl, Int.ofNat_inj.mp c2⟩)))
    · rw [hr0.1, hu0.2.2.1, e2] at c2
      rw [c]
      exact b_X8_fits_30 (row _ (Or.inr (Or.inl ⟨c, rfl, fun z => c2 (by rw [z])⟩)))
