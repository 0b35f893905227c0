theorem x_judge {d n : Nat} {g : pG} {K : tK} {r : tF} (hd : 8 ≤ d) (hK : KOK K) (hu : SU g 1 K) (hr : RX g n r) : CT d mX7_judge [vR 0] g (qI (fun x g' => x = ff (juQ K r) n ∧ xfr (xrow g) g')) := by
  refine ct_in (L := [vR 0, vX 2]) (by omega) (Nat.le_of_ble_eq_true rfl) rfl (fun e he => ?_)
  refine b_X7_judge_0 (s_notSo (by omega) hK hu hr) (fun x g1 hx => ?_)
  obtain ⟨rfl, hf1⟩ := hx
  exact b_X7_judge_4 ⟨_, rfl, rfl, hf1.row⟩
theorem m_judge {d n : Nat} {g : pG} {K : tK} {r : tF} (hd : 11 ≤ d) (hK : KOK K) (hu : SM g K) (hr : RWm g n r) : CT d mX8_judge [vR 45] g (qI (fun x g' => x = ff (juQ K r) n ∧ mfr (mrow g) g')) := by
  refine ct_in (L := [vR 45, vX 2, vX 2]) (by omega) (Nat.le_of_ble_eq_true rfl) rfl (fun e he => ?_)
  have h7 := hK.1
  have h16 := hr.2.1
  have he5 : 5 ≤ e := by omega
  have he1 : 1 ≤ e := Nat.le_trans (by decide) he5
  have m41 : fup (g 45) 8 0 41 = n := by rw [fup_ne _ _ (by decide)]; exact hr.1
  have huR : SM (mrow g) K := by
    obtain ⟨h1, h2, h3, h4, h5, h6⟩ := hu
    unfold mrow
    refine ⟨by rw [cset_self, fup_ne _ _ (by decide)]; exact h1, fun k hk => by rw [cset_ne _ _ (by decide), cset_ne _ _ (by decide), cset_ne _ _ (by decide)]; exact h2 k hk, by rw [cset_self, fup_ne _ _ (by decide)]; exact h3, fun k hk => by rw [cset_ne _ _ (by decide)]; exact h4 k hk, by rw [cset_self, fup_ne _ _ (by decide)]; exact h5, by rw [cset_self, fup_ne _ _ (by decide)]; exact h6⟩
  have h68 : ∀ i, i < n → mrow g 68 i = r i := fun i hi => by unfold mrow; rw [cset_ne _ _ (by decide)]; exact (hr.2.2 i hi).1
  refine b_X8_judge_0 (m_think he1 hK (huR.m (mclr g))) (fun g1 hx => ?_)
  obtain ⟨hp1, h81, hf1⟩ := hx
  have hD1 := (mclr g).tr hf1.m
  rw [m41]
  refine b_X8_judge_19 ?_
  refine loopN (P := fun k g' => mfr (mrow g) g' ∧ (k ≤ nC K → NW g' (nP K) (downF K k (ptC K))) ∧ ∀ j, j < k → ¬ juQ K r j) n (fun k g' => ∀ w : Int, w = k → EV e mX8_judge _ 21 [vR 45, vI n, vI w] [] g') ?_ ?_ 0 g1 (Nat.zero_le _) ⟨hD1, fun _ => hp1, fun j hj => absurd hj (Nat.not_lt_zero _)⟩ _ rfl
  · rintro k g2 hk ⟨hf2, hp2, hall⟩ ih w rfl
    have hu2 := huR.m hf2
    have hm := hu2.1
    have hv : g2 68 k = r k := by rw [hf2.1 68 (by omega)]; exact h68 k hk
    have k16 : (k : Int) < 16 := by omega
    refine b_X8_judge_21 (fun c => absurd c (by omega)) (fun c => ?_)
    refine b_X8_judge_26 (fun c => ?_) (fun c => ?_)
    · exact b_X8_judge_50 ⟨_, rfl, (ff_hit hall (Or.inl (by omega)) hk).symm, hf2⟩
    · have hkn : k ≤ nC K := by omega
      have hp2 := hp2 hkn
      have hsb := su_bd hK hkn
      refine b_X8_judge_34 (m_sumNow he1 hp2) (fun x g3 hx => ?_)
      obtain ⟨hx0, rfl⟩ := hx
      have hx0 : x = su K k := hx0
      subst hx0
      refine b_X8_judge_38 (Int.natCast_nonneg _) k16 (fun c2 => ?_) (fun c2 => ?_)
      · rw [Int.toNat_natCast, hv, w32_of (by omega) (by omega)] at c2
        have hno : ¬ juQ K r k := fun z => z.elim (fun y => by omega) (fun y => y c2.symm)
        refine b_X8_judge_52 (fun c3 => ?_) (fun c3 => ?_)
        · exact b_X8_judge_65 (ih _ ⟨hf2, fun z => absurd z (by omega), fun j hj => if h : j = k then h ▸ hno else hall j (by omega)⟩ _ (w32n k (by omega)))
        · refine b_X8_judge_60 (m_pass he5 hK hu2 hp2 (by omega)) (fun g4 hx => ?_)
          obtain ⟨hp4, hf4⟩ := hx
          exact b_X8_judge_65 (ih _ ⟨hf2.tr hf4.m51, fun _ => hp4, fun j hj => if h : j = k then h ▸ hno else hall j (by omega)⟩ _ (w32n k (by omega)))
      · rw [Int.toNat_natCast, hv, w32_of (by omega) (by omega)] at c2
        exact b_X8_judge_50 ⟨_, rfl, (ff_hit hall (Or.inr (fun z => c2 z.symm)) hk).symm, hf2⟩
  · rintro g2 ⟨hf2, hp2, hall⟩ w rfl
    refine b_X8_judge_21 (fun c => ?_) (fun c => absurd (Int.le_refl _) c)
    exact b_X8_judge_71 ⟨_, rfl, (ff_none hall).symm, hf2⟩
