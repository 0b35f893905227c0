/-- again -/
def agF (K : tK) (c : Nat) : Nat → tF
  | 0 => ptC K
  | k + 1 => passF K c (agF K c k)
theorem agF_Bd {K : tK} {c : Nat} (hK : KOK K) (hc : c < nC K) : ∀ k, Bd (nP K) (agF K c k) := by
  intro k
  induction k with
  | zero => exact hK.bd
  | succ k ih => exact Bd.pass hK hc ih
/-- the first time ahead when it was as at time k; -9 never -/
def agH (K : tK) (c k : Nat) : Int := ff (fun j => ∀ i, i < nP K → agF K c j i = agF K c k i) k
abbrev agQ (K : tK) (c k : Nat) : Prop := 0 ≤ agH K c (k + 1)
def agA (K : tK) (c : Nat) (w : Int) : Int := if lfind (agQ K c) 60 < 60 then sel w ((lfind (agQ K c) 60 : Int) + 1) ((lfind (agQ K c) 60 : Int) + 1 - agH K c (lfind (agQ K c) 60 + 1)) else -9
theorem SN.to {g : pG} {m : Nat} {t w t' w' : tF} (h : SN g m t w) (ht : ∀ i, i < m → t i = t' i) (hw : ∀ i, i < m → w i = w' i) : SN g m t' w' := ⟨h.1, h.2.1, fun i hi => by rw [← ht i hi, ← hw i hi]; exact h.2.2 i hi⟩
def agS (K : tK) (c : Nat) : tF := fun i => told (agF K c i) (nP K)
def idF : tF := fun i => (i : Int)
theorem fr2.sn {g g' : pG} {m : Nat} {t w : tF} (h : SN g m t w) (hf : fr2 g g' 27) : SN g' m t w := h.frm (fun a h1 h2 => hf a (by omega) (by omega))
theorem frS.pt {g g' : pG} {N : Nat} {f : tF} (h : PT g 27 N f) (hf : frS g g') : PT g' 27 N f := ⟨by rw [hf 27 (by decide) (by decide) (by decide)]; exact h.1, h.2.1, h.2.2.1, fun k hk => by rw [hf 28 (by decide) (by decide) (by decide)]; exact h.2.2.2.1 k hk, h.2.2.2.2⟩
theorem x_again {d : Nat} {g : pG} {K : tK} {c w : Int} (hd : 8 ≤ d) (hK : KOK K) (hu : SU g 1 K) : CT d mX7_again [vR 0, vI c, vI w] g (QX g (aR (rCw K c w) (agA K c.toNat w)) (rCw K c w)) := by
  refine ct_in (L := [vR 0, vI c, vI w, vX 2, vX 2]) (by omega) (Nat.le_of_ble_eq_true rfl) rfl (fun e he => ?_)
  have h7 := hK.1
  have r1 := rCw_cases K c w
  have r2 := rW_cases w 1
  have b1 := bi_cases (0 ≤ c ∧ c < nC K)
  have he5 : 6 ≤ e := by omega
  have he1 : 1 ≤ e := Nat.le_trans (by decide) he5
  have loop : ∀ g1, PT g1 27 (nP K) (ptC K) → xfr g g1 → SN g1 1 (agS K c.toNat) idF → rCw K c w = 0 → (0 ≤ c ∧ c < nC K) → EV e mX7_again (QX g (aR (rCw K c w) (agA K c.toNat w)) (rCw K c w)) 63 [vR 0, vI c, vI w, vI 1, vX 2] [] g1 := by
    intro g1 hp1 hf1 hs1 hr0 hc
    obtain ⟨n, rfl⟩ := Int.eq_ofNat_of_zero_le hc.1
    rw [Int.toNat_natCast] at *
    have hn : n < nC K := by omega
    clear r1 r2 b1 hc
    refine loopN (P := fun k g' => xfr g g' ∧ PT g' 27 (nP K) (agF K n k) ∧ SN g' (k + 1) (agS K n) idF ∧ ∀ j, j < k → ¬ agQ K n j) 60 (fun k g' => ∀ (q : Int) (u : pV), q = (k : Int) + 1 → EV e mX7_again _ 63 [vR 0, vI n, vI w, vI q, u] [] g') ?_ ?_ 0 g1 (Nat.zero_le _) ⟨hf1, hp1, hs1, fun j hj => absurd hj (Nat.not_lt_zero _)⟩ _ _ rfl
    · rintro k g2 hk ⟨hf2, hp2, hs2, hall⟩ ih q u rfl
      have hq60 : ¬ (60 : Int) < (k : Int) + 1 := by omega
      refine b_X7_again_63 (fun c => absurd c hq60) (fun c => ?_)
      refine b_X7_again_69 (s_hear (Nat.le_trans (by decide) he5) pts_27 hK (hu.x hf2) hp2 hn) (fun g3 hx => ?_)
      obtain ⟨hp3, hf3⟩ := hx
      have hx3 := hf2.tr (hf3.x scr27)
      have hs3 : SN g3 (k + 1) (agS K n) idF := fr2.sn hs2 hf3.to2
      have hT : CT e mX3_told [vR 27] g3 (qL (fun x g' => x = agS K n (k + 1) ∧ g' = g3)) := s_told he1 pts_27 hp3
      have hinj : ∀ j, agS K n j = agS K n (k + 1) ↔ ∀ i, i < nP K → agF K n j i = agF K n (k + 1) i := fun j => told_inj (nP K) (agF_Bd hK hn j) (agF_Bd hK hn (k + 1))
      refine b_X7_again_81 hT (fun x g4 hx => ?_)
      obtain ⟨rfl, rfl⟩ := hx
      refine b_X7_again_92 (s_find he1 hs3) (fun x g5 hx => ?_)
      obtain ⟨hx, rfl⟩ := hx
      refine b_X7_again_95 (fun c2 => ?_) (fun c2 => ?_)
      · have hno : ∀ j, j < k + 1 → agS K n j ≠ agS K n (k + 1) := by
          rcases hx with ⟨j, hj, h1, h2, h3⟩ | h
          · exact absurd (h3 ▸ c2) (Int.not_lt.mpr (Int.natCast_nonneg _))
          · exact h.1
        have hH : agH K n (k + 1) = -9 := ff_none (fun j hj z => hno j hj ((hinj j).mpr z))
        have hnq : ¬ agQ K n k := fun z => by have z : 0 ≤ agH K n (k + 1) := z; rw [hH] at z; exact absurd z (by decide)
        refine b_X7_again_115 hT (fun x g6 hx => ?_)
        obtain ⟨rfl, rfl⟩ := hx
        refine b_X7_again_126 (s_note he1 hs3 (by omega)) (fun g7 hx => ?_)
        obtain ⟨hs7, hf7⟩ := hx
        have hs7 : SN g7 (k + 1 + 1) (agS K n) idF := hs7.to (fun i hi => if h : i = k + 1 then by rw [h, fup_self] else by rw [fup_ne _ _ h]) (fun i hi => if h : i = k + 1 then by rw [h, fup_self]; rfl else by rw [fup_ne _ _ h])
        refine b_X7_again_130 (ih _ ⟨hx3.tr hf7.x, frS.pt hp3 hf7, hs7, fun j hj => if h : j = k then h ▸ hnq else hall j (by omega)⟩ _ _ ?_)
        rw [w32_of (by omega) (by omega)]
        omega
      · obtain ⟨j, hj, h1, h2, rfl⟩ : ∃ j, j < k + 1 ∧ (∀ i, i < j → agS K n i ≠ agS K n (k + 1)) ∧ agS K n j = agS K n (k + 1) ∧ x = idF j := by
          rcases hx with h | h
          · exact h
          · exact absurd (by rw [h.2]; decide) c2
        have hH : agH K n (k + 1) = j := ff_hit (fun i hi z => h1 i hi ((hinj i).mpr z)) ((hinj j).mp h2) hj
        have hq : agQ K n k := by show 0 ≤ agH K n (k + 1); rw [hH]; exact Int.natCast_nonneg _
        have hA : agA K n w = sel w ((k : Int) + 1) ((k : Int) + 1 - (j : Int)) := by
          unfold agA
          rw [lfind_hit hall hq 60 hk, if_pos hk, hH]
        refine b_X7_again_102 (fun c3 => ?_) (fun c3 => ?_)
        · refine b_X7_again_110 ?_
          have ei : idF j = (j : Int) := rfl
          rw [ei, w32_of (by omega) (by omega)]
          exact rx_ok hr0 (aR_0 hr0 (hA.trans (sel1 c3 rfl))) hx3
        · exact b_X7_again_106 (rx_ok hr0 (aR_0 hr0 (hA.trans (sel0 (Classical.not_not.mp c3) rfl))) hx3)
    · rintro g2 ⟨hf2, hp2, hs2, hall⟩ q u rfl
      refine b_X7_again_63 (fun c => ?_) (fun c => absurd (by decide) c)
      exact b_X7_again_136 (rx_ok hr0 (aR_0 hr0 (by unfold agA; rw [lfind_none 60 hall, if_neg (by decide)])) hf2)
  refine b_X7_again_0 (s_hasCourt (by omega) st_1 hu) (fun x0 g hx => ?_)
  obtain ⟨rfl, rfl⟩ := hx
  refine b_X7_again_8 (fun c8 => ?_) (fun c8 => ?_)
  · refine b_X7_again_17 (fun c17 => ?_) (fun c17 => ?_)
    · refine b_X7_again_26 (s_refuse (by omega) ref2) (fun x3 _ hx => ?_)
      obtain ⟨rfl, rfl⟩ := hx
      refine b_X7_again_32 ?_
      exact rx_no (by omega) (aR_n (by omega) (by omega))
    · refine b_X7_again_21 (fun c21 => ?_) (fun c21 => ?_)
      · refine b_X7_again_33 (s_goDownTo0 he5 hK hu) (fun g1 hx => ?_)
        obtain ⟨hp1, hf1⟩ := hx
        have hp2 : PT (cset g1 39 (fup (g1 39) 2 0)) 27 (nP K) (ptC K) := ⟨by rw [cset_ne _ _ (by decide)]; exact hp1.1, hp1.2.1, hp1.2.2.1, fun k hk => by rw [cset_ne _ _ (by decide)]; exact hp1.2.2.2.1 k hk, hp1.2.2.2.2⟩
        have hs0 : SN (cset g1 39 (fup (g1 39) 2 0)) 0 (agS K c.toNat) idF := ⟨by rw [cset_self, fup_self]; rfl, by decide, fun i hi => absurd hi (Nat.not_lt_zero _)⟩
        have hx0 : xfr g (cset g1 39 (fup (g1 39) 2 0)) := (hf1.x scr27).tr (fr_x (c := 39) (fr.set _) (by decide))
        refine b_X7_again_38 (s_told he1 pts_27 hp2) (fun x5 _ hx => ?_)
        obtain ⟨rfl, rfl⟩ := hx
        refine b_X7_again_57 (s_note (m := 0) he1 hs0 (by decide)) (fun g4 hx => ?_)
        obtain ⟨hs4, hf4⟩ := hx
        refine b_X7_again_61 ?_
        exact loop _ (frS.pt hp2 hf4) (hx0.tr hf4.x) (hs4.to (fun i hi => by obtain rfl : i = 0 := (by omega); rw [fup_self]; rfl) (fun i hi => by obtain rfl : i = 0 := (by omega); rw [fup_self]; rfl)) (by omega) (by omega)
      · refine b_X7_again_26 (s_refuse (by omega) ref2) (fun x4 _ hx => ?_)
        obtain ⟨rfl, rfl⟩ := hx
        refine b_X7_again_32 ?_
        exact rx_no (by omega) (aR_n (by omega) (by omega))
  · refine b_X7_again_11 (s_refuse (by omega) ref1) (fun x2 _ hx => ?_)
    obtain ⟨rfl, rfl⟩ := hx
    refine b_X7_again_16 ?_
    exact rx_no (by omega) (aR_n (by omega) (by omega))
