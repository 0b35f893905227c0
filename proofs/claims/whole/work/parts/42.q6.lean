theorem PT.frm2 {g g' : pG} {t u N : Nat} {f : tF} (h : PT g t N f) (hf : fr2 g g' u) (h1 : t ≠ u ∧ t ≠ u + 1 ∧ t + 1 ≠ u) : PT g' t N f :=
  ⟨by rw [hf t h1.1 h1.2.1]; exact h.1, h.2.1, h.2.2.1, fun j hj => by rw [hf (t + 1) h1.2.2 (by omega)]; exact h.2.2.2.1 j hj, h.2.2.2.2⟩
theorem s_hearV {d t : Nat} {g : pG} {f : tF} {K : tK} {v : Int} (hd : 5 ≤ d) (ht : isPts t) (hK : KOK K) (hu : SU g 1 K) (hp : PT g t (nP K) f) (hv : 0 ≤ v ∧ v < nC K) : CT d mX5_hear [vR 1, vI v, vR t] g (qV (fun g' => PT g' t (nP K) (passF K v.toNat f) ∧ fr g g' (t + 1))) := by
  obtain ⟨n, rfl⟩ := Int.eq_ofNat_of_zero_le hv.1
  exact s_hear hd ht hK hu hp (by omega)
theorem m_passV {d : Nat} {g : pG} {f : tF} {K : tK} {v : Int} (hd : 5 ≤ d) (hK : KOK K) (hu : SM g K) (hp : NW g (nP K) f) (hv : 0 ≤ v ∧ v < nC K) : CT d mX8_pass [vR 45, vI v] g (qV (fun g' => NW g' (nP K) (passF K v.toNat f) ∧ fr g g' 51)) := by
  obtain ⟨n, rfl⟩ := Int.eq_ofNat_of_zero_le hv.1
  exact m_pass hd hK hu hp (by omega)
/-- commute -/
def rComm (K : tK) (a b : Int) : Int := if (0 ≤ a ∧ a < nC K) ∧ (0 ≤ b ∧ b < nC K) ∧ a ≠ b then 0 else -1
theorem rComm_cases (K : tK) (a b : Int) : (((0 ≤ a ∧ a < nC K) ∧ (0 ≤ b ∧ b < nC K) ∧ a ≠ b) ∧ rComm K a b = 0) ∨ (¬ ((0 ≤ a ∧ a < nC K) ∧ (0 ≤ b ∧ b < nC K) ∧ a ≠ b) ∧ rComm K a b = -1) := by
  unfold rComm; split
  · left; omega
  · right; omega
def aComm (K : tK) (a b : Nat) : Int := bi (∀ j, j < nP K → passF K b (passF K a (ptC K)) j = passF K a (passF K b (ptC K)) j)
theorem x_commute {d : Nat} {g : pG} {K : tK} {a b : Int} (hd : 8 ≤ d) (hK : KOK K) (hu : SU g 1 K) : CT d mX7_commute [vR 0, vI a, vI b] g (QX g (aR (rComm K a b) (aComm K a.toNat b.toNat)) (rComm K a b)) := by
  refine ct_in (L := [vR 0, vI a, vI b]) (by omega) (Nat.le_of_ble_eq_true rfl) rfl (fun e he => ?_)
  have h7 := hK.1
  have r1 := rComm_cases K a b
  have b1 := bi_cases (0 ≤ a ∧ a < nC K)
  have b2 := bi_cases (0 ≤ b ∧ b < nC K)
  refine b_X7_commute_0 (s_hasCourt (by omega) st_1 hu) (fun x0 _ hx => ?_)
  obtain ⟨rfl, rfl⟩ := hx
  refine b_X7_commute_8 (fun c8 => ?_) (fun c8 => ?_)
  · refine b_X7_commute_27 (s_refuse (by omega) ref1) (fun x2 _ hx => ?_)
    obtain ⟨rfl, rfl⟩ := hx
    refine b_X7_commute_32 ?_
    exact rx_no (by omega) (aR_n (by omega) (by omega))
  · refine b_X7_commute_11 (s_hasCourt (by omega) st_1 hu) (fun x2 _ hx => ?_)
    obtain ⟨rfl, rfl⟩ := hx
    refine b_X7_commute_19 (fun c19 => ?_) (fun c19 => ?_)
    · refine b_X7_commute_27 (s_refuse (by omega) ref1) (fun x4 _ hx => ?_)
      obtain ⟨rfl, rfl⟩ := hx
      refine b_X7_commute_32 ?_
      exact rx_no (by omega) (aR_n (by omega) (by omega))
    · refine b_X7_commute_22 (fun c22 => ?_) (fun c22 => ?_)
      · refine b_X7_commute_33 (s_think (by omega) scr27 hK hu) (fun g1 hx => ?_)
        obtain ⟨hp1, hf1⟩ := hx
        have hx1 := hf1.x scr27
        refine b_X7_commute_47 (s_think (by omega) scr29 hK (hu.x hx1)) (fun g2 hx => ?_)
        obtain ⟨hq2, hf2⟩ := hx
        have hx2 := hx1.tr (hf2.x scr29)
        have hp2 := hp1.frm2 hf2 (by decide)
        refine b_X7_commute_61 (s_hearV (by omega) pts_27 hK (hu.x hx2) hp2 (by omega)) (fun g3 hx => ?_)
        obtain ⟨hp3, hf3⟩ := hx
        have hx3 := hx2.tr (hf3.x scr27)
        have hq3 := hq2.frm hf3 (by decide) (by decide)
        refine b_X7_commute_73 (s_hearV (by omega) pts_27 hK (hu.x hx3) hp3 (by omega)) (fun g4 hx => ?_)
        obtain ⟨hp4, hf4⟩ := hx
        have hx4 := hx3.tr (hf4.x scr27)
        have hq4 := hq3.frm hf4 (by decide) (by decide)
        refine b_X7_commute_85 (s_hearV (by omega) pts_29 hK (hu.x hx4) hq4 (by omega)) (fun g5 hx => ?_)
        obtain ⟨hq5, hf5⟩ := hx
        have hx5 := hx4.tr (hf5.x scr29)
        have hp5 := hp4.frm hf5 (by decide) (by decide)
        refine b_X7_commute_97 (s_hearV (by omega) pts_29 hK (hu.x hx5) hq5 (by omega)) (fun g6 hx => ?_)
        obtain ⟨hq6, hf6⟩ := hx
        have hx6 := hx5.tr (hf6.x scr29)
        have hp6 := hp5.frm hf6 (by decide) (by decide)
        refine b_X7_commute_109 (s_isAs (by omega) pts_27 pts_29 hp6 hq6) (fun x11 _ hx => ?_)
        obtain ⟨rfl, rfl⟩ := hx
        refine b_X7_commute_120 (s_bit (by omega) (bi_01 _)) (fun x12 _ hx => ?_)
        obtain ⟨rfl, rfl⟩ := hx
        refine b_X7_commute_123 ?_
        exact rx_ok (by omega) (aR_0 (by omega) rfl) hx6
      · refine b_X7_commute_27 (s_refuse (by omega) ref1) (fun x5 _ hx => ?_)
        obtain ⟨rfl, rfl⟩ := hx
        refine b_X7_commute_32 ?_
        exact rx_no (by omega) (aR_n (by omega) (by omega))
theorem m_commute {d : Nat} {g : pG} {K : tK} {a b : Int} (hd : 11 ≤ d) (hK : KOK K) (hu : SM g K) : CT d mX8_commute [vR 45, vI a, vI b] g (QM g (aR (rComm K a b) (aComm K a.toNat b.toNat)) (rComm K a b)) := by
  refine ct_in (L := [vR 45, vI a, vI b, vX 2, vX 2]) (by omega) (Nat.le_of_ble_eq_true rfl) rfl (fun e he => ?_)
  have h7 := hK.1
  have h8 := hK.2.2.1
  have hu0 := hu.m (thr g)
  have r1 := rComm_cases K a b
  have b1 := bi_cases (0 ≤ a ∧ a < nC K)
  have b2 := bi_cases (0 ≤ b ∧ b < nC K)
  have loop : ∀ g1, (0 ≤ a ∧ a < nC K) → (0 ≤ b ∧ b < nC K) → rComm K a b = 0 → NW g1 (nP K) (passF K b.toNat (passF K a.toNat (ptC K))) → mfr g g1 → EV e mX8_commute (QM g (aR (rComm K a b) (aComm K a.toNat b.toNat)) (rComm K a b)) 48 [vR 45, vI a, vI b, vI 0, vX 2] [] g1 := by
    intro g1 ha hb hr0 hp1 hf1
    generalize hF : passF K b.toNat (passF K a.toNat (ptC K)) = F at hp1
    refine loopN (P := fun i g' => NW g' (nP K) F ∧ mfr g g' ∧ AL g' i F) (nP K) (fun i g' => ∀ (w3 : Int), w3 = i → EV e mX8_commute _ 48 [vR 45, vI a, vI b, vI w3, vX 2] [] g') ?_ ?_ 0 g1 (Nat.zero_le _) ⟨hp1, hf1, fun j hj => absurd hj (by omega)⟩ _ rfl
    · rintro i g3 hi ⟨hp3, hf3, ha3⟩ ih2 w4 rfl
      have hm3 := (hu.m hf3).2.2.1
      have hr := hp3.rd hi
      refine b_X8_commute_48 (fun c48 => ?_) (fun c48 => ?_)
      · exfalso
        omega
      · refine b_X8_commute_56 (by omega) (by omega) (by omega) ?_
        try simp (disch := omega) only [w32_of, Int.toNat_natCast, tn0, tn1, tn2]
        exact ih2 _ ⟨hp3.ne (by decide), hf3.tr (mset _ (by decide)), ha3.put hr⟩ _ (by omega)
    · rintro g3 ⟨hp3, hf3, ha3⟩ w4 rfl
      have hm3 := (hu.m hf3).2.2.1
      refine b_X8_commute_48 (fun c => ?_) (fun c => absurd (by omega) c)
      refine b_X8_commute_74 (m_think (by omega) hK (hu.m hf3)) (fun g4 hx => ?_)
      obtain ⟨hp4, h84, hf4⟩ := hx
      have ha4 : AL g4 (nP K) F := fun j hj => by rw [hf4.1 71 (by decide) (by decide)]; exact ha3 j hj
      have hD4 := hf3.tr hf4.m
      refine b_X8_commute_78 (m_passV (by omega) hK (hu.m hD4) hp4 hb) (fun g5 hx => ?_)
      obtain ⟨hp5, hf5⟩ := hx
      have ha5 := ha4.frm hf5
      have hD5 := hD4.tr hf5.m51
      refine b_X8_commute_83 (m_passV (by omega) hK (hu.m hD5) hp5 ha) (fun g6 hx => ?_)
      obtain ⟨hp6, hf6⟩ := hx
      have ha6 := ha5.frm hf6
      have hD6 := hD5.tr hf6.m51
      have hm6 := (hu.m hD6).2.2.1
      refine b_X8_commute_88 ?_
      generalize hH : passF K a.toNat (passF K b.toNat (ptC K)) = H at hp6
      refine loopN (P := fun _ g' => g' = g6) (nP K) (fun i g' => ∀ (v3 w4 : Int), (v3 = 1 ∧ pdif F H i ≤ 0) ∨ (v3 = 0 ∧ 0 < pdif F H i) → w4 = i → EV e mX8_commute _ 93 [vR 45, vI a, vI b, vI v3, vI w4] [] g') ?_ ?_ 0 g6 (Nat.zero_le _) rfl _ _ (Or.inl ⟨rfl, Int.le_refl _⟩) rfl
      · rintro i _ hi rfl ih2 v3 w4 hv3 rfl
        have hr := hp6.rd hi
        have hr2 := ha6 i hi
        have hb := pdif_bd F H i
        have hs : (F i = H i ∧ pdif F H (i + 1) = pdif F H i) ∨ (F i ≠ H i ∧ pdif F H (i + 1) = pdif F H i + 1) := by
          by_cases h : F i = H i
          · left; exact ⟨h, by show _ + (if _ then _ else _) = _; rw [if_pos h]; omega⟩
          · right; exact ⟨h, by show _ + (if _ then _ else _) = _; rw [if_neg h]⟩
        refine b_X8_commute_93 (fun c93 => ?_) (fun c93 => ?_)
        · exfalso
          omega
        · refine b_X8_commute_102 (fun c102 => ?_) (fun c102 => ?_)
          · refine b_X8_commute_127 ?_
            try simp (disch := omega) only [w32_of, Int.toNat_natCast, tn0, tn1, tn2]
            exact ih2 _ rfl _ _ (by omega) (by omega)
          · refine b_X8_commute_106 (by omega) (by omega) (by omega) (fun c106 => ?_) (fun c106 => ?_)
            · try simp (disch := omega) only [w32_of, Int.toNat_natCast, tn0, tn1, tn2] at c106 ⊢
              refine b_X8_commute_127 ?_
              try simp (disch := omega) only [w32_of, Int.toNat_natCast, tn0, tn1, tn2]
              exact ih2 _ rfl _ _ (by omega) (by omega)
            · try simp (disch := omega) only [w32_of, Int.toNat_natCast, tn0, tn1, tn2] at c106 ⊢
              refine b_X8_commute_123 ?_
              try simp (disch := omega) only [w32_of, Int.toNat_natCast, tn0, tn1, tn2]
              exact ih2 _ rfl _ _ (by omega) (by omega)
      · rintro _ rfl v3 w4 hv3 rfl
        have hz := pdif_0 (f := F) (f' := H) (nP K)
        have hA1 : pdif F H (nP K) ≤ 0 → aComm K a.toNat b.toNat = 1 := fun z => bi_pos (by rw [hF, hH]; exact hz.mp z)
        have hA0 : 0 < pdif F H (nP K) → aComm K a.toNat b.toNat = 0 := fun z => bi_neg (fun y => by rw [hF, hH] at y; have := hz.mpr y; omega)
        refine b_X8_commute_93 (fun c93 => ?_) (fun c93 => ?_)
        · refine b_X8_commute_135 (fun c135 => ?_) (fun c135 => ?_)
          · refine b_X8_commute_143 ?_
            exact rm_ok hr0 (aR_0 hr0 (hA0 (by omega))) hD6
          · refine b_X8_commute_139 ?_
            exact rm_ok hr0 (aR_0 hr0 (hA1 (by omega))) hD6
        · exfalso
          omega
  refine b_X8_commute_0 (m_isCourt (by omega) hK hu0) (fun x0 _ hx => ?_)
  obtain ⟨rfl, rfl⟩ := hx
  refine b_X8_commute_10 (fun c10 => ?_) (fun c10 => ?_)
  · refine b_X8_commute_26 (m_refuse (by omega) ref1) (fun x2 _ hx => ?_)
    obtain ⟨rfl, rfl⟩ := hx
    refine b_X8_commute_31 ?_
    exact rm_no (thr g) (by omega) (aR_n (by omega) (by omega))
  · refine b_X8_commute_13 (m_isCourt (by omega) hK hu0) (fun x2 _ hx => ?_)
    obtain ⟨rfl, rfl⟩ := hx
    refine b_X8_commute_18 (fun c18 => ?_) (fun c18 => ?_)
    · refine b_X8_commute_26 (m_refuse (by omega) ref1) (fun x4 _ hx => ?_)
      obtain ⟨rfl, rfl⟩ := hx
      refine b_X8_commute_31 ?_
      exact rm_no (thr g) (by omega) (aR_n (by omega) (by omega))
    · refine b_X8_commute_21 (fun c21 => ?_) (fun c21 => ?_)
      · refine b_X8_commute_32 (m_think (by omega) hK hu0) (fun g1 hx => ?_)
        obtain ⟨hp1, h81, hf1⟩ := hx
        have hD1 := (thr g).tr hf1.m
        refine b_X8_commute_36 (m_passV (by omega) hK (hu.m hD1) hp1 (by omega)) (fun g2 hx => ?_)
        obtain ⟨hp2, hf2⟩ := hx
        have hD2 := hD1.tr hf2.m51
        refine b_X8_commute_41 (m_passV (by omega) hK (hu.m hD2) hp2 (by omega)) (fun g3 hx => ?_)
        obtain ⟨hp3, hf3⟩ := hx
        refine b_X8_commute_46 ?_
        exact loop _ (by omega) (by omega) (by omega) hp3 (hD2.tr hf3.m51)
      · refine b_X8_commute_26 (m_refuse (by omega) ref1) (fun x5 _ hx => ?_)
        obtain ⟨rfl, rfl⟩ := hx
        refine b_X8_commute_31 ?_
        exact rm_no (thr g) (by omega) (aR_n (by omega) (by omega))
/-- bits for whom p holds -/
def bitsF (p : Nat → Prop) [DecidablePred p] : Nat → Int
  | 0 => 0
  | k + 1 => if p k then zor (bitsF p k) (zshl 1 k) else bitsF p k
theorem bitsF_1 {p : Nat → Prop} [DecidablePred p] {k : Nat} (h : p k) : bitsF p (k + 1) = zor (bitsF p k) (zshl 1 k) := if_pos h
theorem bitsF_0 {p : Nat → Prop} [DecidablePred p] {k : Nat} (h : ¬ p k) : bitsF p (k + 1) = bitsF p k := if_neg h
theorem zor_00 (x y : Int) : zor (zor x y) 0 = zor x y := by
  unfold zor
  rw [Int32.ofInt_toInt, show Int32.ofInt 0 = 0 from rfl, Int32.or_zero]
theorem bitsF_z (p : Nat → Prop) [DecidablePred p] : ∀ k, zor (bitsF p k) 0 = bitsF p k := by
  intro k
  induction k with
  | zero =>
    show zor 0 0 = 0
    unfold zor
    rw [show Int32.ofInt 0 = 0 from rfl, Int32.or_zero]
    rfl
  | succ k ih =>
    by_cases h : p k
    · rw [bitsF_1 h, zor_00]
    · rw [bitsF_0 h, ih]
/-- swing -/
abbrev swgQ (K : tK) (p : Nat) : Prop := bi (0 < psum (downF K (nC K) (fup (ptC K) p (-(ptC K p)))) (nP K)) ≠ bi (0 < sumAll K)
theorem x_swing {d : Nat} {g : pG} {K : tK} (hd : 8 ≤ d) (hK : KOK K) (hu : SU g 1 K) : CT d mX7_swing [vR 0] g (QX g (bitsF (swgQ K) (nP K)) 0) := by
  refine ct_in (L := [vR 0, vX 2, vX 2, vX 2]) (by omega) (Nat.le_of_ble_eq_true rfl) rfl (fun e he => ?_)
  have h7 := hK.1
  have h8 := hK.2.2.1
  refine b_X7_swing_0 (s_isForAll (by omega) hK hu) (fun x g1 hx => ?_)
  obtain ⟨rfl, hf1⟩ := hx
  refine b_X7_swing_4 ?_
  refine loopN (P := fun k g' => xfr g g') (nP K) (fun k g' => ∀ (v2 w : Int), v2 = bitsF (swgQ K) k → w = k → EV e mX7_swing _ 9 [vR 0, vI (bi (0 < sumAll K)), vI v2, vI w] [] g') ?_ ?_ 0 g1 (Nat.zero_le _) (hf1.x scr27) _ _ rfl rfl
  · rintro k g2 hk hf2 ih v2 w hv2 rfl
    have hu2 := hu.x hf2
    have hm : g2 5 1 = nP K := hu2.2.2.1
    have hb := hK.2.2.2.1 k (by omega)
    have en : w32 (-(ptC K k)) = -(ptC K k) := w32_of (by omega) (by omega)
    have eh : held (-(ptC K k)) = -(ptC K k) := held_id (by omega)
    refine b_X7_swing_9 (fun c9 => ?_) (fun c9 => ?_)
    · exfalso
      omega
    · refine b_X7_swing_23 (s_think (by omega) scr27 hK hu2) (fun g3 hx => ?_)
      obtain ⟨hp3, hf3⟩ := hx
      have hx3 := hf2.tr (hf3.x scr27)
      refine b_X7_swing_37 (s_number (by omega) pts_27 hp3 hk) (fun x2 _ hx => ?_)
      obtain ⟨rfl, rfl⟩ := hx
      refine b_X7_swing_50 (by try rw [en];;exact s_put (by omega) pts_27 hp3 hk) (fun g4 hx => ?_)
      obtain ⟨hp4, hf4⟩ := hx
      rw [eh] at hp4
      have hx4 := hx3.tr (hf4.x scr27)
      refine b_X7_swing_54 (by rw [(hu.x hx4).1]; exact s_goDown (by omega) scr27 hK (hu.x hx4) hp4 (Nat.le_refl _)) (fun g5 hx => ?_)
      obtain ⟨hp5, hf5⟩ := hx
      have hx5 := hx4.tr (hf5.x scr27)
      refine b_X7_swing_72 (s_isFor (by omega) pts_27 hp5) (fun x5 g6 hx => ?_)
      obtain ⟨hx, rfl⟩ := hx
      refine b_X7_swing_79 (fun c79 => ?_) (fun c79 => ?_)
      · refine b_X7_swing_89 ?_
        have h1 : ¬ swgQ K k := (fun z => z (hx.symm.trans c79))
        exact ih _ hx5 _ _ (by rw [bitsF_0 h1, hv2]) (by rw [w32_of (by omega) (by omega)]; omega)
      · refine b_X7_swing_83 ?_
        have h1 : swgQ K k := (fun z => c79 (hx.trans z))
        exact ih _ hx5 _ _ (by rw [bitsF_1 h1, hv2]) (by rw [w32_of (by omega) (by omega)]; omega)
  · rintro g2 hf2 v2 w hv2 rfl
    have hm : g2 5 1 = nP K := (hu.x hf2).2.2.1
    refine b_X7_swing_9 (fun c9 => ?_) (fun c9 => ?_)
    · refine b_X7_swing_95 ?_
      exact rx_ok rfl hv2.symm hf2
    · exfalso
      omega
theorem m_swing {d : Nat} {g : pG} {K : tK} (hd : 11 ≤ d) (hK : KOK K) (hu : SM g K) : CT d mX8_swing [vR 45] g (QM g (bitsF (swgQ K) (nP K)) 0) := by
  refine ct_in (L := [vR 45, vX 2, vX 2, vX 2]) (by omega) (Nat.le_of_ble_eq_true rfl) rfl (fun e he => ?_)
  have h7 := hK.1
  have h8 := hK.2.2.1
  have hu0 := hu.m (thr g)
  have loop : ∀ g1 (v1 : Int), v1 = bi (0 < sumAll K) → mfr g g1 → EV e mX8_swing (QM g (bitsF (swgQ K) (nP K)) 0) 22 [vR 45, vI v1, vI 0, vI 0] [] g1 := by
    intro g1 v1 hv1 hf1
    subst hv1
    refine loopN (P := fun k g' => mfr g g') (nP K) (fun k g' => ∀ (v2 w : Int), v2 = bitsF (swgQ K) k → w = k → EV e mX8_swing _ 22 [vR 45, vI (bi (0 < sumAll K)), vI v2, vI w] [] g') ?_ ?_ 0 g1 (Nat.zero_le _) hf1 _ _ rfl rfl
    · rintro k g2 hk hf2 ih v2 w hv2 rfl
      have hu2 := hu.m hf2
      have hm := hu2.2.2.1
      have hb := hK.2.2.2.1 k (by omega)
      have en : w32 (-(ptC K k)) = -(ptC K k) := w32_of (by omega) (by omega)
      refine b_X8_swing_22 (fun c => absurd c (by omega)) (fun c => ?_)
      refine b_X8_swing_30 (m_think (by omega) hK hu2) (fun g3 hx => ?_)
      obtain ⟨hp3, h83, hf3⟩ := hx
      have hp4 := hp3.put (s := k) (v := -(ptC K k)) (by omega)
      have hf4 := hf2.tr (hf3.m.tr (mset (g := g3) (c := 51) (fup (g3 51) k (-(ptC K k))) (Or.inl rfl)))
      have er := hp3.rd hk
      refine b_X8_swing_34 (by omega) (by omega) (by rw [Int.toNat_natCast, er, en]; exact m_passAll0 (by omega) hK (hu.m hf4) hp4) (fun g5 hx => ?_)
      obtain ⟨hp5, hf5⟩ := hx
      have hf5 := hf4.tr hf5.m51
      refine b_X8_swing_52 (m_isFor (by omega) hp5) (fun x g6 hx => ?_)
      obtain ⟨rfl, rfl⟩ := hx
      refine b_X8_swing_57 (fun c => ?_) (fun c => ?_)
      · have h1 : swgQ K k := c
        exact b_X8_swing_65 (ih _ hf5 _ _ (by rw [bitsF_1 h1, hv2]) (by rw [w32_of (by omega) (by omega)]; omega))
      · have h1 : ¬ swgQ K k := c
        exact b_X8_swing_61 (ih _ hf5 _ _ (by rw [bitsF_0 h1, hv2, bitsF_z]) (by rw [w32_of (by omega) (by omega)]; omega))
    · rintro g2 hf2 v2 w hv2 rfl
      have hm := (hu.m hf2).2.2.1
      refine b_X8_swing_22 (fun c22 => ?_) (fun c22 => ?_)
      · refine b_X8_swing_76 ?_
        exact rm_ok rfl hv2.symm hf2
      · exfalso
        omega
  refine b_X8_swing_0 (m_sumAll (by omega) hK hu0) (fun x g1 hx => ?_)
  obtain ⟨rfl, hf1⟩ := hx
  have hD := (thr g).tr hf1.m
  refine b_X8_swing_9 (fun c => ?_) (fun c => ?_)
  · exact b_X8_swing_16 (loop g1 0 (bi_neg (by omega)).symm hD)
  · exact b_X8_swing_12 (loop g1 1 (bi_pos (by omega)).symm hD)
