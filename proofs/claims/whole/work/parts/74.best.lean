theorem s_swap {d a b n : Nat} {g : pG} {p : tF} (hd : 1 ≤ d) (hn : n ≤ 5) (ha : a < n) (hb : b < n) (hp : ∀ i, i < n → g 43 i = p i) : CT d mX7_swapPlaces [vR 0, vI a, vI b] g (qV (fun g' => (∀ i, i < n → g' 43 i = swP p a b i) ∧ fr g g' 43)) := by
  refine ct_in (L := [vR 0, vI a, vI b, vX 2]) (by omega) (Nat.le_of_ble_eq_true rfl) rfl (fun e he => ?_)
  refine b_X7_swapPlaces_0 (by omega) (by omega) (by omega) (by omega) ?_
  rw [Int.toNat_natCast, Int.toNat_natCast]
  refine ⟨rfl, fun i hi => ?_, (fr.set _).tr (fr.set _)⟩
  rw [cset_self, hp a ha, hp b hb]
  unfold swP fup
  by_cases e1 : i = b
  · rw [if_pos e1, if_pos e1]
  · rw [if_neg e1, if_neg e1]
    by_cases e2 : i = a
    · rw [if_pos e2, if_pos e2]
    · rw [if_neg e2, if_neg e2]; exact hp i hi
theorem tnF_le (p : tF) : ∀ j, tnF p j ≤ j := by
  intro j
  induction j with
  | zero => exact Nat.le_refl _
  | succ j ih => unfold tnF; split <;> omega
theorem wiF_le (p : tF) (t : Nat) : ∀ w, wiF p t w ≤ w := by
  intro w
  induction w with
  | zero => exact Nat.le_refl _
  | succ w ih =>
    unfold wiF
    split
    · omega
    · split <;> omega
theorem w32p (k : Nat) (h : (k : Int) < 2147483647) : w32 (((k + 1 : Nat) : Int) + (-1)) = (k : Int) := by
  rw [w32_of (by omega) (by omega)]; omega
theorem s_next {d n : Nat} {g : pG} {p : tF} (hd : 2 ≤ d) (hn : n ≤ 5) (hp : ∀ i, i < n → g 43 i = p i) : CT d mX7_toNextOrder [vR 0, vI n] g (qI (fun x g' => ((x = 0 ∧ nxF n p = none) ∨ (x = 1 ∧ ∃ p', nxF n p = some p' ∧ ∀ i, i < n → g' 43 i = p' i)) ∧ fr g g' 43)) := by
  refine ct_in (L := [vR 0, vI n, vX 2, vX 2, vX 2, vX 2]) (by omega) (Nat.le_of_ble_eq_true rfl) rfl (fun e he => ?_)
  have he1 : 1 ≤ e := by omega
  have none0 : tnF p (n - 1) = 0 → ∀ v2 : Int, v2 < 0 → EV e mX7_toNextOrder (qI (fun x g' => ((x = 0 ∧ nxF n p = none) ∨ (x = 1 ∧ ∃ p', nxF n p = some p' ∧ ∀ i, i < n → g' 43 i = p' i)) ∧ fr g g' 43)) 31 [vR 0, vI n, vI v2, vX 2, vX 2, vX 2] [] g := by
    intro h v2 hv
    refine b_X7_toNextOrder_31 (fun c => absurd c (by omega)) (fun _ => b_X7_toNextOrder_35 ⟨_, rfl, Or.inl ⟨rfl, ?_⟩, fr.rf⟩)
    unfold nxF
    rw [if_pos h]
  have w2 : w32 ((n : Int) - 2) = (n : Int) - 2 := w32_of (by omega) (by omega)
  refine b_X7_toNextOrder_0 ?_
  rw [w2]
  clear w2
  by_cases hn1 : n ≤ 1
  · have h0 : tnF p (n - 1) = 0 := by rw [show n - 1 = 0 by omega]; rfl
    exact b_X7_toNextOrder_4 (fun _ => none0 h0 _ (by omega)) (fun c => absurd (by omega) c)
  · -- the loops
    have L1 : ∀ j, j ≤ n - 1 → ∀ v2 : Int, v2 = (j : Int) - 1 → EV e mX7_toNextOrder (qI (fun x g' => ((x = 0 ∧ nxF n p = none) ∨ (x = 1 ∧ ∃ p', nxF n p = some p' ∧ ∀ i, i < n → g' 43 i = p' i)) ∧ fr g g' 43)) 31 [vR 0, vI n, vI ((tnF p j : Nat) - 1 : Int), vX 2, vX 2, vX 2] [] g → EV e mX7_toNextOrder (qI (fun x g' => ((x = 0 ∧ nxF n p = none) ∨ (x = 1 ∧ ∃ p', nxF n p = some p' ∧ ∀ i, i < n → g' 43 i = p' i)) ∧ fr g g' 43)) 4 [vR 0, vI n, vI v2, vX 2, vX 2, vX 2] [] g := by
      intro j
      induction j with
      | zero =>
        intro _ v2 hv k
        rw [hv]
        exact b_X7_toNextOrder_4 (fun _ => k) (fun c => absurd (by omega) c)
      | succ j ih =>
        intro hj v2 hv k
        have hv2 : v2 = (j : Int) := by omega
        subst hv2
        have e1 := w32n j (by omega)
        refine b_X7_toNextOrder_4 (fun c => absurd c (by omega)) (fun _ => ?_)
        refine b_X7_toNextOrder_8 (by omega) (by omega) (by rw [e1]; omega) (by rw [e1]; omega) (fun c => ?_) (fun c => ?_)
        · rw [e1, Int.toNat_natCast, Int.toNat_natCast, hp j (by omega), hp (j + 1) (by omega)] at c
          have et : tnF p (j + 1) = j + 1 := if_pos c
          rw [et, show (((j + 1 : Nat) : Int) - 1) = (j : Int) by omega] at k
          exact k
        · rw [e1, Int.toNat_natCast, Int.toNat_natCast, hp j (by omega), hp (j + 1) (by omega)] at c
          have et : tnF p (j + 1) = tnF p j := if_neg c
          rw [et] at k
          refine b_X7_toNextOrder_25 (ih (by omega) _ ?_ k)
          rw [w32_of (by omega) (by omega)]; omega
    refine L1 (n - 1) (Nat.le_refl _) _ (by omega) ?_
    have htl := tnF_le p (n - 1)
    by_cases h0 : tnF p (n - 1) = 0
    · rw [h0]; exact none0 h0 _ (by omega)
    · obtain ⟨t, ht⟩ : ∃ t, tnF p (n - 1) = t + 1 := ⟨tnF p (n - 1) - 1, by omega⟩
      have hN : nxF n p = some (rvF n (swP p t (wiF p t (n - 1))) (t + 1) (n - 1)) := by
        unfold nxF
        rw [if_neg h0, ht, Nat.add_sub_cancel]
      rw [hN, ht, show (((t + 1 : Nat) : Int) - 1) = (t : Int) by omega]
      have htn : t + 1 < n := by omega
      clear none0 L1 h0 hN htl
      have L2 : ∀ w, w ≤ n - 1 → EV e mX7_toNextOrder (qI (fun x g' => ((x = 0 ∧ some (rvF n (swP p t (wiF p t (n - 1))) (t + 1) (n - 1)) = none) ∨ (x = 1 ∧ ∃ p', some (rvF n (swP p t (wiF p t (n - 1))) (t + 1) (n - 1)) = some p' ∧ ∀ i, i < n → g' 43 i = p' i)) ∧ fr g g' 43)) 67 [vR 0, vI n, vI t, vI (wiF p t w : Nat), vX 2, vX 2] [] g → EV e mX7_toNextOrder (qI (fun x g' => ((x = 0 ∧ some (rvF n (swP p t (wiF p t (n - 1))) (t + 1) (n - 1)) = none) ∨ (x = 1 ∧ ∃ p', some (rvF n (swP p t (wiF p t (n - 1))) (t + 1) (n - 1)) = some p' ∧ ∀ i, i < n → g' 43 i = p' i)) ∧ fr g g' 43)) 41 [vR 0, vI n, vI t, vI w, vX 2, vX 2] [] g := by
        intro w
        induction w with
        | zero => intro _ k; exact b_X7_toNextOrder_41 (fun _ => k) (fun c => absurd (by omega) c)
        | succ w ih =>
          intro hw k
          refine b_X7_toNextOrder_41 (fun c => ?_) (fun c => ?_)
          · have ew : wiF p t (w + 1) = w + 1 := if_pos (by omega)
            rw [ew] at k; exact k
          · refine b_X7_toNextOrder_46 (by omega) (by omega) (by omega) (by omega) (fun c2 => ?_) (fun c2 => ?_)
            · rw [Int.toNat_natCast, Int.toNat_natCast, hp t (by omega), hp (w + 1) (by omega)] at c2
              have ew : wiF p t (w + 1) = w + 1 := by unfold wiF; rw [if_neg (by omega), if_pos c2]
              rw [ew] at k; exact k
            · rw [Int.toNat_natCast, Int.toNat_natCast, hp t (by omega), hp (w + 1) (by omega)] at c2
              have ew : wiF p t (w + 1) = wiF p t w := by show (if _ then _ else _) = _; rw [if_neg (by omega), if_neg c2]
              rw [ew] at k
              refine b_X7_toNextOrder_61 ?_
              rw [w32p w (by omega)]
              exact ih (by omega) k
      have wn : w32 ((n : Int) - 1) = ((n - 1 : Nat) : Int) := by rw [w32_of (by omega) (by omega)]; omega
      refine b_X7_toNextOrder_31 (fun _ => ?_) (fun c => absurd (by omega) c)
      refine b_X7_toNextOrder_37 ?_
      rw [wn]
      refine L2 (n - 1) (Nat.le_refl _) ?_
      clear L2
      have hwl := wiF_le p t (n - 1)
      generalize hwg : wiF p t (n - 1) = wi at hwl
      refine b_X7_toNextOrder_67 (s_swap (n := n) he1 hn (by omega) (by omega) hp) (fun g1 hx => ?_)
      obtain ⟨hp1, hf1⟩ := hx
      refine b_X7_toNextOrder_73 ?_
      rw [wn, w32n t (by omega)]
      clear wn
      have L3 : ∀ k a b (q : tF) (g2 : pG), b < n → b ≤ a + k → (∀ i, i < n → g2 43 i = q i) → fr g g2 43 → (∀ i, i < n → rvF k q a b i = rvF n (swP p t wi) (t + 1) (n - 1) i) → EV e mX7_toNextOrder (qI (fun x g' => ((x = 0 ∧ some (rvF n (swP p t wi) (t + 1) (n - 1)) = none) ∨ (x = 1 ∧ ∃ p', some (rvF n (swP p t wi) (t + 1) (n - 1)) = some p' ∧ ∀ i, i < n → g' 43 i = p' i)) ∧ fr g g' 43)) 83 [vR 0, vI n, vI t, vI wi, vI b, vI a] [] g2 := by
        intro k
        induction k with
        | zero =>
          intro a b q g2 hb hba hq hf he
          refine b_X7_toNextOrder_83 (fun _ => ?_) (fun c => absurd (by omega) c)
          exact b_X7_toNextOrder_107 ⟨_, rfl, Or.inr ⟨rfl, _, rfl, fun i hi => (hq i hi).trans (he i hi)⟩, hf⟩
        | succ k ih =>
          intro a b q g2 hb hba hq hf he
          refine b_X7_toNextOrder_83 (fun c => ?_) (fun c => ?_)
          · refine b_X7_toNextOrder_107 ⟨_, rfl, Or.inr ⟨rfl, _, rfl, fun i hi => (hq i hi).trans ?_⟩, hf⟩
            rw [← he i hi]
            show q i = (if b ≤ a then q else rvF k (swP q a b) (a + 1) (b - 1)) i
            rw [if_pos (by omega)]
          · have hab : a < b := by omega
            refine b_X7_toNextOrder_90 (s_swap (n := n) he1 hn (by omega) hb hq) (fun g3 hx => ?_)
            obtain ⟨hq3, hf3⟩ := hx
            obtain ⟨b', rfl⟩ : ∃ b', b = b' + 1 := ⟨b - 1, by omega⟩
            refine b_X7_toNextOrder_98 ?_
            rw [w32p b' (by omega), w32n a (by omega)]
            refine ih (a + 1) b' _ g3 (by omega) (by omega) hq3 (hf.tr hf3) (fun i hi => ?_)
            rw [← he i hi]
            show _ = (if b' + 1 ≤ a then q else rvF k (swP q a (b' + 1)) (a + 1) (b' + 1 - 1)) i
            rw [if_neg (by omega), Nat.add_sub_cancel]
      exact L3 n (t + 1) (n - 1) _ g1 (by omega) (by omega) hp1 hf1 (fun i hi => rfl)
theorem fr43.x {g g' : pG} (h : fr g g' 43) : xfr g g' := fr_x h (by decide)
theorem s_findBest {d : Nat} {g : pG} {K : tK} (hd : 6 ≤ d) (hK : KOK K) (hu : SU g 1 K) (h5 : nC K ≤ 5) : CT d mX7_findBestOrder [vR 0] g (qI (fun x g' => x = boS K (boL K) ∧ (∀ i, i < nC K → g' 44 i = pmI (nC K) (boL K) i) ∧ xfr g g')) := by
  refine ct_in (L := [vR 0, vX 2, vX 2, vX 2, vX 2, vX 2]) (by omega) (Nat.le_of_ble_eq_true rfl) rfl (fun e he => ?_)
  have he4 : 5 ≤ e := by omega
  have he2 : 2 ≤ e := by omega
  have he1 : 1 ≤ e := by omega
  have hn : g 1 3 = nC K := hu.1
  have hz : zmin (g 1 3) 5 = (nC K : Int) := by rw [hn]; have := zmin_cases (nC K : Int) 5; omega
  refine b_X7_findBestOrder_0 ?_
  rw [hz]
  clear hz
  have hfb := fc_bd h5
  refine loopN (P := fun i g' => xfr g g' ∧ ∀ j, j < i → g' 43 j = (j : Int)) (nC K) (fun i g' => ∀ q : Int, q = i → EV e mX7_findBestOrder _ 18 [vR 0, vI (nC K : Nat), vI q, vX 2, vX 2, vX 2] [] g') ?_ ?_ 0 g (Nat.zero_le _) ⟨xfr.rf, fun j hj => absurd hj (Nat.not_lt_zero _)⟩ _ rfl
  · rintro i g1 hi ⟨hx1, ha⟩ ih q rfl
    refine b_X7_findBestOrder_18 (fun c => absurd (Int.ofNat_lt.mpr hi) (Int.not_lt.mpr c)) (fun _ => ?_)
    refine b_X7_findBestOrder_23 (by omega) (by omega) ?_
    rw [Int.toNat_natCast]
    refine ih _ ⟨hx1.tr (fr_x (c := 43) (fr.set _) (by decide)), fun j hj => ?_⟩ _ (w32n i (by omega))
    rw [cset_self]
    by_cases e : j = i
    · rw [e, fup_self]
    · rw [fup_ne _ _ e]; exact ha j (by omega)
  · rintro g1 ⟨hx1, ha⟩ q rfl
    refine b_X7_findBestOrder_18 (fun _ => ?_) (fun c => absurd (Int.le_refl _) c)
    refine b_X7_findBestOrder_36 ?_
    have fin : ∀ (g' : pG) (v2 v3 v4 : Int) (u5 : pV), xfr g g' → v2 = boS K (boL K) → (∀ i, i < nC K → g' 44 i = pmI (nC K) (boL K) i) → EV e mX7_findBestOrder (qI (fun x g' => x = boS K (boL K) ∧ (∀ i, i < nC K → g' 44 i = pmI (nC K) (boL K) i) ∧ xfr g g')) 147 [vR 0, vI (nC K : Nat), vI v2, vI v3, vI v4, u5] [] g' := fun g' v2 v3 v4 u5 hx hv h => b_X7_findBestOrder_147 ⟨_, rfl, hv, h, hx⟩
    refine loopN (P := fun k g' => xfr g g' ∧ (k < fcN (nC K) → ∀ i, i < nC K → g' 43 i = pmI (nC K) k i)) (fcN (nC K)) (fun k g' => ∀ (v2 v3 v4 : Int) (u5 : pV), ((k = 0 ∧ v2 = -1000000000) ∨ (∃ k', k = k' + 1 ∧ v2 = boS K (boB K k') ∧ ∀ i, i < nC K → g' 44 i = pmI (nC K) (boB K k') i)) → ((k < fcN (nC K) ∧ v3 = 1) ∨ (k = fcN (nC K) ∧ v3 = 0)) → v4 = k → EV e mX7_findBestOrder (qI (fun x g' => x = boS K (boL K) ∧ (∀ i, i < nC K → g' 44 i = pmI (nC K) (boL K) i) ∧ xfr g g')) 44 [vR 0, vI (nC K : Nat), vI v2, vI v3, vI v4, u5] [] g') ?_ ?_ 0 g1 (Nat.zero_le _) ⟨hx1, fun _ i hi => by rw [ha i hi]; unfold pmI; rw [pm_0 h5 hi]⟩ _ _ _ _ (Or.inl ⟨rfl, rfl⟩) (Or.inl ⟨hfb.1, rfl⟩) rfl
    · rintro k g2 hk ⟨hx2, hP⟩ ih v2 v3 v4 u5 hv2 hv3 rfl
      have hP := hP hk
      have hv3 : v3 = 1 := by rcases hv3 with h | h; exact h.2; exact absurd h.1 (Nat.ne_of_lt hk)
      subst hv3
      have k120 : (k : Int) < 120 := by clear ih fin; omega
      have k9 : (k : Int) < 2147483647 := Int.lt_trans k120 (by decide)
      have hS := boS_bd hK h5 hk
      refine b_X7_findBestOrder_44 (fun c => absurd k120 (Int.not_lt.mpr c)) (fun _ => ?_)
      refine b_X7_findBestOrder_51 (fun c => absurd c (by decide)) (fun _ => ?_)
      refine b_X7_findBestOrder_55 (s_think he1 scr27 hK (hu.x hx2)) (fun g3 hx => ?_)
      obtain ⟨hp3, hf3⟩ := hx
      refine b_X7_findBestOrder_69 ?_
      refine loopN (P := fun i g' => fr2 g2 g' 27 ∧ PT g' 27 (nP K) (boF K k i)) (nC K) (fun i g' => ∀ q : Int, q = i → EV e mX7_findBestOrder (qI (fun x g' => x = boS K (boL K) ∧ (∀ i, i < nC K → g' 44 i = pmI (nC K) (boL K) i) ∧ xfr g g')) 72 [vR 0, vI (nC K : Nat), vI v2, vI 1, vI k, vI q] [] g') ?_ ?_ 0 g3 (Nat.zero_le _) ⟨hf3, hp3⟩ _ rfl
      · rintro i g4 hi ⟨hf4, hp4⟩ ih2 q rfl
        have i5 : (i : Int) < 5 := by clear ih ih2 fin; omega
        have i9 : (i : Int) < 2147483647 := Int.lt_trans i5 (by decide)
        have e43 : g4 43 i = pmI (nC K) k i := by rw [hf4 43 (by decide) (by decide)]; exact hP i hi
        refine b_X7_findBestOrder_72 (fun c => absurd (Int.ofNat_lt.mpr hi) (Int.not_lt.mpr c)) (fun _ => ?_)
        refine b_X7_findBestOrder_78 (Int.natCast_nonneg _) i5 (by rw [Int.toNat_natCast, e43]; exact s_hear he4 pts_27 hK (hu.x (hx2.tr (hf4.x scr27))) hp4 (pm_lt h5 hk hi)) (fun g5 hx => ?_)
        obtain ⟨hp5, hf5⟩ := hx
        exact b_X7_findBestOrder_96 (ih2 _ ⟨hf4.tr hf5.to2, hp5⟩ _ (w32n i i9))
      · rintro g4 ⟨hf4, hp4⟩ q rfl
        have hx4 := hx2.tr (hf4.x scr27)
        have hP4 : ∀ i, i < nC K → g4 43 i = pmI (nC K) k i := fun i hi => by rw [hf4 43 (by decide) (by decide)]; exact hP i hi
        have h44 : g4 44 = g2 44 := hf4 44 (by decide) (by decide)
        have hs : CT e mX3_sum [vR 27] g4 (qI (fun x g' => x = boS K k ∧ g' = g4)) := s_sum he1 pts_27 hp4
        have nx := pm_nx h5 hk
        refine b_X7_findBestOrder_72 (fun _ => ?_) (fun c => absurd (Int.le_refl _) c)
        refine b_X7_findBestOrder_102 hs (fun x g5 hx => ?_)
        obtain ⟨rfl, rfl⟩ := hx
        -- behind toNextOrder
        have go : ∀ (g6 : pG) (v2' : Int), xfr g g6 → (∀ i, i < nC K → g6 43 i = pmI (nC K) k i) → (v2' = boS K (boB K k) ∧ ∀ i, i < nC K → g6 44 i = pmI (nC K) (boB K k) i) → ∀ (x : Int) (g7 : pG), (((x = 0 ∧ nxF (nC K) (pmI (nC K) k) = none) ∨ (x = 1 ∧ ∃ p', nxF (nC K) (pmI (nC K) k) = some p' ∧ ∀ i, i < nC K → g7 43 i = p' i)) ∧ fr g6 g7 43) → EV e mX7_findBestOrder (qI (fun x g' => x = boS K (boL K) ∧ (∀ i, i < nC K → g' 44 i = pmI (nC K) (boL K) i) ∧ xfr g g')) 140 [vR 0, vI (nC K : Nat), vI v2', vI 1, vI k, vI (nC K : Nat)] [vI x] g7 := by
          intro g6 v2' hx6 hP6 hb x g7 hx
          obtain ⟨hx, hf7⟩ := hx
          have e44 : g7 44 = g6 44 := hf7 44 (by decide)
          refine b_X7_findBestOrder_140 (ih _ ⟨hx6.tr (fr43.x hf7), fun hk1 i hi => ?_⟩ _ _ _ _ (Or.inr ⟨k, rfl, hb.1, fun i hi => by rw [e44]; exact hb.2 i hi⟩) ?_ (w32n k k9))
          · rcases nx with ⟨n1, n2⟩ | ⟨p', n1, n2, n3⟩
            · exact absurd n2 (Nat.ne_of_lt hk1)
            · rcases hx with ⟨_, h⟩ | ⟨_, p2, h, h2⟩
              · rw [n1] at h; exact absurd h (by simp)
              · rw [n1] at h
                obtain rfl := Option.some.inj h
                rw [h2 i hi]; exact n3 i hi
          · rcases nx with ⟨n1, n2⟩ | ⟨p', n1, n2, n3⟩
            · rcases hx with ⟨h0, _⟩ | ⟨_, p2, h, _⟩
              · exact Or.inr ⟨n2, h0⟩
              · rw [n1] at h; exact absurd h (by simp)
            · rcases hx with ⟨_, h⟩ | ⟨h1, _⟩
              · rw [n1] at h; exact absurd h (by simp)
              · exact Or.inl ⟨n2, h1⟩
        have key : (boS K k ≤ v2 → ∃ k', k = k' + 1 ∧ boB K k = boB K k' ∧ v2 = boS K (boB K k') ∧ ∀ i, i < nC K → g2 44 i = pmI (nC K) (boB K k') i) ∧ (¬ boS K k ≤ v2 → boB K k = k) := by
          rcases hv2 with ⟨h1, h2⟩ | ⟨k', h1, h2, h3⟩
          · refine ⟨fun z => ?_, fun _ => by rw [h1]; rfl⟩
            rw [h2] at z
            exact absurd (Int.le_trans hS.1 z) (by decide)
          · refine ⟨fun z => ⟨k', h1, ?_, h2, h3⟩, fun z => ?_⟩
            · rw [h1]; rw [h1, h2] at z; exact boB_0 (Int.not_lt.mpr z)
            · rw [h1]; rw [h1, h2] at z; exact boB_1 (Int.not_le.mp z)
        refine b_X7_findBestOrder_109 (fun z => ?_) (fun z => ?_)
        · obtain ⟨k', h1, h2, h3, h4⟩ := key.1 z
          exact b_X7_findBestOrder_135 (s_next he2 h5 hP4) (go _ _ hx4 hP4 ⟨by rw [h2]; exact h3, fun i hi => by rw [h44, h2]; exact h4 i hi⟩)
        · have hB := key.2 z
          refine b_X7_findBestOrder_113 hs (fun x g6 hx => ?_)
          obtain ⟨rfl, rfl⟩ := hx
          have hP6 : ∀ i, i < nC K → (cset g6 44 (fcp (g6 43) (g6 44) 0 0 (nC K))) 43 i = pmI (nC K) k i := fun i hi => by rw [cset_ne _ _ (by decide)]; exact hP4 i hi
          refine b_X7_findBestOrder_120 (Int.natCast_nonneg _) (by rw [Int.zero_add]; clear ih fin go key; omega) (by rw [Int.toNat_natCast]; exact s_next he2 h5 hP6) (go _ _ (hx4.tr (fr_x (c := 44) (fr.set _) (by decide))) hP6 ⟨by rw [hB], fun i hi => ?_⟩)
          rw [cset_self, hB]
          show (if 0 ≤ i ∧ i < 0 + nC K then g6 43 (0 + (i - 0)) else g6 44 i) = _
          rw [if_pos ⟨Nat.zero_le _, by rw [Nat.zero_add]; exact hi⟩, Nat.sub_zero, Nat.zero_add]
          exact hP4 i hi
    · rintro g2 ⟨hx2, hP⟩ v2 v3 v4 u5 hv2 hv3 rfl
      have hv3 : v3 = 0 := by rcases hv3 with h | h; exact absurd h.1 (Nat.lt_irrefl _); exact h.2
      subst hv3
      obtain ⟨k', h1, h2, h3⟩ := hv2.resolve_left (fun z => absurd hfb.1 (by rw [z.1]; decide))
      have hk' : fcN (nC K) - 1 = k' := by rw [h1, Nat.add_sub_cancel]
      have o := fin g2 v2 0 (fcN (nC K) : Nat) u5 hx2 (by unfold boL; rw [hk']; exact h2) (by unfold boL; rw [hk']; exact h3)
      exact b_X7_findBestOrder_44 (fun _ => o) (fun _ => b_X7_findBestOrder_51 (fun _ => o) (fun c => absurd rfl c))
theorem x_bestOrder {d : Nat} {g : pG} {K : tK} {i : Int} (hd : 8 ≤ d) (hK : KOK K) (hu : SU g 1 K) : CT d mX7_bestOrder [vR 0, vI i] g (QX g (aH (rBo K i) (aBo K i)) (rBo K i)) := by
  refine ct_in (L := [vR 0, vI i, vX 2]) (by omega) (Nat.le_of_ble_eq_true rfl) rfl (fun e he => ?_)
  have hn : g 1 3 = nC K := hu.1
  have r1 := rBo_cases K i
  refine b_X7_bestOrder_0 (fun c => ?_) (fun c => ?_)
  · have h5 : nC K ≤ 5 := by omega
    refine b_X7_bestOrder_18 (fun c2 => ?_) (fun c2 => ?_)
    · have hr0 : rBo K i = 0 := by omega
      refine b_X7_bestOrder_30 (s_findBest (by omega) hK hu h5) (fun x g1 hx => ?_)
      obtain ⟨rfl, h44, hx1⟩ := hx
      have hn1 : g1 1 3 = nC K := (hu.x hx1).1
      refine b_X7_bestOrder_34 (fun c3 => ?_) (fun c3 => ?_)
      · have no : ¬ i < nC K → EV e mX7_bestOrder (QX g (aH (rBo K i) (aBo K i)) (rBo K i)) 71 [vR 0, vI i, vI (boS K (boL K))] [] g1 := fun z => b_X7_bestOrder_71 (rx_ok hr0 (aH_0 hr0 (by unfold aBo; rw [if_neg c3, if_neg z])) hx1)
        refine b_X7_bestOrder_42 (fun c4 => no (by omega)) (fun c4 => ?_)
        refine b_X7_bestOrder_53 (fun c5 => no (by omega)) (fun c5 => ?_)
        refine b_X7_bestOrder_62 (by omega) (by omega) (rx_ok hr0 (aH_0 hr0 ?_) hx1)
        unfold aBo
        rw [if_neg c3, if_pos (by omega), h44 i.toNat (by omega)]
      · exact b_X7_bestOrder_40 (rx_ok hr0 (aH_0 hr0 (by unfold aBo; rw [if_pos (Classical.not_not.mp c3)])) hx1)
    · refine b_X7_bestOrder_23 (s_refuseHigh (by omega) ref4) (fun x g1 hx => ?_)
      obtain ⟨rfl, rfl⟩ := hx
      exact b_X7_bestOrder_29 (rx_no (by omega) (aH_n (m := -4) (by omega) (by decide) rfl))
  · refine b_X7_bestOrder_11 (s_refuseHigh (by omega) ref3) (fun x g1 hx => ?_)
    obtain ⟨rfl, rfl⟩ := hx
    exact b_X7_bestOrder_17 (rx_no (by omega) (aH_n (m := -3) (by omega) (by decide) rfl))
