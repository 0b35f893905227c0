/-- order: two courts changed -/
def swp (f : tF) (a b : Nat) : tF := fup (fup f a (f b)) b (f a)
theorem swp_b (f : tF) (a b : Nat) : swp f a b b = f a := by unfold swp; rw [fup_self]
theorem swp_a (f : tF) (a b : Nat) : swp f a b a = f b := by
  unfold swp
  by_cases e : a = b
  · subst e; rw [fup_self]
  · rw [fup_ne _ _ e, fup_self]
theorem swp_o (f : tF) {a b j : Nat} (h1 : j ≠ a) (h2 : j ≠ b) : swp f a b j = f j := by
  unfold swp; rw [fup_ne _ _ h2, fup_ne _ _ h1]
theorem swp2 (f : tF) (a b : Nat) : swp (swp f a b) a b = f := by
  funext j
  by_cases e1 : j = b
  · subst e1; rw [swp_b, swp_a]
  · by_cases e2 : j = a
    · subst e2; rw [swp_a, swp_b]
    · rw [swp_o _ e2 e1, swp_o _ e2 e1]
def swK (K : tK) (a b : Nat) : tK := sKF K (swp (kdC K) a b) (swp (fgC K) a b)
theorem swK_b (K : tK) (a b : Nat) : passF (swK K a b) b = passF K a := by
  funext f
  show hearF _ _ (swp (kdC K) a b b) (swp (fgC K) a b b) f = _
  rw [swp_b, swp_b]; rfl
theorem swK_a (K : tK) (a b : Nat) : passF (swK K a b) a = passF K b := by
  funext f
  show hearF _ _ (swp (kdC K) a b a) (swp (fgC K) a b a) f = _
  rw [swp_a, swp_a]; rfl
theorem swK_o (K : tK) {a b j : Nat} (h1 : j ≠ a) (h2 : j ≠ b) : passF (swK K a b) j = passF K j := by
  funext f
  show hearF _ _ (swp (kdC K) a b j) (swp (fgC K) a b j) f = _
  rw [swp_o _ h1 h2, swp_o _ h1 h2]; rfl
theorem swK_ok {K : tK} {a b : Nat} (hK : KOK K) (ha : a < nC K) (hb : b < nC K) : KOK (swK K a b) := by
  obtain ⟨h1, h2, h3⟩ := hK
  refine ⟨h1, fun k hk => ⟨?_, ?_, (h2 k hk).2.2⟩, h3⟩
  · show 0 ≤ swp (kdC K) a b k ∧ swp (kdC K) a b k ≤ 5
    by_cases e1 : k = b
    · subst e1; rw [swp_b]; exact (h2 a ha).1
    · by_cases e2 : k = a
      · subst e2; rw [swp_a]; exact (h2 b hb).1
      · rw [swp_o _ e2 e1]; exact (h2 k hk).1
  · show 0 ≤ swp (fgC K) a b k ∧ swp (fgC K) a b k ≤ 9
    by_cases e1 : k = b
    · subst e1; rw [swp_b]; exact (h2 a ha).2.1
    · by_cases e2 : k = a
      · subst e2; rw [swp_a]; exact (h2 b hb).2.1
      · rw [swp_o _ e2 e1]; exact (h2 k hk).2.1
theorem s_swapped {d a b : Nat} {g : pG} {K : tK} (hd : 6 ≤ d) (hK : KOK K) (hu : SU g 1 K) (ha : a < nC K) (hb : b < nC K) (hab : a < b) : CT d mX7_goDownSwapped [vR 0, vI a, vI b] g (qV (fun g' => PT g' 27 (nP K) (downF (swK K a b) (nC K) (ptC K)) ∧ fr2 g g' 27)) := by
  refine ct_in (L := [vR 0, vI a, vI b, vX 2]) (by omega) (Nat.le_of_ble_eq_true rfl) rfl (fun e he => ?_)
  have h7 := hK.1
  refine b_X7_goDownSwapped_0 (s_think (by omega) scr27 hK hu) (fun g1 hx => ?_)
  obtain ⟨hp1, hf1⟩ := hx
  refine b_X7_goDownSwapped_14 ?_
  refine loopN (P := fun k g' => PT g' 27 (nP K) (downF (swK K a b) k (ptC K)) ∧ fr2 g g' 27) (nC K) (fun k g' => ∀ w : Int, w = k → EV e mX7_goDownSwapped _ 16 [vR 0, vI a, vI b, vI w] [] g') ?_ ?_ 0 g1 (Nat.zero_le _) ⟨hp1, hf1⟩ _ rfl
  · rintro k g2 hk ⟨hp2, hf2⟩ ih w rfl
    have hu2 := hu.x (hf2.x scr27)
    have hm := hu2.1
    refine b_X7_goDownSwapped_16 (fun c16 => ?_) (fun c16 => ?_)
    · exfalso
      omega
    · refine b_X7_goDownSwapped_27 (fun c27 => ?_) (fun c27 => ?_)
      · refine b_X7_goDownSwapped_47 (fun c47 => ?_) (fun c47 => ?_)
        · refine b_X7_goDownSwapped_60 (s_hear (by omega) pts_27 hK hu2 hp2 hk) (fun g3 hx => ?_)
          obtain ⟨hp3, hf3⟩ := hx
          refine b_X7_goDownSwapped_68 (ih _ ⟨?_, hf2.tr hf3.to2⟩ _ (w32n k (by omega)))
          first | (have e9 : k = b := (by omega); subst e9; unfold downF; rw [swK_b]; exact hp3) | (unfold downF; rw [swK_o K (by omega) (by omega)]; exact hp3)
        · refine b_X7_goDownSwapped_56 (s_hear (by omega) pts_27 hK hu2 hp2 ha) (fun g3 hx => ?_)
          obtain ⟨hp3, hf3⟩ := hx
          refine b_X7_goDownSwapped_68 (ih _ ⟨?_, hf2.tr hf3.to2⟩ _ (w32n k (by omega)))
          first | (have e9 : k = b := (by omega); subst e9; unfold downF; rw [swK_b]; exact hp3) | (unfold downF; rw [swK_o K (by omega) (by omega)]; exact hp3)
      · refine b_X7_goDownSwapped_32 (s_hear (by omega) pts_27 hK hu2 hp2 hb) (fun g3 hx => ?_)
        obtain ⟨hp3, hf3⟩ := hx
        refine b_X7_goDownSwapped_44 (ih _ ⟨?_, hf2.tr hf3.to2⟩ _ (w32n k (by omega)))
        have e9 : k = a := (by omega)
        subst e9
        unfold downF
        rw [swK_a]
        exact hp3
  · rintro g2 ⟨hp2, hf2⟩ w rfl
    have hu2 := hu.x (hf2.x scr27)
    have hm := hu2.1
    refine b_X7_goDownSwapped_16 (fun c16 => ?_) (fun c16 => ?_)
    · refine b_X7_goDownSwapped_74 ?_
      exact ⟨rfl, hp2, hf2⟩
    · exfalso
      omega
def orS (K : tK) (a b : Nat) : Int := sumAll (swK K a b)
def orI (K : tK) (a : Nat) (st : Int × Int) : Nat → Int × Int
  | 0 => st
  | m + 1 => if orS K a (a + 1 + m) ≤ (orI K a st m).1 then orI K a st m else (orS K a (a + 1 + m), 10 * (a : Int) + (a + 1 + m : Nat))
theorem orI_le {K : tK} {a m : Nat} {st : Int × Int} (h : orS K a (a + 1 + m) ≤ (orI K a st m).1) : orI K a st (m + 1) = orI K a st m := if_pos h
theorem orI_gt {K : tK} {a m : Nat} {st : Int × Int} (h : ¬ orS K a (a + 1 + m) ≤ (orI K a st m).1) : orI K a st (m + 1) = (orS K a (a + 1 + m), 10 * (a : Int) + (a + 1 + m : Nat)) := if_neg h
def orF (K : tK) : Nat → Int × Int
  | 0 => (sumAll K, -9)
  | a + 1 => orI K a (orF K a) (nC K - (a + 1))
theorem x_order {d : Nat} {g : pG} {K : tK} (hd : 8 ≤ d) (hK : KOK K) (hu : SU g 1 K) : CT d mX7_order [vR 0] g (QX g (orF K (nC K)).2 0) := by
  refine ct_in (L := [vR 0, vX 2, vX 2, vX 2, vX 2]) (by omega) (Nat.le_of_ble_eq_true rfl) rfl (fun e he => ?_)
  have h7 := hK.1
  refine b_X7_order_0 (by rw [hu.1]; exact s_goDownTo (by omega) hK hu (Nat.le_refl _)) (fun g1 hx => ?_)
  obtain ⟨hp1, hf1⟩ := hx
  refine b_X7_order_11 (s_sum (by omega) pts_27 hp1) (fun x g1 hx => ?_)
  obtain ⟨rfl, rfl⟩ := hx
  refine b_X7_order_18 ?_
  refine loopN (P := fun k g' => xfr g g') (nC K) (fun k g' => ∀ (v1 v2 v3 : Int) (u : pV), v1 = (orF K k).1 → v2 = (orF K k).2 → v3 = k → EV e mX7_order _ 24 [vR 0, vI v1, vI v2, vI v3, u] [] g') ?_ ?_ 0 g1 (Nat.zero_le _) (hf1.x scr27) _ _ _ _ rfl rfl rfl
  · rintro a g2 ha hf2 ih v1 v2 v3 u hv1 hv2 rfl
    have hm := (hu.x hf2).1
    refine b_X7_order_24 (fun c => absurd c (by omega)) (fun c => ?_)
    refine b_X7_order_35 ?_
    refine loopN (P := fun k g' => xfr g g') (nC K - (a + 1)) (fun m g' => ∀ (v1 v2 v4 : Int), v1 = (orI K a (orF K a) m).1 → v2 = (orI K a (orF K a) m).2 → v4 = (a + 1 + m : Nat) → EV e mX7_order _ 40 [vR 0, vI v1, vI v2, vI a, vI v4] [] g') ?_ ?_ 0 g2 (Nat.zero_le _) hf2 _ _ _ hv1 hv2 (by rw [w32_of (by omega) (by omega)]; omega)
    · rintro m g3 hm3 hf3 ih2 v1 v2 v4 hv1 hv2 rfl
      have hu3 := hu.x hf3
      have hm0 := hu3.1
      refine b_X7_order_40 (fun c => absurd c (by omega)) (fun c => ?_)
      refine b_X7_order_52 (s_swapped (by omega) hK hu3 ha (by omega) (by omega)) (fun g4 hx => ?_)
      obtain ⟨hp4, hf4⟩ := hx
      have hx4 := hf3.tr (hf4.x scr27)
      have hs : CT e mX3_sum [vR 27] g4 (qI (fun x g' => x = orS K a (a + 1 + m) ∧ g' = g4)) := s_sum (by omega) pts_27 hp4
      refine b_X7_order_59 hs (fun x g5 hx => ?_)
      obtain ⟨rfl, rfl⟩ := hx
      refine b_X7_order_66 (fun c => ?_) (fun c => ?_)
      · rw [hv1] at c
        exact b_X7_order_86 (ih2 _ hx4 _ _ _ (by rw [orI_le c]; exact hv1) (by rw [orI_le c]; exact hv2) (w32n _ (by omega)))
      · rw [hv1] at c
        refine b_X7_order_70 hs (fun x g6 hx => ?_)
        obtain ⟨rfl, rfl⟩ := hx
        refine b_X7_order_77 (ih2 _ hx4 _ _ _ (by rw [orI_gt c]) ?_ (w32n _ (by omega)))
        rw [orI_gt c, w32_of (x := 10 * (a : Int)) (by omega) (by omega), w32_of (by omega) (by omega)]
    · rintro g3 hf3 v1 v2 v4 hv1 hv2 rfl
      have hm0 := (hu.x hf3).1
      refine b_X7_order_40 (fun c => ?_) (fun c => absurd (by omega) c)
      exact b_X7_order_92 (ih _ hf3 _ _ _ _ hv1 hv2 (w32n a (by omega)))
  · rintro g2 hf2 v1 v2 v3 u hv1 hv2 rfl
    have hm := (hu.x hf2).1
    refine b_X7_order_24 (fun c24 => ?_) (fun c24 => ?_)
    · refine b_X7_order_98 ?_
      exact rx_ok rfl hv2.symm hf2
    · exfalso
      omega
theorem cset_cc (g : pG) (A B C D : tF) : cset (cset (cset (cset g 46 A) 47 B) 46 C) 47 D = cset (cset g 46 C) 47 D := by
  funext a
  by_cases e7 : a = 47
  · subst e7; rw [cset_self, cset_self]
  · rw [cset_ne _ _ e7, cset_ne _ _ e7]
    by_cases e6 : a = 46
    · subst e6; rw [cset_self, cset_self]
    · rw [cset_ne _ _ e6, cset_ne _ _ e7, cset_ne _ _ e6, cset_ne _ _ e6]
theorem m_change {d a b : Nat} {g : pG} (hd : 1 ≤ d) (ha : a < 7) (hb : b < 7) : CT d mX8_change [vR 45, vI a, vI b] g (qV (fun g' => g' 46 = swp (g 46) a b ∧ g' 47 = swp (g 47) a b ∧ ∀ c, c ≠ 46 → c ≠ 47 → g' c = g c)) := by
  refine ct_in (L := [vR 45, vI a, vI b, vX 2, vX 2]) (by omega) (Nat.le_of_ble_eq_true rfl) rfl (fun e he => ?_)
  refine b_X8_change_0 (by omega) (by omega) (by omega) (by omega) ?_
  rw [Int.toNat_natCast, Int.toNat_natCast, cset_cc]
  exact ⟨rfl, by rw [cset_ne _ _ (by decide), cset_self]; rfl, by rw [cset_self]; rfl, fun c h6 h7 => by rw [cset_ne _ _ h7, cset_ne _ _ h6]⟩
theorem m_order {d : Nat} {g : pG} {K : tK} (hd : 11 ≤ d) (hK : KOK K) (hu : SM g K) : CT d mX8_order [vR 45] g (QM g (orF K (nC K)).2 0) := by
  refine ct_in (L := [vR 45, vX 2, vX 2, vX 2, vX 2, vX 2]) (by omega) (Nat.le_of_ble_eq_true rfl) rfl (fun e he => ?_)
  have h7 := hK.1
  have hu0 := hu.m (thr g)
  refine b_X8_order_0 (m_sumAll (by omega) hK hu0) (fun x g1 hx => ?_)
  obtain ⟨rfl, hf1⟩ := hx
  refine b_X8_order_9 ?_
  refine loopN (P := fun k g' => mfr g g') (nC K) (fun k g' => ∀ (v1 v2 v3 : Int) (u u2 : pV), v1 = (orF K k).1 → v2 = (orF K k).2 → v3 = k → EV e mX8_order _ 15 [vR 45, vI v1, vI v2, vI v3, u, u2] [] g') ?_ ?_ 0 g1 (Nat.zero_le _) ((thr g).tr hf1.m) _ _ _ _ _ rfl rfl rfl
  · rintro a g2 ha hf2 ih v1 v2 v3 u u2 hv1 hv2 rfl
    have hm := (hu.m hf2).1
    refine b_X8_order_15 (fun c => absurd c (by omega)) (fun c => ?_)
    refine b_X8_order_23 ?_
    refine loopN (P := fun k g' => mfr g g') (nC K - (a + 1)) (fun m g' => ∀ (v1 v2 v4 : Int) (u2 : pV), v1 = (orI K a (orF K a) m).1 → v2 = (orI K a (orF K a) m).2 → v4 = (a + 1 + m : Nat) → EV e mX8_order _ 28 [vR 45, vI v1, vI v2, vI a, vI v4, u2] [] g') ?_ ?_ 0 g2 (Nat.zero_le _) hf2 _ _ _ _ hv1 hv2 (by rw [w32_of (by omega) (by omega)]; omega)
    · rintro m g3 hm3 hf3 ih2 v1 v2 v4 u2 hv1 hv2 rfl
      have hu3 := hu.m hf3
      have hm0 := hu3.1
      have a7 : a < 7 := by omega
      have b7 : a + 1 + m < 7 := by omega
      have he7 : 7 ≤ e := by omega
      have hbn : a + 1 + m < nC K := by omega
      refine b_X8_order_28 (fun c => absurd c (by omega)) (fun c => ?_)
      refine b_X8_order_37 (m_change (by omega) a7 b7) (fun g4 hx => ?_)
      obtain ⟨q6, q7, qo⟩ := hx
      have hf4 : mf2 g3 g4 := ⟨fun c hc => qo c (by omega) (by omega), fun j hj => by rw [qo 45 (by decide) (by decide)]⟩
      have hu4 : SM g4 (swK K a (a + 1 + m)) := hu3.two hf4 (fun j hj => by
        rw [q6]
        by_cases e1 : j = a + 1 + m
        · rw [e1, swp_b, swp_b]; exact (hu3.2.1 a ha).1
        · by_cases e2 : j = a
          · rw [e2, swp_a, swp_a]; exact (hu3.2.1 _ hbn).1
          · rw [swp_o _ e2 e1, swp_o _ e2 e1]; exact (hu3.2.1 j hj).1) (fun j hj => by
        rw [q7]
        by_cases e1 : j = a + 1 + m
        · rw [e1, swp_b, swp_b]; exact (hu3.2.1 a ha).2.1
        · by_cases e2 : j = a
          · rw [e2, swp_a, swp_a]; exact (hu3.2.1 _ hbn).2.1
          · rw [swp_o _ e2 e1, swp_o _ e2 e1]; exact (hu3.2.1 j hj).2.1)
      refine b_X8_order_44 (m_sumAll he7 (swK_ok hK ha hbn) hu4) (fun x g5 hx => ?_)
      obtain ⟨hx0, hf5⟩ := hx
      have hx0 : x = orS K a (a + 1 + m) := hx0
      subst hx0
      refine b_X8_order_48 (m_change (by omega) a7 b7) (fun g6 hx => ?_)
      obtain ⟨r6, r7, ro⟩ := hx
      have hf6 : mf2 g5 g6 := ⟨fun c hc => ro c (by omega) (by omega), fun j hj => by rw [ro 45 (by decide) (by decide)]⟩
      have hD : mfr g3 g6 := (hf4.tr (hf5.m.two.tr hf6)).m (by rw [r6, hf5.1 46 (by decide) (by decide), q6, swp2]) (by rw [r7, hf5.1 47 (by decide) (by decide), q7, swp2])
      have hD := hf3.tr hD
      refine b_X8_order_57 (fun c => ?_) (fun c => ?_)
      · refine b_X8_order_73 (fun c2 => ?_) (fun c2 => absurd c c2)
        rw [hv1] at c
        exact b_X8_order_86 (ih2 _ hD _ _ _ _ (by rw [orI_le c]; exact hv1) (by rw [orI_le c]; exact hv2) (w32n _ (by omega)))
      · refine b_X8_order_63 (fun c2 => absurd c2 c) (fun c2 => ?_)
        rw [hv1] at c
        refine b_X8_order_81 (ih2 _ hD _ _ _ _ (by rw [orI_gt c]) ?_ (w32n _ (by omega)))
        rw [orI_gt c, w32_of (x := 10 * (a : Int)) (by omega) (by omega), w32_of (by omega) (by omega)]
    · rintro g3 hf3 v1 v2 v4 u2 hv1 hv2 rfl
      have hm0 := (hu.m hf3).1
      refine b_X8_order_28 (fun c => ?_) (fun c => absurd (by omega) c)
      exact b_X8_order_94 (ih _ hf3 _ _ _ _ _ hv1 hv2 (w32n a (by omega)))
  · rintro g2 hf2 v1 v2 v3 u u2 hv1 hv2 rfl
    have hm := (hu.m hf2).1
    refine b_X8_order_15 (fun c15 => ?_) (fun c15 => ?_)
    · refine b_X8_order_100 ?_
      exact rm_ok rfl hv2.symm hf2
    · exfalso
      omega
