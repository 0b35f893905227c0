/-- comings: how many, the POINTS of each, when each was -/
def CG (g : pG) (N m : Nat) (P : Nat → tF) (W : tF) : Prop := g 45 33 = m ∧ m ≤ 201 ∧ ∀ i, i < m → (∀ k, k < N → g 60 (8 * i + k) = P i k) ∧ g 61 i = W i
theorem ix200 (a i : Nat) (h : a < 201) (h2 : i < 8) : w32 (w32 (8 * (a : Int)) + (i : Int)) = ((8 * a + i : Nat) : Int) ∧ ((8 * a + i : Nat) : Int) < 1608 := by
  refine ⟨?_, by omega⟩
  rw [w32_of (x := 8 * (a : Int)) (by omega) (by omega), w32_of (by omega) (by omega)]; omega
def frC (g g' : pG) : Prop := (∀ a, a ≠ 45 → a ≠ 60 → a ≠ 61 → g' a = g a) ∧ ∀ j, j ≠ 33 → g' 45 j = g 45 j
theorem frC.m {g g' : pG} (h : frC g g') : mfr g g' := ⟨fun a ha => h.1 a (by omega) (by omega) (by omega), fun j hj => h.2 j (by omega)⟩
theorem frC.nw {g g' : pG} {N : Nat} {f : tF} (h : NW g N f) (hf : frC g g') : NW g' N f := ⟨by rw [hf.2 11 (by decide)]; exact h.1, h.2.1, h.2.2.1, fun k hk => by rw [hf.1 51 (by decide) (by decide) (by decide)]; exact h.2.2.2.1 k hk, h.2.2.2.2⟩
theorem m_comes {d N m : Nat} {g : pG} {f W : tF} {P : Nat → tF} {v : Int} (hd : 1 ≤ d) (hp : NW g N f) (hc : CG g N m P W) (hm : m < 201) (hv : 0 ≤ v ∧ v ≤ 200) (hW : ∀ i, i < m → 0 ≤ W i ∧ W i < v) : CT d mX8_comesAgain [vR 45, vI v] g (qI (fun x g' => ((x = -9 ∧ ∀ i, i < m → ¬ ∀ k, k < N → P i k = f k) ∨ (∃ i, i < m ∧ (∀ j, j < i → ¬ ∀ k, k < N → P j k = f k) ∧ (∀ k, k < N → P i k = f k) ∧ x = v - W i)) ∧ CG g' N (m + 1) (fun i => if i = m then f else P i) (fup W m v) ∧ frC g g')) := by
  refine ct_in (L := [vR 45, vI v, vX 2, vX 2, vX 2, vX 2]) (by omega) (Nat.le_of_ble_eq_true rfl) rfl (fun e he => ?_)
  have hN := hp.1
  have h8 := hp.2.2.1
  obtain ⟨q1, q2, q3⟩ := hc
  have fin : ∀ (x : Int) (v3 : Int) (u4 u5 : pV), ((x = -9 ∧ ∀ i, i < m → ¬ ∀ k, k < N → P i k = f k) ∨ (∃ i, i < m ∧ (∀ j, j < i → ¬ ∀ k, k < N → P j k = f k) ∧ (∀ k, k < N → P i k = f k) ∧ x = v - W i)) → EV e mX8_comesAgain (qI (fun x g' => ((x = -9 ∧ ∀ i, i < m → ¬ ∀ k, k < N → P i k = f k) ∨ (∃ i, i < m ∧ (∀ j, j < i → ¬ ∀ k, k < N → P j k = f k) ∧ (∀ k, k < N → P i k = f k) ∧ x = v - W i)) ∧ CG g' N (m + 1) (fun i => if i = m then f else P i) (fup W m v) ∧ frC g g')) 97 [vR 45, vI v, vI x, vI v3, u4, u5] [] g := by
    intro x v3 u4 u5 hx
    refine b_X8_comesAgain_97 ?_
    refine loopN (P := fun k g' => frC g g' ∧ g' 61 = g 61 ∧ g' 45 = g 45 ∧ (∀ i k, i < m → k < N → g' 60 (8 * i + k) = P i k) ∧ ∀ j, j < k → j < N → g' 60 (8 * m + j) = f j) 8 (fun k g' => ∀ (q : Int), q = k → EV e mX8_comesAgain _ 99 [vR 45, vI v, vI x, vI q, u4, u5] [] g') ?_ ?_ 0 g (Nat.zero_le _) ⟨⟨fun _ _ _ _ => rfl, fun _ _ => rfl⟩, rfl, rfl, fun i k hi hk => (q3 i hi).1 k hk, fun j hj => absurd hj (Nat.not_lt_zero _)⟩ _ rfl
    · rintro k g1 hk ⟨hf1, h61, h45, ha, hb⟩ ih q rfl
      have k8 : (k : Int) < 8 := Int.ofNat_lt.mpr hk
      have k9 : (k : Int) < 2147483647 := by clear ih; omega
      obtain ⟨x1, x2⟩ := ix200 m k hm hk
      have e33 : g1 45 33 = m := by rw [h45]; exact q1
      have e51 : g1 51 = g 51 := hf1.1 51 (by decide) (by decide) (by decide)
      refine b_X8_comesAgain_99 (fun c => absurd k8 (Int.not_lt.mpr c)) (fun c => ?_)
      refine b_X8_comesAgain_105 (Int.natCast_nonneg _) k8 (by rw [e33, x1]; exact Int.natCast_nonneg _) (by rw [e33, x1]; exact x2) ?_
      rw [e33, x1, Int.toNat_natCast, Int.toNat_natCast, e51]
      clear x1 x2
      refine ih _ ⟨⟨fun a h1 h2 h3 => by rw [cset_ne _ _ h2]; exact hf1.1 a h1 h2 h3, fun j hj => by rw [cset_ne _ _ (by decide)]; exact hf1.2 j hj⟩, by rw [cset_ne _ _ (by decide)]; exact h61, by rw [cset_ne _ _ (by decide)]; exact h45, fun i j hi hj => ?_, fun j hj hj2 => ?_⟩ _ (w32n k k9)
      · rw [cset_self, fup_ne _ _ (by clear ih; omega)]; exact ha i j hi hj
      · rw [cset_self]
        by_cases e : j = k
        · subst e; rw [fup_self]; exact hp.rd hj2
        · rw [fup_ne _ _ (by clear ih; omega)]; exact hb j (by clear ih; omega) hj2
    · rintro g1 ⟨hf1, h61, h45, ha, hb⟩ q rfl
      have e33 : g1 45 33 = m := by rw [h45]; exact q1
      refine b_X8_comesAgain_99 (fun c => ?_) (fun c => absurd (by decide) c)
      refine b_X8_comesAgain_131 (by rw [e33]; exact Int.natCast_nonneg _) (by rw [e33]; exact Int.ofNat_lt.mpr hm) ?_
      rw [e33, Int.toNat_natCast, w32n m (by omega)]
      refine ⟨_, rfl, hx, ⟨by rw [cset_self, fup_self], by omega, fun i hi => ?_⟩, ⟨fun a h1 h2 h3 => by rw [cset_ne _ _ h1, cset_ne _ _ h3]; exact hf1.1 a h1 h2 h3, fun j hj => by rw [cset_self, fup_ne _ _ hj]; exact hf1.2 j hj⟩⟩
      rw [cset_ne _ _ (by decide), cset_ne _ _ (by decide), cset_ne _ _ (by decide), cset_self, h61]
      dsimp only
      by_cases e : i = m
      · subst e
        rw [if_pos rfl, fup_self, fup_self]
        exact ⟨fun k hk => hb k (by omega) hk, rfl⟩
      · rw [if_neg e, fup_ne _ _ e, fup_ne _ _ e]
        exact ⟨fun k hk => ha i k (by omega) hk, (q3 i (by omega)).2⟩
  refine b_X8_comesAgain_0 ?_
  refine loopN (P := fun i g' => g' = g) m (fun i g' => ∀ (x q : Int) (u4 u5 : pV), ((x = -9 ∧ ∀ j, j < i → ¬ ∀ k, k < N → P j k = f k) ∨ (∃ i, i < m ∧ (∀ j, j < i → ¬ ∀ k, k < N → P j k = f k) ∧ (∀ k, k < N → P i k = f k) ∧ x = v - W i)) → q = i → EV e mX8_comesAgain _ 5 [vR 45, vI v, vI x, vI q, u4, u5] [] g') ?_ ?_ 0 g (Nat.zero_le _) rfl _ _ _ _ (Or.inl ⟨rfl, fun j hj => absurd hj (Nat.not_lt_zero _)⟩) rfl
  · rintro i g hi rfl ih x q u4 u5 hx rfl
    have i9 : (i : Int) < 2147483647 := by clear ih fin; omega
    refine b_X8_comesAgain_5 (fun c => absurd c (by rw [q1]; exact Int.not_le.mpr (Int.ofNat_lt.mpr hi))) (fun c => ?_)
    refine b_X8_comesAgain_13 (fun c2 => ?_) (fun c2 => ?_)
    · rcases hx with h | h
      · exact absurd c2 (by rw [h.1]; decide)
      · exact fin _ _ _ _ (Or.inr h)
    · have hno : ∀ j, j < i → ¬ ∀ k, k < N → P j k = f k := by
        rcases hx with h | ⟨j, hj, _, _, h⟩
        · exact h.2
        · have := (hW j hj).2; exact absurd (by clear ih fin; omega) c2
      refine b_X8_comesAgain_17 ?_
      refine loopN (P := fun _ g' => g' = g) N (fun k g' => ∀ (v4 v5 : Int), (v4 = 1 ∧ pdif (P i) f k ≤ 0) ∨ (v4 = 0 ∧ 0 < pdif (P i) f k) → v5 = k → EV e mX8_comesAgain _ 23 [vR 45, vI v, vI x, vI i, vI v4, vI v5] [] g') ?_ ?_ 0 g (Nat.zero_le _) rfl _ _ (Or.inl ⟨rfl, Int.le_refl _⟩) rfl
      · rintro k g hk rfl ih2 v4 v5 hv4 rfl
        have k8 : k < 8 := Nat.lt_of_lt_of_le hk h8
        have l8 : (k : Int) < 8 := Int.ofNat_lt.mpr k8
        have k9 : (k : Int) < 2147483647 := by clear ih fin ih2; omega
        obtain ⟨x1, x2⟩ := ix200 i k (Nat.lt_trans hi hm) k8
        have hr := hp.rd hk
        have hf := (q3 i hi).1 k hk
        have hb := pdif_bd (P i) f k
        have hs := pdif_st (P i) f k
        refine b_X8_comesAgain_23 (fun c => absurd c (by rw [hN]; exact Int.not_le.mpr (Int.ofNat_lt.mpr hk))) (fun c => ?_)
        refine b_X8_comesAgain_32 (fun c => ?_) (fun c => ?_)
        · exact b_X8_comesAgain_63 (ih2 _ rfl _ _ (by clear x1 x2 ih fin ih2; omega) (w32n k k9))
        · refine b_X8_comesAgain_37 (by rw [x1]; exact Int.natCast_nonneg _) (by rw [x1]; exact x2) (Int.natCast_nonneg _) l8 (fun c2 => ?_) (fun c2 => ?_)
          · rw [x1, Int.toNat_natCast, Int.toNat_natCast, hf, hr] at c2
            exact b_X8_comesAgain_63 (ih2 _ rfl _ _ (by clear x1 x2 ih fin ih2; omega) (w32n k k9))
          · rw [x1, Int.toNat_natCast, Int.toNat_natCast, hf, hr] at c2
            exact b_X8_comesAgain_59 (ih2 _ rfl _ _ (by clear x1 x2 ih fin ih2; omega) (w32n k k9))
      · rintro g rfl v4 v5 hv4 rfl
        have hz := pdif_0 (f := P i) (f' := f) N
        have e61 := (q3 i hi).2
        refine b_X8_comesAgain_23 (fun c => ?_) (fun c => absurd (by rw [hN]; exact Int.le_refl _) c)
        refine b_X8_comesAgain_72 (fun c => ?_) (fun c => ?_)
        · have hn : ¬ ∀ k, k < N → P i k = f k := fun z => absurd (hz.mpr z) (by clear ih fin; omega)
          exact b_X8_comesAgain_88 (ih _ rfl _ _ _ _ (Or.inl ⟨rfl, fun j hj => if h : j = i then h ▸ hn else hno j (by clear ih fin; omega)⟩) (w32n i i9))
        · have hy : ∀ k, k < N → P i k = f k := hz.mp (by clear ih fin; omega)
          have hWi := hW i hi
          have ew : w32 (v - W i) = v - W i := w32_of (by clear ih fin; omega) (by clear ih fin; omega)
          refine b_X8_comesAgain_77 (Int.natCast_nonneg _) (Int.ofNat_lt.mpr (Nat.lt_trans hi hm)) ?_
          rw [Int.toNat_natCast, e61, ew]
          exact ih _ rfl _ _ _ _ (Or.inr ⟨i, hi, hno, hy, rfl⟩) (w32n i i9)
  · rintro g rfl x q u4 u5 hx rfl
    exact b_X8_comesAgain_5 (fun c => fin _ _ _ _ hx) (fun c => absurd (by rw [q1]; exact Int.le_refl _) c)
theorem CG.to {g : pG} {N m : Nat} {P P' : Nat → tF} {W W' : tF} (h : CG g N m P W) (hP : ∀ i k, i < m → k < N → P i k = P' i k) (hW : ∀ i, i < m → W i = W' i) : CG g N m P' W' := ⟨h.1, h.2.1, fun i hi => ⟨fun k hk => by rw [← hP i k hi hk]; exact (h.2.2 i hi).1 k hk, by rw [← hW i hi]; exact (h.2.2 i hi).2⟩⟩
theorem CG.frm {g g' : pG} {N m : Nat} {P : Nat → tF} {W : tF} (h : CG g N m P W) (h1 : g' 45 33 = g 45 33) (h2 : g' 60 = g 60) (h3 : g' 61 = g 61) : CG g' N m P W := ⟨by rw [h1]; exact h.1, h.2.1, fun i hi => ⟨fun k hk => by rw [h2]; exact (h.2.2 i hi).1 k hk, by rw [h3]; exact (h.2.2 i hi).2⟩⟩
def rdP (K : tK) (T : Nat → Nat) : Nat → tF := fun i => (rdS K (T i)).2
/-- ROUND on the reference's side -/
def RDm (K : tK) (g : pG) : Prop := g 45 29 = rdE K ∧ g 45 30 = rdW K ∧ (0 ≤ rdE K → NW g (nP K) (rdS K (rdE K).toNat).2)
theorem m_go {d : Nat} {g : pG} {L : tK} (hd : 6 ≤ d) (hK2 : KOK L) (hu : SM g L) : CT d mX8_goRound [vR 45] g (qV (fun g' => RDm L g' ∧ mfr g g')) := by
  refine ct_in (L := [vR 45, vX 2, vX 2, vX 2]) (by omega) (Nat.le_of_ble_eq_true rfl) rfl (fun e he => ?_)
  have h7 := hK2.1
  have he5 : 5 ≤ e := by omega
  have he2 : 2 ≤ e := by omega
  have he1 : 1 ≤ e := by omega
  refine b_X8_goRound_0 (m_think he1 hK2 hu) (fun g1 hx => ?_)
  obtain ⟨hp1, h81, hf1⟩ := hx
  have s45 : ∀ (g : pG) (f : tF), (∀ j, (j = 0 ∨ j = 4 ∨ j = 6 ∨ j = 7 ∨ j = 13 ∨ j = 22 ∨ j = 28 ∨ j = 41) → f j = g 45 j) → mfr g (cset g 45 f) := fun g f h => ⟨fun a ha => cset_ne _ _ (by omega), fun j hj => by rw [cset_self]; exact h j hj⟩
  have hx2 : mfr g1 (cset (cset g1 45 (fup (g1 45) 30 (-9))) 45 (fup (fup (g1 45) 30 (-9)) 33 0)) := (s45 _ _ (fun j hj => fup_ne _ _ (by omega))).tr (s45 _ _ (fun j hj => by rw [fup_ne _ _ (by omega), cset_self]))
  have hp2 : NW (cset (cset g1 45 (fup (g1 45) 30 (-9))) 45 (fup (fup (g1 45) 30 (-9)) 33 0)) (nP L) (ptC L) := ⟨by rw [cset_self, fup_ne _ _ (by decide), fup_ne _ _ (by decide)]; exact hp1.1, hp1.2.1, hp1.2.2.1, fun k hk => by rw [cset_ne _ _ (by decide), cset_ne _ _ (by decide)]; exact hp1.2.2.2.1 k hk, hp1.2.2.2.2⟩
  have h33 : (cset (cset g1 45 (fup (g1 45) 30 (-9))) 45 (fup (fup (g1 45) 30 (-9)) 33 0)) 45 33 = ((0 : Nat) : Int) := by rw [cset_self, fup_self]; rfl
  have h30 : (cset (cset g1 45 (fup (g1 45) 30 (-9))) 45 (fup (fup (g1 45) 30 (-9)) 33 0)) 45 30 = -9 := by rw [cset_self, fup_ne _ _ (by decide), fup_self]
  have hc2 : CG (cset (cset g1 45 (fup (g1 45) 30 (-9))) 45 (fup (fup (g1 45) 30 (-9)) 33 0)) (nP L) 0 (rdP L (fun _ => 0)) (tI (fun _ => 0)) := ⟨h33, by decide, fun i hi => absurd hi (Nat.not_lt_zero _)⟩
  refine b_X8_goRound_4 (m_comes he1 hp2 hc2 (by decide) (by decide) (fun i hi => absurd hi (Nat.not_lt_zero _))) (fun x g3 hx => ?_)
  obtain ⟨_, hc3, hf3⟩ := hx
  have hx3 := hf1.m.tr (hx2.tr hf3.m)
  have hp3 : NW g3 (nP L) (rdS L 0).2 := frC.nw hp2 hf3
  have h330 : g3 45 30 = -9 := (hf3.2 30 (by decide)).trans h30
  have hc3 : CG g3 (nP L) 1 (rdP L (fun _ => 0)) (tI (fun _ => 0)) := hc3.to (fun i k hi hk => by obtain rfl : i = 0 := (by omega); rfl) (fun i hi => by obtain rfl : i = 0 := (by omega); rw [fup_self]; rfl)
  clear hc2 h33 h30 hp2 hx2
  refine b_X8_goRound_24 ?_
  have out : ∀ (g' : pG) (n p : Nat) (u : pV), p = (rdS L n).1 → n ≤ 200 → mfr g g' → NW g' (nP L) (rdS L n).2 → g' 45 30 = rdW L → (nC L ≤ p ∨ n = 200) → (∀ j, j < n → ¬ nC L ≤ (rdS L j).1) → EV e mX8_goRound (qV (fun g' => RDm L g' ∧ mfr g g')) 92 [vR 45, vI n, vI p, u] [] g' := by
    intro g' n p u hpos hn hx hp h30 hend hall
    have hm : g' 45 0 = nC L := (hu.m hx).1
    have hle := (rdS_bd hK2 n).2
    have q0 : ∀ v : Int, mfr g (cset g' 45 (fup (g' 45) 29 v)) := fun v => hx.tr (s45 _ _ (fun j hj => fup_ne _ _ (by omega)))
    by_cases hd : nC L ≤ p
    · have hE : rdE L = n := rdE_is hn (by omega) hall
      refine b_X8_goRound_92 (fun c => absurd (show (p : Int) = g' 45 0 by omega) c) (fun c => b_X8_goRound_101 ⟨rfl, ⟨by rw [cset_self, fup_self, hE], by rw [cset_self, fup_ne _ _ (by decide)]; exact h30, fun _ => ?_⟩, q0 _⟩)
      rw [hE, Int.toNat_natCast]
      exact ⟨by rw [cset_self, fup_ne _ _ (by decide)]; exact hp.1, hp.2.1, hp.2.2.1, fun k hk => by rw [cset_ne _ _ (by decide)]; exact hp.2.2.2.1 k hk, hp.2.2.2.2⟩
    · have hn2 : n = 200 := by omega
      have hE : rdE L = -9 := by
        refine ff_none (fun j hj => ?_)
        by_cases hjn : j < n
        · exact hall j hjn
        · obtain rfl : j = n := by omega
          omega
      refine b_X8_goRound_92 (fun c => b_X8_goRound_105 ⟨rfl, ⟨by rw [cset_self, fup_self, hE], by rw [cset_self, fup_ne _ _ (by decide)]; exact h30, fun z => absurd z (by rw [hE]; decide)⟩, q0 _⟩) (fun c => absurd (by omega) c)
  have fin : ∀ (g' : pG) (n p : Nat) (u : pV), p = (rdS L n).1 → n ≤ 200 → mfr g g' → NW g' (nP L) (rdS L n).2 → ((g' 45 30 = -9 ∧ ∀ j, j < n → ¬ rdQ L j) ∨ (∃ j, j < n ∧ rdQ L j ∧ (∀ i, i < j → ¬ rdQ L i) ∧ g' 45 30 = (j : Int) + 1 - rdH L (j + 1))) → (nC L ≤ p ∨ n = 200) → (∀ j, j < n → ¬ nC L ≤ (rdS L j).1) → EV e mX8_goRound (qV (fun g' => RDm L g' ∧ mfr g g')) 92 [vR 45, vI n, vI p, u] [] g' := by
    intro g' n p u hpos hn hx hp hcase hend hall
    refine out g' n p u hpos hn hx hp ?_ hend hall
    rcases hcase with ⟨h, hnq⟩ | ⟨j, hj, hq, hnq, h⟩
    · rw [h]
      refine (rdW_none ?_).symm
      by_cases h0 : nC L = 0
      · exact Or.inl h0
      · refine Or.inr (fun j hj => ?_)
        by_cases hjn : j < n
        · exact hnq j hjn
        · have hst := rdS_stay (K := L) (m := n) (by omega) (j + 1 - n)
          rw [show n + (j + 1 - n) = j + 1 by omega] at hst
          exact rdQ_no (by rw [hst]; omega)
    · rw [h]
      have h0 : nC L ≠ 0 := fun z => hall j hj (by omega)
      exact (rdW_hit h0 hnq (by omega) hq).symm
  refine loopN (P := fun n g' => mfr g g' ∧ NW g' (nP L) (rdS L n).2 ∧ (∀ j, j < n → ¬ nC L ≤ (rdS L j).1) ∧ ((g' 45 30 = -9 ∧ ∀ j, j < n → ¬ rdQ L j) ∨ (∃ j, j < n ∧ rdQ L j ∧ (∀ i, i < j → ¬ rdQ L i) ∧ g' 45 30 = (j : Int) + 1 - rdH L (j + 1) ∧ 0 ≤ g' 45 30)) ∧ ∃ T m, CMT L T m n ∧ CG g' (nP L) m (rdP L T) (tI T)) 200 (fun n g' => ∀ (q1 q2 : Int) (u : pV), q1 = n → q2 = (rdS L n).1 → EV e mX8_goRound _ 25 [vR 45, vI q1, vI q2, u] [] g') ?_ ?_ 0 g3 (Nat.zero_le _) ⟨hx3, hp3, fun j hj => absurd hj (Nat.not_lt_zero _), Or.inl ⟨h330, fun j hj => absurd hj (Nat.not_lt_zero _)⟩, _, _, CMT.ini L, hc3⟩ _ _ _ rfl rfl
  · rintro n g6 hn ⟨hx6, hp6, hall, hcase, T, m, hT, hc6⟩ ih q1 q2 u rfl rfl
    have hm : g6 45 0 = nC L := (hu.m hx6).1
    have hle := (rdS_bd hK2 n).2
    have hcase2 : ((g6 45 30 = -9 ∧ ∀ j, j < n → ¬ rdQ L j) ∨ (∃ j, j < n ∧ rdQ L j ∧ (∀ i, i < j → ¬ rdQ L i) ∧ g6 45 30 = (j : Int) + 1 - rdH L (j + 1))) := hcase.imp id (fun ⟨j, a, b, c, d, _⟩ => ⟨j, a, b, c, d⟩)
    refine b_X8_goRound_25 (fun c => fin _ n _ _ rfl (by omega) hx6 hp6 hcase2 (Or.inl (by omega)) hall) (fun c => ?_)
    have hk : (rdS L n).1 < nC L := by omega
    have hall2 : ∀ j, j < n + 1 → ¬ nC L ≤ (rdS L j).1 := fun j hj => by
      by_cases e : j = n
      · subst e; omega
      · exact hall j (by omega)
    refine b_X8_goRound_33 (fun c => absurd c (by omega)) (fun _ => ?_)
    refine b_X8_goRound_40 (m_sendsBack he2 hK2 (hu.m hx6) hp6 hk) (fun x g7 hx => ?_)
    obtain ⟨hx, rfl⟩ := hx
    have hx : x = bi (rdB L (rdS L n)) := hx
    rw [w32n n (by omega)]
    refine b_X8_goRound_48 (fun c => ?_) (fun c => ?_)
    · have hb : ¬ rdB L (rdS L n) := bi_eq0 (hx ▸ c)
      have hS : rdS L (n + 1) = _ := rdN_g hk hb
      have hz : (rdS L (n + 1)).1 ≠ 0 := by rw [hS]; exact Nat.succ_ne_zero _
      refine b_X8_goRound_81 (m_pass he5 hK2 (hu.m hx6) hp6 hk) (fun g8 hx => ?_)
      obtain ⟨hp8, hf8⟩ := hx
      have h45 : g8 45 = g7 45 := hf8 45 (by decide)
      have hp8 : NW g8 (nP L) (rdS L (n + 1)).2 := by
        rw [hS]
        have e9 : passF L (rdS L n).1 (rdS L n).2 = actF (nP L) (kdC L (rdS L n).1) (fgC L (rdS L n).1) (rdS L n).2 := by
          unfold passF hearF; rw [if_neg hb]
        rw [← e9]; exact hp8
      refine b_X8_goRound_86 (ih _ ⟨hx6.tr hf8.m51, hp8, hall2, ?_, T, m, hT.skip hz, hc6.frm (by rw [h45]) (hf8 60 (by decide)) (hf8 61 (by decide))⟩ _ _ _ rfl (by rw [hS, w32_of (by omega) (by omega), Int.natCast_succ]))
      rw [h45]
      rcases hcase with ⟨h, hnq⟩ | ⟨j, hj, hq, hnq, h, h2⟩
      · refine Or.inl ⟨h, fun j hj => ?_⟩
        by_cases e : j = n
        · subst e; exact rdQ_no hz
        · exact hnq j (by omega)
      · exact Or.inr ⟨j, by omega, hq, hnq, h, h2⟩
    · have hb : rdB L (rdS L n) := bi_ne0 (hx ▸ c)
      have hS : rdS L (n + 1) = _ := rdN_b hk hb
      have hz : (rdS L (n + 1)).1 = 0 := by rw [hS]
      have hp7 : NW g7 (nP L) (rdS L (n + 1)).2 := by rw [hS]; exact hp6
      have hm1 : m ≤ n + 1 := hT.2.2.2.2
      refine b_X8_goRound_51 (m_comes he1 hp7 hc6 (by omega) (by omega) (fun i hi => ⟨Int.natCast_nonneg _, by have := (hT.1 i hi).1; show ((T i : Nat) : Int) < _; omega⟩)) (fun x g8 hx => ?_)
      obtain ⟨hxc, hc8, hf8⟩ := hx
      have hp8 := frC.nw hp7 hf8
      have hx8 := hx6.tr hf8.m
      have h830 : g8 45 30 = g7 45 30 := hf8.2 30 (by decide)
      have hc8 : CG g8 (nP L) (m + 1) (rdP L (fun i => if i = m then n + 1 else T i)) (tI (fun i => if i = m then n + 1 else T i)) := by
        refine hc8.to (fun i k hi hk => ?_) (fun i hi => ?_)
        · unfold rdP
          dsimp only
          by_cases e : i = m
          · rw [if_pos e, if_pos e]
          · rw [if_neg e, if_neg e]
        · unfold tI
          dsimp only
          by_cases e : i = m
          · subst e; rw [fup_self, if_pos rfl]
          · rw [fup_ne _ _ e, if_neg e]
      -- the answer of comesAgain
      have hans : (rdQ L n ∧ x = (n : Int) + 1 - rdH L (n + 1) ∧ 0 ≤ x) ∨ (¬ rdQ L n ∧ x = -9) := by
        rcases hxc with ⟨h1, h2⟩ | ⟨i, hi, h1, h2, h3⟩
        · have hH := hT.none (fun j hj => h2 j hj)
          exact Or.inr ⟨fun z => by have := z.2; rw [hH] at this; exact absurd this (by decide), h1⟩
        · have hH := hT.hit hi h2 h1
          have hTi := (hT.1 i hi).1
          have ei : tI T i = (T i : Int) := rfl
          refine Or.inl ⟨⟨hz, by rw [hH]; exact Int.natCast_nonneg _⟩, by rw [h3, hH, ei]; omega, by rw [h3, ei]; omega⟩
      have nxt : ∀ (w : Int) (u : pV), ((w = -9 ∧ ∀ j, j < n + 1 → ¬ rdQ L j) ∨ (∃ j, j < n + 1 ∧ rdQ L j ∧ (∀ i, i < j → ¬ rdQ L i) ∧ w = (j : Int) + 1 - rdH L (j + 1) ∧ 0 ≤ w)) → EV e mX8_goRound (qV (fun g' => RDm L g' ∧ mfr g g')) 25 [vR 45, vI ((n + 1 : Nat) : Int), vI 0, u] [] (cset g8 45 (fup (g8 45) 30 w)) := by
        intro w u hw
        refine ih _ ⟨hx8.tr (s45 _ _ (fun j hj => fup_ne _ _ (by omega))), ⟨by rw [cset_self, fup_ne _ _ (by decide)]; exact hp8.1, hp8.2.1, hp8.2.2.1, fun k hk => by rw [cset_ne _ _ (by decide)]; exact hp8.2.2.2.1 k hk, hp8.2.2.2.2⟩, hall2, by rw [cset_self, fup_self]; exact hw, _, _, hT.add hz, hc8.frm (by rw [cset_self, fup_ne _ _ (by decide)]) (cset_ne _ _ (by decide)) (cset_ne _ _ (by decide))⟩ _ _ _ rfl (by rw [hz]; rfl)
      refine b_X8_goRound_58 (fun c2 => ?_) (fun c2 => ?_)
      · rw [h830] at c2
        refine b_X8_goRound_71 (nxt _ _ ?_)
        rw [h830]
        rcases hcase with ⟨h, hnq⟩ | ⟨j, hj, hq, hnq, h, h2⟩
        · exact absurd c2 (by rw [h]; decide)
        · exact Or.inr ⟨j, by omega, hq, hnq, h, h2⟩
      · rw [h830] at c2
        refine b_X8_goRound_67 (nxt _ _ ?_)
        rcases hcase with ⟨h, hnq⟩ | ⟨j, hj, hq, hnq, h, h2⟩
        · rcases hans with ⟨a1, a2, a3⟩ | ⟨a1, a2⟩
          · exact Or.inr ⟨n, Nat.lt_succ_self n, a1, hnq, a2, a3⟩
          · refine Or.inl ⟨a2, fun j hj => ?_⟩
            by_cases e : j = n
            · subst e; exact a1
            · exact hnq j (by omega)
        · exact absurd h2 c2
  · rintro g6 ⟨hx6, hp6, hall, hcase, T, m, hT, hc6⟩ q1 q2 u h1 rfl
    subst h1
    have hcase2 : ((g6 45 30 = -9 ∧ ∀ j, j < 200 → ¬ rdQ L j) ∨ (∃ j, j < 200 ∧ rdQ L j ∧ (∀ i, i < j → ¬ rdQ L i) ∧ g6 45 30 = (j : Int) + 1 - rdH L (j + 1))) := hcase.imp id (fun ⟨j, a, b, c, d, _⟩ => ⟨j, a, b, c, d⟩)
    have o := fin _ 200 _ u rfl (Nat.le_refl _) hx6 hp6 hcase2 (Or.inr rfl) hall
    exact b_X8_goRound_25 (fun _ => o) (fun _ => b_X8_goRound_33 (fun _ => o) (fun c => absurd (by decide) c))
theorem m_round {d : Nat} {g : pG} {K : tK} {w : Int} (hd : 11 ≤ d) (hK : KOK K) (hu : SM g K) : CT d mX8_round [vR 45, vI w] g (QM g (aH (rW w 2) (aRd K w)) (rW w 2)) := by
  refine ct_in (L := [vR 45, vI w]) (by omega) (Nat.le_of_ble_eq_true rfl) rfl (fun e he => ?_)
  have r2 := rW_cases w 2
  have b1 := bi_cases (0 ≤ w ∧ w ≤ 2)
  have hu0 := hu.m (thr g)
  refine b_X8_round_0 (m_in (by omega)) (fun x g0 hx => ?_)
  obtain ⟨rfl, rfl⟩ := hx
  refine b_X8_round_14 (fun c => ?_) (fun c => ?_)
  · have hr0 : rW w 2 = 0 := by omega
    refine b_X8_round_27 (m_go (by omega) hK hu0) (fun g1 hx => ?_)
    obtain ⟨⟨h29, h30, hE⟩, hf1⟩ := hx
    have hx1 := (thr g).tr hf1
    refine b_X8_round_31 (fun c2 => ?_) (fun c2 => ?_)
    · refine b_X8_round_42 (fun c3 => ?_) (fun c3 => ?_)
      · refine b_X8_round_54 (fun c4 => ?_) (fun c4 => ?_)
        · rw [h29] at c4
          refine b_X8_round_66 (m_sumNow (by omega) (hE c4)) (fun x g2 hx => ?_)
          obtain ⟨rfl, rfl⟩ := hx
          exact b_X8_round_70 (rm_ok hr0 (aH_0 hr0 (by unfold aRd; rw [if_neg c2, if_neg c3, if_neg (by omega)])) hx1)
        · rw [h29] at c4
          exact b_X8_round_61 (rm_ok hr0 (aH_0 hr0 (by unfold aRd; rw [if_neg c2, if_neg c3, if_pos (by omega)])) hx1)
      · exact b_X8_round_47 (rm_ok hr0 (aH_0 hr0 (by unfold aRd; rw [if_neg c2, if_pos (by omega), h30])) hx1)
    · exact b_X8_round_35 (rm_ok hr0 (aH_0 hr0 (by unfold aRd; rw [if_pos (by omega), h29])) hx1)
  · refine b_X8_round_17 (m_refuse (by omega) ref2) (fun x g1 hx => ?_)
    obtain ⟨rfl, rfl⟩ := hx
    exact b_X8_round_25 (rm_no (thr g) (m := -2) (by omega) (aH_n (m := -2) (by omega) (by omega) (by decide)))
theorem SM.ln {g : pG} {K : tK} {v : Int} (h : SM (cset g 45 (fup (g 45) 7 v)) K) : SM g (setLn K (g 45 7)) := by
  obtain ⟨h1, h2, h3, h4, h5, h6⟩ := h
  rw [cset_self, fup_ne _ _ (by decide)] at h1 h3 h5
  refine ⟨h1, fun k hk => ?_, h3, fun k hk => ?_, h5, rfl⟩
  · have := h2 k hk; rw [cset_ne _ _ (by decide), cset_ne _ _ (by decide), cset_ne _ _ (by decide)] at this; exact this
  · have := h4 k hk; rw [cset_ne _ _ (by decide)] at this; exact this
theorem mfr.set7 {g g' : pG} (h : mfr g g') (v : Int) : mfr (cset g 45 (fup (g 45) 7 v)) (cset g' 45 (fup (g' 45) 7 v)) := by
  refine ⟨fun a ha => by rw [cset_ne _ _ (by omega), cset_ne _ _ (by omega)]; exact h.1 a ha, fun j hj => ?_⟩
  rw [cset_self, cset_self]
  by_cases e : j = 7
  · rw [e, fup_self, fup_self]
  · rw [fup_ne _ _ e, fup_ne _ _ e]; exact h.2 j hj
theorem set7_2 (g : pG) (v w : Int) : cset (cset g 45 (fup (g 45) 7 w)) 45 (fup ((cset g 45 (fup (g 45) 7 w)) 45) 7 v) = cset g 45 (fup (g 45) 7 v) := by
  funext a
  by_cases e : a = 45
  · subst e
    rw [cset_self, cset_self, cset_self]
    funext j
    by_cases e : j = 7
    · rw [e, fup_self, fup_self]
    · rw [fup_ne _ _ e, fup_ne _ _ e, fup_ne _ _ e]
  · rw [cset_ne _ _ e, cset_ne _ _ e, cset_ne _ _ e]
theorem set7_id (g : pG) : cset g 45 (fup (g 45) 7 (g 45 7)) = g := by
  funext a
  by_cases e : a = 45
  · subst e
    rw [cset_self]
    funext j
    by_cases e : j = 7
    · rw [e, fup_self]
    · rw [fup_ne _ _ e]
  · rw [cset_ne _ _ e]
theorem m_rounds {d : Nat} {g : pG} {K : tK} (hd : 11 ≤ d) (hK : KOK K) (hu : SM g K) : CT d mX8_rounds [vR 45] g (QM g (bitsF (rdsQ K) 9) 0) := by
  refine ct_in (L := [vR 45, vX 2, vX 2, vX 2]) (by omega) (Nat.le_of_ble_eq_true rfl) rfl (fun e he => ?_)
  have hu0 := hu.m (thr g)
  have e7 : fup (g 45) 8 0 7 = lnC K := hu.2.2.2.2.2
  have e7' : cset g 45 (fup (g 45) 8 0) 45 7 = lnC K := hu0.2.2.2.2.2
  refine b_X8_rounds_0 ?_
  rw [e7]
  refine loopN (P := fun _ g' => mfr g (cset g' 45 (fup (g' 45) 7 (lnC K)))) 9 (fun v g' => ∀ q1 q2 : Int, q1 = bitsF (rdsQ K) v → q2 = v → EV e mX8_rounds _ 14 [vR 45, vI (lnC K), vI q1, vI q2] [] g') ?_ ?_ 0 _ (Nat.zero_le _) (by rw [← e7', set7_id]; exact thr g) _ _ rfl rfl
  · rintro v g1 hv hx1 ih q1 q2 rfl rfl
    have hu1 := hu.m hx1
    have hu2 : SM (cset g1 45 (fup (g1 45) 7 (v : Int))) (setLn K v) := by
      have h := SM.ln (g := cset g1 45 (fup (g1 45) 7 (v : Int))) (v := lnC K) (K := K) (by rw [set7_2]; exact hu1)
      rw [cset_self, fup_self] at h
      exact h
    refine b_X8_rounds_14 (fun c => absurd c (by omega)) (fun c => ?_)
    refine b_X8_rounds_20 (m_go (by omega) (setLn_ok hK (by omega)) hu2) (fun g2 hx => ?_)
    obtain ⟨⟨h29, _, _⟩, hf2⟩ := hx
    have hx2 : mfr g (cset g2 45 (fup (g2 45) 7 (lnC K))) := by
      have h := hf2.set7 (lnC K)
      rw [set7_2] at h
      exact hx1.tr h
    refine b_X8_rounds_29 (fun c2 => ?_) (fun c2 => ?_)
    · rw [h29] at c2
      exact b_X8_rounds_41 (ih _ hx2 _ _ (bitsF_1 (p := rdsQ K) c2).symm (w32n v (by omega)))
    · rw [h29] at c2
      exact b_X8_rounds_37 (ih _ hx2 _ _ (by rw [bitsF_z]; exact (bitsF_0 (p := rdsQ K) c2).symm) (w32n v (by omega)))
  · intro g1 hx1 q1 q2 h1 h2
    refine b_X8_rounds_14 (fun c => ?_) (fun c => absurd (by omega) c)
    exact b_X8_rounds_52 (rm_ok rfl h1.symm hx1)
