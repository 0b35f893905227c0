def rsT (w c : Nat) : Nat → Nat
  | 0 => c
  | i + 1 => rsT w c i / w
theorem rsT_le (w c : Nat) : ∀ i, rsT w c i ≤ c := by
  intro i
  induction i with
  | zero => exact Nat.le_refl _
  | succ i ih => exact Nat.le_trans (Nat.div_le_self _ _) ih
theorem m_isOther {d n c : Nat} {g : pG} {K : tK} (hd : 7 ≤ d) (hK : KOK K) (hu : SM g K) (hn : n ≤ 3) (hc : ∀ i, i < n → g 72 i = ((rsT (2 * nP K) c i % (2 * nP K) : Nat) : Int)) : CT d mX8_isOtherBy [vR 45, vI n, vI (bi (0 < sumAll K))] g (qI (fun x g' => ((x = 1 ∧ ∃ h, smG (2 * nP K) n c (ptC K) = some h ∧ mgD K h) ∨ (x = 0 ∧ ∀ h, smG (2 * nP K) n c (ptC K) = some h → ¬ mgD K h)) ∧ frT g g')) := by
  refine ct_in (L := [vR 45, vI n, vI (bi (0 < sumAll K)), vX 2, vX 2, vX 2]) (by omega) (Nat.le_of_ble_eq_true rfl) rfl (fun e he => ?_)
  have h8 := hK.2.2.1
  refine b_X8_isOtherBy_0 (m_think (by omega) hK hu) (fun g1 hx => ?_)
  obtain ⟨hp1, h81, hf1⟩ := hx
  refine b_X8_isOtherBy_4 ?_
  refine loopN (P := fun i g' => frT g g' ∧ ∃ f, NW g' (nP K) f ∧ smG (2 * nP K) n c (ptC K) = smG (2 * nP K) (n - i) (rsT (2 * nP K) c i) f) n (fun i g' => ∀ (q : Int) (u4 u5 : pV), q = i → EV e mX8_isOtherBy _ 6 [vR 45, vI n, vI (bi (0 < sumAll K)), vI q, u4, u5] [] g') ?_ ?_ 0 g1 (Nat.zero_le _) ⟨hf1, _, hp1, rfl⟩ _ _ _ rfl
  · rintro i g2 hi ⟨hf2, f, hp2, hS⟩ ih q u4 u5 rfl
    generalize hv : rsT (2 * nP K) c i % (2 * nP K) = v at *
    have hvlt : v < 2 * nP K := by rw [← hv]; exact Nat.mod_lt _ (by clear ih; omega)
    have e72 : g2 72 i = (v : Int) := by rw [hf2.1 72 (by decide) (by decide), hc i hi, hv]
    have hk : v / 2 < nP K := by clear ih; omega
    have hr := hp2.rd hk
    have hb := hp2.bd hk
    have q1 : w32 ((v : Int).tdiv 2) = ((v / 2 : Nat) : Int) := m2n (by clear ih; omega)
    have q2 : w32 ((v : Int).tmod 2) = ((v % 2 : Nat) : Int) := m2m (by clear ih q1; omega)
    have i9 : (i : Int) < 2147483647 := by clear ih q1 q2; omega
    have l3 : (i : Int) < 3 := by clear ih q1 q2; omega
    have k0 : (0 : Int) ≤ ((v / 2 : Nat) : Int) := Int.natCast_nonneg _
    have k8 : ((v / 2 : Nat) : Int) < 8 := by clear ih q1 q2; omega
    have he1 : 1 ≤ e := by clear ih q1 q2; omega
    obtain ⟨t, ht⟩ : ∃ t, n - i = t + 1 := ⟨n - i - 1, by clear ih q1 q2; omega⟩
    have ht2 : n - (i + 1) = t := by clear ih q1 q2; omega
    rw [ht] at hS
    have hS : smG (2 * nP K) n c (ptC K) = (if smJ f (rsT (2 * nP K) c i % (2 * nP K)) then smG (2 * nP K) t (rsT (2 * nP K) c i / (2 * nP K)) (mvF f (rsT (2 * nP K) c i % (2 * nP K))) else none) := hS
    rw [hv] at hS
    rw [ht2] at ih
    have fin : ∀ (a : Int) (x : Int), a = f (v / 2) + (if v % 2 = 0 then 1 else -1) → x = bi (-9 ≤ a ∧ a ≤ 9) → EV e mX8_isOtherBy (qI (fun x g' => ((x = 1 ∧ ∃ h, smG (2 * nP K) n c (ptC K) = some h ∧ mgD K h) ∨ (x = 0 ∧ ∀ h, smG (2 * nP K) n c (ptC K) = some h → ¬ mgD K h)) ∧ frT g g')) 59 [vR 45, vI n, vI (bi (0 < sumAll K)), vI i, vI ((v / 2 : Nat) : Int), vI a] [vI x] g2 := by
      intro a x ha hx
      subst hx
      refine b_X8_isOtherBy_59 (fun z => ?_) (fun z => ?_)
      · have z := bi_ne0 z
        have hJ : smJ f v := by unfold smJ; rw [← ha]; exact z
        rw [if_pos hJ] at hS
        refine b_X8_isOtherBy_64 k0 k8 ?_
        rw [Int.toNat_natCast]
        refine ih _ ⟨hf2.tr (fr.toT (fr.set _)), _, ?_, hS⟩ _ _ _ (w32n i i9)
        unfold mvF
        rw [← ha, held_id z]
        exact hp2.put z
      · have z := bi_eq0 (Classical.not_not.mp z)
        have hJ : ¬ smJ f v := by unfold smJ; rw [← ha]; exact z
        rw [if_neg hJ] at hS
        exact b_X8_isOtherBy_62 ⟨_, rfl, Or.inr ⟨rfl, fun h hh => by rw [hS] at hh; exact absurd hh (by simp)⟩, hf2⟩
    refine b_X8_isOtherBy_6 (fun z => absurd (Int.ofNat_lt.mpr hi) (Int.not_lt.mpr z)) (fun _ => ?_)
    refine b_X8_isOtherBy_11 (Int.natCast_nonneg _) l3 (by rw [Int.toNat_natCast, e72, q1]; exact k0) (by rw [Int.toNat_natCast, e72, q1]; exact k8) (fun z => ?_) (fun z => ?_)
    · rw [Int.toNat_natCast, e72, q2] at z
      rw [Int.toNat_natCast, e72, q1, Int.toNat_natCast, hr]
      have ew : w32 (f (v / 2) + (-1)) = f (v / 2) + (-1) := w32_of (by clear ih fin q1 q2; omega) (by clear ih fin q1 q2; omega)
      refine b_X8_isOtherBy_43 (by rw [ew]; exact m_in he1) (fun x g3 hx => ?_)
      obtain ⟨hx, rfl⟩ := hx
      rw [ew]
      exact fin _ _ (by rw [if_neg (by clear ih fin q1 q2 ew; omega)]) hx
    · rw [Int.toNat_natCast, e72, q2] at z
      rw [Int.toNat_natCast, e72, q1, Int.toNat_natCast, hr]
      have ew : w32 (f (v / 2) + 1) = f (v / 2) + 1 := w32_of (by clear ih fin q1 q2; omega) (by clear ih fin q1 q2; omega)
      refine b_X8_isOtherBy_39 (by rw [ew]; exact m_in he1) (fun x g3 hx => ?_)
      obtain ⟨hx, rfl⟩ := hx
      rw [ew]
      exact fin _ _ (by rw [if_pos (by clear ih fin q1 q2 ew; omega)]) hx
  · rintro g2 ⟨hf2, f, hp2, hS⟩ q u4 u5 rfl
    rw [Nat.sub_self] at hS
    have hS : smG (2 * nP K) n c (ptC K) = some f := hS
    refine b_X8_isOtherBy_6 (fun _ => ?_) (fun z => absurd (Int.le_refl _) z)
    refine b_X8_isOtherBy_79 (m_passAll0 (by omega) hK (hu.frm hf2) hp2) (fun g3 hx => ?_)
    obtain ⟨hp3, hf3⟩ := hx
    refine b_X8_isOtherBy_84 (m_isFor (by omega) hp3) (fun x g4 hx => ?_)
    obtain ⟨rfl, rfl⟩ := hx
    refine b_X8_isOtherBy_88 (fun z => ?_) (fun z => ?_)
    · exact b_X8_isOtherBy_96 ⟨_, rfl, Or.inr ⟨rfl, fun h hh => by rw [hS] at hh; obtain rfl := Option.some.inj hh; exact fun y => y z⟩, hf2.tr hf3.toT⟩
    · exact b_X8_isOtherBy_92 ⟨_, rfl, Or.inl ⟨rfl, f, hS, z⟩, hf2.tr hf3.toT⟩
theorem m_margin {d : Nat} {g : pG} {K : tK} (hd : 11 ≤ d) (hK : KOK K) (hu : SM g K) : CT d mX8_margin [vR 45] g (QM g (mgA K) 0) := by
  refine ct_in (L := [vR 45, vX 2, vX 2, vX 2, vX 2, vX 2]) (by omega) (Nat.le_of_ble_eq_true rfl) rfl (fun e he => ?_)
  have h8 := hK.2.2.1
  have hu0 := hu.m (thr g)
  have he7 : 7 ≤ e := by omega
  have go : ∀ g1, mfr g g1 → EV e mX8_margin (QM g (mgA K) 0) 30 [vR 45, vI (bi (0 < sumAll K)), vI (w32 (2 * g1 45 4)), vI 1, vI 1, vX 2] [] g1 := by
    intro g1 hx1
    rw [h2Nm hK (hu.m hx1)]
    refine loopN (P := fun n g' => mfr g g' ∧ 1 ≤ n ∧ ∀ j, 1 ≤ j → j < n → ¬ mgQ K j) 4 (fun n g' => ∀ (v3 v4 : Int) (u5 : pV), v3 = ((2 * nP K) ^ (n - 1) : Nat) → v4 = n → EV e mX8_margin (QM g (mgA K) 0) 30 [vR 45, vI (bi (0 < sumAll K)), vI ((2 * nP K : Nat) : Int), vI v3, vI v4, u5] [] g') ?_ ?_ 1 g1 (by decide) ⟨hx1, Nat.le_refl _, fun j h1 h2 => absurd h1 (Nat.not_le.mpr h2)⟩ _ _ _ rfl rfl
    · rintro n g2 hn ⟨hx2, h1n, hno⟩ ih v3 v4 u5 rfl rfl
      have n3 : ¬ (3 : Int) < (n : Int) := by clear ih; omega
      have n9 : (n : Int) < 2147483647 := by clear ih; omega
      have hn3 : n ≤ 3 := by clear ih; omega
      have hpw := pw16 (w := 2 * nP K) (n := n) (by clear ih; omega) hn3
      have hw0 : ((2 * nP K : Nat) : Int) ≠ 0 := by clear ih; omega
      have epw : (2 * nP K) ^ (n - 1) * (2 * nP K) = (2 * nP K) ^ n := by
        rw [← Nat.pow_succ, show (n - 1).succ = n by clear ih; omega]
      have ew : w32 ((((2 * nP K) ^ (n - 1) : Nat) : Int) * ((2 * nP K : Nat) : Int)) = (((2 * nP K) ^ n : Nat) : Int) := by
        rw [← Int.natCast_mul, epw]
        exact w32_of (Int.le_trans (by decide) (Int.natCast_nonneg _)) (Int.lt_of_le_of_lt (Int.ofNat_le.mpr hpw) (by decide))
      have h3 : ∀ k, k < (2 * nP K) ^ n → k / (2 * nP K) / (2 * nP K) < 2 * nP K := fun k hk => by
        have h9 : k < (2 * nP K) ^ 3 := Nat.lt_of_lt_of_le hk (Nat.pow_le_pow_right (by clear ih ew; omega) hn3)
        have e3 : (2 * nP K) ^ 3 = 2 * nP K * (2 * nP K) * (2 * nP K) := by rw [Nat.pow_succ, Nat.pow_two]
        rw [e3] at h9
        exact Nat.div_lt_of_lt_mul (Nat.div_lt_of_lt_mul (by rw [← Nat.mul_assoc]; exact h9))
      refine b_X8_margin_30 (fun z => absurd z n3) (fun _ => ?_)
      refine b_X8_margin_36 ?_
      rw [ew]
      generalize hM : (2 * nP K) ^ n = M at hpw h3
      clear ew epw
      refine loopN (P := fun k g' => mfr g g' ∧ ∀ j, j < k → ∀ h, smG (2 * nP K) n j (ptC K) = some h → ¬ mgD K h) M (fun k g' => ∀ (v5 : Int), v5 = k → EV e mX8_margin (QM g (mgA K) 0) 43 [vR 45, vI (bi (0 < sumAll K)), vI ((2 * nP K : Nat) : Int), vI M, vI n, vI v5] [] g') ?_ ?_ 0 g2 (Nat.zero_le _) ⟨hx2, fun j hj => absurd hj (Nat.not_lt_zero _)⟩ _ rfl
      · rintro k g3 hk ⟨hx3, hall⟩ ih2 v5 rfl
        have k9 : (k : Int) < 2147483647 := by clear ih ih2; omega
        have hkc : k < 100000 := by clear ih ih2; omega
        have hkd : k / (2 * nP K) < 100000 := Nat.lt_of_le_of_lt (Nat.div_le_self _ _) hkc
        have a0 : w32 ((k : Int).tmod ((2 * nP K : Nat) : Int)) = ((rsT (2 * nP K) k 0 % (2 * nP K) : Nat) : Int) := wmod hkc
        have a1 : w32 ((w32 ((k : Int).tdiv ((2 * nP K : Nat) : Int))).tmod ((2 * nP K : Nat) : Int)) = ((rsT (2 * nP K) k 1 % (2 * nP K) : Nat) : Int) := by rw [wdiv hkc]; exact wmod hkd
        have a2 : w32 ((w32 ((k : Int).tdiv ((2 * nP K : Nat) : Int))).tdiv ((2 * nP K : Nat) : Int)) = ((rsT (2 * nP K) k 2 % (2 * nP K) : Nat) : Int) := by
          rw [wdiv hkc, wdiv hkd]
          have e2 : rsT (2 * nP K) k 2 = k / (2 * nP K) / (2 * nP K) := rfl
          rw [e2, Nat.mod_eq_of_lt (h3 k hk)]
        generalize hG : (cset (cset (cset g3 72 (fup (g3 72) 0 (w32 ((k : Int).tmod ((2 * nP K : Nat) : Int))))) 72 (fup (fup (g3 72) 0 (w32 ((k : Int).tmod ((2 * nP K : Nat) : Int)))) 1 (w32 ((w32 ((k : Int).tdiv ((2 * nP K : Nat) : Int))).tmod ((2 * nP K : Nat) : Int))))) 72 (fup (fup (fup (g3 72) 0 (w32 ((k : Int).tmod ((2 * nP K : Nat) : Int)))) 1 (w32 ((w32 ((k : Int).tdiv ((2 * nP K : Nat) : Int))).tmod ((2 * nP K : Nat) : Int)))) 2 (w32 ((w32 ((k : Int).tdiv ((2 * nP K : Nat) : Int))).tdiv ((2 * nP K : Nat) : Int))))) = gG
        have hxG : mfr g gG := by
          rw [← hG]
          exact ((hx3.tr (mset _ (by decide))).tr (mset _ (by decide))).tr (mset _ (by decide))
        have hcG : ∀ i, i < n → gG 72 i = ((rsT (2 * nP K) k i % (2 * nP K) : Nat) : Int) := by
          intro i hi
          have e72 : gG 72 = fup (fup (fup (g3 72) 0 (w32 ((k : Int).tmod ((2 * nP K : Nat) : Int)))) 1 (w32 ((w32 ((k : Int).tdiv ((2 * nP K : Nat) : Int))).tmod ((2 * nP K : Nat) : Int)))) 2 (w32 ((w32 ((k : Int).tdiv ((2 * nP K : Nat) : Int))).tdiv ((2 * nP K : Nat) : Int))) := by rw [← hG, cset_self]
          rw [e72, a0, a1, a2]
          clear a0 a1 a2 e72 hG ih ih2
          rcases (show i = 0 ∨ i = 1 ∨ i = 2 by omega) with rfl | rfl | rfl
          · rw [fup_ne _ _ (by decide), fup_ne _ _ (by decide), fup_self]
          · rw [fup_ne _ _ (by decide), fup_self]
          · rw [fup_self]
        refine b_X8_margin_43 (fun z => absurd (Int.ofNat_lt.mpr hk) (Int.not_lt.mpr z)) (fun _ => ?_)
        refine b_X8_margin_49 hw0 (by rw [hG]; exact m_isOther (c := k) he7 hK (hu.m hxG) hn3 hcG) (fun x g4 hx => ?_)
        obtain ⟨hx, hf4⟩ := hx
        have hx4 := hxG.tr hf4.m
        clear hG a0 a1 a2
        rcases hx with ⟨rfl, h, hS, hD⟩ | ⟨rfl, hS⟩
        · have hq := mgQ_n (sm_A h8.1 n k _ h hK.bd hS) hD hno
          refine b_X8_margin_90 (fun z => absurd z (by decide)) (fun _ => ?_)
          exact b_X8_margin_93 (rm_ok rfl (mgA_at ⟨h1n, hn3⟩ hq hno) hx4)
        · refine b_X8_margin_90 (fun _ => ?_) (fun z => absurd rfl z)
          refine b_X8_margin_96 (ih2 _ ⟨hx4, fun j hj h' hS' => ?_⟩ _ (w32n k k9))
          by_cases ej : j = k
          · subst ej; exact hS h' hS'
          · exact hall j (by clear ih ih2; omega) h' hS'
      · rintro g3 ⟨hx3, hall⟩ v5 rfl
        have hnq : ¬ mgQ K n := fun hq => by
          obtain ⟨c, h, c1, c2, c3, c4⟩ := mgQ_B hK hq
          rw [hM] at c1
          exact hall c c1 h c3 c4
        refine b_X8_margin_43 (fun _ => ?_) (fun z => absurd (Int.le_refl _) z)
        refine b_X8_margin_102 (ih _ ⟨hx3, Nat.le_succ_of_le h1n, fun j h1 h2 => if e : j = n then e ▸ hnq else hno j h1 (by clear ih; omega)⟩ _ _ _ (by rw [Nat.add_sub_cancel, hM]) (w32n n n9))
    · rintro g2 ⟨hx2, h1n, hno⟩ v3 v4 u5 rfl rfl
      refine b_X8_margin_30 (fun _ => ?_) (fun z => absurd (by decide) z)
      exact b_X8_margin_108 (rm_ok rfl (mgA_no hno) hx2)
  refine b_X8_margin_0 (m_sumAll he7 hK hu0) (fun x g1 hx => ?_)
  obtain ⟨rfl, hf1⟩ := hx
  have hx1 := (thr g).tr hf1.m
  refine b_X8_margin_9 (fun z => ?_) (fun z => ?_)
  · have e0 : bi (0 < sumAll K) = 0 := bi_neg (by omega)
    refine b_X8_margin_16 ?_
    have h := go g1 hx1
    rw [e0] at h
    exact h
  · have e1 : bi (0 < sumAll K) = 1 := bi_pos (by omega)
    refine b_X8_margin_12 ?_
    have h := go g1 hx1
    rw [e1] at h
    exact h
