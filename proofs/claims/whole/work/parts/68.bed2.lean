theorem m_bedtime {d : Nat} {g : pG} {K : tK} {t p : Int} (hd : 11 ≤ d) (hK : KOK K) (hu : SM g K) : CT d mX8_bedtime [vR 45, vI t, vI p] g (QML g (aL (rBd t p) (aBd K t p)) (rBd t p)) := by
  refine ct_in (L := [vR 45, vI t, vI p, vX 2, vX 2, vX 2, vX 2, vX 2, vX 2, vX 2, vX 2, vX 2]) (by omega) (Nat.le_of_ble_eq_true rfl) rfl (fun e he => ?_)
  have h7 := hK.1
  have r0 := wrN_cases t 2 20
  have r1 := rBd_cases t p
  have r2 := rW_cases p 1
  have he6 : 6 ≤ e := by omega
  have he1 : 1 ≤ e := by omega
  have go : rBd t p = 0 → (2 ≤ t ∧ t ≤ 20) → (0 ≤ p ∧ p ≤ 1) → ∀ v3 g0, mfr g g0 → EV e mX8_bedtime (QML g (aL (rBd t p) (aBd K t p)) (rBd t p)) 33 [vR 45, vI t, vI p, vI v3, vX 2, vX 2, vX 2, vX 2, vX 2, vX 2, vX 2, vX 2] [] g0 := by
    intro hr0 ht hp v3 g0 hf0
    clear r0 r1 r2
    obtain ⟨u, hu9⟩ : ∃ u : Nat, t = (u : Int) + 1 := ⟨(t - 1).toNat, by omega⟩
    have hu20 : 1 ≤ u ∧ u ≤ 20 := by omega
    have hv20 : 1 ≤ u + 1 ∧ u + 1 ≤ 20 := by omega
    have eA : bdA K t = abvN K u (2 ^ nC K) := by unfold bdA; rw [show t.toNat - 1 = u by omega]
    have eB : bdB K t = (u + 1) ^ nC K := by unfold bdB; rw [show t.toNat = u + 1 by omega]
    have et : t = ((u + 1 : Nat) : Int) := by omega
    have et1 : w32 (t - 1) = (u : Int) := by rw [w32_of (by omega) (by omega)]; omega
    have h2 := two8 (n := nC K) (by omega)
    have hsh := zshl1 (n := nC K) (by clear h2; omega)
    have hAb := bdA_bd (K := K) hu20 h7
    have hAn : aBd K t p = sel p ((abvN K u (2 ^ nC K) / Nat.gcd (abvN K u (2 ^ nC K)) ((u + 1) ^ nC K) : Nat) : Int) (((u + 1) ^ nC K / Nat.gcd (abvN K u (2 ^ nC K)) ((u + 1) ^ nC K) : Nat) : Int) := by unfold aBd; rw [eA, eB]
    rw [hAn]
    clear hAn eA eB
    generalize hM : 2 ^ nC K = M at h2 hsh hAb
    have hpw := pw7 (k := nC K) hv20 h7
    have hm0 := (hu.m hf0).1
    refine b_X8_bedtime_33 ?_
    refine loopN (P := fun _ g' => g' = g0) (nC K) (fun c g' => ∀ (l6 v8 : Int), l6 = ((u + 1) ^ c : Nat) → v8 = c → EV e mX8_bedtime (QML g (aL (rBd t p) (sel p ((abvN K u M / Nat.gcd (abvN K u M) ((u + 1) ^ nC K) : Nat) : Int) (((u + 1) ^ nC K / Nat.gcd (abvN K u M) ((u + 1) ^ nC K) : Nat) : Int))) (rBd t p)) 42 [vR 45, vI t, vI p, vI v3, vL 0, vX 2, vL l6, vX 2, vI v8, vX 2, vX 2, vX 2] [] g') ?_ ?_ 0 g0 (Nat.zero_le _) rfl _ _ rfl rfl
    · rintro c _ hc rfl ih l6 v8 rfl rfl
      have hc9 : (c : Int) < 2147483647 := by clear ih hsh et1; omega
      have hb := (pw7 (k := c + 1) hv20 (Nat.le_trans hc h7)).2
      have ew : w64 ((((u + 1) ^ c : Nat) : Int) * t) = (((u + 1) ^ (c + 1) : Nat) : Int) := by
        rw [et, ← Int.natCast_mul, ← Nat.pow_succ]
        exact w64n (Nat.lt_of_le_of_lt hb (by decide))
      refine b_X8_bedtime_42 (fun z => absurd (Int.ofNat_lt.mpr hc) (by rw [hm0] at z; exact Int.not_lt.mpr z)) (fun _ => ?_)
      refine b_X8_bedtime_51 ?_
      rw [ew]
      exact ih _ rfl _ _ rfl (w32n c hc9)
    · rintro _ rfl l6 v8 rfl rfl
      refine b_X8_bedtime_42 (fun _ => ?_) (fun z => absurd (by rw [hm0]; exact Int.le_refl _) z)
      refine b_X8_bedtime_64 ?_
      refine loopN (P := fun b g' => mfr g g') M (fun b g' => ∀ (l4 v8 : Int) (u9 u11 : pV), l4 = (abvN K u b : Nat) → v8 = b → EV e mX8_bedtime (QML g (aL (rBd t p) (sel p ((abvN K u M / Nat.gcd (abvN K u M) ((u + 1) ^ nC K) : Nat) : Int) (((u + 1) ^ nC K / Nat.gcd (abvN K u M) ((u + 1) ^ nC K) : Nat) : Int))) (rBd t p)) 67 [vR 45, vI t, vI p, vI v3, vL l4, vX 2, vL (((u + 1) ^ nC K : Nat) : Int), vX 2, vI v8, u9, vX 2, u11] [] g') ?_ ?_ 0 _ (Nat.zero_le _) hf0 _ _ _ _ rfl rfl
      · rintro b g1 hb hf1 ih l4 v8 u9 u11 rfl rfl
        have hu1 := hu.m hf1
        have hm := hu1.1
        have hb9 : (b : Int) < 2147483647 := by clear ih hsh et1; omega
        have hbl : ¬ (M : Int) ≤ (b : Int) := Int.not_le.mpr (Int.ofNat_lt.mpr hb)
        refine b_X8_bedtime_67 (fun c => absurd (by rw [hm, hsh] at c; exact c) hbl) (fun _ => ?_)
        refine b_X8_bedtime_78 ?_
        refine loopN (P := fun _ g' => g' = g1) (nC K) (fun c g' => ∀ (l9 v11 : Int), l9 = (oddN u b c : Nat) → v11 = c → EV e mX8_bedtime (QML g (aL (rBd t p) (sel p ((abvN K u M / Nat.gcd (abvN K u M) ((u + 1) ^ nC K) : Nat) : Int) (((u + 1) ^ nC K / Nat.gcd (abvN K u M) ((u + 1) ^ nC K) : Nat) : Int))) (rBd t p)) 84 [vR 45, vI t, vI p, vI v3, vL (abvN K u b : Nat), vX 2, vL (((u + 1) ^ nC K : Nat) : Int), vX 2, vI b, vL l9, vX 2, vI v11] [] g') ?_ ?_ 0 g1 (Nat.zero_le _) rfl _ _ rfl rfl
        · rintro c _ hc rfl ih2 l9 v11 rfl rfl
          have hc9 : (c : Int) < 2147483647 := by clear ih ih2 hsh et1; omega
          have hob := (oddN_bd (b := (b : Int)) (n := c + 1) hu20 (Nat.le_trans hc h7)).2
          have hob0 := (oddN_bd (b := (b : Int)) (n := c) hu20 (Nat.le_trans (Nat.le_of_lt hc) h7)).2
          refine b_X8_bedtime_84 (fun z => absurd (Int.ofNat_lt.mpr hc) (by rw [hm] at z; exact Int.not_lt.mpr z)) (fun _ => ?_)
          refine b_X8_bedtime_93 (m_hasBit he1) (fun x g2 hx => ?_)
          obtain ⟨rfl, rfl⟩ := hx
          refine b_X8_bedtime_102 (fun c2 => ?_) (fun c2 => ?_)
          · have eo : oddN u b (c + 1) = oddN u b c * u := if_neg (bi_eq0 c2)
            refine b_X8_bedtime_109 ?_
            rw [et1, ← Int.natCast_mul, ← eo, w64n (Nat.lt_of_le_of_lt hob (by decide))]
            exact ih2 _ rfl _ _ rfl (w32n c hc9)
          · have eo : oddN u b (c + 1) = oddN u b c := if_pos (bi_ne0 c2)
            refine b_X8_bedtime_105 ?_
            rw [Int.mul_one, w64n (Nat.lt_of_le_of_lt hob0 (by decide))]
            exact ih2 _ rfl _ _ (by rw [eo]) (w32n c hc9)
        · rintro _ rfl l9 v11 rfl rfl
          refine b_X8_bedtime_84 (fun _ => ?_) (fun z => absurd (by rw [hm]; exact Int.le_refl _) z)
          refine b_X8_bedtime_122 (m_think he1 hK hu1) (fun g3 hx => ?_)
          obtain ⟨hp3, h83, hf3⟩ := hx
          refine b_X8_bedtime_126 (m_passAll he6 hK (hu1.frm hf3) hp3) (fun g4 hx => ?_)
          obtain ⟨hp4, hf4⟩ := hx
          have hx4 := hf1.tr (hf3.m.tr hf4.m51)
          refine b_X8_bedtime_132 (m_isFor (Nat.le_trans (by decide) he6) hp4) (fun x g5 hx => ?_)
          obtain ⟨rfl, rfl⟩ := hx
          refine b_X8_bedtime_138 (fun c2 => ?_) (fun c2 => ?_)
          · refine b_X8_bedtime_146 ?_
            rw [Int.add_zero, w64n (Nat.lt_of_le_of_lt (hAb b (Nat.le_of_lt hb)) (by decide))]
            exact ih _ hx4 _ _ _ _ (by rw [abvN_0 (bi_eq0 c2)]) (w32n b hb9)
          · refine b_X8_bedtime_141 ?_
            have e1 := abvN_1 (u := u) (bi_ne0 c2)
            rw [← Int.natCast_add, ← e1, w64n (Nat.lt_of_le_of_lt (hAb (b + 1) hb) (by decide))]
            exact ih _ hx4 _ _ _ _ rfl (w32n b hb9)
      · rintro g1 hf1 l4 v8 u9 u11 rfl rfl
        have hm := (hu.m hf1).1
        have hA1 := hAb M (Nat.le_refl _)
        have hg : 0 < Nat.gcd (abvN K u M) ((u + 1) ^ nC K) := Nat.gcd_pos_of_pos_right _ hpw.1
        refine b_X8_bedtime_67 (fun _ => ?_) (fun c => absurd (by rw [hm, hsh]; exact Int.le_refl _) c)
        refine b_X8_bedtime_156 (fun c => ?_) (fun c => ?_)
        · refine b_X8_bedtime_166 (m_divisor he1 (Nat.lt_of_le_of_lt hA1 (by decide)) (Nat.lt_of_le_of_lt hpw.2 (by decide))) (fun x g3 hx => ?_)
          obtain ⟨rfl, rfl⟩ := hx
          have hne : ((Nat.gcd (abvN K u M) ((u + 1) ^ nC K) : Nat) : Int) ≠ 0 := fun z => Nat.ne_of_gt hg (Int.ofNat.inj z)
          have q1 : w64 (((abvN K u M : Nat) : Int).tdiv ((Nat.gcd (abvN K u M) ((u + 1) ^ nC K) : Nat) : Int)) = ((abvN K u M / Nat.gcd (abvN K u M) ((u + 1) ^ nC K) : Nat) : Int) := w64n (Nat.lt_of_le_of_lt (Nat.le_trans (Nat.div_le_self _ _) hA1) (by decide))
          have q2 : w64 ((((u + 1) ^ nC K : Nat) : Int).tdiv ((Nat.gcd (abvN K u M) ((u + 1) ^ nC K) : Nat) : Int)) = (((u + 1) ^ nC K / Nat.gcd (abvN K u M) ((u + 1) ^ nC K) : Nat) : Int) := w64n (Nat.lt_of_le_of_lt (Nat.le_trans (Nat.div_le_self _ _) hpw.2) (by decide))
          refine b_X8_bedtime_173 (fun c2 => ?_) (fun c2 => ?_)
          · refine b_X8_bedtime_187 hne ?_
            rw [q2]
            exact ⟨_, rfl, (aL_0 hr0 (sel1 c2 rfl)).symm, by rw [hr0, refM0]; exact hf1⟩
          · refine b_X8_bedtime_179 hne ?_
            rw [q1]
            exact ⟨_, rfl, (aL_0 hr0 (sel0 (Classical.not_not.mp c2) rfl)).symm, by rw [hr0, refM0]; exact hf1⟩
        · have hz := lcmp0.mp (Classical.not_not.mp c)
          refine b_X8_bedtime_163 ⟨_, rfl, (aL_0 hr0 ?_).symm, by rw [hr0, refM0]; exact hf1⟩
          rw [hz, Nat.gcd_zero_left, Nat.zero_div, Nat.div_self hpw.1]
          by_cases c2 : p = 0
          · exact sel0 c2 c2.symm
          · exact sel1 c2 (by omega)
  have hB : wrB (wrN t 2 20) p 1 = rBd t p := by
    clear go
    unfold wrB
    by_cases h : wrN t 2 20 = 0 ∧ ¬ (0 ≤ p ∧ p ≤ 1)
    · rw [if_pos h]; omega
    · rw [if_neg h]; omega
  refine b_X8_bedtime_0 (m_wrongNumber he1) (fun x g0 hx => ?_)
  obtain ⟨rfl, rfl⟩ := hx
  refine b_X8_bedtime_12 (m_wrongBit (by omega)) (fun x g1 hx => ?_)
  obtain ⟨rfl, rfl⟩ := hx
  rw [hB]
  refine b_X8_bedtime_17 (fun c => ?_) (fun c => ?_)
  · exact go (by clear go; omega) (by clear go; omega) (by clear go; omega) _ _ (thr g)
  · have hne : rBd t p ≠ 0 := by clear go; omega
    have hrf : isRef (rBd t p) := by clear go; unfold isRef; omega
    have hb9 : -10 ≤ rBd t p ∧ rBd t p ≤ 0 := by clear go; omega
    refine b_X8_bedtime_22 (m_refuse he1 hrf) (fun x g2 hx => ?_)
    obtain ⟨rfl, rfl⟩ := hx
    refine b_X8_bedtime_30 ⟨_, rfl, ?_, (thr g).ref _⟩
    rw [aL_n rfl hne rfl]
    exact w64_of (by clear go hB r0 r1 r2; omega) (by clear go hB r0 r1 r2; omega)
