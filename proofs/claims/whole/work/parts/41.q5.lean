def pdif (f f' : tF) : Nat → Int
  | 0 => 0
  | n + 1 => pdif f f' n + (if f n = f' n then 0 else 1)
theorem pdif_bd (f f' : tF) : ∀ n, 0 ≤ pdif f f' n ∧ pdif f f' n ≤ n := by
  intro n
  induction n with
  | zero => exact ⟨Int.le_refl _, Int.le_refl _⟩
  | succ n ih => unfold pdif; split <;> omega
theorem pdif_0 {f f' : tF} : ∀ n, pdif f f' n ≤ 0 ↔ ∀ j, j < n → f j = f' j := by
  intro n
  induction n with
  | zero => exact ⟨fun _ j hj => absurd hj (by omega), fun _ => Int.le_refl _⟩
  | succ n ih =>
    have hb := pdif_bd f f' n
    unfold pdif
    by_cases h : f n = f' n
    · rw [if_pos h, Int.add_zero, ih]
      exact ⟨fun a j hj => if e : j = n then e ▸ h else a j (by omega), fun a j hj => a j (by omega)⟩
    · rw [if_neg h]
      exact ⟨fun a => by omega, fun a => absurd (a n (by omega)) h⟩
/-- what is kept apart -/
def AL (g : pG) (N : Nat) (f : tF) : Prop := ∀ j, j < N → g 71 j = f j
theorem AL.frm {g g' : pG} {N : Nat} {f : tF} (h : AL g N f) (hf : fr g g' 51) : AL g' N f := fun j hj => by rw [hf 71 (by decide)]; exact h j hj
theorem AL.put {g : pG} {k : Nat} {f : tF} {v : Int} (h : AL g k f) (hv : v = f k) : AL (cset g 71 (fup (g 71) k v)) (k + 1) f := fun j hj => by
  rw [cset_self]
  by_cases e : j = k
  · rw [e, fup_self]; exact hv
  · rw [fup_ne _ _ e]; exact h j (by omega)
theorem NW.ne {g : pG} {N c : Nat} {f h : tF} (hp : NW g N f) (hc : c ≠ 45 ∧ c ≠ 51) : NW (cset g c h) N f := by
  obtain ⟨h1, h2, h3, h4, h5⟩ := hp
  exact ⟨by rw [cset_ne _ _ (Ne.symm hc.1)]; exact h1, h2, h3, fun k hk => by rw [cset_ne _ _ (Ne.symm hc.2)]; exact h4 k hk, h5⟩
def difK (K : tK) (k : Nat) : Int := pdif (downF K k (ptC K)) (downF K (k + 1) (ptC K)) (nP K)
theorem difK_chg (K : tK) (k : Nat) : (difK K k ≤ 0 ∧ chg K k = 0) ∨ (0 < difK K k ∧ chg K k = 1) := by
  have h := pdif_0 (f := downF K k (ptC K)) (f' := downF K (k + 1) (ptC K)) (nP K)
  by_cases c : difK K k ≤ 0
  · left
    refine ⟨c, bi_neg (fun z => z (fun j hj => ?_))⟩
    exact (h.mp c j hj).symm
  · right
    refine ⟨by omega, bi_pos (fun z => c (h.mpr (fun j hj => (z j hj).symm)))⟩
theorem m_dead {d : Nat} {g : pG} {K : tK} (hd : 11 ≤ d) (hK : KOK K) (hu : SM g K) : CT d mX8_dead [vR 45] g (QM g (deadA K (nC K)) 0) := by
  refine ct_in (L := [vR 45, vX 2, vX 2, vX 2, vX 2]) (by omega) (Nat.le_of_ble_eq_true rfl) rfl (fun e he => ?_)
  have h7 := hK.1
  have h8 := hK.2.2.1
  have hu0 := hu.m (thr g)
  refine b_X8_dead_0 (m_think (by omega) hK hu0) (fun g1 hx => ?_)
  obtain ⟨hp1, h81, hf1⟩ := hx
  refine b_X8_dead_12 ?_
  refine loopN (P := fun k g' => NW g' (nP K) (downF K k (ptC K)) ∧ mfr g g') (nC K) (fun k g' => ∀ (v1 w : Int) (u3 u4 : pV), v1 = deadA K k → w = k → EV e mX8_dead _ 14 [vR 45, vI v1, vI w, u3, u4] [] g') ?_ ?_ 0 g1 (Nat.zero_le _) ⟨hp1, (thr g).tr hf1.m⟩ _ _ _ _ rfl rfl
  · rintro k g2 hk ⟨hp2, hf2⟩ ih v1 w u3 u4 hv1 rfl
    have hu2 := hu.m hf2
    have hm := hu2.1
    refine b_X8_dead_14 (fun c => absurd c (by omega)) (fun c => ?_)
    refine b_X8_dead_22 ?_
    refine loopN (P := fun i g' => NW g' (nP K) (downF K k (ptC K)) ∧ mfr g g' ∧ AL g' i (downF K k (ptC K))) (nP K) (fun i g' => ∀ (w4 : Int), w4 = i → EV e mX8_dead _ 27 [vR 45, vI v1, vI k, vI 0, vI w4] [] g') ?_ ?_ 0 g2 (Nat.zero_le _) ⟨hp2, hf2, fun j hj => absurd hj (by omega)⟩ _ rfl
    · rintro i g3 hi ⟨hp3, hf3, ha3⟩ ih2 w4 rfl
      have hm3 := hp3.1
      have hr := hp3.rd hi
      refine b_X8_dead_27 (fun c27 => ?_) (fun c27 => ?_)
      · exfalso
        omega
      · refine b_X8_dead_36 (by omega) (by omega) (by omega) ?_
        try simp (disch := omega) only [w32_of, Int.toNat_natCast, tn0, tn1, tn2]
        exact ih2 _ ⟨hp3.ne (by decide), hf3.tr (mset _ (by decide)), ha3.put hr⟩ _ (by omega)
    · rintro g3 ⟨hp3, hf3, ha3⟩ w4 rfl
      have hm3 := hp3.1
      refine b_X8_dead_27 (fun c => ?_) (fun c => absurd (by omega) c)
      refine b_X8_dead_56 (m_pass (by omega) hK (hu.m hf3) hp3 hk) (fun g4 hx => ?_)
      obtain ⟨hp4, hf4⟩ := hx
      have ha4 := ha3.frm hf4
      have hD := hf3.tr hf4.m51
      have hp4 : NW g4 (nP K) (downF K (k + 1) (ptC K)) := hp4
      refine b_X8_dead_61 ?_
      refine loopN (P := fun _ g' => g' = g4) (nP K) (fun i g' => ∀ (v3 w4 : Int), v3 = pdif (downF K k (ptC K)) (downF K (k + 1) (ptC K)) i → w4 = i → EV e mX8_dead _ 64 [vR 45, vI v1, vI k, vI v3, vI w4] [] g') ?_ ?_ 0 g4 (Nat.zero_le _) rfl _ _ rfl rfl
      · rintro i _ hi rfl ih2 v3 w4 hv3 rfl
        have hm4 := hp4.1
        have hr := hp4.rd hi
        have hr2 := ha4 i hi
        have hb := pdif_bd (downF K k (ptC K)) (downF K (k + 1) (ptC K)) i
        refine b_X8_dead_64 (fun c64 => ?_) (fun c64 => ?_)
        · exfalso
          omega
        · refine b_X8_dead_73 (by omega) (by omega) (by omega) (fun c73 => ?_) (fun c73 => ?_)
          · try simp (disch := omega) only [w32_of, Int.toNat_natCast, tn0, tn1, tn2] at c73 ⊢
            refine b_X8_dead_95 ?_
            try simp (disch := omega) only [w32_of, Int.toNat_natCast, tn0, tn1, tn2]
            first | exact ih2 _ rfl _ _ (by unfold pdif; rw [if_pos (by omega)]; omega) (by omega) | exact ih2 _ rfl _ _ (by unfold pdif; rw [if_neg (by omega)]; omega) (by omega)
          · try simp (disch := omega) only [w32_of, Int.toNat_natCast, tn0, tn1, tn2] at c73 ⊢
            refine b_X8_dead_91 ?_
            try simp (disch := omega) only [w32_of, Int.toNat_natCast, tn0, tn1, tn2]
            first | exact ih2 _ rfl _ _ (by unfold pdif; rw [if_pos (by omega)]; omega) (by omega) | exact ih2 _ rfl _ _ (by unfold pdif; rw [if_neg (by omega)]; omega) (by omega)
      · rintro _ rfl v3 w4 hv3 rfl
        have hm4 := hp4.1
        have hd := difK_chg K k
        have hv3 : v3 = difK K k := hv3
        have hc := deadA_cases K k
        have hb := deadF_bd K k
        refine b_X8_dead_64 (fun c64 => ?_) (fun c64 => ?_)
        · refine b_X8_dead_104 (fun c104 => ?_) (fun c104 => ?_)
          · refine b_X8_dead_113 (fun c113 => ?_) (fun c113 => ?_)
            · refine b_X8_dead_121 ?_
              try simp (disch := omega) only [w32_of, Int.toNat_natCast, tn0, tn1, tn2]
              first | exact ih _ ⟨hp4, hD⟩ _ _ _ _ (by have e1 := deadF_1 (K := K) (k := k) (by omega); have hc2 := deadA_cases K (k + 1); omega) (by omega) | exact ih _ ⟨hp4, hD⟩ _ _ _ _ (by have e1 := deadF_0 (K := K) (k := k) (by omega); have hc2 := deadA_cases K (k + 1); omega) (by omega)
            · refine b_X8_dead_117 ?_
              try simp (disch := omega) only [w32_of, Int.toNat_natCast, tn0, tn1, tn2]
              first | exact ih _ ⟨hp4, hD⟩ _ _ _ _ (by have e1 := deadF_1 (K := K) (k := k) (by omega); have hc2 := deadA_cases K (k + 1); omega) (by omega) | exact ih _ ⟨hp4, hD⟩ _ _ _ _ (by have e1 := deadF_0 (K := K) (k := k) (by omega); have hc2 := deadA_cases K (k + 1); omega) (by omega)
          · refine b_X8_dead_108 ?_
            try simp (disch := omega) only [w32_of, Int.toNat_natCast, tn0, tn1, tn2]
            first | exact ih _ ⟨hp4, hD⟩ _ _ _ _ (by have e1 := deadF_1 (K := K) (k := k) (by omega); have hc2 := deadA_cases K (k + 1); omega) (by omega) | exact ih _ ⟨hp4, hD⟩ _ _ _ _ (by have e1 := deadF_0 (K := K) (k := k) (by omega); have hc2 := deadA_cases K (k + 1); omega) (by omega)
        · exfalso
          omega
  · rintro g2 ⟨hp2, hf2⟩ v1 w u3 u4 hv1 rfl
    have hm := (hu.m hf2).1
    refine b_X8_dead_14 (fun c14 => ?_) (fun c14 => ?_)
    · refine b_X8_dead_129 ?_
      exact rm_ok rfl hv1.symm hf2
    · exfalso
      omega
theorem m_heard {d : Nat} {g : pG} {K : tK} (hd : 11 ≤ d) (hK : KOK K) (hu : SM g K) : CT d mX8_heard [vR 45] g (QM g (heardF K (nC K)) 0) := by
  refine ct_in (L := [vR 45, vX 2, vX 2, vX 2, vX 2]) (by omega) (Nat.le_of_ble_eq_true rfl) rfl (fun e he => ?_)
  have h7 := hK.1
  have h8 := hK.2.2.1
  have hu0 := hu.m (thr g)
  refine b_X8_heard_0 (m_think (by omega) hK hu0) (fun g1 hx => ?_)
  obtain ⟨hp1, h81, hf1⟩ := hx
  refine b_X8_heard_11 ?_
  refine loopN (P := fun k g' => NW g' (nP K) (downF K k (ptC K)) ∧ mfr g g') (nC K) (fun k g' => ∀ (v1 w : Int) (u3 u4 : pV), v1 = heardF K k → w = k → EV e mX8_heard _ 13 [vR 45, vI v1, vI w, u3, u4] [] g') ?_ ?_ 0 g1 (Nat.zero_le _) ⟨hp1, (thr g).tr hf1.m⟩ _ _ _ _ rfl rfl
  · rintro k g2 hk ⟨hp2, hf2⟩ ih v1 w u3 u4 hv1 rfl
    have hu2 := hu.m hf2
    have hm := hu2.1
    refine b_X8_heard_13 (fun c => absurd c (by omega)) (fun c => ?_)
    refine b_X8_heard_21 ?_
    refine loopN (P := fun i g' => NW g' (nP K) (downF K k (ptC K)) ∧ mfr g g' ∧ AL g' i (downF K k (ptC K))) (nP K) (fun i g' => ∀ (w3 : Int), w3 = i → EV e mX8_heard _ 23 [vR 45, vI v1, vI k, vI w3, u4] [] g') ?_ ?_ 0 g2 (Nat.zero_le _) ⟨hp2, hf2, fun j hj => absurd hj (by omega)⟩ _ rfl
    · rintro i g3 hi ⟨hp3, hf3, ha3⟩ ih2 w4 rfl
      have hm3 := (hu.m hf3).2.2.1
      have hr := hp3.rd hi
      refine b_X8_heard_23 (fun c23 => ?_) (fun c23 => ?_)
      · exfalso
        omega
      · refine b_X8_heard_31 (by omega) (by omega) (by omega) ?_
        try simp (disch := omega) only [w32_of, Int.toNat_natCast, tn0, tn1, tn2]
        exact ih2 _ ⟨hp3.ne (by decide), hf3.tr (mset _ (by decide)), ha3.put hr⟩ _ (by omega)
    · rintro g3 ⟨hp3, hf3, ha3⟩ w4 rfl
      have hm3 := (hu.m hf3).2.2.1
      refine b_X8_heard_23 (fun c => ?_) (fun c => absurd (by omega) c)
      refine b_X8_heard_49 (m_pass (by omega) hK (hu.m hf3) hp3 hk) (fun g4 hx => ?_)
      obtain ⟨hp4, hf4⟩ := hx
      have ha4 := ha3.frm hf4
      have hD := hf3.tr hf4.m51
      have hp4 : NW g4 (nP K) (downF K (k + 1) (ptC K)) := hp4
      have hm4 := (hu.m hD).2.2.1
      have hm0 := (hu.m hD).1
      refine b_X8_heard_54 ?_
      refine loopN (P := fun _ g' => g' = g4) (nP K) (fun i g' => ∀ (v3 w4 : Int), (v3 = 0 ∧ pdif (downF K k (ptC K)) (downF K (k + 1) (ptC K)) i ≤ 0) ∨ (v3 = 1 ∧ 0 < pdif (downF K k (ptC K)) (downF K (k + 1) (ptC K)) i) → w4 = i → EV e mX8_heard _ 59 [vR 45, vI v1, vI k, vI v3, vI w4] [] g') ?_ ?_ 0 g4 (Nat.zero_le _) rfl _ _ (Or.inl ⟨rfl, Int.le_refl _⟩) rfl
      · rintro i _ hi rfl ih2 v3 w4 hv3 rfl
        have hr := hp4.rd hi
        have hr2 := ha4 i hi
        have hb := pdif_bd (downF K k (ptC K)) (downF K (k + 1) (ptC K)) i
        have hs : (downF K k (ptC K) i = downF K (k + 1) (ptC K) i ∧ pdif (downF K k (ptC K)) (downF K (k + 1) (ptC K)) (i + 1) = pdif (downF K k (ptC K)) (downF K (k + 1) (ptC K)) i) ∨ (downF K k (ptC K) i ≠ downF K (k + 1) (ptC K) i ∧ pdif (downF K k (ptC K)) (downF K (k + 1) (ptC K)) (i + 1) = pdif (downF K k (ptC K)) (downF K (k + 1) (ptC K)) i + 1) := by
          by_cases h : downF K k (ptC K) i = downF K (k + 1) (ptC K) i
          · left; exact ⟨h, by show _ + (if _ then _ else _) = _; rw [if_pos h]; omega⟩
          · right; exact ⟨h, by show _ + (if _ then _ else _) = _; rw [if_neg h]⟩
        refine b_X8_heard_59 (fun c59 => ?_) (fun c59 => ?_)
        · exfalso
          omega
        · refine b_X8_heard_68 (fun c68 => ?_) (fun c68 => ?_)
          · refine b_X8_heard_89 ?_
            try simp (disch := omega) only [w32_of, Int.toNat_natCast, tn0, tn1, tn2]
            exact ih2 _ rfl _ _ (by omega) (by omega)
          · refine b_X8_heard_72 (by omega) (by omega) (by omega) (fun c72 => ?_) (fun c72 => ?_)
            · try simp (disch := omega) only [w32_of, Int.toNat_natCast, tn0, tn1, tn2] at c72 ⊢
              refine b_X8_heard_93 ?_
              try simp (disch := omega) only [w32_of, Int.toNat_natCast, tn0, tn1, tn2]
              exact ih2 _ rfl _ _ (by omega) (by omega)
            · try simp (disch := omega) only [w32_of, Int.toNat_natCast, tn0, tn1, tn2] at c72 ⊢
              refine b_X8_heard_89 ?_
              try simp (disch := omega) only [w32_of, Int.toNat_natCast, tn0, tn1, tn2]
              exact ih2 _ rfl _ _ (by omega) (by omega)
      · rintro _ rfl v3 w4 hv3 rfl
        have hd := difK_chg K k
        have hv3 : (v3 = 0 ∧ difK K k ≤ 0) ∨ (v3 = 1 ∧ 0 < difK K k) := hv3
        have hb := heardF_bd K k
        refine b_X8_heard_59 (fun c59 => ?_) (fun c59 => ?_)
        · refine b_X8_heard_101 (fun c101 => ?_) (fun c101 => ?_)
          · refine b_X8_heard_110 ?_
            try simp (disch := omega) only [w32_of, Int.toNat_natCast, tn0, tn1, tn2]
            exact ih _ ⟨hp4, hD⟩ _ _ _ _ (by unfold heardF; omega) (by omega)
          · refine b_X8_heard_106 ?_
            try simp (disch := omega) only [w32_of, Int.toNat_natCast, tn0, tn1, tn2]
            exact ih _ ⟨hp4, hD⟩ _ _ _ _ (by unfold heardF; omega) (by omega)
        · exfalso
          omega
  · rintro g2 ⟨hp2, hf2⟩ v1 w u3 u4 hv1 rfl
    have hm := (hu.m hf2).1
    refine b_X8_heard_13 (fun c13 => ?_) (fun c13 => ?_)
    · refine b_X8_heard_119 ?_
      exact rm_ok rfl hv1.symm hf2
    · exfalso
      omega
/-- needed -/
def rHas (K : tK) (v : Int) : Int := if 0 ≤ v ∧ v < nP K then 0 else -1
theorem rHas_cases (K : tK) (v : Int) : (0 ≤ v ∧ v < nP K ∧ rHas K v = 0) ∨ (¬ (0 ≤ v ∧ v < nP K) ∧ rHas K v = -1) := by
  unfold rHas; split
  · left; omega
  · right; omega
abbrev nedQ (K : tK) (p : Nat) (j : Nat) : Prop := bi (0 < psum (downF K (nC K) (fup (ptC K) p ((j : Int) - 9))) (nP K)) = 1
def nedA (K : tK) (p : Nat) : Int := if lfind (nedQ K p) 19 < 19 then (lfind (nedQ K p) 19 : Int) - 9 else -99
theorem x_needed {d : Nat} {g : pG} {K : tK} {v : Int} (hd : 8 ≤ d) (hK : KOK K) (hu : SU g 1 K) : CT d mX7_needed [vR 0, vI v] g (QX g (aR (rHas K v) (nedA K v.toNat)) (rHas K v)) := by
  refine ct_in (L := [vR 0, vI v, vX 2]) (by omega) (Nat.le_of_ble_eq_true rfl) rfl (fun e he => ?_)
  have h7 := hK.1
  have hN := hK.2.2.1
  have r1 := rHas_cases K v
  have b1 := bi_cases (0 ≤ v ∧ v < nP K)
  have loop : rHas K v = 0 → EV e mX7_needed (QX g (aR (rHas K v) (nedA K v.toNat)) (rHas K v)) 23 [vR 0, vI v, vI (-9)] [] g := by
    intro hr0
    obtain ⟨p, rfl⟩ := Int.eq_ofNat_of_zero_le (show 0 ≤ v by omega)
    rw [Int.toNat_natCast]
    refine loopN (P := fun k g' => xfr g g' ∧ ∀ j, j < k → ¬ nedQ K p j) 19 (fun k g' => ∀ (w : Int), w = (k : Int) - 9 → EV e mX7_needed _ 23 [vR 0, vI p, vI w] [] g') ?_ ?_ 0 g (Nat.zero_le _) ⟨xfr.rf, fun j hj => absurd hj (by omega)⟩ _ (by omega)
    · rintro k g2 hk ⟨hf2, hall⟩ ih w hw
      have hu2 := hu.x hf2
      have hm := hu2.1
      have hh : held w = (k : Int) - 9 := by unfold held; rw [if_neg (by omega), if_neg (by omega)]; exact hw
      refine b_X7_needed_23 (fun c23 => ?_) (fun c23 => ?_)
      · exfalso
        omega
      · refine b_X7_needed_29 (s_think (by omega) scr27 hK hu2) (fun g3 hx => ?_)
        obtain ⟨hp3, hf3⟩ := hx
        refine b_X7_needed_43 (s_put (by omega) pts_27 hp3 (by omega)) (fun g4 hx => ?_)
        obtain ⟨hp4, hf4⟩ := hx
        refine b_X7_needed_52 (by rw [(hu2.x ((hf3.x scr27).tr (hf4.x scr27))).1]; exact s_goDown (by omega) scr27 hK (hu2.x ((hf3.x scr27).tr (hf4.x scr27))) hp4 (Nat.le_refl _)) (fun g5 hx => ?_)
        obtain ⟨hp5, hf5⟩ := hx
        refine b_X7_needed_70 (s_isFor (by omega) pts_27 hp5) (fun x4 g6 hx => ?_)
        obtain ⟨hx, rfl⟩ := hx
        refine b_X7_needed_77 (fun c77 => ?_) (fun c77 => ?_)
        · refine b_X7_needed_82 ?_
          try simp (disch := omega) only [w32_of, Int.toNat_natCast, tn0, tn1, tn2]
          rw [hh] at hx
          have h1 : ¬ nedQ K p k := (fun z => by have z2 := hx.trans z; omega)
          exact ih _ ⟨hf2.tr ((hf3.x scr27).tr ((hf4.x scr27).tr (hf5.x scr27))), fun j hj => if h : j = k then h ▸ h1 else hall j (by omega)⟩ _ (by omega)
        · refine b_X7_needed_80 ?_
          rw [hh] at hx
          have h1 : nedQ K p k := hx.symm.trans (by have := bi_01 (0 < psum (downF K (nC K) (fup (ptC K) p ((k : Int) - 9))) (nP K)); omega)
          exact rx_ok hr0 (aR_0 hr0 (by unfold nedA; rw [lfind_hit hall h1 _ hk, if_pos hk]; exact hw.symm)) (hf2.tr ((hf3.x scr27).tr ((hf4.x scr27).tr (hf5.x scr27))))
    · rintro g2 ⟨hf2, hall⟩ w hw
      refine b_X7_needed_23 (fun c23 => ?_) (fun c23 => ?_)
      · refine b_X7_needed_88 ?_
        exact rx_ok hr0 (aR_0 hr0 (by unfold nedA; rw [lfind_none _ hall, if_neg (by omega)])) hf2
      · exfalso
        omega
  refine b_X7_needed_0 (s_hasW (by omega) pts_5 hu.2.2.1) (fun x0 _ hx => ?_)
  obtain ⟨rfl, rfl⟩ := hx
  refine b_X7_needed_11 (fun c11 => ?_) (fun c11 => ?_)
  · refine b_X7_needed_20 ?_
    exact loop (by omega)
  · refine b_X7_needed_14 (s_refuse (by omega) ref1) (fun x2 _ hx => ?_)
    obtain ⟨rfl, rfl⟩ := hx
    refine b_X7_needed_19 ?_
    exact rx_no (by omega) (aR_n (by omega) (by omega))
theorem m_needed {d : Nat} {g : pG} {K : tK} {v : Int} (hd : 11 ≤ d) (hK : KOK K) (hu : SM g K) : CT d mX8_needed [vR 45, vI v] g (QM g (aR (rHas K v) (nedA K v.toNat)) (rHas K v)) := by
  refine ct_in (L := [vR 45, vI v, vX 2]) (by omega) (Nat.le_of_ble_eq_true rfl) rfl (fun e he => ?_)
  have h7 := hK.1
  have hN := hK.2.2.1
  have hu0 := hu.m (thr g)
  have hm4 : fup (g 45) 8 0 4 = nP K := by rw [← hu0.2.2.1, cset_self]
  have r1 := rHas_cases K v
  have b1 := bi_cases (0 ≤ v ∧ v ≤ (nP K : Int) - 1)
  have loop : rHas K v = 0 → EV e mX8_needed (QM g (aR (rHas K v) (nedA K v.toNat)) (rHas K v)) 30 [vR 45, vI v, vI (-9)] [] (cset g 45 (fup (g 45) 8 0)) := by
    intro hr0
    obtain ⟨p, rfl⟩ := Int.eq_ofNat_of_zero_le (show 0 ≤ v by omega)
    rw [Int.toNat_natCast]
    refine loopN (P := fun k g' => mfr g g' ∧ ∀ j, j < k → ¬ nedQ K p j) 19 (fun k g' => ∀ (w : Int), w = (k : Int) - 9 → EV e mX8_needed _ 30 [vR 45, vI p, vI w] [] g') ?_ ?_ 0 _ (Nat.zero_le _) ⟨thr g, fun j hj => absurd hj (by omega)⟩ _ (by omega)
    · rintro k g2 hk ⟨hf2, hall⟩ ih w hw
      have hu2 := hu.m hf2
      refine b_X8_needed_30 (fun c30 => ?_) (fun c30 => ?_)
      · exfalso
        omega
      · refine b_X8_needed_36 (m_think (by omega) hK hu2) (fun g3 hx => ?_)
        obtain ⟨hp3, h83, hf3⟩ := hx
        have hp4 := hp3.put (s := p) (v := w) (by omega)
        have hf4 := hf2.tr (hf3.m.tr (mset (g := g3) (c := 51) (fup (g3 51) p w) (Or.inl rfl)))
        refine b_X8_needed_40 (by omega) (by omega) (by rw [Int.toNat_natCast]; exact m_passAll0 (by omega) hK (hu.m hf4) hp4) (fun g5 hx => ?_)
        obtain ⟨hp5, hf5⟩ := hx
        refine b_X8_needed_52 (m_isFor (by omega) hp5) (fun x3 g6 hx => ?_)
        obtain ⟨hx, rfl⟩ := hx
        refine b_X8_needed_56 (fun c56 => ?_) (fun c56 => ?_)
        · refine b_X8_needed_61 ?_
          try simp (disch := omega) only [w32_of, Int.toNat_natCast, tn0, tn1, tn2]
          rw [hw] at hx
          have h1 : ¬ nedQ K p k := (fun z => by have z2 := hx.trans z; omega)
          exact ih _ ⟨hf4.tr hf5.m51, fun j hj => if h : j = k then h ▸ h1 else hall j (by omega)⟩ _ (by omega)
        · refine b_X8_needed_59 ?_
          rw [hw] at hx
          have h1 : nedQ K p k := hx.symm.trans (by have := bi_01 (0 < psum (downF K (nC K) (fup (ptC K) p ((k : Int) - 9))) (nP K)); omega)
          exact rm_ok hr0 (aR_0 hr0 (by unfold nedA; rw [lfind_hit hall h1 _ hk, if_pos hk]; exact hw.symm)) (hf4.tr hf5.m51)
    · rintro g2 ⟨hf2, hall⟩ w hw
      refine b_X8_needed_30 (fun c30 => ?_) (fun c30 => ?_)
      · refine b_X8_needed_67 ?_
        exact rm_ok hr0 (aR_0 hr0 (by unfold nedA; rw [lfind_none _ hall, if_neg (by omega)])) hf2
      · exfalso
        omega
  refine b_X8_needed_0 (by rw [hm4, w32_of (by omega) (by omega)]; exact m_in (by omega)) (fun x0 _ hx => ?_)
  obtain ⟨rfl, rfl⟩ := hx
  refine b_X8_needed_18 (fun c18 => ?_) (fun c18 => ?_)
  · refine b_X8_needed_27 ?_
    exact loop (by omega)
  · refine b_X8_needed_21 (m_refuse (by omega) ref1) (fun x2 _ hx => ?_)
    obtain ⟨rfl, rfl⟩ := hx
    refine b_X8_needed_26 ?_
    exact rm_no (thr g) (by omega) (aR_n (by omega) (by omega))
