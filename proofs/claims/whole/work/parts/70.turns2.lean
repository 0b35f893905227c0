/-- POINTS behind the first n changes -/
def chF (K : tK) (c : Nat → Nat) : Nat → tF
  | 0 => ptC K
  | n + 1 => mvF (chF K c n) (c n)
theorem chF_to {K : tK} {c c' : Nat → Nat} : ∀ n, (∀ i, i < n → c i = c' i) → chF K c n = chF K c' n := by
  intro n
  induction n with
  | zero => intro _; rfl
  | succ n ih =>
    intro h
    show mvF (chF K c n) (c n) = mvF (chF K c' n) (c' n)
    rw [ih (fun i hi => h i (by omega)), h n (by omega)]
def cUp (c : Nat → Nat) (j k : Nat) : Nat → Nat := fun i => if i = j then k else c i
theorem cUp_self (c : Nat → Nat) (j k : Nat) : cUp c j k j = k := if_pos rfl
theorem cUp_ne (c : Nat → Nat) {i j : Nat} (k : Nat) (h : i ≠ j) : cUp c j k i = c i := if_neg h
theorem chF_up {K : tK} (c : Nat → Nat) (j k : Nat) : chF K (cUp c j k) (j + 1) = mvF (chF K c j) k := by
  show mvF (chF K (cUp c j k) j) (cUp c j k j) = _
  rw [cUp_self, chF_to j (fun i hi => cUp_ne c k (by omega))]
theorem chF_Bd {K : tK} (hK : KOK K) (c : Nat → Nat) : ∀ n, Bd (nP K) (chF K c n) := by
  intro n
  induction n with
  | zero => exact hK.bd
  | succ n ih => exact mvF_Bd ih _
theorem m_sumBy {d n : Nat} {g : pG} {K : tK} {c : Nat → Nat} (hd : 8 ≤ d) (hK : KOK K) (hu : SM g K) (hn : n ≤ 4) (hc : ∀ i, i < n → g 67 i = c i ∧ c i < 2 * nP K) : CT d mX8_sumByChanges [vR 45, vI n] g (qI (fun x g' => x = tyV K 0 (chF K c n) ∧ frT g g')) := by
  refine ct_in (L := [vR 45, vI n, vX 2, vX 2]) (by omega) (Nat.le_of_ble_eq_true rfl) rfl (fun e he => ?_)
  have h8 := hK.2.2.1
  refine b_X8_sumByChanges_0 (m_think (by omega) hK hu) (fun g1 hx => ?_)
  obtain ⟨hp1, h81, hf1⟩ := hx
  refine b_X8_sumByChanges_4 ?_
  refine loopN (P := fun i g' => frT g g' ∧ NW g' (nP K) (chF K c i)) n (fun i g' => ∀ (q : Int) (u : pV), q = i → EV e mX8_sumByChanges _ 6 [vR 45, vI n, vI q, u] [] g') ?_ ?_ 0 g1 (Nat.zero_le _) ⟨hf1, hp1⟩ _ _ rfl
  · rintro i g2 hi ⟨hf2, hp2⟩ ih q u rfl
    obtain ⟨e1, e2⟩ := hc i hi
    have e67 : g2 67 i = (c i : Int) := by rw [hf2.1 67 (by decide) (by decide)]; exact e1
    have hk : c i / 2 < nP K := by omega
    have hr := hp2.rd hk
    have hb := hp2.bd hk
    have q1 : w32 ((c i : Int).tdiv 2) = ((c i / 2 : Nat) : Int) := m2n (by omega)
    have q2 : w32 ((c i : Int).tmod 2) = ((c i % 2 : Nat) : Int) := m2m (by omega)
    have i9 : (i : Int) < 2147483647 := by clear ih q1 q2; omega
    have l4 : (i : Int) < 4 := by clear ih q1 q2; omega
    have k0 : (0 : Int) ≤ ((c i / 2 : Nat) : Int) := Int.natCast_nonneg _
    have k8 : ((c i / 2 : Nat) : Int) < 8 := by clear ih q1 q2; omega
    have fin : ∀ v, held (chF K c i (c i / 2) + (if c i % 2 = 0 then 1 else -1)) = v → EV e mX8_sumByChanges (qI (fun x g' => x = tyV K 0 (chF K c n) ∧ frT g g')) 51 [vR 45, vI n, vI i, vI ((c i / 2 : Nat) : Int)] [vI v, vI ((c i / 2 : Nat) : Int), vR 51] g2 := by
      intro v hv
      refine b_X8_sumByChanges_51 k0 k8 ?_
      rw [Int.toNat_natCast]
      refine ih _ ⟨hf2.tr (fr.toT (fr.set _)), ?_⟩ _ _ (w32n i i9)
      show NW _ _ (mvF (chF K c i) (c i))
      unfold mvF
      rw [hv]
      exact hp2.put (by rw [← hv]; exact held_bd _)
    refine b_X8_sumByChanges_6 (fun z => absurd (Int.ofNat_lt.mpr hi) (Int.not_lt.mpr z)) (fun _ => ?_)
    refine b_X8_sumByChanges_11 (Int.natCast_nonneg _) l4 (by rw [Int.toNat_natCast, e67, q1]; exact k0) (by rw [Int.toNat_natCast, e67, q1]; exact k8) (fun z => ?_) (fun z => ?_)
    · rw [Int.toNat_natCast, e67, q2] at z
      rw [Int.toNat_natCast, e67, q1, Int.toNat_natCast, hr]
      have ew : w32 (chF K c i (c i / 2) + (-1)) = chF K c i (c i / 2) + (-1) := w32_of (by clear ih q1 q2; omega) (by clear ih q1 q2; omega)
      refine b_X8_sumByChanges_46 (by rw [ew]; exact m_held (by clear ih q1 q2 ew; omega)) (fun x g3 hx => ?_)
      obtain ⟨rfl, rfl⟩ := hx
      exact fin _ (by rw [if_neg (by clear ih q1 q2 ew; omega)])
    · rw [Int.toNat_natCast, e67, q2] at z
      rw [Int.toNat_natCast, e67, q1, Int.toNat_natCast, hr]
      have ew : w32 (chF K c i (c i / 2) + 1) = chF K c i (c i / 2) + 1 := w32_of (by clear ih q1 q2; omega) (by clear ih q1 q2; omega)
      refine b_X8_sumByChanges_42 (by rw [ew]; exact m_held (by clear ih q1 q2 ew; omega)) (fun x g3 hx => ?_)
      obtain ⟨rfl, rfl⟩ := hx
      exact fin _ (by rw [if_pos (by clear ih q1 q2 ew; omega)])
  · rintro g2 ⟨hf2, hp2⟩ q u rfl
    refine b_X8_sumByChanges_6 (fun _ => ?_) (fun z => absurd (Int.le_refl _) z)
    refine b_X8_sumByChanges_58 (m_passAll0 (by omega) hK (hu.frm hf2) hp2) (fun g3 hx => ?_)
    obtain ⟨hp3, hf3⟩ := hx
    refine b_X8_sumByChanges_63 (m_sumNow (by omega) hp3) (fun x g4 hx => ?_)
    obtain ⟨rfl, rfl⟩ := hx
    exact b_X8_sumByChanges_67 ⟨_, rfl, rfl, hf2.tr hf3.toT⟩
/-- changes from place j on may be other -/
def frJ (j : Nat) (g g' : pG) : Prop := (∀ a, a ≠ 45 → a ≠ 51 → a ≠ 67 → g' a = g a) ∧ (∀ i, i ≠ 11 → g' 45 i = g 45 i) ∧ ∀ i, i < j → g' 67 i = g 67 i
theorem frJ.rf {j : Nat} {g : pG} : frJ j g g := ⟨fun _ _ _ _ => rfl, fun _ _ => rfl, fun _ _ => rfl⟩
theorem frJ.tr {j : Nat} {g g1 g2 : pG} (h1 : frJ j g g1) (h2 : frJ j g1 g2) : frJ j g g2 := ⟨fun a ha hb hc => (h2.1 a ha hb hc).trans (h1.1 a ha hb hc), fun i hi => (h2.2.1 i hi).trans (h1.2.1 i hi), fun i hi => (h2.2.2 i hi).trans (h1.2.2 i hi)⟩
theorem frJ.le {i j : Nat} {g g' : pG} (h : frJ j g g') (hij : i ≤ j) : frJ i g g' := ⟨h.1, h.2.1, fun k hk => h.2.2 k (by omega)⟩
theorem frT.J {j : Nat} {g g' : pG} (h : frT g g') : frJ j g g' := ⟨fun a ha hb _ => h.1 a ha hb, h.2, fun i _ => by rw [h.1 67 (by decide) (by decide)]⟩
theorem frJ.set {j : Nat} (g : pG) (v : Int) : frJ j g (cset g 67 (fup (g 67) j v)) := ⟨fun a _ _ hc => cset_ne _ _ hc, fun i _ => by rw [cset_ne _ _ (by decide)], fun i hi => by rw [cset_self, fup_ne _ _ (by omega)]⟩
theorem frJ.m {j : Nat} {g g' : pG} (h : frJ j g g') : mfr g g' := ⟨fun a ha => h.1 a (by omega) (by omega) (by omega), fun i hi => h.2.1 i (by omega)⟩
theorem mx_1 {v : Nat → Int} {k : Nat} (h : mxF v k < v k) : mxF v (k + 1) = v k := if_pos h
theorem mx_0 {v : Nat → Int} {k : Nat} (h : ¬ mxF v k < v k) : mxF v (k + 1) = mxF v k := if_neg h
theorem mn_1 {v : Nat → Int} {k : Nat} (h : v k < mnF v k) : mnF v (k + 1) = v k := if_pos h
theorem mn_0 {v : Nat → Int} {k : Nat} (h : ¬ v k < mnF v k) : mnF v (k + 1) = mnF v k := if_neg h
theorem h2Nm {g : pG} {K : tK} (hK : KOK K) (hu : SM g K) : w32 (2 * g 45 4) = ((2 * nP K : Nat) : Int) := by
  have h8 := hK.2.2.1
  rw [hu.2.2.1, w32_of (by omega) (by omega)]; omega
theorem m_lastBy {d n : Nat} {g : pG} {K : tK} {c : Nat → Nat} (hd : 9 ≤ d) (hK : KOK K) (hu : SM g K) (hn : n = 2 ∨ n = 4) (hc : ∀ i, i < n - 1 → g 67 i = c i ∧ c i < 2 * nP K) : CT d mX8_lastBy [vR 45, vI n] g (qI (fun x g' => x = tyV K 1 (chF K c (n - 1)) ∧ frJ (n - 1) g g')) := by
  refine ct_in (L := [vR 45, vI n, vX 2, vX 2]) (by omega) (Nat.le_of_ble_eq_true rfl) rfl (fun e he => ?_)
  have h8 := hK.2.2.1
  obtain ⟨j, hj⟩ : ∃ j, n = j + 1 := ⟨n - 1, by omega⟩
  have ej : n - 1 = j := by omega
  have j4 : (j : Int) < 4 := by omega
  have j0 : (0 : Int) ≤ (j : Int) := Int.natCast_nonneg _
  have ew : w32 ((n : Int) - 1) = (j : Int) := by rw [w32_of (by omega) (by omega)]; omega
  have em : w32 ((n : Int).tmod 2) = 0 := by rcases hn with rfl | rfl <;> rfl
  rw [ej] at hc ⊢
  have hodd : ¬ (0 + 1) % 2 = 0 := by decide
  rw [tyV_o (K := K) (l := 0) (chF K c j) hodd]
  generalize hV : (fun mv => tyV K 0 (mvF (chF K c j) mv)) = V
  have hVk : ∀ k, V k = tyV K 0 (mvF (chF K c j) k) := fun k => by rw [← hV]
  refine b_X8_lastBy_0 (fun _ => ?_) (fun z => absurd (by rw [em]; decide) z)
  refine b_X8_lastBy_13 (by rw [ew]; exact j0) (by rw [ew]; exact j4) ?_
  rw [ew, Int.toNat_natCast]
  refine loopN (P := fun k g' => frJ j g g' ∧ g' 67 j = k) (2 * nP K) (fun k g' => ∀ (v2 : Int) (u : pV), v2 = mnF V k → EV e mX8_lastBy (qI (fun x g' => x = mnF V (2 * nP K) ∧ frJ j g g')) 26 [vR 45, vI n, vI v2, u] [] g') ?_ ?_ 0 _ (Nat.zero_le _) ⟨frJ.set _ _, by rw [cset_self, fup_self]; rfl⟩ _ _ rfl
  · rintro k g1 hk ⟨hf1, hk1⟩ ih v2 u hv2
    have hu1 := hu.m hf1.m
    have h2N := h2Nm hK hu1
    have k9 : (k : Int) < 2147483647 := by clear ih ew em h2N; omega
    have hn4 : n ≤ 4 := by clear ih ew em h2N; omega
    have he8 : 8 ≤ e := by clear ih ew em h2N; omega
    refine b_X8_lastBy_26 (by rw [ew]; exact j0) (by rw [ew]; exact j4) (fun z => absurd (Int.ofNat_lt.mpr hk) (by rw [ew, Int.toNat_natCast, h2N, hk1] at z; exact Int.not_lt.mpr z)) (fun _ => ?_)
    refine b_X8_lastBy_43 (m_sumBy (c := cUp c j k) he8 hK hu1 hn4 (fun i hi => ?_)) (fun x g2 hx => ?_)
    · by_cases e : i = j
      · rw [e, cUp_self]; exact ⟨hk1, hk⟩
      · rw [cUp_ne c k e, hf1.2.2 i (by clear ih ew em h2N; omega)]; exact hc i (by clear ih ew em h2N; omega)
    · obtain ⟨hx0, hf2⟩ := hx
      rw [hj, chF_up, ← hVk] at hx0
      subst hx0
      have hk2 : g2 67 j = k := by rw [hf2.1 67 (by decide) (by decide)]; exact hk1
      have hP : ∀ g3, g3 = cset g2 67 (fup (g2 67) j ((k + 1 : Nat) : Int)) → frJ j g g3 ∧ g3 67 j = ((k + 1 : Nat) : Int) := fun g3 h => by rw [h]; exact ⟨(hf1.tr hf2.J).tr (frJ.set _ _), by rw [cset_self, fup_self]⟩
      have ew2 : w32 (g2 67 j + 1) = ((k + 1 : Nat) : Int) := by rw [hk2]; exact w32n k k9
      refine b_X8_lastBy_48 (fun _ => ?_) (fun z => absurd (by rw [em]; decide) z)
      refine b_X8_lastBy_69 (fun z => ?_) (fun z => ?_)
      · refine b_X8_lastBy_78 (by rw [ew]; exact j0) (by rw [ew]; exact j4) ?_
        rw [ew, Int.toNat_natCast, ew2]
        exact ih _ (hP _ rfl) _ _ (by rw [mn_0 (by rw [← hv2]; exact Int.not_lt.mpr z)]; exact hv2)
      · refine b_X8_lastBy_74 (by rw [ew]; exact j0) (by rw [ew]; exact j4) ?_
        rw [ew, Int.toNat_natCast, ew2]
        exact ih _ (hP _ rfl) _ _ (by rw [mn_1 (by rw [← hv2]; exact Int.not_le.mp z)])
  · rintro g1 ⟨hf1, hk1⟩ v2 u hv2
    have h2N := h2Nm hK (hu.m hf1.m)
    refine b_X8_lastBy_26 (by rw [ew]; exact j0) (by rw [ew]; exact j4) (fun _ => ?_) (fun z => absurd (by rw [ew, Int.toNat_natCast, h2N, hk1]; exact Int.le_refl _) z)
    exact b_X8_lastBy_95 ⟨_, rfl, hv2, hf1⟩
theorem m_afterOne {d : Nat} {g : pG} {K : tK} {c : Nat → Nat} (hd : 10 ≤ d) (hK : KOK K) (hu : SM g K) (hc : ∀ i, i < 1 → g 67 i = c i ∧ c i < 2 * nP K) : CT d mX8_afterOne [vR 45] g (qI (fun x g' => x = tyV K 1 (chF K c 1) ∧ frJ 1 g g')) := by
  refine ct_in (L := [vR 45]) (by omega) (Nat.le_of_ble_eq_true rfl) rfl (fun e he => ?_)
  refine b_X8_afterOne_0 (m_lastBy (n := 2) (c := c) (by omega) hK hu (Or.inl rfl) hc) (fun x g1 hx => ?_)
  obtain ⟨rfl, hf⟩ := hx
  exact b_X8_afterOne_5 ⟨_, rfl, rfl, hf⟩
theorem m_afterTwo {d : Nat} {g : pG} {K : tK} {c : Nat → Nat} (hd : 10 ≤ d) (hK : KOK K) (hu : SM g K) (hc : ∀ i, i < 2 → g 67 i = c i ∧ c i < 2 * nP K) : CT d mX8_afterTwo [vR 45] g (qI (fun x g' => x = tyV K 2 (chF K c 2) ∧ frJ 2 g g')) := by
  refine ct_in (L := [vR 45, vX 2, vX 2]) (by omega) (Nat.le_of_ble_eq_true rfl) rfl (fun e he => ?_)
  have h8 := hK.2.2.1
  have hev : (1 + 1) % 2 = 0 := by decide
  rw [tyV_e (K := K) (l := 1) (chF K c 2) hev]
  generalize hV : (fun mv => tyV K 1 (mvF (chF K c 2) mv)) = V
  have hVk : ∀ k, V k = tyV K 1 (mvF (chF K c 2) k) := fun k => by rw [← hV]
  refine b_X8_afterTwo_0 ?_
  refine loopN (P := fun k g' => frJ 2 g g' ∧ g' 67 2 = k) (2 * nP K) (fun k g' => ∀ (v1 : Int) (u : pV), v1 = mxF V k → EV e mX8_afterTwo (qI (fun x g' => x = mxF V (2 * nP K) ∧ frJ 2 g g')) 11 [vR 45, vI v1, u] [] g') ?_ ?_ 0 _ (Nat.zero_le _) ⟨frJ.set _ _, by rw [cset_self, fup_self]; rfl⟩ _ _ rfl
  · rintro k g1 hk ⟨hf1, hk1⟩ ih v1 u hv1
    have hu1 := hu.m hf1.m
    have h2N := h2Nm hK hu1
    have k9 : (k : Int) < 2147483647 := by clear ih h2N; omega
    have he9 : 9 ≤ e := by clear ih h2N; omega
    refine b_X8_afterTwo_11 (fun z => absurd (Int.ofNat_lt.mpr hk) (by rw [h2N, hk1] at z; exact Int.not_lt.mpr z)) (fun _ => ?_)
    refine b_X8_afterTwo_26 (m_lastBy (n := 4) (c := cUp c 2 k) he9 hK hu1 (Or.inr rfl) (fun i hi => ?_)) (fun x g2 hx => ?_)
    · by_cases e : i = 2
      · rw [e, cUp_self]; exact ⟨hk1, hk⟩
      · rw [cUp_ne c k e, hf1.2.2 i (by clear ih h2N; omega)]; exact hc i (by clear ih h2N; omega)
    · obtain ⟨hx0, hf2⟩ := hx
      have hx0 : x = tyV K 1 (chF K (cUp c 2 k) (2 + 1)) := hx0
      rw [chF_up, ← hVk] at hx0
      subst hx0
      have hk2 : g2 67 2 = k := (hf2.2.2 2 (by decide)).trans hk1
      have hP : frJ 2 g (cset g2 67 (fup (g2 67) 2 ((k + 1 : Nat) : Int))) ∧ (cset g2 67 (fup (g2 67) 2 ((k + 1 : Nat) : Int))) 67 2 = ((k + 1 : Nat) : Int) := ⟨(hf1.tr (hf2.le (by decide))).tr (frJ.set _ _), by rw [cset_self, fup_self]⟩
      have ew2 : w32 (g2 67 2 + 1) = ((k + 1 : Nat) : Int) := by rw [hk2]; exact w32n k k9
      refine b_X8_afterTwo_31 (fun z => ?_) (fun z => ?_)
      · refine b_X8_afterTwo_41 ?_
        rw [ew2]
        exact ih _ hP _ _ (by rw [mx_0 (by rw [← hv1]; exact Int.not_lt.mpr z)]; exact hv1)
      · refine b_X8_afterTwo_37 ?_
        rw [ew2]
        exact ih _ hP _ _ (by rw [mx_1 (by rw [← hv1]; exact Int.not_le.mp z)])
  · rintro g1 ⟨hf1, hk1⟩ v1 u hv1
    have h2N := h2Nm hK (hu.m hf1.m)
    refine b_X8_afterTwo_11 (fun _ => ?_) (fun z => absurd (by rw [h2N, hk1]; exact Int.le_refl _) z)
    exact b_X8_afterTwo_56 ⟨_, rfl, hv1, hf1⟩
theorem m_afterFour {d : Nat} {g : pG} {K : tK} {c : Nat → Nat} (hd : 11 ≤ d) (hK : KOK K) (hu : SM g K) (hc : ∀ i, i < 1 → g 67 i = c i ∧ c i < 2 * nP K) : CT d mX8_afterOneOfFour [vR 45] g (qI (fun x g' => x = tyV K 3 (chF K c 1) ∧ frJ 1 g g')) := by
  refine ct_in (L := [vR 45, vX 2, vX 2]) (by omega) (Nat.le_of_ble_eq_true rfl) rfl (fun e he => ?_)
  have h8 := hK.2.2.1
  have hodd : ¬ (2 + 1) % 2 = 0 := by decide
  rw [tyV_o (K := K) (l := 2) (chF K c 1) hodd]
  generalize hV : (fun mv => tyV K 2 (mvF (chF K c 1) mv)) = V
  have hVk : ∀ k, V k = tyV K 2 (mvF (chF K c 1) k) := fun k => by rw [← hV]
  refine b_X8_afterOneOfFour_0 ?_
  refine loopN (P := fun k g' => frJ 1 g g' ∧ g' 67 1 = k) (2 * nP K) (fun k g' => ∀ (v1 : Int) (u : pV), v1 = mnF V k → EV e mX8_afterOneOfFour (qI (fun x g' => x = mnF V (2 * nP K) ∧ frJ 1 g g')) 11 [vR 45, vI v1, u] [] g') ?_ ?_ 0 _ (Nat.zero_le _) ⟨frJ.set _ _, by rw [cset_self, fup_self]; rfl⟩ _ _ rfl
  · rintro k g1 hk ⟨hf1, hk1⟩ ih v1 u hv1
    have hu1 := hu.m hf1.m
    have h2N := h2Nm hK hu1
    have k9 : (k : Int) < 2147483647 := by clear ih h2N; omega
    have he10 : 10 ≤ e := by clear ih h2N; omega
    refine b_X8_afterOneOfFour_11 (fun z => absurd (Int.ofNat_lt.mpr hk) (by rw [h2N, hk1] at z; exact Int.not_lt.mpr z)) (fun _ => ?_)
    refine b_X8_afterOneOfFour_26 (m_afterTwo (c := cUp c 1 k) he10 hK hu1 (fun i hi => ?_)) (fun x g2 hx => ?_)
    · by_cases e : i = 1
      · rw [e, cUp_self]; exact ⟨hk1, hk⟩
      · rw [cUp_ne c k e, hf1.2.2 i (by clear ih h2N; omega)]; exact hc i (by clear ih h2N; omega)
    · obtain ⟨hx0, hf2⟩ := hx
      have hx0 : x = tyV K 2 (chF K (cUp c 1 k) (1 + 1)) := hx0
      rw [chF_up, ← hVk] at hx0
      subst hx0
      have hk2 : g2 67 1 = k := (hf2.2.2 1 (by decide)).trans hk1
      have hP : frJ 1 g (cset g2 67 (fup (g2 67) 1 ((k + 1 : Nat) : Int))) ∧ (cset g2 67 (fup (g2 67) 1 ((k + 1 : Nat) : Int))) 67 1 = ((k + 1 : Nat) : Int) := ⟨(hf1.tr (hf2.le (by decide))).tr (frJ.set _ _), by rw [cset_self, fup_self]⟩
      have ew2 : w32 (g2 67 1 + 1) = ((k + 1 : Nat) : Int) := by rw [hk2]; exact w32n k k9
      refine b_X8_afterOneOfFour_30 (fun z => ?_) (fun z => ?_)
      · refine b_X8_afterOneOfFour_40 ?_
        rw [ew2]
        exact ih _ hP _ _ (by rw [mn_0 (by rw [← hv1]; exact Int.not_lt.mpr z)]; exact hv1)
      · refine b_X8_afterOneOfFour_36 ?_
        rw [ew2]
        exact ih _ hP _ _ (by rw [mn_1 (by rw [← hv1]; exact Int.not_le.mp z)])
  · rintro g1 ⟨hf1, hk1⟩ v1 u hv1
    have h2N := h2Nm hK (hu.m hf1.m)
    refine b_X8_afterOneOfFour_11 (fun _ => ?_) (fun z => absurd (by rw [h2N, hk1]; exact Int.le_refl _) z)
    exact b_X8_afterOneOfFour_55 ⟨_, rfl, hv1, hf1⟩
theorem m_turnsBy {d : Nat} {g : pG} {K : tK} {m w : Int} (hd : 12 ≤ d) (hK : KOK K) (hu : SM g K) : CT d mX8_turnsBy [vR 45, vI m, vI w] g (QM g (aH (rTb m w) (aTb K m w)) (rTb m w)) := by
  refine ct_in (L := [vR 45, vI m, vI w, vX 2, vX 2, vX 2, vX 2]) (by omega) (Nat.le_of_ble_eq_true rfl) rfl (fun e he => ?_)
  have r0 := wrN_cases m 0 2
  have r1 := rTb_cases m w
  have r2 := rW_cases w 1
  have he11 : 11 ≤ e := by omega
  have h8 := hK.2.2.1
  have hu0 := hu.m (thr g)
  have go : ∀ v3 g0, mfr g g0 → rTb m w = 0 → (0 ≤ m ∧ m ≤ 2) → EV e mX8_turnsBy (QM g (aH (rTb m w) (aTb K m w)) (rTb m w)) 30 [vR 45, vI m, vI w, vI v3, vX 2, vX 2, vX 2] [] g0 := by
    intro v3 g0 hf0 hr0 hm
    clear r0 r1 r2
    refine b_X8_turnsBy_30 (fun c => ?_) (fun c => ?_)
    · have hA : aTb K m w = sel w (tyB K (2 * m.toNat - 1) (2 * nP K)).2 (tyB K (2 * m.toNat - 1) (2 * nP K)).1 := by unfold aTb; rw [if_neg c]
      rw [hA]
      generalize hl : 2 * m.toNat - 1 = l
      have hlm : (m = 1 ∧ l = 1) ∨ (m = 2 ∧ l = 3) := by omega
      clear hA hl
      refine b_X8_turnsBy_48 ?_
      refine loopN (P := fun k g' => mfr g g' ∧ g' 67 0 = k) (2 * nP K) (fun k g' => ∀ (v4 v5 : Int) (u6 : pV), v4 = (tyB K l k).1 → v5 = (tyB K l k).2 → EV e mX8_turnsBy (QM g (aH (rTb m w) (sel w (tyB K l (2 * nP K)).2 (tyB K l (2 * nP K)).1)) (rTb m w)) 64 [vR 45, vI m, vI w, vI v3, vI v4, vI v5, u6] [] g') ?_ ?_ 0 _ (Nat.zero_le _) ⟨hf0.tr (frJ.set (j := 0) _ _).m, by rw [cset_self, fup_self]; rfl⟩ _ _ _ rfl rfl
      · rintro k g1 hk ⟨hf1, hk1⟩ ih v4 v5 u6 hv4 hv5
        have hu1 := hu.m hf1
        have h2N := h2Nm hK hu1
        have k9 : (k : Int) < 2147483647 := by clear ih h2N; omega
        have hc1 : ∀ i, i < 1 → g1 67 i = ((fun _ => k) i : Nat) ∧ (fun _ => k) i < 2 * nP K := fun i hi => by obtain rfl : i = 0 := (by omega); exact ⟨hk1, hk⟩
        have nx : ∀ (x : Int) (g2 : pG), x = tyV K l (mvF (ptC K) k) → frJ 1 g1 g2 → (¬ x ≤ v5 → EV e mX8_turnsBy (QM g (aH (rTb m w) (sel w (tyB K l (2 * nP K)).2 (tyB K l (2 * nP K)).1)) (rTb m w)) 104 [vR 45, vI m, vI w, vI v3, vI v4, vI v5, vI x] [] g2) ∧ (x ≤ v5 → EV e mX8_turnsBy (QM g (aH (rTb m w) (sel w (tyB K l (2 * nP K)).2 (tyB K l (2 * nP K)).1)) (rTb m w)) 115 [vR 45, vI m, vI w, vI v3, vI v4, vI v5, vI x] [] g2) := by
          intro x g2 hx hf2
          subst hx
          have hk2 : g2 67 0 = k := (hf2.2.2 0 (by decide)).trans hk1
          have ew2 : w32 (g2 67 0 + 1) = ((k + 1 : Nat) : Int) := by rw [hk2]; exact w32n k k9
          have hP : mfr g (cset g2 67 (fup (g2 67) 0 ((k + 1 : Nat) : Int))) ∧ (cset g2 67 (fup (g2 67) 0 ((k + 1 : Nat) : Int))) 67 0 = ((k + 1 : Nat) : Int) := ⟨(hf1.tr hf2.m).tr (frJ.set (j := 0) _ _).m, by rw [cset_self, fup_self]⟩
          refine ⟨fun c2 => ?_, fun c2 => ?_⟩
          · have e1 := tyB_1 (K := K) (l := l) (k := k) (by rw [← hv5]; exact Int.not_le.mp c2)
            have k1000 : k < 1000 := by clear ih h2N ew2; omega
            refine b_X8_turnsBy_104 (fun c3 => absurd c3 c2) (fun _ => ?_)
            refine b_X8_turnsBy_126 ?_
            rw [ew2, hk2, m2n k1000]
            exact ih _ hP _ _ _ (by rw [e1]) (by rw [e1])
          · have e1 := tyB_0 (K := K) (l := l) (k := k) (by rw [← hv5]; exact Int.not_lt.mpr c2)
            refine b_X8_turnsBy_115 (fun _ => ?_) (fun c3 => absurd c2 c3)
            refine b_X8_turnsBy_131 ?_
            rw [ew2]
            exact ih _ hP _ _ _ (by rw [e1]; exact hv4) (by rw [e1]; exact hv5)
        refine b_X8_turnsBy_64 (fun z => absurd (Int.ofNat_lt.mpr hk) (by rw [h2N, hk1] at z; exact Int.not_lt.mpr z)) (fun _ => ?_)
        refine b_X8_turnsBy_79 (fun c2 => ?_) (fun c2 => ?_)
        · have hl3 : l = 3 := by clear ih h2N nx; omega
          subst hl3
          refine b_X8_turnsBy_91 (m_afterFour (c := fun _ => k) (by clear ih h2N nx; omega) hK hu1 hc1) (fun x g2 hx => ?_)
          obtain ⟨hx0, hf2⟩ := hx
          obtain ⟨n1, n2⟩ := nx x g2 hx0 hf2
          exact b_X8_turnsBy_95 n2 n1
        · have hl1 : l = 1 := by clear ih h2N nx; omega
          subst hl1
          refine b_X8_turnsBy_84 (m_afterOne (c := fun _ => k) (by clear ih h2N nx; omega) hK hu1 hc1) (fun x g2 hx => ?_)
          obtain ⟨hx0, hf2⟩ := hx
          obtain ⟨n1, n2⟩ := nx x g2 hx0 hf2
          exact b_X8_turnsBy_88 n2 n1
      · rintro g1 ⟨hf1, hk1⟩ v4 v5 u6 hv4 hv5
        have h2N := h2Nm hK (hu.m hf1)
        refine b_X8_turnsBy_64 (fun _ => ?_) (fun z => absurd (by rw [h2N, hk1]; exact Int.le_refl _) z)
        refine b_X8_turnsBy_148 (fun c2 => ?_) (fun c2 => ?_)
        · exact b_X8_turnsBy_157 (rm_ok hr0 (aH_0 hr0 (sel1 c2 hv4.symm)) hf1)
        · exact b_X8_turnsBy_152 (rm_ok hr0 (aH_0 hr0 (sel0 (Classical.not_not.mp c2) hv5.symm)) hf1)
    · have c := Classical.not_not.mp c
      have hA : aTb K m w = sel w (sumAll K) (-9) := by unfold aTb; rw [if_pos c]
      rw [hA]
      refine b_X8_turnsBy_34 (fun c2 => ?_) (fun c2 => ?_)
      · exact b_X8_turnsBy_45 (rm_ok hr0 (aH_0 hr0 (sel1 c2 rfl)) hf0)
      · refine b_X8_turnsBy_38 (m_sumAll (by omega) hK (hu.m hf0)) (fun x g2 hx => ?_)
        obtain ⟨rfl, hf2⟩ := hx
        exact b_X8_turnsBy_42 (rm_ok hr0 (aH_0 hr0 (sel0 (Classical.not_not.mp c2) rfl)) (hf0.tr hf2.m))
  have hB : wrB (wrN m 0 2) w 1 = rTb m w := by
    clear go
    unfold wrB
    by_cases h : wrN m 0 2 = 0 ∧ ¬ (0 ≤ w ∧ w ≤ 1)
    · rw [if_pos h]; omega
    · rw [if_neg h]; omega
  refine b_X8_turnsBy_0 (m_wrongNumber (by omega)) (fun x g0 hx => ?_)
  obtain ⟨rfl, rfl⟩ := hx
  refine b_X8_turnsBy_11 (m_wrongBit (by omega)) (fun x g1 hx => ?_)
  obtain ⟨rfl, rfl⟩ := hx
  rw [hB]
  refine b_X8_turnsBy_16 (fun c => ?_) (fun c => ?_)
  · exact go _ _ (thr g) (by clear go; omega) (by clear go; omega)
  · have hne : rTb m w ≠ 0 := by clear go; omega
    have hrf : isRef (rTb m w) := by clear go; unfold isRef; omega
    have hb9 : -10 ≤ rTb m w ∧ rTb m w ≤ 0 := by clear go; omega
    refine b_X8_turnsBy_21 (m_refuse (by omega) hrf) (fun x g2 hx => ?_)
    obtain ⟨rfl, rfl⟩ := hx
    refine b_X8_turnsBy_28 (rm_no (thr g) rfl (aH_n rfl hne ?_))
    exact w32_of (by clear go hB r0 r1 r2; omega) (by clear go hB r0 r1 r2; omega)
