/-- full stake -/
def setSk (K : tK) (v : Int) : tK := (nC K, kdC K, fgC K, csC K, nP K, ptC K, v, lnC K)
theorem setSk_ok {K : tK} {v : Int} (h : KOK K) (hv : 0 ≤ v ∧ v ≤ 999) : KOK (setSk K v) := ⟨h.1, h.2.1, h.2.2.1, h.2.2.2.1, h.2.2.2.2.1, hv, h.2.2.2.2.2.2⟩
theorem downF_sk (K : tK) (v : Int) (f : tF) : ∀ k, downF (setSk K v) k f = downF K k f := by
  intro k
  induction k with
  | zero => rfl
  | succ k ih =>
    show passF (setSk K v) k (downF (setSk K v) k f) = passF K k (downF K k f)
    rw [ih]
    rfl
theorem fo_sk (K : tK) (v : Int) : fo (setSk K v) = fo K := by
  funext k
  show bi (0 < psum (downF (setSk K v) k (ptC K)) (nP K)) = _
  rw [downF_sk]
  rfl
theorem psumB_low (f : tF) (a : Nat) : ∀ n, psumB f a (n + 1) = f a + psumB f (a + 1) n := by
  intro n
  induction n with
  | zero => show (0 : Int) + f (a + 0) = f a + 0; rw [Nat.add_zero]; omega
  | succ n ih =>
    show psumB f a (n + 1) + f (a + (n + 1)) = f a + (psumB f (a + 1) n + f (a + 1 + n))
    rw [ih, show a + 1 + n = a + (n + 1) by omega]
    omega
theorem lfind_end {p : Nat → Prop} [DecidablePred p] : ∀ n, lfind p n = n → ∀ j, j < n → ¬ p j := by
  intro n
  induction n with
  | zero => intro _ j hj; exact absurd hj (Nat.not_lt_zero _)
  | succ n ih =>
    unfold lfind
    intro h j hj
    have hle := lfind_le (p := p) n
    by_cases h1 : lfind p n < n
    · rw [if_pos h1] at h; omega
    · rw [if_neg h1] at h
      by_cases h2 : p n
      · rw [if_pos h2] at h; omega
      · by_cases e : j = n
        · rw [e]; exact h2
        · exact ih (by omega) j (by omega)
abbrev wAll (F cs : tF) (sk : Int) (n i : Nat) : Prop := ∀ k, i ≤ k → k < n → (wI F cs sk n k).1 ≠ 0
theorem wAll_iff {F cs : tF} {sk : Int} {n : Nat} (hF : ∀ k, F k = 0 ∨ F k = 1) (hc : ∀ k, k < n → 0 ≤ cs k) : ∀ j i, i + j = n → (wAll F cs sk n i ↔ ((∀ k, i ≤ k → k < n → F k ≠ F n) ∧ (i < n → psumB cs i (n - i) < sk))) ∧ (wAll F cs sk n i → (wI F cs sk n i).2.1 = F n ∧ (F n = 1 → (wI F cs sk n i).2.2.1 = psumB cs i (n - i) ∧ (wI F cs sk n i).2.2.2 = 0) ∧ (F n = 0 → (wI F cs sk n i).2.2.2 = psumB cs i (n - i) ∧ (wI F cs sk n i).2.2.1 = 0)) := by
  intro j
  induction j with
  | zero =>
    intro i hi
    obtain rfl : i = n := hi
    refine ⟨⟨fun _ => ⟨fun k h1 h2 => absurd h2 (by omega), fun h => absurd h (by omega)⟩, fun _ k h1 h2 => absurd h2 (by omega)⟩, fun _ => ?_⟩
    rw [wI_n, Nat.sub_self]
    exact ⟨rfl, fun _ => ⟨rfl, rfl⟩, fun _ => ⟨rfl, rfl⟩⟩
  | succ j ih =>
    intro i hi
    have hin : i < n := by omega
    obtain ⟨ih1, ih2⟩ := ih (i + 1) (by omega)
    have hS : psumB cs i (n - i) = cs i + psumB cs (i + 1) (n - (i + 1)) := by
      rw [show n - i = (n - (i + 1)) + 1 by omega, psumB_low]
    have hci := hc i hin
    have hFi := hF i
    have hFn := hF n
    have hW := wI_s F cs sk hin
    have hsplit : wAll F cs sk n i ↔ ((wI F cs sk n i).1 ≠ 0 ∧ wAll F cs sk n (i + 1)) := ⟨fun h => ⟨h i (Nat.le_refl _) hin, fun k h1 h2 => h k (by omega) h2⟩, fun h k h1 h2 => if e : k = i then e ▸ h.1 else h.2 k (by omega) h2⟩
    generalize hr : wI F cs sk n (i + 1) = r at hW ih2
    have key : wAll F cs sk n i → (F i ≠ F n ∧ psumB cs i (n - i) < sk) ∧ (wI F cs sk n i).2.1 = F n ∧ (F n = 1 → (wI F cs sk n i).2.2.1 = psumB cs i (n - i) ∧ (wI F cs sk n i).2.2.2 = 0) ∧ (F n = 0 → (wI F cs sk n i).2.2.2 = psumB cs i (n - i) ∧ (wI F cs sk n i).2.2.1 = 0) := by
      intro h
      obtain ⟨h1, h2⟩ := hsplit.mp h
      obtain ⟨r1, r2, r3⟩ := ih2 h2
      by_cases hcd : r.2.1 ≠ F i ∧ cs i + (if F i = 0 then r.2.2.1 else r.2.2.2) < sk
      · have hW2 := hW.trans (wstep_y hcd.1 hcd.2)
        have hne : F i ≠ F n := fun z => hcd.1 (r1.trans z.symm)
        have h3 := hcd.2
        rw [hW2]
        rcases hFi with e | e
        · rw [if_pos e] at h3
          have e1 : F n = 1 := by omega
          obtain ⟨p1, p2⟩ := r2 e1
          refine ⟨⟨hne, by omega⟩, r1, fun _ => ?_, fun z => by omega⟩
          rw [if_pos e, if_pos e]
          exact ⟨by show cs i + r.2.2.1 = _; omega, p2⟩
        · rw [if_neg (by omega)] at h3
          have e1 : F n = 0 := by omega
          obtain ⟨p1, p2⟩ := r3 e1
          refine ⟨⟨hne, by omega⟩, r1, fun z => by omega, fun _ => ?_⟩
          rw [if_neg (by omega), if_neg (by omega)]
          exact ⟨by show cs i + r.2.2.2 = _; omega, p2⟩
      · rw [hW] at h1
        unfold wstep at h1
        rw [if_neg hcd] at h1
        exact absurd rfl h1
    refine ⟨⟨fun h => ?_, fun h => ?_⟩, fun h => (key h).2⟩
    · obtain ⟨⟨k1, k2⟩, _⟩ := key h
      have h9 := ih1.mp (hsplit.mp h).2
      exact ⟨fun k h1 h2 => if e : k = i then e ▸ k1 else h9.1 k (by omega) h2, fun _ => k2⟩
    · have h9 := h.2 hin
      have hall : wAll F cs sk n (i + 1) := ih1.mpr ⟨fun k h1 h2 => h.1 k (by omega) h2, fun _ => by omega⟩
      obtain ⟨r1, r2, r3⟩ := ih2 hall
      have hne := h.1 i (Nat.le_refl _) hin
      refine hsplit.mpr ⟨?_, hall⟩
      have hcd : r.2.1 ≠ F i ∧ cs i + (if F i = 0 then r.2.2.1 else r.2.2.2) < sk := by
        refine ⟨fun z => hne (z.symm.trans r1), ?_⟩
        rcases hFi with e | e
        · rw [if_pos e]; have := (r2 (by omega)).1; omega
        · rw [if_neg (by omega)]; have := (r3 (by omega)).1; omega
      rw [hW, wstep_y hcd.1 hcd.2]
      exact (show (1 : Int) ≠ 0 by decide)
abbrev fsA (K : tK) : Prop := ∀ k, k < nC K - 1 → fo K (k + 1) ≠ fo K (nC K)
def aFs (K : tK) : Int := if fsA K then (if nC K = 1 then 0 else psumB (csC K) 1 (nC K - 1) + 1) else -9
def rFs (K : tK) : Int := if nC K = 0 then -3 else 0
theorem thr_all {K : tK} (hK : KOK K) (h0 : nC K ≠ 0) (s : Int) : thrK (setSk K s) = nC K ↔ (fsA K ∧ (1 < nC K → psumB (csC K) 1 (nC K - 1) < s)) := by
  have hA := (wAll_iff (F := fo K) (cs := csC K) (sk := s) (n := nC K) (fo_01 K) (fun k hk => (hK.2.1 k hk).2.2.1) (nC K - 1) 1 (by omega)).1
  have hw : ∀ i, wK (setSk K s) i = wI (fo K) (csC K) s (nC K) i := fun i => by
    show wI (fo (setSk K s)) (csC K) s (nC K) i = _
    rw [fo_sk]
  have hT : thrK (setSk K s) = 1 + (lfind (fun k => (wI (fo K) (csC K) s (nC K) (k + 1)).1 = 0) (nC K - 1) : Nat) := by
    rw [thrK_p (K := setSk K s) h0]
    simp only [hw]
    rfl
  have hB : (∀ k, 1 ≤ k → k < nC K → fo K k ≠ fo K (nC K)) ↔ fsA K := ⟨fun h k hk => h (k + 1) (by omega) (by omega), fun h k h1 h2 => by have := h (k - 1) (by omega); rw [show k - 1 + 1 = k by omega] at this; exact this⟩
  rw [hT, ← hB, ← hA]
  constructor
  · intro h k h1 h2
    have e := lfind_end (p := fun k => (wI (fo K) (csC K) s (nC K) (k + 1)).1 = 0) (nC K - 1) (by omega) (k - 1) (by omega)
    rw [show k - 1 + 1 = k by omega] at e
    exact e
  · intro h
    rw [lfind_none _ (fun j hj => h (j + 1) (by omega) (by omega))]
    omega
theorem aFs_at {K : tK} (hK : KOK K) (h0 : nC K ≠ 0) {s : Nat} (hs : thrK (setSk K (s : Int)) = nC K) (hn : ∀ t : Nat, t < s → thrK (setSk K (t : Int)) ≠ nC K) : aFs K = s := by
  have hb := psumB_bd (f := csC K) (a := 1) (m := nC K - 1) (B := 99) (fun k h1 h2 => (hK.2.1 k (by omega)).2.2) (nC K - 1) (Nat.le_refl _)
  have h1 := (thr_all hK h0 s).mp hs
  unfold aFs
  rw [if_pos h1.1]
  by_cases e : nC K = 1
  · rw [if_pos e]
    have : ¬ 0 < s := fun z => hn 0 z ((thr_all hK h0 _).mpr ⟨h1.1, fun h => absurd h (by omega)⟩)
    omega
  · rw [if_neg e]
    have h2 := h1.2 (by omega)
    by_cases hz : psumB (csC K) 1 (nC K - 1) < (s : Int) - 1
    · exact absurd ((thr_all hK h0 ((s - 1 : Nat) : Int)).mpr ⟨h1.1, fun _ => by omega⟩) (hn (s - 1) (by omega))
    · omega
theorem aFs_no {K : tK} (hK : KOK K) (h0 : nC K ≠ 0) (hn : ∀ t : Nat, t < 1000 → thrK (setSk K (t : Int)) ≠ nC K) : aFs K = -9 := by
  have h7 := hK.1
  have hb := psumB_bd (f := csC K) (a := 1) (m := nC K - 1) (B := 99) (fun k h1 h2 => (hK.2.1 k (by omega)).2.2) (nC K - 1) (Nat.le_refl _)
  unfold aFs
  refine if_neg (fun h => hn 999 (by decide) ((thr_all hK h0 _).mpr ⟨h, fun _ => by omega⟩))
theorem x_fullStake {d : Nat} {g : pG} {K : tK} (hd : 8 ≤ d) (hK : KOK K) (hu : SU g 1 K) : CT d mX7_fullStake [vR 0] g (QX g (aR (rFs K) (aFs K)) (rFs K)) := by
  refine ct_in (L := [vR 0, vX 2, vX 2]) (by omega) (Nat.le_of_ble_eq_true rfl) rfl (fun e he => ?_)
  have h7 := hK.1
  have hn : g 1 3 = nC K := hu.1
  refine b_X7_fullStake_0 (fun c => ?_) (fun c => ?_)
  · have h0 : nC K ≠ 0 := by omega
    have hr0 : rFs K = 0 := if_neg h0
    refine b_X7_fullStake_17 (s_weigh (by omega) hK hu) (fun g1 hx => ?_)
    obtain ⟨h5, hw, hp, hx1⟩ := hx
    have hn1 : g1 1 3 = nC K := (hu.x hx1).1
    obtain ⟨l, hl⟩ : ∃ l, nC K = l + 1 := ⟨nC K - 1, by omega⟩
    refine b_X7_fullStake_32 ?_
    rw [hn1, show w32 ((nC K : Int) - 1) = (l : Int) by rw [w32_of (by omega) (by omega)]; omega]
    refine loopN (P := fun k g' => g' = g1 ∧ ∀ j, j < k → fo K (j + 1) ≠ fo K (nC K)) l (fun k g' => ∀ q : Int, q = k → EV e mX7_fullStake _ 44 [vR 0, vI l, vI q] [] g') ?_ ?_ 0 g1 (Nat.zero_le _) ⟨rfl, fun j hj => absurd hj (Nat.not_lt_zero _)⟩ _ rfl
    · rintro k g1 hk ⟨rfl, hall⟩ ih q rfl
      have e1 := (hw k (by omega)).1
      have e2 := (hw l (by omega)).1
      rw [← hl] at e2
      refine b_X7_fullStake_44 (fun c => absurd c (by omega)) (fun c => ?_)
      refine b_X7_fullStake_49 (by omega) (by omega) (by omega) (by omega) (fun c2 => ?_) (fun c2 => ?_)
      · rw [Int.toNat_natCast, Int.toNat_natCast, e1, e2] at c2
        exact b_X7_fullStake_73 (ih _ ⟨rfl, fun j hj => if h : j = k then h ▸ c2 else hall j (by omega)⟩ _ (w32n k (by omega)))
      · rw [Int.toNat_natCast, Int.toNat_natCast, e1, e2] at c2
        exact b_X7_fullStake_70 (rx_ok hr0 (aR_0 hr0 (by unfold aFs; rw [if_neg (fun z => c2 (z k (by omega)))])) hx1)
    · rintro g1 ⟨rfl, hall⟩ q rfl
      have hA : fsA K := fun k hk => hall k (by omega)
      refine b_X7_fullStake_44 (fun c => ?_) (fun c => absurd (Int.le_refl _) c)
      refine b_X7_fullStake_79 (fun c2 => ?_) (fun c2 => ?_)
      · have hb := psumB_bd (f := csC K) (a := 1) (m := nC K - 1) (B := 99) (fun k h1 h2 => (hK.2.1 k (by omega)).2.2) (nC K - 1) (Nat.le_refl _)
        have hcs := s_costsB (d := e) (a := 1) (m := nC K - 1) (by omega) hK (hu.x hx1) (by omega)
        rw [show 1 + (nC K - 1) = nC K by omega] at hcs
        refine b_X7_fullStake_87 (by rw [hn1]; exact hcs) (fun x g2 hx => ?_)
        obtain ⟨rfl, rfl⟩ := hx
        refine b_X7_fullStake_102 ?_
        rw [w32_of (by omega) (by omega)]
        exact rx_ok hr0 (aR_0 hr0 (by unfold aFs; rw [if_pos hA, if_neg (by omega)])) hx1
      · exact b_X7_fullStake_83 (rx_ok hr0 (aR_0 hr0 (by unfold aFs; rw [if_pos hA, if_pos (by omega)])) hx1)
  · have hr : rFs K = -3 := if_pos (by omega)
    refine b_X7_fullStake_10 (s_refuse (by omega) ref3) (fun x g1 hx => ?_)
    obtain ⟨rfl, rfl⟩ := hx
    exact b_X7_fullStake_16 (rx_no hr (aR_n hr (by omega)))
theorem setS_2 (g : pG) (c j : Nat) (v w : Int) : cset (cset g c (fup (g c) j w)) c (fup ((cset g c (fup (g c) j w)) c) j v) = cset g c (fup (g c) j v) := by
  funext a
  by_cases e : a = c
  · subst e
    rw [cset_self, cset_self, cset_self]
    funext i
    by_cases e : i = j
    · rw [e, fup_self, fup_self]
    · rw [fup_ne _ _ e, fup_ne _ _ e, fup_ne _ _ e]
  · rw [cset_ne _ _ e, cset_ne _ _ e, cset_ne _ _ e]
theorem setS_id (g : pG) (c j : Nat) : cset g c (fup (g c) j (g c j)) = g := by
  funext a
  by_cases e : a = c
  · subst e
    rw [cset_self]
    funext i
    by_cases e : i = j
    · rw [e, fup_self]
    · rw [fup_ne _ _ e]
  · rw [cset_ne _ _ e]
theorem mfr.setS {g g' : pG} (h : mfr g g') (i : Nat) (v : Int) : mfr (cset g 45 (fup (g 45) i v)) (cset g' 45 (fup (g' 45) i v)) := by
  refine ⟨fun a ha => by rw [cset_ne _ _ (by omega), cset_ne _ _ (by omega)]; exact h.1 a ha, fun j hj => ?_⟩
  rw [cset_self, cset_self]
  by_cases e : j = i
  · rw [e, fup_self, fup_self]
  · rw [fup_ne _ _ e, fup_ne _ _ e]; exact h.2 j hj
theorem SM.sk {g : pG} {K : tK} {v : Int} (h : SM (cset g 45 (fup (g 45) 6 v)) K) : SM g (setSk K (g 45 6)) := by
  obtain ⟨h1, h2, h3, h4, h5, h6⟩ := h
  rw [cset_self, fup_ne _ _ (by decide)] at h1 h3 h6
  refine ⟨h1, fun k hk => ?_, h3, fun k hk => ?_, rfl, h6⟩
  · have := h2 k hk; rw [cset_ne _ _ (by decide), cset_ne _ _ (by decide), cset_ne _ _ (by decide)] at this; exact this
  · have := h4 k hk; rw [cset_ne _ _ (by decide)] at this; exact this
theorem m_fullStake {d : Nat} {g : pG} {K : tK} (hd : 11 ≤ d) (hK : KOK K) (hu : SM g K) : CT d mX8_fullStake [vR 45] g (QM g (aR (rFs K) (aFs K)) (rFs K)) := by
  refine ct_in (L := [vR 45, vX 2, vX 2]) (by omega) (Nat.le_of_ble_eq_true rfl) rfl (fun e he => ?_)
  have h7 := hK.1
  have hu0 := hu.m (thr g)
  have hn0 : fup (g 45) 8 0 0 = nC K := hu.1
  have hn1 : cset g 45 (fup (g 45) 8 0) 45 6 = skC K := hu0.2.2.2.2.1
  have he6 : 6 ≤ e := by omega
  have he1 : 1 ≤ e := by omega
  refine b_X8_fullStake_0 (fun c => ?_) (fun c => ?_)
  · rw [hn0] at c
    have h0 : nC K ≠ 0 := by omega
    have hr0 : rFs K = 0 := if_neg h0
    refine b_X8_fullStake_19 ?_
    generalize hgA : cset g 45 (fup (g 45) 8 0) = gA at hu0 hn1
    have hxA : mfr g gA := by rw [← hgA]; exact thr g
    rw [hn1]
    have fin : ∀ (g' : pG) (v : Int), mfr g (cset g' 45 (fup (g' 45) 6 (skC K))) → aFs K = v → EV e mX8_fullStake (QM g (aR (rFs K) (aFs K)) (rFs K)) 84 [vR 45, vI (skC K), vI v] [] g' := fun g' v hx hv => b_X8_fullStake_84 (rm_ok hr0 (aR_0 hr0 hv) hx)
    refine loopN (P := fun s g' => mfr g (cset g' 45 (fup (g' 45) 6 (skC K))) ∧ g' 45 6 = s) 1000 (fun s g' => ∀ v : Int, ((v = -9 ∧ ∀ t : Nat, t < s → thrK (setSk K (t : Int)) ≠ nC K) ∨ (0 ≤ v ∧ aFs K = v)) → EV e mX8_fullStake _ 32 [vR 45, vI (skC K), vI v] [] g') ?_ ?_ 0 _ (Nat.zero_le _) ⟨by rw [setS_2, ← hn1, setS_id]; exact hxA, by rw [cset_self, fup_self]; rfl⟩ _ (Or.inl ⟨rfl, fun t ht => absurd ht (Nat.not_lt_zero _)⟩)
    · rintro s g1 hs ⟨hx1, h6⟩ ih v hv
      have hs1 : (s : Int) < 1000 := Int.ofNat_lt.mpr hs
      have hsb : 0 ≤ (s : Int) ∧ (s : Int) ≤ 999 := by clear ih fin; omega
      have hK2 : KOK (setSk K (s : Int)) := setSk_ok hK hsb
      have hw9 : w32 ((s : Int) + 1) = ((s + 1 : Nat) : Int) := w32n s (by clear ih fin; omega)
      refine b_X8_fullStake_32 (fun c => absurd (by rw [h6]; exact hs1) (Int.not_lt.mpr c)) (fun _ => ?_)
      refine b_X8_fullStake_42 (fun c2 => ?_) (fun c2 => ?_)
      · rcases hv with h | h
        · exact absurd c2 (by rw [h.1]; decide)
        · exact fin _ _ hx1 h.2
      · have hno : ∀ t : Nat, t < s → thrK (setSk K (t : Int)) ≠ nC K := by
          rcases hv with h | h
          · exact h.2
          · exact absurd h.1 c2
        have hu1 : SM g1 (setSk K (s : Int)) := by
          have h := SM.sk (hu.m hx1)
          rw [h6] at h
          exact h
        refine b_X8_fullStake_46 (m_lay he6 hK2 hu1) (fun g2 hx => ?_)
        obtain ⟨hw, hf2⟩ := hx
        have hu2 := hu1.m hf2
        have h62 : g2 45 6 = (s : Int) := hu2.2.2.2.2.1
        have hn2 : g2 45 0 = nC K := hu2.1
        have hx2 : mfr g (cset g2 45 (fup (g2 45) 6 (skC K))) := hx1.tr (hf2.setS 6 (skC K))
        refine b_X8_fullStake_50 (m_through (K := setSk K (s : Int)) he1 hK2 hn2 (fun i hi => (hw i hi).2.1)) (fun x g3 hx => ?_)
        obtain ⟨rfl, rfl⟩ := hx
        refine b_X8_fullStake_54 (fun c3 => ?_) (fun c3 => ?_)
        · rw [hn2] at c3
          refine b_X8_fullStake_68 (ih _ ⟨by rw [setS_2]; exact hx2, by rw [cset_self, fup_self, h62, hw9]⟩ _ (Or.inl ⟨rfl, fun t ht => if h : t = s then h ▸ c3 else hno t (by clear ih fin; omega)⟩))
        · rw [hn2] at c3
          have hA := aFs_at hK h0 (Classical.not_not.mp c3) hno
          exact b_X8_fullStake_61 (ih _ ⟨by rw [setS_2]; exact hx2, by rw [cset_self, fup_self, h62, hw9]⟩ _ (Or.inr ⟨by rw [h62]; exact hsb.1, by rw [h62]; exact hA⟩))
    · rintro g1 ⟨hx1, h6⟩ v hv
      refine b_X8_fullStake_32 (fun _ => ?_) (fun c => absurd (by rw [h6]; decide) c)
      refine fin _ _ hx1 ?_
      rcases hv with h | h
      · rw [h.1]; exact aFs_no hK h0 h.2
      · exact h.2
  · rw [hn0] at c
    have hr : rFs K = -3 := if_pos (by omega)
    refine b_X8_fullStake_12 (m_refuse he1 ref3) (fun x g1 hx => ?_)
    obtain ⟨rfl, rfl⟩ := hx
    exact b_X8_fullStake_18 (rm_no (thr g) hr (aR_n hr (by omega)))
