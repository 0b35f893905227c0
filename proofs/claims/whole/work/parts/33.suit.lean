/-- a case of part I: courts, kinds, figures, costs, POINTS (how many, numbers), STAKE, LENGTH -/
abbrev tK : Type := Nat × tF × tF × tF × Nat × tF × Int × Int
abbrev nC (K : tK) : Nat := K.1
abbrev kdC (K : tK) : tF := K.2.1
abbrev fgC (K : tK) : tF := K.2.2.1
abbrev csC (K : tK) : tF := K.2.2.2.1
abbrev nP (K : tK) : Nat := K.2.2.2.2.1
abbrev ptC (K : tK) : tF := K.2.2.2.2.2.1
abbrev skC (K : tK) : Int := K.2.2.2.2.2.2.1
abbrev lnC (K : tK) : Int := K.2.2.2.2.2.2.2
def KOK (K : tK) : Prop := nC K ≤ 7 ∧ (∀ k, k < nC K → (0 ≤ kdC K k ∧ kdC K k ≤ 5) ∧ (0 ≤ fgC K k ∧ fgC K k ≤ 9) ∧ (0 ≤ csC K k ∧ csC K k ≤ 99)) ∧ (1 ≤ nP K ∧ nP K ≤ 8) ∧ Bd 8 (ptC K) ∧ (∀ k, nP K ≤ k → k < 8 → ptC K k = 0) ∧ (0 ≤ skC K ∧ skC K ≤ 999) ∧ (0 ≤ lnC K ∧ lnC K ≤ 8)
def SU (g : pG) (s : Nat) (K : tK) : Prop := g s 3 = nC K ∧ (∀ k, k < nC K → g (s + 1) k = kdC K k ∧ g (s + 2) k = fgC K k ∧ g (s + 3) k = csC K k) ∧ g (s + 4) 1 = nP K ∧ (∀ k, k < 8 → g (s + 5) k = ptC K k) ∧ g s 5 = skC K ∧ g s 6 = lnC K
theorem SU.frm {g g' : pG} {s : Nat} {K : tK} (h : SU g s K) (hf : ∀ a, s ≤ a → a ≤ s + 5 → g' a = g a) : SU g' s K := by
  obtain ⟨h1, h2, h3, h4, h5, h6⟩ := h
  refine ⟨by rw [hf s (by omega) (by omega)]; exact h1, fun k hk => ?_, by rw [hf (s + 4) (by omega) (by omega)]; exact h3, fun k hk => by rw [hf (s + 5) (by omega) (by omega)]; exact h4 k hk, by rw [hf s (by omega) (by omega)]; exact h5, by rw [hf s (by omega) (by omega)]; exact h6⟩
  rw [hf (s + 1) (by omega) (by omega), hf (s + 2) (by omega) (by omega), hf (s + 3) (by omega) (by omega)]
  exact h2 k hk
theorem SU.pt {g : pG} {s : Nat} {K : tK} (h : SU g s K) (hk : KOK K) : PT g (s + 4) (nP K) (ptC K) :=
  ⟨h.2.2.1, hk.2.2.1.1, hk.2.2.1.2, fun k hkn => h.2.2.2.1 k (by have := hk.2.2.1.2; omega), fun k hkn => hk.2.2.2.1 k (by have := hk.2.2.1.2; omega)⟩
/-- what a court of a kind does to POINTS, a BOY who would send it back nothing -/
def hearF (n : Nat) (ln kind fig : Int) (f : tF) : tF := if kind = 3 ∧ ln < pnz f n then f else actF n kind fig f
def passF (K : tK) (k : Nat) (f : tF) : tF := hearF (nP K) (lnC K) (kdC K k) (fgC K k) f
def downF (K : tK) : Nat → tF → tF
  | 0, f => f
  | k + 1, f => passF K k (downF K k f)
theorem Bd.hear {n : Nat} {ln kind fig : Int} {f : tF} (h : Bd n f) (hn : 0 < n) (hf : 0 ≤ fig ∧ fig ≤ 9) : Bd n (hearF n ln kind fig f) := by
  unfold hearF
  split
  · exact h
  · exact h.act hn hf
theorem Bd.pass {K : tK} {k : Nat} {f : tF} (hK : KOK K) (hk : k < nC K) (h : Bd (nP K) f) : Bd (nP K) (passF K k f) := h.hear (by have := hK.2.2.1.1; omega) (hK.2.1 k hk).2.1
theorem Bd.down {K : tK} {f : tF} (hK : KOK K) (h : Bd (nP K) f) : ∀ k, k ≤ nC K → Bd (nP K) (downF K k f) := by
  intro k
  induction k with
  | zero => intro _; exact h
  | succ k ih => intro hk; exact Bd.pass hK (by omega) (ih (by omega))
def isScr (t : Nat) : Prop := t = 27 ∨ t = 29 ∨ t = 31
theorem isScr.pts {t : Nat} (h : isScr t) : isPts t := by
  rcases h with rfl | rfl | rfl
  · exact pts_27
  · exact pts_29
  · exact pts_31
theorem SU.scr {g g' : pG} {s t : Nat} {K : tK} (h : SU g s K) (hs : s ≤ 13) (ht : isScr t) (hf : fr g g' (t + 1)) : SU g' s K := h.frm (fun a ha hb => hf a (by rcases ht with rfl | rfl | rfl <;> omega))
theorem SU.scr2 {g g' : pG} {s t : Nat} {K : tK} (h : SU g s K) (hs : s ≤ 13) (ht : isScr t) (hf : fr2 g g' t) : SU g' s K := h.frm (fun a ha hb => hf a (by rcases ht with rfl | rfl | rfl <;> omega) (by rcases ht with rfl | rfl | rfl <;> omega))
theorem s_hasCourt {d s : Nat} {g : pG} {K : tK} {v : Int} (hd : 1 ≤ d) (hs : isSt s) (hu : SU g s K) : CT d mX5_hasCourt [vR s, vI v] g (qI (fun x g' => x = bi (0 ≤ v ∧ v < nC K) ∧ g' = g)) := by
  refine ct_in (L := [vR s, vI v]) (by omega) (Nat.le_of_ble_eq_true rfl) rfl (fun e he => ?_)
  have hm := hu.1
  refine b_X5_hasCourt_0 hs (fun c0 => ?_) (fun c0 => ?_)
  · refine b_X5_hasCourt_16 hs ?_
    exact ⟨_, rfl, (bi_neg (by omega)).symm, rfl⟩
  · refine b_X5_hasCourt_4 hs (fun c4 => ?_) (fun c4 => ?_)
    · refine b_X5_hasCourt_16 hs ?_
      exact ⟨_, rfl, (bi_neg (by omega)).symm, rfl⟩
    · refine b_X5_hasCourt_12 hs ?_
      exact ⟨_, rfl, (bi_pos (by omega)).symm, rfl⟩
theorem s_hasCourt1 {d s k : Nat} {g : pG} {K : tK} (hd : 1 ≤ d) (hs : isSt s) (hu : SU g s K) (hk : k < nC K) : CT d mX5_hasCourt [vR s, vI k] g (qI (fun x g' => x = 1 ∧ g' = g)) :=
  ct_mono (fun v gg hq => by obtain ⟨x, rfl, rfl, rfl⟩ := hq; exact ⟨_, rfl, bi_pos ⟨by omega, by omega⟩, rfl⟩) (s_hasCourt hd hs hu)
theorem s_hearAs {d t N : Nat} {g : pG} {f : tF} {K : tK} {kind fig : Int} (hd : 4 ≤ d) (ht : isPts t) (hp : PT g t N f) (hu : SU g 1 K) (hk : 0 ≤ kind ∧ kind ≤ 5) (hf : 0 ≤ fig ∧ fig ≤ 9) : CT d mX5_hearAs [vR 1, vI kind, vI fig, vR t] g (qV (fun g' => PT g' t N (hearF N (lnC K) kind fig f) ∧ fr g g' (t + 1))) := by
  refine ct_in (L := [vR 1, vI kind, vI fig, vR t]) (by omega) (Nat.le_of_ble_eq_true rfl) rfl (fun e he => ?_)
  have hln : g 1 6 = lnC K := hu.2.2.2.2.2
  refine b_X5_hearAs_0 ht (fun c0 => ?_) (fun c0 => ?_)
  · refine b_X5_hearAs_17 ht (s_suffer (by omega) ht hp hk hf) (fun g1 hx => ?_)
    obtain ⟨hp1, hf1⟩ := hx
    refine b_X5_hearAs_23 ht ?_
    exact ⟨rfl, by unfold hearF; rw [if_neg (by omega)]; exact hp1, hf1⟩
  · refine b_X5_hearAs_5 ht (s_notZero (by omega) ht hp) (fun x1 _ hx => ?_)
    obtain ⟨rfl, rfl⟩ := hx
    refine b_X5_hearAs_9 ht (fun c9 => ?_) (fun c9 => ?_)
    · refine b_X5_hearAs_17 ht (s_suffer (by omega) ht hp hk hf) (fun g3 hx => ?_)
      obtain ⟨hp1, hf1⟩ := hx
      refine b_X5_hearAs_23 ht ?_
      exact ⟨rfl, by unfold hearF; rw [if_neg (by omega)]; exact hp1, hf1⟩
    · refine b_X5_hearAs_16 ht ?_
      exact ⟨rfl, by unfold hearF; rw [if_pos ⟨by omega, by omega⟩]; exact hp, fr.rf⟩
theorem s_hear {d t : Nat} {g : pG} {f : tF} {K : tK} {k : Nat} (hd : 5 ≤ d) (ht : isPts t) (hK : KOK K) (hu : SU g 1 K) (hp : PT g t (nP K) f) (hk : k < nC K) : CT d mX5_hear [vR 1, vI k, vR t] g (qV (fun g' => PT g' t (nP K) (passF K k f) ∧ fr g g' (t + 1))) := by
  refine ct_in (L := [vR 1, vI k, vR t]) (by omega) (Nat.le_of_ble_eq_true rfl) rfl (fun e he => ?_)
  have h7 := hK.1
  obtain ⟨e1, e2, e3⟩ := hu.2.1 k hk
  obtain ⟨b1, b2, b3⟩ := hK.2.1 k hk
  have e1 : g 2 k = kdC K k := e1
  have e2 : g 3 k = fgC K k := e2
  refine b_X5_hear_0 ht (s_hasCourt1 (by omega) st_1 hu hk) (fun x0 g0 hx => ?_)
  obtain ⟨rfl, rfl⟩ := hx
  refine b_X5_hear_5 ht (fun c5 => ?_) (fun c5 => ?_)
  · exfalso
    omega
  · have a1 : (0 : Int) ≤ (k : Int) := by omega
    refine b_X5_hear_8 ht (by omega) (by omega) (by rw [Int.toNat_natCast, e1, e2]; exact s_hearAs (by omega) ht hp hu b1 b2) (fun g2 hx => ?_)
    obtain ⟨hp1, hf1⟩ := hx
    refine b_X5_hear_25 ht ?_
    exact ⟨rfl, hp1, hf1⟩
theorem s_goDown {d t : Nat} {g : pG} {f : tF} {K : tK} {n : Nat} (hd : 5 ≤ d) (ht : isScr t) (hK : KOK K) (hu : SU g 1 K) (hp : PT g t (nP K) f) (hn : n ≤ nC K) : CT d mX5_goDown [vR 1, vR t, vI n] g (qV (fun g' => PT g' t (nP K) (downF K n f) ∧ fr g g' (t + 1))) := by
  refine ct_in (L := [vR 1, vR t, vI n, vX 2]) (by omega) (Nat.le_of_ble_eq_true rfl) rfl (fun e he => ?_)
  have h7 := hK.1
  have htp := ht.pts
  refine b_X5_goDown_0 htp ?_
  refine loopN (P := fun k g' => PT g' t (nP K) (downF K k f) ∧ fr g g' (t + 1)) n (fun k g' => ∀ w : Int, w = k → EV e mX5_goDown _ 2 [vR 1, vR t, vI n, vI w] [] g') ?_ ?_ 0 g (Nat.zero_le _) ⟨hp, fr.rf⟩ _ rfl
  · rintro k g1 hk ⟨hp1, hf1⟩ ih w rfl
    have hu1 := hu.scr (by omega) ht hf1
    have hm1 := hu1.1
    obtain ⟨e1, e2, e3⟩ := hu1.2.1 k (by omega)
    obtain ⟨b1, b2, b3⟩ := hK.2.1 k (by omega)
    have e1 : g1 2 k = kdC K k := e1
    have e2 : g1 3 k = fgC K k := e2
    refine b_X5_goDown_2 htp (fun c2 => ?_) (fun c2 => ?_)
    · exfalso
      omega
    · refine b_X5_goDown_7 htp (fun c7 => ?_) (fun c7 => ?_)
      · exfalso
        omega
      · refine b_X5_goDown_15 htp (by omega) (by omega) (by rw [Int.toNat_natCast, e1, e2]; exact s_hearAs (by omega) htp hp1 hu1 b1 b2) (fun g2 hx => ?_)
        obtain ⟨hp2, hf2⟩ := hx
        refine b_X5_goDown_32 htp ?_
        try simp (disch := omega) only [w32_of, Int.toNat_natCast, tn0, tn1, tn2]
        exact ih _ ⟨hp2, hf1.tr hf2⟩ _ (by omega)
  · rintro g1 ⟨hp1, hf1⟩ w rfl
    refine b_X5_goDown_2 htp (fun c2 => ?_) (fun c2 => ?_)
    · refine b_X5_goDown_38 htp ?_
      exact ⟨rfl, hp1, hf1⟩
    · exfalso
      omega
theorem s_sendsBack {d t N : Nat} {g : pG} {f : tF} {K : tK} {k : Nat} {lim : Int} (hd : 2 ≤ d) (ht : isPts t) (hK : KOK K) (hu : SU g 1 K) (hp : PT g t N f) (hk : k < nC K) : CT d mX5_sendsBack [vR 1, vI k, vR t, vI lim] g (qI (fun x g' => x = bi (kdC K k = 3 ∧ lim < pnz f N) ∧ g' = g)) := by
  refine ct_in (L := [vR 1, vI k, vR t, vI lim]) (by omega) (Nat.le_of_ble_eq_true rfl) rfl (fun e he => ?_)
  have h7 := hK.1
  obtain ⟨e1, e2, e3⟩ := hu.2.1 k hk
  have e1 : g 2 k = kdC K k := e1
  refine b_X5_sendsBack_0 ht (s_hasCourt1 (by omega) st_1 hu hk) (fun x0 _ hx => ?_)
  obtain ⟨rfl, rfl⟩ := hx
  refine b_X5_sendsBack_5 ht (fun c5 => ?_) (fun c5 => ?_)
  · exfalso
    omega
  · refine b_X5_sendsBack_8 ht (by omega) (by omega) (fun c8 => ?_) (fun c8 => ?_)
    · try simp (disch := omega) only [w32_of, Int.toNat_natCast, tn0, tn1, tn2] at c8 ⊢
      refine b_X5_sendsBack_30 ht ?_
      exact ⟨_, rfl, (bi_neg (by omega)).symm, rfl⟩
    · try simp (disch := omega) only [w32_of, Int.toNat_natCast, tn0, tn1, tn2] at c8 ⊢
      refine b_X5_sendsBack_18 ht (s_notZero (by omega) ht hp) (fun x3 _ hx => ?_)
      obtain ⟨rfl, rfl⟩ := hx
      refine b_X5_sendsBack_22 ht (fun c22 => ?_) (fun c22 => ?_)
      · refine b_X5_sendsBack_30 ht ?_
        exact ⟨_, rfl, (bi_neg (by omega)).symm, rfl⟩
      · refine b_X5_sendsBack_26 ht ?_
        exact ⟨_, rfl, (bi_pos ⟨by omega, by omega⟩).symm, rfl⟩
def psumB (f : tF) (a : Nat) : Nat → Int
  | 0 => 0
  | n + 1 => psumB f a n + f (a + n)
theorem psumB_bd {f : tF} {a m : Nat} {B : Int} (h : ∀ k, a ≤ k → k < a + m → 0 ≤ f k ∧ f k ≤ B) : ∀ n, n ≤ m → 0 ≤ psumB f a n ∧ psumB f a n ≤ B * (n : Int) := by
  intro n
  induction n with
  | zero => intro _; simp [psumB]
  | succ n ih =>
    intro hn
    have h1 := ih (by omega)
    have h2 := h (a + n) (by omega) (by omega)
    unfold psumB
    have e : B * ((n + 1 : Nat) : Int) = B * (n : Int) + B := by rw [Int.natCast_succ, Int.mul_add, Int.mul_one]
    rw [e]
    omega
/-- COSTS of courts a .. a + m less 1 -/
theorem s_costsB {d a m : Nat} {g : pG} {K : tK} (hd : 1 ≤ d) (hK : KOK K) (hu : SU g 1 K) (hm : a + m ≤ nC K) : CT d mX5_costsBetween [vR 1, vI a, vI (a + m : Nat)] g (qI (fun x g' => x = psumB (csC K) a m ∧ g' = g)) := by
  refine ct_in (L := [vR 1, vI a, vI (a + m : Nat), vX 2, vX 2]) (by omega) (Nat.le_of_ble_eq_true rfl) rfl (fun e he => ?_)
  have h7 := hK.1
  have hm1 := hu.1
  have hz : zmax 0 (a : Int) = a := by unfold zmax; split <;> omega
  refine b_X5_costsBetween_0 ?_
  rw [hz]
  refine loopN (P := fun _ g' => g' = g) m (fun k g' => ∀ x w : Int, x = psumB (csC K) a k → w = (a + k : Nat) → EV e mX5_costsBetween _ 9 [vR 1, vI a, vI (a + m : Nat), vI x, vI w] [] g') ?_ ?_ 0 g (Nat.zero_le _) rfl _ _ rfl (by omega)
  · rintro k _ hk rfl ih x w hx rfl
    have hb := psumB_bd (f := csC K) (a := a) (m := m) (B := 99) (fun j _ hj => (hK.2.1 j (by omega)).2.2) k (by omega)
    have e3 := (hu.2.1 (a + k) (by omega)).2.2
    have hb3 := (hK.2.1 (a + k) (by omega)).2.2
    refine b_X5_costsBetween_9 (fun c9 => ?_) (fun c9 => ?_)
    · exfalso
      omega
    · refine b_X5_costsBetween_15 (fun c15 => ?_) (fun c15 => ?_)
      · exfalso
        try simp (disch := omega) only [w32_of, Int.toNat_natCast, tn0, tn1, tn2, e3] at c15
        omega
      · try simp (disch := omega) only [w32_of, Int.toNat_natCast, tn0, tn1, tn2, e3] at c15 ⊢
        refine b_X5_costsBetween_24 (by omega) (by omega) ?_
        try simp (disch := omega) only [w32_of, Int.toNat_natCast, tn0, tn1, tn2, e3]
        exact ih _ rfl _ _ (by unfold psumB; omega) (by omega)
  · rintro _ rfl x w rfl rfl
    refine b_X5_costsBetween_9 (fun c9 => ?_) (fun c9 => ?_)
    · refine b_X5_costsBetween_40 ?_
      exact ⟨_, rfl, rfl, rfl⟩
    · exfalso
      omega
