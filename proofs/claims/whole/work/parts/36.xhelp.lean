/-- what a query of x leaves as it was -/
def xfr (g g' : pG) : Prop := ∀ a, (a ≤ 6 ∨ (13 ≤ a ∧ a ≤ 26) ∨ 45 ≤ a) → g' a = g a
theorem xfr.rf {g : pG} : xfr g g := fun _ _ => rfl
theorem xfr.tr {g g1 g2 : pG} (h1 : xfr g g1) (h2 : xfr g1 g2) : xfr g g2 := fun a ha => (h2 a ha).trans (h1 a ha)
theorem fr2.x {g g' : pG} {t : Nat} (ht : isScr t) (h : fr2 g g' t) : xfr g g' := fun a ha => h a (by rcases ht with rfl | rfl | rfl <;> omega) (by rcases ht with rfl | rfl | rfl <;> omega)
theorem fr.x {g g' : pG} {t : Nat} (ht : isScr t) (h : fr g g' (t + 1)) : xfr g g' := h.to2.x ht
theorem SU.x {g g' : pG} {K : tK} (h : SU g 1 K) (hf : xfr g g') : SU g' 1 K := h.frm (fun a _ hb => hf a (by omega))
theorem scr27 : isScr 27 := Or.inl rfl
theorem scr29 : isScr 29 := Or.inr (Or.inl rfl)
theorem scr31 : isScr 31 := Or.inr (Or.inr rfl)
theorem fr_x {g g' : pG} {c : Nat} (h : fr g g' c) (hc : 27 ≤ c ∧ c ≤ 44) : xfr g g' := fun a ha => h a (by omega)
/-- a refusal counted, or nothing (0) -/
def refX (g : pG) (n : Int) : pG := if n = 0 then g else cset g 26 (fup (g 26) (-n).toNat (w32 (g 26 (-n).toNat + 1)))
theorem refX0 (g : pG) : refX g 0 = g := if_pos rfl
def isRef (n : Int) : Prop := n = -1 ∨ n = -2 ∨ n = -3 ∨ n = -4 ∨ n = -6
theorem s_refuse {d : Nat} {g : pG} {n : Int} (hd : 1 ≤ d) (hn : isRef n) : CT d mX7_refuse [vR 0, vI n] g (qI (fun x g' => x = n ∧ g' = refX g n)) := by
  refine ct_in (L := [vR 0, vI n, vX 2]) (by omega) (Nat.le_of_ble_eq_true rfl) rfl (fun e he => ?_)
  have h1 : -6 ≤ n ∧ n ≤ -1 := by rcases hn with rfl | rfl | rfl | rfl | rfl <;> omega
  have e1 : w32 (-n) = -n := w32_of (by omega) (by omega)
  refine b_X7_refuse_0 (fun c0 => ?_) (fun c0 => ?_)
  · exfalso
    try simp (disch := omega) only [w32_of, Int.toNat_natCast, tn0, tn1, tn2] at c0
    omega
  · try simp (disch := omega) only [w32_of, Int.toNat_natCast, tn0, tn1, tn2] at c0 ⊢
    refine b_X7_refuse_7 (fun c7 => ?_) (fun c7 => ?_)
    · exfalso
      omega
    · refine b_X7_refuse_16 (by omega) (by omega) ?_
      try simp (disch := omega) only [w32_of, Int.toNat_natCast, tn0, tn1, tn2]
      exact ⟨_, rfl, rfl, by unfold refX; rw [if_neg (by omega)]⟩
theorem s_refuseHigh {d : Nat} {g : pG} {n : Int} (hd : 2 ≤ d) (hn : isRef n) : CT d mX7_refuseHigh [vR 0, vI n] g (qI (fun x g' => x = 1000000000 - n ∧ g' = refX g n)) := by
  refine ct_in (L := [vR 0, vI n]) (by omega) (Nat.le_of_ble_eq_true rfl) rfl (fun e he => ?_)
  have h1 : -6 ≤ n ∧ n ≤ -1 := by rcases hn with rfl | rfl | rfl | rfl | rfl <;> omega
  refine b_X7_refuseHigh_0 (s_refuse (by omega) hn) (fun x0 g0 hx => ?_)
  obtain ⟨rfl, rfl⟩ := hx
  refine b_X7_refuseHigh_7 ?_
  try simp (disch := omega) only [w32_of, Int.toNat_natCast, tn0, tn1, tn2]
  exact ⟨_, rfl, rfl, rfl⟩
theorem s_refuseLong {d : Nat} {g : pG} {n : Int} (hd : 2 ≤ d) (hn : isRef n) : CT d mX7_refuseLong [vR 0, vI n] g (qL (fun x g' => x = 4000000000000000000 - n ∧ g' = refX g n)) := by
  refine ct_in (L := [vR 0, vI n]) (by omega) (Nat.le_of_ble_eq_true rfl) rfl (fun e he => ?_)
  have h1 : -6 ≤ n ∧ n ≤ -1 := by rcases hn with rfl | rfl | rfl | rfl | rfl <;> omega
  refine b_X7_refuseLong_0 (s_refuse (by omega) hn) (fun x0 g0 hx => ?_)
  obtain ⟨rfl, rfl⟩ := hx
  try simp (disch := omega) only [w32_of, Int.toNat_natCast, tn0, tn1, tn2, w64_of]
  refine b_X7_refuseLong_8 ?_
  try simp (disch := omega) only [w32_of, Int.toNat_natCast, tn0, tn1, tn2, w64_of]
  exact ⟨_, rfl, rfl, rfl⟩
theorem s_outside {d : Nat} {g : pG} {v lo hi : Int} (hd : 1 ≤ d) : CT d mX7_outside [vI v, vI lo, vI hi] g (qI (fun x g' => x = wrN v lo hi ∧ g' = g)) := by
  refine ct_in (L := [vI v, vI lo, vI hi]) (by omega) (Nat.le_of_ble_eq_true rfl) rfl (fun e he => ?_)
  have a1 := wrN_cases v lo hi
  refine b_X7_outside_0 (fun c0 => ?_) (fun c0 => ?_)
  · refine b_X7_outside_8 (fun c8 => ?_) (fun c8 => ?_)
    · refine b_X7_outside_18 ?_
      exact ⟨_, rfl, by omega, rfl⟩
    · refine b_X7_outside_13 ?_
      exact ⟨_, rfl, by omega, rfl⟩
  · refine b_X7_outside_5 ?_
    exact ⟨_, rfl, by omega, rfl⟩
theorem s_isKind {d : Nat} {g : pG} {v : Int} (hd : 1 ≤ d) : CT d mX7_isKind [vI v] g (qI (fun x g' => x = bi (0 ≤ v ∧ v ≤ 5) ∧ g' = g)) := by
  refine ct_in (L := [vI v]) (by omega) (Nat.le_of_ble_eq_true rfl) rfl (fun e he => ?_)
  refine b_X7_isKind_0 (fun c0 => ?_) (fun c0 => ?_)
  · refine b_X7_isKind_14 ?_
    exact ⟨_, rfl, (bi_neg (by omega)).symm, rfl⟩
  · refine b_X7_isKind_4 (fun c4 => ?_) (fun c4 => ?_)
    · refine b_X7_isKind_14 ?_
      exact ⟨_, rfl, (bi_neg (by omega)).symm, rfl⟩
    · refine b_X7_isKind_10 ?_
      exact ⟨_, rfl, (bi_pos (by omega)).symm, rfl⟩
theorem s_bit {d : Nat} {g : pG} {v : Int} (hd : 1 ≤ d) (hv : v = 0 ∨ v = 1) : CT d mX7_bit [vI v] g (qI (fun x g' => x = v ∧ g' = g)) := by
  refine ct_in (L := [vI v]) (by omega) (Nat.le_of_ble_eq_true rfl) rfl (fun e he => ?_)
  refine b_X7_bit_0 (fun c0 => ?_) (fun c0 => ?_)
  · refine b_X7_bit_8 ?_
    exact ⟨_, rfl, by omega, rfl⟩
  · refine b_X7_bit_4 ?_
    exact ⟨_, rfl, by omega, rfl⟩
theorem s_think {d t : Nat} {g : pG} {K : tK} (hd : 1 ≤ d) (ht : isScr t) (hK : KOK K) (hu : SU g 1 K) : CT d mX3_copyFrom [vR t, vR 5] g (qV (fun g' => PT g' t (nP K) (ptC K) ∧ fr2 g g' t)) :=
  ct_mono (fun v gg hq => by
    obtain ⟨rfl, q1, q2, q3⟩ := hq
    exact ⟨rfl, (hu.pt hK).of q1 q2, q3⟩) (s_copyP hd ht.pts pts_5 (by rcases ht with rfl | rfl | rfl <;> decide) (by rcases ht with rfl | rfl | rfl <;> decide))
theorem s_goDownTo {d n : Nat} {g : pG} {K : tK} (hd : 6 ≤ d) (hK : KOK K) (hu : SU g 1 K) (hn : n ≤ nC K) : CT d mX7_goDownTo [vR 0, vI n] g (qV (fun g' => PT g' 27 (nP K) (downF K n (ptC K)) ∧ fr2 g g' 27)) := by
  refine ct_in (L := [vR 0, vI n]) (by omega) (Nat.le_of_ble_eq_true rfl) rfl (fun e he => ?_)
  refine b_X7_goDownTo_0 (s_think (by omega) scr27 hK hu) (fun g1 hx => ?_)
  obtain ⟨hp1, hf1⟩ := hx
  refine b_X7_goDownTo_14 (s_goDown (by omega) scr27 hK (hu.x (hf1.x scr27)) hp1 hn) (fun g2 hx => ?_)
  obtain ⟨hp2, hf2⟩ := hx
  refine b_X7_goDownTo_26 ?_
  exact ⟨rfl, hp2, hf1.tr hf2.to2⟩
theorem s_goDownTo0 {d : Nat} {g : pG} {K : tK} (hd : 6 ≤ d) (hK : KOK K) (hu : SU g 1 K) : CT d mX7_goDownTo [vR 0, vI 0] g (qV (fun g' => PT g' 27 (nP K) (ptC K) ∧ fr2 g g' 27)) := s_goDownTo (n := 0) hd hK hu (Nat.zero_le _)
theorem s_isForAll {d : Nat} {g : pG} {K : tK} (hd : 6 ≤ d) (hK : KOK K) (hu : SU g 1 K) : CT d mX7_isForBehindAll [vR 0] g (qI (fun x g' => x = bi (0 < sumAll K) ∧ fr2 g g' 27)) := by
  refine ct_in (L := [vR 0]) (by omega) (Nat.le_of_ble_eq_true rfl) rfl (fun e he => ?_)
  refine b_X7_isForBehindAll_0 (s_think (by omega) scr27 hK hu) (fun g1 hx => ?_)
  obtain ⟨hp1, hf1⟩ := hx
  refine b_X7_isForBehindAll_14 (by rw [(hu.x (hf1.x scr27)).1]; exact s_goDown (by omega) scr27 hK (hu.x (hf1.x scr27)) hp1 (Nat.le_refl _)) (fun g2 hx => ?_)
  obtain ⟨hp2, hf2⟩ := hx
  refine b_X7_isForBehindAll_32 (s_isFor (by omega) pts_27 hp2) (fun x2 _ hx => ?_)
  obtain ⟨rfl, rfl⟩ := hx
  refine b_X7_isForBehindAll_39 (bi_01 _) ?_
  exact ⟨_, rfl, rfl, hf1.tr hf2.to2⟩
theorem and1 (a : Int32) : a &&& 1 = 0 ∨ a &&& 1 = 1 := by
  have e : (a &&& 1).toBitVec.toNat = a.toBitVec.toNat % 2 := by
    rw [Int32.toBitVec_and, BitVec.toNat_and]
    show _ &&& 1 = _
    exact Nat.and_one_is_mod _
  rcases Nat.mod_two_eq_zero_or_one a.toBitVec.toNat with h | h
  · left
    apply Int32.toBitVec_inj.mp
    apply BitVec.eq_of_toNat_eq
    rw [e, h]; rfl
  · right
    apply Int32.toBitVec_inj.mp
    apply BitVec.eq_of_toNat_eq
    rw [e, h]; rfl
theorem zand_01 (x : Int) : zand x 1 = 0 ∨ zand x 1 = 1 := by
  unfold zand
  rcases and1 (Int32.ofInt x) with h | h
  · left; rw [show Int32.ofInt 1 = 1 from rfl, h]; rfl
  · right; rw [show Int32.ofInt 1 = 1 from rfl, h]; rfl
theorem s_asleep {d : Nat} {g : pG} {K : tK} {b : Int} (hd : 6 ≤ d) (hK : KOK K) (hu : SU g 1 K) : CT d mX7_goDownAsleep [vR 0, vI b] g (qV (fun g' => PT g' 27 (nP K) (slpF K b (nC K) (ptC K)) ∧ fr2 g g' 27)) := by
  refine ct_in (L := [vR 0, vI b, vX 2]) (by omega) (Nat.le_of_ble_eq_true rfl) rfl (fun e he => ?_)
  have h7 := hK.1
  refine b_X7_goDownAsleep_0 (s_think (by omega) scr27 hK hu) (fun g1 hx => ?_)
  obtain ⟨hp1, hf1⟩ := hx
  refine b_X7_goDownAsleep_14 ?_
  refine loopN (P := fun k g' => PT g' 27 (nP K) (slpF K b k (ptC K)) ∧ fr2 g g' 27) (nC K) (fun k g' => ∀ w : Int, w = k → EV e mX7_goDownAsleep _ 16 [vR 0, vI b, vI w] [] g') ?_ ?_ 0 g1 (Nat.zero_le _) ⟨hp1, hf1⟩ _ rfl
  · rintro k g2 hk ⟨hp2, hf2⟩ ih w rfl
    have hu2 := hu.x (hf2.x scr27)
    have hm := hu2.1
    have hz := zand_01 (zshr b k)
    refine b_X7_goDownAsleep_16 (fun c16 => ?_) (fun c16 => ?_)
    · exfalso
      omega
    · refine b_X7_goDownAsleep_27 (fun c27 => ?_) (fun c27 => ?_)
      · refine b_X7_goDownAsleep_47 ?_
        try simp (disch := omega) only [w32_of, Int.toNat_natCast, tn0, tn1, tn2]
        first | exact ih _ ⟨by unfold slpF; rw [if_pos (by omega)]; exact hp2, hf2⟩ _ (by omega) | exact ih _ ⟨by unfold slpF; rw [if_neg (by omega)]; exact hp3, hf2.tr hf3.to2⟩ _ (by omega)
      · refine b_X7_goDownAsleep_35 (s_hear (by omega) pts_27 hK hu2 hp2 hk) (fun g3 hx => ?_)
        obtain ⟨hp3, hf3⟩ := hx
        refine b_X7_goDownAsleep_47 ?_
        try simp (disch := omega) only [w32_of, Int.toNat_natCast, tn0, tn1, tn2]
        first | exact ih _ ⟨by unfold slpF; rw [if_pos (by omega)]; exact hp2, hf2⟩ _ (by omega) | exact ih _ ⟨by unfold slpF; rw [if_neg (by omega)]; exact hp3, hf2.tr hf3.to2⟩ _ (by omega)
  · rintro g2 ⟨hp2, hf2⟩ w rfl
    have hu2 := hu.x (hf2.x scr27)
    have hm := hu2.1
    refine b_X7_goDownAsleep_16 (fun c16 => ?_) (fun c16 => ?_)
    · refine b_X7_goDownAsleep_53 ?_
      exact ⟨rfl, hp2, hf2⟩
    · exfalso
      omega
/-- one court of another kind -/
def setKd (K : tK) (c : Nat) (kind : Int) : tK := (nC K, fup (kdC K) c kind, fgC K, csC K, nP K, ptC K, skC K, lnC K)
theorem setKd_ok {K : tK} {c : Nat} {kind : Int} (h : KOK K) (hk : 0 ≤ kind ∧ kind ≤ 5) : KOK (setKd K c kind) := by
  obtain ⟨h1, h2, h3⟩ := h
  refine ⟨h1, fun k hkn => ⟨?_, (h2 k hkn).2⟩, h3⟩
  show 0 ≤ fup (kdC K) c kind k ∧ fup (kdC K) c kind k ≤ 5
  unfold fup
  split
  · exact hk
  · exact (h2 k hkn).1
theorem s_with {d c : Nat} {g : pG} {K : tK} {kind : Int} (hd : 6 ≤ d) (hK : KOK K) (hu : SU g 1 K) (hk5 : 0 ≤ kind ∧ kind ≤ 5) : CT d mX7_goDownWith [vR 0, vI c, vI kind] g (qV (fun g' => PT g' 27 (nP K) (downF (setKd K c kind) (nC K) (ptC K)) ∧ fr2 g g' 27)) := by
  refine ct_in (L := [vR 0, vI c, vI kind, vX 2]) (by omega) (Nat.le_of_ble_eq_true rfl) rfl (fun e he => ?_)
  have h7 := hK.1
  refine b_X7_goDownWith_0 (s_think (by omega) scr27 hK hu) (fun g1 hx => ?_)
  obtain ⟨hp1, hf1⟩ := hx
  refine b_X7_goDownWith_14 ?_
  refine loopN (P := fun k g' => PT g' 27 (nP K) (downF (setKd K c kind) k (ptC K)) ∧ fr2 g g' 27) (nC K) (fun k g' => ∀ w : Int, w = k → EV e mX7_goDownWith _ 16 [vR 0, vI c, vI kind, vI w] [] g') ?_ ?_ 0 g1 (Nat.zero_le _) ⟨hp1, hf1⟩ _ rfl
  · rintro k g2 hk ⟨hp2, hf2⟩ ih w rfl
    have hu2 := hu.x (hf2.x scr27)
    have hm := hu2.1
    have e2 : g2 3 k = fgC K k := (hu2.2.1 k hk).2.1
    have b2 := (hK.2.1 k hk).2.1
    refine b_X7_goDownWith_16 (fun c16 => ?_) (fun c16 => ?_)
    · exfalso
      omega
    · refine b_X7_goDownWith_27 (fun c27 => ?_) (fun c27 => ?_)
      · refine b_X7_goDownWith_56 (s_hear (by omega) pts_27 hK hu2 hp2 hk) (fun g3 hx => ?_)
        obtain ⟨hp3, hf3⟩ := hx
        refine b_X7_goDownWith_68 ?_
        try simp (disch := omega) only [w32_of, Int.toNat_natCast, tn0, tn1, tn2]
        first | exact ih _ ⟨by have e9 : passF (setKd K c kind) k = passF K k := (by funext f; show hearF _ _ (fup (kdC K) c kind k) _ _ = _; rw [fup_ne _ _ (by omega)]; rfl); unfold downF; rw [e9]; exact hp3, hf2.tr hf3.to2⟩ _ (by omega) | exact ih _ ⟨by have e9 : c = k := (by omega); subst e9; have e8 : ∀ f, passF (setKd K c kind) c f = hearF (nP K) (lnC K) kind (fgC K c) f := (fun f => by show hearF _ _ (fup (kdC K) c kind c) _ _ = _; rw [fup_self]; rfl); unfold downF; rw [e8]; exact hp3, hf2.tr hf3.to2⟩ _ (by omega)
      · refine b_X7_goDownWith_32 (by omega) (by omega) (by rw [Int.toNat_natCast, e2]; exact s_hearAs (by omega) pts_27 hp2 hu2 hk5 b2) (fun g3 hx => ?_)
        obtain ⟨hp3, hf3⟩ := hx
        refine b_X7_goDownWith_53 ?_
        try simp (disch := omega) only [w32_of, Int.toNat_natCast, tn0, tn1, tn2]
        first | exact ih _ ⟨by have e9 : passF (setKd K c kind) k = passF K k := (by funext f; show hearF _ _ (fup (kdC K) c kind k) _ _ = _; rw [fup_ne _ _ (by omega)]; rfl); unfold downF; rw [e9]; exact hp3, hf2.tr hf3.to2⟩ _ (by omega) | exact ih _ ⟨by have e9 : c = k := (by omega); subst e9; have e8 : ∀ f, passF (setKd K c kind) c f = hearF (nP K) (lnC K) kind (fgC K c) f := (fun f => by show hearF _ _ (fup (kdC K) c kind c) _ _ = _; rw [fup_self]; rfl); unfold downF; rw [e8]; exact hp3, hf2.tr hf3.to2⟩ _ (by omega)
  · rintro g2 ⟨hp2, hf2⟩ w rfl
    have hu2 := hu.x (hf2.x scr27)
    have hm := hu2.1
    refine b_X7_goDownWith_16 (fun c16 => ?_) (fun c16 => ?_)
    · refine b_X7_goDownWith_74 ?_
      exact ⟨rfl, hp2, hf2⟩
    · exfalso
      omega
/-- the first place below n of which p holds; n, if there is none -/
def lfind (p : Nat → Prop) [DecidablePred p] : Nat → Nat
  | 0 => 0
  | n + 1 => if lfind p n < n then lfind p n else if p n then n else n + 1
theorem lfind_none {p : Nat → Prop} [DecidablePred p] : ∀ n, (∀ j, j < n → ¬ p j) → lfind p n = n := by
  intro n
  induction n with
  | zero => intro _; rfl
  | succ n ih =>
    intro h
    have e := ih (fun j hj => h j (by omega))
    unfold lfind
    rw [if_neg (by omega), if_neg (h n (by omega))]
theorem lfind_hit {p : Nat → Prop} [DecidablePred p] {k : Nat} (h : ∀ j, j < k → ¬ p j) (hp : p k) : ∀ n, k < n → lfind p n = k := by
  intro n
  induction n with
  | zero => intro h9; omega
  | succ n ih =>
    intro hkn
    unfold lfind
    by_cases hk : k < n
    · rw [ih hk, if_pos hk]
    · have : k = n := by omega
      subst this
      rw [lfind_none k h, if_neg (by omega), if_pos hp]
def fastF (K : tK) (f : tF) : Nat := lfind (fun k => bi (0 < psum (downF K (k + 1) f) (nP K)) ≠ bi (0 < psum f (nP K))) (nC K)
theorem s_fast {d : Nat} {g : pG} {K : tK} {f : tF} (hd : 6 ≤ d) (hK : KOK K) (hu : SU g 1 K) (hp : PT g 27 (nP K) f) : CT d mX7_fastCourts [vR 0] g (qI (fun x g' => x = (fastF K f : Int) ∧ fr2 g g' 27)) := by
  refine ct_in (L := [vR 0, vX 2, vX 2]) (by omega) (Nat.le_of_ble_eq_true rfl) rfl (fun e he => ?_)
  have h7 := hK.1
  refine b_X7_fastCourts_0 (s_isFor (by omega) pts_27 hp) (fun x g1 hx => ?_)
  obtain ⟨rfl, rfl⟩ := hx
  refine b_X7_fastCourts_7 ?_
  refine loopN (P := fun k g' => PT g' 27 (nP K) (downF K k f) ∧ fr2 g1 g' 27 ∧ ∀ j, j < k → ¬ (bi (0 < psum (downF K (j + 1) f) (nP K)) ≠ bi (0 < psum f (nP K)))) (nC K) (fun k g' => ∀ w : Int, w = k → EV e mX7_fastCourts _ 10 [vR 0, vI (bi (0 < psum f (nP K))), vI w] [] g') ?_ ?_ 0 g1 (Nat.zero_le _) ⟨hp, fr2.rf, fun j hj => absurd hj (by omega)⟩ _ rfl
  · rintro k g2 hk ⟨hp2, hf2, hall⟩ ih w rfl
    have hu2 := hu.x (hf2.x scr27)
    have hm := hu2.1
    refine b_X7_fastCourts_10 (fun c10 => ?_) (fun c10 => ?_)
    · exfalso
      omega
    · refine b_X7_fastCourts_21 (s_hear (by omega) pts_27 hK hu2 hp2 hk) (fun g3 hx => ?_)
      obtain ⟨hp3, hf3⟩ := hx
      refine b_X7_fastCourts_33 (s_isFor (by omega) pts_27 hp3) (fun x2 _ hx => ?_)
      obtain ⟨rfl, rfl⟩ := hx
      refine b_X7_fastCourts_40 (fun c40 => ?_) (fun c40 => ?_)
      · refine b_X7_fastCourts_46 ?_
        try simp (disch := omega) only [w32_of, Int.toNat_natCast, tn0, tn1, tn2]
        refine ih _ ⟨hp3, hf2.tr hf3.to2, fun j hj => ?_⟩ _ (by omega)
        exact (if h : j = k then (by subst h; exact fun z => z c40) else hall j (by omega))
      · refine b_X7_fastCourts_44 ?_
        exact ⟨_, rfl, by unfold fastF; rw [lfind_hit hall c40 _ hk], hf2.tr hf3.to2⟩
  · rintro g2 ⟨hp2, hf2, hall⟩ w rfl
    have hu2 := hu.x (hf2.x scr27)
    have hm := hu2.1
    refine b_X7_fastCourts_10 (fun c10 => ?_) (fun c10 => ?_)
    · refine b_X7_fastCourts_52 ?_
      exact ⟨_, rfl, by unfold fastF; rw [lfind_none _ hall]; exact hm, hf2⟩
    · exfalso
      omega
theorem s_copy31 {d N : Nat} {g : pG} {f : tF} (hd : 1 ≤ d) (hp : PT g 27 N f) : CT d mX3_copyFrom [vR 31, vR 27] g (qV (fun g' => PT g' 31 N f ∧ fr2 g g' 31)) :=
  ct_mono (fun v gg hq => by
    obtain ⟨rfl, q1, q2, q3⟩ := hq
    exact ⟨rfl, hp.of q1 q2, q3⟩) (s_copyP hd pts_31 pts_27 (by decide) (by decide))
def sameF (N : Nat) (f f' : tF) : Prop := ∀ k, k < N → f k = f' k
theorem s_changesAny {d k : Nat} {g : pG} {K : tK} {f : tF} (hd : 6 ≤ d) (hK : KOK K) (hu : SU g 1 K) (hp : PT g 27 (nP K) f) (hk : k < nC K) : CT d mX7_changesAny [vR 0, vI k] g (qI (fun x g' => x = bi (¬ ∀ j, j < nP K → passF K k f j = f j) ∧ PT g' 27 (nP K) (passF K k f) ∧ xfr g g')) := by
  refine ct_in (L := [vR 0, vI k]) (by omega) (Nat.le_of_ble_eq_true rfl) rfl (fun e he => ?_)
  refine b_X7_changesAny_0 (s_copy31 (by omega) hp) (fun g1 hx => ?_)
  obtain ⟨hp1, hf1⟩ := hx
  have hu1 := hu.x (hf1.x scr31)
  have hp27 : PT g1 27 (nP K) f := ⟨by rw [hf1 27 (by decide) (by decide)]; exact hp.1, hp.2.1, hp.2.2.1, fun j hj => by rw [hf1 28 (by decide) (by decide)]; exact hp.2.2.2.1 j hj, hp.2.2.2.2⟩
  refine b_X7_changesAny_11 (s_hear (by omega) pts_27 hK hu1 hp27 hk) (fun g2 hx => ?_)
  obtain ⟨hp2, hf2⟩ := hx
  have hp31 : PT g2 31 (nP K) f := hp1.frm hf2 (by decide) (by decide)
  refine b_X7_changesAny_23 (s_isAs (by omega) pts_27 pts_31 hp2 hp31) (fun x g3 hx => ?_)
  obtain ⟨rfl, rfl⟩ := hx
  have hxf := (hf1.x scr31).tr (hf2.x scr27)
  refine b_X7_changesAny_34 (fun c => ?_) (fun c => ?_)
  · exact b_X7_changesAny_41 ⟨_, rfl, (bi_neg (fun z => z (bi_ne0 c))).symm, hp2, hxf⟩
  · exact b_X7_changesAny_37 ⟨_, rfl, (bi_pos (bi_eq0 (Classical.not_not.mp c))).symm, hp2, hxf⟩
