/-- APPEALS from behind one court: whether he goes on, FOR in the end, what each side pays -/
abbrev t4 : Type := Int × Int × Int × Int
def wstep (fb c sk : Int) (nx : t4) : t4 := if nx.2.1 ≠ fb ∧ c + (if fb = 0 then nx.2.2.1 else nx.2.2.2) < sk then (1, nx.2.1, (if fb = 0 then c + nx.2.2.1 else nx.2.2.1), (if fb = 0 then nx.2.2.2 else c + nx.2.2.2)) else (0, fb, 0, 0)
def wt (F cs : tF) (sk : Int) (n : Nat) : Nat → t4
  | 0 => (0, F n, 0, 0)
  | j + 1 => wstep (F (n - (j + 1))) (cs (n - (j + 1))) sk (wt F cs sk n j)
def wI (F cs : tF) (sk : Int) (n i : Nat) : t4 := wt F cs sk n (n - i)
theorem wI_n (F cs : tF) (sk : Int) (n : Nat) : wI F cs sk n n = (0, F n, 0, 0) := by
  unfold wI; rw [Nat.sub_self]; rfl
theorem wI_s (F cs : tF) (sk : Int) {n i : Nat} (h : i < n) : wI F cs sk n i = wstep (F i) (cs i) sk (wI F cs sk n (i + 1)) := by
  unfold wI
  obtain ⟨j, hj⟩ : ∃ j, n - i = j + 1 := ⟨n - i - 1, by omega⟩
  have e : n - (i + 1) = j := by omega
  have e2 : n - (j + 1) = i := by omega
  rw [hj, e]
  show wstep (F (n - (j + 1))) (cs (n - (j + 1))) sk (wt F cs sk n j) = _
  rw [e2]
def W4b (r : t4) (B : Int) : Prop := (r.1 = 0 ∨ r.1 = 1) ∧ (r.2.1 = 0 ∨ r.2.1 = 1) ∧ 0 ≤ r.2.2.1 ∧ 0 ≤ r.2.2.2 ∧ r.2.2.1 + r.2.2.2 ≤ B
theorem wstep_b {fb c sk B : Int} {r : t4} (h : W4b r B) (hf : fb = 0 ∨ fb = 1) (hc : 0 ≤ c ∧ c ≤ 99) : W4b (wstep fb c sk r) (B + 99) := by
  obtain ⟨h1, h2, h3, h4, h5⟩ := h
  unfold wstep
  by_cases h : r.2.1 ≠ fb ∧ c + (if fb = 0 then r.2.2.1 else r.2.2.2) < sk
  · rw [if_pos h]
    refine ⟨Or.inr rfl, h2, ?_, ?_, ?_⟩ <;> rcases hf with rfl | rfl <;> simp <;> omega
  · rw [if_neg h]
    exact ⟨Or.inl rfl, hf, Int.le_refl _, Int.le_refl _, by show (0 : Int) + 0 ≤ _; omega⟩
theorem wt_b {F cs : tF} {sk : Int} {n : Nat} (hF : ∀ k, F k = 0 ∨ F k = 1) (hc : ∀ k, k < n → 0 ≤ cs k ∧ cs k ≤ 99) : ∀ j, j ≤ n → W4b (wt F cs sk n j) (99 * (j : Int)) := by
  intro j
  induction j with
  | zero => intro _; exact ⟨Or.inl rfl, hF n, Int.le_refl _, Int.le_refl _, by show (0 : Int) + 0 ≤ _; omega⟩
  | succ j ih =>
    intro hj
    have h := wstep_b (sk := sk) (ih (by omega)) (hF (n - (j + 1))) (hc (n - (j + 1)) (by omega))
    have e : 99 * ((j + 1 : Nat) : Int) = 99 * (j : Int) + 99 := by omega
    rw [e]
    exact h
theorem W4b.le {r : t4} {B C : Int} (h : W4b r B) (hB : B ≤ C) : W4b r C := ⟨h.1, h.2.1, h.2.2.1, h.2.2.2.1, Int.le_trans h.2.2.2.2 hB⟩
abbrev wK (K : tK) (i : Nat) : t4 := wI (fo K) (csC K) (skC K) (nC K) i
theorem fo_01 (K : tK) (k : Nat) : fo K k = 0 ∨ fo K k = 1 := bi_01 _
theorem wK_b {K : tK} (hK : KOK K) (i : Nat) : W4b (wK K i) 693 := by
  have h7 := hK.1
  refine (wt_b (fo_01 K) (fun k hk => (hK.2.1 k hk).2.2) (nC K - i) (by omega)).le (by omega)
def W4 (g : pG) (a k : Nat) (r : t4) : Prop := g a k = r.1 ∧ g (a + 1) k = r.2.1 ∧ g (a + 2) k = r.2.2.1 ∧ g (a + 3) k = r.2.2.2
def fr4 (g g' : pG) (a k : Nat) : Prop := (∀ b j, j ≠ k → g' b j = g b j) ∧ ∀ b, (b < a ∨ a + 4 ≤ b) → g' b = g b
theorem fr4.rf {g : pG} {a k : Nat} : fr4 g g a k := ⟨fun _ _ _ => rfl, fun _ _ => rfl⟩
theorem fr4.tr {g g1 g2 : pG} {a k : Nat} (h1 : fr4 g g1 a k) (h2 : fr4 g1 g2 a k) : fr4 g g2 a k := ⟨fun b j hj => (h2.1 b j hj).trans (h1.1 b j hj), fun b hb => (h2.2 b hb).trans (h1.2 b hb)⟩
def set4 (g : pG) (a k : Nat) (r : t4) : pG := cset (cset (cset (cset g a (fup (g a) k r.1)) (a + 1) (fup (g (a + 1)) k r.2.1)) (a + 2) (fup (g (a + 2)) k r.2.2.1)) (a + 3) (fup (g (a + 3)) k r.2.2.2)
theorem set4_W (g : pG) (a k : Nat) (r : t4) : W4 (set4 g a k r) a k r := by
  refine ⟨?_, ?_, ?_, ?_⟩
  · unfold set4; rw [cset_ne _ _ (by omega), cset_ne _ _ (by omega), cset_ne _ _ (by omega), cset_self, fup_self]
  · unfold set4; rw [cset_ne _ _ (by omega), cset_ne _ _ (by omega), cset_self, fup_self]
  · unfold set4; rw [cset_ne _ _ (by omega), cset_self, fup_self]
  · unfold set4; rw [cset_self, fup_self]
theorem set4_fr (g : pG) (a k : Nat) (r : t4) : fr4 g (set4 g a k r) a k := by
  refine ⟨fun b j hj => ?_, fun b hb => ?_⟩
  · unfold set4 cset fup
    by_cases h3 : b = a + 3
    · subst h3; simp [hj]
    · by_cases h2 : b = a + 2
      · subst h2; simp [hj]
      · by_cases h1 : b = a + 1
        · subst h1; simp [hj]
        · by_cases h0 : b = a
          · subst h0; simp [hj]
          · simp [h0, h1, h2, h3]
  · unfold set4
    rw [cset_ne _ _ (by omega), cset_ne _ _ (by omega), cset_ne _ _ (by omega), cset_ne _ _ (by omega)]
theorem wstep_y {fb c sk : Int} {r : t4} (h1 : r.2.1 ≠ fb) (h2 : c + (if fb = 0 then r.2.2.1 else r.2.2.2) < sk) : wstep fb c sk r = (1, r.2.1, (if fb = 0 then c + r.2.2.1 else r.2.2.1), (if fb = 0 then r.2.2.2 else c + r.2.2.2)) := if_pos ⟨h1, h2⟩
theorem wstep_n {fb c sk : Int} {r : t4} (h : r.2.1 = fb ∨ sk ≤ c + (if fb = 0 then r.2.2.1 else r.2.2.2)) : wstep fb c sk r = (0, fb, 0, 0) := if_neg (fun z => h.elim (fun y => z.1 y) (fun y => by have := z.2; omega))
theorem s_weighStep {d k : Nat} {g : pG} {K : tK} {r : t4} {fb : Int} (hd : 1 ≤ d) (hK : KOK K) (hu : SU g 1 K) (hk : k + 1 < nC K) (hfb : g 34 k = fb) (hf : fb = 0 ∨ fb = 1) (hn : W4 g 35 (k + 1) r) (hr : W4b r 693) (h0 : W4 g 35 k (0, fb, 0, 0)) : CT d mX6_weighStep [vR 33, vR 1, vI k] g (qV (fun g' => W4 g' 35 k (wstep fb (csC K (k + 1)) (skC K) r) ∧ fr4 g g' 35 k)) := by
  refine ct_in (L := [vR 33, vR 1, vI k, vX 2, vX 2, vX 2]) (by omega) (Nat.le_of_ble_eq_true rfl) rfl (fun e he => ?_)
  have h7 := hK.1
  have e1 := w32n k (by omega)
  have l0 : (0 : Int) ≤ (k : Int) := Int.natCast_nonneg _
  have l7 : (k : Int) < 7 := by omega
  have m0 : (0 : Int) ≤ ((k + 1 : Nat) : Int) := Int.natCast_nonneg _
  have m7 : ((k + 1 : Nat) : Int) < 7 := by omega
  have ec : g 4 (k + 1) = csC K (k + 1) := (hu.2.1 (k + 1) hk).2.2
  have es : g 1 5 = skC K := hu.2.2.2.2.1
  have hc := (hK.2.1 (k + 1) hk).2.2
  obtain ⟨n1, n2, n3, n4⟩ := hn
  have n2 : g 36 (k + 1) = r.2.1 := n2
  have n3 : g 37 (k + 1) = r.2.2.1 := n3
  have n4 : g 38 (k + 1) = r.2.2.2 := n4
  obtain ⟨r1, r2, r3, r4, r5⟩ := hr
  have k3 : g 37 k = 0 := h0.2.2.1
  have k4 : g 38 k = 0 := h0.2.2.2
  have no : r.2.1 = fb ∨ skC K ≤ csC K (k + 1) + (if fb = 0 then r.2.2.1 else r.2.2.2) → ∀ v3 v4 v5 : Int, EV e mX6_weighStep (qV (fun g' => W4 g' 35 k (wstep fb (csC K (k + 1)) (skC K) r) ∧ fr4 g g' 35 k)) 74 [vR 33, vR 1, vI k, vI v3, vI v4, vI v5] [] g := fun h v3 v4 v5 => b_X6_weighStep_74 ⟨rfl, by rw [wstep_n h]; exact h0, fr4.rf⟩
  refine b_X6_weighStep_0 l0 l7 (fun c => ?_) (fun c => ?_)
  · rw [Int.toNat_natCast, hfb] at c
    have hf1 : fb = 1 := by omega
    subst hf1
    refine b_X6_weighStep_13 (by rw [e1]; exact m0) (by rw [e1]; exact m7) (fun c2 => ?_) (fun c2 => ?_)
    · rw [e1, Int.toNat_natCast, n2] at c2
      exact no (Or.inl (by omega)) _ _ _
    · rw [e1, Int.toNat_natCast, n2] at c2
      rw [e1, Int.toNat_natCast, ec, n4, w32_of (by omega) (by omega)]
      refine b_X6_weighStep_65 (fun c3 => ?_) (fun c3 => no (Or.inr (by rw [es] at c3; simp; omega)) _ _ _)
      rw [es] at c3
      refine b_X6_weighStep_75 l0 l7 (by rw [e1]; exact m0) (by rw [e1]; exact m7) (by rw [e1, Int.toNat_natCast, n2]; exact r2) (fun _ => ?_) (fun c => absurd rfl c)
      rw [e1, Int.toNat_natCast, Int.toNat_natCast, n2, n3]
      refine b_X6_weighStep_118 l0 l7 (by rw [e1]; exact m0) (by rw [e1]; exact m7) (fun _ => ?_) (fun c => absurd rfl c)
      rw [e1, Int.toNat_natCast, Int.toNat_natCast, w32_of (by omega) (by omega)]
      refine b_X6_weighStep_142 l0 l7 ?_
      rw [Int.toNat_natCast]
      show qV _ none (set4 g 35 k (1, r.2.1, r.2.2.1 + 0, w32 (g 38 (k + 1) + csC K (k + 1))))
      rw [n4, w32_of (by omega) (by omega)]
      rw [wstep_y (by omega) (by rw [if_neg (by decide)]; exact c3)]
      refine ⟨rfl, ?_, set4_fr _ _ _ _⟩
      have hW := set4_W g 35 k (1, r.2.1, r.2.2.1 + 0, r.2.2.2 + csC K (k + 1))
      refine ⟨hW.1, hW.2.1, hW.2.2.1.trans ?_, hW.2.2.2.trans ?_⟩
      · show r.2.2.1 + 0 = _; simp
      · show r.2.2.2 + csC K (k + 1) = _; simp; omega
  · rw [Int.toNat_natCast, hfb] at c
    have hf1 : fb = 0 := by omega
    subst hf1
    refine b_X6_weighStep_9 (by rw [e1]; exact m0) (by rw [e1]; exact m7) (fun c2 => ?_) (fun c2 => ?_)
    · rw [e1, Int.toNat_natCast, n2] at c2
      exact no (Or.inl (by omega)) _ _ _
    · rw [e1, Int.toNat_natCast, n2] at c2
      rw [e1, Int.toNat_natCast, ec, n3, w32_of (by omega) (by omega)]
      refine b_X6_weighStep_65 (fun c3 => ?_) (fun c3 => no (Or.inr (by rw [es] at c3; simp; omega)) _ _ _)
      rw [es] at c3
      refine b_X6_weighStep_75 l0 l7 (by rw [e1]; exact m0) (by rw [e1]; exact m7) (by rw [e1, Int.toNat_natCast, n2]; exact r2) (fun c => absurd c (by decide)) (fun _ => ?_)
      rw [e1, Int.toNat_natCast, Int.toNat_natCast, n2, n3]
      refine b_X6_weighStep_113 l0 l7 (by rw [e1]; exact m0) (by rw [e1]; exact m7) (fun c => absurd c (by decide)) (fun _ => ?_)
      rw [e1, Int.toNat_natCast, Int.toNat_natCast, w32_of (by omega) (by omega)]
      refine b_X6_weighStep_138 l0 l7 ?_
      rw [Int.toNat_natCast]
      show qV _ none (set4 g 35 k (1, r.2.1, r.2.2.1 + csC K (k + 1), w32 (g 38 (k + 1) + 0)))
      rw [n4, w32_of (by omega) (by omega)]
      rw [wstep_y (by omega) (by rw [if_pos rfl]; exact c3)]
      refine ⟨rfl, ?_, set4_fr _ _ _ _⟩
      have hW := set4_W g 35 k (1, r.2.1, r.2.2.1 + csC K (k + 1), r.2.2.2 + 0)
      refine ⟨hW.1, hW.2.1, hW.2.2.1.trans ?_, hW.2.2.2.trans ?_⟩
      · show r.2.2.1 + csC K (k + 1) = _; simp; omega
      · show r.2.2.2 + 0 = _; simp
theorem fr4.x {g g' : pG} {k : Nat} (h : fr4 g g' 35 k) : xfr g g' := fun a ha => h.2 a (by omega)
theorem fr4.pt {g g' : pG} {N k : Nat} {f : tF} (h : PT g 27 N f) (hf : fr4 g g' 35 k) : PT g' 27 N f := ⟨by rw [hf.2 27 (by decide)]; exact h.1, h.2.1, h.2.2.1, fun j hj => by rw [hf.2 28 (by decide)]; exact h.2.2.2.1 j hj, h.2.2.2.2⟩
theorem s_weigh {d : Nat} {g : pG} {K : tK} (hd : 6 ≤ d) (hK : KOK K) (hu : SU g 1 K) : CT d mX6_weigh [vR 33, vR 1, vR 27] g (qV (fun g' => g' 33 5 = nC K ∧ (∀ k, k < nC K → g' 34 k = fo K (k + 1) ∧ W4 g' 35 k (wK K (k + 1))) ∧ PT g' 27 (nP K) (downF K (nC K) (ptC K)) ∧ xfr g g')) := by
  refine ct_in (L := [vR 33, vR 1, vR 27, vX 2]) (by omega) (Nat.le_of_ble_eq_true rfl) rfl (fun e he => ?_)
  have h7 := hK.1
  have he1 : 1 ≤ e := by omega
  have he4 : 5 ≤ e := by omega
  have hn : g 1 3 = nC K := hu.1
  generalize hgA : cset g 33 (fup (g 33) 5 (g 1 3)) = gA
  have hxA : xfr g gA := by rw [← hgA]; exact fr_x (c := 33) (fr.set _) (by decide)
  have hA5 : gA 33 5 = nC K := by rw [← hgA, cset_self, fup_self, hn]
  refine b_X6_weigh_0 (by rw [hgA]; exact s_think he1 scr27 hK (hu.x hxA)) (fun g1 hx => ?_)
  obtain ⟨hp1, hf1⟩ := hx
  have h15 : g1 33 5 = nC K := by rw [hf1 33 (by decide) (by decide)]; exact hA5
  have hx1 := hxA.tr (hf1.x scr27)
  clear hgA hA5
  refine b_X6_weigh_16 ?_
  refine loopN (P := fun k g' => xfr g g' ∧ g' 33 5 = nC K ∧ PT g' 27 (nP K) (downF K k (ptC K)) ∧ ∀ j, j < k → g' 34 j = fo K (j + 1)) (nC K) (fun k g' => ∀ q : Int, q = k → EV e mX6_weigh _ 18 [vR 33, vR 1, vR 27, vI q] [] g') ?_ ?_ 0 g1 (Nat.zero_le _) ⟨hx1, h15, hp1, fun j hj => absurd hj (Nat.not_lt_zero _)⟩ _ rfl
  · rintro k g2 hk ⟨hx2, h25, hp2, ha2⟩ ih q rfl
    have hu2 := hu.x hx2
    refine b_X6_weigh_18 (fun c => absurd c (by omega)) (fun c => ?_)
    refine b_X6_weigh_26 (s_hear he4 pts_27 hK hu2 hp2 hk) (fun g3 hx => ?_)
    obtain ⟨hp3, hf3⟩ := hx
    refine b_X6_weigh_32 (s_isFor (by omega) pts_27 hp3) (fun x g4 hx => ?_)
    obtain ⟨rfl, rfl⟩ := hx
    refine b_X6_weigh_41 (by omega) (by omega) (bi_01 _) ?_
    rw [Int.toNat_natCast, w32n k (by omega)]
    refine ih _ ⟨(hx2.tr (hf3.x scr27)).tr (fr_x (c := 34) (fr.set _) (by decide)), ?_, ?_, fun j hj => ?_⟩ _ rfl
    · rw [cset_ne _ _ (by decide), hf3 33 (by decide)]; exact h25
    · exact ⟨by rw [cset_ne _ _ (by decide)]; exact hp3.1, hp3.2.1, hp3.2.2.1, fun j hj => by rw [cset_ne _ _ (by decide)]; exact hp3.2.2.2.1 j hj, hp3.2.2.2.2⟩
    · rw [cset_self]
      by_cases h : j = k
      · subst h; rw [fup_self]; rfl
      · rw [fup_ne _ _ h, hf3 34 (by decide)]; exact ha2 j (by omega)
  · rintro g2 ⟨hx2, h25, hp2, ha2⟩ q rfl
    refine b_X6_weigh_18 (fun c => ?_) (fun c => absurd (by omega) c)
    refine b_X6_weigh_48 ?_
    rw [h25]
    refine loopN (P := fun i g' => xfr g g' ∧ g' 33 5 = nC K ∧ PT g' 27 (nP K) (downF K (nC K) (ptC K)) ∧ (∀ j, j < nC K → g' 34 j = fo K (j + 1)) ∧ ∀ j, j < nC K → nC K ≤ j + i → W4 g' 35 j (wK K (j + 1))) (nC K) (fun i g' => ∀ q : Int, q = (nC K : Int) - 1 - i → EV e mX6_weigh _ 55 [vR 33, vR 1, vR 27, vI q] [] g') ?_ ?_ 0 g2 (Nat.zero_le _) ⟨hx2, h25, hp2, ha2, fun j hj h => absurd h (by omega)⟩ _ (by rw [w32_of (by omega) (by omega)]; omega)
    · rintro i g3 hi ⟨hx3, h35, hp3, ha3, hw3⟩ ih q hq
      obtain ⟨k, hkq, hki⟩ : ∃ k : Nat, q = k ∧ k + 1 + i = nC K := ⟨nC K - 1 - i, by omega, by omega⟩
      subst hkq
      have hk : k < nC K := by omega
      have e3 : g3 34 k = fo K (k + 1) := ha3 k hk
      refine b_X6_weigh_55 (fun c => absurd c (by omega)) (fun c => ?_)
      have hset : set4 g3 35 k (0, fo K (k + 1), 0, 0) = cset (cset (cset (cset g3 35 (fup (g3 35) k 0)) 36 (fup (g3 36) k (fo K (k + 1)))) 37 (fup (g3 37) k 0)) 38 (fup (g3 38) k 0) := rfl
      have hfs := set4_fr g3 35 k (0, fo K (k + 1), 0, 0)
      have hWs := set4_W g3 35 k (0, fo K (k + 1), 0, 0)
      have fin : ∀ g5, fr4 (set4 g3 35 k (0, fo K (k + 1), 0, 0)) g5 35 k → W4 g5 35 k (wK K (k + 1)) → EV e mX6_weigh (qV (fun g' => g' 33 5 = nC K ∧ (∀ k, k < nC K → g' 34 k = fo K (k + 1) ∧ W4 g' 35 k (wK K (k + 1))) ∧ PT g' 27 (nP K) (downF K (nC K) (ptC K)) ∧ xfr g g')) 108 [vR 33, vR 1, vR 27, vI k] [] g5 := by
        intro g5 h5 hW5
        have hfa := hfs.tr h5
        refine b_X6_weigh_108 (ih _ ⟨hx3.tr hfa.x, by rw [hfa.2 33 (by decide)]; exact h35, fr4.pt hp3 hfa, fun j hj => by rw [hfa.2 34 (by decide)]; exact ha3 j hj, fun j hj hji => ?_⟩ _ (by rw [w32_of (by omega) (by omega)]; omega))
        by_cases hjk : j = k
        · subst hjk; exact hW5
        · have hw := hw3 j hj (by omega)
          exact ⟨(hfa.1 35 j hjk).trans hw.1, (hfa.1 36 j hjk).trans hw.2.1, (hfa.1 37 j hjk).trans hw.2.2.1, (hfa.1 38 j hjk).trans hw.2.2.2⟩
      refine b_X6_weigh_59 (by omega) (by omega) (by rw [Int.toNat_natCast, e3]; exact fo_01 _ _) (fun c2 => ?_) (fun c2 => ?_)
      · rw [Int.toNat_natCast, e3, ← hset]
        rw [h35, w32_of (by omega) (by omega)] at c2
        have ek : k + 1 = nC K := by omega
        refine fin _ fr4.rf ?_
        have e9 : wK K (k + 1) = (0, fo K (k + 1), 0, 0) := by rw [ek]; exact wI_n _ _ _ _
        rw [e9]
        exact hWs
      · rw [Int.toNat_natCast, e3, ← hset]
        rw [h35, w32_of (by omega) (by omega)] at c2
        have hk1 : k + 1 < nC K := by omega
        have hu4 : SU (set4 g3 35 k (0, fo K (k + 1), 0, 0)) 1 K := hu.x (hx3.tr hfs.x)
        have hw := hw3 (k + 1) hk1 (by omega)
        have hn4 : W4 (set4 g3 35 k (0, fo K (k + 1), 0, 0)) 35 (k + 1) (wK K (k + 1 + 1)) := ⟨(hfs.1 35 (k + 1) (by omega)).trans hw.1, (hfs.1 36 (k + 1) (by omega)).trans hw.2.1, (hfs.1 37 (k + 1) (by omega)).trans hw.2.2.1, (hfs.1 38 (k + 1) (by omega)).trans hw.2.2.2⟩
        refine b_X6_weigh_102 (s_weighStep he1 hK hu4 hk1 (by rw [hfs.2 34 (by decide)]; exact e3) (fo_01 _ _) hn4 (wK_b hK _) hWs) (fun g5 hx => ?_)
        obtain ⟨hW5, hf5⟩ := hx
        refine fin _ hf5 ?_
        have e9 : wK K (k + 1) = _ := wI_s (fo K) (csC K) (skC K) hk1
        rw [e9]
        exact hW5
    · rintro g3 ⟨hx3, h35, hp3, ha3, hw3⟩ q hq
      refine b_X6_weigh_55 (fun c => ?_) (fun c => absurd (by omega) c)
      exact b_X6_weigh_114 ⟨rfl, h35, fun k hk => ⟨ha3 k hk, hw3 k hk (by omega)⟩, hp3, hx3⟩
theorem m_lay {d : Nat} {g : pG} {K : tK} (hd : 6 ≤ d) (hK : KOK K) (hu : SM g K) : CT d mX8_layAppeals [vR 45] g (qV (fun g' => (∀ i, i ≤ nC K → g' 62 i = fo K i ∧ W4 g' 63 i (wK K i)) ∧ mfr g g')) := by
  refine ct_in (L := [vR 45, vX 2, vX 2, vX 2]) (by omega) (Nat.le_of_ble_eq_true rfl) rfl (fun e he => ?_)
  have h7 := hK.1
  have he5 : 5 ≤ e := by omega
  have he1 : 1 ≤ e := by omega
  refine b_X8_layAppeals_0 (m_think he1 hK hu) (fun g1 hx => ?_)
  obtain ⟨hp1, h81, hf1⟩ := hx
  refine b_X8_layAppeals_4 (m_isFor (by omega) hp1) (fun x g2 hx => ?_)
  obtain ⟨rfl, rfl⟩ := hx
  refine b_X8_layAppeals_13 (by decide) (by decide) (bi_01 _) ?_
  refine loopN (P := fun k g' => mfr g g' ∧ NW g' (nP K) (downF K k (ptC K)) ∧ ∀ j, j ≤ k → g' 62 j = fo K j) (nC K) (fun k g' => ∀ q : Int, q = k → EV e mX8_layAppeals _ 16 [vR 45, vI q, vX 2, vX 2] [] g') ?_ ?_ 0 _ (Nat.zero_le _) ⟨hf1.m.tr (mset _ (by decide)), hp1.ne (by decide), fun j hj => ?_⟩ _ rfl
  · rintro k g3 hk ⟨hx3, hp3, ha3⟩ ih q rfl
    have hu3 := hu.m hx3
    have hm := hu3.1
    refine b_X8_layAppeals_16 (fun c => absurd c (by omega)) (fun c => ?_)
    refine b_X8_layAppeals_24 (m_pass he5 hK hu3 hp3 hk) (fun g4 hx => ?_)
    obtain ⟨hp4, hf4⟩ := hx
    refine b_X8_layAppeals_29 (m_isFor (by omega) hp4) (fun x g5 hx => ?_)
    obtain ⟨rfl, rfl⟩ := hx
    rw [w32n k (by omega)]
    refine b_X8_layAppeals_40 (by omega) (by omega) (bi_01 _) ?_
    rw [Int.toNat_natCast, w32n k (by omega)]
    refine ih _ ⟨(hx3.tr hf4.m51).tr (mset _ (by decide)), hp4.ne (by decide), fun j hj => ?_⟩ _ rfl
    rw [cset_self]
    by_cases h : j = k + 1
    · subst h; rw [fup_self]; rfl
    · rw [fup_ne _ _ h, hf4 62 (by decide)]; exact ha3 j (by omega)
  · rintro g3 ⟨hx3, hp3, ha3⟩ q rfl
    have hu3 := hu.m hx3
    have hm := hu3.1
    refine b_X8_layAppeals_16 (fun c => ?_) (fun c => absurd (by omega) c)
    refine b_X8_layAppeals_47 ?_
    rw [hm]
    refine loopN (P := fun i g' => mfr g g' ∧ (∀ j, j ≤ nC K → g' 62 j = fo K j) ∧ ∀ j, j ≤ nC K → nC K < j + i → W4 g' 63 j (wK K j)) (nC K + 1) (fun i g' => ∀ (q : Int) (u2 u3 : pV), q = (nC K : Int) - i → EV e mX8_layAppeals _ 52 [vR 45, vI q, u2, u3] [] g') ?_ ?_ 0 g3 (Nat.zero_le _) ⟨hx3, ha3, fun j hj h => absurd h (by omega)⟩ _ _ _ (by omega)
    · rintro i g4 hi ⟨hx4, ha4, hw4⟩ ih q u2 u3 hq
      obtain ⟨k, hkq, hki⟩ : ∃ k : Nat, q = k ∧ k + i = nC K := ⟨nC K - i, by omega, by omega⟩
      subst hkq
      have hk : k ≤ nC K := by omega
      have e3 : g4 62 k = fo K k := ha4 k hk
      have l0 : (0 : Int) ≤ (k : Int) := Int.natCast_nonneg _
      have l8 : (k : Int) < 8 := by omega
      refine b_X8_layAppeals_52 (fun c => absurd c (by omega)) (fun c => ?_)
      have hset : set4 g4 63 k (0, fo K k, 0, 0) = cset (cset (cset (cset g4 63 (fup (g4 63) k 0)) 64 (fup (g4 64) k (fo K k))) 65 (fup (g4 65) k 0)) 66 (fup (g4 66) k 0) := rfl
      have hfs := set4_fr g4 63 k (0, fo K k, 0, 0)
      have hWs := set4_W g4 63 k (0, fo K k, 0, 0)
      have hmf : ∀ g5, fr4 g4 g5 63 k → mfr g4 g5 := fun g5 h => ⟨fun a ha => h.2 a (by omega), fun j hj => by rw [h.2 45 (by decide)]⟩
      have fin : ∀ g5, fr4 g4 g5 63 k → W4 g5 63 k (wK K k) → ∀ qq : Int, qq = w32 ((k : Int) + (-1)) → ∀ u2 u3 : pV, EV e mX8_layAppeals (qV (fun g' => (∀ i, i ≤ nC K → g' 62 i = fo K i ∧ W4 g' 63 i (wK K i)) ∧ mfr g g')) 52 [vR 45, vI qq, u2, u3] [] g5 := by
        intro g5 hfa hW5 qq hqq u2 u3
        refine ih _ ⟨hx4.tr (hmf _ hfa), fun j hj => by rw [hfa.2 62 (by decide)]; exact ha4 j hj, fun j hj hji => ?_⟩ _ _ _ (by rw [hqq, w32_of (by omega) (by omega)]; omega)
        by_cases hjk : j = k
        · subst hjk; exact hW5
        · have hw := hw4 j hj (by omega)
          exact ⟨(hfa.1 63 j hjk).trans hw.1, (hfa.1 64 j hjk).trans hw.2.1, (hfa.1 65 j hjk).trans hw.2.2.1, (hfa.1 66 j hjk).trans hw.2.2.2⟩
      have hm4 := (hu.m hx4).1
      refine b_X8_layAppeals_56 l0 l8 (by rw [Int.toNat_natCast, e3]; exact fo_01 _ _) (fun c2 => ?_) (fun c2 => ?_)
      · rw [Int.toNat_natCast, e3, ← hset]
        rw [hm4] at c2
        have ek : k = nC K := by omega
        have e9 : wK K k = (0, fo K k, 0, 0) := by rw [ek]; exact wI_n _ _ _ _
        exact b_X8_layAppeals_228 (fin _ hfs (by rw [e9]; exact hWs) _ rfl _ _)
      · rw [Int.toNat_natCast, e3, ← hset]
        rw [hm4] at c2
        have hk1 : k < nC K := by omega
        have l7 : (k : Int) < 7 := by omega
        have m8 : ((k + 1 : Nat) : Int) < 8 := by omega
        have m0 : (0 : Int) ≤ ((k + 1 : Nat) : Int) := Int.natCast_nonneg _
        have e1 := w32n k (by omega)
        have e9 : wK K k = _ := wI_s (fo K) (csC K) (skC K) hk1
        have hr := wK_b hK (k + 1)
        have hw := hw4 (k + 1) hk1 (by omega)
        change wI (fo K) (csC K) (skC K) (nC K) k = _ at e9
        generalize hr9 : wI (fo K) (csC K) (skC K) (nC K) (k + 1) = r at e9
        have hr : W4b r 693 := by rw [← hr9]; exact hr
        have hw : W4 g4 63 (k + 1) r := by rw [← hr9]; exact hw
        have n2 : g4 64 (k + 1) = r.2.1 := hw.2.1
        have n3 : g4 65 (k + 1) = r.2.2.1 := hw.2.2.1
        have n4 : g4 66 (k + 1) = r.2.2.2 := hw.2.2.2
        generalize hgB : set4 g4 63 k (0, fo K k, 0, 0) = gB at hfs hWs
        have q2 : gB 64 (k + 1) = r.2.1 := (hfs.1 64 (k + 1) (by omega)).trans n2
        have q3 : gB 65 (k + 1) = r.2.2.1 := (hfs.1 65 (k + 1) (by omega)).trans n3
        have q4 : gB 66 (k + 1) = r.2.2.2 := (hfs.1 66 (k + 1) (by omega)).trans n4
        have q0 : gB 62 k = fo K k := by rw [hfs.2 62 (by decide)]; exact e3
        have huB := hu.m (hx4.tr (hmf _ hfs))
        have ec : gB 48 k = csC K k := (huB.2.1 k hk1).2.2
        have es : gB 45 6 = skC K := huB.2.2.2.2.1
        have hc := (hK.2.1 k hk1).2.2
        obtain ⟨r1, r2, r3, r4, r5⟩ := hr
        have no : r.2.1 = fo K k ∨ skC K ≤ csC K k + (if fo K k = 0 then r.2.2.1 else r.2.2.2) → ∀ u2 u3 : pV, EV e mX8_layAppeals (qV (fun g' => (∀ i, i ≤ nC K → g' 62 i = fo K i ∧ W4 g' 63 i (wK K i)) ∧ mfr g g')) 228 [vR 45, vI k, u2, u3] [] gB := fun h u2 u3 => b_X8_layAppeals_228 (fin _ hfs (by show W4 gB 63 k (wI (fo K) (csC K) (skC K) (nC K) k); rw [e9, wstep_n h]; exact hWs) _ rfl _ _)
        refine b_X8_layAppeals_97 l0 l8 (fun c => ?_) (fun c => ?_)
        · rw [Int.toNat_natCast, q0] at c
          have hf1 : fo K k = 1 := by have := fo_01 K k; omega
          rw [hf1] at no e9
          refine b_X8_layAppeals_110 l0 l7 (by rw [e1]; exact m0) (by rw [e1]; exact m8) (fun c3 => ?_) (fun c3 => ?_)
          · rw [e1, Int.toNat_natCast, q2] at c3
            exact no (Or.inl (by omega)) _ _
          · rw [e1, Int.toNat_natCast, q2] at c3
            rw [e1, Int.toNat_natCast, Int.toNat_natCast, ec, q4, w32_of (by omega) (by omega)]
            refine b_X8_layAppeals_155 (fun c4 => no (Or.inr (by rw [es] at c4; simp; omega)) _ _) (fun c4 => ?_)
            rw [es] at c4
            refine b_X8_layAppeals_163 l0 l8 (by rw [e1]; exact m0) (by rw [e1]; exact m8) (by rw [e1, Int.toNat_natCast, q2]; exact r2) (fun _ => ?_) (fun c => absurd rfl c)
            rw [e1, Int.toNat_natCast, Int.toNat_natCast, q2]
            refine b_X8_layAppeals_197 (by rw [e1]; exact m0) (by rw [e1]; exact m8) l0 l8 (fun _ => ?_) (fun c => absurd rfl c)
            rw [e1, Int.toNat_natCast, Int.toNat_natCast]
            refine b_X8_layAppeals_226 l0 l8 ?_
            rw [Int.toNat_natCast]
            show EV e mX8_layAppeals _ 52 _ [] (set4 gB 63 k (1, r.2.1, gB 65 (k + 1), csC K k + r.2.2.2))
            refine fin _ (hfs.tr (set4_fr _ _ _ _)) ?_ _ rfl _ _
            show W4 _ 63 k (wI (fo K) (csC K) (skC K) (nC K) k)
            rw [e9, wstep_y (by omega) (by rw [if_neg (by decide)]; omega)]
            have hW := set4_W gB 63 k (1, r.2.1, gB 65 (k + 1), csC K k + r.2.2.2)
            refine ⟨hW.1, hW.2.1, hW.2.2.1.trans ?_, hW.2.2.2.trans ?_⟩
            · show gB 65 (k + 1) = _; rw [q3]; simp
            · show csC K k + r.2.2.2 = _; simp
        · rw [Int.toNat_natCast, q0] at c
          have hf1 : fo K k = 0 := by omega
          rw [hf1] at no e9
          refine b_X8_layAppeals_106 l0 l7 (by rw [e1]; exact m0) (by rw [e1]; exact m8) (fun c3 => ?_) (fun c3 => ?_)
          · rw [e1, Int.toNat_natCast, q2] at c3
            exact no (Or.inl (by omega)) _ _
          · rw [e1, Int.toNat_natCast, q2] at c3
            rw [e1, Int.toNat_natCast, Int.toNat_natCast, ec, q3, w32_of (by omega) (by omega)]
            refine b_X8_layAppeals_155 (fun c4 => no (Or.inr (by rw [es] at c4; simp; omega)) _ _) (fun c4 => ?_)
            rw [es] at c4
            refine b_X8_layAppeals_163 l0 l8 (by rw [e1]; exact m0) (by rw [e1]; exact m8) (by rw [e1, Int.toNat_natCast, q2]; exact r2) (fun c => absurd c (by decide)) (fun _ => ?_)
            rw [e1, Int.toNat_natCast, Int.toNat_natCast, q2]
            refine b_X8_layAppeals_193 l0 l8 (fun c => absurd c (by decide)) (fun _ => ?_)
            rw [Int.toNat_natCast]
            refine b_X8_layAppeals_215 (by rw [e1]; exact m0) (by rw [e1]; exact m8) l0 l8 ?_
            rw [e1, Int.toNat_natCast, Int.toNat_natCast]
            show EV e mX8_layAppeals _ 52 _ [] (set4 gB 63 k (1, r.2.1, csC K k + r.2.2.1, gB 66 (k + 1)))
            refine fin _ (hfs.tr (set4_fr _ _ _ _)) ?_ _ rfl _ _
            show W4 _ 63 k (wI (fo K) (csC K) (skC K) (nC K) k)
            rw [e9, wstep_y (by omega) (by rw [if_pos rfl]; omega)]
            have hW := set4_W gB 63 k (1, r.2.1, csC K k + r.2.2.1, gB 66 (k + 1))
            refine ⟨hW.1, hW.2.1, hW.2.2.1.trans ?_, hW.2.2.2.trans ?_⟩
            · show csC K k + r.2.2.1 = _; simp
            · show gB 66 (k + 1) = _; rw [q4]; simp
    · rintro g4 ⟨hx4, ha4, hw4⟩ q u2 u3 hq
      refine b_X8_layAppeals_52 (fun c => ?_) (fun c => absurd (by omega) c)
      exact b_X8_layAppeals_234 ⟨rfl, fun i hi => ⟨ha4 i hi, hw4 i hi (by omega)⟩, hx4⟩
  · obtain rfl : j = 0 := by omega
    rw [cset_self]
    rfl
