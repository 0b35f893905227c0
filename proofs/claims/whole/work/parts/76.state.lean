/-- cases changed -/
def setKF (K : tK) (c : Nat) (kind fig : Int) : tK := (nC K, fup (kdC K) c kind, fup (fgC K) c fig, csC K, nP K, ptC K, skC K, lnC K)
def setPt (K : tK) (p : Nat) (v : Int) : tK := (nC K, kdC K, fgC K, csC K, nP K, fup (ptC K) p v, skC K, lnC K)
def addK (K : tK) (kind fig cost : Int) : tK := (nC K + 1, fup (kdC K) (nC K) kind, fup (fgC K) (nC K) fig, fup (csC K) (nC K) cost, nP K, ptC K, skC K, lnC K)
def dropK (K : tK) : tK := (nC K - 1, kdC K, fgC K, csC K, nP K, ptC K, skC K, lnC K)
def setN (K : tK) (v : Nat) : tK := (nC K, kdC K, fgC K, csC K, v, (fun k => if k < v then ptC K k else 0), skC K, lnC K)
theorem setKF_ok {K : tK} {c : Nat} {kind fig : Int} (h : KOK K) (hk : 0 ≤ kind ∧ kind ≤ 5) (hf : 0 ≤ fig ∧ fig ≤ 9) : KOK (setKF K c kind fig) := by
  obtain ⟨h1, h2, h3⟩ := h
  refine ⟨h1, fun k hkn => ⟨?_, ?_, (h2 k hkn).2.2⟩, h3⟩
  · show 0 ≤ fup (kdC K) c kind k ∧ fup (kdC K) c kind k ≤ 5
    unfold fup; split
    · exact hk
    · exact (h2 k hkn).1
  · show 0 ≤ fup (fgC K) c fig k ∧ fup (fgC K) c fig k ≤ 9
    unfold fup; split
    · exact hf
    · exact (h2 k hkn).2.1
theorem setPt_ok {K : tK} {p : Nat} {v : Int} (h : KOK K) (hp : p < nP K) (hv : -9 ≤ v ∧ v ≤ 9) : KOK (setPt K p v) := by
  obtain ⟨h1, h2, h3, h4, h5, h6⟩ := h
  exact ⟨h1, h2, h3, h4.put p hv, fun k hk hk8 => (fup_ne _ _ (by have hk : nP K ≤ k := hk; omega)).trans (h5 k hk hk8), h6⟩
theorem addK_ok {K : tK} {kind fig cost : Int} (h : KOK K) (h7 : nC K < 7) (hk : 0 ≤ kind ∧ kind ≤ 5) (hf : 0 ≤ fig ∧ fig ≤ 9) (hc : 0 ≤ cost ∧ cost ≤ 99) : KOK (addK K kind fig cost) := by
  obtain ⟨h1, h2, h3⟩ := h
  refine ⟨h7, fun k hkn => ?_, h3⟩
  have hkn : k < nC K + 1 := hkn
  show (0 ≤ fup (kdC K) (nC K) kind k ∧ fup (kdC K) (nC K) kind k ≤ 5) ∧ (0 ≤ fup (fgC K) (nC K) fig k ∧ fup (fgC K) (nC K) fig k ≤ 9) ∧ (0 ≤ fup (csC K) (nC K) cost k ∧ fup (csC K) (nC K) cost k ≤ 99)
  by_cases e : k = nC K
  · rw [e, fup_self, fup_self, fup_self]; exact ⟨hk, hf, hc⟩
  · rw [fup_ne _ _ e, fup_ne _ _ e, fup_ne _ _ e]; exact h2 k (by omega)
theorem dropK_ok {K : tK} (h : KOK K) : KOK (dropK K) := by
  obtain ⟨h1, h2, h3⟩ := h
  exact ⟨Nat.le_trans (Nat.sub_le _ _) h1, fun k hk => h2 k (Nat.lt_of_lt_of_le hk (Nat.sub_le _ _)), h3⟩
theorem setN_ok {K : tK} {v : Nat} (h : KOK K) (hv : 1 ≤ v ∧ v ≤ 8) : KOK (setN K v) := by
  obtain ⟨h1, h2, h3, h4, h5, h6⟩ := h
  refine ⟨h1, h2, hv, fun k hk => ?_, fun k hk hk8 => if_neg (Nat.not_lt.mpr hk), h6⟩
  show -9 ≤ (if k < v then ptC K k else 0) ∧ (if k < v then ptC K k else 0) ≤ 9
  split
  · exact h4 k hk
  · decide
abbrev okChg (w v : Int) : Prop := (w = 0 ∧ 1 ≤ v ∧ v ≤ 8) ∨ (w = 1 ∧ 0 ≤ v ∧ v ≤ 999) ∨ (w = 2 ∧ 0 ≤ v ∧ v ≤ 8)
def chgK (K : tK) (w v : Int) : tK := if w = 0 then setN K v.toNat else if w = 1 then setSk K v else setLn K v
theorem chgK_ok {K : tK} {w v : Int} (h : KOK K) (hc : okChg w v) : KOK (chgK K w v) := by
  rcases hc with ⟨rfl, h1, h2⟩ | ⟨rfl, h1, h2⟩ | ⟨rfl, h1, h2⟩
  · exact setN_ok h (by omega)
  · exact setSk_ok h ⟨h1, h2⟩
  · exact setLn_ok h ⟨h1, h2⟩
/-- the same case, as far as it can be seen -/
def Ueq (K K' : tK) : Prop := nC K = nC K' ∧ (∀ k, k < nC K → kdC K k = kdC K' k ∧ fgC K k = fgC K' k ∧ csC K k = csC K' k) ∧ nP K = nP K' ∧ (∀ k, k < 8 → ptC K k = ptC K' k) ∧ skC K = skC K' ∧ lnC K = lnC K'
theorem Ueq.rf (K : tK) : Ueq K K := ⟨rfl, fun _ _ => ⟨rfl, rfl, rfl⟩, rfl, fun _ _ => rfl, rfl, rfl⟩
theorem SU.eq {g : pG} {s : Nat} {K K' : tK} (h : SU g s K) (he : Ueq K K') : SU g s K' := by
  obtain ⟨h1, h2, h3, h4, h5, h6⟩ := h
  obtain ⟨e1, e2, e3, e4, e5, e6⟩ := he
  refine ⟨by rw [← e1]; exact h1, fun k hk => ?_, by rw [← e3]; exact h3, fun k hk => (h4 k hk).trans (e4 k hk), h5.trans e5, h6.trans e6⟩
  have hk : k < nC K := by rw [e1]; exact hk
  obtain ⟨a, b, c⟩ := h2 k hk
  obtain ⟨a', b', c'⟩ := e2 k hk
  exact ⟨a.trans a', b.trans b', c.trans c'⟩
/-- a Suit's cells alone may be other -/
def frR (s : Nat) (g g' : pG) : Prop := ∀ a, (a < s ∨ s + 6 ≤ a) → g' a = g a
theorem frR.rf {s : Nat} {g : pG} : frR s g g := fun _ _ => rfl
theorem frR.tr {s : Nat} {g g1 g2 : pG} (h1 : frR s g g1) (h2 : frR s g1 g2) : frR s g g2 := fun a ha => (h2 a ha).trans (h1 a ha)
theorem frR.st {s c : Nat} {g : pG} (f : tF) (h : s ≤ c ∧ c < s + 6) : frR s g (cset g c f) := fun a ha => cset_ne _ _ (by omega)
theorem st_pts {s : Nat} (h : isSt s) : isPts (s + 4) := h.2.2.2.2
theorem s_copyS {d r s : Nat} {g : pG} {K : tK} (hd : 2 ≤ d) (hr : isSt r) (hs : isSt s) (hrs : r + 6 ≤ s ∨ s + 6 ≤ r) (hK : KOK K) (hu : SU g r K) : CT d mX5_copyFrom [vR s, vR r] g (qV (fun g' => SU g' s K ∧ frR s g g')) := by
  refine ct_in (L := [vR s, vR r]) (by omega) (Nat.le_of_ble_eq_true rfl) rfl (fun e he => ?_)
  refine b_X5_copyFrom_0 hr hs (s_copyP (by omega) (st_pts hs) (st_pts hr) (by omega) (by omega)) (fun g1 hx => ?_)
  have hx2 : ∃ G : pG, ((∀ k, k < 7 → G (s + 1) k = g (r + 1) k ∧ G (s + 2) k = g (r + 2) k ∧ G (s + 3) k = g (r + 3) k) ∧ G s 3 = g r 3 ∧ G (r + 4) = g (r + 4) ∧ G (r + 5) = g (r + 5) ∧ G r = g r ∧ frR s g G) ∧ (g1 (s + 4) 1 = G (r + 4) 1 ∧ (∀ k, k < 8 → g1 (s + 4 + 1) k = G (r + 4 + 1) k) ∧ fr2 G g1 (s + 4)) := by
    refine ⟨_, ?_, hx⟩
    clear hx
    have hC1 : (cset g (s + 1) (fcp (g (r + 1)) (g (s + 1)) 0 0 7)) (s + 1) = fcp (g (r + 1)) (g (s + 1)) 0 0 7 := cset_self _ _ _
    have hC2 : ∀ a, a ≠ s + 1 → (cset g (s + 1) (fcp (g (r + 1)) (g (s + 1)) 0 0 7)) a = g a := fun a h => cset_ne _ _ h
    generalize cset g (s + 1) (fcp (g (r + 1)) (g (s + 1)) 0 0 7) = C at *
    have hB1 : (cset C (s + 2) (fcp (C (r + 2)) (C (s + 2)) 0 0 7)) (s + 2) = fcp (C (r + 2)) (C (s + 2)) 0 0 7 := cset_self _ _ _
    have hB2 : ∀ a, a ≠ s + 2 → (cset C (s + 2) (fcp (C (r + 2)) (C (s + 2)) 0 0 7)) a = C a := fun a h => cset_ne _ _ h
    generalize cset C (s + 2) (fcp (C (r + 2)) (C (s + 2)) 0 0 7) = B at *
    have hA1 : (cset B (s + 3) (fcp (B (r + 3)) (B (s + 3)) 0 0 7)) (s + 3) = fcp (B (r + 3)) (B (s + 3)) 0 0 7 := cset_self _ _ _
    have hA2 : ∀ a, a ≠ s + 3 → (cset B (s + 3) (fcp (B (r + 3)) (B (s + 3)) 0 0 7)) a = B a := fun a h => cset_ne _ _ h
    generalize cset B (s + 3) (fcp (B (r + 3)) (B (s + 3)) 0 0 7) = A at *
    have hf7 : ∀ (f h : tF) k, k < 7 → fcp f h 0 0 7 k = f k := fun f h k hk => by
      show (if 0 ≤ k ∧ k < 0 + 7 then f (0 + (k - 0)) else h k) = f k
      rw [if_pos (by omega), Nat.sub_zero, Nat.zero_add]
    refine ⟨fun k hk => ⟨?_, ?_, ?_⟩, ?_, ?_, ?_, ?_, fun a ha => ?_⟩
    · rw [cset_ne _ _ (by omega), hA2 _ (by omega), hB2 _ (by omega), hC1]; exact hf7 _ _ k hk
    · rw [cset_ne _ _ (by omega), hA2 _ (by omega), hB1, hf7 _ _ k hk, hC2 _ (by omega)]
    · rw [cset_ne _ _ (by omega), hA1, hf7 _ _ k hk, hB2 _ (by omega), hC2 _ (by omega)]
    · rw [cset_self, fup_self, hA2 _ (by omega), hB2 _ (by omega), hC2 _ (by omega)]
    · rw [cset_ne _ _ (by omega), hA2 _ (by omega), hB2 _ (by omega), hC2 _ (by omega)]
    · rw [cset_ne _ _ (by omega), hA2 _ (by omega), hB2 _ (by omega), hC2 _ (by omega)]
    · rw [cset_ne _ _ (by omega), hA2 _ (by omega), hB2 _ (by omega), hC2 _ (by omega)]
    · rw [cset_ne _ _ (by omega), hA2 _ (by omega), hB2 _ (by omega), hC2 _ (by omega)]
  obtain ⟨G, ⟨ga, gb, gc, gd, ge, gf⟩, p1, p2, pf⟩ := hx2
  clear hx
  refine b_X5_copyFrom_64 hr hs ?_
  have hrs2 : r ≠ s := by omega
  rw [cset_ne g1 _ hrs2]
  obtain ⟨h1, h2, h3, h4, h5, h6⟩ := hu
  have q1r : g1 r = g r := by rw [pf r (by omega) (by omega)]; exact ge
  have q1s : g1 s = G s := pf s (by omega) (by omega)
  rw [cset_self, q1r]
  refine ⟨rfl, ⟨?_, fun k hk => ?_, ?_, fun k hk => ?_, ?_, ?_⟩, fun a ha => ?_⟩
  · rw [cset_self, fup_ne _ _ (by decide), fup_ne _ _ (by decide), q1s, gb]; exact h1
  · have hk7 : k < 7 := Nat.lt_of_lt_of_le hk hK.1
    rw [cset_ne _ _ (by omega), cset_ne _ _ (by omega), cset_ne _ _ (by omega), cset_ne _ _ (by omega), cset_ne _ _ (by omega), cset_ne _ _ (by omega), pf (s + 1) (by omega) (by omega), pf (s + 2) (by omega) (by omega), pf (s + 3) (by omega) (by omega), (ga k hk7).1, (ga k hk7).2.1, (ga k hk7).2.2]
    exact h2 k hk
  · rw [cset_ne _ _ (by omega), cset_ne _ _ (by omega), p1, gc]; exact h3
  · rw [cset_ne _ _ (by omega), cset_ne _ _ (by omega)]
    exact (p2 k hk).trans ((congrFun gd k).trans (h4 k hk))
  · rw [cset_self, fup_ne _ _ (by decide), fup_self]; exact h5
  · rw [cset_self, fup_self]; exact h6
  · rw [cset_ne _ _ (by omega), cset_ne _ _ (by omega), pf a (by omega) (by omega)]; exact gf a ha
