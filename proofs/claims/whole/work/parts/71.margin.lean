/-- MARGIN: steps of 1 between two cases -/
def pd (f h : tF) : Nat → Nat
  | 0 => 0
  | n + 1 => pd f h n + (f n - h n).natAbs
theorem pd_0 {f h : tF} : ∀ n, pd f h n = 0 → ∀ k, k < n → f k = h k := by
  intro n
  induction n with
  | zero => intro _ k hk; exact absurd hk (Nat.not_lt_zero _)
  | succ n ih =>
    intro e k hk
    have e : pd f h n + (f n - h n).natAbs = 0 := e
    by_cases hkn : k = n
    · subst hkn; omega
    · exact ih (by omega) k (by omega)
theorem pd_ge {f : tF} {v : Int} {h : tF} {k : Nat} : ∀ n, n ≤ k → pd (fup f k v) h n = pd f h n := by
  intro n
  induction n with
  | zero => intro _; rfl
  | succ n ih =>
    intro hn
    show pd (fup f k v) h n + (fup f k v n - h n).natAbs = pd f h n + (f n - h n).natAbs
    rw [ih (by omega), fup_ne _ _ (by omega)]
theorem pd_up {f h : tF} {v : Int} {k : Nat} : ∀ n, k < n → pd (fup f k v) h n + (f k - h k).natAbs = pd f h n + (v - h k).natAbs := by
  intro n
  induction n with
  | zero => intro hk; exact absurd hk (Nat.not_lt_zero _)
  | succ n ih =>
    intro hk
    show pd (fup f k v) h n + (fup f k v n - h n).natAbs + (f k - h k).natAbs = pd f h n + (f n - h n).natAbs + (v - h k).natAbs
    by_cases e : k = n
    · subst e
      rw [pd_ge k (Nat.le_refl _), fup_self]
      omega
    · rw [fup_ne _ _ (show n ≠ k by omega)]
      have := ih (by omega)
      omega
theorem pd_self (f : tF) : ∀ n, pd f f n = 0 := by
  intro n
  induction n with
  | zero => rfl
  | succ n ih => show pd f f n + (f n - f n).natAbs = 0; rw [ih, Int.sub_self]; rfl
theorem pd_mv {N v : Nat} {f h : tF} (hf : Bd N f) (hv : v / 2 < N) : pd f h N ≤ pd (mvF f v) h N + 1 := by
  have hb := hf _ hv
  have e := pd_up (f := f) (h := h) (v := held (f (v / 2) + (if v % 2 = 0 then 1 else -1))) N hv
  have hh : (held (f (v / 2) + (if v % 2 = 0 then 1 else -1)) - f (v / 2)).natAbs ≤ 1 := by
    have hd : (if v % 2 = 0 then (1 : Int) else -1) = 1 ∨ (if v % 2 = 0 then (1 : Int) else -1) = -1 := by split <;> simp
    generalize (if v % 2 = 0 then (1 : Int) else -1) = dd at hd
    clear e
    unfold held
    by_cases h1 : f (v / 2) + dd < -9
    · rw [if_pos h1]; omega
    · rw [if_neg h1]
      by_cases h2 : 9 < f (v / 2) + dd
      · rw [if_pos h2]; omega
      · rw [if_neg h2]; omega
  show pd f h N ≤ pd (fup f (v / 2) (held (f (v / 2) + (if v % 2 = 0 then 1 else -1)))) h N + 1
  omega
/-- steps told by digits: the class's (rising), the reference's (none beyond 9) -/
def swF (w : Nat) : Nat → Nat → Nat → tF → Option tF
  | 0, _, _, f => some f
  | s + 1, c, l, f => if c % w < l then none else swF w s (c / w) (c % w) (mvF f (c % w))
abbrev smJ (f : tF) (v : Nat) : Prop := -9 ≤ f (v / 2) + (if v % 2 = 0 then 1 else -1) ∧ f (v / 2) + (if v % 2 = 0 then 1 else -1) ≤ 9
def smG (w : Nat) : Nat → Nat → tF → Option tF
  | 0, _, f => some f
  | s + 1, c, f => if smJ f (c % w) then smG w s (c / w) (mvF f (c % w)) else none
theorem sw_A {N : Nat} (hN : 1 ≤ N) : ∀ (s c l : Nat) (f h : tF), Bd N f → swF (2 * N) s c l f = some h → pd f h N ≤ s ∧ Bd N h ∧ ∀ k, N ≤ k → h k = f k := by
  intro s
  induction s with
  | zero =>
    intro c l f h hf e
    have e : some f = some h := e
    obtain rfl := Option.some.inj e
    exact ⟨by rw [pd_self]; exact Nat.le_refl _, hf, fun _ _ => rfl⟩
  | succ s ih =>
    intro c l f h hf e
    have e : (if c % (2 * N) < l then none else swF (2 * N) s (c / (2 * N)) (c % (2 * N)) (mvF f (c % (2 * N)))) = some h := e
    by_cases hl : c % (2 * N) < l
    · rw [if_pos hl] at e; exact absurd e (by simp)
    · rw [if_neg hl] at e
      have hlt : c % (2 * N) < 2 * N := Nat.mod_lt _ (by omega)
      have hv : c % (2 * N) / 2 < N := by omega
      obtain ⟨a1, a2, a3⟩ := ih _ _ _ h (mvF_Bd hf _) e
      refine ⟨Nat.le_trans (pd_mv hf hv) (Nat.succ_le_succ a1), a2, fun k hk => (a3 k hk).trans (fup_ne _ _ (by omega))⟩
theorem sm_A {N : Nat} (hN : 1 ≤ N) : ∀ (s c : Nat) (f h : tF), Bd N f → smG (2 * N) s c f = some h → pd f h N ≤ s ∧ Bd N h ∧ ∀ k, N ≤ k → h k = f k := by
  intro s
  induction s with
  | zero =>
    intro c f h hf e
    have e : some f = some h := e
    obtain rfl := Option.some.inj e
    exact ⟨by rw [pd_self]; exact Nat.le_refl _, hf, fun _ _ => rfl⟩
  | succ s ih =>
    intro c f h hf e
    have e : (if smJ f (c % (2 * N)) then smG (2 * N) s (c / (2 * N)) (mvF f (c % (2 * N))) else none) = some h := e
    by_cases hl : smJ f (c % (2 * N))
    · rw [if_pos hl] at e
      have hlt : c % (2 * N) < 2 * N := Nat.mod_lt _ (by omega)
      have hv : c % (2 * N) / 2 < N := by omega
      obtain ⟨a1, a2, a3⟩ := ih _ _ h (mvF_Bd hf _) e
      refine ⟨Nat.le_trans (pd_mv hf hv) (Nat.succ_le_succ a1), a2, fun k hk => (a3 k hk).trans (fup_ne _ _ (by omega))⟩
    · rw [if_neg hl] at e; exact absurd e (by simp)
theorem first_ne {f h : tF} : ∀ n, pd f h n ≠ 0 → ∃ k, k < n ∧ f k ≠ h k ∧ ∀ j, j < k → f j = h j := by
  intro n
  induction n with
  | zero => intro e; exact absurd rfl e
  | succ n ih =>
    intro e
    by_cases hz : pd f h n = 0
    · refine ⟨n, Nat.lt_succ_self n, fun z => e ?_, pd_0 n hz⟩
      show pd f h n + (f n - h n).natAbs = 0
      rw [hz, z, Int.sub_self]; rfl
    · obtain ⟨k, h1, h2, h3⟩ := ih hz
      exact ⟨k, by omega, h2, h3⟩
theorem swm_B {N : Nat} (hN : 1 ≤ N) : ∀ (s l : Nat) (f h : tF), Bd N f → Bd N h → (∀ k, N ≤ k → h k = f k) → pd f h N = s → (∀ k, k < N → (f k < h k → l ≤ 2 * k) ∧ (h k < f k → l ≤ 2 * k + 1)) → ∃ c, c < (2 * N) ^ s ∧ swF (2 * N) s c l f = some h ∧ smG (2 * N) s c f = some h := by
  intro s
  induction s with
  | zero =>
    intro l f h hf hh ho e _
    have ef : f = h := by
      funext k
      by_cases hk : k < N
      · exact pd_0 N e k hk
      · exact (ho k (by omega)).symm
    exact ⟨0, by rw [Nat.pow_zero]; decide, by rw [ef]; rfl, by rw [ef]; rfl⟩
  | succ s ih =>
    intro l f h hf hh ho e hl
    obtain ⟨k, hk, hne, hlow⟩ := first_ne N (by rw [e]; exact Nat.succ_ne_zero _)
    have bf := hf k hk
    have bh := hh k hk
    obtain ⟨v, hv1, hv2, hv3⟩ : ∃ v : Nat, v / 2 = k ∧ v < 2 * N ∧ ((f k < h k ∧ v = 2 * k) ∨ (h k < f k ∧ v = 2 * k + 1)) := by
      by_cases hlt : f k < h k
      · exact ⟨2 * k, by omega, by omega, Or.inl ⟨hlt, rfl⟩⟩
      · exact ⟨2 * k + 1, by omega, by omega, Or.inr ⟨by omega, rfl⟩⟩
    have hstep : smJ f v ∧ ((h k < f k ∧ f k + (if v % 2 = 0 then 1 else -1) = f k - 1) ∨ (f k < h k ∧ f k + (if v % 2 = 0 then 1 else -1) = f k + 1)) := by
      unfold smJ
      rw [hv1]
      rcases hv3 with ⟨a, b⟩ | ⟨a, b⟩
      · rw [if_pos (by omega)]; omega
      · rw [if_neg (by omega)]; omega
    have hm : mvF f v = fup f k (f k + (if v % 2 = 0 then 1 else -1)) := by
      unfold mvF
      rw [hv1, held_id (by have := hstep.1; unfold smJ at this; rw [hv1] at this; exact this)]
    have hpd := pd_up (f := f) (h := h) (v := f k + (if v % 2 = 0 then 1 else -1)) N hk
    have hs : pd (mvF f v) h N = s := by
      rw [hm]
      have := hstep.2
      omega
    have hlv : l ≤ v := by
      have := hl k hk
      omega
    obtain ⟨c, c1, c2, c3⟩ := ih v (mvF f v) h (mvF_Bd hf v) hh (fun j hj => by rw [hm, fup_ne _ _ (by omega)]; exact ho j hj) hs (fun j hj => by
      by_cases ej : j = k
      · subst ej
        rw [hm, fup_self]
        have := hstep.2
        omega
      · rw [hm, fup_ne _ _ ej]
        by_cases hjk : j < k
        · have := hlow j hjk
          omega
        · omega)
    have q1 : (c * (2 * N) + v) % (2 * N) = v := by rw [Nat.add_comm, Nat.add_mul_mod_self_right]; exact Nat.mod_eq_of_lt hv2
    have q2 : (c * (2 * N) + v) / (2 * N) = c := by
      rw [Nat.add_comm, Nat.add_mul_div_right _ _ (by omega), Nat.div_eq_of_lt hv2, Nat.zero_add]
    refine ⟨c * (2 * N) + v, ?_, ?_, ?_⟩
    · rw [Nat.pow_succ]
      have : (c + 1) * (2 * N) ≤ (2 * N) ^ s * (2 * N) := Nat.mul_le_mul_right _ c1
      rw [Nat.add_mul, Nat.one_mul] at this
      omega
    · show (if (c * (2 * N) + v) % (2 * N) < l then none else swF (2 * N) s ((c * (2 * N) + v) / (2 * N)) ((c * (2 * N) + v) % (2 * N)) (mvF f ((c * (2 * N) + v) % (2 * N)))) = some h
      rw [q1, q2, if_neg (by omega)]
      exact c2
    · show (if smJ f ((c * (2 * N) + v) % (2 * N)) then smG (2 * N) s ((c * (2 * N) + v) / (2 * N)) (mvF f ((c * (2 * N) + v) % (2 * N))) else none) = some h
      rw [q1, q2, if_pos hstep.1]
      exact c3
abbrev mgD (K : tK) (h : tF) : Prop := bi (0 < psum (downF K (nC K) h) (nP K)) ≠ bi (0 < sumAll K)
def mgQ (K : tK) (n : Nat) : Prop := ∃ h : tF, Bd (nP K) h ∧ (∀ k, nP K ≤ k → h k = ptC K k) ∧ pd (ptC K) h (nP K) = n ∧ mgD K h
noncomputable def mgA (K : tK) : Int := @ite Int (mgQ K 1) (Classical.propDecidable _) 1 (@ite Int (mgQ K 2) (Classical.propDecidable _) 2 (@ite Int (mgQ K 3) (Classical.propDecidable _) 3 (-9)))
theorem mgA_at {K : tK} {n : Nat} (hn : 1 ≤ n ∧ n ≤ 3) (h : mgQ K n) (hno : ∀ j, 1 ≤ j → j < n → ¬ mgQ K j) : mgA K = n := by
  unfold mgA
  rcases (show n = 1 ∨ n = 2 ∨ n = 3 by omega) with rfl | rfl | rfl
  · rw [if_pos h]; rfl
  · rw [if_neg (hno 1 (by decide) (by decide)), if_pos h]; rfl
  · rw [if_neg (hno 1 (by decide) (by decide)), if_neg (hno 2 (by decide) (by decide)), if_pos h]; rfl
theorem mgA_no {K : tK} (hno : ∀ j, 1 ≤ j → j < 4 → ¬ mgQ K j) : mgA K = -9 := by
  unfold mgA
  rw [if_neg (hno 1 (by decide) (by decide)), if_neg (hno 2 (by decide) (by decide)), if_neg (hno 3 (by decide) (by decide))]
/-- found by n steps, and by no fewer ahead -/
theorem mgQ_n {K : tK} {n : Nat} {h : tF} (hA : pd (ptC K) h (nP K) ≤ n ∧ Bd (nP K) h ∧ ∀ k, nP K ≤ k → h k = ptC K k) (hD : mgD K h) (hno : ∀ j, 1 ≤ j → j < n → ¬ mgQ K j) : mgQ K n := by
  obtain ⟨a1, a2, a3⟩ := hA
  have hq : mgQ K (pd (ptC K) h (nP K)) := ⟨h, a2, a3, rfl, hD⟩
  have h0 : pd (ptC K) h (nP K) ≠ 0 := by
    intro z
    have e : h = ptC K := by
      funext k
      by_cases hk : k < nP K
      · exact (pd_0 _ z k hk).symm
      · exact a3 k (by omega)
    rw [e] at hD
    exact hD rfl
  by_cases e : pd (ptC K) h (nP K) = n
  · rw [e] at hq; exact hq
  · exact absurd hq (hno _ (by omega) (by omega))
theorem mgQ_B {K : tK} (hK : KOK K) {n : Nat} (hq : mgQ K n) : ∃ c h, c < (2 * nP K) ^ n ∧ swF (2 * nP K) n c 0 (ptC K) = some h ∧ smG (2 * nP K) n c (ptC K) = some h ∧ mgD K h := by
  obtain ⟨h, h1, h2, h3, h4⟩ := hq
  obtain ⟨c, c1, c2, c3⟩ := swm_B hK.2.2.1.1 n 0 (ptC K) h hK.bd h1 h2 h3 (fun k _ => ⟨fun _ => Nat.zero_le _, fun _ => Nat.zero_le _⟩)
  exact ⟨c, h, c1, c2, c3, h4⟩
theorem wmod {a b : Nat} (h : a < 100000) : w32 ((a : Int).tmod (b : Int)) = ((a % b : Nat) : Int) := by
  have e : (a : Int).tmod (b : Int) = ((a % b : Nat) : Int) := rfl
  have := Nat.mod_le a b
  rw [e, w32_of (Int.le_trans (by decide) (Int.natCast_nonneg _)) (by omega)]
theorem wdiv {a b : Nat} (h : a < 100000) : w32 ((a : Int).tdiv (b : Int)) = ((a / b : Nat) : Int) := by
  have e : (a : Int).tdiv (b : Int) = ((a / b : Nat) : Int) := rfl
  have := Nat.div_le_self a b
  rw [e, w32_of (Int.le_trans (by decide) (Int.natCast_nonneg _)) (by omega)]
theorem s_stepAway {d n c : Nat} {g : pG} {K : tK} (hd : 5 ≤ d) (hK : KOK K) (hu : SU g 1 K) (hn : n ≤ 3) (hc : c < 100000) : CT d mX7_stepAway [vR 0, vI c, vI n] g (qI (fun x g' => ((x = 1 ∧ ∃ h, swF (2 * nP K) n c 0 (ptC K) = some h ∧ PT g' 27 (nP K) h) ∨ (x = 0 ∧ swF (2 * nP K) n c 0 (ptC K) = none)) ∧ xfr g g')) := by
  refine ct_in (L := [vR 0, vI c, vI n, vX 2, vX 2, vX 2, vX 2, vX 2]) (by omega) (Nat.le_of_ble_eq_true rfl) rfl (fun e he => ?_)
  have h8 := hK.2.2.1
  have he3 : 3 ≤ e := by omega
  refine b_X7_stepAway_0 (s_think (by omega) scr27 hK hu) (fun g1 hx => ?_)
  obtain ⟨hp1, hf1⟩ := hx
  refine b_X7_stepAway_14 ?_
  rw [hp1.1, show w32 (2 * (nP K : Int)) = ((2 * nP K : Nat) : Int) by rw [w32_of (by omega) (by omega)]; omega]
  refine loopN (P := fun s g' => xfr g g') n (fun s g' => ∀ (r l : Nat) (f : tF) (v6 : Int) (u7 : pV), swF (2 * nP K) n c 0 (ptC K) = swF (2 * nP K) (n - s) r l f → PT g' 27 (nP K) f → r < 100000 → v6 = s → EV e mX7_stepAway _ 33 [vR 0, vI c, vI n, vI ((2 * nP K : Nat) : Int), vI r, vI l, vI v6, u7] [] g') ?_ ?_ 0 g1 (Nat.zero_le _) (hf1.x scr27) c 0 _ _ _ rfl hp1 hc rfl
  · rintro s g2 hs hx2 ih r l f v6 u7 hS hp2 hr rfl
    have s9 : (s : Int) < 2147483647 := by clear ih; omega
    have w0 : ¬ ((2 * nP K : Nat) : Int) ≤ 0 := by clear ih; omega
    have w1 : ((2 * nP K : Nat) : Int) ≠ 0 := by clear ih; omega
    obtain ⟨t, ht⟩ : ∃ t, n - s = t + 1 := ⟨n - s - 1, by clear ih; omega⟩
    have ht2 : n - (s + 1) = t := by clear ih; omega
    have hmod := wmod (a := r) (b := 2 * nP K) hr
    have hdiv := wdiv (a := r) (b := 2 * nP K) hr
    have hlt : r % (2 * nP K) < 2 * nP K := Nat.mod_lt _ (by clear ih hmod hdiv; omega)
    have hr2 : r / (2 * nP K) < 100000 := Nat.lt_of_le_of_lt (Nat.div_le_self _ _) hr
    rw [ht] at hS
    have hS : swF (2 * nP K) n c 0 (ptC K) = (if r % (2 * nP K) < l then none else swF (2 * nP K) t (r / (2 * nP K)) (r % (2 * nP K)) (mvF f (r % (2 * nP K)))) := hS
    rw [ht2] at ih
    refine b_X7_stepAway_33 (fun z => absurd (Int.ofNat_lt.mpr hs) (Int.not_lt.mpr z)) (fun _ => ?_)
    refine b_X7_stepAway_39 (fun z => absurd z w0) (fun _ => ?_)
    refine b_X7_stepAway_43 w1 (fun z => ?_) (fun z => ?_)
    · rw [hmod] at z ⊢
      have hl : ¬ r % (2 * nP K) < l := fun y => absurd (Int.ofNat_lt.mpr y) (Int.not_lt.mpr z)
      rw [if_neg hl] at hS
      refine b_X7_stepAway_58 (s_move he3 pts_27 hp2 hlt) (fun x g3 hx => ?_)
      obtain ⟨rfl, hp3, hf3⟩ := hx
      refine b_X7_stepAway_67 w1 ?_
      rw [hdiv]
      exact ih _ (hx2.tr (hf3.x scr27)) _ _ _ _ _ hS hp3 hr2 (w32n s s9)
    · rw [hmod] at z ⊢
      have hl : r % (2 * nP K) < l := Int.ofNat_lt.mp (Int.not_le.mp z)
      rw [if_pos hl] at hS
      exact b_X7_stepAway_56 ⟨_, rfl, Or.inr ⟨rfl, hS⟩, hx2⟩
  · rintro g2 hx2 r l f v6 u7 hS hp2 hr rfl
    refine b_X7_stepAway_33 (fun _ => ?_) (fun z => absurd (Int.le_refl _) z)
    rw [Nat.sub_self] at hS
    exact b_X7_stepAway_84 ⟨_, rfl, Or.inl ⟨rfl, f, hS, hp2⟩, hx2⟩
theorem pw16 {w n : Nat} (hw : w ≤ 16) (hn : n ≤ 3) : w ^ n ≤ 4096 := by
  by_cases h0 : w = 0
  · rw [h0]
    exact Nat.le_trans (Nat.pow_le_pow_left (show 0 ≤ 16 by decide) n) (Nat.le_trans (Nat.pow_le_pow_right (by decide) hn) (by decide))
  · exact Nat.le_trans (Nat.pow_le_pow_left hw n) (Nat.le_trans (Nat.pow_le_pow_right (by decide) hn) (by decide))
theorem x_margin {d : Nat} {g : pG} {K : tK} (hd : 8 ≤ d) (hK : KOK K) (hu : SU g 1 K) : CT d mX7_margin [vR 0] g (QX g (mgA K) 0) := by
  refine ct_in (L := [vR 0, vX 2, vX 2, vX 2, vX 2, vX 2]) (by omega) (Nat.le_of_ble_eq_true rfl) rfl (fun e he => ?_)
  have h8 := hK.2.2.1
  have he5 : 6 ≤ e := by omega
  refine b_X7_margin_0 (s_isForAll he5 hK hu) (fun x g1 hx => ?_)
  obtain ⟨rfl, hf1⟩ := hx
  have hx1 := hf1.x scr27
  have h51 : g1 5 1 = nP K := (hu.x hx1).2.2.1
  refine b_X7_margin_4 ?_
  rw [h51, show w32 (2 * (nP K : Int)) = ((2 * nP K : Nat) : Int) by rw [w32_of (by omega) (by omega)]; omega]
  refine loopN (P := fun n g' => xfr g g' ∧ 1 ≤ n ∧ ∀ j, 1 ≤ j → j < n → ¬ mgQ K j) 4 (fun n g' => ∀ (v3 v4 : Int) (u5 : pV), v3 = ((2 * nP K) ^ (n - 1) : Nat) → v4 = n → EV e mX7_margin (QX g (mgA K) 0) 23 [vR 0, vI (bi (0 < sumAll K)), vI ((2 * nP K : Nat) : Int), vI v3, vI v4, u5] [] g') ?_ ?_ 1 g1 (by decide) ⟨hx1, Nat.le_refl _, fun j h1 h2 => absurd h1 (Nat.not_le.mpr h2)⟩ _ _ _ rfl rfl
  · rintro n g2 hn ⟨hx2, h1n, hno⟩ ih v3 v4 u5 rfl rfl
    have n3 : ¬ (3 : Int) < (n : Int) := by clear ih; omega
    have n9 : (n : Int) < 2147483647 := by clear ih; omega
    have hn3 : n ≤ 3 := by clear ih; omega
    have hpw := pw16 (w := 2 * nP K) (n := n) (by clear ih; omega) hn3
    have epw : (2 * nP K) ^ (n - 1) * (2 * nP K) = (2 * nP K) ^ n := by
      rw [← Nat.pow_succ, show (n - 1).succ = n by clear ih; omega]
    have ew : w32 ((((2 * nP K) ^ (n - 1) : Nat) : Int) * ((2 * nP K : Nat) : Int)) = (((2 * nP K) ^ n : Nat) : Int) := by
      rw [← Int.natCast_mul, epw]
      exact w32_of (Int.le_trans (by decide) (Int.natCast_nonneg _)) (Int.lt_of_le_of_lt (Int.ofNat_le.mpr hpw) (by decide))
    refine b_X7_margin_23 (fun z => absurd z n3) (fun _ => ?_)
    refine b_X7_margin_29 ?_
    rw [ew]
    generalize hM : (2 * nP K) ^ n = M at hpw
    clear ew epw
    refine loopN (P := fun k g' => xfr g g' ∧ ∀ j, j < k → ∀ h, swF (2 * nP K) n j 0 (ptC K) = some h → ¬ mgD K h) M (fun k g' => ∀ (v5 : Int), v5 = k → EV e mX7_margin (QX g (mgA K) 0) 36 [vR 0, vI (bi (0 < sumAll K)), vI ((2 * nP K : Nat) : Int), vI M, vI n, vI v5] [] g') ?_ ?_ 0 g2 (Nat.zero_le _) ⟨hx2, fun j hj => absurd hj (Nat.not_lt_zero _)⟩ _ rfl
    · rintro k g3 hk ⟨hx3, hall⟩ ih2 v5 rfl
      have k9 : (k : Int) < 2147483647 := by clear ih ih2; omega
      have hkc : k < 100000 := by clear ih ih2; omega
      refine b_X7_margin_36 (fun z => absurd (Int.ofNat_lt.mpr hk) (Int.not_lt.mpr z)) (fun _ => ?_)
      refine b_X7_margin_42 (s_stepAway (Nat.le_trans (by decide) he5) hK (hu.x hx3) hn3 hkc) (fun x g4 hx => ?_)
      obtain ⟨hx, hxf⟩ := hx
      have hx4 := hx3.tr hxf
      rcases hx with ⟨rfl, h, hS, hp4⟩ | ⟨rfl, hS⟩
      · refine b_X7_margin_50 (fun _ => ?_) (fun z => absurd (by decide) z)
        refine b_X7_margin_56 (by rw [(hu.x hx4).1]; exact s_goDown (by clear ih ih2; omega) scr27 hK (hu.x hx4) hp4 (Nat.le_refl _)) (fun g5 hx => ?_)
        obtain ⟨hp5, hf5⟩ := hx
        have hx5 := hx4.tr (hf5.x scr27)
        refine b_X7_margin_74 (s_isFor (by clear ih ih2; omega) pts_27 hp5) (fun x g6 hx => ?_)
        obtain ⟨rfl, rfl⟩ := hx
        refine b_X7_margin_81 (fun z => ?_) (fun z => ?_)
        · refine b_X7_margin_88 (ih2 _ ⟨hx5, fun j hj h' hS' => ?_⟩ _ (w32n k k9))
          by_cases ej : j = k
          · subst ej
            rw [hS] at hS'
            obtain rfl := Option.some.inj hS'
            exact fun y => y z
          · exact hall j (by clear ih ih2; omega) h' hS'
        · have hq := mgQ_n (sw_A h8.1 n k 0 _ h hK.bd hS) z hno
          exact b_X7_margin_85 (rx_ok rfl (mgA_at ⟨h1n, hn3⟩ hq hno) hx5)
      · refine b_X7_margin_50 (fun z => absurd rfl z) (fun _ => ?_)
        refine b_X7_margin_53 (ih2 _ ⟨hx4, fun j hj h' hS' => ?_⟩ _ (w32n k k9))
        by_cases ej : j = k
        · subst ej
          rw [hS] at hS'
          exact absurd hS' (by simp)
        · exact hall j (by clear ih ih2; omega) h' hS'
    · rintro g3 ⟨hx3, hall⟩ v5 rfl
      have hnq : ¬ mgQ K n := fun hq => by
        obtain ⟨c, h, c1, c2, c3, c4⟩ := mgQ_B hK hq
        rw [hM] at c1
        exact hall c c1 h c2 c4
      refine b_X7_margin_36 (fun _ => ?_) (fun z => absurd (Int.le_refl _) z)
      refine b_X7_margin_94 (ih _ ⟨hx3, Nat.le_succ_of_le h1n, fun j h1 h2 => if e : j = n then e ▸ hnq else hno j h1 (by clear ih; omega)⟩ _ _ _ (by rw [Nat.add_sub_cancel, hM]) (w32n n n9))
  · rintro g2 ⟨hx2, h1n, hno⟩ v3 v4 u5 rfl rfl
    refine b_X7_margin_23 (fun _ => ?_) (fun z => absurd (by decide) z)
    exact b_X7_margin_100 (rx_ok rfl (mgA_no hno) hx2)
