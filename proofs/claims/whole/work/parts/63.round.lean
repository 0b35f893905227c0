/-- ROUND: place and POINTS after n courts gone through (standing still when it has ended) -/
def setLn (K : tK) (v : Int) : tK := (nC K, kdC K, fgC K, csC K, nP K, ptC K, skC K, v)
theorem setLn_ok {K : tK} {v : Int} (h : KOK K) (hv : 0 ≤ v ∧ v ≤ 8) : KOK (setLn K v) := ⟨h.1, h.2.1, h.2.2.1, h.2.2.2.1, h.2.2.2.2.1, h.2.2.2.2.2.1, hv⟩
theorem setLn_id (K : tK) : setLn K (lnC K) = K := rfl
abbrev rdB (K : tK) (s : Nat × tF) : Prop := kdC K s.1 = 3 ∧ lnC K < pnz s.2 (nP K)
def rdN (K : tK) (s : Nat × tF) : Nat × tF := if nC K ≤ s.1 then s else if rdB K s then (0, s.2) else (s.1 + 1, actF (nP K) (kdC K s.1) (fgC K s.1) s.2)
def rdS (K : tK) : Nat → Nat × tF
  | 0 => (0, ptC K)
  | n + 1 => rdN K (rdS K n)
theorem rdN_e {K : tK} {s : Nat × tF} (h : nC K ≤ s.1) : rdN K s = s := if_pos h
theorem rdN_b {K : tK} {s : Nat × tF} (h : s.1 < nC K) (hb : rdB K s) : rdN K s = (0, s.2) := by
  unfold rdN; rw [if_neg (by omega), if_pos hb]
theorem rdN_g {K : tK} {s : Nat × tF} (h : s.1 < nC K) (hb : ¬ rdB K s) : rdN K s = (s.1 + 1, actF (nP K) (kdC K s.1) (fgC K s.1) s.2) := by
  unfold rdN; rw [if_neg (by omega), if_neg hb]
theorem fup_out {f : tF} {s n k : Nat} {v : Int} (hs : s < n) (hk : n ≤ k) : fup f s v k = f k := fup_ne _ _ (by omega)
theorem less_out {f : tF} {s n k : Nat} (hn : 0 < n) (hk : n ≤ k) : lessF n s f k = f k := by
  unfold lessF
  split
  · rfl
  · exact fup_out (behF_lt hn) hk
theorem act_out {n : Nat} {kind fig : Int} {f : tF} (hn : 0 < n) {k : Nat} (hk : n ≤ k) : actF n kind fig f k = f k := by
  have h1 := psur_lt f n hn
  unfold actF
  split
  · exact fup_out h1 hk
  split
  · rw [less_out hn hk]; exact fup_out h1 hk
  split
  · exact fup_out h1 hk
  split
  · unfold nearF; rw [if_neg (by omega)]; exact fup_out h1 hk
  split
  · show fup _ _ _ k = _
    rw [fup_out (psur_lt _ n hn) hk, less_out hn hk]; exact fup_out h1 hk
  · exact fup_out h1 hk
theorem rdS_out {K : tK} (hK : KOK K) : ∀ n k, nP K ≤ k → (rdS K n).2 k = ptC K k := by
  intro n
  induction n with
  | zero => intro k _; rfl
  | succ n ih =>
    intro k hk
    show (rdN K (rdS K n)).2 k = _
    by_cases h : nC K ≤ (rdS K n).1
    · rw [rdN_e h]; exact ih k hk
    · by_cases hb : rdB K (rdS K n)
      · rw [rdN_b (by omega) hb]; exact ih k hk
      · rw [rdN_g (by omega) hb]
        show actF _ _ _ _ k = _
        rw [act_out (by have := hK.2.2.1.1; omega) hk]
        exact ih k hk
theorem rdS_bd {K : tK} (hK : KOK K) : ∀ n, Bd (nP K) (rdS K n).2 ∧ (rdS K n).1 ≤ nC K := by
  intro n
  induction n with
  | zero => exact ⟨hK.bd, Nat.zero_le _⟩
  | succ n ih =>
    show Bd (nP K) (rdN K (rdS K n)).2 ∧ (rdN K (rdS K n)).1 ≤ nC K
    by_cases h : nC K ≤ (rdS K n).1
    · rw [rdN_e h]; exact ih
    · by_cases hb : rdB K (rdS K n)
      · rw [rdN_b (by omega) hb]; exact ⟨ih.1, Nat.zero_le _⟩
      · rw [rdN_g (by omega) hb]
        exact ⟨ih.1.act (by have := hK.2.2.1.1; omega) (hK.2.1 _ (by omega)).2.1, by show (rdS K n).1 + 1 ≤ nC K; omega⟩
theorem rdS_stay {K : tK} {m : Nat} (h : nC K ≤ (rdS K m).1) : ∀ i, rdS K (m + i) = rdS K m := by
  intro i
  induction i with
  | zero => rfl
  | succ i ih =>
    show rdN K (rdS K (m + i)) = _
    rw [ih, rdN_e h]
theorem rdS_shift {K : tK} {a b : Nat} (h : rdS K a = rdS K b) : ∀ i, rdS K (a + i) = rdS K (b + i) := by
  intro i
  induction i with
  | zero => exact h
  | succ i ih =>
    show rdN K (rdS K (a + i)) = rdN K (rdS K (b + i))
    rw [ih]
theorem rdS_per {K : tK} {a p : Nat} (h : rdS K a = rdS K (a + p)) : ∀ i, rdS K (a + i * p) = rdS K a := by
  intro i
  induction i with
  | zero => rw [Nat.zero_mul]; rfl
  | succ i ih =>
    have e := rdS_shift h (i * p)
    rw [show a + (i + 1) * p = a + p + i * p by rw [Nat.add_mul]; omega, ← e, ih]
/-- once at court 0 with all POINTS as once ahead it never ends -/
theorem rdS_never {K : tK} (hK : KOK K) {a n : Nat} (hn : a < n) (h0 : 0 < nC K) (ha : (rdS K a).1 = 0) (hb : (rdS K n).1 = 0) (hs : ∀ i, i < nP K → (rdS K a).2 i = (rdS K n).2 i) : ∀ m, (rdS K m).1 < nC K := by
  intro m
  have e : rdS K a = rdS K n := by
    apply Prod.ext
    · rw [ha, hb]
    · funext k
      by_cases hk : k < nP K
      · exact hs k hk
      · rw [rdS_out hK a k (by omega), rdS_out hK n k (by omega)]
  have hp := rdS_per (a := a) (p := n - a) (by rw [show a + (n - a) = n by omega]; exact e) m
  have hm : m ≤ a + m * (n - a) := by
    have : m * 1 ≤ m * (n - a) := Nat.mul_le_mul_left m (by omega)
    omega
  by_cases h : (rdS K m).1 < nC K
  · exact h
  · have hst := rdS_stay (K := K) (m := m) (by omega) (a + m * (n - a) - m)
    rw [show m + (a + m * (n - a) - m) = a + m * (n - a) by omega, hp] at hst
    rw [← hst, ha]
    exact h0
/-- when it was at court 0 with the POINTS of time n; -9 never ahead -/
def rdH (K : tK) (n : Nat) : Int := ff (fun a => (rdS K a).1 = 0 ∧ ∀ i, i < nP K → (rdS K a).2 i = (rdS K n).2 i) n
abbrev rdQ (K : tK) (j : Nat) : Prop := (rdS K (j + 1)).1 = 0 ∧ 0 ≤ rdH K (j + 1)
def rdW (K : tK) : Int := if nC K = 0 then -9 else if lfind (rdQ K) 200 < 200 then (lfind (rdQ K) 200 : Int) + 1 - rdH K (lfind (rdQ K) 200 + 1) else -9
def rdE (K : tK) : Int := ff (fun n => nC K ≤ (rdS K n).1) 201
theorem rdW_none {K : tK} (h : nC K = 0 ∨ ∀ j, j < 200 → ¬ rdQ K j) : rdW K = -9 := by
  unfold rdW
  by_cases h0 : nC K = 0
  · rw [if_pos h0]
  · rw [if_neg h0, lfind_none 200 (h.resolve_left h0), if_neg (by decide)]
theorem rdW_hit {K : tK} {j : Nat} (h0 : nC K ≠ 0) (h : ∀ i, i < j → ¬ rdQ K i) (hj : j < 200) (hq : rdQ K j) : rdW K = (j : Int) + 1 - rdH K (j + 1) := by
  unfold rdW
  rw [if_neg h0, lfind_hit h hq 200 hj, if_pos hj]
theorem lfind_is {p : Nat → Prop} [DecidablePred p] {n : Nat} : lfind p n < n → p (lfind p n) := by
  induction n with
  | zero => intro h; exact absurd h (Nat.not_lt_zero _)
  | succ n ih =>
    unfold lfind
    by_cases h1 : lfind p n < n
    · rw [if_pos h1]; exact fun _ => ih h1
    · rw [if_neg h1]
      by_cases h2 : p n
      · rw [if_pos h2]; exact fun _ => h2
      · rw [if_neg h2]; intro h; omega
theorem rdH_lt {K : tK} {n : Nat} (h : 0 ≤ rdH K n) : ∃ a : Nat, rdH K n = a ∧ a < n ∧ (rdS K a).1 = 0 ∧ ∀ i, i < nP K → (rdS K a).2 i = (rdS K n).2 i := by
  unfold rdH at h ⊢
  rcases ff_cases (p := fun a => (rdS K a).1 = 0 ∧ ∀ i, i < nP K → (rdS K a).2 i = (rdS K n).2 i) n with ⟨h1, _⟩ | ⟨h1, h2, h3⟩
  · rw [h1] at h; exact absurd h (by decide)
  · have e : ff (fun a => (rdS K a).1 = 0 ∧ ∀ i, i < nP K → (rdS K a).2 i = (rdS K n).2 i) n = (lfind (fun a => (rdS K a).1 = 0 ∧ ∀ i, i < nP K → (rdS K a).2 i = (rdS K n).2 i) n : Nat) := if_pos h3
    exact ⟨_, e, h3, lfind_is h3⟩
theorem rdE_hit {K : tK} (hK : KOK K) (h0 : 0 < nC K) {j : Nat} (hq : rdQ K j) : rdE K = -9 := by
  obtain ⟨a, _, ha, hz, hs⟩ := rdH_lt hq.2
  have := rdS_never hK ha h0 hz hq.1 hs
  exact ff_none (fun n _ z => by have := this n; omega)
/-- the times of coming to court 0 till time n -/
def CMT (K : tK) (T : Nat → Nat) (m n : Nat) : Prop := (∀ i, i < m → T i ≤ n ∧ (rdS K (T i)).1 = 0) ∧ (∀ i j, i < j → j < m → T i < T j) ∧ (∀ a, a ≤ n → (rdS K a).1 = 0 → ∃ i, i < m ∧ T i = a) ∧ 1 ≤ m ∧ m ≤ n + 1
abbrev rdEq (K : tK) (a n : Nat) : Prop := ∀ i, i < nP K → (rdS K a).2 i = (rdS K n).2 i
theorem CMT.ini (K : tK) : CMT K (fun _ => 0) 1 0 := ⟨fun _ _ => ⟨Nat.le_refl _, rfl⟩, fun i j h1 h2 => absurd h1 (by omega), fun a ha _ => ⟨0, by decide, by show 0 = a; omega⟩, by decide, by decide⟩
theorem CMT.hit {K : tK} {T : Nat → Nat} {m n k : Nat} (h : CMT K T m n) (hk : k < m) (hs : rdEq K (T k) (n + 1)) (hf : ∀ j, j < k → ¬ rdEq K (T j) (n + 1)) : rdH K (n + 1) = T k := by
  obtain ⟨h1, h2, h3, h4, h5⟩ := h
  refine ff_hit (fun b hb hz => ?_) ⟨(h1 k hk).2, hs⟩ (by have := (h1 k hk).1; omega)
  obtain ⟨i, hi, e⟩ := h3 b (by have := (h1 k hk).1; omega) hz.1
  have hik : i < k := by
    by_cases hh : i < k
    · exact hh
    · by_cases he : i = k
      · subst he; omega
      · have := h2 k i (by omega) hi; omega
  exact hf i hik (by rw [e]; exact hz.2)
theorem CMT.none {K : tK} {T : Nat → Nat} {m n : Nat} (h : CMT K T m n) (hf : ∀ j, j < m → ¬ rdEq K (T j) (n + 1)) : rdH K (n + 1) = -9 := by
  obtain ⟨h1, h2, h3, h4, h5⟩ := h
  refine ff_none (fun b hb hz => ?_)
  obtain ⟨i, hi, e⟩ := h3 b (by omega) hz.1
  exact hf i hi (by rw [e]; exact hz.2)
theorem CMT.add {K : tK} {T : Nat → Nat} {m n : Nat} (h : CMT K T m n) (hz : (rdS K (n + 1)).1 = 0) : CMT K (fun i => if i = m then n + 1 else T i) (m + 1) (n + 1) := by
  obtain ⟨h1, h2, h3, h4, h5⟩ := h
  refine ⟨fun i hi => ?_, fun i j hij hj => ?_, fun a ha hza => ?_, by omega, by omega⟩
  · dsimp only
    by_cases e : i = m
    · rw [if_pos e]; exact ⟨Nat.le_refl _, hz⟩
    · rw [if_neg e]; have := h1 i (by omega); exact ⟨by omega, this.2⟩
  · dsimp only
    rw [if_neg (show i ≠ m by omega)]
    by_cases e : j = m
    · rw [if_pos e]; have := (h1 i (by omega)).1; omega
    · rw [if_neg e]; exact h2 i j hij (by omega)
  · by_cases e : a = n + 1
    · exact ⟨m, by omega, by dsimp only; rw [if_pos rfl]; exact e.symm⟩
    · obtain ⟨i, hi, he⟩ := h3 a (by omega) hza
      exact ⟨i, by omega, by dsimp only; rw [if_neg (by omega)]; exact he⟩
theorem CMT.skip {K : tK} {T : Nat → Nat} {m n : Nat} (h : CMT K T m n) (hz : (rdS K (n + 1)).1 ≠ 0) : CMT K T m (n + 1) := by
  obtain ⟨h1, h2, h3, h4, h5⟩ := h
  refine ⟨fun i hi => ⟨by have := (h1 i hi).1; omega, (h1 i hi).2⟩, h2, fun a ha hza => ?_, h4, by omega⟩
  have : a ≠ n + 1 := fun z => hz (z ▸ hza)
  exact h3 a (by omega) hza
theorem rdQ_no {K : tK} {n : Nat} (h : (rdS K (n + 1)).1 ≠ 0) : ¬ rdQ K n := fun z => h z.1
theorem rdE_is {K : tK} {n : Nat} (hn : n ≤ 200) (h : nC K ≤ (rdS K n).1) (hall : ∀ j, j < n → ¬ nC K ≤ (rdS K j).1) : rdE K = n := ff_hit hall h (by omega)
/-- what ROUND leaves -/
def aRd (K : tK) (w : Int) : Int := if w = 0 then rdE K else if w = 2 then rdW K else if rdE K < 0 then -99 else psum (rdS K (rdE K).toNat).2 (nP K)
