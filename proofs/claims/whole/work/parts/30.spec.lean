/-! the mathematical side: POINTS as a function of places below N -/
theorem ev_mono {C : pC} {X : pX} {M : pM} {yF : pY} {Q Q2 : Option pV → pG → Prop} {pc : Nat} {loc stk : List pV} {y : pY} {g : pG} (hq : ∀ v gg, Q v gg → Q2 v gg) (h : Ev C X M yF Q pc loc stk y g) : Ev C X M yF Q2 pc loc stk y g := by
  intro P hP
  refine h P (fun pc loc stk y g ins n hd hs => hP pc loc stk y g ins n hd ?_)
  cases ins <;> first
    | exact hs
    | (rename_i cnd off; cases cnd <;> exact hs)
    | (obtain ⟨h1, x, h2, h3, h4, h5⟩ := hs; exact ⟨h1, x, h2, h3, h4, hq _ _ h5⟩)
    | (obtain ⟨h1, x, h2, h3, h4, h5, h6⟩ := hs; exact ⟨h1, x, h2, h3, h4, h5, hq _ _ h6⟩)
    | (obtain ⟨h1, h2, h3, h4, h5⟩ := hs; exact ⟨h1, h2, h3, h4, hq _ _ h5⟩)
theorem ct_mono {d : Nat} {M : pM} {as : List pV} {g : pG} {Q Q2 : Option pV → pG → Prop} (hq : ∀ v gg, Q v gg → Q2 v gg) (h : CT d M as g Q) : CT d M as g Q2 := by
  cases d with
  | zero => exact h.elim
  | succ d => exact ⟨h.1, ev_mono hq h.2⟩
theorem ct_in {d : Nat} {M : pM} {as L : List pV} {g : pG} {Q : Option pV → pG → Prop} (hd : 1 ≤ d) (h1 : (pent as).length ≤ M.2.1) (h2 : entL M.2.1 as = L) (k : ∀ e, d = e + 1 → EV e M Q 0 L [] g) : CT d M as g Q := by
  obtain ⟨e, rfl⟩ : ∃ e, d = e + 1 := ⟨d - 1, by omega⟩
  exact ⟨h1, by rw [h2]; exact k e rfl⟩
theorem loopN {P : Nat → pG → Prop} (N : Nat) (head : Nat → pG → Prop) (step : ∀ (k : Nat) (g : pG), k < N → P k g → (∀ g', P (k + 1) g' → head (k + 1) g') → head k g) (fin : ∀ g, P N g → head N g) : ∀ (k : Nat) (g : pG), k ≤ N → P k g → head k g := by
  have key : ∀ (j k : Nat) (g : pG), k + j = N → P k g → head k g := by
    intro j
    induction j with
    | zero => intro k g hk hp; have : k = N := by omega
              subst this; exact fin g hp
    | succ j ih => intro k g hk hp; exact step k g (by omega) hp (fun g' hp' => ih (k + 1) g' (by omega) hp')
  intro k g hk hp
  exact key (N - k) k g (by omega) hp
theorem w32n (k : Nat) (h : (k : Int) < 2147483647) : w32 ((k : Int) + 1) = ((k + 1 : Nat) : Int) := by
  rw [w32_of (by omega) (by omega)]; omega
abbrev tF : Type := Nat → Int
def bi (p : Prop) [Decidable p] : Int := if p then 1 else 0
theorem bi_pos {p : Prop} [Decidable p] (h : p) : bi p = 1 := if_pos h
theorem bi_neg {p : Prop} [Decidable p] (h : ¬ p) : bi p = 0 := if_neg h
theorem bi_01 (p : Prop) [Decidable p] : bi p = 0 ∨ bi p = 1 := by unfold bi; split <;> simp
theorem bi_iff {p q : Prop} [Decidable p] [Decidable q] (h : p ↔ q) : bi p = bi q := by
  unfold bi; by_cases hp : p
  · rw [if_pos hp, if_pos (h.mp hp)]
  · rw [if_neg hp, if_neg (fun z => hp (h.mpr z))]
def Bd (n : Nat) (f : tF) : Prop := ∀ k, k < n → -9 ≤ f k ∧ f k ≤ 9
def psum (f : tF) : Nat → Int
  | 0 => 0
  | n + 1 => psum f n + f n
def pnz (f : tF) : Nat → Int
  | 0 => 0
  | n + 1 => pnz f n + (if f n = 0 then 0 else 1)
def mag (x : Int) : Int := if x < 0 then -x else x
def psur (f : tF) : Nat → Nat
  | 0 => 0
  | n + 1 => if mag (f (psur f n)) < mag (f n) then n else psur f n
theorem psum_bd {f : tF} {m : Nat} (h : Bd m f) : ∀ n, n ≤ m → -9 * (n : Int) ≤ psum f n ∧ psum f n ≤ 9 * (n : Int) := by
  intro n
  induction n with
  | zero => intro _; simp [psum]
  | succ n ih => intro hn; have h1 := ih (by omega); have h2 := h n (by omega); unfold psum; omega
theorem pnz_bd (f : tF) : ∀ n, 0 ≤ pnz f n ∧ pnz f n ≤ (n : Int) := by
  intro n
  induction n with
  | zero => simp [pnz]
  | succ n ih => unfold pnz; split <;> omega
theorem psur_lt (f : tF) : ∀ n, 0 < n → psur f n < n := by
  intro n
  induction n with
  | zero => intro h; omega
  | succ n ih =>
    intro _
    unfold psur
    split
    · omega
    · cases n with
      | zero => simp [psur]
      | succ n => have := ih (by omega); omega
def half (x : Int) : Int := x.tdiv 2
def held (x : Int) : Int := if x < -9 then -9 else if 9 < x then 9 else x
theorem held_bd (x : Int) : -9 ≤ held x ∧ held x ≤ 9 := by
  unfold held
  split
  · omega
  · split <;> omega
theorem half_eq (x : Int) : half x = if 0 ≤ x then x / 2 else -((-x) / 2) := by
  unfold half
  split
  next h => exact Int.tdiv_eq_ediv_of_nonneg h
  next h =>
    have e : x.tdiv 2 = -((-x).tdiv 2) := by rw [Int.neg_tdiv, Int.neg_neg]
    rw [e, Int.tdiv_eq_ediv_of_nonneg (by omega)]
theorem half_bd {x : Int} (h : -9 ≤ x ∧ x ≤ 9) : -9 ≤ half x ∧ half x ≤ 9 := by
  rw [half_eq]
  split <;> omega
def behF (n s : Nat) : Nat := if s + 1 < n then s + 1 else 0
def lessF (n s : Nat) (f : tF) : tF := if n ≤ 1 then f else fup f (behF n s) (held (f (behF n s) - 1))
def toward (x : Int) : Int := if 0 < x then x - 1 else if x < 0 then x + 1 else x
def nearF (n s : Nat) (f : tF) : tF := fun o => if o < n ∧ o ≠ s then toward (f o) else f o
def bringV (fig x : Int) : Int := if x < 0 then fig else if 0 < x then -fig else x
def actF (n : Nat) (kind fig : Int) (f : tF) : tF :=
  if kind = 1 then fup f (psur f n) (-(f (psur f n)))
  else if kind = 2 then lessF n (psur f n) (fup f (psur f n) (-(f (psur f n))))
  else if kind = 3 then fup f (psur f n) (bringV fig (f (psur f n)))
  else if kind = 4 then nearF n (psur f n) (fup f (psur f n) (half (f (psur f n))))
  else if kind = 5 then (fun f1 => fup f1 (psur f1 n) (half (f1 (psur f1 n)))) (lessF n (psur f n) (fup f (psur f n) (-(f (psur f n)))))
  else fup f (psur f n) (half (f (psur f n)))
theorem Bd.put {n : Nat} {f : tF} (h : Bd n f) (s : Nat) {v : Int} (hv : -9 ≤ v ∧ v ≤ 9) : Bd n (fup f s v) := by
  intro k hk
  unfold fup
  split
  · exact hv
  · exact h k hk
theorem Bd.less {n s : Nat} {f : tF} (h : Bd n f) : Bd n (lessF n s f) := by
  unfold lessF
  split
  · exact h
  · exact h.put _ (held_bd _)
theorem Bd.near {n s : Nat} {f : tF} (h : Bd n f) : Bd n (nearF n s f) := by
  intro k hk
  have := h k hk
  unfold nearF toward
  split
  · split
    · omega
    · split <;> omega
  · exact this
theorem bring_bd {fig x : Int} (hf : 0 ≤ fig ∧ fig ≤ 9) (hx : -9 ≤ x ∧ x ≤ 9) : -9 ≤ bringV fig x ∧ bringV fig x ≤ 9 := by
  unfold bringV; split
  · omega
  · split <;> omega
theorem Bd.act {n : Nat} {kind fig : Int} {f : tF} (h : Bd n f) (hn : 0 < n) (hf : 0 ≤ fig ∧ fig ≤ 9) : Bd n (actF n kind fig f) := by
  have hs := h _ (psur_lt f n hn)
  have hneg : -9 ≤ -(f (psur f n)) ∧ -(f (psur f n)) ≤ 9 := by omega
  unfold actF
  split
  · exact h.put _ hneg
  split
  · exact (h.put _ hneg).less
  split
  · exact h.put _ (bring_bd hf hs)
  split
  · exact (h.put _ (half_bd hs)).near
  split
  · have h1 : Bd n (lessF n (psur f n) (fup f (psur f n) (-(f (psur f n))))) := (h.put _ hneg).less
    exact h1.put _ (half_bd (h1 _ (psur_lt _ n hn)))
  · exact h.put _ (half_bd hs)
/-- POINTS: how many, apart from what lies behind them -/
def PT (g : pG) (t N : Nat) (f : tF) : Prop := g t 1 = N ∧ 1 ≤ N ∧ N ≤ 8 ∧ (∀ k, k < N → g (t + 1) k = f k) ∧ Bd N f
def fr (g g' : pG) (c : Nat) : Prop := ∀ a, a ≠ c → g' a = g a
theorem fr.rf {g : pG} {c : Nat} : fr g g c := fun _ _ => rfl
theorem fr.tr {g g1 g2 : pG} {c : Nat} (h1 : fr g g1 c) (h2 : fr g1 g2 c) : fr g g2 c := fun a ha => (h2 a ha).trans (h1 a ha)
theorem cset_self (g : pG) (c : Nat) (f : tF) : cset g c f c = f := by simp [cset]
theorem cset_ne (g : pG) {c a : Nat} (f : tF) (h : a ≠ c) : cset g c f a = g a := by simp [cset, h]
theorem fr.set {g : pG} {c : Nat} (f : tF) : fr g (cset g c f) c := fun a ha => cset_ne g f ha
theorem PT.put {g : pG} {t N : Nat} {f : tF} (h : PT g t N f) {s : Nat} {v : Int} (hv : -9 ≤ v ∧ v ≤ 9) : PT (cset g (t + 1) (fup (g (t + 1)) s v)) t N (fup f s v) := by
  obtain ⟨h1, h2, h3, h4, h5⟩ := h
  refine ⟨by rw [cset_ne _ _ (by omega)]; exact h1, h2, h3, fun k hk => ?_, h5.put s hv⟩
  rw [cset_self]
  unfold fup
  split
  · rfl
  · exact h4 k hk
theorem PT.frm {g g' : pG} {t N c : Nat} {f : tF} (h : PT g t N f) (hf : fr g g' c) (h1 : c ≠ t) (h2 : c ≠ t + 1) : PT g' t N f :=
  ⟨by rw [hf t (Ne.symm h1)]; exact h.1, h.2.1, h.2.2.1, fun k hk => by rw [hf (t + 1) (Ne.symm h2)]; exact h.2.2.2.1 k hk, h.2.2.2.2⟩
theorem tn0 : Int.toNat 0 = 0 := rfl
theorem tn1 : Int.toNat 1 = 1 := rfl
theorem tn2 : Int.toNat 2 = 2 := rfl
