/-- BEST ORDER: all orders of n, rising -/
def pmT : List (List (List Nat)) := [[[]], [[0]], [[0, 1], [1, 0]], [[0, 1, 2], [0, 2, 1], [1, 0, 2], [1, 2, 0], [2, 0, 1], [2, 1, 0]], [[0, 1, 2, 3], [0, 1, 3, 2], [0, 2, 1, 3], [0, 2, 3, 1], [0, 3, 1, 2], [0, 3, 2, 1], [1, 0, 2, 3], [1, 0, 3, 2], [1, 2, 0, 3], [1, 2, 3, 0], [1, 3, 0, 2], [1, 3, 2, 0], [2, 0, 1, 3], [2, 0, 3, 1], [2, 1, 0, 3], [2, 1, 3, 0], [2, 3, 0, 1], [2, 3, 1, 0], [3, 0, 1, 2], [3, 0, 2, 1], [3, 1, 0, 2], [3, 1, 2, 0], [3, 2, 0, 1], [3, 2, 1, 0]], [[0, 1, 2, 3, 4], [0, 1, 2, 4, 3], [0, 1, 3, 2, 4], [0, 1, 3, 4, 2], [0, 1, 4, 2, 3], [0, 1, 4, 3, 2], [0, 2, 1, 3, 4], [0, 2, 1, 4, 3], [0, 2, 3, 1, 4], [0, 2, 3, 4, 1], [0, 2, 4, 1, 3], [0, 2, 4, 3, 1], [0, 3, 1, 2, 4], [0, 3, 1, 4, 2], [0, 3, 2, 1, 4], [0, 3, 2, 4, 1], [0, 3, 4, 1, 2], [0, 3, 4, 2, 1], [0, 4, 1, 2, 3], [0, 4, 1, 3, 2], [0, 4, 2, 1, 3], [0, 4, 2, 3, 1], [0, 4, 3, 1, 2], [0, 4, 3, 2, 1], [1, 0, 2, 3, 4], [1, 0, 2, 4, 3], [1, 0, 3, 2, 4], [1, 0, 3, 4, 2], [1, 0, 4, 2, 3], [1, 0, 4, 3, 2], [1, 2, 0, 3, 4], [1, 2, 0, 4, 3], [1, 2, 3, 0, 4], [1, 2, 3, 4, 0], [1, 2, 4, 0, 3], [1, 2, 4, 3, 0], [1, 3, 0, 2, 4], [1, 3, 0, 4, 2], [1, 3, 2, 0, 4], [1, 3, 2, 4, 0], [1, 3, 4, 0, 2], [1, 3, 4, 2, 0], [1, 4, 0, 2, 3], [1, 4, 0, 3, 2], [1, 4, 2, 0, 3], [1, 4, 2, 3, 0], [1, 4, 3, 0, 2], [1, 4, 3, 2, 0], [2, 0, 1, 3, 4], [2, 0, 1, 4, 3], [2, 0, 3, 1, 4], [2, 0, 3, 4, 1], [2, 0, 4, 1, 3], [2, 0, 4, 3, 1], [2, 1, 0, 3, 4], [2, 1, 0, 4, 3], [2, 1, 3, 0, 4], [2, 1, 3, 4, 0], [2, 1, 4, 0, 3], [2, 1, 4, 3, 0], [2, 3, 0, 1, 4], [2, 3, 0, 4, 1], [2, 3, 1, 0, 4], [2, 3, 1, 4, 0], [2, 3, 4, 0, 1], [2, 3, 4, 1, 0], [2, 4, 0, 1, 3], [2, 4, 0, 3, 1], [2, 4, 1, 0, 3], [2, 4, 1, 3, 0], [2, 4, 3, 0, 1], [2, 4, 3, 1, 0], [3, 0, 1, 2, 4], [3, 0, 1, 4, 2], [3, 0, 2, 1, 4], [3, 0, 2, 4, 1], [3, 0, 4, 1, 2], [3, 0, 4, 2, 1], [3, 1, 0, 2, 4], [3, 1, 0, 4, 2], [3, 1, 2, 0, 4], [3, 1, 2, 4, 0], [3, 1, 4, 0, 2], [3, 1, 4, 2, 0], [3, 2, 0, 1, 4], [3, 2, 0, 4, 1], [3, 2, 1, 0, 4], [3, 2, 1, 4, 0], [3, 2, 4, 0, 1], [3, 2, 4, 1, 0], [3, 4, 0, 1, 2], [3, 4, 0, 2, 1], [3, 4, 1, 0, 2], [3, 4, 1, 2, 0], [3, 4, 2, 0, 1], [3, 4, 2, 1, 0], [4, 0, 1, 2, 3], [4, 0, 1, 3, 2], [4, 0, 2, 1, 3], [4, 0, 2, 3, 1], [4, 0, 3, 1, 2], [4, 0, 3, 2, 1], [4, 1, 0, 2, 3], [4, 1, 0, 3, 2], [4, 1, 2, 0, 3], [4, 1, 2, 3, 0], [4, 1, 3, 0, 2], [4, 1, 3, 2, 0], [4, 2, 0, 1, 3], [4, 2, 0, 3, 1], [4, 2, 1, 0, 3], [4, 2, 1, 3, 0], [4, 2, 3, 0, 1], [4, 2, 3, 1, 0], [4, 3, 0, 1, 2], [4, 3, 0, 2, 1], [4, 3, 1, 0, 2], [4, 3, 1, 2, 0], [4, 3, 2, 0, 1], [4, 3, 2, 1, 0]]]
def pmN (n k i : Nat) : Nat := ((pmT.getD n []).getD k []).getD i 0
def pmI (n k : Nat) : tF := fun i => (pmN n k i : Int)
def fcN : Nat → Nat
  | 0 => 1
  | n + 1 => fcN n * (n + 1)
def swP (p : tF) (a b : Nat) : tF := fup (fup p a (p b)) b (p a)
def tnF (p : tF) : Nat → Nat
  | 0 => 0
  | j + 1 => if p j ≤ p (j + 1) then j + 1 else tnF p j
def wiF (p : tF) (t : Nat) : Nat → Nat
  | 0 => 0
  | w + 1 => if w + 1 ≤ t then w + 1 else if p t ≤ p (w + 1) then w + 1 else wiF p t w
def rvF : Nat → tF → Nat → Nat → tF
  | 0, p, _, _ => p
  | k + 1, p, a, b => if b ≤ a then p else rvF k (swP p a b) (a + 1) (b - 1)
def nxF (n : Nat) (p : tF) : Option tF := if tnF p (n - 1) = 0 then none else some (rvF n (swP p (tnF p (n - 1) - 1) (wiF p (tnF p (n - 1) - 1) (n - 1))) (tnF p (n - 1)) (n - 1))
def inF (used : Int) : Nat → Nat → Nat → Option Nat
  | 0, _, _ => none
  | f + 1, sk, one => if zand (zshr used one) 1 = 1 then inF used f sk (one + 1) else if sk = 0 then some one else inF used f (sk - 1) (one + 1)
def loG : Nat → Nat → Int → Nat → tF → Option tF
  | 0, _, _, _, p => some p
  | s + 1, rest, used, i, p => match inF used 10 (rest / fcN s) 0 with
    | none => none
    | some one => loG s (rest % fcN s) (zor used (zshl 1 one)) (i + 1) (fup p i one)
def ckA (n k : Nat) : Bool := (List.range n).all (fun i => decide (pmN n k i < n)) && (match nxF n (pmI n k) with
    | none => decide (k + 1 = fcN n)
    | some p => decide (k + 1 < fcN n) && (List.range n).all (fun i => decide (p i = pmI n (k + 1) i))) && (match loG n k 0 0 (fun _ => 0) with
    | none => false
    | some p => (List.range n).all (fun i => decide (p i = pmI n k i)))
def ckB (n : Nat) : Bool := (List.range (fcN n)).all (ckA n)
theorem ckAll : (List.range 6).all ckB = true := by decide +kernel
theorem ck0 : (List.range 6).all (fun n => (List.range n).all (fun i => decide (pmN n 0 i = i))) = true := by decide +kernel
theorem all_at {p : Nat → Bool} {n k : Nat} (h : (List.range n).all p = true) (hk : k < n) : p k = true := List.all_eq_true.mp h k (List.mem_range.mpr hk)
theorem ck_at {n k : Nat} (hn : n ≤ 5) (hk : k < fcN n) : ckA n k = true := all_at (all_at ckAll (show n < 6 by omega)) hk
theorem pm_0 {n i : Nat} (hn : n ≤ 5) (hi : i < n) : pmN n 0 i = i := of_decide_eq_true (all_at (p := fun i => decide (pmN n 0 i = i)) (all_at (p := fun n => (List.range n).all (fun i => decide (pmN n 0 i = i))) ck0 (show n < 6 by omega)) hi)
theorem pm_lt {n k i : Nat} (hn : n ≤ 5) (hk : k < fcN n) (hi : i < n) : pmN n k i < n := by
  have h := ck_at hn hk
  unfold ckA at h
  rw [Bool.and_eq_true, Bool.and_eq_true] at h
  exact of_decide_eq_true (all_at (p := fun i => decide (pmN n k i < n)) h.1.1 hi)
theorem pm_nx {n k : Nat} (hn : n ≤ 5) (hk : k < fcN n) : (nxF n (pmI n k) = none ∧ k + 1 = fcN n) ∨ (∃ p, nxF n (pmI n k) = some p ∧ k + 1 < fcN n ∧ ∀ i, i < n → p i = pmI n (k + 1) i) := by
  have h := ck_at hn hk
  unfold ckA at h
  rw [Bool.and_eq_true, Bool.and_eq_true] at h
  have h2 := h.1.2
  cases hc : nxF n (pmI n k) with
  | none => rw [hc] at h2; exact Or.inl ⟨rfl, of_decide_eq_true h2⟩
  | some p =>
    rw [hc] at h2
    have h3 : (decide (k + 1 < fcN n) && (List.range n).all (fun i => decide (p i = pmI n (k + 1) i))) = true := h2
    rw [Bool.and_eq_true] at h3
    exact Or.inr ⟨p, rfl, of_decide_eq_true h3.1, fun i hi => of_decide_eq_true (all_at (p := fun i => decide (p i = pmI n (k + 1) i)) h3.2 hi)⟩
theorem pm_lo {n k : Nat} (hn : n ≤ 5) (hk : k < fcN n) : ∃ p, loG n k 0 0 (fun _ => 0) = some p ∧ ∀ i, i < n → p i = pmI n k i := by
  have h := ck_at hn hk
  unfold ckA at h
  rw [Bool.and_eq_true] at h
  have h2 := h.2
  cases hc : loG n k 0 0 (fun _ => 0) with
  | none => rw [hc] at h2; exact absurd h2 (by simp)
  | some p =>
    rw [hc] at h2
    exact ⟨p, rfl, fun i hi => of_decide_eq_true (all_at (p := fun i => decide (p i = pmI n k i)) h2 hi)⟩
theorem fc_bd {n : Nat} (hn : n ≤ 5) : 1 ≤ fcN n ∧ fcN n ≤ 120 := by
  rcases (show n = 0 ∨ n = 1 ∨ n = 2 ∨ n = 3 ∨ n = 4 ∨ n = 5 by omega) with rfl | rfl | rfl | rfl | rfl | rfl <;> decide
/-- POINTS through the courts of an order -/
def boF (K : tK) (k : Nat) : Nat → tF
  | 0 => ptC K
  | i + 1 => passF K (pmN (nC K) k i) (boF K k i)
def boS (K : tK) (k : Nat) : Int := psum (boF K k (nC K)) (nP K)
def boB (K : tK) : Nat → Nat
  | 0 => 0
  | k + 1 => if boS K (boB K k) < boS K (k + 1) then k + 1 else boB K k
theorem boB_1 {K : tK} {k : Nat} (h : boS K (boB K k) < boS K (k + 1)) : boB K (k + 1) = k + 1 := if_pos h
theorem boB_0 {K : tK} {k : Nat} (h : ¬ boS K (boB K k) < boS K (k + 1)) : boB K (k + 1) = boB K k := if_neg h
theorem boB_le (K : tK) : ∀ k, boB K k ≤ k := by
  intro k
  induction k with
  | zero => exact Nat.le_refl _
  | succ k ih => unfold boB; split <;> omega
theorem boF_Bd {K : tK} (hK : KOK K) (h5 : nC K ≤ 5) {k : Nat} (hk : k < fcN (nC K)) : ∀ i, i ≤ nC K → Bd (nP K) (boF K k i) := by
  intro i
  induction i with
  | zero => intro _; exact hK.bd
  | succ i ih => intro hi; exact Bd.pass hK (pm_lt h5 hk hi) (ih (Nat.le_of_lt hi))
theorem boS_bd {K : tK} (hK : KOK K) (h5 : nC K ≤ 5) {k : Nat} (hk : k < fcN (nC K)) : -72 ≤ boS K k ∧ boS K k ≤ 72 := by
  have h := psum_bd (boF_Bd hK h5 hk (nC K) (Nat.le_refl _)) (nP K) (Nat.le_refl _)
  have h8 := hK.2.2.1.2
  unfold boS
  omega
def rBo (K : tK) (i : Int) : Int := if 5 < nC K then -3 else if i < -1 then -4 else 0
theorem rBo_cases (K : tK) (i : Int) : (5 < nC K ∧ rBo K i = -3) ∨ (nC K ≤ 5 ∧ i < -1 ∧ rBo K i = -4) ∨ (nC K ≤ 5 ∧ -1 ≤ i ∧ rBo K i = 0) := by
  unfold rBo
  by_cases h1 : 5 < nC K
  · rw [if_pos h1]; omega
  · rw [if_neg h1]
    by_cases h2 : i < -1
    · rw [if_pos h2]; omega
    · rw [if_neg h2]; omega
abbrev boL (K : tK) : Nat := boB K (fcN (nC K) - 1)
def aBo (K : tK) (i : Int) : Int := if i = -1 then boS K (boL K) else if i < nC K then pmI (nC K) (boL K) i.toNat else -9
