/-! the seven texts, as the machine holds them -/
def STx (i : Nat) : Nat × String := match i with
  | 0 => (35, "")
  | 1 => (23, "c0000;")
  | 2 => (25, "n0;")
  | 3 => (27, "p0+0;")
  | 4 => (29, "s000;")
  | 5 => (31, "l0;")
  | _ => (33, "u;")
def lenS : List Nat := [0, 6, 3, 5, 5, 3, 2]
def bytS : List (List Int32) := sBs.map (fun l => l.map Int32.ofInt)
theorem lenS_eq : ∀ q, q < 7 → lenS.getD q 0 = sLen q := by decide
theorem sLen_le : ∀ q, q < 7 → sLen q ≤ 6 := by decide
theorem sLen_w : ∀ q, q < 7 → w32 ((sLen q : Nat) : Int) = ((sLen q : Nat) : Int) := by decide +kernel
theorem byt_ch : ∀ q, q < 7 → ∀ j, j < 6 → (bytS.getD q []).getD j 0 = Int32.ofInt (sCh q j) := by decide +kernel
theorem sCh_bd : ∀ q, q < 7 → ∀ j, j < 6 → w32 (sCh q j) = sCh q j ∧ 0 ≤ sCh q j ∧ sCh q j < 128 := by decide +kernel
theorem i2c_all : ∀ n, n < 128 → ((Int32.ofInt ((n : Nat) : Int)).toUInt32 % 65536).toInt32 = Int32.ofInt ((n : Nat) : Int) := by decide +kernel
theorem byte_all : ∀ n, n < 128 → narrow .byte (.int (Int32.ofInt ((n : Nat) : Int))) = .int (Int32.ofInt ((n : Nat) : Int)) ∧ narrow .char (.int (Int32.ofInt ((n : Nat) : Int))) = .int (Int32.ofInt ((n : Nat) : Int)) := by
  intro n hn
  have h : ∀ n, n < 128 → (narrow .byte (.int (Int32.ofInt ((n : Nat) : Int))) == .int (Int32.ofInt ((n : Nat) : Int))) = true ∧ (narrow .char (.int (Int32.ofInt ((n : Nat) : Int))) == .int (Int32.ofInt ((n : Nat) : Int))) = true := by decide +kernel
  exact ⟨eq_of_beq (h n hn).1, eq_of_beq (h n hn).2⟩
theorem nat128 {x : Int} (h0 : 0 ≤ x) (h1 : x < 128) : ∃ n : Nat, n < 128 ∧ x = ((n : Nat) : Int) := ⟨x.toNat, by omega, by omega⟩
theorem i2c_fit {x : Int} (h0 : 0 ≤ x) (h1 : x < 128) : ((Int32.ofInt x).toUInt32 % 65536).toInt32 = Int32.ofInt x := by
  obtain ⟨n, hn, rfl⟩ := nat128 h0 h1
  exact i2c_all n hn
theorem byte_fit {x : Int} (h0 : 0 ≤ x) (h1 : x < 128) : narrow .byte (.int (Int32.ofInt x)) = .int (Int32.ofInt x) ∧ narrow .char (.int (Int32.ofInt x)) = .int (Int32.ofInt x) := by
  obtain ⟨n, hn, rfl⟩ := nat128 h0 h1
  exact byte_all n hn
def va_Zf (b : Nat → Nat) (A : Nat → Prop) (U : State) (H : Heap) : Prop := va_Z "jdk/internal/util/Preconditions" "SIOOBE_FORMATTER" "Ljava/util/function/BiFunction;" .null A U H ∨ va_Z "jdk/internal/util/Preconditions" "SIOOBE_FORMATTER" "Ljava/util/function/BiFunction;" (.ref (b 18)) A U H
def STRf (b : Nat → Nat) (A : Nat → Prop) (U : State) (H : Heap) : Prop :=
  vk_S 7 lenS bytS (fun i => b (3 + i)) (fun i => b (10 + i)) A U H ∧ (∀ i, i < 7 → vk_R "AppealsDown$Letters" (STx i).1 (STx i).2 (b (3 + i)) U) ∧ va_Z "java/lang/String" "COMPACT_STRINGS" "Z" (.int 1) A U H ∧ va_Zf b A U H
theorem STRf.call {b : Nat → Nat} {A B : Nat → Prop} {s U : State} {H : Heap} {locs : List Loc} (h : STRf b A s s.heap) (hS : va_S A s.heap H locs) (hAB : ∀ q, B q → A q) (hU : U.heap = H) (hW : s.WarmedH U.vm) : STRf b B U U.heap := by
  obtain ⟨a1, a2, a3, a4⟩ := h
  rw [hU]
  refine ⟨vk_S.moved hW.alike ((a1.kept hS.2.1).narrow hAB), fun i hi => (a2 i hi).warm hW, va_Z.moved hW.alike ((a3.kept hS.2.1).narrow hAB), ?_⟩
  rcases a4 with a4 | a4
  · exact Or.inl (va_Z.moved hW.alike ((a4.kept hS.2.1).narrow hAB))
  · exact Or.inr (va_Z.moved hW.alike ((a4.kept hS.2.1).narrow hAB))
theorem STRf.same {b : Nat → Nat} {A : Nat → Prop} {s U : State} {H : Heap} (h : STRf b A s H) (hv : U.vm = s.vm) : STRf b A U H := by
  obtain ⟨a1, a2, a3, a4⟩ := h
  have hal : s.vm.Alike U.vm := by rw [hv]; exact Vm.Alike.refl s.vm
  refine ⟨vk_S.moved hal a1, fun i hi => vk_R.same hv (a2 i hi), va_Z.moved hal a3, ?_⟩
  rcases a4 with a4 | a4
  · exact Or.inl (va_Z.moved hal a4)
  · exact Or.inr (va_Z.moved hal a4)
theorem slk_in {o i q : Nat} (h : slk o i = some q) : o = 2 ∧ ∃ j, j < 7 ∧ q = 3 + j ∧ i = (STx j).1 := by
  unfold slk at h
  split at h
  · next hb =>
    have ho := Nat.eq_of_beq_eq_true hb
    split at h
    · cases h; exact ⟨ho, 0, by decide, rfl, rfl⟩
    · cases h; exact ⟨ho, 1, by decide, rfl, rfl⟩
    · cases h; exact ⟨ho, 2, by decide, rfl, rfl⟩
    · cases h; exact ⟨ho, 3, by decide, rfl, rfl⟩
    · cases h; exact ⟨ho, 4, by decide, rfl, rfl⟩
    · cases h; exact ⟨ho, 5, by decide, rfl, rfl⟩
    · cases h; exact ⟨ho, 6, by decide, rfl, rfl⟩
    · cases h
  · cases h
theorem cv_x {ad b : Nat → Nat} {k : Nat} (h : k ≠ 0) : cv ad b (vX k) = .ref (b k) := if_neg (fun e => h (Nat.eq_of_beq_eq_true e))
