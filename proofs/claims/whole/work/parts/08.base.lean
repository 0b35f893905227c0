/-! the pure interpreter's values, layouts, contents -/
abbrev pV : Type := Int ⊕ (Nat ⊕ (Int ⊕ Nat))
abbrev vI (x : Int) : pV := Sum.inl x
abbrev vR (a : Nat) : pV := Sum.inr (Sum.inl a)
abbrev vL (x : Int) : pV := Sum.inr (Sum.inr (Sum.inl x))
abbrev vX (k : Nat) : pV := Sum.inr (Sum.inr (Sum.inr k))
abbrev pY : Type := List (Nat × List Nat)
abbrev pG : Type := Nat → Nat → Int
abbrev pM : Type := ByteArray × Nat × Option FieldType × Nat × MethodName
def w32 (x : Int) : Int := x.bmod 4294967296
def w64 (x : Int) : Int := x.bmod 18446744073709551616
def fup (f : Nat → Int) (j : Nat) (x : Int) : Nat → Int := fun b => if b = j then x else f b
def cset (g : pG) (c : Nat) (f : Nat → Int) : pG := fun a => if a = c then f else g a
def fcp (f g : Nat → Int) (sp dp n : Nat) : Nat → Int := fun b => if dp ≤ b ∧ b < dp + n then f (sp + (b - dp)) else g b
def oNmL : List String := [RX0, RX1, RX2, RX3, RX4, RX5, RX6, RX7, RX8, RL, RJ6, RJ9, RJ0, RJ1, RJ3, RJ2, RJ10]
def oNm (o : Nat) : String := oNmL.getD o ""
def cR (ci : Nat) : vw_C := vwCl.getD ci (RX0, TX0, 4)
def cNm (ci : Nat) : String := (cR ci).1
def cT (ci : Nat) : u_T := (cR ci).2.1
def cN (ci : Nat) : Nat := (cR ci).2.2
def cTy (ci : Nat) : Nat → FieldType := match ci with
  | 0 => tyX0 | 1 => tyX1 | 2 => tyX2 | 3 => tyX3 | 4 => tyX4 | 5 => tyX5 | 6 => tyX6 | 7 => tyX7 | _ => tyX8
def tcode (t : FieldType) : Nat := match t with
  | .int => 0
  | .boolean => 1
  | _ => 2
def fcode (ci k : Nat) : Nat := if Nat.beq ci 8 && Nat.beq k 25 then 3 else tcode (cTy ci k)
def ffin (ci k : Nat) : Bool := (cT ci k).2.2.2
def rv (n : Nat) : pV := match n with
  | 0 => vX 0
  | k + 1 => vR k
def isL (v : pV) : Bool := match v with
  | .inr (.inr (.inl _)) => true
  | _ => false
def isR (v : pV) : Bool := match v with
  | .inr (.inl _) => true
  | .inr (.inr (.inr k)) => !(Nat.beq k 0) && !(Nat.beq k 2)
  | _ => false
def pent : List pV → List pV
  | [] => []
  | v :: t => if isL v = true then v :: vX 2 :: pent t else v :: pent t
def entL (n : Nat) (args : List pV) : List pV := pent args ++ List.replicate (n - (pent args).length) (vX 2)
def wtS (l : List pV) : Nat := (l.map (fun v => if isL v = true then 2 else 1)).sum
theorem w32_idem (x : Int) : w32 (w32 x) = w32 x := by unfold w32; exact Int.bmod_bmod
theorem w64_idem (x : Int) : w64 (w64 x) = w64 x := by unfold w64; exact Int.bmod_bmod
theorem w32_of {x : Int} (h1 : -2147483648 ≤ x) (h2 : x < 2147483648) : w32 x = x := by
  unfold w32; exact Int.bmod_eq_of_le (by omega) (by omega)
theorem w64_of {x : Int} (h1 : -9223372036854775808 ≤ x) (h2 : x < 9223372036854775808) : w64 x = x := by
  unfold w64; exact Int.bmod_eq_of_le (by omega) (by omega)
theorem w32_rng (x : Int) : -2147483648 ≤ w32 x ∧ w32 x < 2147483648 := by
  unfold w32
  have h1 := Int.le_bmod (x := x) (m := 4294967296) (by decide)
  have h2 := Int.bmod_lt (x := x) (m := 4294967296) (by decide)
  omega
theorem w64_rng (x : Int) : -9223372036854775808 ≤ w64 x ∧ w64 x < 9223372036854775808 := by
  unfold w64
  have h1 := Int.le_bmod (x := x) (m := 18446744073709551616) (by decide)
  have h2 := Int.bmod_lt (x := x) (m := 18446744073709551616) (by decide)
  omega
theorem o32_w (x : Int) : Int32.ofInt (w32 x) = Int32.ofInt x := by
  apply Int32.toInt_inj.mp
  simp only [Int32.toInt_ofInt, w32]
  exact Int.bmod_bmod
theorem o64_w (x : Int) : Int64.ofInt (w64 x) = Int64.ofInt x := by
  apply Int64.toInt_inj.mp
  simp only [Int64.toInt_ofInt, w64]
  exact Int.bmod_bmod
theorem t32_o {x : Int} (h : w32 x = x) : (Int32.ofInt x).toInt = x := by
  rw [Int32.toInt_ofInt]; exact h
theorem t64_o {x : Int} (h : w64 x = x) : (Int64.ofInt x).toInt = x := by
  rw [Int64.toInt_ofInt]; exact h
theorem o32_eq {x y : Int} (hx : w32 x = x) (hy : w32 y = y) : Int32.ofInt x = Int32.ofInt y ↔ x = y :=
  ⟨fun h => by rw [← t32_o hx, ← t32_o hy, h], fun h => by rw [h]⟩
theorem o32_lt {x y : Int} (hx : w32 x = x) (hy : w32 y = y) : Int32.ofInt x < Int32.ofInt y ↔ x < y := by
  rw [Int32.lt_iff_toInt_lt, t32_o hx, t32_o hy]
theorem o32_le {x y : Int} (hx : w32 x = x) (hy : w32 y = y) : Int32.ofInt x ≤ Int32.ofInt y ↔ x ≤ y := by
  rw [Int32.le_iff_toInt_le, t32_o hx, t32_o hy]
theorem o64_eq {x y : Int} (hx : w64 x = x) (hy : w64 y = y) : Int64.ofInt x = Int64.ofInt y ↔ x = y :=
  ⟨fun h => by rw [← t64_o hx, ← t64_o hy, h], fun h => by rw [h]⟩
theorem o64_lt {x y : Int} (hx : w64 x = x) (hy : w64 y = y) : Int64.ofInt x < Int64.ofInt y ↔ x < y := by
  rw [Int64.lt_iff_toInt_lt, t64_o hx, t64_o hy]
theorem w32_toInt (x : Int32) : w32 x.toInt = x.toInt := by
  have h1 := Int32.le_toInt x
  have h2 := Int32.toInt_lt x
  exact w32_of (by omega) (by omega)
theorem w64_toInt (x : Int64) : w64 x.toInt = x.toInt := by
  have h1 := Int64.le_toInt x
  have h2 := Int64.toInt_lt x
  exact w64_of (by omega) (by omega)
theorem o32_t (x : Int32) : Int32.ofInt x.toInt = x := by
  apply Int32.toInt_inj.mp
  exact t32_o (w32_toInt x)
theorem o64_t (x : Int64) : Int64.ofInt x.toInt = x := by
  apply Int64.toInt_inj.mp
  exact t64_o (w64_toInt x)
theorem o32_add (x y : Int) : Int32.ofInt x + Int32.ofInt y = Int32.ofInt (x + y) := (Int32.ofInt_add x y).symm
theorem o32_sub (x y : Int) : Int32.ofInt x - Int32.ofInt y = Int32.ofInt (x - y) := (Int32.ofInt_sub x y).symm
theorem o32_mul (x y : Int) : Int32.ofInt x * Int32.ofInt y = Int32.ofInt (x * y) := (Int32.ofInt_mul x y).symm
theorem o32_neg (x : Int) : - Int32.ofInt x = Int32.ofInt (- x) := (Int32.ofInt_neg x).symm
theorem o64_add (x y : Int) : Int64.ofInt x + Int64.ofInt y = Int64.ofInt (x + y) := (Int64.ofInt_add x y).symm
theorem o64_sub (x y : Int) : Int64.ofInt x - Int64.ofInt y = Int64.ofInt (x - y) := (Int64.ofInt_sub x y).symm
theorem o64_mul (x y : Int) : Int64.ofInt x * Int64.ofInt y = Int64.ofInt (x * y) := (Int64.ofInt_mul x y).symm
theorem o32_div {x y : Int} (hx : w32 x = x) (hy : w32 y = y) : Int32.ofInt x / Int32.ofInt y = Int32.ofInt (x.tdiv y) := by
  apply Int32.toInt_inj.mp
  rw [Int32.toInt_div, t32_o hx, t32_o hy, Int32.toInt_ofInt]
theorem o64_div {x y : Int} (hx : w64 x = x) (hy : w64 y = y) : Int64.ofInt x / Int64.ofInt y = Int64.ofInt (x.tdiv y) := by
  apply Int64.toInt_inj.mp
  rw [Int64.toInt_div, t64_o hx, t64_o hy, Int64.toInt_ofInt]
theorem o32_rem {x y : Int} (hx : w32 x = x) (hy : w32 y = y) : Int32.ofInt x - Int32.ofInt x / Int32.ofInt y * Int32.ofInt y = Int32.ofInt (x.tmod y) := by
  rw [o32_div hx hy, o32_mul, o32_sub]
  congr 1
  rw [Int.tmod_def, Int.mul_comm]
theorem o64_rem {x y : Int} (hx : w64 x = x) (hy : w64 y = y) : Int64.ofInt x - Int64.ofInt x / Int64.ofInt y * Int64.ofInt y = Int64.ofInt (x.tmod y) := by
  rw [o64_div hx hy, o64_mul, o64_sub]
  congr 1
  rw [Int.tmod_def, Int.mul_comm]
theorem o32_i2l {x : Int} (hx : w32 x = x) : (Int32.ofInt x).toInt64 = Int64.ofInt x := by
  apply Int64.toInt_inj.mp
  rw [Int32.toInt_toInt64, t32_o hx]
  have h := w32_rng x
  rw [hx] at h
  exact (t64_o (w64_of (by omega) (by omega))).symm
def zand (x y : Int) : Int := (Int32.ofInt x &&& Int32.ofInt y).toInt
def zor (x y : Int) : Int := (Int32.ofInt x ||| Int32.ofInt y).toInt
def zshl (x y : Int) : Int := (Int32.ofInt x <<< (Int32.ofInt y &&& 31)).toInt
def zshr (x y : Int) : Int := (Int32.ofInt x >>> (Int32.ofInt y &&& 31)).toInt
def zushr (x y : Int) : Int := (((Int32.ofInt x).toUInt32 >>> ((Int32.ofInt y).toUInt32 &&& Int32.toUInt32 31)).toInt32).toInt
def lcmpZ (x y : Int) : Int := if x < y then -1 else if x = y then 0 else 1
theorem o32_clamp {x : Int} (h0 : 0 ≤ x) (hx : w32 x = x) : (Int32.ofInt x).toNatClampNeg = x.toNat := by
  show (Int32.ofInt x).toInt.toNat = x.toNat
  rw [t32_o hx]
theorem o32_in {x : Int} {n : Nat} (h0 : 0 ≤ x) (h1 : x < n) (hx : w32 x = x) : vp_in (Int32.ofInt x) n := by
  unfold vp_in
  rw [o32_clamp h0 hx, show (0 : Int32) = Int32.ofInt 0 from rfl, o32_lt hx (by decide)]
  omega
