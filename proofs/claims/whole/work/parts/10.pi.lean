def zmax (x z : Int) : Int := if x < z then z else x
def zmin (x z : Int) : Int := if z < x then z else x
def zabs (x : Int) : Int := if 0 ≤ x then x else w32 (0 - x)
def ssz (sh : Nat × List Nat) : Nat := if 20 ≤ sh.1 then sh.2.headD 0 else cN sh.1
def sz (y : pY) : Nat := (y.map ssz).sum
abbrev pP : Type := Nat → List pV → List pV → pY → pG → Prop
abbrev pC : Type := pM → List pV → pY → pG → pY → (Option pV → pG → Prop) → Prop
def fget (ci : Nat) (refs : List Nat) (f : Nat → Int) (k : Nat) : pV := match fcode ci k with
  | 0 => vI (f k)
  | 1 => vI (f k)
  | 2 => rv (refs.getD k 0)
  | _ => rv (f k).toNat
def fput (P : pP) (M : pM) (pc : Nat) (loc rest : List pV) (y : pY) (g : pG) (v : pV) (a ci k : Nat) (nest : Bool) (refs : List Nat) : Prop :=
  (∃ x : Int, v = vI x ∧ ffin ci k = false ∧ (fcode ci k = 0 ∨ (fcode ci k = 1 ∧ (x = 0 ∨ x = 1))) ∧ P (pc + 3) loc rest y (cset g a (fup (g a) k x))) ∨
  (∃ b : Nat, v = vR b ∧ fcode ci k = 2 ∧ k < refs.length ∧ ffin ci k = true ∧ M.2.2.2.2.name = "<init>" ∧ cNm ci = oNm M.2.2.2.1 ∧ nest = false ∧ P (pc + 3) loc rest (y.set a (ci, refs.set k (b + 1))) g) ∨
  (∃ b : Nat, v = vR b ∧ fcode ci k = 3 ∧ ffin ci k = false ∧ P (pc + 3) loc rest y (cset g a (fup (g a) k ((b + 1 : Nat) : Int))))
def atc (t : ArrayType) : Nat := match t with
  | .int => 20
  | .boolean => 21
  | .long => 22
  | _ => 0
abbrev pX : Type := Nat × (Nat → Int)
def stepP (C : pC) (X : pX) (P : pP) (yF : pY) (Q : Option pV → pG → Prop) (M : pM) (ins : Instr) (n pc : Nat) (loc stk : List pV) (y : pY) (g : pG) : Prop := match ins with
  | .iload i => n = 2 ∧ (∃ x : Int, loc[i]? = some (vI x) ∧ P (pc + 2) loc (vI x :: stk) y g)
  | .iload_n i => n = 1 ∧ (∃ x : Int, loc[(i : Nat)]? = some (vI x) ∧ P (pc + 1) loc (vI x :: stk) y g)
  | .lload i => n = 2 ∧ (∃ x : Int, loc[i]? = some (vL x) ∧ P (pc + 2) loc (vL x :: stk) y g)
  | .lload_n i => n = 1 ∧ (∃ x : Int, loc[(i : Nat)]? = some (vL x) ∧ P (pc + 1) loc (vL x :: stk) y g)
  | .aload i => n = 2 ∧ (∃ v : pV, loc[i]? = some v ∧ isR v = true ∧ P (pc + 2) loc (v :: stk) y g)
  | .aload_n i => n = 1 ∧ (∃ v : pV, loc[(i : Nat)]? = some v ∧ isR v = true ∧ P (pc + 1) loc (v :: stk) y g)
  | .istore i => n = 2 ∧ (∃ (x : Int) (rest : List pV), stk = vI x :: rest ∧ i < M.2.1 ∧ (∀ j : Nat, i = j + 1 → isL (loc.getD j (vX 2)) = false) ∧ P (pc + 2) (loc.set i (vI x)) rest y g)
  | .istore_n i => n = 1 ∧ (∃ (x : Int) (rest : List pV), stk = vI x :: rest ∧ (i : Nat) < M.2.1 ∧ (∀ j : Nat, (i : Nat) = j + 1 → isL (loc.getD j (vX 2)) = false) ∧ P (pc + 1) (loc.set i (vI x)) rest y g)
  | .astore i => n = 2 ∧ (∃ (v : pV) (rest : List pV), stk = v :: rest ∧ isR v = true ∧ i < M.2.1 ∧ (∀ j : Nat, i = j + 1 → isL (loc.getD j (vX 2)) = false) ∧ P (pc + 2) (loc.set i v) rest y g)
  | .astore_n i => n = 1 ∧ (∃ (v : pV) (rest : List pV), stk = v :: rest ∧ isR v = true ∧ (i : Nat) < M.2.1 ∧ (∀ j : Nat, (i : Nat) = j + 1 → isL (loc.getD j (vX 2)) = false) ∧ P (pc + 1) (loc.set i v) rest y g)
  | .lstore i => n = 2 ∧ (∃ (x : Int) (rest : List pV), stk = vL x :: rest ∧ i + 1 < M.2.1 ∧ (∀ j : Nat, i = j + 1 → isL (loc.getD j (vX 2)) = false) ∧ P (pc + 2) ((loc.set i (vL x)).set (i + 1) (vX 2)) rest y g)
  | .lstore_n i => n = 1 ∧ (∃ (x : Int) (rest : List pV), stk = vL x :: rest ∧ (i : Nat) + 1 < M.2.1 ∧ (∀ j : Nat, (i : Nat) = j + 1 → isL (loc.getD j (vX 2)) = false) ∧ P (pc + 1) ((loc.set i (vL x)).set ((i : Nat) + 1) (vX 2)) rest y g)
  | .iconst u => n = 1 ∧ (w32 u = u ∧ P (pc + 1) loc (vI u :: stk) y g)
  | .bipush u => n = 2 ∧ ((Int8.ofInt u).toInt32 = Int32.ofInt u ∧ w32 u = u ∧ P (pc + 2) loc (vI u :: stk) y g)
  | .sipush u => n = 3 ∧ ((Int16.ofInt u).toInt32 = Int32.ofInt u ∧ w32 u = u ∧ P (pc + 3) loc (vI u :: stk) y g)
  | .lconst u => n = 1 ∧ (P (pc + 1) loc (vL (u : Nat) :: stk) y g)
  | .ldc i => n = 2 ∧ ((∃ x : Int, klk M.2.2.2.1 i = some x ∧ P (pc + 2) loc (vI x :: stk) y g) ∨ (∃ q : Nat, slk M.2.2.2.1 i = some q ∧ P (pc + 2) loc (vX q :: stk) y g))
  | .getstatic i => n = 3 ∧ (M.2.2.2.1 = 12 ∧ ((i = 38 ∧ P (pc + 3) loc (vI 1 :: stk) y g) ∨ (i = 1053 ∧ ∀ v : pV, (v = vX 0 ∨ v = vX 18) → P (pc + 3) loc (v :: stk) y g)))
  | .i2c => n = 1 ∧ (∃ (x : Int) (rest : List pV), stk = vI x :: rest ∧ 0 ≤ x ∧ x < 128 ∧ P (pc + 1) loc (vI x :: rest) y g)
  | .ldc_w i => n = 3 ∧ (∃ x : Int, klk M.2.2.2.1 i = some x ∧ P (pc + 3) loc (vI x :: stk) y g)
  | .ldc2_w i => n = 3 ∧ (∃ x : Int, kl2 M.2.2.2.1 i = some x ∧ P (pc + 3) loc (vL x :: stk) y g)
  | .iinc i u => n = 3 ∧ (∃ x : Int, loc[i]? = some (vI x) ∧ i < M.2.1 ∧ (∀ j : Nat, i = j + 1 → isL (loc.getD j (vX 2)) = false) ∧ P (pc + 3) (loc.set i (vI (w32 (x + u)))) stk y g)
  | .iadd => n = 1 ∧ (∃ (x z : Int) (rest : List pV), stk = vI z :: vI x :: rest ∧ P (pc + 1) loc (vI (w32 (x + z)) :: rest) y g)
  | .isub => n = 1 ∧ (∃ (x z : Int) (rest : List pV), stk = vI z :: vI x :: rest ∧ P (pc + 1) loc (vI (w32 (x - z)) :: rest) y g)
  | .imul => n = 1 ∧ (∃ (x z : Int) (rest : List pV), stk = vI z :: vI x :: rest ∧ P (pc + 1) loc (vI (w32 (x * z)) :: rest) y g)
  | .iand => n = 1 ∧ (∃ (x z : Int) (rest : List pV), stk = vI z :: vI x :: rest ∧ P (pc + 1) loc (vI (zand x z) :: rest) y g)
  | .ior => n = 1 ∧ (∃ (x z : Int) (rest : List pV), stk = vI z :: vI x :: rest ∧ P (pc + 1) loc (vI (zor x z) :: rest) y g)
  | .ishl => n = 1 ∧ (∃ (x z : Int) (rest : List pV), stk = vI z :: vI x :: rest ∧ P (pc + 1) loc (vI (zshl x z) :: rest) y g)
  | .ishr => n = 1 ∧ (∃ (x z : Int) (rest : List pV), stk = vI z :: vI x :: rest ∧ P (pc + 1) loc (vI (zshr x z) :: rest) y g)
  | .iushr => n = 1 ∧ (∃ (x z : Int) (rest : List pV), stk = vI z :: vI x :: rest ∧ P (pc + 1) loc (vI (zushr x z) :: rest) y g)
  | .idiv => n = 1 ∧ (∃ (x z : Int) (rest : List pV), stk = vI z :: vI x :: rest ∧ z ≠ 0 ∧ P (pc + 1) loc (vI (w32 (x.tdiv z)) :: rest) y g)
  | .irem => n = 1 ∧ (∃ (x z : Int) (rest : List pV), stk = vI z :: vI x :: rest ∧ z ≠ 0 ∧ P (pc + 1) loc (vI (w32 (x.tmod z)) :: rest) y g)
  | .ineg => n = 1 ∧ (∃ (x : Int) (rest : List pV), stk = vI x :: rest ∧ P (pc + 1) loc (vI (w32 (-x)) :: rest) y g)
  | .ladd => n = 1 ∧ (∃ (x z : Int) (rest : List pV), stk = vL z :: vL x :: rest ∧ P (pc + 1) loc (vL (w64 (x + z)) :: rest) y g)
  | .lsub => n = 1 ∧ (∃ (x z : Int) (rest : List pV), stk = vL z :: vL x :: rest ∧ P (pc + 1) loc (vL (w64 (x - z)) :: rest) y g)
  | .lmul => n = 1 ∧ (∃ (x z : Int) (rest : List pV), stk = vL z :: vL x :: rest ∧ P (pc + 1) loc (vL (w64 (x * z)) :: rest) y g)
  | .ldiv => n = 1 ∧ (∃ (x z : Int) (rest : List pV), stk = vL z :: vL x :: rest ∧ z ≠ 0 ∧ P (pc + 1) loc (vL (w64 (x.tdiv z)) :: rest) y g)
  | .lrem => n = 1 ∧ (∃ (x z : Int) (rest : List pV), stk = vL z :: vL x :: rest ∧ z ≠ 0 ∧ P (pc + 1) loc (vL (w64 (x.tmod z)) :: rest) y g)
  | .i2l => n = 1 ∧ (∃ (x : Int) (rest : List pV), stk = vI x :: rest ∧ P (pc + 1) loc (vL x :: rest) y g)
  | .lcmp => n = 1 ∧ (∃ (x z : Int) (rest : List pV), stk = vL z :: vL x :: rest ∧ P (pc + 1) loc (vI (lcmpZ x z) :: rest) y g)
  | .dup => n = 1 ∧ (∃ (v : pV) (rest : List pV), stk = v :: rest ∧ isL v = false ∧ P (pc + 1) loc (v :: v :: rest) y g)
  | .dup2 => n = 1 ∧ (∃ (v u : pV) (rest : List pV), stk = v :: u :: rest ∧ isL v = false ∧ isL u = false ∧ P (pc + 1) loc (v :: u :: v :: u :: rest) y g)
  | .pop => n = 1 ∧ (∃ (v : pV) (rest : List pV), stk = v :: rest ∧ isL v = false ∧ P (pc + 1) loc rest y g)
  | .ifCond .eq off => n = 3 ∧ (∃ (x : Int) (rest : List pV) (tgt : Nat), stk = vI x :: rest ∧ (pc : Int) + off = (tgt : Int) ∧ (x = 0 → P tgt loc rest y g) ∧ (¬ (x = 0) → P (pc + 3) loc rest y g))
  | .if_icmp .eq off => n = 3 ∧ (∃ (x z : Int) (rest : List pV) (tgt : Nat), stk = vI z :: vI x :: rest ∧ (pc : Int) + off = (tgt : Int) ∧ (x = z → P tgt loc rest y g) ∧ (¬ (x = z) → P (pc + 3) loc rest y g))
  | .ifCond .ne off => n = 3 ∧ (∃ (x : Int) (rest : List pV) (tgt : Nat), stk = vI x :: rest ∧ (pc : Int) + off = (tgt : Int) ∧ (x ≠ 0 → P tgt loc rest y g) ∧ (¬ (x ≠ 0) → P (pc + 3) loc rest y g))
  | .if_icmp .ne off => n = 3 ∧ (∃ (x z : Int) (rest : List pV) (tgt : Nat), stk = vI z :: vI x :: rest ∧ (pc : Int) + off = (tgt : Int) ∧ (x ≠ z → P tgt loc rest y g) ∧ (¬ (x ≠ z) → P (pc + 3) loc rest y g))
  | .ifCond .lt off => n = 3 ∧ (∃ (x : Int) (rest : List pV) (tgt : Nat), stk = vI x :: rest ∧ (pc : Int) + off = (tgt : Int) ∧ (x < 0 → P tgt loc rest y g) ∧ (¬ (x < 0) → P (pc + 3) loc rest y g))
  | .if_icmp .lt off => n = 3 ∧ (∃ (x z : Int) (rest : List pV) (tgt : Nat), stk = vI z :: vI x :: rest ∧ (pc : Int) + off = (tgt : Int) ∧ (x < z → P tgt loc rest y g) ∧ (¬ (x < z) → P (pc + 3) loc rest y g))
  | .ifCond .ge off => n = 3 ∧ (∃ (x : Int) (rest : List pV) (tgt : Nat), stk = vI x :: rest ∧ (pc : Int) + off = (tgt : Int) ∧ (0 ≤ x → P tgt loc rest y g) ∧ (¬ (0 ≤ x) → P (pc + 3) loc rest y g))
  | .if_icmp .ge off => n = 3 ∧ (∃ (x z : Int) (rest : List pV) (tgt : Nat), stk = vI z :: vI x :: rest ∧ (pc : Int) + off = (tgt : Int) ∧ (z ≤ x → P tgt loc rest y g) ∧ (¬ (z ≤ x) → P (pc + 3) loc rest y g))
  | .ifCond .gt off => n = 3 ∧ (∃ (x : Int) (rest : List pV) (tgt : Nat), stk = vI x :: rest ∧ (pc : Int) + off = (tgt : Int) ∧ (0 < x → P tgt loc rest y g) ∧ (¬ (0 < x) → P (pc + 3) loc rest y g))
  | .if_icmp .gt off => n = 3 ∧ (∃ (x z : Int) (rest : List pV) (tgt : Nat), stk = vI z :: vI x :: rest ∧ (pc : Int) + off = (tgt : Int) ∧ (z < x → P tgt loc rest y g) ∧ (¬ (z < x) → P (pc + 3) loc rest y g))
  | .ifCond .le off => n = 3 ∧ (∃ (x : Int) (rest : List pV) (tgt : Nat), stk = vI x :: rest ∧ (pc : Int) + off = (tgt : Int) ∧ (x ≤ 0 → P tgt loc rest y g) ∧ (¬ (x ≤ 0) → P (pc + 3) loc rest y g))
  | .if_icmp .le off => n = 3 ∧ (∃ (x z : Int) (rest : List pV) (tgt : Nat), stk = vI z :: vI x :: rest ∧ (pc : Int) + off = (tgt : Int) ∧ (x ≤ z → P tgt loc rest y g) ∧ (¬ (x ≤ z) → P (pc + 3) loc rest y g))
  | .goto off => n = 3 ∧ (∃ tgt : Nat, (pc : Int) + off = (tgt : Int) ∧ P tgt loc stk y g)
  | .tableswitch d lo hi offs => ∃ (x : Int) (rest : List pV), stk = vI x :: rest ∧ ((x < lo ∨ hi < x) → ∃ tgt : Nat, (pc : Int) + d = (tgt : Int) ∧ P tgt loc rest y g) ∧ (¬ x < lo → ¬ hi < x → ∃ (off : Int) (tgt : Nat), offs[(x - lo).toNat]? = some off ∧ (pc : Int) + off = (tgt : Int) ∧ P tgt loc rest y g)
  | .lookupswitch d ps => ∃ (x : Int) (rest : List pV) (off : Int) (tgt : Nat), stk = vI x :: rest ∧ (ps.toList.zip (ps.toList.drop 1)).all (fun (a, next) => a.1 < next.1) = true ∧ Op.lookupswitch.offset ps.toList d x = off ∧ (pc : Int) + off = (tgt : Int) ∧ P tgt loc rest y g
  | .getfield i => n = 3 ∧ ((∃ (a : Nat) (rest : List pV) (ci k : Nat) (nest : Bool) (refs : List Nat), stk = vR a :: rest ∧ flk M.2.2.2.1 i = some (ci, k, nest) ∧ y[a]? = some (ci, refs) ∧ P (pc + 3) loc (fget ci refs (g a) k :: rest) y g) ∨ (∃ (q : Nat) (rest : List pV), stk = vX q :: rest ∧ 3 ≤ q ∧ q < 10 ∧ M.2.2.2.1 = 12 ∧ ((i = 9 ∧ P (pc + 3) loc (vX (q + 7) :: rest) y g) ∨ (i = 15 ∧ P (pc + 3) loc (vI 0 :: rest) y g))))
  | .putfield i => n = 3 ∧ (∃ (v : pV) (a : Nat) (rest : List pV) (ci k : Nat) (nest : Bool) (refs : List Nat), stk = v :: vR a :: rest ∧ flk M.2.2.2.1 i = some (ci, k, nest) ∧ y[a]? = some (ci, refs) ∧ fput P M pc loc rest y g v a ci k nest refs)
  | .iaload => n = 1 ∧ (∃ (i : Int) (v : pV) (rest : List pV), stk = vI i :: v :: rest ∧ 0 ≤ i ∧ ((∃ (a N : Nat), v = vR a ∧ y[a]? = some (20, [N]) ∧ i < N ∧ P (pc + 1) loc (vI (g a i.toNat) :: rest) y g) ∨ (v = vX 1 ∧ M.2.2.2.1 = 9 ∧ i < X.1 ∧ P (pc + 1) loc (vI (X.2 i.toNat) :: rest) y g)))
  | .iastore => n = 1 ∧ (∃ (x i : Int) (a N : Nat) (rest : List pV), stk = vI x :: vI i :: vR a :: rest ∧ 0 ≤ i ∧ y[a]? = some (20, [N]) ∧ i < N ∧ P (pc + 1) loc rest y (cset g a (fup (g a) i.toNat x)))
  | .baload => n = 1 ∧ ((∃ (i : Int) (a N : Nat) (rest : List pV), stk = vI i :: vR a :: rest ∧ 0 ≤ i ∧ y[a]? = some (21, [N]) ∧ i < N ∧ P (pc + 1) loc (vI (g a i.toNat) :: rest) y g) ∨ (∃ (i : Int) (q : Nat) (rest : List pV), stk = vI i :: vX (q + 10) :: rest ∧ q < 7 ∧ 0 ≤ i ∧ i < (sLen q : Nat) ∧ P (pc + 1) loc (vI (sCh q i.toNat) :: rest) y g))
  | .bastore => n = 1 ∧ (∃ (x i : Int) (a N : Nat) (rest : List pV), stk = vI x :: vI i :: vR a :: rest ∧ 0 ≤ i ∧ y[a]? = some (21, [N]) ∧ i < N ∧ (x = 0 ∨ x = 1) ∧ P (pc + 1) loc rest y (cset g a (fup (g a) i.toNat x)))
  | .laload => n = 1 ∧ (∃ (i : Int) (a N : Nat) (rest : List pV), stk = vI i :: vR a :: rest ∧ 0 ≤ i ∧ y[a]? = some (22, [N]) ∧ i < N ∧ P (pc + 1) loc (vL (g a i.toNat) :: rest) y g)
  | .lastore => n = 1 ∧ (∃ (x i : Int) (a N : Nat) (rest : List pV), stk = vL x :: vI i :: vR a :: rest ∧ 0 ≤ i ∧ y[a]? = some (22, [N]) ∧ i < N ∧ P (pc + 1) loc rest y (cset g a (fup (g a) i.toNat x)))
  | .arraylength => n = 1 ∧ (∃ (v : pV) (rest : List pV), stk = v :: rest ∧ ((∃ (a N t : Nat), v = vR a ∧ y[a]? = some (t, [N]) ∧ 20 ≤ t ∧ t ≤ 22 ∧ w32 N = N ∧ P (pc + 1) loc (vI N :: rest) y g) ∨ (v = vX 1 ∧ M.2.2.2.1 = 9 ∧ w32 X.1 = X.1 ∧ P (pc + 1) loc (vI X.1 :: rest) y g) ∨ (∃ q : Nat, v = vX (q + 10) ∧ q < 7 ∧ P (pc + 1) loc (vI (sLen q : Nat) :: rest) y g)))
  | .newarray t => n = 2 ∧ (∃ (N : Nat) (rest : List pV) (tc : Nat), stk = vI N :: rest ∧ atc t = tc ∧ 20 ≤ tc ∧ N < 100000 ∧ y.length + 1 ≤ yF.length ∧ sz y + N ≤ sz yF ∧ P (pc + 2) loc (vR y.length :: rest) (y ++ [(tc, [N])]) (cset g y.length (fun _ => 0)))
  | .new i => n = 3 ∧ (∃ ci : Nat, nlk M.2.2.2.1 i = some ci ∧ y.length + 1 ≤ yF.length ∧ sz y + cN ci ≤ sz yF ∧ P (pc + 3) loc (vR y.length :: stk) (y ++ [(ci, List.replicate (cN ci) 0)]) (cset g y.length (fun _ => 0)))
  | .ireturn => n = 1 ∧ (∃ x : Int, stk = [vI x] ∧ y = yF ∧ (M.2.2.1 = some .int ∨ (M.2.2.1 = some .boolean ∧ (x = 0 ∨ x = 1)) ∨ ((M.2.2.1 = some .byte ∨ M.2.2.1 = some .char) ∧ 0 ≤ x ∧ x < 128)) ∧ Q (some (vI x)) g)
  | .lreturn => n = 1 ∧ (∃ x : Int, stk = [vL x] ∧ y = yF ∧ M.2.2.1 = some .long ∧ Q (some (vL x)) g)
  | .areturn => n = 1 ∧ (∃ k : Nat, stk = [vX k] ∧ 3 ≤ k ∧ y = yF ∧ M.2.2.1 = some (.object "java/lang/String") ∧ Q (some (vX k)) g)
  | .return_ => n = 1 ∧ (stk = [] ∧ y = yF ∧ M.2.2.1 = none ∧ Q none g)
  | .invokevirtual i => n = 3 ∧ ((∃ (As : List pV) (a : Nat) (rest : List pV) (MM : pM) (kind N ci : Nat) (refs : List Nat), stk = As.reverse ++ vR a :: rest ∧ mlk M.2.2.2.1 i = some (MM, kind, N) ∧ kind ≤ 1 ∧ As.length = N ∧ y[a]? = some (ci, refs) ∧ ci < 9 ∧ cNm ci = MM.2.2.2.2.cls ∧ wtS rest ≤ 8 ∧ ∃ (yy : pY) (QQ : Option pV → pG → Prop), C MM (vR a :: As) y g yy QQ ∧ y.length ≤ yy.length ∧ sz y ≤ sz yy ∧ yy.length ≤ yF.length ∧ sz yy ≤ sz yF ∧ ∀ (v : Option pV) (gg : pG), QQ v gg → P (pc + 3) loc (v.toList ++ rest) yy gg) ∨ (∃ (As : List pV) (q : Nat) (rest : List pV) (MM : pM) (N : Nat), stk = As.reverse ++ vX q :: rest ∧ mlk M.2.2.2.1 i = some (MM, 0, N) ∧ As.length = N ∧ 3 ≤ q ∧ q < 10 ∧ MM.2.2.2.2.cls = "java/lang/String" ∧ wtS rest ≤ 8 ∧ ∃ (yy : pY) (QQ : Option pV → pG → Prop), C MM (vX q :: As) y g yy QQ ∧ y.length ≤ yy.length ∧ sz y ≤ sz yy ∧ yy.length ≤ yF.length ∧ sz yy ≤ sz yF ∧ ∀ (v : Option pV) (gg : pG), QQ v gg → P (pc + 3) loc (v.toList ++ rest) yy gg))
  | .invokestatic i => n = 3 ∧ ((∃ (As rest : List pV) (MM : pM) (kind N : Nat), stk = As.reverse ++ rest ∧ mlk M.2.2.2.1 i = some (MM, kind, N) ∧ (kind = 2 ∨ kind = 3) ∧ As.length = N ∧ wtS rest ≤ 8 ∧ ∃ (yy : pY) (QQ : Option pV → pG → Prop), C MM As y g yy QQ ∧ y.length ≤ yy.length ∧ sz y ≤ sz yy ∧ yy.length ≤ yF.length ∧ sz yy ≤ sz yF ∧ ∀ (v : Option pV) (gg : pG), QQ v gg → P (pc + 3) loc (v.toList ++ rest) yy gg) ∨ (∃ (N dp sp : Int) (c0 c1 n0 n1 : Nat) (rest : List pV), stk = vI N :: vI dp :: vR c1 :: vI sp :: vR c0 :: rest ∧ alk M.2.2.2.1 i = true ∧ y[c0]? = some (20, [n0]) ∧ y[c1]? = some (20, [n1]) ∧ 0 ≤ N ∧ 0 ≤ dp ∧ 0 ≤ sp ∧ sp + N ≤ n0 ∧ dp + N ≤ n1 ∧ wtS rest ≤ 8 ∧ P (pc + 3) loc rest y (cset g c1 (fcp (g c0) (g c1) sp.toNat dp.toNat N.toNat))) ∨ (∃ (x z : Int) (rest : List pV), stk = vI z :: vI x :: rest ∧ y.length ≤ yF.length ∧ sz y ≤ sz yF ∧ wtS rest ≤ 8 ∧ ((xlk M.2.2.2.1 i = some 0 ∧ P (pc + 3) loc (vI (zmax x z) :: rest) y g) ∨ (xlk M.2.2.2.1 i = some 1 ∧ P (pc + 3) loc (vI (zmin x z) :: rest) y g))) ∨ (∃ (x : Int) (rest : List pV), stk = vI x :: rest ∧ y.length ≤ yF.length ∧ sz y ≤ sz yF ∧ wtS rest ≤ 8 ∧ xlk M.2.2.2.1 i = some 2 ∧ P (pc + 3) loc (vI (zabs x) :: rest) y g))
  | .invokespecial i => n = 3 ∧ ((∃ (As : List pV) (a : Nat) (rest : List pV) (MM : pM) (kind N : Nat), stk = As.reverse ++ vR a :: rest ∧ mlk M.2.2.2.1 i = some (MM, kind, N) ∧ (kind = 4 ∨ kind = 5) ∧ As.length = N ∧ MM.2.2.1 = none ∧ wtS rest ≤ 8 ∧ ∃ (yy : pY) (QQ : Option pV → pG → Prop), C MM (vR a :: As) y g yy QQ ∧ y.length ≤ yy.length ∧ sz y ≤ sz yy ∧ yy.length ≤ yF.length ∧ sz yy ≤ sz yF ∧ ∀ (v : Option pV) (gg : pG), QQ v gg → P (pc + 3) loc (v.toList ++ rest) yy gg) ∨ (∃ (a : Nat) (rest : List pV), stk = vR a :: rest ∧ olk M.2.2.2.1 i = true ∧ wtS rest ≤ 8 ∧ P (pc + 3) loc rest y g))
  | _ => False
/-- the run from here ends in layout yF with an answer and contents that Q allows: the least predicate closed under the steps -/
def Ev (C : pC) (X : pX) (M : pM) (yF : pY) (Q : Option pV → pG → Prop) (pc : Nat) (loc stk : List pV) (y : pY) (g : pG) : Prop :=
  ∀ P : pP, (∀ (pc : Nat) (loc stk : List pV) (y : pY) (g : pG) (ins : Instr) (n : Nat), decode M.1 pc = .ok (ins, n) → stepP C X P yF Q M ins n pc loc stk y g → P pc loc stk y g) → P pc loc stk y g
def X0 : pX := (0, fun _ => 0)
def Ex : Nat → pC
  | 0 => fun _ _ _ _ _ _ => False
  | d + 1 => fun M args y g yF Q => (pent args).length ≤ M.2.1 ∧ Ev (Ex d) X0 M yF Q 0 (entL M.2.1 args) [] y g
