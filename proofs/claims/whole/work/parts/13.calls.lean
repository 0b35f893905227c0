section ARMS2
variable {p : Program} {l : Launch} {e : Env} {R : Room} {s : State} {m : MethodId} {args : Array Value} {below : List Frame} {meth : Method} {c : Code} {Qf : State → Prop} {C : pC} {X : pX} {M : pM} {D : va_G} {tA : Nat → ClassId} {A : Nat → Prop} {b : Nat → Nat} {d c0 s0 : Nat} {ad0 : Nat → Nat} {yF : pY} {Q : Option pV → pG → Prop} {n pc : Nat} {loc stk : List pV} {y : pY} {g : pG}
theorem w0z : w32 0 = 0 := by decide
theorem w0z64 : w64 0 = 0 := by decide
def RM (d mc ms : Nat) : Room := { frames := 2 * d, cells := mc, slots := ms, locals := 64 * d }
def wsM (M : pM) : List Cond := Cond.code M.2.2.2.2 M.1 M.2.1 M.2.2.1 :: BIG
def PcW (D : va_G) (tA : Nat → ClassId) (ad b : Nat → Nat) (y : pY) (g : pG) (z : Nat) (as : List pV) : Array Value → State → Prop :=
  va_Pc (as.map (cv ad b)) (fun U => U.heap.size = z ∧ va_P D vwCl (WS ad tA y g) U.heap ∧ va_K D vwCl (tyL tA) U ∧ va_D (fun _ => True) (WS ad tA y g) ∧ NST U ∧ STRf b (va_A (WS ad tA y g) z) U U.heap)
def QcW (D : va_G) (tA : Nat → ClassId) (ad b : Nat → Nat) (y : pY) (g : pG) (z : Nat) (yy : pY) (Q : Option pV → pG → Prop) : Array Value → State → Outcome → State → Prop := fun _ st oc t =>
  (∃ (v : Option pV) (g' : pG) (ad' : Nat → Nat), oc = .returned (v.map (cv ad' b)) ∧ Q v g' ∧ (∀ c, c < y.length → ad' c = ad c) ∧ okH yy g' ∧ (∀ u, v = some u → okV yy.length u) ∧ va_P D vwCl (WS ad' tA yy g') t.heap ∧ va_D (va_A (WS ad tA y g) z) (WS ad' tA yy g')) ∧ va_F (va_A (WS ad tA y g) z) st t
def SoundC (C : pC) (d : Nat) : Prop := ∀ (M : pM) (as : List pV) (y : pY) (g : pG) (yy : pY) (Q : Option pV → pG → Prop), C M as y g yy Q → MOK M → M.2.2.2.1 ≠ 11 → okH y g → (∀ v ∈ as, okV y.length v) →
  ∀ (l : Launch) (D : va_G) (tA : Nat → ClassId) (ad b : Nat → Nat) (z : Nat), Met l M.2.2.2.2 (wsM M) (RM d (yy.length - y.length) (sz yy - sz y)) (PcW D tA ad b y g z as) (QcW D tA ad b y g z yy Q) (yy.length - y.length) (sz yy - sz y) (va_A (WS ad tA y g) z)
theorem blindW {D : va_G} {tA : Nat → ClassId} {ad b : Nat → Nat} {y : pY} {g : pG} {z : Nat} {as : List pV} : FrameBlind (PcW D tA ad b y g z as) := fun a U fr mk q => by
  obtain ⟨q0, q1, qP, qK, qD, qN, qS⟩ := q
  exact ⟨q0, q1, qP, va_K.moved (u := U) (U := U.calling fr mk a) (Vm.Alike.refl U.vm) qK, qD, NST.same (s := U) rfl qN, STRf.same (s := U) qS rfl⟩
set_option maxRecDepth 100000 in
theorem new_fin {sh : Nat × List Nat} {f : Nat → Int} {q pc' : Nat} {H1 : Heap} {locs : List Loc} {ls : Array Slot} {ad : Nat → Nat} {rest : List pV} {en : va_E}
    (h1 : lv_has ls M.2.1 (plst ad b 0 loc)) (h2 : loc.length = M.2.1) (h6 : ∀ v ∈ loc, okV y.length v) (h7 : ∀ v ∈ rest, okV y.length v) (h8 : okH y g) (h9 : c0 ≤ y.length ∧ s0 ≤ sz y ∧ ∀ c, c < c0 → ad c = ad0 c)
    (hP : va_P D vwCl (WS ad tA y g ++ [(q, en)]) H1) (hD : va_D A (WS ad tA y g ++ [(q, en)])) (hS : va_S A s.heap H1 locs) (hen : ∀ ad' : Nat → Nat, cE ad' tA f sh = en) (hok : okC (y.length + 1) sh f)
    (hk : SP p l e R s m args below meth c Qf M D tA A b c0 s0 ad0 pc' loc (vR y.length :: rest) (y ++ [sh]) (cset g y.length f)) :
    W p l e R s m args below meth c H1 locs (y.length - c0 + 1) (sz y - s0 + ssz sh) Qf (F0 m pc' ls (.ref q :: rest.map (cv ad b))) := by
  have had : ∀ c, c < y.length → (fun c => if c = y.length then q else ad c) c = ad c := fun c hc => by
    show (if c = y.length then q else ad c) = ad c
    rw [if_neg (by omega)]
  have hq : (fun c => if c = y.length then q else ad c) y.length = q := by
    show (if y.length = y.length then q else ad y.length) = q
    rw [if_pos rfl]
  generalize (fun c => if c = y.length then q else ad c) = ad' at had hq
  have hws := WS_push (tA := tA) (g := g) h8 had sh f
  rw [hq, hen] at hws
  rw [hws] at hP hD
  have key := hk H1 locs ls ad' ⟨by rw [plst_ad had loc 0 h6]; exact h1, h2, hP, hD, hS, fun v hv => (h6 v hv).mono (by simp), ok_cons (by show y.length < (y ++ [sh]).length; simp) (fun v hv => (h7 v hv).mono (by simp)), h8.push hok, by
    rw [List.length_append, List.length_singleton, sz_push]
    exact ⟨by omega, by omega, fun c hc => (had c (by omega)).trans (h9.2.2 c hc)⟩⟩
  rw [List.length_append, List.length_singleton, sz_push, show y.length + 1 - c0 = y.length - c0 + 1 by omega, show sz y + ssz sh - s0 = sz y - s0 + ssz sh by omega] at key
  have es : (vR y.length :: rest).map (cv ad' b) = .ref q :: rest.map (cv ad b) := by
    rw [List.map_cons, map_ad had h7]
    show Value.ref (ad' y.length) :: _ = _
    rw [hq]
  rw [es] at key
  exact key
set_option maxRecDepth 100000 in
theorem ar_newarray {t : ArrayType} (CX : Cx p l e R s m args meth c X M D tA A b d c0 s0 yF) (hd : decode M.1 pc = .ok (.newarray t, n)) (h : stepP C X (SP p l e R s m args below meth c Qf M D tA A b c0 s0 ad0) yF Q M (.newarray t) n pc loc stk y g) : (SP p l e R s m args below meth c Qf M D tA A b c0 s0 ad0) pc loc stk y g := by
  obtain ⟨hx, hb, hml, hown, hB, hN, hK, hA, hin, hRf, hRl, hRc, hRs, hScr⟩ := CX
  obtain ⟨rfl, N, rest, tc, rfl, rfl, ht, hN, hc1, hs1, hk⟩ := h
  intro H locs ls ad hs
  obtain ⟨h1, h2, h3, h4, h5, h6, h7, h8, h9⟩ := hs
  have hNi : (N : Int) ≤ 100000 := Int.le_of_lt (Int.ofNat_lt.mpr hN)
  have hN4 : N * 4 ≤ 536870912 := Nat.le_trans (Nat.mul_le_mul_right 4 (Nat.le_of_lt hN)) (Nat.le_of_ble_eq_true rfl)
  have hN1 : N * 1 ≤ 536870912 := Nat.le_trans (Nat.mul_le_mul_right 1 (Nat.le_of_lt hN)) (Nat.le_of_ble_eq_true rfl)
  have hN8 : N * 8 ≤ 536870912 := Nat.le_trans (Nat.mul_le_mul_right 8 (Nat.le_of_lt hN)) (Nat.le_of_ble_eq_true rfl)
  clear hN
  have hcel : y.length - c0 + 1 ≤ R.cells := by clear hN4 hN1 hN8; omega
  have hslo : sz y - s0 + N ≤ R.slots := by clear hN4 hN1 hN8; omega
  have hNw : w32 (N : Int) = N := w32_of (by clear hN4 hN1 hN8; omega) (by clear hN4 hN1 hN8; omega)
  have hneg : ¬ Int32.ofInt (N : Int) < 0 := by
    rw [show (0 : Int32) = Int32.ofInt 0 from rfl, o32_lt hNw (by decide)]
    exact Int.not_lt.mpr (Int.natCast_nonneg N)
  have hcl : (Int32.ofInt (N : Int)).toNatClampNeg = N := by
    rw [o32_clamp (Int.natCast_nonneg N) hNw]
    exact Int.toNat_natCast N
  show W p l e R s m args below meth c H locs (y.length - c0) (sz y - s0) Qf (F0 m pc ls (.int (Int32.ofInt (N : Int)) :: rest.map (cv ad b)))
  cases t with
  | int =>
    refine va_newa (D := D) (cl := vwCl) (ty := .int) (a0 := (N, .inl (fun _ => 0))) hx hb (hB _ (big_in (w := Cond.arrayClass (newarray.typeOf .int)) AR_ok.1 rfl)) rfl hK h3 h4 h5 hA (fun cA => rfl) hneg hcl hN4 hcel hslo hd (fun q cA H1 hK1 hP hD hS => ?_)
    have e : cA = tA 0 := Option.some.inj ((hK1.2 3 (cA, .int) rfl).2.symm.trans (hK1.2 0 (tA 0, .int) rfl).2)
    subst e
    exact new_fin (sh := (20, [N])) (f := fun _ => 0) h1 h2 h6 (ok_tail h7) h8 h9 hP hD hS (fun _ => rfl) (Or.inl ⟨Or.inl rfl, fun _ => w0z⟩) hk
  | boolean =>
    refine va_newa (D := D) (cl := vwCl) (ty := .boolean) (a0 := (N, .inl (fun _ => 0))) hx hb (hB _ (big_in (w := Cond.arrayClass (newarray.typeOf .boolean)) AR_ok.2.1 rfl)) rfl hK h3 h4 h5 hA (fun cA => rfl) hneg hcl hN1 hcel hslo hd (fun q cA H1 hK1 hP hD hS => ?_)
    have e : cA = tA 1 := Option.some.inj ((hK1.2 3 (cA, .boolean) rfl).2.symm.trans (hK1.2 1 (tA 1, .boolean) rfl).2)
    subst e
    exact new_fin (sh := (21, [N])) (f := fun _ => 0) h1 h2 h6 (ok_tail h7) h8 h9 hP hD hS (fun _ => rfl) (Or.inl ⟨Or.inr rfl, fun _ => w0z⟩) hk
  | long =>
    refine va_newa (D := D) (cl := vwCl) (ty := .long) (a0 := (N, .inr (.inl (fun _ => 0)))) hx hb (hB _ (big_in (w := Cond.arrayClass (newarray.typeOf .long)) AR_ok.2.2 rfl)) rfl hK h3 h4 h5 hA (fun cA => rfl) hneg hcl hN8 hcel hslo hd (fun q cA H1 hK1 hP hD hS => ?_)
    have e : cA = tA 2 := Option.some.inj ((hK1.2 3 (cA, .long) rfl).2.symm.trans (hK1.2 2 (tA 2, .long) rfl).2)
    subst e
    exact new_fin (sh := (22, [N])) (f := fun _ => 0) h1 h2 h6 (ok_tail h7) h8 h9 hP hD hS (fun _ => rfl) (Or.inr (Or.inl ⟨rfl, fun _ => w0z64⟩)) hk
  | _ => exact absurd ht (by decide)
theorem fget_new {ad b : Nat → Nat} (ci k : Nat) (N : Nat) : (fget ci (List.replicate N 0) (fun _ => 0) k = vI 0 ∧ fcode ci k ≤ 1) ∨ (fget ci (List.replicate N 0) (fun _ => 0) k = vX 0 ∧ 2 ≤ fcode ci k) := by
  unfold fget
  rcases fcode_le ci k with h | h | h | h
  · rw [h]; exact Or.inl ⟨rfl, by omega⟩
  · rw [h]; exact Or.inl ⟨rfl, by omega⟩
  · rw [h]
    refine Or.inr ⟨?_, by omega⟩
    have : (List.replicate N 0).getD k 0 = 0 := by
      rw [List.getD_eq_getElem?_getD, List.getElem?_replicate]
      split <;> rfl
    show rv ((List.replicate N 0).getD k 0) = vX 0
    rw [this]; rfl
  · rw [h]; exact Or.inr ⟨rfl, by omega⟩
set_option maxRecDepth 100000 in
theorem ar_new {i : Nat} (CX : Cx p l e R s m args meth c X M D tA A b d c0 s0 yF) (hd : decode M.1 pc = .ok (.new i, n)) (h : stepP C X (SP p l e R s m args below meth c Qf M D tA A b c0 s0 ad0) yF Q M (.new i) n pc loc stk y g) : (SP p l e R s m args below meth c Qf M D tA A b c0 s0 ad0) pc loc stk y g := by
  obtain ⟨hx, hb, hml, hown, hB, hN, hK, hA, hin, hRf, hRl, hRc, hRs, hScr⟩ := CX
  obtain ⟨rfl, ci, hc, hc1, hs1, hk⟩ := h
  obtain ⟨hw1, hw2, hw3, hci⟩ := nlk_in hc
  intro H locs ls ad hs
  obtain ⟨h1, h2, h3, h4, h5, h6, h7, h8, h9⟩ := hs
  have hfs : ∀ j, j < cN ci → defaultValue (cTy ci j) = vp_V ((List.range (cN ci)).map (fun k => cv (fun _ => 0) (fun _ => 0) (fget ci (List.replicate (cN ci) 0) (fun _ => 0) k))) j := by
    intro j hj
    have e := fs_at (ad := fun _ => 0) (b := fun _ => 0) (F := fun k => fget ci (List.replicate (cN ci) 0) (fun _ => 0) k) hj
    unfold vp_V
    rw [List.getD_eq_getElem?_getD, e]
    rcases fget_new (ad := fun _ => 0) (b := fun _ => 0) ci j (cN ci) with ⟨h, hcd⟩ | ⟨h, hcd⟩
    · rw [h]
      rcases (show fcode ci j = 0 ∨ fcode ci j = 1 by omega) with h0 | h0
      · rw [fcode_0 h0]; rfl
      · rw [fcode_1 h0]; rfl
    · rw [h, dflt_ref (refTy ci hci j hj hcd)]; rfl
  refine va_new (D := D) (cl := vwCl) (own := oNm M.2.2.2.1) (C := cNm ci) (T := cT ci) (N := cN ci) (ci := ci) (Ts := BIG) hx hb hB (lay_in hci) (cTy ci) (cTy_ok hci) hown (hB _ hw1) (hB _ hw3) (hB _ hw2) hK h3 h4 h5 hA (cls_at hci) hfs (by omega) (by omega) hd (fun q H1 hP hD hS => ?_)
  have hss : ssz (ci, List.replicate (cN ci) 0) = cN ci := by
    unfold ssz
    rw [if_neg (by show ¬ 20 ≤ ci; omega)]
  have key := new_fin (sh := (ci, List.replicate (cN ci) 0)) (f := fun _ => 0) h1 h2 h6 h7 h8 h9 hP hD hS (fun ad' => by
    rw [cE_obj hci]
    congr 2
    apply List.map_congr_left
    intro k hk
    rcases fget_new (ad := fun _ => 0) (b := fun _ => 0) ci k (cN ci) with ⟨h, -⟩ | ⟨h, -⟩ <;> rw [h] <;> rfl) (Or.inr (Or.inr ⟨hci, List.length_replicate, fun k hk => by
    show okV _ (fget ci (List.replicate (cN ci) 0) (fun _ => 0) k)
    rcases fget_new (ad := fun _ => 0) (b := fun _ => 0) ci k (cN ci) with ⟨h, -⟩ | ⟨h, -⟩ <;> rw [h]
    · exact (by decide : w32 0 = 0)
    · trivial⟩)) hk
  rw [hss] at key
  exact key
def RetI (M : pM) (ins : Instr) (v : Option pV) : Prop :=
  (ins = .ireturn ∧ ∃ x : Int, v = some (vI x) ∧ (M.2.2.1 = some .int ∨ (M.2.2.1 = some .boolean ∧ (x = 0 ∨ x = 1)) ∨ ((M.2.2.1 = some .byte ∨ M.2.2.1 = some .char) ∧ 0 ≤ x ∧ x < 128))) ∨ (ins = .lreturn ∧ ∃ x : Int, v = some (vL x) ∧ M.2.2.1 = some .long) ∨ (ins = .areturn ∧ ∃ k : Nat, v = some (vX k) ∧ 3 ≤ k ∧ M.2.2.1 = some (.object "java/lang/String")) ∨ (ins = .return_ ∧ v = none ∧ M.2.2.1 = none)
def HRet (p : Program) (l : Launch) (e : Env) (R : Room) (s : State) (m : MethodId) (args : Array Value) (below : List Frame) (meth : Method) (c : Code) (Qf : State → Prop) (M : pM) (D : va_G) (tA : Nat → ClassId) (A : Nat → Prop) (b : Nat → Nat) (c0 s0 : Nat) (ad0 : Nat → Nat) (yF : pY) (Q : Option pV → pG → Prop) : Prop :=
  ∀ (H : Heap) (locs : List Loc) (ls : Array Slot) (ad : Nat → Nat) (pc : Nat) (ins : Instr) (v : Option pV) (g : pG), decode M.1 pc = .ok (ins, 1) → RetI M ins v → Q v g → va_P D vwCl (WS ad tA yF g) H → va_D A (WS ad tA yF g) → va_S A s.heap H locs → okH yF g → (∀ u, v = some u → okV yF.length u) → (∀ c, c < c0 → ad c = ad0 c) → W p l e R s m args below meth c H locs (yF.length - c0) (sz yF - s0) Qf (F0 m pc ls (v.toList.map (cv ad b)))
set_option maxRecDepth 100000 in
theorem ar_ireturn (hret : HRet p l e R s m args below meth c Qf M D tA A b c0 s0 ad0 yF Q) (hd : decode M.1 pc = .ok (.ireturn, n)) (h : stepP C X (SP p l e R s m args below meth c Qf M D tA A b c0 s0 ad0) yF Q M .ireturn n pc loc stk y g) : (SP p l e R s m args below meth c Qf M D tA A b c0 s0 ad0) pc loc stk y g := by
  obtain ⟨rfl, x, rfl, rfl, hr, hq⟩ := h
  intro H locs ls ad hs
  obtain ⟨h1, h2, h3, h4, h5, h6, h7, h8, h9⟩ := hs
  exact hret H locs ls ad pc .ireturn (some (vI x)) g hd (Or.inl ⟨rfl, x, rfl, hr⟩) hq h3 h4 h5 h8 (fun u hu => by cases hu; exact ok_head h7) h9.2.2
set_option maxRecDepth 100000 in
theorem ar_lreturn (hret : HRet p l e R s m args below meth c Qf M D tA A b c0 s0 ad0 yF Q) (hd : decode M.1 pc = .ok (.lreturn, n)) (h : stepP C X (SP p l e R s m args below meth c Qf M D tA A b c0 s0 ad0) yF Q M .lreturn n pc loc stk y g) : (SP p l e R s m args below meth c Qf M D tA A b c0 s0 ad0) pc loc stk y g := by
  obtain ⟨rfl, x, rfl, rfl, hr, hq⟩ := h
  intro H locs ls ad hs
  obtain ⟨h1, h2, h3, h4, h5, h6, h7, h8, h9⟩ := hs
  exact hret H locs ls ad pc .lreturn (some (vL x)) g hd (Or.inr (Or.inl ⟨rfl, x, rfl, hr⟩)) hq h3 h4 h5 h8 (fun u hu => by cases hu; exact ok_head h7) h9.2.2
set_option maxRecDepth 100000 in
theorem ar_areturn (hret : HRet p l e R s m args below meth c Qf M D tA A b c0 s0 ad0 yF Q) (hd : decode M.1 pc = .ok (.areturn, n)) (h : stepP C X (SP p l e R s m args below meth c Qf M D tA A b c0 s0 ad0) yF Q M .areturn n pc loc stk y g) : (SP p l e R s m args below meth c Qf M D tA A b c0 s0 ad0) pc loc stk y g := by
  obtain ⟨rfl, k, rfl, hk, rfl, hr, hq⟩ := h
  intro H locs ls ad hs
  obtain ⟨h1, h2, h3, h4, h5, h6, h7, h8, h9⟩ := hs
  exact hret H locs ls ad pc .areturn (some (vX k)) g hd (Or.inr (Or.inr (Or.inl ⟨rfl, k, rfl, hk, hr⟩))) hq h3 h4 h5 h8 (fun u hu => by cases hu; exact ok_head h7) h9.2.2
set_option maxRecDepth 100000 in
theorem ar_return (hret : HRet p l e R s m args below meth c Qf M D tA A b c0 s0 ad0 yF Q) (hd : decode M.1 pc = .ok (.return_, n)) (h : stepP C X (SP p l e R s m args below meth c Qf M D tA A b c0 s0 ad0) yF Q M .return_ n pc loc stk y g) : (SP p l e R s m args below meth c Qf M D tA A b c0 s0 ad0) pc loc stk y g := by
  obtain ⟨rfl, rfl, rfl, hr, hq⟩ := h
  intro H locs ls ad hs
  obtain ⟨h1, h2, h3, h4, h5, h6, h7, h8, h9⟩ := hs
  exact hret H locs ls ad pc .return_ none g hd (Or.inr (Or.inr (Or.inr ⟨rfl, rfl, hr⟩))) hq h3 h4 h5 h8 (fun u hu => by cases hu) h9.2.2
theorem oNm_ne : ∀ o, o < 17 → oNm o ≠ "java/lang/invoke/MethodHandle" ∧ oNm o ≠ "java/lang/invoke/VarHandle"  := by decide +kernel
theorem plain_o : ∀ o, o < 17 → o ≠ 11 → plainName (oNm o) = true := by decide +kernel
theorem mlt_ne (o : Nat) : ∀ q ∈ MLt o, q.2.1.2.2.2.1 ≠ 11 := by
  unfold MLt
  split <;> first | decide +kernel | exact fun q h => absurd h List.not_mem_nil
theorem mlk_ne {o i kind n : Nat} {M : pM} (h : mlk o i = some (M, kind, n)) : M.2.2.2.1 ≠ 11 := by
  obtain ⟨q, h1, h2, h3⟩ := fm_some h
  obtain ⟨q1, q2, q3, q4⟩ := q
  cases h3
  exact mlt_ne o _ h1
theorem zabs_w {x : Int} (h : w32 x = x) : w32 (zabs x) = zabs x := by
  unfold zabs
  split
  · exact h
  · exact w32_idem _
theorem xlk_in {o i k : Nat} (h : xlk o i = some k) : (Cond.methodLink (oNm o) i (xNm k)) ∈ BIG := by
  obtain ⟨q, h1, h2, rfl⟩ := fm_some h
  obtain ⟨rfl, rfl⟩ := beq2 h2
  exact big_in (XL_ok q h1) rfl
theorem goodMM {M : pM} (h : MOK M) : GoodIn BIG (wsM M) := fun w hw => (List.mem_cons.mp hw).elim (fun e => e ▸ goodBB _ (big_in h.1 rfl)) (goodBB w)
set_option maxRecDepth 100000 in
theorem call_fin {as : Array Value} {yy : pY} {QQ : Option pV → pG → Prop} {rest : List pV} {st0 : List Value} {H : Heap} {locs : List Loc} {ls : Array Slot} {ad : Nat → Nat}
    (hA : ∀ q, s.heap.size ≤ q → A q) (h1 : lv_has ls M.2.1 (plst ad b 0 loc)) (h2 : loc.length = M.2.1) (h4 : va_D A (WS ad tA y g)) (h5 : va_S A s.heap H locs) (h6 : ∀ v ∈ loc, okV y.length v) (h7 : ∀ v ∈ rest, okV y.length v) (h9 : c0 ≤ y.length ∧ s0 ≤ sz y ∧ ∀ c, c < c0 → ad c = ad0 c)
    (hy1 : y.length ≤ yy.length) (hy2 : sz y ≤ sz yy) (hk : ∀ (v : Option pV) (gg : pG), QQ v gg → (SP p l e R s m args below meth c Qf M D tA A b c0 s0 ad0) (pc + 3) loc (v.toList ++ rest) yy gg)
    (hr : va_Run p l e R s m args below meth c H locs (y.length - c0) (sz y - s0) (yy.length - y.length) (sz yy - sz y) (F0 m pc ls st0) (rest.map (cv ad b)) (QcW D tA ad b y g H.size yy QQ as) (va_A (WS ad tA y g) H.size)) :
    W p l e R s m args below meth c H locs (y.length - c0) (sz y - s0) Qf (F0 m pc ls st0) := by
  have hfree : ∀ q, va_A (WS ad tA y g) H.size q → A q := by
    rintro q (⟨k, en, hq⟩ | hq)
    · exact h4.2 k _ hq
    · exact hA q (Nat.le_trans h5.1 hq)
  intro T hT X0
  obtain ⟨v0, st₀, t, T', L, h0, X', hL, e1, e2, ⟨⟨v, gg, ad', hv, hq, had, hok, hvok, hP, hD⟩, hz, hkp⟩, st⟩ := hr T hT X0
  cases hv
  rw [h0] at hz hkp
  have hS1 : va_S A s.heap T'.heap (locs ++ L) := ⟨Nat.le_trans h5.1 (by rw [e1]; exact hz), fun q g1 g2 => by rw [e1, hkp q (Nat.lt_of_lt_of_le g1 h5.1) (fun z => g2 (hfree q z))]; exact h5.2.1 q g1 g2, fun q hq => by
      rcases List.mem_append.mp hq with h | h
      · exact h5.2.2 q h
      · exact hfree _ (hL q h)⟩
  have key := hk v gg hq T'.heap (locs ++ L) ls ad' ⟨by rw [plst_ad had loc 0 h6]; exact h1, h2, by rw [e1]; exact hP, hD.weaken (fun k q _ h => hfree _ h), hS1, fun u hu => (h6 u hu).mono hy1, by
      intro u hu
      rcases List.mem_append.mp hu with h | h
      · cases v with
        | none => cases h
        | some w => rw [Option.toList_some, List.mem_singleton] at h; subst h; exact hvok u rfl
      · exact (h7 u h).mono hy1, hok, ⟨by omega, by omega, fun c hc => (had c (by omega)).trans (h9.2.2 c hc)⟩⟩
  have es : (v.toList ++ rest).map (cv ad' b) = (v.map (cv ad' b)).toList ++ rest.map (cv ad b) := by
    rw [List.map_append, map_ad had h7]
    cases v <;> rfl
  rw [es, show yy.length - c0 = y.length - c0 + (yy.length - y.length) by omega, show sz yy - s0 = sz y - s0 + (sz yy - sz y) by omega] at key
  obtain ⟨t2, a1, b1⟩ := key T' rfl X'
  exact ⟨t2, st t2 a1, b1⟩
theorem free_sub {H : Heap} {locs : List Loc} {ad : Nat → Nat} (hA : ∀ q, s.heap.size ≤ q → A q) (h4 : va_D A (WS ad tA y g)) (h5 : va_S A s.heap H locs) : ∀ q, va_A (WS ad tA y g) H.size q → A q := by
  rintro q (⟨k, en, hq⟩ | hq)
  · exact h4.2 k _ hq
  · exact hA q (Nat.le_trans h5.1 hq)
theorem pre_ok {H : Heap} {locs : List Loc} {ad : Nat → Nat} {as : List pV} (hK : va_K D vwCl (tyL tA) s) (hN : NST s ∧ STRf b A s s.heap) (hA : ∀ q, s.heap.size ≤ q → A q) (h5 : va_S A s.heap H locs) (h3 : va_P D vwCl (WS ad tA y g) H) (h4 : va_D A (WS ad tA y g)) : ∀ U : State, U.heap = H → s.WarmedH U.vm → PcW D tA ad b y g H.size as (as.map (cv ad b)).toArray U :=
  fun U hU hW => ⟨rfl, by rw [hU], by rw [hU]; exact h3, va_K.moved hW.alike hK, h4.weaken (fun _ _ _ _ => trivial), NST.warm hW hN.1, hN.2.call h5 (free_sub hA h4 h5) hU hW⟩
set_option maxRecDepth 100000 in
theorem ar_invokevirtual {i : Nat} (hC : SoundC C d) (CX : Cx p l e R s m args meth c X M D tA A b d c0 s0 yF) (hd : decode M.1 pc = .ok (.invokevirtual i, n)) (h : stepP C X (SP p l e R s m args below meth c Qf M D tA A b c0 s0 ad0) yF Q M (.invokevirtual i) n pc loc stk y g) : (SP p l e R s m args below meth c Qf M D tA A b c0 s0 ad0) pc loc stk y g := by
  obtain ⟨hx, hb, hml, hown, hB, hN, hK, hA, hin, hRf, hRl, hRc, hRs, hScr⟩ := CX
  obtain ⟨rfl, h⟩ := h
  rcases h with ⟨As, a, rest, MM, kind, N, ci, refs, rfl, hml2, hkd, hAs, hy, hci, hcn, hwt, yy, QQ, hCall, hy1, hy2, hy3, hy4, hk⟩ | ⟨As, q, rest, MM, N, rfl, hml2, hAs, hq3, hq10, hcn, hwt, yy, QQ, hCall, hy1, hy2, hy3, hy4, hk⟩
  · obtain ⟨w1, mok, w3, w4, w5, w6⟩ := mlk_in hml2
    have mok : MOK MM := mok
    obtain ⟨n1, n2⟩ := oNm_ne _ mok.2.2.1
    rw [← mok.2.1] at n1 n2
    intro H locs ls ad hs
    obtain ⟨h1, h2, h3, h4, h5, h6, h7, h8, h9⟩ := hs
    have hargs : ∀ v ∈ (vR a :: As), okV y.length v := by
      intro v hv
      rcases List.mem_cons.mp hv with h | h
      · exact h7 v (List.mem_append_right _ (h ▸ List.mem_cons_self))
      · exact h7 v (List.mem_append_left _ (List.mem_reverse.mpr h))
    have hrest : ∀ v ∈ rest, okV y.length v := fun v hv => h7 v (List.mem_append_right _ (List.mem_cons_of_mem _ hv))
    have hM := hC MM (vR a :: As) y g yy QQ hCall mok (mlk_ne hml2) h8 hargs l D tA ad b H.size
    have he := WS_get (ad := ad) (tA := tA) (g := g) hy
    rw [cE_obj hci] at he
    have hrv := va_recv hK h3 (cls_at hci) he
    have hp : PreV s H MM.2.2.2.2.cls (ad a) (PcW D tA ad b y g H.size (vR a :: As)) (As.map (cv ad b)) := ⟨blindW, by rw [← hcn]; exact hrv, pre_ok (as := vR a :: As) hK hN hA h5 h3 h4⟩
    have hst : ((As.reverse ++ vR a :: rest).map (cv ad b)) = (As.map (cv ad b)).reverse ++ .ref (ad a) :: rest.map (cv ad b) := by
      rw [List.map_append, List.map_reverse]; rfl
    have hroom : (RM d (yy.length - y.length) (sz yy - sz y)).frames + 1 ≤ R.frames ∧ 8 + (MM.2.1 + 11) + (RM d (yy.length - y.length) (sz yy - sz y)).locals ≤ R.locals := by
      have := mok.2.2.2.2.1
      show 2 * d + 1 ≤ R.frames ∧ 8 + (MM.2.1 + 11) + 64 * d ≤ R.locals
      exact ⟨by omega, by omega⟩
    have hf : (y.length - c0) + (yy.length - y.length) ≤ R.cells ∧ (sz y - s0) + (sz yy - sz y) ≤ R.slots := by
      have g1 := h9.1
      have g2 := h9.2.1
      exact ⟨by omega, by omega⟩
    refine call_fin (as := (Value.ref (ad a) :: As.map (cv ad b)).toArray) hA h1 h2 h4 h5 h6 hrest h9 hy1 hy2 hk ?_
    rcases (show kind = 0 ∨ kind = 1 by omega) with rfl | rfl
    · have w1 : Cond.methodLink (oNm M.2.2.2.1) i MM.2.2.2.2 ∈ lw_tbl := w1
      have w3 : Cond.instanceMethod MM.2.2.2.2 ∈ lw_tbl := w3
      have hG : GoodIn BIG (wsV (oNm M.2.2.2.1) i MM.2.2.2.2.cls MM.2.2.2.2 (wsM MM)) := by
        intro w hw
        rcases List.mem_append.mp hw with h | h
        · refine goodBB w ?_
          simp only [List.mem_cons, List.not_mem_nil, or_false] at h
          rcases h with rfl | rfl | rfl | rfl
          · exact big_in w1 rfl
          · exact big_in w3 rfl
          · exact big_in (w4 (Nat.zero_le 1)) rfl
          · exact big_in mok.2.2.2.2.2 rfl
        · exact goodMM mok w h
      exact va_runV (C := MM.2.2.2.2.cls) (As := As.map (cv ad b)) (rest := rest.map (cv ad b)) (b := ad a) ⟨hx, hb, hml, hown, hB⟩ hM (cwV N hB hG rfl rfl rfl ⟨rfl, n1, n2, w5⟩ hroom) hp rfl (by rw [List.length_map]; exact hAs) h1.1 hst (lv_room (by rw [cat_sum]; exact hwt)) hd hf
    · have w1 : Cond.methodLinkNest (oNm M.2.2.2.1) i MM.2.2.2.2 "AppealsDown" ∈ lw_tbl := w1
      have w3 : Cond.instanceMethod MM.2.2.2.2 ∈ lw_tbl := w3
      exact va_runVN (C := MM.2.2.2.2.cls) (As := As.map (cv ad b)) (rest := rest.map (cv ad b)) (b := ad a) ⟨hx, hb, hml, hown, hB⟩ hM ⟨va_cnB N hB (goodMM mok) rfl rfl rfl (hN.1 _ (nsl_in w1 rfl)) (hB _ (big_in mok.2.2.2.2.2 rfl)) ⟨n1, n2, w5⟩ hroom, hB _ (big_in w3 rfl), hB _ (big_in (w4 (Nat.le_refl 1)) rfl)⟩ hp rfl (by rw [List.length_map]; exact hAs) h1.1 hst (lv_room (by rw [cat_sum]; exact hwt)) hd hf
  · obtain ⟨w1, mok, w3, w4, w5, w6⟩ := mlk_in hml2
    have mok : MOK MM := mok
    obtain ⟨n1, n2⟩ := oNm_ne _ mok.2.2.1
    rw [← mok.2.1] at n1 n2
    intro H locs ls ad hs
    obtain ⟨h1, h2, h3, h4, h5, h6, h7, h8, h9⟩ := hs
    have hargs : ∀ v ∈ (vX q :: As), okV y.length v := by
      intro v hv
      rcases List.mem_cons.mp hv with h | h
      · exact h7 v (List.mem_append_right _ (h ▸ List.mem_cons_self))
      · exact h7 v (List.mem_append_left _ (List.mem_reverse.mpr h))
    have hrest : ∀ v ∈ rest, okV y.length v := fun v hv => h7 v (List.mem_append_right _ (List.mem_cons_of_mem _ hv))
    have hM := hC MM (vX q :: As) y g yy QQ hCall mok (mlk_ne hml2) h8 hargs l D tA ad b H.size
    obtain ⟨j, hj, rfl⟩ : ∃ j, j < 7 ∧ q = 3 + j := ⟨q - 3, by omega, by omega⟩
    have ek : cv ad b (vX (3 + j)) = .ref (b (3 + j)) := cv_x (by omega)
    have em : (vX (3 + j) :: As).map (cv ad b) = .ref (b (3 + j)) :: As.map (cv ad b) := by rw [List.map_cons, ek]
    have hpre : ∀ U : State, U.heap = H → s.WarmedH U.vm → PcW D tA ad b y g H.size (vX (3 + j) :: As) (.ref (b (3 + j)) :: As.map (cv ad b)).toArray U := by
      have := pre_ok (as := vX (3 + j) :: As) hK hN hA h5 h3 h4
      rw [em] at this
      exact this
    have hp : PreV s H MM.2.2.2.2.cls (b (3 + j)) (PcW D tA ad b y g H.size (vX (3 + j) :: As)) (As.map (cv ad b)) := ⟨blindW, by rw [hcn]; exact vk_recv (adK := fun i => b (3 + i)) (i := j) hN.2.1 hj h5, hpre⟩
    have hst : ((As.reverse ++ vX (3 + j) :: rest).map (cv ad b)) = (As.map (cv ad b)).reverse ++ .ref (b (3 + j)) :: rest.map (cv ad b) := by
      rw [List.map_append, List.map_reverse, List.map_cons, ek]
    have hroom : (RM d (yy.length - y.length) (sz yy - sz y)).frames + 1 ≤ R.frames ∧ 8 + (MM.2.1 + 11) + (RM d (yy.length - y.length) (sz yy - sz y)).locals ≤ R.locals := by
      have := mok.2.2.2.2.1
      show 2 * d + 1 ≤ R.frames ∧ 8 + (MM.2.1 + 11) + 64 * d ≤ R.locals
      exact ⟨by omega, by omega⟩
    have hf : (y.length - c0) + (yy.length - y.length) ≤ R.cells ∧ (sz y - s0) + (sz yy - sz y) ≤ R.slots := by
      have g1 := h9.1
      have g2 := h9.2.1
      exact ⟨by omega, by omega⟩
    refine call_fin (as := (Value.ref (b (3 + j)) :: As.map (cv ad b)).toArray) hA h1 h2 h4 h5 h6 hrest h9 hy1 hy2 hk ?_
    have w1 : Cond.methodLink (oNm M.2.2.2.1) i MM.2.2.2.2 ∈ lw_tbl := w1
    have w3 : Cond.instanceMethod MM.2.2.2.2 ∈ lw_tbl := w3
    have hG : GoodIn BIG (wsV (oNm M.2.2.2.1) i MM.2.2.2.2.cls MM.2.2.2.2 (wsM MM)) := by
      intro w hw
      rcases List.mem_append.mp hw with h | h
      · refine goodBB w ?_
        simp only [List.mem_cons, List.not_mem_nil, or_false] at h
        rcases h with rfl | rfl | rfl | rfl
        · exact big_in w1 rfl
        · exact big_in w3 rfl
        · exact big_in (w4 (Nat.zero_le 1)) rfl
        · exact big_in mok.2.2.2.2.2 rfl
      · exact goodMM mok w h
    exact va_runV (C := MM.2.2.2.2.cls) (As := As.map (cv ad b)) (rest := rest.map (cv ad b)) (b := b (3 + j)) ⟨hx, hb, hml, hown, hB⟩ hM (cwV N hB hG rfl rfl rfl ⟨rfl, n1, n2, w5⟩ hroom) hp rfl (by rw [List.length_map]; exact hAs) h1.1 hst (lv_room (by rw [cat_sum]; exact hwt)) hd hf
set_option maxRecDepth 100000 in
theorem ar_invokestatic {i : Nat} (hC : SoundC C d) (CX : Cx p l e R s m args meth c X M D tA A b d c0 s0 yF) (hd : decode M.1 pc = .ok (.invokestatic i, n)) (h : stepP C X (SP p l e R s m args below meth c Qf M D tA A b c0 s0 ad0) yF Q M (.invokestatic i) n pc loc stk y g) : (SP p l e R s m args below meth c Qf M D tA A b c0 s0 ad0) pc loc stk y g := by
  obtain ⟨hx, hb, hml, hown, hB, hN, hK, hA, hin, hRf, hRl, hRc, hRs, hScr⟩ := CX
  obtain ⟨rfl, h⟩ := h
  rcases h with ⟨As, rest, MM, kind, N, rfl, hml2, hkd, hAs, hwt, yy, QQ, hCall, hy1, hy2, hy3, hy4, hk⟩ | ⟨N, dp, sp, a0, a1, n0, n1, rest, rfl, hal, ha0, ha1, hN0, hdp, hsp, hb1, hb2, hwt, hk⟩ | ⟨x, z, rest, rfl, hyl, hysz, hwt, hk⟩ | ⟨x, rest, rfl, hyl, hysz, hwt, hxl, hk⟩
  · obtain ⟨w1, mok, w3, w4, w5, w6⟩ := mlk_in hml2
    have mok : MOK MM := mok
    obtain ⟨n1, n2⟩ := oNm_ne _ mok.2.2.1
    rw [← mok.2.1] at n1 n2
    intro H locs ls ad hs
    obtain ⟨h1, h2, h3, h4, h5, h6, h7, h8, h9⟩ := hs
    have hargs : ∀ v ∈ As, okV y.length v := fun v hv => h7 v (List.mem_append_left _ (List.mem_reverse.mpr hv))
    have hrest : ∀ v ∈ rest, okV y.length v := fun v hv => h7 v (List.mem_append_right _ hv)
    have hM := hC MM As y g yy QQ hCall mok (mlk_ne hml2) h8 hargs l D tA ad b H.size
    have hp : PreS s H (PcW D tA ad b y g H.size As) (As.map (cv ad b)) := ⟨blindW, pre_ok (as := As) hK hN hA h5 h3 h4⟩
    have hst : ((As.reverse ++ rest).map (cv ad b)) = (As.map (cv ad b)).reverse ++ rest.map (cv ad b) := by
      rw [List.map_append, List.map_reverse]
    have hroom : (RM d (yy.length - y.length) (sz yy - sz y)).frames + 1 ≤ R.frames ∧ 8 + (MM.2.1 + 11) + (RM d (yy.length - y.length) (sz yy - sz y)).locals ≤ R.locals := by
      have := mok.2.2.2.2.1
      show 2 * d + 1 ≤ R.frames ∧ 8 + (MM.2.1 + 11) + 64 * d ≤ R.locals
      exact ⟨by omega, by omega⟩
    have hf : (y.length - c0) + (yy.length - y.length) ≤ R.cells ∧ (sz y - s0) + (sz yy - sz y) ≤ R.slots := by
      have g1 := h9.1
      have g2 := h9.2.1
      exact ⟨by omega, by omega⟩
    refine call_fin (as := (As.map (cv ad b)).toArray) hA h1 h2 h4 h5 h6 hrest h9 hy1 hy2 hk ?_
    rcases hkd with rfl | rfl
    · have w1 : Cond.methodLink (oNm M.2.2.2.1) i MM.2.2.2.2 ∈ lw_tbl := w1
      have w3 : Cond.static MM.2.2.2.2 ∈ lw_tbl := w3
      have hG : GoodIn BIG (va_wsS (oNm M.2.2.2.1) i MM.2.2.2.2 (wsM MM)) := by
        intro w hw
        rcases List.mem_append.mp hw with h | h
        · refine goodBB w ?_
          simp only [List.mem_cons, List.not_mem_nil, or_false] at h
          rcases h with rfl | rfl | rfl
          · exact big_in w1 rfl
          · exact big_in w3 rfl
          · exact big_in mok.2.2.2.2.2 rfl
        · exact goodMM mok w h
      exact va_runS (As := As.map (cv ad b)) (rest := rest.map (cv ad b)) ⟨hx, hb, hml, hown, hB⟩ hM (va_cwS N hB hG rfl rfl rfl ⟨n1, n2, w5⟩ hroom) hp rfl (by rw [List.length_map]; exact hAs) h1.1 hst (lv_room (by rw [cat_sum]; exact hwt)) hd hf
    · have w1 : Cond.methodLinkNest (oNm M.2.2.2.1) i MM.2.2.2.2 "AppealsDown" ∈ lw_tbl := w1
      have w3 : Cond.static MM.2.2.2.2 ∈ lw_tbl := w3
      exact va_runSN (As := As.map (cv ad b)) (rest := rest.map (cv ad b)) ⟨hx, hb, hml, hown, hB⟩ hM ⟨va_cnB N hB (goodMM mok) rfl rfl rfl (hN.1 _ (nsl_in w1 rfl)) (hB _ (big_in mok.2.2.2.2.2 rfl)) ⟨n1, n2, w5⟩ hroom, hB _ (big_in w3 rfl), trivial⟩ hp rfl (by rw [List.length_map]; exact hAs) h1.1 hst (lv_room (by rw [cat_sum]; exact hwt)) hd hf
  · intro H locs ls ad hs
    obtain ⟨h1, h2, h3, h4, h5, h6, h7, h8, h9⟩ := hs
    have wN : w32 N = N := ok_head h7
    have wdp : w32 dp = dp := ok_head (ok_tail h7)
    have wsp : w32 sp = sp := ok_head (ok_tail (ok_tail (ok_tail h7)))
    have hrest : ∀ v ∈ rest, okV y.length v := ok_tail (ok_tail (ok_tail (ok_tail (ok_tail h7))))
    have he0 := WS_get (ad := ad) (tA := tA) (g := g) ha0
    have he1 := WS_get (ad := ad) (tA := tA) (g := g) ha1
    have z0 : (0 : Int32) = Int32.ofInt 0 := rfl
    have hnf : nativeFrameWords "java/lang/System" "arraycopy" 5 ≤ 40 := by decide +kernel
    have hcw : ((rest.map (cv ad b)).map fun v => v.category).sum + (nativeFrameWords "java/lang/System" "arraycopy" 5 + 11) ≤ R.locals := by
      rw [cat_sum]
      omega
    show W p l e R s m args below meth c H locs (y.length - c0) (sz y - s0) Qf (F0 m pc ls (.int (Int32.ofInt N) :: .int (Int32.ofInt dp) :: .ref (ad a1) :: .int (Int32.ofInt sp) :: .ref (ad a0) :: rest.map (cv ad b)))
    refine va_copyi (D := D) (cl := vwCl) hx hb (hml.trans h1.1.symm) hown (hB _ (alk_in hal)) (hB _ (big_in AC_ok.1 rfl)) (hB _ (big_in AC_ok.2.1 rfl)) (hB _ (big_in AC_ok.2.2 rfl)) hK h3 h4 h5 a0 a1 0 0 he0 he1 rfl rfl rfl (by rw [z0, o32_lt wsp (by decide)]; omega) (by rw [z0, o32_lt wdp (by decide)]; omega) (by rw [z0, o32_lt wN (by decide)]; omega) (by rw [o32_clamp hsp wsp, o32_clamp hN0 wN]; show sp.toNat + N.toNat ≤ n0; omega) (by rw [o32_clamp hdp wdp, o32_clamp hN0 wN]; show dp.toNat + N.toNat ≤ n1; omega) (fun i _ => rfl) (by omega) hcw hd (fun H1 locs1 hP hD hS => ?_)
    rw [o32_clamp hsp wsp, o32_clamp hdp wdp, o32_clamp hN0 wN] at hP hD
    have hcp : va_cpy (fun j => Int32.ofInt (g a0 j)) (fun j => Int32.ofInt (g a1 j)) sp.toNat dp.toNat N.toNat = fun j => Int32.ofInt (fcp (g a0) (g a1) sp.toNat dp.toNat N.toNat j) := by
      funext j
      unfold va_cpy fcp
      split <;> rfl
    rw [hcp] at hP hD
    have hws : (WS ad tA y g).set a1 (ad a1, .inl (tA 0, ((20, [n1]) : Nat × List Nat).2.headD 0, .inl (fun j => Int32.ofInt (fcp (g a0) (g a1) sp.toNat dp.toNat N.toNat j)))) = WS ad tA y (cset g a1 (fcp (g a0) (g a1) sp.toNat dp.toNat N.toNat)) := WS_setg ha1 _
    rw [hws] at hP hD
    have hok : okH y (cset g a1 (fcp (g a0) (g a1) sp.toNat dp.toNat N.toNat)) := h8.setg (fun sh hsh => by
      rw [ha1] at hsh
      cases hsh
      refine Or.inl ⟨Or.inl rfl, fun j => ?_⟩
      unfold fcp
      split
      · exact okA (h8 a0 _ ha0) (Or.inl rfl) _
      · exact okA (h8 a1 _ ha1) (Or.inl rfl) _)
    exact hk H1 locs1 ls ad ⟨h1, h2, hP, hD, hS, h6, hrest, hok, h9⟩
  · intro H locs ls ad hs
    obtain ⟨h1, h2, h3, h4, h5, h6, h7, h8, h9⟩ := hs
    have wz : w32 z = z := ok_head h7
    have wx : w32 x = x := ok_head (ok_tail h7)
    have hrest : ∀ v ∈ rest, okV y.length v := ok_tail (ok_tail h7)
    have hlo : ((rest.map (cv ad b)).map fun v => v.category).sum + 13 ≤ R.locals := by rw [cat_sum]; omega
    show W p l e R s m args below meth c H locs (y.length - c0) (sz y - s0) Qf (F0 m pc ls (.int (Int32.ofInt z) :: .int (Int32.ofInt x) :: rest.map (cv ad b)))
    rcases hk with ⟨hxl, hk⟩ | ⟨hxl, hk⟩
    · refine va_mmax hx hb (hml.trans h1.1.symm) hown (hB _ (xlk_in hxl)) (hB _ (big_in XM_0.2 rfl)) (hB _ (big_in XM_i rfl)) (hB _ (big_in XM_0.1 rfl)) (by omega) hlo (by omega) (by omega) hd ?_
      have e : (if Int32.ofInt x < Int32.ofInt z then Int32.ofInt z else Int32.ofInt x) = Int32.ofInt (zmax x z) := by
        unfold zmax
        by_cases hc : x < z
        · rw [if_pos hc, if_pos ((o32_lt wx wz).mpr hc)]
        · rw [if_neg hc, if_neg (fun q => hc ((o32_lt wx wz).mp q))]
      rw [e]
      exact hk H locs ls ad ⟨h1, h2, h3, h4, h5, h6, ok_cons (by show w32 (zmax x z) = zmax x z; unfold zmax; split <;> assumption) hrest, h8, h9⟩
    · refine va_mmin hx hb (hml.trans h1.1.symm) hown (hB _ (xlk_in hxl)) (hB _ (big_in XM_1.2 rfl)) (hB _ (big_in XM_i rfl)) (hB _ (big_in XM_1.1 rfl)) (by omega) hlo (by omega) (by omega) hd ?_
      have e : (if Int32.ofInt z < Int32.ofInt x then Int32.ofInt z else Int32.ofInt x) = Int32.ofInt (zmin x z) := by
        unfold zmin
        by_cases hc : z < x
        · rw [if_pos hc, if_pos ((o32_lt wz wx).mpr hc)]
        · rw [if_neg hc, if_neg (fun q => hc ((o32_lt wz wx).mp q))]
      rw [e]
      exact hk H locs ls ad ⟨h1, h2, h3, h4, h5, h6, ok_cons (by show w32 (zmin x z) = zmin x z; unfold zmin; split <;> assumption) hrest, h8, h9⟩
  · intro H locs ls ad hs
    obtain ⟨h1, h2, h3, h4, h5, h6, h7, h8, h9⟩ := hs
    have wx : w32 x = x := ok_head h7
    have hrest : ∀ v ∈ rest, okV y.length v := ok_tail h7
    have hlo : ((rest.map (cv ad b)).map fun v => v.category).sum + 13 ≤ R.locals := by rw [cat_sum]; omega
    show W p l e R s m args below meth c H locs (y.length - c0) (sz y - s0) Qf (F0 m pc ls (.int (Int32.ofInt x) :: rest.map (cv ad b)))
    refine va_mabs hx hb (hml.trans h1.1.symm) hown (hB _ (xlk_in hxl)) (hB _ (big_in XM_2.2 rfl)) (hB _ (big_in XM_i rfl)) (hB _ (big_in XM_2.1 rfl)) (by omega) hlo (by omega) (by omega) hd ?_
    have e : (if 0 ≤ Int32.ofInt x then Int32.ofInt x else 0 - Int32.ofInt x) = Int32.ofInt (zabs x) := by
      unfold zabs
      rw [show (0 : Int32) = Int32.ofInt 0 from rfl]
      by_cases hc : 0 ≤ x
      · rw [if_pos hc, if_pos ((o32_le w0z wx).mpr hc)]
      · rw [if_neg hc, if_neg (fun q => hc ((o32_le w0z wx).mp q)), o32_sub, o32_w]
    rw [e]
    exact hk H locs ls ad ⟨h1, h2, h3, h4, h5, h6, ok_cons (zabs_w wx) hrest, h8, h9⟩
set_option maxRecDepth 100000 in
theorem ar_invokespecial {i : Nat} (hC : SoundC C d) (CX : Cx p l e R s m args meth c X M D tA A b d c0 s0 yF) (hd : decode M.1 pc = .ok (.invokespecial i, n)) (h : stepP C X (SP p l e R s m args below meth c Qf M D tA A b c0 s0 ad0) yF Q M (.invokespecial i) n pc loc stk y g) : (SP p l e R s m args below meth c Qf M D tA A b c0 s0 ad0) pc loc stk y g := by
  obtain ⟨hx, hb, hml, hown, hB, hN, hK, hA, hin, hRf, hRl, hRc, hRs, hScr⟩ := CX
  obtain ⟨rfl, h⟩ := h
  rcases h with ⟨As, a, rest, MM, kind, N, rfl, hml2, hkd, hAs, hrt, hwt, yy, QQ, hCall, hy1, hy2, hy3, hy4, hk⟩ | ⟨a, rest, rfl, hol, hwt, hk⟩
  · obtain ⟨w1, mok, w3, w4, w5, w6⟩ := mlk_in hml2
    have mok : MOK MM := mok
    obtain ⟨n1, n2⟩ := oNm_ne _ mok.2.2.1
    rw [← mok.2.1] at n1 n2
    intro H locs ls ad hs
    obtain ⟨h1, h2, h3, h4, h5, h6, h7, h8, h9⟩ := hs
    have hargs : ∀ v ∈ (vR a :: As), okV y.length v := by
      intro v hv
      rcases List.mem_cons.mp hv with h | h
      · exact h7 v (List.mem_append_right _ (h ▸ List.mem_cons_self))
      · exact h7 v (List.mem_append_left _ (List.mem_reverse.mpr h))
    have hrest : ∀ v ∈ rest, okV y.length v := fun v hv => h7 v (List.mem_append_right _ (List.mem_cons_of_mem _ hv))
    have hM := hC MM (vR a :: As) y g yy QQ hCall mok (mlk_ne hml2) h8 hargs l D tA ad b H.size
    have hp : PreS s H (PcW D tA ad b y g H.size (vR a :: As)) (.ref (ad a) :: As.map (cv ad b)) := ⟨blindW, pre_ok (as := vR a :: As) hK hN hA h5 h3 h4⟩
    have hst : ((As.reverse ++ vR a :: rest).map (cv ad b)) = (As.map (cv ad b)).reverse ++ .ref (ad a) :: rest.map (cv ad b) := by
      rw [List.map_append, List.map_reverse]; rfl
    have hroom : (RM d (yy.length - y.length) (sz yy - sz y)).frames + 1 ≤ R.frames ∧ 8 + (MM.2.1 + 11) + (RM d (yy.length - y.length) (sz yy - sz y)).locals ≤ R.locals := by
      have := mok.2.2.2.2.1
      show 2 * d + 1 ≤ R.frames ∧ 8 + (MM.2.1 + 11) + 64 * d ≤ R.locals
      exact ⟨by omega, by omega⟩
    have hf : (y.length - c0) + (yy.length - y.length) ≤ R.cells ∧ (sz y - s0) + (sz yy - sz y) ≤ R.slots := by
      have g1 := h9.1
      have g2 := h9.2.1
      exact ⟨by omega, by omega⟩
    have hws : wsM MM = Cond.code MM.2.2.2.2 MM.1 MM.2.1 none :: BIG := by unfold wsM; rw [hrt]
    refine call_fin (as := (Value.ref (ad a) :: As.map (cv ad b)).toArray) hA h1 h2 h4 h5 h6 hrest h9 hy1 hy2 hk ?_
    rcases hkd with rfl | rfl
    · have w1 : Cond.methodLink (oNm M.2.2.2.1) i MM.2.2.2.2 ∈ lw_tbl := w1
      have w3 : Cond.instanceMethod MM.2.2.2.2 ∈ lw_tbl := w3
      exact va_runI (As := As.map (cv ad b)) (rest := rest.map (cv ad b)) (b := ad a) ⟨hx, hb, hml, hown, hB⟩ hM (cwI N hB (goodMM mok) hws rfl rfl (hB _ (big_in mok.2.2.2.2.2 rfl)) (hB _ (big_in w1 rfl)) (hB _ (big_in w3 rfl)) (w6 (Nat.le_refl 4)) ⟨n1, n2, w5⟩ hroom) hp rfl (by rw [List.length_map]; exact hAs) h1.1 hst (lv_room (by rw [cat_sum]; exact hwt)) hd hf
    · have w1 : Cond.methodLinkNest (oNm M.2.2.2.1) i MM.2.2.2.2 "AppealsDown" ∈ lw_tbl := w1
      have w3 : Cond.instanceMethod MM.2.2.2.2 ∈ lw_tbl := w3
      exact va_runIN (As := As.map (cv ad b)) (rest := rest.map (cv ad b)) (b := ad a) ⟨hx, hb, hml, hown, hB⟩ hM ⟨va_cnB N hB (goodMM mok) hws rfl rfl (hN.1 _ (nsl_in w1 rfl)) (hB _ (big_in mok.2.2.2.2.2 rfl)) ⟨n1, n2, w5⟩ hroom, w6 (Nat.le_succ 4), hB _ (big_in w3 rfl)⟩ hp rfl (by rw [List.length_map]; exact hAs) h1.1 hst (lv_room (by rw [cat_sum]; exact hwt)) hd hf
  · intro H locs ls ad hs
    obtain ⟨h1, h2, h3, h4, h5, h6, h7, h8, h9⟩ := hs
    show W p l e R s m args below meth c H locs (y.length - c0) (sz y - s0) Qf (F0 m pc ls (.ref (ad a) :: rest.map (cv ad b)))
    refine W.objInit hx hb hown (hB _ (olk_in hol)) (hB _ (big_in OI_ok.1 rfl)) (hB _ (big_in OI_ok.2 rfl)) rfl (by rw [hml]; exact h1.1) rfl hd (by omega) (by
      rw [cat_sum]
      show 2 * 0 + wtS rest + 12 ≤ R.locals
      omega) ?_
    exact hk H locs ls ad ⟨h1, h2, h3, h4, h5, h6, ok_tail h7, h8, h9⟩
end ARMS2
