def Cx (p : Program) (l : Launch) (e : Env) (R : Room) (s : State) (m : MethodId) (args : Array Value) (meth : Method) (c : Code) (X : pX) (M : pM) (D : va_G) (tA : Nat → ClassId) (A : Nat → Prop) (b : Nat → Nat) (d c0 s0 : Nat) (yF : pY) : Prop :=
  p.tables.exec = Jvm.exec ∧ c.code = M.1 ∧ c.maxLocals = M.2.1 ∧ s.vm.findClass (oNm M.2.2.2.1) = some m.cls ∧ (∀ w ∈ BIG, w.before args s = true) ∧ (NST s ∧ STRf b A s s.heap) ∧ va_K D vwCl (tyL tA) s ∧ (∀ q, s.heap.size ≤ q → A q) ∧ (M.2.2.2.2.name = "<init>" → meth.name = "<init>") ∧ 2 * d + 2 ≤ R.frames ∧ 64 * (d + 1) ≤ R.locals ∧ yF.length - c0 ≤ R.cells ∧ sz yF - s0 ≤ R.slots ∧
  (M.2.2.2.1 = 9 → va_X (b 1) X.1 (fun j => Int32.ofInt (X.2 j)) s s.heap ∧ b 1 < s.heap.size ∧ ¬ A (b 1) ∧ ∀ j, w32 (X.2 j) = X.2 j)
def Stt (s : State) (M : pM) (D : va_G) (tA : Nat → ClassId) (A : Nat → Prop) (b : Nat → Nat) (c0 s0 : Nat) (ad0 : Nat → Nat) (H : Heap) (locs : List Loc) (ls : Array Slot) (ad : Nat → Nat) (loc stk : List pV) (y : pY) (g : pG) : Prop :=
  lv_has ls M.2.1 (plst ad b 0 loc) ∧ loc.length = M.2.1 ∧ va_P D vwCl (WS ad tA y g) H ∧ va_D A (WS ad tA y g) ∧ va_S A s.heap H locs ∧ (∀ v ∈ loc, okV y.length v) ∧ (∀ v ∈ stk, okV y.length v) ∧ okH y g ∧ (c0 ≤ y.length ∧ s0 ≤ sz y ∧ ∀ c, c < c0 → ad c = ad0 c)
def SP (p : Program) (l : Launch) (e : Env) (R : Room) (s : State) (m : MethodId) (args : Array Value) (below : List Frame) (meth : Method) (c : Code) (Qf : State → Prop) (M : pM) (D : va_G) (tA : Nat → ClassId) (A : Nat → Prop) (b : Nat → Nat) (c0 s0 : Nat) (ad0 : Nat → Nat) : pP := fun pc loc stk y g =>
  ∀ (H : Heap) (locs : List Loc) (ls : Array Slot) (ad : Nat → Nat), Stt s M D tA A b c0 s0 ad0 H locs ls ad loc stk y g → W p l e R s m args below meth c H locs (y.length - c0) (sz y - s0) Qf (F0 m pc ls (stk.map (cv ad b)))
theorem ok_cons {n : Nat} {v : pV} {l : List pV} (h : okV n v) (hl : ∀ u ∈ l, okV n u) : ∀ u ∈ v :: l, okV n u := fun u hu => (List.mem_cons.mp hu).elim (fun e => e ▸ h) (hl u)
theorem ok_tail {n : Nat} {v : pV} {l : List pV} (h : ∀ u ∈ v :: l, okV n u) : ∀ u ∈ l, okV n u := fun u hu => h u (List.mem_cons_of_mem _ hu)
theorem ok_head {n : Nat} {v : pV} {l : List pV} (h : ∀ u ∈ v :: l, okV n u) : okV n v := h v List.mem_cons_self
theorem ok_set {n i : Nat} {v : pV} {l : List pV} (hl : ∀ u ∈ l, okV n u) (h : okV n v) : ∀ u ∈ l.set i v, okV n u := fun u hu => (List.mem_or_eq_of_mem_set hu).elim (hl u) (fun e => e ▸ h)
theorem fm_some {α β : Type} {L : List α} {f : α → Bool} {g : α → β} {x : β} (h : (L.find? f).map g = some x) : ∃ q ∈ L, f q = true ∧ g q = x := by
  cases hf : L.find? f with
  | none => rw [hf] at h; cases h
  | some q => rw [hf] at h; cases h; exact ⟨q, List.mem_of_find?_eq_some hf, List.find?_some hf, rfl⟩
theorem beq2 {a b c e : Nat} (h : (Nat.beq a b && Nat.beq c e) = true) : a = b ∧ c = e := by
  rw [Bool.and_eq_true] at h
  exact ⟨Nat.eq_of_beq_eq_true h.1, Nat.eq_of_beq_eq_true h.2⟩
theorem klk_in {o i : Nat} {x : Int} (h : klk o i = some x) : (Cond.constant (oNm o) i (Int32.ofInt x)) ∈ BIG ∧ w32 x = x := by
  obtain ⟨q, h1, h2, rfl⟩ := fm_some h
  obtain ⟨rfl, rfl⟩ := beq2 h2
  exact ⟨big_in (KL_ok q h1).1 rfl, (KL_ok q h1).2⟩
theorem kl2_in {o i : Nat} {x : Int} (h : kl2 o i = some x) : (Cond.constantLong (oNm o) i (Int64.ofInt x)) ∈ BIG ∧ w64 x = x := by
  obtain ⟨q, h1, h2, rfl⟩ := fm_some h
  obtain ⟨rfl, rfl⟩ := beq2 h2
  exact ⟨big_in (KL2_ok q h1).1 rfl, (KL2_ok q h1).2⟩
theorem nlk_in {o i ci : Nat} (h : nlk o i = some ci) : (Cond.classLink (oNm o) i (cNm ci)) ∈ BIG ∧ (Cond.initialized (cNm ci)) ∈ BIG ∧ (Cond.instantiable (cNm ci) (cN ci)) ∈ BIG ∧ ci < 9 := by
  obtain ⟨q, h1, h2, rfl⟩ := fm_some h
  obtain ⟨rfl, rfl⟩ := beq2 h2
  obtain ⟨a, b, c, d⟩ := NL_ok q h1
  exact ⟨big_in a rfl, big_in b rfl, big_in c rfl, d⟩
theorem flk_in {o i ci k : Nat} {nest : Bool} (h : flk o i = some (ci, k, nest)) : flW (o, i, ci, k, nest) ∈ lw_tbl ∧ k < cN ci ∧ ci < 9 := by
  obtain ⟨q, h1, h2, h3⟩ := fm_some h
  obtain ⟨rfl, rfl⟩ := beq2 h2
  obtain ⟨q1, q2, q3, q4, q5⟩ := q
  cases h3
  exact FL_ok _ h1
theorem olk_in {o i : Nat} (h : olk o i = true) : (Cond.methodLink (oNm o) i Lib.objectInit) ∈ BIG := by
  unfold olk at h
  cases hf : OLt.find? (fun q => Nat.beq q.1 o && Nat.beq q.2 i) with
  | none => rw [hf] at h; cases h
  | some q =>
    have h3 := List.find?_some hf
    have h2 : (Nat.beq q.1 o && Nat.beq q.2 i) = true := h3
    obtain ⟨rfl, rfl⟩ := beq2 h2
    exact big_in (OL_ok q (List.mem_of_find?_eq_some hf)) rfl
theorem alk_in {o i : Nat} (h : alk o i = true) : (Cond.methodLink (oNm o) i arraycopyName) ∈ BIG := by
  unfold alk at h
  cases hf : ALt.find? (fun q => Nat.beq q.1 o && Nat.beq q.2 i) with
  | none => rw [hf] at h; cases h
  | some q =>
    have h3 := List.find?_some hf
    have h2 : (Nat.beq q.1 o && Nat.beq q.2 i) = true := h3
    obtain ⟨rfl, rfl⟩ := beq2 h2
    exact big_in (AL_ok q (List.mem_of_find?_eq_some hf)) rfl
theorem mlk_in {o i kind n : Nat} {M : pM} (h : mlk o i = some (M, kind, n)) : mlW o (i, M, kind, n) := by
  obtain ⟨q, h1, h2, h3⟩ := fm_some h
  have h2 := Nat.eq_of_beq_eq_true h2
  subst h2
  obtain ⟨q1, q2, q3, q4⟩ := q
  cases h3
  exact ML_ok o _ h1
theorem cls_at {ci : Nat} (h : ci < 9) : vwCl[ci]? = some (cNm ci, cT ci, cN ci) := by
  match ci, h with
  | 0, _ => rfl
  | 1, _ => rfl
  | 2, _ => rfl
  | 3, _ => rfl
  | 4, _ => rfl
  | 5, _ => rfl
  | 6, _ => rfl
  | 7, _ => rfl
  | 8, _ => rfl
theorem u_good {C : String} {T : u_T} {N : Nat} : ∀ w ∈ u_ws C T N, goodWord w = true := by
  intro w hw
  obtain ⟨k, -, rfl⟩ := List.mem_map.mp hw
  unfold u_lay
  split <;> rfl
theorem lay_in {ci : Nat} (h : ci < 9) : ∀ w ∈ u_ws (cNm ci) (cT ci) (cN ci), w ∈ BIG := by
  intro w hw
  refine big_in ?_ (u_good w hw)
  match ci, h, hw with
  | 0, _, hw => exact LY_0 w hw
  | 1, _, hw => exact LY_1 w hw
  | 2, _, hw => exact LY_2 w hw
  | 3, _, hw => exact LY_3 w hw
  | 4, _, hw => exact LY_4 w hw
  | 5, _, hw => exact LY_5 w hw
  | 6, _, hw => exact LY_6 w hw
  | 7, _, hw => exact LY_7 w hw
  | 8, _, hw => exact LY_8 w hw
theorem cT1 : ∀ ci, ci < 9 → ∀ k, k < cN ci → (cT ci k).1 = cNm ci := by decide +kernel
theorem cTy_ok {ci : Nat} (h : ci < 9) : ∀ k, k < cN ci → parseFieldDescriptor (cT ci k).2.2.1 = some (cTy ci k) := by
  match ci, h with
  | 0, _ => exact tyX0_ok
  | 1, _ => exact tyX1_ok
  | 2, _ => exact tyX2_ok
  | 3, _ => exact tyX3_ok
  | 4, _ => exact tyX4_ok
  | 5, _ => exact tyX5_ok
  | 6, _ => exact tyX6_ok
  | 7, _ => exact tyX7_ok
  | 8, _ => exact tyX8_ok
theorem cT_nm {ci : Nat} (h : ci < 9) : ∀ a, a < cN ci → ∀ b, b < cN ci → a ≠ b → (cT ci a).2.1 ≠ (cT ci b).2.1 := by
  match ci, h with
  | 0, _ => exact nmX0
  | 1, _ => exact nmX1
  | 2, _ => exact nmX2
  | 3, _ => exact nmX3
  | 4, _ => exact nmX4
  | 5, _ => exact nmX5
  | 6, _ => exact nmX6
  | 7, _ => exact nmX7
  | 8, _ => exact nmX8
def isRT (t : FieldType) : Bool := match t with
  | .array _ => true
  | .object _ => true
  | _ => false
theorem refTy : ∀ ci, ci < 9 → ∀ k, k < cN ci → 2 ≤ fcode ci k → isRT (cTy ci k) = true := by decide +kernel
theorem fits_ref {t : FieldType} (h : isRT t = true) (a : Nat) : narrow t (.ref a) = .ref a ∧ fits t (.ref a) = true := by
  cases t <;> first | exact ⟨rfl, rfl⟩ | exact Bool.noConfusion h
theorem dflt_ref {t : FieldType} (h : isRT t = true) : defaultValue t = .null := by
  cases t <;> first | rfl | exact Bool.noConfusion h
theorem fcode_0 {ci k : Nat} (h : fcode ci k = 0) : cTy ci k = .int := by
  unfold fcode at h
  split at h
  · cases h
  · revert h
    cases cTy ci k <;> intro h <;> first | rfl | cases h
theorem fcode_1 {ci k : Nat} (h : fcode ci k = 1) : cTy ci k = .boolean := by
  unfold fcode at h
  split at h
  · cases h
  · revert h
    cases cTy ci k <;> intro h <;> first | rfl | cases h
theorem fcode_le (ci k : Nat) : fcode ci k = 0 ∨ fcode ci k = 1 ∨ fcode ci k = 2 ∨ fcode ci k = 3 := by
  unfold fcode
  split
  · exact Or.inr (Or.inr (Or.inr rfl))
  · cases cTy ci k <;> simp [tcode]
theorem rv_b {ad b b' : Nat → Nat} (n : Nat) : cv ad b (rv n) = cv ad b' (rv n) := by
  cases n <;> rfl
theorem fget_b {ad b b' : Nat → Nat} {ci k : Nat} {refs : List Nat} {f : Nat → Int} : cv ad b (fget ci refs f k) = cv ad b' (fget ci refs f k) := by
  unfold fget
  split <;> first | rfl | exact rv_b _
theorem fget_ne {ci j : Nat} {refs : List Nat} {f f' : Nat → Int} (h : f' j = f j) : fget ci refs f' j = fget ci refs f j := by
  unfold fget
  rw [h]
theorem cE_obj {ad : Nat → Nat} {tA : Nat → ClassId} {f : Nat → Int} {ci : Nat} {refs : List Nat} (h : ci < 9) : cE ad tA f (ci, refs) = .inr (ci, (List.range (cN ci)).map (fun k => cv ad (fun _ => 0) (fget ci refs f k))) := by
  unfold cE
  have e0 : ¬ Nat.beq ci 20 = true := fun e => by have := Nat.eq_of_beq_eq_true e; omega
  have e1 : ¬ Nat.beq ci 21 = true := fun e => by have := Nat.eq_of_beq_eq_true e; omega
  have e2 : ¬ Nat.beq ci 22 = true := fun e => by have := Nat.eq_of_beq_eq_true e; omega
  rw [if_neg e0, if_neg e1, if_neg e2]
theorem fs_at {ad b : Nat → Nat} {N k : Nat} {F : Nat → pV} (h : k < N) : ((List.range N).map (fun k => cv ad b (F k)))[k]? = some (cv ad b (F k)) := by
  rw [List.getElem?_map, List.getElem?_range h]; rfl
theorem fs_set {ad b : Nat → Nat} {N k : Nat} {F F' : Nat → pV} {v : Value} (h : k < N) (h1 : cv ad b (F' k) = v) (h2 : ∀ j, j ≠ k → F' j = F j) : ((List.range N).map (fun k => cv ad b (F k))).set k v = (List.range N).map (fun k => cv ad b (F' k)) := by
  apply List.ext_getElem?
  intro j
  rw [List.getElem?_set]
  by_cases hj : k = j
  · subst hj
    rw [if_pos rfl, if_pos (by simpa using h), fs_at h, h1]
  · rw [if_neg hj]
    by_cases hjN : j < N
    · rw [fs_at hjN, fs_at hjN, h2 j (fun e => hj e.symm)]
    · rw [List.getElem?_eq_none_iff.mpr (by simpa using hjN), List.getElem?_eq_none_iff.mpr (by simpa using hjN)]
theorem plst_ad {ad ad' b : Nat → Nat} {N : Nat} (h : ∀ c, c < N → ad' c = ad c) : ∀ (loc : List pV) (k : Nat), (∀ v ∈ loc, okV N v) → plst ad' b k loc = plst ad b k loc := by
  intro loc
  induction loc with
  | nil => intro k _; rfl
  | cons v t ih =>
    intro k hv
    unfold plst
    rw [ih (k + 1) (ok_tail hv), cv_ad h (ok_head hv)]
theorem map_ad {ad ad' b : Nat → Nat} {N : Nat} (h : ∀ c, c < N → ad' c = ad c) {l : List pV} (hl : ∀ v ∈ l, okV N v) : l.map (cv ad' b) = l.map (cv ad b) := List.map_congr_left (fun v hv => cv_ad h (hl v hv))
theorem sz_set {y : pY} {a ci : Nat} {refs refs' : List Nat} (h : y[a]? = some (ci, refs)) (hc : ci < 9) : sz (y.set a (ci, refs')) = sz y := by
  unfold sz
  congr 1
  apply List.ext_getElem?
  intro i
  rw [List.getElem?_map, List.getElem?_map, List.getElem?_set]
  by_cases hi : a = i
  · subst hi
    rw [if_pos rfl, if_pos (List.getElem?_eq_some_iff.mp h).1, h]
    simp only [Option.map_some, ssz]
    rw [if_neg (by omega), if_neg (by omega)]
  · rw [if_neg hi]
theorem okH.sety {y : pY} {g : pG} {a : Nat} {sh : Nat × List Nat} (h : okH y g) (hs : okC y.length sh (g a)) : okH (y.set a sh) g := by
  intro c sh' h'
  rw [List.length_set]
  rw [List.getElem?_set] at h'
  by_cases hc : a = c
  · subst hc
    rw [if_pos rfl] at h'
    split at h'
    · cases h'; exact hs
    · cases h'
  · rw [if_neg hc] at h'
    exact h c sh' h'
theorem fup_self (f : Nat → Int) (k : Nat) (x : Int) : fup f k x k = x := by simp [fup]
theorem fup_ne (f : Nat → Int) {k j : Nat} (x : Int) (h : j ≠ k) : fup f k x j = f j := by simp [fup, h]
theorem upd_o (f : Nat → Int) (k : Nat) (x : Int) : upd (fun j => Int32.ofInt (f j)) k (Int32.ofInt x) = fun j => Int32.ofInt (fup f k x j) := by
  funext j
  unfold upd fup
  split <;> rfl
theorem updL_o (f : Nat → Int) (k : Nat) (x : Int) : vp_updL (fun j => Int64.ofInt (f j)) k (Int64.ofInt x) = fun j => Int64.ofInt (fup f k x j) := by
  funext j
  unfold vp_updL fup
  split <;> rfl
theorem okA {n t : Nat} {l : List Nat} {f : Nat → Int} (h : okC n (t, l) f) (ht : t = 20 ∨ t = 21) : ∀ j, w32 (f j) = f j := by
  rcases h with ⟨-, h⟩ | ⟨h, -⟩ | ⟨h, -⟩
  · exact h
  · simp only at h; omega
  · simp only at h; omega
theorem okAL {n t : Nat} {l : List Nat} {f : Nat → Int} (h : okC n (t, l) f) (ht : t = 22) : ∀ j, w64 (f j) = f j := by
  rcases h with ⟨h, -⟩ | ⟨-, h⟩ | ⟨h, -⟩
  · simp only at h; omega
  · exact h
  · simp only at h; omega
theorem okO {n ci : Nat} {refs : List Nat} {f : Nat → Int} (h : okC n (ci, refs) f) (hc : ci < 9) : refs.length = cN ci ∧ ∀ k, k < cN ci → okV n (fget ci refs f k) := by
  rcases h with ⟨h, -⟩ | ⟨h, -⟩ | ⟨-, h⟩
  · simp only at h; omega
  · simp only at h; omega
  · exact h
theorem bool_fit {x : Int} (h : x = 0 ∨ x = 1) : narrow .boolean (.int (Int32.ofInt x)) = .int (Int32.ofInt x) ∧ fits .boolean (.int (Int32.ofInt x)) = true ∧ vp_nar .boolean (Int32.ofInt x) = Int32.ofInt x := by
  rcases h with rfl | rfl <;> exact ⟨rfl, rfl, rfl⟩
theorem nat_i32 (N : Nat) : Int32.ofNat N = Int32.ofInt N := by
  first | exact Int32.ofInt_eq_ofNat.symm | exact Int32.ofInt_eq_ofNat | rfl | (apply Int32.toInt_inj.mp; simp [Int32.toInt_ofNat', Int32.toInt_ofInt])
theorem lcmp_w (x z : Int) : w32 (lcmpZ x z) = lcmpZ x z := by
  unfold lcmpZ
  split
  · decide
  · split <;> decide
theorem w0z' : w32 0 = 0 := by decide
section ARMS
variable {p : Program} {l : Launch} {e : Env} {R : Room} {s : State} {m : MethodId} {args : Array Value} {below : List Frame} {meth : Method} {c : Code} {Qf : State → Prop} {C : pC} {X : pX} {M : pM} {D : va_G} {tA : Nat → ClassId} {A : Nat → Prop} {b : Nat → Nat} {d c0 s0 : Nat} {ad0 : Nat → Nat} {yF : pY} {Q : Option pV → pG → Prop} {n pc : Nat} {loc stk : List pV} {y : pY} {g : pG}
theorem ar_iload {i : Nat} (CX : Cx p l e R s m args meth c X M D tA A b d c0 s0 yF)  (hd : decode M.1 pc = .ok (.iload i, n)) (h : stepP C X (SP p l e R s m args below meth c Qf M D tA A b c0 s0 ad0) yF Q M (.iload i) n pc loc stk y g) : (SP p l e R s m args below meth c Qf M D tA A b c0 s0 ad0) pc loc stk y g := by
  obtain ⟨hx, hb, hml, hown, hB, hN, hK, hA, hin, hRf, hRl, hRc, hRs, hScr⟩ := CX
  obtain ⟨rfl, x, hl, hk⟩ := h
  intro H locs ls ad hs
  obtain ⟨h1, h2, h3, h4, h5, h6, h7, h8, h9⟩ := hs
  refine lv_iload hx hb hd (lv_look h1 hl (by intro h; cases h)) ?_
  exact hk H locs ls ad ⟨h1, h2, h3, h4, h5, h6, ok_cons (h6 _ (List.mem_of_getElem? hl)) h7, h8, h9⟩

theorem ar_iload_n {i : Fin 4} (CX : Cx p l e R s m args meth c X M D tA A b d c0 s0 yF)  (hd : decode M.1 pc = .ok (.iload_n i, n)) (h : stepP C X (SP p l e R s m args below meth c Qf M D tA A b c0 s0 ad0) yF Q M (.iload_n i) n pc loc stk y g) : (SP p l e R s m args below meth c Qf M D tA A b c0 s0 ad0) pc loc stk y g := by
  obtain ⟨hx, hb, hml, hown, hB, hN, hK, hA, hin, hRf, hRl, hRc, hRs, hScr⟩ := CX
  obtain ⟨rfl, x, hl, hk⟩ := h
  intro H locs ls ad hs
  obtain ⟨h1, h2, h3, h4, h5, h6, h7, h8, h9⟩ := hs
  refine lv_iload_n hx hb hd rfl (lv_look h1 hl (by intro h; cases h)) ?_
  exact hk H locs ls ad ⟨h1, h2, h3, h4, h5, h6, ok_cons (h6 _ (List.mem_of_getElem? hl)) h7, h8, h9⟩

theorem ar_lload {i : Nat} (CX : Cx p l e R s m args meth c X M D tA A b d c0 s0 yF)  (hd : decode M.1 pc = .ok (.lload i, n)) (h : stepP C X (SP p l e R s m args below meth c Qf M D tA A b c0 s0 ad0) yF Q M (.lload i) n pc loc stk y g) : (SP p l e R s m args below meth c Qf M D tA A b c0 s0 ad0) pc loc stk y g := by
  obtain ⟨hx, hb, hml, hown, hB, hN, hK, hA, hin, hRf, hRl, hRc, hRs, hScr⟩ := CX
  obtain ⟨rfl, x, hl, hk⟩ := h
  intro H locs ls ad hs
  obtain ⟨h1, h2, h3, h4, h5, h6, h7, h8, h9⟩ := hs
  refine lv_lload hx hb hd (lv_look h1 hl (by intro h; cases h)) ?_
  exact hk H locs ls ad ⟨h1, h2, h3, h4, h5, h6, ok_cons (h6 _ (List.mem_of_getElem? hl)) h7, h8, h9⟩

theorem ar_lload_n {i : Fin 4} (CX : Cx p l e R s m args meth c X M D tA A b d c0 s0 yF)  (hd : decode M.1 pc = .ok (.lload_n i, n)) (h : stepP C X (SP p l e R s m args below meth c Qf M D tA A b c0 s0 ad0) yF Q M (.lload_n i) n pc loc stk y g) : (SP p l e R s m args below meth c Qf M D tA A b c0 s0 ad0) pc loc stk y g := by
  obtain ⟨hx, hb, hml, hown, hB, hN, hK, hA, hin, hRf, hRl, hRc, hRs, hScr⟩ := CX
  obtain ⟨rfl, x, hl, hk⟩ := h
  intro H locs ls ad hs
  obtain ⟨h1, h2, h3, h4, h5, h6, h7, h8, h9⟩ := hs
  refine lv_lload_n hx hb hd rfl (lv_look h1 hl (by intro h; cases h)) ?_
  exact hk H locs ls ad ⟨h1, h2, h3, h4, h5, h6, ok_cons (h6 _ (List.mem_of_getElem? hl)) h7, h8, h9⟩

theorem ar_aload {i : Nat} (CX : Cx p l e R s m args meth c X M D tA A b d c0 s0 yF)  (hd : decode M.1 pc = .ok (.aload i, n)) (h : stepP C X (SP p l e R s m args below meth c Qf M D tA A b c0 s0 ad0) yF Q M (.aload i) n pc loc stk y g) : (SP p l e R s m args below meth c Qf M D tA A b c0 s0 ad0) pc loc stk y g := by
  obtain ⟨hx, hb, hml, hown, hB, hN, hK, hA, hin, hRf, hRl, hRc, hRs, hScr⟩ := CX
  obtain ⟨rfl, v, hl, hr, hk⟩ := h
  intro H locs ls ad hs
  obtain ⟨h1, h2, h3, h4, h5, h6, h7, h8, h9⟩ := hs
  obtain ⟨a, ha⟩ := cv_isR ad b hr
  refine lv_aload hx hb hd (by have := lv_look h1 hl (isR_ne hr); rw [ha] at this; exact this) ?_
  rw [← ha]
  exact hk H locs ls ad ⟨h1, h2, h3, h4, h5, h6, ok_cons (h6 _ (List.mem_of_getElem? hl)) h7, h8, h9⟩

theorem ar_istore {i : Nat} (CX : Cx p l e R s m args meth c X M D tA A b d c0 s0 yF)  (hd : decode M.1 pc = .ok (.istore i, n)) (h : stepP C X (SP p l e R s m args below meth c Qf M D tA A b c0 s0 ad0) yF Q M (.istore i) n pc loc stk y g) : (SP p l e R s m args below meth c Qf M D tA A b c0 s0 ad0) pc loc stk y g := by
  obtain ⟨hx, hb, hml, hown, hB, hN, hK, hA, hin, hRf, hRl, hRc, hRs, hScr⟩ := CX
  obtain ⟨rfl, x, rest, rfl, hi, hpre, hk⟩ := h
  intro H locs ls ad hs
  obtain ⟨h1, h2, h3, h4, h5, h6, h7, h8, h9⟩ := hs
  show W p l e R s m args below meth c H locs (y.length - c0) (sz y - s0) Qf (F0 m pc ls (.int (Int32.ofInt x) :: rest.map (cv ad b)))
  refine lv_istore (lv := plst ad b 0 loc) (nL := M.2.1) hx hb hd h1 hi rfl (fun ls2 hl2 => ?_)
  exact hk H locs ls2 ad ⟨lv_more hl2 (plst_set1 hpre), (by rw [List.length_set]; exact h2), h3, h4, h5, ok_set h6 (ok_head h7), ok_tail h7, h8, h9⟩

theorem ar_lstore {i : Nat} (CX : Cx p l e R s m args meth c X M D tA A b d c0 s0 yF)  (hd : decode M.1 pc = .ok (.lstore i, n)) (h : stepP C X (SP p l e R s m args below meth c Qf M D tA A b c0 s0 ad0) yF Q M (.lstore i) n pc loc stk y g) : (SP p l e R s m args below meth c Qf M D tA A b c0 s0 ad0) pc loc stk y g := by
  obtain ⟨hx, hb, hml, hown, hB, hN, hK, hA, hin, hRf, hRl, hRc, hRs, hScr⟩ := CX
  obtain ⟨rfl, x, rest, rfl, hi, hpre, hk⟩ := h
  intro H locs ls ad hs
  obtain ⟨h1, h2, h3, h4, h5, h6, h7, h8, h9⟩ := hs
  show W p l e R s m args below meth c H locs (y.length - c0) (sz y - s0) Qf (F0 m pc ls (.long (Int64.ofInt x) :: rest.map (cv ad b)))
  refine lv_lstore (lv := plst ad b 0 loc) (nL := M.2.1) hx hb hd h1 hi rfl (fun ls2 hl2 => ?_)
  exact hk H locs ls2 ad ⟨lv_more hl2 (plst_set2 hpre), (by rw [List.length_set, List.length_set]; exact h2), h3, h4, h5, ok_set (ok_set h6 (ok_head h7)) trivial, ok_tail h7, h8, h9⟩

theorem ar_astore {i : Nat} (CX : Cx p l e R s m args meth c X M D tA A b d c0 s0 yF)  (hd : decode M.1 pc = .ok (.astore i, n)) (h : stepP C X (SP p l e R s m args below meth c Qf M D tA A b c0 s0 ad0) yF Q M (.astore i) n pc loc stk y g) : (SP p l e R s m args below meth c Qf M D tA A b c0 s0 ad0) pc loc stk y g := by
  obtain ⟨hx, hb, hml, hown, hB, hN, hK, hA, hin, hRf, hRl, hRc, hRs, hScr⟩ := CX
  obtain ⟨rfl, v, rest, rfl, hr, hi, hpre, hk⟩ := h
  intro H locs ls ad hs
  obtain ⟨h1, h2, h3, h4, h5, h6, h7, h8, h9⟩ := hs
  obtain ⟨a, ha⟩ := cv_isR ad b hr
  show W p l e R s m args below meth c H locs (y.length - c0) (sz y - s0) Qf (F0 m pc ls (cv ad b v :: rest.map (cv ad b)))
  rw [ha]
  refine lv_astore (lv := plst ad b 0 loc) (nL := M.2.1) hx hb hd h1 hi rfl (fun ls2 hl2 => ?_)
  rw [← ha] at hl2
  exact hk H locs ls2 ad ⟨lv_more hl2 (plst_set1 hpre), (by rw [List.length_set]; exact h2), h3, h4, h5, ok_set h6 (ok_head h7), ok_tail h7, h8, h9⟩

theorem ar_aload_n {i : Fin 4} (CX : Cx p l e R s m args meth c X M D tA A b d c0 s0 yF)  (hd : decode M.1 pc = .ok (.aload_n i, n)) (h : stepP C X (SP p l e R s m args below meth c Qf M D tA A b c0 s0 ad0) yF Q M (.aload_n i) n pc loc stk y g) : (SP p l e R s m args below meth c Qf M D tA A b c0 s0 ad0) pc loc stk y g := by
  obtain ⟨hx, hb, hml, hown, hB, hN, hK, hA, hin, hRf, hRl, hRc, hRs, hScr⟩ := CX
  obtain ⟨rfl, v, hl, hr, hk⟩ := h
  intro H locs ls ad hs
  obtain ⟨h1, h2, h3, h4, h5, h6, h7, h8, h9⟩ := hs
  obtain ⟨a, ha⟩ := cv_isR ad b hr
  refine lv_aload_n hx hb hd rfl (by have := lv_look h1 hl (isR_ne hr); rw [ha] at this; exact this) ?_
  rw [← ha]
  exact hk H locs ls ad ⟨h1, h2, h3, h4, h5, h6, ok_cons (h6 _ (List.mem_of_getElem? hl)) h7, h8, h9⟩

theorem ar_istore_n {i : Fin 4} (CX : Cx p l e R s m args meth c X M D tA A b d c0 s0 yF)  (hd : decode M.1 pc = .ok (.istore_n i, n)) (h : stepP C X (SP p l e R s m args below meth c Qf M D tA A b c0 s0 ad0) yF Q M (.istore_n i) n pc loc stk y g) : (SP p l e R s m args below meth c Qf M D tA A b c0 s0 ad0) pc loc stk y g := by
  obtain ⟨hx, hb, hml, hown, hB, hN, hK, hA, hin, hRf, hRl, hRc, hRs, hScr⟩ := CX
  obtain ⟨rfl, x, rest, rfl, hi, hpre, hk⟩ := h
  intro H locs ls ad hs
  obtain ⟨h1, h2, h3, h4, h5, h6, h7, h8, h9⟩ := hs
  show W p l e R s m args below meth c H locs (y.length - c0) (sz y - s0) Qf (F0 m pc ls (.int (Int32.ofInt x) :: rest.map (cv ad b)))
  refine lv_istore_n (lv := plst ad b 0 loc) (nL := M.2.1) hx hb hd rfl h1 hi rfl (fun ls2 hl2 => ?_)
  exact hk H locs ls2 ad ⟨lv_more hl2 (plst_set1 hpre), (by rw [List.length_set]; exact h2), h3, h4, h5, ok_set h6 (ok_head h7), ok_tail h7, h8, h9⟩

theorem ar_lstore_n {i : Fin 4} (CX : Cx p l e R s m args meth c X M D tA A b d c0 s0 yF)  (hd : decode M.1 pc = .ok (.lstore_n i, n)) (h : stepP C X (SP p l e R s m args below meth c Qf M D tA A b c0 s0 ad0) yF Q M (.lstore_n i) n pc loc stk y g) : (SP p l e R s m args below meth c Qf M D tA A b c0 s0 ad0) pc loc stk y g := by
  obtain ⟨hx, hb, hml, hown, hB, hN, hK, hA, hin, hRf, hRl, hRc, hRs, hScr⟩ := CX
  obtain ⟨rfl, x, rest, rfl, hi, hpre, hk⟩ := h
  intro H locs ls ad hs
  obtain ⟨h1, h2, h3, h4, h5, h6, h7, h8, h9⟩ := hs
  show W p l e R s m args below meth c H locs (y.length - c0) (sz y - s0) Qf (F0 m pc ls (.long (Int64.ofInt x) :: rest.map (cv ad b)))
  refine lv_lstore_n (lv := plst ad b 0 loc) (nL := M.2.1) hx hb hd rfl h1 hi rfl (fun ls2 hl2 => ?_)
  exact hk H locs ls2 ad ⟨lv_more hl2 (plst_set2 hpre), (by rw [List.length_set, List.length_set]; exact h2), h3, h4, h5, ok_set (ok_set h6 (ok_head h7)) trivial, ok_tail h7, h8, h9⟩

theorem ar_astore_n {i : Fin 4} (CX : Cx p l e R s m args meth c X M D tA A b d c0 s0 yF)  (hd : decode M.1 pc = .ok (.astore_n i, n)) (h : stepP C X (SP p l e R s m args below meth c Qf M D tA A b c0 s0 ad0) yF Q M (.astore_n i) n pc loc stk y g) : (SP p l e R s m args below meth c Qf M D tA A b c0 s0 ad0) pc loc stk y g := by
  obtain ⟨hx, hb, hml, hown, hB, hN, hK, hA, hin, hRf, hRl, hRc, hRs, hScr⟩ := CX
  obtain ⟨rfl, v, rest, rfl, hr, hi, hpre, hk⟩ := h
  intro H locs ls ad hs
  obtain ⟨h1, h2, h3, h4, h5, h6, h7, h8, h9⟩ := hs
  obtain ⟨a, ha⟩ := cv_isR ad b hr
  show W p l e R s m args below meth c H locs (y.length - c0) (sz y - s0) Qf (F0 m pc ls (cv ad b v :: rest.map (cv ad b)))
  rw [ha]
  refine lv_astore_n (lv := plst ad b 0 loc) (nL := M.2.1) hx hb hd rfl h1 hi rfl (fun ls2 hl2 => ?_)
  rw [← ha] at hl2
  exact hk H locs ls2 ad ⟨lv_more hl2 (plst_set1 hpre), (by rw [List.length_set]; exact h2), h3, h4, h5, ok_set h6 (ok_head h7), ok_tail h7, h8, h9⟩

theorem ar_iconst {u : Int} (CX : Cx p l e R s m args meth c X M D tA A b d c0 s0 yF)  (hd : decode M.1 pc = .ok (.iconst u, n)) (h : stepP C X (SP p l e R s m args below meth c Qf M D tA A b c0 s0 ad0) yF Q M (.iconst u) n pc loc stk y g) : (SP p l e R s m args below meth c Qf M D tA A b c0 s0 ad0) pc loc stk y g := by
  obtain ⟨hx, hb, hml, hown, hB, hN, hK, hA, hin, hRf, hRl, hRc, hRs, hScr⟩ := CX
  obtain ⟨rfl, hw, hk⟩ := h
  intro H locs ls ad hs
  obtain ⟨h1, h2, h3, h4, h5, h6, h7, h8, h9⟩ := hs
  refine lv_iconst (v := Int32.ofInt u) hx hb hd rfl ?_
  exact hk H locs ls ad ⟨h1, h2, h3, h4, h5, h6, ok_cons hw h7, h8, h9⟩

theorem ar_bipush {u : Int} (CX : Cx p l e R s m args meth c X M D tA A b d c0 s0 yF)  (hd : decode M.1 pc = .ok (.bipush u, n)) (h : stepP C X (SP p l e R s m args below meth c Qf M D tA A b c0 s0 ad0) yF Q M (.bipush u) n pc loc stk y g) : (SP p l e R s m args below meth c Qf M D tA A b c0 s0 ad0) pc loc stk y g := by
  obtain ⟨hx, hb, hml, hown, hB, hN, hK, hA, hin, hRf, hRl, hRc, hRs, hScr⟩ := CX
  obtain ⟨rfl, he, hw, hk⟩ := h
  intro H locs ls ad hs
  obtain ⟨h1, h2, h3, h4, h5, h6, h7, h8, h9⟩ := hs
  refine lv_bipush (v := Int32.ofInt u) hx hb hd he ?_
  exact hk H locs ls ad ⟨h1, h2, h3, h4, h5, h6, ok_cons hw h7, h8, h9⟩

theorem ar_sipush {u : Int} (CX : Cx p l e R s m args meth c X M D tA A b d c0 s0 yF)  (hd : decode M.1 pc = .ok (.sipush u, n)) (h : stepP C X (SP p l e R s m args below meth c Qf M D tA A b c0 s0 ad0) yF Q M (.sipush u) n pc loc stk y g) : (SP p l e R s m args below meth c Qf M D tA A b c0 s0 ad0) pc loc stk y g := by
  obtain ⟨hx, hb, hml, hown, hB, hN, hK, hA, hin, hRf, hRl, hRc, hRs, hScr⟩ := CX
  obtain ⟨rfl, he, hw, hk⟩ := h
  intro H locs ls ad hs
  obtain ⟨h1, h2, h3, h4, h5, h6, h7, h8, h9⟩ := hs
  refine lv_sipush (v := Int32.ofInt u) hx hb hd he ?_
  exact hk H locs ls ad ⟨h1, h2, h3, h4, h5, h6, ok_cons hw h7, h8, h9⟩

theorem ar_lconst {u : Fin 2} (CX : Cx p l e R s m args meth c X M D tA A b d c0 s0 yF)  (hd : decode M.1 pc = .ok (.lconst u, n)) (h : stepP C X (SP p l e R s m args below meth c Qf M D tA A b c0 s0 ad0) yF Q M (.lconst u) n pc loc stk y g) : (SP p l e R s m args below meth c Qf M D tA A b c0 s0 ad0) pc loc stk y g := by
  obtain ⟨hx, hb, hml, hown, hB, hN, hK, hA, hin, hRf, hRl, hRc, hRs, hScr⟩ := CX
  obtain ⟨rfl, hk⟩ := h
  intro H locs ls ad hs
  obtain ⟨h1, h2, h3, h4, h5, h6, h7, h8, h9⟩ := hs
  refine lv_lconst (v := Int64.ofInt (u : Nat)) hx hb hd (by match u with | 0 => rfl | 1 => rfl) ?_
  exact hk H locs ls ad ⟨h1, h2, h3, h4, h5, h6, ok_cons (by match u with | 0 => exact (by decide : w64 0 = 0) | 1 => exact (by decide : w64 1 = 1)) h7, h8, h9⟩

theorem ar_ldc {i : Nat} (CX : Cx p l e R s m args meth c X M D tA A b d c0 s0 yF)  (hd : decode M.1 pc = .ok (.ldc i, n)) (h : stepP C X (SP p l e R s m args below meth c Qf M D tA A b c0 s0 ad0) yF Q M (.ldc i) n pc loc stk y g) : (SP p l e R s m args below meth c Qf M D tA A b c0 s0 ad0) pc loc stk y g := by
  obtain ⟨hx, hb, hml, hown, hB, hN, hK, hA, hin, hRf, hRl, hRc, hRs, hScr⟩ := CX
  obtain ⟨rfl, hk⟩ := h
  intro H locs ls ad hs
  obtain ⟨h1, h2, h3, h4, h5, h6, h7, h8, h9⟩ := hs
  rcases hk with ⟨x, hc, hk⟩ | ⟨q, hc, hk⟩
  · obtain ⟨hw, hi⟩ := klk_in hc
    refine lv_ldc hx hb hown (hB _ hw) hd ?_
    exact hk H locs ls ad ⟨h1, h2, h3, h4, h5, h6, ok_cons hi h7, h8, h9⟩
  · obtain ⟨e1, j, hj, rfl, rfl⟩ := slk_in hc
    have hown' : s.vm.findClass "AppealsDown$Letters" = some m.cls := by rw [e1] at hown; exact hown
    refine va_ldcS (own := "AppealsDown$Letters") (tx := (STx j).2) (q := b (3 + j)) hx hb hown' (hN.2.2.1 j hj) hd ?_
    have ek : cv ad b (vX (3 + j)) = .ref (b (3 + j)) := cv_x (by omega)
    rw [← ek]
    exact hk H locs ls ad ⟨h1, h2, h3, h4, h5, h6, ok_cons trivial h7, h8, h9⟩

theorem ar_getstatic {i : Nat} (CX : Cx p l e R s m args meth c X M D tA A b d c0 s0 yF)  (hd : decode M.1 pc = .ok (.getstatic i, n)) (h : stepP C X (SP p l e R s m args below meth c Qf M D tA A b c0 s0 ad0) yF Q M (.getstatic i) n pc loc stk y g) : (SP p l e R s m args below meth c Qf M D tA A b c0 s0 ad0) pc loc stk y g := by
  obtain ⟨hx, hb, hml, hown, hB, hN, hK, hA, hin, hRf, hRl, hRc, hRs, hScr⟩ := CX
  obtain ⟨rfl, hM, hk⟩ := h
  intro H locs ls ad hs
  obtain ⟨h1, h2, h3, h4, h5, h6, h7, h8, h9⟩ := hs
  have hown' : s.vm.findClass "java/lang/String" = some m.cls := by rw [hM] at hown; exact hown
  rcases hk with ⟨rfl, hk⟩ | ⟨rfl, hk⟩
  · refine va_gets (C := "java/lang/String") (n := "COMPACT_STRINGS") (d := "Z") (own := "java/lang/String") (ref := "java/lang/String") (v := .int 1) hx hb hN.2.2.2.1 h5 hown' (hB _ (big_in SF_38 rfl)) (fun _ hq => hq) hd ?_
    exact hk H locs ls ad ⟨h1, h2, h3, h4, h5, h6, ok_cons (by decide : w32 1 = 1) h7, h8, h9⟩
  · rcases hN.2.2.2.2 with hz | hz
    · refine va_gets (C := "jdk/internal/util/Preconditions") (n := "SIOOBE_FORMATTER") (d := "Ljava/util/function/BiFunction;") (own := "java/lang/String") (ref := "jdk/internal/util/Preconditions") (v := .null) hx hb hz h5 hown' (hB _ (big_in SF_1053 rfl)) (fun _ hq => hq) hd ?_
      exact hk (vX 0) (Or.inl rfl) H locs ls ad ⟨h1, h2, h3, h4, h5, h6, ok_cons trivial h7, h8, h9⟩
    · refine va_gets (C := "jdk/internal/util/Preconditions") (n := "SIOOBE_FORMATTER") (d := "Ljava/util/function/BiFunction;") (own := "java/lang/String") (ref := "jdk/internal/util/Preconditions") (v := .ref (b 18)) hx hb hz h5 hown' (hB _ (big_in SF_1053 rfl)) (fun _ hq => hq) hd ?_
      exact hk (vX 18) (Or.inr rfl) H locs ls ad ⟨h1, h2, h3, h4, h5, h6, ok_cons trivial h7, h8, h9⟩

theorem ar_i2c  (CX : Cx p l e R s m args meth c X M D tA A b d c0 s0 yF)  (hd : decode M.1 pc = .ok (.i2c, n)) (h : stepP C X (SP p l e R s m args below meth c Qf M D tA A b c0 s0 ad0) yF Q M (.i2c) n pc loc stk y g) : (SP p l e R s m args below meth c Qf M D tA A b c0 s0 ad0) pc loc stk y g := by
  obtain ⟨hx, hb, hml, hown, hB, hN, hK, hA, hin, hRf, hRl, hRc, hRs, hScr⟩ := CX
  obtain ⟨rfl, x, rest, rfl, hlo, hhi, hk⟩ := h
  intro H locs ls ad hs
  obtain ⟨h1, h2, h3, h4, h5, h6, h7, h8, h9⟩ := hs
  show W p l e R s m args below meth c H locs (y.length - c0) (sz y - s0) Qf (F0 m pc ls (.int (Int32.ofInt x) :: rest.map (cv ad b)))
  refine lv_i2c (v := Int32.ofInt x) hx hb hd (i2c_fit hlo hhi) ?_
  exact hk H locs ls ad ⟨h1, h2, h3, h4, h5, h6, h7, h8, h9⟩

theorem ar_ldc_w {i : Nat} (CX : Cx p l e R s m args meth c X M D tA A b d c0 s0 yF)  (hd : decode M.1 pc = .ok (.ldc_w i, n)) (h : stepP C X (SP p l e R s m args below meth c Qf M D tA A b c0 s0 ad0) yF Q M (.ldc_w i) n pc loc stk y g) : (SP p l e R s m args below meth c Qf M D tA A b c0 s0 ad0) pc loc stk y g := by
  obtain ⟨hx, hb, hml, hown, hB, hN, hK, hA, hin, hRf, hRl, hRc, hRs, hScr⟩ := CX
  obtain ⟨rfl, x, hc, hk⟩ := h
  intro H locs ls ad hs
  obtain ⟨h1, h2, h3, h4, h5, h6, h7, h8, h9⟩ := hs
  obtain ⟨hw, hi⟩ := klk_in hc
  refine lv_ldcw hx hb hown (hB _ hw) hd ?_
  exact hk H locs ls ad ⟨h1, h2, h3, h4, h5, h6, ok_cons hi h7, h8, h9⟩

theorem ar_ldc2_w {i : Nat} (CX : Cx p l e R s m args meth c X M D tA A b d c0 s0 yF)  (hd : decode M.1 pc = .ok (.ldc2_w i, n)) (h : stepP C X (SP p l e R s m args below meth c Qf M D tA A b c0 s0 ad0) yF Q M (.ldc2_w i) n pc loc stk y g) : (SP p l e R s m args below meth c Qf M D tA A b c0 s0 ad0) pc loc stk y g := by
  obtain ⟨hx, hb, hml, hown, hB, hN, hK, hA, hin, hRf, hRl, hRc, hRs, hScr⟩ := CX
  obtain ⟨rfl, x, hc, hk⟩ := h
  intro H locs ls ad hs
  obtain ⟨h1, h2, h3, h4, h5, h6, h7, h8, h9⟩ := hs
  obtain ⟨hw, hi⟩ := kl2_in hc
  refine lv_ldc2 hx hb hown (hB _ hw) hd ?_
  exact hk H locs ls ad ⟨h1, h2, h3, h4, h5, h6, ok_cons hi h7, h8, h9⟩

theorem ar_iinc {i : Nat} {u : Int} (CX : Cx p l e R s m args meth c X M D tA A b d c0 s0 yF)  (hd : decode M.1 pc = .ok (.iinc i u, n)) (h : stepP C X (SP p l e R s m args below meth c Qf M D tA A b c0 s0 ad0) yF Q M (.iinc i u) n pc loc stk y g) : (SP p l e R s m args below meth c Qf M D tA A b c0 s0 ad0) pc loc stk y g := by
  obtain ⟨hx, hb, hml, hown, hB, hN, hK, hA, hin, hRf, hRl, hRc, hRs, hScr⟩ := CX
  obtain ⟨rfl, x, hl, hi, hpre, hk⟩ := h
  intro H locs ls ad hs
  obtain ⟨h1, h2, h3, h4, h5, h6, h7, h8, h9⟩ := hs
  have hin0 : (i, cv ad b (vI x)) ∈ plst ad b 0 loc := plst_mem.mpr ⟨i, vI x, hl, (by intro h; cases h), (by simp)⟩
  have h1' : lv_has ls M.2.1 ((i, cv ad b (vI x)) :: plst ad b 0 loc) := lv_more h1 (fun q hq => (List.mem_cons.mp hq).elim (fun e => e ▸ hin0) id)
  refine lv_iinc (k := 0) (x := Int32.ofInt x) (v := Int32.ofInt (w32 (x + u))) hx hb hd h1' rfl (by rw [o32_w, o32_add]) hi rfl (fun ls2 hl2 => ?_)
  exact hk H locs ls2 ad ⟨lv_more hl2 (fun q hq => (List.mem_cons.mp (plst_set1 (v := vI (w32 (x + u))) hpre q hq)).elim (fun e => e ▸ List.mem_cons_self) (fun h => List.mem_cons_of_mem _ (List.mem_filter.mpr ⟨List.mem_cons_of_mem _ (List.mem_filter.mp h).1, (List.mem_filter.mp h).2⟩))), (by rw [List.length_set]; exact h2), h3, h4, h5, ok_set h6 (w32_idem _), h7, h8, h9⟩

theorem ar_iadd  (CX : Cx p l e R s m args meth c X M D tA A b d c0 s0 yF)  (hd : decode M.1 pc = .ok (.iadd, n)) (h : stepP C X (SP p l e R s m args below meth c Qf M D tA A b c0 s0 ad0) yF Q M (.iadd) n pc loc stk y g) : (SP p l e R s m args below meth c Qf M D tA A b c0 s0 ad0) pc loc stk y g := by
  obtain ⟨hx, hb, hml, hown, hB, hN, hK, hA, hin, hRf, hRl, hRc, hRs, hScr⟩ := CX
  obtain ⟨rfl, x, z, rest, rfl, hk⟩ := h
  intro H locs ls ad hs
  obtain ⟨h1, h2, h3, h4, h5, h6, h7, h8, h9⟩ := hs
  show W p l e R s m args below meth c H locs (y.length - c0) (sz y - s0) Qf (F0 m pc ls (.int (Int32.ofInt z) :: .int (Int32.ofInt x) :: rest.map (cv ad b)))
  refine lv_iadd hx hb hd ?_
  rw [o32_add, ← o32_w]
  exact hk H locs ls ad ⟨h1, h2, h3, h4, h5, h6, ok_cons (w32_idem _) (ok_tail (ok_tail h7)), h8, h9⟩

theorem ar_isub  (CX : Cx p l e R s m args meth c X M D tA A b d c0 s0 yF)  (hd : decode M.1 pc = .ok (.isub, n)) (h : stepP C X (SP p l e R s m args below meth c Qf M D tA A b c0 s0 ad0) yF Q M (.isub) n pc loc stk y g) : (SP p l e R s m args below meth c Qf M D tA A b c0 s0 ad0) pc loc stk y g := by
  obtain ⟨hx, hb, hml, hown, hB, hN, hK, hA, hin, hRf, hRl, hRc, hRs, hScr⟩ := CX
  obtain ⟨rfl, x, z, rest, rfl, hk⟩ := h
  intro H locs ls ad hs
  obtain ⟨h1, h2, h3, h4, h5, h6, h7, h8, h9⟩ := hs
  show W p l e R s m args below meth c H locs (y.length - c0) (sz y - s0) Qf (F0 m pc ls (.int (Int32.ofInt z) :: .int (Int32.ofInt x) :: rest.map (cv ad b)))
  refine lv_isub hx hb hd ?_
  rw [o32_sub, ← o32_w]
  exact hk H locs ls ad ⟨h1, h2, h3, h4, h5, h6, ok_cons (w32_idem _) (ok_tail (ok_tail h7)), h8, h9⟩

theorem ar_imul  (CX : Cx p l e R s m args meth c X M D tA A b d c0 s0 yF)  (hd : decode M.1 pc = .ok (.imul, n)) (h : stepP C X (SP p l e R s m args below meth c Qf M D tA A b c0 s0 ad0) yF Q M (.imul) n pc loc stk y g) : (SP p l e R s m args below meth c Qf M D tA A b c0 s0 ad0) pc loc stk y g := by
  obtain ⟨hx, hb, hml, hown, hB, hN, hK, hA, hin, hRf, hRl, hRc, hRs, hScr⟩ := CX
  obtain ⟨rfl, x, z, rest, rfl, hk⟩ := h
  intro H locs ls ad hs
  obtain ⟨h1, h2, h3, h4, h5, h6, h7, h8, h9⟩ := hs
  show W p l e R s m args below meth c H locs (y.length - c0) (sz y - s0) Qf (F0 m pc ls (.int (Int32.ofInt z) :: .int (Int32.ofInt x) :: rest.map (cv ad b)))
  refine lv_imul hx hb hd ?_
  rw [o32_mul, ← o32_w]
  exact hk H locs ls ad ⟨h1, h2, h3, h4, h5, h6, ok_cons (w32_idem _) (ok_tail (ok_tail h7)), h8, h9⟩

theorem ar_iand  (CX : Cx p l e R s m args meth c X M D tA A b d c0 s0 yF)  (hd : decode M.1 pc = .ok (.iand, n)) (h : stepP C X (SP p l e R s m args below meth c Qf M D tA A b c0 s0 ad0) yF Q M (.iand) n pc loc stk y g) : (SP p l e R s m args below meth c Qf M D tA A b c0 s0 ad0) pc loc stk y g := by
  obtain ⟨hx, hb, hml, hown, hB, hN, hK, hA, hin, hRf, hRl, hRc, hRs, hScr⟩ := CX
  obtain ⟨rfl, x, z, rest, rfl, hk⟩ := h
  intro H locs ls ad hs
  obtain ⟨h1, h2, h3, h4, h5, h6, h7, h8, h9⟩ := hs
  show W p l e R s m args below meth c H locs (y.length - c0) (sz y - s0) Qf (F0 m pc ls (.int (Int32.ofInt z) :: .int (Int32.ofInt x) :: rest.map (cv ad b)))
  refine lv_iand hx hb hd ?_
  rw [show Int32.ofInt x &&& Int32.ofInt z = Int32.ofInt (zand x z) from (o32_t _).symm]
  exact hk H locs ls ad ⟨h1, h2, h3, h4, h5, h6, ok_cons (w32_toInt _) (ok_tail (ok_tail h7)), h8, h9⟩

theorem ar_ior  (CX : Cx p l e R s m args meth c X M D tA A b d c0 s0 yF)  (hd : decode M.1 pc = .ok (.ior, n)) (h : stepP C X (SP p l e R s m args below meth c Qf M D tA A b c0 s0 ad0) yF Q M (.ior) n pc loc stk y g) : (SP p l e R s m args below meth c Qf M D tA A b c0 s0 ad0) pc loc stk y g := by
  obtain ⟨hx, hb, hml, hown, hB, hN, hK, hA, hin, hRf, hRl, hRc, hRs, hScr⟩ := CX
  obtain ⟨rfl, x, z, rest, rfl, hk⟩ := h
  intro H locs ls ad hs
  obtain ⟨h1, h2, h3, h4, h5, h6, h7, h8, h9⟩ := hs
  show W p l e R s m args below meth c H locs (y.length - c0) (sz y - s0) Qf (F0 m pc ls (.int (Int32.ofInt z) :: .int (Int32.ofInt x) :: rest.map (cv ad b)))
  refine lv_ior hx hb hd ?_
  rw [show Int32.ofInt x ||| Int32.ofInt z = Int32.ofInt (zor x z) from (o32_t _).symm]
  exact hk H locs ls ad ⟨h1, h2, h3, h4, h5, h6, ok_cons (w32_toInt _) (ok_tail (ok_tail h7)), h8, h9⟩

theorem ar_ishl  (CX : Cx p l e R s m args meth c X M D tA A b d c0 s0 yF)  (hd : decode M.1 pc = .ok (.ishl, n)) (h : stepP C X (SP p l e R s m args below meth c Qf M D tA A b c0 s0 ad0) yF Q M (.ishl) n pc loc stk y g) : (SP p l e R s m args below meth c Qf M D tA A b c0 s0 ad0) pc loc stk y g := by
  obtain ⟨hx, hb, hml, hown, hB, hN, hK, hA, hin, hRf, hRl, hRc, hRs, hScr⟩ := CX
  obtain ⟨rfl, x, z, rest, rfl, hk⟩ := h
  intro H locs ls ad hs
  obtain ⟨h1, h2, h3, h4, h5, h6, h7, h8, h9⟩ := hs
  show W p l e R s m args below meth c H locs (y.length - c0) (sz y - s0) Qf (F0 m pc ls (.int (Int32.ofInt z) :: .int (Int32.ofInt x) :: rest.map (cv ad b)))
  refine lv_ishl hx hb hd ?_
  rw [show Int32.ofInt x <<< (Int32.ofInt z &&& 31) = Int32.ofInt (zshl x z) from (o32_t _).symm]
  exact hk H locs ls ad ⟨h1, h2, h3, h4, h5, h6, ok_cons (w32_toInt _) (ok_tail (ok_tail h7)), h8, h9⟩

theorem ar_ishr  (CX : Cx p l e R s m args meth c X M D tA A b d c0 s0 yF)  (hd : decode M.1 pc = .ok (.ishr, n)) (h : stepP C X (SP p l e R s m args below meth c Qf M D tA A b c0 s0 ad0) yF Q M (.ishr) n pc loc stk y g) : (SP p l e R s m args below meth c Qf M D tA A b c0 s0 ad0) pc loc stk y g := by
  obtain ⟨hx, hb, hml, hown, hB, hN, hK, hA, hin, hRf, hRl, hRc, hRs, hScr⟩ := CX
  obtain ⟨rfl, x, z, rest, rfl, hk⟩ := h
  intro H locs ls ad hs
  obtain ⟨h1, h2, h3, h4, h5, h6, h7, h8, h9⟩ := hs
  show W p l e R s m args below meth c H locs (y.length - c0) (sz y - s0) Qf (F0 m pc ls (.int (Int32.ofInt z) :: .int (Int32.ofInt x) :: rest.map (cv ad b)))
  refine lv_ishr hx hb hd ?_
  rw [show Int32.ofInt x >>> (Int32.ofInt z &&& 31) = Int32.ofInt (zshr x z) from (o32_t _).symm]
  exact hk H locs ls ad ⟨h1, h2, h3, h4, h5, h6, ok_cons (w32_toInt _) (ok_tail (ok_tail h7)), h8, h9⟩

theorem ar_iushr  (CX : Cx p l e R s m args meth c X M D tA A b d c0 s0 yF)  (hd : decode M.1 pc = .ok (.iushr, n)) (h : stepP C X (SP p l e R s m args below meth c Qf M D tA A b c0 s0 ad0) yF Q M (.iushr) n pc loc stk y g) : (SP p l e R s m args below meth c Qf M D tA A b c0 s0 ad0) pc loc stk y g := by
  obtain ⟨hx, hb, hml, hown, hB, hN, hK, hA, hin, hRf, hRl, hRc, hRs, hScr⟩ := CX
  obtain ⟨rfl, x, z, rest, rfl, hk⟩ := h
  intro H locs ls ad hs
  obtain ⟨h1, h2, h3, h4, h5, h6, h7, h8, h9⟩ := hs
  show W p l e R s m args below meth c H locs (y.length - c0) (sz y - s0) Qf (F0 m pc ls (.int (Int32.ofInt z) :: .int (Int32.ofInt x) :: rest.map (cv ad b)))
  refine lv_iushr (v := Int32.ofInt (zushr x z)) hx hb hd (o32_t _).symm ?_
  exact hk H locs ls ad ⟨h1, h2, h3, h4, h5, h6, ok_cons (w32_toInt _) (ok_tail (ok_tail h7)), h8, h9⟩

theorem ar_idiv  (CX : Cx p l e R s m args meth c X M D tA A b d c0 s0 yF)  (hd : decode M.1 pc = .ok (.idiv, n)) (h : stepP C X (SP p l e R s m args below meth c Qf M D tA A b c0 s0 ad0) yF Q M (.idiv) n pc loc stk y g) : (SP p l e R s m args below meth c Qf M D tA A b c0 s0 ad0) pc loc stk y g := by
  obtain ⟨hx, hb, hml, hown, hB, hN, hK, hA, hin, hRf, hRl, hRc, hRs, hScr⟩ := CX
  obtain ⟨rfl, x, z, rest, rfl, hz, hk⟩ := h
  intro H locs ls ad hs
  obtain ⟨h1, h2, h3, h4, h5, h6, h7, h8, h9⟩ := hs
  have wz : w32 z = z := ok_head h7
  have wx : w32 x = x := ok_head (ok_tail h7)
  show W p l e R s m args below meth c H locs (y.length - c0) (sz y - s0) Qf (F0 m pc ls (.int (Int32.ofInt z) :: .int (Int32.ofInt x) :: rest.map (cv ad b)))
  refine lv_idiv hx hb hd (fun e => hz ((o32_eq wz (by decide)).mp e)) ?_
  rw [o32_div wx wz, ← o32_w]
  exact hk H locs ls ad ⟨h1, h2, h3, h4, h5, h6, ok_cons (w32_idem _) (ok_tail (ok_tail h7)), h8, h9⟩

theorem ar_irem  (CX : Cx p l e R s m args meth c X M D tA A b d c0 s0 yF)  (hd : decode M.1 pc = .ok (.irem, n)) (h : stepP C X (SP p l e R s m args below meth c Qf M D tA A b c0 s0 ad0) yF Q M (.irem) n pc loc stk y g) : (SP p l e R s m args below meth c Qf M D tA A b c0 s0 ad0) pc loc stk y g := by
  obtain ⟨hx, hb, hml, hown, hB, hN, hK, hA, hin, hRf, hRl, hRc, hRs, hScr⟩ := CX
  obtain ⟨rfl, x, z, rest, rfl, hz, hk⟩ := h
  intro H locs ls ad hs
  obtain ⟨h1, h2, h3, h4, h5, h6, h7, h8, h9⟩ := hs
  have wz : w32 z = z := ok_head h7
  have wx : w32 x = x := ok_head (ok_tail h7)
  show W p l e R s m args below meth c H locs (y.length - c0) (sz y - s0) Qf (F0 m pc ls (.int (Int32.ofInt z) :: .int (Int32.ofInt x) :: rest.map (cv ad b)))
  refine lv_irem hx hb hd (fun e => hz ((o32_eq wz (by decide)).mp e)) ?_
  rw [o32_rem wx wz, ← o32_w]
  exact hk H locs ls ad ⟨h1, h2, h3, h4, h5, h6, ok_cons (w32_idem _) (ok_tail (ok_tail h7)), h8, h9⟩

theorem ar_ineg  (CX : Cx p l e R s m args meth c X M D tA A b d c0 s0 yF)  (hd : decode M.1 pc = .ok (.ineg, n)) (h : stepP C X (SP p l e R s m args below meth c Qf M D tA A b c0 s0 ad0) yF Q M (.ineg) n pc loc stk y g) : (SP p l e R s m args below meth c Qf M D tA A b c0 s0 ad0) pc loc stk y g := by
  obtain ⟨hx, hb, hml, hown, hB, hN, hK, hA, hin, hRf, hRl, hRc, hRs, hScr⟩ := CX
  obtain ⟨rfl, x, rest, rfl, hk⟩ := h
  intro H locs ls ad hs
  obtain ⟨h1, h2, h3, h4, h5, h6, h7, h8, h9⟩ := hs
  show W p l e R s m args below meth c H locs (y.length - c0) (sz y - s0) Qf (F0 m pc ls (.int (Int32.ofInt x) :: rest.map (cv ad b)))
  refine lv_ineg hx hb hd ?_
  rw [o32_neg, ← o32_w]
  exact hk H locs ls ad ⟨h1, h2, h3, h4, h5, h6, ok_cons (w32_idem _) (ok_tail h7), h8, h9⟩

theorem ar_ladd  (CX : Cx p l e R s m args meth c X M D tA A b d c0 s0 yF)  (hd : decode M.1 pc = .ok (.ladd, n)) (h : stepP C X (SP p l e R s m args below meth c Qf M D tA A b c0 s0 ad0) yF Q M (.ladd) n pc loc stk y g) : (SP p l e R s m args below meth c Qf M D tA A b c0 s0 ad0) pc loc stk y g := by
  obtain ⟨hx, hb, hml, hown, hB, hN, hK, hA, hin, hRf, hRl, hRc, hRs, hScr⟩ := CX
  obtain ⟨rfl, x, z, rest, rfl, hk⟩ := h
  intro H locs ls ad hs
  obtain ⟨h1, h2, h3, h4, h5, h6, h7, h8, h9⟩ := hs
  show W p l e R s m args below meth c H locs (y.length - c0) (sz y - s0) Qf (F0 m pc ls (.long (Int64.ofInt z) :: .long (Int64.ofInt x) :: rest.map (cv ad b)))
  refine lv_ladd hx hb hd ?_
  rw [o64_add, ← o64_w]
  exact hk H locs ls ad ⟨h1, h2, h3, h4, h5, h6, ok_cons (w64_idem _) (ok_tail (ok_tail h7)), h8, h9⟩

theorem ar_lsub  (CX : Cx p l e R s m args meth c X M D tA A b d c0 s0 yF)  (hd : decode M.1 pc = .ok (.lsub, n)) (h : stepP C X (SP p l e R s m args below meth c Qf M D tA A b c0 s0 ad0) yF Q M (.lsub) n pc loc stk y g) : (SP p l e R s m args below meth c Qf M D tA A b c0 s0 ad0) pc loc stk y g := by
  obtain ⟨hx, hb, hml, hown, hB, hN, hK, hA, hin, hRf, hRl, hRc, hRs, hScr⟩ := CX
  obtain ⟨rfl, x, z, rest, rfl, hk⟩ := h
  intro H locs ls ad hs
  obtain ⟨h1, h2, h3, h4, h5, h6, h7, h8, h9⟩ := hs
  show W p l e R s m args below meth c H locs (y.length - c0) (sz y - s0) Qf (F0 m pc ls (.long (Int64.ofInt z) :: .long (Int64.ofInt x) :: rest.map (cv ad b)))
  refine lv_lsub hx hb hd ?_
  rw [o64_sub, ← o64_w]
  exact hk H locs ls ad ⟨h1, h2, h3, h4, h5, h6, ok_cons (w64_idem _) (ok_tail (ok_tail h7)), h8, h9⟩

theorem ar_lmul  (CX : Cx p l e R s m args meth c X M D tA A b d c0 s0 yF)  (hd : decode M.1 pc = .ok (.lmul, n)) (h : stepP C X (SP p l e R s m args below meth c Qf M D tA A b c0 s0 ad0) yF Q M (.lmul) n pc loc stk y g) : (SP p l e R s m args below meth c Qf M D tA A b c0 s0 ad0) pc loc stk y g := by
  obtain ⟨hx, hb, hml, hown, hB, hN, hK, hA, hin, hRf, hRl, hRc, hRs, hScr⟩ := CX
  obtain ⟨rfl, x, z, rest, rfl, hk⟩ := h
  intro H locs ls ad hs
  obtain ⟨h1, h2, h3, h4, h5, h6, h7, h8, h9⟩ := hs
  show W p l e R s m args below meth c H locs (y.length - c0) (sz y - s0) Qf (F0 m pc ls (.long (Int64.ofInt z) :: .long (Int64.ofInt x) :: rest.map (cv ad b)))
  refine lv_lmul hx hb hd ?_
  rw [o64_mul, ← o64_w]
  exact hk H locs ls ad ⟨h1, h2, h3, h4, h5, h6, ok_cons (w64_idem _) (ok_tail (ok_tail h7)), h8, h9⟩

theorem ar_ldiv  (CX : Cx p l e R s m args meth c X M D tA A b d c0 s0 yF)  (hd : decode M.1 pc = .ok (.ldiv, n)) (h : stepP C X (SP p l e R s m args below meth c Qf M D tA A b c0 s0 ad0) yF Q M (.ldiv) n pc loc stk y g) : (SP p l e R s m args below meth c Qf M D tA A b c0 s0 ad0) pc loc stk y g := by
  obtain ⟨hx, hb, hml, hown, hB, hN, hK, hA, hin, hRf, hRl, hRc, hRs, hScr⟩ := CX
  obtain ⟨rfl, x, z, rest, rfl, hz, hk⟩ := h
  intro H locs ls ad hs
  obtain ⟨h1, h2, h3, h4, h5, h6, h7, h8, h9⟩ := hs
  have wz : w64 z = z := ok_head h7
  have wx : w64 x = x := ok_head (ok_tail h7)
  show W p l e R s m args below meth c H locs (y.length - c0) (sz y - s0) Qf (F0 m pc ls (.long (Int64.ofInt z) :: .long (Int64.ofInt x) :: rest.map (cv ad b)))
  refine lv_ldiv hx hb hd (fun e => hz ((o64_eq wz (by decide)).mp e)) ?_
  rw [o64_div wx wz, ← o64_w]
  exact hk H locs ls ad ⟨h1, h2, h3, h4, h5, h6, ok_cons (w64_idem _) (ok_tail (ok_tail h7)), h8, h9⟩

theorem ar_lrem  (CX : Cx p l e R s m args meth c X M D tA A b d c0 s0 yF)  (hd : decode M.1 pc = .ok (.lrem, n)) (h : stepP C X (SP p l e R s m args below meth c Qf M D tA A b c0 s0 ad0) yF Q M (.lrem) n pc loc stk y g) : (SP p l e R s m args below meth c Qf M D tA A b c0 s0 ad0) pc loc stk y g := by
  obtain ⟨hx, hb, hml, hown, hB, hN, hK, hA, hin, hRf, hRl, hRc, hRs, hScr⟩ := CX
  obtain ⟨rfl, x, z, rest, rfl, hz, hk⟩ := h
  intro H locs ls ad hs
  obtain ⟨h1, h2, h3, h4, h5, h6, h7, h8, h9⟩ := hs
  have wz : w64 z = z := ok_head h7
  have wx : w64 x = x := ok_head (ok_tail h7)
  show W p l e R s m args below meth c H locs (y.length - c0) (sz y - s0) Qf (F0 m pc ls (.long (Int64.ofInt z) :: .long (Int64.ofInt x) :: rest.map (cv ad b)))
  refine lv_lrem hx hb hd (fun e => hz ((o64_eq wz (by decide)).mp e)) ?_
  rw [o64_rem wx wz, ← o64_w]
  exact hk H locs ls ad ⟨h1, h2, h3, h4, h5, h6, ok_cons (w64_idem _) (ok_tail (ok_tail h7)), h8, h9⟩

theorem ar_i2l  (CX : Cx p l e R s m args meth c X M D tA A b d c0 s0 yF)  (hd : decode M.1 pc = .ok (.i2l, n)) (h : stepP C X (SP p l e R s m args below meth c Qf M D tA A b c0 s0 ad0) yF Q M (.i2l) n pc loc stk y g) : (SP p l e R s m args below meth c Qf M D tA A b c0 s0 ad0) pc loc stk y g := by
  obtain ⟨hx, hb, hml, hown, hB, hN, hK, hA, hin, hRf, hRl, hRc, hRs, hScr⟩ := CX
  obtain ⟨rfl, x, rest, rfl, hk⟩ := h
  intro H locs ls ad hs
  obtain ⟨h1, h2, h3, h4, h5, h6, h7, h8, h9⟩ := hs
  have wx : w32 x = x := ok_head h7
  have hr := w32_rng x
  rw [wx] at hr
  show W p l e R s m args below meth c H locs (y.length - c0) (sz y - s0) Qf (F0 m pc ls (.int (Int32.ofInt x) :: rest.map (cv ad b)))
  refine lv_i2l (v := Int64.ofInt x) hx hb hd (o32_i2l wx) ?_
  exact hk H locs ls ad ⟨h1, h2, h3, h4, h5, h6, ok_cons (w64_of (by omega) (by omega)) (ok_tail h7), h8, h9⟩

theorem ar_lcmp  (CX : Cx p l e R s m args meth c X M D tA A b d c0 s0 yF)  (hd : decode M.1 pc = .ok (.lcmp, n)) (h : stepP C X (SP p l e R s m args below meth c Qf M D tA A b c0 s0 ad0) yF Q M (.lcmp) n pc loc stk y g) : (SP p l e R s m args below meth c Qf M D tA A b c0 s0 ad0) pc loc stk y g := by
  obtain ⟨hx, hb, hml, hown, hB, hN, hK, hA, hin, hRf, hRl, hRc, hRs, hScr⟩ := CX
  obtain ⟨rfl, x, z, rest, rfl, hk⟩ := h
  intro H locs ls ad hs
  obtain ⟨h1, h2, h3, h4, h5, h6, h7, h8, h9⟩ := hs
  have wz : w64 z = z := ok_head h7
  have wx : w64 x = x := ok_head (ok_tail h7)
  show W p l e R s m args below meth c H locs (y.length - c0) (sz y - s0) Qf (F0 m pc ls (.long (Int64.ofInt z) :: .long (Int64.ofInt x) :: rest.map (cv ad b)))
  refine W.lcmp hx hb hd ?_
  have hl : lg_cmp (Int64.ofInt x) (Int64.ofInt z) = Int32.ofInt (lcmpZ x z) := by
    unfold lg_cmp lcmpZ
    simp only [gt_iff_lt, o64_lt wz wx, o64_eq wx wz]
    split
    · rw [if_neg (by omega), if_neg (by omega)]; rfl
    · split
      · rw [if_neg (by omega)]; rfl
      · rw [if_pos (by omega)]; rfl
  rw [hl]
  exact hk H locs ls ad ⟨h1, h2, h3, h4, h5, h6, ok_cons (lcmp_w x z) (ok_tail (ok_tail h7)), h8, h9⟩

theorem ar_dup  (CX : Cx p l e R s m args meth c X M D tA A b d c0 s0 yF)  (hd : decode M.1 pc = .ok (.dup, n)) (h : stepP C X (SP p l e R s m args below meth c Qf M D tA A b c0 s0 ad0) yF Q M (.dup) n pc loc stk y g) : (SP p l e R s m args below meth c Qf M D tA A b c0 s0 ad0) pc loc stk y g := by
  obtain ⟨hx, hb, hml, hown, hB, hN, hK, hA, hin, hRf, hRl, hRc, hRs, hScr⟩ := CX
  obtain ⟨rfl, v, rest, rfl, hv, hk⟩ := h
  intro H locs ls ad hs
  obtain ⟨h1, h2, h3, h4, h5, h6, h7, h8, h9⟩ := hs
  show W p l e R s m args below meth c H locs (y.length - c0) (sz y - s0) Qf (F0 m pc ls (cv ad b v :: rest.map (cv ad b)))
  refine lv_dup hx hb hd (cv_cat1 ad b hv) ?_
  exact hk H locs ls ad ⟨h1, h2, h3, h4, h5, h6, ok_cons (ok_head h7) h7, h8, h9⟩

theorem ar_dup2  (CX : Cx p l e R s m args meth c X M D tA A b d c0 s0 yF)  (hd : decode M.1 pc = .ok (.dup2, n)) (h : stepP C X (SP p l e R s m args below meth c Qf M D tA A b c0 s0 ad0) yF Q M (.dup2) n pc loc stk y g) : (SP p l e R s m args below meth c Qf M D tA A b c0 s0 ad0) pc loc stk y g := by
  obtain ⟨hx, hb, hml, hown, hB, hN, hK, hA, hin, hRf, hRl, hRc, hRs, hScr⟩ := CX
  obtain ⟨rfl, v, u, rest, rfl, hv, hu, hk⟩ := h
  intro H locs ls ad hs
  obtain ⟨h1, h2, h3, h4, h5, h6, h7, h8, h9⟩ := hs
  show W p l e R s m args below meth c H locs (y.length - c0) (sz y - s0) Qf (F0 m pc ls (cv ad b v :: cv ad b u :: rest.map (cv ad b)))
  refine lv_dup2_11 hx hb hd (cv_cat1 ad b hv) (cv_cat1 ad b hu) ?_
  exact hk H locs ls ad ⟨h1, h2, h3, h4, h5, h6, ok_cons (ok_head h7) (ok_cons (ok_head (ok_tail h7)) h7), h8, h9⟩

theorem ar_pop  (CX : Cx p l e R s m args meth c X M D tA A b d c0 s0 yF)  (hd : decode M.1 pc = .ok (.pop, n)) (h : stepP C X (SP p l e R s m args below meth c Qf M D tA A b c0 s0 ad0) yF Q M (.pop) n pc loc stk y g) : (SP p l e R s m args below meth c Qf M D tA A b c0 s0 ad0) pc loc stk y g := by
  obtain ⟨hx, hb, hml, hown, hB, hN, hK, hA, hin, hRf, hRl, hRc, hRs, hScr⟩ := CX
  obtain ⟨rfl, v, rest, rfl, hv, hk⟩ := h
  intro H locs ls ad hs
  obtain ⟨h1, h2, h3, h4, h5, h6, h7, h8, h9⟩ := hs
  show W p l e R s m args below meth c H locs (y.length - c0) (sz y - s0) Qf (F0 m pc ls (cv ad b v :: rest.map (cv ad b)))
  refine lv_pop hx hb hd (cv_cat1 ad b hv) ?_
  exact hk H locs ls ad ⟨h1, h2, h3, h4, h5, h6, ok_tail h7, h8, h9⟩

theorem ar_if_eq {off : Int} (CX : Cx p l e R s m args meth c X M D tA A b d c0 s0 yF)  (hd : decode M.1 pc = .ok (.ifCond .eq off, n)) (h : stepP C X (SP p l e R s m args below meth c Qf M D tA A b c0 s0 ad0) yF Q M (.ifCond .eq off) n pc loc stk y g) : (SP p l e R s m args below meth c Qf M D tA A b c0 s0 ad0) pc loc stk y g := by
  obtain ⟨hx, hb, hml, hown, hB, hN, hK, hA, hin, hRf, hRl, hRc, hRs, hScr⟩ := CX
  obtain ⟨rfl, x, rest, tgt, rfl, ht, hk1, hk2⟩ := h
  intro H locs ls ad hs
  obtain ⟨h1, h2, h3, h4, h5, h6, h7, h8, h9⟩ := hs
  have wx : w32 x = x := ok_head h7
  have wz : w32 0 = 0 := by decide
  show W p l e R s m args below meth c H locs (y.length - c0) (sz y - s0) Qf (F0 m pc ls (.int (Int32.ofInt x) :: rest.map (cv ad b)))
  refine lv_if_eq hx hb hd ht (fun hc => ?_) (fun hc => ?_)
  · exact hk1 ((o32_eq wx wz).mp hc) H locs ls ad ⟨h1, h2, h3, h4, h5, h6, ok_tail h7, h8, h9⟩
  · exact hk2 (fun q => hc ((o32_eq wx wz).mpr q)) H locs ls ad ⟨h1, h2, h3, h4, h5, h6, ok_tail h7, h8, h9⟩

theorem ar_icmp_eq {off : Int} (CX : Cx p l e R s m args meth c X M D tA A b d c0 s0 yF)  (hd : decode M.1 pc = .ok (.if_icmp .eq off, n)) (h : stepP C X (SP p l e R s m args below meth c Qf M D tA A b c0 s0 ad0) yF Q M (.if_icmp .eq off) n pc loc stk y g) : (SP p l e R s m args below meth c Qf M D tA A b c0 s0 ad0) pc loc stk y g := by
  obtain ⟨hx, hb, hml, hown, hB, hN, hK, hA, hin, hRf, hRl, hRc, hRs, hScr⟩ := CX
  obtain ⟨rfl, x, z, rest, tgt, rfl, ht, hk1, hk2⟩ := h
  intro H locs ls ad hs
  obtain ⟨h1, h2, h3, h4, h5, h6, h7, h8, h9⟩ := hs
  have wz : w32 z = z := ok_head h7
  have wx : w32 x = x := ok_head (ok_tail h7)
  show W p l e R s m args below meth c H locs (y.length - c0) (sz y - s0) Qf (F0 m pc ls (.int (Int32.ofInt z) :: .int (Int32.ofInt x) :: rest.map (cv ad b)))
  refine lv_icmp_eq hx hb hd ht (fun hc => ?_) (fun hc => ?_)
  · exact hk1 ((o32_eq wx wz).mp hc) H locs ls ad ⟨h1, h2, h3, h4, h5, h6, ok_tail (ok_tail h7), h8, h9⟩
  · exact hk2 (fun q => hc ((o32_eq wx wz).mpr q)) H locs ls ad ⟨h1, h2, h3, h4, h5, h6, ok_tail (ok_tail h7), h8, h9⟩

theorem ar_if_ne {off : Int} (CX : Cx p l e R s m args meth c X M D tA A b d c0 s0 yF)  (hd : decode M.1 pc = .ok (.ifCond .ne off, n)) (h : stepP C X (SP p l e R s m args below meth c Qf M D tA A b c0 s0 ad0) yF Q M (.ifCond .ne off) n pc loc stk y g) : (SP p l e R s m args below meth c Qf M D tA A b c0 s0 ad0) pc loc stk y g := by
  obtain ⟨hx, hb, hml, hown, hB, hN, hK, hA, hin, hRf, hRl, hRc, hRs, hScr⟩ := CX
  obtain ⟨rfl, x, rest, tgt, rfl, ht, hk1, hk2⟩ := h
  intro H locs ls ad hs
  obtain ⟨h1, h2, h3, h4, h5, h6, h7, h8, h9⟩ := hs
  have wx : w32 x = x := ok_head h7
  have wz : w32 0 = 0 := by decide
  show W p l e R s m args below meth c H locs (y.length - c0) (sz y - s0) Qf (F0 m pc ls (.int (Int32.ofInt x) :: rest.map (cv ad b)))
  refine lv_if_ne hx hb hd ht (fun hc => ?_) (fun hc => ?_)
  · exact hk1 ((not_congr (o32_eq wx wz)).mp hc) H locs ls ad ⟨h1, h2, h3, h4, h5, h6, ok_tail h7, h8, h9⟩
  · exact hk2 (fun q => q ((o32_eq wx wz).mp hc)) H locs ls ad ⟨h1, h2, h3, h4, h5, h6, ok_tail h7, h8, h9⟩

theorem ar_icmp_ne {off : Int} (CX : Cx p l e R s m args meth c X M D tA A b d c0 s0 yF)  (hd : decode M.1 pc = .ok (.if_icmp .ne off, n)) (h : stepP C X (SP p l e R s m args below meth c Qf M D tA A b c0 s0 ad0) yF Q M (.if_icmp .ne off) n pc loc stk y g) : (SP p l e R s m args below meth c Qf M D tA A b c0 s0 ad0) pc loc stk y g := by
  obtain ⟨hx, hb, hml, hown, hB, hN, hK, hA, hin, hRf, hRl, hRc, hRs, hScr⟩ := CX
  obtain ⟨rfl, x, z, rest, tgt, rfl, ht, hk1, hk2⟩ := h
  intro H locs ls ad hs
  obtain ⟨h1, h2, h3, h4, h5, h6, h7, h8, h9⟩ := hs
  have wz : w32 z = z := ok_head h7
  have wx : w32 x = x := ok_head (ok_tail h7)
  show W p l e R s m args below meth c H locs (y.length - c0) (sz y - s0) Qf (F0 m pc ls (.int (Int32.ofInt z) :: .int (Int32.ofInt x) :: rest.map (cv ad b)))
  refine lv_icmp_ne hx hb hd ht (fun hc => ?_) (fun hc => ?_)
  · exact hk1 ((not_congr (o32_eq wx wz)).mp hc) H locs ls ad ⟨h1, h2, h3, h4, h5, h6, ok_tail (ok_tail h7), h8, h9⟩
  · exact hk2 (fun q => q ((o32_eq wx wz).mp hc)) H locs ls ad ⟨h1, h2, h3, h4, h5, h6, ok_tail (ok_tail h7), h8, h9⟩

theorem ar_if_lt {off : Int} (CX : Cx p l e R s m args meth c X M D tA A b d c0 s0 yF)  (hd : decode M.1 pc = .ok (.ifCond .lt off, n)) (h : stepP C X (SP p l e R s m args below meth c Qf M D tA A b c0 s0 ad0) yF Q M (.ifCond .lt off) n pc loc stk y g) : (SP p l e R s m args below meth c Qf M D tA A b c0 s0 ad0) pc loc stk y g := by
  obtain ⟨hx, hb, hml, hown, hB, hN, hK, hA, hin, hRf, hRl, hRc, hRs, hScr⟩ := CX
  obtain ⟨rfl, x, rest, tgt, rfl, ht, hk1, hk2⟩ := h
  intro H locs ls ad hs
  obtain ⟨h1, h2, h3, h4, h5, h6, h7, h8, h9⟩ := hs
  have wx : w32 x = x := ok_head h7
  have wz : w32 0 = 0 := by decide
  show W p l e R s m args below meth c H locs (y.length - c0) (sz y - s0) Qf (F0 m pc ls (.int (Int32.ofInt x) :: rest.map (cv ad b)))
  refine lv_if_lt hx hb hd ht (fun hc => ?_) (fun hc => ?_)
  · exact hk1 ((o32_lt wx wz).mp hc) H locs ls ad ⟨h1, h2, h3, h4, h5, h6, ok_tail h7, h8, h9⟩
  · exact hk2 (fun q => hc ((o32_lt wx wz).mpr q)) H locs ls ad ⟨h1, h2, h3, h4, h5, h6, ok_tail h7, h8, h9⟩

theorem ar_icmp_lt {off : Int} (CX : Cx p l e R s m args meth c X M D tA A b d c0 s0 yF)  (hd : decode M.1 pc = .ok (.if_icmp .lt off, n)) (h : stepP C X (SP p l e R s m args below meth c Qf M D tA A b c0 s0 ad0) yF Q M (.if_icmp .lt off) n pc loc stk y g) : (SP p l e R s m args below meth c Qf M D tA A b c0 s0 ad0) pc loc stk y g := by
  obtain ⟨hx, hb, hml, hown, hB, hN, hK, hA, hin, hRf, hRl, hRc, hRs, hScr⟩ := CX
  obtain ⟨rfl, x, z, rest, tgt, rfl, ht, hk1, hk2⟩ := h
  intro H locs ls ad hs
  obtain ⟨h1, h2, h3, h4, h5, h6, h7, h8, h9⟩ := hs
  have wz : w32 z = z := ok_head h7
  have wx : w32 x = x := ok_head (ok_tail h7)
  show W p l e R s m args below meth c H locs (y.length - c0) (sz y - s0) Qf (F0 m pc ls (.int (Int32.ofInt z) :: .int (Int32.ofInt x) :: rest.map (cv ad b)))
  refine lv_icmp_lt hx hb hd ht (fun hc => ?_) (fun hc => ?_)
  · exact hk1 ((o32_lt wx wz).mp hc) H locs ls ad ⟨h1, h2, h3, h4, h5, h6, ok_tail (ok_tail h7), h8, h9⟩
  · exact hk2 (fun q => hc ((o32_lt wx wz).mpr q)) H locs ls ad ⟨h1, h2, h3, h4, h5, h6, ok_tail (ok_tail h7), h8, h9⟩

theorem ar_if_ge {off : Int} (CX : Cx p l e R s m args meth c X M D tA A b d c0 s0 yF)  (hd : decode M.1 pc = .ok (.ifCond .ge off, n)) (h : stepP C X (SP p l e R s m args below meth c Qf M D tA A b c0 s0 ad0) yF Q M (.ifCond .ge off) n pc loc stk y g) : (SP p l e R s m args below meth c Qf M D tA A b c0 s0 ad0) pc loc stk y g := by
  obtain ⟨hx, hb, hml, hown, hB, hN, hK, hA, hin, hRf, hRl, hRc, hRs, hScr⟩ := CX
  obtain ⟨rfl, x, rest, tgt, rfl, ht, hk1, hk2⟩ := h
  intro H locs ls ad hs
  obtain ⟨h1, h2, h3, h4, h5, h6, h7, h8, h9⟩ := hs
  have wx : w32 x = x := ok_head h7
  have wz : w32 0 = 0 := by decide
  show W p l e R s m args below meth c H locs (y.length - c0) (sz y - s0) Qf (F0 m pc ls (.int (Int32.ofInt x) :: rest.map (cv ad b)))
  refine lv_if_ge hx hb hd ht (fun hc => ?_) (fun hc => ?_)
  · exact hk1 ((o32_le wz wx).mp hc) H locs ls ad ⟨h1, h2, h3, h4, h5, h6, ok_tail h7, h8, h9⟩
  · exact hk2 (fun q => hc ((o32_le wz wx).mpr q)) H locs ls ad ⟨h1, h2, h3, h4, h5, h6, ok_tail h7, h8, h9⟩

theorem ar_icmp_ge {off : Int} (CX : Cx p l e R s m args meth c X M D tA A b d c0 s0 yF)  (hd : decode M.1 pc = .ok (.if_icmp .ge off, n)) (h : stepP C X (SP p l e R s m args below meth c Qf M D tA A b c0 s0 ad0) yF Q M (.if_icmp .ge off) n pc loc stk y g) : (SP p l e R s m args below meth c Qf M D tA A b c0 s0 ad0) pc loc stk y g := by
  obtain ⟨hx, hb, hml, hown, hB, hN, hK, hA, hin, hRf, hRl, hRc, hRs, hScr⟩ := CX
  obtain ⟨rfl, x, z, rest, tgt, rfl, ht, hk1, hk2⟩ := h
  intro H locs ls ad hs
  obtain ⟨h1, h2, h3, h4, h5, h6, h7, h8, h9⟩ := hs
  have wz : w32 z = z := ok_head h7
  have wx : w32 x = x := ok_head (ok_tail h7)
  show W p l e R s m args below meth c H locs (y.length - c0) (sz y - s0) Qf (F0 m pc ls (.int (Int32.ofInt z) :: .int (Int32.ofInt x) :: rest.map (cv ad b)))
  refine lv_icmp_ge hx hb hd ht (fun hc => ?_) (fun hc => ?_)
  · exact hk1 ((o32_le wz wx).mp hc) H locs ls ad ⟨h1, h2, h3, h4, h5, h6, ok_tail (ok_tail h7), h8, h9⟩
  · exact hk2 (fun q => hc ((o32_le wz wx).mpr q)) H locs ls ad ⟨h1, h2, h3, h4, h5, h6, ok_tail (ok_tail h7), h8, h9⟩

theorem ar_if_gt {off : Int} (CX : Cx p l e R s m args meth c X M D tA A b d c0 s0 yF)  (hd : decode M.1 pc = .ok (.ifCond .gt off, n)) (h : stepP C X (SP p l e R s m args below meth c Qf M D tA A b c0 s0 ad0) yF Q M (.ifCond .gt off) n pc loc stk y g) : (SP p l e R s m args below meth c Qf M D tA A b c0 s0 ad0) pc loc stk y g := by
  obtain ⟨hx, hb, hml, hown, hB, hN, hK, hA, hin, hRf, hRl, hRc, hRs, hScr⟩ := CX
  obtain ⟨rfl, x, rest, tgt, rfl, ht, hk1, hk2⟩ := h
  intro H locs ls ad hs
  obtain ⟨h1, h2, h3, h4, h5, h6, h7, h8, h9⟩ := hs
  have wx : w32 x = x := ok_head h7
  have wz : w32 0 = 0 := by decide
  show W p l e R s m args below meth c H locs (y.length - c0) (sz y - s0) Qf (F0 m pc ls (.int (Int32.ofInt x) :: rest.map (cv ad b)))
  refine lv_if_gt hx hb hd ht (fun hc => ?_) (fun hc => ?_)
  · exact hk1 ((o32_lt wz wx).mp hc) H locs ls ad ⟨h1, h2, h3, h4, h5, h6, ok_tail h7, h8, h9⟩
  · exact hk2 (fun q => hc ((o32_lt wz wx).mpr q)) H locs ls ad ⟨h1, h2, h3, h4, h5, h6, ok_tail h7, h8, h9⟩

theorem ar_icmp_gt {off : Int} (CX : Cx p l e R s m args meth c X M D tA A b d c0 s0 yF)  (hd : decode M.1 pc = .ok (.if_icmp .gt off, n)) (h : stepP C X (SP p l e R s m args below meth c Qf M D tA A b c0 s0 ad0) yF Q M (.if_icmp .gt off) n pc loc stk y g) : (SP p l e R s m args below meth c Qf M D tA A b c0 s0 ad0) pc loc stk y g := by
  obtain ⟨hx, hb, hml, hown, hB, hN, hK, hA, hin, hRf, hRl, hRc, hRs, hScr⟩ := CX
  obtain ⟨rfl, x, z, rest, tgt, rfl, ht, hk1, hk2⟩ := h
  intro H locs ls ad hs
  obtain ⟨h1, h2, h3, h4, h5, h6, h7, h8, h9⟩ := hs
  have wz : w32 z = z := ok_head h7
  have wx : w32 x = x := ok_head (ok_tail h7)
  show W p l e R s m args below meth c H locs (y.length - c0) (sz y - s0) Qf (F0 m pc ls (.int (Int32.ofInt z) :: .int (Int32.ofInt x) :: rest.map (cv ad b)))
  refine lv_icmp_gt hx hb hd ht (fun hc => ?_) (fun hc => ?_)
  · exact hk1 ((o32_lt wz wx).mp hc) H locs ls ad ⟨h1, h2, h3, h4, h5, h6, ok_tail (ok_tail h7), h8, h9⟩
  · exact hk2 (fun q => hc ((o32_lt wz wx).mpr q)) H locs ls ad ⟨h1, h2, h3, h4, h5, h6, ok_tail (ok_tail h7), h8, h9⟩

theorem ar_if_le {off : Int} (CX : Cx p l e R s m args meth c X M D tA A b d c0 s0 yF)  (hd : decode M.1 pc = .ok (.ifCond .le off, n)) (h : stepP C X (SP p l e R s m args below meth c Qf M D tA A b c0 s0 ad0) yF Q M (.ifCond .le off) n pc loc stk y g) : (SP p l e R s m args below meth c Qf M D tA A b c0 s0 ad0) pc loc stk y g := by
  obtain ⟨hx, hb, hml, hown, hB, hN, hK, hA, hin, hRf, hRl, hRc, hRs, hScr⟩ := CX
  obtain ⟨rfl, x, rest, tgt, rfl, ht, hk1, hk2⟩ := h
  intro H locs ls ad hs
  obtain ⟨h1, h2, h3, h4, h5, h6, h7, h8, h9⟩ := hs
  have wx : w32 x = x := ok_head h7
  have wz : w32 0 = 0 := by decide
  show W p l e R s m args below meth c H locs (y.length - c0) (sz y - s0) Qf (F0 m pc ls (.int (Int32.ofInt x) :: rest.map (cv ad b)))
  refine lv_if_le hx hb hd ht (fun hc => ?_) (fun hc => ?_)
  · exact hk1 ((o32_le wx wz).mp hc) H locs ls ad ⟨h1, h2, h3, h4, h5, h6, ok_tail h7, h8, h9⟩
  · exact hk2 (fun q => hc ((o32_le wx wz).mpr q)) H locs ls ad ⟨h1, h2, h3, h4, h5, h6, ok_tail h7, h8, h9⟩

theorem ar_icmp_le {off : Int} (CX : Cx p l e R s m args meth c X M D tA A b d c0 s0 yF)  (hd : decode M.1 pc = .ok (.if_icmp .le off, n)) (h : stepP C X (SP p l e R s m args below meth c Qf M D tA A b c0 s0 ad0) yF Q M (.if_icmp .le off) n pc loc stk y g) : (SP p l e R s m args below meth c Qf M D tA A b c0 s0 ad0) pc loc stk y g := by
  obtain ⟨hx, hb, hml, hown, hB, hN, hK, hA, hin, hRf, hRl, hRc, hRs, hScr⟩ := CX
  obtain ⟨rfl, x, z, rest, tgt, rfl, ht, hk1, hk2⟩ := h
  intro H locs ls ad hs
  obtain ⟨h1, h2, h3, h4, h5, h6, h7, h8, h9⟩ := hs
  have wz : w32 z = z := ok_head h7
  have wx : w32 x = x := ok_head (ok_tail h7)
  show W p l e R s m args below meth c H locs (y.length - c0) (sz y - s0) Qf (F0 m pc ls (.int (Int32.ofInt z) :: .int (Int32.ofInt x) :: rest.map (cv ad b)))
  refine lv_icmp_le hx hb hd ht (fun hc => ?_) (fun hc => ?_)
  · exact hk1 ((o32_le wx wz).mp hc) H locs ls ad ⟨h1, h2, h3, h4, h5, h6, ok_tail (ok_tail h7), h8, h9⟩
  · exact hk2 (fun q => hc ((o32_le wx wz).mpr q)) H locs ls ad ⟨h1, h2, h3, h4, h5, h6, ok_tail (ok_tail h7), h8, h9⟩

theorem ar_goto {off : Int} (CX : Cx p l e R s m args meth c X M D tA A b d c0 s0 yF)  (hd : decode M.1 pc = .ok (.goto off, n)) (h : stepP C X (SP p l e R s m args below meth c Qf M D tA A b c0 s0 ad0) yF Q M (.goto off) n pc loc stk y g) : (SP p l e R s m args below meth c Qf M D tA A b c0 s0 ad0) pc loc stk y g := by
  obtain ⟨hx, hb, hml, hown, hB, hN, hK, hA, hin, hRf, hRl, hRc, hRs, hScr⟩ := CX
  obtain ⟨rfl, tgt, ht, hk⟩ := h
  intro H locs ls ad hs
  obtain ⟨h1, h2, h3, h4, h5, h6, h7, h8, h9⟩ := hs
  refine lv_goto hx hb hd ht ?_
  exact hk H locs ls ad ⟨h1, h2, h3, h4, h5, h6, h7, h8, h9⟩

theorem ar_tsw {u lo hi : Int} {offs : Array Int} (CX : Cx p l e R s m args meth c X M D tA A b d c0 s0 yF)  (hd : decode M.1 pc = .ok (.tableswitch u lo hi offs, n)) (h : stepP C X (SP p l e R s m args below meth c Qf M D tA A b c0 s0 ad0) yF Q M (.tableswitch u lo hi offs) n pc loc stk y g) : (SP p l e R s m args below meth c Qf M D tA A b c0 s0 ad0) pc loc stk y g := by
  obtain ⟨hx, hb, hml, hown, hB, hN, hK, hA, hin, hRf, hRl, hRc, hRs, hScr⟩ := CX
  obtain ⟨x, rest, rfl, hk1, hk2⟩ := h
  intro H locs ls ad hs
  obtain ⟨h1, h2, h3, h4, h5, h6, h7, h8, h9⟩ := hs
  have wx : w32 x = x := ok_head h7
  have ex : (Int32.ofInt x).toInt = x := t32_o wx
  show W p l e R s m args below meth c H locs (y.length - c0) (sz y - s0) Qf (F0 m pc ls (.int (Int32.ofInt x) :: rest.map (cv ad b)))
  by_cases hc : x < lo ∨ hi < x
  · obtain ⟨tgt, ht, hk⟩ := hk1 hc
    refine lv_tableOut hx hb hd (by rw [ex]; exact hc) ht ?_
    exact hk H locs ls ad ⟨h1, h2, h3, h4, h5, h6, ok_tail h7, h8, h9⟩
  · have c1 : ¬ x < lo := fun q => hc (Or.inl q)
    have c2 : ¬ hi < x := fun q => hc (Or.inr q)
    obtain ⟨off, tgt, ho, ht, hk⟩ := hk2 c1 c2
    refine lv_tableIn hx hb hd (by rw [ex]; exact c1) (by rw [ex]; exact c2) (by rw [ex]; exact ho) ht ?_
    exact hk H locs ls ad ⟨h1, h2, h3, h4, h5, h6, ok_tail h7, h8, h9⟩

theorem ar_lsw {u : Int} {ps : Array (Int × Int)} (CX : Cx p l e R s m args meth c X M D tA A b d c0 s0 yF)  (hd : decode M.1 pc = .ok (.lookupswitch u ps, n)) (h : stepP C X (SP p l e R s m args below meth c Qf M D tA A b c0 s0 ad0) yF Q M (.lookupswitch u ps) n pc loc stk y g) : (SP p l e R s m args below meth c Qf M D tA A b c0 s0 ad0) pc loc stk y g := by
  obtain ⟨hx, hb, hml, hown, hB, hN, hK, hA, hin, hRf, hRl, hRc, hRs, hScr⟩ := CX
  obtain ⟨x, rest, off, tgt, rfl, hp, ho, ht, hk⟩ := h
  intro H locs ls ad hs
  obtain ⟨h1, h2, h3, h4, h5, h6, h7, h8, h9⟩ := hs
  have wx : w32 x = x := ok_head h7
  show W p l e R s m args below meth c H locs (y.length - c0) (sz y - s0) Qf (F0 m pc ls (.int (Int32.ofInt x) :: rest.map (cv ad b)))
  refine lv_lookup hx hb hd hp (by rw [t32_o wx]; exact ho) ht ?_
  exact hk H locs ls ad ⟨h1, h2, h3, h4, h5, h6, ok_tail h7, h8, h9⟩

theorem ar_getfield {i : Nat} (CX : Cx p l e R s m args meth c X M D tA A b d c0 s0 yF)  (hd : decode M.1 pc = .ok (.getfield i, n)) (h : stepP C X (SP p l e R s m args below meth c Qf M D tA A b c0 s0 ad0) yF Q M (.getfield i) n pc loc stk y g) : (SP p l e R s m args below meth c Qf M D tA A b c0 s0 ad0) pc loc stk y g := by
  obtain ⟨hx, hb, hml, hown, hB, hN, hK, hA, hin, hRf, hRl, hRc, hRs, hScr⟩ := CX
  obtain ⟨rfl, hk⟩ := h
  intro H locs ls ad hs
  obtain ⟨h1, h2, h3, h4, h5, h6, h7, h8, h9⟩ := hs
  rcases hk with ⟨a, rest, ci, k, nest, refs, rfl, hf, hy, hk⟩ | ⟨q, rest, rfl, hq3, hq10, hM, hk⟩
  · obtain ⟨hw, hkN, hci⟩ := flk_in hf
    have he := WS_get (ad := ad) (tA := tA) (g := g) hy
    rw [cE_obj hci] at he
    have ho := okO (h8 a _ hy) hci
    show W p l e R s m args below meth c H locs (y.length - c0) (sz y - s0) Qf (F0 m pc ls (.ref (ad a) :: rest.map (cv ad b)))
    have hT : ∀ x, s.fieldFound? (cT ci k).1 (cT ci k).2.1 (cT ci k).2.2.1 = some x → s.fieldFound? (cNm ci) (cT ci k).2.1 (cT ci k).2.2.1 = some x := fun x hq => by rw [← cT1 ci hci k hkN]; exact hq
    have hv := fs_at (ad := ad) (b := fun _ => 0) (F := fun k => fget ci refs (g a) k) hkN
    rw [fget_b (b' := b)] at hv
    cases nest with
    | false =>
      refine va_get (D := D) (cl := vwCl) (own := oNm M.2.2.2.1) (ref := cNm ci) (C := cNm ci) (T := cT ci) (N := cN ci) (ci := ci) (Ts := BIG) hx hb hB (lay_in hci) hown hK h3 a he (cls_at hci) k hkN (hB _ (big_in hw rfl)) hT hv hd ?_
      exact hk H locs ls ad ⟨h1, h2, h3, h4, h5, h6, ok_cons (ho.2 k hkN) (ok_tail h7), h8, h9⟩
    | true =>
      refine va_getN (D := D) (cl := vwCl) (own := oNm M.2.2.2.1) (ref := cNm ci) (C := cNm ci) (T := cT ci) (N := cN ci) (ci := ci) (Ts := BIG) hx hb hB (lay_in hci) hown hK h3 a he (cls_at hci) k hkN (va_Nw.use rfl (hN.1 _ (nsl_in hw rfl))) hT hv hd ?_
      exact hk H locs ls ad ⟨h1, h2, h3, h4, h5, h6, ok_cons (ho.2 k hkN) (ok_tail h7), h8, h9⟩
  · have hown' : s.vm.findClass "java/lang/String" = some m.cls := by rw [hM] at hown; exact hown
    obtain ⟨j, hj, rfl⟩ : ∃ j, j < 7 ∧ q = 3 + j := ⟨q - 3, by omega, by omega⟩
    have hE := hN.2.1.1 j hj
    have ek : cv ad b (vX (3 + j)) = .ref (b (3 + j)) := cv_x (by omega)
    show W p l e R s m args below meth c H locs (y.length - c0) (sz y - s0) Qf (F0 m pc ls (cv ad b (vX (3 + j)) :: rest.map (cv ad b)))
    rw [ek]
    rcases hk with ⟨rfl, hk⟩ | ⟨rfl, hk⟩
    · refine vk_getf (o := "java/lang/String") (n := "value") (d := "[B") (own := "java/lang/String") (ref := "java/lang/String") (v := .ref (b (10 + j))) hx hb hE.2.2.1 h5 hown' (hB _ (big_in SF_9 rfl)) (fun _ hq => hq) hd ?_
      have ev : cv ad b (vX (3 + j + 7)) = .ref (b (10 + j)) := by rw [cv_x (by omega), show 3 + j + 7 = 10 + j by omega]
      rw [← ev]
      exact hk H locs ls ad ⟨h1, h2, h3, h4, h5, h6, ok_cons trivial (ok_tail h7), h8, h9⟩
    · refine vk_getf (o := "java/lang/String") (n := "coder") (d := "B") (own := "java/lang/String") (ref := "java/lang/String") (v := .int 0) hx hb hE.2.1 h5 hown' (hB _ (big_in SF_15 rfl)) (fun _ hq => hq) hd ?_
      exact hk H locs ls ad ⟨h1, h2, h3, h4, h5, h6, ok_cons w0z' (ok_tail h7), h8, h9⟩

theorem ar_putfield {i : Nat} (CX : Cx p l e R s m args meth c X M D tA A b d c0 s0 yF)  (hd : decode M.1 pc = .ok (.putfield i, n)) (h : stepP C X (SP p l e R s m args below meth c Qf M D tA A b c0 s0 ad0) yF Q M (.putfield i) n pc loc stk y g) : (SP p l e R s m args below meth c Qf M D tA A b c0 s0 ad0) pc loc stk y g := by
  obtain ⟨hx, hb, hml, hown, hB, hN, hK, hA, hin, hRf, hRl, hRc, hRs, hScr⟩ := CX
  obtain ⟨rfl, v, a, rest, ci, k, nest, refs, rfl, hf, hy, hk⟩ := h
  intro H locs ls ad hs
  obtain ⟨h1, h2, h3, h4, h5, h6, h7, h8, h9⟩ := hs
  obtain ⟨hw, hkN, hci⟩ := flk_in hf
  have he := WS_get (ad := ad) (tA := tA) (g := g) hy
  rw [cE_obj hci] at he
  have ho := okO (h8 a _ hy) hci
  have hT : ∀ x, s.fieldFound? (cT ci k).1 (cT ci k).2.1 (cT ci k).2.2.1 = some x → s.fieldFound? (cNm ci) (cT ci k).2.1 (cT ci k).2.2.1 = some x := fun x hq => by rw [← cT1 ci hci k hkN]; exact hq
  have hlen : k < ((List.range (cN ci)).map (fun k => cv ad (fun _ => 0) (fget ci refs (g a) k))).length := by simpa using hkN
  rcases hk with ⟨x, rfl, hfin, hco, hk⟩ | ⟨q, rfl, hco, hkr, hfin, hnm, hcn, rfl, hk⟩ | ⟨q, rfl, hco, hfin, hk⟩
  · have hfit : narrow (cTy ci k) (.int (Int32.ofInt x)) = .int (Int32.ofInt x) ∧ fits (cTy ci k) (.int (Int32.ofInt x)) = true := by
      rcases hco with h0 | ⟨h0, hx01⟩
      · rw [fcode_0 h0]; exact ⟨rfl, rfl⟩
      · rw [fcode_1 h0]; exact ⟨(bool_fit hx01).1, (bool_fit hx01).2.1⟩
    have hnew : ∀ f : Nat → Int, fget ci refs (fup f k x) k = vI x := by
      intro f
      unfold fget
      rcases hco with h0 | ⟨h0, -⟩ <;> rw [h0] <;> simp [fup]
    have hset := fs_set (ad := ad) (b := fun _ => 0) (F := fun k => fget ci refs (g a) k) (F' := fun j => fget ci refs (fup (g a) k x) j) (v := .int (Int32.ofInt x)) hkN (by show cv ad _ (fget ci refs (fup (g a) k x) k) = _; rw [hnew]; rfl) (fun j hj => fget_ne (fup_ne (g a) x hj))
    have hws : (WS ad tA y g).set a (ad a, .inr (ci, ((List.range (cN ci)).map (fun k => cv ad (fun _ => 0) (fget ci refs (g a) k))).set k (.int (Int32.ofInt x)))) = WS ad tA y (cset g a (fup (g a) k x)) := by
      rw [hset, ← cE_obj (tA := tA) hci, WS_setg hy]
    have hok : okH y (cset g a (fup (g a) k x)) := h8.setg (fun sh hsh => by
      rw [hy] at hsh
      cases hsh
      refine Or.inr (Or.inr ⟨hci, ho.1, fun j hj => ?_⟩)
      by_cases hjk : j = k
      · subst hjk; rw [hnew]; exact ok_head h7
      · rw [fget_ne (fup_ne (g a) x hjk)]; exact ho.2 j hj)
    show W p l e R s m args below meth c H locs (y.length - c0) (sz y - s0) Qf (F0 m pc ls (.int (Int32.ofInt x) :: .ref (ad a) :: rest.map (cv ad b)))
    cases nest with
    | false =>
      refine va_put (D := D) (cl := vwCl) (own := oNm M.2.2.2.1) (ref := cNm ci) (C := cNm ci) (T := cT ci) (N := cN ci) (ci := ci) (Ts := BIG) hx hb hB (lay_in hci) (cTy ci) (cTy_ok hci) (cT_nm hci) hown hK h3 h4 h5 a he (cls_at hci) k hkN (hB _ (big_in hw rfl)) hT hfin (cTy_ok hci k hkN) hfit.1 hfit.2 hlen hd (fun H1 locs1 hP hD hS => ?_)
      rw [hws] at hP hD
      exact hk H1 locs1 ls ad ⟨h1, h2, hP, hD, hS, h6, ok_tail (ok_tail h7), hok, h9⟩
    | true =>
      refine va_putN (D := D) (cl := vwCl) (own := oNm M.2.2.2.1) (ref := cNm ci) (C := cNm ci) (T := cT ci) (N := cN ci) (ci := ci) (Ts := BIG) hx hb hB (lay_in hci) (cTy ci) (cTy_ok hci) (cT_nm hci) hown hK h3 h4 h5 a he (cls_at hci) k hkN (va_Nw.use rfl (hN.1 _ (nsl_in hw rfl))) hT hfin (cTy_ok hci k hkN) hfit.1 hfit.2 hlen hd (fun H1 locs1 hP hD hS => ?_)
      rw [hws] at hP hD
      exact hk H1 locs1 ls ad ⟨h1, h2, hP, hD, hS, h6, ok_tail (ok_tail h7), hok, h9⟩
  · have hq : q < y.length := ok_head h7
    have hrt := refTy ci hci k hkN (by rw [hco]; exact Nat.le_refl 2)
    have hfit := fits_ref hrt (ad q)
    have hnew : fget ci (refs.set k (q + 1)) (g a) k = vR q := by
      unfold fget
      rw [hco]
      show rv ((refs.set k (q + 1)).getD k 0) = vR q
      rw [List.getD_eq_getElem?_getD, List.getElem?_set_self hkr]
      rfl
    have hoth : ∀ j, j ≠ k → fget ci (refs.set k (q + 1)) (g a) j = fget ci refs (g a) j := by
      intro j hj
      unfold fget
      rw [List.getD_eq_getElem?_getD, List.getElem?_set_ne (fun e => hj e.symm), ← List.getD_eq_getElem?_getD]
    have hset := fs_set (ad := ad) (b := fun _ => 0) (F := fun k => fget ci refs (g a) k) (F' := fun j => fget ci (refs.set k (q + 1)) (g a) j) (v := .ref (ad q)) hkN (by show cv ad _ (fget ci (refs.set k (q + 1)) (g a) k) = _; rw [hnew]; rfl) hoth
    have hws : (WS ad tA y g).set a (ad a, .inr (ci, ((List.range (cN ci)).map (fun k => cv ad (fun _ => 0) (fget ci refs (g a) k))).set k (.ref (ad q)))) = WS ad tA (y.set a (ci, refs.set k (q + 1))) g := by
      rw [hset, ← cE_obj (tA := tA) hci, WS_sety hy]
    have hok : okH (y.set a (ci, refs.set k (q + 1))) g := h8.sety (by
      refine Or.inr (Or.inr ⟨hci, by rw [List.length_set]; exact ho.1, fun j hj => ?_⟩)
      by_cases hjk : j = k
      · subst hjk; show okV y.length (fget ci (refs.set j (q + 1)) (g a) j); rw [hnew]; exact hq
      · show okV y.length (fget ci (refs.set k (q + 1)) (g a) j); rw [hoth j hjk]; exact ho.2 j hj)
    show W p l e R s m args below meth c H locs (y.length - c0) (sz y - s0) Qf (F0 m pc ls (.ref (ad q) :: .ref (ad a) :: rest.map (cv ad b)))
    refine va_putF (D := D) (cl := vwCl) (own := oNm M.2.2.2.1) (ref := cNm ci) (C := cNm ci) (T := cT ci) (N := cN ci) (ci := ci) (Ts := BIG) hx hb hB (lay_in hci) (cTy ci) (cTy_ok hci) (cT_nm hci) hown hK h3 h4 h5 a he (cls_at hci) k hkN (hB _ (big_in hw rfl)) hT hfin (hin hnm) (by rw [cT1 ci hci k hkN]; exact hcn) (cTy_ok hci k hkN) hfit.1 hfit.2 hlen hd (fun H1 locs1 hP hD hS => ?_)
    rw [hws] at hP hD
    have hl9 : (y.set a (ci, refs.set k (q + 1))).length = y.length := List.length_set
    have hs9 : sz (y.set a (ci, refs.set k (q + 1))) = sz y := sz_set hy hci
    have := hk H1 locs1 ls ad ⟨h1, h2, hP, hD, hS, by rw [hl9]; exact h6, by rw [hl9]; exact ok_tail (ok_tail h7), hok, by rw [hl9, hs9]; exact h9⟩
    rw [hl9, hs9] at this
    exact this
  · have hq : q < y.length := ok_head h7
    have hrt := refTy ci hci k hkN (by rw [hco]; decide)
    have hfit := fits_ref hrt (ad q)
    have hnew : ∀ f : Nat → Int, fget ci refs (fup f k ((q + 1 : Nat) : Int)) k = vR q := by
      intro f
      unfold fget
      rw [hco]
      show rv (fup f k ((q + 1 : Nat) : Int) k).toNat = vR q
      rw [fup_self]
      rfl
    have hset := fs_set (ad := ad) (b := fun _ => 0) (F := fun k => fget ci refs (g a) k) (F' := fun j => fget ci refs (fup (g a) k ((q + 1 : Nat) : Int)) j) (v := .ref (ad q)) hkN (by show cv ad _ (fget ci refs (fup (g a) k ((q + 1 : Nat) : Int)) k) = _; rw [hnew]; rfl) (fun j hj => fget_ne (fup_ne (g a) _ hj))
    have hws : (WS ad tA y g).set a (ad a, .inr (ci, ((List.range (cN ci)).map (fun k => cv ad (fun _ => 0) (fget ci refs (g a) k))).set k (.ref (ad q)))) = WS ad tA y (cset g a (fup (g a) k ((q + 1 : Nat) : Int))) := by
      rw [hset, ← cE_obj (tA := tA) hci, WS_setg hy]
    have hok : okH y (cset g a (fup (g a) k ((q + 1 : Nat) : Int))) := h8.setg (fun sh hsh => by
      rw [hy] at hsh
      cases hsh
      refine Or.inr (Or.inr ⟨hci, ho.1, fun j hj => ?_⟩)
      by_cases hjk : j = k
      · subst hjk; rw [hnew]; exact hq
      · rw [fget_ne (fup_ne (g a) _ hjk)]; exact ho.2 j hj)
    show W p l e R s m args below meth c H locs (y.length - c0) (sz y - s0) Qf (F0 m pc ls (.ref (ad q) :: .ref (ad a) :: rest.map (cv ad b)))
    cases nest with
    | false =>
      refine va_put (D := D) (cl := vwCl) (own := oNm M.2.2.2.1) (ref := cNm ci) (C := cNm ci) (T := cT ci) (N := cN ci) (ci := ci) (Ts := BIG) hx hb hB (lay_in hci) (cTy ci) (cTy_ok hci) (cT_nm hci) hown hK h3 h4 h5 a he (cls_at hci) k hkN (hB _ (big_in hw rfl)) hT hfin (cTy_ok hci k hkN) hfit.1 hfit.2 hlen hd (fun H1 locs1 hP hD hS => ?_)
      rw [hws] at hP hD
      exact hk H1 locs1 ls ad ⟨h1, h2, hP, hD, hS, h6, ok_tail (ok_tail h7), hok, h9⟩
    | true =>
      refine va_putN (D := D) (cl := vwCl) (own := oNm M.2.2.2.1) (ref := cNm ci) (C := cNm ci) (T := cT ci) (N := cN ci) (ci := ci) (Ts := BIG) hx hb hB (lay_in hci) (cTy ci) (cTy_ok hci) (cT_nm hci) hown hK h3 h4 h5 a he (cls_at hci) k hkN (va_Nw.use rfl (hN.1 _ (nsl_in hw rfl))) hT hfin (cTy_ok hci k hkN) hfit.1 hfit.2 hlen hd (fun H1 locs1 hP hD hS => ?_)
      rw [hws] at hP hD
      exact hk H1 locs1 ls ad ⟨h1, h2, hP, hD, hS, h6, ok_tail (ok_tail h7), hok, h9⟩

theorem ar_iaload  (CX : Cx p l e R s m args meth c X M D tA A b d c0 s0 yF)  (hd : decode M.1 pc = .ok (.iaload, n)) (h : stepP C X (SP p l e R s m args below meth c Qf M D tA A b c0 s0 ad0) yF Q M (.iaload) n pc loc stk y g) : (SP p l e R s m args below meth c Qf M D tA A b c0 s0 ad0) pc loc stk y g := by
  obtain ⟨hx, hb, hml, hown, hB, hN, hK, hA, hin, hRf, hRl, hRc, hRs, hScr⟩ := CX
  obtain ⟨rfl, i, v, rest, rfl, hi0, hk⟩ := h
  intro H locs ls ad hs
  obtain ⟨h1, h2, h3, h4, h5, h6, h7, h8, h9⟩ := hs
  have wi : w32 i = i := ok_head h7
  rcases hk with ⟨a, N, rfl, hy, hiN, hk⟩ | ⟨rfl, hM, hiN, hk⟩
  · show W p l e R s m args below meth c H locs (y.length - c0) (sz y - s0) Qf (F0 m pc ls (.int (Int32.ofInt i) :: .ref (ad a) :: rest.map (cv ad b)))
    refine va_iald hx hb hK h3 a 0 (WS_get hy) rfl (o32_in hi0 hiN wi) hd ?_
    rw [o32_clamp hi0 wi]
    exact hk H locs ls ad ⟨h1, h2, h3, h4, h5, h6, ok_cons (okA (h8 a _ hy) (Or.inl rfl) _) (ok_tail (ok_tail h7)), h8, h9⟩
  · obtain ⟨hX, hbl, hbA, hXw⟩ := hScr hM
    show W p l e R s m args below meth c H locs (y.length - c0) (sz y - s0) Qf (F0 m pc ls (.int (Int32.ofInt i) :: .ref (b 1) :: rest.map (cv ad b)))
    refine va_sld hx hb hX hbl hbA h5 (o32_in hi0 hiN wi) hd ?_
    rw [o32_clamp hi0 wi]
    exact hk H locs ls ad ⟨h1, h2, h3, h4, h5, h6, ok_cons (hXw _) (ok_tail (ok_tail h7)), h8, h9⟩

theorem ar_baload  (CX : Cx p l e R s m args meth c X M D tA A b d c0 s0 yF)  (hd : decode M.1 pc = .ok (.baload, n)) (h : stepP C X (SP p l e R s m args below meth c Qf M D tA A b c0 s0 ad0) yF Q M (.baload) n pc loc stk y g) : (SP p l e R s m args below meth c Qf M D tA A b c0 s0 ad0) pc loc stk y g := by
  obtain ⟨hx, hb, hml, hown, hB, hN, hK, hA, hin, hRf, hRl, hRc, hRs, hScr⟩ := CX
  obtain ⟨rfl, hk⟩ := h
  intro H locs ls ad hs
  obtain ⟨h1, h2, h3, h4, h5, h6, h7, h8, h9⟩ := hs
  rcases hk with ⟨i, a, N, rest, rfl, hi0, hy, hiN, hk⟩ | ⟨i, q, rest, rfl, hq, hi0, hiN, hk⟩
  · have wi : w32 i = i := ok_head h7
    show W p l e R s m args below meth c H locs (y.length - c0) (sz y - s0) Qf (F0 m pc ls (.int (Int32.ofInt i) :: .ref (ad a) :: rest.map (cv ad b)))
    refine va_zald hx hb hK h3 a 1 (WS_get hy) rfl (o32_in hi0 hiN wi) hd ?_
    rw [o32_clamp hi0 wi]
    exact hk H locs ls ad ⟨h1, h2, h3, h4, h5, h6, ok_cons (okA (h8 a _ hy) (Or.inr rfl) _) (ok_tail (ok_tail h7)), h8, h9⟩
  · have wi : w32 i = i := ok_head h7
    have hl6 := sLen_le q hq
    have hi6 : i.toNat < 6 := by omega
    show W p l e R s m args below meth c H locs (y.length - c0) (sz y - s0) Qf (F0 m pc ls (.int (Int32.ofInt i) :: cv ad b (vX (q + 10)) :: rest.map (cv ad b)))
    rw [show cv ad b (vX (q + 10)) = .ref (b (10 + q)) by rw [cv_x (by omega), Nat.add_comm]]
    refine va_tb (v := .int (Int32.ofInt (sCh q i.toNat))) hx hb (hN.2.1.1 q hq).2.2.2 h5 (o32_in hi0 (by rw [lenS_eq q hq]; exact hiN) wi) (by rw [o32_clamp hi0 wi]; show Value.int ((bytS.getD q []).getD i.toNat 0) = _; rw [byt_ch q hq _ hi6]) hd ?_
    exact hk H locs ls ad ⟨h1, h2, h3, h4, h5, h6, ok_cons (sCh_bd q hq _ hi6).1 (ok_tail (ok_tail h7)), h8, h9⟩

theorem ar_laload  (CX : Cx p l e R s m args meth c X M D tA A b d c0 s0 yF)  (hd : decode M.1 pc = .ok (.laload, n)) (h : stepP C X (SP p l e R s m args below meth c Qf M D tA A b c0 s0 ad0) yF Q M (.laload) n pc loc stk y g) : (SP p l e R s m args below meth c Qf M D tA A b c0 s0 ad0) pc loc stk y g := by
  obtain ⟨hx, hb, hml, hown, hB, hN, hK, hA, hin, hRf, hRl, hRc, hRs, hScr⟩ := CX
  obtain ⟨rfl, i, a, N, rest, rfl, hi0, hy, hiN, hk⟩ := h
  intro H locs ls ad hs
  obtain ⟨h1, h2, h3, h4, h5, h6, h7, h8, h9⟩ := hs
  have wi : w32 i = i := ok_head h7
  show W p l e R s m args below meth c H locs (y.length - c0) (sz y - s0) Qf (F0 m pc ls (.int (Int32.ofInt i) :: .ref (ad a) :: rest.map (cv ad b)))
  refine va_lald hx hb hK h3 a 2 (WS_get hy) rfl (o32_in hi0 hiN wi) hd ?_
  rw [o32_clamp hi0 wi]
  exact hk H locs ls ad ⟨h1, h2, h3, h4, h5, h6, ok_cons (okAL (h8 a _ hy) rfl _) (ok_tail (ok_tail h7)), h8, h9⟩

theorem ar_iastore  (CX : Cx p l e R s m args meth c X M D tA A b d c0 s0 yF)  (hd : decode M.1 pc = .ok (.iastore, n)) (h : stepP C X (SP p l e R s m args below meth c Qf M D tA A b c0 s0 ad0) yF Q M (.iastore) n pc loc stk y g) : (SP p l e R s m args below meth c Qf M D tA A b c0 s0 ad0) pc loc stk y g := by
  obtain ⟨hx, hb, hml, hown, hB, hN, hK, hA, hin, hRf, hRl, hRc, hRs, hScr⟩ := CX
  obtain ⟨rfl, x, i, a, N, rest, rfl, hi0, hy, hiN, hk⟩ := h
  intro H locs ls ad hs
  obtain ⟨h1, h2, h3, h4, h5, h6, h7, h8, h9⟩ := hs
  have wi : w32 i = i := ok_head (ok_tail h7)
  have wx := ok_head h7
  have he := WS_get (ad := ad) (tA := tA) (g := g) hy
  show W p l e R s m args below meth c H locs (y.length - c0) (sz y - s0) Qf (F0 m pc ls (.int (Int32.ofInt x) :: .int (Int32.ofInt i) :: .ref (ad a) :: rest.map (cv ad b)))
  refine va_iast hx hb hK h3 h4 h5 a 0 he rfl (o32_in hi0 hiN wi) hd (fun H1 locs1 hP hD hS => ?_)
  rw [o32_clamp hi0 wi, upd_o] at hP hD
  have hws : (WS ad tA y g).set a (ad a, .inl (tA 0, ((20, [N]) : Nat × List Nat).2.headD 0, .inl (fun j => Int32.ofInt (fup (g a) i.toNat x j)))) = WS ad tA y (cset g a (fup (g a) i.toNat x)) := WS_setg hy (fup (g a) i.toNat x)
  rw [hws] at hP hD
  have hok : okH y (cset g a (fup (g a) i.toNat x)) := h8.setg (fun sh hsh => by
    rw [hy] at hsh
    cases hsh
    refine Or.inl ⟨Or.inl rfl, fun j => ?_⟩
    by_cases hjk : j = i.toNat
    · subst hjk; rw [fup_self]; exact wx
    · rw [fup_ne _ _ hjk]; exact okA (h8 a _ hy) (Or.inl rfl) j)
  exact hk H1 locs1 ls ad ⟨h1, h2, hP, hD, hS, h6, ok_tail (ok_tail (ok_tail h7)), hok, h9⟩

theorem ar_bastore  (CX : Cx p l e R s m args meth c X M D tA A b d c0 s0 yF)  (hd : decode M.1 pc = .ok (.bastore, n)) (h : stepP C X (SP p l e R s m args below meth c Qf M D tA A b c0 s0 ad0) yF Q M (.bastore) n pc loc stk y g) : (SP p l e R s m args below meth c Qf M D tA A b c0 s0 ad0) pc loc stk y g := by
  obtain ⟨hx, hb, hml, hown, hB, hN, hK, hA, hin, hRf, hRl, hRc, hRs, hScr⟩ := CX
  obtain ⟨rfl, x, i, a, N, rest, rfl, hi0, hy, hiN, hx01, hk⟩ := h
  intro H locs ls ad hs
  obtain ⟨h1, h2, h3, h4, h5, h6, h7, h8, h9⟩ := hs
  have wi : w32 i = i := ok_head (ok_tail h7)
  have wx := ok_head h7
  have he := WS_get (ad := ad) (tA := tA) (g := g) hy
  show W p l e R s m args below meth c H locs (y.length - c0) (sz y - s0) Qf (F0 m pc ls (.int (Int32.ofInt x) :: .int (Int32.ofInt i) :: .ref (ad a) :: rest.map (cv ad b)))
  refine va_zast hx hb hK h3 h4 h5 a 1 he rfl (o32_in hi0 hiN wi) hd (fun H1 locs1 hP hD hS => ?_)
  rw [o32_clamp hi0 wi, (bool_fit hx01).2.2, upd_o] at hP hD
  have hws : (WS ad tA y g).set a (ad a, .inl (tA 1, ((21, [N]) : Nat × List Nat).2.headD 0, .inl (fun j => Int32.ofInt (fup (g a) i.toNat x j)))) = WS ad tA y (cset g a (fup (g a) i.toNat x)) := WS_setg hy (fup (g a) i.toNat x)
  rw [hws] at hP hD
  have hok : okH y (cset g a (fup (g a) i.toNat x)) := h8.setg (fun sh hsh => by
    rw [hy] at hsh
    cases hsh
    refine Or.inl ⟨Or.inr rfl, fun j => ?_⟩
    by_cases hjk : j = i.toNat
    · subst hjk; rw [fup_self]; exact wx
    · rw [fup_ne _ _ hjk]; exact okA (h8 a _ hy) (Or.inr rfl) j)
  exact hk H1 locs1 ls ad ⟨h1, h2, hP, hD, hS, h6, ok_tail (ok_tail (ok_tail h7)), hok, h9⟩

theorem ar_lastore  (CX : Cx p l e R s m args meth c X M D tA A b d c0 s0 yF)  (hd : decode M.1 pc = .ok (.lastore, n)) (h : stepP C X (SP p l e R s m args below meth c Qf M D tA A b c0 s0 ad0) yF Q M (.lastore) n pc loc stk y g) : (SP p l e R s m args below meth c Qf M D tA A b c0 s0 ad0) pc loc stk y g := by
  obtain ⟨hx, hb, hml, hown, hB, hN, hK, hA, hin, hRf, hRl, hRc, hRs, hScr⟩ := CX
  obtain ⟨rfl, x, i, a, N, rest, rfl, hi0, hy, hiN, hk⟩ := h
  intro H locs ls ad hs
  obtain ⟨h1, h2, h3, h4, h5, h6, h7, h8, h9⟩ := hs
  have wi : w32 i = i := ok_head (ok_tail h7)
  have wx := ok_head h7
  have he := WS_get (ad := ad) (tA := tA) (g := g) hy
  show W p l e R s m args below meth c H locs (y.length - c0) (sz y - s0) Qf (F0 m pc ls (.long (Int64.ofInt x) :: .int (Int32.ofInt i) :: .ref (ad a) :: rest.map (cv ad b)))
  refine va_last hx hb hK h3 h4 h5 a 2 he rfl (o32_in hi0 hiN wi) hd (fun H1 locs1 hP hD hS => ?_)
  rw [o32_clamp hi0 wi, updL_o] at hP hD
  have hws : (WS ad tA y g).set a (ad a, .inl (tA 2, ((22, [N]) : Nat × List Nat).2.headD 0, .inr (.inl (fun j => Int64.ofInt (fup (g a) i.toNat x j))))) = WS ad tA y (cset g a (fup (g a) i.toNat x)) := WS_setg hy (fup (g a) i.toNat x)
  rw [hws] at hP hD
  have hok : okH y (cset g a (fup (g a) i.toNat x)) := h8.setg (fun sh hsh => by
    rw [hy] at hsh
    cases hsh
    refine Or.inr (Or.inl ⟨rfl, fun j => ?_⟩)
    by_cases hjk : j = i.toNat
    · subst hjk; rw [fup_self]; exact wx
    · rw [fup_ne _ _ hjk]; exact okAL (h8 a _ hy) rfl j)
  exact hk H1 locs1 ls ad ⟨h1, h2, hP, hD, hS, h6, ok_tail (ok_tail (ok_tail h7)), hok, h9⟩

theorem ar_arraylength  (CX : Cx p l e R s m args meth c X M D tA A b d c0 s0 yF)  (hd : decode M.1 pc = .ok (.arraylength, n)) (h : stepP C X (SP p l e R s m args below meth c Qf M D tA A b c0 s0 ad0) yF Q M (.arraylength) n pc loc stk y g) : (SP p l e R s m args below meth c Qf M D tA A b c0 s0 ad0) pc loc stk y g := by
  obtain ⟨hx, hb, hml, hown, hB, hN, hK, hA, hin, hRf, hRl, hRc, hRs, hScr⟩ := CX
  obtain ⟨rfl, v, rest, rfl, hk⟩ := h
  intro H locs ls ad hs
  obtain ⟨h1, h2, h3, h4, h5, h6, h7, h8, h9⟩ := hs
  rcases hk with ⟨a, N, t, rfl, hy, ht1, ht2, hN, hk⟩ | ⟨rfl, hM, hN, hk⟩ | ⟨q, rfl, hq, hk⟩
  · show W p l e R s m args below meth c H locs (y.length - c0) (sz y - s0) Qf (F0 m pc ls (.ref (ad a) :: rest.map (cv ad b)))
    have he := WS_get (ad := ad) (tA := tA) (g := g) hy
    rcases (show t = 20 ∨ t = 21 ∨ t = 22 by omega) with rfl | rfl | rfl
    · refine va_alen (v := Int32.ofInt N) hx hb hK h3 a 0 he rfl (nat_i32 N) hd ?_
      exact hk H locs ls ad ⟨h1, h2, h3, h4, h5, h6, ok_cons hN (ok_tail h7), h8, h9⟩
    · refine va_alen (v := Int32.ofInt N) hx hb hK h3 a 1 he rfl (nat_i32 N) hd ?_
      exact hk H locs ls ad ⟨h1, h2, h3, h4, h5, h6, ok_cons hN (ok_tail h7), h8, h9⟩
    · refine va_alen (v := Int32.ofInt N) hx hb hK h3 a 2 he rfl (nat_i32 N) hd ?_
      exact hk H locs ls ad ⟨h1, h2, h3, h4, h5, h6, ok_cons hN (ok_tail h7), h8, h9⟩
  · obtain ⟨hX, hbl, hbA, hXw⟩ := hScr hM
    show W p l e R s m args below meth c H locs (y.length - c0) (sz y - s0) Qf (F0 m pc ls (.ref (b 1) :: rest.map (cv ad b)))
    refine va_slen hx hb hX hbl hbA h5 hd ?_
    rw [nat_i32 X.1]
    exact hk H locs ls ad ⟨h1, h2, h3, h4, h5, h6, ok_cons hN (ok_tail h7), h8, h9⟩
  · show W p l e R s m args below meth c H locs (y.length - c0) (sz y - s0) Qf (F0 m pc ls (cv ad b (vX (q + 10)) :: rest.map (cv ad b)))
    rw [show cv ad b (vX (q + 10)) = .ref (b (10 + q)) by rw [cv_x (by omega), Nat.add_comm]]
    refine va_tlen (v := Int32.ofInt (sLen q : Nat)) hx hb (hN.2.1.1 q hq).2.2.2 h5 (by rw [lenS_eq q hq]; exact nat_i32 _) hd ?_
    exact hk H locs ls ad ⟨h1, h2, h3, h4, h5, h6, ok_cons (sLen_w q hq) (ok_tail h7), h8, h9⟩

end ARMS
