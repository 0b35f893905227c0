/-! the start -/
theorem arr_of {s : State} {a0 : Array Value} {ty : FieldType} (h : (Cond.arrayClass ty).before a0 s = true) : ∃ cA : ClassId, s.vm.findClass ("[" ++ ty.toString) = some cA ∧ ArrOfT s cA ty := by
  obtain ⟨cA, kA, comp, h1, h2, h3⟩ := Cond.arrayClass_spec h
  exact ⟨cA, h1, fun n z => ⟨fun k h => (by cases h), kA, h2, comp, h3⟩⟩
theorem cls_of {s : State} {a0 : Array Value} (hB : ∀ w ∈ BIG, w.before a0 s = true) : ∃ D : va_G, ∀ (k : Nat) (q : vw_C), vwCl[k]? = some q → u_Kn s q.1 q.2.1 q.2.2 (D.1 k) (D.2 k) := by
  have one : ∀ ci, ci < 9 → (Cond.instantiable (cNm ci) (cN ci)) ∈ BIG → ∃ z : ClassId × (Nat → Nat), u_Kn s (cNm ci) (cT ci) (cN ci) z.1 z.2 := fun ci hci hi => by
    obtain ⟨cC, iS, h⟩ := u_known hB (lay_in hci) (hB _ hi)
    exact ⟨(cC, iS), h⟩
  have all : ∀ ci, ∃ z : ClassId × (Nat → Nat), ci < 9 → u_Kn s (cNm ci) (cT ci) (cN ci) z.1 z.2 := by
    intro ci
    by_cases h : ci < 9
    · have hi : (Cond.instantiable (cNm ci) (cN ci)) ∈ BIG := by
        rcases (show ci = 0 ∨ ci = 1 ∨ ci = 2 ∨ ci = 3 ∨ ci = 4 ∨ ci = 5 ∨ ci = 6 ∨ ci = 7 ∨ ci = 8 by omega) with rfl | rfl | rfl | rfl | rfl | rfl | rfl | rfl | rfl
        · exact (nlk_in nl_7_33).2.2.1
        · exact (nlk_in nl_7_78).2.2.1
        · exact (nlk_in nl_7_26).2.2.1
        · exact (nlk_in nl_5_25).2.2.1
        · exact (nlk_in nl_7_71).2.2.1
        · exact (nlk_in nl_7_7).2.2.1
        · exact (nlk_in nl_7_64).2.2.1
        · exact (nlk_in nl_9_7).2.2.1
        · exact (nlk_in nl_9_10).2.2.1
      obtain ⟨z, hz⟩ := one ci h hi
      exact ⟨z, fun _ => hz⟩
    · exact ⟨(0, fun _ => 0), fun z => absurd z h⟩
  obtain ⟨f, hf⟩ := Classical.axiomOfChoice all
  refine ⟨(fun k => (f k).1, fun k => (f k).2), fun k q hq => ?_⟩
  have hk : k < 9 := (List.getElem?_eq_some_iff.mp hq).1
  have h := hf k hk
  have e : cR k = q := by
    show vwCl.getD k (RX0, TX0, 4) = q
    rw [List.getD_eq_getElem?_getD, hq]
    rfl
  subst e
  exact h
set_option maxRecDepth 100000 in
theorem whole_start {p : Program} {e : Env} {s : State} {m : MethodId} {below : List Frame} {meth : Method} {c : Code} (l : Launch) (hflags : l.flags = flags0) {b L : Nat} {xs : Nat → Int32} (hL : L ≤ 2048) (C0 : lw_At p s m meth c b L xs) : W p l e room_1 s m #[Value.ref b] below meth c s.heap [] 0 0 (lw_Z below #[Value.ref b] s) (entryFrame m ([Value.ref b] : List Value).toArray 4) := by
  obtain ⟨hx, hb, hr, hml, hown, hts, hX, hbl, hlocks, hgv⟩ := id C0
  have hA : ∀ a : Nat, a < s.heap.size → ¬ (fun q : Nat => s.heap.size ≤ q) a := fun a h => Nat.not_le.mpr h
  obtain ⟨bb, hb1, hS⟩ := str_of (b := b) hts hgv hA
  have hB : ∀ w ∈ BIG, w.before #[Value.ref b] s = true := fun w hw => hts w (List.mem_filter.mp hw).1
  have hN : NST s := fun w hw => by
    have h1 := hts w (List.mem_filter.mp hw).1
    have h2 := (List.mem_filter.mp hw).2
    cases w <;> first | exact va_Nw.of rfl h1 | exact Bool.noConfusion h2
  obtain ⟨D, hD0⟩ := cls_of hB
  obtain ⟨c0, a0, a1⟩ := arr_of (hts _ AR_ok.1)
  obtain ⟨c1, b0, b1⟩ := arr_of (hts _ AR_ok.2.1)
  obtain ⟨c2, e0, e1⟩ := arr_of (hts _ AR_ok.2.2)
  obtain ⟨tA, hK⟩ : ∃ tA : Nat → ClassId, va_K D vwCl (tyL tA) s := by
    refine ⟨fun k => if k = 0 then c0 else if k = 1 then c1 else c2, hD0, fun k q hq => ?_⟩
    match k, hq with
    | 0, hq => cases hq; exact ⟨a1, a0⟩
    | 1, hq => cases hq; exact ⟨b1, b0⟩
    | 2, hq => cases hq; exact ⟨e1, e0⟩
    | k + 3, hq => simp [tyL] at hq
  have hXX : va_X (bb 1) L (fun j => Int32.ofInt ((xs j).toInt)) s s.heap := by
    have e2 : (fun j => Int32.ofInt ((xs j).toInt)) = xs := by
      funext j
      exact o32_t (xs j)
    rw [e2, hb1]
    exact hX
  have hl := lv_entry ([.ref b]) (n := 4) (Nat.le_of_ble_eq_true rfl)
  rw [lg_entry_eq]
  generalize (lg_sl ([.ref b]) ++ List.replicate (4 - (lg_sl ([.ref b])).length) Slot.unset).toArray = ls at hl ⊢
  have hl : lv_has ls 4 [(0, .ref b)] := hl
  have CX : Cx p l e room_1 s m #[Value.ref b] meth c (L, fun j => (xs j).toInt) mL_law D tA (fun q : Nat => s.heap.size ≤ q) bb 12 0 0 LAY :=
    ⟨hx, hb, hml, hown, hB, ⟨hN, hS⟩, hK, fun _ h => h, fun h => absurd h (by decide), Nat.le_of_ble_eq_true rfl, Nat.le_of_ble_eq_true rfl, Nat.le_of_ble_eq_true rfl, Nat.le_of_ble_eq_true rfl, fun _ => ⟨hXX, by rw [hb1]; exact hbl, by rw [hb1]; exact Nat.not_le.mpr hbl, fun j => w32_toInt (xs j)⟩⟩
  have hret : HRet p l e room_1 s m #[Value.ref b] below meth c (lw_Z below #[Value.ref b] s) mL_law D tA (fun q : Nat => s.heap.size ≤ q) bb 0 0 (fun _ => 0) LAY LQ := by
    intro H locs ls ad pc ins v gg hd hri hq hP1 hD1 hS1 hok1 hv1 had
    have hq : v = some (vI 1) := hq
    subst hq
    rcases hri with ⟨rfl, -⟩ | ⟨rfl, x, h, -⟩ | ⟨rfl, k, h, -⟩ | ⟨rfl, h, -⟩
    · have e1 : Int32.ofInt 1 = (1 : Int32) := by decide +kernel
      show W p l e room_1 s m #[Value.ref b] below meth c H locs (LAY.length - 0) (sz LAY - 0) (lw_Z below #[Value.ref b] s) (F0 m pc ls [.int (Int32.ofInt 1)])
      rw [e1]
      exact va_forget hS1.2.2 (W.widen (Nat.le_of_ble_eq_true rfl) (Nat.le_of_ble_eq_true rfl) (lw_ret hx hb hr hlocks hd))
    · cases h
    · cases h
    · cases h
  have key := ev_W (below := below) (ad0 := fun _ => 0) (c0 := 0) (s0 := 0) (sound_ex 12) CX hret (law_all (d := 12) (X := (L, fun j => (xs j).toInt)) (Nat.le_refl _) hL) s.heap [] ls (fun _ => 0)
  refine key ⟨lv_more hl ?_, rfl, fun k q h => by simp [WS] at h, ⟨fun i j p q h => by simp [WS] at h, fun k q h => by simp [WS] at h⟩, va_S.rf, ?_, fun v hv => absurd hv List.not_mem_nil, fun c sh h => by simp at h, ⟨Nat.le_refl _, Nat.zero_le _, fun _ _ => rfl⟩⟩
  · intro q hq
    obtain ⟨j, u, h1, h2, h3⟩ := plst_mem.mp hq
    match j, h1 with
    | 0, h1 =>
      cases h1
      rw [h3]
      show (0 + 0, Value.ref (bb 1)) ∈ _
      rw [hb1]
      exact List.mem_cons_self
    | 1, h1 => cases h1; exact absurd rfl h2
    | 2, h1 => cases h1; exact absurd rfl h2
    | 3, h1 => cases h1; exact absurd rfl h2
    | j + 4, h1 => simp at h1
  · intro v hv
    simp only [List.mem_cons, List.not_mem_nil, or_false] at hv
    rcases hv with rfl | rfl | rfl | rfl <;> trivial
