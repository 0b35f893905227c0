section MAINS
variable {p : Program} {l : Launch} {e : Env} {R : Room} {s : State} {m : MethodId} {args : Array Value} {below : List Frame} {meth : Method} {c : Code} {Qf : State → Prop} {C : pC} {X : pX} {M : pM} {D : va_G} {tA : Nat → ClassId} {A : Nat → Prop} {b : Nat → Nat} {d c0 s0 : Nat} {ad0 : Nat → Nat} {yF : pY} {Q : Option pV → pG → Prop} {n pc : Nat} {loc stk : List pV} {y : pY} {g : pG}
set_option maxRecDepth 100000 in
theorem ar_all {ins : Instr} (hC : SoundC C d) (CX : Cx p l e R s m args meth c X M D tA A b d c0 s0 yF) (hret : HRet p l e R s m args below meth c Qf M D tA A b c0 s0 ad0 yF Q) (hd : decode M.1 pc = .ok (ins, n)) (h : stepP C X (SP p l e R s m args below meth c Qf M D tA A b c0 s0 ad0) yF Q M ins n pc loc stk y g) : (SP p l e R s m args below meth c Qf M D tA A b c0 s0 ad0) pc loc stk y g := by
  cases ins with
  | iload i => exact ar_iload CX hd h
  | iload_n i => exact ar_iload_n CX hd h
  | lload i => exact ar_lload CX hd h
  | lload_n i => exact ar_lload_n CX hd h
  | aload i => exact ar_aload CX hd h
  | aload_n i => exact ar_aload_n CX hd h
  | istore i => exact ar_istore CX hd h
  | istore_n i => exact ar_istore_n CX hd h
  | lstore i => exact ar_lstore CX hd h
  | lstore_n i => exact ar_lstore_n CX hd h
  | astore i => exact ar_astore CX hd h
  | astore_n i => exact ar_astore_n CX hd h
  | iconst u => exact ar_iconst CX hd h
  | bipush u => exact ar_bipush CX hd h
  | sipush u => exact ar_sipush CX hd h
  | lconst u => exact ar_lconst CX hd h
  | ldc i => exact ar_ldc CX hd h
  | ldc_w i => exact ar_ldc_w CX hd h
  | ldc2_w i => exact ar_ldc2_w CX hd h
  | getstatic i => exact ar_getstatic CX hd h
  | iinc i u => exact ar_iinc CX hd h
  | iadd => exact ar_iadd CX hd h
  | isub => exact ar_isub CX hd h
  | imul => exact ar_imul CX hd h
  | iand => exact ar_iand CX hd h
  | ior => exact ar_ior CX hd h
  | ishl => exact ar_ishl CX hd h
  | ishr => exact ar_ishr CX hd h
  | iushr => exact ar_iushr CX hd h
  | idiv => exact ar_idiv CX hd h
  | irem => exact ar_irem CX hd h
  | ineg => exact ar_ineg CX hd h
  | ladd => exact ar_ladd CX hd h
  | lsub => exact ar_lsub CX hd h
  | lmul => exact ar_lmul CX hd h
  | ldiv => exact ar_ldiv CX hd h
  | lrem => exact ar_lrem CX hd h
  | i2l => exact ar_i2l CX hd h
  | lcmp => exact ar_lcmp CX hd h
  | dup => exact ar_dup CX hd h
  | dup2 => exact ar_dup2 CX hd h
  | pop => exact ar_pop CX hd h
  | iaload => exact ar_iaload CX hd h
  | baload => exact ar_baload CX hd h
  | laload => exact ar_laload CX hd h
  | iastore => exact ar_iastore CX hd h
  | bastore => exact ar_bastore CX hd h
  | lastore => exact ar_lastore CX hd h
  | arraylength => exact ar_arraylength CX hd h
  | i2c => exact ar_i2c CX hd h
  | goto off => exact ar_goto CX hd h
  | tableswitch d lo hi offs => exact ar_tsw CX hd h
  | lookupswitch d ps => exact ar_lsw CX hd h
  | getfield i => exact ar_getfield CX hd h
  | putfield i => exact ar_putfield CX hd h
  | newarray t => exact ar_newarray CX hd h
  | new i => exact ar_new CX hd h
  | invokevirtual i => exact ar_invokevirtual hC CX hd h
  | invokestatic i => exact ar_invokestatic hC CX hd h
  | invokespecial i => exact ar_invokespecial hC CX hd h
  | ireturn => exact ar_ireturn hret hd h
  | lreturn => exact ar_lreturn hret hd h
  | areturn => exact ar_areturn hret hd h
  | return_ => exact ar_return hret hd h
  | ifCond cnd off =>
    cases cnd with
    | eq => exact ar_if_eq CX hd h
    | ne => exact ar_if_ne CX hd h
    | lt => exact ar_if_lt CX hd h
    | ge => exact ar_if_ge CX hd h
    | gt => exact ar_if_gt CX hd h
    | le => exact ar_if_le CX hd h
  | if_icmp cnd off =>
    cases cnd with
    | eq => exact ar_icmp_eq CX hd h
    | ne => exact ar_icmp_ne CX hd h
    | lt => exact ar_icmp_lt CX hd h
    | ge => exact ar_icmp_ge CX hd h
    | gt => exact ar_icmp_gt CX hd h
    | le => exact ar_icmp_le CX hd h
  | _ => exact h.elim
theorem ev_W (hC : SoundC C d) (CX : Cx p l e R s m args meth c X M D tA A b d c0 s0 yF) (hret : HRet p l e R s m args below meth c Qf M D tA A b c0 s0 ad0 yF Q) (h : Ev C X M yF Q pc loc stk y g) : (SP p l e R s m args below meth c Qf M D tA A b c0 s0 ad0) pc loc stk y g :=
  h (SP p l e R s m args below meth c Qf M D tA A b c0 s0 ad0) (fun pc loc stk y g ins n hd hs => ar_all hC CX hret hd hs)
end MAINS
theorem entL_len {n : Nat} {as : List pV} (h : (pent as).length ≤ n) : (entL n as).length = n := by
  unfold entL
  rw [List.length_append, List.length_replicate]
  omega
theorem pent_ok {n : Nat} : ∀ {as : List pV}, (∀ v ∈ as, okV n v) → ∀ v ∈ pent as, okV n v := by
  intro as
  induction as with
  | nil => intro _ v hv; cases hv
  | cons u t ih =>
    intro h v hv
    unfold pent at hv
    split at hv
    · rcases List.mem_cons.mp hv with e | e
      · exact e ▸ ok_head h
      · rcases List.mem_cons.mp e with e | e
        · subst e; trivial
        · exact ih (ok_tail h) v e
    · rcases List.mem_cons.mp hv with e | e
      · exact e ▸ ok_head h
      · exact ih (ok_tail h) v e
theorem entL_ok {n k : Nat} {as : List pV} (h : ∀ v ∈ as, okV n v) : ∀ v ∈ entL k as, okV n v := by
  intro v hv
  rcases List.mem_append.mp hv with e | e
  · exact pent_ok h v e
  · rw [(List.mem_replicate.mp e).2]; trivial
set_option maxRecDepth 100000 in
theorem sound_ex : ∀ d : Nat, SoundC (Ex d) d := by
  intro d
  induction d with
  | zero => intro M as y g yy Q h; exact h.elim
  | succ d ih =>
    intro M as y g yy Q h mok hne hok hargs l D tA ad b z
    obtain ⟨hlen, hEv⟩ := h
    refine Met.ofW (cc := M.1) (maxL := M.2.1) (ret := M.2.2.1) (by rw [mok.2.1]; exact plain_o _ mok.2.2.1 hne) rfl ?_
    intro p e s m args below meth c s₁ B hml hv
    obtain ⟨rfl, hsz, hP, hK, hD0, hN, hSt⟩ := hv
    subst hsz
    have hD := hD0.self (sz := s.heap.size)
    have hts := atoms_spec (ws := wsM M) B.pre
    have hl := lv_entry (as.map (cv ad b)) (n := M.2.1) (by rw [pent_len]; exact hlen)
    rw [lg_entry_eq]
    generalize (lg_sl (as.map (cv ad b)) ++ List.replicate (M.2.1 - (lg_sl (as.map (cv ad b))).length) Slot.unset).toArray = ls at hl ⊢
    have CX : Cx p l e (RM (d + 1) (yy.length - y.length) (sz yy - sz y)) s m (as.map (cv ad b)).toArray meth c X0 M D tA (va_A (WS ad tA y g) s.heap.size) b d y.length (sz y) yy :=
      ⟨B.exec, B.bytes, hml, by rw [← mok.2.1]; exact findClass_of_methodNamed B.named, fun w hw => hts w (List.mem_cons_of_mem _ hw), ⟨hN, hSt⟩, hK, fun q h => Or.inr h, fun hn => (name_of_methodNamed B.named B.method).1.trans hn, by show 2 * d + 2 ≤ 2 * (d + 1); omega, Nat.le_refl _, Nat.le_refl _, Nat.le_refl _, fun h9 => absurd h9 mok.2.2.2.1⟩
    have hlocks := B.notSynchronized
    have hr := B.returns
    have hret : HRet p l e (RM (d + 1) (yy.length - y.length) (sz yy - sz y)) s m (as.map (cv ad b)).toArray below meth c (MQ below (QcW D tA ad b y g s.heap.size yy Q) (as.map (cv ad b)).toArray s (yy.length - y.length) (sz yy - sz y) (va_A (WS ad tA y g) s.heap.size)) M D tA (va_A (WS ad tA y g) s.heap.size) b y.length (sz y) ad yy Q := by
      intro H locs ls ad' pc ins v gg hd hri hq hP1 hD1 hS1 hok1 hv1 had
      rcases hri with ⟨rfl, x, rfl, hrt | ⟨hrt, h01⟩ | ⟨hrt, hlo, hhi⟩⟩ | ⟨rfl, x, rfl, hrt⟩ | ⟨rfl, k, rfl, hk3, hrt⟩ | ⟨rfl, rfl, hrt⟩
      · exact W.iret (v := Int32.ofInt x) B.exec B.bytes (hr.trans hrt) (fun t ht hW => ⟨⟨some (vI x), gg, ad', rfl, hq, had, hok1, hv1, by rw [ht]; exact hP1, hD1⟩, hS1.F ht⟩) hS1.2.2 hd
      · exact W.zret (v := Int32.ofInt x) B.exec B.bytes (hr.trans hrt) (bool_fit h01).1 (fun t ht hW => ⟨⟨some (vI x), gg, ad', rfl, hq, had, hok1, hv1, by rw [ht]; exact hP1, hD1⟩, hS1.F ht⟩) hS1.2.2 hd
      · rcases hrt with hrt | hrt
        · exact W.zret (v := Int32.ofInt x) B.exec B.bytes (hr.trans hrt) (byte_fit hlo hhi).1 (fun t ht hW => ⟨⟨some (vI x), gg, ad', rfl, hq, had, hok1, hv1, by rw [ht]; exact hP1, hD1⟩, hS1.F ht⟩) hS1.2.2 hd
        · exact W.zret (v := Int32.ofInt x) B.exec B.bytes (hr.trans hrt) (byte_fit hlo hhi).2 (fun t ht hW => ⟨⟨some (vI x), gg, ad', rfl, hq, had, hok1, hv1, by rw [ht]; exact hP1, hD1⟩, hS1.F ht⟩) hS1.2.2 hd
      · exact W.lret (v := Int64.ofInt x) B.exec B.bytes (hr.trans hrt) (fun t ht hW => ⟨⟨some (vL x), gg, ad', rfl, hq, had, hok1, hv1, by rw [ht]; exact hP1, hD1⟩, hS1.F ht⟩) hS1.2.2 hd
      · have hkb : ¬ Nat.beq k 0 = true := fun e => by have := Nat.eq_of_beq_eq_true e; omega
        have ek : cv ad' b (vX k) = .ref (b k) := if_neg hkb
        show W _ _ _ _ _ _ _ _ _ _ _ _ _ _ _ (F0 m pc ls [cv ad' b (vX k)])
        rw [ek]
        exact W.aret (v := .ref (b k)) B.exec B.bytes (hr.trans hrt) (Or.inl ⟨_, rfl⟩) (Or.inr ⟨_, rfl⟩) (fun t ht hW => ⟨⟨some (vX k), gg, ad', by rw [← ek]; rfl, hq, had, hok1, hv1, by rw [ht]; exact hP1, hD1⟩, hS1.F ht⟩) hS1.2.2 hd
      · exact W.vret B.exec B.bytes (hr.trans hrt) (fun t ht hW => ⟨⟨none, gg, ad', rfl, hq, had, hok1, hv1, by rw [ht]; exact hP1, hD1⟩, hS1.F ht⟩) hS1.2.2 hd
    have key := ev_W (below := below) (ad0 := ad) (c0 := y.length) (s0 := sz y) ih CX hret hEv s.heap [] ls ad ⟨lv_more hl (plst_pent as 0), entL_len hlen, hP, hD, va_S.rf, entL_ok hargs, fun v hv => absurd hv List.not_mem_nil, hok, ⟨Nat.le_refl _, Nat.le_refl _, fun _ _ => rfl⟩⟩
    rw [Nat.sub_self, Nat.sub_self] at key
    exact key
