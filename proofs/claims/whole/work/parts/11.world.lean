def BIG : List Cond := lw_tbl.filter goodWord
def isNst (w : Cond) : Bool := match w with
  | .fieldLinkNest _ _ _ _ _ _ => true
  | .methodLinkNest _ _ _ _ => true
  | _ => false
def NSL : List Cond := lw_tbl.filter isNst
theorem big_in {w : Cond} (h : w ∈ lw_tbl) (hg : goodWord w = true) : w ∈ BIG := List.mem_filter.mpr ⟨h, hg⟩
theorem nsl_in {w : Cond} (h : w ∈ lw_tbl) (hg : isNst w = true) : w ∈ NSL := List.mem_filter.mpr ⟨h, hg⟩
theorem goodBB : GoodIn BIG BIG := fun w h => ⟨h, good_of_word (List.mem_filter.mp h).2⟩
def NST (U : State) : Prop := ∀ w ∈ NSL, va_Nw w U
theorem NST.warm {s U : State} (hW : s.WarmedH U.vm) (h : NST s) : NST U := by
  intro w hw
  have h1 := h w hw
  have h2 := (List.mem_filter.mp hw).2
  cases w <;> first | exact va_Nw.warmF hW h1 | exact va_Nw.warmM hW h1 | exact Bool.noConfusion h2
theorem NST.same {s U : State} (hv : s.vm = U.vm) (h : NST s) : NST U := by
  intro w hw
  have h1 := h w hw
  have h2 := (List.mem_filter.mp hw).2
  cases w <;> first | exact va_Nw.same rfl hv h1 | exact Bool.noConfusion h2
def cv (ad b : Nat → Nat) (v : pV) : Value := match v with
  | .inl x => .int (Int32.ofInt x)
  | .inr (.inl a) => .ref (ad a)
  | .inr (.inr (.inl x)) => .long (Int64.ofInt x)
  | .inr (.inr (.inr k)) => if Nat.beq k 0 = true then .null else .ref (b k)
def okV (n : Nat) (v : pV) : Prop := match v with
  | .inl x => w32 x = x
  | .inr (.inl a) => a < n
  | .inr (.inr (.inl x)) => w64 x = x
  | .inr (.inr (.inr _)) => True
theorem okV.mono {n n' : Nat} {v : pV} (h : okV n v) (hn : n ≤ n') : okV n' v := by
  rcases v with x | a | x | k
  · exact h
  · exact Nat.lt_of_lt_of_le h hn
  · exact h
  · trivial
theorem cv_ad {ad ad' b : Nat → Nat} {n : Nat} (h : ∀ c, c < n → ad' c = ad c) {v : pV} (hv : okV n v) : cv ad' b v = cv ad b v := by
  rcases v with x | a | x | k
  · rfl
  · show Value.ref (ad' a) = Value.ref (ad a)
    rw [h a hv]
  · rfl
  · rfl
theorem cv_cat (ad b : Nat → Nat) (v : pV) : (cv ad b v).category = if isL v = true then 2 else 1 := by
  rcases v with x | a | x | k
  · rfl
  · rfl
  · rfl
  · show (if Nat.beq k 0 = true then Value.null else Value.ref (b k)).category = 1
    split <;> rfl
theorem cv_cat1 (ad b : Nat → Nat) {v : pV} (h : isL v = false) : (cv ad b v).category = 1 := by rw [cv_cat, h]; rfl
theorem cv_isR (ad b : Nat → Nat) {v : pV} (h : isR v = true) : ∃ a : Nat, cv ad b v = .ref a := by
  rcases v with x | a | x | k
  · exact Bool.noConfusion h
  · exact ⟨_, rfl⟩
  · exact Bool.noConfusion h
  · refine ⟨b k, ?_⟩
    show (if Nat.beq k 0 = true then Value.null else Value.ref (b k)) = _
    have h' : (!(Nat.beq k 0) && !(Nat.beq k 2)) = true := h
    rw [if_neg]
    intro h2
    rw [h2] at h'
    exact Bool.noConfusion h'
theorem isR_ne {v : pV} (h : isR v = true) : v ≠ vX 2 := by
  rintro rfl
  exact Bool.noConfusion h
theorem cat_sum (ad b : Nat → Nat) (l : List pV) : ((l.map (cv ad b)).map fun v => v.category).sum = wtS l := by
  unfold wtS
  rw [List.map_map]
  congr 1
  apply List.map_congr_left
  intro v _
  exact cv_cat ad b v
def plst (ad b : Nat → Nat) : Nat → List pV → List (Nat × Value)
  | _, [] => []
  | i, v :: t => if v = vX 2 then plst ad b (i + 1) t else (i, cv ad b v) :: plst ad b (i + 1) t
theorem plst_mem {ad b : Nat → Nat} {l : List pV} : ∀ {k : Nat} {q : Nat × Value}, q ∈ plst ad b k l ↔ ∃ (j : Nat) (u : pV), l[j]? = some u ∧ u ≠ vX 2 ∧ q = (k + j, cv ad b u) := by
  induction l with
  | nil =>
    intro k q
    simp [plst]
  | cons v t ih =>
    intro k q
    have key : (∃ (j : Nat) (u : pV), (v :: t)[j]? = some u ∧ u ≠ vX 2 ∧ q = (k + j, cv ad b u)) ↔ ((v ≠ vX 2 ∧ q = (k, cv ad b v)) ∨ ∃ (j : Nat) (u : pV), t[j]? = some u ∧ u ≠ vX 2 ∧ q = (k + 1 + j, cv ad b u)) := by
      constructor
      · rintro ⟨j, u, h1, h2, h3⟩
        cases j with
        | zero =>
          simp at h1
          subst h1
          exact Or.inl ⟨h2, h3⟩
        | succ j =>
          simp at h1
          exact Or.inr ⟨j, u, h1, h2, by rw [h3]; congr 1; omega⟩
      · rintro (⟨h2, h3⟩ | ⟨j, u, h1, h2, h3⟩)
        · exact ⟨0, v, by simp, h2, h3⟩
        · exact ⟨j + 1, u, by simpa using h1, h2, by rw [h3]; congr 1; omega⟩
    rw [key]
    unfold plst
    split
    next hv =>
      rw [ih]
      constructor
      · exact Or.inr
      · rintro (⟨h2, -⟩ | h)
        · exact absurd hv h2
        · exact h
    next hv =>
      rw [List.mem_cons, ih]
      constructor
      · rintro (h | h)
        · exact Or.inl ⟨hv, h⟩
        · exact Or.inr h
      · rintro (⟨-, h⟩ | h)
        · exact Or.inl h
        · exact Or.inr h
theorem lv_more {ls : Array Slot} {nL : Nat} {l l' : List (Nat × Value)} (h : lv_has ls nL l) (hl : ∀ q ∈ l', q ∈ l) : lv_has ls nL l' := ⟨h.1, h.2.1, fun q hq => h.2.2 q (hl q hq)⟩
theorem lv_look {ls : Array Slot} {nL : Nat} {ad b : Nat → Nat} {loc : List pV} (h : lv_has ls nL (plst ad b 0 loc)) {i : Nat} {v : pV} (hi : loc[i]? = some v) (hv : v ≠ vX 2) : ls[i]? = some (.val (cv ad b v)) :=
  h.2.2 (i, cv ad b v) (plst_mem.mpr ⟨i, v, hi, hv, by simp⟩)
theorem plst_set1 {ad b : Nat → Nat} {loc : List pV} {i : Nat} {v : pV} (hpre : ∀ j : Nat, i = j + 1 → isL (loc.getD j (vX 2)) = false) : ∀ q ∈ plst ad b 0 (loc.set i v), q ∈ (i, cv ad b v) :: (plst ad b 0 loc).filter (fun q => !(q.1 == i) && !(q.1 + 1 == i && q.2.category == 2)) := by
  intro q hq
  obtain ⟨j, u, h1, h2, h3⟩ := plst_mem.mp hq
  rw [Nat.zero_add] at h3
  by_cases hj : i = j
  · subst hj
    rw [List.getElem?_set] at h1
    simp only [if_true] at h1
    split at h1
    · cases h1
      rw [h3]
      exact List.mem_cons_self
    · cases h1
  · rw [List.getElem?_set_ne hj] at h1
    refine List.mem_cons_of_mem _ (List.mem_filter.mpr ⟨plst_mem.mpr ⟨j, u, h1, h2, by rw [h3, Nat.zero_add]⟩, ?_⟩)
    rw [h3]
    have hji : ¬ j = i := fun h => hj h.symm
    by_cases hj1 : j + 1 = i
    · have := hpre j hj1.symm
      rw [List.getD_eq_getElem?_getD, h1] at this
      have hc := cv_cat1 ad b (v := u) this
      simp [hji, hc]
    · simp [hji, hj1]
theorem plst_set2 {ad b : Nat → Nat} {loc : List pV} {i : Nat} {v : pV} (hpre : ∀ j : Nat, i = j + 1 → isL (loc.getD j (vX 2)) = false) : ∀ q ∈ plst ad b 0 ((loc.set i v).set (i + 1) (vX 2)), q ∈ (i, cv ad b v) :: (plst ad b 0 loc).filter (fun q => !(q.1 == i) && (!(q.1 == i + 1) && !(q.1 + 1 == i && q.2.category == 2))) := by
  intro q hq
  obtain ⟨j, u, h1, h2, h3⟩ := plst_mem.mp hq
  rw [Nat.zero_add] at h3
  by_cases hj1 : i + 1 = j
  · subst hj1
    rw [List.getElem?_set] at h1
    simp only [if_true] at h1
    split at h1
    · cases h1
      exact absurd rfl h2
    · cases h1
  · rw [List.getElem?_set_ne hj1] at h1
    by_cases hj : i = j
    · subst hj
      rw [List.getElem?_set] at h1
      simp only [if_true] at h1
      split at h1
      · cases h1
        rw [h3]
        exact List.mem_cons_self
      · cases h1
    · rw [List.getElem?_set_ne hj] at h1
      refine List.mem_cons_of_mem _ (List.mem_filter.mpr ⟨plst_mem.mpr ⟨j, u, h1, h2, by rw [h3, Nat.zero_add]⟩, ?_⟩)
      rw [h3]
      have hji : ¬ j = i := fun h => hj h.symm
      have hji1 : ¬ j = i + 1 := fun h => hj1 h.symm
      by_cases hj2 : j + 1 = i
      · have := hpre j hj2.symm
        rw [List.getD_eq_getElem?_getD, h1] at this
        have hc := cv_cat1 ad b (v := u) this
        simp [hji, hji1, hc]
      · simp [hji, hji1, hj2]
theorem plst_pent {ad b : Nat → Nat} {r : Nat} : ∀ (args : List pV) (k : Nat), ∀ q ∈ plst ad b k (pent args ++ List.replicate r (vX 2)), q ∈ lv_args k (args.map (cv ad b)) := by
  intro args
  induction args with
  | nil =>
    intro k q hq
    obtain ⟨j, u, h1, h2, h3⟩ := plst_mem.mp hq
    simp only [pent, List.nil_append, List.getElem?_replicate] at h1
    split at h1
    · cases h1
      exact absurd rfl h2
    · cases h1
  | cons v t ih =>
    intro k q hq
    unfold pent at hq
    by_cases hL : isL v = true
    · rw [if_pos hL] at hq
      simp only [List.cons_append] at hq
      unfold plst at hq
      have hv : ¬ v = vX 2 := by rintro rfl; exact Bool.noConfusion hL
      rw [if_neg hv] at hq
      show q ∈ (k, cv ad b v) :: lv_args (if (cv ad b v).category = 2 then k + 2 else k + 1) _
      rw [cv_cat, if_pos hL, if_pos rfl]
      rcases List.mem_cons.mp hq with h | h
      · rw [h]; exact List.mem_cons_self
      · unfold plst at h
        rw [if_pos rfl] at h
        exact List.mem_cons_of_mem _ (ih _ q h)
    · rw [if_neg hL] at hq
      simp only [List.cons_append] at hq
      unfold plst at hq
      show q ∈ (k, cv ad b v) :: lv_args (if (cv ad b v).category = 2 then k + 2 else k + 1) _
      rw [cv_cat, if_neg hL, if_neg (by decide)]
      split at hq
      · exact List.mem_cons_of_mem _ (ih _ q hq)
      · rcases List.mem_cons.mp hq with h | h
        · rw [h]; exact List.mem_cons_self
        · exact List.mem_cons_of_mem _ (ih _ q h)
theorem pent_len {ad b : Nat → Nat} : ∀ (args : List pV), (lg_sl (args.map (cv ad b))).length = (pent args).length := by
  intro args
  induction args with
  | nil => rfl
  | cons v t ih =>
    unfold pent
    have e : lg_sl ((v :: t).map (cv ad b)) = (if (cv ad b v).category = 2 then [Slot.val (cv ad b v), Slot.second] else [Slot.val (cv ad b v)]) ++ lg_sl (t.map (cv ad b)) := by
      simp [lg_sl]
    rw [e, cv_cat]
    by_cases hL : isL v = true
    · rw [if_pos hL, if_pos rfl, if_pos hL]
      simp [ih]
    · rw [if_neg hL, if_neg (by decide), if_neg hL]
      simp [ih]
/-! worlds -/
def cE (ad : Nat → Nat) (tA : Nat → ClassId) (f : Nat → Int) (sh : Nat × List Nat) : va_E :=
  if Nat.beq sh.1 20 = true then .inl (tA 0, sh.2.headD 0, .inl (fun j => Int32.ofInt (f j)))
  else if Nat.beq sh.1 21 = true then .inl (tA 1, sh.2.headD 0, .inl (fun j => Int32.ofInt (f j)))
  else if Nat.beq sh.1 22 = true then .inl (tA 2, sh.2.headD 0, .inr (.inl (fun j => Int64.ofInt (f j))))
  else .inr (sh.1, (List.range (cN sh.1)).map (fun k => cv ad (fun _ => 0) (fget sh.1 sh.2 f k)))
def WS (ad : Nat → Nat) (tA : Nat → ClassId) (y : pY) (g : pG) : va_W := (List.range y.length).map (fun c => (ad c, cE ad tA (g c) (y.getD c (0, []))))
def tyL (tA : Nat → ClassId) : List (ClassId × FieldType) := [(tA 0, .int), (tA 1, .boolean), (tA 2, .long)]
def okC (n : Nat) (sh : Nat × List Nat) (f : Nat → Int) : Prop :=
  ((sh.1 = 20 ∨ sh.1 = 21) ∧ ∀ j, w32 (f j) = f j) ∨ (sh.1 = 22 ∧ ∀ j, w64 (f j) = f j) ∨ (sh.1 < 9 ∧ sh.2.length = cN sh.1 ∧ ∀ k, k < cN sh.1 → okV n (fget sh.1 sh.2 f k))
def okH (y : pY) (g : pG) : Prop := ∀ (c : Nat) (sh : Nat × List Nat), y[c]? = some sh → okC y.length sh (g c)
theorem WS_len {ad : Nat → Nat} {tA : Nat → ClassId} {y : pY} {g : pG} : (WS ad tA y g).length = y.length := by simp [WS]
theorem WS_get {ad : Nat → Nat} {tA : Nat → ClassId} {y : pY} {g : pG} {c : Nat} {sh : Nat × List Nat} (h : y[c]? = some sh) : (WS ad tA y g)[c]? = some (ad c, cE ad tA (g c) sh) := by
  have hc : c < y.length := (List.getElem?_eq_some_iff.mp h).1
  unfold WS
  rw [List.getElem?_map, List.getElem?_range hc]
  simp [List.getD_eq_getElem?_getD, h]
theorem WS_none {ad : Nat → Nat} {tA : Nat → ClassId} {y : pY} {g : pG} {c : Nat} (h : y.length ≤ c) : (WS ad tA y g)[c]? = none := by
  rw [List.getElem?_eq_none_iff, WS_len]; exact h
theorem WS_ext {ad : Nat → Nat} {tA : Nat → ClassId} {y : pY} {g : pG} {w : va_W} (hl : w.length = y.length) (h : ∀ (c : Nat) (sh : Nat × List Nat), y[c]? = some sh → w[c]? = some (ad c, cE ad tA (g c) sh)) : w = WS ad tA y g := by
  apply List.ext_getElem?
  intro c
  cases hy : y[c]? with
  | none =>
    have hc := List.getElem?_eq_none_iff.mp hy
    rw [WS_none hc, List.getElem?_eq_none_iff, hl]
    exact hc
  | some sh => rw [WS_get hy, h c sh hy]
theorem WS_setg {ad : Nat → Nat} {tA : Nat → ClassId} {y : pY} {g : pG} {c : Nat} {sh : Nat × List Nat} (h : y[c]? = some sh) (f : Nat → Int) : (WS ad tA y g).set c (ad c, cE ad tA f sh) = WS ad tA y (cset g c f) := by
  apply WS_ext
  · rw [List.length_set, WS_len]
  · intro c' sh' h'
    rw [List.getElem?_set]
    by_cases hc : c = c'
    · subst hc
      rw [if_pos rfl, WS_len, if_pos (List.getElem?_eq_some_iff.mp h).1]
      rw [h] at h'
      cases h'
      simp [cset]
    · rw [if_neg hc, WS_get h']
      have : cset g c f c' = g c' := by unfold cset; rw [if_neg (fun e => hc e.symm)]
      rw [this]
theorem WS_sety {ad : Nat → Nat} {tA : Nat → ClassId} {y : pY} {g : pG} {c : Nat} {sh : Nat × List Nat} (h : y[c]? = some sh) (sh' : Nat × List Nat) : (WS ad tA y g).set c (ad c, cE ad tA (g c) sh') = WS ad tA (y.set c sh') g := by
  apply WS_ext
  · rw [List.length_set, WS_len, List.length_set]
  · intro c' sh2 h'
    rw [List.getElem?_set] at h' ⊢
    by_cases hc : c = c'
    · subst hc
      rw [if_pos rfl] at h' ⊢
      rw [if_pos (List.getElem?_eq_some_iff.mp h).1] at h'
      rw [WS_len, if_pos (List.getElem?_eq_some_iff.mp h).1]
      cases h'
      rfl
    · rw [if_neg hc] at h' ⊢
      rw [WS_get h']
theorem cE_ad {ad ad' : Nat → Nat} {tA : Nat → ClassId} {n : Nat} {sh : Nat × List Nat} {f : Nat → Int} (h : ∀ c, c < n → ad' c = ad c) (ok : okC n sh f) : cE ad' tA f sh = cE ad tA f sh := by
  unfold cE
  rcases ok with ⟨h1 | h1, -⟩ | ⟨h1, -⟩ | ⟨h1, -, h3⟩
  · rw [h1]; rfl
  · rw [h1]; rfl
  · rw [h1]; rfl
  · have e0 : ¬ Nat.beq sh.1 20 = true := fun e => by have := Nat.eq_of_beq_eq_true e; omega
    have e1 : ¬ Nat.beq sh.1 21 = true := fun e => by have := Nat.eq_of_beq_eq_true e; omega
    have e2 : ¬ Nat.beq sh.1 22 = true := fun e => by have := Nat.eq_of_beq_eq_true e; omega
    rw [if_neg e0, if_neg e1, if_neg e2, if_neg e0, if_neg e1, if_neg e2]
    congr 2
    apply List.map_congr_left
    intro k hk
    exact cv_ad h (h3 k (List.mem_range.mp hk))
theorem WS_push {ad ad' : Nat → Nat} {tA : Nat → ClassId} {y : pY} {g : pG} (ok : okH y g) (h : ∀ c, c < y.length → ad' c = ad c) (sh : Nat × List Nat) (f : Nat → Int) : WS ad tA y g ++ [(ad' y.length, cE ad' tA f sh)] = WS ad' tA (y ++ [sh]) (cset g y.length f) := by
  apply WS_ext
  · simp [WS_len]
  · intro c sh' h'
    by_cases hc : c < y.length
    · rw [List.getElem?_append_left hc] at h'
      rw [List.getElem?_append_left (by rw [WS_len]; exact hc), WS_get h']
      have : cset g y.length f c = g c := by unfold cset; rw [if_neg (by omega)]
      rw [this, h c hc, cE_ad h (ok c sh' h')]
    · rw [List.getElem?_append_right (by omega)] at h'
      have hz : c - y.length < 1 := (List.getElem?_eq_some_iff.mp h').1
      have hc2 : c = y.length := by omega
      subst hc2
      rw [Nat.sub_self] at h'
      cases h'
      rw [List.getElem?_append_right (by rw [WS_len]; exact Nat.le_refl _), WS_len, Nat.sub_self]
      simp [cset]
theorem okC.mono {n n' : Nat} {sh : Nat × List Nat} {f : Nat → Int} (h : okC n sh f) (hn : n ≤ n') : okC n' sh f := by
  rcases h with h | h | ⟨h1, h2, h3⟩
  · exact Or.inl h
  · exact Or.inr (Or.inl h)
  · exact Or.inr (Or.inr ⟨h1, h2, fun k hk => (h3 k hk).mono hn⟩)
theorem okH.setg {y : pY} {g : pG} {c : Nat} {f : Nat → Int} (h : okH y g) (hf : ∀ sh, y[c]? = some sh → okC y.length sh f) : okH y (cset g c f) := by
  intro c' sh h'
  by_cases hc : c' = c
  · subst hc
    have : cset g c' f c' = f := by simp [cset]
    rw [this]
    exact hf sh h'
  · have : cset g c f c' = g c' := by unfold cset; rw [if_neg hc]
    rw [this]
    exact h c' sh h'
theorem okH.push {y : pY} {g : pG} {sh : Nat × List Nat} {f : Nat → Int} (h : okH y g) (hf : okC (y.length + 1) sh f) : okH (y ++ [sh]) (cset g y.length f) := by
  intro c sh' h'
  rw [List.length_append, List.length_singleton]
  by_cases hc : c < y.length
  · rw [List.getElem?_append_left hc] at h'
    have : cset g y.length f c = g c := by unfold cset; rw [if_neg (by omega)]
    rw [this]
    exact (h c sh' h').mono (Nat.le_succ _)
  · rw [List.getElem?_append_right (by omega)] at h'
    have hz : c - y.length < 1 := (List.getElem?_eq_some_iff.mp h').1
    have hc2 : c = y.length := by omega
    subst hc2
    rw [Nat.sub_self] at h'
    cases h'
    have : cset g y.length f y.length = f := by simp [cset]
    rw [this]
    exact hf
theorem sz_push (y : pY) (sh : Nat × List Nat) : sz (y ++ [sh]) = sz y + ssz sh := by simp [sz]
