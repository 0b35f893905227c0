theorem PT.rd {g : pG} {t N : Nat} {f : tF} (h : PT g t N f) {k : Nat} (hk : k < N) : g (t + 1) k = f k := h.2.2.2.1 k hk
theorem PT.bd {g : pG} {t N : Nat} {f : tF} (h : PT g t N f) {k : Nat} (hk : k < N) : -9 ≤ f k ∧ f k ≤ 9 := h.2.2.2.2 k hk
theorem s_sum {d t N : Nat} {g : pG} {f : tF} (hd : 1 ≤ d) (ht : isPts t) (hp : PT g t N f) : CT d mX3_sum [vR t] g (qI (fun x g' => x = psum f N ∧ g' = g)) := by
  refine ct_in (L := [vR t, vX 2, vX 2]) (by omega) (Nat.le_of_ble_eq_true rfl) rfl (fun e he => ?_)
  have hm := hp.1
  have h8 := hp.2.2.1
  refine b_X3_sum_0 ht ?_
  refine loopN (P := fun _ g' => g' = g) N (fun k g' => EV e mX3_sum _ 4 [vR t, vI (psum f k), vI k] [] g') ?_ ?_ 0 g (Nat.zero_le _) rfl
  · rintro k _ hk rfl ih
    have hb := psum_bd hp.2.2.2.2 k (by omega)
    have hb2 := hp.bd hk
    have hr := hp.rd hk
    refine b_X3_sum_4 ht (fun c4 => ?_) (fun c4 => ?_)
    · exfalso
      try simp (disch := omega) only [w32_of, Int.toNat_natCast, tn0, tn1, tn2, w32_of, Int.toNat_natCast] at c4
      omega
    · try simp (disch := omega) only [w32_of, Int.toNat_natCast, tn0, tn1, tn2, w32_of, Int.toNat_natCast] at c4 ⊢
      refine b_X3_sum_12 ht (by omega) (by omega) ?_
      try simp (disch := omega) only [w32_of, Int.toNat_natCast, tn0, tn1, tn2, w32_of, Int.toNat_natCast]
      rw [hr]
      refine ih _ rfl
  · rintro _ rfl
    refine b_X3_sum_4 ht (fun c4 => ?_) (fun c4 => ?_)
    · refine b_X3_sum_27 ht ?_
      exact ⟨_, rfl, rfl, rfl⟩
    · exfalso
      omega
theorem s_isFor {d t N : Nat} {g : pG} {f : tF} (hd : 2 ≤ d) (ht : isPts t) (hp : PT g t N f) : CT d mX3_isFor [vR t] g (qI (fun x g' => x = bi (0 < psum f N) ∧ g' = g)) := by
  refine ct_in (L := [vR t]) (by omega) (Nat.le_of_ble_eq_true rfl) rfl (fun e he => ?_)
  refine b_X3_isFor_0 ht (s_sum (by omega) ht hp) (fun x0 g0 hx => ?_)
  obtain ⟨rfl, rfl⟩ := hx
  refine b_X3_isFor_4 ht (fun c4 => ?_) (fun c4 => ?_)
  · refine b_X3_isFor_11 ht ?_
    exact ⟨_, rfl, (bi_neg (by omega)).symm, rfl⟩
  · refine b_X3_isFor_7 ht ?_
    exact ⟨_, rfl, (bi_pos (by omega)).symm, rfl⟩
theorem s_notZero {d t N : Nat} {g : pG} {f : tF} (hd : 1 ≤ d) (ht : isPts t) (hp : PT g t N f) : CT d mX3_notZero [vR t] g (qI (fun x g' => x = pnz f N ∧ g' = g)) := by
  refine ct_in (L := [vR t, vX 2, vX 2]) (by omega) (Nat.le_of_ble_eq_true rfl) rfl (fun e he => ?_)
  have hm := hp.1
  have h8 := hp.2.2.1
  refine b_X3_notZero_0 ht ?_
  refine loopN (P := fun _ g' => g' = g) N (fun k g' => ∀ v : Int, v = pnz f k → EV e mX3_notZero _ 4 [vR t, vI v, vI k] [] g') ?_ ?_ 0 g (Nat.zero_le _) rfl _ rfl
  · rintro k _ hk rfl ih v hv
    have hb := pnz_bd f k
    have hr := hp.rd hk
    refine b_X3_notZero_4 ht (fun c4 => ?_) (fun c4 => ?_)
    · exfalso
      try simp (disch := omega) only [w32_of, Int.toNat_natCast, tn0, tn1, tn2, w32_of, Int.toNat_natCast] at c4
      omega
    · try simp (disch := omega) only [w32_of, Int.toNat_natCast, tn0, tn1, tn2, w32_of, Int.toNat_natCast] at c4 ⊢
      refine b_X3_notZero_12 ht (by omega) (by omega) (fun c12 => ?_) (fun c12 => ?_)
      · try simp (disch := omega) only [w32_of, Int.toNat_natCast, tn0, tn1, tn2, w32_of, Int.toNat_natCast] at c12 ⊢
        refine b_X3_notZero_24 ht ?_
        try simp (disch := omega) only [w32_of, Int.toNat_natCast, tn0, tn1, tn2, w32_of, Int.toNat_natCast]
        refine ih _ rfl _ ?_
        unfold pnz
        rw [← hr]
        split <;> omega
      · try simp (disch := omega) only [w32_of, Int.toNat_natCast, tn0, tn1, tn2, w32_of, Int.toNat_natCast] at c12 ⊢
        refine b_X3_notZero_21 ht ?_
        try simp (disch := omega) only [w32_of, Int.toNat_natCast, tn0, tn1, tn2, w32_of, Int.toNat_natCast]
        refine ih _ rfl _ ?_
        unfold pnz
        rw [← hr]
        split <;> omega
  · rintro _ rfl v hv
    refine b_X3_notZero_4 ht (fun c4 => ?_) (fun c4 => ?_)
    · refine b_X3_notZero_30 ht ?_
      exact ⟨_, rfl, hv, rfl⟩
    · exfalso
      omega
def msur (f : tF) (k : Nat) : Int := if k = 0 then 0 else mag (f (psur f k))
theorem mag_cases (x : Int) : (mag x = x ∧ 0 ≤ x) ∨ (mag x = -x ∧ x < 0) := by
  unfold mag
  split
  · right; exact ⟨rfl, by assumption⟩
  · left; exact ⟨rfl, by omega⟩
theorem sur_step (f : tF) (k : Nat) : (msur f k < mag (f k) ∧ psur f (k + 1) = k ∧ msur f (k + 1) = mag (f k)) ∨ (¬ msur f k < mag (f k) ∧ psur f (k + 1) = psur f k ∧ msur f (k + 1) = msur f k) := by
  have e : psur f (k + 1) = if mag (f (psur f k)) < mag (f k) then k else psur f k := rfl
  have m1 : msur f (k + 1) = mag (f (psur f (k + 1))) := if_neg (by omega)
  by_cases h0 : k = 0
  · subst h0
    have e0 : psur f (0 + 1) = 0 := by rw [e]; split <;> rfl
    have m0 : msur f 0 = 0 := if_pos rfl
    rw [m1, e0, m0]
    have := mag_cases (f 0)
    show (_ ∧ (0 : Nat) = 0 ∧ _) ∨ (_ ∧ (0 : Nat) = 0 ∧ _)
    omega
  · have mk : msur f k = mag (f (psur f k)) := if_neg h0
    rw [m1, e, mk]
    split
    · left; exact ⟨by assumption, rfl, rfl⟩
    · right; exact ⟨by assumption, rfl, rfl⟩
theorem s_surest {d t N : Nat} {g : pG} {f : tF} (hd : 1 ≤ d) (ht : isPts t) (hp : PT g t N f) : CT d mX3_surest [vR t] g (qI (fun x g' => x = (psur f N : Int) ∧ g' = g)) := by
  refine ct_in (L := [vR t, vX 2, vX 2, vX 2, vX 2]) (by omega) (Nat.le_of_ble_eq_true rfl) rfl (fun e he => ?_)
  have hm := hp.1
  have h8 := hp.2.2.1
  refine b_X3_surest_0 ht ?_
  refine loopN (P := fun _ g' => g' = g) N (fun k g' => ∀ (v1 v2 : Int) (u4 : pV), v1 = (psur f k : Int) → v2 = msur f k → EV e mX3_surest _ 6 [vR t, vI v1, vI v2, vI k, u4] [] g') ?_ ?_ 0 g (Nat.zero_le _) rfl _ _ _ rfl rfl
  · rintro k _ hk rfl ih v1 v2 u4 hv1 hv2
    have hst := sur_step f k
    have hmg := mag_cases (f k)
    have hbd := hp.bd hk
    have hr := hp.rd hk
    refine b_X3_surest_6 ht (fun c6 => ?_) (fun c6 => ?_)
    · exfalso
      try simp (disch := omega) only [w32_of, Int.toNat_natCast, tn0, tn1, tn2, w32_of, Int.toNat_natCast] at c6
      omega
    · try simp (disch := omega) only [w32_of, Int.toNat_natCast, tn0, tn1, tn2, w32_of, Int.toNat_natCast] at c6 ⊢
      refine b_X3_surest_14 ht (by omega) (by omega) (fun c14 => ?_) (fun c14 => ?_)
      · try simp (disch := omega) only [w32_of, Int.toNat_natCast, tn0, tn1, tn2, w32_of, Int.toNat_natCast] at c14 ⊢
        refine b_X3_surest_33 ht (by omega) (by omega) (fun c33 => ?_) (fun c33 => ?_)
        · try simp (disch := omega) only [w32_of, Int.toNat_natCast, tn0, tn1, tn2, w32_of, Int.toNat_natCast] at c33 ⊢
          refine b_X3_surest_52 ht ?_
          try simp (disch := omega) only [w32_of, Int.toNat_natCast, tn0, tn1, tn2, w32_of, Int.toNat_natCast]
          refine ih _ rfl _ _ _ ?_ ?_ <;> omega
        · try simp (disch := omega) only [w32_of, Int.toNat_natCast, tn0, tn1, tn2, w32_of, Int.toNat_natCast] at c33 ⊢
          refine b_X3_surest_47 ht ?_
          try simp (disch := omega) only [w32_of, Int.toNat_natCast, tn0, tn1, tn2, w32_of, Int.toNat_natCast]
          refine ih _ rfl _ _ _ ?_ ?_ <;> omega
      · try simp (disch := omega) only [w32_of, Int.toNat_natCast, tn0, tn1, tn2, w32_of, Int.toNat_natCast] at c14 ⊢
        refine b_X3_surest_23 ht (by omega) (by omega) (fun c23 => ?_) (fun c23 => ?_)
        · try simp (disch := omega) only [w32_of, Int.toNat_natCast, tn0, tn1, tn2, w32_of, Int.toNat_natCast] at c23 ⊢
          refine b_X3_surest_52 ht ?_
          try simp (disch := omega) only [w32_of, Int.toNat_natCast, tn0, tn1, tn2, w32_of, Int.toNat_natCast]
          refine ih _ rfl _ _ _ ?_ ?_ <;> omega
        · try simp (disch := omega) only [w32_of, Int.toNat_natCast, tn0, tn1, tn2, w32_of, Int.toNat_natCast] at c23 ⊢
          refine b_X3_surest_47 ht ?_
          try simp (disch := omega) only [w32_of, Int.toNat_natCast, tn0, tn1, tn2, w32_of, Int.toNat_natCast]
          refine ih _ rfl _ _ _ ?_ ?_ <;> omega
  · rintro _ rfl v1 v2 u4 hv1 hv2
    refine b_X3_surest_6 ht (fun c6 => ?_) (fun c6 => ?_)
    · refine b_X3_surest_58 ht ?_
      exact ⟨_, rfl, hv1, rfl⟩
    · exfalso
      omega
theorem w9 {x : Int} (h : -9 ≤ x ∧ x ≤ 9) : w32 x = x := w32_of (by omega) (by omega)
theorem fup_id {f : tF} {b : Nat} {v : Int} (h : f b = v) : fup f b v = f := by
  funext j; unfold fup; split
  next e => rw [e, h]
  next => rfl
theorem s_hasV {d t N : Nat} {g : pG} {v : Int} (hd : 1 ≤ d) (ht : isPts t) (hm : g t 1 = N) (h0 : 0 ≤ v) (h1 : v < N) : CT d mX3_has [vR t, vI v] g (qI (fun x g' => x = 1 ∧ g' = g)) := by
  refine ct_in (L := [vR t, vI v]) (by omega) (Nat.le_of_ble_eq_true rfl) rfl (fun e he => ?_)
  refine b_X3_has_0 ht (fun c0 => ?_) (fun c0 => ?_)
  · exfalso
    omega
  · refine b_X3_has_4 ht (fun c4 => ?_) (fun c4 => ?_)
    · exfalso
      omega
    · refine b_X3_has_12 ht ?_
      exact ⟨_, rfl, rfl, rfl⟩
theorem s_halve {d t N s : Nat} {g : pG} {f : tF} (hd : 2 ≤ d) (ht : isPts t) (hp : PT g t N f) (hs : s < N) : CT d mX3_halve [vR t, vI s] g (qV (fun g' => PT g' t N (fup f s (half (f s))) ∧ fr g g' (t + 1))) := by
  refine ct_in (L := [vR t, vI s]) (by omega) (Nat.le_of_ble_eq_true rfl) rfl (fun e he => ?_)
  have h8 := hp.2.2.1
  have hr := hp.rd hs
  have e1 : w32 ((f s).tdiv 2) = half (f s) := w9 (half_bd (hp.bd hs))
  refine b_X3_halve_0 ht (s_hasV (by omega) ht hp.1 (by omega) (by omega)) (fun x0 g0 hx => ?_)
  obtain ⟨rfl, rfl⟩ := hx
  refine b_X3_halve_5 ht (fun c5 => ?_) (fun c5 => ?_)
  · exfalso
    omega
  · refine b_X3_halve_8 ht (by omega) (by omega) ?_
    try simp (disch := omega) only [w32_of, Int.toNat_natCast, tn0, tn1, tn2]
    rw [hr, e1]
    exact ⟨rfl, hp.put (half_bd (hp.bd hs)), fr.set _⟩
theorem neg_bd {x : Int} (h : -9 ≤ x ∧ x ≤ 9) : -9 ≤ -x ∧ -x ≤ 9 := by omega
theorem s_turn {d t N s : Nat} {g : pG} {f : tF} (hd : 2 ≤ d) (ht : isPts t) (hp : PT g t N f) (hs : s < N) : CT d mX3_turn [vR t, vI s] g (qV (fun g' => PT g' t N (fup f s (-(f s))) ∧ fr g g' (t + 1))) := by
  refine ct_in (L := [vR t, vI s]) (by omega) (Nat.le_of_ble_eq_true rfl) rfl (fun e he => ?_)
  have h8 := hp.2.2.1
  have hr := hp.rd hs
  refine b_X3_turn_0 ht (s_hasV (by omega) ht hp.1 (by omega) (by omega)) (fun x0 g0 hx => ?_)
  obtain ⟨rfl, rfl⟩ := hx
  refine b_X3_turn_5 ht (fun c5 => ?_) (fun c5 => ?_)
  · exfalso
    omega
  · refine b_X3_turn_8 ht (by omega) (by omega) ?_
    try simp (disch := omega) only [w32_of, Int.toNat_natCast, tn0, tn1, tn2]
    rw [hr, w9 (neg_bd (hp.bd hs))]
    exact ⟨rfl, hp.put (neg_bd (hp.bd hs)), fr.set _⟩
theorem behF_cases (n s : Nat) : (s + 1 < n ∧ behF n s = s + 1) ∨ (¬ s + 1 < n ∧ behF n s = 0) := by
  unfold behF
  split
  · left; exact ⟨by assumption, rfl⟩
  · right; exact ⟨by assumption, rfl⟩
theorem behF_lt {n s : Nat} (h : 0 < n) : behF n s < n := by
  rcases behF_cases n s with ⟨h1, h2⟩ | ⟨h1, h2⟩ <;> omega
theorem held_eq {x : Int} (h : -9 ≤ x ∧ x ≤ 9) : held (x - 1) = if x = -9 then -9 else x - 1 := by
  unfold held
  split
  · split <;> omega
  · split
    · omega
    · split <;> omega
theorem less_keep {n s : Nat} {f : tF} (h : n ≤ 1 ∨ f (behF n s) = -9) : lessF n s f = f := by
  unfold lessF
  split
  · rfl
  · rcases h with h | h
    · omega
    · apply fup_id
      rw [h, held_eq (by omega)]; rfl
theorem less_put {n s : Nat} {f : tF} (h : ¬ n ≤ 1) (hb : -9 ≤ f (behF n s) ∧ f (behF n s) ≤ 9) (h9 : f (behF n s) ≠ -9) : lessF n s f = fup f (behF n s) (f (behF n s) - 1) := by
  unfold lessF
  rw [if_neg h, held_eq hb, if_neg h9]
theorem s_less {d t N s : Nat} {g : pG} {f : tF} (hd : 2 ≤ d) (ht : isPts t) (hp : PT g t N f) (hs : s < N) : CT d mX3_lessenBehind [vR t, vI s] g (qV (fun g' => PT g' t N (lessF N s f) ∧ fr g g' (t + 1))) := by
  refine ct_in (L := [vR t, vI s, vX 2]) (by omega) (Nat.le_of_ble_eq_true rfl) rfl (fun e he => ?_)
  have h8 := hp.2.2.1
  have h1 := hp.2.1
  have hm := hp.1
  have hlt := behF_lt (n := N) (s := s) (by omega)
  have hrb := hp.rd hlt
  have hbb := hp.bd hlt
  have hkeep : (N ≤ 1 ∨ f (behF N s) = -9) → qV (fun g' => PT g' t N (lessF N s f) ∧ fr g g' (t + 1)) none g := fun h => ⟨rfl, by rw [less_keep h]; exact hp, fr.rf⟩
  have hput : ¬ N ≤ 1 → f (behF N s) ≠ -9 → qV (fun g' => PT g' t N (lessF N s f) ∧ fr g g' (t + 1)) none (cset g (t + 1) (fup (g (t + 1)) (behF N s) (f (behF N s) - 1))) := fun h h9 => ⟨rfl, by rw [less_put h hbb h9]; exact hp.put (by omega), fr.set _⟩
  have en : ((s : Int) + 1).toNat = s + 1 := by omega
  rcases behF_cases N s with ⟨ha, hb⟩ | ⟨ha, hb⟩
  · rw [hb] at hrb hbb hkeep hput
    refine b_X3_lessenBehind_0 ht (fun c0 => ?_) (fun c0 => ?_)
    · exfalso
      try simp (disch := omega) only [w32_of, Int.toNat_natCast, tn0, tn1, tn2, w32_of, Int.toNat_natCast, en] at c0
      omega
    · try simp (disch := omega) only [w32_of, Int.toNat_natCast, tn0, tn1, tn2, w32_of, Int.toNat_natCast, en] at c0 ⊢
      refine b_X3_lessenBehind_10 ht (fun c10 => ?_) (fun c10 => ?_)
      · exfalso
        try simp (disch := omega) only [w32_of, Int.toNat_natCast, tn0, tn1, tn2, w32_of, Int.toNat_natCast, en] at c10
        omega
      · try simp (disch := omega) only [w32_of, Int.toNat_natCast, tn0, tn1, tn2, w32_of, Int.toNat_natCast, en] at c10 ⊢
        refine b_X3_lessenBehind_26 ht (s_hasV (by omega) ht hp.1 (by omega) (by omega)) (fun x2 g2 hx => ?_)
        obtain ⟨rfl, rfl⟩ := hx
        try simp (disch := omega) only [w32_of, Int.toNat_natCast, tn0, tn1, tn2, w32_of, Int.toNat_natCast, en]
        refine b_X3_lessenBehind_31 ht (fun c31 => ?_) (fun c31 => ?_)
        · exfalso
          omega
        · refine b_X3_lessenBehind_34 ht (by omega) (by omega) (fun c34 => ?_) (fun c34 => ?_)
          · try simp (disch := omega) only [w32_of, Int.toNat_natCast, tn0, tn1, tn2, w32_of, Int.toNat_natCast, en] at c34 ⊢
            refine b_X3_lessenBehind_55 ht ?_
            exact hkeep (by omega)
          · try simp (disch := omega) only [w32_of, Int.toNat_natCast, tn0, tn1, tn2, w32_of, Int.toNat_natCast, en] at c34 ⊢
            refine b_X3_lessenBehind_45 ht (by omega) (by omega) ?_
            try simp (disch := omega) only [w32_of, Int.toNat_natCast, tn0, tn1, tn2, w32_of, Int.toNat_natCast, en]
            rw [hrb]
            exact hput (by omega) (by omega)
  · rw [hb] at hrb hbb hkeep hput
    refine b_X3_lessenBehind_0 ht (fun c0 => ?_) (fun c0 => ?_)
    · try simp (disch := omega) only [w32_of, Int.toNat_natCast, tn0, tn1, tn2, w32_of, Int.toNat_natCast, en] at c0 ⊢
      refine b_X3_lessenBehind_16 ht (fun c16 => ?_) (fun c16 => ?_)
      · try simp (disch := omega) only [w32_of, Int.toNat_natCast, tn0, tn1, tn2, w32_of, Int.toNat_natCast, en] at c16 ⊢
        refine b_X3_lessenBehind_55 ht ?_
        exact hkeep (by omega)
      · try simp (disch := omega) only [w32_of, Int.toNat_natCast, tn0, tn1, tn2, w32_of, Int.toNat_natCast, en] at c16 ⊢
        refine b_X3_lessenBehind_26 ht (s_hasV (by omega) ht hp.1 (by omega) (by omega)) (fun x2 g2 hx => ?_)
        obtain ⟨rfl, rfl⟩ := hx
        try simp (disch := omega) only [w32_of, Int.toNat_natCast, tn0, tn1, tn2, w32_of, Int.toNat_natCast, en]
        refine b_X3_lessenBehind_31 ht (fun c31 => ?_) (fun c31 => ?_)
        · exfalso
          omega
        · refine b_X3_lessenBehind_34 ht (by omega) (by omega) (fun c34 => ?_) (fun c34 => ?_)
          · try simp (disch := omega) only [w32_of, Int.toNat_natCast, tn0, tn1, tn2, w32_of, Int.toNat_natCast, en] at c34 ⊢
            refine b_X3_lessenBehind_55 ht ?_
            exact hkeep (by omega)
          · try simp (disch := omega) only [w32_of, Int.toNat_natCast, tn0, tn1, tn2, w32_of, Int.toNat_natCast, en] at c34 ⊢
            refine b_X3_lessenBehind_45 ht (by omega) (by omega) ?_
            try simp (disch := omega) only [w32_of, Int.toNat_natCast, tn0, tn1, tn2, w32_of, Int.toNat_natCast, en]
            rw [hrb]
            exact hput (by omega) (by omega)
    · exfalso
      try simp (disch := omega) only [w32_of, Int.toNat_natCast, tn0, tn1, tn2, w32_of, Int.toNat_natCast, en] at c0
      omega
theorem bringV_cases (fig x : Int) : (x < 0 ∧ bringV fig x = fig) ∨ (0 < x ∧ bringV fig x = -fig) ∨ (x = 0 ∧ bringV fig x = x) := by
  unfold bringV
  split
  · left; exact ⟨by assumption, rfl⟩
  · split
    · right; left; exact ⟨by assumption, rfl⟩
    · right; right; exact ⟨by omega, rfl⟩
theorem s_bring {d t N s : Nat} {g : pG} {f : tF} {fig : Int} (hd : 2 ≤ d) (ht : isPts t) (hp : PT g t N f) (hs : s < N) (hf : 0 ≤ fig ∧ fig ≤ 9) : CT d mX3_bringOver [vR t, vI s, vI fig] g (qV (fun g' => PT g' t N (fup f s (bringV fig (f s))) ∧ fr g g' (t + 1))) := by
  refine ct_in (L := [vR t, vI s, vI fig]) (by omega) (Nat.le_of_ble_eq_true rfl) rfl (fun e he => ?_)
  have h8 := hp.2.2.1
  have hr := hp.rd hs
  rcases bringV_cases fig (f s) with ⟨hc, hv⟩ | ⟨hc, hv⟩ | ⟨hc, hv⟩
  · rw [hv]
    refine b_X3_bringOver_0 ht (s_hasV (by omega) ht hp.1 (by omega) (by omega)) (fun x0 g0 hx => ?_)
    obtain ⟨rfl, rfl⟩ := hx
    try simp (disch := omega) only [w32_of, Int.toNat_natCast, tn0, tn1, tn2, Int.toNat_natCast]
    refine b_X3_bringOver_5 ht (fun c5 => ?_) (fun c5 => ?_)
    · refine b_X3_bringOver_9 ht (by omega) (by omega) (fun c9 => ?_) (fun c9 => ?_)
      · exfalso
        try simp (disch := omega) only [w32_of, Int.toNat_natCast, tn0, tn1, tn2, Int.toNat_natCast] at c9
        omega
      · try simp (disch := omega) only [w32_of, Int.toNat_natCast, tn0, tn1, tn2, Int.toNat_natCast] at c9 ⊢
        refine b_X3_bringOver_18 ht (by omega) (by omega) ?_
        try simp (disch := omega) only [w32_of, Int.toNat_natCast, tn0, tn1, tn2, Int.toNat_natCast]
        exact ⟨rfl, hp.put (by omega), fr.set _⟩
    · exfalso
      omega
  · rw [hv]
    refine b_X3_bringOver_0 ht (s_hasV (by omega) ht hp.1 (by omega) (by omega)) (fun x0 g0 hx => ?_)
    obtain ⟨rfl, rfl⟩ := hx
    try simp (disch := omega) only [w32_of, Int.toNat_natCast, tn0, tn1, tn2, Int.toNat_natCast, w32_of]
    refine b_X3_bringOver_5 ht (fun c5 => ?_) (fun c5 => ?_)
    · refine b_X3_bringOver_9 ht (by omega) (by omega) (fun c9 => ?_) (fun c9 => ?_)
      · try simp (disch := omega) only [w32_of, Int.toNat_natCast, tn0, tn1, tn2, Int.toNat_natCast, w32_of] at c9 ⊢
        refine b_X3_bringOver_28 ht (by omega) (by omega) (fun c28 => ?_) (fun c28 => ?_)
        · exfalso
          try simp (disch := omega) only [w32_of, Int.toNat_natCast, tn0, tn1, tn2, Int.toNat_natCast, w32_of] at c28
          omega
        · try simp (disch := omega) only [w32_of, Int.toNat_natCast, tn0, tn1, tn2, Int.toNat_natCast, w32_of] at c28 ⊢
          refine b_X3_bringOver_37 ht (by omega) (by omega) ?_
          try simp (disch := omega) only [w32_of, Int.toNat_natCast, tn0, tn1, tn2, Int.toNat_natCast, w32_of]
          exact ⟨rfl, hp.put (by omega), fr.set _⟩
      · exfalso
        try simp (disch := omega) only [w32_of, Int.toNat_natCast, tn0, tn1, tn2, Int.toNat_natCast, w32_of] at c9
        omega
    · exfalso
      omega
  · rw [hv, fup_id rfl]
    refine b_X3_bringOver_0 ht (s_hasV (by omega) ht hp.1 (by omega) (by omega)) (fun x0 g0 hx => ?_)
    obtain ⟨rfl, rfl⟩ := hx
    try simp (disch := omega) only [w32_of, Int.toNat_natCast, tn0, tn1, tn2, Int.toNat_natCast]
    refine b_X3_bringOver_5 ht (fun c5 => ?_) (fun c5 => ?_)
    · refine b_X3_bringOver_9 ht (by omega) (by omega) (fun c9 => ?_) (fun c9 => ?_)
      · try simp (disch := omega) only [w32_of, Int.toNat_natCast, tn0, tn1, tn2, Int.toNat_natCast] at c9 ⊢
        refine b_X3_bringOver_28 ht (by omega) (by omega) (fun c28 => ?_) (fun c28 => ?_)
        · try simp (disch := omega) only [w32_of, Int.toNat_natCast, tn0, tn1, tn2, Int.toNat_natCast] at c28 ⊢
          refine b_X3_bringOver_45 ht ?_
          exact ⟨rfl, hp, fr.rf⟩
        · exfalso
          try simp (disch := omega) only [w32_of, Int.toNat_natCast, tn0, tn1, tn2, Int.toNat_natCast] at c28
          omega
      · exfalso
        try simp (disch := omega) only [w32_of, Int.toNat_natCast, tn0, tn1, tn2, Int.toNat_natCast] at c9
        omega
    · exfalso
      omega
theorem near_0 (s : Nat) (f : tF) : nearF 0 s f = f := by
  funext o; unfold nearF; rw [if_neg (by omega)]
theorem near_k (k s : Nat) (f : tF) : nearF k s f k = f k := by
  unfold nearF; rw [if_neg (by omega)]
theorem near_ne {k s : Nat} (f : tF) (h : k ≠ s) : nearF (k + 1) s f = fup (nearF k s f) k (toward (f k)) := by
  funext o
  unfold nearF fup
  by_cases ho : o = k
  · subst ho
    rw [if_pos ⟨by omega, h⟩, if_pos rfl]
  · rw [if_neg ho]
    show (if o < k + 1 ∧ o ≠ s then toward (f o) else f o) = (if o < k ∧ o ≠ s then toward (f o) else f o)
    by_cases h2 : o < k ∧ o ≠ s
    · rw [if_pos h2, if_pos ⟨by omega, h2.2⟩]
    · rw [if_neg h2, if_neg (by omega)]
theorem near_eq {k s : Nat} (f : tF) (h : k = s ∨ f k = 0) : nearF (k + 1) s f = nearF k s f := by
  by_cases hk : k = s
  · funext o
    unfold nearF
    by_cases h2 : o < k ∧ o ≠ s
    · rw [if_pos h2, if_pos ⟨by omega, h2.2⟩]
    · rw [if_neg h2, if_neg (by omega)]
  · rw [near_ne f hk]
    apply fup_id
    rw [near_k]
    have : f k = 0 := by rcases h with h | h
                         · exact absurd h hk
                         · exact h
    rw [this]; rfl
theorem toward_cases (x : Int) : (0 < x ∧ toward x = x - 1) ∨ (x < 0 ∧ toward x = x + 1) ∨ (x = 0 ∧ toward x = x) := by
  unfold toward
  split
  · left; exact ⟨by assumption, rfl⟩
  · split
    · right; left; exact ⟨by assumption, rfl⟩
    · right; right; exact ⟨by omega, rfl⟩
theorem s_near {d t N s : Nat} {g : pG} {f : tF} (hd : 1 ≤ d) (ht : isPts t) (hp : PT g t N f) (hs : s < N) : CT d mX3_bringOthersNearer [vR t, vI s] g (qV (fun g' => PT g' t N (nearF N s f) ∧ fr g g' (t + 1))) := by
  refine ct_in (L := [vR t, vI s, vX 2]) (by omega) (Nat.le_of_ble_eq_true rfl) rfl (fun e he => ?_)
  have h8 := hp.2.2.1
  refine b_X3_bringOthersNearer_0 ht ?_
  refine loopN (P := fun k g' => PT g' t N (nearF k s f) ∧ fr g g' (t + 1)) N (fun k g' => ∀ v : Int, v = k → EV e mX3_bringOthersNearer _ 2 [vR t, vI s, vI v] [] g') ?_ ?_ 0 g (Nat.zero_le _) ⟨by rw [near_0]; exact hp, fr.rf⟩ 0 rfl
  · rintro k g1 hk ⟨hp1, hf1⟩ ih v rfl
    have hm := hp1.1
    have hr := hp1.rd hk
    have hb := hp1.bd hk
    rw [near_k] at hr hb
    have hput : ∀ x : Int, k ≠ s → toward (f k) = x → -9 ≤ x → x ≤ 9 → PT (cset g1 (t + 1) (fup (g1 (t + 1)) k x)) t N (nearF (k + 1) s f) ∧ fr g (cset g1 (t + 1) (fup (g1 (t + 1)) k x)) (t + 1) := fun x h1 h2 h3 h4 => ⟨by rw [near_ne f h1, h2]; exact hp1.put ⟨h3, h4⟩, hf1.tr (fr.set _)⟩
    have hkeep : k = s ∨ f k = 0 → PT g1 t N (nearF (k + 1) s f) ∧ fr g g1 (t + 1) := fun h => ⟨by rw [near_eq f h]; exact hp1, hf1⟩
    have htw := toward_cases (f k)
    refine b_X3_bringOthersNearer_2 ht (fun c2 => ?_) (fun c2 => ?_)
    · exfalso
      try simp (disch := omega) only [w32_of, Int.toNat_natCast, tn0, tn1, tn2, Int.toNat_natCast, w32_of, hr] at c2
      omega
    · try simp (disch := omega) only [w32_of, Int.toNat_natCast, tn0, tn1, tn2, Int.toNat_natCast, w32_of, hr] at c2 ⊢
      refine b_X3_bringOthersNearer_10 ht (fun c10 => ?_) (fun c10 => ?_)
      · refine b_X3_bringOthersNearer_18 ht (by omega) (by omega) (fun c18 => ?_) (fun c18 => ?_)
        · try simp (disch := omega) only [w32_of, Int.toNat_natCast, tn0, tn1, tn2, Int.toNat_natCast, w32_of, hr] at c18 ⊢
          refine b_X3_bringOthersNearer_40 ht (by omega) (by omega) (fun c40 => ?_) (fun c40 => ?_)
          · try simp (disch := omega) only [w32_of, Int.toNat_natCast, tn0, tn1, tn2, Int.toNat_natCast, w32_of, hr] at c40 ⊢
            refine b_X3_bringOthersNearer_59 ht ?_
            try simp (disch := omega) only [w32_of, Int.toNat_natCast, tn0, tn1, tn2, Int.toNat_natCast, w32_of, hr]
            first | exact ih _ (hkeep (by omega)) _ (by omega) | exact ih _ (hput _ (by omega) (by omega) (by omega) (by omega)) _ (by omega)
          · try simp (disch := omega) only [w32_of, Int.toNat_natCast, tn0, tn1, tn2, Int.toNat_natCast, w32_of, hr] at c40 ⊢
            refine b_X3_bringOthersNearer_49 ht (by omega) (by omega) ?_
            try simp (disch := omega) only [w32_of, Int.toNat_natCast, tn0, tn1, tn2, Int.toNat_natCast, w32_of, hr]
            first | exact ih _ (hkeep (by omega)) _ (by omega) | exact ih _ (hput _ (by omega) (by omega) (by omega) (by omega)) _ (by omega)
        · try simp (disch := omega) only [w32_of, Int.toNat_natCast, tn0, tn1, tn2, Int.toNat_natCast, w32_of, hr] at c18 ⊢
          refine b_X3_bringOthersNearer_27 ht (by omega) (by omega) ?_
          try simp (disch := omega) only [w32_of, Int.toNat_natCast, tn0, tn1, tn2, Int.toNat_natCast, w32_of, hr]
          first | exact ih _ (hkeep (by omega)) _ (by omega) | exact ih _ (hput _ (by omega) (by omega) (by omega) (by omega)) _ (by omega)
      · refine b_X3_bringOthersNearer_15 ht ?_
        try simp (disch := omega) only [w32_of, Int.toNat_natCast, tn0, tn1, tn2, Int.toNat_natCast, w32_of, hr]
        first | exact ih _ (hkeep (by omega)) _ (by omega) | exact ih _ (hput _ (by omega) (by omega) (by omega) (by omega)) _ (by omega)
  · rintro g1 ⟨hp1, hf1⟩ v rfl
    have hm := hp1.1
    refine b_X3_bringOthersNearer_2 ht (fun c2 => ?_) (fun c2 => ?_)
    · refine b_X3_bringOthersNearer_65 ht ?_
      exact ⟨rfl, hp1, hf1⟩
    · exfalso
      omega
