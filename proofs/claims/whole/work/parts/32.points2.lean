theorem s_suffer {d t N : Nat} {g : pG} {f : tF} {kind fig : Int} (hd : 3 ≤ d) (ht : isPts t) (hp : PT g t N f) (hk : 0 ≤ kind ∧ kind ≤ 5) (hf : 0 ≤ fig ∧ fig ≤ 9) : CT d mX3_suffer [vR t, vI kind, vI fig] g (qV (fun g' => PT g' t N (actF N kind fig f) ∧ fr g g' (t + 1))) := by
  refine ct_in (L := [vR t, vI kind, vI fig, vX 2]) (by omega) (Nat.le_of_ble_eq_true rfl) rfl (fun e he => ?_)
  have h1 := hp.2.1
  have hs := psur_lt f N (by omega)
  rcases (show kind = 0 ∨ kind = 1 ∨ kind = 2 ∨ kind = 3 ∨ kind = 4 ∨ kind = 5 by omega) with rfl | rfl | rfl | rfl | rfl | rfl
  · refine b_X3_suffer_0 ht (s_surest (by omega) ht hp) (fun x0 g0 hx => ?_)
    obtain ⟨rfl, rfl⟩ := hx
    refine b_X3_suffer_4 ht (fun c4 => ?_) (fun c4 => ?_) (fun c4 => ?_) (fun c4 => ?_) (fun c4 => ?_) (fun c4 => ?_) (fun c4 => ?_)
    · refine b_X3_suffer_44 ht (s_halve (by omega) ht hp hs) (fun g2 hx => ?_)
      obtain ⟨hp1, hf1⟩ := hx
      refine b_X3_suffer_49 ht ?_
      exact ⟨rfl, hp1, hf1⟩
    · exfalso
      omega
    · exfalso
      omega
    · exfalso
      omega
    · exfalso
      omega
    · exfalso
      omega
    · exfalso
      omega
  · refine b_X3_suffer_0 ht (s_surest (by omega) ht hp) (fun x0 g0 hx => ?_)
    obtain ⟨rfl, rfl⟩ := hx
    refine b_X3_suffer_4 ht (fun c4 => ?_) (fun c4 => ?_) (fun c4 => ?_) (fun c4 => ?_) (fun c4 => ?_) (fun c4 => ?_) (fun c4 => ?_)
    · exfalso
      omega
    · refine b_X3_suffer_52 ht (s_turn (by omega) ht hp hs) (fun g2 hx => ?_)
      obtain ⟨hp1, hf1⟩ := hx
      refine b_X3_suffer_57 ht ?_
      exact ⟨rfl, hp1, hf1⟩
    · exfalso
      omega
    · exfalso
      omega
    · exfalso
      omega
    · exfalso
      omega
    · exfalso
      omega
  · refine b_X3_suffer_0 ht (s_surest (by omega) ht hp) (fun x0 g0 hx => ?_)
    obtain ⟨rfl, rfl⟩ := hx
    refine b_X3_suffer_4 ht (fun c4 => ?_) (fun c4 => ?_) (fun c4 => ?_) (fun c4 => ?_) (fun c4 => ?_) (fun c4 => ?_) (fun c4 => ?_)
    · exfalso
      omega
    · exfalso
      omega
    · refine b_X3_suffer_60 ht (s_turn (by omega) ht hp hs) (fun g2 hx => ?_)
      obtain ⟨hp1, hf1⟩ := hx
      refine b_X3_suffer_65 ht (s_less (by omega) ht hp1 hs) (fun g3 hx => ?_)
      obtain ⟨hp2, hf2⟩ := hx
      refine b_X3_suffer_70 ht ?_
      exact ⟨rfl, hp2, hf1.tr hf2⟩
    · exfalso
      omega
    · exfalso
      omega
    · exfalso
      omega
    · exfalso
      omega
  · refine b_X3_suffer_0 ht (s_surest (by omega) ht hp) (fun x0 g0 hx => ?_)
    obtain ⟨rfl, rfl⟩ := hx
    refine b_X3_suffer_4 ht (fun c4 => ?_) (fun c4 => ?_) (fun c4 => ?_) (fun c4 => ?_) (fun c4 => ?_) (fun c4 => ?_) (fun c4 => ?_)
    · exfalso
      omega
    · exfalso
      omega
    · exfalso
      omega
    · refine b_X3_suffer_73 ht (s_bring (by omega) ht hp hs hf) (fun g2 hx => ?_)
      obtain ⟨hp1, hf1⟩ := hx
      refine b_X3_suffer_79 ht ?_
      exact ⟨rfl, hp1, hf1⟩
    · exfalso
      omega
    · exfalso
      omega
    · exfalso
      omega
  · refine b_X3_suffer_0 ht (s_surest (by omega) ht hp) (fun x0 g0 hx => ?_)
    obtain ⟨rfl, rfl⟩ := hx
    refine b_X3_suffer_4 ht (fun c4 => ?_) (fun c4 => ?_) (fun c4 => ?_) (fun c4 => ?_) (fun c4 => ?_) (fun c4 => ?_) (fun c4 => ?_)
    · exfalso
      omega
    · exfalso
      omega
    · exfalso
      omega
    · exfalso
      omega
    · refine b_X3_suffer_82 ht (s_halve (by omega) ht hp hs) (fun g2 hx => ?_)
      obtain ⟨hp1, hf1⟩ := hx
      refine b_X3_suffer_87 ht (s_near (by omega) ht hp1 hs) (fun g3 hx => ?_)
      obtain ⟨hp2, hf2⟩ := hx
      refine b_X3_suffer_92 ht ?_
      exact ⟨rfl, hp2, hf1.tr hf2⟩
    · exfalso
      omega
    · exfalso
      omega
  · refine b_X3_suffer_0 ht (s_surest (by omega) ht hp) (fun x0 g0 hx => ?_)
    obtain ⟨rfl, rfl⟩ := hx
    refine b_X3_suffer_4 ht (fun c4 => ?_) (fun c4 => ?_) (fun c4 => ?_) (fun c4 => ?_) (fun c4 => ?_) (fun c4 => ?_) (fun c4 => ?_)
    · exfalso
      omega
    · exfalso
      omega
    · exfalso
      omega
    · exfalso
      omega
    · exfalso
      omega
    · refine b_X3_suffer_95 ht (s_turn (by omega) ht hp hs) (fun g2 hx => ?_)
      obtain ⟨hp1, hf1⟩ := hx
      refine b_X3_suffer_100 ht (s_less (by omega) ht hp1 hs) (fun g3 hx => ?_)
      obtain ⟨hp2, hf2⟩ := hx
      refine b_X3_suffer_105 ht (s_surest (by omega) ht hp2) (fun x4 _ hx => ?_)
      obtain ⟨rfl, rfl⟩ := hx
      refine b_X3_suffer_110 ht (s_halve (by omega) ht hp2 (psur_lt _ N (by omega))) (fun g5 hx => ?_)
      obtain ⟨hp3, hf3⟩ := hx
      refine b_X3_suffer_113 ht ?_
      exact ⟨rfl, hp3, (hf1.tr hf2).tr hf3⟩
    · exfalso
      omega
theorem s_hasW {d t N : Nat} {g : pG} {v : Int} (hd : 1 ≤ d) (ht : isPts t) (hm : g t 1 = N) : CT d mX3_has [vR t, vI v] g (qI (fun x g' => x = bi (0 ≤ v ∧ v < N) ∧ g' = g)) := by
  refine ct_in (L := [vR t, vI v]) (by omega) (Nat.le_of_ble_eq_true rfl) rfl (fun e he => ?_)
  refine b_X3_has_0 ht (fun c0 => ?_) (fun c0 => ?_)
  · refine b_X3_has_16 ht ?_
    exact ⟨_, rfl, (bi_neg (by omega)).symm, rfl⟩
  · refine b_X3_has_4 ht (fun c4 => ?_) (fun c4 => ?_)
    · refine b_X3_has_16 ht ?_
      exact ⟨_, rfl, (bi_neg (by omega)).symm, rfl⟩
    · refine b_X3_has_12 ht ?_
      exact ⟨_, rfl, (bi_pos (by omega)).symm, rfl⟩
theorem s_has {d t N : Nat} {g : pG} {f : tF} {v : Int} (hd : 1 ≤ d) (ht : isPts t) (hp : PT g t N f) : CT d mX3_has [vR t, vI v] g (qI (fun x g' => x = bi (0 ≤ v ∧ v < N) ∧ g' = g)) := s_hasW hd ht hp.1
theorem bi_ne0 {p : Prop} [Decidable p] (h : ¬ bi p = 0) : p := by
  unfold bi at h
  split at h
  · assumption
  · exact absurd rfl h
theorem bi_eq0 {p : Prop} [Decidable p] (h : bi p = 0) : ¬ p := by
  intro hp
  rw [bi_pos hp] at h
  exact absurd h (by decide)
theorem s_number {d t N p : Nat} {g : pG} {f : tF} (hd : 2 ≤ d) (ht : isPts t) (hp : PT g t N f) (hpn : p < N) : CT d mX3_number [vR t, vI p] g (qI (fun x g' => x = f p ∧ g' = g)) := by
  refine ct_in (L := [vR t, vI p]) (by omega) (Nat.le_of_ble_eq_true rfl) rfl (fun e he => ?_)
  have h8 := hp.2.2.1
  have hr := hp.rd hpn
  refine b_X3_number_0 ht (s_has (by omega) ht hp) (fun x0 g0 hx => ?_)
  obtain ⟨rfl, rfl⟩ := hx
  rw [bi_pos ⟨by omega, by omega⟩]
  refine b_X3_number_5 ht (fun c5 => ?_) (fun c5 => ?_)
  · exfalso
    omega
  · refine b_X3_number_8 ht (by omega) (by omega) ?_
    try simp (disch := omega) only [w32_of, Int.toNat_natCast, tn0, tn1, tn2]
    exact ⟨_, rfl, hr, rfl⟩
theorem zheld (v : Int) : zmax (-9) (zmin 9 v) = held v := by
  unfold zmax zmin held
  (repeat' split) <;> omega
theorem s_putW {d t N p : Nat} {g : pG} {v : Int} (hd : 2 ≤ d) (ht : isPts t) (hm : g t 1 = N) (h8 : N ≤ 8) (hpn : p < N) : CT d mX3_put [vR t, vI p, vI v] g (qV (fun g' => g' = cset g (t + 1) (fup (g (t + 1)) p (held v)))) := by
  refine ct_in (L := [vR t, vI p, vI v]) (by omega) (Nat.le_of_ble_eq_true rfl) rfl (fun e he => ?_)
  refine b_X3_put_0 ht (s_hasW (by omega) ht hm) (fun x0 g0 hx => ?_)
  obtain ⟨rfl, rfl⟩ := hx
  rw [bi_pos ⟨by omega, by omega⟩]
  refine b_X3_put_5 ht (fun c5 => ?_) (fun c5 => ?_)
  · exfalso
    omega
  · refine b_X3_put_8 ht (by omega) (by omega) ?_
    try simp (disch := omega) only [w32_of, Int.toNat_natCast, tn0, tn1, tn2]
    rw [zheld]
    exact ⟨rfl, rfl⟩
theorem s_put {d t N p : Nat} {g : pG} {f : tF} {v : Int} (hd : 2 ≤ d) (ht : isPts t) (hp : PT g t N f) (hpn : p < N) : CT d mX3_put [vR t, vI p, vI v] g (qV (fun g' => PT g' t N (fup f p (held v)) ∧ fr g g' (t + 1))) :=
  ct_mono (fun v gg hq => by obtain ⟨rfl, rfl⟩ := hq; exact ⟨rfl, hp.put (held_bd _), fr.set _⟩) (s_putW hd ht hp.1 hp.2.2.1 hpn)
theorem fcp_8 {f g : tF} {k : Nat} (h : k < 8) : fcp f g 0 0 8 k = f k := by
  unfold fcp
  rw [if_pos ⟨Nat.zero_le _, by omega⟩]
  congr 1
  omega
def fr2 (g g' : pG) (t : Nat) : Prop := ∀ a, a ≠ t → a ≠ t + 1 → g' a = g a
theorem fr2.rf {g : pG} {t : Nat} : fr2 g g t := fun _ _ _ => rfl
theorem fr2.tr {g g1 g2 : pG} {t : Nat} (h1 : fr2 g g1 t) (h2 : fr2 g1 g2 t) : fr2 g g2 t := fun a ha hb => (h2 a ha hb).trans (h1 a ha hb)
theorem fr.to2 {g g' : pG} {t : Nat} (h : fr g g' (t + 1)) : fr2 g g' t := fun a _ hb => h a hb
/-- Points.copyFrom: all eight numbers, and how many -/
theorem s_copyP {d t u : Nat} {g : pG} (hd : 1 ≤ d) (ht : isPts t) (hu : isPts u) (h1 : u ≠ t) (h2 : u + 1 ≠ t) : CT d mX3_copyFrom [vR t, vR u] g (qV (fun g' => g' t 1 = g u 1 ∧ (∀ k, k < 8 → g' (t + 1) k = g (u + 1) k) ∧ fr2 g g' t)) := by
  refine ct_in (L := [vR t, vR u]) (by omega) (Nat.le_of_ble_eq_true rfl) rfl (fun e he => ?_)
  refine b_X3_copyFrom_0 ht hu ?_
  try simp (disch := omega) only [w32_of, Int.toNat_natCast, tn0, tn1, tn2]
  refine ⟨rfl, ?_, ?_, ?_⟩
  · rw [cset_ne _ _ (by omega), cset_self];exact fup_self _ _ _
  · intro k hk;rw [cset_self, fcp_8 hk, cset_ne _ _ h2]
  · intro a ha hb;rw [cset_ne _ _ hb, cset_ne _ _ ha]
theorem PT.of {g g' : pG} {t u N : Nat} {f : tF} (h : PT g u N f) (h1 : g' t 1 = g u 1) (h2 : ∀ k, k < 8 → g' (t + 1) k = g (u + 1) k) : PT g' t N f := by
  obtain ⟨a1, a2, a3, a4, a5⟩ := h
  exact ⟨h1.trans a1, a2, a3, fun k hk => (h2 k (by omega)).trans (a4 k hk), a5⟩
theorem s_resize {d t v : Nat} {g : pG} (hd : 1 ≤ d) (ht : isPts t) (hv : 1 ≤ v ∧ v ≤ 8) : CT d mX3_resize [vR t, vI v] g (qV (fun g' => g' t 1 = v ∧ (∀ k, k < v → g' (t + 1) k = g (t + 1) k) ∧ (∀ k, v ≤ k → k < 8 → g' (t + 1) k = 0) ∧ fr2 g g' t)) := by
  refine ct_in (L := [vR t, vI v, vX 2]) (by omega) (Nat.le_of_ble_eq_true rfl) rfl (fun e he => ?_)
  have hz : zmax 1 (zmin 8 (v : Int)) = v := by
    unfold zmax zmin
    split <;> split <;> omega
  refine b_X3_resize_0 ht ?_
  rw [hz, cset_self, fup_self]
  refine loopN (P := fun k g' => v ≤ k → g' t 1 = v ∧ (∀ j, j < v → g' (t + 1) j = g (t + 1) j) ∧ (∀ j, v ≤ j → j < k → g' (t + 1) j = 0) ∧ fr2 g g' t) 8 (fun k g' => v ≤ k → ∀ w : Int, w = k → EV e mX3_resize _ 19 [vR t, vI v, vI w] [] g') ?_ ?_ v _ hv.2 ?_ (Nat.le_refl _) _ rfl
  · rintro k g1 hk hp ih hvk w rfl
    obtain ⟨p1, p2, p3, p4⟩ := hp hvk
    refine b_X3_resize_19 ht (fun c19 => ?_) (fun c19 => ?_)
    · exfalso
      omega
    · refine b_X3_resize_25 ht (by omega) (by omega) ?_
      try simp (disch := omega) only [w32_of, Int.toNat_natCast, tn0, tn1, tn2]
      refine ih _ (fun _ => ⟨?_, ?_, ?_, ?_⟩) (by omega) _ (by omega)
      · rw [cset_ne _ _ (by omega)]; exact p1
      · intro j hj; rw [cset_self, fup_ne _ _ (by omega)]; exact p2 j hj
      · intro j hj hjk; rw [cset_self]; exact (if e : j = k then (by rw [e]; exact fup_self _ _ _) else (by rw [fup_ne _ _ e]; exact p3 j hj (by omega)))
      · intro a ha hb; rw [cset_ne _ _ hb]; exact p4 a ha hb
  · rintro g1 hp hvk w rfl
    obtain ⟨p1, p2, p3, p4⟩ := hp hvk
    refine b_X3_resize_19 ht (fun c19 => ?_) (fun c19 => ?_)
    · refine b_X3_resize_38 ht ?_
      exact ⟨rfl, p1, p2, p3, p4⟩
    · exfalso
      omega
  · intro _
    refine ⟨?_, ?_, ?_, ?_⟩
    · rw [cset_self, fup_self]
    · intro j hj; rw [cset_ne _ _ (by omega)]
    · intro j hj hjv; omega
    · intro a ha hb; rw [cset_ne _ _ ha]
/-- the case of three by its number -/
def three (c f : Int) : tF := fun k => (if k = 0 then c / ((2 * f + 1) * (2 * f + 1)) else if k = 1 then c / (2 * f + 1) % (2 * f + 1) else c % (2 * f + 1)) - f
theorem tdiv_nn {a b : Int} (h : 0 ≤ a) : a.tdiv b = a / b := Int.tdiv_eq_ediv_of_nonneg h
theorem tmod_nn {a b : Int} (h : 0 ≤ a) : a.tmod b = a % b := Int.tmod_eq_emod_of_nonneg h
def wideOK (c f : Int) : Prop := (f = 0 ∧ 0 ≤ c ∧ c < 1) ∨ (f = 1 ∧ 0 ≤ c ∧ c < 27) ∨ (f = 2 ∧ 0 ≤ c ∧ c < 125) ∨ (f = 3 ∧ 0 ≤ c ∧ c < 343) ∨ (f = 4 ∧ 0 ≤ c ∧ c < 729)
theorem three_bd {c f : Int} (h : wideOK c f) : ∀ k, k < 3 → -f ≤ three c f k ∧ three c f k ≤ f := by
  intro k hk
  unfold three
  rcases h with ⟨rfl, h1, h2⟩ | ⟨rfl, h1, h2⟩ | ⟨rfl, h1, h2⟩ | ⟨rfl, h1, h2⟩ | ⟨rfl, h1, h2⟩ <;> (split; · omega) <;> (split <;> omega)
theorem three_Bd {c f : Int} (h : wideOK c f) : Bd 3 (three c f) := by
  intro k hk
  have h1 := three_bd h k hk
  have h2 : 0 ≤ f ∧ f ≤ 4 := by rcases h with h | h | h | h | h <;> omega
  omega
theorem held_id {x : Int} (h : -9 ≤ x ∧ x ≤ 9) : held x = x := by
  unfold held; rw [if_neg (by omega), if_neg (by omega)]
theorem s_isAs {d t u N : Nat} {g : pG} {f f' : tF} (hd : 1 ≤ d) (ht : isPts t) (hu : isPts u) (hp : PT g t N f) (hq : PT g u N f') : CT d mX3_isAs [vR t, vR u] g (qI (fun x g' => x = bi (∀ k, k < N → f k = f' k) ∧ g' = g)) := by
  refine ct_in (L := [vR t, vR u, vX 2]) (by omega) (Nat.le_of_ble_eq_true rfl) rfl (fun e he => ?_)
  have hm := hp.1
  have hm2 := hq.1
  have h8 := hp.2.2.1
  refine b_X3_isAs_0 ht hu (fun c => ?_) (fun c => absurd (by omega) c)
  refine b_X3_isAs_13 ht hu ?_
  refine loopN (P := fun k g' => g' = g ∧ ∀ j, j < k → f j = f' j) N (fun k g' => ∀ w : Int, w = k → EV e mX3_isAs _ 15 [vR t, vR u, vI w] [] g') ?_ ?_ 0 g (Nat.zero_le _) ⟨rfl, fun j hj => absurd hj (by omega)⟩ _ rfl
  · rintro k g1 hk ⟨rfl, hall⟩ ih w rfl
    have hr := hp.rd hk
    have hr2 := hq.rd hk
    refine b_X3_isAs_15 ht hu (fun c15 => ?_) (fun c15 => ?_)
    · exfalso
      omega
    · refine b_X3_isAs_23 ht hu (by omega) (by omega) (fun c23 => ?_) (fun c23 => ?_)
      · try simp (disch := omega) only [w32_of, Int.toNat_natCast, tn0, tn1, tn2] at c23 ⊢
        refine b_X3_isAs_40 ht hu ?_
        try simp (disch := omega) only [w32_of, Int.toNat_natCast, tn0, tn1, tn2]
        refine ih _ ⟨rfl, fun j hj => ?_⟩ _ (by omega)
        by_cases hjk : j = k
        · subst hjk; omega
        · exact hall j (by omega)
      · try simp (disch := omega) only [w32_of, Int.toNat_natCast, tn0, tn1, tn2] at c23 ⊢
        refine b_X3_isAs_38 ht hu ?_
        exact ⟨_, rfl, (bi_neg (fun z => c23 (by rw [hr, hr2]; exact z k hk))).symm, rfl⟩
  · rintro g1 ⟨rfl, hall⟩ w rfl
    refine b_X3_isAs_15 ht hu (fun c15 => ?_) (fun c15 => ?_)
    · refine b_X3_isAs_46 ht hu ?_
      exact ⟨_, rfl, (bi_pos hall).symm, rfl⟩
    · exfalso
      omega
theorem s_beThree {d t : Nat} {g : pG} {c f : Int} (hd : 3 ≤ d) (ht : isPts t) (hc : wideOK c f) : CT d mX3_beThree [vR t, vI c, vI f] g (qV (fun g' => PT g' t 3 (three c f) ∧ fr2 g g' t)) := by
  refine ct_in (L := [vR t, vI c, vI f, vX 2]) (by omega) (Nat.le_of_ble_eq_true rfl) rfl (fun e he => ?_)
  have hf4 : 0 ≤ f ∧ f ≤ 4 ∧ 0 ≤ c ∧ c < 729 := by rcases hc with h | h | h | h | h <;> omega
  have hz : zmax 0 f = f := by unfold zmax; split <;> omega
  have h1 : w32 (2 * f) = 2 * f := w32_of (by omega) (by omega)
  have h2 : w32 (2 * f + 1) = 2 * f + 1 := w32_of (by omega) (by omega)
  have hsq : 1 ≤ (2 * f + 1) * (2 * f + 1) ∧ (2 * f + 1) * (2 * f + 1) ≤ 81 := by
    rcases (show f = 0 ∨ f = 1 ∨ f = 2 ∨ f = 3 ∨ f = 4 by omega) with rfl | rfl | rfl | rfl | rfl <;> decide
  have h3 : w32 ((2 * f + 1) * (2 * f + 1)) = (2 * f + 1) * (2 * f + 1) := w32_of (by omega) (by omega)
  have hb := three_bd hc
  have ha0 := hb 0 (by omega)
  have ha1 := hb 1 (by omega)
  have ha2 := hb 2 (by omega)
  have e0 : three c f 0 = c / ((2 * f + 1) * (2 * f + 1)) - f := rfl
  have e1 : three c f 1 = c / (2 * f + 1) % (2 * f + 1) - f := rfl
  have e2 : three c f 2 = c % (2 * f + 1) - f := rfl
  have d0 : (c.tdiv ((2 * f + 1) * (2 * f + 1))) = c / ((2 * f + 1) * (2 * f + 1)) := tdiv_nn (by omega)
  have d1 : c.tdiv (2 * f + 1) = c / (2 * f + 1) := tdiv_nn (by omega)
  have p1 : 0 ≤ c / (2 * f + 1) ∧ c / (2 * f + 1) ≤ 729 := by
    rcases hc with h | h | h | h | h <;> (obtain ⟨rfl, g1, g2⟩ := h; omega)
  have d2 : (c / (2 * f + 1)).tmod (2 * f + 1) = c / (2 * f + 1) % (2 * f + 1) := tmod_nn p1.1
  have d3 : c.tmod (2 * f + 1) = c % (2 * f + 1) := tmod_nn (by omega)
  refine b_X3_beThree_0 ht (s_resize (v := 3) (by omega) ht ⟨by omega, by omega⟩) (fun g0 hx => ?_)
  obtain ⟨q1, q2, q3, q4⟩ := hx
  rw [hz, h1, h2]
  have hn : g0 t ≠ g0 t → False := fun h => h rfl
  have k1 : (cset g0 (t + 1) (fup (g0 (t + 1)) 0 (held (c / ((2 * f + 1) * (2 * f + 1)) - f)))) t 1 = (3 : Nat) := by rw [cset_ne _ _ (by omega)]; exact q1
  refine b_X3_beThree_15 ht (by rw [h3]; omega) (by rw [h3, d0, w32_of (x := c / _) (by omega) (by omega), w32_of (by omega) (by omega)]; exact s_putW (p := 0) (by omega) ht q1 (by omega) (by omega)) (fun g1 hx => ?_)
  subst hx
  refine b_X3_beThree_27 ht (by omega) (by rw [d1, w32_of (x := c / _) (by omega) (by omega), d2, w32_of (x := _ % _) (by omega) (by omega), w32_of (by omega) (by omega)]; exact s_putW (p := 1) (by omega) ht k1 (by omega) (by omega)) (fun g2 hx => ?_)
  have k2 : g2 t 1 = (3 : Nat) := by rw [hx, cset_ne _ _ (by omega)]; exact k1
  refine b_X3_beThree_39 ht (by omega) (by rw [d3, w32_of (x := _ % _) (by omega) (by omega), w32_of (by omega) (by omega)]; exact s_putW (p := 2) (by omega) ht k2 (by omega) (by omega)) (fun g3 hx3 => ?_)
  refine b_X3_beThree_49 ht ⟨rfl, ⟨?_, by omega, by omega, fun k hk => ?_, three_Bd hc⟩, fun a ha hb => ?_⟩
  · rw [hx3, cset_ne _ _ (by omega)]; exact k2
  · rw [hx3, hx, cset_self, cset_self, cset_self, ← e0, ← e1, ← e2, held_id (by omega), held_id (by omega), held_id (by omega)]
    unfold fup
    split
    next h => rw [h]
    next h =>
      split
      next h' => rw [h']
      next h' =>
        rw [if_pos (by omega)]
        rw [show k = 0 by omega]
  · rw [hx3, cset_ne _ _ hb, hx, cset_ne _ _ hb, cset_ne _ _ hb]; exact q4 a ha hb
/-- POINTS told in one -/
def told (f : tF) : Nat → Int
  | 0 => 0
  | n + 1 => told f n * 19 + f n + 9
def p19 : Nat → Int
  | 0 => 1
  | n + 1 => p19 n * 19
theorem told_bd {f : tF} {m : Nat} (h : Bd m f) : ∀ n, n ≤ m → 0 ≤ told f n ∧ told f n < p19 n := by
  intro n
  induction n with
  | zero => intro _; exact ⟨Int.le_refl _, by show (0 : Int) < 1; decide⟩
  | succ n ih => intro hn; have h1 := ih (by omega); have h2 := h n (by omega); unfold told p19; omega
theorem p19_le : ∀ n, n ≤ 8 → 1 ≤ p19 n ∧ p19 n ≤ 16983563041 := by
  intro n hn
  rcases (show n = 0 ∨ n = 1 ∨ n = 2 ∨ n = 3 ∨ n = 4 ∨ n = 5 ∨ n = 6 ∨ n = 7 ∨ n = 8 by omega) with rfl | rfl | rfl | rfl | rfl | rfl | rfl | rfl | rfl <;> decide
theorem told_inj {f f' : tF} : ∀ n, Bd n f → Bd n f' → (told f n = told f' n ↔ ∀ k, k < n → f k = f' k) := by
  intro n
  induction n with
  | zero => intro _ _; exact ⟨fun _ k hk => absurd hk (by omega), fun _ => rfl⟩
  | succ n ih =>
    intro h h'
    have i := ih (fun k hk => h k (by omega)) (fun k hk => h' k (by omega))
    have a := h n (by omega)
    have b := h' n (by omega)
    constructor
    · intro e
      unfold told at e
      have e1 : told f n = told f' n := by omega
      have e2 : f n = f' n := by omega
      intro k hk
      by_cases hkn : k = n
      · rw [hkn]; exact e2
      · exact i.mp e1 k (by omega)
    · intro e
      unfold told
      rw [i.mpr (fun k hk => e k (by omega)), e n (by omega)]
theorem s_told {d t N : Nat} {g : pG} {f : tF} (hd : 1 ≤ d) (ht : isPts t) (hp : PT g t N f) : CT d mX3_told [vR t] g (qL (fun x g' => x = told f N ∧ g' = g)) := by
  refine ct_in (L := [vR t, vX 2, vX 2, vX 2]) (by omega) (Nat.le_of_ble_eq_true rfl) rfl (fun e he => ?_)
  have hm := hp.1
  have h8 := hp.2.2.1
  refine b_X3_told_0 ht ?_
  refine loopN (P := fun _ g' => g' = g) N (fun k g' => ∀ (x w : Int), x = told f k → w = k → EV e mX3_told _ 4 [vR t, vL x, vX 2, vI w] [] g') ?_ ?_ 0 g (Nat.zero_le _) rfl _ _ rfl rfl
  · rintro k _ hk rfl ih x w hx rfl
    have hr := hp.rd hk
    have hb := hp.bd hk
    have ht1 := told_bd hp.2.2.2.2 k (by omega)
    have hp9 := p19_le k (by omega)
    refine b_X3_told_4 ht (fun c4 => ?_) (fun c4 => ?_)
    · exfalso
      try simp (disch := omega) only [w32_of, Int.toNat_natCast, tn0, tn1, tn2, w64_of] at c4
      omega
    · try simp (disch := omega) only [w32_of, Int.toNat_natCast, tn0, tn1, tn2, w64_of] at c4 ⊢
      refine b_X3_told_12 ht (by omega) (by omega) ?_
      try simp (disch := omega) only [w32_of, Int.toNat_natCast, tn0, tn1, tn2, w64_of]
      exact ih _ rfl _ _ (by unfold told; omega) (by omega)
  · rintro _ rfl x w rfl rfl
    refine b_X3_told_4 ht (fun c4 => ?_) (fun c4 => ?_)
    · refine b_X3_told_36 ht ?_
      exact ⟨_, rfl, rfl, rfl⟩
    · exfalso
      omega
/-- one move: its POINT 1 more or 1 less -/
def mvF (f : tF) (v : Nat) : tF := fup f (v / 2) (held (f (v / 2) + (if v % 2 = 0 then 1 else -1)))
theorem s_move {d t N v : Nat} {g : pG} {f : tF} (hd : 3 ≤ d) (ht : isPts t) (hp : PT g t N f) (hv : v < 2 * N) : CT d mX3_move [vR t, vI v] g (qI (fun x g' => x = f (v / 2) ∧ PT g' t N (mvF f v) ∧ fr g g' (t + 1))) := by
  refine ct_in (L := [vR t, vI v, vX 2]) (by omega) (Nat.le_of_ble_eq_true rfl) rfl (fun e he => ?_)
  have h8 := hp.2.2.1
  have hlt : v / 2 < N := by omega
  have hb := hp.bd hlt
  have e1 : w32 ((v : Int).tdiv 2) = ((v / 2 : Nat) : Int) := by
    rw [tdiv_nn (by omega), w32_of (by omega) (by omega)]; omega
  have e2 : w32 ((v : Int).tmod 2) = ((v % 2 : Nat) : Int) := by
    rw [tmod_nn (by omega), w32_of (by omega) (by omega)]; omega
  refine b_X3_move_0 ht (by rw [e1]; exact s_number (by omega) ht hp hlt) (fun x g0 hx => ?_)
  obtain ⟨rfl, rfl⟩ := hx
  refine b_X3_move_7 ht (fun c => ?_) (fun c => ?_)
  · rw [e2] at c
    rw [e1]
    refine b_X3_move_24 ht (by rw [w32_of (by omega) (by omega)]; exact s_put (by omega) ht hp hlt) (fun g1 hx => ?_)
    obtain ⟨hp1, hf1⟩ := hx
    refine b_X3_move_30 ht ⟨_, rfl, rfl, ?_, hf1⟩
    unfold mvF
    rw [if_neg (by omega)]
    exact hp1
  · rw [e2] at c
    rw [e1]
    refine b_X3_move_18 ht (by rw [w32_of (by omega) (by omega)]; exact s_put (by omega) ht hp hlt) (fun g1 hx => ?_)
    obtain ⟨hp1, hf1⟩ := hx
    refine b_X3_move_30 ht ⟨_, rfl, rfl, ?_, hf1⟩
    unfold mvF
    rw [if_pos (by omega)]
    exact hp1
