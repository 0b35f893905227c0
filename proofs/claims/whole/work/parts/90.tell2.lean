/-! AppealsDown.tellLetters, caseOf -/
def rnK (sg : Nat → Int) (K : tK) : Nat → Option tK
  | 0 => some K
  | k + 1 => (rnK sg K k).bind (stm sg (ltP sg k))
def CS (sg : Nat → Int) (n : Nat) (K : tK) (a : Int) (o : Option tK) : Prop :=
  (∃ k q : Nat, okTo sg k ∧ (k = 0 ∨ ltP sg k < n) ∧ badAt sg (ltP sg k) q ∧ a = -1000 - (q : Int) ∧ o = none) ∨
  (∃ k : Nat, 1 ≤ k ∧ okTo sg k ∧ ltP sg k = n ∧ ((∃ (i : Nat) (Ki : tK), i < k ∧ rnK sg K i = some Ki ∧ stm sg (ltP sg i) Ki = none ∧ a = -2000 - ((ltP sg i : Nat) : Int) ∧ o = none) ∨ (∃ K', rnK sg K k = some K' ∧ a = (k : Int) ∧ o = some K')))
theorem stm_ok {sg : Nat → Int} {p : Nat} {K K' : tK} (hK : KOK K) (h : stm sg p K = some K') : KOK K' := by
  unfold stm at h
  split at h
  · split at h
    · next hc => cases h; exact addK_ok hK hc.1 hc.2.1 hc.2.2.1 hc.2.2.2
    · cases h
  · split at h
    · split at h
      · next hc => cases h; exact chgK_ok hK hc
      · cases h
    · split at h
      · split at h
        · next hc =>
          cases h
          refine setPt_ok hK (by omega) ?_
          unfold held
          repeat' split
          all_goals omega
        · cases h
      · split at h
        · split at h
          · next hc => cases h; exact chgK_ok hK hc
          · cases h
        · split at h
          · split at h
            · next hc => cases h; exact chgK_ok hK hc
            · cases h
          · split at h
            · split at h
              · cases h; exact dropK_ok hK
              · cases h
            · cases h
theorem rnK_ok {sg : Nat → Int} {K : tK} (hK : KOK K) : ∀ (k : Nat) (K' : tK), rnK sg K k = some K' → KOK K' := by
  intro k
  induction k with
  | zero => intro K' h; cases h; exact hK
  | succ k ih =>
    intro K' h
    unfold rnK at h
    cases h1 : rnK sg K k with
    | none => rw [h1] at h; cases h
    | some K1 => rw [h1] at h; exact stm_ok (ih K1 h1) h
theorem okS_2 {sg : Nat → Int} {p : Nat} (h : okS sg p) : 2 ≤ sLen (shp (sg p)) := sLen_pos _ (shp_lt _) h.1
theorem ltP_lt {sg : Nat → Int} {k : Nat} (h : okTo sg k) : ∀ m i : Nat, m ≤ k → i < m → ltP sg i + 2 ≤ ltP sg m := by
  intro m
  induction m with
  | zero => intro i _ hi; exact absurd hi (Nat.not_lt_zero _)
  | succ m ih =>
    intro i hm hi
    have h2 := okS_2 (h m (by omega))
    show ltP sg i + 2 ≤ ltP sg m + sLen (shp (sg (ltP sg m)))
    rcases (show i < m ∨ i = m by omega) with q | q
    · have := ih i (by omega) q
      omega
    · rw [q]; omega
theorem ltP_le {sg : Nat → Int} {k m i : Nat} (h : okTo sg k) (hm : m ≤ k) (hi : i ≤ m) : ltP sg i ≤ ltP sg m := by
  rcases (show i < m ∨ i = m by omega) with q | q
  · have := ltP_lt h m i hm q; omega
  · rw [q]; exact Nat.le_refl _
theorem ch_59 : ∀ j, j < 7 → ∀ t, t < sLen j → (sCh j t = 59 ↔ t + 1 = sLen j) := by decide
theorem su_59 {c : Int} {j t : Nat} (hj : j < 7) (ht : t < sLen j) (h : suF c (sCh j t)) : c = 59 ↔ t + 1 = sLen j := by
  rw [← ch_59 j hj t ht]
  unfold suF at h
  omega
/-- the m-th STATEMENT began before place a, the next one doesn't -/
def AtM (sg : Nat → Int) (m a : Nat) : Prop := (m = 0 ∧ a = 0) ∨ (1 ≤ m ∧ ltP sg (m - 1) < a ∧ a ≤ ltP sg m)
theorem AtM_begins {sg : Nat → Int} {kk m a : Nat} (hk : okTo sg kk) (hm : m ≤ kk) (h : AtM sg m a) : (a = 0 ∨ ∃ b, a = b + 1 ∧ sg b = 59) ↔ a = ltP sg m := by
  rcases h with ⟨h1, h2⟩ | ⟨h1, h2, h3⟩
  · rw [h1, h2]
    exact ⟨fun _ => rfl, fun _ => Or.inl rfl⟩
  · obtain ⟨m', rfl⟩ : ∃ m', m = m' + 1 := ⟨m - 1, by omega⟩
    rw [Nat.add_sub_cancel] at h2
    have hs := hk m' (by omega)
    have h3' : a ≤ ltP sg m' + sLen (shp (sg (ltP sg m'))) := h3
    have key : ∀ b, a = b + 1 → (sg b = 59 ↔ a = ltP sg m' + sLen (shp (sg (ltP sg m')))) := by
      intro b hb
      have hsu := hs.2 (b - ltP sg m') (by omega)
      rw [show ltP sg m' + (b - ltP sg m') = b by omega] at hsu
      rw [su_59 (shp_lt _) (by omega) hsu]
      omega
    show _ ↔ a = ltP sg m' + sLen (shp (sg (ltP sg m')))
    constructor
    · rintro (q | ⟨b, hb, hb2⟩)
      · omega
      · exact (key b hb).mp hb2
    · intro q
      exact Or.inr ⟨a - 1, by omega, (key (a - 1) (by omega)).mpr q⟩
theorem w32s {k : Nat} (h : k ≤ 102) : w32 ((k : Int) + 1) = ((k + 1 : Nat) : Int) := w32n k (by omega)
theorem w2000 {a : Nat} (h : a ≤ 102) : w32 ((-2000) - (a : Int)) = -2000 - (a : Int) := w32_of (by omega) (by omega)
theorem w1000 {a : Nat} (h : a ≤ 102) : w32 ((-1000) - (a : Int)) = -1000 - (a : Int) := w32_of (by omega) (by omega)
def TLo (g : pG) (o : Option tK) (g' : pG) : Prop := match o with
  | none => ∀ a, (a < 7 ∨ 13 ≤ a) → g' a = g a
  | some K' => SU g' 1 K' ∧ g' 21 3 = 0 ∧ ∀ a, (a = 0 ∨ (13 ≤ a ∧ a ≠ 21)) → g' a = g a
theorem sgN_frm {g g' : pG} (h1 : g' 19 = g 19) (h2 : g' 20 = g 20) : sgN g' = sgN g := by
  funext i
  show sgn (g' 20) (g' 19 1) (i : Int) = sgn (g 20) (g 19 1) (i : Int)
  rw [h1, h2]
theorem s_tellLetters {d n : Nat} {g : pG} {K : tK} (hd : 7 ≤ d) (hn : g 19 1 = (n : Int)) (h96 : n ≤ 96) (hf : ∀ k, k < n → 0 ≤ g 20 k ∧ g 20 k ≤ 255) (hu : SU g 1 K) (hK : KOK K) : CT d mX7_tellLetters [vR 0] g (qI fun x g' => ∃ o, CS (sgN g) n K x o ∧ TLo g o g') := by
  refine ct_in (by omega) (Nat.le_of_ble_eq_true rfl) rfl (fun e he => ?_)
  refine b_X7_tellLetters_0 (s_firstBad (d := e) hn h96 (by omega)) (fun x g0 hx => ?_)
  obtain ⟨hx, hg⟩ := hx
  rw [hg]
  refine b_X7_tellLetters_7 (fun c => ?_) (fun c => ?_)
  · have hch : ∃ kk, 1 ≤ kk ∧ okTo (sgN g) kk ∧ ltP (sgN g) kk = n := by
      rcases hx with ⟨-, h⟩ | ⟨k, q, -, -, -, h⟩
      · exact h
      · omega
    clear hx
    obtain ⟨kk, hk1, hko, hkn⟩ := hch
    refine b_X7_tellLetters_18 (s_copyS (d := e) (r := 1) (s := 7) (by omega) st_1 st_7 (by omega) hK hu) (fun g1 h1 => ?_)
    obtain ⟨hu1, hf1⟩ := h1
    refine b_X7_tellLetters_29 ?_
    have hk48 : ∀ m, m ≤ kk → 2 * m ≤ ltP (sgN g) m := by
      intro m
      induction m with
      | zero => intro _; exact Nat.zero_le _
      | succ m ih =>
        intro hm
        have := ltP_lt hko (m + 1) m hm (by omega)
        have := ih (by omega)
        omega
    have hkk := hk48 kk (Nat.le_refl _)
    have loop : ∀ (r a m : Nat) (g1 : pG) (Km : tK), a + r = n → m ≤ kk → AtM (sgN g) m a → rnK (sgN g) K m = some Km → SU g1 7 Km → frR 7 g g1 → EV e mX7_tellLetters (qI fun x g' => ∃ o, CS (sgN g) n K x o ∧ TLo g o g') 33 [vR 0, vI x, vI (m : Int), vI (a : Int)] [] g1 := by
      intro r
      induction r with
      | zero =>
        intro a m g1 Km ha hm hA hr hu1 hf1
        have ean : a = n := by omega
        subst ean
        have e19 : g1 19 = g 19 := hf1 19 (by omega)
        have hmk : m = kk := by
          rcases Nat.lt_or_ge m kk with q | q
          · have := ltP_lt hko kk m (Nat.le_refl _) q
            rcases hA with ⟨q1, q2⟩ | ⟨q1, q2, q3⟩ <;> omega
          · omega
        subst hmk
        refine b_X7_tellLetters_33 (fun h => ?_) (fun h => absurd (by rw [e19, hn]; exact Int.le_refl _) h)
        have hKm := rnK_ok hK m Km hr
        refine b_X7_tellLetters_85 (s_copyS (d := e) (r := 7) (s := 1) (by omega) st_7 st_1 (by omega) hKm hu1) (fun g2 h2 => ?_)
        obtain ⟨hu2, hf2⟩ := h2
        refine b_X7_tellLetters_96 ⟨_, rfl, some Km, Or.inr ⟨m, hk1, hko, hkn, Or.inr ⟨Km, hr, rfl, rfl⟩⟩, ?_⟩
        refine ⟨hu2.frm (fun a ha hb => cset_ne _ _ (by omega)), by rw [cset_self, fup_self], fun b hb => ?_⟩
        rw [cset_ne _ _ (by omega), hf2 b (by omega), hf1 b (by omega)]
      | succ r ih =>
        intro a m g1 Km ha hm hA hr hu1 hf1
        have han : a < n := by omega
        have e19 : g1 19 = g 19 := hf1 19 (by omega)
        have e20 : g1 20 = g 20 := hf1 20 (by omega)
        have hn1 : g1 19 1 = (n : Int) := by rw [e19]; exact hn
        have hsg : sgN g1 = sgN g := sgN_frm e19 e20
        have ha9 : a ≤ 102 := by omega
        have hm9 : m ≤ 102 := by omega
        have hbg := AtM_begins hko hm hA
        refine b_X7_tellLetters_33 (fun h => absurd h (by rw [e19, hn]; omega)) (fun h => ?_)
        refine b_X7_tellLetters_44 (s_beginsAt (d := e) (by omega) (by omega) (by rw [hn1]; omega) (by omega)) (fun x2 g2 h2 => ?_)
        obtain ⟨h2, hg2⟩ := h2
        rw [hg2]
        have hb : ((a : Int) = 0 ∨ sgn (g1 20) (g1 19 1) ((a : Int) - 1) = 59) ↔ a = ltP (sgN g) m := by
          rw [← hbg]
          constructor
          · rintro (q | q)
            · exact Or.inl (by omega)
            · rcases Nat.eq_zero_or_pos a with z | z
              · exact Or.inl z
              · refine Or.inr ⟨a - 1, by omega, ?_⟩
                rw [← hsg]
                show sgn (g1 20) (g1 19 1) ((a - 1 : Nat) : Int) = 59
                rw [show ((a - 1 : Nat) : Int) = (a : Int) - 1 by omega]
                exact q
          · rintro (q | ⟨b, q, q2⟩)
            · exact Or.inl (by omega)
            · refine Or.inr ?_
              rw [show (a : Int) - 1 = (b : Int) by omega]
              rw [← hsg] at q2
              exact q2
        refine b_X7_tellLetters_52 (fun c2 => ?_) (fun c2 => ?_)
        · have hnb : ¬ a = ltP (sgN g) m := fun q => by
            rw [bi_pos (hb.mpr q)] at h2
            omega
          refine b_X7_tellLetters_79 ?_
          rw [w32s ha9]
          refine ih (a + 1) m g1 Km (by omega) hm ?_ hr hu1 hf1
          rcases hA with ⟨q1, q2⟩ | ⟨q1, q2, q3⟩
          · exact absurd (by rw [q1, q2]; rfl) hnb
          · exact Or.inr ⟨q1, by omega, by omega⟩
        · have hbe : a = ltP (sgN g) m := by
            rcases bi_cases ((a : Int) = 0 ∨ sgn (g1 20) (g1 19 1) ((a : Int) - 1) = 59) with ⟨q, q2⟩ | ⟨q, q2⟩
            · exact hb.mp q2
            · exact absurd (h2.trans q) c2
          have hmk : m < kk := by
            rcases Nat.lt_or_ge m kk with q | q
            · exact q
            · have : m = kk := by omega
              rw [this] at hbe
              omega
          have hKm := rnK_ok hK m Km hr
          refine b_X7_tellLetters_55 (s_tellOne (d := e) (by omega) hn1 h96 (by rw [e20]; exact hf) (by omega) hu1 hKm) (fun x3 g3 h3 => ?_)
          unfold TL at h3
          rw [hsg] at h3
          rcases h3 with ⟨h3, h4, h5⟩ | ⟨h3, K', h4, h5, h6⟩
          · rw [h5]
            refine b_X7_tellLetters_67 (fun c3 => absurd h3 c3) (fun c3 => ?_)
            refine b_X7_tellLetters_70 ⟨_, rfl, none, Or.inr ⟨kk, hk1, hko, hkn, Or.inl ⟨m, Km, hmk, hr, by rw [← hbe]; exact h4, by rw [w2000 ha9, ← hbe], rfl⟩⟩, fun b hb => hf1 b (by omega)⟩
          · refine b_X7_tellLetters_67 (fun c3 => ?_) (fun c3 => absurd (by rw [h3]; decide) c3)
            refine b_X7_tellLetters_76 ?_
            rw [w32s ha9, w32s hm9]
            refine ih (a + 1) (m + 1) g3 K' (by omega) (by omega) (Or.inr ⟨by omega, ?_, ?_⟩) ?_ h5 (hf1.tr h6)
            · rw [Nat.add_sub_cancel, ← hbe]; omega
            · have := ltP_lt hko (m + 1) m (by omega) (by omega)
              omega
            · show (rnK (sgN g) K m).bind (stm (sgN g) (ltP (sgN g) m)) = some K'
              rw [hr, ← hbe]
              exact h4
    exact loop n 0 0 g1 K (by omega) (Nat.zero_le _) (Or.inl ⟨rfl, rfl⟩) rfl hu1 hf1
  · rcases hx with ⟨h, -⟩ | ⟨k, q, h1, h2, h3, h4⟩
    · omega
    · have hq : q ≤ 102 := by
        have hp : ltP (sgN g) k ≤ 96 := by
          rcases h2 with z | z
          · rw [z]; exact Nat.zero_le _
          · omega
        rcases h3 with ⟨-, z⟩ | ⟨-, t, z1, z2, -⟩
        · omega
        · have := sLen_le _ (shp_lt (sgN g (ltP (sgN g) k)))
          omega
      refine b_X7_tellLetters_12 ⟨_, rfl, none, Or.inl ⟨k, q, h1, h2, h3, ?_, rfl⟩, fun a _ => rfl⟩
      rw [h4, w1000 hq]
