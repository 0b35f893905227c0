/-- bedtime -/
def zc (b : Int) : Nat → Nat
  | 0 => 0
  | n + 1 => if zand (zshr b n) 1 = 1 then zc b n else zc b n + 1
def oddN (u : Nat) (b : Int) : Nat → Nat
  | 0 => 1
  | n + 1 => if zand (zshr b n) 1 = 1 then oddN u b n else oddN u b n * u
theorem oddN_pow (u : Nat) (b : Int) : ∀ n, oddN u b n = u ^ zc b n := by
  intro n
  induction n with
  | zero => rfl
  | succ n ih =>
    show (if zand (zshr b n) 1 = 1 then oddN u b n else oddN u b n * u) = u ^ (if zand (zshr b n) 1 = 1 then zc b n else zc b n + 1)
    by_cases h : zand (zshr b n) 1 = 1
    · rw [if_pos h, if_pos h, ih]
    · rw [if_neg h, if_neg h, ih, Nat.pow_succ]
theorem zc_le (b : Int) : ∀ n, zc b n ≤ n := by
  intro n
  induction n with
  | zero => exact Nat.le_refl _
  | succ n ih =>
    unfold zc
    split <;> omega
def zcO (n : Nat) : Nat → Bool
  | 0 => true
  | b + 1 => zcO n b && decide ((zc b n : Int) = n - pcZ b)
def zcA : Nat → Bool
  | 0 => zcO 0 1
  | n + 1 => zcA n && zcO (n + 1) (2 ^ (n + 1))
theorem zcA_7 : zcA 7 = true := by decide +kernel
theorem zcO_at {n : Nat} : ∀ m, zcO n m = true → ∀ b : Nat, b < m → (zc b n : Int) = n - pcZ b := by
  intro m
  induction m with
  | zero => intro _ b hb; exact absurd hb (Nat.not_lt_zero _)
  | succ m ih =>
    intro h b hb
    have h : (zcO n m && decide ((zc m n : Int) = n - pcZ m)) = true := h
    rw [Bool.and_eq_true] at h
    by_cases e : b = m
    · subst e; exact of_decide_eq_true h.2
    · exact ih h.1 b (by omega)
theorem zcA_at : ∀ m, zcA m = true → ∀ n, n ≤ m → zcO n (2 ^ n) = true := by
  intro m
  induction m with
  | zero => intro h n hn; obtain rfl : n = 0 := (by omega); exact h
  | succ m ih =>
    intro h n hn
    have h : (zcA m && zcO (m + 1) (2 ^ (m + 1))) = true := h
    rw [Bool.and_eq_true] at h
    by_cases e : n = m + 1
    · subst e; exact h.2
    · exact ih h.1 n (by omega)
theorem zc_pc {n b : Nat} (hn : n ≤ 7) (hb : b < 2 ^ n) : (zc b n : Int) = n - pcZ b := zcO_at _ (zcA_at 7 zcA_7 n hn) b hb
theorem pw7 {u k : Nat} (hu : 1 ≤ u ∧ u ≤ 20) (hk : k ≤ 7) : 1 ≤ u ^ k ∧ u ^ k ≤ 1280000000 := by
  refine ⟨Nat.one_le_pow _ _ hu.1, ?_⟩
  exact Nat.le_trans (Nat.pow_le_pow_left hu.2 k) (Nat.le_trans (Nat.pow_le_pow_right (by decide) hk) (by decide))
theorem w64n {a : Nat} (h : a < 4611686018427387904) : w64 (a : Int) = a := w64_of (Int.le_trans (by decide) (Int.natCast_nonneg _)) (Int.lt_trans (Int.ofNat_lt.mpr h) (by decide))
def abvN (K : tK) (u : Nat) : Nat → Nat
  | 0 => 0
  | b + 1 => if 0 < psum (slpF K b (nC K) (ptC K)) (nP K) then abvN K u b + oddN u b (nC K) else abvN K u b
theorem abvN_1 {K : tK} {u b : Nat} (h : 0 < psum (slpF K b (nC K) (ptC K)) (nP K)) : abvN K u (b + 1) = abvN K u b + oddN u b (nC K) := if_pos h
theorem abvN_0 {K : tK} {u b : Nat} (h : ¬ 0 < psum (slpF K b (nC K) (ptC K)) (nP K)) : abvN K u (b + 1) = abvN K u b := if_neg h
theorem oddN_bd {u n : Nat} {b : Int} (hu : 1 ≤ u ∧ u ≤ 20) (hn : n ≤ 7) : 1 ≤ oddN u b n ∧ oddN u b n ≤ 1280000000 := by
  rw [oddN_pow]
  exact pw7 hu (Nat.le_trans (zc_le b n) hn)
theorem abvN_bd {K : tK} {u : Nat} (hu : 1 ≤ u ∧ u ≤ 20) (hn : nC K ≤ 7) : ∀ b, abvN K u b ≤ b * 1280000000 := by
  intro b
  induction b with
  | zero => exact Nat.le_refl _
  | succ b ih =>
    have h := (oddN_bd (u := u) (n := nC K) (b := b) hu hn).2
    unfold abvN
    rw [Nat.add_mul, Nat.one_mul]
    split
    · exact Nat.add_le_add ih h
    · exact Nat.le_trans ih (Nat.le_add_right _ _)
theorem gcd_step (a b : Nat) : Nat.gcd b (a % b) = Nat.gcd a b := by
  rw [Nat.gcd_comm b (a % b), ← Nat.gcd_rec b a, Nat.gcd_comm]
theorem lcmp0 {b : Nat} : lcmpZ (b : Int) 0 = 0 ↔ b = 0 := by
  have := lcmp_cases (b : Int) 0
  omega
theorem m_divisor {d a b : Nat} {g : pG} (hd : 1 ≤ d) (ha : a < 4611686018427387904) (hb : b < 4611686018427387904) : CT d mX8_divisor [vL a, vL b] g (qL (fun x g' => x = (Nat.gcd a b : Nat) ∧ g' = g)) := by
  refine ct_in (L := [vL a, vX 2, vL b, vX 2, vX 2, vX 2, vX 2, vX 2, vX 2, vX 2]) (by omega) (Nat.le_of_ble_eq_true rfl) rfl (fun e he => ?_)
  refine b_X8_divisor_0 ?_
  have key : ∀ (n p q : Nat) (u : pV), q ≤ n → p < 4611686018427387904 → q < 4611686018427387904 → Nat.gcd p q = Nat.gcd a b → EV e mX8_divisor (qL (fun x g' => x = (Nat.gcd a b : Nat) ∧ g' = g)) 6 [vL a, vX 2, vL b, vX 2, vL p, vX 2, vL q, vX 2, u, vX 2] [] g := by
    intro n
    induction n with
    | zero =>
      intro p q u hq hp hq2 hg
      obtain rfl : q = 0 := Nat.le_zero.mp hq
      refine b_X8_divisor_6 (fun _ => ?_) (fun c => absurd (lcmp0.mpr rfl) c)
      rw [Nat.gcd_zero_right] at hg
      exact b_X8_divisor_31 ⟨_, rfl, by rw [hg], rfl⟩
    | succ n ih =>
      intro p q u hq hp hq2 hg
      refine b_X8_divisor_6 (fun c => ?_) (fun c => ?_)
      · have hz := lcmp0.mp c
        rw [hz, Nat.gcd_zero_right] at hg
        exact b_X8_divisor_31 ⟨_, rfl, by rw [hg], rfl⟩
      · have hz : q ≠ 0 := fun z => c (lcmp0.mpr z)
        have hlt : p % q < q := Nat.mod_lt _ (Nat.pos_of_ne_zero hz)
        have ew : w64 ((p : Int).tmod (q : Int)) = ((p % q : Nat) : Int) := w64n (a := p % q) (Nat.lt_trans hlt hq2)
        refine b_X8_divisor_13 (fun z => hz (Int.ofNat.inj z)) ?_
        rw [ew]
        exact ih q (p % q) _ (Nat.lt_succ_iff.mp (Nat.lt_of_lt_of_le hlt hq)) hq2 (Nat.lt_trans hlt hq2) (by rw [gcd_step]; exact hg)
  exact key b a b _ (Nat.le_refl _) ha hb rfl
/-- what is left at step s of the common divisor -/
def gdS (s a b : Nat) : Prop := b = 0 ∨ (s = 0 ∧ a * b * 2 ≤ 2 ^ 80) ∨ (1 ≤ s ∧ b < a ∧ a * b * 2 ^ s ≤ 2 ^ 80)
theorem gdS_step {s a b : Nat} (h : gdS s a b) (hb : b ≠ 0) : gdS (s + 1) b (a % b) := by
  have hlt : a % b < b := Nat.mod_lt _ (Nat.pos_of_ne_zero hb)
  rcases h with h | ⟨rfl, h2⟩ | ⟨h1, h2, h3⟩
  · exact absurd h hb
  · refine Or.inr (Or.inr ⟨Nat.le_refl _, hlt, Nat.le_trans ?_ h2⟩)
    rw [Nat.zero_add, Nat.pow_one, Nat.mul_comm b (a % b)]
    exact Nat.mul_le_mul_right 2 (Nat.mul_le_mul_right b (Nat.mod_le a b))
  · refine Or.inr (Or.inr ⟨by omega, hlt, Nat.le_trans ?_ h3⟩)
    have hd : 2 * (a % b) ≤ a := by
      have e := Nat.div_add_mod a b
      have hq : 1 ≤ a / b := (Nat.le_div_iff_mul_le (Nat.pos_of_ne_zero hb)).mpr (by omega)
      have : b * 1 ≤ b * (a / b) := Nat.mul_le_mul_left b hq
      omega
    have e1 : b * (a % b) * 2 ^ (s + 1) = b * (2 * (a % b)) * 2 ^ s := by
      rw [Nat.pow_succ, Nat.mul_comm (2 ^ s) 2, ← Nat.mul_assoc, Nat.mul_assoc b (a % b) 2, Nat.mul_comm (a % b) 2]
    rw [e1, Nat.mul_comm a b]
    exact Nat.mul_le_mul_right _ (Nat.mul_le_mul_left b hd)
theorem gdS_end {a b : Nat} (h : gdS 200 a b) : b = 0 := by
  rcases h with h | ⟨h1, _⟩ | ⟨_, h2, h3⟩
  · exact h
  · exact absurd h1 (by decide)
  · by_cases hb : b = 0
    · exact hb
    · have h1 : 1 ≤ a * b := Nat.mul_le_mul (show 1 ≤ a by omega) (show 1 ≤ b by omega)
      have h4 : 1 * 2 ^ 200 ≤ a * b * 2 ^ 200 := Nat.mul_le_mul_right _ h1
      exact absurd (Nat.le_trans h4 h3) (by decide)
theorem s_divisor {d a b : Nat} {g : pG} (hd : 1 ≤ d) (ha : a < 4611686018427387904) (hb : b < 4611686018427387904) (hab : a * b * 2 ≤ 2 ^ 80) : CT d mX7_commonDivisor [vL a, vL b] g (qL (fun x g' => x = (Nat.gcd a b : Nat) ∧ g' = g)) := by
  refine ct_in (L := [vL a, vX 2, vL b, vX 2, vX 2, vX 2, vX 2, vX 2, vX 2, vX 2, vX 2]) (by omega) (Nat.le_of_ble_eq_true rfl) rfl (fun e he => ?_)
  refine b_X7_commonDivisor_0 ?_
  have fin : ∀ (p q : Nat) (v8 : Int) (u9 : pV), q = 0 → Nat.gcd p q = Nat.gcd a b → EV e mX7_commonDivisor (qL (fun x g' => x = (Nat.gcd a b : Nat) ∧ g' = g)) 45 [vL a, vX 2, vL b, vX 2, vL p, vX 2, vL q, vX 2, vI v8, u9, vX 2] [] g := by
    intro p q v8 u9 hq hg
    rw [hq, Nat.gcd_zero_right] at hg
    exact b_X7_commonDivisor_45 ⟨_, rfl, by rw [hg], rfl⟩
  refine loopN (P := fun _ g' => g' = g) 200 (fun s g' => ∀ (p q : Nat) (v8 : Int) (u9 : pV), v8 = s → gdS s p q → p < 4611686018427387904 → q < 4611686018427387904 → Nat.gcd p q = Nat.gcd a b → EV e mX7_commonDivisor (qL (fun x g' => x = (Nat.gcd a b : Nat) ∧ g' = g)) 9 [vL a, vX 2, vL b, vX 2, vL p, vX 2, vL q, vX 2, vI v8, u9, vX 2] [] g') ?_ ?_ 0 g (Nat.zero_le _) rfl _ _ _ _ rfl (Or.inr (Or.inl ⟨rfl, hab⟩)) ha hb rfl
  · rintro s g hs rfl ih p q v8 u9 rfl hS hp hq hg
    have hs2 : (s : Int) < 200 := Int.ofNat_lt.mpr hs
    have hs9 : (s : Int) < 2147483647 := Int.lt_trans hs2 (by decide)
    refine b_X7_commonDivisor_9 (fun c => absurd hs2 (Int.not_lt.mpr c)) (fun _ => ?_)
    refine b_X7_commonDivisor_17 (fun c => fin _ _ _ _ (lcmp0.mp c) hg) (fun c => ?_)
    have hz : q ≠ 0 := fun z => c (lcmp0.mpr z)
    have hlt : p % q < q := Nat.mod_lt _ (Nat.pos_of_ne_zero hz)
    have ew : w64 ((p : Int).tmod (q : Int)) = ((p % q : Nat) : Int) := w64n (a := p % q) (Nat.lt_trans hlt hq)
    refine b_X7_commonDivisor_24 (fun z => hz (Int.ofNat.inj z)) ?_
    rw [ew]
    exact ih _ rfl q (p % q) _ _ (w32n s hs9) (gdS_step hS hz) hq (Nat.lt_trans hlt hq) (by rw [gcd_step]; exact hg)
  · rintro g rfl p q v8 u9 rfl hS hp hq hg
    have hz := gdS_end hS
    exact b_X7_commonDivisor_9 (fun _ => fin _ _ _ _ hz hg) (fun _ => b_X7_commonDivisor_17 (fun _ => fin _ _ _ _ hz hg) (fun c => absurd (lcmp0.mpr hz) c))
theorem s_power {d u n : Nat} {g : pG} (hd : 1 ≤ d) (hu : 1 ≤ u ∧ u ≤ 20) (hn : n ≤ 7) : CT d mX7_power [vI u, vI n] g (qL (fun x g' => x = (u ^ n : Nat) ∧ g' = g)) := by
  refine ct_in (L := [vI u, vI n, vX 2, vX 2, vX 2]) (by omega) (Nat.le_of_ble_eq_true rfl) rfl (fun e he => ?_)
  refine b_X7_power_0 ?_
  refine loopN (P := fun _ g' => g' = g) n (fun k g' => ∀ (x q : Int), x = (u ^ k : Nat) → q = k → EV e mX7_power _ 5 [vI u, vI n, vL x, vX 2, vI q] [] g') ?_ ?_ 0 g (Nat.zero_le _) rfl _ _ rfl rfl
  · rintro k g hk rfl ih x q rfl rfl
    have hk9 : (k : Int) < 2147483647 := by omega
    have hb := (pw7 (k := k + 1) hu (Nat.le_trans hk hn)).2
    have ew : w64 (((u ^ k : Nat) : Int) * (u : Int)) = ((u ^ (k + 1) : Nat) : Int) := by
      rw [← Int.natCast_mul, ← Nat.pow_succ]
      exact w64n (Nat.lt_of_le_of_lt hb (by decide))
    refine b_X7_power_5 (fun c => absurd (Int.ofNat_lt.mpr hk) (Int.not_lt.mpr c)) (fun _ => ?_)
    refine b_X7_power_11 ?_
    rw [ew]
    exact ih _ rfl _ _ rfl (w32n k hk9)
  · rintro g rfl x q rfl rfl
    refine b_X7_power_5 (fun _ => ?_) (fun c => absurd (Int.le_refl _) c)
    exact b_X7_power_22 ⟨_, rfl, rfl, rfl⟩
def QXL (g : pG) (a n : Int) : Option pV → pG → Prop := qL (fun x g' => x = a ∧ xfr (refX g n) g')
def QML (g : pG) (a n : Int) : Option pV → pG → Prop := qL (fun x g' => x = a ∧ mfr (refM g n) g')
def aL (r a : Int) : Int := if r = 0 then a else 4000000000000000000 - r
theorem aL_n {r a m x : Int} (h : r = m) (hm : m ≠ 0) (hx : x = 4000000000000000000 - m) : aL r a = x := by unfold aL; rw [if_neg (fun z => hm (h.symm.trans z)), hx, h]
theorem aL_0 {r a x : Int} (h : r = 0) (hx : a = x) : aL r a = x := by unfold aL; rw [if_pos h]; exact hx
def rBd (t p : Int) : Int := if wrN t 2 20 = 0 then rW p 1 else wrN t 2 20
theorem rBd_cases (t p : Int) : (wrN t 2 20 ≠ 0 ∧ rBd t p = wrN t 2 20) ∨ (wrN t 2 20 = 0 ∧ rBd t p = rW p 1) := by
  unfold rBd
  by_cases h : wrN t 2 20 = 0
  · rw [if_pos h]; exact Or.inr ⟨h, rfl⟩
  · rw [if_neg h]; exact Or.inl ⟨h, rfl⟩
abbrev bdA (K : tK) (t : Int) : Nat := abvN K (t.toNat - 1) (2 ^ nC K)
abbrev bdB (K : tK) (t : Int) : Nat := t.toNat ^ nC K
def aBd (K : tK) (t p : Int) : Int := sel p ((bdA K t / Nat.gcd (bdA K t) (bdB K t) : Nat) : Int) ((bdB K t / Nat.gcd (bdA K t) (bdB K t) : Nat) : Int)
theorem bdA_bd {K : tK} {u : Nat} (hu : 1 ≤ u ∧ u ≤ 20) (hn : nC K ≤ 7) : ∀ b, b ≤ 2 ^ nC K → abvN K u b ≤ 327680000000 := by
  intro b hb
  have h2 := (two8 (n := nC K) (Nat.le_succ_of_le hn)).2
  exact Nat.le_trans (abvN_bd hu hn b) (Nat.le_trans (Nat.mul_le_mul_right _ (Nat.le_trans hb h2)) (by decide))
theorem x_bedtime {d : Nat} {g : pG} {K : tK} {t p : Int} (hd : 8 ≤ d) (hK : KOK K) (hu : SU g 1 K) : CT d mX7_bedtime [vR 0, vI t, vI p] g (QXL g (aL (rBd t p) (aBd K t p)) (rBd t p)) := by
  refine ct_in (L := [vR 0, vI t, vI p, vX 2, vX 2, vX 2, vX 2, vX 2, vX 2, vX 2]) (by omega) (Nat.le_of_ble_eq_true rfl) rfl (fun e he => ?_)
  have h7 := hK.1
  have r0 := wrN_cases t 2 20
  have r1 := rBd_cases t p
  have r2 := rW_cases p 1
  have he5 : 6 ≤ e := by omega
  have he1 : 1 ≤ e := by omega
  have go : rBd t p = 0 → (2 ≤ t ∧ t ≤ 20) → (0 ≤ p ∧ p ≤ 1) → ∀ v3, EV e mX7_bedtime (QXL g (aL (rBd t p) (aBd K t p)) (rBd t p)) 34 [vR 0, vI t, vI p, vI v3, vX 2, vX 2, vX 2, vX 2, vX 2, vX 2] [] g := by
    intro hr0 ht hp v3
    clear r0 r1 r2
    obtain ⟨u, hu9⟩ : ∃ u : Nat, t = (u : Int) + 1 := ⟨(t - 1).toNat, by omega⟩
    have hu20 : 1 ≤ u ∧ u ≤ 20 := by omega
    have hv20 : 1 ≤ u + 1 ∧ u + 1 ≤ 20 := by omega
    have eA : bdA K t = abvN K u (2 ^ nC K) := by unfold bdA; rw [show t.toNat - 1 = u by omega]
    have eB : bdB K t = (u + 1) ^ nC K := by unfold bdB; rw [show t.toNat = u + 1 by omega]
    have et : t = ((u + 1 : Nat) : Int) := by omega
    have et1 : w32 (t - 1) = (u : Int) := by rw [w32_of (by omega) (by omega)]; omega
    have h2 := two8 (n := nC K) (by omega)
    have hsh := zshl1 (n := nC K) (by clear h2; omega)
    have hAb := bdA_bd (K := K) hu20 h7
    have hAn : aBd K t p = sel p ((abvN K u (2 ^ nC K) / Nat.gcd (abvN K u (2 ^ nC K)) ((u + 1) ^ nC K) : Nat) : Int) (((u + 1) ^ nC K / Nat.gcd (abvN K u (2 ^ nC K)) ((u + 1) ^ nC K) : Nat) : Int) := by unfold aBd; rw [eA, eB]
    rw [hAn]
    clear hAn eA eB
    have hpc : ∀ b : Nat, b < 2 ^ nC K → (zc b (nC K) : Int) = nC K - pcZ b := fun b hb => zc_pc h7 hb
    generalize hM : 2 ^ nC K = M at h2 hsh hAb hpc
    have hpw := pw7 (k := nC K) hv20 h7
    have hwC : ∀ b : Nat, b < M → w32 ((nC K : Int) - pcZ b) = (zc b (nC K) : Int) := fun b hb => by
      have e9 := hpc b hb
      have z7 := zc_le (b : Int) (nC K)
      rw [← e9]
      exact w32_of (Int.le_trans (by decide) (Int.natCast_nonneg _)) (by omega)
    refine b_X7_bedtime_34 ?_
    refine loopN (P := fun b g' => xfr g g') M (fun b g' => ∀ (l4 v6 : Int), l4 = (abvN K u b : Nat) → v6 = b → EV e mX7_bedtime (QXL g (aL (rBd t p) (sel p ((abvN K u M / Nat.gcd (abvN K u M) ((u + 1) ^ nC K) : Nat) : Int) (((u + 1) ^ nC K / Nat.gcd (abvN K u M) ((u + 1) ^ nC K) : Nat) : Int))) (rBd t p)) 40 [vR 0, vI t, vI p, vI v3, vL l4, vX 2, vI v6, vX 2, vX 2, vX 2] [] g') ?_ ?_ 0 g (Nat.zero_le _) xfr.rf _ _ rfl rfl
    · rintro b g1 hb hf1 ih l4 v6 rfl rfl
      have hu1 := hu.x hf1
      have hm := hu1.1
      have hb9 : (b : Int) < 2147483647 := by clear ih hsh et1 hwC hpc; omega
      have hbl : ¬ (M : Int) ≤ (b : Int) := Int.not_le.mpr (Int.ofNat_lt.mpr hb)
      refine b_X7_bedtime_40 (fun c => absurd (by rw [hm, hsh] at c; exact c) hbl) (fun _ => ?_)
      refine b_X7_bedtime_54 (s_asleep he5 hK hu1) (fun g2 hx => ?_)
      obtain ⟨hp2, hf2⟩ := hx
      have hx2 := hf1.tr (hf2.x scr27)
      refine b_X7_bedtime_60 (s_isFor (Nat.le_trans (by decide) he5) pts_27 hp2) (fun x g3 hx => ?_)
      obtain ⟨rfl, rfl⟩ := hx
      refine b_X7_bedtime_67 (fun c => ?_) (fun c => ?_)
      · exact b_X7_bedtime_94 (ih _ hx2 _ _ (by rw [abvN_0 (bi_eq0 c)]) (w32n b hb9))
      · have hpos := bi_ne0 c
        refine b_X7_bedtime_70 (s_bitCount he1) (fun x g4 hx => ?_)
        obtain ⟨rfl, rfl⟩ := hx
        have hm4 : g4 1 3 = nC K := (hu.x hx2).1
        have z7 : zc (b : Int) (nC K) ≤ 7 := Nat.le_trans (zc_le _ _) h7
        refine b_X7_bedtime_87 (by rw [hm4, hwC b hb, et1]; exact s_power he1 hu20 z7) (fun x g5 hx => ?_)
        obtain ⟨rfl, rfl⟩ := hx
        refine b_X7_bedtime_91 ?_
        have e1 := abvN_1 (u := u) hpos
        rw [oddN_pow] at e1
        rw [← Int.natCast_add, ← e1, w64n (Nat.lt_of_le_of_lt (hAb (b + 1) hb) (by decide))]
        exact ih _ hx2 _ _ rfl (w32n b hb9)
    · rintro g1 hf1 l4 v6 rfl rfl
      have hu1 := hu.x hf1
      have hm := hu1.1
      have hA1 := hAb M (Nat.le_refl _)
      refine b_X7_bedtime_40 (fun _ => ?_) (fun c => absurd (by rw [hm, hsh]; exact Int.le_refl _) c)
      refine b_X7_bedtime_100 (by rw [hm, et]; exact s_power he1 hv20 h7) (fun x g2 hx => ?_)
      obtain ⟨rfl, rfl⟩ := hx
      have hab : abvN K u M * (u + 1) ^ nC K * 2 ≤ 2 ^ 80 := Nat.le_trans (Nat.mul_le_mul_right 2 (Nat.mul_le_mul hA1 hpw.2)) (by decide)
      refine b_X7_bedtime_111 (s_divisor he1 (Nat.lt_of_le_of_lt hA1 (by decide)) (Nat.lt_of_le_of_lt hpw.2 (by decide)) hab) (fun x g3 hx => ?_)
      obtain ⟨rfl, rfl⟩ := hx
      have hg : 0 < Nat.gcd (abvN K u M) ((u + 1) ^ nC K) := Nat.gcd_pos_of_pos_right _ hpw.1
      refine b_X7_bedtime_120 (fun c => ?_) (fun c => absurd (lcmp0.mp (Classical.not_not.mp c)) (Nat.ne_of_gt hg))
      have hne : ((Nat.gcd (abvN K u M) ((u + 1) ^ nC K) : Nat) : Int) ≠ 0 := fun z => Nat.ne_of_gt hg (Int.ofNat.inj z)
      have q1 : w64 (((abvN K u M : Nat) : Int).tdiv ((Nat.gcd (abvN K u M) ((u + 1) ^ nC K) : Nat) : Int)) = ((abvN K u M / Nat.gcd (abvN K u M) ((u + 1) ^ nC K) : Nat) : Int) := w64n (Nat.lt_of_le_of_lt (Nat.le_trans (Nat.div_le_self _ _) hA1) (by decide))
      have q2 : w64 ((((u + 1) ^ nC K : Nat) : Int).tdiv ((Nat.gcd (abvN K u M) ((u + 1) ^ nC K) : Nat) : Int)) = (((u + 1) ^ nC K / Nat.gcd (abvN K u M) ((u + 1) ^ nC K) : Nat) : Int) := w64n (Nat.lt_of_le_of_lt (Nat.le_trans (Nat.div_le_self _ _) hpw.2) (by decide))
      refine b_X7_bedtime_132 (fun c2 => ?_) (fun c2 => ?_)
      · refine b_X7_bedtime_144 hne ?_
        rw [q2]
        exact ⟨_, rfl, (aL_0 hr0 (sel1 c2 rfl)).symm, by rw [hr0, refX0]; exact hf1⟩
      · refine b_X7_bedtime_136 hne ?_
        rw [q1]
        exact ⟨_, rfl, (aL_0 hr0 (sel0 (Classical.not_not.mp c2) rfl)).symm, by rw [hr0, refX0]; exact hf1⟩
  refine b_X7_bedtime_0 (s_outside he1) (fun x g0 hx => ?_)
  obtain ⟨rfl, rfl⟩ := hx
  refine b_X7_bedtime_7 (fun c => ?_) (fun c => ?_)
  · have no : ¬ (0 ≤ p ∧ p ≤ 1) → ∀ v3, EV e mX7_bedtime (QXL g0 (aL (rBd t p) (aBd K t p)) (rBd t p)) 27 [vR 0, vI t, vI p, vI v3, vX 2, vX 2, vX 2, vX 2, vX 2, vX 2] [] g0 := by
      intro h v3
      have hr : rBd t p = -2 := by clear go; omega
      refine b_X7_bedtime_27 (s_refuseLong (by omega) ref2) (fun x g1 hx => ?_)
      obtain ⟨rfl, rfl⟩ := hx
      exact b_X7_bedtime_33 ⟨_, rfl, (aL_n hr (by decide) rfl).symm, by rw [hr]; exact xfr.rf⟩
    refine b_X7_bedtime_18 (fun c2 => no (by omega) _) (fun c2 => ?_)
    refine b_X7_bedtime_22 (fun c3 => ?_) (fun c3 => no (by omega) _)
    exact go (by omega) (by omega) (by omega) _
  · have hr : rBd t p = wrN t 2 20 := by clear go; omega
    refine b_X7_bedtime_12 (s_refuseLong (by omega) (refW c)) (fun x g1 hx => ?_)
    obtain ⟨rfl, rfl⟩ := hx
    exact b_X7_bedtime_17 ⟨_, rfl, (aL_n hr c rfl).symm, by rw [hr]; exact xfr.rf⟩
