/-- BY TURNS: greatest and least of the first n -/
def mxF (v : Nat → Int) : Nat → Int
  | 0 => -999
  | n + 1 => if mxF v n < v n then v n else mxF v n
def mnF (v : Nat → Int) : Nat → Int
  | 0 => 999
  | n + 1 => if v n < mnF v n then v n else mnF v n
def tyV (K : tK) : Nat → tF → Int
  | 0, f => psum (downF K (nC K) f) (nP K)
  | l + 1, f => if (l + 1) % 2 = 0 then mxF (fun mv => tyV K l (mvF f mv)) (2 * nP K) else mnF (fun mv => tyV K l (mvF f mv)) (2 * nP K)
theorem mxF_ge (v : Nat → Int) : ∀ n, (∀ j, j < n → v j ≤ mxF v n) ∧ (mxF v n = -999 ∨ ∃ j, j < n ∧ mxF v n = v j) := by
  intro n
  induction n with
  | zero => exact ⟨fun j hj => absurd hj (Nat.not_lt_zero _), Or.inl rfl⟩
  | succ n ih =>
    obtain ⟨h1, h2⟩ := ih
    by_cases h : mxF v n < v n
    · have e : mxF v (n + 1) = v n := if_pos h
      rw [e]
      refine ⟨fun j hj => ?_, Or.inr ⟨n, Nat.lt_succ_self n, rfl⟩⟩
      by_cases he : j = n
      · rw [he]; exact Int.le_refl _
      · exact Int.le_of_lt (Int.lt_of_le_of_lt (h1 j (by omega)) h)
    · have e : mxF v (n + 1) = mxF v n := if_neg h
      rw [e]
      refine ⟨fun j hj => ?_, h2.imp id (fun ⟨j, hj, h3⟩ => ⟨j, by omega, h3⟩)⟩
      by_cases he : j = n
      · rw [he]; exact Int.not_lt.mp h
      · exact h1 j (by omega)
theorem mnF_le (v : Nat → Int) : ∀ n, (∀ j, j < n → mnF v n ≤ v j) ∧ (mnF v n = 999 ∨ ∃ j, j < n ∧ mnF v n = v j) := by
  intro n
  induction n with
  | zero => exact ⟨fun j hj => absurd hj (Nat.not_lt_zero _), Or.inl rfl⟩
  | succ n ih =>
    obtain ⟨h1, h2⟩ := ih
    by_cases h : v n < mnF v n
    · have e : mnF v (n + 1) = v n := if_pos h
      rw [e]
      refine ⟨fun j hj => ?_, Or.inr ⟨n, Nat.lt_succ_self n, rfl⟩⟩
      by_cases he : j = n
      · rw [he]; exact Int.le_refl _
      · exact Int.le_of_lt (Int.lt_of_lt_of_le h (h1 j (by omega)))
    · have e : mnF v (n + 1) = mnF v n := if_neg h
      rw [e]
      refine ⟨fun j hj => ?_, h2.imp id (fun ⟨j, hj, h3⟩ => ⟨j, by omega, h3⟩)⟩
      by_cases he : j = n
      · rw [he]; exact Int.not_lt.mp h
      · exact h1 j (by omega)
theorem mvF_Bd {N : Nat} {f : tF} (h : Bd N f) (v : Nat) : Bd N (mvF f v) := h.put _ (held_bd _)
theorem tyV_0 (K : tK) (f : tF) : tyV K 0 f = psum (downF K (nC K) f) (nP K) := rfl
theorem tyV_e {K : tK} {l : Nat} (f : tF) (h : (l + 1) % 2 = 0) : tyV K (l + 1) f = mxF (fun mv => tyV K l (mvF f mv)) (2 * nP K) := if_pos h
theorem tyV_o {K : tK} {l : Nat} (f : tF) (h : ¬ (l + 1) % 2 = 0) : tyV K (l + 1) f = mnF (fun mv => tyV K l (mvF f mv)) (2 * nP K) := if_neg h
theorem tyV_bd {K : tK} (hK : KOK K) : ∀ l f, Bd (nP K) f → -72 ≤ tyV K l f ∧ tyV K l f ≤ 72 := by
  intro l
  have hN := hK.2.2.1
  induction l with
  | zero =>
    intro f hf
    have h := psum_bd (Bd.down hK hf (nC K) (Nat.le_refl _)) (nP K) (Nat.le_refl _)
    show -72 ≤ psum (downF K (nC K) f) (nP K) ∧ _
    rw [tyV_0]
    omega
  | succ l ih =>
    intro f hf
    have hv : ∀ j, -72 ≤ tyV K l (mvF f j) ∧ tyV K l (mvF f j) ≤ 72 := fun j => ih _ (mvF_Bd hf j)
    by_cases hl : (l + 1) % 2 = 0
    · rw [tyV_e f hl]
      obtain ⟨h1, h2⟩ := mxF_ge (fun mv => tyV K l (mvF f mv)) (2 * nP K)
      have h3 := h1 0 (by omega)
      have h4 := (hv 0).1
      rcases h2 with h | ⟨j, _, h⟩
      · have h3 : tyV K l (mvF f 0) ≤ mxF (fun mv => tyV K l (mvF f mv)) (2 * nP K) := h3
        omega
      · rw [h]; exact hv j
    · rw [tyV_o f hl]
      obtain ⟨h1, h2⟩ := mnF_le (fun mv => tyV K l (mvF f mv)) (2 * nP K)
      have h3 := h1 0 (by omega)
      have h4 := (hv 0).2
      rcases h2 with h | ⟨j, _, h⟩
      · have h3 : mnF (fun mv => tyV K l (mvF f mv)) (2 * nP K) ≤ tyV K l (mvF f 0) := h3
        omega
      · rw [h]; exact hv j
theorem tyV_mx {K : tK} (hK : KOK K) {l : Nat} {f : tF} (hf : Bd (nP K) f) (hl : (l + 1) % 2 = 0) : (∀ j, j < 2 * nP K → tyV K l (mvF f j) ≤ tyV K (l + 1) f) ∧ ∃ j, j < 2 * nP K ∧ tyV K (l + 1) f = tyV K l (mvF f j) := by
  have hb := tyV_bd hK (l + 1) f hf
  rw [tyV_e f hl] at hb ⊢
  obtain ⟨h1, h2⟩ := mxF_ge (fun mv => tyV K l (mvF f mv)) (2 * nP K)
  exact ⟨h1, h2.resolve_left (fun z => by omega)⟩
theorem tyV_mn {K : tK} (hK : KOK K) {l : Nat} {f : tF} (hf : Bd (nP K) f) (hl : ¬ (l + 1) % 2 = 0) : (∀ j, j < 2 * nP K → tyV K (l + 1) f ≤ tyV K l (mvF f j)) ∧ ∃ j, j < 2 * nP K ∧ tyV K (l + 1) f = tyV K l (mvF f j) := by
  have hb := tyV_bd hK (l + 1) f hf
  rw [tyV_o f hl] at hb ⊢
  obtain ⟨h1, h2⟩ := mnF_le (fun mv => tyV K l (mvF f mv)) (2 * nP K)
  exact ⟨h1, h2.resolve_left (fun z => by omega)⟩
theorem zmax_cases (x z : Int) : (x < z ∧ zmax x z = z) ∨ (z ≤ x ∧ zmax x z = x) := by
  unfold zmax
  split
  · left; exact ⟨by assumption, rfl⟩
  · right; exact ⟨by omega, rfl⟩
theorem zmin_cases (x z : Int) : (z < x ∧ zmin x z = z) ∨ (x ≤ z ∧ zmin x z = x) := by
  unfold zmin
  split
  · left; exact ⟨by assumption, rfl⟩
  · right; exact ⟨by omega, rfl⟩
def clp (lo hi v : Int) : Int := zmax lo (zmin hi v)
theorem clp_cases {lo hi : Int} (h : lo ≤ hi) (v : Int) : (v ≤ lo ∧ clp lo hi v = lo) ∨ (lo < v ∧ v < hi ∧ clp lo hi v = v) ∨ (hi ≤ v ∧ clp lo hi v = hi) := by
  unfold clp
  have h1 := zmin_cases hi v
  have h2 := zmax_cases lo (zmin hi v)
  omega
theorem mvF_back {N : Nat} {f : tF} (hf : Bd N f) {v : Nat} (hv : v < 2 * N) : fup (mvF f v) (v / 2) (held (f (v / 2))) = f := by
  unfold mvF
  rw [fup2, held_id (hf (v / 2) (by omega))]
  exact fup_id rfl
theorem m2n {v : Nat} (h : v < 1000) : w32 ((v : Int).tdiv 2) = ((v / 2 : Nat) : Int) := by
  rw [tdiv_nn (by omega), w32_of (by omega) (by omega)]; omega
theorem m2m {v : Nat} (h : v < 1000) : w32 ((v : Int).tmod 2) = ((v % 2 : Nat) : Int) := by
  rw [tmod_nn (by omega), w32_of (by omega) (by omega)]; omega
theorem s_playOn {K : tK} (hK : KOK K) : ∀ (l d : Nat) (g : pG) (f : tF) (lo hi : Int), l ≤ 3 → 6 + l ≤ d → SU g 1 K → PT g 29 (nP K) f → lo < hi → CT d mX7_playOn [vR 1, vR 29, vR 27, vI l, vI lo, vI hi] g (qI (fun x g' => x = clp lo hi (tyV K l f) ∧ PT g' 29 (nP K) f ∧ xfr g g')) := by
  have h8 := hK.2.2.1
  intro l
  induction l with
  | zero =>
    intro d g f lo hi hl hd hu hp hlh
    refine ct_in (L := [vR 1, vR 29, vR 27, vI ((0 : Nat) : Int), vI lo, vI hi, vX 2, vX 2, vX 2, vX 2, vX 2, vX 2]) (by omega) (Nat.le_of_ble_eq_true rfl) rfl (fun e he => ?_)
    refine b_X7_playOn_0 (fun c => absurd c (by decide)) (fun _ => ?_)
    refine b_X7_playOn_4 (s_copy27 (by omega) hp) (fun g1 hx => ?_)
    obtain ⟨hp1, hf1⟩ := hx
    have hx1 := hf1.x scr27
    have hu1 := hu.x hx1
    refine b_X7_playOn_9 (by rw [hu1.1]; exact s_goDown (by omega) scr27 hK hu1 hp1 (Nat.le_refl _)) (fun g2 hx => ?_)
    obtain ⟨hp2, hf2⟩ := hx
    refine b_X7_playOn_18 (s_sum (by omega) pts_27 hp2) (fun x g3 hx => ?_)
    obtain ⟨rfl, rfl⟩ := hx
    exact b_X7_playOn_26 ⟨_, rfl, rfl, (hp.frm2 hf1 (by decide)).frm hf2 (by decide) (by decide), hx1.tr (hf2.x scr27)⟩
  | succ l ih0 =>
    intro d g f lo hi hl hd hu hp hlh
    refine ct_in (L := [vR 1, vR 29, vR 27, vI ((l + 1 : Nat) : Int), vI lo, vI hi, vX 2, vX 2, vX 2, vX 2, vX 2, vX 2]) (by omega) (Nat.le_of_ble_eq_true rfl) rfl (fun e he => ?_)
    have hf := hp.2.2.2.2
    have hl9 : w32 (((l + 1 : Nat) : Int) - 1) = (l : Int) := by rw [w32_of (by omega) (by omega)]; omega
    have hm9 : w32 (((l + 1 : Nat) : Int).tmod 2) = (((l + 1) % 2 : Nat) : Int) := m2m (by omega)
    -- one move looked at
    have step : ∀ (g1 : pG) (mv : Nat) (v6 v7 v8 : Int) (u10 u11 : pV), mv < 2 * nP K → xfr g g1 → PT g1 29 (nP K) f → v7 < v8 → (∀ g2 v10, xfr g g2 → PT g2 29 (nP K) f → EV e mX7_playOn (qI (fun x g' => x = clp lo hi (tyV K (l + 1) f) ∧ PT g' 29 (nP K) f ∧ xfr g g')) 108 [vR 1, vR 29, vR 27, vI ((l + 1 : Nat) : Int), vI lo, vI hi, vI v6, vI v7, vI v8, vI mv, vI v10, vI (clp v7 v8 (tyV K l (mvF f mv)))] [] g2) → EV e mX7_playOn (qI (fun x g' => x = clp lo hi (tyV K (l + 1) f) ∧ PT g' 29 (nP K) f ∧ xfr g g')) 75 [vR 1, vR 29, vR 27, vI ((l + 1 : Nat) : Int), vI lo, vI hi, vI v6, vI v7, vI v8, vI mv, u10, u11] [] g1 := by
      intro g1 mv v6 v7 v8 u10 u11 hmv hx1 hp1 h78 k
      refine b_X7_playOn_75 (s_move (by omega) pts_29 hp1 hmv) (fun x g2 hx => ?_)
      obtain ⟨rfl, hp2, hf2⟩ := hx
      have hx2 := hx1.tr (hf2.x scr29)
      refine b_X7_playOn_81 (by rw [hl9]; exact ih0 e g2 _ v7 v8 (by omega) (by omega) (hu.x hx2) hp2 h78) (fun x g3 hx => ?_)
      obtain ⟨rfl, hp3, hx3⟩ := hx
      refine b_X7_playOn_96 (by rw [m2n (by omega)]; exact s_put (by omega) pts_29 hp3 (by omega)) (fun g4 hx => ?_)
      obtain ⟨hp4, hf4⟩ := hx
      rw [mvF_back hf hmv] at hp4
      exact k g4 _ ((hx2.tr hx3).tr (hf4.x scr29)) hp4
    have h2N : ∀ g1, PT g1 29 (nP K) f → w32 (2 * g1 29 1) = ((2 * nP K : Nat) : Int) := fun g1 h => by rw [h.1, w32_of (by omega) (by omega)]; omega
    refine b_X7_playOn_0 (fun _ => ?_) (fun c => absurd (by omega) c)
    by_cases hev : (l + 1) % 2 = 0
    · obtain ⟨m1, m2⟩ := tyV_mx hK hf hev
      refine b_X7_playOn_33 (fun c => absurd (by rw [hm9, hev]; rfl) c) (fun _ => ?_)
      refine b_X7_playOn_39 ?_
      have fin : ∀ (g1 : pG) (k : Nat) (v7 : Int) (v9 : Int) (u10 u11 : pV), k ≤ 2 * nP K → xfr g g1 → PT g1 29 (nP K) f → lo ≤ v7 → v7 ≤ hi → (∀ j, j < k → hi ≤ v7 ∨ tyV K l (mvF f j) ≤ v7) → (v7 = lo ∨ ∃ j, j < k ∧ v7 ≤ tyV K l (mvF f j)) → (k = 2 * nP K ∨ hi ≤ v7) → EV e mX7_playOn (qI (fun x g' => x = clp lo hi (tyV K (l + 1) f) ∧ PT g' 29 (nP K) f ∧ xfr g g')) 140 [vR 1, vR 29, vR 27, vI ((l + 1 : Nat) : Int), vI lo, vI hi, vI 1, vI v7, vI hi, vI v9, u10, u11] [] g1 := by
        intro g1 k v7 v9 u10 u11 hk hx1 hp1 a1 a2 a3 a4 a5
        refine b_X7_playOn_140 (fun c => absurd c (by decide)) (fun _ => b_X7_playOn_145 ⟨_, rfl, ?_, hp1, hx1⟩)
        have hc := clp_cases (Int.le_of_lt hlh) (tyV K (l + 1) f)
        obtain ⟨j0, hj0, e0⟩ := m2
        have u1 : v7 = lo ∨ v7 ≤ tyV K (l + 1) f := a4.imp id (fun ⟨j, hj, h⟩ => Int.le_trans h (m1 j (by omega)))
        have u2 : hi ≤ v7 ∨ tyV K (l + 1) f ≤ v7 := by
          rcases a5 with h | h
          · rw [e0]; exact a3 j0 (by omega)
          · exact Or.inl h
        clear ih0 step a3 a4 a5 hl9 hm9
        omega
      refine loopN (P := fun k g' => xfr g g' ∧ PT g' 29 (nP K) f) (2 * nP K) (fun k g' => ∀ (v7 v9 : Int) (u10 u11 : pV), lo ≤ v7 → v7 ≤ hi → (∀ j, j < k → hi ≤ v7 ∨ tyV K l (mvF f j) ≤ v7) → (v7 = lo ∨ ∃ j, j < k ∧ v7 ≤ tyV K l (mvF f j)) → v9 = k → EV e mX7_playOn (qI (fun x g' => x = clp lo hi (tyV K (l + 1) f) ∧ PT g' 29 (nP K) f ∧ xfr g g')) 57 [vR 1, vR 29, vR 27, vI ((l + 1 : Nat) : Int), vI lo, vI hi, vI 1, vI v7, vI hi, vI v9, u10, u11] [] g') ?_ ?_ 0 g (Nat.zero_le _) ⟨xfr.rf, hp⟩ _ _ _ _ (Int.le_refl _) (Int.le_of_lt hlh) (fun j hj => absurd hj (Nat.not_lt_zero _)) (Or.inl rfl) rfl
      · rintro k g1 hk ⟨hx1, hp1⟩ ih v7 v9 u10 u11 a1 a2 a3 a4 rfl
        have hk9 : (k : Int) < 2147483647 := by clear ih ih0 hl9 hm9 step fin; omega
        refine b_X7_playOn_57 (fun c => absurd c (by rw [h2N g1 hp1]; exact Int.not_le.mpr (Int.ofNat_lt.mpr hk))) (fun _ => ?_)
        refine b_X7_playOn_68 (fun c => fin g1 k v7 _ _ _ (Nat.le_of_lt hk) hx1 hp1 a1 a2 a3 a4 (Or.inr c)) (fun c => ?_)
        refine step g1 k 1 v7 hi u10 u11 hk hx1 hp1 (Int.not_le.mp c) (fun g2 v10 hx2 hp2 => ?_)
        refine b_X7_playOn_108 (fun c => absurd c (by decide)) (fun _ => b_X7_playOn_113 ?_)
        have hc := clp_cases a2 (tyV K l (mvF f k))
        have hz := zmax_cases v7 (clp v7 hi (tyV K l (mvF f k)))
        generalize hzz : zmax v7 (clp v7 hi (tyV K l (mvF f k))) = z at hz
        have hz2 : v7 ≤ z ∧ z ≤ hi ∧ (hi ≤ z ∨ tyV K l (mvF f k) ≤ z) ∧ (z = v7 ∨ z ≤ tyV K l (mvF f k)) := by clear ih ih0 hl9 hm9 step fin hzz; omega
        clear hz hc
        refine ih _ ⟨hx2, hp2⟩ _ _ _ _ (Int.le_trans a1 hz2.1) hz2.2.1 (fun j hj => ?_) ?_ (w32n k hk9)
        · by_cases e : j = k
          · rw [e]; exact hz2.2.2.1
          · rcases a3 j (Nat.lt_of_le_of_ne (Nat.lt_succ_iff.mp hj) e) with h | h
            · exact Or.inl (Int.le_trans h hz2.1)
            · exact Or.inr (Int.le_trans h hz2.1)
        · rcases hz2.2.2.2 with h | h
          · rw [h]; exact a4.imp id (fun ⟨j, hj, h⟩ => ⟨j, Nat.lt_succ_of_lt hj, h⟩)
          · exact Or.inr ⟨k, Nat.lt_succ_self k, h⟩
      · rintro g1 ⟨hx1, hp1⟩ v7 v9 u10 u11 a1 a2 a3 a4 rfl
        refine b_X7_playOn_57 (fun _ => ?_) (fun c => absurd (by rw [h2N g1 hp1]; exact Int.le_refl _) c)
        exact fin g1 (2 * nP K) v7 _ _ _ (Nat.le_refl _) hx1 hp1 a1 a2 a3 a4 (Or.inl rfl)
    · obtain ⟨m1, m2⟩ := tyV_mn hK hf hev
      refine b_X7_playOn_33 (fun _ => ?_) (fun c => absurd (by rw [hm9]; omega) c)
      refine b_X7_playOn_43 ?_
      have fin : ∀ (g1 : pG) (k : Nat) (v8 : Int) (v9 : Int) (u10 u11 : pV), k ≤ 2 * nP K → xfr g g1 → PT g1 29 (nP K) f → lo ≤ v8 → v8 ≤ hi → (∀ j, j < k → v8 ≤ lo ∨ v8 ≤ tyV K l (mvF f j)) → (v8 = hi ∨ ∃ j, j < k ∧ tyV K l (mvF f j) ≤ v8) → (k = 2 * nP K ∨ v8 ≤ lo) → EV e mX7_playOn (qI (fun x g' => x = clp lo hi (tyV K (l + 1) f) ∧ PT g' 29 (nP K) f ∧ xfr g g')) 140 [vR 1, vR 29, vR 27, vI ((l + 1 : Nat) : Int), vI lo, vI hi, vI 0, vI lo, vI v8, vI v9, u10, u11] [] g1 := by
        intro g1 k v8 v9 u10 u11 hk hx1 hp1 a1 a2 a3 a4 a5
        refine b_X7_playOn_140 (fun _ => b_X7_playOn_150 ⟨_, rfl, ?_, hp1, hx1⟩) (fun c => absurd rfl c)
        have hc := clp_cases (Int.le_of_lt hlh) (tyV K (l + 1) f)
        obtain ⟨j0, hj0, e0⟩ := m2
        have u1 : v8 = hi ∨ tyV K (l + 1) f ≤ v8 := a4.imp id (fun ⟨j, hj, h⟩ => Int.le_trans (m1 j (by omega)) h)
        have u2 : v8 ≤ lo ∨ v8 ≤ tyV K (l + 1) f := by
          rcases a5 with h | h
          · rw [e0]; exact a3 j0 (by omega)
          · exact Or.inl h
        clear ih0 step a3 a4 a5 hl9 hm9
        omega
      refine loopN (P := fun k g' => xfr g g' ∧ PT g' 29 (nP K) f) (2 * nP K) (fun k g' => ∀ (v8 v9 : Int) (u10 u11 : pV), lo ≤ v8 → v8 ≤ hi → (∀ j, j < k → v8 ≤ lo ∨ v8 ≤ tyV K l (mvF f j)) → (v8 = hi ∨ ∃ j, j < k ∧ tyV K l (mvF f j) ≤ v8) → v9 = k → EV e mX7_playOn (qI (fun x g' => x = clp lo hi (tyV K (l + 1) f) ∧ PT g' 29 (nP K) f ∧ xfr g g')) 57 [vR 1, vR 29, vR 27, vI ((l + 1 : Nat) : Int), vI lo, vI hi, vI 0, vI lo, vI v8, vI v9, u10, u11] [] g') ?_ ?_ 0 g (Nat.zero_le _) ⟨xfr.rf, hp⟩ _ _ _ _ (Int.le_of_lt hlh) (Int.le_refl _) (fun j hj => absurd hj (Nat.not_lt_zero _)) (Or.inl rfl) rfl
      · rintro k g1 hk ⟨hx1, hp1⟩ ih v8 v9 u10 u11 a1 a2 a3 a4 rfl
        have hk9 : (k : Int) < 2147483647 := by clear ih ih0 hl9 hm9 step fin; omega
        refine b_X7_playOn_57 (fun c => absurd c (by rw [h2N g1 hp1]; exact Int.not_le.mpr (Int.ofNat_lt.mpr hk))) (fun _ => ?_)
        refine b_X7_playOn_68 (fun c => fin g1 k v8 _ _ _ (Nat.le_of_lt hk) hx1 hp1 a1 a2 a3 a4 (Or.inr c)) (fun c => ?_)
        refine step g1 k 0 lo v8 u10 u11 hk hx1 hp1 (Int.not_le.mp c) (fun g2 v10 hx2 hp2 => ?_)
        refine b_X7_playOn_108 (fun _ => b_X7_playOn_125 ?_) (fun c => absurd rfl c)
        have hc := clp_cases a1 (tyV K l (mvF f k))
        have hz := zmin_cases v8 (clp lo v8 (tyV K l (mvF f k)))
        generalize hzz : zmin v8 (clp lo v8 (tyV K l (mvF f k))) = z at hz
        have hz2 : z ≤ v8 ∧ lo ≤ z ∧ (z ≤ lo ∨ z ≤ tyV K l (mvF f k)) ∧ (z = v8 ∨ tyV K l (mvF f k) ≤ z) := by clear ih ih0 hl9 hm9 step fin hzz; omega
        clear hz hc
        refine ih _ ⟨hx2, hp2⟩ _ _ _ _ hz2.2.1 (Int.le_trans hz2.1 a2) (fun j hj => ?_) ?_ (w32n k hk9)
        · by_cases e : j = k
          · rw [e]; exact hz2.2.2.1
          · rcases a3 j (Nat.lt_of_le_of_ne (Nat.lt_succ_iff.mp hj) e) with h | h
            · exact Or.inl (Int.le_trans hz2.1 h)
            · exact Or.inr (Int.le_trans hz2.1 h)
        · rcases hz2.2.2.2 with h | h
          · rw [h]; exact a4.imp id (fun ⟨j, hj, h⟩ => ⟨j, Nat.lt_succ_of_lt hj, h⟩)
          · exact Or.inr ⟨k, Nat.lt_succ_self k, h⟩
      · rintro g1 ⟨hx1, hp1⟩ v8 v9 u10 u11 a1 a2 a3 a4 rfl
        refine b_X7_playOn_57 (fun _ => ?_) (fun c => absurd (by rw [h2N g1 hp1]; exact Int.le_refl _) c)
        exact fin g1 (2 * nP K) v8 _ _ _ (Nat.le_refl _) hx1 hp1 a1 a2 a3 a4 (Or.inl rfl)
/-- turnsBy: the POINT and the SUM of the best of the first moves -/
def tyB (K : tK) (l : Nat) : Nat → Int × Int
  | 0 => (-9, -999)
  | k + 1 => if (tyB K l k).2 < tyV K l (mvF (ptC K) k) then (((k / 2 : Nat) : Int), tyV K l (mvF (ptC K) k)) else tyB K l k
theorem tyB_1 {K : tK} {l k : Nat} (h : (tyB K l k).2 < tyV K l (mvF (ptC K) k)) : tyB K l (k + 1) = (((k / 2 : Nat) : Int), tyV K l (mvF (ptC K) k)) := if_pos h
theorem tyB_0 {K : tK} {l k : Nat} (h : ¬ (tyB K l k).2 < tyV K l (mvF (ptC K) k)) : tyB K l (k + 1) = tyB K l k := if_neg h
def rTb (m w : Int) : Int := if wrN m 0 2 = 0 then rW w 1 else wrN m 0 2
theorem rTb_cases (m w : Int) : (wrN m 0 2 ≠ 0 ∧ rTb m w = wrN m 0 2) ∨ (wrN m 0 2 = 0 ∧ rTb m w = rW w 1) := by
  unfold rTb
  by_cases h : wrN m 0 2 = 0
  · rw [if_pos h]; exact Or.inr ⟨h, rfl⟩
  · rw [if_neg h]; exact Or.inl ⟨h, rfl⟩
def aTb (K : tK) (m w : Int) : Int := if m = 0 then sel w (sumAll K) (-9) else sel w (tyB K (2 * m.toNat - 1) (2 * nP K)).2 (tyB K (2 * m.toNat - 1) (2 * nP K)).1
theorem x_turnsBy {d : Nat} {g : pG} {K : tK} {m w : Int} (hd : 12 ≤ d) (hK : KOK K) (hu : SU g 1 K) : CT d mX7_turnsBy [vR 0, vI m, vI w] g (QX g (aH (rTb m w) (aTb K m w)) (rTb m w)) := by
  refine ct_in (L := [vR 0, vI m, vI w, vX 2, vX 2, vX 2, vX 2, vX 2, vX 2]) (by omega) (Nat.le_of_ble_eq_true rfl) rfl (fun e he => ?_)
  have r0 := wrN_cases m 0 2
  have r1 := rTb_cases m w
  have r2 := rW_cases w 1
  have he11 : 11 ≤ e := by omega
  have h8 := hK.2.2.1
  have go : ∀ v3, rTb m w = 0 → (0 ≤ m ∧ m ≤ 2) → EV e mX7_turnsBy (QX g (aH (rTb m w) (aTb K m w)) (rTb m w)) 33 [vR 0, vI m, vI w, vI v3, vX 2, vX 2, vX 2, vX 2, vX 2] [] g := by
    intro v3 hr0 hm
    clear r0 r1 r2
    refine b_X7_turnsBy_33 (s_think (by omega) scr29 hK hu) (fun g1 hx => ?_)
    obtain ⟨hp1, hf1⟩ := hx
    have hx1 := hf1.x scr29
    refine b_X7_turnsBy_47 (fun c => ?_) (fun c => ?_)
    · obtain ⟨l, hl, hl2⟩ : ∃ l : Nat, w32 (w32 (2 * m) - 1) = (l : Int) ∧ l = 2 * m.toNat - 1 ∧ l ≤ 3 := ⟨2 * m.toNat - 1, by rw [w32_of (x := 2 * m) (by omega) (by omega), w32_of (by omega) (by omega)]; omega, rfl, by omega⟩
      have hA : aTb K m w = sel w (tyB K l (2 * nP K)).2 (tyB K l (2 * nP K)).1 := by unfold aTb; rw [if_neg c, hl2.1]
      rw [hA]
      have hl3 := hl2.2
      clear hA hl2
      refine b_X7_turnsBy_81 ?_
      refine loopN (P := fun k g' => xfr g g' ∧ PT g' 29 (nP K) (ptC K)) (2 * nP K) (fun k g' => ∀ (v4 v5 v6 : Int) (u7 u8 : pV), v5 = (tyB K l k).1 → ((k = 0 ∧ v4 = -1000000000) ∨ (1 ≤ k ∧ v4 = (tyB K l k).2 ∧ -72 ≤ v4 ∧ v4 ≤ 72)) → v6 = k → EV e mX7_turnsBy (QX g (aH (rTb m w) (sel w (tyB K l (2 * nP K)).2 (tyB K l (2 * nP K)).1)) (rTb m w)) 92 [vR 0, vI m, vI w, vI v3, vI v4, vI v5, vI v6, u7, u8] [] g') ?_ ?_ 0 g1 (Nat.zero_le _) ⟨hx1, hp1⟩ _ _ _ _ _ rfl (Or.inl ⟨rfl, rfl⟩) rfl
      · rintro k g2 hk ⟨hx2, hp2⟩ ih v4 v5 v6 u7 u8 hv5 hv4 rfl
        have hk9 : (k : Int) < 2147483647 := by clear ih hl hv4; omega
        have h2N : w32 (2 * g2 29 1) = ((2 * nP K : Nat) : Int) := by rw [hp2.1, w32_of (by clear ih hl hv4; omega) (by clear ih hl hv4; omega)]; clear ih hl hv4; omega
        have h4b : v4 < 1000000000 := by clear ih hl h2N; omega
        have hV := tyV_bd hK l _ (mvF_Bd hp2.2.2.2.2 k)
        refine b_X7_turnsBy_92 (fun c => absurd c (by rw [h2N]; exact Int.not_le.mpr (Int.ofNat_lt.mpr hk))) (fun _ => ?_)
        refine b_X7_turnsBy_106 (s_move (by clear ih hl h2N hv4 h4b; omega) pts_29 hp2 hk) (fun x g3 hx => ?_)
        obtain ⟨rfl, hp3, hf3⟩ := hx
        have hx3 := hx2.tr (hf3.x scr29)
        refine b_X7_turnsBy_115 (by rw [hl]; exact s_playOn hK l e g3 _ v4 1000000000 hl3 (by clear ih hl h2N hv4 h4b; omega) (hu.x hx3) hp3 h4b) (fun x g4 hx => ?_)
        obtain ⟨rfl, hp4, hx4⟩ := hx
        refine b_X7_turnsBy_141 (by rw [m2n (by clear ih hl h2N hv4 h4b; omega)]; exact s_put (by clear ih hl h2N hv4 h4b; omega) pts_29 hp4 (by clear ih hl h2N hv4 h4b; omega)) (fun g5 hx => ?_)
        obtain ⟨hp5, hf5⟩ := hx
        rw [mvF_back hp2.2.2.2.2 hk] at hp5
        have hx5 := (hx3.tr hx4).tr (hf5.x scr29)
        have hc := clp_cases (Int.le_of_lt h4b) (tyV K l (mvF (ptC K) k))
        have hlow : (tyB K l k).2 = -999 ∨ (tyB K l k).2 = v4 := by
          rcases hv4 with h | h
          · left; rw [h.1]; rfl
          · right; exact h.2.1.symm
        have key : (v4 < clp v4 1000000000 (tyV K l (mvF (ptC K) k)) → clp v4 1000000000 (tyV K l (mvF (ptC K) k)) = tyV K l (mvF (ptC K) k) ∧ (tyB K l k).2 < tyV K l (mvF (ptC K) k)) ∧ (clp v4 1000000000 (tyV K l (mvF (ptC K) k)) ≤ v4 → 1 ≤ k ∧ ¬ (tyB K l k).2 < tyV K l (mvF (ptC K) k)) := by
          clear ih hl h2N hlow
          rcases hv4 with h | h
          · have e9 : (tyB K l k).2 = -999 := by rw [h.1]; rfl
            rw [e9]
            omega
          · have e9 := h.2.1
            omega
        refine b_X7_turnsBy_156 (fun c2 => ?_) (fun c2 => ?_)
        · obtain ⟨k1, k2⟩ := key.2 c2
          have e1 := tyB_0 k2
          have hv4b := hv4.resolve_left (fun z => by rw [z.1] at k1; exact absurd k1 (by decide))
          exact b_X7_turnsBy_173 (ih _ ⟨hx5, hp5⟩ _ _ _ _ _ (by rw [e1]; exact hv5) (Or.inr ⟨Nat.le_succ_of_le k1, by rw [e1]; exact hv4b.2.1, hv4b.2.2⟩) (w32n k hk9))
        · obtain ⟨k1, k2⟩ := key.1 (Int.not_le.mp c2)
          have e1 := tyB_1 k2
          refine b_X7_turnsBy_163 ?_
          rw [k1, m2n (by clear ih hl h2N hv4 h4b hc key; omega)]
          exact ih _ ⟨hx5, hp5⟩ _ _ _ _ _ (by rw [e1]) (Or.inr ⟨Nat.succ_le_succ (Nat.zero_le _), by rw [e1], hV⟩) (w32n k hk9)
      · rintro g2 ⟨hx2, hp2⟩ v4 v5 v6 u7 u8 hv5 hv4 rfl
        have h2N : w32 (2 * g2 29 1) = ((2 * nP K : Nat) : Int) := by rw [hp2.1, w32_of (by clear hl hv4; omega) (by clear hl hv4; omega)]; clear hl hv4; omega
        have hv4b := hv4.resolve_left (fun z => by clear hl h2N hv4; omega)
        refine b_X7_turnsBy_92 (fun _ => ?_) (fun c => absurd (by rw [h2N]; exact Int.le_refl _) c)
        refine b_X7_turnsBy_179 (fun c2 => ?_) (fun c2 => ?_)
        · exact b_X7_turnsBy_188 (rx_ok hr0 (aH_0 hr0 (sel1 c2 hv5.symm)) hx2)
        · exact b_X7_turnsBy_183 (rx_ok hr0 (aH_0 hr0 (sel0 (Classical.not_not.mp c2) hv4b.2.1.symm)) hx2)
    · have c := Classical.not_not.mp c
      have hA : aTb K m w = sel w (sumAll K) (-9) := by unfold aTb; rw [if_pos c]
      rw [hA]
      refine b_X7_turnsBy_51 (fun c2 => ?_) (fun c2 => ?_)
      · exact b_X7_turnsBy_78 (rx_ok hr0 (aH_0 hr0 (sel1 c2 rfl)) hx1)
      · refine b_X7_turnsBy_55 (s_playOn hK 0 e g1 _ (-1000000000) 1000000000 (by decide) (by omega) (hu.x hx1) hp1 (by decide)) (fun x g2 hx => ?_)
        obtain ⟨rfl, hp2, hx2⟩ := hx
        have hV := tyV_bd hK 0 _ hp1.2.2.2.2
        have hc := clp_cases (lo := -1000000000) (hi := 1000000000) (by decide) (tyV K 0 (ptC K))
        have e9 : clp (-1000000000) 1000000000 (tyV K 0 (ptC K)) = tyV K 0 (ptC K) := by omega
        rw [e9]
        exact b_X7_turnsBy_75 (rx_ok hr0 (aH_0 hr0 (sel0 (Classical.not_not.mp c2) rfl)) (hx1.tr hx2))
  refine b_X7_turnsBy_0 (s_outside (by omega)) (fun x g0 hx => ?_)
  obtain ⟨rfl, rfl⟩ := hx
  refine b_X7_turnsBy_6 (fun c => ?_) (fun c => ?_)
  · have no : ¬ (0 ≤ w ∧ w ≤ 1) → ∀ v3, EV e mX7_turnsBy (QX g0 (aH (rTb m w) (aTb K m w)) (rTb m w)) 26 [vR 0, vI m, vI w, vI v3, vX 2, vX 2, vX 2, vX 2, vX 2] [] g0 := by
      intro h v3
      have hr : rTb m w = -2 := by clear go; omega
      refine b_X7_turnsBy_26 (s_refuseHigh (by omega) ref2) (fun x g1 hx => ?_)
      obtain ⟨rfl, rfl⟩ := hx
      exact b_X7_turnsBy_32 (rx_no hr (aH_n hr (by decide) rfl))
    refine b_X7_turnsBy_17 (fun c2 => no (by omega) _) (fun c2 => ?_)
    refine b_X7_turnsBy_21 (fun c3 => ?_) (fun c3 => no (by omega) _)
    exact go _ (by omega) (by omega)
  · have hr : rTb m w = wrN m 0 2 := by clear go; omega
    refine b_X7_turnsBy_11 (s_refuseHigh (by omega) (refW c)) (fun x g1 hx => ?_)
    obtain ⟨rfl, rfl⟩ := hx
    exact b_X7_turnsBy_16 (rx_no hr (aH_n hr c rfl))
