theorem m_thinkThree {d : Nat} {g : pG} {c f : Int} (hd : 1 ≤ d) (hc : wideOK c f) : CT d mX8_thinkThree [vR 45, vI c, vI f] g (qV (fun g' => NW g' 3 (three c f) ∧ mfr g g' ∧ ∀ a, a ≠ 45 → a ≠ 51 → g' a = g a)) := by
  refine ct_in (L := [vR 45, vI c, vI f, vX 2]) (by omega) (Nat.le_of_ble_eq_true rfl) rfl (fun e he => ?_)
  have hf4 : 0 ≤ f ∧ f ≤ 4 ∧ 0 ≤ c ∧ c < 729 := by rcases hc with h | h | h | h | h <;> omega
  have h1 : w32 (2 * f) = 2 * f := w32_of (by omega) (by omega)
  have h2 : w32 (2 * f + 1) = 2 * f + 1 := w32_of (by omega) (by omega)
  have hsq : 1 ≤ (2 * f + 1) * (2 * f + 1) ∧ (2 * f + 1) * (2 * f + 1) ≤ 81 := by
    rcases (show f = 0 ∨ f = 1 ∨ f = 2 ∨ f = 3 ∨ f = 4 by omega) with rfl | rfl | rfl | rfl | rfl <;> decide
  have h3 : w32 ((2 * f + 1) * (2 * f + 1)) = (2 * f + 1) * (2 * f + 1) := w32_of (by omega) (by omega)
  have hb := three_bd hc
  have ha0 := hb 0 (by omega)
  have ha1 := hb 1 (by omega)
  have ha2 := hb 2 (by omega)
  have e0 : three c f 0 = c / ((2 * f + 1) * (2 * f + 1)) - f := rfl
  have e1 : three c f 1 = c / (2 * f + 1) % (2 * f + 1) - f := rfl
  have e2 : three c f 2 = c % (2 * f + 1) - f := rfl
  have d0 : (c.tdiv ((2 * f + 1) * (2 * f + 1))) = c / ((2 * f + 1) * (2 * f + 1)) := tdiv_nn (by omega)
  have d1 : c.tdiv (2 * f + 1) = c / (2 * f + 1) := tdiv_nn (by omega)
  have p1 : 0 ≤ c / (2 * f + 1) ∧ c / (2 * f + 1) ≤ 729 := by
    rcases hc with h | h | h | h | h <;> (obtain ⟨rfl, g1, g2⟩ := h; omega)
  have d2 : (c / (2 * f + 1)).tmod (2 * f + 1) = c / (2 * f + 1) % (2 * f + 1) := tmod_nn p1.1
  have d3 : c.tmod (2 * f + 1) = c % (2 * f + 1) := tmod_nn (by omega)
  have w0 : w32 (w32 (c / ((2 * f + 1) * (2 * f + 1))) - f) = three c f 0 := by rw [e0, w32_of (x := c / _) (by omega) (by omega), w32_of (by omega) (by omega)]
  have w1 : w32 (w32 (w32 (c / (2 * f + 1)) |>.tmod (2 * f + 1)) - f) = three c f 1 := by rw [e1, w32_of (x := c / _) (by omega) (by omega), d2, w32_of (x := _ % _) (by omega) (by omega), w32_of (by omega) (by omega)]
  have w2 : w32 (w32 (c % (2 * f + 1)) - f) = three c f 2 := by rw [e2, w32_of (x := _ % _) (by omega) (by omega), w32_of (by omega) (by omega)]
  refine b_X8_thinkThree_0 (by rw [h1, h2, h3]; omega) (by rw [h1, h2]; omega) ?_
  rw [h1, h2, h3, d0, d1, d3, w0, w1, w2]
  refine ⟨rfl, ⟨by rw [cset_ne _ _ (by decide), cset_ne _ _ (by decide), cset_ne _ _ (by decide), cset_self, fup_self]; rfl, by omega, by omega, fun k hk => ?_, three_Bd hc⟩, ⟨fun a ha => ?_, fun j hj => ?_⟩, fun a h5 h1 => ?_⟩
  · rw [cset_self]
    unfold fup
    split
    next h => rw [h]
    next h =>
      split
      next h9 => rw [h9]
      next h9 =>
        split
        next h8 => rw [h8]
        next h8 => omega
  · rw [cset_ne _ _ (by omega), cset_ne _ _ (by omega), cset_ne _ _ (by omega), cset_ne _ _ (by omega)]
  · rw [cset_ne _ _ (by omega), cset_ne _ _ (by omega), cset_ne _ _ (by omega), cset_self, fup_ne _ _ (by omega)]
  · rw [cset_ne _ _ h1, cset_ne _ _ h1, cset_ne _ _ h1, cset_ne _ _ h5]
/-- apart -/
def rApart (a b f : Int) : Int := if (0 ≤ a ∧ a ≤ 5) ∧ (0 ≤ b ∧ b ≤ 5) then wrN f 0 9 else -2
theorem rApart_cases (a b f : Int) : (((0 ≤ a ∧ a ≤ 5) ∧ (0 ≤ b ∧ b ≤ 5)) ∧ rApart a b f = wrN f 0 9) ∨ (¬ ((0 ≤ a ∧ a ≤ 5) ∧ (0 ≤ b ∧ b ≤ 5)) ∧ rApart a b f = -2) := by
  unfold rApart; split
  · left; exact ⟨by assumption, rfl⟩
  · right; exact ⟨by assumption, rfl⟩
abbrev apQ (a b f : Int) (c : Nat) : Prop := ¬ ∀ j, j < 3 → actF 3 a f (three c 4) j = actF 3 b f (three c 4) j
theorem s_copy29 {d N : Nat} {g : pG} {f : tF} (hd : 1 ≤ d) (hp : PT g 27 N f) : CT d mX3_copyFrom [vR 29, vR 27] g (qV (fun g' => PT g' 29 N f ∧ fr2 g g' 29)) :=
  ct_mono (fun v gg hq => by
    obtain ⟨rfl, q1, q2, q3⟩ := hq
    exact ⟨rfl, hp.of q1 q2, q3⟩) (s_copyP hd pts_29 pts_27 (by decide) (by decide))
theorem x_apart {d : Nat} {g : pG} {a b f : Int} (hd : 8 ≤ d) : CT d mX7_apart [vR 0, vI a, vI b, vI f] g (QX g (aR (rApart a b f) (ff (apQ a b f) 729)) (rApart a b f)) := by
  refine ct_in (L := [vR 0, vI a, vI b, vI f, vX 2, vX 2]) (by omega) (Nat.le_of_ble_eq_true rfl) rfl (fun e he => ?_)
  have r1 := rApart_cases a b f
  have r2 := wrN_cases f 0 9
  have b1 := bi_cases (0 ≤ a ∧ a ≤ 5)
  have b2 := bi_cases (0 ≤ b ∧ b ≤ 5)
  have loop : ∀ v, rApart a b f = 0 → (0 ≤ a ∧ a ≤ 5) → (0 ≤ b ∧ b ≤ 5) → (0 ≤ f ∧ f ≤ 9) → EV e mX7_apart (QX g (aR (rApart a b f) (ff (apQ a b f) 729)) (rApart a b f)) 45 [vR 0, vI a, vI b, vI f, vI v, vI 0] [] g := by
    intro v hr0 ha hb hf
    refine loopN (P := fun k g' => xfr g g' ∧ ∀ j, j < k → ¬ apQ a b f j) 729 (fun k g' => ∀ (w : Int), w = k → EV e mX7_apart _ 45 [vR 0, vI a, vI b, vI f, vI v, vI w] [] g') ?_ ?_ 0 g (Nat.zero_le _) ⟨xfr.rf, fun j hj => absurd hj (Nat.not_lt_zero _)⟩ _ rfl
    · rintro k g2 hk ⟨hf2, hall⟩ ih w rfl
      have hk1 : (k : Int) < 729 := Int.ofNat_lt.mpr hk
      have hw : wideOK (k : Int) 4 := Or.inr (Or.inr (Or.inr (Or.inr ⟨rfl, Int.natCast_nonneg _, hk1⟩)))
      refine b_X7_apart_45 (fun c => absurd hk1 (Int.not_lt.mpr c)) (fun c => ?_)
      refine b_X7_apart_53 (s_beThree (by omega) pts_27 hw) (fun g3 hx => ?_)
      obtain ⟨hp3, hf3⟩ := hx
      refine b_X7_apart_63 (s_copy29 (by omega) hp3) (fun g4 hx => ?_)
      obtain ⟨hq4, hf4⟩ := hx
      have hp4 := hp3.frm2 hf4 (by decide)
      refine b_X7_apart_74 (s_suffer (by omega) pts_27 hp4 ha hf) (fun g5 hx => ?_)
      obtain ⟨hp5, hf5⟩ := hx
      have hq5 := hq4.frm hf5 (by decide) (by decide)
      refine b_X7_apart_83 (s_suffer (by omega) pts_29 hq5 hb hf) (fun g6 hx => ?_)
      obtain ⟨hq6, hf6⟩ := hx
      have hp6 := hp5.frm hf6 (by decide) (by decide)
      refine b_X7_apart_92 (s_isAs (by omega) pts_27 pts_29 hp6 hq6) (fun x g7 hx => ?_)
      obtain ⟨rfl, rfl⟩ := hx
      have hD := hf2.tr ((hf3.x scr27).tr ((hf4.x scr29).tr ((hf5.x scr27).tr (hf6.x scr29))))
      refine b_X7_apart_103 (fun c => ?_) (fun c => ?_)
      · have h1 : ¬ apQ a b f k := fun z => z (bi_ne0 c)
        exact b_X7_apart_109 (ih _ ⟨hD, fun j hj => if h : j = k then h ▸ h1 else hall j (by omega)⟩ _ (w32n k (by omega)))
      · have h1 : apQ a b f k := bi_eq0 (Classical.not_not.mp c)
        exact b_X7_apart_106 (rx_ok hr0 (aR_0 hr0 (ff_hit hall h1 hk)) hD)
    · rintro g2 ⟨hf2, hall⟩ w rfl
      refine b_X7_apart_45 (fun c => ?_) (fun c => absurd (Int.le_refl _) c)
      exact b_X7_apart_115 (rx_ok hr0 (aR_0 hr0 (ff_none hall)) hf2)
  refine b_X7_apart_0 (s_isKind (by omega)) (fun x0 _ hx => ?_)
  obtain ⟨rfl, rfl⟩ := hx
  refine b_X7_apart_4 (fun c4 => ?_) (fun c4 => ?_)
  · refine b_X7_apart_14 (s_refuse (by omega) ref2) (fun x2 _ hx => ?_)
    obtain ⟨rfl, rfl⟩ := hx
    refine b_X7_apart_20 ?_
    exact rx_no (by omega) (aR_n (by omega) (by omega))
  · refine b_X7_apart_7 (s_isKind (by omega)) (fun x2 _ hx => ?_)
    obtain ⟨rfl, rfl⟩ := hx
    refine b_X7_apart_11 (fun c11 => ?_) (fun c11 => ?_)
    · refine b_X7_apart_21 (s_outside (by omega)) (fun x4 _ hx => ?_)
      obtain ⟨rfl, rfl⟩ := hx
      refine b_X7_apart_28 (fun c28 => ?_) (fun c28 => ?_)
      · refine b_X7_apart_42 ?_
        exact loop _ (by omega) (by omega) (by omega) (by omega)
      · refine b_X7_apart_35 (s_refuse (by omega) (refW c28)) (fun x6 _ hx => ?_)
        obtain ⟨rfl, rfl⟩ := hx
        refine b_X7_apart_41 ?_
        exact rx_no (by omega) (aR_n (by omega) c28)
    · refine b_X7_apart_14 (s_refuse (by omega) ref2) (fun x4 _ hx => ?_)
      obtain ⟨rfl, rfl⟩ := hx
      refine b_X7_apart_20 ?_
      exact rx_no (by omega) (aR_n (by omega) (by omega))
theorem m_apart {d : Nat} {g : pG} {a b f : Int} (hd : 11 ≤ d) : CT d mX8_apart [vR 45, vI a, vI b, vI f] g (QM g (aR (rApart a b f) (ff (apQ a b f) 729)) (rApart a b f)) := by
  refine ct_in (L := [vR 45, vI a, vI b, vI f, vX 2, vX 2, vX 2]) (by omega) (Nat.le_of_ble_eq_true rfl) rfl (fun e he => ?_)
  have r1 := rApart_cases a b f
  have r2 := wrN_cases f 0 9
  have b1 := bi_cases (0 ≤ a ∧ a ≤ 5)
  have b2 := bi_cases (0 ≤ b ∧ b ≤ 5)
  have loop : ∀ v g1, mfr g g1 → rApart a b f = 0 → (0 ≤ a ∧ a ≤ 5) → (0 ≤ b ∧ b ≤ 5) → (0 ≤ f ∧ f ≤ 9) → EV e mX8_apart (QM g (aR (rApart a b f) (ff (apQ a b f) 729)) (rApart a b f)) 58 [vR 45, vI a, vI b, vI f, vI v, vI 0, vX 2] [] g1 := by
    intro v g1 hf1 hr0 ha hb hf
    refine loopN (P := fun k g' => mfr g g' ∧ ∀ j, j < k → ¬ apQ a b f j) 729 (fun k g' => ∀ (w : Int) (u : pV), w = k → EV e mX8_apart _ 58 [vR 45, vI a, vI b, vI f, vI v, vI w, u] [] g') ?_ ?_ 0 g1 (Nat.zero_le _) ⟨hf1, fun j hj => absurd hj (Nat.not_lt_zero _)⟩ _ _ rfl
    · rintro k g2 hk ⟨hf2, hall⟩ ih w u rfl
      have hk1 : (k : Int) < 729 := Int.ofNat_lt.mpr hk
      have hw : wideOK (k : Int) 4 := Or.inr (Or.inr (Or.inr (Or.inr ⟨rfl, Int.natCast_nonneg _, hk1⟩)))
      refine b_X8_apart_58 (fun c => absurd hk1 (Int.not_lt.mpr c)) (fun c => ?_)
      refine b_X8_apart_66 (m_thinkThree (by omega) hw) (fun g3 hx => ?_)
      obtain ⟨hp3, hf3, ho3⟩ := hx
      refine b_X8_apart_73 (m_act (by omega) hp3 ha hf) (fun g4 hx => ?_)
      obtain ⟨hp4, hf4⟩ := hx
      have hD4 := hf2.tr (hf3.tr hf4.m51)
      refine b_X8_apart_79 ?_
      refine loopN (P := fun i g' => mfr g g' ∧ NW g' 3 (actF 3 a f (three k 4)) ∧ ∀ j, j < i → g' 69 j = actF 3 a f (three k 4) j) 3 (fun i g' => ∀ (w6 : Int), w6 = i → EV e mX8_apart _ 82 [vR 45, vI a, vI b, vI f, vI v, vI k, vI w6] [] g') ?_ ?_ 0 g4 (Nat.zero_le _) ⟨hD4, hp4, fun j hj => absurd hj (Nat.not_lt_zero _)⟩ _ rfl
      · rintro i g5 hi ⟨hf5, hp5, ha5⟩ ih2 w6 rfl
        have hr := hp5.rd hi
        refine b_X8_apart_82 (fun c => absurd c (by omega)) (fun c => ?_)
        refine b_X8_apart_88 (by omega) (by omega) (by omega) ?_
        rw [Int.toNat_natCast, hr]
        refine ih2 _ ⟨hf5.tr (mset _ (by decide)), hp5.ne (by decide), fun j hj => ?_⟩ _ (w32n i (by omega))
        rw [cset_self]
        by_cases e : j = i
        · subst e; rw [fup_self]
        · rw [fup_ne _ _ e]; exact ha5 j (by omega)
      · rintro g5 ⟨hf5, hp5, ha5⟩ w6 rfl
        refine b_X8_apart_82 (fun c => ?_) (fun c => absurd (by omega) c)
        refine b_X8_apart_108 (m_thinkThree (by omega) hw) (fun g6 hx => ?_)
        obtain ⟨hp6, hf6, ho6⟩ := hx
        refine b_X8_apart_115 (m_act (by omega) hp6 hb hf) (fun g7 hx => ?_)
        obtain ⟨hp7, hf7⟩ := hx
        have hD := hf5.tr (hf6.tr hf7.m51)
        have hl : ∀ j, j < 3 → g7 69 j = actF 3 a f (three k 4) j := fun j hj => by rw [hf7 69 (by decide), ho6 69 (by decide) (by decide)]; exact ha5 j hj
        have l0 := hl 0 (by decide)
        have l1 := hl 1 (by decide)
        have l2 := hl 2 (by decide)
        have q0 := hp7.rd (k := 0) (by decide)
        have q1 := hp7.rd (k := 1) (by decide)
        have q2 := hp7.rd (k := 2) (by decide)
        have yes : apQ a b f k → EV e mX8_apart (QM g (aR (rApart a b f) (ff (apQ a b f) 729)) (rApart a b f)) 166 [vR 45, vI a, vI b, vI f, vI v, vI k, vI (3 : Nat)] [] g7 := fun h1 => b_X8_apart_166 (rm_ok hr0 (aR_0 hr0 (ff_hit hall h1 hk)) hD)
        refine b_X8_apart_121 (fun c => yes (fun z => c (by rw [l0, q0]; exact z 0 (by decide)))) (fun c0 => ?_)
        refine b_X8_apart_136 (fun c => yes (fun z => c (by rw [l1, q1]; exact z 1 (by decide)))) (fun c1 => ?_)
        refine b_X8_apart_151 (fun c2 => ?_) (fun c => yes (fun z => c (by rw [l2, q2]; exact z 2 (by decide))))
        rw [l0, q0] at c0
        rw [l1, q1] at c1
        rw [l2, q2] at c2
        have h1 : ¬ apQ a b f k := fun z => z (fun j hj => by
          rcases (show j = 0 ∨ j = 1 ∨ j = 2 by omega) with rfl | rfl | rfl
          · exact Classical.not_not.mp c0
          · exact Classical.not_not.mp c1
          · exact c2)
        exact b_X8_apart_169 (ih _ ⟨hD, fun j hj => if h : j = k then h ▸ h1 else hall j (by omega)⟩ _ _ (w32n k (by omega)))
    · rintro g2 ⟨hf2, hall⟩ w u rfl
      refine b_X8_apart_58 (fun c => ?_) (fun c => absurd (Int.le_refl _) c)
      exact b_X8_apart_175 (rm_ok hr0 (aR_0 hr0 (ff_none hall)) hf2)
  refine b_X8_apart_0 (m_in (by omega)) (fun x0 _ hx => ?_)
  obtain ⟨rfl, rfl⟩ := hx
  refine b_X8_apart_14 (fun c14 => ?_) (fun c14 => ?_)
  · refine b_X8_apart_39 (m_refuse (by omega) ref2) (fun x2 _ hx => ?_)
    obtain ⟨rfl, rfl⟩ := hx
    refine b_X8_apart_54 ?_
    first | exact rm_no (thr g) (m := -2) (by omega) (aR_n (by omega) (by omega)) | exact rm_no (thr g) (m := wrN f 0 9) (by omega) (aR_n (by omega) (by omega))
  · refine b_X8_apart_17 (m_in (by omega)) (fun x2 _ hx => ?_)
    obtain ⟨rfl, rfl⟩ := hx
    refine b_X8_apart_26 (fun c26 => ?_) (fun c26 => ?_)
    · refine b_X8_apart_39 (m_refuse (by omega) ref2) (fun x4 _ hx => ?_)
      obtain ⟨rfl, rfl⟩ := hx
      refine b_X8_apart_54 ?_
      first | exact rm_no (thr g) (m := -2) (by omega) (aR_n (by omega) (by omega)) | exact rm_no (thr g) (m := wrN f 0 9) (by omega) (aR_n (by omega) (by omega))
    · refine b_X8_apart_29 (m_wrongNumber (by omega)) (fun x4 _ hx => ?_)
      obtain ⟨rfl, rfl⟩ := hx
      refine b_X8_apart_36 (fun c36 => ?_) (fun c36 => ?_)
      · refine b_X8_apart_55 ?_
        exact loop _ _ (thr g) (by omega) (by omega) (by omega) (by omega)
      · refine b_X8_apart_48 (m_refuse (by omega) (refW (by omega))) (fun x6 _ hx => ?_)
        obtain ⟨rfl, rfl⟩ := hx
        refine b_X8_apart_54 ?_
        first | exact rm_no (thr g) (m := -2) (by omega) (aR_n (by omega) (by omega)) | exact rm_no (thr g) (m := wrN f 0 9) (by omega) (aR_n (by omega) (by omega))
