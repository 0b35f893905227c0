/-- fits -/
abbrev ftQ (N : Nat) (r : tF) (f : Int) (k : Nat) : Prop := ∀ j, j < N → actF N k f (fun i => r (2 * i) - 9) j = r (2 * j + 1) - 9
def rFits (N n : Nat) (r : tF) (f : Int) : Int := if wrN f 0 9 = 0 then rRow n r (2 * N) else wrN f 0 9
theorem rFits_0 {N n : Nat} {r : tF} {f : Int} (h : wrN f 0 9 = 0) : rFits N n r f = rRow n r (2 * N) := if_pos h
theorem rFits_n {N n : Nat} {r : tF} {f : Int} (h : wrN f 0 9 ≠ 0) : rFits N n r f = wrN f 0 9 := if_neg h
theorem s_copy27 {d N : Nat} {g : pG} {f : tF} (hd : 1 ≤ d) (hp : PT g 29 N f) : CT d mX3_copyFrom [vR 27, vR 29] g (qV (fun g' => PT g' 27 N f ∧ fr2 g g' 27)) :=
  ct_mono (fun v gg hq => by
    obtain ⟨rfl, q1, q2, q3⟩ := hq
    exact ⟨rfl, hp.of q1 q2, q3⟩) (s_copyP hd pts_27 pts_29 (by decide) (by decide))
theorem x_fits {d n : Nat} {g : pG} {K : tK} {r : tF} {f : Int} (hd : 8 ≤ d) (hK : KOK K) (hu : SU g 1 K) (hr : RX g n r) : CT d mX7_fits [vR 0, vI f] g (QX g (aR (rFits (nP K) n r f) (bitsF (ftQ (nP K) r f) 6)) (rFits (nP K) n r f)) := by
  refine ct_in (L := [vR 0, vI f, vX 2, vX 2, vX 2]) (by omega) (Nat.le_of_ble_eq_true rfl) rfl (fun e he => ?_)
  have hm : g 5 1 = nP K := hu.2.2.1
  have h8 := hK.2.2.1
  have r1 := wrN_cases f 0 9
  have he3 : 3 ≤ e := by omega
  have he1 : 1 ≤ e := Nat.le_trans (by decide) he3
  have e2 : w32 (2 * (nP K : Int)) = ((2 * nP K : Nat) : Int) := by rw [w32_of (by omega) (by omega)]; omega
  refine b_X7_fits_0 (s_outside he1) (fun x g1 hx => ?_)
  obtain ⟨rfl, rfl⟩ := hx
  refine b_X7_fits_7 (fun c => ?_) (fun c => ?_)
  · have hf : 0 ≤ f ∧ f ≤ 9 := by clear e2; omega
    have hF := rFits_0 (N := nP K) (n := n) (r := r) c
    refine b_X7_fits_18 (by rw [hm, e2]; exact s_tells he1 hr) (fun x g2 hx => ?_)
    obtain ⟨hx, rfl⟩ := hx
    clear e2
    refine b_X7_fits_34 (fun c2 => ?_) (fun c2 => ?_)
    · have hok : rowOK n r (2 * nP K) := by
        rcases hx with h | h
        · exact h.2
        · exact absurd h.1 c2
      have hr0 : rFits (nP K) n r f = 0 := hF.trans (rRow_ok hok)
      have hn := hok.1
      refine b_X7_fits_44 (s_readTold (a := 0) (s := 2) he3 scr29 hK hu hr (by decide) (Or.inr rfl) hok.2 (fun j hj => by omega)) (fun g3 hx => ?_)
      obtain ⟨hp3, hf3⟩ := hx
      have hx3 := hf3.x scr29
      have hp3 := hp3.to (f' := fun j => r (2 * j) - 9) (fun j _ => by show r (0 + 2 * j) - 9 = _; rw [Nat.zero_add])
      refine b_X7_fits_54 (s_readTold (a := 1) (s := 2) he3 scr31 hK (hu.x hx3) (hr.x hx3) (by decide) (Or.inr rfl) hok.2 (fun j hj => by omega)) (fun g4 hx => ?_)
      obtain ⟨hq4, hf4⟩ := hx
      have hx4 := hx3.tr (hf4.x scr31)
      have hp4 := hp3.frm2 hf4 (by decide)
      have hq4 := hq4.to (f' := fun j => r (2 * j + 1) - 9) (fun j _ => by show r (1 + 2 * j) - 9 = _; rw [Nat.add_comm])
      refine b_X7_fits_64 ?_
      refine loopN (P := fun k g' => xfr g2 g' ∧ PT g' 29 (nP K) (fun j => r (2 * j) - 9) ∧ PT g' 31 (nP K) (fun j => r (2 * j + 1) - 9)) 6 (fun k g' => ∀ (v3 v4 : Int), v3 = bitsF (ftQ (nP K) r f) k → v4 = k → EV e mX7_fits _ 69 [vR 0, vI f, vI (wrN f 0 9), vI v3, vI v4] [] g') ?_ ?_ 0 g4 (Nat.zero_le _) ⟨hx4, hp4, hq4⟩ _ _ rfl rfl
      · rintro k g5 hk ⟨hx5, hp5, hq5⟩ ih v3 v4 hv3 rfl
        have k5 : 0 ≤ (k : Int) ∧ (k : Int) ≤ 5 := by clear ih; omega
        have k9 : (k : Int) < 2147483647 := by clear ih; omega
        refine b_X7_fits_69 (fun c => absurd c (by clear ih; omega)) (fun c => ?_)
        refine b_X7_fits_76 (s_copy27 he1 hp5) (fun g6 hx => ?_)
        obtain ⟨hz6, hf6⟩ := hx
        refine b_X7_fits_87 (s_suffer (Nat.le_trans (by decide) he3) pts_27 hz6 k5 hf) (fun g7 hx => ?_)
        obtain ⟨hz7, hf7⟩ := hx
        have hp7 := (hp5.frm2 hf6 (by decide)).frm hf7 (by decide) (by decide)
        have hq7 := (hq5.frm2 hf6 (by decide)).frm hf7 (by decide) (by decide)
        have hx7 := hx5.tr ((hf6.x scr27).tr (hf7.x scr27))
        refine b_X7_fits_97 (s_isAs he1 pts_27 pts_31 hz7 hq7) (fun x g8 hx => ?_)
        obtain ⟨rfl, rfl⟩ := hx
        refine b_X7_fits_108 (fun c3 => ?_) (fun c3 => ?_)
        · have h1 : ¬ ftQ (nP K) r f k := bi_eq0 c3
          exact b_X7_fits_118 (ih _ ⟨hx7, hp7, hq7⟩ _ _ (by rw [bitsF_0 h1]; exact hv3) (w32n k k9))
        · have h1 : ftQ (nP K) r f k := bi_ne0 c3
          exact b_X7_fits_111 (ih _ ⟨hx7, hp7, hq7⟩ _ _ (by rw [bitsF_1 h1, hv3]) (w32n k k9))
      · rintro g5 ⟨hx5, hp5, hq5⟩ v3 v4 hv3 rfl
        refine b_X7_fits_69 (fun c => ?_) (fun c => absurd (by decide) c)
        exact b_X7_fits_124 (rx_ok hr0 (aR_0 hr0 hv3.symm) hx5)
    · have hno : ¬ rowOK n r (2 * nP K) := by
        rcases hx with h | h
        · exact absurd (by rw [h.1]; decide) c2
        · exact h.2
      have hr0 : rFits (nP K) n r f = -3 := hF.trans (rRow_no hno)
      refine b_X7_fits_37 (s_refuse he1 ref3) (fun x g3 hx => ?_)
      obtain ⟨rfl, rfl⟩ := hx
      exact b_X7_fits_43 (rx_no hr0 (aR_n hr0 (by decide)))
  · have hr0 := rFits_n (N := nP K) (n := n) (r := r) c
    refine b_X7_fits_12 (s_refuse he1 (refW c)) (fun x g2 hx => ?_)
    obtain ⟨rfl, rfl⟩ := hx
    exact b_X7_fits_17 (rx_no hr0 (aR_n hr0 c))
