theorem PT.to {g : pG} {t N : Nat} {f f' : tF} (h : PT g t N f) (he : ∀ j, j < N → f j = f' j) : PT g t N f' :=
  ⟨h.1, h.2.1, h.2.2.1, fun k hk => (h.2.2.2.1 k hk).trans (he k hk), fun k hk => by rw [← he k hk]; exact h.2.2.2.2 k hk⟩
theorem zand31 (x : Int) : 0 ≤ zand x 2147483647 ∧ zand x 2147483647 ≤ 2147483647 := by
  have hn : (Int32.ofInt x &&& Int32.ofInt 2147483647).toBitVec.toNat ≤ 2147483647 := by
    rw [Int32.toBitVec_and, BitVec.toNat_and]
    exact Nat.and_le_right
  have e : zand x 2147483647 = ((Int32.ofInt x &&& Int32.ofInt 2147483647).toBitVec.toNat : Int) := by
    show (Int32.ofInt x &&& Int32.ofInt 2147483647).toBitVec.toInt = _
    exact BitVec.toInt_eq_toNat_of_lt (by omega)
  rw [e]
  omega
/-- lots -/
def sdV (v : Int) : Int := w32 ((w32 (v * 1103515245)) + 12345)
def ltV (v : Int) : Int := w32 ((w32 ((w32 ((zand v 2147483647).tdiv 65536)).tmod 19)) - 9)
theorem ltV_bd (v : Int) : -9 ≤ ltV v ∧ ltV v ≤ 9 := by
  have h := zand31 v
  unfold ltV
  generalize zand v 2147483647 = z at h
  have e1 : z.tdiv 65536 = z / 65536 := tdiv_nn h.1
  have b1 : 0 ≤ z / 65536 ∧ z / 65536 ≤ 32767 := by omega
  rw [e1, w32_of (x := z / 65536) (by omega) (by omega)]
  generalize z / 65536 = y at b1
  have e2 : y.tmod 19 = y % 19 := tmod_nn b1.1
  have b2 : 0 ≤ y % 19 ∧ y % 19 ≤ 18 := by omega
  rw [e2]
  generalize y % 19 = u at b2
  rw [w32_of (x := u) (by omega) (by omega), w32_of (by omega) (by omega)]
  omega
def sdN (s : Int) : Nat → Int
  | 0 => s
  | j + 1 => sdV (sdN s j)
def lsd (z : Int) (N : Nat) : Nat → Int
  | 0 => z
  | l + 1 => sdN (lsd z N l) N
def ltF (s : Int) : tF := fun j => ltV (sdN s (j + 1))
theorem ltF_Bd (s : Int) (N : Nat) : Bd N (ltF s) := fun j _ => ltV_bd _
def lotW (K : tK) (z : Int) : Nat → Int
  | 0 => 0
  | l + 1 => lotW K z l + bi (0 < psum (downF K (nC K) (ltF (lsd z (nP K) l))) (nP K))
def lotO (K : tK) (z : Int) : Nat → Int
  | 0 => 0
  | l + 1 => lotO K z l + bi (bi (0 < psum (downF K (nC K) (ltF (lsd z (nP K) l))) (nP K)) ≠ bi (0 < psum (ltF (lsd z (nP K) l)) (nP K)))
theorem lot_bd (K : tK) (z : Int) : ∀ l, (0 ≤ lotW K z l ∧ lotW K z l ≤ l) ∧ (0 ≤ lotO K z l ∧ lotO K z l ≤ l) := by
  intro l
  induction l with
  | zero => exact ⟨⟨Int.le_refl _, Int.le_refl _⟩, ⟨Int.le_refl _, Int.le_refl _⟩⟩
  | succ l ih =>
    have h1 := bi_01 (0 < psum (downF K (nC K) (ltF (lsd z (nP K) l))) (nP K))
    have h2 := bi_01 (bi (0 < psum (downF K (nC K) (ltF (lsd z (nP K) l))) (nP K)) ≠ bi (0 < psum (ltF (lsd z (nP K) l)) (nP K)))
    unfold lotW lotO
    omega
theorem wrB_cases (wr v most : Int) : (wr = 0 ∧ ¬ (0 ≤ v ∧ v ≤ most) ∧ wrB wr v most = -2) ∨ (wr ≠ 0 ∧ wrB wr v most = wr) ∨ (wr = 0 ∧ (0 ≤ v ∧ v ≤ most) ∧ wrB wr v most = 0) := by
  unfold wrB
  by_cases h : wr = 0 ∧ ¬ (0 ≤ v ∧ v ≤ most)
  · rw [if_pos h]; left; exact ⟨h.1, h.2, rfl⟩
  · rw [if_neg h]; omega
theorem x_lots {d : Nat} {g : pG} {K : tK} {n z w : Int} (hd : 8 ≤ d) (hK : KOK K) (hu : SU g 1 K) : CT d mX7_lots [vR 0, vI n, vI z, vI w] g (QX g (aR (wrB (wrN n 1 20) w 1) (sel w (lotW K z n.toNat) (lotO K z n.toNat))) (wrB (wrN n 1 20) w 1)) := by
  refine ct_in (L := [vR 0, vI n, vI z, vI w, vX 2, vX 2, vX 2, vX 2, vX 2, vX 2]) (by omega) (Nat.le_of_ble_eq_true rfl) rfl (fun e he => ?_)
  have h7 := hK.1
  have h8 := hK.2.2.1
  have r1 := wrN_cases n 1 20
  have r2 := wrB_cases (wrN n 1 20) w 1
  have loop : ∀ g1 f v, PT g1 27 (nP K) f → xfr g g1 → wrB (wrN n 1 20) w 1 = 0 → (1 ≤ n ∧ n ≤ 20) → EV e mX7_lots (QX g (aR (wrB (wrN n 1 20) w 1) (sel w (lotW K z n.toNat) (lotO K z n.toNat))) (wrB (wrN n 1 20) w 1)) 63 [vR 0, vI n, vI z, vI w, vI v, vI z, vI 0, vI 0, vI 0, vX 2] [] g1 := by
    intro g1 f v hp1 hf1 hr0 hn
    obtain ⟨m, rfl⟩ := Int.eq_ofNat_of_zero_le (show 0 ≤ n by omega)
    rw [Int.toNat_natCast]
    have hm20 : m ≤ 20 := by omega
    have he5 : 5 ≤ e := by omega
    clear r1 r2 hn
    refine loopN (P := fun l g' => xfr g g' ∧ ∃ f, PT g' 27 (nP K) f) m (fun l g' => ∀ (v5 v6 v7 v8 : Int) (u : pV), v5 = lsd z (nP K) l → v6 = lotW K z l → v7 = lotO K z l → v8 = l → EV e mX7_lots _ 63 [vR 0, vI m, vI z, vI w, vI v, vI v5, vI v6, vI v7, vI v8, u] [] g') ?_ ?_ 0 g1 (Nat.zero_le _) ⟨hf1, f, hp1⟩ _ _ _ _ _ rfl rfl rfl rfl
    · rintro l g2 hl ⟨hf2, f2, hp2⟩ ih v5 v6 v7 v8 u rfl hv6 hv7 rfl
      have hb := lot_bd K z l
      have hl9 : (l : Int) < 2147483647 := by clear ih hv6 hv7 hb; omega
      have hll : ¬ (m : Int) ≤ (l : Int) := Int.not_le.mpr (Int.ofNat_lt.mpr hl)
      have b6 : 0 ≤ v6 ∧ v6 ≤ 20 := by clear ih hl9 hll; omega
      have b7 : 0 ≤ v7 ∧ v7 ≤ 20 := by clear ih hl9 hll; omega
      clear hb
      refine b_X7_lots_63 (fun c => absurd c hll) (fun c => ?_)
      clear c hll
      refine b_X7_lots_69 ?_
      generalize hS : lsd z (nP K) l = S at ih
      have hS1 : lsd z (nP K) (l + 1) = sdN S (nP K) := by rw [← hS]; rfl
      refine loopN (P := fun i g' => xfr g g' ∧ ∃ f, PT g' 27 (nP K) f ∧ ∀ j, j < i → f j = ltF S j) (nP K) (fun i g' => ∀ (v5 w9 : Int), v5 = sdN S i → w9 = i → EV e mX7_lots _ 72 [vR 0, vI m, vI z, vI w, vI v, vI v5, vI v6, vI v7, vI l, vI w9] [] g') ?_ ?_ 0 g2 (Nat.zero_le _) ⟨hf2, f2, hp2, fun j hj => absurd hj (Nat.not_lt_zero _)⟩ _ _ rfl rfl
      · rintro i g3 hi ⟨hf3, f3, hp3, he3⟩ ih2 v5 w9 rfl rfl
        have hil : ¬ (nP K : Int) ≤ (i : Int) := Int.not_le.mpr (Int.ofNat_lt.mpr hi)
        have hi9 : (i : Int) < 2147483647 := by clear ih ih2 hv6 hv7 hl9 hil; omega
        refine b_X7_lots_72 (fun c => absurd (by rw [hp3.1] at c; exact c) hil) (fun c => ?_)
        refine b_X7_lots_84 (s_put (Nat.le_trans (by decide) he5) pts_27 hp3 hi) (fun g4 hx => ?_)
        obtain ⟨hp4, hf4⟩ := hx
        have eh : held (ltV (sdV (sdN S i))) = ltF S i := held_id (ltV_bd _)
        refine b_X7_lots_121 (ih2 _ ⟨hf3.tr (hf4.x scr27), _, hp4, fun j hj => ?_⟩ _ _ rfl (w32n i hi9))
        by_cases ej : j = i
        · subst ej; rw [fup_self]; exact eh
        · rw [fup_ne _ _ ej]; exact he3 j (Nat.lt_of_le_of_ne (Nat.lt_succ_iff.mp hj) ej)
      · rintro g3 ⟨hf3, f3, hp3, he3⟩ v5 w9 rfl rfl
        have hp3 := hp3.to he3
        refine b_X7_lots_72 (fun c => ?_) (fun c => absurd (by rw [hp3.1]; exact Int.le_refl _) c)
        refine b_X7_lots_127 (s_isFor (Nat.le_trans (by decide) he5) pts_27 hp3) (fun x g4 hx => ?_)
        obtain ⟨hx0, rfl⟩ := hx
        refine b_X7_lots_134 (by rw [(hu.x hf3).1]; exact s_goDown (Nat.le_trans (by decide) he5) scr27 hK (hu.x hf3) hp3 (Nat.le_refl _)) (fun g5 hx => ?_)
        obtain ⟨hp5, hf5⟩ := hx
        have hx5 := hf3.tr (hf5.x scr27)
        have hs : CT e mX3_isFor [vR 27] g5 (qI (fun x g' => x = bi (0 < psum (downF K (nC K) (ltF S)) (nP K)) ∧ g' = g5)) := s_isFor (Nat.le_trans (by decide) he5) pts_27 hp5
        have hW : lotW K z (l + 1) = lotW K z l + bi (0 < psum (downF K (nC K) (ltF S)) (nP K)) := by rw [← hS]; rfl
        have hO : lotO K z (l + 1) = lotO K z l + bi (bi (0 < psum (downF K (nC K) (ltF S)) (nP K)) ≠ bi (0 < psum (ltF S) (nP K))) := by rw [← hS]; rfl
        generalize bi (0 < psum (ltF S) (nP K)) = A at hx0 hO
        subst hx0
        have h01 := bi_01 (0 < psum (downF K (nC K) (ltF S)) (nP K))
        generalize bi (0 < psum (downF K (nC K) (ltF S)) (nP K)) = B at hs hW hO h01
        have he1 : 1 ≤ e := Nat.le_trans (by decide) he5
        refine b_X7_lots_154 hs (fun x g6 hx => ?_)
        obtain ⟨rfl, rfl⟩ := hx
        refine b_X7_lots_163 (s_bit he1 h01) (fun x g6 hx => ?_)
        obtain ⟨rfl, rfl⟩ := hx
        have e6 : w32 (v6 + x) = lotW K z (l + 1) := by rw [hW, ← hv6, w32_of (by clear ih hl9 hW hO hv6 hv7; omega) (by clear ih hl9 hW hO hv6 hv7; omega)]
        refine b_X7_lots_166 hs (fun y g6 hx => ?_)
        obtain ⟨rfl, rfl⟩ := hx
        have e7 : ∀ q : Int, q = bi (y ≠ x) → w32 (v7 + q) = lotO K z (l + 1) := fun q hq => by
          have hq01 := bi_01 (y ≠ x)
          rw [hO, ← hv7, hq, w32_of (by clear ih hl9 hW hO hv6 hv7 e6; omega) (by clear ih hl9 hW hO hv6 hv7 e6; omega)]
        refine b_X7_lots_178 (fun c2 => ?_) (fun c2 => ?_)
        · refine b_X7_lots_187 (s_bit he1 (Or.inl rfl)) (fun x g6 hx => ?_)
          obtain ⟨rfl, rfl⟩ := hx
          exact b_X7_lots_191 (ih _ ⟨hx5, _, hp5⟩ _ _ _ _ _ hS1.symm e6 (e7 _ (bi_neg (fun z => z c2)).symm) (w32n l hl9))
        · refine b_X7_lots_183 (s_bit he1 (Or.inr rfl)) (fun x g6 hx => ?_)
          obtain ⟨rfl, rfl⟩ := hx
          exact b_X7_lots_191 (ih _ ⟨hx5, _, hp5⟩ _ _ _ _ _ hS1.symm e6 (e7 _ (bi_pos c2).symm) (w32n l hl9))
    · rintro g2 ⟨hf2, f2, hp2⟩ v5 v6 v7 v8 u hv5 hv6 hv7 rfl
      refine b_X7_lots_63 (fun c => ?_) (fun c => absurd (Int.le_refl _) c)
      refine b_X7_lots_200 (fun c => ?_) (fun c => ?_)
      · exact b_X7_lots_209 (rx_ok hr0 (aR_0 hr0 (sel1 c hv7.symm)) hf2)
      · exact b_X7_lots_204 (rx_ok hr0 (aR_0 hr0 (sel0 (Classical.not_not.mp c) hv6.symm)) hf2)
  refine b_X7_lots_0 (s_outside (by omega)) (fun x0 _ hx => ?_)
  obtain ⟨rfl, rfl⟩ := hx
  refine b_X7_lots_7 (fun c7 => ?_) (fun c7 => ?_)
  · refine b_X7_lots_21 (fun c21 => ?_) (fun c21 => ?_)
    · refine b_X7_lots_30 (s_refuse (by omega) ref2) (fun x3 _ hx => ?_)
      obtain ⟨rfl, rfl⟩ := hx
      refine b_X7_lots_36 ?_
      exact rx_no (by omega) (aR_n (by omega) (by omega))
    · refine b_X7_lots_25 (fun c25 => ?_) (fun c25 => ?_)
      · refine b_X7_lots_37 (s_think (by omega) scr27 hK hu) (fun g1 hx => ?_)
        obtain ⟨hp1, hf1⟩ := hx
        refine b_X7_lots_60 ?_
        exact loop _ _ _ hp1 (hf1.x scr27) (by omega) (by omega)
      · refine b_X7_lots_30 (s_refuse (by omega) ref2) (fun x4 _ hx => ?_)
        obtain ⟨rfl, rfl⟩ := hx
        refine b_X7_lots_36 ?_
        exact rx_no (by omega) (aR_n (by omega) (by omega))
  · refine b_X7_lots_14 (s_refuse (by omega) (refW c7)) (fun x2 _ hx => ?_)
    obtain ⟨rfl, rfl⟩ := hx
    refine b_X7_lots_20 ?_
    exact rx_no (by omega) (aR_n (by omega) (by omega))
theorem refB {v w : Int} (h : wrB (wrN v 1 20) w 1 ≠ 0) : isRef (wrB (wrN v 1 20) w 1) := by
  have h1 := wrN_cases v 1 20
  have h2 := wrB_cases (wrN v 1 20) w 1
  unfold isRef
  omega
theorem m_lots {d : Nat} {g : pG} {K : tK} {n z w : Int} (hd : 11 ≤ d) (hK : KOK K) (hu : SM g K) : CT d mX8_lots [vR 45, vI n, vI z, vI w] g (QM g (aR (wrB (wrN n 1 20) w 1) (sel w (lotW K z n.toNat) (lotO K z n.toNat))) (wrB (wrN n 1 20) w 1)) := by
  refine ct_in (L := [vR 45, vI n, vI z, vI w, vX 2, vX 2, vX 2, vX 2, vX 2, vX 2]) (by omega) (Nat.le_of_ble_eq_true rfl) rfl (fun e he => ?_)
  have h7 := hK.1
  have h8 := hK.2.2.1
  have r1 := wrN_cases n 1 20
  have r2 := wrB_cases (wrN n 1 20) w 1
  have loop : ∀ g1 v, mfr g g1 → wrB (wrN n 1 20) w 1 = 0 → (1 ≤ n ∧ n ≤ 20) → EV e mX8_lots (QM g (aR (wrB (wrN n 1 20) w 1) (sel w (lotW K z n.toNat) (lotO K z n.toNat))) (wrB (wrN n 1 20) w 1)) 43 [vR 45, vI n, vI z, vI w, vI v, vI z, vI 0, vI 0, vI 0, vX 2] [] g1 := by
    intro g1 v hf1 hr0 hn
    obtain ⟨m, rfl⟩ := Int.eq_ofNat_of_zero_le (show 0 ≤ n by omega)
    rw [Int.toNat_natCast]
    have hm20 : m ≤ 20 := by omega
    have he6 : 6 ≤ e := by omega
    clear r1 r2 hn
    refine loopN (P := fun l g' => mfr g g') m (fun l g' => ∀ (v5 v6 v7 v8 : Int) (u : pV), v5 = lsd z (nP K) l → v6 = lotW K z l → v7 = lotO K z l → v8 = l → EV e mX8_lots _ 43 [vR 45, vI m, vI z, vI w, vI v, vI v5, vI v6, vI v7, vI v8, u] [] g') ?_ ?_ 0 g1 (Nat.zero_le _) hf1 _ _ _ _ _ rfl rfl rfl rfl
    · rintro l g2 hl hf2 ih v5 v6 v7 v8 u rfl hv6 hv7 rfl
      have hb := lot_bd K z l
      have hl9 : (l : Int) < 2147483647 := by clear ih hv6 hv7 hb; omega
      have hll : ¬ (m : Int) ≤ (l : Int) := Int.not_le.mpr (Int.ofNat_lt.mpr hl)
      have b6 : 0 ≤ v6 ∧ v6 ≤ 20 := by clear ih hl9 hll; omega
      have b7 : 0 ≤ v7 ∧ v7 ≤ 20 := by clear ih hl9 hll; omega
      clear hb
      have hm4 := (hu.m hf2).2.2.1
      refine b_X8_lots_43 (fun c => absurd c hll) (fun c => ?_)
      clear c hll
      refine b_X8_lots_49 ?_
      generalize hS : lsd z (nP K) l = S at ih
      have hS1 : lsd z (nP K) (l + 1) = sdN S (nP K) := by rw [← hS]; rfl
      have hf9 : mfr g2 (cset g2 45 (fup (g2 45) 11 (g2 45 4))) := ⟨fun a ha => by rw [cset_ne _ _ (by omega)], fun j hj => by rw [cset_self, fup_ne _ _ (by omega)]⟩
      refine loopN (P := fun i g' => mfr g g' ∧ g' 45 11 = nP K ∧ ∀ j, j < i → g' 51 j = ltF S j) (nP K) (fun i g' => ∀ (v5 w9 : Int), v5 = sdN S i → w9 = i → EV e mX8_lots _ 60 [vR 45, vI m, vI z, vI w, vI v, vI v5, vI v6, vI v7, vI l, vI w9] [] g') ?_ ?_ 0 _ (Nat.zero_le _) ⟨hf2.tr hf9, by rw [cset_self, fup_self]; exact hm4, fun j hj => absurd hj (Nat.not_lt_zero _)⟩ _ _ rfl rfl
      · rintro i g3 hi ⟨hf3, hn3, he3⟩ ih2 v5 w9 rfl rfl
        have hil : ¬ (nP K : Int) ≤ (i : Int) := Int.not_le.mpr (Int.ofNat_lt.mpr hi)
        have hi9 : (i : Int) < 2147483647 := by clear ih ih2 hv6 hv7 hl9 hil; omega
        have i8 : (i : Int) < 8 := by clear ih ih2 hv6 hv7 hl9 hil hi9; omega
        refine b_X8_lots_60 (fun c => absurd (by rw [(hu.m hf3).2.2.1] at c; exact c) hil) (fun c => ?_)
        refine b_X8_lots_69 (Int.natCast_nonneg _) i8 ?_
        rw [Int.toNat_natCast]
        refine ih2 _ ⟨hf3.tr (mset _ (Or.inl rfl)), by rw [cset_ne _ _ (by decide)]; exact hn3, fun j hj => ?_⟩ _ _ rfl (w32n i hi9)
        rw [cset_self]
        by_cases ej : j = i
        · subst ej; rw [fup_self]; rfl
        · rw [fup_ne _ _ ej]; exact he3 j (Nat.lt_of_le_of_ne (Nat.lt_succ_iff.mp hj) ej)
      · rintro g3 ⟨hf3, hn3, he3⟩ v5 w9 rfl rfl
        have hp3 : NW g3 (nP K) (ltF S) := ⟨hn3, h8.1, h8.2, he3, ltF_Bd _ _⟩
        refine b_X8_lots_60 (fun c => ?_) (fun c => absurd (by rw [(hu.m hf3).2.2.1]; exact Int.le_refl _) c)
        refine b_X8_lots_110 (m_isFor (Nat.le_trans (by decide) he6) hp3) (fun x g4 hx => ?_)
        obtain ⟨hx0, rfl⟩ := hx
        refine b_X8_lots_114 (m_passAll0 he6 hK (hu.m hf3) hp3) (fun g5 hx => ?_)
        obtain ⟨hp5, hf5⟩ := hx
        have hx5 := hf3.tr hf5.m51
        have hs : CT e mX8_isFor [vR 45] g5 (qI (fun x g' => x = bi (0 < psum (downF K (nC K) (ltF S)) (nP K)) ∧ g' = g5)) := m_isFor (Nat.le_trans (by decide) he6) hp5
        have hW : lotW K z (l + 1) = lotW K z l + bi (0 < psum (downF K (nC K) (ltF S)) (nP K)) := by rw [← hS]; rfl
        have hO : lotO K z (l + 1) = lotO K z l + bi (bi (0 < psum (downF K (nC K) (ltF S)) (nP K)) ≠ bi (0 < psum (ltF S) (nP K))) := by rw [← hS]; rfl
        generalize bi (0 < psum (ltF S) (nP K)) = A at hx0 hO
        subst hx0
        have h01 := bi_01 (0 < psum (downF K (nC K) (ltF S)) (nP K))
        generalize bi (0 < psum (downF K (nC K) (ltF S)) (nP K)) = B at hs hW hO h01
        have e6 : ∀ q : Int, q = B → w32 (v6 + q) = lotW K z (l + 1) := fun q hq => by
          rw [hW, ← hv6, hq, w32_of (by clear ih hl9 hW hO hv6 hv7 hq; omega) (by clear ih hl9 hW hO hv6 hv7 hq; omega)]
        have e7 : ∀ q : Int, q = bi (B ≠ x) → w32 (v7 + q) = lotO K z (l + 1) := fun q hq => by
          have hq01 := bi_01 (B ≠ x)
          rw [hO, ← hv7, hq, w32_of (by clear ih hl9 hW hO hv6 hv7 hq e6; omega) (by clear ih hl9 hW hO hv6 hv7 hq e6; omega)]
        have fin : ∀ y : Int, y = lotW K z (l + 1) → EV e mX8_lots (QM g (aR (wrB (wrN m 1 20) w 1) (sel w (lotW K z m) (lotO K z m))) (wrB (wrN m 1 20) w 1)) 144 [vR 45, vI m, vI z, vI w, vI v, vI (sdN S (nP K)), vI y, vI v7, vI l, vI x] [vI B, vI v7] g5 := fun y hy => by
          refine b_X8_lots_144 (fun c2 => ?_) (fun c2 => ?_)
          · exact b_X8_lots_153 (ih _ hx5 _ _ _ _ _ hS1.symm hy (e7 _ (bi_pos c2).symm) (w32n l hl9))
          · exact b_X8_lots_149 (ih _ hx5 _ _ _ _ _ hS1.symm hy (e7 _ (bi_neg c2).symm) (w32n l hl9))
        refine b_X8_lots_121 hs (fun y g6 hx => ?_)
        obtain ⟨rfl, rfl⟩ := hx
        refine b_X8_lots_127 (fun c2 => ?_) (fun c2 => ?_)
        · refine b_X8_lots_134 hs (fun q g7 hx => ?_)
          obtain ⟨rfl, rfl⟩ := hx
          exact fin _ (e6 _ c2.symm)
        · refine b_X8_lots_130 hs (fun q g7 hx => ?_)
          obtain ⟨rfl, rfl⟩ := hx
          exact fin _ (e6 _ (h01.resolve_left c2).symm)
    · rintro g2 hf2 v5 v6 v7 v8 u hv5 hv6 hv7 rfl
      refine b_X8_lots_43 (fun c => ?_) (fun c => absurd (Int.le_refl _) c)
      refine b_X8_lots_163 (fun c => ?_) (fun c => ?_)
      · exact b_X8_lots_172 (rm_ok hr0 (aR_0 hr0 (sel1 c hv7.symm)) hf2)
      · exact b_X8_lots_167 (rm_ok hr0 (aR_0 hr0 (sel0 (Classical.not_not.mp c) hv6.symm)) hf2)
  refine b_X8_lots_0 (m_wrongNumber (by omega)) (fun x0 _ hx => ?_)
  obtain ⟨rfl, rfl⟩ := hx
  refine b_X8_lots_12 (m_wrongBit (by omega)) (fun x1 _ hx => ?_)
  obtain ⟨rfl, rfl⟩ := hx
  refine b_X8_lots_17 (fun c17 => ?_) (fun c17 => ?_)
  · refine b_X8_lots_31 ?_
    exact loop _ _ (thr g) (by omega) (by omega)
  · refine b_X8_lots_24 (m_refuse (by omega) (refB (by omega))) (fun x3 _ hx => ?_)
    obtain ⟨rfl, rfl⟩ := hx
    refine b_X8_lots_30 ?_
    exact rm_no (thr g) rfl (aR_n rfl (by omega))
