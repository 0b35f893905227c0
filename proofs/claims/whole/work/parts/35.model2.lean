theorem m_bench {d N : Nat} {g : pG} {f : tF} {v : Int} (hd : 3 ≤ d) (hp : NW g N f) (hv : v = 0 ∨ v = 1) : CT d mX8_bench [vR 45, vI v] g (qV (fun g' => NW g' N (if v = 0 then fup f (psur f N) (-(f (psur f N))) else lessF N (psur f N) (fup f (psur f N) (-(f (psur f N))))) ∧ fr g g' 51)) := by
  refine ct_in (L := [vR 45, vI v, vX 2, vX 2]) (by omega) (Nat.le_of_ble_eq_true rfl) rfl (fun e he => ?_)
  have h8 := hp.2.2.1
  have h1 := hp.2.1
  have hs := psur_lt f N (by omega)
  have hr := hp.rd hs
  have hb := hp.bd hs
  have hp1 : NW (cset g 51 (fup (g 51) (psur f N) (-(f (psur f N))))) N (fup f (psur f N) (-(f (psur f N)))) := hp.put (neg_bd hb)
  refine b_X8_bench_0 (m_surest (by omega) hp) (fun x g0 hx => ?_)
  obtain ⟨rfl, rfl⟩ := hx
  have e0 : w32 (-(g0 51 (Int.toNat (psur f N : Int)))) = -(f (psur f N)) := by rw [Int.toNat_natCast, hr]; exact w9 (neg_bd hb)
  refine b_X8_bench_4 (by omega) (by omega) (fun c => ?_) (fun c => ?_)
  · rw [e0, Int.toNat_natCast, if_pos c]
    exact b_X8_bench_56 ⟨rfl, hp1, fr.set _⟩
  · rw [e0, Int.toNat_natCast, if_neg c]
    generalize hg1 : cset g0 51 (fup (g0 51) (psur f N) (-(f (psur f N)))) = g1 at hp1 ⊢
    have hf1 : fr g0 g1 51 := by rw [← hg1]; exact fr.set _
    generalize hf9 : fup f (psur f N) (-(f (psur f N))) = f1 at hp1 ⊢
    have hm := hp1.1
    refine b_X8_bench_22 (fun c => ?_) (fun c => ?_)
    · exact b_X8_bench_56 ⟨rfl, by unfold lessF; rw [if_pos (by omega)]; exact hp1, hf1⟩
    · have hlt := behF_lt (n := N) (s := psur f N) (by omega)
      have hrb := hp1.rd hlt
      have hbb := hp1.bd hlt
      have hb0 : (0 : Int) ≤ (behF N (psur f N) : Int) := Int.natCast_nonneg _
      have hb8 : (behF N (psur f N) : Int) < 8 := by omega
      have hN0 : g1 45 11 ≠ 0 := by omega
      have ei : w32 ((w32 ((psur f N : Int) + 1)).tmod (g1 45 11)) = (behF N (psur f N) : Int) := by
        rw [w32_of (x := (psur f N : Int) + 1) (by omega) (by omega), hm, tmod_nn (by omega)]
        rcases behF_cases N (psur f N) with ⟨a1, a2⟩ | ⟨a1, a2⟩
        · rw [a2, Int.emod_eq_of_lt (by omega) (by omega), w32_of (by omega) (by omega)]
          omega
        · rw [a2, show (psur f N : Int) + 1 = N by omega, Int.emod_self]
          rfl
      refine b_X8_bench_30 hN0 (by rw [ei]; exact hb0) (by rw [ei]; exact hb8) (by rw [ei, Int.toNat_natCast, hrb, w32_of (by omega) (by omega)]; exact m_held (by omega)) (fun x g2 hx => ?_)
      obtain ⟨rfl, rfl⟩ := hx
      rw [ei]
      refine b_X8_bench_55 hb0 hb8 ⟨rfl, ?_, ?_⟩
      · rw [Int.toNat_natCast]
        unfold lessF
        rw [if_neg (by omega)]
        exact hp1.put (held_bd _)
      · rw [Int.toNat_natCast]
        exact hf1.tr (fr.set _)
theorem m_act {d N : Nat} {g : pG} {f : tF} {kind fig : Int} (hd : 4 ≤ d) (hp : NW g N f) (hk : 0 ≤ kind ∧ kind ≤ 5) (hf : 0 ≤ fig ∧ fig ≤ 9) : CT d mX8_act [vR 45, vI kind, vI fig] g (qV (fun g' => NW g' N (actF N kind fig f) ∧ fr g g' 51)) := by
  refine ct_in (L := [vR 45, vI kind, vI fig, vX 2, vX 2]) (by omega) (Nat.le_of_ble_eq_true rfl) rfl (fun e he => ?_)
  have h8 := hp.2.2.1
  have h1 := hp.2.1
  have hs := psur_lt f N (by omega)
  have hr := hp.rd hs
  have hb := hp.bd hs
  rcases (show kind = 0 ∨ kind = 1 ∨ kind = 2 ∨ kind = 3 ∨ kind = 4 ∨ kind = 5 by omega) with rfl | rfl | rfl | rfl | rfl | rfl
  · refine b_X8_act_0 (m_surest (by omega) hp) (fun x0 _ hx => ?_)
    obtain ⟨rfl, rfl⟩ := hx
    refine b_X8_act_4 (fun c4 => ?_) (fun c4 => ?_) (fun c4 => ?_) (fun c4 => ?_) (fun c4 => ?_) (fun c4 => ?_)
    · exfalso
      omega
    · exfalso
      omega
    · exfalso
      omega
    · exfalso
      omega
    · exfalso
      omega
    · refine b_X8_act_179 (m_halve (by omega) hp) (fun g2 hx => ?_)
      obtain ⟨hp1, hf1⟩ := hx
      refine b_X8_act_183 ?_
      exact ⟨rfl, hp1, hf1⟩
  · refine b_X8_act_0 (m_surest (by omega) hp) (fun x0 _ hx => ?_)
    obtain ⟨rfl, rfl⟩ := hx
    refine b_X8_act_4 (fun c4 => ?_) (fun c4 => ?_) (fun c4 => ?_) (fun c4 => ?_) (fun c4 => ?_) (fun c4 => ?_)
    · refine b_X8_act_40 (m_bench (by omega) hp (Or.inl rfl)) (fun g2 hx => ?_)
      obtain ⟨hp1, hf1⟩ := hx
      refine b_X8_act_45 ?_
      exact ⟨rfl, hp1, hf1⟩
    · exfalso
      omega
    · exfalso
      omega
    · exfalso
      omega
    · exfalso
      omega
    · exfalso
      omega
  · refine b_X8_act_0 (m_surest (by omega) hp) (fun x0 _ hx => ?_)
    obtain ⟨rfl, rfl⟩ := hx
    refine b_X8_act_4 (fun c4 => ?_) (fun c4 => ?_) (fun c4 => ?_) (fun c4 => ?_) (fun c4 => ?_) (fun c4 => ?_)
    · exfalso
      omega
    · refine b_X8_act_48 (m_bench (by omega) hp (Or.inr rfl)) (fun g2 hx => ?_)
      obtain ⟨hp1, hf1⟩ := hx
      refine b_X8_act_53 ?_
      exact ⟨rfl, hp1, hf1⟩
    · exfalso
      omega
    · exfalso
      omega
    · exfalso
      omega
    · exfalso
      omega
  · have hbv := bringV_cases fig (f (psur f N))
    have hput : ∀ v : Int, bringV fig (f (psur f N)) = v → qV (fun g' => NW g' N (actF N 3 fig f) ∧ fr g g' 51) none (cset g 51 (fup (g 51) (psur f N) v)) := fun v hv => ⟨rfl, by show NW _ N (fup f (psur f N) (bringV fig (f (psur f N)))); rw [hv]; exact hp.put (by rw [← hv]; exact bring_bd hf hb), fr.set _⟩
    refine b_X8_act_0 (m_surest (by omega) hp) (fun x0 _ hx => ?_)
    obtain ⟨rfl, rfl⟩ := hx
    refine b_X8_act_4 (fun c4 => ?_) (fun c4 => ?_) (fun c4 => ?_) (fun c4 => ?_) (fun c4 => ?_) (fun c4 => ?_)
    · exfalso
      omega
    · exfalso
      omega
    · refine b_X8_act_56 (by omega) (by omega) (fun c56 => ?_) (fun c56 => ?_)
      · try simp (disch := omega) only [w32_of, Int.toNat_natCast, tn0, tn1, tn2] at c56 ⊢
        refine b_X8_act_74 (by omega) (by omega) (fun c74 => ?_) (fun c74 => ?_)
        · try simp (disch := omega) only [w32_of, Int.toNat_natCast, tn0, tn1, tn2] at c74 ⊢
          refine b_X8_act_88 (by omega) (by omega) ?_
          try simp (disch := omega) only [w32_of, Int.toNat_natCast, tn0, tn1, tn2]
          exact hput _ (by omega)
        · try simp (disch := omega) only [w32_of, Int.toNat_natCast, tn0, tn1, tn2] at c74 ⊢
          refine b_X8_act_83 (by omega) (by omega) ?_
          try simp (disch := omega) only [w32_of, Int.toNat_natCast, tn0, tn1, tn2]
          exact hput _ (by omega)
      · try simp (disch := omega) only [w32_of, Int.toNat_natCast, tn0, tn1, tn2] at c56 ⊢
        refine b_X8_act_70 (by omega) (by omega) ?_
        try simp (disch := omega) only [w32_of, Int.toNat_natCast, tn0, tn1, tn2]
        exact hput _ (by omega)
    · exfalso
      omega
    · exfalso
      omega
    · exfalso
      omega
  · refine b_X8_act_0 (m_surest (by omega) hp) (fun x g0 hx => ?_)
    obtain ⟨rfl, rfl⟩ := hx
    refine b_X8_act_4 (fun c => absurd c (by decide)) (fun c => absurd c (by decide)) (fun c => absurd c (by decide)) (fun c => ?_) (fun c => absurd c (by decide)) (fun c => absurd rfl c.2.2.2.1)
    refine b_X8_act_93 (m_halve (by omega) hp) (fun g1 hx => ?_)
    obtain ⟨hp1, hf1⟩ := hx
    refine b_X8_act_97 ?_
    generalize hf9 : fup f (psur f N) (half (f (psur f N))) = f1 at hp1
    have hR : actF N 4 fig f = nearF N (psur f N) f1 := by rw [← hf9]; rfl
    rw [hR]
    refine loopN (P := fun k g' => NW g' N (nearF k (psur f N) f1) ∧ fr g0 g' 51) N (fun k g' => ∀ w : Int, w = k → EV e mX8_act _ 100 [vR 45, vI 4, vI fig, vI (psur f N : Nat), vI w] [] g') ?_ ?_ 0 _ (Nat.zero_le _) ⟨by rw [near_0]; exact hp1, hf1⟩ _ rfl
    · rintro k g2 hk ⟨hp2, hf2⟩ ih w rfl
      have hm := hp2.1
      have hr2 := hp2.rd hk
      have hb2 := hp2.bd hk
      rw [near_k] at hr2 hb2
      have htw := toward_cases (f1 k)
      have hput : ∀ x : Int, ((k ≠ psur f N ∧ toward (f1 k) = x) ∨ ((k = psur f N ∨ f1 k = 0) ∧ x = f1 k)) → NW (cset g2 51 (fup (g2 51) k x)) N (nearF (k + 1) (psur f N) f1) ∧ fr g0 (cset g2 51 (fup (g2 51) k x)) 51 := by
        intro x hx
        refine ⟨?_, hf2.tr (fr.set _)⟩
        rcases hx with ⟨a1, a2⟩ | ⟨a1, a2⟩
        · rw [near_ne f1 a1, a2]
          exact hp2.put (by omega)
        · have e9 := hp2.put (s := k) (v := x) (by omega)
          rw [fup_id (f := nearF k (psur f N) f1) (by rw [near_k]; exact a2.symm)] at e9
          rw [near_eq f1 a1]
          exact e9
      refine b_X8_act_100 (fun c100 => ?_) (fun c100 => ?_)
      · exfalso
        try simp (disch := omega) only [w32_of, Int.toNat_natCast, tn0, tn1, tn2, hr2] at c100
        omega
      · try simp (disch := omega) only [w32_of, Int.toNat_natCast, tn0, tn1, tn2, hr2] at c100 ⊢
        refine b_X8_act_109 (by omega) (by omega) (fun c109 => ?_) (fun c109 => ?_)
        · try simp (disch := omega) only [w32_of, Int.toNat_natCast, tn0, tn1, tn2, hr2] at c109 ⊢
          refine b_X8_act_127 (by omega) (by omega) (fun c127 => ?_) (fun c127 => ?_)
          · try simp (disch := omega) only [w32_of, Int.toNat_natCast, tn0, tn1, tn2, hr2] at c127 ⊢
            refine b_X8_act_141 (by omega) (by omega) (fun c141 => ?_) (fun c141 => ?_)
            · try simp (disch := omega) only [w32_of, Int.toNat_natCast, tn0, tn1, tn2, hr2] at c141 ⊢
              refine b_X8_act_155 (by omega) (by omega) ?_
              try simp (disch := omega) only [w32_of, Int.toNat_natCast, tn0, tn1, tn2, hr2]
              exact ih _ (hput _ (by omega)) _ (by omega)
            · try simp (disch := omega) only [w32_of, Int.toNat_natCast, tn0, tn1, tn2, hr2] at c141 ⊢
              refine b_X8_act_151 (by omega) (by omega) ?_
              try simp (disch := omega) only [w32_of, Int.toNat_natCast, tn0, tn1, tn2, hr2]
              exact ih _ (hput _ (by omega)) _ (by omega)
          · try simp (disch := omega) only [w32_of, Int.toNat_natCast, tn0, tn1, tn2, hr2] at c127 ⊢
            refine b_X8_act_137 (by omega) (by omega) ?_
            try simp (disch := omega) only [w32_of, Int.toNat_natCast, tn0, tn1, tn2, hr2]
            exact ih _ (hput _ (by omega)) _ (by omega)
        · try simp (disch := omega) only [w32_of, Int.toNat_natCast, tn0, tn1, tn2, hr2] at c109 ⊢
          refine b_X8_act_123 (by omega) (by omega) ?_
          try simp (disch := omega) only [w32_of, Int.toNat_natCast, tn0, tn1, tn2, hr2]
          exact ih _ (hput _ (by omega)) _ (by omega)
    · rintro g2 ⟨hp2, hf2⟩ w rfl
      have hm := hp2.1
      refine b_X8_act_100 (fun c100 => ?_) (fun c100 => ?_)
      · refine b_X8_act_164 ?_
        exact ⟨rfl, hp2, hf2⟩
      · exfalso
        omega
  · refine b_X8_act_0 (m_surest (by omega) hp) (fun x0 _ hx => ?_)
    obtain ⟨rfl, rfl⟩ := hx
    refine b_X8_act_4 (fun c4 => ?_) (fun c4 => ?_) (fun c4 => ?_) (fun c4 => ?_) (fun c4 => ?_) (fun c4 => ?_)
    · exfalso
      omega
    · exfalso
      omega
    · exfalso
      omega
    · exfalso
      omega
    · refine b_X8_act_167 (m_bench (by omega) hp (Or.inr rfl)) (fun g2 hx => ?_)
      obtain ⟨hp1, hf1⟩ := hx
      refine b_X8_act_172 (m_halve (by omega) hp1) (fun g3 hx => ?_)
      obtain ⟨hp2, hf2⟩ := hx
      refine b_X8_act_176 ?_
      exact ⟨rfl, hp2, hf1.tr hf2⟩
    · exfalso
      omega
theorem m_sendsBack {d N : Nat} {g : pG} {f : tF} {K : tK} {k : Nat} (hd : 2 ≤ d) (hK : KOK K) (hu : SM g K) (hp : NW g N f) (hk : k < nC K) : CT d mX8_sendsBack [vR 45, vI k] g (qI (fun x g' => x = bi (kdC K k = 3 ∧ lnC K < pnz f N) ∧ g' = g)) := by
  refine ct_in (L := [vR 45, vI k]) (by omega) (Nat.le_of_ble_eq_true rfl) rfl (fun e he => ?_)
  have h7 := hK.1
  obtain ⟨e1, e2, e3⟩ := hu.2.1 k hk
  have hln := hu.2.2.2.2.2
  refine b_X8_sendsBack_0 (by omega) (by omega) (fun c0 => ?_) (fun c0 => ?_)
  · try simp (disch := omega) only [w32_of, Int.toNat_natCast, tn0, tn1, tn2] at c0 ⊢
    refine b_X8_sendsBack_25 ?_
    exact ⟨_, rfl, (bi_neg (by omega)).symm, rfl⟩
  · try simp (disch := omega) only [w32_of, Int.toNat_natCast, tn0, tn1, tn2] at c0 ⊢
    refine b_X8_sendsBack_10 (m_standing (by omega) hp) (fun x1 _ hx => ?_)
    obtain ⟨rfl, rfl⟩ := hx
    refine b_X8_sendsBack_14 (fun c14 => ?_) (fun c14 => ?_)
    · refine b_X8_sendsBack_25 ?_
      exact ⟨_, rfl, (bi_neg (by omega)).symm, rfl⟩
    · refine b_X8_sendsBack_21 ?_
      exact ⟨_, rfl, (bi_pos ⟨by omega, by omega⟩).symm, rfl⟩
theorem m_pass {d : Nat} {g : pG} {f : tF} {K : tK} {k : Nat} (hd : 5 ≤ d) (hK : KOK K) (hu : SM g K) (hp : NW g (nP K) f) (hk : k < nC K) : CT d mX8_pass [vR 45, vI k] g (qV (fun g' => NW g' (nP K) (passF K k f) ∧ fr g g' 51)) := by
  refine ct_in (L := [vR 45, vI k]) (by omega) (Nat.le_of_ble_eq_true rfl) rfl (fun e he => ?_)
  have h7 := hK.1
  obtain ⟨e1, e2, e3⟩ := hu.2.1 k hk
  obtain ⟨b1, b2, b3⟩ := hK.2.1 k hk
  refine b_X8_pass_0 (m_sendsBack (by omega) hK hu hp hk) (fun x g0 hx => ?_)
  obtain ⟨rfl, rfl⟩ := hx
  refine b_X8_pass_5 (fun c => ?_) (fun c => ?_)
  · have c1 := bi_ne0 c
    refine b_X8_pass_24 ⟨rfl, ?_, fr.rf⟩
    unfold passF hearF
    rw [if_pos c1]
    exact hp
  · have c1 := bi_eq0 (Classical.not_not.mp c)
    refine b_X8_pass_8 (by omega) (by omega) (by rw [Int.toNat_natCast, e1, e2]; exact m_act (by omega) hp b1 b2) (fun g1 hx => ?_)
    obtain ⟨hp1, hf1⟩ := hx
    refine b_X8_pass_24 ⟨rfl, ?_, hf1⟩
    unfold passF hearF
    rw [if_neg c1]
    exact hp1
/-- down through the first k courts, those of some bits asleep -/
def slpF (K : tK) (b : Int) : Nat → tF → tF
  | 0, f => f
  | k + 1, f => if zand (zshr b k) 1 = 1 then slpF K b k f else passF K k (slpF K b k f)
theorem Bd.slp {K : tK} {f : tF} {b : Int} (hK : KOK K) (h : Bd (nP K) f) : ∀ k, k ≤ nC K → Bd (nP K) (slpF K b k f) := by
  intro k
  induction k with
  | zero => intro _; exact h
  | succ k ih =>
    intro hk
    unfold slpF
    split
    · exact ih (by omega)
    · exact Bd.pass hK (by omega) (ih (by omega))
theorem m_passAll {d : Nat} {g : pG} {f : tF} {K : tK} {b : Int} (hd : 6 ≤ d) (hK : KOK K) (hu : SM g K) (hp : NW g (nP K) f) : CT d mX8_passAll [vR 45, vI b] g (qV (fun g' => NW g' (nP K) (slpF K b (nC K) f) ∧ fr g g' 51)) := by
  refine ct_in (L := [vR 45, vI b, vX 2]) (by omega) (Nat.le_of_ble_eq_true rfl) rfl (fun e he => ?_)
  have h7 := hK.1
  refine b_X8_passAll_0 ?_
  refine loopN (P := fun k g' => NW g' (nP K) (slpF K b k f) ∧ fr g g' 51) (nC K) (fun k g' => ∀ w : Int, w = k → EV e mX8_passAll _ 2 [vR 45, vI b, vI w] [] g') ?_ ?_ 0 g (Nat.zero_le _) ⟨hp, fr.rf⟩ _ rfl
  · rintro k g1 hk ⟨hp1, hf1⟩ ih w rfl
    have hu1 := hu.frm hf1.toT
    have hm1 := hu1.1
    refine b_X8_passAll_2 (fun c => absurd c (by omega)) (fun c => ?_)
    refine b_X8_passAll_10 (m_hasBit (by omega)) (fun x g2 hx => ?_)
    obtain ⟨rfl, rfl⟩ := hx
    refine b_X8_passAll_15 (fun c => ?_) (fun c => ?_)
    · refine b_X8_passAll_23 ?_
      rw [w32n k (by omega)]
      refine ih _ ⟨?_, hf1⟩ _ rfl
      unfold slpF
      rw [if_pos (bi_ne0 c)]
      exact hp1
    · refine b_X8_passAll_18 (m_pass (by omega) hK hu1 hp1 hk) (fun g3 hx => ?_)
      obtain ⟨hp2, hf2⟩ := hx
      refine b_X8_passAll_23 ?_
      rw [w32n k (by omega)]
      refine ih _ ⟨?_, hf1.tr hf2⟩ _ rfl
      unfold slpF
      rw [if_neg (bi_eq0 (Classical.not_not.mp c))]
      exact hp2
  · rintro g1 ⟨hp1, hf1⟩ w rfl
    have hu1 := hu.frm hf1.toT
    have hm1 := hu1.1
    refine b_X8_passAll_2 (fun c => ?_) (fun c => absurd (by omega) c)
    exact b_X8_passAll_29 ⟨rfl, hp1, hf1⟩
theorem zshr0 (k : Nat) : zand (zshr 0 k) 1 = 0 := by
  have h : zshr 0 k = 0 := by
    unfold zshr
    show (Int32.ofInt 0 >>> (Int32.ofInt (k : Int) &&& 31)).toInt = 0
    rw [show Int32.ofInt 0 = 0 from rfl, Int32.zero_shiftRight]
    rfl
  rw [h]
  decide
theorem slp0 {K : tK} {f : tF} : ∀ k, slpF K 0 k f = downF K k f := by
  intro k
  induction k with
  | zero => rfl
  | succ k ih =>
    unfold slpF downF
    rw [zshr0, if_neg (by decide), ih]
theorem m_passAll0 {d : Nat} {g : pG} {f : tF} {K : tK} (hd : 6 ≤ d) (hK : KOK K) (hu : SM g K) (hp : NW g (nP K) f) : CT d mX8_passAll [vR 45, vI 0] g (qV (fun g' => NW g' (nP K) (downF K (nC K) f) ∧ fr g g' 51)) := by
  have h := m_passAll (b := 0) hd hK hu hp
  rw [slp0] at h
  exact h
/-- SUM behind all courts -/
def sumAll (K : tK) : Int := psum (downF K (nC K) (ptC K)) (nP K)
theorem m_sumAll {d : Nat} {g : pG} {K : tK} (hd : 7 ≤ d) (hK : KOK K) (hu : SM g K) : CT d mX8_sumBehindAll [vR 45] g (qI (fun x g' => x = sumAll K ∧ frT g g')) := by
  refine ct_in (L := [vR 45]) (by omega) (Nat.le_of_ble_eq_true rfl) rfl (fun e he => ?_)
  refine b_X8_sumBehindAll_0 (m_think (by omega) hK hu) (fun g1 hx => ?_)
  obtain ⟨hp1, h81, hf1⟩ := hx
  refine b_X8_sumBehindAll_4 (m_passAll0 (by omega) hK (hu.frm hf1) hp1) (fun g2 hx => ?_)
  obtain ⟨hp2, hf2⟩ := hx
  refine b_X8_sumBehindAll_9 (m_sumNow (by omega) hp2) (fun x2 _ hx => ?_)
  obtain ⟨rfl, rfl⟩ := hx
  refine b_X8_sumBehindAll_13 ?_
  exact ⟨_, rfl, rfl, hf1.tr hf2.toT⟩
