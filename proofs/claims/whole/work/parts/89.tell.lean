/-! what a STATEMENT does to a CASE; Letters.tellOne -/
def stm (sg : Nat → Int) (p : Nat) (K : tK) : Option tK :=
  if sg p = 99 then (if nC K < 7 ∧ (0 ≤ sg (p + 1) - 48 ∧ sg (p + 1) - 48 ≤ 5) ∧ (0 ≤ sg (p + 2) - 48 ∧ sg (p + 2) - 48 ≤ 9) ∧ (0 ≤ 10 * (sg (p + 3) - 48) + (sg (p + 4) - 48) ∧ 10 * (sg (p + 3) - 48) + (sg (p + 4) - 48) ≤ 99) then some (addK K (sg (p + 1) - 48) (sg (p + 2) - 48) (10 * (sg (p + 3) - 48) + (sg (p + 4) - 48))) else none)
  else if sg p = 110 then (if okChg 0 (sg (p + 1) - 48) then some (chgK K 0 (sg (p + 1) - 48)) else none)
  else if sg p = 112 then (if 0 ≤ sg (p + 1) - 48 ∧ sg (p + 1) - 48 < nP K then some (setPt K (sg (p + 1) - 48).toNat (held (if sg (p + 2) = 45 then -(sg (p + 3) - 48) else sg (p + 3) - 48))) else none)
  else if sg p = 115 then (if okChg 1 (100 * (sg (p + 1) - 48) + 10 * (sg (p + 2) - 48) + (sg (p + 3) - 48)) then some (chgK K 1 (100 * (sg (p + 1) - 48) + 10 * (sg (p + 2) - 48) + (sg (p + 3) - 48))) else none)
  else if sg p = 108 then (if okChg 2 (sg (p + 1) - 48) then some (chgK K 2 (sg (p + 1) - 48)) else none)
  else if sg p = 117 then (if 0 < nC K then some (dropK K) else none)
  else none
theorem sgN_bd {g : pG} {n : Nat} (hn : g 19 1 = (n : Int)) (hf : ∀ k, k < n → 0 ≤ g 20 k ∧ g 20 k ≤ 255) (i : Nat) : -1 ≤ sgN g i ∧ sgN g i ≤ 255 := sgn_bd (fun k hk => hf k (by omega)) _
theorem s_sgN {d t : Nat} {g : pG} (hn : g 19 1 ≤ 96) (hd : 1 ≤ d) : CT d mX2_sign [vR 19, vI (t : Int)] g (qI fun x g' => x = sgN g t ∧ g' = g) := s_sign hn hd
theorem s_dig {d t n : Nat} {g : pG} (hn : g 19 1 = (n : Int)) (h96 : n ≤ 96) (hf : ∀ k, k < n → 0 ≤ g 20 k ∧ g 20 k ≤ 255) (hd : 2 ≤ d) : CT d mX2_digit [vR 19, vI (t : Int)] g (qI fun x g' => x = sgN g t - 48 ∧ g' = g) := s_digit (by omega) (fun k hk => hf k (by omega)) hd
def TL (g : pG) (p : Nat) (K : tK) : Int → pG → Prop := fun x g' => (x = 0 ∧ stm (sgN g) p K = none ∧ g' = g) ∨ (x = 1 ∧ ∃ K', stm (sgN g) p K = some K' ∧ SU g' 7 K' ∧ frR 7 g g')
theorem TL_of {g : pG} {p : Nat} {K K' : tK} {c : Prop} [Decidable c] (hs : stm (sgN g) p K = if c then some K' else none) {x : Int} {g' : pG} (h : (x = 0 ∧ ¬ c ∧ g' = g) ∨ (x = 1 ∧ c ∧ SU g' 7 K' ∧ frR 7 g g')) : (x = 0 ∨ x = 1) ∧ TL g p K x g' := by
  rcases h with ⟨h1, h2, h3⟩ | ⟨h1, h2, h3, h4⟩
  · exact ⟨Or.inl h1, Or.inl ⟨h1, by rw [hs, if_neg h2], h3⟩⟩
  · exact ⟨Or.inr h1, Or.inr ⟨h1, K', by rw [hs, if_pos h2], h3, h4⟩⟩
theorem s_tellOne {d p n : Nat} {g : pG} {K : tK} (hd : 4 ≤ d) (hn : g 19 1 = (n : Int)) (h96 : n ≤ 96) (hf : ∀ k, k < n → 0 ≤ g 20 k ∧ g 20 k ≤ 255) (hp : p ≤ 96) (hu : SU g 7 K) (hK : KOK K) : CT d mX2_tellOne [vR 19, vI (p : Int), vR 7] g (qI (TL g p K)) := by
  refine ct_in (by omega) (Nat.le_of_ble_eq_true rfl) rfl (fun e he => ?_)
  have e1 : w32 ((p : Int) + 1) = ((p + 1 : Nat) : Int) := by rw [w32_of (by omega) (by omega)]; omega
  have e2 : w32 ((p : Int) + 2) = ((p + 2 : Nat) : Int) := by rw [w32_of (by omega) (by omega)]; omega
  have e3 : w32 ((p : Int) + 3) = ((p + 3 : Nat) : Int) := by rw [w32_of (by omega) (by omega)]; omega
  have e4 : w32 ((p : Int) + 4) = ((p + 4 : Nat) : Int) := by rw [w32_of (by omega) (by omega)]; omega
  have b1 := sgN_bd hn hf (p + 1)
  have b2 := sgN_bd hn hf (p + 2)
  have b3 := sgN_bd hn hf (p + 3)
  have b4 := sgN_bd hn hf (p + 4)
  refine b_X2_tellOne_0 (s_sgN (d := e) (by omega) (by omega)) (fun x g0 hx => ?_)
  obtain ⟨hx, hg⟩ := hx
  rw [hg]
  refine b_X2_tellOne_5 (fun ho => ?_) (fun ho => ?_) (fun ho => ?_) (fun ho => ?_) (fun ho => ?_) (fun ho => ?_) (fun ho => ?_)
  · have ho : sgN g p = 99 := hx.symm.trans ho
    refine b_X2_tellOne_96 (by rw [e1]; exact s_dig hn h96 hf (by omega)) (fun x1 g1 h1 => ?_)
    obtain ⟨h1, hg1⟩ := h1
    rw [hg1]
    refine b_X2_tellOne_104 (by rw [e2]; exact s_dig hn h96 hf (by omega)) (fun x2 g2 h2 => ?_)
    obtain ⟨h2, hg2⟩ := h2
    rw [hg2]
    refine b_X2_tellOne_111 (by rw [e3]; exact s_dig hn h96 hf (by omega)) (fun x3 g3 h3 => ?_)
    obtain ⟨h3, hg3⟩ := h3
    rw [hg3]
    refine b_X2_tellOne_120 (by rw [e4]; exact s_dig hn h96 hf (by omega)) (fun x4 g4 h4 => ?_)
    obtain ⟨h4, hg4⟩ := h4
    rw [hg4]
    have ew : w32 (w32 (10 * x3) + x4) = 10 * (sgN g (p + 3) - 48) + (sgN g (p + 4) - 48) := by
      rw [h3, h4, w32_of (x := 10 * (sgN g (p + 3) - 48)) (by omega) (by omega), w32_of (by omega) (by omega)]
    refine b_X2_tellOne_128 (by rw [ew, h1, h2]; exact s_addLowest (by omega) st_7 hu hK) (fun x5 g5 h5 => ?_)
    obtain ⟨h01, hT⟩ := TL_of (by unfold stm; rw [if_pos ho]) h5
    exact b_X2_tellOne_132 h01 ⟨_, rfl, hT⟩
  · have ho : sgN g p = 108 := hx.symm.trans ho
    refine b_X2_tellOne_223 (by rw [e1]; exact s_dig hn h96 hf (by omega)) (fun x1 g1 h1 => ?_)
    obtain ⟨h1, hg1⟩ := h1
    rw [hg1]
    refine b_X2_tellOne_232 (by rw [h1]; exact s_change (by omega) st_7 hu hK) (fun x5 g5 h5 => ?_)
    obtain ⟨h01, hT⟩ := TL_of (by unfold stm; rw [if_neg (by rw [ho]; decide), if_neg (by rw [ho]; decide), if_neg (by rw [ho]; decide), if_neg (by rw [ho]; decide), if_pos ho]) h5
    exact b_X2_tellOne_235 h01 ⟨_, rfl, hT⟩
  · have ho : sgN g p = 110 := hx.symm.trans ho
    refine b_X2_tellOne_133 (by rw [e1]; exact s_dig hn h96 hf (by omega)) (fun x1 g1 h1 => ?_)
    obtain ⟨h1, hg1⟩ := h1
    rw [hg1]
    refine b_X2_tellOne_142 (by rw [h1]; exact s_change (by omega) st_7 hu hK) (fun x5 g5 h5 => ?_)
    obtain ⟨h01, hT⟩ := TL_of (by unfold stm; rw [if_neg (by rw [ho]; decide), if_pos ho]) h5
    exact b_X2_tellOne_145 h01 ⟨_, rfl, hT⟩
  · have ho : sgN g p = 112 := hx.symm.trans ho
    refine b_X2_tellOne_146 (by rw [e1]; exact s_dig hn h96 hf (by omega)) (fun x1 g1 h1 => ?_)
    obtain ⟨h1, hg1⟩ := h1
    rw [hg1]
    refine b_X2_tellOne_154 (by rw [e2]; exact s_sgN (by omega) (by omega)) (fun x2 g2 h2 => ?_)
    obtain ⟨h2, hg2⟩ := h2
    rw [hg2]
    have fin : ∀ v : Int, v = (if sgN g (p + 2) = 45 then -(sgN g (p + 3) - 48) else sgN g (p + 3) - 48) → CT e mX5_changePoint [vR 7, vI x1, vI v] g (qI (fun x g' => (x = 0 ∨ x = 1) ∧ TL g p K x g')) := by
      intro v hv
      refine ct_mono (fun u gg hu2 => ?_) (s_changePoint (d := e) (p := x1) (v := v) (by omega) st_7 hu hK)
      obtain ⟨x, hx1, hx2⟩ := hu2
      refine ⟨x, hx1, ?_⟩
      rw [h1, hv] at hx2
      exact TL_of (by unfold stm; rw [if_neg (by rw [ho]; decide), if_neg (by rw [ho]; decide), if_pos ho]) hx2
    refine b_X2_tellOne_161 (fun c => ?_) (fun c => ?_)
    · refine b_X2_tellOne_177 (by rw [e3]; exact s_dig hn h96 hf (by omega)) (fun x3 g3 h3 => ?_)
      obtain ⟨h3, hg3⟩ := h3
      rw [hg3]
      refine b_X2_tellOne_184 (fin x3 (by rw [if_neg (by rw [← h2]; exact c)]; exact h3)) (fun x5 g5 h5 => ?_)
      exact b_X2_tellOne_187 h5.1 ⟨_, rfl, h5.2⟩
    · refine b_X2_tellOne_166 (by rw [e3]; exact s_dig hn h96 hf (by omega)) (fun x3 g3 h3 => ?_)
      obtain ⟨h3, hg3⟩ := h3
      rw [hg3]
      refine b_X2_tellOne_173 (fin _ (by rw [if_pos (by rw [← h2]; exact Classical.not_not.mp c), h3, w32_of (by omega) (by omega)])) (fun x5 g5 h5 => ?_)
      exact b_X2_tellOne_187 h5.1 ⟨_, rfl, h5.2⟩
  · have ho : sgN g p = 115 := hx.symm.trans ho
    refine b_X2_tellOne_188 (by rw [e1]; exact s_dig hn h96 hf (by omega)) (fun x1 g1 h1 => ?_)
    obtain ⟨h1, hg1⟩ := h1
    rw [hg1]
    refine b_X2_tellOne_199 (by rw [e2]; exact s_dig hn h96 hf (by omega)) (fun x2 g2 h2 => ?_)
    obtain ⟨h2, hg2⟩ := h2
    rw [hg2]
    refine b_X2_tellOne_209 (by rw [e3]; exact s_dig hn h96 hf (by omega)) (fun x3 g3 h3 => ?_)
    obtain ⟨h3, hg3⟩ := h3
    rw [hg3]
    have ew : w32 (w32 (w32 (100 * x1) + w32 (10 * x2)) + x3) = 100 * (sgN g (p + 1) - 48) + 10 * (sgN g (p + 2) - 48) + (sgN g (p + 3) - 48) := by
      rw [h1, h2, h3, w32_of (x := 100 * (sgN g (p + 1) - 48)) (by omega) (by omega), w32_of (x := 10 * (sgN g (p + 2) - 48)) (by omega) (by omega), w32_of (x := 100 * (sgN g (p + 1) - 48) + 10 * (sgN g (p + 2) - 48)) (by omega) (by omega), w32_of (by omega) (by omega)]
    refine b_X2_tellOne_218 (by rw [ew]; exact s_change (by omega) st_7 hu hK) (fun x5 g5 h5 => ?_)
    obtain ⟨h01, hT⟩ := TL_of (by unfold stm; rw [if_neg (by rw [ho]; decide), if_neg (by rw [ho]; decide), if_neg (by rw [ho]; decide), if_pos ho]) h5
    exact b_X2_tellOne_222 h01 ⟨_, rfl, hT⟩
  · have ho : sgN g p = 117 := hx.symm.trans ho
    refine b_X2_tellOne_236 (s_loseLowest (by omega) st_7 hu hK) (fun x5 g5 h5 => ?_)
    have h5' : (x5 = 0 ∧ ¬ 0 < nC K ∧ g5 = g) ∨ (x5 = 1 ∧ 0 < nC K ∧ SU g5 7 (dropK K) ∧ frR 7 g g5) := by
      rcases h5 with ⟨q1, q2, q3⟩ | q
      · exact Or.inl ⟨q1, by omega, q3⟩
      · exact Or.inr q
    obtain ⟨h01, hT⟩ := TL_of (by unfold stm; rw [if_neg (by rw [ho]; decide), if_neg (by rw [ho]; decide), if_neg (by rw [ho]; decide), if_neg (by rw [ho]; decide), if_neg (by rw [ho]; decide), if_pos ho]) h5'
    exact b_X2_tellOne_240 h01 ⟨_, rfl, hT⟩
  · obtain ⟨o1, o2, o3, o4, o5, o6⟩ := ho
    rw [hx] at o1 o2 o3 o4 o5 o6
    exact b_X2_tellOne_241 ⟨0, rfl, Or.inl ⟨rfl, by unfold stm; rw [if_neg o1, if_neg o3, if_neg o4, if_neg o5, if_neg o2, if_neg o6], rfl⟩⟩
