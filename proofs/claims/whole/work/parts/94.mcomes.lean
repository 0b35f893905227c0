/-! the reference: a STATEMENT comes to be -/
def MC (g g' : pG) : Prop := (∀ a, (a < 45 ∨ 49 < a) → g' a = g a) ∧ ∀ s, s ≠ 0 → s ≠ 4 → s ≠ 6 → s ≠ 7 → g' 45 s = g 45 s
theorem MC.rf {g : pG} : MC g g := ⟨fun _ _ => rfl, fun _ _ _ _ _ => rfl⟩
theorem MC.tr {g g1 g2 : pG} (h1 : MC g g1) (h2 : MC g1 g2) : MC g g2 := ⟨fun a ha => (h2.1 a ha).trans (h1.1 a ha), fun s a b c e => (h2.2 s a b c e).trans (h1.2 s a b c e)⟩
theorem MC.s45 {g : pG} {s : Nat} (v : Int) (hs : s = 0 ∨ s = 4 ∨ s = 6 ∨ s = 7) : MC g (cset g 45 (fup (g 45) s v)) := ⟨fun a ha => cset_ne _ _ (by omega), fun t a b c e => by rw [cset_self, fup_ne _ _ (by omega)]⟩
def MCo (sg : Nat → Int) (p : Nat) (K : tK) (g : pG) (x : Int) (g' : pG) : Prop := ((x = 0 ∧ stm sg p K = none) ∨ (x = 1 ∧ ∃ K', stm sg p K = some K' ∧ SM g' K')) ∧ MC g g'
theorem dgv2 (sg : Nat → Int) (a : Nat) : dgv sg a 2 = 10 * (sg a - 48) + (sg (a + 1) - 48) := by
  show 10 * dgv sg a 1 + (sg (a + 1) - 48) = _
  rw [dgv1]
theorem dgv3 (sg : Nat → Int) (a : Nat) : dgv sg a 3 = 100 * (sg a - 48) + 10 * (sg (a + 1) - 48) + (sg (a + 2) - 48) := by
  show 10 * dgv sg a 2 + (sg (a + 2) - 48) = _
  rw [dgv2]
  omega
theorem d3_bd {a b c : Int} (ha : 48 ≤ a ∧ a ≤ 57) (hb : 48 ≤ b ∧ b ≤ 57) (hc : 48 ≤ c ∧ c ≤ 57) : 0 ≤ 100 * (a - 48) + 10 * (b - 48) + (c - 48) ∧ 100 * (a - 48) + 10 * (b - 48) + (c - 48) ≤ 999 := by omega
theorem su48 {c : Int} (h : suF c 48) : 48 ≤ c ∧ c ≤ 57 := by
  unfold suF at h
  omega
theorem held_i9 {v : Int} (h : -9 ≤ v ∧ v ≤ 9) : held v = v := by
  unfold held
  repeat' split
  all_goals omega
theorem m_stmt {d i p : Nat} {sg : Nat → Int} {g : pG} {K : tK} (hd : 2 ≤ d) (hi : i ≤ 48) (hu : SM g K) (hK : KOK K) (h54 : g 54 i = sg p) (hok : okS sg p) (hT : TV sg p i (g 55)) : CT d mX8_comes [vR 45, vI (i : Int)] g (qI (MCo sg p K g)) := by
  refine ct_in (by omega) (Nat.le_of_ble_eq_true rfl) rfl (fun e he => ?_)
  have he1 : 1 ≤ e := by omega
  have h7 := hK.1
  have hu' := hu
  obtain ⟨m1, m2, m3, m4, m5, m6⟩ := hu'
  obtain ⟨T1, T2, T3, T4⟩ := hT
  have i9 : 3 * i ≤ 150 := by omega
  have n0 : 0 ≤ ((3 * i : Nat) : Int) ∧ ((3 * i : Nat) : Int) < 147 := by omega
  have n1 : 0 ≤ ((3 * i + 1 : Nat) : Int) ∧ ((3 * i + 1 : Nat) : Int) < 147 := by omega
  have n2 : 0 ≤ ((3 * i + 2 : Nat) : Int) ∧ ((3 * i + 2 : Nat) : Int) < 147 := by omega
  refine b_X8_comes_0 (by rw [w3k hi]; exact n0.1) (by rw [w3k hi]; exact n0.2) (by omega) (by omega) (fun ho => ?_) (fun ho => ?_) (fun ho => ?_) (fun ho => ?_) (fun ho => ?_) (fun ho => ?_)
  · -- c
    rw [Int.toNat_natCast, h54] at ho
    rw [w3k hi, Int.toNat_natCast, (T1 ho).1]
    have s1 := su48 (show suF (sg (p + 1)) 48 by have := hok.2 1; rw [ho] at this; exact this (by decide))
    have s2 := su48 (show suF (sg (p + 2)) 48 by have := hok.2 2; rw [ho] at this; exact this (by decide))
    have s3 := su48 (show suF (sg (p + 3)) 48 by have := hok.2 3; rw [ho] at this; exact this (by decide))
    have s4 := su48 (show suF (sg (p + 4)) 48 by have := hok.2 4; rw [ho] at this; exact this (by decide))
    have es : stm sg p K = if nC K < 7 ∧ (0 ≤ sg (p + 1) - 48 ∧ sg (p + 1) - 48 ≤ 5) ∧ (0 ≤ sg (p + 2) - 48 ∧ sg (p + 2) - 48 ≤ 9) ∧ (0 ≤ 10 * (sg (p + 3) - 48) + (sg (p + 4) - 48) ∧ 10 * (sg (p + 3) - 48) + (sg (p + 4) - 48) ≤ 99) then some (addK K (sg (p + 1) - 48) (sg (p + 2) - 48) (10 * (sg (p + 3) - 48) + (sg (p + 4) - 48))) else none := by
      unfold stm
      rw [if_pos ho]
    refine b_X8_comes_72 (fun c => ?_) (fun c => ?_)
    · rw [dgv1] at c
      exact b_X8_comes_91 ⟨0, rfl, Or.inl ⟨rfl, by rw [es, if_neg (by omega)]⟩, MC.rf⟩
    · rw [dgv1] at c
      refine b_X8_comes_78 (fun c2 => ?_) (fun c2 => ?_)
      · have c2 : 7 ≤ g 45 0 := c2
        rw [m1] at c2
        exact b_X8_comes_91 ⟨0, rfl, Or.inl ⟨rfl, by rw [es, if_neg (by omega)]⟩, MC.rf⟩
      · have c2 : ¬ 7 ≤ g 45 0 := c2
        rw [m1] at c2
        refine b_X8_comes_87 (by rw [(w3k1 i9).1]; exact n1.1) (by rw [(w3k1 i9).1]; exact n1.2) (by rw [(w3k1 i9).2]; exact n2.1) (by rw [(w3k1 i9).2]; exact n2.2) (by rw [(w3k1 i9).1, (w3k1 i9).2, Int.toNat_natCast, Int.toNat_natCast, (T1 ho).2.1, (T1 ho).2.2, dgv1, dgv1, dgv2]; exact m_courtComes he1 hu (by omega)) (fun g1 h1 => ?_)
        obtain ⟨u1, f1, f2⟩ := h1
        refine b_X8_comes_120 (Or.inr rfl) ⟨1, rfl, Or.inr ⟨rfl, _, by rw [es, if_pos (by omega)], u1⟩, fun a ha => f1 a (by omega), fun s a _ _ _ => f2 s a⟩
  · -- l
    rw [Int.toNat_natCast, h54] at ho
    rw [w3k hi, Int.toNat_natCast, T3 (Or.inr ho), dgv1]
    have s1 := su48 (show suF (sg (p + 1)) 48 by have := hok.2 1; rw [ho] at this; exact this (by decide))
    have es : stm sg p K = if okChg 2 (sg (p + 1) - 48) then some (chgK K 2 (sg (p + 1) - 48)) else none := by
      unfold stm
      rw [if_neg (by rw [ho]; decide), if_neg (by rw [ho]; decide), if_neg (by rw [ho]; decide), if_neg (by rw [ho]; decide), if_pos ho]
    have hM : MC g (cset g 45 (fup (g 45) 7 (sg (p + 1) - 48))) := MC.s45 _ (by decide)
    refine b_X8_comes_191 (fun c => ?_) (fun c => ?_)
    · exact b_X8_comes_206 ⟨0, rfl, Or.inl ⟨rfl, by rw [es, if_neg (fun z => by rcases z with z | z | z <;> omega)]⟩, hM⟩
    · refine b_X8_comes_202 ⟨1, rfl, Or.inr ⟨rfl, setLn K (sg (p + 1) - 48), by rw [es, if_pos (Or.inr (Or.inr ⟨rfl, by omega, by omega⟩))]; rfl, ?_⟩, hM⟩
      exact ⟨by rw [cset_self, fup_ne _ _ (by decide)]; exact m1, fun k hk => by rw [cset_ne _ _ (by decide), cset_ne _ _ (by decide), cset_ne _ _ (by decide)]; exact m2 k hk, by rw [cset_self, fup_ne _ _ (by decide)]; exact m3, fun k hk => by rw [cset_ne _ _ (by decide)]; exact m4 k hk, by rw [cset_self, fup_ne _ _ (by decide)]; exact m5, by rw [cset_self, fup_self]; rfl⟩
  · -- n
    rw [Int.toNat_natCast, h54] at ho
    rw [w3k hi, Int.toNat_natCast, T3 (Or.inl ho), dgv1]
    have s1 := su48 (show suF (sg (p + 1)) 48 by have := hok.2 1; rw [ho] at this; exact this (by decide))
    have es : stm sg p K = if okChg 0 (sg (p + 1) - 48) then some (chgK K 0 (sg (p + 1) - 48)) else none := by
      unfold stm
      rw [if_neg (by rw [ho]; decide), if_pos ho]
    refine b_X8_comes_123 (m_in he1) (fun x g1 h1 => ?_)
    obtain ⟨h1, hg1⟩ := h1
    rw [hg1]
    refine b_X8_comes_132 (fun c => ?_) (fun c => ?_)
    · rw [c] at h1
      have hb := bi_eq0 h1.symm
      rw [c]
      exact b_X8_comes_144 (Or.inl rfl) ⟨0, rfl, Or.inl ⟨rfl, by rw [es, if_neg (fun z => by rcases z with z | z | z <;> omega)]⟩, MC.rf⟩
    · have hb : 1 ≤ sg (p + 1) - 48 ∧ sg (p + 1) - 48 ≤ 8 := by
        rcases bi_cases (1 ≤ sg (p + 1) - 48 ∧ sg (p + 1) - 48 ≤ 8) with ⟨z, z2⟩ | ⟨z, z2⟩
        · exact z2
        · exact absurd (h1.trans z) c
      have hx : x = 1 := by rw [h1, bi_pos hb]
      obtain ⟨v, hv⟩ := Int.eq_ofNat_of_zero_le (show 0 ≤ sg (p + 1) - 48 by omega)
      have hv : sg (p + 1) - 48 = (v : Int) := hv
      rw [hv] at hb es ⊢
      refine b_X8_comes_139 (m_setMany he1 hu (by omega)) (fun g2 h2 => ?_)
      obtain ⟨u2, f1, f2⟩ := h2
      refine b_X8_comes_144 (Or.inr hx) ⟨x, rfl, Or.inr ⟨hx, setN K v, ?_, u2⟩, fun a ha => f1 a (by omega), fun s _ a _ _ => f2 s a⟩
      rw [es, if_pos (Or.inl ⟨rfl, hb⟩)]
      show some (setN K (v : Int).toNat) = _
      rw [Int.toNat_natCast]
  · -- p
    rw [Int.toNat_natCast, h54] at ho
    rw [w3k hi, Int.toNat_natCast, (T2 ho).1, dgv1]
    have s1 := su48 (show suF (sg (p + 1)) 48 by have := hok.2 1; rw [ho] at this; exact this (by decide))
    have s3 := su48 (show suF (sg (p + 3)) 48 by have := hok.2 3; rw [ho] at this; exact this (by decide))
    have es : stm sg p K = if 0 ≤ sg (p + 1) - 48 ∧ sg (p + 1) - 48 < nP K then some (setPt K (sg (p + 1) - 48).toNat (held (if sg (p + 2) = 45 then -(sg (p + 3) - 48) else sg (p + 3) - 48))) else none := by
      unfold stm
      rw [if_neg (by rw [ho]; decide), if_neg (by rw [ho]; decide), if_pos ho]
    have hh : held (if sg (p + 2) = 45 then -(sg (p + 3) - 48) else sg (p + 3) - 48) = (if sg (p + 2) = 45 then -(sg (p + 3) - 48) else sg (p + 3) - 48) := held_i9 (by split <;> omega)
    have e2 := (T2 ho).2
    rw [dgv1] at e2
    have hP8 := hK.2.2.1
    refine b_X8_comes_147 (fun c => ?_) (fun c => ?_)
    · have c : g 45 4 ≤ sg (p + 1) - 48 := c
      rw [m3] at c
      exact b_X8_comes_159 ⟨0, rfl, Or.inl ⟨rfl, by rw [es, if_neg (by omega)]⟩, MC.rf⟩
    · have c : ¬ g 45 4 ≤ sg (p + 1) - 48 := c
      rw [m3] at c
      refine b_X8_comes_155 (by rw [(w3k1 i9).1]; exact n1.1) (by rw [(w3k1 i9).1]; exact n1.2) (by omega) (by omega) ⟨1, rfl, Or.inr ⟨rfl, _, by rw [es, if_pos (by omega), hh], ?_⟩, fun a ha => cset_ne _ _ (by omega), fun s _ _ _ _ => by rw [cset_ne _ _ (by decide)]⟩
      rw [(w3k1 i9).1, Int.toNat_natCast, e2]
      exact ⟨by rw [cset_ne _ _ (by decide)]; exact m1, fun k hk => by rw [cset_ne _ _ (by decide), cset_ne _ _ (by decide), cset_ne _ _ (by decide)]; exact m2 k hk, by rw [cset_ne _ _ (by decide)]; exact m3, fun k hk => by
        rw [cset_self]
        show fup (g 49) _ _ k = fup (ptC K) _ _ k
        by_cases z : k = (sg (p + 1) - 48).toNat
        · rw [z, fup_self, fup_self]
        · rw [fup_ne _ _ z, fup_ne _ _ z]; exact m4 k hk, by rw [cset_ne _ _ (by decide)]; exact m5, by rw [cset_ne _ _ (by decide)]; exact m6⟩
  · -- s
    rw [Int.toNat_natCast, h54] at ho
    rw [w3k hi, Int.toNat_natCast, T4 ho, dgv3]
    have s1 := su48 (show suF (sg (p + 1)) 48 by have := hok.2 1; rw [ho] at this; exact this (by decide))
    have s2 := su48 (show suF (sg (p + 2)) 48 by have := hok.2 2; rw [ho] at this; exact this (by decide))
    have s3 := su48 (show suF (sg (p + 3)) 48 by have := hok.2 3; rw [ho] at this; exact this (by decide))
    have bd := d3_bd s1 s2 s3
    refine b_X8_comes_184 ⟨1, rfl, Or.inr ⟨rfl, setSk K (100 * (sg (p + 1) - 48) + 10 * (sg (p + 2) - 48) + (sg (p + 3) - 48)), ?_, ?_⟩, MC.s45 _ (by decide)⟩
    · unfold stm
      rw [if_neg (by rw [ho]; decide), if_neg (by rw [ho]; decide), if_neg (by rw [ho]; decide), if_pos ho, if_pos (Or.inr (Or.inl ⟨rfl, bd.1, bd.2⟩))]
      rfl
    · exact ⟨by rw [cset_self, fup_ne _ _ (by decide)]; exact m1, fun k hk => by rw [cset_ne _ _ (by decide), cset_ne _ _ (by decide), cset_ne _ _ (by decide)]; exact m2 k hk, by rw [cset_self, fup_ne _ _ (by decide)]; exact m3, fun k hk => by rw [cset_ne _ _ (by decide)]; exact m4 k hk, by rw [cset_self, fup_self]; rfl, by rw [cset_self, fup_ne _ _ (by decide)]; exact m6⟩
  · -- u
    rw [Int.toNat_natCast, h54] at ho
    obtain ⟨o1, o2, o3, o4, o5⟩ := ho
    have o6 : sg p = 117 := by
      have h1 := hok.1
      by_cases z : sg p = 117
      · exact z
      · unfold shp at h1
        rw [if_neg o1, if_neg o3, if_neg o4, if_neg o5, if_neg o2, if_neg z] at h1
        exact absurd h1 (by decide)
    have es : stm sg p K = if 0 < nC K then some (dropK K) else none := by
      unfold stm
      rw [if_neg o1, if_neg o3, if_neg o4, if_neg o5, if_neg o2, if_pos o6]
    refine b_X8_comes_208 (fun c => ?_) (fun c => ?_)
    · have c : g 45 0 ≤ 0 := c
      rw [m1] at c
      exact b_X8_comes_219 ⟨0, rfl, Or.inl ⟨rfl, by rw [es, if_neg (by omega)]⟩, MC.s45 _ (by decide)⟩
    · have c : ¬ g 45 0 ≤ 0 := c
      rw [m1] at c
      refine b_X8_comes_215 ⟨1, rfl, Or.inr ⟨rfl, dropK K, by rw [es, if_pos (by omega)], ?_⟩, MC.s45 _ (by decide)⟩
      refine ⟨?_, fun k hk => by rw [cset_ne _ _ (by decide), cset_ne _ _ (by decide), cset_ne _ _ (by decide)]; exact m2 k (Nat.lt_of_lt_of_le hk (Nat.sub_le _ _)), by rw [cset_self, fup_ne _ _ (by decide)]; exact m3, fun k hk => by rw [cset_ne _ _ (by decide)]; exact m4 k hk, by rw [cset_self, fup_ne _ _ (by decide)]; exact m5, by rw [cset_self, fup_ne _ _ (by decide)]; exact m6⟩
      rw [cset_self, fup_self]
      show w32 (g 45 0 - 1) = ((nC K - 1 : Nat) : Int)
      rw [m1, w32_of (by omega) (by omega)]
      omega
