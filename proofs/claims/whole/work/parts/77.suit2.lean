theorem s_addLowest {d s : Nat} {g : pG} {K : tK} {kind fig cost : Int} (hd : 2 ≤ d) (hs : isSt s) (hu : SU g s K) (hK : KOK K) : CT d mX5_addLowest [vR s, vI kind, vI fig, vI cost] g (qI (fun x g' => (x = 0 ∧ ¬ (nC K < 7 ∧ (0 ≤ kind ∧ kind ≤ 5) ∧ (0 ≤ fig ∧ fig ≤ 9) ∧ (0 ≤ cost ∧ cost ≤ 99)) ∧ g' = g) ∨ (x = 1 ∧ (nC K < 7 ∧ (0 ≤ kind ∧ kind ≤ 5) ∧ (0 ≤ fig ∧ fig ≤ 9) ∧ (0 ≤ cost ∧ cost ≤ 99)) ∧ SU g' s (addK K kind fig cost) ∧ frR s g g'))) := by
  refine ct_in (L := [vR s, vI kind, vI fig, vI cost]) (by omega) (Nat.le_of_ble_eq_true rfl) rfl (fun e he => ?_)
  obtain ⟨u1, u2, u3, u4, u5, u6⟩ := hu
  have r1 := wrN_cases fig 0 9
  have r2 := wrN_cases cost 0 99
  have b1 := bi_cases (0 ≤ kind ∧ kind ≤ 5)
  have no : ¬ (nC K < 7 ∧ (0 ≤ kind ∧ kind ≤ 5) ∧ (0 ≤ fig ∧ fig ≤ 9) ∧ (0 ≤ cost ∧ cost ≤ 99)) → qI (fun x g' => (x = 0 ∧ ¬ (nC K < 7 ∧ (0 ≤ kind ∧ kind ≤ 5) ∧ (0 ≤ fig ∧ fig ≤ 9) ∧ (0 ≤ cost ∧ cost ≤ 99)) ∧ g' = g) ∨ (x = 1 ∧ (nC K < 7 ∧ (0 ≤ kind ∧ kind ≤ 5) ∧ (0 ≤ fig ∧ fig ≤ 9) ∧ (0 ≤ cost ∧ cost ≤ 99)) ∧ SU g' s (addK K kind fig cost) ∧ frR s g g')) (some (vI 0)) g := fun h => ⟨0, rfl, Or.inl ⟨rfl, h, rfl⟩⟩
  refine b_X5_addLowest_0 hs (fun c => b_X5_addLowest_16 hs (no (by omega))) (fun c => ?_)
  refine b_X5_addLowest_9 hs (s_isKind (by omega)) (fun x g0 hx => ?_)
  obtain ⟨rfl, rfl⟩ := hx
  refine b_X5_addLowest_13 hs (fun c2 => ?_) (fun c2 => b_X5_addLowest_16 hs (no (by omega)))
  refine b_X5_addLowest_18 hs (s_outside (by omega)) (fun x g0 hx => ?_)
  obtain ⟨rfl, rfl⟩ := hx
  refine b_X5_addLowest_25 hs (fun c3 => b_X5_addLowest_38 hs (no (by omega))) (fun c3 => ?_)
  refine b_X5_addLowest_28 hs (s_outside (by omega)) (fun x g0 hx => ?_)
  obtain ⟨rfl, rfl⟩ := hx
  refine b_X5_addLowest_35 hs (fun c4 => ?_) (fun c4 => b_X5_addLowest_38 hs (no (by omega)))
  have hall : nC K < 7 ∧ (0 ≤ kind ∧ kind ≤ 5) ∧ (0 ≤ fig ∧ fig ≤ 9) ∧ (0 ≤ cost ∧ cost ≤ 99) := by omega
  clear no r1 r2 b1 c c2 c3 c4
  have n0 : (0 : Int) ≤ (nC K : Int) := Int.natCast_nonneg _
  have n7 : (nC K : Int) < 7 := by omega
  have x1 : (cset g0 (s + 1) (fup (g0 (s + 1)) (nC K) kind)) s = g0 s := cset_ne _ _ (by omega)
  have x2 : ∀ f : tF, (cset (cset g0 (s + 1) (fup (g0 (s + 1)) (nC K) kind)) (s + 2) f) s = g0 s := fun f => by rw [cset_ne _ _ (by omega)]; exact x1
  have x3 : ∀ f f2 : tF, (cset (cset (cset g0 (s + 1) (fup (g0 (s + 1)) (nC K) kind)) (s + 2) f) (s + 3) f2) s = g0 s := fun f f2 => by rw [cset_ne _ _ (by omega)]; exact x2 f
  have y2 : (cset g0 (s + 1) (fup (g0 (s + 1)) (nC K) kind)) (s + 2) = g0 (s + 2) := cset_ne _ _ (by omega)
  have y3 : ∀ f : tF, (cset (cset g0 (s + 1) (fup (g0 (s + 1)) (nC K) kind)) (s + 2) f) (s + 3) = g0 (s + 3) := fun f => by rw [cset_ne _ _ (by omega), cset_ne _ _ (by omega)]
  refine b_X5_addLowest_40 hs (by rw [u1]; exact n0) (by rw [u1]; exact n7) (by rw [u1, Int.toNat_natCast, x1, u1]; exact n0) (by rw [u1, Int.toNat_natCast, x1, u1]; exact n7) (by rw [u1, Int.toNat_natCast, x2, u1]; exact n0) (by rw [u1, Int.toNat_natCast, x2, u1]; exact n7) ?_
  rw [u1, Int.toNat_natCast, x1, u1, Int.toNat_natCast, x2, u1, Int.toNat_natCast, x3, u1, y2, y3, w32n (nC K) (by omega)]
  refine ⟨_, rfl, Or.inr ⟨rfl, hall, ⟨?_, fun k hk => ?_, ?_, fun k hk => ?_, ?_, ?_⟩, fun a ha => ?_⟩⟩
  · rw [cset_self, fup_self]; rfl
  · rw [cset_ne _ _ (by omega), cset_ne _ _ (by omega), cset_ne _ _ (by omega), cset_self, cset_ne _ _ (by omega), cset_ne _ _ (by omega), cset_self, cset_ne _ _ (by omega), cset_self]
    show _ = fup (kdC K) (nC K) kind k ∧ _ = fup (fgC K) (nC K) fig k ∧ _ = fup (csC K) (nC K) cost k
    have hk : k < nC K + 1 := hk
    by_cases e : k = nC K
    · rw [e, fup_self, fup_self, fup_self, fup_self, fup_self, fup_self]; exact ⟨rfl, rfl, rfl⟩
    · rw [fup_ne _ _ e, fup_ne _ _ e, fup_ne _ _ e, fup_ne _ _ e, fup_ne _ _ e, fup_ne _ _ e]
      exact u2 k (by omega)
  · rw [cset_ne _ _ (by omega), cset_ne _ _ (by omega), cset_ne _ _ (by omega), cset_ne _ _ (by omega)]; exact u3
  · rw [cset_ne _ _ (by omega), cset_ne _ _ (by omega), cset_ne _ _ (by omega), cset_ne _ _ (by omega)]; exact u4 k hk
  · rw [cset_self, fup_ne _ _ (by decide)]; exact u5
  · rw [cset_self, fup_ne _ _ (by decide)]; exact u6
  · rw [cset_ne _ _ (by omega), cset_ne _ _ (by omega), cset_ne _ _ (by omega), cset_ne _ _ (by omega)]
theorem s_loseLowest {d s : Nat} {g : pG} {K : tK} (hd : 1 ≤ d) (hs : isSt s) (hu : SU g s K) (hK : KOK K) : CT d mX5_loseLowest [vR s] g (qI (fun x g' => (x = 0 ∧ nC K = 0 ∧ g' = g) ∨ (x = 1 ∧ 0 < nC K ∧ SU g' s (dropK K) ∧ frR s g g'))) := by
  refine ct_in (L := [vR s]) (by omega) (Nat.le_of_ble_eq_true rfl) rfl (fun e he => ?_)
  obtain ⟨u1, u2, u3, u4, u5, u6⟩ := hu
  have h7 := hK.1
  refine b_X5_loseLowest_0 hs (fun c => ?_) (fun c => b_X5_loseLowest_7 hs ⟨_, rfl, Or.inl ⟨rfl, by omega, rfl⟩⟩)
  refine b_X5_loseLowest_9 hs ⟨_, rfl, Or.inr ⟨rfl, by omega, ⟨?_, fun k hk => ?_, ?_, fun k hk => ?_, ?_, ?_⟩, frR.st _ (by omega)⟩⟩
  · rw [cset_self, fup_self, u1, w32_of (by omega) (by omega)]
    show (nC K : Int) - 1 = ((nC K - 1 : Nat) : Int)
    omega
  · rw [cset_ne _ _ (by omega), cset_ne _ _ (by omega), cset_ne _ _ (by omega)]
    exact u2 k (by have hk : k < nC K - 1 := hk; omega)
  · rw [cset_ne _ _ (by omega)]; exact u3
  · rw [cset_ne _ _ (by omega)]; exact u4 k hk
  · rw [cset_self, fup_ne _ _ (by decide)]; exact u5
  · rw [cset_self, fup_ne _ _ (by decide)]; exact u6
theorem s_change {d s : Nat} {g : pG} {K : tK} {w v : Int} (hd : 2 ≤ d) (hs : isSt s) (hu : SU g s K) (hK : KOK K) : CT d mX5_change [vR s, vI w, vI v] g (qI (fun x g' => (x = 0 ∧ ¬ okChg w v ∧ g' = g) ∨ (x = 1 ∧ okChg w v ∧ SU g' s (chgK K w v) ∧ frR s g g'))) := by
  refine ct_in (L := [vR s, vI w, vI v]) (by omega) (Nat.le_of_ble_eq_true rfl) rfl (fun e he => ?_)
  obtain ⟨u1, u2, u3, u4, u5, u6⟩ := hu
  have r1 := wrN_cases v 1 8
  have r2 := wrN_cases v 0 999
  have r3 := wrN_cases v 0 8
  have no : ¬ okChg w v → qI (fun x g' => (x = 0 ∧ ¬ okChg w v ∧ g' = g) ∨ (x = 1 ∧ okChg w v ∧ SU g' s (chgK K w v) ∧ frR s g g')) (some (vI 0)) g := fun h => ⟨0, rfl, Or.inl ⟨rfl, h, rfl⟩⟩
  refine b_X5_change_0 hs (fun c => ?_) (fun c => ?_) (fun c => ?_) (fun c => ?_)
  · subst c
    refine b_X5_change_28 hs (s_outside (by omega)) (fun x g0 hx => ?_)
    obtain ⟨rfl, rfl⟩ := hx
    refine b_X5_change_35 hs (fun c2 => ?_) (fun c2 => b_X5_change_38 hs (no (by unfold okChg; clear r2; omega)))
    obtain ⟨n, rfl⟩ := Int.eq_ofNat_of_zero_le (show 0 ≤ v by clear r2; omega)
    have hn : 1 ≤ n ∧ n ≤ 8 := by clear r2 r3 no; omega
    refine b_X5_change_40 hs (s_resize (by omega) (st_pts hs) hn) (fun g1 hx => ?_)
    obtain ⟨z1, z2, z3, zf⟩ := hx
    have hc : okChg 0 (n : Int) := Or.inl ⟨rfl, by omega, by omega⟩
    have eN : chgK K 0 (n : Int) = setN K n := by show setN K (n : Int).toNat = _; rw [Int.toNat_natCast]
    refine b_X5_change_48 hs ⟨_, rfl, Or.inr ⟨rfl, hc, ?_, fun a ha => zf a (by omega) (by omega)⟩⟩
    rw [eN]
    have zs : g1 s = g0 s := zf s (by omega) (by omega)
    refine ⟨by rw [zs]; exact u1, fun k hk => ?_, z1, fun k hk => ?_, by rw [zs]; exact u5, by rw [zs]; exact u6⟩
    · rw [zf (s + 1) (by omega) (by omega), zf (s + 2) (by omega) (by omega), zf (s + 3) (by omega) (by omega)]; exact u2 k hk
    · show _ = (if k < n then ptC K k else 0)
      by_cases e : k < n
      · rw [if_pos e]; exact (z2 k e).trans (u4 k hk)
      · rw [if_neg e]; exact z3 k (by omega) hk
  · subst c
    refine b_X5_change_50 hs (s_outside (by omega)) (fun x g0 hx => ?_)
    obtain ⟨rfl, rfl⟩ := hx
    refine b_X5_change_58 hs (fun c2 => ?_) (fun c2 => b_X5_change_61 hs (no (by unfold okChg; omega)))
    have hc : okChg 1 v := Or.inr (Or.inl ⟨rfl, by omega, by omega⟩)
    refine b_X5_change_63 hs ⟨_, rfl, Or.inr ⟨rfl, hc, ⟨?_, fun k hk => ?_, ?_, fun k hk => ?_, ?_, ?_⟩, frR.st _ (by omega)⟩⟩
    · rw [cset_self, fup_ne _ _ (by decide)]; exact u1
    · rw [cset_ne _ _ (by omega), cset_ne _ _ (by omega), cset_ne _ _ (by omega)]; exact u2 k hk
    · rw [cset_ne _ _ (by omega)]; exact u3
    · rw [cset_ne _ _ (by omega)]; exact u4 k hk
    · rw [cset_self, fup_self]; rfl
    · rw [cset_self, fup_ne _ _ (by decide)]; exact u6
  · subst c
    refine b_X5_change_70 hs (s_outside (by omega)) (fun x g0 hx => ?_)
    obtain ⟨rfl, rfl⟩ := hx
    refine b_X5_change_77 hs (fun c2 => ?_) (fun c2 => b_X5_change_80 hs (no (by unfold okChg; clear r2; omega)))
    have hc : okChg 2 v := Or.inr (Or.inr ⟨rfl, by clear r2; omega, by clear r2; omega⟩)
    refine b_X5_change_82 hs ⟨_, rfl, Or.inr ⟨rfl, hc, ⟨?_, fun k hk => ?_, ?_, fun k hk => ?_, ?_, ?_⟩, frR.st _ (by omega)⟩⟩
    · rw [cset_self, fup_ne _ _ (by decide)]; exact u1
    · rw [cset_ne _ _ (by omega), cset_ne _ _ (by omega), cset_ne _ _ (by omega)]; exact u2 k hk
    · rw [cset_ne _ _ (by omega)]; exact u3
    · rw [cset_ne _ _ (by omega)]; exact u4 k hk
    · rw [cset_self, fup_ne _ _ (by decide)]; exact u5
    · rw [cset_self, fup_self]; rfl
  · exact b_X5_change_89 hs (no (by unfold okChg; omega))
theorem s_changePoint {d s : Nat} {g : pG} {K : tK} {p v : Int} (hd : 3 ≤ d) (hs : isSt s) (hu : SU g s K) (hK : KOK K) : CT d mX5_changePoint [vR s, vI p, vI v] g (qI (fun x g' => (x = 0 ∧ ¬ (0 ≤ p ∧ p < nP K) ∧ g' = g) ∨ (x = 1 ∧ (0 ≤ p ∧ p < nP K) ∧ SU g' s (setPt K p.toNat (held v)) ∧ frR s g g'))) := by
  refine ct_in (L := [vR s, vI p, vI v]) (by omega) (Nat.le_of_ble_eq_true rfl) rfl (fun e he => ?_)
  obtain ⟨u1, u2, u3, u4, u5, u6⟩ := hu
  have h8 := hK.2.2.1
  refine b_X5_changePoint_0 hs (s_hasW (by omega) (st_pts hs) u3) (fun x g0 hx => ?_)
  obtain ⟨rfl, rfl⟩ := hx
  refine b_X5_changePoint_8 hs (fun c => ?_) (fun c => b_X5_changePoint_11 hs ⟨_, rfl, Or.inl ⟨rfl, bi_eq0 (Classical.not_not.mp c), rfl⟩⟩)
  have c := bi_ne0 c
  obtain ⟨n, rfl⟩ := Int.eq_ofNat_of_zero_le c.1
  have hn : n < nP K := by omega
  refine b_X5_changePoint_13 hs (s_putW (by omega) (st_pts hs) u3 h8.2 hn) (fun g1 hx => ?_)
  subst hx
  refine b_X5_changePoint_22 hs ⟨_, rfl, Or.inr ⟨rfl, c, ⟨?_, fun k hk => ?_, ?_, fun k hk => ?_, ?_, ?_⟩, frR.st _ (by omega)⟩⟩
  · rw [cset_ne _ _ (by omega)]; exact u1
  · rw [cset_ne _ _ (by omega), cset_ne _ _ (by omega), cset_ne _ _ (by omega)]; exact u2 k hk
  · rw [cset_ne _ _ (by omega)]; exact u3
  · rw [show s + 4 + 1 = s + 5 from rfl, cset_self, Int.toNat_natCast]
    show _ = fup (ptC K) n (held v) k
    by_cases e : k = n
    · rw [e, fup_self, fup_self]
    · rw [fup_ne _ _ e, fup_ne _ _ e]; exact u4 k hk
  · rw [cset_ne _ _ (by omega)]; exact u5
  · rw [cset_ne _ _ (by omega)]; exact u6
theorem s_rename {d : Nat} {g : pG} {K : tK} {c kind fig : Int} (hd : 2 ≤ d) (hu : SU g 1 K) (hK : KOK K) (hc : 0 ≤ c ∧ c < nC K) : CT d mX5_rename [vR 1, vI c, vI kind, vI fig] g (qV (fun g' => SU g' 1 (setKF K c.toNat kind fig) ∧ frR 1 g g')) := by
  refine ct_in (L := [vR 1, vI c, vI kind, vI fig]) (by omega) (Nat.le_of_ble_eq_true rfl) rfl (fun e he => ?_)
  have h7 := hK.1
  refine b_X5_rename_0 (s_hasCourt (by omega) st_1 hu) (fun x g0 hx => ?_)
  obtain ⟨rfl, rfl⟩ := hx
  obtain ⟨u1, u2, u3, u4, u5, u6⟩ := hu
  refine b_X5_rename_5 (fun z => absurd hc (bi_eq0 z)) (fun _ => ?_)
  refine b_X5_rename_8 hc.1 (by omega) ⟨rfl, ⟨?_, fun k hk => ?_, ?_, fun k hk => ?_, ?_, ?_⟩, (frR.st _ (by decide)).tr (frR.st _ (by decide))⟩
  · exact u1
  · show (cset (cset g0 2 (fup (g0 2) c.toNat kind)) 3 (fup (g0 3) c.toNat fig)) 2 k = fup (kdC K) c.toNat kind k ∧ (cset (cset g0 2 (fup (g0 2) c.toNat kind)) 3 (fup (g0 3) c.toNat fig)) 3 k = fup (fgC K) c.toNat fig k ∧ (cset (cset g0 2 (fup (g0 2) c.toNat kind)) 3 (fup (g0 3) c.toNat fig)) 4 k = csC K k
    rw [cset_ne _ _ (by decide), cset_self, cset_self, cset_ne _ _ (by decide), cset_ne _ _ (by decide)]
    obtain ⟨a1, a2, a3⟩ := u2 k hk
    have a1 : g0 2 k = kdC K k := a1
    have a2 : g0 3 k = fgC K k := a2
    by_cases e : k = c.toNat
    · rw [e, fup_self, fup_self, fup_self, fup_self]; rw [e] at a3; exact ⟨rfl, rfl, a3⟩
    · rw [fup_ne _ _ e, fup_ne _ _ e, fup_ne _ _ e, fup_ne _ _ e]; exact ⟨a1, a2, a3⟩
  · exact u3
  · exact u4 k hk
  · exact u5
  · exact u6
