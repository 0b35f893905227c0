theorem SN.x42 {g g' : pG} {m : Nat} {t w : tF} (h : SN g m t w) (hf : fr g g' 42) : SN g' m t w := h.frm (fun a h1 h2 => hf a (by omega))
theorem PT.x42 {g g' : pG} {N : Nat} {f : tF} (h : PT g 27 N f) (hf : fr g g' 42) : PT g' 27 N f := ⟨by rw [hf 27 (by decide)]; exact h.1, h.2.1, h.2.2.1, fun k hk => by rw [hf 28 (by decide)]; exact h.2.2.2.1 k hk, h.2.2.2.2⟩
def rdT (K : tK) (T : Nat → Nat) : tF := fun i => told (rdS K (T i)).2 (nP K)
def tI (T : Nat → Nat) : tF := fun i => (T i : Int)
theorem s_come {d m n : Nat} {g : pG} {K : tK} {T : Nat → Nat} (hd : 2 ≤ d) (hK : KOK K) (hp : PT g 27 (nP K) (rdS K (n + 1)).2) (hs : SN g m (rdT K T) (tI T)) (hT : CMT K T m n) (hn : n < 200) (h1 : g 42 1 = (n : Int) + 1) (h2 : g 42 2 = -9) (hz : (rdS K (n + 1)).1 = 0) : CT d mX1_comeToFirst [vR 42, vR 27, vR 39] g (qV (fun g' => PT g' 27 (nP K) (rdS K (n + 1)).2 ∧ xfr g g' ∧ g' 42 0 = g 42 0 ∧ g' 42 1 = (n : Int) + 1 ∧ ((rdQ K n ∧ g' 42 2 = (n : Int) + 1 - rdH K (n + 1) ∧ 0 < g' 42 2) ∨ (¬ rdQ K n ∧ g' 42 2 = -9 ∧ ∃ T', CMT K T' (m + 1) (n + 1) ∧ SN g' (m + 1) (rdT K T') (tI T'))))) := by
  refine ct_in (L := [vR 42, vR 27, vR 39, vX 2]) (by omega) (Nat.le_of_ble_eq_true rfl) rfl (fun e he => ?_)
  have he1 : 1 ≤ e := by omega
  have hTd : ∀ g, PT g 27 (nP K) (rdS K (n + 1)).2 → CT e mX3_told [vR 27] g (qL (fun x g' => x = told (rdS K (n + 1)).2 (nP K) ∧ g' = g)) := fun g hp => s_told he1 pts_27 hp
  have hinj : ∀ j, rdT K T j = told (rdS K (n + 1)).2 (nP K) ↔ rdEq K (T j) (n + 1) := fun j => told_inj (nP K) (rdS_bd hK _).1 (rdS_bd hK _).1
  refine b_X1_comeToFirst_0 (hTd _ hp) (fun x g1 hx => ?_)
  obtain ⟨rfl, rfl⟩ := hx
  refine b_X1_comeToFirst_5 (s_find he1 hs) (fun x g2 hx => ?_)
  obtain ⟨hx, rfl⟩ := hx
  refine b_X1_comeToFirst_8 (fun c => ?_) (fun c => ?_)
  · have hno : ∀ j, j < m → ¬ rdEq K (T j) (n + 1) := by
      rcases hx with ⟨k, hk, _, _, h3⟩ | h
      · exact absurd c (by rw [h3]; exact Int.not_lt.mpr (Int.natCast_nonneg _))
      · exact fun j hj z => h.1 j hj ((hinj j).mpr z)
    have hH := hT.none hno
    have hnq : ¬ rdQ K n := fun z => by have := z.2; rw [hH] at this; exact absurd this (by decide)
    refine b_X1_comeToFirst_26 (hTd _ hp) (fun x g3 hx => ?_)
    obtain ⟨rfl, rfl⟩ := hx
    refine b_X1_comeToFirst_31 (s_note he1 hs (by have := hT.2.2.2.2; omega)) (fun g4 hx => ?_)
    obtain ⟨hs4, hf4⟩ := hx
    refine b_X1_comeToFirst_38 ⟨rfl, frS.pt hp hf4, hf4.x, by rw [hf4 42 (by decide) (by decide) (by decide)], by rw [hf4 42 (by decide) (by decide) (by decide)]; exact h1, Or.inr ⟨hnq, by rw [hf4 42 (by decide) (by decide) (by decide)]; exact h2, _, hT.add hz, hs4.to (fun i hi => ?_) (fun i hi => ?_)⟩⟩
    · unfold rdT
      dsimp only
      by_cases e : i = m
      · subst e; rw [fup_self, if_pos rfl]
      · rw [fup_ne _ _ e, if_neg e]
    · unfold tI
      dsimp only
      by_cases e : i = m
      · subst e; rw [fup_self, if_pos rfl, h1, Int.natCast_succ]
      · rw [fup_ne _ _ e, if_neg e]
  · obtain ⟨k, hk, hall, hhit, rfl⟩ : ∃ k, k < m ∧ (∀ j, j < k → rdT K T j ≠ told (rdS K (n + 1)).2 (nP K)) ∧ rdT K T k = told (rdS K (n + 1)).2 (nP K) ∧ x = tI T k := by
      rcases hx with h | h
      · exact h
      · exact absurd (by rw [h.2]; decide) c
    have hH := hT.hit hk ((hinj k).mp hhit) (fun j hj z => hall j hj ((hinj j).mpr z))
    have hTk := (hT.1 k hk).1
    have hq : rdQ K n := ⟨hz, by rw [hH]; exact Int.natCast_nonneg _⟩
    have ei : tI T k = (T k : Int) := rfl
    have ew : w32 (g2 42 1 - tI T k) = (n : Int) + 1 - (T k : Int) := by rw [h1, ei, w32_of (by omega) (by omega)]
    refine b_X1_comeToFirst_13 ?_
    rw [ew]
    refine ⟨rfl, hp.x42 (fr.set _), fr_x (c := 42) (fr.set _) (by decide), by rw [cset_self, fup_ne _ _ (by decide)], by rw [cset_self, fup_ne _ _ (by decide)]; exact h1, Or.inl ⟨hq, by rw [cset_self, fup_self, hH], by rw [cset_self, fup_self]; omega⟩⟩
/-- ROUND on the class's side, for a LENGTH -/
def RDx (K : tK) (g : pG) : Prop := ((rdE K = -9 ∧ g 42 0 = 0) ∨ (0 ≤ rdE K ∧ g 42 0 = 1 ∧ g 42 1 = rdE K ∧ PT g 27 (nP K) (rdS K (rdE K).toNat).2)) ∧ g 42 2 = rdW K
theorem s_go {d : Nat} {g : pG} {K : tK} {ln : Int} (hd : 4 ≤ d) (hK : KOK K) (hu : SU g 1 K) (hl : 0 ≤ ln ∧ ln ≤ 8) : CT d mX1_go [vR 42, vR 1, vI ln, vR 27, vR 39] g (qV (fun g' => RDx (setLn K ln) g' ∧ xfr g g')) := by
  refine ct_in (L := [vR 42, vR 1, vI ln, vR 27, vR 39, vX 2]) (by omega) (Nat.le_of_ble_eq_true rfl) rfl (fun e he => ?_)
  have h7 := hK.1
  have he3 : 3 ≤ e := by omega
  have he2 : 2 ≤ e := by omega
  have he1 : 1 ≤ e := by omega
  have hK2 := setLn_ok hK hl
  generalize hKL : setLn K ln = L at hK2
  have eN : nP L = nP K := by rw [← hKL]; rfl
  have eC : nC L = nC K := by rw [← hKL]; rfl
  have eP : ptC L = ptC K := by rw [← hKL]; rfl
  have eK : kdC L = kdC K := by rw [← hKL]; rfl
  have eF : fgC L = fgC K := by rw [← hKL]; rfl
  have eL : lnC L = ln := by rw [← hKL]; rfl
  refine b_X1_go_0 (s_think he1 scr27 hK hu) (fun g1 hx => ?_)
  obtain ⟨hp1, hf1⟩ := hx
  have hx1 := hf1.x scr27
  have hp1 : PT (cset g1 39 (fup (g1 39) 2 0)) 27 (nP L) (rdS L 0).2 := by
    show PT _ 27 (nP L) (ptC L)
    rw [eN, eP]
    exact ⟨by rw [cset_ne _ _ (by decide)]; exact hp1.1, hp1.2.1, hp1.2.2.1, fun k hk => by rw [cset_ne _ _ (by decide)]; exact hp1.2.2.2.1 k hk, hp1.2.2.2.2⟩
  have hx2 : xfr g (cset g1 39 (fup (g1 39) 2 0)) := hx1.tr (fr_x (c := 39) (fr.set _) (by decide))
  have hs0 : SN (cset g1 39 (fup (g1 39) 2 0)) 0 (rdT L (fun _ => 0)) (tI (fun _ => 0)) := ⟨by rw [cset_self, fup_self]; rfl, by decide, fun i hi => absurd hi (Nat.not_lt_zero _)⟩
  refine b_X1_go_8 (s_told he1 pts_27 hp1) (fun x g3 hx => ?_)
  obtain ⟨rfl, hg3⟩ := hx
  rw [← hg3] at hp1 hx2 hs0
  clear hg3
  refine b_X1_go_20 (s_note (m := 0) he1 hs0 (by decide)) (fun g4 hx => ?_)
  obtain ⟨hs4, hf4⟩ := hx
  have hs4 : SN g4 1 (rdT L (fun _ => 0)) (tI (fun _ => 0)) := hs4.to (fun i hi => by obtain rfl : i = 0 := (by omega); rw [fup_self]; rfl) (fun i hi => by obtain rfl : i = 0 := (by omega); rw [fup_self]; rfl)
  have hp4 := frS.pt hp1 hf4
  have hx4 := hx2.tr hf4.x
  refine b_X1_go_24 ?_
  have hf5 : fr g4 (cset (cset g4 42 (fup (g4 42) 1 0)) 42 (fup (fup (g4 42) 1 0) 2 (-9))) 42 := (fr.set _).tr (fr.set _)
  have h51 : (cset (cset g4 42 (fup (g4 42) 1 0)) 42 (fup (fup (g4 42) 1 0) 2 (-9))) 42 1 = ((0 : Nat) : Int) := by rw [cset_self, fup_ne _ _ (by decide), fup_self]; rfl
  have h52 : (cset (cset g4 42 (fup (g4 42) 1 0)) 42 (fup (fup (g4 42) 1 0) 2 (-9))) 42 2 = -9 := by rw [cset_self, fup_self]
  generalize (cset (cset g4 42 (fup (g4 42) 1 0)) 42 (fup (fup (g4 42) 1 0) 2 (-9))) = g5 at hf5 h51 h52
  -- the three ends
  have out : ∀ (g' : pG) (n p : Nat), p = (rdS L n).1 → n ≤ 200 → xfr g g' → g' 42 1 = n → PT g' 27 (nP L) (rdS L n).2 → ((g' 42 2 = -9 ∧ (nC L ≤ p ∨ n = 200) ∧ (∀ j, j < n → ¬ nC L ≤ (rdS L j).1) ∧ ∀ j, j < n → ¬ rdQ L j) ∨ (∃ j, n = j + 1 ∧ rdQ L j ∧ (∀ i, i < j → ¬ rdQ L i) ∧ 0 < nC L ∧ g' 42 2 = (j : Int) + 1 - rdH L (j + 1))) → EV e mX1_go (qV (fun g' => RDx L g' ∧ xfr g g')) 124 [vR 42, vR 1, vI ln, vR 27, vR 39, vI p] [] g' := by
    intro g' n p hpos hn hx h1 hp hcase
    have hm : g' 1 3 = nC L := by rw [eC]; exact (hu.x hx).1
    have q0 : ∀ v : Int, xfr g (cset g' 42 (fup (g' 42) 0 v)) := fun v => hx.tr (fr_x (c := 42) (fr.set _) (by decide))
    rcases hcase with ⟨h2, hend, hall, hnq⟩ | ⟨j, rfl, hq, hnq, h0, h2⟩
    · by_cases hd : nC L ≤ p
      · have hE : rdE L = n := rdE_is hn (by omega) hall
        have hW : rdW L = -9 := by
          refine rdW_none ?_
          by_cases h0 : nC L = 0
          · exact Or.inl h0
          · refine Or.inr (fun j hj => ?_)
            by_cases hjn : j < n
            · exact hnq j hjn
            · have hst := rdS_stay (K := L) (m := n) (by omega) (j + 1 - n)
              rw [show n + (j + 1 - n) = j + 1 by omega] at hst
              exact rdQ_no (by rw [hst]; omega)
        refine b_X1_go_124 (fun c => absurd c (by omega)) (fun c => b_X1_go_134 ⟨rfl, ⟨Or.inr ⟨by rw [hE]; exact Int.natCast_nonneg _, by rw [cset_self, fup_self], by rw [cset_self, fup_ne _ _ (by decide), hE]; exact h1, by rw [hE, Int.toNat_natCast]; exact hp.x42 (fr.set _)⟩, by rw [cset_self, fup_ne _ _ (by decide), hW]; exact h2⟩, q0 _⟩)
      · have hn2 : n = 200 := by omega
        have hE : rdE L = -9 := by
          refine ff_none (fun j hj => ?_)
          by_cases hjn : j < n
          · exact hall j hjn
          · obtain rfl : j = n := by omega
            omega
        have hW : rdW L = -9 := rdW_none (Or.inr (fun j hj => hnq j (by omega)))
        refine b_X1_go_124 (fun c => b_X1_go_138 ⟨rfl, ⟨Or.inl ⟨hE, by rw [cset_self, fup_self]⟩, by rw [cset_self, fup_ne _ _ (by decide), hW]; exact h2⟩, q0 _⟩) (fun c => absurd (by omega) c)
    · have hE := rdE_hit hK2 h0 hq
      have hW := rdW_hit (by omega) hnq (by omega) hq
      have hz : p = 0 := hpos.trans hq.1
      refine b_X1_go_124 (fun c => b_X1_go_138 ⟨rfl, ⟨Or.inl ⟨hE, by rw [cset_self, fup_self]⟩, by rw [cset_self, fup_ne _ _ (by decide), hW]; exact h2⟩, q0 _⟩) (fun c => absurd (by omega) c)
  refine loopN (P := fun n g' => xfr g g' ∧ PT g' 27 (nP L) (rdS L n).2 ∧ g' 42 1 = n ∧ ((g' 42 2 = -9 ∧ (∀ j, j < n → ¬ nC L ≤ (rdS L j).1) ∧ (∀ j, j < n → ¬ rdQ L j) ∧ ∃ T m, CMT L T m n ∧ SN g' m (rdT L T) (tI T)) ∨ (∃ j, n = j + 1 ∧ rdQ L j ∧ (∀ i, i < j → ¬ rdQ L i) ∧ 0 < nC L ∧ g' 42 2 = (j : Int) + 1 - rdH L (j + 1) ∧ 0 < g' 42 2))) 200 (fun n g' => ∀ q : Int, q = (rdS L n).1 → EV e mX1_go _ 38 [vR 42, vR 1, vI ln, vR 27, vR 39, vI q] [] g') ?_ ?_ 0 g5 (Nat.zero_le _) ⟨hx4.tr (fr_x hf5 (by decide)), hp4.x42 hf5, h51, Or.inl ⟨h52, fun j hj => absurd hj (Nat.not_lt_zero _), fun j hj => absurd hj (Nat.not_lt_zero _), _, _, CMT.ini L, hs4.x42 hf5⟩⟩ _ rfl
  · rintro n g6 hn ⟨hx6, hp6, h61, hcase⟩ ih q rfl
    have hm : g6 1 3 = nC L := by rw [eC]; exact (hu.x hx6).1
    have hle := (rdS_bd hK2 n).2
    rcases hcase with ⟨h62, hall, hnq, T, m, hT, hs6⟩ | ⟨j, rfl, hq, hnq, h0, h2, h3⟩
    · refine b_X1_go_38 (fun c => out _ n _ rfl (by omega) hx6 h61 hp6 (Or.inl ⟨h62, Or.inl (by omega), hall, hnq⟩)) (fun c => ?_)
      have hk : (rdS L n).1 < nC L := by omega
      refine b_X1_go_47 (fun c => absurd c (by rw [h61]; omega)) (fun _ => ?_)
      refine b_X1_go_57 (fun c => absurd h62 c) (fun _ => ?_)
      have ew : w32 (g6 42 1 + 1) = (n : Int) + 1 := by rw [h61, w32_of (by omega) (by omega)]
      rw [← eC] at h7
      have hf7 : fr g6 (cset g6 42 (fup (g6 42) 1 ((n : Int) + 1))) 42 := fr.set _
      have h71 : (cset g6 42 (fup (g6 42) 1 ((n : Int) + 1))) 42 1 = (n : Int) + 1 := by rw [cset_self, fup_self]
      have h72 : (cset g6 42 (fup (g6 42) 1 ((n : Int) + 1))) 42 2 = -9 := by rw [cset_self, fup_ne _ _ (by decide)]; exact h62
      have hp7 := hp6.x42 hf7
      have hs7 := hs6.x42 hf7
      have hx7 := hx6.tr (fr_x hf7 (by decide))
      refine b_X1_go_66 (by rw [ew]; exact s_sendsBack he2 pts_27 hK (hu.x hx7) hp7 (by rw [← eC]; exact hk)) (fun x g7 hx => ?_)
      obtain ⟨hx, rfl⟩ := hx
      rw [← eK, ← eL, eL] at hx
      generalize cset g6 42 (fup (g6 42) 1 ((n : Int) + 1)) = g7 at *
      have hx : x = bi (rdB L (rdS L n)) := by rw [hx]; unfold rdB; rw [eL]
      refine b_X1_go_84 (fun c => ?_) (fun c => ?_)
      · have hb : ¬ rdB L (rdS L n) := bi_eq0 (hx ▸ c)
        have hS : rdS L (n + 1) = _ := rdN_g hk hb
        have e2 : g7 2 (rdS L n).1 = kdC L (rdS L n).1 := by rw [eK]; exact ((hu.x hx7).2.1 _ (by rw [← eC]; exact hk)).1
        have e3 : g7 3 (rdS L n).1 = fgC L (rdS L n).1 := by rw [eF]; exact ((hu.x hx7).2.1 _ (by rw [← eC]; exact hk)).2.1
        obtain ⟨b1, b2, b3⟩ := hK2.2.1 _ hk
        refine b_X1_go_100 (Int.natCast_nonneg _) (by omega) (by rw [Int.toNat_natCast, e2, e3]; exact s_suffer he3 pts_27 hp7 b1 b2) (fun g8 hx => ?_)
        obtain ⟨hp8, hf8⟩ := hx
        have hz : (rdS L (n + 1)).1 ≠ 0 := by rw [hS]; exact Nat.succ_ne_zero _
        have h42 : g8 42 = g7 42 := hf8 42 (by decide)
        refine b_X1_go_118 (ih _ ⟨hx7.tr (hf8.x scr27), by rw [hS]; exact hp8, by rw [h42, h71, Int.natCast_succ], Or.inl ⟨by rw [h42]; exact h72, fun j hj => ?_, fun j hj => ?_, T, m, hT.skip hz, fr2.sn hs7 hf8.to2⟩⟩ _ ?_)
        · by_cases e : j = n
          · subst e; omega
          · exact hall j (by omega)
        · by_cases e : j = n
          · subst e; exact rdQ_no hz
          · exact hnq j (by omega)
        · rw [hS, w32_of (by omega) (by omega), Int.natCast_succ]
      · have hb : rdB L (rdS L n) := bi_ne0 (hx ▸ c)
        have hS : rdS L (n + 1) = _ := rdN_b hk hb
        have hz : (rdS L (n + 1)).1 = 0 := by rw [hS]
        have hp7 : PT g7 27 (nP L) (rdS L (n + 1)).2 := by rw [hS]; exact hp7
        refine b_X1_go_87 (s_come he2 hK2 hp7 hs7 hT hn h71 h72 hz) (fun g8 hx => ?_)
        obtain ⟨hp8, hx8, h80, h81, hc⟩ := hx
        have hall2 : ∀ j, j < n + 1 → ¬ nC L ≤ (rdS L j).1 := fun j hj => by
          by_cases e : j = n
          · subst e; omega
          · exact hall j (by omega)
        refine b_X1_go_97 (ih _ ⟨hx7.tr hx8, hp8, by rw [h81, Int.natCast_succ], ?_⟩ _ (by rw [hz]; rfl))
        rcases hc with ⟨hq, h82, h83⟩ | ⟨hq, h82, T', hT', hs8⟩
        · exact Or.inr ⟨n, rfl, hq, hnq, by omega, h82, h83⟩
        · refine Or.inl ⟨h82, hall2, fun j hj => ?_, T', _, hT', hs8⟩
          by_cases e : j = n
          · subst e; exact hq
          · exact hnq j (by omega)
    · have hz := hq.1
      refine b_X1_go_38 (fun c => absurd c (by omega)) (fun c => ?_)
      have o := out _ (j + 1) _ rfl (by omega) hx6 h61 hp6 (Or.inr ⟨j, rfl, hq, hnq, h0, h2⟩)
      refine b_X1_go_47 (fun _ => o) (fun _ => ?_)
      exact b_X1_go_57 (fun _ => o) (fun c => absurd c (by omega))
  · rintro g6 ⟨hx6, hp6, h61, hcase⟩ q rfl
    have hm : g6 1 3 = nC L := by rw [eC]; exact (hu.x hx6).1
    have hcase2 : ((g6 42 2 = -9 ∧ (nC L ≤ (rdS L 200).1 ∨ 200 = 200) ∧ (∀ j, j < 200 → ¬ nC L ≤ (rdS L j).1) ∧ ∀ j, j < 200 → ¬ rdQ L j) ∨ (∃ j, 200 = j + 1 ∧ rdQ L j ∧ (∀ i, i < j → ¬ rdQ L i) ∧ 0 < nC L ∧ g6 42 2 = (j : Int) + 1 - rdH L (j + 1))) := by
      rcases hcase with ⟨h62, hall, hnq, _⟩ | ⟨j, e, hq, hnq, h0, h2, _⟩
      · exact Or.inl ⟨h62, Or.inr rfl, hall, hnq⟩
      · exact Or.inr ⟨j, e, hq, hnq, h0, h2⟩
    have o := out _ 200 _ rfl (Nat.le_refl _) hx6 h61 hp6 hcase2
    exact b_X1_go_38 (fun _ => o) (fun _ => b_X1_go_47 (fun _ => o) (fun c => absurd (by rw [h61]; decide) c))
theorem x_round {d : Nat} {g : pG} {K : tK} {w : Int} (hd : 8 ≤ d) (hK : KOK K) (hu : SU g 1 K) : CT d mX7_round [vR 0, vI w] g (QX g (aH (rW w 2) (aRd K w)) (rW w 2)) := by
  refine ct_in (L := [vR 0, vI w]) (by omega) (Nat.le_of_ble_eq_true rfl) rfl (fun e he => ?_)
  have r2 := rW_cases w 2
  have go : rW w 2 = 0 → EV e mX7_round (QX g (aH (rW w 2) (aRd K w)) (rW w 2)) 16 [vR 0, vI w] [] g := by
    intro hr0
    have hl := hK.2.2.2.2.2.2
    have e6 : g 1 6 = lnC K := hu.2.2.2.2.2
    refine b_X7_round_16 (by rw [e6]; exact s_go (by omega) hK hu hl) (fun g1 hx => ?_)
    obtain ⟨⟨hE, hW⟩, hx1⟩ := hx
    rw [setLn_id] at hE hW
    refine b_X7_round_42 (fun c => ?_) (fun c => ?_)
    · refine b_X7_round_55 (fun c2 => ?_) (fun c2 => ?_)
      · rcases hE with ⟨_, h⟩ | ⟨h1, h2, h3, h4⟩
        · exact absurd h c2
        · refine b_X7_round_77 (fun c3 => ?_) (fun c3 => ?_)
          · refine b_X7_round_91 (s_sum (by omega) pts_27 h4) (fun x g2 hx => ?_)
            obtain ⟨rfl, rfl⟩ := hx
            exact b_X7_round_98 (rx_ok hr0 (aH_0 hr0 (by unfold aRd; rw [if_neg c3, if_neg c, if_neg (by omega)])) hx1)
          · exact b_X7_round_81 (rx_ok hr0 (aH_0 hr0 (by unfold aRd; rw [if_pos (by omega), h3])) hx1)
      · rcases hE with ⟨h1, h⟩ | ⟨h1, h2, h3, h4⟩
        · refine b_X7_round_65 (fun c3 => ?_) (fun c3 => ?_)
          · exact b_X7_round_74 (rx_ok hr0 (aH_0 hr0 (by unfold aRd; rw [if_neg c3, if_neg c, if_pos (by omega)])) hx1)
          · exact b_X7_round_69 (rx_ok hr0 (aH_0 hr0 (by unfold aRd; rw [if_pos (by omega), h1])) hx1)
        · exact absurd (by omega) c2
    · exact b_X7_round_47 (rx_ok hr0 (aH_0 hr0 (by unfold aRd; rw [if_neg (by omega), if_pos (by omega), hW])) hx1)
  refine b_X7_round_0 (fun c0 => ?_) (fun c0 => ?_)
  · refine b_X7_round_9 (s_refuseHigh (by omega) ref2) (fun x1 _ hx => ?_)
    obtain ⟨rfl, rfl⟩ := hx
    refine b_X7_round_15 ?_
    exact rx_no (by omega) (aH_n (m := -2) (by omega) (by omega) rfl)
  · refine b_X7_round_4 (fun c4 => ?_) (fun c4 => ?_)
    · exact go (by omega)
    · refine b_X7_round_9 (s_refuseHigh (by omega) ref2) (fun x2 _ hx => ?_)
      obtain ⟨rfl, rfl⟩ := hx
      refine b_X7_round_15 ?_
      exact rx_no (by omega) (aH_n (m := -2) (by omega) (by omega) rfl)
/-- rounds -/
abbrev rdsQ (K : tK) (v : Nat) : Prop := 0 ≤ rdE (setLn K v)
theorem x_rounds {d : Nat} {g : pG} {K : tK} (hd : 8 ≤ d) (hK : KOK K) (hu : SU g 1 K) : CT d mX7_rounds [vR 0] g (QX g (bitsF (rdsQ K) 9) 0) := by
  refine ct_in (L := [vR 0, vX 2, vX 2]) (by omega) (Nat.le_of_ble_eq_true rfl) rfl (fun e he => ?_)
  refine b_X7_rounds_0 ?_
  refine loopN (P := fun _ g' => xfr g g') 9 (fun v g' => ∀ q1 q2 : Int, q1 = bitsF (rdsQ K) v → q2 = v → EV e mX7_rounds _ 4 [vR 0, vI q1, vI q2] [] g') ?_ ?_ 0 g (Nat.zero_le _) xfr.rf _ _ rfl rfl
  · rintro v g1 hv hx1 ih q1 q2 rfl rfl
    refine b_X7_rounds_4 (fun c => absurd c (by omega)) (fun c => ?_)
    refine b_X7_rounds_10 (s_go (by omega) hK (hu.x hx1) (by omega)) (fun g2 hx => ?_)
    obtain ⟨⟨hE, hW⟩, hx2⟩ := hx
    refine b_X7_rounds_30 (fun c2 => ?_) (fun c2 => ?_)
    · have hn : ¬ rdsQ K v := by
        rcases hE with h | h
        · show ¬ 0 ≤ rdE (setLn K v); omega
        · exact absurd c2 (by omega)
      exact b_X7_rounds_46 (ih _ (hx1.tr hx2) _ _ (bitsF_0 hn).symm (w32n v (by omega)))
    · have hy : rdsQ K v := by
        rcases hE with h | h
        · exact absurd h.2 c2
        · exact h.1
      exact b_X7_rounds_40 (ih _ (hx1.tr hx2) _ _ (bitsF_1 hy).symm (w32n v (by omega)))
  · intro g1 hx1 q1 q2 h1 h2
    refine b_X7_rounds_4 (fun c => ?_) (fun c => absurd (by omega) c)
    exact b_X7_rounds_52 (rx_ok rfl h1.symm hx1)
