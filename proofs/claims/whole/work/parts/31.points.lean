theorem PT.rd {g : pG} {t N : Nat} {f : tF} (h : PT g t N f) {k : Nat} (hk : k < N) : g (t + 1) k = f k := h.2.2.2.1 k hk
theorem PT.bd {g : pG} {t N : Nat} {f : tF} (h : PT g t N f) {k : Nat} (hk : k < N) : -9 ≤ f k ∧ f k ≤ 9 := h.2.2.2.2 k hk
theorem s_sum {d t N : Nat} {g : pG} {f : tF} (hd : 1 ≤ d) (ht : isPts t) (hp : PT g t N f) : CT d mX3_sum [vR t] g (qI (fun x g' => x = psum f N ∧ g' = g)) := by
  refine ct_in (L := [vR t, vX 2, vX 2]) (by omega) (Nat.le_of_ble_eq_true rfl) rfl (fun e he => ?_)
  have hm := hp.1
  have h8 := hp.2.2.1
  refine b_X3_sum_0 ht ?_
  refine loopN (P := fun _ g' => g' = g) N (fun k g' => EV e mX3_sum _ 4 [vR t, vI (psum f k), vI k] [] g') ?_ ?_ 0 g (Nat.zero_le _) rfl
  · rintro k _ hk rfl ih
    have hb := psum_bd hp.2.2.2.2 k (by omega)
    have hb2 := hp.bd hk
    have hr := hp.rd hk
    refine b_X3_sum_4 ht (fun c4 => ?_) (fun c4 => ?_)
    · exfalso
      omega
    · refine b_X3_sum_12 ht (by omega) (by omega) ?_
      try simp (disch := omega) only [w32_of, Int.toNat_natCast]
      rw [hr]
      refine ih _ rfl
  · rintro _ rfl
    refine b_X3_sum_4 ht (fun c4 => ?_) (fun c4 => ?_)
    · refine b_X3_sum_27 ht ?_
      exact ⟨_, rfl, rfl, rfl⟩
    · exfalso
      omega
