/-! seal, swell, blown, mean -/
theorem e_seal : ca_11 Inv := by
  intro C M x1 x2 x3 x4 x5 hI hx1 hx2 hx3 hx4 hx5
  have hbadM : ∀ s0, 0 ≤ s0 → s0 ≤ 1 → ¬ ((0 ≤ x1 ∧ x1 ≤ 3) ∧ (0 ≤ x2 ∧ x2 ≤ 4) ∧ s0 = 1 ∧ (50 ≤ x4 ∧ x4 ≤ 400) ∧ (1 ≤ x5 ∧ x5 ≤ 9)) → pX6_seal_18 M x1 x2 x3 x4 x5 s0 = some (-1, M) := by
    intro s0 h0 h01 hn
    unfold pX6_seal_18
    by_cases c1 : 0 ≤ x1 ∧ x1 ≤ 3
    · rw [placeM_t c1]
      by_cases c2 : 0 ≤ x2 ∧ x2 ≤ 4
      · rw [in_t (x := x2) (by omega)]
        by_cases c3 : s0 = 1
        · by_cases c4 : 50 ≤ x4 ∧ x4 ≤ 400
          · rw [in_t (x := x4) (by omega), in_f (x := x5) (by omega)]
            simp (disch := omega) only [bind_some', cEQ_neg, cEQ_pos]
          · rw [in_f (x := x4) (by omega)]
            simp (disch := omega) only [bind_some', cEQ_neg, cEQ_pos]
        · simp (disch := omega) only [bind_some', cEQ_neg, cEQ_pos]
      · rw [in_f (x := x2) (by omega)]
        simp (disch := omega) only [bind_some', cEQ_neg, cEQ_pos]
    · rw [placeM_f (by omega)]
      simp (disch := omega) only [bind_some', cEQ_neg, cEQ_pos]
  have hbadC : ¬ ((0 ≤ x1 ∧ x1 ≤ 3) ∧ (0 ≤ x2 ∧ x2 ≤ 4) ∧ (50 ≤ x4 ∧ x4 ≤ 400) ∧ (1 ≤ x5 ∧ x5 ≤ 9) ∧ (x2 = 0 ∨ (0 ≤ x3 ∧ x3 ≤ 5))) → pX5_seal C x1 x2 x3 x4 x5 = some (-1, C) := by
    intro hn
    unfold pX5_seal
    by_cases c1 : 0 ≤ x1 ∧ x1 ≤ 3
    · rw [place_t c1]
      by_cases c2 : 0 ≤ x2 ∧ x2 ≤ 4
      · rw [within_t (x := x2) (by omega)]
        by_cases c4 : 50 ≤ x4 ∧ x4 ≤ 400
        · rw [within_t (x := x4) (by omega)]
          by_cases c5 : 1 ≤ x5 ∧ x5 ≤ 9
          · rw [within_t (x := x5) (by omega), isStuff_f (by omega)]
            simp (disch := omega) only [bind_some', cEQ_neg, cEQ_pos]
          · rw [within_f (x := x5) (by omega)]
            simp (disch := omega) only [bind_some', cEQ_neg, cEQ_pos]
        · rw [within_f (x := x4) (by omega)]
          simp (disch := omega) only [bind_some', cEQ_neg, cEQ_pos]
      · rw [within_f (x := x2) (by omega)]
        simp (disch := omega) only [bind_some', cEQ_neg, cEQ_pos]
    · rw [place_f (by omega)]
      simp (disch := omega) only [bind_some', cEQ_neg, cEQ_pos]
  by_cases hok : (0 ≤ x1 ∧ x1 ≤ 3) ∧ (0 ≤ x2 ∧ x2 ≤ 4) ∧ (50 ≤ x4 ∧ x4 ≤ 400) ∧ (1 ≤ x5 ∧ x5 ≤ 9) ∧ (x2 = 0 ∨ (0 ≤ x3 ∧ x3 ≤ 5))
  · obtain ⟨c1, c2, c4, c5, c3⟩ := hok
    obtain ⟨p, rfl⟩ := Int.eq_ofNat_of_zero_le c1.1
    unfold pX5_seal pX6_seal pX6_seal_13 pX6_seal_18 pX5_seal_57 pX5_seal_79 pX3_isMissing
    rw [place_t c1, placeM_t c1, within_t (x := x2) (by omega), in_t (x := x2) (by omega), within_t (x := x4) (by omega), in_t (x := x4) (by omega), within_t (x := x5) (by omega), in_t (x := x5) (by omega)]
    by_cases hk0 : x2 = 0
    · subst hk0
      simp (disch := omega) only [bind_some', cEQ_neg, cEQ_pos, ldA_ok, Int.toNat_natCast, Nat.one_mul]
      exact seal_both hI (by omega) (by omega) (Or.inl rfl) c4 c5 rfl
    · have c3' : 0 ≤ x3 ∧ x3 ≤ 5 := by omega
      rw [isStuff_t c3', in_t (x := x3) (by omega)]
      obtain ⟨s, rfl⟩ := Int.eq_ofNat_of_zero_le c3'.1
      rcases (hI.2.2.1 s (by omega)).2.2 with ⟨k1, k2⟩ | ⟨k1, k2, hd⟩
      · simp (disch := omega) only [bind_some', cEQ_neg, cEQ_pos, ldA_ok, ldI_ok, Int.toNat_natCast, Nat.one_mul, k1, k2, found1, meets1, bnd_some]
        exact ag_fd hI (by decide)
      · have hp1 := hd.1
        have hp2 := hd.2.1
        simp (disch := omega) only [bind_some', cEQ_neg, cEQ_pos, ldA_ok, ldI_ok, Int.toNat_natCast, Nat.one_mul, k1, k2]
        exact seal_both hI (by omega) (by omega) (Or.inr ⟨by omega, by omega, by rw [Int.toNat_natCast]; exact k1⟩) c4 c5 (by rw [if_neg hk0])
  · rw [hbadC hok]
    unfold pX6_seal pX6_seal_13
    by_cases hk0 : x2 = 0
    · rw [cEQ_pos (by omega), hbadM 1 (by omega) (by omega) (by omega)]
      exact ag_same hI
    · rw [cEQ_neg (by omega)]
      by_cases c3 : 0 ≤ x3 ∧ x3 ≤ 5
      · rw [in_t (by omega)]
        simp (disch := omega) only [bind_some', cEQ_neg]
        rw [hbadM 1 (by omega) (by omega) (by omega)]
        exact ag_same hI
      · rw [in_f (by omega)]
        simp (disch := omega) only [bind_some', cEQ_pos]
        rw [hbadM 0 (by omega) (by omega) (by omega)]
        exact ag_same hI
