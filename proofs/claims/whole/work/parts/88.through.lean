/-! through -/
theorem e_through : ca_23 Inv := by
  intro C M x1 hI hx1
  unfold in32 at hx1
  unfold pX5_through pX6_through pX6_needRubber
  by_cases h : 0 ≤ x1 ∧ x1 ≤ 3
  · obtain ⟨p, rfl⟩ := Int.eq_ofNat_of_zero_le h.1
    have hp : p < 4 := by omega
    have hs := hI.2.2.2.1 p hp
    rcases hs.kind with ⟨k1, k2⟩ | ⟨k1, k2, k3⟩
    · rw [needSeal_no hp k1, missed_no hp k2]
      simp (disch := omega) only [place_t, bind_some', cEQ_neg, cLT_pos, bnd_some, found1]
      exact ag_fd hI (by decide)
    · rw [needSeal_ok hp ⟨k1, k2⟩]
      have hR := isRubber_ok (M := M) (p := p) hp (by omega)
      by_cases hk : 1 ≤ M 18 p
      · rw [if_pos (by omega)] at hR
        rw [missed_t (k := M 18 p) hp k3 (by omega)]
        obtain ⟨u, d, T', M', a1, a2, a3, a4, a5, a6, a7, a8, -, -⟩ := asIs_ok hI
        have hk' : 1 ≤ M' 18 p := by rw [a6 18 (by decide)]; exact hk
        obtain ⟨M3, b1, b2, b3, b4, b5, b6, b7⟩ := a3.press hp hk'
        have hI3 : Inv T' M3 := a4.scr b6 (fun j hj => b7 j (by omega) (by omega) (by omega) (by omega) (by omega))
        have hsq := squeezed_ok b5.1 b5.2.2.2.2.2.1 b5.2.1 b5.2.2.1 hp
        have hsb := sqz_b b5.1 b5.2.2.2.2.2.1 hp
        have hsd : sqz M3 u d p = max 0 (tp M3 p * d - u) := rfl
        have e44 : M3 0 44 = sqz M3 u d p := by
          rw [b4]; unfold sqz tp; rw [b6 21 (by decide), b6 25 (by decide)]
        have hset := hI3.2.2.2.2.1
        obtain ⟨s, c1, c2, c3, c4, c5, c6, c7⟩ := hI3.sealR hp (by rw [b6 18 (by decide)]; exact hk')
        obtain ⟨⟨-, -⟩, x2, x3, -, -, x6, -, -⟩ := hI3.2.2.2.1 p hp
        have htp : tp M3 p = M3 21 p - M3 25 p := rfl
        have e8 := b5.2.1
        have e9 := b5.2.2.1
        have e38 := b5.2.2.2.1
        have e39 := b5.2.2.2.2.1
        obtain ⟨⟨u1, u2⟩, u3, u4⟩ := b5.2.2.2.2.2.1
        have g6 := c6.2.2.2.2.2.2.2.2.2.2.2.2.2.2
        have z2 : (2 : Int).toNat = 2 := rfl
        obtain ⟨-, -, w3, -⟩ := hset
        have hst := stuffOf_ok (C := T') (q := 61 + p) c2 c4
        have n1 : 0 ≤ M3 14 s * M3 0 36 := Int.mul_nonneg (by omega) (by omega)
        have n2 : M3 14 s * M3 0 36 ≤ 99 * 9999 := Int.mul_le_mul (by omega) (by omega) (by omega) (by omega)
        have n3 : 0 ≤ M3 14 s * M3 0 36 * M3 22 p := Int.mul_nonneg n1 (by omega)
        have n4 : M3 14 s * M3 0 36 * M3 22 p ≤ 99 * 9999 * 9 := Int.mul_le_mul n2 (by omega) (by omega) (by omega)
        have n5 : 0 ≤ M3 14 s * M3 0 36 * M3 22 p * d := Int.mul_nonneg n3 (by omega)
        have n6 : M3 14 s * M3 0 36 * M3 22 p * d ≤ 99 * 9999 * 9 * 17262720000 := Int.mul_le_mul n4 u2 (by omega) (by omega)
        have n7 : 0 ≤ M3 21 p * d := Int.mul_nonneg (by omega) (by omega)
        have n8 : M3 21 p * d ≤ 800 * d := Int.mul_le_mul_of_nonneg_right (by omega) (by omega)
        have n9 : tp M3 p * d = M3 21 p * d - M3 25 p * d := by rw [htp, Int.sub_mul]
        have n10 : 0 ≤ M3 25 p * d := Int.mul_nonneg (by omega) (by omega)
        have hC : ∀ H : Int, H = M3 21 p * d - sqz M3 u d p → pX5_through_89 T' (61 + p) H = if 0 < H then some (1, tlC T' (M3 14 s * M3 0 36 * M3 22 p * d).toNat H.toNat) else some (-3, fdC T' 4) := by
          intro H hH
          unfold pX5_through_89
          by_cases hq : 0 < H
          · rw [lLT_pos (by omega), if_pos hq, hst, bind_some', chk_ok (isStf_s c2), g6.1, wdI_ok (by omega), ldI_ok (by omega), z2, w3.1, wdI_ok (by omega), x3.1, wdI_ok (by omega)]
            simp only [setS]
            obtain ⟨N, eN⟩ := Int.eq_ofNat_of_zero_le n5
            obtain ⟨Hn, eH⟩ := Int.eq_ofNat_of_zero_le (show 0 ≤ H by omega)
            rw [e9, eN, eH, tellC_ok (by omega) (by omega) (Or.inr (by omega)), bind_some', Int.toNat_natCast, Int.toNat_natCast]
          · rw [lLT_neg (by omega), if_neg hq, found4, bnd_some]
        simp (disch := omega) only [place_t, bind_some', cEQ_neg, cEQ_pos, cLT_neg, bnd_some, hR, a1, a2, b1, ldA_ok, ldI_ok, Int.toNat_natCast, Nat.one_mul, hsq, e44, e39, e8, e9, x2.1, x6.1, wdI_ok, setS]
        have hH : (if 0 < sqz M3 u d p then (u : Int) + M3 25 p * d else M3 21 p * d) = M3 21 p * d - sqz M3 u d p := by
          split <;> omega
        have hL : lLT 0 (sqz M3 u d p) (pX5_through_89 T' (61 + p) (u + M3 25 p * d)) (pX5_through_89 T' (61 + p) (M3 21 p * d)) = pX5_through_89 T' (61 + p) (M3 21 p * d - sqz M3 u d p) := by
          rw [← hH]
          by_cases hq : 0 < sqz M3 u d p
          · rw [lLT_pos (by omega), if_pos hq]
          · rw [lLT_neg (by omega), if_neg hq]
        rw [hL, hC _ rfl]
        by_cases hq : 0 < M3 21 p * d - sqz M3 u d p
        · rw [if_pos hq, lLT_pos (by omega), c3]
          rw [Int.toNat_natCast, wdI_ok (by omega)]
          obtain ⟨N, eN⟩ := Int.eq_ofNat_of_zero_le n5
          obtain ⟨Hn, eH⟩ := Int.eq_ofNat_of_zero_le (show 0 ≤ M3 21 p * d - sqz M3 u d p by omega)
          rw [eN, eH, fractionM_ok (by omega) (by omega) (Or.inr (by omega)), bnd_some, Int.toNat_natCast, Int.toNat_natCast]
          exact ⟨_, _, _, rfl, rfl, Inv_tell hI3 _ _⟩
        · rw [if_neg hq, lLT_neg (by omega), meets4, bnd_some]
          exact ag_fd hI3 (by decide)
      · rw [if_neg (by omega)] at hR
        rw [missed_f (k := M 18 p) hp k3 (by omega)]
        simp (disch := omega) only [hR, place_t, bind_some', cEQ_neg, cEQ_pos, cLT_neg, cLT_pos, bnd_some, found3, meets3]
        exact ag_fd hI (by decide)
  · rw [needSeal_bad (by omega)]
    simp (disch := omega) only [place_f, bind_some', cEQ_pos, bnd_some, cLT_pos]
    exact ag_same hI
