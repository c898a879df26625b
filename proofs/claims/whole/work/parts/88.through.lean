/-! through -/
theorem e_through : ca_23 Inv := by
  intro C M x1 hI hx1
  unfold in32 at hx1
  unfold pX5_through pX6_through pX6_needRubber
  by_cases h : 0 ≤ x1 ∧ x1 ≤ 3
  · obtain ⟨p, rfl⟩ := Int.eq_ofNat_of_zero_le h.1
    have hp : p < 4 := by omega
    have hs := hI.2.2.2.1 p hp
    rcases hs.kind with ⟨k1, k2⟩ | ⟨k1, k2, k3⟩
    · rw [needSeal_no hp k1, missed_no hp k2]
      simp (disch := omega) only [place_t, bind_some', cEQ_neg, cLT_pos, bnd_some, found1]
      exact ag_fd hI (by decide)
    · rw [needSeal_ok hp ⟨k1, k2⟩]
      have hR := isRubber_ok (M := M) (p := p) hp (by omega)
      by_cases hk : 1 ≤ M 18 p
      · rw [if_pos (by omega)] at hR
        rw [missed_t (k := M 18 p) hp k3 (by omega)]
        obtain ⟨u, d, T', M', a1, a2, a3, a4, a5, a6, a7, a8, -, -⟩ := asIs_ok hI
        have hk' : 1 ≤ M' 18 p := by rw [a6 18 (by decide)]; exact hk
        obtain ⟨M3, b1, b2, b3, b4, b5, b6, b7⟩ := a3.press hp hk'
        have hI3 : Inv T' M3 := a4.scr b6 (fun j hj => b7 j (by omega) (by omega) (by omega) (by omega) (by omega))
        have hsq := squeezed_ok b5.1 b5.2.2.2.2.2.1 b5.2.1 b5.2.2.1 hp
        have hsb := sqz_b b5.1 b5.2.2.2.2.2.1 hp
        have hsd : sqz M3 u d p = max 0 (tp M3 p * d - u) := rfl
        have e44 : M3 0 44 = sqz M3 u d p := by
          rw [b4]; unfold sqz tp; rw [b6 21 (by decide), b6 25 (by decide)]
        have hset := hI3.2.2.2.2.1
        obtain ⟨s, c1, c2, c3, c4, c5, c6, c7⟩ := hI3.sealR hp (by rw [b6 18 (by decide)]; exact hk')
        obtain ⟨⟨-, -⟩, x2, x3, -, -, x6, -, -⟩ := hI3.2.2.2.1 p hp
        have htp : tp M3 p = M3 21 p - M3 25 p := rfl
        have e8 := b5.2.1
        have e9 := b5.2.2.1
        have e38 := b5.2.2.2.1
        have e39 := b5.2.2.2.2.1
        obtain ⟨⟨u1, u2⟩, u3, u4⟩ := b5.2.2.2.2.2.1
        have g6 := c6.2.2.2.2.2.2.2.2.2.2.2.2.2.2
        sorry
      · rw [if_neg (by omega)] at hR
        rw [missed_f (k := M 18 p) hp k3 (by omega)]
        simp (disch := omega) only [hR, place_t, bind_some', cEQ_neg, cEQ_pos, cLT_neg, cLT_pos, bnd_some, found3, meets3]
        exact ag_fd hI (by decide)
  · rw [needSeal_bad (by omega)]
    simp (disch := omega) only [place_f, bind_some', cEQ_pos, bnd_some, cLT_pos]
    exact ag_same hI
