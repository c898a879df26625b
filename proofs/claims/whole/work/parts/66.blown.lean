/-! blown -/
theorem lt_scale {A P : Int} {c n w : Nat} (hc : 1 ≤ c) (hw : 0 < w) : (A * ((n / Nat.gcd n w : Nat) : Int) < P * ((w / Nat.gcd n w : Nat) : Int)) ↔ (A * ((c : Int) * (n : Int)) < P * ((c * w : Nat) : Int)) := by
  have hg : 0 < Nat.gcd n w := Nat.gcd_pos_of_pos_right n hw
  have e1 : (n : Int) = (Nat.gcd n w : Int) * ((n / Nat.gcd n w : Nat) : Int) := by
    rw [← Int.natCast_mul, Nat.mul_div_cancel' (Nat.gcd_dvd_left n w)]
  have e2 : (w : Int) = (Nat.gcd n w : Int) * ((w / Nat.gcd n w : Nat) : Int) := by
    rw [← Int.natCast_mul, Nat.mul_div_cancel' (Nat.gcd_dvd_right n w)]
  rw [Int.natCast_mul]
  generalize ((n / Nat.gcd n w : Nat) : Int) = n' at *
  generalize ((w / Nat.gcd n w : Nat) : Int) = w' at *
  have hp : (0 : Int) < (c : Int) * (Nat.gcd n w : Int) := Int.mul_pos (by omega) (by omega)
  generalize (Nat.gcd n w : Int) = g at *
  rw [e1, e2, show A * ((c : Int) * (g * n')) = ((c : Int) * g) * (A * n') by grind, show P * ((c : Int) * (g * w')) = ((c : Int) * g) * (P * w') by grind]
  exact (Int.mul_lt_mul_left hp).symm
theorem e_blown : ca_27 Inv := by
  intro C M x1 hI hx1
  unfold in32 at hx1
  unfold pX5_blown pX6_blown pX6_needRubber
  by_cases h : 0 ≤ x1 ∧ x1 ≤ 3
  · obtain ⟨p, rfl⟩ := Int.eq_ofNat_of_zero_le h.1
    have hp : p < 4 := by omega
    have hs := hI.2.2.2.1 p hp
    rcases hs.kind with ⟨k1, k2⟩ | ⟨k1, k2, k3⟩
    · rw [needSeal_no hp k1, missed_no hp k2]
      simp (disch := omega) only [place_t, bind_some', cEQ_neg, cLT_pos, bnd_some, found1]
      exact ag_fd hI (by decide)
    · rw [needSeal_ok hp ⟨k1, k2⟩]
      have hR := isRubber_ok (M := M) (p := p) hp (by omega)
      by_cases hk : 1 ≤ M 18 p
      · rw [if_pos (by omega)] at hR
        rw [missed_t (k := M 18 p) hp k3 (by omega)]
        have hG := is_ok (C := C) (q := 61 + p) (w := 4) k3 (by omega)
        rw [if_pos (by omega)] at hG
        obtain ⟨s, hs6, e1, e2, e3, e4, hd⟩ := SealOk.stf hI hp hk
        obtain ⟨s1, s2, s3, s4, s5, s6, s7, s8⟩ := hs
        simp (disch := omega) only [place_t, bind_some', cEQ_neg, cEQ_pos, ldA_ok, ldI_ok, Int.toNat_natCast, Nat.one_mul, cLT_neg, bnd_some, hR, hG]
        by_cases h4 : M 18 p = 4
        · rw [if_pos h4]
          simp (disch := omega) only [cEQ_neg, cEQ_pos, setS, ldI_ok, stI_ok, Int.toNat_natCast, s5, h4]
          refine ⟨_, _, _, rfl, rfl, Inv_seal hI p hp (fun q a b c => by rw [put_ne c]) (fun p' a b => by rw [put_ne (by omega)]) (fun q a b => by rw [put_ne (by omega)]) (fun q a b p' c d => ?_) ?_ ?_ ?_⟩
          · simp only [put_sw, if_neg (show ¬ (q = 24 ∧ p' = p) from fun z => d z.2)]
          · simp only [SealOk, put_sw]
            have e5 : ¬ (5 = 61 + p) := by omega
            simp [e5]
            exact ⟨s1, s2, s3, s4, s6, s7, s8⟩
          · simp [put_sw]
          · have e0 : ¬ (0 = 61 + p) := by omega
            simp only [put_sw]
            simp [e0]
            exact hI.told
        · rw [if_neg h4]
          have hz := hI.2.2.1 s hs6
          have h0 : M 9 (5 * s) = 0 ∧ M 10 (5 * s) = 0 := ⟨hz.1, hz.2.1⟩
          have hset := hI.2.2.2.2.1
          obtain ⟨k, hkl⟩ := line_ex hd 10 1
          obtain ⟨c, w, c1, c2, ew, hsc, hS⟩ := scaledPush_ok hs6 hd e4 h0 (x := 10) (by omega) hkl
          obtain ⟨M', f1, f2, f3, f4, f5⟩ := layPush_ok hs6 hd h0 (a := 10) (b := 1) (by omega) (by omega) hkl
          have hN := pN_b hd h0 (a := 10) (by omega) (by omega) hkl
          have hw := pW_b hd h0 hkl.1
          obtain ⟨n, en⟩ := Int.eq_ofNat_of_zero_le hN.1
          rw [en] at hN hS f2 f3
          rw [ew, Int.mul_one, Int.toNat_natCast, Int.toNat_natCast] at f2 f3
          have z2 : (2 : Int).toNat = 2 := rfl
          have z3 : (3 : Int).toNat = 3 := rfl
          have hst := stuffOf_ok hs6 e2
          have hch := isStf_s hs6
          have g36 : M' 0 36 = M 0 36 := f5 36 (by decide) (by decide)
          have g37 : M' 0 37 = M 0 37 := f5 37 (by decide) (by decide)
          obtain ⟨a1, a2, a3, a4⟩ := hset
          simp (disch := omega) only [cEQ_neg, cEQ_pos, ldI_ok, z2, z3, a3.1, a4.1, wdI_ok, setS, hst, bind_some', chk_ok, hch, hS, e1, f1, f2, f3, g36, g37]
          have hP : 0 ≤ M 0 36 * M 0 37 := Int.mul_nonneg a3.2.1 a4.2.1
          have hP2 : M 0 36 * M 0 37 ≤ 9999 * 99 := Int.mul_le_mul a3.2.2 a4.2.2 a4.2.1 (by omega)
          generalize M 0 36 * M 0 37 = P at hP hP2 ⊢
          have hL := lt_scale (A := 100) (P := P) (c := c) (n := n) (w := w) c1 (by omega)
          rw [← hsc] at hL
          have b1 : 0 ≤ (c : Int) * (n : Int) := Int.mul_nonneg (by omega) (by omega)
          have b2 : (c : Int) * (n : Int) ≤ 232792560 * 29970 := Int.mul_le_mul (by omega) (by omega) (by omega) (by omega)
          have q1 := Nat.div_le_self n (Nat.gcd n w)
          have q2 := Nat.div_le_self w (Nat.gcd n w)
          generalize n / Nat.gcd n w = n' at q1 hL ⊢
          generalize w / Nat.gcd n w = w' at q2 hL ⊢
          have b3 : 0 ≤ P * (w' : Int) := Int.mul_nonneg hP (by omega)
          have b4 : P * (w' : Int) ≤ 989901 * 20 := Int.mul_le_mul (by omega) (by omega) (by omega) (by omega)
          clear f2 f3
          have hI' : Inv C M' := hI.scr f4 (fun j hj => f5 j (by omega) (by omega))
          have ec : ((232792560 : Nat) : Int) = 232792560 := rfl
          rw [ec] at hL
          by_cases hlt : 100 * ((c : Int) * (n : Int)) < P * 232792560
          · rw [lLT_pos (by omega), lLT_pos ⟨by omega, hL.2 hlt, by omega⟩]
            exact ⟨_, _, _, rfl, rfl, hI'⟩
          · have hlt' := fun z => hlt (hL.1 z)
            rw [lLT_neg (by omega), lLT_neg ⟨by omega, by omega, by omega⟩]
            exact ⟨_, _, _, rfl, rfl, hI'⟩
      · rw [if_neg (by omega)] at hR
        rw [missed_f (k := M 18 p) hp k3 (by omega)]
        simp (disch := omega) only [hR, place_t, bind_some', cEQ_neg, cEQ_pos, cLT_neg, cLT_pos, bnd_some, found3, meets3]
        exact ag_fd hI (by decide)
  · rw [needSeal_bad (by omega)]
    simp (disch := omega) only [place_f, bind_some', cEQ_pos, bnd_some, cLT_pos]
    exact ag_same hI
