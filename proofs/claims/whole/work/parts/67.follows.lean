/-! follows -/
theorem Inv_ask {C M : St} (hI : Inv C M) {p : Nat} (hp : p < 4) {v : Int} : Inv (put C (61 + p) 6 v) (put M 24 p v) := by
  obtain ⟨s1, s2, s3, s4, s5, s6, s7, s8⟩ := hI.2.2.2.1 p hp
  refine Inv_seal hI p hp (fun q a b c => by rw [put_ne c]) (fun p' a b => by rw [put_ne (by omega)]) (fun q a b => by rw [put_ne (by omega)]) (fun q a b p' c d => ?_) ?_ ?_ ?_
  · simp only [put_sw, if_neg (show ¬ (q = 24 ∧ p' = p) from fun z => d z.2)]
  · simp only [SealOk, put_sw]
    have e5 : ¬ (5 = 61 + p) := by omega
    simp [e5]
    exact ⟨s1, s2, s3, s4, s6, s7, s8⟩
  · simp [put_sw]
  · have e0 : ¬ (0 = 61 + p) := by omega
    simp only [put_sw]
    simp [e0]
    exact hI.told
theorem div_scale {A c n w : Nat} (hc : 1 ≤ c) (hw : 0 < w) : A * (n / Nat.gcd n w) / (w / Nat.gcd n w) = A * (c * n) / (c * w) := by
  have hg : 0 < Nat.gcd n w := Nat.gcd_pos_of_pos_right n hw
  have e1 : Nat.gcd n w * (n / Nat.gcd n w) = n := Nat.mul_div_cancel' (Nat.gcd_dvd_left n w)
  have e2 : Nat.gcd n w * (w / Nat.gcd n w) = w := Nat.mul_div_cancel' (Nat.gcd_dvd_right n w)
  generalize n / Nat.gcd n w = n' at *
  generalize w / Nat.gcd n w = w' at *
  generalize Nat.gcd n w = g at *
  subst e1 e2
  rw [show A * (c * (g * n')) = (c * g) * (A * n') by grind, show c * (g * w') = (c * g) * w' by grind]
  exact (Nat.mul_div_mul_left _ _ (Nat.mul_pos (by omega) hg)).symm
theorem e_follows : ca_30 Inv := by
  intro C M x1 x2 x3 hI hx1 hx2 hx3
  unfold in32 at hx1 hx2 hx3
  unfold pX5_follows pX6_follows pX6_follows_26 pX6_follows_27
  by_cases h2 : (1 ≤ x2 ∧ x2 ≤ 9999) ∧ (1 ≤ x3 ∧ x3 ≤ 20)
  · obtain ⟨h2, h3⟩ := h2
    simp (disch := omega) only [in_t, within_t, bind_some', cEQ_neg]
    by_cases h : 0 ≤ x1 ∧ x1 ≤ 3
    · obtain ⟨p, rfl⟩ := Int.eq_ofNat_of_zero_le h.1
      have hp : p < 4 := by omega
      have hs := hI.2.2.2.1 p hp
      rcases hs.kind with ⟨k1, k2⟩ | ⟨k1, k2, k3⟩
      · rw [needSeal_no hp k1, missed_no hp k2]
        simp (disch := omega) only [place_t, bind_some', cEQ_neg, cLT_pos, bnd_some, found1]
        exact ag_fd hI (by decide)
      · rw [needSeal_ok hp ⟨k1, k2⟩]
        by_cases hk : M 18 p = 3
        · rw [missed_t (k := M 18 p) hp k3 (by omega)]
          have s5 : C (61 + p) 6 = M 24 p := hs.2.2.2.2.1
          have hJ := Inv_ask hI hp (v := M 24 p + 1)
          obtain ⟨s, hs6, e1, e2, e3, e4, hd⟩ := SealOk.stf hJ hp (by rw [put_ne (by decide)]; omega)
          have hz := hJ.2.2.1 s hs6
          simp (disch := omega) only [place_t, bind_some', cEQ_neg, cEQ_pos, ldA_ok, ldI_ok, stI_ok, Int.toNat_natCast, Nat.one_mul, cLT_neg, bnd_some, setS, s5, wdI_ok]
          generalize put C (61 + p) 6 (M 24 p + 1) = C1 at *
          generalize put M 24 p (M 24 p + 1) = M1 at *
          have h0 : M1 9 (5 * s) = 0 ∧ M1 10 (5 * s) = 0 := ⟨hz.1, hz.2.1⟩
          obtain ⟨k, hkl⟩ := line_ex hd x3 1
          obtain ⟨c, w, c1, c2, ew, hsc, hS⟩ := scaledPush_ok hs6 hd e4 h0 (x := x3) (by omega) hkl
          obtain ⟨M', f1, f2, f3, f4, f5⟩ := layPush_ok hs6 hd h0 (a := x3) (b := 1) (by omega) (by omega) hkl
          have hN := pN_b hd h0 (a := x3) (by omega) (by omega) hkl
          have hw := pW_b hd h0 hkl.1
          obtain ⟨n, en⟩ := Int.eq_ofNat_of_zero_le hN.1
          rw [en] at hN hS f2 f3
          rw [ew, Int.mul_one, Int.toNat_natCast, Int.toNat_natCast] at f2 f3
          have hst := stuffOf_ok hs6 e2
          have hch := isStf_s hs6
          simp (disch := omega) only [hst, bind_some', chk_ok, hch, hS, e1, f1, f2, f3]
          have hI' : Inv C1 M' := hJ.scr f4 (fun j hj => f5 j (by omega) (by omega))
          have hL := div_scale (A := 10) (c := c) (n := n) (w := w) c1 (by omega)
          rw [← hsc] at hL
          have hg : 0 < Nat.gcd n w := Nat.gcd_pos_of_pos_right n (by omega)
          have q1 := Nat.div_le_self n (Nat.gcd n w)
          have q2 := Nat.div_le_self w (Nat.gcd n w)
          have q3 : 0 < w / Nat.gcd n w := Nat.div_pos (Nat.gcd_le_right n (by omega)) hg
          have hcn : c * n ≤ 232792560 * 39960 := Nat.mul_le_mul c2 (by omega)
          clear f2 f3
          generalize n / Nat.gcd n w = n' at q1 hL ⊢
          generalize w / Nat.gcd n w = w' at q2 q3 hL ⊢
          have dC : ((10 : Int) * ((c : Int) * (n : Int))).tdiv 232792560 = ((10 * (c * n) / 232792560 : Nat) : Int) := by
            rw [← Int.natCast_mul, Int.tdiv_eq_ediv_of_nonneg (by omega)]; rfl
          have dM : ((10 : Int) * (n' : Int)).tdiv (w' : Int) = ((10 * n' / w' : Nat) : Int) := by
            rw [Int.tdiv_eq_ediv_of_nonneg (by omega)]; rfl
          have hcn' : (c : Int) * (n : Int) = ((c * n : Nat) : Int) := (Int.natCast_mul c n).symm
          rw [dvL_ok (by omega), dvL_ok (by omega), dC, dM, hL]
          have hv : 10 * (c * n) / 232792560 ≤ 399600 := by omega
          generalize 10 * (c * n) / 232792560 = v at hv ⊢
          have b1 : 1 * 1 ≤ x2 * x3 := Int.mul_le_mul h2.1 h3.1 (by omega) (by omega)
          have b2 : x2 * x3 ≤ 9999 * 20 := Int.mul_le_mul h2.2 h3.2 (by omega) (by omega)
          generalize x2 * x3 = z at b1 b2 ⊢
          by_cases t2 : (v : Int) < 2 * z
          · by_cases t1 : (v : Int) < z
            · simp (disch := omega) only [lLT_pos]
              exact ⟨_, _, _, rfl, rfl, hI'⟩
            · simp (disch := omega) only [lLT_pos, lLT_neg]
              exact ⟨_, _, _, rfl, rfl, hI'⟩
          · simp (disch := omega) only [lLT_neg]
            exact ⟨_, _, _, rfl, rfl, hI'⟩
        · rw [missed_f (k := M 18 p) hp k3 (by omega)]
          simp (disch := omega) only [place_t, bind_some', cEQ_neg, cLT_neg, bnd_some, ldI_ok, Int.toNat_natCast, found3, meets3]
          exact ag_fd hI (by decide)
    · rw [needSeal_bad (by omega)]
      simp (disch := omega) only [place_f, bind_some', cEQ_pos, bnd_some, cLT_pos]
      exact ag_same hI
  · rw [needSeal_bad (g := 0) (by omega)]
    have hM : ((pX6_in x2 1 9999).bind (fun z1_ => cEQ z1_ 0 (bnd (some ((-1 : Int), M)) (fun z2_ S3_ => cLT z2_ 0 (some (z2_, S3_)) (some (z2_, S3_)))) (some (-1, M)))) = some (-1, M) := by
      rw [in_ok (by omega), bind_some', bnd_some, cLT_pos (by omega)]
      split <;> first | rw [cEQ_pos (by omega)] | rw [cEQ_neg (by omega)]
    by_cases hx : 1 ≤ x2 ∧ x2 ≤ 9999
    · have hx' : ¬ (1 ≤ x3 ∧ x3 ≤ 20) := fun z => h2 ⟨hx, z⟩
      simp (disch := omega) only [in_t, in_f, within_t, within_f, bind_some', cEQ_neg, cEQ_pos, bnd_some, cLT_pos]
      by_cases h : 0 ≤ x1 ∧ x1 ≤ 3
      · simp (disch := omega) only [place_t, bind_some', cEQ_neg]
        exact ag_same hI
      · simp (disch := omega) only [place_f, bind_some', cEQ_pos]
        exact ag_same hI
    · simp (disch := omega) only [in_f, within_f, bind_some', cEQ_neg, cEQ_pos, bnd_some, cLT_pos]
      by_cases h : 0 ≤ x1 ∧ x1 ≤ 3
      · simp (disch := omega) only [place_t, bind_some', cEQ_neg]
        exact ag_same hI
      · simp (disch := omega) only [place_f, bind_some', cEQ_pos]
        exact ag_same hI
