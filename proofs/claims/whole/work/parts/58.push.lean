/-! push: what both sides make of the line -/
def pW (M : St) (s k : Nat) : Int := M 9 (5 * s + (k + 1)) - M 9 (5 * s + k)
def pR (M : St) (s k : Nat) : Int := M 10 (5 * s + (k + 1)) - M 10 (5 * s + k)
def pN (M : St) (s k : Nat) (a b : Int) : Int := (M 10 (5 * s + k) * pW M s k) * b + (a - M 9 (5 * s + k) * b) * pR M s k
theorem pW_b {C M : St} {s : Nat} (hd : StfD C M s) (h0 : M 9 (5 * s) = 0 ∧ M 10 (5 * s) = 0) {k : Nat} (hk : (k : Int) < M 8 s) : 1 ≤ pW M s k ∧ pW M s k ≤ 20 ∧ 1 ≤ pR M s k ∧ pR M s k ≤ 999 := by
  have h1 := stf_bd hd h0 (k := k) (by omega)
  have h2 := stf_bd hd h0 (k := k + 1) (by omega)
  have h3 := hd.2.2.2.1 k hk
  unfold pW pR
  omega
theorem pN_b {C M : St} {s : Nat} (hd : StfD C M s) (h0 : M 9 (5 * s) = 0 ∧ M 10 (5 * s) = 0) {a b : Int} {k : Nat} (ha : 0 ≤ a) (hb : 1 ≤ b) (hk : IsLine M s a b k) : 0 ≤ pN M s k a b ∧ pN M s k a b ≤ 19980 * b + 999 * a := by
  have hw := pW_b hd h0 hk.1
  have hB := stf_bd hd h0 (k := k) (by have := hk.1; omega)
  have hx : 0 ≤ a - M 9 (5 * s + k) * b ∧ a - M 9 (5 * s + k) * b ≤ a := by
    have h1 : 0 ≤ M 9 (5 * s + k) * b := Int.mul_nonneg (by omega) (by omega)
    rcases hk.2.1 with h | h
    · subst h
      rw [Nat.add_zero, h0.1, Int.zero_mul]
      omega
    · omega
  unfold pN
  generalize a - M 9 (5 * s + k) * b = d at hx ⊢
  have m1 : 0 ≤ M 10 (5 * s + k) * pW M s k := Int.mul_nonneg (by omega) (by omega)
  have m2 : M 10 (5 * s + k) * pW M s k ≤ 999 * 20 := Int.mul_le_mul (by omega) (by omega) (by omega) (by omega)
  have m3 : 0 ≤ M 10 (5 * s + k) * pW M s k * b := Int.mul_nonneg m1 (by omega)
  have m4 : M 10 (5 * s + k) * pW M s k * b ≤ 19980 * b := Int.mul_le_mul_of_nonneg_right (by omega) (by omega)
  have m5 : 0 ≤ d * pR M s k := Int.mul_nonneg (by omega) (by omega)
  have m6 : d * pR M s k ≤ a * 999 := Int.mul_le_mul hx.2 (by omega) (by omega) (by omega)
  omega
theorem scale_dvd : ∀ w : Nat, w < 21 → 1 ≤ w → 232792560 = (232792560 / w) * w := by decide +kernel
theorem scaledPush_ok {C M : St} {s : Nat} (hs : s < 6) (hd : StfD C M s) (h8 : C (43 + 3 * s) 2 = M 8 s) (h0 : M 9 (5 * s) = 0 ∧ M 10 (5 * s) = 0) {x : Int} {k : Nat} (hx : 0 ≤ x ∧ x ≤ 2147483647) (hk : IsLine M s x 1 k) : ∃ c w : Nat, 1 ≤ c ∧ c ≤ 232792560 ∧ pW M s k = w ∧ 232792560 = c * w ∧ pX3_scaledPush C (43 + 3 * s) x = some ((c : Int) * pN M s k x 1) := by
  have hw := pW_b hd h0 hk.1
  obtain ⟨w, ew⟩ := Int.eq_ofNat_of_zero_le (show 0 ≤ pW M s k by omega)
  have hsc := scale_dvd w (by omega) (by omega)
  have hn4 := hd.2.1
  have hkn := hk.1
  refine ⟨232792560 / w, w, ?_, Nat.div_le_self _ _, ew, hsc, ?_⟩
  · exact (Nat.one_le_div_iff (by omega)).2 (by omega)
  · have hB := stf_bd hd h0 (k := k) (by omega)
    have hB1 := stf_bd hd h0 (k := k + 1) (by omega)
    have hc := hd.2.2.1 k (by omega)
    have hc1 := hd.2.2.1 (k + 1) (by omega)
    have hx1 : M 9 (5 * s + k) ≤ x := by
      rcases hk.2.1 with h | h
      · subst h; rw [Nat.add_zero, h0.1]; omega
      · omega
    have ei : ((k : Int) + 1).toNat = k + 1 := by omega
    have hmx : pJ9_max_7cf53 1 (M 9 (5 * s + (k + 1)) - M 9 (5 * s + k)) = some (w : Int) := by
      rw [show M 9 (5 * s + (k + 1)) - M 9 (5 * s + k) = (w : Int) from ew, max_ok (by omega)]
      congr 1; omega
    have hri : M 10 (5 * s + (k + 1)) - M 10 (5 * s + k) = pR M s k := rfl
    have hdv : (232792560 : Int).tdiv (w : Int) = ((232792560 / w : Nat) : Int) := by
      rw [Int.tdiv_eq_ediv_of_nonneg (by omega)]; rfl
    unfold pX3_scaledPush pX3_rise pX3_width
    rw [wdI_ok (by omega), pieceAt_ok hd h8 h0 (by omega) hk]
    simp (disch := omega) only [bind_some', ldI_ok, Int.toNat_natCast, hc.1, hc.2, wdI_ok, cLT_neg, cLT_pos, ei, hc1.1, hc1.2, hmx, hri, dvL_ok, hdv]
    congr 1
    unfold pN
    rw [ew]
    have hsc' : (232792560 : Int) = ((232792560 / w : Nat) : Int) * (w : Int) := by
      rw [← Int.natCast_mul, ← hsc]; rfl
    generalize ((232792560 / w : Nat) : Int) = c at hsc' ⊢
    rw [hsc']
    grind
theorem layPush_ok {C M : St} {s : Nat} (hs : s < 6) (hd : StfD C M s) (h0 : M 9 (5 * s) = 0 ∧ M 10 (5 * s) = 0) {a b : Int} {k : Nat} (ha : 0 ≤ a ∧ a ≤ 1000000000000000) (hb : 1 ≤ b ∧ b ≤ 10000000000000) (hk : IsLine M s a b k) : ∃ M' : St, pX6_layPush M (s : Int) a b = some M' ∧ M' 0 24 = (((pN M s k a b).toNat / Nat.gcd (pN M s k a b).toNat (pW M s k * b).toNat : Nat) : Int) ∧ M' 0 25 = (((pW M s k * b).toNat / Nat.gcd (pN M s k a b).toNat (pW M s k * b).toNat : Nat) : Int) ∧ (∀ q, q ≠ 0 → M' q = M q) ∧ ∀ j, j ≠ 24 → j ≠ 25 → M' 0 j = M 0 j := by
  have hw := pW_b hd h0 hk.1
  have hN := pN_b hd h0 ha.1 hb.1 hk
  have hn4 := hd.2.1
  have hkn := hk.1
  have hB := stf_bd hd h0 (k := k) (by omega)
  have hB1 := stf_bd hd h0 (k := k + 1) (by omega)
  have hD : 1 ≤ pW M s k * b := by
    have : 1 * 1 ≤ pW M s k * b := Int.mul_le_mul (by omega) hb.1 (by omega) (by omega)
    omega
  have hD2 : pW M s k * b ≤ 20 * 10000000000000 := Int.mul_le_mul (by omega) hb.2 (by omega) (by omega)
  have ei : (((5 * (s : Int)) + (k : Int)) + 1).toNat = 5 * s + (k + 1) := by omega
  have ei' : ((5 * (s : Int)) + (k : Int)).toNat = 5 * s + k := by omega
  have hri : M 10 (5 * s + (k + 1)) - M 10 (5 * s + k) = pR M s k := rfl
  have hwi : M 9 (5 * s + (k + 1)) - M 9 (5 * s + k) = pW M s k := rfl
  have hni : (M 10 (5 * s + k) * pW M s k) * b + (a - M 9 (5 * s + k) * b) * pR M s k = pN M s k a b := rfl
  unfold pX6_layPush pX6_run pX6_rise
  rw [lineOf_ok hs hd h0 (by omega) (by omega) hk]
  simp (disch := omega) only [bind_some', ldI_ok, ei, ei', hri, hwi, wdI_ok, setS, hni]
  obtain ⟨n, en⟩ := Int.eq_ofNat_of_zero_le hN.1
  obtain ⟨d, ed⟩ := Int.eq_ofNat_of_zero_le (show 0 ≤ pW M s k * b by omega)
  clear hni
  rw [en] at hN
  rw [ed] at hD hD2
  rw [en, ed]
  simp only [Int.toNat_natCast]
  have p24 : put (put M 0 24 (n : Int)) 0 25 (d : Int) 0 24 = (n : Int) := by simp [put_sw]
  have p25 : put (put M 0 24 (n : Int)) 0 25 (d : Int) 0 25 = (d : Int) := by simp [put_sw]
  have hg : 0 < Nat.gcd n d := Nat.gcd_pos_of_pos_right n (by omega)
  have hg2 : Nat.gcd n d ≤ d := Nat.gcd_le_right n (by omega)
  have p25' : ∀ z : Int, put (put (put M 0 24 (n : Int)) 0 25 (d : Int)) 0 24 z 0 25 = (d : Int) := fun z => by simp [put_sw]
  rw [p24, p25, gcdM_ok (by omega) (by omega), bind_some', dvL_ok (by omega), p25', dvL_ok (by omega), Int.tdiv_eq_ediv_of_nonneg (by omega), Int.tdiv_eq_ediv_of_nonneg (by omega), ← Int.natCast_ediv, ← Int.natCast_ediv]
  refine ⟨_, rfl, by simp [put_sw], by simp [put_sw], fun q hq => ?_, fun j h1 h2 => ?_⟩
  · rw [put_ne hq, put_ne hq, put_ne hq, put_ne hq]
  · simp [put_sw, h1, h2]
/-- the same fraction, told twice over -/
theorem low_mul {c n d : Nat} (hc : 1 ≤ c) : c * n / Nat.gcd (c * n) (c * d) = n / Nat.gcd n d := by
  rw [Nat.gcd_mul_left, Nat.mul_div_mul_left _ _ (by omega)]
theorem low_low {n d : Nat} (h : 0 < d) : Nat.gcd (n / Nat.gcd n d) (d / Nat.gcd n d) = 1 := Nat.coprime_div_gcd_div_gcd (Nat.gcd_pos_of_pos_right n h)
/-- memories that differ in what is no part of the relation -/
theorem Inv.scr {C M M' : St} (h : Inv C M) (hq : ∀ q, q ≠ 0 → M' q = M q) (h0 : ∀ j, j ≤ 4 ∨ (34 ≤ j ∧ j ≤ 37) → M' 0 j = M 0 j) : Inv C M' := by
  obtain ⟨h1, h2, h3, h4, h5, h6, h7⟩ := h
  refine ⟨h1.congr (fun _ _ _ => rfl) (hq _ (by decide)) (hq _ (by decide)), h2.congr (fun _ _ _ => rfl) (hq _ (by decide)) (hq _ (by decide)), h3.congr (fun _ _ _ => rfl) (fun q a b => hq q (by omega)), h4.congr (fun _ _ _ => rfl) rfl (fun q a b => hq q (by omega)) (hq _ (by decide)), ?_, ?_, ?_⟩
  · unfold ISet at h5 ⊢
    rw [h0 34 (by omega), h0 35 (by omega), h0 36 (by omega), h0 37 (by omega)]
    exact h5
  · unfold ITold at h6 ⊢
    rw [h0 2 (by omega), h0 3 (by omega), h0 4 (by omega), h0 0 (by omega), hq 1 (by decide)]
    exact h6
  · unfold IZero at h7 ⊢
    rw [hq 15 (by decide), hq 16 (by decide)]
    exact h7
theorem e_push : ca_10 Inv := by
  intro C M x1 x2 hI hx1 hx2
  unfold in32 at hx1 hx2
  unfold pX5_push pX6_push pX3_isMissing
  by_cases h1 : 0 ≤ x1 ∧ x1 ≤ 5
  · by_cases h2 : 0 ≤ x2 ∧ x2 ≤ 99
    · obtain ⟨s, rfl⟩ := Int.eq_ofNat_of_zero_le h1.1
      have hs : s < 6 := by omega
      obtain ⟨z1, z2, h⟩ := hI.2.2.1 s hs
      simp (disch := omega) only [isStuff_t, within_t, in_t, bind_some', cEQ_neg, ldA_ok, Int.toNat_natCast]
      rcases h with ⟨k1, k2⟩ | ⟨k1, k2, hd⟩
      · rw [needStuff_no hs k1]
        simp (disch := omega) only [k2, cEQ_pos, cEQ_neg, bind_some', bnd_some, found1, cLT_pos]
        exact ag_fd hI (by decide)
      · rw [needStuff_ok hs k1]
        have hn := hd.1
        have hn4 := hd.2.1
        obtain ⟨k, hk⟩ := line_ex hd x2 1
        obtain ⟨c, w, c1, c2, ew, hsc, hS⟩ := scaledPush_ok hs hd k2 ⟨z1, z2⟩ (by omega) hk
        obtain ⟨M', e1, e2, e3, e4, e5⟩ := layPush_ok hs hd ⟨z1, z2⟩ (by omega) (by omega) hk
        have hN := pN_b hd ⟨z1, z2⟩ h2.1 (by omega) hk
        have hw := pW_b hd ⟨z1, z2⟩ hk.1
        obtain ⟨n, en⟩ := Int.eq_ofNat_of_zero_le hN.1
        rw [en] at hN hS e2 e3
        rw [ew, Int.mul_one, Int.toNat_natCast, Int.toNat_natCast] at e2 e3
        simp (disch := omega) only [k2, cEQ_pos, cEQ_neg, bind_some', bnd_some, cLT_neg, hS, wdI_ok, e1, e2, e3]
        have hcn : c * n ≤ 232792560 * 118881 := Nat.mul_le_mul c2 (by omega)
        have hg : 0 < Nat.gcd n w := Nat.gcd_pos_of_pos_right n (by omega)
        have q1 := Nat.div_le_self n (Nat.gcd n w)
        have q2 := Nat.div_le_self w (Nat.gcd n w)
        have q3 : 0 < w / Nat.gcd n w := Nat.div_pos (Nat.gcd_le_right n (by omega)) hg
        rw [← Int.natCast_mul, show (232792560 : Int) = ((c * w : Nat) : Int) by rw [← hsc]; rfl]
        rw [tellC_ok (by omega) (by omega) (Or.inr (by omega)), fractionM_ok (by omega) (by omega) (Or.inr q3)]
        refine ⟨_, _, _, rfl, rfl, ?_⟩
        unfold tlC tlM
        rw [low_mul c1, low_low (by omega), Nat.div_one, Nat.div_one]
        have : c * w / Nat.gcd (c * n) (c * w) = w / Nat.gcd n w := by
          rw [Nat.gcd_mul_left, Nat.mul_div_mul_left _ _ (by omega)]
        rw [this]
        exact Inv_tell (hI.scr e4 (fun j hj => e5 j (by omega) (by omega))) _ _
    · simp (disch := omega) only [isStuff_t, within_f, in_f, bind_some', cEQ_neg, cEQ_pos]
      rw [needStuff_bad (by omega)]
      simp (disch := omega) only [bnd_some, cLT_pos]
      exact ag_same hI
  · by_cases h2 : 0 ≤ x2 ∧ x2 ≤ 99
    · simp (disch := omega) only [isStuff_f, in_t, bind_some', cEQ_pos]
      rw [needStuff_bad (by omega)]
      simp (disch := omega) only [bnd_some, cLT_pos]
      exact ag_same hI
    · simp (disch := omega) only [isStuff_f, in_f, bind_some', cEQ_pos]
      rw [needStuff_bad (by omega)]
      simp (disch := omega) only [bnd_some, cLT_pos]
      exact ag_same hI
