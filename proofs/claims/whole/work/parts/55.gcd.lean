/-! greatest common divisors, and a fraction told -/
theorem euclid_half {a b : Nat} (h : b < a) (hb : 0 < b) {t : Nat} (ht : a * b < 2 ^ (t + 1)) : b * (a % b) < 2 ^ t := by
  have h1 : a % b < b := Nat.mod_lt _ hb
  have h2 : b + a % b ≤ a := by
    have := Nat.div_add_mod a b
    have h3 : 1 ≤ a / b := (Nat.one_le_div_iff hb).2 (Nat.le_of_lt h)
    have := Nat.le_mul_of_pos_right b h3
    omega
  have h4 : 2 * (a % b) ≤ a := by omega
  have h5 : 2 * (b * (a % b)) ≤ a * b := by
    rw [show 2 * (b * (a % b)) = (2 * (a % b)) * b by rw [Nat.mul_comm b, Nat.mul_assoc]]
    exact Nat.mul_le_mul_right b h4
  rw [Nat.pow_succ] at ht
  omega
theorem gM_row {k : Int → Int → Option Int} {x y : Int} : pX6_gcd_28B k x y = lEQ y 0 (some x) (rmL x y (fun z => k y z)) := rfl
theorem gC_row {k : Int → Int → Int → Option Int} {x y j : Int} : pX5_commonDivisor_9B k x y j = cLT j 200 (lEQ y 0 (some x) (rmL x y (fun z => k y z (j + 1)))) (some x) := rfl
theorem gcdM_lo : ∀ t a b n : Nat, b < a → a ≤ 9223372036854775807 → a * b < 2 ^ t → t < n → lo2 pX6_gcd_28B n (a : Int) (b : Int) = some ((Nat.gcd a b : Nat) : Int)
  | t, a, b, 0, _, _, _, hn => by omega
  | t, a, b, n + 1, h, ha, ht, hn => by
    show pX6_gcd_28B (lo2 pX6_gcd_28B n) (a : Int) (b : Int) = _
    rw [gM_row]
    by_cases hb : b = 0
    · subst hb
      rw [lEQ_pos (by omega), Nat.gcd_zero_right]
    · rw [lEQ_neg (by omega), rmL_ok (by omega), Int.tmod_eq_emod_of_nonneg (by omega), ← Int.natCast_emod]
      have hm : a % b < b := Nat.mod_lt _ (by omega)
      cases t with
      | zero => have : 1 ≤ a * b := Nat.mul_pos (by omega) (by omega); omega
      | succ t =>
        rw [gcdM_lo t b (a % b) n hm (by omega) (euclid_half h (by omega) ht) (by omega)]
        rw [Nat.gcd_comm b, ← Nat.gcd_rec, Nat.gcd_comm]
theorem gcdC_lo : ∀ t a b x n : Nat, b < a → a ≤ 9223372036854775807 → a * b < 2 ^ t → t < n → x + t < 200 → lo3 pX5_commonDivisor_9B n (a : Int) (b : Int) (x : Int) = some ((Nat.gcd a b : Nat) : Int)
  | t, a, b, x, 0, _, _, _, hn, _ => by omega
  | t, a, b, x, n + 1, h, ha, ht, hn, hx => by
    show pX5_commonDivisor_9B (lo3 pX5_commonDivisor_9B n) (a : Int) (b : Int) (x : Int) = _
    rw [gC_row]
    rw [cLT_pos (by omega)]
    by_cases hb : b = 0
    · subst hb
      rw [lEQ_pos (by omega), Nat.gcd_zero_right]
    · rw [lEQ_neg (by omega), rmL_ok (by omega), Int.tmod_eq_emod_of_nonneg (by omega), ← Int.natCast_emod]
      have hm : a % b < b := Nat.mod_lt _ (by omega)
      cases t with
      | zero => have : 1 ≤ a * b := Nat.mul_pos (by omega) (by omega); omega
      | succ t =>
        have := gcdC_lo t b (a % b) (x + 1) n hm (by omega) (euclid_half h (by omega) ht) (by omega) (by omega)
        rw [show ((x : Int) + 1) = ((x + 1 : Nat) : Int) by omega, this]
        rw [Nat.gcd_comm b, ← Nat.gcd_rec, Nat.gcd_comm]
theorem prod_126 {a b : Nat} (ha : a ≤ 9223372036854775807) (hb : b ≤ 9223372036854775807) : a * b < 2 ^ 126 := by
  have := Nat.mul_le_mul ha hb
  omega
theorem FU_200 : 200 < FU := by decide
theorem gcdM_ok {a b : Nat} (ha : a ≤ 9223372036854775807) (hb : b ≤ 9223372036854775807) : pX6_gcd (a : Int) (b : Int) = some ((Nat.gcd a b : Nat) : Int) := by
  unfold pX6_gcd pX6_gcd_12 pX6_gcd_26
  rw [lLT_neg (by omega), lLT_neg (by omega)]
  by_cases h : b < a
  · exact gcdM_lo 126 a b FU h ha (prod_126 ha hb) (by have := FU_200; omega)
  · obtain ⟨n, hn⟩ : ∃ n, FU = n + 1 := ⟨FU - 1, by have := FU_200; omega⟩
    have h200 := FU_200
    rw [hn] at h200 ⊢
    show pX6_gcd_28B (lo2 pX6_gcd_28B n) (a : Int) (b : Int) = _
    rw [gM_row]
    by_cases hb0 : b = 0
    · subst hb0
      rw [lEQ_pos (by omega), Nat.gcd_zero_right]
    · rw [lEQ_neg (by omega), rmL_ok (by omega), Int.tmod_eq_emod_of_nonneg (by omega), ← Int.natCast_emod]
      have hm : a % b < b := Nat.mod_lt _ (by omega)
      rw [gcdM_lo 126 b (a % b) n hm (by omega) (prod_126 hb (by omega)) (by omega)]
      rw [Nat.gcd_comm b, ← Nat.gcd_rec, Nat.gcd_comm]
theorem gcdC_ok {a b : Nat} (ha : a ≤ 9223372036854775807) (hb : b ≤ 9223372036854775807) : pX5_commonDivisor (a : Int) (b : Int) = some ((Nat.gcd a b : Nat) : Int) := by
  unfold pX5_commonDivisor
  by_cases h : b < a
  · exact gcdC_lo 126 a b 0 FU h ha (prod_126 ha hb) (by have := FU_200; omega) (by omega)
  · obtain ⟨n, hn⟩ : ∃ n, FU = n + 1 := ⟨FU - 1, by have := FU_200; omega⟩
    have h200 := FU_200
    rw [hn] at h200 ⊢
    show pX5_commonDivisor_9B (lo3 pX5_commonDivisor_9B n) (a : Int) (b : Int) 0 = _
    rw [gC_row]
    rw [cLT_pos (by omega)]
    by_cases hb0 : b = 0
    · subst hb0
      rw [lEQ_pos (by omega), Nat.gcd_zero_right]
    · rw [lEQ_neg (by omega), rmL_ok (by omega), Int.tmod_eq_emod_of_nonneg (by omega), ← Int.natCast_emod]
      have hm : a % b < b := Nat.mod_lt _ (by omega)
      have := gcdC_lo 126 b (a % b) 1 n hm (by omega) (prod_126 hb (by omega)) (by omega) (by omega)
      rw [show ((0 : Int) + 1) = ((1 : Nat) : Int) by omega, this]
      rw [Nat.gcd_comm b, ← Nat.gcd_rec, Nat.gcd_comm]
/-- the memory after a fraction is told -/
def tlC (C : St) (a b : Nat) : St := put (put C 0 12 ((a / Nat.gcd a b : Nat) : Int)) 0 13 ((b / Nat.gcd a b : Nat) : Int)
def tlM (M : St) (a b : Nat) : St := put (put M 0 3 ((a / Nat.gcd a b : Nat) : Int)) 0 4 ((b / Nat.gcd a b : Nat) : Int)
theorem maxL_one {g : Nat} (h : 1 ≤ g) (h2 : g ≤ 9223372036854775807) : pJ9_max_f86c9 1 (g : Int) = some (g : Int) := by
  unfold pJ9_max_f86c9
  rw [if_pos (by unfold in64; omega)]
  congr 1; omega
theorem tellC_ok {C : St} {a b : Nat} (ha : a ≤ 9223372036854775807) (hb : b ≤ 9223372036854775807) (h : 0 < a ∨ 0 < b) : pX5_tell C (a : Int) (b : Int) = some (tlC C a b) := by
  have hg : 0 < Nat.gcd a b := by rcases h with h | h; exact Nat.gcd_pos_of_pos_left b h; exact Nat.gcd_pos_of_pos_right a h
  have hg2 : Nat.gcd a b ≤ 9223372036854775807 := by
    rcases h with h | h
    · exact Nat.le_trans (Nat.gcd_le_left b h) ha
    · exact Nat.le_trans (Nat.gcd_le_right a h) hb
  unfold pX5_tell tlC
  rw [gcdC_ok ha hb, bind_some', maxL_one hg hg2, bind_some', dvL_ok (by omega), Int.tdiv_eq_ediv_of_nonneg (by omega), ← Int.natCast_ediv]
  simp only [setS]
  rw [dvL_ok (by omega), Int.tdiv_eq_ediv_of_nonneg (by omega), ← Int.natCast_ediv]
theorem fractionM_ok {M : St} {a b : Nat} {v : Int} (ha : a ≤ 9223372036854775807) (hb : b ≤ 9223372036854775807) (h : 0 < a ∨ 0 < b) : pX6_fraction M (a : Int) (b : Int) v = some (v, tlM M a b) := by
  have hg : 0 < Nat.gcd a b := by rcases h with h | h; exact Nat.gcd_pos_of_pos_left b h; exact Nat.gcd_pos_of_pos_right a h
  have hg2 : Nat.gcd a b ≤ 9223372036854775807 := by
    rcases h with h | h
    · exact Nat.le_trans (Nat.gcd_le_left b h) ha
    · exact Nat.le_trans (Nat.gcd_le_right a h) hb
  unfold pX6_fraction tlM
  rw [gcdM_ok ha hb, bind_some', dvL_ok (by omega), Int.tdiv_eq_ediv_of_nonneg (by omega), ← Int.natCast_ediv]
  simp only [setS]
  rw [dvL_ok (by omega), Int.tdiv_eq_ediv_of_nonneg (by omega), ← Int.natCast_ediv]
/-- the same fraction told on both sides, whatever its two forms -/
theorem Inv_tell {C M : St} (h : Inv C M) (u v : Int) : Inv (put (put C 0 12 u) 0 13 v) (put (put M 0 3 u) 0 4 v) := by
  obtain ⟨h1, h2, h3, h4, h5, h6, h7⟩ := h
  refine ⟨h1.congr (fun q a b => by rw [put_ne (by omega), put_ne (by omega)]) (by rw [put_ne (by decide), put_ne (by decide)]) (by rw [put_ne (by decide), put_ne (by decide)]), h2.congr (fun q a b => by rw [put_ne (by omega), put_ne (by omega)]) (by rw [put_ne (by decide), put_ne (by decide)]) (by rw [put_ne (by decide), put_ne (by decide)]), h3.congr (fun q a b => by rw [put_ne (by omega), put_ne (by omega)]) (fun q a b => by rw [put_ne (by omega), put_ne (by omega)]), h4.congr (fun q a b => by rw [put_ne (by omega), put_ne (by omega)]) (by rw [put_ne (by decide), put_ne (by decide)]) (fun q a b => by rw [put_ne (by omega), put_ne (by omega)]) (by rw [put_ne (by decide), put_ne (by decide)]), ?_, ?_, ?_⟩
  · unfold ISet at h5 ⊢
    simp only [put_sw]
    simpa using h5
  · unfold ITold at h6 ⊢
    simp only [put_sw]
    simpa using ⟨h6.1, h6.2.2.2.1, h6.2.2.2.2⟩
  · unfold IZero at h7 ⊢
    simp only [put_sw]
    simpa using h7
