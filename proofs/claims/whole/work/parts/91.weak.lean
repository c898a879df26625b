/-! weakest: which fraction is less -/
def lsR (p q r s : Nat) (tn : Int) : Int := if tn = 0 then (if p * s < r * q then 1 else 0) else (if r * q < p * s then 1 else 0)
theorem div_lt_cross {p q r s : Nat} (hq : 0 < q) (hs : 0 < s) (h : p / q < r / s) : p * s < r * q := by
  have h1 : p < q * (p / q + 1) := Nat.lt_mul_div_succ p hq
  have h2 : r / s * s ≤ r := Nat.div_mul_le_self r s
  have h3 : q * (p / q + 1) ≤ q * (r / s) := Nat.mul_le_mul_left q h
  have h4 : p * s < q * (r / s) * s := Nat.mul_lt_mul_of_pos_right (by omega) hs
  have h5 : q * (r / s) * s ≤ q * r := by rw [Nat.mul_assoc]; exact Nat.mul_le_mul_left q h2
  rw [Nat.mul_comm r q]; omega
theorem isLess_step {p q r s : Nat} {tn : Int} {k : Int → Int → Int → Int → Int → Option Int} (hq : 0 < q) (hs : 0 < s) (ht : tn = 0 ∨ tn = 1) (hp : p ≤ 9223372036854775807) (hq2 : q ≤ 9223372036854775807) (hr : r ≤ 9223372036854775807) (hs2 : s ≤ 9223372036854775807) : pX6_isLess_17B k (p : Int) (q : Int) (r : Int) (s : Int) tn = if p / q = r / s ∧ p % q ≠ 0 ∧ r % s ≠ 0 then k (q : Int) ((p % q : Nat) : Int) (s : Int) ((r % s : Nat) : Int) (1 - tn) else some (lsR p q r s tn) := by
  have d1 : ((p : Int).tdiv (q : Int)) = ((p / q : Nat) : Int) := by rw [Int.tdiv_eq_ediv_of_nonneg (by omega)]; rfl
  have d2 : ((r : Int).tdiv (s : Int)) = ((r / s : Nat) : Int) := by rw [Int.tdiv_eq_ediv_of_nonneg (by omega)]; rfl
  have m1 : ((p : Int).tmod (q : Int)) = ((p % q : Nat) : Int) := by rw [Int.tmod_eq_emod_of_nonneg (by omega)]; rfl
  have m2 : ((r : Int).tmod (s : Int)) = ((r % s : Nat) : Int) := by rw [Int.tmod_eq_emod_of_nonneg (by omega)]; rfl
  have b1 := Nat.div_le_self p q
  have b2 := Nat.div_le_self r s
  have b3 := Nat.mod_le p q
  have b4 := Nat.mod_le r s
  have hlt : p / q < r / s → p * s < r * q := div_lt_cross hq hs
  have hgt : r / s < p / q → r * q < p * s := div_lt_cross hs hq
  have ep : p = q * (p / q) + p % q := (Nat.div_add_mod p q).symm
  have er : r = s * (r / s) + r % s := (Nat.div_add_mod r s).symm
  generalize p / q = A at *
  generalize r / s = B at *
  generalize p % q = P at *
  generalize r % s = R at *
  have h96 : (A = B → P = 0 ∨ R = 0) → pX6_isLess_96 (p : Int) (q : Int) (r : Int) (s : Int) tn = some (lsR p q r s tn) := by
    intro hh
    unfold pX6_isLess_96 pX6_isLess_155 pX6_isLess_172 pX6_isLess_129
    rw [dvL_ok (by omega), d1, dvL_ok (by omega), d2]
    by_cases e : A = B
    · have e1 : p * s = q * A * s + P * s := by rw [← Nat.add_mul, ← ep]
      have e2 : r * q = q * A * s + R * q := by
        have : s * A * q = q * A * s := by grind
        rw [← this, ← Nat.add_mul, e, ← er]
      have hz := hh e
      rw [lEQ_pos (by omega), rmL_ok (by omega), m1, rmL_ok (by omega), m2]
      unfold lsR
      by_cases z1 : P = 0
      · have y1 : P * s = 0 := by rw [z1, Nat.zero_mul]
        rw [lEQ_pos (by omega)]
        by_cases z2 : R = 0
        · have y2 : R * q = 0 := by rw [z2, Nat.zero_mul]
          rw [lEQ_pos (by omega), cEQ_pos (by omega), if_neg (show ¬ p * s < r * q by omega), if_neg (show ¬ r * q < p * s by omega)]
          simp
        · have y2 : 0 < R * q := Nat.mul_pos (by omega) hq
          rw [lEQ_neg (by omega), cEQ_neg (by omega), if_pos (show p * s < r * q by omega), if_neg (show ¬ r * q < p * s by omega)]
          rcases ht with rfl | rfl
          · rw [cEQ_neg (by omega), if_pos rfl]
          · rw [cEQ_pos (by omega), if_neg (by omega)]
      · have z2 : R = 0 := by omega
        have y1 : 0 < P * s := Nat.mul_pos (by omega) hs
        have y2 : R * q = 0 := by rw [z2, Nat.zero_mul]
        rw [lEQ_neg (by omega), rmL_ok (by omega), m2, lEQ_pos (by omega), cEQ_neg (by omega), if_neg (show ¬ p * s < r * q by omega), if_pos (show r * q < p * s by omega)]
        rcases ht with rfl | rfl
        · rw [cEQ_pos (by omega), if_pos rfl]
        · rw [cEQ_neg (by omega), if_neg (by omega)]
    · rw [lEQ_neg (by omega), dvL_ok (by omega), d1, dvL_ok (by omega), d2]
      unfold lsR
      by_cases hl : A < B
      · have c1 := hlt hl
        rw [lLT_pos (by omega), if_pos c1, if_neg (show ¬ r * q < p * s by omega)]
        rcases ht with rfl | rfl
        · rw [cEQ_neg (by omega), if_pos rfl]
        · rw [cEQ_pos (by omega), if_neg (by omega)]
      · have c1 := hgt (by omega)
        rw [lLT_neg (by omega), if_neg (show ¬ p * s < r * q by omega), if_pos c1]
        rcases ht with rfl | rfl
        · rw [cEQ_pos (by omega), if_pos rfl]
        · rw [cEQ_neg (by omega), if_neg (by omega)]
  unfold pX6_isLess_17B pX6_isLess_91
  rw [dvL_ok (by omega), d1, dvL_ok (by omega), d2]
  by_cases e : A = B
  · rw [lEQ_pos (by omega), rmL_ok (by omega), m1]
    by_cases z1 : P = 0
    · rw [lEQ_pos (by omega), h96 (fun _ => Or.inl z1), if_neg (by omega)]
    · rw [lEQ_neg (by omega), rmL_ok (by omega), m2]
      by_cases z2 : R = 0
      · rw [lEQ_pos (by omega), h96 (fun _ => Or.inr z2), if_neg (by omega)]
      · rw [lEQ_neg (by omega), rmL_ok (by omega), m1, rmL_ok (by omega), m2, if_pos ⟨e, z1, z2⟩]
        rcases ht with rfl | rfl
        · rw [cEQ_pos (by omega)]; rfl
        · rw [cEQ_neg (by omega)]; rfl
  · rw [lEQ_neg (by omega), h96 (fun h => absurd h e), if_neg (by omega)]
theorem lsR_step {p q r s : Nat} {tn : Int} (ht : tn = 0 ∨ tn = 1) (e : p / q = r / s) : lsR q (p % q) s (r % s) (1 - tn) = lsR p q r s tn := by
  have ep : p = q * (p / q) + p % q := (Nat.div_add_mod p q).symm
  have er : r = s * (p / q) + r % s := by rw [e]; exact (Nat.div_add_mod r s).symm
  have e1 : p * s = q * (p / q) * s + p % q * s := by rw [← Nat.add_mul, ← ep]
  have e2 : r * q = q * (p / q) * s + r % s * q := by
    have : s * (p / q) * q = q * (p / q) * s := by grind
    rw [← this, ← Nat.add_mul, ← er]
  have c1 := Nat.mul_comm s (p % q)
  have c2 := Nat.mul_comm q (r % s)
  unfold lsR
  generalize p % q = P at *
  generalize r % s = R at *
  generalize q * (p / q) * s = X at *
  rcases ht with rfl | rfl
  · rw [if_neg (by omega), if_pos rfl]
    by_cases h : p * s < r * q
    · rw [if_pos h, if_pos (by omega)]
    · rw [if_neg h, if_neg (by omega)]
  · rw [if_pos (show (1 : Int) - 1 = 0 by omega), if_neg (show ¬ (1 : Int) = 0 by omega)]
    by_cases h : r * q < p * s
    · rw [if_pos h, if_pos (by omega)]
    · rw [if_neg h, if_neg (by omega)]
theorem isLess_lo : ∀ (t n p q r s : Nat) (tn : Int), (tn = 0 ∨ tn = 1) → t < n → q < p → 0 < q → 0 < s → p ≤ 9223372036854775807 → r ≤ 9223372036854775807 → s ≤ 9223372036854775807 → p * q < 2 ^ t → lo5 pX6_isLess_17B n (p : Int) (q : Int) (r : Int) (s : Int) tn = some (lsR p q r s tn)
  | 0, _, p, q, _, _, _, _, _, hqp, hq, _, _, _, _, hpq => by
    have : 0 < p * q := Nat.mul_pos (by omega) hq
    simp at hpq
    omega
  | t + 1, 0, _, _, _, _, _, _, hn, _, _, _, _, _, _, _ => by omega
  | t + 1, n + 1, p, q, r, s, tn, ht, hn, hqp, hq, hs, hp, hr, hs2, hpq => by
    have hrow : lo5 pX6_isLess_17B (n + 1) (p : Int) (q : Int) (r : Int) (s : Int) tn = pX6_isLess_17B (lo5 pX6_isLess_17B n) (p : Int) (q : Int) (r : Int) (s : Int) tn := rfl
    rw [hrow, isLess_step hq hs ht hp (by omega) hr hs2]
    by_cases hc : p / q = r / s ∧ p % q ≠ 0 ∧ r % s ≠ 0
    · rw [if_pos hc, ← lsR_step ht hc.1]
      have b4 := Nat.mod_lt r hs
      exact isLess_lo t n q (p % q) s (r % s) (1 - tn) (by omega) (by omega) (Nat.mod_lt p hq) (Nat.pos_of_ne_zero hc.2.1) (Nat.pos_of_ne_zero hc.2.2) (by omega) hs2 (Nat.le_trans (Nat.le_of_lt b4) hs2) (euclid_half hqp hq hpq)
    · rw [if_neg hc]
theorem isLess_ok {p q r s : Nat} (hq : 0 < q) (hs : 0 < s) (hp : p ≤ 9223372036854775807) (hq2 : q ≤ 9223372036854775807) (hr : r ≤ 9223372036854775807) (hs2 : s ≤ 9223372036854775807) : pX6_isLess (p : Int) (q : Int) (r : Int) (s : Int) = some (if p * s < r * q then 1 else 0) := by
  have e0 : some (if p * s < r * q then (1 : Int) else 0) = some (lsR p q r s 0) := by unfold lsR; rw [if_pos rfl]
  rw [e0]
  have hrow : pX6_isLess (p : Int) (q : Int) (r : Int) (s : Int) = pX6_isLess_17B (lo5 pX6_isLess_17B 4095) (p : Int) (q : Int) (r : Int) (s : Int) 0 := rfl
  rw [hrow, isLess_step hq hs (Or.inl rfl) hp hq2 hr hs2]
  by_cases hc : p / q = r / s ∧ p % q ≠ 0 ∧ r % s ≠ 0
  · rw [if_pos hc, ← lsR_step (Or.inl rfl) hc.1]
    have b3 := Nat.mod_lt p hq
    have b4 := Nat.mod_lt r hs
    exact isLess_lo 126 4095 q (p % q) s (r % s) (1 - 0) (by omega) (by omega) b3 (Nat.pos_of_ne_zero hc.2.1) (Nat.pos_of_ne_zero hc.2.2) hq2 hs2 (Nat.le_trans (Nat.le_of_lt b4) hs2) (prod_126 hq2 (Nat.le_trans (Nat.le_of_lt b3) hq2))
  · rw [if_neg hc]
