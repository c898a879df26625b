/-! the push at a whole number, from both sides: one is G times the other -/
theorem push_both {C M : St} {s : Nat} (hs : s < 6) (hd : StfD C M s) (h8 : C (43 + 3 * s) 2 = M 8 s) (h0 : M 9 (5 * s) = 0 ∧ M 10 (5 * s) = 0) {x : Int} (hx : 0 ≤ x ∧ x ≤ 20) : ∃ (n w G : Int) (M' : St), pX3_scaledPush C (43 + 3 * s) x = some (G * n) ∧ pX6_layPush M (s : Int) x 1 = some M' ∧ M' 0 24 = n ∧ M' 0 25 = w ∧ (∀ q, q ≠ 0 → M' q = M q) ∧ (∀ j, j ≠ 24 → j ≠ 25 → M' 0 j = M 0 j) ∧ 0 ≤ n ∧ n ≤ 39960 ∧ 1 ≤ w ∧ w ≤ 20 ∧ 0 < G ∧ G ≤ 232792560 ∧ G * w = 232792560 := by
  obtain ⟨k, hkl⟩ := line_ex hd x 1
  obtain ⟨c, w, c1, c2, ew, hsc, hS⟩ := scaledPush_ok hs hd h8 h0 (x := x) (by omega) hkl
  obtain ⟨M', f1, f2, f3, f4, f5⟩ := layPush_ok hs hd h0 (a := x) (b := 1) (by omega) (by omega) hkl
  have hN := pN_b hd h0 (a := x) (by omega) (by omega) hkl
  have hw := pW_b hd h0 hkl.1
  obtain ⟨n, en⟩ := Int.eq_ofNat_of_zero_le hN.1
  rw [en] at hN hS f2 f3
  rw [ew, Int.mul_one, Int.toNat_natCast, Int.toNat_natCast] at f2 f3
  have hg : 0 < Nat.gcd n w := Nat.gcd_pos_of_pos_right n (by omega)
  have e1 : Nat.gcd n w * (n / Nat.gcd n w) = n := Nat.mul_div_cancel' (Nat.gcd_dvd_left n w)
  have e2 : Nat.gcd n w * (w / Nat.gcd n w) = w := Nat.mul_div_cancel' (Nat.gcd_dvd_right n w)
  have q1 := Nat.div_le_self n (Nat.gcd n w)
  have q2 := Nat.div_le_self w (Nat.gcd n w)
  have q3 : 0 < w / Nat.gcd n w := Nat.div_pos (Nat.gcd_le_right n (by omega)) hg
  generalize n / Nat.gcd n w = n' at *
  generalize w / Nat.gcd n w = w' at *
  have hG : (c * Nat.gcd n w) * w' = 232792560 := by rw [Nat.mul_assoc, e2, ← hsc]
  have hGp : 0 < c * Nat.gcd n w := Nat.mul_pos (by omega) hg
  have hGl : c * Nat.gcd n w ≤ 232792560 := by
    have := Nat.le_mul_of_pos_right (c * Nat.gcd n w) q3
    omega
  have hcn : (c : Int) * (n : Int) = ((c * Nat.gcd n w : Nat) : Int) * (n' : Int) := by
    rw [← Int.natCast_mul, ← Int.natCast_mul, Nat.mul_assoc, e1]
  refine ⟨n', w', ((c * Nat.gcd n w : Nat) : Int), M', by rw [hS, hcn], f1, f2, f3, f4, f5, by omega, by omega, by omega, by omega, by omega, by omega, ?_⟩
  rw [← Int.natCast_mul, hG]; rfl
