/-! batch -/
def ch : Nat → Nat → Nat
  | _, 0 => 1
  | 0, _ + 1 => 0
  | n + 1, k + 1 => ch n k + ch n (k + 1)
theorem ch_zero {n : Nat} : ch n 0 = 1 := by cases n <;> rfl
theorem ch_succ {n k : Nat} : ch (n + 1) (k + 1) = ch n k + ch n (k + 1) := rfl
theorem ch_big : ∀ n k : Nat, n < k → ch n k = 0
  | 0, 0, h => by omega
  | 0, _ + 1, _ => rfl
  | n + 1, 0, h => by omega
  | n + 1, k + 1, h => by rw [ch_succ, ch_big n k (by omega), ch_big n (k + 1) (by omega)]
theorem ch_step : ∀ n k : Nat, k ≤ n → ch n (k + 1) * (k + 1) = ch n k * (n - k)
  | 0, k, h => by
    have : k = 0 := by omega
    subst this; rfl
  | n + 1, 0, _ => by
    have h := ch_step n 0 (by omega)
    rw [ch_succ, ch_zero, ch_zero] at *
    omega
  | n + 1, k + 1, h => by
    have h1 := ch_step n k (by omega)
    by_cases hk : k + 1 ≤ n
    · have h2 := ch_step n (k + 1) hk
      rw [ch_succ, ch_succ, Nat.add_mul, h2]
      rw [Nat.add_mul, show n + 1 - (k + 1) = n - k by omega, ← h1]
      rw [show n - k = (n - (k + 1)) + 1 by omega, Nat.mul_add (ch n (k + 1)) (n - (k + 1)) 1]
      rw [Nat.mul_add (ch n (k + 1)) (k + 1) 1]
      omega
    · have e : k = n := by omega
      subst e
      rw [ch_big (k + 1) (k + 1 + 1) (by omega)]
      simp
theorem ch_le : ∀ n k : Nat, ch n k ≤ 2 ^ n
  | 0, 0 => by decide
  | 0, _ + 1 => by simp [ch]
  | n + 1, 0 => by rw [ch_zero]; exact Nat.one_le_two_pow
  | n + 1, k + 1 => by
    rw [ch_succ, Nat.pow_succ]
    have := ch_le n k
    have := ch_le n (k + 1)
    omega
theorem ch_pos : ∀ n k : Nat, k ≤ n → 0 < ch n k
  | _, 0, _ => by rw [ch_zero]; decide
  | 0, k + 1, h => by omega
  | n + 1, k + 1, h => by
    rw [ch_succ]
    have := ch_pos n k (by omega)
    omega
theorem pow40 {n : Nat} (h : n ≤ 40) : 2 ^ n ≤ 1099511627776 := Nat.pow_le_pow_right (n := 2) (by decide) h
theorem ch_div {n k : Nat} (h : k < n) (hn : n ≤ 40) : ((ch n k : Int) * ((n : Int) - (k : Int))).tdiv ((k : Int) + 1) = (ch n (k + 1) : Int) ∧ 0 ≤ (ch n k : Int) * ((n : Int) - (k : Int)) ∧ (ch n k : Int) * ((n : Int) - (k : Int)) ≤ 9223372036854775807 := by
  have e1 : ((n : Int) - (k : Int)) = ((n - k : Nat) : Int) := by omega
  have e2 : ((k : Int) + 1) = ((k + 1 : Nat) : Int) := by omega
  rw [e1, e2, ← Int.natCast_mul, Int.tdiv_eq_ediv_of_nonneg (by omega), ← Int.natCast_ediv, ← ch_step n k (by omega), Nat.mul_div_cancel _ (by omega)]
  refine ⟨rfl, by omega, ?_⟩
  have h1 := ch_le n (k + 1)
  have h2 := pow40 hn
  have h3 : ch n (k + 1) * (k + 1) ≤ 1099511627776 * 40 := Nat.mul_le_mul (by omega) (by omega)
  omega
/-- the count of choices, as both sides have it -/
def chz (a b : Int) : Nat := if b < 0 ∨ a < b then 0 else ch a.toNat b.toNat
theorem picks_ok {a b : Int} (h : -40 ≤ a ∧ a ≤ 40 ∧ -40 ≤ b ∧ b ≤ 40) : pX5_picks a b = some (chz a b : Int) := by
  unfold pX5_picks chz
  by_cases hb : b < 0
  · rw [cLT_pos (by omega), if_pos (Or.inl hb)]; rfl
  · rw [cLT_neg (by omega)]
    by_cases ha : a < b
    · rw [cLT_pos (by omega), if_pos (Or.inr ha)]; rfl
    · rw [cLT_neg (by omega), if_neg (by omega)]
      obtain ⟨m, rfl⟩ := Int.eq_ofNat_of_zero_le (show 0 ≤ b by omega)
      obtain ⟨n, rfl⟩ := Int.eq_ofNat_of_zero_le (show 0 ≤ a by omega)
      simp only [Int.toNat_natCast]
      refine lo2_spec (fun o => o = some (ch n m : Int)) (fun (y x : Int) => ∃ j : Nat, x = j ∧ j ≤ m ∧ y = (ch n j : Int)) (fun _ x => ((m : Int) - x).toNat) ?_ FU 1 0 ⟨0, rfl, by omega, by rw [ch_zero]; rfl⟩ (by have := FU_big; omega)
      rintro k y x ⟨j, rfl, hj, rfl⟩ hk
      unfold pX5_picks_16B
      by_cases hlt : j < m
      · obtain ⟨d1, d2, d3⟩ := ch_div (n := n) (k := j) (by omega) (by omega)
        rw [cLT_pos (by omega), wdI_ok (by omega), wdI_ok (by omega), dvL_ok (by omega), d1]
        exact hk _ _ ⟨j + 1, by omega, by omega, rfl⟩ (by omega)
      · have : j = m := by omega
        subst this
        rw [cLT_neg (by omega)]
theorem chosen_ok {a b : Int} (h : -40 ≤ a ∧ a ≤ 40 ∧ -40 ≤ b ∧ b ≤ 40) : pX6_chosen a b = some (chz a b : Int) := by
  have zero : lo2 (pX6_chosen_18B a b) FU 0 1 = some 0 := by
    obtain ⟨n, hn⟩ : ∃ n, FU = n + 1 := ⟨FU - 1, by have := FU_200; omega⟩
    rw [hn]
    show pX6_chosen_18B a b (lo2 (pX6_chosen_18B a b) n) 0 1 = _
    generalize lo2 (pX6_chosen_18B a b) n = k
    unfold pX6_chosen_18B
    rw [lLT_neg (by omega), cLT_if (by omega)]
    split <;> rfl
  unfold pX6_chosen pX6_chosen_9 pX6_chosen_14 chz
  by_cases hb : b < 0
  · rw [cLT_pos (by omega), if_pos (Or.inl hb)]; exact zero
  · rw [cLT_neg (by omega)]
    by_cases ha : a < b
    · rw [cLT_pos (by omega), if_pos (Or.inr ha)]; exact zero
    · rw [cLT_neg (by omega), if_neg (by omega)]
      obtain ⟨m, rfl⟩ := Int.eq_ofNat_of_zero_le (show 0 ≤ b by omega)
      obtain ⟨n, rfl⟩ := Int.eq_ofNat_of_zero_le (show 0 ≤ a by omega)
      simp only [Int.toNat_natCast]
      refine lo2_spec (fun o => o = some (ch n m : Int)) (fun (y x : Int) => ∃ j : Nat, x = j + 1 ∧ j ≤ m ∧ y = (ch n j : Int)) (fun _ x => ((m : Int) + 1 - x).toNat) ?_ FU 1 1 ⟨0, rfl, by omega, by rw [ch_zero]; rfl⟩ (by have := FU_big; omega)
      rintro k y x ⟨j, rfl, hj, rfl⟩ hk
      unfold pX6_chosen_18B
      by_cases hlt : j < m
      · obtain ⟨d1, d2, d3⟩ := ch_div (n := n) (k := j) (by omega) (by omega)
        have hp := ch_pos n j (by omega)
        have h1 := ch_le n j
        have h2 := pow40 (n := n) (by omega)
        rw [cLT_neg (by omega), lLT_pos (by omega), wdI_ok (by omega), wdI_ok (by omega)]
        rw [show ((n : Int) - ((j : Int) + 1) + 1) = (n : Int) - (j : Int) by omega, dvL_ok (by omega), d1]
        exact hk _ _ ⟨j + 1, by omega, by omega, rfl⟩ (by omega)
      · have : j = m := by omega
        subst this
        rw [cLT_pos (by omega)]
theorem chz_le {a b : Int} : chz a b ≤ 2 ^ a.toNat := by
  unfold chz
  split
  · exact Nat.zero_le _
  · exact ch_le _ _
theorem e_batch : ca_33 Inv := by
  intro C M x1 x2 x3 x4 hI hx1 hx2 hx3 hx4
  unfold in32 at hx1 hx2 hx3 hx4
  unfold pX5_batch pX6_batch
  by_cases h1 : 1 ≤ x1 ∧ x1 ≤ 40
  · by_cases h2 : 0 ≤ x2 ∧ x2 ≤ x1
    · have hmn := min_ok (x := 10) (y := x1) (by omega)
      simp (disch := omega) only [within_t, in_t, bind_some', cEQ_neg, hmn]
      by_cases h3 : 1 ≤ x3 ∧ x3 ≤ 10 ∧ x3 ≤ x1
      · simp (disch := omega) only [within_t, in_t, bind_some', cEQ_neg, cLT_neg]
        by_cases h4 : 0 ≤ x4 ∧ x4 ≤ x3
        · simp (disch := omega) only [within_t, in_t, bind_some', cEQ_neg]
          refine lo2_rel (agWW Inv) (fun (a b x y : Int) => a = x ∧ b = y ∧ ∃ n j : Nat, a = n ∧ b = j ∧ n ≤ j * 1099511627776 ∧ (j : Int) ≤ x4 + 1) (fun _ b => (x4 + 1 - b).toNat) ?_ FU 0 0 0 0 ⟨rfl, rfl, 0, 0, rfl, rfl, by omega, by omega⟩ (by have := FU_big; omega)
          rintro k k' a b x y ⟨rfl, rfl, n, j, rfl, rfl, hn, hj⟩ hk
          unfold pX5_batch_53B pX6_batch_52B
          by_cases hlt : (j : Int) ≤ x4
          · rw [cLT_neg (by omega), cLT_neg (by omega), picks_ok (by omega), chosen_ok (by omega), bind_some', bind_some', picks_ok (by omega), chosen_ok (by omega), bind_some', bind_some']
            refine hk _ _ _ _ ⟨rfl, rfl, n + chz x2 j * chz (x1 - x2) (x3 - j), j + 1, by rw [Int.natCast_add, Int.natCast_mul], by omega, ?_, by omega⟩ (by omega)
            have q1 := chz_le (a := x2) (b := (j : Int))
            have q2 := chz_le (a := x1 - x2) (b := x3 - (j : Int))
            have q3 := Nat.mul_le_mul q1 q2
            rw [← Nat.pow_add] at q3
            have q4 := pow40 (n := x2.toNat + (x1 - x2).toNat) (by omega)
            omega
          · rw [cLT_pos (by omega), cLT_pos (by omega), picks_ok (by omega), chosen_ok (by omega), bind_some', bind_some']
            have q1 := chz_le (a := x1) (b := x3)
            have q2 := pow40 (n := x1.toNat) (by omega)
            have q3 : 0 < chz x1 x3 := by
              unfold chz; rw [if_neg (by omega)]; exact ch_pos _ _ (by omega)
            rw [tellC_ok (by omega) (by omega) (Or.inr q3), fractionM_ok (by omega) (by omega) (Or.inr q3)]
            exact ⟨_, _, _, rfl, rfl, Inv_tell hI _ _⟩
        · simp (disch := omega) only [within_f, in_f, bind_some', cEQ_pos]
          exact ag_same hI
      · by_cases h5 : 1 ≤ x3 ∧ x3 ≤ 10
        · simp (disch := omega) only [within_f, in_t, bind_some', cEQ_pos, cEQ_neg, cLT_pos]
          exact ag_same hI
        · simp (disch := omega) only [within_f, in_f, bind_some', cEQ_pos]
          exact ag_same hI
    · simp (disch := omega) only [within_t, in_t, within_f, in_f, bind_some', cEQ_pos, cEQ_neg]
      exact ag_same hI
  · simp (disch := omega) only [within_f, in_f, bind_some', cEQ_pos]
    exact ag_same hI
