/-! push: the line of a curve at a/b -/
def IsLine (M : St) (s : Nat) (a b : Int) (k : Nat) : Prop := (k : Int) < M 8 s ∧ (k = 0 ∨ M 9 (5 * s + k) * b ≤ a) ∧ ((k : Int) + 1 = M 8 s ∨ a < M 9 (5 * s + (k + 1)) * b)
theorem stf_mono {C M : St} {s : Nat} (hd : StfD C M s) : ∀ d i : Nat, ((i + d : Nat) : Int) ≤ M 8 s → M 9 (5 * s + i) + d ≤ M 9 (5 * s + (i + d)) ∧ M 10 (5 * s + i) + d ≤ M 10 (5 * s + (i + d))
  | 0, i, _ => by simp
  | d + 1, i, h => by
    have h1 := stf_mono hd d i (by omega)
    have h2 := hd.2.2.2.1 (i + d) (by omega)
    rw [show i + (d + 1) = i + d + 1 by omega]
    omega
theorem stf_bd {C M : St} {s : Nat} (hd : StfD C M s) (h0 : M 9 (5 * s) = 0 ∧ M 10 (5 * s) = 0) {k : Nat} (hk : (k : Int) ≤ M 8 s) : (k : Int) ≤ M 9 (5 * s + k) ∧ M 9 (5 * s + k) ≤ 20 ∧ (k : Int) ≤ M 10 (5 * s + k) ∧ M 10 (5 * s + k) ≤ 999 := by
  have h1 := stf_mono hd k 0 (by omega)
  have h2 := hd.2.2.2.2.1 k hk
  rw [Nat.zero_add, Nat.add_zero, h0.1, h0.2] at h1
  omega
theorem line_le {C M : St} {s : Nat} (hd : StfD C M s) {a b : Int} (hb : 0 < b) {k : Nat} (h : IsLine M s a b k) {j : Nat} (hj : j ≤ k) (hj0 : j ≠ 0) : M 9 (5 * s + j) * b ≤ a := by
  obtain ⟨h1, h2, -⟩ := h
  rcases h2 with h2 | h2
  · omega
  · have h3 := (stf_mono hd (k - j) j (by omega)).1
    rw [show j + (k - j) = k by omega] at h3
    have h4 : M 9 (5 * s + j) * b ≤ M 9 (5 * s + k) * b := Int.mul_le_mul_of_nonneg_right (by omega) (by omega)
    omega
theorem line_gt {C M : St} {s : Nat} (hd : StfD C M s) {a b : Int} (hb : 0 < b) {k : Nat} (h : IsLine M s a b k) {j : Nat} (hj : k < j) (hj0 : (j : Int) < M 8 s) : a < M 9 (5 * s + j) * b := by
  obtain ⟨h1, -, h2⟩ := h
  rcases h2 with h2 | h2
  · omega
  · have h3 := (stf_mono hd (j - (k + 1)) (k + 1) (by omega)).1
    rw [show k + 1 + (j - (k + 1)) = j by omega] at h3
    have h4 : M 9 (5 * s + (k + 1)) * b ≤ M 9 (5 * s + j) * b := Int.mul_le_mul_of_nonneg_right (by omega) (by omega)
    omega
theorem line_ex {C M : St} {s : Nat} (hd : StfD C M s) (a b : Int) : ∃ k, IsLine M s a b k := by
  have h : ∀ m : Nat, (m : Int) < M 8 s → ∃ k : Nat, k ≤ m ∧ (k = 0 ∨ M 9 (5 * s + k) * b ≤ a) ∧ (k = m ∨ a < M 9 (5 * s + (k + 1)) * b) := by
    intro m
    induction m with
    | zero => intro _; exact ⟨0, by omega, Or.inl rfl, Or.inl rfl⟩
    | succ m ih =>
      intro hm
      obtain ⟨k, k1, k2, k3⟩ := ih (by omega)
      by_cases hc : M 9 (5 * s + (m + 1)) * b ≤ a
      · exact ⟨m + 1, by omega, Or.inr hc, Or.inl rfl⟩
      · rcases k3 with k3 | k3
        · subst k3
          exact ⟨k, by omega, k2, Or.inr (by omega)⟩
        · exact ⟨k, by omega, k2, Or.inr k3⟩
  have h1 := hd.1
  obtain ⟨k, k1, k2, k3⟩ := h (M 8 s - 1).toNat (by omega)
  refine ⟨k, by omega, k2, ?_⟩
  rcases k3 with k3 | k3
  · exact Or.inl (by omega)
  · exact Or.inr k3
theorem pieceAt_ok {C M : St} {s : Nat} (hd : StfD C M s) (h8 : C (43 + 3 * s) 2 = M 8 s) (h0 : M 9 (5 * s) = 0 ∧ M 10 (5 * s) = 0) {x : Int} {k : Nat} (hx : -2147483648 ≤ x ∧ x ≤ 2147483647) (hk : IsLine M s x 1 k) : pX3_pieceAt C (43 + 3 * s) x = some (k : Int) := by
  have hn := hd.1
  have hn4 := hd.2.1
  have hkn := hk.1
  unfold pX3_pieceAt
  simp only [setS, h8]
  refine lo1_spec (fun o => o = some (k : Int)) (fun (y : Int) => ∃ j : Nat, y = j ∧ k ≤ j ∧ (j : Int) < M 8 s) (fun y => y.toNat) ?_ FU _ ⟨(M 8 s - 1).toNat, by omega, by omega, by omega⟩ (by have := FU_big; omega)
  rintro f y ⟨j, rfl, hj, hj2⟩ hf
  unfold pX3_pieceAt_7B
  by_cases hz : j = 0
  · subst hz
    rw [cLT_neg (by omega)]
    congr 1; omega
  · have hX := (hd.2.2.1 j (by omega)).1
    have hB := stf_bd hd h0 (k := j) (by omega)
    simp (disch := omega) only [cLT_pos, ldI_ok, Int.toNat_natCast, hX, wdI_ok]
    by_cases e : j = k
    · subst e
      have := line_le hd (by decide) hk (Nat.le_refl j) hz
      rw [lLT_neg (by omega)]
    · have := line_gt hd (by decide) hk (j := j) (by omega) hj2
      rw [lLT_pos (by omega)]
      exact hf _ ⟨j - 1, by omega, by omega, by omega⟩ (by omega)
theorem lineOf_ok {C M : St} {s : Nat} (hs : s < 6) (hd : StfD C M s) (h0 : M 9 (5 * s) = 0 ∧ M 10 (5 * s) = 0) {a b : Int} {k : Nat} (ha : -4000000000000000000 ≤ a ∧ a ≤ 4000000000000000000) (hb : 1 ≤ b ∧ b ≤ 100000000000000000) (hk : IsLine M s a b k) : pX6_lineOf M (s : Int) a b = some (k : Int) := by
  have hn := hd.1
  have hn4 := hd.2.1
  have hkn := hk.1
  unfold pX6_lineOf
  refine lo1_spec (fun o => o = some (k : Int)) (fun (y : Int) => ∃ j : Nat, y = j ∧ j ≤ k) (fun y => ((k : Int) - y).toNat) ?_ FU 0 ⟨0, rfl, by omega⟩ (by have := FU_big; omega)
  rintro f y ⟨j, rfl, hj⟩ hf
  unfold pX6_lineOf_3B
  have ei : (((5 * (s : Int)) + (j : Int)) + 1).toNat = 5 * s + (j + 1) := by omega
  simp (disch := omega) only [ldI_ok, Int.toNat_natCast]
  by_cases hl : (j : Int) + 1 < M 8 s
  · have hB := stf_bd hd h0 (k := j + 1) (by omega)
    have hm : 0 ≤ M 9 (5 * s + (j + 1)) * b := Int.mul_nonneg (by omega) (by omega)
    have hm2 : M 9 (5 * s + (j + 1)) * b ≤ 20 * 100000000000000000 := Int.mul_le_mul (by omega) hb.2 (by omega) (by omega)
    simp (disch := omega) only [cLT_pos, ldI_ok, ei, wdI_ok]
    by_cases e : j = k
    · subst e
      have := line_gt hd (by omega) hk (j := j + 1) (by omega) (by omega)
      rw [lLT_pos (by omega)]
    · have := line_le hd (by omega) hk (j := j + 1) (by omega) (by omega)
      rw [lLT_neg (by omega)]
      exact hf _ ⟨j + 1, by omega, by omega⟩ (by omega)
  · rw [cLT_neg (by omega)]
    congr 1; omega
