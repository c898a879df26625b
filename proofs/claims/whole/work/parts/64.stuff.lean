/-! stuff -/
theorem become_ok {C : St} {s : Nat} (hs : s < 6) : ∃ C' : St, pX3_become C (43 + 3 * s) 8 = some C' ∧ (∀ q, q ≠ 43 + 3 * s → q ≠ 44 + 3 * s → q ≠ 45 + 3 * s → C' q = C q) ∧ (∀ k : Nat, k ≤ 4 → C' (44 + 3 * s) k = C 9 k ∧ C' (45 + 3 * s) k = C 10 k) ∧ C' (43 + 3 * s) 2 = C 8 2 ∧ C' (43 + 3 * s) 3 = C 8 3 ∧ C' (43 + 3 * s) 4 = C 8 4 ∧ C' (43 + 3 * s) 5 = C 8 5 ∧ C' (43 + 3 * s) 6 = C 8 6 := by
  unfold pX3_become
  refine lo2_spec (fun o => ∃ C' : St, o = some C' ∧ (∀ q, q ≠ 43 + 3 * s → q ≠ 44 + 3 * s → q ≠ 45 + 3 * s → C' q = C q) ∧ (∀ k : Nat, k ≤ 4 → C' (44 + 3 * s) k = C 9 k ∧ C' (45 + 3 * s) k = C 10 k) ∧ C' (43 + 3 * s) 2 = C 8 2 ∧ C' (43 + 3 * s) 3 = C 8 3 ∧ C' (43 + 3 * s) 4 = C 8 4 ∧ C' (43 + 3 * s) 5 = C 8 5 ∧ C' (43 + 3 * s) 6 = C 8 6) (fun (y : St) (x : Int) => ∃ n : Nat, x = n ∧ n ≤ 5 ∧ (∀ q, q ≠ 43 + 3 * s → q ≠ 44 + 3 * s → q ≠ 45 + 3 * s → y q = C q) ∧ (∀ k : Nat, k < n → y (44 + 3 * s) k = C 9 k ∧ y (45 + 3 * s) k = C 10 k)) (fun _ x => (5 - x).toNat) ?_ FU C 0 ⟨0, rfl, by omega, fun _ _ _ _ => rfl, fun k hk => by omega⟩ (by have := FU_big; omega)
  rintro k y x ⟨n, rfl, hn, a1, a2⟩ hk
  unfold pX3_become_2B
  by_cases hlt : n ≤ 4
  · simp (disch := omega) only [cLT_neg, ldI_ok, stI_ok, Int.toNat_natCast, setS]
    refine hk _ _ ⟨n + 1, by omega, by omega, fun q b c d => ?_, fun i hi => ?_⟩ (by omega)
    · rw [put_ne (by omega), put_ne (by omega)]; exact a1 q b c d
    · rw [show 44 + 3 * s = 43 + 3 * s + 1 by omega, show 45 + 3 * s = 43 + 3 * s + 2 by omega]
      rw [put_ne (show 43 + 3 * s + 1 ≠ 43 + 3 * s + 2 by omega), put_ne (show (8 + 2 : Nat) ≠ 43 + 3 * s + 1 by omega)]
      rw [a1 (8 + 1) (by omega) (by omega) (by omega), a1 (8 + 2) (by omega) (by omega) (by omega)]
      by_cases e : i = n
      · subst e
        rw [put_at, put_at]
        exact ⟨rfl, rfl⟩
      · rw [put_j e, put_j e, put_ne (show 43 + 3 * s + 2 ≠ 43 + 3 * s + 1 by omega)]
        have := a2 i (by omega)
        rw [show 44 + 3 * s = 43 + 3 * s + 1 by omega, show 45 + 3 * s = 43 + 3 * s + 2 by omega] at this
        exact this
  · have : n = 5 := by omega
    subst this
    rw [cLT_pos (by omega)]
    simp only [setS]
    have e8 : (8 : Nat) ≠ 43 + 3 * s := by omega
    simp only [put_ne e8]
    rw [a1 8 (by omega) (by omega) (by omega)]
    refine ⟨_, rfl, fun q b c d => ?_, fun i hi => ?_, ?_⟩
    · rw [put_ne b, put_ne b, put_ne b, put_ne b, put_ne b]; exact a1 q b c d
    · have e4 : 44 + 3 * s ≠ 43 + 3 * s := by omega
      have e5 : 45 + 3 * s ≠ 43 + 3 * s := by omega
      simp only [put_ne e4, put_ne e5]
      exact a2 i (by omega)
    · simp [put_sw]
theorem stuffM_ok {M : St} {s n : Nat} (hs : s < 6) (hn : M 0 18 = n) (hn4 : 1 ≤ n ∧ n ≤ 4) : ∃ M' : St, lo2 (pX6_stuff_65B (s : Int)) FU M 1 = some ((n : Int), M') ∧ (∀ q, q ≠ 9 → q ≠ 10 → q ≠ 11 → q ≠ 12 → q ≠ 13 → q ≠ 14 → M' q = M q) ∧ (∀ k : Nat, 1 ≤ k → k ≤ n → M' 9 (5 * s + k) = M 15 k ∧ M' 10 (5 * s + k) = M 16 k) ∧ (∀ i : Nat, (i ≤ 5 * s ∨ 5 * s + 4 < i) → M' 9 i = M 9 i ∧ M' 10 i = M 10 i) ∧ (M' 11 s = M 17 0 ∧ M' 12 s = M 17 1 ∧ M' 13 s = M 17 2 ∧ M' 14 s = M 17 3) ∧ ∀ s', s' ≠ s → M' 11 s' = M 11 s' ∧ M' 12 s' = M 12 s' ∧ M' 13 s' = M 13 s' ∧ M' 14 s' = M 14 s' := by
  refine lo2_spec (fun o => ∃ M' : St, o = some ((n : Int), M') ∧ (∀ q, q ≠ 9 → q ≠ 10 → q ≠ 11 → q ≠ 12 → q ≠ 13 → q ≠ 14 → M' q = M q) ∧ (∀ k : Nat, 1 ≤ k → k ≤ n → M' 9 (5 * s + k) = M 15 k ∧ M' 10 (5 * s + k) = M 16 k) ∧ (∀ i : Nat, (i ≤ 5 * s ∨ 5 * s + 4 < i) → M' 9 i = M 9 i ∧ M' 10 i = M 10 i) ∧ (M' 11 s = M 17 0 ∧ M' 12 s = M 17 1 ∧ M' 13 s = M 17 2 ∧ M' 14 s = M 17 3) ∧ ∀ s', s' ≠ s → M' 11 s' = M 11 s' ∧ M' 12 s' = M 12 s' ∧ M' 13 s' = M 13 s' ∧ M' 14 s' = M 14 s') (fun (y : St) (x : Int) => ∃ j : Nat, x = j ∧ 1 ≤ j ∧ j ≤ n + 1 ∧ (∀ q, q ≠ 9 → q ≠ 10 → y q = M q) ∧ (∀ k : Nat, 1 ≤ k → k < j → y 9 (5 * s + k) = M 15 k ∧ y 10 (5 * s + k) = M 16 k) ∧ (∀ i : Nat, (i ≤ 5 * s ∨ 5 * s + 4 < i) → y 9 i = M 9 i ∧ y 10 i = M 10 i)) (fun _ x => ((n : Int) + 1 - x).toNat) ?_ FU M 1 ⟨1, rfl, by omega, by omega, fun _ _ _ => rfl, fun k h1 h2 => by omega, fun _ _ => ⟨rfl, rfl⟩⟩ (by have := FU_big; omega)
  rintro k y x ⟨j, rfl, h1, hj, a1, a2, a3⟩ hk
  unfold pX6_stuff_65B
  have y18 : y 0 18 = n := by rw [a1 0 (by decide) (by decide)]; exact hn
  rw [y18]
  by_cases hlt : j ≤ n
  · have ei : ((5 * (s : Int)) + (j : Int)).toNat = 5 * s + j := by omega
    simp (disch := omega) only [cLT_neg, ldI_ok, stI_ok, Int.toNat_natCast, setS, ei]
    rw [put_ne (show (16 : Nat) ≠ 9 by decide), a1 15 (by decide) (by decide), a1 16 (by decide) (by decide)]
    refine hk _ _ ⟨j + 1, by omega, by omega, by omega, fun q b c => by rw [put_ne c, put_ne b]; exact a1 q b c, fun i b c => ?_, fun i hi => ?_⟩ (by omega)
    · rw [put_ne (show (9 : Nat) ≠ 10 by decide)]
      by_cases e : i = j
      · subst e
        rw [put_at, put_at]
        exact ⟨rfl, rfl⟩
      · rw [put_j (by omega), put_j (by omega), put_ne (show (10 : Nat) ≠ 9 by decide)]
        exact a2 i b (by omega)
    · rw [put_ne (show (9 : Nat) ≠ 10 by decide), put_j (by omega), put_j (by omega), put_ne (show (10 : Nat) ≠ 9 by decide)]
      exact a3 i hi
  · have : j = n + 1 := by omega
    subst this
    have z0 : (0 : Int).toNat = 0 := rfl
    have z1 : (1 : Int).toNat = 1 := rfl
    have z2 : (2 : Int).toNat = 2 := rfl
    have z3 : (3 : Int).toNat = 3 := rfl
    rw [cLT_pos (by omega)]
    simp (disch := omega) only [ldI_ok, stI_ok, Int.toNat_natCast, z0, z1, z2, z3]
    have y17 : y 17 = M 17 := a1 17 (by decide) (by decide)
    simp only [put_ne (show (17 : Nat) ≠ 11 by decide), put_ne (show (17 : Nat) ≠ 12 by decide), put_ne (show (17 : Nat) ≠ 13 by decide), put_ne (show (0 : Nat) ≠ 11 by decide), put_ne (show (0 : Nat) ≠ 12 by decide), put_ne (show (0 : Nat) ≠ 13 by decide), put_ne (show (0 : Nat) ≠ 14 by decide), y17, y18]
    refine ⟨_, rfl, fun q b c d e f g => ?_, fun i b c => ?_, fun i hi => ?_, ?_, fun s' hs' => ?_⟩
    · rw [put_ne g, put_ne f, put_ne e, put_ne d]; exact a1 q b c
    · simp only [put_ne (show (9 : Nat) ≠ 14 by decide), put_ne (show (9 : Nat) ≠ 13 by decide), put_ne (show (9 : Nat) ≠ 12 by decide), put_ne (show (9 : Nat) ≠ 11 by decide), put_ne (show (10 : Nat) ≠ 14 by decide), put_ne (show (10 : Nat) ≠ 13 by decide), put_ne (show (10 : Nat) ≠ 12 by decide), put_ne (show (10 : Nat) ≠ 11 by decide)]
      exact a2 i b (by omega)
    · simp only [put_ne (show (9 : Nat) ≠ 14 by decide), put_ne (show (9 : Nat) ≠ 13 by decide), put_ne (show (9 : Nat) ≠ 12 by decide), put_ne (show (9 : Nat) ≠ 11 by decide), put_ne (show (10 : Nat) ≠ 14 by decide), put_ne (show (10 : Nat) ≠ 13 by decide), put_ne (show (10 : Nat) ≠ 12 by decide), put_ne (show (10 : Nat) ≠ 11 by decide)]
      exact a3 i hi
    · simp [put_sw]
    · simp only [put_sw]
      simp [hs']
      rw [a1 11 (by decide) (by decide), a1 12 (by decide) (by decide), a1 13 (by decide) (by decide), a1 14 (by decide) (by decide)]
      exact ⟨rfl, rfl, rfl, rfl⟩
