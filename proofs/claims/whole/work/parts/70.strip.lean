/-! strip: the model's side of one stuff -/
theorem isKept_ok {C M : St} {s r m : Nat} {tol : Int} (hs : s < 6) (hr : r < 6) (hI : Inv C M) (h7 : M 7 s = 1) (ht : 0 ≤ tol ∧ tol ≤ 99) (hm : M 2 r = 2 * (m : Int)) (hm2 : m ≤ 20) (hv : ∀ i, i < m → (0 ≤ M 3 (40 * r + 2 * i) ∧ M 3 (40 * r + 2 * i) ≤ 20) ∧ 0 ≤ M 3 (40 * r + (2 * i + 1)) ∧ M 3 (40 * r + (2 * i + 1)) ≤ 9999) : ∃ (fl : Int) (M' : St), pX6_isKept M (s : Int) (r : Int) tol = some (fl, M') ∧ (∀ q, q ≠ 0 → M' q = M q) ∧ (∀ j, j ≠ 24 → j ≠ 25 → M' 0 j = M 0 j) ∧ ((fl = 1 ∧ ∀ i, i < m → KP C s tol (M 3 (40 * r + 2 * i)) (M 3 (40 * r + (2 * i + 1)))) ∨ (fl = 0 ∧ ¬ ∀ i, i < m → KP C s tol (M 3 (40 * r + 2 * i)) (M 3 (40 * r + (2 * i + 1))))) := by
  unfold pX6_isKept
  refine lo3_spec (fun o => ∃ (fl : Int) (M' : St), o = some (fl, M') ∧ (∀ q, q ≠ 0 → M' q = M q) ∧ (∀ j, j ≠ 24 → j ≠ 25 → M' 0 j = M 0 j) ∧ ((fl = 1 ∧ ∀ i, i < m → KP C s tol (M 3 (40 * r + 2 * i)) (M 3 (40 * r + (2 * i + 1)))) ∨ (fl = 0 ∧ ¬ ∀ i, i < m → KP C s tol (M 3 (40 * r + 2 * i)) (M 3 (40 * r + (2 * i + 1)))))) (fun (S : St) (fl x : Int) => ∃ j : Nat, x = 2 * (j : Int) ∧ j ≤ m ∧ (∀ q, q ≠ 0 → S q = M q) ∧ (∀ j, j ≠ 24 → j ≠ 25 → S 0 j = M 0 j) ∧ ((fl = 1 ∧ ∀ i, i < j → KP C s tol (M 3 (40 * r + 2 * i)) (M 3 (40 * r + (2 * i + 1)))) ∨ (fl = 0 ∧ ¬ ∀ i, i < j → KP C s tol (M 3 (40 * r + 2 * i)) (M 3 (40 * r + (2 * i + 1)))))) (fun _ _ x => (2 * (m : Int) - x).toNat) ?_ FU M 1 0 ⟨0, rfl, by omega, fun _ _ => rfl, fun _ _ _ => rfl, Or.inl ⟨rfl, fun i hi => by omega⟩⟩ (by have := FU_big; omega)
  rintro k S fl x ⟨j, rfl, hj, a1, a2, hfl⟩ hk
  unfold pX6_isKept_6B pX6_rowAt pX6_isKept_68 pX6_isKept_92 pX6_isKept_93
  rw [ldI_ok (by omega), Int.toNat_natCast, a1 2 (by decide), hm]
  by_cases hlt : j < m
  · have hJ : Inv C S := hI.scr a1 (fun i hi => a2 i (by omega) (by omega))
    obtain ⟨z1, z2, z3⟩ := hJ.2.2.1 s hs
    have h7' : S 7 s = 1 := by rw [a1 7 (by decide)]; exact h7
    rcases z3 with z3 | ⟨-, u2, hd⟩
    · omega
    · obtain ⟨hx, hy⟩ := hv j hlt
      obtain ⟨n, w, G, S', p1, p1', g1, g2, g3, g4, p2, p3, p4, p5, p6, p7, p8⟩ := push_both hs hd u2 ⟨z1, z2⟩ hx
      have e1 : (40 * (r : Int) + 2 * (j : Int)).toNat = 40 * r + 2 * j := by omega
      have e2 : (40 * (r : Int) + (2 * (j : Int) + 1)).toNat = 40 * r + (2 * j + 1) := by omega
      have t3 : S 3 = M 3 := a1 3 (by decide)
      have t3' : S' 3 = M 3 := by rw [g3 3 (by decide)]; exact t3
      have f1 : ∀ q, q ≠ 0 → S' q = M q := fun q hq => by rw [g3 q hq]; exact a1 q hq
      have f2 : ∀ j, j ≠ 24 → j ≠ 25 → S' 0 j = M 0 j := fun j b c => by rw [g4 j b c]; exact a2 j b c
      simp (disch := omega) only [cLT_pos, ldI_ok, e1, e2, t3, t3', p1', bind_some', wdI_ok, setS, g1, g2]
      have hKP : KP C s tol (M 3 (40 * r + 2 * j)) (M 3 (40 * r + (2 * j + 1))) ↔ (-(tol * w) ≤ n - M 3 (40 * r + (2 * j + 1)) * w ∧ n - M 3 (40 * r + (2 * j + 1)) * w ≤ tol * w) := by
        have q1 : G * n - M 3 (40 * r + (2 * j + 1)) * 232792560 = G * (n - M 3 (40 * r + (2 * j + 1)) * w) := by rw [← p8]; grind
        have q2 : tol * 232792560 = G * (tol * w) := by rw [← p8]; grind
        have q3 : -(tol * 232792560) = G * (-(tol * w)) := by rw [q2]; grind
        constructor
        · rintro ⟨v, v1, v2, v3⟩
          rw [p1] at v1
          injection v1 with v1
          rw [← v1, q1] at v2 v3
          rw [q3] at v2
          rw [q2] at v3
          exact ⟨Int.le_of_mul_le_mul_left v2 p6, Int.le_of_mul_le_mul_left v3 p6⟩
        · rintro ⟨v2, v3⟩
          refine ⟨_, p1, ?_, ?_⟩
          · rw [q1, q3]; exact Int.mul_le_mul_of_nonneg_left v2 (by omega)
          · rw [q1, q2]; exact Int.mul_le_mul_of_nonneg_left v3 (by omega)
      have m1 : 0 ≤ tol * w := Int.mul_nonneg ht.1 (by omega)
      have m2 : tol * w ≤ 99 * 20 := Int.mul_le_mul ht.2 p5 (by omega) (by omega)
      have m3 : 0 ≤ M 3 (40 * r + (2 * j + 1)) * w := Int.mul_nonneg hy.1 (by omega)
      have m4 : M 3 (40 * r + (2 * j + 1)) * w ≤ 9999 * 20 := Int.mul_le_mul hy.2 p5 (by omega) (by omega)
      have hdb : -9999999 ≤ n - M 3 (40 * r + (2 * j + 1)) * w ∧ n - M 3 (40 * r + (2 * j + 1)) * w ≤ 9999999 := by omega
      generalize n - M 3 (40 * r + (2 * j + 1)) * w = d at *
      have step : ∀ P : Nat → Prop, (∀ i, i < j + 1 → P i) ↔ (∀ i, i < j → P i) ∧ P j := fun P => ⟨fun h => ⟨fun i hi => h i (by omega), h j (by omega)⟩, fun h i hi => by
        by_cases e : i = j
        · rw [e]; exact h.2
        · exact h.1 i (by omega)⟩
      have no := fun h => hk S' 0 (2 * (j : Int) + 2) ⟨j + 1, by omega, by omega, f1, f2, Or.inr ⟨rfl, h⟩⟩ (by omega)
      rcases hfl with ⟨rfl, ha⟩ | ⟨rfl, ha⟩
      · simp (disch := omega) only [cEQ_neg]
        by_cases hok : -(tol * w) ≤ d ∧ d ≤ tol * w
        · have yes := hk S' 1 (2 * (j : Int) + 2) ⟨j + 1, by omega, by omega, f1, f2, Or.inl ⟨rfl, (step _).2 ⟨ha, hKP.2 hok⟩⟩⟩ (by omega)
          by_cases hneg : d < 0
          · simp (disch := omega) only [lLT_pos, lLT_neg]; exact yes
          · simp (disch := omega) only [lLT_neg]; exact yes
        · have no' := no (fun h => hok (hKP.1 ((step _).1 h).2))
          by_cases hneg : d < 0
          · simp (disch := omega) only [lLT_pos]; exact no'
          · simp (disch := omega) only [lLT_pos, lLT_neg]; exact no'
      · have no' := no (fun h => ha ((step _).1 h).1)
        by_cases hneg : d < 0
        · simp (disch := omega) only [lLT_pos, cEQ_pos]; exact no'
        · simp (disch := omega) only [lLT_neg, cEQ_pos]; exact no'
  · have : j = m := by omega
    subst this
    rw [cLT_neg (by omega), isB_ok (by rcases hfl with ⟨h, -⟩ | ⟨h, -⟩ <;> omega)]
    exact ⟨fl, S, rfl, a1, a2, hfl⟩
