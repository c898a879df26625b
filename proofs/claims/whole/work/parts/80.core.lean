/-! the core: both lids rest at the same height -/
theorem low_eq {n m n' m' : Nat} (h : n * m' = n' * m) (hm : 0 < m) (hm' : 0 < m') : n / Nat.gcd n m = n' / Nat.gcd n' m' ∧ m / Nat.gcd n m = m' / Nat.gcd n' m' := by
  have a1 := low_mul (c := m') (n := n) (d := m) hm'
  have a2 := low_mul (c := m) (n := n') (d := m') hm
  have b1 : m' * m / Nat.gcd (m' * n) (m' * m) = m / Nat.gcd n m := by rw [Nat.gcd_mul_left, Nat.mul_div_mul_left _ _ hm']
  have b2 : m * m' / Nat.gcd (m * n') (m * m') = m' / Nat.gcd n' m' := by rw [Nat.gcd_mul_left, Nat.mul_div_mul_left _ _ hm]
  have e1 : m' * n = m * n' := by rw [Nat.mul_comm m' n, h, Nat.mul_comm]
  have e2 : m' * m = m * m' := Nat.mul_comm _ _
  rw [e1, e2] at a1 b1
  exact ⟨by rw [← a1, a2], by rw [← b1, b2]⟩
theorem lay139 {S : St} {A B : Nat} {pa ip : Int} (hA : S 0 38 = A) (hB : S 0 39 = B) (hA2 : A ≤ 30000000000000) (hB2 : 1 ≤ B ∧ B ≤ 17262720000) (hpa : -300 ≤ pa ∧ pa ≤ 1300) (hip : ip = 0 ∨ ip = 1) : ∃ M' : St, pX6_layRest_139 S pa ip = some M' ∧ M' 0 38 = ((A / Nat.gcd A B : Nat) : Int) ∧ M' 0 39 = ((B / Nat.gcd A B : Nat) : Int) ∧ (M' 0 40 = 0 ∨ M' 0 40 = 1) ∧ (M' 0 40 = 1 ↔ ip = 1 ∧ ((A / Nat.gcd A B : Nat) : Int) = pa * ((B / Nat.gcd A B : Nat) : Int)) ∧ (∀ q, q ≠ 0 → M' q = S q) ∧ ∀ j, j ≠ 38 → j ≠ 39 → j ≠ 40 → M' 0 j = S 0 j := by
  have hg : 0 < Nat.gcd A B := Nat.gcd_pos_of_pos_right A (by omega)
  have hg2 : Nat.gcd A B ≤ B := Nat.gcd_le_right A (by omega)
  unfold pX6_layRest_139
  rw [hA, hB, gcdM_ok (by omega) (by omega), bind_some', dvL_ok (by omega)]
  simp only [setS]
  have p39 : ∀ v : Int, put S 0 38 v 0 39 = (B : Int) := fun v => by rw [put_j (by decide), hB]
  rw [p39, dvL_ok (by omega), Int.tdiv_eq_ediv_of_nonneg (by omega), Int.tdiv_eq_ediv_of_nonneg (by omega), ← Int.natCast_ediv, ← Int.natCast_ediv]
  have q1 := Nat.div_le_self A (Nat.gcd A B)
  have q2 := Nat.div_le_self B (Nat.gcd A B)
  generalize A / Nat.gcd A B = a at *
  generalize B / Nat.gcd A B = b at *
  have f1 : put (put S 0 38 (a : Int)) 0 39 (b : Int) 0 38 = a := by rw [put_j (by decide), put_at]
  have f2 : put (put S 0 38 (a : Int)) 0 39 (b : Int) 0 39 = b := by rw [put_at]
  have f3 : ∀ q, q ≠ 0 → put (put S 0 38 (a : Int)) 0 39 (b : Int) q = S q := fun q hq => by rw [put_ne hq, put_ne hq]
  have f4 : ∀ j, j ≠ 38 → j ≠ 39 → put (put S 0 38 (a : Int)) 0 39 (b : Int) 0 j = S 0 j := fun j h1 h2 => by rw [put_j h2, put_j h1]
  generalize put (put S 0 38 (a : Int)) 0 39 (b : Int) = S1 at *
  have fin : ∀ v : Int, (v = 0 ∨ v = 1) → (v = 1 ↔ ip = 1 ∧ (a : Int) = pa * (b : Int)) → ∃ M' : St, some (put S1 0 40 v) = some M' ∧ M' 0 38 = (a : Int) ∧ M' 0 39 = (b : Int) ∧ (M' 0 40 = 0 ∨ M' 0 40 = 1) ∧ (M' 0 40 = 1 ↔ ip = 1 ∧ (a : Int) = pa * (b : Int)) ∧ (∀ q, q ≠ 0 → M' q = S q) ∧ ∀ j, j ≠ 38 → j ≠ 39 → j ≠ 40 → M' 0 j = S 0 j := fun v hv hv2 => ⟨_, rfl, by rw [put_j (by decide), f1], by rw [put_j (by decide), f2], by rw [put_at]; exact hv, by rw [put_at]; exact hv2, fun q hq => by rw [put_ne hq, f3 q hq], fun j a1 a2 a3 => by rw [put_j a3, f4 j a1 a2]⟩
  rw [f1, f2]
  rcases hip with rfl | rfl
  · rw [cEQ_pos (by omega), isB_ok (by omega)]
    exact fin 0 (Or.inl rfl) ⟨fun e => by omega, fun e => by omega⟩
  · have m1 : -300 * (b : Int) ≤ pa * (b : Int) := Int.mul_le_mul_of_nonneg_right hpa.1 (by omega)
    have m2 : pa * (b : Int) ≤ 1300 * (b : Int) := Int.mul_le_mul_of_nonneg_right hpa.2 (by omega)
    rw [cEQ_neg (by omega), wdI_ok (by omega)]
    by_cases e : (a : Int) = pa * (b : Int)
    · rw [lEQ_pos (by omega), isB_ok (by omega)]
      exact fin 1 (Or.inr rfl) ⟨fun _ => ⟨rfl, e⟩, fun _ => rfl⟩
    · rw [lEQ_neg (by omega), isB_ok (by omega)]
      exact fin 0 (Or.inl rfl) ⟨fun q => by omega, fun q => absurd q.2 e⟩
theorem lay90 {T M S : St} (h : TM T M) {pa ip : Int} (hH : HiR M 1 0 4 pa ip) (hG : Good M (S 0 38) (S 0 39)) : ∃ (S1 : St) (A B : Nat), pX6_layRest_90 S pa ip = pX6_layRest_139 S1 pa ip ∧ S1 0 38 = A ∧ S1 0 39 = B ∧ A ≤ 30000000000000 ∧ (1 ≤ B ∧ B ≤ 17262720000) ∧ (S 0 38 ≤ hF M 4 * S 0 39 → (A : Int) = hF M 4 * B) ∧ (hF M 4 * S 0 39 < S 0 38 → (A : Int) = S 0 38 ∧ (B : Int) = S 0 39) ∧ (∀ q, q ≠ 0 → S1 q = S q) ∧ ∀ j, j ≠ 38 → j ≠ 39 → S1 0 j = S 0 j := by
  have hb := hF_b h 4 (by omega)
  obtain ⟨g1, g2, -, -⟩ := hG
  have hpF : (ip = 0 ∧ pa = 0 ∧ hF M 4 = 0) ∨ (ip = 1 ∧ -300 ≤ pa ∧ pa ≤ 1300 ∧ hF M 4 = max 0 pa) := by
    rcases hH with ⟨h1, h2, h3⟩ | ⟨h1, ⟨p, hp, hs, h2⟩, h3⟩
    · refine Or.inl ⟨h1, h2, ?_⟩
      rcases hb.2.2.2 with e | ⟨p, hp, e, -⟩
      · exact e
      · exact absurd (Or.inl ⟨e, rfl⟩) (h3 p hp)
    · obtain ⟨-, -, -, k4, -, -⟩ := h.1 p hp
      refine Or.inr ⟨h1, by omega, by omega, ?_⟩
      have hk : M 18 p = 0 := by
        rcases hs with hs | hs
        · exact hs.1
        · omega
      have a1 := hb.2.2.1 p hp hk
      rcases hb.2.2.2 with e | ⟨p', hp', e, e2⟩
      · omega
      · have := h3 p' hp' (Or.inl ⟨e, rfl⟩)
        omega
  have hz : ∀ S2 : St, S2 0 38 < 0 → -30000000000000 ≤ S2 0 38 → pX6_layRest_120 S2 pa ip = pX6_layRest_139 (put (put S2 0 38 0) 0 39 1) pa ip := fun S2 hl hl2 => by
    unfold pX6_layRest_120
    rw [lLT_pos (by omega)]; rfl
  have hp : ∀ S2 : St, 0 ≤ S2 0 38 → S2 0 38 ≤ 30000000000000 → pX6_layRest_120 S2 pa ip = pX6_layRest_139 S2 pa ip := fun S2 hl hl2 => by
    unfold pX6_layRest_120
    rw [lLT_neg (by omega)]
  generalize eA : S 0 38 = A0 at *
  generalize eB : S 0 39 = B0 at *
  have kz : ∀ S2 : St, (∀ q, q ≠ 0 → S2 q = S q) → (∀ j, j ≠ 38 → j ≠ 39 → S2 0 j = S 0 j) → S2 0 38 < 0 → -30000000000000 ≤ S2 0 38 → hF M 4 = 0 → A0 ≤ 0 → ∃ (S1 : St) (A B : Nat), pX6_layRest_120 S2 pa ip = pX6_layRest_139 S1 pa ip ∧ S1 0 38 = A ∧ S1 0 39 = B ∧ A ≤ 30000000000000 ∧ (1 ≤ B ∧ B ≤ 17262720000) ∧ (A0 ≤ hF M 4 * B0 → (A : Int) = hF M 4 * B) ∧ (hF M 4 * B0 < A0 → (A : Int) = A0 ∧ (B : Int) = B0) ∧ (∀ q, q ≠ 0 → S1 q = S q) ∧ ∀ j, j ≠ 38 → j ≠ 39 → S1 0 j = S 0 j := fun S2 a1 a2 a3 a4 a5 a6 => by
    refine ⟨_, 0, 1, hz S2 a3 a4, by rw [put_j (by decide), put_at]; rfl, by rw [put_at]; rfl, by omega, by omega, fun _ => by rw [a5]; rfl, fun e => by rw [a5, Int.zero_mul] at e; omega, fun q hq => by rw [put_ne hq, put_ne hq, a1 q hq], fun j h1 h2 => by rw [put_j h2, put_j h1, a2 j h1 h2]⟩
  unfold pX6_layRest_90
  rw [eA, eB]
  rcases hpF with ⟨e1, e2, e3⟩ | ⟨e1, e2, e3, e4⟩
  · rw [cEQ_pos (by omega)]
    by_cases hl : A0 < 0
    · exact kz S (fun _ _ => rfl) (fun _ _ _ => rfl) (by omega) (by omega) e3 (by omega)
    · rw [hp S (by omega) (by omega)]
      refine ⟨S, A0.toNat, B0.toNat, rfl, by omega, by omega, by omega, by omega, fun e => ?_, fun e => by omega, fun _ _ => rfl, fun _ _ _ => rfl⟩
      rw [e3, Int.zero_mul] at e
      rw [e3, Int.zero_mul]; omega
  · rw [cEQ_neg (by omega), wdI_ok (by omega)]
    have m1 : -300 * B0 ≤ pa * B0 := Int.mul_le_mul_of_nonneg_right e2 (by omega)
    have m2 : pa * B0 ≤ 1300 * B0 := Int.mul_le_mul_of_nonneg_right e3 (by omega)
    by_cases hl : A0 < pa * B0
    · rw [lLT_pos (by omega), wdI_ok (by omega)]
      simp only [setS]
      have f1 : put (put S 0 38 pa) 0 39 1 0 38 = pa := by rw [put_j (by decide), put_at]
      have f2 : put (put S 0 38 pa) 0 39 1 0 39 = 1 := by rw [put_at]
      have f3 : ∀ q, q ≠ 0 → put (put S 0 38 pa) 0 39 1 q = S q := fun q hq => by rw [put_ne hq, put_ne hq]
      have f4 : ∀ j, j ≠ 38 → j ≠ 39 → put (put S 0 38 pa) 0 39 1 0 j = S 0 j := fun j h1 h2 => by rw [put_j h2, put_j h1]
      generalize put (put S 0 38 pa) 0 39 1 = S2 at *
      by_cases hn : pa < 0
      · have m3 : pa * B0 ≤ -1 * B0 := Int.mul_le_mul_of_nonneg_right (by omega) (by omega)
        exact kz S2 f3 f4 (by omega) (by omega) (by omega) (by omega)
      · have eF : hF M 4 = pa := by omega
        rw [hp S2 (by omega) (by omega)]
        exact ⟨S2, pa.toNat, 1, rfl, by omega, by omega, by omega, by omega, fun e => by omega, fun e => by rw [eF] at e; omega, f3, f4⟩
    · rw [lLT_neg (by omega)]
      by_cases hn : A0 < 0
      · have hpa : pa < 0 := by
          rcases Int.lt_or_le pa 0 with h | h
          · exact h
          · have : 0 ≤ pa * B0 := Int.mul_nonneg h (by omega)
            omega
        exact kz S (fun _ _ => rfl) (fun _ _ _ => rfl) (by omega) (by omega) (by omega) (by omega)
      · rw [hp S (by omega) (by omega)]
        have hcast : ((B0.toNat : Nat) : Int) = B0 := by omega
        refine ⟨S, A0.toNat, B0.toNat, rfl, by omega, by omega, by omega, by omega, fun e => ?_, fun e => by omega, fun _ _ => rfl, fun _ _ _ => rfl⟩
        rw [hcast]
        by_cases hq : pa ≤ 0
        · have eF : hF M 4 = 0 := by omega
          rw [eF, Int.zero_mul] at e ⊢
          omega
        · have eF : hF M 4 = pa := by omega
          rw [eF] at e ⊢
          omega
theorem HiR.cg {S M : St} {a b : Int} {n : Nat} {t fl : Int} (h : HiR S a b n t fl) (e18 : S 18 = M 18) (htp : ∀ p, tp S p = tp M p) : HiR M a b n t fl := by
  unfold HiR sel at h ⊢
  simp only [htp, e18] at h
  exact h
/-- the model's lid rests where the class's does -/
theorem layRest_ok {T M : St} (h : TM T M) {u d : Nat} (hc : Cls M u d) : ∃ M' : St, pX6_layRest M = some M' ∧ M' 0 38 = (u : Int) ∧ M' 0 39 = (d : Int) ∧ (1 ≤ d ∧ d ≤ 17262720000) ∧ u ≤ 30000000000000 ∧ (M' 0 40 = 0 ∨ M' 0 40 = 1) ∧ (M' 0 40 = 1 ↔ ∃ p, p < 4 ∧ M 18 p = 0 ∧ tp M p * d = u) ∧ (∀ q, q ≠ 0 → M' q = M q) ∧ (∀ j, j < 38 → M' 0 j = M 0 j) ∧ ∀ j, 41 < j → M' 0 j = M 0 j := by
  have hbF := hF_b h 4 (by omega)
  have hmain : ∃ (S : St) (pa ip : Int), pX6_layRest M = pX6_layRest_90 S pa ip ∧ HiR M 1 0 4 pa ip ∧ (∀ q, q ≠ 0 → S q = M q) ∧ (∀ j, j < 38 → S 0 j = M 0 j) ∧ (∀ j, 41 < j → S 0 j = M 0 j) ∧ Good M (S 0 38) (S 0 39) := by
    obtain ⟨pa, S2, e1, hi1, f1, f2⟩ := highest_ok h (a := 1) (b := 0) (by omega) (by omega)
    have h2 : TM T S2 := h.cg (fun _ _ _ _ => rfl) (fun _ _ _ => rfl) (fun q a _ => f1 q a) (fun j a b => f2 j (by omega))
    obtain ⟨ru, S5, e2, hi2, f3, f4⟩ := highest_ok h2 (a := 0) (b := 1) (by omega) (by omega)
    have h5 : TM T S5 := h2.cg (fun _ _ _ _ => rfl) (fun _ _ _ => rfl) (fun q a _ => f3 q a) (fun j a b => f4 j (by omega))
    obtain ⟨al, S8, e3, hi3, f5, f6⟩ := highest_ok h5 (a := 1) (b := 1) (by omega) (by omega)
    have tp2 : ∀ p, tp S2 p = tp M p := fun p => by unfold tp; rw [f1 21 (by decide), f1 25 (by decide)]
    have tp5 : ∀ p, tp S5 p = tp M p := fun p => by unfold tp; rw [f3 21 (by decide), f3 25 (by decide), f1 21 (by decide), f1 25 (by decide)]
    have hi2' : HiR M 0 1 4 ru (S5 0 41) := hi2.cg (f1 18 (by decide)) tp2
    have hi3' : HiR M 1 1 4 al (S8 0 41) := hi3.cg (by rw [f3 18 (by decide), f1 18 (by decide)]) tp5
    have hal : -300 ≤ al ∧ al ≤ 1300 := by
      rcases hi3' with ⟨-, q2, -⟩ | ⟨-, ⟨p, hp, -, q2⟩, -⟩
      · omega
      · obtain ⟨-, -, -, k4, -, -⟩ := h.1 p hp
        omega
    have g1 : ∀ q, q ≠ 0 → put (put S8 0 38 al) 0 39 1 q = M q := fun q hq => by rw [put_ne hq, put_ne hq, f5 q hq, f3 q hq, f1 q hq]
    have g2 : ∀ j, j < 38 → put (put S8 0 38 al) 0 39 1 0 j = M 0 j := fun j hj => by rw [put_j (by omega), put_j (by omega), f6 j (by omega), f4 j (by omega), f2 j (by omega)]
    have g3 : ∀ j, 41 < j → put (put S8 0 38 al) 0 39 1 0 j = M 0 j := fun j hj => by rw [put_j (by omega), put_j (by omega), f6 j (by omega), f4 j (by omega), f2 j (by omega)]
    have g4 : put (put S8 0 38 al) 0 39 1 0 38 = al := by rw [put_j (by decide), put_at]
    have g5 : put (put S8 0 38 al) 0 39 1 0 39 = 1 := by rw [put_at]
    have g34 := g2 34 (by decide)
    have hlid := h.2.1
    unfold pX6_layRest
    rw [e1, bnd_some]
    simp only [setS]
    rw [e2, bnd_some, e3, bnd_some, wdI_ok (by omega)]
    generalize put (put S8 0 38 al) 0 39 1 = S10 at *
    rw [g34]
    by_cases hz : M 0 34 = 0
    · rw [cLT_neg (by omega)]
      exact ⟨S10, pa, S2 0 41, rfl, hi1, g1, g2, g3, by rw [g4, g5]; exact good_top h hi3' (Or.inl hz)⟩
    · rw [cLT_pos (by omega)]
      rcases hi2' with ⟨q1, q2, q3⟩ | ⟨q1, ⟨p, hp, hs, q2⟩, q3⟩
      · rw [cEQ_pos (by omega)]
        exact ⟨S10, pa, S2 0 41, rfl, hi1, g1, g2, g3, by rw [g4, g5]; exact good_top h hi3' (Or.inr (fun p hp hr => q3 p hp (Or.inr ⟨hr, rfl⟩)))⟩
      · rw [cEQ_neg (by omega)]
        obtain ⟨-, -, -, k4, -, -⟩ := h.1 p hp
        have hr : 1 ≤ M 18 p := by
          rcases hs with hs | hs
          · omega
          · exact hs.1
        obtain ⟨b, eb, hb⟩ := nextBreak_ok h g1 (x := ru) (by omega)
        rw [eb, bind_some']
        have hlt : SS M ru < due M := by
          rw [SS_top (fun p' hp' hr' => q3 p' hp' (Or.inr ⟨hr', rfl⟩))]
          unfold due; omega
        obtain ⟨S', r1, r2, r3, r4, r5⟩ := rest_loop h g1 g2 g3 (pa := pa) (ip := S2 0 41) (x := ru) (by omega) hb ⟨p, hp, hr, by omega⟩ hlt
        exact ⟨S', pa, S2 0 41, r1, hi1, r2, r3, r4, r5⟩
  obtain ⟨S, pa, ip, e1, hH, s1, s2, s3, hG⟩ := hmain
  obtain ⟨S1, A, B, e2, a1, a2, a3, a4, a5, a6, a7, a8⟩ := lay90 h hH hG
  have hpa : (-300 ≤ pa ∧ pa ≤ 1300) ∧ (ip = 0 ∨ ip = 1) := by
    rcases hH with ⟨q1, q2, -⟩ | ⟨q1, ⟨p, hp, -, q2⟩, -⟩
    · omega
    · obtain ⟨-, -, -, k4, -, -⟩ := h.1 p hp
      omega
  obtain ⟨M', e3, b1, b2, b3, b4, b5, b6⟩ := lay139 (pa := pa) (ip := ip) a1 a2 a3 a4 hpa.1 hpa.2
  have huv : u = A / Nat.gcd A B ∧ d = B / Nat.gcd A B := by
    rcases hc with ⟨c1, c2, c3⟩ | ⟨z, c1, c2, c3, c4, c5, c6⟩
    · have hA := a5 ((hG.2.2.1 (hF M 4) (Int.le_refl _)).2 c1)
      have e : u * B = A * 1 := by
        have : ((u * B : Nat) : Int) = ((A * 1 : Nat) : Int) := by rw [Int.natCast_mul, c2, Nat.mul_one, hA]
        exact Int.ofNat.inj this
      have := low_eq (n := u) (m := 1) (n' := A) (m' := B) e (by decide) (by omega)
      rw [Nat.gcd_one_right, Nat.div_one, Nat.div_one] at this
      exact ⟨this.1, by rw [c3]; exact this.2⟩
    · have k1 : z * S 0 39 < S 0 38 := by
        rcases Int.lt_or_le (z * S 0 39) (S 0 38) with q | q
        · exact q
        · have := (hG.2.2.1 z c1).1 q; omega
      have k2 := (hG.2.2.1 (z + 1) (by omega)).2 c4
      have k3 := hG.2.2.2 z c1 k1 k2
      have k4 : hF M 4 * S 0 39 ≤ z * S 0 39 := Int.mul_le_mul_of_nonneg_right c1 (by have := hG.1; omega)
      obtain ⟨k5, k6⟩ := a6 (by omega)
      have hp := pt_b h (by omega) c3 c4
      have e : A * (rs M z).toNat = (pt M z).toNat * B := by
        have : ((A * (rs M z).toNat : Nat) : Int) = (((pt M z).toNat * B : Nat) : Int) := by
          rw [Int.natCast_mul, Int.natCast_mul, Int.toNat_of_nonneg (by omega), Int.toNat_of_nonneg (by omega), k5, k6, k3, Int.mul_comm]
        exact Int.ofNat.inj this
      have := low_eq e (by omega) (by omega)
      exact ⟨by rw [c5, this.1], by rw [c6, this.2]⟩
  have hg : 0 < Nat.gcd A B := Nat.gcd_pos_of_pos_right A (by omega)
  have hd1 : 0 < B / Nat.gcd A B := Nat.div_pos (Nat.gcd_le_right A (by omega)) hg
  have q1 := Nat.div_le_self A (Nat.gcd A B)
  have q2 := Nat.div_le_self B (Nat.gcd A B)
  have hge : hF M 4 * ((B / Nat.gcd A B : Nat) : Int) ≤ ((A / Nat.gcd A B : Nat) : Int) := by
    have w1 : ((Nat.gcd A B : Nat) : Int) * ((A / Nat.gcd A B : Nat) : Int) = A := by rw [← Int.natCast_mul, Nat.mul_div_cancel' (Nat.gcd_dvd_left A B)]
    have w2 : ((Nat.gcd A B : Nat) : Int) * ((B / Nat.gcd A B : Nat) : Int) = B := by rw [← Int.natCast_mul, Nat.mul_div_cancel' (Nat.gcd_dvd_right A B)]
    have w3 : hF M 4 * (B : Int) ≤ A := by
      rcases Int.lt_or_le (hF M 4 * S 0 39) (S 0 38) with q | q
      · obtain ⟨k5, k6⟩ := a6 q
        rw [k5, k6]; omega
      · have := a5 q; omega
    have w4 : ((Nat.gcd A B : Nat) : Int) * (hF M 4 * ((B / Nat.gcd A B : Nat) : Int)) ≤ ((Nat.gcd A B : Nat) : Int) * ((A / Nat.gcd A B : Nat) : Int) := by
      rw [w1, Int.mul_left_comm, w2]; exact w3
    exact Int.le_of_mul_le_mul_left w4 (by omega)
  rw [← huv.1] at b1
  rw [← huv.2] at b2
  rw [← huv.1, ← huv.2] at b4 hge
  rw [← huv.2] at hd1 q2
  rw [← huv.1] at q1
  rw [e1, e2, e3]
  refine ⟨M', rfl, b1, b2, by omega, by omega, b3, ?_, fun q hq => by rw [b5 q hq, a7 q hq, s1 q hq], fun j hj => by rw [b6 j (by omega) (by omega) (by omega), a8 j (by omega) (by omega), s2 j hj], fun j hj => by rw [b6 j (by omega) (by omega) (by omega), a8 j (by omega) (by omega), s3 j hj]⟩
  rw [b4]
  rcases hH with ⟨q1, q2, q3⟩ | ⟨q1, ⟨p, hp, hs, q2⟩, q3⟩
  · constructor
    · intro e; omega
    · rintro ⟨p, hp, e, -⟩
      exact absurd (Or.inl ⟨e, rfl⟩) (q3 p hp)
  · constructor
    · rintro ⟨-, e⟩
      have hk : M 18 p = 0 := by
        rcases hs with hs | hs
        · exact hs.1
        · omega
      exact ⟨p, hp, hk, by rw [e, q2]⟩
    · rintro ⟨p', hp', hk, e⟩
      refine ⟨q1, ?_⟩
      have w1 := q3 p' hp' (Or.inl ⟨hk, rfl⟩)
      have w2 : tp M p' * (d : Int) ≤ pa * d := Int.mul_le_mul_of_nonneg_right w1 (by omega)
      have hk2 : M 18 p = 0 := by
        rcases hs with hs | hs
        · exact hs.1
        · omega
      have w3 : pa ≤ hF M 4 := by rw [q2]; exact hbF.2.2.1 p hp hk2
      have w4 : pa * (d : Int) ≤ hF M 4 * d := Int.mul_le_mul_of_nonneg_right w3 (by omega)
      omega
