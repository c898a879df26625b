/-! digest -/
def it (f : Nat → Int → Int) (h : Int) : Nat → Int
  | 0 => h
  | n + 1 => f n (it f h n)
theorem it_s {f : Nat → Int → Int} {h : Int} {x : Int} (hx : 0 ≤ x) : it f h (x + 1).toNat = f x.toNat (it f h x.toNat) := by
  rw [show (x + 1).toNat = x.toNat + 1 by omega]; rfl
theorem it_congr {f g : Nat → Int → Int} {h : Int} : ∀ {n : Nat}, (∀ i, i < n → ∀ z, f i z = g i z) → it f h n = it g h n
  | 0, _ => rfl
  | n + 1, hh => by simp only [it]; rw [it_congr (fun i hi => hh i (by omega)), hh n (by omega)]
def mx (f : Nat → Int) (i : Nat) (h : Int) : Int := 31 * h + f i
/-! the class's side -/
theorem mixRow {C : St} {q : Nat} {n : Int} {f : Nat → Int} {h : Int} (hq : C q 1 = n) (hn : -1 ≤ n ∧ n ≤ (rlen q : Int)) (hr : rlen q ≤ 60) (hf : ∀ i : Nat, (i : Int) < n → C (q + 1) i = f i ∧ -2147483648 ≤ f i ∧ f i ≤ 2147483647) : pX1_mixInto C q h = some (it (mx f) (31 * h + n) n.toNat) := by
  unfold pX1_mixInto pX5_mix
  rw [hq, wdI_ok (by omega)]
  simp only [bind_some']
  refine lo2_spec (fun o => o = some (it (mx f) (31 * h + n) n.toNat)) (fun (y x : Int) => 0 ≤ x ∧ (x ≤ n ∨ x = 0) ∧ y = it (mx f) (31 * h + n) x.toNat) (fun _ x => (n - x).toNat) ?_ FU _ _ ⟨by omega, by omega, rfl⟩ (by have := FU_big; omega)
  intro k y x hI hkk
  obtain ⟨h1, h2, h3⟩ := hI
  unfold pX1_mixInto_13B
  rw [hq]
  by_cases hx : x < n
  · obtain ⟨f1, f2⟩ := hf x.toNat (by omega)
    rw [cLT_pos (by omega), ldI_ok (by omega), f1, wdI_ok (by omega)]
    simp only [pX5_mix, bind_some', setS]
    refine hkk _ _ ⟨by omega, by omega, ?_⟩ (by omega)
    rw [it_s h1, ← h3]; rfl
  · rw [cLT_neg (by omega), h3]
    rcases h2 with h2 | h2
    · rw [show x.toNat = n.toNat by omega]
    · by_cases hz : n = 0 ∨ n = -1
      · rw [show x.toNat = n.toNat by omega]
      · rw [show x.toNat = n.toNat by omega]
def tl4 (a b c d : Int) : Nat → Int := fun i => match i with | 0 => a | 1 => b | 2 => c | _ => d
def tl5 (a b c d e : Int) : Nat → Int := fun i => match i with | 0 => a | 1 => b | 2 => c | 3 => d | _ => e
def hSeal (kd fr ht ar sf sx : Int) (h : Int) : Int := if kd = -9 then 31 * h + -1 else 31 * (31 * (it (mx (tl4 kd fr ht ar)) h 4) + (if 0 < kd then sf else -1)) + (if 2 ≤ kd then sx else -1)
theorem mixSeal {C M : St} {p : Nat} (hs : SealOk C M p) {h : Int} : pX2_mixInto C (61 + p) h = some (hSeal (M 18 p) (M 21 p) (M 20 p) (M 22 p) (M 19 p) (M 23 p) h) := by
  obtain ⟨s1, s2, s3, s4, s5, s6, s7, s8⟩ := hs
  unfold pX2_mixInto pX2_isMissing hSeal
  rcases s8 with ⟨k1, k2⟩ | ⟨k1, k2, k3, k4, k5⟩
  · rw [k2, if_pos k1]
    simp (disch := omega) only [cLT_pos, bind_some', cEQ_neg, pX5_mix]
  · rw [k3, if_neg (by omega)]
    simp (disch := omega) only [cLT_neg, bind_some', cEQ_pos]
    have hi1 := is_ok (w := 1) k3 (by omega)
    have hi2 := is_ok (w := 2) k3 (by omega)
    rw [if_neg (by decide)] at hi1 hi2
    refine lo2_spec (fun o => o = some (31 * (31 * (it (mx (tl4 (M 18 p) (M 21 p) (M 20 p) (M 22 p))) h 4) + (if 0 < M 18 p then M 19 p else -1)) + (if 2 ≤ M 18 p then M 23 p else -1))) (fun (y x : Int) => 0 ≤ x ∧ x ≤ 4 ∧ y = it (mx (tl4 (M 18 p) (M 21 p) (M 20 p) (M 22 p))) h x.toNat) (fun _ x => (4 - x).toNat) ?_ FU _ _ ⟨by omega, by omega, rfl⟩ (by have := FU_big; omega)
    intro k y x hI hkk
    obtain ⟨h1, h2, h3⟩ := hI
    unfold pX2_mixInto_20B
    by_cases hx : 3 < x
    · have e : x.toNat = 4 := by omega
      rw [e] at h3
      rw [cLT_pos (by omega), hi1]
      unfold pX2_mixInto_64 pX2_mixInto_88
      rw [hi2]
      by_cases hr : 1 ≤ M 18 p
      · have e1 := (k5 hr).1
        rw [if_pos hr, if_pos (show 0 < M 18 p by omega), s4.1, e1]
        by_cases hg : 2 ≤ M 18 p
        · rw [if_pos hg, if_pos hg]
          simp (disch := omega) only [bind_some', cEQ_neg, wdI_ok, pX5_mix, h3]
        · rw [if_neg hg, if_neg hg]
          simp (disch := omega) only [bind_some', cEQ_neg, cEQ_pos, wdI_ok, pX5_mix, h3]
      · rw [if_neg hr, if_neg (show ¬ 0 < M 18 p by omega), if_neg (show ¬ 2 ≤ M 18 p by omega), if_neg (show ¬ 2 ≤ M 18 p by omega)]
        simp (disch := omega) only [bind_some', cEQ_pos, pX5_mix, h3]
    · rw [cLT_neg (by omega)]
      have ht : pX2_tells C (61 + p) x = some (tl4 (M 18 p) (M 21 p) (M 20 p) (M 22 p) x.toNat) := by
        unfold pX2_tells
        rcases (show x = 0 ∨ x = 1 ∨ x = 2 ∨ x = 3 by omega) with rfl | rfl | rfl | rfl
        · simp (disch := omega) only [cEQ_pos, k3]; rfl
        · simp (disch := omega) only [cEQ_neg, cEQ_pos, s2.1]; rfl
        · simp (disch := omega) only [cEQ_neg, cEQ_pos, s1.1]; rfl
        · simp (disch := omega) only [cEQ_neg, s3.1]; rfl
      have hb : -2147483648 ≤ tl4 (M 18 p) (M 21 p) (M 20 p) (M 22 p) x.toNat ∧ tl4 (M 18 p) (M 21 p) (M 20 p) (M 22 p) x.toNat ≤ 2147483647 := by
        rcases (show x = 0 ∨ x = 1 ∨ x = 2 ∨ x = 3 by omega) with rfl | rfl | rfl | rfl
        · show -2147483648 ≤ M 18 p ∧ M 18 p ≤ 2147483647; omega
        · show -2147483648 ≤ M 21 p ∧ M 21 p ≤ 2147483647; omega
        · show -2147483648 ≤ M 20 p ∧ M 20 p ≤ 2147483647; omega
        · show -2147483648 ≤ M 22 p ∧ M 22 p ≤ 2147483647; omega
      rw [ht]
      simp only [bind_some']
      rw [wdI_ok (by omega)]
      simp only [pX5_mix, bind_some', setS]
      refine hkk _ _ ⟨by omega, by omega, ?_⟩ (by omega)
      rw [it_s h1, ← h3]; rfl
def hStf (n st cd sw gs : Int) (X Y : Nat → Int) (h : Int) : Int := it (fun i z => 31 * (31 * z + X (i + 1)) + Y (i + 1)) (it (mx (tl5 n st cd sw gs)) h 5) n.toNat
theorem mixStf {C M : St} {s : Nat} (h2 : C (43 + 3 * s) 2 = M 8 s) (hd : StfD C M s) (hz : M 9 (5 * s) = 0 ∧ M 10 (5 * s) = 0) {h : Int} : pX3_mixInto C (43 + 3 * s) h = some (hStf (M 8 s) (M 11 s) (M 12 s) (M 13 s) (M 14 s) (fun i => M 9 (5 * s + i)) (fun i => M 10 (5 * s + i)) h) := by
  obtain ⟨d1, d2, d3, d4, d5, d6, d7, d8, d9, d10, d11, d12, d13, d14, d15, d16, d17⟩ := hd
  have hmono : ∀ k : Nat, (k : Int) ≤ M 8 s → 0 ≤ M 9 (5 * s + k) ∧ 0 ≤ M 10 (5 * s + k) := by
    intro k
    induction k with
    | zero => intro _; rw [Nat.add_zero]; omega
    | succ k ih =>
      intro hk
      have a := ih (by omega)
      have b := d4 k (by omega)
      omega
  unfold pX3_mixInto pX3_isMissing hStf
  rw [h2]
  simp (disch := omega) only [cEQ_neg, cEQ_pos, bind_some']
  refine lo2_spec (fun o => o = some (it (fun i z => 31 * (31 * z + M 9 (5 * s + (i + 1))) + M 10 (5 * s + (i + 1))) (it (mx (tl5 (M 8 s) (M 11 s) (M 12 s) (M 13 s) (M 14 s))) h 5) (M 8 s).toNat)) (fun (y x : Int) => 0 ≤ x ∧ x ≤ 5 ∧ y = it (mx (tl5 (M 8 s) (M 11 s) (M 12 s) (M 13 s) (M 14 s))) h x.toNat) (fun _ x => (5 - x).toNat) ?_ FU _ _ ⟨by omega, by omega, rfl⟩ (by have := FU_big; omega)
  intro k y x hI hkk
  obtain ⟨i1, i2, i3⟩ := hI
  unfold pX3_mixInto_20B
  by_cases hx : 4 < x
  · have e : x.toNat = 5 := by omega
    rw [e] at i3
    rw [cLT_pos (by omega), i3]
    generalize it (mx (tl5 (M 8 s) (M 11 s) (M 12 s) (M 13 s) (M 14 s))) h 5 = h5
    refine lo2_spec (fun o => o = some (it (fun i z => 31 * (31 * z + M 9 (5 * s + (i + 1))) + M 10 (5 * s + (i + 1))) h5 (M 8 s).toNat)) (fun (y x : Int) => 1 ≤ x ∧ x ≤ M 8 s + 1 ∧ y = it (fun i z => 31 * (31 * z + M 9 (5 * s + (i + 1))) + M 10 (5 * s + (i + 1))) h5 (x - 1).toNat) (fun _ x => (M 8 s + 1 - x).toNat) ?_ FU _ _ ⟨by omega, by omega, rfl⟩ (by have := FU_big; omega)
    intro k y x hI hkk
    obtain ⟨j1, j2, j3⟩ := hI
    unfold pX3_mixInto_47B
    rw [h2]
    by_cases hx : M 8 s < x
    · rw [cLT_pos (by omega), j3, show (x - 1).toNat = (M 8 s).toNat by omega]
    · obtain ⟨c1, c2⟩ := d3 x.toNat (by omega)
      have c3 := d5 x.toNat (by omega)
      have c4 := hmono x.toNat (by omega)
      rw [cLT_neg (by omega), ldI_ok (by omega), c1, wdI_ok (by omega)]
      simp only [pX5_mix, bind_some']
      rw [ldI_ok (by omega), c2, wdI_ok (by omega)]
      simp only [bind_some', setS]
      refine hkk _ _ ⟨by omega, by omega, ?_⟩ (by omega)
      rw [show (x + 1 - 1).toNat = (x - 1).toNat + 1 by omega]
      simp only [it]
      rw [← j3, show (x - 1).toNat + 1 = x.toNat by omega]
  · rw [cLT_neg (by omega)]
    have ht : pX3_tells C (43 + 3 * s) x = some (tl5 (M 8 s) (M 11 s) (M 12 s) (M 13 s) (M 14 s) x.toNat) := by
      unfold pX3_tells
      rcases (show x = 0 ∨ x = 1 ∨ x = 2 ∨ x = 3 ∨ x = 4 by omega) with rfl | rfl | rfl | rfl | rfl
      · simp (disch := omega) only [cEQ_pos, h2]; rfl
      · simp (disch := omega) only [cEQ_neg, cEQ_pos, d6]; rfl
      · simp (disch := omega) only [cEQ_neg, cEQ_pos, d9]; rfl
      · simp (disch := omega) only [cEQ_neg, cEQ_pos, d12]; rfl
      · simp (disch := omega) only [cEQ_neg, d15]; rfl
    have hb : -2147483648 ≤ tl5 (M 8 s) (M 11 s) (M 12 s) (M 13 s) (M 14 s) x.toNat ∧ tl5 (M 8 s) (M 11 s) (M 12 s) (M 13 s) (M 14 s) x.toNat ≤ 2147483647 := by
      rcases (show x = 0 ∨ x = 1 ∨ x = 2 ∨ x = 3 ∨ x = 4 by omega) with rfl | rfl | rfl | rfl | rfl
      · show -2147483648 ≤ M 8 s ∧ M 8 s ≤ 2147483647; omega
      · show -2147483648 ≤ M 11 s ∧ M 11 s ≤ 2147483647; omega
      · show -2147483648 ≤ M 12 s ∧ M 12 s ≤ 2147483647; omega
      · show -2147483648 ≤ M 13 s ∧ M 13 s ≤ 2147483647; omega
      · show -2147483648 ≤ M 14 s ∧ M 14 s ≤ 2147483647; omega
    rw [ht]
    simp only [bind_some']
    rw [wdI_ok (by omega)]
    simp only [pX5_mix, bind_some', setS]
    refine hkk _ _ ⟨by omega, by omega, ?_⟩ (by omega)
    rw [it_s i1, ← i3]; rfl
