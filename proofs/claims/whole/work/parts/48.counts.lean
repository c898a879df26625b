/-! mean, count -/
def sm (f : Nat → Int) : Nat → Int
  | 0 => 0
  | n + 1 => sm f n + f n
theorem sm_congr {f g : Nat → Int} : ∀ {n : Nat}, (∀ i, i < n → f i = g i) → sm f n = sm g n
  | 0, _ => rfl
  | n + 1, h => by simp only [sm]; rw [sm_congr (fun i hi => h i (by omega)), h n (by omega)]
theorem sm_bd {f : Nat → Int} {B : Int} : ∀ {n : Nat}, (∀ i, i < n → -B ≤ f i ∧ f i ≤ B) → -(B * n) ≤ sm f n ∧ sm f n ≤ B * n
  | 0, _ => by simp [sm]
  | n + 1, h => by
    have h1 := sm_bd (n := n) (fun i hi => h i (by omega))
    have h2 := h n (by omega)
    simp only [sm]
    have e : B * ((n + 1 : Nat) : Int) = B * n + B := by rw [Int.natCast_succ, Int.mul_add, Int.mul_one]
    rw [e]
    omega
theorem meanC {C : St} {q n : Nat} {f : Nat → Int} (hn : C q 1 = n) (h0 : 1 ≤ n) (h40 : n ≤ 40) (hr : rlen q = 40) (hf : ∀ i, i < n → C (q + 1) i = f i ∧ -2147483648 ≤ f i ∧ f i ≤ 2147483647) : lo2 (pX5_mean_47B C q) FU 0 0 = some (1, put C 0 11 ((sm f n).tdiv n)) := by
  refine lo2_spec (fun o => o = some (1, put C 0 11 ((sm f n).tdiv n))) (fun (x3 x5 : Int) => 0 ≤ x5 ∧ x5 ≤ n ∧ x3 = sm f x5.toNat) (fun _ x5 => ((n : Int) - x5).toNat) ?_ FU _ _ ⟨by omega, by omega, rfl⟩ (by have := FU_big; omega)
  intro k x3 x5 hI hk
  obtain ⟨h1, h2, h3⟩ := hI
  unfold pX5_mean_47B
  rw [hn, hr]
  by_cases hx : x5 < n
  · obtain ⟨f1, f2, f3⟩ := hf x5.toNat (by omega)
    rw [cLT_pos (by omega), ldI_ok (by omega), f1, wdI_ok (by omega)]
    simp only [setS]
    refine hk _ _ ⟨by omega, by omega, ?_⟩ (by omega)
    rw [h3, show (x5 + 1).toNat = x5.toNat + 1 by omega]
    rfl
  · have e : x5.toNat = n := by omega
    rw [e] at h3
    have hb := sm_bd (B := 2147483648) (f := f) (n := n) (fun i hi => by have := (hf i hi).2; omega)
    rw [cLT_neg (by omega), wdI_ok (by omega), dvL_ok (by omega), h3]
    rfl
theorem meanM {M : St} {r n : Nat} {f : Nat → Int} (hr : r < 6) (hn : M 2 r = n) (h0 : 1 ≤ n) (h40 : n ≤ 40) (hf : ∀ i, i < n → M 3 (40 * r + i) = f i ∧ -2147483648 ≤ f i ∧ f i ≤ 2147483647) : lo2 (pX6_mean_44B M (r : Int)) FU 0 0 = some (1, put M 0 2 ((sm f n).tdiv n)) := by
  refine lo2_spec (fun o => o = some (1, put M 0 2 ((sm f n).tdiv n))) (fun (x3 x5 : Int) => 0 ≤ x5 ∧ x5 ≤ n ∧ x3 = sm f x5.toNat) (fun _ x5 => ((n : Int) - x5).toNat) ?_ FU _ _ ⟨by omega, by omega, rfl⟩ (by have := FU_big; omega)
  intro k x3 x5 hI hk
  obtain ⟨h1, h2, h3⟩ := hI
  unfold pX6_mean_44B pX6_rowAt pX6_tells
  rw [ldI_ok (by omega), Int.toNat_natCast, hn]
  by_cases hx : x5 < n
  · obtain ⟨f1, f2, f3⟩ := hf x5.toNat (by omega)
    have e : (40 * (r : Int) + x5).toNat = 40 * r + x5.toNat := by omega
    rw [cLT_pos (by omega), ldI_ok (by omega), e, f1]
    simp only [bind_some']
    rw [wdI_ok (by omega)]
    simp only [setS]
    refine hk _ _ ⟨by omega, by omega, ?_⟩ (by omega)
    rw [h3, show (x5 + 1).toNat = x5.toNat + 1 by omega]
    rfl
  · have e : x5.toNat = n := by omega
    rw [e] at h3
    have hb := sm_bd (B := 2147483648) (f := f) (n := n) (fun i hi => by have := (hf i hi).2; omega)
    rw [cLT_neg (by omega), ldI_ok (by omega), Int.toNat_natCast, hn, wdI_ok (by omega), dvL_ok (by omega), h3]
    rfl
theorem e_mean : ca_4 Inv := by
  intro C M x1 hI hx
  unfold pX5_mean pX6_mean pX1_isMissing
  by_cases h : 0 ≤ x1 ∧ x1 ≤ 5
  · obtain ⟨r, rfl⟩ := Int.eq_ofNat_of_zero_le h.1
    obtain ⟨e1, b1, b2, hcell⟩ := hI.1 r (by omega)
    rw [isRow_t h, isRowM_t h]
    simp (disch := omega) only [bind_some', cEQ_neg, ldA_ok, ldI_ok, Int.toNat_natCast, e1]
    by_cases hm : M 2 r < 0
    · simp (disch := omega) only [cLT_pos, bind_some', cEQ_neg, found1, meets1, bnd_some]
      exact ag_fd hI (by decide)
    · by_cases hz : M 2 r = 0
      · simp (disch := omega) only [cLT_neg, bind_some', cEQ_pos, found4, meets4, bnd_some]
        exact ag_fd hI (by decide)
      · simp (disch := omega) only [cLT_neg, bind_some', cEQ_neg, cEQ_pos]
        obtain ⟨n, hn⟩ := Int.eq_ofNat_of_zero_le (show 0 ≤ M 2 r by omega)
        have hf : ∀ i, i < n → M 3 (40 * r + i) = M 3 (40 * r + i) ∧ -2147483648 ≤ M 3 (40 * r + i) ∧ M 3 (40 * r + i) ≤ 2147483647 := fun i hi => ⟨rfl, (hcell i (by omega)).2⟩
        rw [meanC (n := n) (f := fun i => M 3 (40 * r + i)) (by omega) (by omega) (by omega) (rlen_row (by omega)) (fun i hi => ⟨(hcell i (by omega)).1, (hcell i (by omega)).2⟩), meanM (n := n) (f := fun i => M 3 (40 * r + i)) (by omega) hn (by omega) (by omega) hf]
        exact ⟨_, _, _, rfl, rfl, Inv_asked hI _⟩
  · rw [isRow_f (by omega), isRowM_f (by omega)]
    simp (disch := omega) only [bind_some', cEQ_pos]
    exact ag_same hI
/-! counting -/
def b01 (p : Prop) [Decidable p] : Int := if p then 1 else 0
theorem ckind {C : St} {w : Int} {kd : Nat → Int} (hk : ∀ p, p < 4 → C (61 + p) 0 = kd p ∧ -1 ≤ kd p ∧ kd p ≤ 4) (hw : 0 ≤ w ∧ w ≤ 2) : pX5_countOfKind C w = some (sm (fun p => b01 (w ≤ kd p)) 4) := by
  unfold pX5_countOfKind
  refine lo2_spec (fun o => o = some (sm (fun p => b01 (w ≤ kd p)) 4)) (fun (x2 x3 : Int) => 0 ≤ x3 ∧ x3 ≤ 4 ∧ x2 = sm (fun p => b01 (w ≤ kd p)) x3.toNat) (fun _ x3 => (4 - x3).toNat) ?_ FU _ _ ⟨by omega, by omega, rfl⟩ (by have := FU_big; omega)
  intro k x2 x3 hI hkk
  obtain ⟨h1, h2, h3⟩ := hI
  unfold pX5_countOfKind_4B pX5_countOfKind_25
  by_cases hx : x3 < 4
  · obtain ⟨k1, k2, k3⟩ := hk x3.toNat (by omega)
    rw [cLT_pos (by omega), ldA_ok (by omega), Nat.one_mul, is_ok k1 (by omega)]
    have es : sm (fun p => b01 (w ≤ kd p)) (x3 + 1).toNat = sm (fun p => b01 (w ≤ kd p)) x3.toNat + b01 (w ≤ kd x3.toNat) := by
      rw [show (x3 + 1).toNat = x3.toNat + 1 by omega]; rfl
    rw [if_neg (by omega)]
    by_cases hc : w ≤ kd x3.toNat
    · rw [if_pos hc]
      simp (disch := omega) only [bind_some', cEQ_neg, setS]
      refine hkk _ _ ⟨by omega, by omega, ?_⟩ (by omega)
      rw [es, h3, b01, if_pos hc]
    · rw [if_neg hc]
      simp (disch := omega) only [bind_some', cEQ_pos, setS]
      refine hkk _ _ ⟨by omega, by omega, ?_⟩ (by omega)
      rw [es, h3, b01, if_neg hc, Int.add_zero]
  · have e : x3.toNat = 4 := by omega
    rw [cLT_neg (by omega), h3, e]
theorem cstuffs {C : St} {pt : Nat → Int} (hk : ∀ s, s < 6 → C (43 + 3 * s) 2 = pt s ∧ 0 ≤ pt s ∧ pt s ≤ 4) : pX5_countOfStuffs C = some (sm (fun s => b01 (pt s ≠ 0)) 6) := by
  unfold pX5_countOfStuffs
  refine lo2_spec (fun o => o = some (sm (fun s => b01 (pt s ≠ 0)) 6)) (fun (x2 x3 : Int) => 0 ≤ x3 ∧ x3 ≤ 6 ∧ x2 = sm (fun s => b01 (pt s ≠ 0)) x3.toNat) (fun _ x3 => (6 - x3).toNat) ?_ FU _ _ ⟨by omega, by omega, rfl⟩ (by have := FU_big; omega)
  intro k x2 x3 hI hkk
  obtain ⟨h1, h2, h3⟩ := hI
  unfold pX5_countOfStuffs_4B pX5_countOfStuffs_25 pX3_isMissing
  by_cases hx : x3 < 6
  · obtain ⟨k1, k2, k3⟩ := hk x3.toNat (by omega)
    have es : sm (fun s => b01 (pt s ≠ 0)) (x3 + 1).toNat = sm (fun s => b01 (pt s ≠ 0)) x3.toNat + b01 (pt x3.toNat ≠ 0) := by
      rw [show (x3 + 1).toNat = x3.toNat + 1 by omega]; rfl
    rw [cLT_pos (by omega), ldA_ok (by omega), k1]
    by_cases hc : pt x3.toNat = 0
    · simp (disch := omega) only [bind_some', cEQ_neg, cEQ_pos, setS]
      refine hkk _ _ ⟨by omega, by omega, ?_⟩ (by omega)
      rw [es, h3, b01, if_neg (by omega), Int.add_zero]
    · simp (disch := omega) only [bind_some', cEQ_neg, cEQ_pos, setS]
      refine hkk _ _ ⟨by omega, by omega, ?_⟩ (by omega)
      rw [es, h3, b01, if_pos hc]
  · have e : x3.toNat = 6 := by omega
    rw [cLT_neg (by omega), h3, e]
theorem crows1 {C : St} {sz : Nat → Int} (hk : ∀ s, s < 6 → C (23 + 2 * s) 1 = sz s ∧ -1 ≤ sz s ∧ sz s ≤ 60) : pX5_countOfRows_1 C = some (sm (fun s => b01 (0 ≤ sz s)) 6) := by
  unfold pX5_countOfRows_1
  refine lo2_spec (fun o => o = some (sm (fun s => b01 (0 ≤ sz s)) 6)) (fun (x2 x3 : Int) => 0 ≤ x3 ∧ x3 ≤ 6 ∧ x2 = sm (fun s => b01 (0 ≤ sz s)) x3.toNat) (fun _ x3 => (6 - x3).toNat) ?_ FU _ _ ⟨by omega, by omega, rfl⟩ (by have := FU_big; omega)
  intro k x2 x3 hI hkk
  obtain ⟨h1, h2, h3⟩ := hI
  unfold pX5_countOfRows_1_4B pX5_countOfRows_1_22 pX1_isMissing
  by_cases hx : x3 < 6
  · obtain ⟨k1, k2, k3⟩ := hk x3.toNat (by omega)
    have es : sm (fun s => b01 (0 ≤ sz s)) (x3 + 1).toNat = sm (fun s => b01 (0 ≤ sz s)) x3.toNat + b01 (0 ≤ sz x3.toNat) := by
      rw [show (x3 + 1).toNat = x3.toNat + 1 by omega]; rfl
    rw [cLT_pos (by omega), ldA_ok (by omega), k1]
    by_cases hc : 0 ≤ sz x3.toNat
    · simp (disch := omega) only [bind_some', cLT_neg, cEQ_pos, setS]
      refine hkk _ _ ⟨by omega, by omega, ?_⟩ (by omega)
      rw [es, h3, b01, if_pos hc]
    · simp (disch := omega) only [bind_some', cLT_pos, cEQ_neg, setS]
      refine hkk _ _ ⟨by omega, by omega, ?_⟩ (by omega)
      rw [es, h3, b01, if_neg hc, Int.add_zero]
  · have e : x3.toNat = 6 := by omega
    rw [cLT_neg (by omega), h3, e]
theorem crows2 {C : St} {sz : Nat → Int} (hk : ∀ s, s < 4 → C (35 + 2 * s) 1 = sz s ∧ -1 ≤ sz s ∧ sz s ≤ 60) : pX5_countOfRows_2 C = some (sm (fun s => b01 (0 ≤ sz s)) 4) := by
  unfold pX5_countOfRows_2
  refine lo2_spec (fun o => o = some (sm (fun s => b01 (0 ≤ sz s)) 4)) (fun (x2 x3 : Int) => 0 ≤ x3 ∧ x3 ≤ 4 ∧ x2 = sm (fun s => b01 (0 ≤ sz s)) x3.toNat) (fun _ x3 => (4 - x3).toNat) ?_ FU _ _ ⟨by omega, by omega, rfl⟩ (by have := FU_big; omega)
  intro k x2 x3 hI hkk
  obtain ⟨h1, h2, h3⟩ := hI
  unfold pX5_countOfRows_2_4B pX5_countOfRows_2_22 pX1_isMissing
  by_cases hx : x3 < 4
  · obtain ⟨k1, k2, k3⟩ := hk x3.toNat (by omega)
    have es : sm (fun s => b01 (0 ≤ sz s)) (x3 + 1).toNat = sm (fun s => b01 (0 ≤ sz s)) x3.toNat + b01 (0 ≤ sz x3.toNat) := by
      rw [show (x3 + 1).toNat = x3.toNat + 1 by omega]; rfl
    rw [cLT_pos (by omega), ldA_ok (by omega), k1]
    by_cases hc : 0 ≤ sz x3.toNat
    · simp (disch := omega) only [bind_some', cLT_neg, cEQ_pos, setS]
      refine hkk _ _ ⟨by omega, by omega, ?_⟩ (by omega)
      rw [es, h3, b01, if_pos hc]
    · simp (disch := omega) only [bind_some', cLT_pos, cEQ_neg, setS]
      refine hkk _ _ ⟨by omega, by omega, ?_⟩ (by omega)
      rw [es, h3, b01, if_neg hc, Int.add_zero]
  · have e : x3.toNat = 4 := by omega
    rw [cLT_neg (by omega), h3, e]
