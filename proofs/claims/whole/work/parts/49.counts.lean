/-! the model's count; count -/
theorem cM146 {M : St} {x1 : Int} (hx1 : 0 ≤ x1 ∧ x1 ≤ 5) (h5 : ∀ t, t < 4 → -1 ≤ M 5 t ∧ M 5 t ≤ 60) (x2 : Int) : lo2 (pX6_count_146B M x1) FU x2 0 = some (x2 + (if x1 = 5 then sm (fun t => b01 (0 ≤ M 5 t)) 4 else 0)) := by
  refine lo2_spec (fun o => o = some (x2 + (if x1 = 5 then sm (fun t => b01 (0 ≤ M 5 t)) 4 else 0))) (fun (y x3 : Int) => 0 ≤ x3 ∧ x3 ≤ 4 ∧ y = x2 + (if x1 = 5 then sm (fun t => b01 (0 ≤ M 5 t)) x3.toNat else 0)) (fun _ x3 => (4 - x3).toNat) ?_ FU _ _ ⟨by omega, by omega, by simp [sm]⟩ (by have := FU_big; omega)
  intro k y x3 hI hkk
  obtain ⟨h1, hn, h3⟩ := hI
  unfold pX6_count_146B pX6_count_171 pX6_count_170 pX6_count_171
  by_cases hx : x3 < 4
  · have hb := h5 x3.toNat (by omega)
    have es : sm (fun t => b01 (0 ≤ M 5 t)) (x3 + 1).toNat = sm (fun t => b01 (0 ≤ M 5 t)) x3.toNat + b01 (0 ≤ M 5 x3.toNat) := by
      rw [show (x3 + 1).toNat = x3.toNat + 1 by omega]; rfl
    rw [cLT_pos (by omega)]
    by_cases hw : x1 = 5
    · rw [if_pos hw] at h3
      rw [cEQ_pos (by omega), ldI_ok (by omega)]
      by_cases hc : 0 ≤ M 5 x3.toNat
      · simp (disch := omega) only [cLT_neg, setS]
        refine hkk _ _ ⟨by omega, by omega, ?_⟩ (by omega)
        rw [if_pos hw, es, h3, b01, if_pos hc]; omega
      · simp (disch := omega) only [cLT_pos, setS]
        refine hkk _ _ ⟨by omega, by omega, ?_⟩ (by omega)
        rw [if_pos hw, es, h3, b01, if_neg hc]; omega
    · rw [if_neg hw] at h3
      rw [cEQ_neg (by omega)]
      simp only [setS]
      refine hkk _ _ ⟨by omega, by omega, ?_⟩ (by omega)
      rw [if_neg hw, h3]; omega
  · have e : x3.toNat = 4 := by omega
    rw [e] at h3
    rw [cLT_neg (by omega), h3]
theorem cM110 {M : St} {x1 : Int} (hx1 : 0 ≤ x1 ∧ x1 ≤ 5) (h5 : ∀ t, t < 4 → -1 ≤ M 5 t ∧ M 5 t ≤ 60) (h2 : ∀ t, t < 6 → -1 ≤ M 2 t ∧ M 2 t ≤ 60) (x2 : Int) : lo2 (pX6_count_110B M x1) FU x2 0 = some (x2 + (if x1 = 4 then sm (fun t => b01 (0 ≤ M 2 t)) 6 else 0) + (if x1 = 5 then sm (fun t => b01 (0 ≤ M 5 t)) 4 else 0)) := by
  refine lo2_spec (fun o => o = some (x2 + (if x1 = 4 then sm (fun t => b01 (0 ≤ M 2 t)) 6 else 0) + (if x1 = 5 then sm (fun t => b01 (0 ≤ M 5 t)) 4 else 0))) (fun (y x3 : Int) => 0 ≤ x3 ∧ x3 ≤ 6 ∧ y = x2 + (if x1 = 4 then sm (fun t => b01 (0 ≤ M 2 t)) x3.toNat else 0)) (fun _ x3 => (6 - x3).toNat) ?_ FU _ _ ⟨by omega, by omega, by simp [sm]⟩ (by have := FU_big; omega)
  intro k y x3 hI hkk
  obtain ⟨h1, hn, h3⟩ := hI
  unfold pX6_count_110B pX6_count_136 pX6_count_135 pX6_count_136
  by_cases hx : x3 < 6
  · have hb := h2 x3.toNat (by omega)
    have es : sm (fun t => b01 (0 ≤ M 2 t)) (x3 + 1).toNat = sm (fun t => b01 (0 ≤ M 2 t)) x3.toNat + b01 (0 ≤ M 2 x3.toNat) := by
      rw [show (x3 + 1).toNat = x3.toNat + 1 by omega]; rfl
    rw [cLT_pos (by omega)]
    by_cases hw : x1 = 4
    · rw [if_pos hw] at h3
      rw [cEQ_pos (by omega), ldI_ok (by omega)]
      by_cases hc : 0 ≤ M 2 x3.toNat
      · simp (disch := omega) only [cLT_neg, setS]
        refine hkk _ _ ⟨by omega, by omega, ?_⟩ (by omega)
        rw [if_pos hw, es, h3, b01, if_pos hc]; omega
      · simp (disch := omega) only [cLT_pos, setS]
        refine hkk _ _ ⟨by omega, by omega, ?_⟩ (by omega)
        rw [if_pos hw, es, h3, b01, if_neg hc]; omega
    · rw [if_neg hw] at h3
      rw [cEQ_neg (by omega)]
      simp only [setS]
      refine hkk _ _ ⟨by omega, by omega, ?_⟩ (by omega)
      rw [if_neg hw, h3]; omega
  · have e : x3.toNat = 6 := by omega
    rw [e] at h3
    rw [cLT_neg (by omega), h3]
    rw [cM146 hx1 h5]
theorem cM74 {M : St} {x1 : Int} (hx1 : 0 ≤ x1 ∧ x1 ≤ 5) (h5 : ∀ t, t < 4 → -1 ≤ M 5 t ∧ M 5 t ≤ 60) (h2 : ∀ t, t < 6 → -1 ≤ M 2 t ∧ M 2 t ≤ 60) (h7 : ∀ t, t < 6 → 0 ≤ M 7 t ∧ M 7 t ≤ 1) (x2 : Int) : lo2 (pX6_count_74B M x1) FU x2 0 = some (x2 + (if x1 = 3 then sm (fun t => b01 (M 7 t ≠ 0)) 6 else 0) + (if x1 = 4 then sm (fun t => b01 (0 ≤ M 2 t)) 6 else 0) + (if x1 = 5 then sm (fun t => b01 (0 ≤ M 5 t)) 4 else 0)) := by
  refine lo2_spec (fun o => o = some (x2 + (if x1 = 3 then sm (fun t => b01 (M 7 t ≠ 0)) 6 else 0) + (if x1 = 4 then sm (fun t => b01 (0 ≤ M 2 t)) 6 else 0) + (if x1 = 5 then sm (fun t => b01 (0 ≤ M 5 t)) 4 else 0))) (fun (y x3 : Int) => 0 ≤ x3 ∧ x3 ≤ 6 ∧ y = x2 + (if x1 = 3 then sm (fun t => b01 (M 7 t ≠ 0)) x3.toNat else 0)) (fun _ x3 => (6 - x3).toNat) ?_ FU _ _ ⟨by omega, by omega, by simp [sm]⟩ (by have := FU_big; omega)
  intro k y x3 hI hkk
  obtain ⟨h1, hn, h3⟩ := hI
  unfold pX6_count_74B pX6_count_100 pX6_count_99 pX6_count_100
  by_cases hx : x3 < 6
  · have hb := h7 x3.toNat (by omega)
    have es : sm (fun t => b01 (M 7 t ≠ 0)) (x3 + 1).toNat = sm (fun t => b01 (M 7 t ≠ 0)) x3.toNat + b01 (M 7 x3.toNat ≠ 0) := by
      rw [show (x3 + 1).toNat = x3.toNat + 1 by omega]; rfl
    rw [cLT_pos (by omega)]
    by_cases hw : x1 = 3
    · rw [if_pos hw] at h3
      rw [cEQ_pos (by omega), ldI_ok (by omega)]
      by_cases hc : M 7 x3.toNat ≠ 0
      · simp (disch := omega) only [cEQ_neg, setS]
        refine hkk _ _ ⟨by omega, by omega, ?_⟩ (by omega)
        rw [if_pos hw, es, h3, b01, if_pos hc]; omega
      · simp (disch := omega) only [cEQ_pos, setS]
        refine hkk _ _ ⟨by omega, by omega, ?_⟩ (by omega)
        rw [if_pos hw, es, h3, b01, if_neg hc]; omega
    · rw [if_neg hw] at h3
      rw [cEQ_neg (by omega)]
      simp only [setS]
      refine hkk _ _ ⟨by omega, by omega, ?_⟩ (by omega)
      rw [if_neg hw, h3]; omega
  · have e : x3.toNat = 6 := by omega
    rw [e] at h3
    rw [cLT_neg (by omega), h3]
    rw [cM110 hx1 h5 h2]
theorem cM15 {M : St} {x1 : Int} (hx1 : 0 ≤ x1 ∧ x1 ≤ 5) (h5 : ∀ t, t < 4 → -1 ≤ M 5 t ∧ M 5 t ≤ 60) (h2 : ∀ t, t < 6 → -1 ≤ M 2 t ∧ M 2 t ≤ 60) (h7 : ∀ t, t < 6 → 0 ≤ M 7 t ∧ M 7 t ≤ 1) (hk : ∀ p, p < 4 → M 18 p = -9 ∨ (0 ≤ M 18 p ∧ M 18 p ≤ 4)) : lo2 (pX6_count_15B M x1) FU 0 0 = some ((if x1 ≤ 2 then sm (fun p => b01 (x1 ≤ M 18 p)) 4 else 0) + (if x1 = 3 then sm (fun t => b01 (M 7 t ≠ 0)) 6 else 0) + (if x1 = 4 then sm (fun t => b01 (0 ≤ M 2 t)) 6 else 0) + (if x1 = 5 then sm (fun t => b01 (0 ≤ M 5 t)) 4 else 0)) := by
  refine lo2_spec (fun o => o = some ((if x1 ≤ 2 then sm (fun p => b01 (x1 ≤ M 18 p)) 4 else 0) + (if x1 = 3 then sm (fun t => b01 (M 7 t ≠ 0)) 6 else 0) + (if x1 = 4 then sm (fun t => b01 (0 ≤ M 2 t)) 6 else 0) + (if x1 = 5 then sm (fun t => b01 (0 ≤ M 5 t)) 4 else 0))) (fun (y x3 : Int) => 0 ≤ x3 ∧ x3 ≤ 4 ∧ y = if x1 ≤ 2 then sm (fun p => b01 (x1 ≤ M 18 p)) x3.toNat else 0) (fun _ x3 => (4 - x3).toNat) ?_ FU _ _ ⟨by omega, by omega, by simp [sm]⟩ (by have := FU_big; omega)
  intro k y x3 hI hkk
  obtain ⟨h1, hn, h3⟩ := hI
  unfold pX6_count_15B
  by_cases hx : x3 < 4
  · have hb := hk x3.toNat (by omega)
    obtain ⟨p, rfl⟩ := Int.eq_ofNat_of_zero_le h1
    rw [Int.toNat_natCast] at hb h3
    have es : sm (fun p => b01 (x1 ≤ M 18 p)) ((p : Int) + 1).toNat = sm (fun p => b01 (x1 ≤ M 18 p)) p + b01 (x1 ≤ M 18 p) := by
      rw [show ((p : Int) + 1).toNat = p + 1 by omega]; rfl
    have hR := isRubber_ok (M := M) (p := p) (by omega) (by omega)
    have hG := isRing_ok (M := M) (p := p) (by omega) (by omega)
    have hS : pX6_isSeal M (p : Int) = some (if M 18 p = -9 then 0 else 1) := by
      unfold pX6_isSeal
      rw [ldI_ok (by omega), Int.toNat_natCast, cEQ_if (by omega)]
      split <;> rfl
    have key : ∀ z : Int, (z = if x1 ≤ 2 then b01 (x1 ≤ M 18 p) else 0) → k (y + z) ((p : Int) + 1) = some ((if x1 ≤ 2 then sm (fun p => b01 (x1 ≤ M 18 p)) 4 else 0) + (if x1 = 3 then sm (fun t => b01 (M 7 t ≠ 0)) 6 else 0) + (if x1 = 4 then sm (fun t => b01 (0 ≤ M 2 t)) 6 else 0) + (if x1 = 5 then sm (fun t => b01 (0 ≤ M 5 t)) 4 else 0)) := by
      intro z hz
      refine hkk _ _ ⟨by omega, by omega, ?_⟩ (by omega)
      rw [es, h3, hz]
      split <;> simp
    rw [cLT_pos (by omega), hS]
    unfold pX6_count_33 pX6_count_46 pX6_count_63 pX6_count_59 pX6_count_64
    rw [hR, hG]
    simp only [bind_some', setS]
    unfold b01 at key
    rcases (show x1 = 0 ∨ x1 = 1 ∨ x1 = 2 ∨ (3 ≤ x1 ∧ x1 ≤ 5) by omega) with rfl | rfl | rfl | hb3
    · by_cases hc : M 18 p = -9
      · rw [if_pos hc]
        simp (disch := omega) only [cEQ_pos, cEQ_neg]
        exact key 0 (by rw [if_pos (by decide), if_neg (by omega)])
      · rw [if_neg hc]
        simp (disch := omega) only [cEQ_pos, cEQ_neg]
        exact key 1 (by rw [if_pos (by decide), if_pos (by omega)])
    · by_cases hc : 0 < M 18 p
      · rw [if_pos hc]
        simp (disch := omega) only [cEQ_pos, cEQ_neg]
        exact key 1 (by rw [if_pos (by decide), if_pos (by omega)])
      · rw [if_neg hc]
        simp (disch := omega) only [cEQ_pos, cEQ_neg]
        exact key 0 (by rw [if_pos (by decide), if_neg (by omega)])
    · by_cases hc : 2 ≤ M 18 p
      · rw [if_pos hc]
        simp (disch := omega) only [cEQ_pos, cEQ_neg]
        exact key 1 (by rw [if_pos (by decide), if_pos (by omega)])
      · rw [if_neg hc]
        simp (disch := omega) only [cEQ_pos, cEQ_neg]
        exact key 0 (by rw [if_pos (by decide), if_neg (by omega)])
    · simp (disch := omega) only [cEQ_neg]
      exact key 0 (by rw [if_neg (by omega)])
  · have e : x3.toNat = 4 := by omega
    rw [e] at h3
    rw [cLT_neg (by omega), h3, cM74 hx1 h5 h2 h7]
theorem count_both {C M : St} (hI : Inv C M) {x1 : Int} (hx : 0 ≤ x1 ∧ x1 ≤ 5) : ∃ v, pX5_count C x1 = some v ∧ pX6_count M x1 = some v ∧ 0 ≤ v ∧ v ≤ 6 := by
  have h5 : ∀ t, t < 4 → -1 ≤ M 5 t ∧ M 5 t ≤ 60 := fun t ht => ⟨(hI.2.1 t ht).2.1, (hI.2.1 t ht).2.2.1⟩
  have h2 : ∀ t, t < 6 → -1 ≤ M 2 t ∧ M 2 t ≤ 60 := fun t ht => by have := hI.1 t ht; omega
  have h7 : ∀ t, t < 6 → 0 ≤ M 7 t ∧ M 7 t ≤ 1 := fun t ht => by rcases (hI.2.2.1 t ht).2.2 with h | h <;> omega
  have hk : ∀ p, p < 4 → M 18 p = -9 ∨ (0 ≤ M 18 p ∧ M 18 p ≤ 4) := fun p hp => by rcases (hI.2.2.2.1 p hp).kind with h | h <;> omega
  have bd : ∀ (f : Nat → Prop) [DecidablePred f] (n : Nat), 0 ≤ sm (fun t => b01 (f t)) n ∧ sm (fun t => b01 (f t)) n ≤ n := by
    intro f _ n
    induction n with
    | zero => simp [sm]
    | succ n ih =>
      simp only [sm]
      have : 0 ≤ b01 (f n) ∧ b01 (f n) ≤ 1 := by unfold b01; split <;> omega
      omega
  unfold pX5_count pX6_count
  rw [in_t (by omega)]
  simp (disch := omega) only [bind_some', cEQ_neg]
  rw [cM15 hx h5 h2 h7 hk]
  rcases (show x1 = 0 ∨ x1 = 1 ∨ x1 = 2 ∨ x1 = 3 ∨ x1 = 4 ∨ x1 = 5 by omega) with rfl | rfl | rfl | rfl | rfl | rfl
  · have e : sm (fun p => b01 ((0 : Int) ≤ C (61 + p) 0)) 4 = sm (fun p => b01 ((0 : Int) ≤ M 18 p)) 4 := sm_congr (fun p hp => by
      unfold b01
      rcases (hI.2.2.2.1 p hp).kind with h | h
      · rw [if_neg (by omega), if_neg (by omega)]
      · rw [h.2.2])
    rw [cEQ_pos (by omega), ckind (kd := fun p => C (61 + p) 0) (fun p hp => ⟨rfl, by rcases (hI.2.2.2.1 p hp).kind with h | h <;> omega⟩) (by decide)]
    exact ⟨_, rfl, by simp [e], by have := bd (fun p => (0 : Int) ≤ C (61 + p) 0) 4; omega⟩
  · have e : sm (fun p => b01 ((1 : Int) ≤ C (61 + p) 0)) 4 = sm (fun p => b01 ((1 : Int) ≤ M 18 p)) 4 := sm_congr (fun p hp => by
      unfold b01
      rcases (hI.2.2.2.1 p hp).kind with h | h
      · rw [if_neg (by omega), if_neg (by omega)]
      · rw [h.2.2])
    rw [cEQ_neg (by omega), cEQ_pos (by omega), ckind (kd := fun p => C (61 + p) 0) (fun p hp => ⟨rfl, by rcases (hI.2.2.2.1 p hp).kind with h | h <;> omega⟩) (by decide)]
    exact ⟨_, rfl, by simp [e], by have := bd (fun p => (1 : Int) ≤ C (61 + p) 0) 4; omega⟩
  · have e : sm (fun p => b01 ((2 : Int) ≤ C (61 + p) 0)) 4 = sm (fun p => b01 ((2 : Int) ≤ M 18 p)) 4 := sm_congr (fun p hp => by
      unfold b01
      rcases (hI.2.2.2.1 p hp).kind with h | h
      · rw [if_neg (by omega), if_neg (by omega)]
      · rw [h.2.2])
    rw [cEQ_neg (by omega), cEQ_neg (by omega), cEQ_pos (by omega), ckind (kd := fun p => C (61 + p) 0) (fun p hp => ⟨rfl, by rcases (hI.2.2.2.1 p hp).kind with h | h <;> omega⟩) (by decide)]
    exact ⟨_, rfl, by simp [e], by have := bd (fun p => (2 : Int) ≤ C (61 + p) 0) 4; omega⟩
  · have e : sm (fun s => b01 (C (43 + 3 * s) 2 ≠ 0)) 6 = sm (fun s => b01 (M 7 s ≠ 0)) 6 := sm_congr (fun s hs => by
      unfold b01
      rcases (hI.2.2.1 s hs).2.2 with h | ⟨k1, k2, hd⟩
      · rw [if_neg (by omega), if_neg (by omega)]
      · have := hd.1
        rw [if_pos (by omega), if_pos (by omega)])
    have hpt : ∀ s, s < 6 → 0 ≤ C (43 + 3 * s) 2 ∧ C (43 + 3 * s) 2 ≤ 4 := fun s hs => by
      rcases (hI.2.2.1 s hs).2.2 with h | ⟨k1, k2, hd⟩
      · omega
      · have h1 := hd.1
        have h2 := hd.2.1
        omega
    simp (disch := omega) only [cEQ_neg, cEQ_pos]
    rw [cstuffs (pt := fun s => C (43 + 3 * s) 2) (fun s hs => ⟨rfl, hpt s hs⟩)]
    exact ⟨_, rfl, by simp at e ⊢; rw [e], by have := bd (fun s => C (43 + 3 * s) 2 ≠ 0) 6; omega⟩
  · have e : sm (fun s => b01 (0 ≤ C (23 + 2 * s) 1)) 6 = sm (fun s => b01 (0 ≤ M 2 s)) 6 := sm_congr (fun s hs => by rw [(hI.1 s hs).1])
    simp (disch := omega) only [cEQ_neg, cEQ_pos]
    rw [crows1 (sz := fun s => C (23 + 2 * s) 1) (fun s hs => ⟨rfl, by have := hI.1 s hs; omega⟩)]
    exact ⟨_, rfl, by simp [e], by have := bd (fun s => 0 ≤ C (23 + 2 * s) 1) 6; omega⟩
  · have e : sm (fun s => b01 (0 ≤ C (35 + 2 * s) 1)) 4 = sm (fun s => b01 (0 ≤ M 5 s)) 4 := sm_congr (fun s hs => by rw [(hI.2.1 s hs).1])
    simp (disch := omega) only [cEQ_neg, cEQ_pos]
    rw [crows2 (sz := fun s => C (35 + 2 * s) 1) (fun s hs => ⟨rfl, by have := hI.2.1 s hs; omega⟩)]
    exact ⟨_, rfl, by simp [e], by have := bd (fun s => 0 ≤ C (35 + 2 * s) 1) 4; omega⟩
theorem e_count : ca_40 Inv := by
  intro C M x1 hI hx
  by_cases h : 0 ≤ x1 ∧ x1 ≤ 5
  · obtain ⟨v, a, b, -⟩ := count_both hI h
    exact ⟨v, a, b, hI⟩
  · unfold pX5_count pX6_count
    rw [in_f (by omega)]
    simp (disch := omega) only [bind_some', cEQ_neg, cEQ_pos]
    exact ⟨_, rfl, rfl, hI⟩
