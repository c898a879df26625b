/-! mark, about, renew, stretch, seal -/
theorem missed_no {C : St} {p : Nat} {w : Int} (hp : p < 4) (hk : C (61 + p) 0 = -1) : pX5_missed C (p : Int) w = some 1 := by
  unfold pX5_missed pX2_isMissing
  simp (disch := omega) only [place_t, bind_some', cEQ_neg, cEQ_pos, ldA_ok, Int.toNat_natCast, Nat.one_mul, hk, cLT_pos]
theorem missed_t {C : St} {p : Nat} {k w : Int} (hp : p < 4) (hk : C (61 + p) 0 = k) (h : 0 ≤ k ∧ k ≤ 4 ∧ 0 ≤ w ∧ w ≤ 4 ∧ (((w = 3 ∨ w = 4) ∧ k = w) ∨ (w ≠ 3 ∧ w ≠ 4 ∧ w ≤ k))) : pX5_missed C (p : Int) w = some 0 := by
  have h1 : pX2_is C (61 + p) w = some 1 := by
    rw [is_ok hk (by omega)]
    (repeat' split) <;> first | rfl | omega
  unfold pX5_missed pX2_isMissing
  simp (disch := omega) only [place_t, bind_some', cEQ_neg, cEQ_pos, ldA_ok, Int.toNat_natCast, Nat.one_mul, hk, cLT_neg, h1]
theorem missed_f {C : St} {p : Nat} {k w : Int} (hp : p < 4) (hk : C (61 + p) 0 = k) (h : 0 ≤ k ∧ k ≤ 4 ∧ 0 ≤ w ∧ w ≤ 4 ∧ ¬ (((w = 3 ∨ w = 4) ∧ k = w) ∨ (w ≠ 3 ∧ w ≠ 4 ∧ w ≤ k))) : pX5_missed C (p : Int) w = some 3 := by
  have h1 : pX2_is C (61 + p) w = some 0 := by
    rw [is_ok hk (by omega)]
    (repeat' split) <;> first | rfl | omega
  unfold pX5_missed pX2_isMissing
  simp (disch := omega) only [place_t, bind_some', cEQ_neg, cEQ_pos, ldA_ok, Int.toNat_natCast, Nat.one_mul, hk, cLT_neg, h1]
theorem isRubber_ok {M : St} {p : Nat} (hp : p < 4) (h : -9 ≤ M 18 p ∧ M 18 p ≤ 4) : pX6_isRubber M (p : Int) = some (if 0 < M 18 p then 1 else 0) := by
  unfold pX6_isRubber
  rw [ldI_ok (by omega), Int.toNat_natCast, cLT_if (by omega)]
  split <;> rfl
theorem isRing_ok {M : St} {p : Nat} (hp : p < 4) (h : -9 ≤ M 18 p ∧ M 18 p ≤ 4) : pX6_isRing M (p : Int) = some (if 2 ≤ M 18 p then 1 else 0) := by
  unfold pX6_isRing
  rw [ldI_ok (by omega), Int.toNat_natCast, cLT_if (by omega)]
  (repeat' split) <;> first | rfl | omega
theorem e_mark : ca_16 Inv := by
  intro C M x1 x2 hI hx1 hx2
  unfold pX5_mark pX6_mark
  by_cases h2 : 1 ≤ x2 ∧ x2 ≤ 4
  · rw [in_t (by omega), within_t (by omega)]
    simp only [bind_some']
    by_cases h : 0 ≤ x1 ∧ x1 ≤ 3
    · obtain ⟨p, rfl⟩ := Int.eq_ofNat_of_zero_le h.1
      have hs := hI.2.2.2.1 p (by omega)
      rcases hs.kind with ⟨k1, k2⟩ | ⟨k1, k2, k3⟩
      · rw [needSeal_no (by omega) k1, missed_no (by omega) k2]
        simp (disch := omega) only [place_t, bind_some', cEQ_neg, cLT_pos, bnd_some, found1]
        exact ag_fd hI (by decide)
      · rw [needSeal_ok (by omega) ⟨k1, k2⟩]
        obtain ⟨s1, s2, s3, s4, s5, s6, s7, s8⟩ := hs
        have hst : 1 ≤ M 18 p → C (61 + p) 1 = M 19 p := fun hr => by
          rcases s8 with z | z
          · omega
          · exact (z.2.2.2.2 hr).1
        have hR := isRubber_ok (M := M) (p := p) (by omega) (by omega)
        have hG := isRing_ok (M := M) (p := p) (by omega) (by omega)
        by_cases hk : ((x2 = 3 ∨ x2 = 4) ∧ M 18 p = x2) ∨ (x2 ≠ 3 ∧ x2 ≠ 4 ∧ x2 ≤ M 18 p)
        · rw [missed_t (k := M 18 p) (by omega) k3 (by omega)]
          unfold pX6_mark_59 pX2_tellsAs
          rcases (show x2 = 1 ∨ x2 = 2 ∨ x2 = 3 ∨ x2 = 4 by omega) with rfl | rfl | rfl | rfl
          · rw [if_pos (by omega)] at hR
            simp (disch := omega) only [hR, place_t, bind_some', cEQ_neg, cEQ_pos, ldA_ok, ldI_ok, Int.toNat_natCast, Nat.one_mul, cLT_neg, bnd_some]
            exact ⟨_, _, _, rfl, by rw [hst (by omega)], hI⟩
          · rw [if_pos (by omega)] at hG
            simp (disch := omega) only [hG, place_t, bind_some', cEQ_neg, cEQ_pos, ldA_ok, ldI_ok, Int.toNat_natCast, Nat.one_mul, cLT_neg, bnd_some]
            exact ⟨_, _, _, rfl, by rw [s4.1], hI⟩
          · simp (disch := omega) only [place_t, bind_some', cEQ_neg, cEQ_pos, ldA_ok, ldI_ok, Int.toNat_natCast, Nat.one_mul, cLT_neg, bnd_some]
            exact ⟨_, _, _, rfl, by rw [s5], hI⟩
          · simp (disch := omega) only [place_t, bind_some', cEQ_neg, cEQ_pos, ldA_ok, ldI_ok, Int.toNat_natCast, Nat.one_mul, cLT_neg, bnd_some]
            exact ⟨_, _, _, rfl, by rw [s5], hI⟩
        · rw [missed_f (k := M 18 p) (by omega) k3 (by omega)]
          unfold pX6_mark_59
          rcases (show x2 = 1 ∨ x2 = 2 ∨ x2 = 3 ∨ x2 = 4 by omega) with rfl | rfl | rfl | rfl
          · rw [if_neg (by omega)] at hR
            simp (disch := omega) only [hR, place_t, bind_some', cEQ_neg, cEQ_pos, ldI_ok, Int.toNat_natCast, cLT_neg, bnd_some, found3, meets3]
            exact ag_fd hI (by decide)
          · rw [if_neg (by omega)] at hG
            simp (disch := omega) only [hG, place_t, bind_some', cEQ_neg, cEQ_pos, ldI_ok, Int.toNat_natCast, cLT_neg, bnd_some, found3, meets3]
            exact ag_fd hI (by decide)
          · simp (disch := omega) only [place_t, bind_some', cEQ_neg, cEQ_pos, ldI_ok, Int.toNat_natCast, cLT_neg, bnd_some, found3, meets3]
            exact ag_fd hI (by decide)
          · simp (disch := omega) only [place_t, bind_some', cEQ_neg, cEQ_pos, ldI_ok, Int.toNat_natCast, cLT_neg, bnd_some, found3, meets3]
            exact ag_fd hI (by decide)
    · rw [needSeal_bad (by omega)]
      simp (disch := omega) only [place_f, bind_some', cEQ_pos, bnd_some, cLT_pos]
      exact ag_same hI
  · rw [in_f (by omega), within_f (by omega)]
    simp only [bind_some']
    rw [needSeal_bad (by omega)]
    by_cases h : 0 ≤ x1 ∧ x1 ≤ 3
    · simp (disch := omega) only [place_t, bind_some', cEQ_pos, cEQ_neg, bnd_some, cLT_pos]
      exact ag_same hI
    · simp (disch := omega) only [place_f, bind_some', cEQ_pos, bnd_some, cLT_pos]
      exact ag_same hI
theorem needStuff_bad {M : St} {g x : Int} (h : -2147483648 ≤ x ∧ x ≤ 2147483647 ∧ 0 ≤ g ∧ g ≤ 1 ∧ (¬ (0 ≤ x ∧ x ≤ 5) ∨ g = 0)) : pX6_needStuff M g x = some (-1, M) := by
  unfold pX6_needStuff pX6_needStuff_13
  by_cases hx : 0 ≤ x ∧ x ≤ 5
  · rw [in_t (by omega)]
    simp (disch := omega) only [bind_some', cEQ_neg, cEQ_pos]
  · rw [in_f (by omega)]
    simp (disch := omega) only [bind_some', cEQ_neg, cEQ_pos]
theorem needStuff_no {M : St} {s : Nat} (hs : s < 6) (h : M 7 s = 0) : pX6_needStuff M 1 (s : Int) = some (-3, fdM M 1) := by
  unfold pX6_needStuff
  rw [in_t (by omega)]
  simp (disch := omega) only [bind_some', cEQ_neg, cEQ_pos, ldI_ok, Int.toNat_natCast, h, meets1, bnd_some]
theorem needStuff_ok {M : St} {s : Nat} (hs : s < 6) (h : M 7 s = 1) : pX6_needStuff M 1 (s : Int) = some (0, M) := by
  unfold pX6_needStuff
  rw [in_t (by omega)]
  simp (disch := omega) only [bind_some', cEQ_neg, cEQ_pos, ldI_ok, Int.toNat_natCast, h]
theorem e_about : ca_9 Inv := by
  intro C M x1 x2 hI hx1 hx2
  unfold pX5_about pX6_about pX3_isMissing pX3_tells pX6_stuffTells pX6_tells
  by_cases h2 : 0 ≤ x2 ∧ x2 ≤ 4
  · rw [in_t (by omega), within_t (by omega)]
    simp only [bind_some']
    by_cases h : 0 ≤ x1 ∧ x1 ≤ 5
    · obtain ⟨s, rfl⟩ := Int.eq_ofNat_of_zero_le h.1
      rcases (hI.2.2.1 s (by omega)).2.2 with ⟨k1, k2⟩ | ⟨k1, k2, hd⟩
      · rw [needStuff_no (by omega) k1]
        simp (disch := omega) only [isStuff_t, bind_some', cEQ_neg, cEQ_pos, ldA_ok, Int.toNat_natCast, k2, bnd_some, found1, cLT_pos]
        exact ag_fd hI (by decide)
      · rw [needStuff_ok (by omega) k1]
        obtain ⟨d1, d2, d3, d4, d5, d6, d7, d8, d9, d10, d11, d12, d13, d14, d15, d16, d17⟩ := hd
        rcases (show x2 = 0 ∨ x2 = 1 ∨ x2 = 2 ∨ x2 = 3 ∨ x2 = 4 by omega) with rfl | rfl | rfl | rfl | rfl
        · simp (disch := omega) only [isStuff_t, bind_some', cEQ_neg, cEQ_pos, ldA_ok, ldI_ok, Int.toNat_natCast, k2, cLT_neg, bnd_some, setS]
          exact ⟨_, _, _, rfl, rfl, Inv_asked hI _⟩
        · simp (disch := omega) only [isStuff_t, bind_some', cEQ_neg, cEQ_pos, ldA_ok, ldI_ok, Int.toNat_natCast, k2, d6, cLT_neg, bnd_some, setS]
          exact ⟨_, _, _, rfl, rfl, Inv_asked hI _⟩
        · simp (disch := omega) only [isStuff_t, bind_some', cEQ_neg, cEQ_pos, ldA_ok, ldI_ok, Int.toNat_natCast, k2, d9, cLT_neg, bnd_some, setS]
          exact ⟨_, _, _, rfl, rfl, Inv_asked hI _⟩
        · simp (disch := omega) only [isStuff_t, bind_some', cEQ_neg, cEQ_pos, ldA_ok, ldI_ok, Int.toNat_natCast, k2, d12, cLT_neg, bnd_some, setS]
          exact ⟨_, _, _, rfl, rfl, Inv_asked hI _⟩
        · simp (disch := omega) only [isStuff_t, bind_some', cEQ_neg, cEQ_pos, ldA_ok, ldI_ok, Int.toNat_natCast, k2, d15, cLT_neg, bnd_some, setS]
          exact ⟨_, _, _, rfl, rfl, Inv_asked hI _⟩
    · rw [needStuff_bad (by omega)]
      simp (disch := omega) only [isStuff_f, bind_some', cEQ_pos, bnd_some, cLT_pos]
      exact ag_same hI
  · rw [in_f (by omega), within_f (by omega)]
    simp only [bind_some']
    rw [needStuff_bad (by omega)]
    by_cases h : 0 ≤ x1 ∧ x1 ≤ 5
    · simp (disch := omega) only [isStuff_t, bind_some', cEQ_pos, cEQ_neg, bnd_some, cLT_pos]
      exact ag_same hI
    · simp (disch := omega) only [isStuff_f, bind_some', cEQ_pos, bnd_some, cLT_pos]
      exact ag_same hI
