/-! renew, stretch, seal -/
theorem put_sw {S : St} {q j q' j' : Nat} {v : Int} : put S q j v q' j' = if q' = q ∧ j' = j then v else S q' j' := rfl
theorem e_renew : ca_26 Inv := by
  intro C M x1 hI hx
  unfold pX5_renew pX6_renew pX2_isMissing pX6_tells
  by_cases h : 0 ≤ x1 ∧ x1 ≤ 3
  · obtain ⟨p, rfl⟩ := Int.eq_ofNat_of_zero_le h.1
    have hs := hI.2.2.2.1 p (by omega)
    rcases hs.kind with ⟨k1, k2⟩ | ⟨k1, k2, k3⟩
    · rw [needSeal_no (by omega) k1]
      simp (disch := omega) only [place_t, bind_some', cEQ_neg, ldA_ok, Int.toNat_natCast, Nat.one_mul, k2, cLT_pos, bnd_some, found1]
      exact ag_fd hI (by decide)
    · rw [needSeal_ok (by omega) ⟨k1, k2⟩]
      simp (disch := omega) only [place_t, bind_some', cEQ_neg, cEQ_pos, ldA_ok, ldI_ok, Int.toNat_natCast, Nat.one_mul, k3, cLT_neg, bnd_some, setS, stI_ok]
      obtain ⟨s1, s2, s3, s4, s5, s6, s7, s8⟩ := hs
      refine ⟨_, _, _, rfl, rfl, Inv_seal hI p (by omega) (fun q a b c => by rw [put_ne c, put_ne c, put_ne a]) (fun p' a b => by rw [put_ne (by omega), put_ne (by omega), put_ne (by decide)]) (fun q a b => by rw [put_ne a, put_ne (by omega), put_ne (by omega)]) (fun q a b p' c d => ?_) ?_ ?_ ?_⟩
      · rw [put_ne (by omega)]
        simp only [put_sw, if_neg (show ¬ (q = 23 ∧ p' = p) from fun z => d z.2), if_neg (show ¬ (q = 21 ∧ p' = p) from fun z => d z.2)]
      · simp only [SealOk, put_sw]
        have e0 : ¬ (61 + p = 0) := by omega
        have e5 : ¬ (5 = 61 + p) := by omega
        simp [e0, e5]
        exact ⟨s1, ⟨s1.1, s1.2.1, by omega⟩, s3, s5, s6, s7, s8⟩
      · simp [put_sw]
      · have e0 : ¬ (0 = 61 + p) := by omega
        simp only [put_sw]
        simp [e0]
        exact ⟨by rw [s1.1, s2.1], hI.told.2⟩
  · rw [needSeal_bad (by omega)]
    simp (disch := omega) only [place_f, bind_some', cEQ_pos, bnd_some, cLT_pos]
    exact ag_same hI
theorem tdiv_200 {h v : Int} (hh : 0 ≤ h ∧ h ≤ 400) (hv : 0 ≤ v ∧ v ≤ 40) : 0 ≤ (h * (200 - v)).tdiv 200 ∧ (h * (200 - v)).tdiv 200 ≤ h ∧ 0 ≤ h * (200 - v) ∧ h * (200 - v) ≤ 80000 := by
  have h0 : 0 ≤ h * (200 - v) := Int.mul_nonneg hh.1 (by omega)
  have h1 : h * (200 - v) ≤ h * 200 := Int.mul_le_mul_of_nonneg_left (by omega) hh.1
  rw [Int.tdiv_eq_ediv_of_nonneg h0]
  refine ⟨Int.ediv_nonneg h0 (by decide), ?_, h0, by omega⟩
  omega
theorem e_stretch : ca_14 Inv := by
  intro C M x1 x2 hI hx1 hx2
  unfold pX5_stretch pX6_stretch pX2_stretchedHeight pX6_stretched
  by_cases h2 : 0 ≤ x2 ∧ x2 ≤ 40
  · rw [in_t (by omega), within_t (by omega)]
    simp only [bind_some']
    by_cases h : 0 ≤ x1 ∧ x1 ≤ 3
    · obtain ⟨p, rfl⟩ := Int.eq_ofNat_of_zero_le h.1
      have hs := hI.2.2.2.1 p (by omega)
      rcases hs.kind with ⟨k1, k2⟩ | ⟨k1, k2, k3⟩
      · rw [needSeal_no (by omega) k1, missed_no (by omega) k2]
        simp (disch := omega) only [place_t, bind_some', cEQ_neg, cLT_pos, bnd_some, found1]
        exact ag_fd hI (by decide)
      · rw [needSeal_ok (by omega) ⟨k1, k2⟩]
        have hG := isRing_ok (M := M) (p := p) (by omega) (by omega)
        by_cases hk : 2 ≤ M 18 p
        · rw [if_pos hk] at hG
          rw [missed_t (k := M 18 p) (by omega) k3 (by omega)]
          obtain ⟨s1, s2, s3, s4, s5, s6, s7, s8⟩ := hs
          have hd := tdiv_200 (h := M 20 p) (v := x2) ⟨s1.2.1, s1.2.2⟩ h2
          have hc2 : put C (61 + p) 5 x2 (61 + p) 2 = M 20 p := by rw [put_j (by decide)]; exact s1.1
          have hm2 : put M 23 p x2 20 p = M 20 p := by rw [put_ne (by decide)]
          simp (disch := omega) only [hG, place_t, bind_some', cEQ_neg, cEQ_pos, ldA_ok, ldI_ok, Int.toNat_natCast, Nat.one_mul, cLT_neg, bnd_some, setS, stI_ok, put_at, hc2, hm2, dvI_ok]
          generalize hz : (M 20 p * (200 - x2)).tdiv 200 = z at hd ⊢
          refine ⟨_, _, _, rfl, rfl, Inv_seal hI p (by omega) (fun q a b c => by rw [put_ne c, put_ne c]) (fun p' a b => by rw [put_ne (by omega), put_ne (by omega)]) (fun q a b => by rw [put_ne (by omega), put_ne (by omega)]) (fun q a b p' c d => ?_) ?_ ?_ ?_⟩
          · simp only [put_sw, if_neg (show ¬ (q = 23 ∧ p' = p) from fun z => d z.2), if_neg (show ¬ (q = 21 ∧ p' = p) from fun z => d z.2)]
          · simp only [SealOk, put_sw]
            have e5 : ¬ (5 = 61 + p) := by omega
            simp [e5]
            exact ⟨s1, ⟨hd.1, by omega⟩, s3, ⟨h2.1, h2.2, fun e => by omega⟩, s5, s6, s7, s8⟩
          · simp [put_sw]
          · have e0 : ¬ (0 = 61 + p) := by omega
            simp only [put_sw]
            simp [e0]
            exact hI.told
        · rw [if_neg hk] at hG
          rw [missed_f (k := M 18 p) (by omega) k3 (by omega)]
          simp (disch := omega) only [hG, place_t, bind_some', cEQ_neg, cEQ_pos, cLT_neg, bnd_some, found3, meets3]
          exact ag_fd hI (by decide)
    · rw [needSeal_bad (by omega)]
      simp (disch := omega) only [place_f, bind_some', cEQ_pos, bnd_some, cLT_pos]
      exact ag_same hI
  · rw [in_f (by omega), within_f (by omega)]
    simp only [bind_some']
    rw [needSeal_bad (by omega)]
    by_cases h : 0 ≤ x1 ∧ x1 ≤ 3
    · simp (disch := omega) only [place_t, bind_some', cEQ_pos, cEQ_neg, bnd_some, cLT_pos]
      exact ag_same hI
    · simp (disch := omega) only [place_f, bind_some', cEQ_pos, bnd_some, cLT_pos]
      exact ag_same hI
/-- a seal is put: both sides write the same seal -/
theorem seal_both {C M : St} (hI : Inv C M) {p : Nat} (hp : p < 4) {kd sf ht ar : Int} (hk : 0 ≤ kd ∧ kd ≤ 4) (hs : kd = 0 ∨ (0 ≤ sf ∧ sf ≤ 5 ∧ M 7 sf.toNat = 1)) (hh : 50 ≤ ht ∧ ht ≤ 400) (ha : 1 ≤ ar ∧ ar ≤ 9) {sc : Int} (hsc : sc = if kd = 0 then 0 else sf) : agWW Inv (pX5_seal_95 C ht ar sc kd (61 + p)) (pX6_seal_86 M (p : Int) kd sf ht ar) := by
  unfold pX5_seal_95 pX6_seal_86 pX2_become
  simp (disch := omega) only [setS, bind_some', stI_ok, Int.toNat_natCast]
  have hs0 := hI.2.2.2.1 p hp
  obtain ⟨s1, s2, s3, s4, s5, s6, s7, s8⟩ := hs0
  refine ⟨_, _, _, rfl, rfl, Inv_seal hI p hp (fun q a b c => ?_) (fun p' a b => ?_) (fun q a b => ?_) (fun q a b p' c d => ?_) ?_ ?_ ?_⟩
  · rw [put_ne c, put_ne c, put_ne c, put_ne c, put_ne c, put_ne c, put_ne c]
  · have e5 : (5 : Nat) ≠ 61 + p := by omega
    rw [put_ne e5, put_ne e5, put_ne e5, put_ne e5, put_ne e5, put_ne e5, put_ne e5]
  · rw [put_ne (by omega), put_ne (by omega), put_ne (by omega), put_ne (by omega), put_ne (by omega), put_ne (by omega), put_ne (by omega)]
  · have hd : ∀ n : Nat, ¬ (q = n ∧ p' = p) := fun n z => d z.2
    simp only [put_sw, if_neg (hd _)]
  · simp only [SealOk, put_sw]
    have e5 : ¬ (5 = 61 + p) := by omega
    simp [e5]
    refine ⟨by omega, by omega, by omega, s6, ?_, Or.inr ⟨by omega, by omega, by omega, fun hr => ?_⟩⟩
    · rw [hsc]; split <;> omega
    · rcases hs with h0 | h0
      · omega
      · rw [hsc, if_neg (by omega)]; exact ⟨rfl, h0.2.2⟩
  · simp [put_sw]
  · have e0 : ¬ (0 = 61 + p) := by omega
    simp only [put_sw]
    simp [e0]
    exact hI.told
