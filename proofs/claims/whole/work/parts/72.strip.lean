/-! strip: the check of the pairs, and the head -/
theorem e_strip : ca_31 Inv := by
  intro C M x1 x2 hI hx1 hx2
  unfold in32 at hx1 hx2
  unfold pX5_strip pX6_strip pX1_isMissing pX5_strip_55 pX6_strip_55
  by_cases h1 : 0 ≤ x1 ∧ x1 ≤ 5
  · by_cases h2 : 0 ≤ x2 ∧ x2 ≤ 99
    · obtain ⟨r, rfl⟩ := Int.eq_ofNat_of_zero_le h1.1
      have hr : r < 6 := by omega
      obtain ⟨e1, b1, b2, hcell⟩ := hI.1 r hr
      have hrl := rlen_row hr
      simp (disch := omega) only [isRow_t, isRowM_t, bind_some', cEQ_neg, within_t, in_t, ldA_ok, ldI_ok, Int.toNat_natCast, e1]
      by_cases hm : M 2 r < 0
      · simp (disch := omega) only [cLT_pos, bind_some', cEQ_neg, found1, meets1, bnd_some]
        exact ag_fd hI (by decide)
      · simp (disch := omega) only [cLT_neg, bind_some', cEQ_pos]
        by_cases h0 : M 2 r = 0
        · simp (disch := omega) only [cEQ_pos, found5, meets5, bnd_some]
          exact ag_fd hI (by decide)
        · have hmod : (M 2 r).tmod 2 = M 2 r % 2 := Int.tmod_eq_emod_of_nonneg (by omega)
          simp (disch := omega) only [cEQ_neg, rmI_ok, hmod]
          by_cases hodd : M 2 r % 2 = 1
          · simp (disch := omega) only [cEQ_neg, cEQ_pos, found5, meets5, bnd_some]
            exact ag_fd hI (by decide)
          · rw [cEQ_pos (by omega), cEQ_neg (by omega)]
            obtain ⟨m, hm2⟩ : ∃ m : Nat, M 2 r = 2 * (m : Int) := ⟨(M 2 r / 2).toNat, by omega⟩
            have hc : ∀ i, i < 2 * m → C (23 + 2 * r + 1) i = M 3 (40 * r + i) ∧ -2147483648 ≤ M 3 (40 * r + i) ∧ M 3 (40 * r + i) ≤ 2147483647 := fun i hi => hcell i (by omega)
            by_cases hv : ∀ i, i < m → (0 ≤ M 3 (40 * r + 2 * i) ∧ M 3 (40 * r + 2 * i) ≤ 20) ∧ 0 ≤ M 3 (40 * r + (2 * i + 1)) ∧ M 3 (40 * r + (2 * i + 1)) ≤ 9999
            · have lC : lo1 (pX5_strip_64B C x2 (23 + 2 * r)) FU 0 = lo2 (pX5_strip_128B C x2 (23 + 2 * r)) FU 0 0 := by
                refine lo1_spec (fun o => o = lo2 (pX5_strip_128B C x2 (23 + 2 * r)) FU 0 0) (fun (x : Int) => ∃ j : Nat, x = 2 * (j : Int) ∧ j ≤ m) (fun x => (2 * (m : Int) - x).toNat) ?_ FU 0 ⟨0, rfl, by omega⟩ (by have := FU_big; omega)
                rintro k x ⟨j, rfl, hj⟩ hk
                unfold pX5_strip_64B
                rw [e1, hm2]
                by_cases hlt : j < m
                · obtain ⟨u, u'⟩ := hv j hlt
                  have q1 : (2 * (j : Int)).toNat = 2 * j := by omega
                  have q2 : (2 * (j : Int) + 1).toNat = 2 * j + 1 := by omega
                  simp (disch := omega) only [cLT_pos, ldI_ok, hrl, q1, q2, (hc (2 * j) (by omega)).1, (hc (2 * j + 1) (by omega)).1, within_t, bind_some', cEQ_neg, setS]
                  exact hk _ ⟨j + 1, by omega, by omega⟩ (by omega)
                · rw [cLT_neg (by omega)]
              have lM : lo2 (pX6_strip_66B M (r : Int) x2) FU 1 0 = lo3 (pX6_strip_144B (r : Int) x2) FU M 0 0 := by
                refine lo2_spec (fun o => o = lo3 (pX6_strip_144B (r : Int) x2) FU M 0 0) (fun (f x : Int) => f = 1 ∧ ∃ j : Nat, x = 2 * (j : Int) ∧ j ≤ m) (fun _ x => (2 * (m : Int) - x).toNat) ?_ FU 1 0 ⟨rfl, 0, rfl, by omega⟩ (by have := FU_big; omega)
                rintro k f x ⟨rfl, j, rfl, hj⟩ hk
                unfold pX6_strip_66B pX6_strip_120 pX6_strip_121 pX6_rowAt
                rw [ldI_ok (by omega), Int.toNat_natCast, hm2]
                by_cases hlt : j < m
                · obtain ⟨u, u'⟩ := hv j hlt
                  have q1 : (40 * (r : Int) + 2 * (j : Int)).toNat = 40 * r + 2 * j := by omega
                  have q2 : (40 * (r : Int) + (2 * (j : Int) + 1)).toNat = 40 * r + (2 * j + 1) := by omega
                  simp (disch := omega) only [cLT_pos, ldI_ok, q1, q2, in_t, bind_some', cEQ_neg, setS]
                  exact hk _ _ ⟨rfl, j + 1, by omega, by omega⟩ (by omega)
                · rw [cLT_neg (by omega), cEQ_neg (by omega)]
              rw [lC, lM]
              exact strip_all hr hI h2 hm2 (by omega) hv
            · have lC : lo1 (pX5_strip_64B C x2 (23 + 2 * r)) FU 0 = some (-3, fdC C 3) := by
                refine lo1_spec (fun o => o = some (-3, fdC C 3)) (fun (x : Int) => ∃ j : Nat, x = 2 * (j : Int) ∧ j ≤ m ∧ ∀ i, i < j → (0 ≤ M 3 (40 * r + 2 * i) ∧ M 3 (40 * r + 2 * i) ≤ 20) ∧ 0 ≤ M 3 (40 * r + (2 * i + 1)) ∧ M 3 (40 * r + (2 * i + 1)) ≤ 9999) (fun x => (2 * (m : Int) - x).toNat) ?_ FU 0 ⟨0, rfl, by omega, fun i hi => by omega⟩ (by have := FU_big; omega)
                rintro k x ⟨j, rfl, hj, ha⟩ hk
                unfold pX5_strip_64B pX5_strip_110
                rw [e1, hm2]
                by_cases hlt : j < m
                · have u := hc (2 * j) (by omega)
                  have u' := hc (2 * j + 1) (by omega)
                  have q1 : (2 * (j : Int)).toNat = 2 * j := by omega
                  have q2 : (2 * (j : Int) + 1).toNat = 2 * j + 1 := by omega
                  simp (disch := omega) only [cLT_pos, ldI_ok, hrl, q1, q2, u.1, u'.1, found3, bnd_some]
                  by_cases z1 : 0 ≤ M 3 (40 * r + 2 * j) ∧ M 3 (40 * r + 2 * j) ≤ 20
                  · by_cases z2 : 0 ≤ M 3 (40 * r + (2 * j + 1)) ∧ M 3 (40 * r + (2 * j + 1)) ≤ 9999
                    · simp (disch := omega) only [within_t, bind_some', cEQ_neg, setS]
                      refine hk _ ⟨j + 1, by omega, by omega, fun i hi => ?_⟩ (by omega)
                      by_cases e : i = j
                      · rw [e]; exact ⟨z1, z2⟩
                      · exact ha i (by omega)
                    · simp (disch := omega) only [within_t, within_f, bind_some', cEQ_neg, cEQ_pos]
                  · simp (disch := omega) only [within_f, bind_some', cEQ_pos]
                · exact absurd (fun i hi => ha i (by omega)) hv
              have lM : lo2 (pX6_strip_66B M (r : Int) x2) FU 1 0 = some (-3, fdM M 3) := by
                refine lo2_spec (fun o => o = some (-3, fdM M 3)) (fun (f x : Int) => ∃ j : Nat, x = 2 * (j : Int) ∧ j ≤ m ∧ ((f = 1 ∧ ∀ i, i < j → (0 ≤ M 3 (40 * r + 2 * i) ∧ M 3 (40 * r + 2 * i) ≤ 20) ∧ 0 ≤ M 3 (40 * r + (2 * i + 1)) ∧ M 3 (40 * r + (2 * i + 1)) ≤ 9999) ∨ f = 0)) (fun _ x => (2 * (m : Int) - x).toNat) ?_ FU 1 0 ⟨0, rfl, by omega, Or.inl ⟨rfl, fun i hi => by omega⟩⟩ (by have := FU_big; omega)
                rintro k f x ⟨j, rfl, hj, ha⟩ hk
                unfold pX6_strip_66B pX6_strip_120 pX6_strip_121 pX6_rowAt
                rw [ldI_ok (by omega), Int.toNat_natCast, hm2]
                by_cases hlt : j < m
                · have u := hc (2 * j) (by omega)
                  have u' := hc (2 * j + 1) (by omega)
                  have no := hk 0 (2 * (j : Int) + 2) ⟨j + 1, by omega, by omega, Or.inr rfl⟩ (by omega)
                  have q1 : (40 * (r : Int) + 2 * (j : Int)).toNat = 40 * r + 2 * j := by omega
                  have q2 : (40 * (r : Int) + (2 * (j : Int) + 1)).toNat = 40 * r + (2 * j + 1) := by omega
                  rcases ha with ⟨rfl, ha⟩ | rfl
                  · simp (disch := omega) only [cLT_pos, ldI_ok, q1, q2, bind_some', cEQ_neg, setS]
                    by_cases z1 : 0 ≤ M 3 (40 * r + 2 * j) ∧ M 3 (40 * r + 2 * j) ≤ 20
                    · by_cases z2 : 0 ≤ M 3 (40 * r + (2 * j + 1)) ∧ M 3 (40 * r + (2 * j + 1)) ≤ 9999
                      · simp (disch := omega) only [in_t, bind_some', cEQ_neg]
                        refine hk _ _ ⟨j + 1, by omega, by omega, Or.inl ⟨rfl, fun i hi => ?_⟩⟩ (by omega)
                        by_cases e : i = j
                        · rw [e]; exact ⟨z1, z2⟩
                        · exact ha i (by omega)
                      · simp (disch := omega) only [in_t, in_f, bind_some', cEQ_neg, cEQ_pos]
                        exact no
                    · simp (disch := omega) only [in_f, bind_some', cEQ_pos]
                      exact no
                  · simp (disch := omega) only [cLT_pos, cEQ_pos, setS]
                    exact no
                · rcases ha with ⟨rfl, ha⟩ | rfl
                  · exact absurd (fun i hi => ha i (by omega)) hv
                  · simp (disch := omega) only [cLT_neg, cEQ_pos, meets3, bnd_some]
              rw [lC, lM]
              exact ag_fd hI (by decide)
    · simp (disch := omega) only [isRow_t, isRowM_t, within_f, in_f, bind_some', cEQ_pos, cEQ_neg]
      exact ag_same hI
  · simp (disch := omega) only [isRow_f, isRowM_f, bind_some', cEQ_pos]
    exact ag_same hI
