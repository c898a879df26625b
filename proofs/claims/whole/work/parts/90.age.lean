/-! age, the model -/
theorem ageM2_ok {S : St} {M : St} {n u d t : Int} (hS : S 21 = M 21) (h26 : ∀ p, p < 4 → S 26 p = loss M u d t p) : ∃ M2 : St, lo2 (pX6_age_146B n) FU S 0 = some (n, M2) ∧ (∀ q, q ≠ 21 → M2 q = S q) ∧ ∀ p, p < 4 → M2 21 p = M 21 p - loss M u d t p := by
  refine lo2_spec (fun o => ∃ M2 : St, o = some (n, M2) ∧ (∀ q, q ≠ 21 → M2 q = S q) ∧ ∀ p, p < 4 → M2 21 p = M 21 p - loss M u d t p) (fun (R : St) (y : Int) => ∃ p : Nat, y = p ∧ p ≤ 4 ∧ (∀ q, q ≠ 21 → R q = S q) ∧ (∀ p', p' < p → R 21 p' = M 21 p' - loss M u d t p') ∧ ∀ p', p ≤ p' → R 21 p' = M 21 p') (fun _ y => (4 - y).toNat) ?_ FU S 0 ⟨0, rfl, by omega, fun _ _ => rfl, fun p' a => by omega, fun p' _ => by rw [hS]⟩ (by have := FU_big; omega)
  rintro f R y ⟨p, rfl, hp, s1, s2, s3⟩ hf
  unfold pX6_age_146B
  by_cases e : p = 4
  · subst e
    rw [cLT_neg (by omega)]
    exact ⟨R, rfl, s1, s2⟩
  · rw [cLT_pos (by omega), ldI_ok (by omega), Int.toNat_natCast, ldI_ok (by omega), Int.toNat_natCast, s1 26 (by decide), h26 p (by omega), s3 p (Nat.le_refl p), stI_ok (by omega), Int.toNat_natCast]
    simp only [setS]
    refine hf _ _ ⟨p + 1, by omega, by omega, fun q a => by rw [put_ne a, s1 q a], fun p' a => ?_, fun p' a => by rw [put_j (by omega), s3 p' (by omega)]⟩ (by omega)
    by_cases ep : p' = p
    · subst ep; rw [put_at]
    · rw [put_j ep, s2 p' (by omega)]
theorem ageM_ok {T C M : St} (hI : Inv C M) (h : TM T M) {u d t : Int} (hu : UD u d) (hS : (∃ p, p < 4 ∧ 1 ≤ M 18 p) → Sd T M u d) (ht : 1 ≤ t ∧ t ≤ 9) : ∃ M2 : St, pX6_age_30 M t = some (sm (lct M u d t) 4, M2) ∧ (∀ q, q ≠ 0 → q ≠ 21 → q ≠ 26 → M2 q = M q) ∧ (∀ j, j < 24 ∨ (26 ≤ j ∧ j < 38) ∨ 44 < j → M2 0 j = M 0 j) ∧ ∀ p, p < 4 → M2 21 p = M 21 p - loss M u d t p := by
  unfold pX6_age_30
  refine lo3_spec (fun o => ∃ M2 : St, o = some (sm (lct M u d t) 4, M2) ∧ (∀ q, q ≠ 0 → q ≠ 21 → q ≠ 26 → M2 q = M q) ∧ (∀ j, j < 24 ∨ (26 ≤ j ∧ j < 38) ∨ 44 < j → M2 0 j = M 0 j) ∧ ∀ p, p < 4 → M2 21 p = M 21 p - loss M u d t p) (fun (S : St) (x y : Int) => ∃ p : Nat, y = p ∧ p ≤ 4 ∧ x = sm (lct M u d t) p ∧ (∀ q, q ≠ 0 → q ≠ 26 → S q = M q) ∧ (∀ j, j < 24 ∨ (26 ≤ j ∧ j < 38) ∨ 44 < j → S 0 j = M 0 j) ∧ (∀ p', p' < p → S 26 p' = loss M u d t p') ∧ ((∃ p, p < 4 ∧ 1 ≤ M 18 p) → Sd T S u d)) (fun _ _ y => (4 - y).toNat) ?_ FU M 0 0 ⟨0, rfl, by omega, rfl, fun _ _ _ => rfl, fun _ _ => rfl, fun p' a => by omega, hS⟩ (by have := FU_big; omega)
  rintro f S x y ⟨p, rfl, hp, rfl, s1, s2, s3, s4⟩ hf
  unfold pX6_age_34B pX6_age_138
  by_cases e : p = 4
  · subst e
    rw [cLT_neg (by omega)]
    obtain ⟨M2, e1, e2, e3⟩ := ageM2_ok (S := S) (M := M) (n := sm (lct M u d t) 4) (u := u) (d := d) (t := t) (s1 21 (by decide) (by decide)) s3
    exact ⟨M2, e1, fun q a b c => by rw [e2 q b, s1 q a c], fun j a => by rw [e2 0 (by decide), s2 j a], e3⟩
  · have hp4 : p < 4 := by omega
    have hsm : sm (lct M u d t) (p + 1) = sm (lct M u d t) p + lct M u d t p := rfl
    obtain ⟨k1, k2, -⟩ := h.1 p hp4
    obtain ⟨l1, l2, l3⟩ := loss_b hI h hu ht hp4
    obtain ⟨-, x2, -⟩ := hI.2.2.2.1 p hp4
    have e18 : put S 26 p 0 18 p = M 18 p := by rw [put_ne (by decide), s1 18 (by decide) (by decide)]
    have hR := isRubber_ok (M := put S 26 p 0) (p := p) hp4 (by omega)
    rw [cLT_pos (by omega), stI_ok (by omega), Int.toNat_natCast, hR, bind_some', e18]
    by_cases hr : 1 ≤ M 18 p
    · obtain ⟨l3, l4⟩ := l3 hr
      have hSd : Sd T (put S 26 p 0) u d := (s4 ⟨p, hp4, hr⟩).cg (fun q a b => put_ne (by omega)) (fun j _ _ => by rw [put_ne (by decide)])
      obtain ⟨M3, b1, b2, b3, b4, b5, b6, b7⟩ := hSd.press hp4 (by omega)
      obtain ⟨s, c1, c2, c3, c4, c5, c6, c7⟩ := hI.sealR hp4 hr
      subst c1
      have m19 : M3 19 p = (sx M p : Int) := by rw [b6 19 (by decide), put_ne (by decide), s1 19 (by decide) (by decide)]; exact c3
      have m11 : M3 11 (sx M p) = M 11 (sx M p) := by rw [b6 11 (by decide), put_ne (by decide), s1 11 (by decide) (by decide)]
      have m44 : M3 0 44 = sqz M u d p := by
        rw [b4]; unfold sqz tp
        rw [put_ne (by decide), put_ne (by decide), s1 21 (by decide) (by decide), s1 25 (by decide) (by decide)]
      have m39 : M3 0 39 = d := b5.2.2.2.2.1
      have hls : loss M u d t p = (sqz M u d p * min 100 (M 11 (sx M p) * t)) / (100 * d) := if_pos hr
      have h95 : pX6_age_95 f M3 t (sm (lct M u d t) p) (p : Int) (min 100 (M 11 (sx M p) * t)) = f (put M3 26 p (loss M u d t p)) (sm (lct M u d t) (p + 1)) ((p : Int) + 1) := by
        have := hu.1
        unfold pX6_age_95 pX6_age_136 pX6_age_138
        rw [wdI_ok (by omega), m44, m39, dvL_ok (by omega), Int.tdiv_eq_ediv_of_nonneg l4.1, ← hls, stI_ok (by omega), Int.toNat_natCast, ldI_ok (by omega), Int.toNat_natCast, put_at, hsm]
        simp only [setS]
        by_cases hl : 0 < loss M u d t p
        · rw [cLT_pos (by omega)]; unfold lct; rw [if_pos hl]
        · rw [cLT_neg (by omega)]; unfold lct; rw [if_neg hl]
      have hnext := hf (put M3 26 p (loss M u d t p)) (sm (lct M u d t) (p + 1)) ((p : Int) + 1) ⟨p + 1, by omega, by omega, rfl, fun q a b => by rw [put_ne b, b6 q a, put_ne b, s1 q a b], fun j a => by rw [put_ne (by decide), b7 j (by omega) (by omega) (by omega) (by omega) (by omega), put_ne (by decide), s2 j a], fun p' a => by
        by_cases ep : p' = p
        · subst ep; rw [put_at]
        · rw [put_j ep, b6 26 (by decide), put_j ep, s3 p' (by omega)], fun _ => b5.cg (fun q a b => put_ne (by omega)) (fun j _ _ => by rw [put_ne (by decide)])⟩ (by omega)
      rw [if_pos (by omega), cEQ_neg (by omega), b1, bind_some', ldI_ok (by omega), Int.toNat_natCast, m19, ldI_ok (by omega), Int.toNat_natCast, m11]
      by_cases hq : 100 < M 11 (sx M p) * t
      · rw [cLT_pos (by omega), show (100 : Int) = min 100 (M 11 (sx M p) * t) by omega, h95]
        exact hnext
      · rw [cLT_neg (by omega), ldI_ok (by omega), Int.toNat_natCast, m19, ldI_ok (by omega), Int.toNat_natCast, m11, show M 11 (sx M p) * t = min 100 (M 11 (sx M p) * t) by omega, h95]
        exact hnext
    · have hls : loss M u d t p = 0 := if_neg hr
      have hlc : lct M u d t p = 0 := by unfold lct; rw [hls]; rfl
      rw [if_neg (by omega), cEQ_pos (by omega)]
      refine hf (put S 26 p 0) _ _ ⟨p + 1, by omega, by omega, by rw [hsm, hlc, Int.add_zero], fun q a b => by rw [put_ne b, s1 q a b], fun j a => by rw [put_ne (by decide), s2 j a], fun p' a => ?_, fun hq => (s4 hq).cg (fun q a b => put_ne (by omega)) (fun j _ _ => by rw [put_ne (by decide)])⟩ (by omega)
      by_cases ep : p' = p
      · subst ep; rw [put_at, hls]
      · rw [put_j ep, s3 p' (by omega)]
theorem e_age : ca_24 Inv := by
  intro C M x1 hI hx1
  unfold in32 at hx1
  unfold pX5_age pX6_age
  by_cases ht : 1 ≤ x1 ∧ x1 ≤ 9
  · rw [within_t (by omega), in_t (by omega), bind_some', bind_some', cEQ_neg (by omega), cEQ_neg (by omega)]
    obtain ⟨T0, e0, hTM, -⟩ := layOut_ok hI
    obtain ⟨t, M2, e1, hi, f1, f2⟩ := highest_ok hTM (a := 0) (b := 1) (by omega) (by omega)
    have hI2 : Inv C M2 := hI.trial (fun _ _ => rfl) (fun q a _ => f1 q a) (fun j a => f2 j (by omega))
    obtain ⟨u, d, T', M', a1, a2, a3, a4, a5, a6, a7, a8, -, -⟩ := asIs_ok hI2
    have hfin : ∀ M3 : St, Inv T' M3 → TM T' M3 → ((∃ p, p < 4 ∧ 1 ≤ M3 18 p) → Sd T' M3 u d) → agWW Inv (lo3 (pX5_age_20B x1) FU T' 0 0) (pX6_age_30 M3 x1) := by
      intro M3 i1 i2 i3
      have hu := a3.2.2.2.2.2.1
      obtain ⟨T2, c1, c2, c3, c4⟩ := ageC_ok i1 i2 hu a3.2.1 a3.2.2.1 ht
      obtain ⟨M4, d1, d2, d3, d4⟩ := ageM_ok i1 i2 hu i3 ht
      refine ⟨_, _, _, c1, d1, Inv_free i1 (fun q a _ => c2 q a) c3 (fun p hp => ?_) (fun q a b c => d2 q a b (by omega)) (fun j a => d3 j (by omega))⟩
      obtain ⟨l1, l2, -⟩ := loss_b i1 i2 hu ht hp
      obtain ⟨-, x2, -⟩ := i1.2.2.2.1 p hp
      rw [c4 p hp, d4 p hp]
      exact ⟨rfl, by omega, by omega⟩
    rw [a1, bind_some', e1, bnd_some]
    rcases hi with ⟨q1, q2, q3⟩ | ⟨q1, ⟨p, hp, hs, q2⟩, q3⟩
    · rw [cEQ_pos (by omega)]
      have hn : ∀ p, p < 4 → ¬ 1 ≤ M2 18 p := fun p hp hr => q3 p hp (Or.inr ⟨by rw [← f1 18 (by decide)]; exact hr, rfl⟩)
      refine hfin M2 (hI2.trial (fun q a => a5 q a) (fun _ _ _ => rfl) (fun _ _ => rfl)) (a3.1.cg (fun _ _ _ _ => rfl) (fun _ _ _ => rfl) (fun q a _ => (a6 q a).symm) (fun j a b => (a7 j (by omega)).symm)) (fun ⟨p, hp, hr⟩ => absurd hr (hn p hp))
    · rw [cEQ_neg (by omega), a2, bind_some']
      exact hfin M' a4 a3.1 (fun _ => a3)
  · rw [within_f (by omega), in_f (by omega), bind_some', bind_some', cEQ_pos (by omega), cEQ_pos (by omega)]
    exact ag_same hI
