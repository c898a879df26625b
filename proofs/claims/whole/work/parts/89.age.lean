/-! age -/
theorem Inv_free {C M C' M' : St} (h : Inv C M) (hc : ∀ q, q < 61 → (q < 13 ∨ 20 < q) → C' q = C q) (hcs : ∀ p, p < 4 → ∀ j, j ≠ 3 → C' (61 + p) j = C (61 + p) j) (hf : ∀ p, p < 4 → C' (61 + p) 3 = M' 21 p ∧ 0 ≤ M' 21 p ∧ M' 21 p ≤ 800) (hm : ∀ q, q ≠ 0 → q ≠ 21 → q < 26 → M' q = M q) (h0 : ∀ j, j < 24 ∨ (26 ≤ j ∧ j < 38) → M' 0 j = M 0 j) : Inv C' M' := by
  obtain ⟨h1, h2, h3, h4, h5, h6, h7⟩ := h
  refine ⟨h1.congr (fun q a b => hc q (by omega) (by omega)) (hm 2 (by decide) (by decide) (by decide)) (hm 3 (by decide) (by decide) (by decide)), h2.congr (fun q a b => hc q (by omega) (by omega)) (hm 5 (by decide) (by decide) (by decide)) (hm 6 (by decide) (by decide) (by decide)), h3.congr (fun q a b => hc q (by omega) (by omega)) (fun q a b => hm q (by omega) (by omega) (by omega)), fun p hp => ?_, ?_, ?_, ?_⟩
  · obtain ⟨s1, s2, s3, s4, s5, s6, s7, s8⟩ := h4 p hp
    unfold SealOk
    rw [hcs p hp 0 (by decide), hcs p hp 1 (by decide), hcs p hp 2 (by decide), hcs p hp 4 (by decide), hcs p hp 5 (by decide), hcs p hp 6 (by decide), hc 5 (by decide) (by decide), hm 7 (by decide) (by decide) (by decide), hm 18 (by decide) (by decide) (by decide), hm 19 (by decide) (by decide) (by decide), hm 20 (by decide) (by decide) (by decide), hm 22 (by decide) (by decide) (by decide), hm 23 (by decide) (by decide) (by decide), hm 24 (by decide) (by decide) (by decide), hm 25 (by decide) (by decide) (by decide)]
    exact ⟨s1, hf p hp, s3, s4, s5, s6, s7, s8⟩
  · unfold ISet at h5 ⊢
    rw [hc 6 (by decide) (by decide), h0 34 (by omega), h0 35 (by omega), h0 36 (by omega), h0 37 (by omega)]
    exact h5
  · unfold ITold at h6 ⊢
    rw [hc 0 (by decide) (by decide), hc 22 (by decide) (by decide), h0 0 (by omega), h0 2 (by omega), h0 3 (by omega), h0 4 (by omega), hm 1 (by decide) (by decide) (by decide)]
    exact h6
  · unfold IZero at h7 ⊢
    rw [hc 9 (by decide) (by decide), hc 10 (by decide) (by decide), hm 15 (by decide) (by decide) (by decide), hm 16 (by decide) (by decide) (by decide)]
    exact h7
def loss (M : St) (u d t : Int) (p : Nat) : Int := if 1 ≤ M 18 p then (sqz M u d p * min 100 (M 11 (sx M p) * t)) / (100 * d) else 0
def lct (M : St) (u d t : Int) (p : Nat) : Int := if 0 < loss M u d t p then 1 else 0
theorem loss_b {C M : St} {T : St} (hI : Inv C M) (h : TM T M) {u d t : Int} (hu : UD u d) (ht : 1 ≤ t ∧ t ≤ 9) {p : Nat} (hp : p < 4) : 0 ≤ loss M u d t p ∧ loss M u d t p ≤ M 21 p ∧ (1 ≤ M 18 p → (0 ≤ M 11 (sx M p) * t ∧ M 11 (sx M p) * t ≤ 891) ∧ (0 ≤ sqz M u d p * min 100 (M 11 (sx M p) * t) ∧ sqz M u d p * min 100 (M 11 (sx M p) * t) ≤ 2300000000000000)) := by
  have hb := sqz_b h hu hp
  obtain ⟨-, s2, -, -, -, s6, -, -⟩ := hI.2.2.2.1 p hp
  obtain ⟨⟨u1, u2⟩, u3, u4⟩ := hu
  unfold loss
  by_cases hr : 1 ≤ M 18 p
  · rw [if_pos hr]
    obtain ⟨s, c1, c2, c3, c4, c5, c6, c7⟩ := hI.sealR hp hr
    subst c1
    obtain ⟨-, -, -, -, -, g1, g2, g3, -⟩ := c6
    have m1 : 0 ≤ M 11 (sx M p) * t := Int.mul_nonneg g2 (by omega)
    have m2 : M 11 (sx M p) * t ≤ 99 * 9 := Int.mul_le_mul g3 ht.2 (by omega) (by omega)
    have m3 : 0 ≤ sqz M u d p * min 100 (M 11 (sx M p) * t) := Int.mul_nonneg hb.1 (by omega)
    have m4 : sqz M u d p * min 100 (M 11 (sx M p) * t) ≤ sqz M u d p * 100 := Int.mul_le_mul_of_nonneg_left (by omega) hb.1
    have htp : tp M p = M 21 p - M 25 p := rfl
    have m5 : sqz M u d p ≤ M 21 p * d := by
      have e : tp M p * d = M 21 p * d - M 25 p * d := by rw [htp, Int.sub_mul]
      have e1 : 0 ≤ M 21 p * d := Int.mul_nonneg (by omega) (by omega)
      have e2 : 0 ≤ M 25 p * d := Int.mul_nonneg (by omega) (by omega)
      unfold sqz
      omega
    refine ⟨Int.ediv_nonneg m3 (by omega), ?_, fun _ => ⟨by omega, by omega⟩⟩
    have : sqz M u d p * min 100 (M 11 (sx M p) * t) / (100 * d) < M 21 p + 1 := by
      refine (Int.ediv_lt_iff_lt_mul (by omega)).2 ?_
      rw [show (M 21 p + 1) * (100 * d) = 100 * (M 21 p * d) + 100 * d by grind]
      omega
    omega
  · rw [if_neg hr]
    exact ⟨by omega, by omega, fun e => absurd e hr⟩
theorem ageC_ok {T M : St} (hI : Inv T M) (h : TM T M) {u d t : Int} (hu : UD u d) (e8 : T 13 8 = u) (e9 : T 13 9 = d) (ht : 1 ≤ t ∧ t ≤ 9) : ∃ T2 : St, lo3 (pX5_age_20B t) FU T 0 0 = some (sm (lct M u d t) 4, T2) ∧ (∀ q, q < 61 → T2 q = T q) ∧ (∀ p, p < 4 → ∀ j, j ≠ 3 → T2 (61 + p) j = T (61 + p) j) ∧ ∀ p, p < 4 → T2 (61 + p) 3 = M 21 p - loss M u d t p := by
  refine lo3_spec (fun o => ∃ T2 : St, o = some (sm (lct M u d t) 4, T2) ∧ (∀ q, q < 61 → T2 q = T q) ∧ (∀ p, p < 4 → ∀ j, j ≠ 3 → T2 (61 + p) j = T (61 + p) j) ∧ ∀ p, p < 4 → T2 (61 + p) 3 = M 21 p - loss M u d t p) (fun (S : St) (x y : Int) => ∃ p : Nat, y = p ∧ p ≤ 4 ∧ x = sm (lct M u d t) p ∧ (∀ q, q < 61 → S q = T q) ∧ (∀ p, p < 4 → ∀ j, j ≠ 3 → S (61 + p) j = T (61 + p) j) ∧ (∀ p', p' < p → S (61 + p') 3 = M 21 p' - loss M u d t p') ∧ ∀ p', p ≤ p' → p' < 4 → S (61 + p') 3 = M 21 p') (fun _ _ y => (4 - y).toNat) ?_ FU T 0 0 ⟨0, rfl, by omega, rfl, fun _ _ => rfl, fun _ _ _ _ => rfl, fun p' a => by omega, fun p' _ a => (hI.2.2.2.1 p' a).2.1.1⟩ (by have := FU_big; omega)
  rintro f S x y ⟨p, rfl, hp, rfl, s1, s2, s3, s4⟩ hf
  unfold pX5_age_20B pX5_age_115
  by_cases e : p = 4
  · subst e
    rw [cLT_neg (by omega)]
    exact ⟨S, rfl, s1, s2, s3⟩
  · have hp4 : p < 4 := by omega
    have hsm : sm (lct M u d t) (p + 1) = sm (lct M u d t) p + lct M u d t p := rfl
    obtain ⟨k1, k2, -⟩ := h.1 p hp4
    obtain ⟨l1, l2, l3⟩ := loss_b hI h hu ht hp4
    obtain ⟨-, x2, -⟩ := hI.2.2.2.1 p hp4
    rw [cLT_pos (by omega), ldI_ok (by omega), Int.toNat_natCast, s1 15 (by decide), k2]
    by_cases hr : 1 ≤ M 18 p
    · obtain ⟨l3, l4⟩ := l3 hr
      obtain ⟨s, c1, c2, c3, c4, c5, c6, c7⟩ := hI.sealR hp4 hr
      subst c1
      obtain ⟨-, -, -, -, -, g1, g2, g3, -⟩ := c6
      have hst := stuffOf_ok (C := S) (q := 61 + p) c2 (by rw [s2 p hp4 1 (by decide)]; exact c4)
      have hls : loss M u d t p = (sqz M u d p * min 100 (M 11 (sx M p) * t)) / (100 * d) := if_pos hr
      have hsq : pX4_squeezed S (p : Int) = some (sqz M u d p) := by
        rw [← squeezed_ok h hu e8 e9 hp4]
        unfold pX4_squeezed ldI
        rw [s1 16 (by decide), s1 13 (by decide)]
      have hcut : pX5_cut (sqz M u d p * min 100 (M 11 (sx M p) * t)) (100 * S 13 9) = some (loss M u d t p) := by
        have := hu.1
        unfold pX5_cut
        rw [s1 13 (by decide), e9, lLT_neg (by omega), dvL_ok (by omega), Int.tdiv_eq_ediv_of_nonneg l4.1, hls]
      have hnew : ∀ x : Int, x = sm (lct M u d t) (p + 1) → ∃ T2 : St, f (put S (61 + p) 3 (M 21 p - loss M u d t p)) x ((p : Int) + 1) = some (sm (lct M u d t) 4, T2) ∧ (∀ q, q < 61 → T2 q = T q) ∧ (∀ p, p < 4 → ∀ j, j ≠ 3 → T2 (61 + p) j = T (61 + p) j) ∧ ∀ p, p < 4 → T2 (61 + p) 3 = M 21 p - loss M u d t p := fun x hx => by
        refine hf _ x _ ⟨p + 1, by omega, by omega, hx, fun q a => by rw [put_ne (by omega), s1 q a], fun p' a j b => ?_, fun p' a => ?_, fun p' a b => ?_⟩ (by omega)
        · by_cases ep : p' = p
          · subst ep; rw [put_j b, s2 p' a j b]
          · rw [put_ne (by omega), s2 p' a j b]
        · by_cases ep : p' = p
          · subst ep; rw [put_at]
          · rw [put_ne (by omega), s3 p' (by omega)]
        · rw [put_ne (by omega), s4 p' (by omega) b]
      rw [if_pos hr, cEQ_neg (by omega), ldA_ok (by omega), Int.toNat_natCast, Nat.one_mul, hst, bind_some', chk_ok (isStf_s c2), s1 _ (by omega), g1, min_ok (by omega), bind_some', hsq, bind_some', wdI_ok (by omega), hcut, bind_some', ldA_ok (by omega), Int.toNat_natCast, Nat.one_mul]
      simp only [setS]
      rw [s4 p (Nat.le_refl p) hp4]
      by_cases hl : 0 < loss M u d t p
      · rw [cLT_pos (by omega)]
        exact hnew _ (by rw [hsm]; unfold lct; rw [if_pos hl])
      · rw [cLT_neg (by omega)]
        exact hnew _ (by rw [hsm]; unfold lct; rw [if_neg hl, Int.add_zero])
    · have hls : loss M u d t p = 0 := if_neg hr
      have hlc : lct M u d t p = 0 := by unfold lct; rw [hls]; rfl
      rw [if_neg hr, cEQ_pos (by omega)]
      refine hf S _ _ ⟨p + 1, by omega, by omega, by rw [hsm, hlc, Int.add_zero], s1, s2, fun p' a => ?_, fun p' a b => s4 p' (by omega) b⟩ (by omega)
      by_cases ep : p' = p
      · subst ep; rw [s4 p' (Nat.le_refl p') hp4, hls, Int.sub_zero]
      · exact s3 p' (by omega)
