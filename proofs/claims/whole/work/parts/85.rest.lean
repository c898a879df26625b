/-! rest, press -/
theorem e_rest : ca_18 Inv := by
  intro C M hI
  unfold pX5_rest pX6_rest pX6_rest_55
  have hk : ∀ p, p < 4 → C (61 + p) 0 = C (61 + p) 0 ∧ -1 ≤ C (61 + p) 0 ∧ C (61 + p) 0 ≤ 4 := fun p hp => by
    have := (hI.2.2.2.1 p hp).kind
    omega
  rw [ckind (kd := fun p => C (61 + p) 0) (w := 0) hk (by omega), bind_some']
  have hv : ∀ p, p < 4 → b01 (0 ≤ C (61 + p) 0) = if M 18 p = -9 then 0 else 1 := fun p hp => by
    have := (hI.2.2.2.1 p hp).kind
    unfold b01
    rcases this with ⟨a, b⟩ | ⟨a, b, c⟩
    · rw [if_neg (by omega), if_pos a]
    · rw [if_pos (by omega), if_neg (by omega)]
  simp only [sm]
  rw [hv 0 (by decide), hv 1 (by decide), hv 2 (by decide), hv 3 (by decide)]
  obtain ⟨T0, e0, hTM, -⟩ := layOut_ok hI
  obtain ⟨t, M2, e1, hi, f1, f2⟩ := highest_ok hTM (a := 1) (b := 1) (by omega) (by omega)
  rw [e1, bnd_some]
  have hI2 : Inv C M2 := hI.trial (fun _ _ => rfl) (fun q a _ => f1 q a) (fun j a => f2 j (by omega))
  rcases hi with ⟨q1, q2, q3⟩ | ⟨q1, ⟨p, hp, hs, q2⟩, q3⟩
  · have hn : ∀ p, p < 4 → M 18 p = -9 := fun p hp => by
      have h1 := q3 p hp
      have h2 := (hI.2.2.2.1 p hp).kind
      unfold sel at h1
      omega
    rw [if_pos (hn 0 (by decide)), if_pos (hn 1 (by decide)), if_pos (hn 2 (by decide)), if_pos (hn 3 (by decide)), cEQ_pos (by omega), cEQ_pos (by omega)]
    exact ⟨_, _, _, rfl, rfl, hI2⟩
  · have hp9 : M 18 p ≠ -9 := by unfold sel at hs; omega
    have hb : ∀ p, 0 ≤ (if M 18 p = -9 then (0 : Int) else 1) ∧ (if M 18 p = -9 then (0 : Int) else 1) ≤ 1 := fun p => by split <;> omega
    have hb' : (if M 18 p = -9 then (0 : Int) else 1) = 1 := if_neg hp9
    have hsum : ∃ v : Int, v = 0 + (if M 18 0 = -9 then (0 : Int) else 1) + (if M 18 1 = -9 then (0 : Int) else 1) + (if M 18 2 = -9 then (0 : Int) else 1) + (if M 18 3 = -9 then (0 : Int) else 1) ∧ 1 ≤ v ∧ v ≤ 4 := by
      have b0 := hb 0
      have b1 := hb 1
      have b2 := hb 2
      have b3 := hb 3
      refine ⟨_, rfl, ?_⟩
      rcases (show p = 0 ∨ p = 1 ∨ p = 2 ∨ p = 3 by omega) with rfl | rfl | rfl | rfl <;> (rw [hb'] at *; omega)
    obtain ⟨v, ev, v1, v2⟩ := hsum
    rw [← ev, cEQ_neg (by omega), cEQ_neg (by omega)]
    obtain ⟨u, d, T', M', a1, a2, a3, a4, a5, a6, a7, a8, a9, a10⟩ := asIs_ok hI2
    obtain ⟨s1, s2, s3, s4, s5, s6, s7⟩ := a3
    have hu := s6
    obtain ⟨⟨u1, u2⟩, u3, u4⟩ := s6
    rw [a1, bind_some', a2, bind_some', s2, s3, tellC_ok (by omega) (by omega) (Or.inr (by omega)), bind_some', s4, s5, fractionM_ok (by omega) (by omega) (Or.inr (by omega)), fractionM_ok (by omega) (by omega) (Or.inr (by omega)), fractionM_ok (by omega) (by omega) (Or.inr (by omega))]
    simp only [bnd_some]
    have hII : Inv (tlC T' u d) (tlM M' u d) := Inv_tell a4 _ _
    have hc0 : ∀ q, q ≠ 0 → tlC T' u d q = T' q := fun q a => by unfold tlC; rw [put_ne a, put_ne a]
    have hTM2 : TM (tlC T' u d) M2 := (s1.cg (M' := M2) (fun _ _ _ _ => rfl) (fun _ _ _ => rfl) (fun q a _ => (a6 q a).symm) (fun j a b => (a7 j (by omega)).symm)).cg2 (fun q a => hc0 q (by omega)) (fun j _ _ => by rw [hc0 13 (by decide)])
    have e8 : tlC T' u d 13 8 = u := by rw [hc0 13 (by decide), s2]
    have e9 : tlC T' u d 13 9 = d := by rw [hc0 13 (by decide), s3]
    rcases touches_ok hTM2 hu e8 e9 with ⟨x1, x2⟩ | ⟨x1, x2⟩
    · have := a10.2 x2
      rw [x1, bind_some', cEQ_neg (by omega), cEQ_neg (by omega)]
      exact ⟨_, _, _, rfl, rfl, hII⟩
    · have h40 : M' 0 40 = 0 := by
        rcases a9 with a9 | a9
        · exact a9
        · exact absurd (a10.1 a9) x2
      rw [x1, bind_some', cEQ_pos (by omega), cEQ_pos (by omega), e8]
      by_cases hz : (u : Int) = 0
      · rw [lEQ_pos (by omega), lEQ_pos (by omega)]
        exact ⟨_, _, _, rfl, rfl, hII⟩
      · rw [lEQ_neg (by omega), lEQ_neg (by omega)]
        exact ⟨_, _, _, rfl, rfl, hII⟩
theorem Sd.isOpenC {T M : St} {u d : Int} (h : Sd T M u d) {p : Nat} (hp : p < 4) : pX4_isOpen T (p : Int) = some (if 1 ≤ M 18 p ∧ T 19 p < M 0 36 * (T 20 p * d) then 1 else 0) := by
  obtain ⟨k1, k2, k3, k4, k5, k6⟩ := h.1.1 p hp
  have hP := h.1.2.2.2
  unfold pX4_isOpen pX4_pressDown
  rw [ldI_ok (by omega), Int.toNat_natCast, k2]
  by_cases hr : 1 ≤ M 18 p
  · obtain ⟨M', -, h2, h3, -⟩ := h.press hp hr
    obtain ⟨-, b1, b2, -, -⟩ := h2
    have e9 := h.2.2.1
    have m1 : 0 ≤ M 0 36 * (T 20 p * d) := Int.mul_nonneg hP.2.1 (by omega)
    have m2 : M 0 36 * (T 20 p * d) ≤ 9999 * 400000000000 := Int.mul_le_mul hP.2.2 b2.2 (by omega) (by omega)
    rw [if_pos hr, cEQ_neg (by omega), ldI_ok (by omega), Int.toNat_natCast, hP.1, wdI_ok (by omega), ldI_ok (by omega), Int.toNat_natCast, wdI_ok (by omega), bind_some', e9]
    by_cases hl : T 19 p < M 0 36 * (T 20 p * d)
    · rw [lLT_pos (by omega), if_pos ⟨hr, hl⟩]
    · rw [lLT_neg (by omega), if_neg (fun e => hl e.2)]
  · rw [if_neg hr, cEQ_pos (by omega), if_neg (fun e => hr e.1)]
theorem isOpenM {T M M' : St} {u d : Int} (h : Sd T M' u d) {p : Nat} (h36 : M' 0 36 = M 0 36) (hr : 1 ≤ M 18 p) (hPR : PR (T 19 p) (T 20 p * d) (M' 0 42) (M' 0 43)) : pX6_isOpen M' = some (if 1 ≤ M 18 p ∧ T 19 p < M 0 36 * (T 20 p * d) then 1 else 0) := by
  have hP := h.1.2.2.2
  have hl := hPR.lt (P := M 0 36)
  obtain ⟨-, b1, b2, b3, b4⟩ := hPR
  unfold pX6_isOpen
  rw [h36] at hP ⊢
  have m1 : 0 ≤ M 0 36 * M' 0 43 := Int.mul_nonneg hP.2.1 (by omega)
  have m2 : M 0 36 * M' 0 43 ≤ 9999 * 400000000000 := Int.mul_le_mul hP.2.2 b4.2 (by omega) (by omega)
  rw [wdI_ok (by omega)]
  by_cases hq : M' 0 42 < M 0 36 * M' 0 43
  · rw [lLT_pos (by omega), if_pos ⟨hr, hl.2 hq⟩]
  · rw [lLT_neg (by omega), if_neg (fun e => hq (hl.1 e.2))]
theorem e_press : ca_19 Inv := by
  intro C M x1 hI hx1
  unfold in32 at hx1
  unfold pX5_press pX6_press pX6_press_43 pX6_needRubber
  by_cases h : 0 ≤ x1 ∧ x1 ≤ 3
  · obtain ⟨p, rfl⟩ := Int.eq_ofNat_of_zero_le h.1
    have hp : p < 4 := by omega
    have hs := hI.2.2.2.1 p hp
    rcases hs.kind with ⟨k1, k2⟩ | ⟨k1, k2, k3⟩
    · rw [needSeal_no hp k1, missed_no hp k2]
      simp (disch := omega) only [place_t, bind_some', cEQ_neg, cLT_pos, bnd_some, found1]
      exact ag_fd hI (by decide)
    · rw [needSeal_ok hp ⟨k1, k2⟩]
      have hR := isRubber_ok (M := M) (p := p) hp (by omega)
      by_cases hk : 1 ≤ M 18 p
      · rw [if_pos (by omega)] at hR
        rw [missed_t (k := M 18 p) hp k3 (by omega)]
        obtain ⟨u, d, T', M', a1, a2, a3, a4, a5, a6, a7, a8, -, -⟩ := asIs_ok hI
        have hk' : 1 ≤ M' 18 p := by rw [a6 18 (by decide)]; exact hk
        obtain ⟨M3, b1, b2, b3, b4, b5, b6, b7⟩ := a3.press hp hk'
        have hop := isOpenM (M := M') b5 (b7 36 (by decide) (by decide) (by decide) (by decide) (by decide)) hk' b2
        have hI3 : Inv T' M3 := a4.scr b6 (fun j hj => b7 j (by omega) (by omega) (by omega) (by omega) (by omega))
        obtain ⟨x, y, t1, -⟩ := b2.tell (C := T') (M := M3) (v := 0)
        have ht : ∀ v : Int, pX6_fraction M3 (M3 0 42) (M3 0 43) v = some (v, put (put M3 0 3 x) 0 4 y) := fun v => by
          obtain ⟨x', y', t1', t2'⟩ := b2.tell (C := T') (M := M3) (v := v)
          have e := t1.symm.trans t1'
          have e1 := congrFun (congrFun (Option.some.inj e) 0) 12
          have e2 := congrFun (congrFun (Option.some.inj e) 0) 13
          rw [put_j (by decide), put_at, put_j (by decide), put_at] at e1
          rw [put_at, put_at] at e2
          rw [t2', e1, e2]
        have hII : Inv (put (put T' 0 12 x) 0 13 y) (put (put M3 0 3 x) 0 4 y) := Inv_tell hI3 x y
        have hc0 : ∀ q, q ≠ 0 → put (put T' 0 12 x) 0 13 y q = T' q := fun q a => by rw [put_ne a, put_ne a]
        have hisC : pX4_isOpen (put (put T' 0 12 x) 0 13 y) (p : Int) = pX4_isOpen T' (p : Int) := by
          unfold pX4_isOpen pX4_pressDown ldI
          rw [hc0 15 (by decide), hc0 19 (by decide), hc0 13 (by decide), hc0 20 (by decide)]
        have e9 := a3.2.2.1
        simp (disch := omega) only [place_t, bind_some', cEQ_neg, cEQ_pos, cLT_neg, bnd_some, hR, a1, a2, b1, hop, ldI_ok, Int.toNat_natCast]
        unfold pX4_pressDown
        rw [ldI_ok (by omega), Int.toNat_natCast, wdI_ok (by omega), bind_some', e9, t1, bind_some', hisC, a3.isOpenC hp, bind_some', ht, ht]
        simp only [bnd_some]
        by_cases hq : 1 ≤ M' 18 p ∧ T' 19 p < M' 0 36 * (T' 20 p * d)
        · rw [if_pos hq, cEQ_neg (by omega), cEQ_neg (by omega)]
          exact ⟨_, _, _, rfl, rfl, hII⟩
        · rw [if_neg hq, cEQ_pos (by omega), cEQ_pos (by omega)]
          exact ⟨_, _, _, rfl, rfl, hII⟩
      · rw [if_neg (by omega)] at hR
        rw [missed_f (k := M 18 p) hp k3 (by omega)]
        simp (disch := omega) only [hR, place_t, bind_some', cEQ_neg, cEQ_pos, cLT_neg, cLT_pos, bnd_some, found3, meets3]
        exact ag_fd hI (by decide)
  · rw [needSeal_bad (by omega)]
    simp (disch := omega) only [place_f, bind_some', cEQ_pos, bnd_some, cLT_pos]
    exact ag_same hI
