/-! the core: settled as it is -/
theorem StfD.cg2 {T M T' : St} {s : Nat} (h : StfD T M s) (hq : ∀ q, 43 ≤ q → T' q = T q) : StfD T' M s := by
  unfold StfD at h ⊢
  rw [hq (43 + 3 * s) (by omega), hq (43 + 3 * s + 1) (by omega), hq (43 + 3 * s + 2) (by omega)]
  exact h
theorem TM.cg2 {T M T' : St} (h : TM T M) (hq : ∀ q, (14 ≤ q ∧ q ≤ 18) ∨ 43 ≤ q → T' q = T q) (h13 : ∀ j, 5 ≤ j → j ≤ 7 → T' 13 j = T 13 j) : TM T' M := by
  obtain ⟨g1, g2, g3, g4⟩ := h
  refine ⟨fun p hp => ?_, ?_, ?_, ?_⟩
  · obtain ⟨a1, a2, a3, a4, a5, a6⟩ := g1 p hp
    refine ⟨a1, by rw [hq 15 (by omega)]; exact a2, by rw [hq 14 (by omega)]; exact a3, by rw [hq 16 (by omega)]; exact a4, by rw [hq 17 (by omega)]; exact a5, fun hr => ?_⟩
    obtain ⟨b1, b2, b3, b4, b5, b6, b7⟩ := a6 hr
    exact ⟨b1, b2, b3, by rw [hq 18 (by omega)]; exact b4, b5.cg2 (fun q a => hq q (Or.inr a)), by rw [hq (43 + 3 * sx M p) (by omega)]; exact b6, b7⟩
  · rw [h13 5 (by decide) (by decide)]; exact g2
  · rw [h13 6 (by decide) (by decide)]; exact g3
  · rw [h13 7 (by decide) (by decide)]; exact g4
theorem layOut_ok {C M : St} (hI : Inv C M) : ∃ T : St, pX5_layOut C = some T ∧ TM T M ∧ (∀ q, q < 13 ∨ 18 < q → T q = C q) ∧ ∀ j, j < 5 ∨ 7 < j → T 13 j = C 13 j := by
  unfold pX5_layOut
  refine lo2_spec (fun o => ∃ T : St, o = some T ∧ TM T M ∧ (∀ q, q < 13 ∨ 18 < q → T q = C q) ∧ ∀ j, j < 5 ∨ 7 < j → T 13 j = C 13 j) (fun (S : St) (z : Int) => ∃ p : Nat, z = p ∧ p ≤ 4 ∧ (∀ q, q < 14 ∨ 18 < q → S q = C q) ∧ ∀ p', p' < p → S 15 p' = (if 1 ≤ M 18 p' then 1 else 0) ∧ S 14 p' = (if M 18 p' = 0 then 1 else 0) ∧ S 16 p' = tp M p' ∧ S 17 p' = M 22 p' ∧ (1 ≤ M 18 p' → S 18 p' = ((43 + 3 * sx M p' : Nat) : Int) + 1)) (fun _ z => (4 - z).toNat) ?_ FU C 0 ⟨0, rfl, by omega, fun _ _ => rfl, fun p' a => by omega⟩ (by have := FU_big; omega)
  rintro f S z ⟨p, rfl, hp, s1, s2⟩ hf
  unfold pX5_layOut_2B
  by_cases e : p = 4
  · subst e
    have z0 : (0 : Int).toNat = 0 := rfl
    have z1 : (1 : Int).toNat = 1 := rfl
    have z2 : (2 : Int).toNat = 2 := rfl
    have c6 : S 6 = C 6 := s1 6 (by omega)
    have d1 : ∀ v : Int, put S 13 5 v 6 = C 6 := fun v => by rw [put_ne (by decide), c6]
    have d2 : ∀ v w : Int, put (put S 13 5 v) 13 6 w 6 = C 6 := fun v w => by rw [put_ne (by decide), put_ne (by decide), c6]
    obtain ⟨w1, w2, w3, w4⟩ := hI.2.2.2.2.1
    rw [cLT_neg (by omega), ldI_ok (by omega), z0, c6]
    simp only [setS]
    rw [ldI_ok (by omega), z1, d1]
    rw [ldI_ok (by omega), z2, d2]
    have t1 : ∀ q, q ≠ 13 → put (put (put S 13 5 (C 6 0)) 13 6 (C 6 1)) 13 7 (C 6 2) q = S q := fun q a => by rw [put_ne a, put_ne a, put_ne a]
    have t5 : put (put (put S 13 5 (C 6 0)) 13 6 (C 6 1)) 13 7 (C 6 2) 13 5 = C 6 0 := by rw [put_j (by decide), put_j (by decide), put_at]
    have t6 : put (put (put S 13 5 (C 6 0)) 13 6 (C 6 1)) 13 7 (C 6 2) 13 6 = C 6 1 := by rw [put_j (by decide), put_at]
    have t7 : put (put (put S 13 5 (C 6 0)) 13 6 (C 6 1)) 13 7 (C 6 2) 13 7 = C 6 2 := by rw [put_at]
    have t8 : ∀ j, j < 5 ∨ 7 < j → put (put (put S 13 5 (C 6 0)) 13 6 (C 6 1)) 13 7 (C 6 2) 13 j = S 13 j := fun j a => by rw [put_j (by omega), put_j (by omega), put_j (by omega)]
    generalize put (put (put S 13 5 (C 6 0)) 13 6 (C 6 1)) 13 7 (C 6 2) = T at *
    refine ⟨T, rfl, ⟨fun p hp => ?_, ⟨by rw [t5, w1.1], w1.2.1, by omega⟩, ⟨by rw [t6, w2.1], w2.2.1, w2.2.2⟩, ⟨by rw [t7, w3.1], w3.2.1, w3.2.2⟩⟩, fun q a => by rw [t1 q (by omega), s1 q (by omega)], fun j a => by rw [t8 j a, s1 13 (by omega)]⟩
    have hs := hI.2.2.2.1 p hp
    have hk := hs.kind
    obtain ⟨r1, r2, r3, r4, r5, r6, r7, r8⟩ := hs
    obtain ⟨x1, x2, x3, x4, x5⟩ := s2 p hp
    refine ⟨by omega, by rw [t1 15 (by decide)]; exact x1, by rw [t1 14 (by decide)]; exact x2, ⟨by rw [t1 16 (by decide)]; exact x3, ?_, ?_⟩, ⟨by rw [t1 17 (by decide)]; exact x4, r3.2.1, r3.2.2⟩, fun hr => ?_⟩
    · unfold tp; omega
    · unfold tp; omega
    · obtain ⟨s, b1, b2, b3, b4, b5, b6, b7⟩ := hI.sealR hp hr
      subst b1
      have hcell : ∀ q, 43 ≤ q → T q = C q := fun q a => by rw [t1 q (by omega), s1 q (by omega)]
      refine ⟨?_, b3, b2, by rw [t1 18 (by decide)]; exact x5 hr, b6.cg2 hcell, by rw [hcell _ (by omega)]; exact b5, b7⟩
      rcases r8 with r8 | r8
      · omega
      · exact r8.2.2.2.1
  · have hp4 : p < 4 := by omega
    obtain ⟨s, S', l1, l2, l3, l4, l5, l6, l7, l8, l9, l10, l11⟩ := layDown_ok hI (S := S) (fun q _ a => s1 q a) hp4
    rw [cLT_pos (by omega), ldA_ok (by omega), Int.toNat_natCast, Nat.one_mul, ldI_ok (by omega), Int.toNat_natCast, l2, bind_some', chk_ok (isStf_s l1), l3, bind_some']
    simp only [setS]
    refine hf S' _ ⟨p + 1, by omega, by omega, fun q a => by rw [l4 q a, s1 q a], fun p' a => ?_⟩ (by omega)
    by_cases ep : p' = p
    · subst ep
      exact ⟨l6, l7, l8, l9, fun hr => by rw [l10, l11 hr]⟩
    · rw [l5 15 p' ep, l5 14 p' ep, l5 16 p' ep, l5 17 p' ep, l5 18 p' ep]
      exact s2 p' (by omega)
theorem Inv.trial {C M C' M' : St} (h : Inv C M) (hc : ∀ q, q < 13 ∨ 20 < q → C' q = C q) (hm : ∀ q, q ≠ 0 → q < 26 → M' q = M q) (h0 : ∀ j, j < 24 ∨ (26 ≤ j ∧ j < 38) → M' 0 j = M 0 j) : Inv C' M' := by
  have hz := h.2.2.2.2.2.2
  unfold IZero at hz
  exact h.scr2 (fun q a => hc q (by omega)) (by rw [hc 9 (by omega), hc 10 (by omega)]; exact ⟨hz.1, hz.2.1⟩) (fun q a _ _ _ _ b => hm q a b) (by rw [hm 15 (by decide) (by decide), hm 16 (by decide) (by decide)]; exact ⟨hz.2.2.1, hz.2.2.2⟩) (fun j a => h0 j (by omega))
theorem asIs_ok {C M : St} (hI : Inv C M) : ∃ (u d : Nat) (T' M' : St), pX5_settleAsIs C = some T' ∧ pX6_layRest M = some M' ∧ Sd T' M' u d ∧ Inv T' M' ∧ (∀ q, q < 13 ∨ 20 < q → T' q = C q) ∧ (∀ q, q ≠ 0 → M' q = M q) ∧ (∀ j, j < 38 → M' 0 j = M 0 j) ∧ (∀ j, 41 < j → M' 0 j = M 0 j) ∧ (M' 0 40 = 0 ∨ M' 0 40 = 1) ∧ (M' 0 40 = 1 ↔ ∃ p, p < 4 ∧ M 18 p = 0 ∧ tp M p * d = u) := by
  obtain ⟨T, e1, h1, t1, t2⟩ := layOut_ok hI
  obtain ⟨u, d, T', M', e2, e3, h2, g1, g2, g3, g4, g5, g6, g7⟩ := both_ok h1
  have hc : ∀ q, q < 13 ∨ 20 < q → T' q = C q := fun q a => by rw [g1 q (by omega) (by omega) (by omega), t1 q (by omega)]
  refine ⟨u, d, T', M', ?_, e3, h2, hI.trial hc (fun q a _ => g3 q a) (fun j a => g4 j (by omega)), hc, g3, g4, g5, g6, g7⟩
  unfold pX5_settleAsIs
  rw [e1, bind_some', e2, bind_some']
theorem touches_ok {T M : St} (h : TM T M) {u d : Int} (hu : UD u d) (e8 : T 13 8 = u) (e9 : T 13 9 = d) : (pX4_touchesPart T = some 1 ∧ ∃ p, p < 4 ∧ M 18 p = 0 ∧ tp M p * d = u) ∨ (pX4_touchesPart T = some 0 ∧ ¬ ∃ p, p < 4 ∧ M 18 p = 0 ∧ tp M p * d = u) := by
  unfold pX4_touchesPart
  refine lo1_spec (fun o => (o = some 1 ∧ ∃ p, p < 4 ∧ M 18 p = 0 ∧ tp M p * d = u) ∨ (o = some 0 ∧ ¬ ∃ p, p < 4 ∧ M 18 p = 0 ∧ tp M p * d = u)) (fun (z : Int) => ∃ p : Nat, z = p ∧ p ≤ 4 ∧ ∀ p', p' < p → M 18 p' = 0 → tp M p' * d ≠ u) (fun z => (4 - z).toNat) ?_ FU 0 ⟨0, rfl, by omega, fun p' a => by omega⟩ (by have := FU_big; omega)
  rintro f z ⟨p, rfl, hp, s2⟩ hf
  unfold pX4_touchesPart_2B pX4_touchesPart_38
  by_cases e : p = 4
  · subst e
    rw [cLT_neg (by omega)]
    exact Or.inr ⟨rfl, fun ⟨p, a, b, c⟩ => s2 p a b c⟩
  · have hp4 : p < 4 := by omega
    have hb := sqz_b h hu hp4
    obtain ⟨k1, k2, k3, k4, k5, k6⟩ := h.1 p hp4
    obtain ⟨⟨u1, u2⟩, u3, u4⟩ := hu
    rw [cLT_pos (by omega), ldI_ok (by omega), Int.toNat_natCast, k3]
    by_cases hz : M 18 p = 0
    · rw [if_pos hz, cEQ_neg (by omega), ldI_ok (by omega), Int.toNat_natCast, k4.1, wdI_ok (by omega), e8, e9]
      by_cases he : tp M p * d = u
      · rw [lEQ_pos (by omega)]
        exact Or.inl ⟨rfl, p, hp4, hz, he⟩
      · rw [lEQ_neg (by omega)]
        refine hf _ ⟨p + 1, by omega, by omega, fun p' a b => ?_⟩ (by omega)
        by_cases ep : p' = p
        · subst ep; exact he
        · exact s2 p' (by omega) b
    · rw [if_neg hz, cEQ_pos (by omega)]
      refine hf _ ⟨p + 1, by omega, by omega, fun p' a b => ?_⟩ (by omega)
      by_cases ep : p' = p
      · subst ep; exact absurd b hz
      · exact s2 p' (by omega) b
/-! fractions told apart by their products -/
theorem PR.lt {a b a' b' P : Int} (h : PR a b a' b') : a < P * b ↔ a' < P * b' := by
  obtain ⟨h1, h2, h3, h4, h5⟩ := h
  have e1 : a < P * b ↔ a * b' < P * b * b' := (Int.mul_lt_mul_right (by omega)).symm
  have e2 : a' < P * b' ↔ a' * b < P * b' * b := (Int.mul_lt_mul_right (by omega)).symm
  rw [e1, e2, h1, show P * b * b' = P * b' * b by grind]
theorem div_cross {x b x' b' : Int} (h : x * b' = x' * b) (hb : 1 ≤ b) (hb' : 1 ≤ b') : x / b = x' / b' := by
  rw [← Int.mul_ediv_mul_of_pos_left x b (show 0 < b' by omega), ← Int.mul_ediv_mul_of_pos_left x' b' (show 0 < b by omega), h, Int.mul_comm b b']
theorem PR.div {a b a' b' : Int} (h : PR a b a' b') : a / b = a' / b' ∧ 0 ≤ a / b ∧ a / b ≤ a := by
  obtain ⟨h1, h2, h3, h4, h5⟩ := h
  exact ⟨div_cross h1 h3.1 h5.1, Int.ediv_nonneg h2.1 (by omega), Int.ediv_le_self _ h2.1⟩
theorem PR.tell {C M : St} {a b a' b' v : Int} (h : PR a b a' b') : ∃ x y : Int, pX5_tell C a b = some (put (put C 0 12 x) 0 13 y) ∧ pX6_fraction M a' b' v = some (v, put (put M 0 3 x) 0 4 y) := by
  obtain ⟨h1, h2, h3, h4, h5⟩ := h
  obtain ⟨n, rfl⟩ := Int.eq_ofNat_of_zero_le h2.1
  obtain ⟨m, rfl⟩ := Int.eq_ofNat_of_zero_le (show 0 ≤ b by omega)
  obtain ⟨n', rfl⟩ := Int.eq_ofNat_of_zero_le h4.1
  obtain ⟨m', rfl⟩ := Int.eq_ofNat_of_zero_le (show 0 ≤ b' by omega)
  rw [tellC_ok (by omega) (by omega) (Or.inr (by omega)), fractionM_ok (by omega) (by omega) (Or.inr (by omega))]
  have e : n * m' = n' * m := by
    have : ((n * m' : Nat) : Int) = ((n' * m : Nat) : Int) := by rw [Int.natCast_mul, Int.natCast_mul]; exact h1
    exact Int.ofNat.inj this
  have l := low_eq e (by omega) (by omega)
  unfold tlC tlM
  rw [l.1, l.2]
  exact ⟨_, _, rfl, rfl⟩
