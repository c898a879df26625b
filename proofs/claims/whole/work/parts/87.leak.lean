/-! leak, through -/
theorem has_all : ∀ v : Nat, v < 64 → ∀ p : Nat, p < 6 → pX6_has (v : Int) (p : Int) = some (if v.testBit p = true then 1 else 0) ∧ pX5_holds (v : Int) (p : Int) = some (if v.testBit p = true then 1 else 0) := by decide +kernel
def lkA (T M : St) (d : Int) (p : Nat) : Int := if 1 ≤ M 18 p ∧ T 19 p < M 0 36 * (T 20 p * d) then (M 22 p * (M 0 36 * (T 20 p * d) - T 19 p)) / (T 20 p * d) else 0
theorem leakC_ok {T M : St} {u d : Int} (h : Sd T M u d) : lo2 (pX5_leak_8B T) FU 0 0 = some (sm (lkA T M d) 4, T) := by
  refine lo2_spec (fun o => o = some (sm (lkA T M d) 4, T)) (fun (x y : Int) => ∃ p : Nat, y = p ∧ p ≤ 4 ∧ x = sm (lkA T M d) p) (fun _ y => (4 - y).toNat) ?_ FU 0 0 ⟨0, rfl, by omega, rfl⟩ (by have := FU_big; omega)
  rintro f x y ⟨p, rfl, hp, rfl⟩ hf
  unfold pX5_leak_8B pX5_leak_35
  by_cases e : p = 4
  · subst e
    rw [cLT_neg (by omega)]
  · have hp4 : p < 4 := by omega
    have hnext := hf (sm (lkA T M d) (p + 1)) ((p : Int) + 1) ⟨p + 1, by omega, by omega, rfl⟩ (by omega)
    have hsm : sm (lkA T M d) (p + 1) = sm (lkA T M d) p + lkA T M d p := rfl
    rw [hsm] at hnext
    rw [cLT_pos (by omega), h.isOpenC hp4, bind_some']
    by_cases hc : 1 ≤ M 18 p ∧ T 19 p < M 0 36 * (T 20 p * d)
    · have hl : lkA T M d p = (M 22 p * (M 0 36 * (T 20 p * d) - T 19 p)) / (T 20 p * d) := if_pos hc
      rw [hl] at hnext
      obtain ⟨k1, k2, k3, k4, k5, k6⟩ := h.1.1 p hp4
      have hP := h.1.2.2.2
      have e9 := h.2.2.1
      obtain ⟨M', -, h2, h3, -⟩ := h.press hp4 hc.1
      obtain ⟨-, b1, b2, -, -⟩ := h2
      have m1 : M 0 36 * (T 20 p * d) ≤ 9999 * 400000000000 := Int.mul_le_mul hP.2.2 b2.2 (by omega) (by omega)
      have m2 : 0 ≤ M 22 p * (M 0 36 * (T 20 p * d) - T 19 p) := Int.mul_nonneg k5.2.1 (by omega)
      have m3 : M 22 p * (M 0 36 * (T 20 p * d) - T 19 p) ≤ 9 * (9999 * 400000000000) := Int.mul_le_mul k5.2.2 (by omega) (by omega) (by omega)
      rw [if_pos hc, cEQ_neg (by omega)]
      unfold pX4_leakAt pX4_pressDown pX5_cut
      rw [ldI_ok (by omega), Int.toNat_natCast, k5.1, wdI_ok (by omega), hP.1, wdI_ok (by omega), ldI_ok (by omega), Int.toNat_natCast, wdI_ok (by omega), bind_some', ldI_ok (by omega), Int.toNat_natCast, bind_some', e9, lLT_neg (by omega), dvL_ok (by omega), Int.tdiv_eq_ediv_of_nonneg m2, bind_some', bind_some']
      exact hnext
    · have hl : lkA T M d p = 0 := if_neg hc
      rw [hl, Int.add_zero] at hnext
      rw [if_neg hc, cEQ_pos (by omega)]
      exact hnext
theorem leakM_ok {T M : St} {u d : Int} {v : Nat} (h : Sd T M u d) (hv : v < 16) (hb : ∀ p, v.testBit p = true ↔ p < 4 ∧ opn T M d p) : ∃ M' : St, lo3 (pX6_leak_9B (v : Int)) FU M 0 0 = some (sm (lkA T M d) 4, M') ∧ FM M M' := by
  refine lo3_spec (fun o => ∃ M' : St, o = some (sm (lkA T M d) 4, M') ∧ FM M M') (fun (S : St) (x y : Int) => ∃ p : Nat, y = p ∧ p ≤ 4 ∧ x = sm (lkA T M d) p ∧ Sd T S u d ∧ FM M S) (fun _ _ y => (4 - y).toNat) ?_ FU M 0 0 ⟨0, rfl, by omega, rfl, h, fun _ _ => rfl, fun _ _ => rfl⟩ (by have := FU_big; omega)
  rintro f S x y ⟨p, rfl, hp, rfl, hS, hM⟩ hf
  unfold pX6_leak_9B pX6_leak_59
  by_cases e : p = 4
  · subst e
    rw [cLT_neg (by omega)]
    exact ⟨S, rfl, hM⟩
  · have hp4 : p < 4 := by omega
    have hsm : sm (lkA T M d) (p + 1) = sm (lkA T M d) p + lkA T M d p := rfl
    rw [cLT_pos (by omega), (has_all v (by omega) p (by omega)).1, bind_some']
    by_cases hc : 1 ≤ M 18 p ∧ T 19 p < M 0 36 * (T 20 p * d)
    · have hl : lkA T M d p = (M 22 p * (M 0 36 * (T 20 p * d) - T 19 p)) / (T 20 p * d) := if_pos hc
      rw [if_pos ((hb p).2 ⟨hp4, hc⟩), cEQ_neg (by omega)]
      obtain ⟨k1, k2, k3, k4, k5, k6⟩ := h.1.1 p hp4
      have hP := h.1.2.2.2
      obtain ⟨M3, b1, b2, b3, b4, b5, b6, b7⟩ := hS.press hp4 (by rw [hM.1 18 (by decide)]; exact hc.1)
      have hF3 : FM M M3 := ⟨fun q a => by rw [b6 q a, hM.1 q a], fun j a => by rw [b7 j (by omega) (by omega) (by omega) (by omega) (by omega), hM.2 j a]⟩
      have hnext := hf M3 (sm (lkA T M d) (p + 1)) ((p : Int) + 1) ⟨p + 1, by omega, by omega, rfl, b5, hF3⟩ (by omega)
      have hlt := b2.lt.1 hc.2
      obtain ⟨c0, c1, c2, c3, c4⟩ := b2
      have m1 : M 0 36 * M3 0 43 ≤ 9999 * 400000000000 := Int.mul_le_mul hP.2.2 c4.2 (by omega) (by omega)
      have m2 : 0 ≤ M 22 p * (M 0 36 * M3 0 43 - M3 0 42) := Int.mul_nonneg k5.2.1 (by omega)
      have m3 : M 22 p * (M 0 36 * M3 0 43 - M3 0 42) ≤ 9 * (9999 * 400000000000) := Int.mul_le_mul k5.2.2 (by omega) (by omega) (by omega)
      have hd := div_cross (x := M 22 p * (M 0 36 * (T 20 p * d) - T 19 p)) (b := T 20 p * d) (x' := M 22 p * (M 0 36 * M3 0 43 - M3 0 42)) (b' := M3 0 43) (by grind) c2.1 c4.1
      rw [hsm, hl, hd] at hnext
      rw [b1, bind_some', ldI_ok (by omega), Int.toNat_natCast, hF3.1 22 (by decide), hF3.2 36 (by omega), wdI_ok (by omega), wdI_ok (by omega), dvL_ok (by omega), Int.tdiv_eq_ediv_of_nonneg m2]
      exact hnext
    · have hl : lkA T M d p = 0 := if_neg hc
      have hnext := hf S (sm (lkA T M d) (p + 1)) ((p : Int) + 1) ⟨p + 1, by omega, by omega, rfl, hS, hM⟩ (by omega)
      rw [hsm, hl, Int.add_zero] at hnext
      rw [if_neg (fun e => hc ((hb p).1 e).2), cEQ_pos (by omega)]
      exact hnext
theorem leak_none {T M : St} {v : Nat} (hv : v < 16) (hz : ∀ p, p < 4 → ¬ v.testBit p = true) : lo3 (pX6_leak_9B (v : Int)) FU M 0 0 = some (0, M) := by
  refine lo3_spec (fun o => o = some (0, M)) (fun (S : St) (x y : Int) => ∃ p : Nat, y = p ∧ p ≤ 4 ∧ x = 0 ∧ S = M) (fun _ _ y => (4 - y).toNat) ?_ FU M 0 0 ⟨0, rfl, by omega, rfl, rfl⟩ (by have := FU_big; omega)
  rintro f S x y ⟨p, rfl, hp, rfl, rfl⟩ hf
  unfold pX6_leak_9B pX6_leak_59
  by_cases e : p = 4
  · subst e
    rw [cLT_neg (by omega)]
  · rw [cLT_pos (by omega), (has_all v (by omega) p (by omega)).1, bind_some', if_neg (hz p (by omega)), cEQ_pos (by omega)]
    exact hf S 0 ((p : Int) + 1) ⟨p + 1, by omega, by omega, rfl, rfl⟩ (by omega)
theorem leakC_none {T : St} (hz : ∀ p : Nat, p < 4 → pX4_isOpen T (p : Int) = some 0) : lo2 (pX5_leak_8B T) FU 0 0 = some (0, T) := by
  refine lo2_spec (fun o => o = some (0, T)) (fun (x y : Int) => ∃ p : Nat, y = p ∧ p ≤ 4 ∧ x = 0) (fun _ y => (4 - y).toNat) ?_ FU 0 0 ⟨0, rfl, by omega, rfl⟩ (by have := FU_big; omega)
  rintro f x y ⟨p, rfl, hp, rfl⟩ hf
  unfold pX5_leak_8B pX5_leak_35
  by_cases e : p = 4
  · subst e
    rw [cLT_neg (by omega)]
  · rw [cLT_pos (by omega), hz p (by omega), bind_some', cEQ_pos (by omega)]
    exact hf 0 ((p : Int) + 1) ⟨p + 1, by omega, by omega, rfl⟩ (by omega)
theorem e_leak : ca_22 Inv := by
  intro C M hI
  unfold pX5_leak pX6_leak pX5_settleAsIs
  obtain ⟨T, e1, h1, t1, t2⟩ := layOut_ok hI
  obtain ⟨v, T', M', s1, s2, s3, s4, s5, s6, u, d, s7, s8, s9, s10, s11, s12⟩ := open_ok h1
  have hT : ∀ q, q < 13 ∨ 20 < q → T' q = C q := fun q a => by rw [s5.1 q (by omega) (by omega) (by omega), t1 q (by omega)]
  rw [e1, bind_some', s1, bind_some', bind_some', s3, bnd_some]
  by_cases hr : ∃ p, p < 4 ∧ 1 ≤ M 18 p
  · have hS := s12 hr
    have e18 : M' 18 = M 18 := s6.1 18 (by decide)
    have e36 : M' 0 36 = M 0 36 := s6.2 36 (by omega)
    have hbit : ∀ p, v.testBit p = true ↔ p < 4 ∧ opn T' M' d p := fun p => by unfold opn; rw [e18, e36]; exact s7 p
    obtain ⟨M3, l1, l2⟩ := leakM_ok hS s4 hbit
    rw [leakC_ok hS, l1]
    exact ⟨_, _, _, rfl, rfl, hI.trial hT (fun q a _ => by rw [l2.1 q a, s6.1 q a]) (fun j a => by rw [l2.2 j (by omega), s6.2 j (by omega)])⟩
  · have hn : ∀ p, p < 4 → ¬ 1 ≤ M 18 p := fun p a b => hr ⟨p, a, b⟩
    rw [leakC_none (fun p hp => by rw [s11 p hp, if_neg (fun e => hn p hp e.1)]), leak_none (T := T) s4 (fun p hp e => hn p hp ((s7 p).1 e).2.1)]
    exact ⟨_, _, _, rfl, rfl, hI.trial hT (fun q a _ => s6.1 q a) (fun j a => s6.2 j (by omega))⟩
