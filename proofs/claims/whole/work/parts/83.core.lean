/-! the core: layOut, and what is asked of settled seals -/
def LOC (C C' : St) : Prop := (∀ q, q ≠ 13 → q < 14 ∨ 18 < q → C' q = C q) ∧ ∀ j, j < 5 ∨ 7 < j → C' 13 j = C 13 j
theorem Inv.sealR {C M : St} (hI : Inv C M) {p : Nat} (hp : p < 4) (hr : 1 ≤ M 18 p) : ∃ s : Nat, s = sx M p ∧ s < 6 ∧ M 19 p = (s : Int) ∧ C (61 + p) 1 = (s : Int) ∧ C (43 + 3 * s) 2 = M 8 s ∧ StfD C M s ∧ M 9 (5 * s) = 0 ∧ M 10 (5 * s) = 0 := by
  obtain ⟨s, a1, a2, a3, -, a5, a6⟩ := SealOk.stf hI hp hr
  have hz := hI.2.2.1 s a1
  exact ⟨s, by unfold sx; rw [a2, Int.toNat_natCast], a1, a2, a3, a5, a6, hz.1, hz.2.1⟩
theorem layDown_ok {C S M : St} (hI : Inv C M) (hS : ∀ q, q ≠ 13 → q < 14 ∨ 18 < q → S q = C q) {p : Nat} (hp : p < 4) : ∃ (s : Nat) (S' : St), s < 6 ∧ pX5_stuffOf S (61 + p) = some (43 + 3 * s) ∧ pX4_layDown S (p : Int) (61 + p) (S 5 p) (43 + 3 * s) = some S' ∧ (∀ q, q < 14 ∨ 18 < q → S' q = S q) ∧ (∀ q p', p' ≠ p → S' q p' = S q p') ∧ S' 15 p = (if 1 ≤ M 18 p then 1 else 0) ∧ S' 14 p = (if M 18 p = 0 then 1 else 0) ∧ S' 16 p = tp M p ∧ S' 17 p = M 22 p ∧ S' 18 p = ((43 + 3 * s : Nat) : Int) + 1 ∧ (1 ≤ M 18 p → s = sx M p) := by
  have hs := hI.2.2.2.1 p hp
  have hk := hs.kind
  obtain ⟨s1, s2, s3, s4, s5, s6, s7, s8⟩ := hs
  have c61 : S (61 + p) = C (61 + p) := hS _ (by omega) (by omega)
  have c5 : S 5 = C 5 := hS _ (by omega) (by omega)
  obtain ⟨s, es⟩ := Int.eq_ofNat_of_zero_le s7.1
  have hs6 : s < 6 := by omega
  have hst := stuffOf_ok (C := S) (q := 61 + p) hs6 (by rw [c61]; exact es)
  have hsx : 1 ≤ M 18 p → s = sx M p := fun hr => by
    obtain ⟨s', b1, b2, b3, b4, -⟩ := hI.sealR hp hr
    omega
  refine ⟨s, ?_⟩
  have hend : ∀ (S3 : St) (v : Int), (v = 0 ∨ v = 1) → S3 (61 + p) = C (61 + p) → pX4_layDown_45 S3 (p : Int) (61 + p) (S 5 p) (43 + 3 * s) v (p : Int) = some (put (put (put (put S3 14 p v) 16 p (tp M p)) 17 p (M 22 p)) 18 p (((43 + 3 * s : Nat) : Int) + 1)) := by
    intro S3 v hv h3
    unfold pX4_layDown_45
    have g1 : put S3 14 p v (61 + p) 3 = M 21 p := by rw [put_ne (by omega), h3, s2.1]
    have g2 : ∀ w : Int, put (put S3 14 p v) 16 p w (61 + p) 4 = M 22 p := fun w => by rw [put_ne (by omega), put_ne (by omega), h3, s3.1]
    have g3 : S 5 p = M 25 p := by rw [c5, s6.1]
    rw [isB_ok hv, stI_ok (by omega), Int.toNat_natCast, stI_ok (by omega), Int.toNat_natCast, g1, g3, g2, stI_ok (by omega), Int.toNat_natCast, stI_ok (by omega), Int.toNat_natCast]
    rfl
  have hfin : ∀ (b v : Int), b = (if 1 ≤ M 18 p then 1 else 0) → v = (if M 18 p = 0 then 1 else 0) → ∀ S' : St, S' = put (put (put (put (put S 15 p b) 14 p v) 16 p (tp M p)) 17 p (M 22 p)) 18 p (((43 + 3 * s : Nat) : Int) + 1) → (∀ q, q < 14 ∨ 18 < q → S' q = S q) ∧ (∀ q p', p' ≠ p → S' q p' = S q p') ∧ S' 15 p = (if 1 ≤ M 18 p then 1 else 0) ∧ S' 14 p = (if M 18 p = 0 then 1 else 0) ∧ S' 16 p = tp M p ∧ S' 17 p = M 22 p ∧ S' 18 p = ((43 + 3 * s : Nat) : Int) + 1 ∧ (1 ≤ M 18 p → s = sx M p) := by
    rintro b v hb hv S' rfl
    refine ⟨fun q a => by rw [put_ne (by omega), put_ne (by omega), put_ne (by omega), put_ne (by omega), put_ne (by omega)], fun q p' a => ?_, ?_, ?_, ?_, ?_, ?_, hsx⟩
    · simp [put_sw, a]
    · rw [put_ne (by decide), put_ne (by decide), put_ne (by decide), put_ne (by decide), put_at, hb]
    · rw [put_ne (by decide), put_ne (by decide), put_ne (by decide), put_at, hv]
    · rw [put_ne (by decide), put_ne (by decide), put_at]
    · rw [put_ne (by decide), put_at]
    · rw [put_at]
  unfold pX4_layDown pX4_layDown_44 pX2_isMissing
  rcases hk with ⟨k1, k2⟩ | ⟨k1, k2, k3⟩
  · have his := is_ok (C := S) (q := 61 + p) (k := -1) (w := 1) (by rw [c61]; exact k2) (by omega)
    rw [if_neg (by omega), if_neg (by omega)] at his
    have e0 : put S 15 p 0 (61 + p) 0 = -1 := by rw [put_ne (by omega), c61, k2]
    simp (disch := omega) only [place_t, bind_some', cEQ_neg, his, isB_ok, stI_ok, Int.toNat_natCast, e0, cLT_pos]
    rw [hend (put S 15 p 0) 0 (Or.inl rfl) (by rw [put_ne (by omega), c61])]
    exact ⟨_, hs6, hst, rfl, hfin 0 0 (by rw [if_neg (by omega)]) (by rw [if_neg (by omega)]) _ rfl⟩
  · have his := is_ok (C := S) (q := 61 + p) (k := M 18 p) (w := 1) (by rw [c61]; exact k3) (by omega)
    rw [if_neg (by omega)] at his
    by_cases hr : 1 ≤ M 18 p
    · rw [if_pos hr] at his
      have e0 : put S 15 p 1 (61 + p) 0 = M 18 p := by rw [put_ne (by omega), c61, k3]
      simp (disch := omega) only [place_t, bind_some', cEQ_neg, cEQ_pos, his, isB_ok, stI_ok, ldI_ok, Int.toNat_natCast, e0, cLT_neg, put_at]
      rw [hend (put S 15 p 1) 0 (Or.inl rfl) (by rw [put_ne (by omega), c61])]
      exact ⟨_, hs6, hst, rfl, hfin 1 0 (by rw [if_pos hr]) (by rw [if_neg (by omega)]) _ rfl⟩
    · rw [if_neg hr] at his
      have e0 : put S 15 p 0 (61 + p) 0 = M 18 p := by rw [put_ne (by omega), c61, k3]
      simp (disch := omega) only [place_t, bind_some', cEQ_neg, cEQ_pos, his, isB_ok, stI_ok, ldI_ok, Int.toNat_natCast, e0, cLT_neg, put_at]
      rw [hend (put S 15 p 0) 1 (Or.inr rfl) (by rw [put_ne (by omega), c61])]
      exact ⟨_, hs6, hst, rfl, hfin 0 1 (by rw [if_neg hr]) (by rw [if_pos (by omega)]) _ rfl⟩
