/-! parting -/
theorem minL_ok {x y : Int} (h : -9223372036854775808 ≤ x ∧ x ≤ 9223372036854775807 ∧ -9223372036854775808 ≤ y ∧ y ≤ 9223372036854775807) : pJ9_min_f86c9 x y = some (min x y) := by
  unfold pJ9_min_f86c9; rw [if_pos ⟨⟨by omega, by omega⟩, ⟨by omega, by omega⟩⟩]
def bc (v : Nat) : Int := sm (fun k => if v.testBit k = true then 1 else 0) 6
theorem bits_all : ∀ v : Nat, v < 64 → pJ6_bitCount_0f7a4 (v : Int) = some (bc v) ∧ pX6_bits (v : Int) = some (bc v) ∧ 0 ≤ bc v ∧ bc v ≤ 6 := by decide +kernel
def AT (M : St) (v : Nat) : Prop := ∀ s, s < 6 → v.testBit s = true → M 7 s = 1
theorem lacks_ok {C M : St} (hI : Inv C M) {v : Nat} (hv : v < 64) : (pX5_lacksOneOf C (v : Int) = some 0 ∧ pX6_areThere M (v : Int) = some 1 ∧ AT M v) ∨ (pX5_lacksOneOf C (v : Int) = some 1 ∧ pX6_areThere M (v : Int) = some 0) := by
  have hC : (pX5_lacksOneOf C (v : Int) = some 0 ∧ AT M v) ∨ (pX5_lacksOneOf C (v : Int) = some 1 ∧ ¬ AT M v) := by
    unfold pX5_lacksOneOf
    refine lo1_spec (fun o => (o = some 0 ∧ AT M v) ∨ (o = some 1 ∧ ¬ AT M v)) (fun (y : Int) => ∃ s : Nat, y = s ∧ s ≤ 6 ∧ ∀ s', s' < s → v.testBit s' = true → M 7 s' = 1) (fun y => (6 - y).toNat) ?_ FU 0 ⟨0, rfl, by omega, fun s' a => by omega⟩ (by have := FU_big; omega)
    rintro f y ⟨s, rfl, hs, h1⟩ hf
    unfold pX5_lacksOneOf_2B pX5_lacksOneOf_30 pX3_isMissing
    by_cases e : s = 6
    · subst e
      rw [cLT_neg (by omega)]
      exact Or.inl ⟨rfl, h1⟩
    · have hs6 : s < 6 := by omega
      rw [cLT_pos (by omega), (has_all v hv s hs6).2, bind_some']
      simp only [setS]
      by_cases hb : v.testBit s = true
      · rw [if_pos hb, cEQ_neg (by omega), ldA_ok (by omega), Int.toNat_natCast]
        obtain ⟨z1, z2, hz⟩ := hI.2.2.1 s hs6
        rcases hz with ⟨k1, k2⟩ | ⟨k1, k2, hd⟩
        · rw [k2, cEQ_pos (by omega), bind_some', cEQ_neg (by omega)]
          exact Or.inr ⟨rfl, fun h => by have := h s hs6 hb; omega⟩
        · have := hd.1
          have := hd.2.1
          rw [k2, cEQ_neg (by omega), bind_some', cEQ_pos (by omega)]
          refine hf _ ⟨s + 1, by omega, by omega, fun s' a b => ?_⟩ (by omega)
          by_cases es : s' = s
          · subst es; exact k1
          · exact h1 s' (by omega) b
      · rw [if_neg hb, cEQ_pos (by omega)]
        refine hf _ ⟨s + 1, by omega, by omega, fun s' a b => ?_⟩ (by omega)
        by_cases es : s' = s
        · subst es; exact absurd b hb
        · exact h1 s' (by omega) b
  have hM : (pX6_areThere M (v : Int) = some 1 ∧ AT M v) ∨ (pX6_areThere M (v : Int) = some 0 ∧ ¬ AT M v) := by
    unfold pX6_areThere
    refine lo2_spec (fun o => (o = some 1 ∧ AT M v) ∨ (o = some 0 ∧ ¬ AT M v)) (fun (x y : Int) => ∃ s : Nat, y = s ∧ s ≤ 6 ∧ ((x = 1 ∧ ∀ s', s' < s → v.testBit s' = true → M 7 s' = 1) ∨ (x = 0 ∧ ¬ AT M v))) (fun _ y => (6 - y).toNat) ?_ FU 1 0 ⟨0, rfl, by omega, Or.inl ⟨rfl, fun s' a => by omega⟩⟩ (by have := FU_big; omega)
    rintro f x y ⟨s, rfl, hs, h1⟩ hf
    unfold pX6_areThere_4B pX6_areThere_35 pX6_areThere_31 pX6_areThere_36
    by_cases e : s = 6
    · subst e
      rw [cLT_neg (by omega)]
      rcases h1 with ⟨rfl, h1⟩ | ⟨rfl, h1⟩
      · exact Or.inl ⟨rfl, h1⟩
      · exact Or.inr ⟨rfl, h1⟩
    · have hs6 : s < 6 := by omega
      rw [cLT_pos (by omega)]
      simp only [setS]
      rcases h1 with ⟨rfl, h1⟩ | ⟨rfl, h1⟩
      · rw [cEQ_neg (by omega), (has_all v hv s hs6).1, bind_some']
        by_cases hb : v.testBit s = true
        · rw [if_pos hb, cEQ_neg (by omega), ldI_ok (by omega), Int.toNat_natCast]
          obtain ⟨z1, z2, hz⟩ := hI.2.2.1 s hs6
          rcases hz with ⟨k1, k2⟩ | ⟨k1, k2, hd⟩
          · rw [k1, cEQ_pos (by omega)]
            exact hf _ _ ⟨s + 1, by omega, by omega, Or.inr ⟨rfl, fun h => by have := h s hs6 hb; omega⟩⟩ (by omega)
          · rw [k1, cEQ_neg (by omega)]
            refine hf _ _ ⟨s + 1, by omega, by omega, Or.inl ⟨rfl, fun s' a b => ?_⟩⟩ (by omega)
            by_cases es : s' = s
            · subst es; exact k1
            · exact h1 s' (by omega) b
        · rw [if_neg hb, cEQ_pos (by omega)]
          refine hf _ _ ⟨s + 1, by omega, by omega, Or.inl ⟨rfl, fun s' a b => ?_⟩⟩ (by omega)
          by_cases es : s' = s
          · subst es; exact absurd b hb
          · exact h1 s' (by omega) b
      · rw [cEQ_pos (by omega)]
        exact hf _ _ ⟨s + 1, by omega, by omega, Or.inr ⟨rfl, h1⟩⟩ (by omega)
  rcases hC with ⟨a1, a2⟩ | ⟨a1, a2⟩ <;> rcases hM with ⟨b1, b2⟩ | ⟨b1, b2⟩
  · exact Or.inl ⟨a1, b1, a2⟩
  · exact absurd a2 b2
  · exact absurd b2 a2
  · exact Or.inr ⟨a1, b1⟩
noncomputable def mxF (M : St) (v : Nat) (u : Int) : Nat → Int
  | 0 => 0
  | n + 1 => if v.testBit n = true then max (mxF M v u n) (sP M n u) else mxF M v u n
noncomputable def mnF (M : St) (v : Nat) (u : Int) : Nat → Int
  | 0 => 232792560000000000
  | n + 1 => if v.testBit n = true then min (mnF M v u n) (sP M n u) else mnF M v u n
theorem stf_all {C M : St} (hI : Inv C M) {s : Nat} (hs : s < 6) (h7 : M 7 s = 1) : StfD C M s ∧ C (43 + 3 * s) 2 = M 8 s ∧ (M 9 (5 * s) = 0 ∧ M 10 (5 * s) = 0) := by
  obtain ⟨z1, z2, hz⟩ := hI.2.2.1 s hs
  rcases hz with ⟨k1, k2⟩ | ⟨k1, k2, hd⟩
  · omega
  · exact ⟨hd, k2, z1, z2⟩
theorem sP_20 {C M : St} {s : Nat} (hd : StfD C M s) (h0 : M 9 (5 * s) = 0 ∧ M 10 (5 * s) = 0) {u : Int} (hu : 0 ≤ u ∧ u ≤ 20) : 0 ≤ sP M s u ∧ sP M s u ≤ 9302390697600 := by
  have := sP_bd hd h0 hu.1
  omega
theorem mF_b {C M : St} (hI : Inv C M) {v : Nat} (hA : AT M v) {u : Int} (hu : 0 ≤ u ∧ u ≤ 20) : ∀ n, n ≤ 6 → (0 ≤ mxF M v u n ∧ mxF M v u n ≤ 9302390697600) ∧ (0 ≤ mnF M v u n ∧ mnF M v u n ≤ 232792560000000000) ∧ ((∃ s, s < n ∧ v.testBit s = true) → mnF M v u n ≤ mxF M v u n)
  | 0, _ => ⟨by simp [mxF], by simp [mnF], fun ⟨s, a, _⟩ => by omega⟩
  | n + 1, hn => by
    obtain ⟨a1, a2, a3⟩ := mF_b hI hA hu n (by omega)
    simp only [mxF, mnF]
    by_cases hb : v.testBit n = true
    · obtain ⟨hd, -, h0⟩ := stf_all hI (by omega) (hA n (by omega) hb)
      have := sP_20 hd h0 hu
      rw [if_pos hb, if_pos hb]
      exact ⟨by omega, by omega, fun _ => by omega⟩
    · rw [if_neg hb, if_neg hb]
      refine ⟨a1, a2, fun ⟨s, b1, b2⟩ => a3 ⟨s, ?_, b2⟩⟩
      by_cases e : s = n
      · subst e; exact absurd b2 hb
      · omega
theorem spread_ok {C M : St} (hI : Inv C M) {v : Nat} (hv : v < 64) (hA : AT M v) {u : Int} (hu : 0 ≤ u ∧ u ≤ 20) : pX5_spread C (v : Int) u = some (mxF M v u 6 - mnF M v u 6) := by
  unfold pX5_spread
  refine lo3_spec (fun o => o = some (mxF M v u 6 - mnF M v u 6)) (fun (x y z : Int) => ∃ s : Nat, z = s ∧ s ≤ 6 ∧ x = mnF M v u s ∧ y = mxF M v u s) (fun _ _ z => (6 - z).toNat) ?_ FU _ _ _ ⟨0, rfl, by omega, rfl, rfl⟩ (by have := FU_big; omega)
  rintro f x y z ⟨s, rfl, hs, rfl, rfl⟩ hf
  unfold pX5_spread_10B pX5_spread_58
  by_cases e : s = 6
  · subst e
    rw [cLT_neg (by omega)]
  · have hs6 : s < 6 := by omega
    have hb := mF_b hI hA hu s hs
    have hnext := hf (mnF M v u (s + 1)) (mxF M v u (s + 1)) ((s : Int) + 1) ⟨s + 1, by omega, by omega, rfl, rfl⟩ (by omega)
    have hm1 : mxF M v u (s + 1) = if v.testBit s = true then max (mxF M v u s) (sP M s u) else mxF M v u s := rfl
    have hm2 : mnF M v u (s + 1) = if v.testBit s = true then min (mnF M v u s) (sP M s u) else mnF M v u s := rfl
    rw [hm1, hm2] at hnext
    rw [cLT_pos (by omega), (has_all v hv s hs6).2, bind_some']
    by_cases hq : v.testBit s = true
    · obtain ⟨hd, h8, h0⟩ := stf_all hI hs6 (hA s hs6 hq)
      have := sP_20 hd h0 hu
      rw [if_pos hq] at hnext ⊢
      rw [if_pos hq] at hnext
      rw [cEQ_neg (by omega), ldA_ok (by omega), Int.toNat_natCast, sP_scaled hs6 hd h8 h0 (by omega), bind_some', minL_ok (by omega), bind_some', maxL_ok (by omega), bind_some']
      exact hnext
    · rw [if_neg hq] at hnext ⊢
      rw [if_neg hq] at hnext
      rw [cEQ_pos (by omega)]
      exact hnext
theorem lo6_spec {A A1 A2 A3 A4 A5 ρ : Type} {B : (A → A1 → A2 → A3 → A4 → A5 → Option ρ) → A → A1 → A2 → A3 → A4 → A5 → Option ρ} (Q : Option ρ → Prop) (I : A → A1 → A2 → A3 → A4 → A5 → Prop) (μ : A5 → Nat) (h : ∀ k a b c d e f, I a b c d e f → (∀ a' b' c' d' e' f', I a' b' c' d' e' f' → μ f' < μ f → Q (k a' b' c' d' e' f')) → Q (B k a b c d e f)) : ∀ n a b c d e f, I a b c d e f → μ f < n → Q (lo6 B n a b c d e f)
  | 0, _, _, _, _, _, _, _, hm => by omega
  | n + 1, a, b, c, d, e, f, hI, hm => h (lo6 B n) a b c d e f hI (fun a' b' c' d' e' f' hI' hm' => lo6_spec Q I μ h n a' b' c' d' e' f' hI' (by omega))
