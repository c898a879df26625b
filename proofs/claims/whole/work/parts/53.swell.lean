/-! swell -/
theorem lo3_rel {A A' A'' B B' B'' ρ ρ' : Type} {F : (A → A' → A'' → Option ρ) → A → A' → A'' → Option ρ} {G : (B → B' → B'' → Option ρ') → B → B' → B'' → Option ρ'} (Q : Option ρ → Option ρ' → Prop) (I : A → A' → A'' → B → B' → B'' → Prop) (μ : A → A' → A'' → Nat) (h : ∀ k k' a b c x y z, I a b c x y z → (∀ a' b' c' x' y' z', I a' b' c' x' y' z' → μ a' b' c' < μ a b c → Q (k a' b' c') (k' x' y' z')) → Q (F k a b c) (G k' x y z)) : ∀ n a b c x y z, I a b c x y z → μ a b c < n → Q (lo3 F n a b c) (lo3 G n x y z)
  | 0, _, _, _, _, _, _, _, hm => by omega
  | n + 1, a, b, c, x, y, z, hI, hm => h (lo3 F n) (lo3 G n) a b c x y z hI (fun a' b' c' x' y' z' hI' hm' => lo3_rel Q I μ h n a' b' c' x' y' z' hI' (by omega))
theorem isStf_s {s : Nat} (h : s < 6) : isStf (43 + 3 * s) = true := by
  rcases (show s = 0 ∨ s = 1 ∨ s = 2 ∨ s = 3 ∨ s = 4 ∨ s = 5 by omega) with rfl | rfl | rfl | rfl | rfl | rfl <;> decide
theorem chk_ok {α : Type} {P : Nat → Bool} {q : Nat} {k : Option α} (h : P q = true) : chk P q k = k := by
  unfold chk; rw [if_pos h]
theorem stuffOf_ok {C : St} {q s : Nat} (hs : s < 6) (h : C q 1 = (s : Int)) : pX5_stuffOf C q = some (43 + 3 * s) := by
  unfold pX5_stuffOf
  rw [h, isStuff_t (by omega)]
  simp (disch := omega) only [bind_some', cEQ_neg, ldA_ok, Int.toNat_natCast]
theorem tdiv_1000 {h v : Int} (hh : 0 ≤ h ∧ h ≤ 800) (hv : 0 ≤ v ∧ v ≤ 99) : 0 ≤ (h * v).tdiv 1000 ∧ (h * v).tdiv 1000 ≤ 80 ∧ 0 ≤ h * v ∧ h * v ≤ 79200 := by
  have h1 : 0 ≤ h * v := Int.mul_nonneg hh.1 hv.1
  have h2 : h * v ≤ 800 * 99 := Int.mul_le_mul hh.2 hv.2 hv.1 (by omega)
  rw [Int.tdiv_eq_ediv_of_nonneg h1]
  omega
/-- a rubber seal's stuff, from both sides -/
theorem SealOk.stf {C M : St} (hI : Inv C M) {p : Nat} (hp : p < 4) (hr : 1 ≤ M 18 p) : ∃ s : Nat, s < 6 ∧ M 19 p = (s : Int) ∧ C (61 + p) 1 = (s : Int) ∧ M 7 s = 1 ∧ C (43 + 3 * s) 2 = M 8 s ∧ StfD C M s := by
  obtain ⟨s1, s2, s3, s4, s5, s6, s7, s8⟩ := hI.2.2.2.1 p hp
  rcases s8 with s8 | ⟨a, b, c, d, e⟩
  · omega
  · obtain ⟨e1, e2⟩ := e hr
    obtain ⟨s, hs⟩ := Int.eq_ofNat_of_zero_le s7.1
    have hs6 : s < 6 := by omega
    have e3 : M 19 p = (s : Int) := by omega
    rw [e3, Int.toNat_natCast] at e2
    refine ⟨s, hs6, e3, hs, e2, ?_⟩
    rcases (hI.2.2.1 s hs6).2.2 with h0 | h0
    · omega
    · exact h0.2
theorem e_swell : ca_25 Inv := by
  intro C M hI
  unfold pX5_swell pX6_swell
  refine lo3_rel (agWW Inv) (fun (S : St) (x1 x2 : Int) (S' : St) (y1 y2 : Int) => Inv S S' ∧ x1 = y1 ∧ x2 = y2 ∧ 0 ≤ x2 ∧ x2 ≤ 4) (fun _ _ x2 => (4 - x2).toNat) ?_ FU _ _ _ _ _ _ ⟨hI, rfl, rfl, by omega, by omega⟩ (by have := FU_big; omega)
  rintro k k' S x1 x2 S' y1 y2 ⟨hI, rfl, rfl, h0, h4⟩ hk
  unfold pX5_swell_4B pX6_swell_4B pX5_swell_73 pX6_swell_37 pX6_swollen
  by_cases hlt : x2 < 4
  · obtain ⟨p, rfl⟩ := Int.eq_ofNat_of_zero_le h0
    have hs := hI.2.2.2.1 p (by omega)
    have hkd : (-1 ≤ S (61 + p) 0 ∧ S (61 + p) 0 ≤ 4) ∧ (1 ≤ S (61 + p) 0 ↔ 1 ≤ S' 18 p) ∧ -9 ≤ S' 18 p ∧ S' 18 p ≤ 4 := by
      rcases hs.kind with ⟨k1, k2⟩ | ⟨k1, k2, k3⟩ <;> omega
    have hR := isRubber_ok (M := S') (p := p) (by omega) (by omega)
    have hG := is_ok (C := S) (q := 61 + p) (w := 1) rfl (by omega)
    by_cases hr : 1 ≤ S' 18 p
    · rw [if_pos (by omega)] at hR
      rw [if_neg (by omega), if_pos (by omega)] at hG
      obtain ⟨s, hs6, e1, e2, e3, e4, hd⟩ := SealOk.stf hI (p := p) (by omega) hr
      obtain ⟨d1, d2, d3, d4, d5, d6, d7, d8, d9, d10, d11, d12, d13, d14, d15⟩ := hd
      obtain ⟨s1, s2, s3, s4, s5, s6, s7, s8⟩ := hs
      have hst := stuffOf_ok hs6 e2
      have hch := isStf_s hs6
      have hdv := tdiv_1000 ⟨s2.2.1, s2.2.2⟩ ⟨d13, d14⟩
      have hmn := min_ok (x := 800) (y := S' 21 p + (S' 21 p * S' 13 s).tdiv 1000) (by omega)
      simp (disch := omega) only [cLT_pos, ldA_ok, Nat.one_mul, Int.toNat_natCast, bind_some', cEQ_neg, hR, hG, hst, chk_ok, hch, s2.1, d12, dvI_ok, hmn, setS, ldI_ok, stI_ok, e1]
      generalize hz : (S' 21 p * S' 13 s).tdiv 1000 = z at hdv ⊢
      have key : ∀ v : Int, 0 ≤ v → v ≤ 800 → Inv (put S (61 + p) 3 v) (put S' 21 p v) := by
        intro v v1 v2
        refine Inv_seal hI p (by omega) (fun q a b c => by rw [put_ne c]) (fun p' a b => by rw [put_ne (by omega)]) (fun q a b => by rw [put_ne (by omega)]) (fun q a b p' c d => ?_) ?_ ?_ ?_
        · simp only [put_sw, if_neg (show ¬ (q = 21 ∧ p' = p) from fun z => d z.2)]
        · simp only [SealOk, put_sw]
          have e5 : ¬ (5 = 61 + p) := by omega
          simp [e5]
          exact ⟨s1, ⟨v1, v2⟩, s3, s4, s5, s6, s7, s8⟩
        · simp [put_sw]
        · have e0 : ¬ (0 = 61 + p) := by omega
          simp only [put_sw]
          simp [e0]
          exact hI.told
      by_cases hb : 800 < S' 21 p + z
      · simp (disch := omega) only [cLT_pos, bind_some', ldI_ok, stI_ok, Int.toNat_natCast]
        rw [show min 800 (S' 21 p + z) = 800 by omega, show S' 21 p + (800 - S' 21 p) = 800 by omega]
        exact hk _ _ _ _ _ _ ⟨key 800 (by omega) (by omega), rfl, rfl, by omega, by omega⟩ (by omega)
      · simp (disch := omega) only [cLT_neg, bind_some', ldI_ok, stI_ok, Int.toNat_natCast]
        rw [show min 800 (S' 21 p + z) = S' 21 p + z by omega, show S' 21 p + z - S' 21 p = z by omega]
        exact hk _ _ _ _ _ _ ⟨key _ (by omega) (by omega), rfl, rfl, by omega, by omega⟩ (by omega)
    · rw [if_neg (by omega)] at hR
      rw [if_neg (by omega), if_neg (by omega)] at hG
      simp (disch := omega) only [cLT_pos, ldA_ok, Nat.one_mul, Int.toNat_natCast, bind_some', cEQ_pos, hR, hG, setS]
      exact hk _ _ _ _ _ _ ⟨hI, rfl, rfl, by omega, by omega⟩ (by omega)
  · simp (disch := omega) only [cLT_neg]
    exact ag_same hI
