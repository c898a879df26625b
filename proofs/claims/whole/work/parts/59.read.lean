/-! the reader: fault, stuff -/
theorem lo31_rel {A A' A'' B ρ ρ' : Type} {F : (A → A' → A'' → Option ρ) → A → A' → A'' → Option ρ} {G : (B → Option ρ') → B → Option ρ'} (Q : Option ρ → Option ρ' → Prop) (I : A → A' → A'' → B → Prop) (μ : A → A' → A'' → Nat) (h : ∀ k k' a b c x, I a b c x → (∀ a' b' c' x', I a' b' c' x' → μ a' b' c' < μ a b c → Q (k a' b' c') (k' x')) → Q (F k a b c) (G k' x)) : ∀ n a b c x, I a b c x → μ a b c < n → Q (lo3 F n a b c) (lo1 G n x)
  | 0, _, _, _, _, _, hm => by omega
  | n + 1, a, b, c, x, hI, hm => h (lo3 F n) (lo1 G n) a b c x hI (fun a' b' c' x' hI' hm' => lo31_rel Q I μ h n a' b' c' x' hI' (by omega))
theorem lo21_rel {A A' B ρ ρ' : Type} {F : (A → A' → Option ρ) → A → A' → Option ρ} {G : (B → Option ρ') → B → Option ρ'} (Q : Option ρ → Option ρ' → Prop) (I : A → A' → B → Prop) (μ : A → A' → Nat) (h : ∀ k k' a b x, I a b x → (∀ a' b' x', I a' b' x' → μ a' b' < μ a b → Q (k a' b') (k' x')) → Q (F k a b) (G k' x)) : ∀ n a b x, I a b x → μ a b < n → Q (lo2 F n a b) (lo1 G n x)
  | 0, _, _, _, _, hm => by omega
  | n + 1, a, b, x, hI, hm => h (lo2 F n) (lo1 G n) a b x hI (fun a' b' x' hI' hm' => lo21_rel Q I μ h n a' b' x' hI' (by omega))
theorem isRow_txt {t : Nat} (h : t < 4) : isRow (35 + 2 * t) = true := by
  rcases (show t = 0 ∨ t = 1 ∨ t = 2 ∨ t = 3 by omega) with rfl | rfl | rfl | rfl <;> decide
/-- where both read: text t at the place j -/
def RAt (C M : St) (t : Nat) (j : Int) : Prop := C 7 1 = ((35 + 2 * t : Nat) : Int) + 1 ∧ C 7 2 = j ∧ M 0 22 = j ∧ 0 ≤ j ∧ j ≤ M 5 t ∧ ITxt C M
def byt (M : St) (t : Nat) (j : Int) : Int := if j < M 5 t then M 6 (60 * t + j.toNat) else 0
theorem here_ok {C M : St} {t : Nat} {j : Int} (ht : t < 4) (h : RAt C M t j) : pX0_here C = some (byt M t j) ∧ pX6_byteAt M (t : Int) j = some (byt M t j) ∧ -128 ≤ byt M t j ∧ byt M t j ≤ 127 ∧ (byt M t j ≠ 0 → j < M 5 t) := by
  obtain ⟨h1, h2, h3, h4, h5, h6⟩ := h
  obtain ⟨e1, b1, b2, hc⟩ := h6 t ht
  have hrl := rlen_txt ht
  have hri := isRow_txt ht
  unfold pX0_here pX6_byteAt pX1_has byt
  rw [gtR_ok _ h1 hri, gtR_ok _ h1 hri, h2]
  by_cases hl : j < M 5 t
  · obtain ⟨i, rfl⟩ := Int.eq_ofNat_of_zero_le h4
    obtain ⟨c1, c2, c3⟩ := hc i hl
    have ei : (60 * (t : Int) + (i : Int)).toNat = 60 * t + i := by omega
    rw [if_pos hl]
    simp (disch := omega) only [e1, cLT_neg, cLT_pos, bind_some', cEQ_neg, ldI_ok, hrl, Int.toNat_natCast, c1, ei]
    exact ⟨trivial, trivial, c2, c3, fun _ => hl⟩
  · rw [if_neg hl]
    simp (disch := omega) only [e1, cLT_neg, cLT_pos, bind_some', cEQ_pos, ldI_ok, Int.toNat_natCast]
    exact ⟨trivial, trivial, by decide, by decide, fun h => absurd rfl h⟩
/-- only the place, and the number read, may differ -/
def NumC (C C' : St) : Prop := (∀ q, q ≠ 7 → C' q = C q) ∧ C' 7 1 = C 7 1
def NumM (M M' : St) : Prop := (∀ q, q ≠ 0 → M' q = M q) ∧ ∀ j, j ≠ 22 → j ≠ 23 → M' 0 j = M 0 j
theorem ITxt.num {C M C' M' : St} (h : ITxt C M) (hc : NumC C C') (hm : NumM M M') : ITxt C' M' := h.congr (fun q a b => hc.1 q (by omega)) (hm.1 _ (by decide)) (hm.1 _ (by decide))
theorem number_ok {C M : St} {t m : Nat} {j : Int} (ht : t < 4) (h : RAt C M t j) (hm : m = 2 ∨ m = 3) : ∃ (v : Int) (C' M' : St) (j' : Int), pX0_number C (m : Int) = some (v, C') ∧ pX6_readNumber M (t : Int) (m : Int) = some (if 0 ≤ v then 1 else 0, M') ∧ -1 ≤ v ∧ v < 10 ^ m ∧ (0 ≤ v → M' 0 23 = v) ∧ RAt C' M' t j' ∧ j ≤ j' ∧ NumC C C' ∧ NumM M M' := by
  unfold pX0_number pX6_readNumber
  simp only [setS]
  have hj3 := h.2.2.1
  rw [hj3]
  have hB : M 5 t ≤ 60 := (h.2.2.2.2.2 t ht).2.2.1
  refine lo31_rel (fun (o o' : Option (Int × St)) => ∃ (v : Int) (C' M' : St) (j' : Int), o = some (v, C') ∧ o' = some (if 0 ≤ v then 1 else 0, M') ∧ -1 ≤ v ∧ v < 10 ^ m ∧ (0 ≤ v → M' 0 23 = v) ∧ RAt C' M' t j' ∧ j ≤ j' ∧ NumC C C' ∧ NumM M M') (fun (S : St) (x2 x3 : Int) (S' : St) => ∃ n : Nat, x3 = n ∧ n ≤ m ∧ RAt S S' t (j + n) ∧ NumC C S ∧ NumM M S' ∧ ((n = 0 ∧ x2 = -1 ∧ S' 0 23 = 0) ∨ (1 ≤ n ∧ 0 ≤ x2 ∧ x2 < 10 ^ n ∧ S' 0 23 = x2))) (fun _ _ x3 => ((m : Int) - x3).toNat) ?_ FU C (-1) 0 (put M 0 23 0) ⟨0, rfl, by omega, ?_, ⟨fun _ _ => rfl, rfl⟩, ⟨fun q hq => put_ne hq, fun i h1 h2 => put_j h2⟩, Or.inl ⟨rfl, rfl, put_at⟩⟩ (by have := FU_big; omega)
  · rintro k k' S x2 x3 S' ⟨n, rfl, hn, hR, hC, hM, hv⟩ hk
    obtain ⟨g1, g2, g3, g4, g5⟩ := here_ok ht hR
    have hR3 := hR.2.2.1
    have hR2 := hR.2.1
    have hRl := hR.2.2.2.2.1
    have hR0 := hR.2.2.2.1
    have hj0 := h.2.2.2.1
    have e5 : S' 5 t = M 5 t := by rw [hM.1 5 (by decide)]
    have hx : -1 ≤ x2 ∧ x2 < 10 ^ n ∧ (0 ≤ x2 ↔ 1 ≤ n) := by
      rcases hv with ⟨a, b, -⟩ | ⟨a, b, c, -⟩
      · subst a; subst b; exact ⟨by omega, by decide, by omega⟩
      · exact ⟨by omega, c, by omega⟩
    have hpw : (10 : Int) ^ n ≤ 10 ^ m ∧ (10 : Int) ^ m ≤ 1000 := by
      rcases hm with rfl | rfl
      · rcases (show n = 0 ∨ n = 1 ∨ n = 2 by omega) with rfl | rfl | rfl <;> decide
      · rcases (show n = 0 ∨ n = 1 ∨ n = 2 ∨ n = 3 by omega) with rfl | rfl | rfl | rfl <;> decide
    have done : ∃ (v : Int) (C' M' : St) (j' : Int), some (x2, S) = some (v, C') ∧ pX6_readNumber_76 S' j = some (if 0 ≤ v then 1 else 0, M') ∧ -1 ≤ v ∧ v < 10 ^ m ∧ (0 ≤ v → M' 0 23 = v) ∧ RAt C' M' t j' ∧ j ≤ j' ∧ NumC C C' ∧ NumM M M' := by
      refine ⟨x2, S, S', j + n, rfl, ?_, hx.1, by omega, fun h0 => ?_, hR, by omega, hC, hM⟩
      · unfold pX6_readNumber_76
        rw [hR3]
        by_cases h1 : 1 ≤ n
        · rw [cLT_pos (by omega), if_pos (by omega)]
        · rw [cLT_neg (by omega), if_neg (by omega)]
      · rcases hv with ⟨a, b, -⟩ | ⟨a, b, c, d⟩
        · omega
        · exact d
    unfold pX0_number_4B pX6_readNumber_10B
    rw [hR3, g1, g2]
    simp only [bind_some']
    by_cases hlt : n < m
    · rw [cLT_pos (x := (n : Int)) (y := (m : Int)) (by omega), cLT_pos (x := j + n) (y := j + m) (by omega)]
      by_cases hd : 48 ≤ byt S' t (j + n) ∧ byt S' t (j + n) ≤ 57
      · have hl := g5 (by omega)
        have hmx := max_ok (x := x2) (y := 0) (by omega)
        simp (disch := omega) only [cLT_neg, in_t, bind_some', cEQ_neg, hmx, setS]
        have ex : max x2 0 = S' 0 23 := by
          rcases hv with ⟨a, b, d⟩ | ⟨a, b, c, d⟩ <;> omega
        have hm10 : (10 : Int) ^ (n + 1) = 10 ^ n * 10 := Int.pow_succ 10 n
        have hp1 : 1 ≤ (10 : Int) ^ n := by
          rcases (show n = 0 ∨ n = 1 ∨ n = 2 by omega) with rfl | rfl | rfl <;> decide
        refine hk _ _ _ _ ⟨n + 1, by omega, by omega, ?_, ?_, ?_, Or.inr ⟨by omega, by omega, by omega, ?_⟩⟩ (by omega)
        · obtain ⟨r1, r2, r3, r4, r5, r6⟩ := hR
          refine ⟨by rw [put_j (by decide)]; exact r1, by rw [put_at, r2]; omega, by rw [put_at, put_j (by decide), r3]; omega, by omega, by rw [put_ne (by decide), put_ne (by decide)]; omega, ?_⟩
          exact r6.congr (fun q a b => by rw [put_ne (by omega)]) (by rw [put_ne (by decide), put_ne (by decide)]) (by rw [put_ne (by decide), put_ne (by decide)])
        · exact ⟨fun q hq => by rw [put_ne hq]; exact hC.1 q hq, by rw [put_j (by decide)]; exact hC.2⟩
        · exact ⟨fun q hq => by rw [put_ne hq, put_ne hq]; exact hM.1 q hq, fun i h1 h2 => by rw [put_j h1, put_j h2]; exact hM.2 i h1 h2⟩
        · rw [put_j (by decide), put_at]; omega
      · rw [in_f (by omega)]
        simp (disch := omega) only [bind_some', cEQ_pos]
        by_cases hd2 : byt S' t (j + n) < 48
        · rw [cLT_pos (by omega)]; exact done
        · rw [cLT_neg (by omega), cLT_pos (by omega)]; exact done
    · rw [cLT_neg (x := (n : Int)) (y := (m : Int)) (by omega), cLT_neg (x := j + n) (y := j + m) (by omega)]
      exact done
  · obtain ⟨r1, r2, r3, r4, r5, r6⟩ := h
    refine ⟨r1, by omega, by rw [put_j (by decide)]; omega, by omega, by rw [put_ne (by decide)]; omega, ?_⟩
    exact r6.congr (fun q a b => rfl) (by rw [put_ne (by decide)]) (by rw [put_ne (by decide)])
