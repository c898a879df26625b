/-! sure, ends -/
theorem areEndsC {x y : Int} (hx : -2147483648 ≤ x ∧ x ≤ 2147483647) (hy : -2147483648 ≤ y ∧ y ≤ 2147483647) : pX5_areEnds x y = some (if (0 ≤ x ∧ x ≤ 20) ∧ (0 ≤ y ∧ y ≤ 999) then 1 else 0) := by
  unfold pX5_areEnds
  rw [within_ok (by omega), bind_some', within_ok (by omega), bind_some']
  by_cases h1 : 0 ≤ x ∧ x ≤ 20
  · rw [if_pos h1, cEQ_neg (by omega)]
    by_cases h2 : 0 ≤ y ∧ y ≤ 999
    · rw [if_pos h2, cEQ_neg (by omega), if_pos ⟨h1, h2⟩]
    · rw [if_neg h2, cEQ_pos (by omega), if_neg (fun e => h2 e.2)]
  · rw [if_neg h1, cEQ_pos (by omega), if_neg (fun e => h1 e.1)]
theorem areEndsM {x y : Int} (hx : -2147483648 ≤ x ∧ x ≤ 2147483647) (hy : -2147483648 ≤ y ∧ y ≤ 2147483647) : pX6_areEnds x y = some (if (0 ≤ x ∧ x ≤ 20) ∧ (0 ≤ y ∧ y ≤ 999) then 1 else 0) := by
  unfold pX6_areEnds
  rw [in_ok (by omega), bind_some', in_ok (by omega), bind_some']
  by_cases h1 : 0 ≤ x ∧ x ≤ 20
  · rw [if_pos h1, cEQ_neg (by omega)]
    by_cases h2 : 0 ≤ y ∧ y ≤ 999
    · rw [if_pos h2, cEQ_neg (by omega), if_pos ⟨h1, h2⟩]
    · rw [if_neg h2, cEQ_pos (by omega), if_neg (fun e => h2 e.2)]
  · rw [if_neg h1, cEQ_pos (by omega), if_neg (fun e => h1 e.1)]
theorem keepAll_ok {M : St} : ∃ M1 : St, pX6_keepAll M = some M1 ∧ KM M M1 ∧ M1 21 = M 21 ∧ (∀ q, q ≠ 0 → q ≠ 26 → M1 q = M q) ∧ ∀ j, j ≠ 46 → M1 0 j = M 0 j := by
  unfold pX6_keepAll
  refine lo2_spec (fun o => ∃ M1 : St, o = some M1 ∧ KM M M1 ∧ M1 21 = M 21 ∧ (∀ q, q ≠ 0 → q ≠ 26 → M1 q = M q) ∧ ∀ j, j ≠ 46 → M1 0 j = M 0 j) (fun (R : St) (y : Int) => ∃ p : Nat, y = p ∧ p ≤ 4 ∧ (∀ q, q ≠ 26 → R q = M q) ∧ ∀ p', p' < p → R 26 p' = M 21 p') (fun _ y => (4 - y).toNat) ?_ FU M 0 ⟨0, rfl, by omega, fun _ _ => rfl, fun p' b => by omega⟩ (by have := FU_big; omega)
  rintro g R y ⟨p, rfl, hp, r1, r2⟩ hf
  unfold pX6_keepAll_2B
  by_cases e : p = 4
  · subst e
    rw [cLT_neg (by omega)]
    simp only [setS]
    have c0 := r1 0 (by decide)
    exact ⟨_, rfl, ⟨fun q a b c => by rw [put_ne a, r1 q c], fun p a => by rw [put_ne (by decide), r2 p a], by rw [put_at, c0], fun j a => by rw [put_j (by omega), c0]⟩, by rw [put_ne (by decide), r1 21 (by decide)], fun q a b => by rw [put_ne a, r1 q b], fun j a => by rw [put_j a, c0]⟩
  · rw [cLT_pos (by omega), ldI_ok (by omega), Int.toNat_natCast, stI_ok (by omega), Int.toNat_natCast, r1 21 (by decide)]
    simp only [setS]
    refine hf _ _ ⟨p + 1, by omega, by omega, fun q c => by rw [put_ne c, r1 q c], fun p' c => ?_⟩ (by omega)
    by_cases ep : p' = p
    · subst ep; rw [put_at]
    · rw [put_j ep, r2 p' (by omega)]
def PB (M M2 : St) : Prop := (∀ q, q ≠ 0 → q ≠ 21 → q ≠ 26 → M2 q = M q) ∧ (∀ p, p < 4 → M2 21 p = M 21 p) ∧ ∀ j, j < 24 ∨ (26 ≤ j ∧ j < 38) → M2 0 j = M 0 j
theorem putBack_ok {M S : St} (hK : KM M S) : ∃ M2 : St, pX6_putBack S = some M2 ∧ PB M M2 ∧ (∀ q, q ≠ 0 → q ≠ 21 → M2 q = S q) ∧ ∀ j, j ≠ 34 → M2 0 j = S 0 j := by
  obtain ⟨k1, k2, k3, k4⟩ := hK
  unfold pX6_putBack
  refine lo2_spec (fun o => ∃ M2 : St, o = some M2 ∧ PB M M2 ∧ (∀ q, q ≠ 0 → q ≠ 21 → M2 q = S q) ∧ ∀ j, j ≠ 34 → M2 0 j = S 0 j) (fun (R : St) (y : Int) => ∃ p : Nat, y = p ∧ p ≤ 4 ∧ (∀ q, q ≠ 21 → R q = S q) ∧ ∀ p', p' < p → R 21 p' = M 21 p') (fun _ y => (4 - y).toNat) ?_ FU S 0 ⟨0, rfl, by omega, fun _ _ => rfl, fun p' b => by omega⟩ (by have := FU_big; omega)
  rintro g R y ⟨p, rfl, hp, r1, r2⟩ hf
  unfold pX6_putBack_2B
  by_cases e : p = 4
  · subst e
    rw [cLT_neg (by omega)]
    simp only [setS]
    have c0 := r1 0 (by decide)
    refine ⟨_, rfl, ⟨fun q a b c => by rw [put_ne a, r1 q b, k1 q a b c], fun p a => by rw [put_ne (by decide), r2 p a], fun j a => ?_⟩, fun q a b => by rw [put_ne a, r1 q b], fun j a => by rw [put_j a, c0]⟩
    by_cases ej : j = 34
    · subst ej; rw [put_at, c0, k3]
    · rw [put_j ej, c0, k4 j (by omega)]
  · rw [cLT_pos (by omega), ldI_ok (by omega), Int.toNat_natCast, stI_ok (by omega), Int.toNat_natCast, r1 26 (by decide), k2 p (by omega)]
    simp only [setS]
    refine hf _ _ ⟨p + 1, by omega, by omega, fun q c => by rw [put_ne c, r1 q c], fun p' c => ?_⟩ (by omega)
    by_cases ep : p' = p
    · subst ep; rw [put_at]
    · rw [put_j ep, r2 p' (by omega)]
theorem Inv_pb {C M C' M2 : St} (hI : Inv C M) (hc : ∀ q, q < 13 ∨ 20 < q → C' q = C q) (h : PB M M2) : Inv C' M2 := by
  refine Inv_free hI (fun q _ a => hc q a) (fun p hp j _ => by rw [hc (61 + p) (by omega)]) (fun p hp => ?_) (fun q a b c => h.1 q a b (by omega)) h.2.2
  have := (hI.2.2.2.1 p hp).2.1
  rw [hc (61 + p) (by omega), h.2.1 p hp]
  exact this
theorem KM.fm {M S S' : St} (h : KM M S) (hf : FM S S') : KM M S' := by
  obtain ⟨k1, k2, k3, k4⟩ := h
  exact ⟨fun q a b c => by rw [hf.1 q a, k1 q a b c], fun p a => by rw [hf.1 26 (by decide), k2 p a], by rw [hf.2 46 (by omega), k3], fun j a => by rw [hf.2 j (by omega), k4 j a]⟩
theorem lo43_rel {A A1 A2 A3 B B1 B2 ρ ρ' : Type} {F : (A → A1 → A2 → A3 → Option ρ) → A → A1 → A2 → A3 → Option ρ} {G : (B → B1 → B2 → Option ρ') → B → B1 → B2 → Option ρ'} (Q : Option ρ → Option ρ' → Prop) (I : A → A1 → A2 → A3 → B → B1 → B2 → Prop) (μ : B2 → Nat) (h : ∀ k k' a a1 a2 a3 b b1 b2, I a a1 a2 a3 b b1 b2 → (∀ a' a1' a2' a3' b' b1' b2', I a' a1' a2' a3' b' b1' b2' → μ b2' < μ b2 → Q (k a' a1' a2' a3') (k' b' b1' b2')) → Q (F k a a1 a2 a3) (G k' b b1 b2)) : ∀ n a a1 a2 a3 b b1 b2, I a a1 a2 a3 b b1 b2 → μ b2 < n → Q (lo4 F n a a1 a2 a3) (lo3 G n b b1 b2)
  | 0, _, _, _, _, _, _, _, _, hm => by omega
  | n + 1, a, a1, a2, a3, b, b1, b2, hI, hm => h (lo4 F n) (lo3 G n) a a1 a2 a3 b b1 b2 hI (fun a' a1' a2' a3' b' b1' b2' hI' hm' => lo43_rel Q I μ h n a' a1' a2' a3' b' b1' b2' hI' (by omega))
theorem lo44_rel {A A1 A2 A3 B B1 B2 B3 ρ ρ' : Type} {F : (A → A1 → A2 → A3 → Option ρ) → A → A1 → A2 → A3 → Option ρ} {G : (B → B1 → B2 → B3 → Option ρ') → B → B1 → B2 → B3 → Option ρ'} (Q : Option ρ → Option ρ' → Prop) (I : A → A1 → A2 → A3 → B → B1 → B2 → B3 → Prop) (μ : B3 → Nat) (h : ∀ k k' a a1 a2 a3 b b1 b2 b3, I a a1 a2 a3 b b1 b2 b3 → (∀ a' a1' a2' a3' b' b1' b2' b3', I a' a1' a2' a3' b' b1' b2' b3' → μ b3' < μ b3 → Q (k a' a1' a2' a3') (k' b' b1' b2' b3')) → Q (F k a a1 a2 a3) (G k' b b1 b2 b3)) : ∀ n a a1 a2 a3 b b1 b2 b3, I a a1 a2 a3 b b1 b2 b3 → μ b3 < n → Q (lo4 F n a a1 a2 a3) (lo4 G n b b1 b2 b3)
  | 0, _, _, _, _, _, _, _, _, _, hm => by omega
  | n + 1, a, a1, a2, a3, b, b1, b2, b3, hI, hm => h (lo4 F n) (lo4 G n) a a1 a2 a3 b b1 b2 b3 hI (fun a' a1' a2' a3' b' b1' b2' b3' hI' hm' => lo44_rel Q I μ h n a' a1' a2' a3' b' b1' b2' b3' hI' (by omega))
theorem e_sure : ca_29 Inv := by
  intro C M x1 x2 hI hx1 hx2
  unfold in32 at hx1 hx2
  unfold pX5_sure pX6_sure
  rw [areEndsC hx1 hx2, areEndsM hx1 hx2, bind_some', bind_some']
  by_cases hE : (0 ≤ x1 ∧ x1 ≤ 20) ∧ (0 ≤ x2 ∧ x2 ≤ 999)
  · rw [if_pos hE, cEQ_neg (by omega), cEQ_neg (by omega)]
    obtain ⟨M1, e1, hK, -⟩ := keepAll_ok (M := M)
    rw [e1, bind_some']
    refine lo43_rel (agWW Inv) (fun (S : St) (x3 x4 x5 : Int) (S' : St) (sh y : Int) => ∃ w n : Nat, x5 = w ∧ y = w ∧ w ≤ 32 ∧ sh = n ∧ n ≤ w ∧ x3 = (if n < w then 1 else 0) ∧ x4 = (if 0 < n then 1 else 0) ∧ (∀ q, q < 13 ∨ 20 < q → S q = C q) ∧ KM M S') (fun y => (32 - y).toNat) ?_ FU C 0 0 0 M1 0 0 ⟨0, 0, rfl, rfl, by omega, rfl, by omega, rfl, rfl, fun _ _ => rfl, hK⟩ (by have := FU_big; omega)
    rintro f g S x3 x4 x5 S' sh y ⟨w, n, rfl, rfl, hw, rfl, hn, rfl, rfl, hS, hK'⟩ hf
    unfold pX5_sure_18B pX5_sure_51 pX6_sure_19B pX6_sure_47
    by_cases e : w = 32
    · subst e
      obtain ⟨M2, p1, p2, -⟩ := putBack_ok hK'
      have hfin := Inv_pb hI hS p2
      rw [cLT_neg (x := ((32 : Nat) : Int)) (y := 32) (by omega), cLT_neg (x := ((32 : Nat) : Int)) (y := 32) (by omega), p1, bind_some']
      by_cases h32 : n = 32
      · subst h32
        rw [if_neg (by omega), cEQ_pos (by omega), cEQ_pos (by omega)]
        exact ⟨_, _, _, rfl, rfl, hfin⟩
      · rw [if_pos (by omega), cEQ_neg (by omega), cEQ_neg (x := (n : Int)) (y := 32) (by omega)]
        by_cases h0 : n = 0
        · subst h0
          rw [if_neg (by omega), cEQ_pos (by omega), cLT_neg (by omega)]
          exact ⟨_, _, _, rfl, rfl, hfin⟩
        · rw [if_pos (by omega), cEQ_neg (by omega), cLT_pos (by omega)]
          exact ⟨_, _, _, rfl, rfl, hfin⟩
    · have hIS : Inv S M := hI.trial hS (fun _ _ _ => rfl) (fun _ _ => rfl)
      obtain ⟨R, a1, a2, a3⟩ := atEnd_ok hIS (v := w) (by omega) hE.1 hE.2
      obtain ⟨M2, b1, b2, b3, b4, b5⟩ := layEnd_ok hI hK' (v := w) (by omega) (a := x1) hE.2
      have hTM := a3 M2 b2 b3 b4
      obtain ⟨v, T', M3, s1, s2, s3, s4, s5, s6, -⟩ := open_ok hTM
      have hS' : ∀ q, q < 13 ∨ 20 < q → T' q = C q := fun q c => by rw [s5.1 q (by omega) (by omega) (by omega), a2 q (by omega), hS q c]
      rw [cLT_pos (x := (w : Int)) (y := 32) (by omega), cLT_pos (x := (w : Int)) (y := 32) (by omega), a1, b1, bind_some', s1, bind_some', bind_some', s2, bind_some', s3, bnd_some]
      simp only [setS]
      by_cases hv : v = 0
      · subst hv
        rw [cEQ_pos (x := ((0 : Nat) : Int)) (y := 0) (by omega), cEQ_pos (x := ((0 : Nat) : Int)) (y := 0) (by omega)]
        have hif : (if n < w then (1 : Int) else 0) = if n + 1 < w + 1 then 1 else 0 := by
          by_cases q : n < w
          · rw [if_pos q, if_pos (by omega)]
          · rw [if_neg q, if_neg (by omega)]
        exact hf _ _ _ _ _ _ _ ⟨w + 1, n + 1, by omega, by omega, by omega, by omega, by omega, hif, by rw [if_pos (by omega)], hS', b2.fm s6⟩ (by omega)
      · rw [cEQ_neg (x := (v : Int)) (y := 0) (by omega), cEQ_neg (x := (v : Int)) (y := 0) (by omega)]
        exact hf _ _ _ _ _ _ _ ⟨w + 1, n, by omega, by omega, by omega, by omega, by omega, by rw [if_pos (by omega)], rfl, hS', b2.fm s6⟩ (by omega)
  · rw [if_neg hE, cEQ_pos (by omega), cEQ_pos (by omega)]
    exact ag_same hI
