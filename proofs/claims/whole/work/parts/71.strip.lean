/-! strip -/
theorem lo23_rel {A A' B B' B'' ρ ρ' : Type} {F : (A → A' → Option ρ) → A → A' → Option ρ} {G : (B → B' → B'' → Option ρ') → B → B' → B'' → Option ρ'} (Q : Option ρ → Option ρ' → Prop) (I : A → A' → B → B' → B'' → Prop) (μ : A → A' → Nat) (h : ∀ k k' a b x y z, I a b x y z → (∀ a' b' x' y' z', I a' b' x' y' z' → μ a' b' < μ a b → Q (k a' b') (k' x' y' z')) → Q (F k a b) (G k' x y z)) : ∀ n a b x y z, I a b x y z → μ a b < n → Q (lo2 F n a b) (lo3 G n x y z)
  | 0, _, _, _, _, _, _, hm => by omega
  | n + 1, a, b, x, y, z, hI, hm => h (lo2 F n) (lo3 G n) a b x y z hI (fun a' b' x' y' z' hI' hm' => lo23_rel Q I μ h n a' b' x' y' z' hI' (by omega))
theorem shl_six {α : Type} {p : Nat} {k : Int → Option α} (hp : p < 6) : shlI 1 (p : Int) k = k ((2 ^ p : Nat) : Int) := by
  rcases (show p = 0 ∨ p = 1 ∨ p = 2 ∨ p = 3 ∨ p = 4 ∨ p = 5 by omega) with rfl | rfl | rfl | rfl | rfl | rfl <;> rfl
theorem orI_six {α : Type} {a b : Nat} {k : Int → Option α} (ha : a < 64) (hb : b < 64) : orI (a : Int) (b : Int) k = k ((a ||| b : Nat) : Int) := by
  unfold orI; rw [if_pos ⟨by omega, by omega, by omega, by omega⟩]; rfl
theorem or_lt64 {a p : Nat} (ha : a < 64) (hp : p < 6) : a ||| 2 ^ p < 64 := by
  have : (2 : Nat) ^ p < 2 ^ 6 := Nat.pow_lt_pow_right (by decide) hp
  exact Nat.or_lt_two_pow (n := 6) ha this
theorem strip_all {C M : St} {r m : Nat} {tol : Int} (hr : r < 6) (hI : Inv C M) (ht : 0 ≤ tol ∧ tol ≤ 99) (hm : M 2 r = 2 * (m : Int)) (hm2 : m ≤ 20) (hv : ∀ i, i < m → (0 ≤ M 3 (40 * r + 2 * i) ∧ M 3 (40 * r + 2 * i) ≤ 20) ∧ 0 ≤ M 3 (40 * r + (2 * i + 1)) ∧ M 3 (40 * r + (2 * i + 1)) ≤ 9999) : agWW Inv (lo2 (pX5_strip_128B C tol (23 + 2 * r)) FU 0 0) (lo3 (pX6_strip_144B (r : Int) tol) FU M 0 0) := by
  refine lo23_rel (agWW Inv) (fun (a b : Int) (S : St) (x y : Int) => a = x ∧ b = y ∧ (∀ q, q ≠ 0 → S q = M q) ∧ (∀ j, j ≠ 24 → j ≠ 25 → S 0 j = M 0 j) ∧ ∃ n p : Nat, a = n ∧ b = p ∧ n < 64 ∧ p ≤ 6) (fun _ b => (6 - b).toNat) ?_ FU 0 0 M 0 0 ⟨rfl, rfl, fun _ _ => rfl, fun _ _ _ => rfl, 0, 0, rfl, rfl, by omega, by omega⟩ (by have := FU_big; omega)
  rintro k k' a b S x y ⟨rfl, rfl, a1, a2, n, p, rfl, rfl, hn, hp⟩ hk
  unfold pX5_strip_128B pX6_strip_144B pX5_strip_172 pX6_strip_181 pX6_strip_182 pX3_isMissing
  have hJ : Inv C S := hI.scr a1 (fun i hi => a2 i (by omega) (by omega))
  by_cases hlt : p < 6
  · rw [cLT_pos (by omega), cLT_pos (by omega), ldA_ok (by omega), ldA_ok (by omega), ldI_ok (by omega), Int.toNat_natCast]
    have hor0 : ∀ {f : Int → Option (Int × St)}, orI (n : Int) 0 f = f (n : Int) := fun {f} => by
      rw [show (0 : Int) = ((0 : Nat) : Int) from rfl, orI_six hn (by omega), Nat.or_zero]
    have skip := hk n (p + 1) S n (p + 1) ⟨rfl, rfl, a1, a2, n, p + 1, rfl, by omega, hn, by omega⟩ (by omega)
    obtain ⟨z1, z2, z3⟩ := hJ.2.2.1 p hlt
    rcases z3 with ⟨k1, k2⟩ | ⟨k1, k2, hd⟩
    · rw [k2, k1, cEQ_pos (by omega), bind_some', cEQ_neg (by omega), cEQ_pos (by omega), hor0]
      exact skip
    · have hd1 := hd.1
      have hd2 := hd.2.1
      rw [k2, k1, cEQ_neg (by omega), bind_some', cEQ_pos (by omega), cEQ_neg (by omega)]
      have t2 : S 2 = M 2 := a1 2 (by decide)
      have t3 : S 3 = M 3 := a1 3 (by decide)
      obtain ⟨e1, b1, b2, hc⟩ := hI.1 r hr
      obtain ⟨fl, M', i1, i2, i3, i4⟩ := isKept_ok (s := p) (r := r) (m := m) (tol := tol) hlt hr hJ k1 ht (by rw [t2]; exact hm) hm2 (by rw [t3]; exact hv)
      rw [t3] at i4
      have hF := fits_ok (C := C) (M := S) (s := p) (q := 23 + 2 * r) (m := m) (f := fun i => M 3 (40 * r + i)) (tol := tol) hlt hd k2 ⟨z1, z2⟩ ht (by rw [e1]; exact hm) hm2 (rlen_row hr) (fun i hi => (hc i (by omega)).1) hv
      have f1 : ∀ q, q ≠ 0 → M' q = M q := fun q hq => by rw [i2 q hq]; exact a1 q hq
      have f2 : ∀ j, j ≠ 24 → j ≠ 25 → M' 0 j = M 0 j := fun j b c => by rw [i3 j b c]; exact a2 j b c
      have hpw : (2 : Nat) ^ p < 2 ^ 6 := Nat.pow_lt_pow_right (by decide) hlt
      rw [i1]
      simp only [bnd_some]
      rcases hF with ⟨hF, hA⟩ | ⟨hF, hA⟩
      · rcases i4 with ⟨rfl, hB⟩ | ⟨rfl, hB⟩
        · rw [hF, bind_some', cEQ_neg (by omega), cEQ_neg (by omega), shl_six hlt, shl_six hlt, orI_six hn (by omega), orI_six hn (by omega)]
          exact hk _ _ _ _ _ ⟨rfl, rfl, f1, f2, _, p + 1, rfl, by omega, or_lt64 hn hlt, by omega⟩ (by omega)
        · exact absurd hA hB
      · rcases i4 with ⟨rfl, hB⟩ | ⟨rfl, hB⟩
        · exact absurd hB hA
        · rw [hF, bind_some', cEQ_pos (by omega), cEQ_pos (by omega), hor0]
          exact hk _ _ _ _ _ ⟨rfl, rfl, f1, f2, n, p + 1, rfl, by omega, hn, by omega⟩ (by omega)
  · rw [cLT_neg (by omega), cLT_neg (by omega)]
    exact ag_same hJ
