/-! choose -/
def rbN (M : St) : Nat → Nat
  | 0 => 0
  | n + 1 => if 1 ≤ M 18 n then rbN M n + 1 else rbN M n
theorem rbN_le {M : St} : ∀ n, rbN M n ≤ n
  | 0 => Nat.le_refl 0
  | n + 1 => by
    have := rbN_le (M := M) n
    simp only [rbN]
    split <;> omega
theorem pow_b {z n : Nat} (hz : z ≤ 6) (hn : n ≤ 4) : z ^ n ≤ 1296 := by
  have h1 : z ^ n ≤ 6 ^ n := Nat.pow_le_pow_left hz n
  have h2 : 6 ^ n ≤ 6 ^ 4 := Nat.pow_le_pow_right (by decide) hn
  have h3 : (6 ^ 4 : Nat) = 1296 := by decide
  omega
theorem waysOf_ok {C M S : St} (hI : Inv C M) (h18 : S 18 = M 18) {v z : Nat} (hv : v < 64) (hz : z = cnt v 6) : pX6_waysOf S (v : Int) = some ((z ^ rbN M 4 : Nat) : Int) := by
  have hbits : pX6_bits (v : Int) = some (z : Int) := by rw [(bits_all v hv).2.1, (cnt_bc v hv).1, hz]
  unfold pX6_waysOf
  refine lo2_spec (fun o => o = some ((z ^ rbN M 4 : Nat) : Int)) (fun (x y : Int) => ∃ p : Nat, y = p ∧ p ≤ 4 ∧ x = ((z ^ rbN M p : Nat) : Int)) (fun _ y => (4 - y).toNat) ?_ FU 1 0 ⟨0, rfl, by omega, rfl⟩ (by have := FU_big; omega)
  rintro f x y ⟨p, rfl, hp, rfl⟩ hf
  unfold pX6_waysOf_4B pX6_waysOf_26
  by_cases e : p = 4
  · subst e
    rw [cLT_neg (by omega)]
  · have hp4 : p < 4 := by omega
    have hkd := (hI.2.2.2.1 p hp4).kind
    have hR := isRubber_ok (M := S) (p := p) hp4 (by rw [h18]; omega)
    have hrb : rbN M (p + 1) = if 1 ≤ M 18 p then rbN M p + 1 else rbN M p := rfl
    rw [cLT_pos (by omega), hR, bind_some', h18]
    simp only [setS]
    by_cases hr : 1 ≤ M 18 p
    · rw [if_pos hr] at hrb
      rw [if_pos (by omega), cEQ_neg (by omega), hbits, bind_some', ← Int.natCast_mul]
      exact hf _ _ ⟨p + 1, by omega, by omega, by rw [hrb, Nat.pow_succ]⟩ (by omega)
    · rw [if_neg hr] at hrb
      rw [if_neg (by omega), cEQ_pos (by omega), Int.mul_one]
      exact hf _ _ ⟨p + 1, by omega, by omega, by rw [hrb]⟩ (by omega)
theorem ckind_rb {C M : St} (hI : Inv C M) {C' : St} (hC : ∀ q, 61 ≤ q → C' q = C q) : pX5_countOfKind C' 1 = some ((rbN M 4 : Nat) : Int) := by
  have hk : ∀ p, p < 4 → C' (61 + p) 0 = C (61 + p) 0 ∧ -1 ≤ C (61 + p) 0 ∧ C (61 + p) 0 ≤ 4 := fun p hp => by
    have := (hI.2.2.2.1 p hp).kind
    rw [hC _ (by omega)]
    omega
  rw [ckind (kd := fun p => C (61 + p) 0) (w := 1) hk (by omega)]
  have hv : ∀ n, n ≤ 4 → sm (fun p => b01 (1 ≤ C (61 + p) 0)) n = ((rbN M n : Nat) : Int) := fun n => by
    induction n with
    | zero => intro _; rfl
    | succ n ih =>
      intro hn
      have := (hI.2.2.2.1 n (by omega)).kind
      simp only [sm, rbN]
      rw [ih (by omega)]
      unfold b01
      by_cases hr : 1 ≤ M 18 n
      · rw [if_pos (by omega), if_pos hr]; omega
      · rw [if_neg (by omega), if_neg hr]; omega
  rw [hv 4 (by omega)]
theorem pow_loop {S : St} {t : Int} {q z n : Nat} (hn : n ≤ 4) : lo2 (pX5_choose_134B S t q (z : Int)) FU 1 (n : Int) = cLT t ((z ^ n : Nat) : Int) (some (-6, S)) (bnd (pX5_cheapest S ((z ^ n : Nat) : Int) (z : Int) q) (fun z12_ S13_ => some (z12_, S13_))) := by
  refine lo2_spec (fun o => o = cLT t ((z ^ n : Nat) : Int) (some (-6, S)) (bnd (pX5_cheapest S ((z ^ n : Nat) : Int) (z : Int) q) (fun z12_ S13_ => some (z12_, S13_)))) (fun (x y : Int) => ∃ j : Nat, j ≤ n ∧ y = (n : Int) - j ∧ x = ((z ^ j : Nat) : Int)) (fun _ y => y.toNat) ?_ FU 1 (n : Int) ⟨0, by omega, by omega, rfl⟩ (by have := FU_big; omega)
  rintro f x y ⟨j, hj, rfl, rfl⟩ hf
  unfold pX5_choose_134B
  by_cases e : j = n
  · subst e
    rw [cLT_neg (x := 0) (by omega)]
  · rw [cLT_pos (x := 0) (by omega)]
    simp only [setS]
    rw [← Int.natCast_mul]
    exact hf _ _ ⟨j + 1, by omega, by omega, by rw [Nat.pow_succ]⟩ (by omega)
theorem pricesC {C M : St} (hI : Inv C M) {r v : Nat} (hr : r < 6) (h6 : M 2 r = 6) {t : Int} : (PG M r ∧ lo1 (pX5_choose_80B C (v : Int) t (23 + 2 * r)) FU 0 = bnd (pX5_listMembers C (v : Int)) (fun z9_ S10_ => (pX5_countOfKind S10_ 1).bind (fun z11_ => lo2 (pX5_choose_134B S10_ t (23 + 2 * r) z9_) FU 1 z11_))) ∨ (¬ PG M r ∧ lo1 (pX5_choose_80B C (v : Int) t (23 + 2 * r)) FU 0 = some (-3, fdC C 3)) := by
  obtain ⟨i1, i2, i3, i4⟩ := hI.1 r hr
  have hrl := rlen_row (r := r) hr
  refine lo1_spec (fun o => (PG M r ∧ o = bnd (pX5_listMembers C (v : Int)) (fun z9_ S10_ => (pX5_countOfKind S10_ 1).bind (fun z11_ => lo2 (pX5_choose_134B S10_ t (23 + 2 * r) z9_) FU 1 z11_))) ∨ (¬ PG M r ∧ o = some (-3, fdC C 3))) (fun (y : Int) => ∃ s : Nat, y = s ∧ s ≤ 6 ∧ ∀ s', s' < s → 0 ≤ M 3 (40 * r + s') ∧ M 3 (40 * r + s') ≤ 999) (fun y => (6 - y).toNat) ?_ FU 0 ⟨0, rfl, by omega, fun s' a => by omega⟩ (by have := FU_big; omega)
  rintro f y ⟨s, rfl, hs, h1⟩ hf
  unfold pX5_choose_80B
  by_cases e : s = 6
  · subst e
    rw [cLT_neg (by omega)]
    exact Or.inl ⟨h1, rfl⟩
  · have hs6 : s < 6 := by omega
    obtain ⟨c1, c2, c3⟩ := i4 s (by omega)
    rw [cLT_pos (by omega), hrl, ldI_ok (by omega), Int.toNat_natCast, c1]
    by_cases hg : 0 ≤ M 3 (40 * r + s) ∧ M 3 (40 * r + s) ≤ 999
    · rw [within_t (by omega), bind_some', cEQ_neg (by omega)]
      simp only [setS]
      refine hf _ ⟨s + 1, by omega, by omega, fun s' a => ?_⟩ (by omega)
      by_cases es : s' = s
      · subst es; exact hg
      · exact h1 s' (by omega)
    · rw [within_f (by omega), bind_some', cEQ_pos (by omega), found3, bnd_some]
      exact Or.inr ⟨fun h => hg (h s hs6), rfl⟩
theorem pricesM {C M : St} (hI : Inv C M) {r v : Nat} (hr : r < 6) (h6 : M 2 r = 6) {t : Int} : (PG M r ∧ lo2 (pX6_needChoice_76B M (v : Int) (r : Int) t) FU 1 0 = (pX6_waysOf M (v : Int)).bind (fun z9_ => cLT t z9_ (some (-6, M)) (some (0, M)))) ∨ (¬ PG M r ∧ lo2 (pX6_needChoice_76B M (v : Int) (r : Int) t) FU 1 0 = some (-3, fdM M 3)) := by
  obtain ⟨i1, i2, i3, i4⟩ := hI.1 r hr
  refine lo2_spec (fun o => (PG M r ∧ o = (pX6_waysOf M (v : Int)).bind (fun z9_ => cLT t z9_ (some (-6, M)) (some (0, M)))) ∨ (¬ PG M r ∧ o = some (-3, fdM M 3))) (fun (x y : Int) => ∃ s : Nat, y = s ∧ s ≤ 6 ∧ ((x = 1 ∧ ∀ s', s' < s → 0 ≤ M 3 (40 * r + s') ∧ M 3 (40 * r + s') ≤ 999) ∨ (x = 0 ∧ ¬ PG M r))) (fun _ y => (6 - y).toNat) ?_ FU 1 0 ⟨0, rfl, by omega, Or.inl ⟨rfl, fun s' a => by omega⟩⟩ (by have := FU_big; omega)
  rintro f x y ⟨s, rfl, hs, h1⟩ hf
  unfold pX6_needChoice_76B pX6_needChoice_109 pX6_needChoice_110 pX6_rowAt
  by_cases e : s = 6
  · subst e
    rw [cLT_neg (by omega)]
    rcases h1 with ⟨rfl, h1⟩ | ⟨rfl, h1⟩
    · rw [cEQ_neg (by omega)]
      exact Or.inl ⟨h1, rfl⟩
    · rw [cEQ_pos (by omega), meets3, bnd_some]
      exact Or.inr ⟨h1, rfl⟩
  · have hs6 : s < 6 := by omega
    obtain ⟨c1, c2, c3⟩ := i4 s (by omega)
    have e40 : ((40 * (r : Int)) + (s : Int)).toNat = 40 * r + s := by omega
    rw [cLT_pos (by omega)]
    simp only [setS]
    rcases h1 with ⟨rfl, h1⟩ | ⟨rfl, h1⟩
    · rw [cEQ_neg (by omega), ldI_ok (by omega), e40, bind_some']
      by_cases hg : 0 ≤ M 3 (40 * r + s) ∧ M 3 (40 * r + s) ≤ 999
      · rw [in_t (by omega), bind_some', cEQ_neg (by omega)]
        refine hf _ _ ⟨s + 1, by omega, by omega, Or.inl ⟨rfl, fun s' a => ?_⟩⟩ (by omega)
        by_cases es : s' = s
        · subst es; exact hg
        · exact h1 s' (by omega)
      · rw [in_f (by omega), bind_some', cEQ_pos (by omega)]
        exact hf _ _ ⟨s + 1, by omega, by omega, Or.inr ⟨rfl, fun h => hg (h s hs6)⟩⟩ (by omega)
    · rw [cEQ_pos (by omega)]
      exact hf _ _ ⟨s + 1, by omega, by omega, Or.inr ⟨rfl, h1⟩⟩ (by omega)
theorem keepStf {C M : St} (hI : Inv C M) {v z r : Nat} (hv : v < 64) (hz : z = cnt v 6) : ∃ M1 : St, lo2 (pX6_choose_20B (v : Int) (r : Int)) FU M 0 = lo4 (pX6_choose_63B (v : Int) (r : Int) ((z ^ rbN M 4 : Nat) : Int)) FU M1 (-9) 0 0 ∧ (∀ q, q ≠ 27 → M1 q = M q) ∧ ∀ p, p < 4 → M1 27 p = M 19 p := by
  refine lo2_spec (fun o => ∃ M1 : St, o = lo4 (pX6_choose_63B (v : Int) (r : Int) ((z ^ rbN M 4 : Nat) : Int)) FU M1 (-9) 0 0 ∧ (∀ q, q ≠ 27 → M1 q = M q) ∧ ∀ p, p < 4 → M1 27 p = M 19 p) (fun (R : St) (y : Int) => ∃ p : Nat, y = p ∧ p ≤ 4 ∧ (∀ q, q ≠ 27 → R q = M q) ∧ ∀ p', p' < p → R 27 p' = M 19 p') (fun _ y => (4 - y).toNat) ?_ FU M 0 ⟨0, rfl, by omega, fun _ _ => rfl, fun p' b => by omega⟩ (by have := FU_big; omega)
  rintro g R y ⟨p, rfl, hp, r1, r2⟩ hf
  unfold pX6_choose_20B
  by_cases e : p = 4
  · subst e
    rw [cLT_neg (by omega), waysOf_ok hI (r1 18 (by decide)) hv hz, bind_some']
    exact ⟨R, rfl, r1, r2⟩
  · rw [cLT_pos (by omega), ldI_ok (by omega), Int.toNat_natCast, stI_ok (by omega), Int.toNat_natCast, r1 19 (by decide)]
    simp only [setS]
    refine hf _ _ ⟨p + 1, by omega, by omega, fun q c => by rw [put_ne c, r1 q c], fun p' c => ?_⟩ (by omega)
    by_cases ep : p' = p
    · subst ep; rw [put_at]
    · rw [put_j ep, r2 p' (by omega)]
theorem ag_bnd {C M : Option (Int × St)} (h : agWW Inv C M) : agWW Inv (bnd C (fun z S => some (z, S))) M := by
  obtain ⟨v, C', M', e1, e2, e3⟩ := h
  rw [e1, bnd_some]
  exact ⟨v, C', M', rfl, e2, e3⟩
theorem e_choose : ca_35 Inv := by
  intro C M x1 x2 x3 hI hx1 hx2 hx3
  unfold in32 at hx1 hx2 hx3
  unfold pX5_choose pX6_choose pX6_needChoice pX5_isSet pX5_choose_55 pX6_needChoice_47
  by_cases h1 : 1 ≤ x1 ∧ x1 ≤ 63
  · rw [within_t (x := x1) (by omega), in_t (x := x1) (by omega), bind_some', isB_ok (by omega), bind_some', bind_some', cEQ_neg (by omega), cEQ_neg (x := x1) (by omega), cEQ_neg (x := 1) (y := 0) (by omega)]
    by_cases h2 : 0 ≤ x2 ∧ x2 ≤ 5
    · rw [isRow_t h2, isRowM_t h2, bind_some', bind_some', cEQ_neg (x := 1) (y := 0) (by omega), cEQ_neg (x := 1) (y := 0) (by omega)]
      by_cases h3 : 0 ≤ x3 ∧ x3 ≤ 1296
      · rw [within_t (by omega), in_t (by omega), bind_some', bind_some', cEQ_neg (x := 1) (y := 0) (by omega), cEQ_neg (x := 1) (y := 0) (by omega)]
        obtain ⟨v, rfl⟩ := Int.eq_ofNat_of_zero_le (show 0 ≤ x1 by omega)
        obtain ⟨r, rfl⟩ := Int.eq_ofNat_of_zero_le h2.1
        have hv : v < 64 := by omega
        have hr : r < 6 := by omega
        obtain ⟨i1, i2, i3, i4⟩ := hI.1 r hr
        rw [ldA_ok (by omega), Int.toNat_natCast]
        rcases lacks_ok hI hv with ⟨c1, c2, hA⟩ | ⟨c1, c2⟩
        · rw [c1, c2, bind_some', bind_some', cEQ_pos (x := 0) (y := 0) (by omega), cEQ_neg (x := 1) (y := 0) (by omega), ldI_ok (by omega), Int.toNat_natCast]
          unfold pX1_isMissing
          rw [i1]
          by_cases hm : M 2 r < 0
          · rw [cLT_pos (by omega), cLT_pos (by omega), bind_some', cEQ_neg (by omega), found1, meets1]
            simp (disch := omega) only [bnd_some, cLT_pos]
            exact ag_fd hI (by decide)
          · rw [cLT_neg (by omega), cLT_neg (by omega), bind_some', cEQ_pos (x := 0) (y := 0) (by omega), ldI_ok (by omega), Int.toNat_natCast]
            by_cases h6 : M 2 r = 6
            · rw [cEQ_pos (x := M 2 r) (y := 6) (by omega), cEQ_pos (x := M 2 r) (y := 6) (by omega)]
              rcases pricesC hI hr h6 (v := v) (t := x3) with ⟨g1, g2⟩ | ⟨g1, g2⟩
              · rcases pricesM hI hr h6 (v := v) (t := x3) with ⟨-, g4⟩ | ⟨g3, -⟩
                · obtain ⟨k1, k2, k3⟩ := cnt_bc v hv
                  have hz1 : 1 ≤ cnt v 6 := k3 (by omega)
                  obtain ⟨C', l1, l2, l3⟩ := listM_ok (C := C) hv
                  have hrn := rbN_le (M := M) 4
                  have hpw := pow_b (z := cnt v 6) (n := rbN M 4) k2 hrn
                  rw [g2, g4, l1, bnd_some, ckind_rb hI (fun q a => l2 q (by omega)), bind_some', pow_loop hrn, waysOf_ok hI rfl hv rfl, bind_some']
                  by_cases hsp : x3 < ((cnt v 6 ^ rbN M 4 : Nat) : Int)
                  · rw [cLT_pos (x := x3) (by omega), cLT_pos (x := x3) (by omega)]
                    simp (disch := omega) only [bnd_some, cLT_pos]
                    exact ⟨_, _, _, rfl, rfl, Inv_ch hI (fun q a => l2 q (by omega)) (fun _ _ => rfl) (fun _ _ _ _ => rfl) (fun _ _ => rfl)⟩
                  · rw [cLT_neg (x := x3) (by omega), cLT_neg (x := x3) (by omega), bnd_some, cLT_neg (by omega)]
                    have hI' : Inv C' M := Inv_ch hI (fun q a => l2 q (by omega)) (fun _ _ => rfl) (fun _ _ _ _ => rfl) (fun _ _ => rfl)
                    obtain ⟨T, e1, t1, t2, -⟩ := layOut_ok hI'
                    obtain ⟨M1, n1, n2, n3⟩ := keepStf hI (r := r) hv (z := cnt v 6) rfl
                    unfold pX5_cheapest
                    rw [e1, bind_some', n1]
                    exact ag_bnd (cheap_loop hI l2 t1 t2 hr hv rfl hz1 hA g1 h6 l3 hpw (fun q _ a => n2 q a) n3 (fun j => by rw [n2 0 (by decide)]))
                · exact absurd g1 g3
              · rcases pricesM hI hr h6 (v := v) (t := x3) with ⟨g3, -⟩ | ⟨-, g4⟩
                · exact absurd g3 g1
                · rw [g2, g4]
                  simp (disch := omega) only [bnd_some, cLT_pos]
                  exact ag_fd hI (by decide)
            · rw [cEQ_neg (x := M 2 r) (y := 6) (by omega), cEQ_neg (x := M 2 r) (y := 6) (by omega), found5, meets5]
              simp (disch := omega) only [bnd_some, cLT_pos]
              exact ag_fd hI (by decide)
        · rw [c1, c2, bind_some', bind_some', cEQ_neg (x := 1) (y := 0) (by omega), cEQ_pos (x := 0) (y := 0) (by omega), found1, meets1]
          simp (disch := omega) only [bnd_some, cLT_pos]
          exact ag_fd hI (by decide)
      · rw [within_f (by omega), in_f (by omega), bind_some', bind_some', cEQ_pos (x := 0) (y := 0) (by omega), cEQ_pos (x := 0) (y := 0) (by omega)]
        simp (disch := omega) only [bnd_some, cLT_pos]
        exact ag_same hI
    · rw [isRow_f (by omega), isRowM_f (by omega), bind_some', bind_some', cEQ_pos (x := 0) (y := 0) (by omega), cEQ_pos (x := 0) (y := 0) (by omega)]
      simp (disch := omega) only [bnd_some, cLT_pos]
      exact ag_same hI
  · rw [in_f (x := x1) (by omega), bind_some', cEQ_pos (x := 0) (y := 0) (by omega)]
    simp (disch := omega) only [bnd_some, cLT_pos]
    by_cases h0 : x1 = 0
    · rw [within_t (x := x1) (by omega), bind_some', isB_ok (by omega), bind_some', cEQ_neg (by omega), cEQ_pos (x := x1) (by omega)]
      exact ag_same hI
    · rw [within_f (x := x1) (by omega), bind_some', isB_ok (by omega), bind_some', cEQ_pos (by omega)]
      exact ag_same hI
