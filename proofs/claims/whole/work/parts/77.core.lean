/-! the core, the model's side: does it rest below -/
def act (M : St) (x : Int) (p : Nat) : Prop := 1 ≤ M 18 p ∧ x ≤ tp M p
noncomputable def kA (M : St) (x : Int) (p : Nat) : Nat := lnOf M (sx M p) (tp M p - x)
noncomputable def wA (M : St) (x : Int) (p : Nat) : Int := pW M (sx M p) (kA M x p)
noncomputable def rA (M : St) (x : Int) (p : Nat) : Int := pR M (sx M p) (kA M x p)
noncomputable def nA (M : St) (x : Int) (p : Nat) : Int := pN M (sx M p) (kA M x p) (tp M p - x) 1
noncomputable def pu (M : St) (x c : Int) (p : Nat) : Int := if 1 ≤ M 18 p ∧ x ≤ tp M p then byM M p * (c / wA M x p * nA M x p) else 0
noncomputable def sl (M : St) (x c : Int) (p : Nat) : Int := if 1 ≤ M 18 p ∧ x ≤ tp M p then byM M p * (c / wA M x p * rA M x p) else 0
theorem act_ok {T M S : St} (h : TM T M) (hS : ∀ q, q ≠ 0 → S q = M q) {p : Nat} (hp : p < 4) {x : Int} (hx : -2000 ≤ x ∧ x ≤ 2000) (ha : act M x p) : pX6_lineOf S (sx M p : Int) (tp M p - x) 1 = some (kA M x p : Int) ∧ pX6_run S (sx M p : Int) (kA M x p : Int) = some (wA M x p) ∧ pX6_rise S (sx M p : Int) (kA M x p : Int) = some (rA M x p) ∧ (1 ≤ wA M x p ∧ wA M x p ≤ 20 ∧ 1 ≤ rA M x p ∧ rA M x p ≤ 999) ∧ (kA M x p < 4) ∧ (0 ≤ nA M x p ∧ nA M x p ≤ 3316680) := by
  obtain ⟨a1, a2⟩ := ha
  obtain ⟨-, -, -, k4, -, k6⟩ := h.1 p hp
  obtain ⟨-, r2, r3, -, r5, -, r7⟩ := k6 a1
  have hl := lnOf_ok r5 (tp M p - x)
  have hk : lnOf M (sx M p) (tp M p - x) = kA M x p := rfl
  rw [hk] at hl
  have hw := pW_b r5 r7 hl.1
  have hN := pN_b r5 r7 (show 0 ≤ tp M p - x by omega) (by decide) hl
  have h4 := r5.2.1
  have h1 := hl.1
  have s5 : StfD T S (sx M p) := r5.cg (fun _ _ _ _ => rfl) (fun q a _ => hS q a)
  have hl' : IsLine S (sx M p) (tp M p - x) 1 (kA M x p) := by
    unfold IsLine at hl ⊢
    rw [hS 8 (by decide), hS 9 (by decide)]; exact hl
  have ei : (((5 * (sx M p : Int)) + (kA M x p : Int)) + 1).toNat = 5 * sx M p + (kA M x p + 1) := by omega
  have ei' : ((5 * (sx M p : Int)) + (kA M x p : Int)).toNat = 5 * sx M p + kA M x p := by omega
  refine ⟨lineOf_ok r3 s5 (by rw [hS 9 (by decide), hS 10 (by decide)]; exact r7) (by omega) (by omega) hl', ?_, ?_, hw, by omega, hN.1, ?_⟩
  · unfold pX6_run
    rw [ldI_ok (by omega), ldI_ok (by omega), ei, ei', hS 9 (by decide)]; rfl
  · unfold pX6_rise
    rw [ldI_ok (by omega), ldI_ok (by omega), ei, ei', hS 10 (by decide)]; rfl
  · have := hN.2
    unfold nA
    omega
/-! the common width -/
def Com (M : St) (x : Int) (n : Nat) (c : Int) : Prop := 1 ≤ c ∧ c ≤ ((20 ^ n : Nat) : Int) ∧ ∀ p, p < n → act M x p → wA M x p ∣ c
theorem lcm_step {c w : Nat} (hc : 1 ≤ c) (hw : 1 ≤ w) : c ∣ c / Nat.gcd c w * w ∧ w ∣ c / Nat.gcd c w * w ∧ 1 ≤ c / Nat.gcd c w * w ∧ c / Nat.gcd c w * w ≤ c * w := by
  have hg : 0 < Nat.gcd c w := Nat.gcd_pos_of_pos_right c (by omega)
  have e1 : Nat.gcd c w * (c / Nat.gcd c w) = c := Nat.mul_div_cancel' (Nat.gcd_dvd_left c w)
  have e2 : Nat.gcd c w * (w / Nat.gcd c w) = w := Nat.mul_div_cancel' (Nat.gcd_dvd_right c w)
  refine ⟨⟨w / Nat.gcd c w, ?_⟩, Nat.dvd_mul_left _ _, ?_, Nat.mul_le_mul_right _ (Nat.div_le_self _ _)⟩
  · generalize w / Nat.gcd c w = w' at *
    generalize c / Nat.gcd c w = c' at *
    generalize Nat.gcd c w = g at *
    subst e2
    rw [← e1]; grind
  · have : 0 < c / Nat.gcd c w := Nat.div_pos (Nat.gcd_le_left w (by omega)) hg
    exact Nat.mul_pos this (by omega)
theorem pow20 {p : Nat} (h : p ≤ 4) : ((20 ^ p : Nat) : Int) ≤ 160000 := by
  rcases (show p = 0 ∨ p = 1 ∨ p = 2 ∨ p = 3 ∨ p = 4 by omega) with rfl | rfl | rfl | rfl | rfl <;> decide
theorem rest_com {T M S : St} (h : TM T M) (hS : ∀ q, q ≠ 0 → S q = M q) {x y : Int} (hx : -2000 ≤ x ∧ x ≤ 2000) : ∃ c, Com M x 4 c ∧ pX6_restsBelow S x y = lo3 (pX6_restsBelow_91B S x y c) FU 0 0 0 := by
  have s18 := hS 18 (by decide)
  have s19 := hS 19 (by decide)
  unfold pX6_restsBelow
  refine lo2_spec (fun o => ∃ c, Com M x 4 c ∧ o = lo3 (pX6_restsBelow_91B S x y c) FU 0 0 0) (fun (c z : Int) => ∃ p : Nat, z = p ∧ p ≤ 4 ∧ Com M x p c) (fun _ z => (4 - z).toNat) ?_ FU 1 0 ⟨0, rfl, by omega, by omega, by decide, fun p hp => by omega⟩ (by have := FU_big; omega)
  rintro f c z ⟨p, rfl, hp, c1, c2, c3⟩ hf
  unfold pX6_restsBelow_5B pX6_restsBelow_76
  by_cases e : p = 4
  · subst e
    rw [cLT_neg (by omega)]
    exact ⟨c, ⟨c1, c2, c3⟩, rfl⟩
  · have hp4 : p < 4 := by omega
    obtain ⟨k1, -, -, k4, -, k6⟩ := h.1 p hp4
    have hR := isRubber_ok (M := S) (p := p) hp4 (by rw [s18]; omega)
    have etop := topOf_ok (M := M) (S := S) hp4 (hS 21 (by decide)) (hS 25 (by decide))
    have h20 := pow20 hp
    have e20 : (20 ^ (p + 1) : Nat) = 20 ^ p * 20 := Nat.pow_succ 20 p
    have hsame : ¬ act M x p → ∃ c', Com M x 4 c' ∧ f c ((p : Int) + 1) = lo3 (pX6_restsBelow_91B S x y c') FU 0 0 0 := fun hn => hf c _ ⟨p + 1, by omega, by omega, c1, by rw [e20]; omega, fun p' a b => by
      by_cases ep : p' = p
      · subst ep; exact absurd b hn
      · exact c3 p' (by omega) b⟩ (by omega)
    rw [cLT_pos (by omega), hR, bind_some', s18]
    by_cases hr : 1 ≤ M 18 p
    · rw [if_pos (by omega), cEQ_neg (by omega), etop, bind_some']
      obtain ⟨-, r2, r3, -, r5, -, r7⟩ := k6 hr
      by_cases ht : x ≤ tp M p
      · obtain ⟨a1, a2, a3, a4, a5, a6⟩ := act_ok h hS hp4 hx ⟨hr, ht⟩
        rw [cLT_neg (by omega), ldI_ok (by omega), Int.toNat_natCast, s19, bind_some', wdI_ok (by omega), r2, a1, bind_some', a2, bind_some', wdI_ok (by omega)]
        obtain ⟨n, en⟩ := Int.eq_ofNat_of_zero_le (show 0 ≤ c by omega)
        obtain ⟨w, ew⟩ := Int.eq_ofNat_of_zero_le (show 0 ≤ wA M x p by omega)
        have hl := lcm_step (c := n) (w := w) (by omega) (by omega)
        have hg : 0 < Nat.gcd n w := Nat.gcd_pos_of_pos_right n (by omega)
        have hg2 : Nat.gcd n w ≤ w := Nat.gcd_le_right n (by omega)
        rw [ew] at a4
        rw [en, ew, gcdM_ok (by omega) (by omega), bind_some', dvL_ok (by omega), Int.tdiv_eq_ediv_of_nonneg (by omega), ← Int.natCast_ediv, ← Int.natCast_mul]
        simp only [setS]
        obtain ⟨l1, l2, l3, l4⟩ := hl
        have l5 : n * w ≤ 20 ^ p * 20 := Nat.mul_le_mul (by omega) (by omega)
        refine hf _ _ ⟨p + 1, by omega, by omega, by omega, by rw [e20]; omega, fun p' a b => ?_⟩ (by omega)
        by_cases ep : p' = p
        · subst ep; rw [ew]; exact Int.natCast_dvd_natCast.2 l2
        · have := c3 p' (by omega) b
          rw [en] at this
          exact Int.dvd_trans this (Int.natCast_dvd_natCast.2 l1)
      · rw [cLT_pos (by omega)]
        exact hsame (fun q => by have := q.2; omega)
    · rw [if_neg (by omega), cEQ_pos (by omega)]
      exact hsame (fun q => hr q.1)
