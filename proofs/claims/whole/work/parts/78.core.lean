/-! the core, the model's side: pushes and slope -/
theorem com_div {M : St} {x c : Int} (hc : Com M x 4 c) {p : Nat} (hp : p < 4) (ha : act M x p) (hw : 1 ≤ wA M x p) : c / wA M x p * wA M x p = c ∧ 1 ≤ c / wA M x p ∧ c / wA M x p ≤ 160000 := by
  obtain ⟨c1, c2, c3⟩ := hc
  have e := Int.ediv_mul_cancel (c3 p hp ha)
  have h20 := pow20 (p := 4) (by omega)
  have hl : c / wA M x p ≤ c := Int.ediv_le_self _ (by omega)
  refine ⟨e, ?_, by omega⟩
  rcases Int.lt_or_le 0 (c / wA M x p) with h | h
  · omega
  · have : c / wA M x p * wA M x p ≤ 0 * wA M x p := Int.mul_le_mul_of_nonneg_right h (by omega)
    omega
theorem pu_b {T M : St} (h : TM T M) {x c : Int} (hx : -2000 ≤ x ∧ x ≤ 2000) (hc : Com M x 4 c) {p : Nat} (hp : p < 4) : (0 ≤ pu M x c p ∧ pu M x c p ≤ 14328057600000) ∧ (0 ≤ sl M x c p ∧ sl M x c p ≤ 4315680000) ∧ (act M x p → 1 ≤ sl M x c p) := by
  by_cases ha : act M x p
  · obtain ⟨-, -, -, a4, -, a6⟩ := act_ok h (fun _ _ => rfl) hp hx ha
    have hb := byM_b (h.1 p hp) ha.1
    obtain ⟨d1, d2, d3⟩ := com_div hc hp ha a4.1
    have e1 : pu M x c p = byM M p * (c / wA M x p * nA M x p) := if_pos ha
    have e2 : sl M x c p = byM M p * (c / wA M x p * rA M x p) := if_pos ha
    rw [e1, e2]
    generalize c / wA M x p = q at *
    have m1 : 0 ≤ q * nA M x p := Int.mul_nonneg (by omega) a6.1
    have m2 : q * nA M x p ≤ 160000 * 3316680 := Int.mul_le_mul d3 a6.2 a6.1 (by omega)
    have m3 : 1 * 1 ≤ q * rA M x p := Int.mul_le_mul d2 (by omega) (by omega) (by omega)
    have m4 : q * rA M x p ≤ 160000 * 999 := Int.mul_le_mul d3 (by omega) (by omega) (by omega)
    have n1 : 0 ≤ byM M p * (q * nA M x p) := Int.mul_nonneg (by omega) m1
    have n2 : byM M p * (q * nA M x p) ≤ 27 * (160000 * 3316680) := Int.mul_le_mul hb.2 (by omega) m1 (by omega)
    have n3 : 1 * 1 ≤ byM M p * (q * rA M x p) := Int.mul_le_mul hb.1 (by omega) (by omega) (by omega)
    have n4 : byM M p * (q * rA M x p) ≤ 27 * (160000 * 999) := Int.mul_le_mul hb.2 (by omega) (by omega) (by omega)
    exact ⟨by omega, by omega, fun _ => by omega⟩
  · have e1 : pu M x c p = 0 := if_neg ha
    have e2 : sl M x c p = 0 := if_neg ha
    rw [e1, e2]
    exact ⟨by omega, by omega, fun q => absurd q ha⟩
theorem factor_ok {T M S : St} (h : TM T M) (hS : ∀ q, q ≠ 0 → S q = M q) (h35 : S 0 35 = M 0 35) {p : Nat} (hp : p < 4) (hr : 1 ≤ M 18 p) : pX6_factor S (sx M p : Int) = some (fac M (sx M p)) := by
  obtain ⟨-, -, -, -, -, h6⟩ := h.1 p hp
  obtain ⟨-, e1, hs, e18, hd, -⟩ := h6 hr
  obtain ⟨-, -, hc, -⟩ := h
  obtain ⟨-, -, -, -, -, -, -, -, c4, c5, c6, -⟩ := hd
  unfold pX6_factor
  rw [ldI_ok (by omega), Int.toNat_natCast, hS 12 (by decide), h35, cLT_if (by omega)]
  unfold fac; split <;> rfl
noncomputable def less (M : St) (x c : Int) : Int := M 0 34 * c - sm (pu M x c) 4
noncomputable def slp (M : St) (x c : Int) : Int := sm (sl M x c) 4
theorem slp_b {T M : St} (h : TM T M) {x c : Int} (hx : -2000 ≤ x ∧ x ≤ 2000) (hc : Com M x 4 c) : (0 ≤ slp M x c ∧ slp M x c ≤ 17262720000) ∧ (-57312230400000 ≤ less M x c ∧ less M x c ≤ 16159680000) ∧ ((∃ p, p < 4 ∧ act M x p) → 1 ≤ slp M x c) := by
  have b0 := pu_b h hx hc (p := 0) (by decide)
  have b1 := pu_b h hx hc (p := 1) (by decide)
  have b2 := pu_b h hx hc (p := 2) (by decide)
  have b3 := pu_b h hx hc (p := 3) (by decide)
  have h20 := pow20 (p := 4) (by omega)
  obtain ⟨c1, c2, c3⟩ := hc
  have hl := h.2.1
  have m1 : 0 ≤ M 0 34 * c := Int.mul_nonneg (by omega) (by omega)
  have m2 : M 0 34 * c ≤ 100998 * 160000 := Int.mul_le_mul (by omega) (by omega) (by omega) (by omega)
  unfold slp less
  simp only [sm]
  refine ⟨by omega, by omega, fun ⟨p, hp, ha⟩ => ?_⟩
  rcases (show p = 0 ∨ p = 1 ∨ p = 2 ∨ p = 3 by omega) with rfl | rfl | rfl | rfl
  · have := b0.2.2 ha; omega
  · have := b1.2.2 ha; omega
  · have := b2.2.2 ha; omega
  · have := b3.2.2 ha; omega
theorem rest_push {T M S : St} (h : TM T M) (hS : ∀ q, q ≠ 0 → S q = M q) (h34 : S 0 34 = M 0 34) (h35 : S 0 35 = M 0 35) {x y c : Int} (hx : -2000 ≤ x ∧ x ≤ 2000) (hy : -2000 ≤ y ∧ y ≤ x) (hc : Com M x 4 c) : lo3 (pX6_restsBelow_91B S x y c) FU 0 0 0 = some (if y = x ∨ less M x c ≤ (x - y) * slp M x c then 1 else 0, put (put S 0 38 (x * slp M x c - less M x c)) 0 39 (slp M x c)) := by
  have s18 := hS 18 (by decide)
  have s19 := hS 19 (by decide)
  have h20 := pow20 (p := 4) (by omega)
  have hcb := hc.2.1
  have hc1 := hc.1
  have hlid := h.2.1
  refine lo3_spec (fun o => o = some (if y = x ∨ less M x c ≤ (x - y) * slp M x c then 1 else 0, put (put S 0 38 (x * slp M x c - less M x c)) 0 39 (slp M x c))) (fun (a b z : Int) => ∃ p : Nat, z = p ∧ p ≤ 4 ∧ a = sm (pu M x c) p ∧ b = sm (sl M x c) p) (fun _ _ z => (4 - z).toNat) ?_ FU 0 0 0 ⟨0, rfl, by omega, rfl, rfl⟩ (by have := FU_big; omega)
  rintro f a b z ⟨p, rfl, hp, rfl, rfl⟩ hf
  unfold pX6_restsBelow_91B pX6_restsBelow_241 pX6_restsBelow_295
  by_cases e : p = 4
  · subst e
    have hb := slp_b h hx hc
    have e1 : M 0 34 * c - sm (pu M x c) 4 = less M x c := rfl
    have e2 : sm (sl M x c) 4 = slp M x c := rfl
    rw [cLT_neg (by omega), h34, wdI_ok (by omega)]
    simp only [setS, e1, e2]
    rw [wdI_ok (by omega)]
    by_cases hyx : y = x
    · rw [cEQ_pos (by omega), if_pos (Or.inl hyx)]
    · rw [cEQ_neg (by omega), wdI_ok (by omega)]
      have m1 : 0 ≤ (x - y) * slp M x c := Int.mul_nonneg (by omega) (by omega)
      have m2 : (x - y) * slp M x c ≤ 4000 * 17262720000 := Int.mul_le_mul (by omega) (by omega) (by omega) (by omega)
      by_cases hl : less M x c ≤ (x - y) * slp M x c
      · rw [lLT_neg (by omega), if_pos (Or.inr hl)]
      · rw [lLT_pos (by omega), if_neg (by omega)]
  · have hp4 : p < 4 := by omega
    obtain ⟨k1, -, -, k4, k5, k6⟩ := h.1 p hp4
    have hR := isRubber_ok (M := S) (p := p) hp4 (by rw [s18]; omega)
    have etop := topOf_ok (M := M) (S := S) hp4 (hS 21 (by decide)) (hS 25 (by decide))
    have hps : sm (pu M x c) (p + 1) = sm (pu M x c) p + pu M x c p := rfl
    have hsl : sm (sl M x c) (p + 1) = sm (sl M x c) p + sl M x c p := rfl
    have hnext := hf (sm (pu M x c) (p + 1)) (sm (sl M x c) (p + 1)) ((p : Int) + 1) ⟨p + 1, by omega, by omega, rfl, rfl⟩ (by omega)
    rw [hps, hsl] at hnext
    have hno : ¬ act M x p → f (sm (pu M x c) p) (sm (sl M x c) p) ((p : Int) + 1) = some (if y = x ∨ less M x c ≤ (x - y) * slp M x c then 1 else 0, put (put S 0 38 (x * slp M x c - less M x c)) 0 39 (slp M x c)) := fun ha => by
      have e1 : pu M x c p = 0 := if_neg ha
      have e2 : sl M x c p = 0 := if_neg ha
      rw [e1, e2, Int.add_zero, Int.add_zero] at hnext
      exact hnext
    rw [cLT_pos (by omega), hR, bind_some', s18]
    by_cases hr : 1 ≤ M 18 p
    · rw [if_pos (by omega), cEQ_neg (by omega), etop, bind_some']
      obtain ⟨-, r2, r3, -, r5, -, r7⟩ := k6 hr
      by_cases ht : x ≤ tp M p
      · obtain ⟨a1, a2, a3, a4, a5, a6⟩ := act_ok h hS hp4 hx ⟨hr, ht⟩
        have hb := byM_b (h.1 p hp4) hr
        have hfb := fac_b (M := M) (s := sx M p)
        have hk8 : (kA M x p : Int) < M 8 (sx M p) := (lnOf_ok r5 (tp M p - x)).1
        have hst := stf_bd r5 r7 (k := kA M x p) (by omega)
        have ei' : ((5 * (sx M p : Int)) + (kA M x p : Int)).toNat = 5 * sx M p + kA M x p := by omega
        obtain ⟨d1, d2, d3⟩ := com_div hc hp4 ⟨hr, ht⟩ a4.1
        have hby : M 22 p * fac M (sx M p) = byM M p := rfl
        have hdv : c.tdiv (wA M x p) = c / wA M x p := Int.tdiv_eq_ediv_of_nonneg (by omega)
        rw [cLT_neg (by omega), ldI_ok (by omega), Int.toNat_natCast, s19, bind_some', r2]
        simp only [setS]
        rw [wdI_ok (by omega), a1, bind_some', a2, bind_some', wdI_ok (by omega), dvL_ok (by omega), a3, bind_some', wdI_ok (by omega), ldI_ok (by omega), Int.toNat_natCast, hS 22 (by decide), factor_ok h hS h35 hp4 hr, bind_some', hby, wdI_ok (by omega), ldI_ok (by omega), ei', hS 10 (by decide), wdI_ok (by omega), ldI_ok (by omega), ei', hS 9 (by decide), wdI_ok (by omega), wdI_ok (by omega), hdv]
        have e1 : pu M x c p = byM M p * (M 10 (5 * sx M p + kA M x p) * c + (tp M p - x - M 9 (5 * sx M p + kA M x p)) * (c / wA M x p * rA M x p)) := by
          have e : pu M x c p = byM M p * (c / wA M x p * nA M x p) := if_pos ⟨hr, ht⟩
          have en : nA M x p = M 10 (5 * sx M p + kA M x p) * wA M x p * 1 + (tp M p - x - M 9 (5 * sx M p + kA M x p) * 1) * rA M x p := rfl
          rw [e, en]
          generalize c / wA M x p = q at d1 ⊢
          rw [← d1]; grind
        have e2 : sl M x c p = byM M p * (c / wA M x p * rA M x p) := if_pos ⟨hr, ht⟩
        rw [e1, e2] at hnext
        exact hnext
      · rw [cLT_pos (by omega)]
        exact hno (fun q => by have := q.2; omega)
    · rw [if_neg (by omega), cEQ_pos (by omega)]
      exact hno (fun q => hr q.1)
/-! the line of all pushes between a break and the next -/
theorem SS_line {T M : St} (h : TM T M) {x y c : Int} (hx : -2000 ≤ x ∧ x ≤ 2000) (hc : Com M x 4 c) (hn : NB M x 4 0 y) {z : Int} (hz : z ≤ x) (hz2 : y = x ∨ y ≤ z) : c * SS M z = 232792560 * (sm (pu M x c) 4 + (x - z) * slp M x c) := by
  refine sm_lin (fun p hp => ?_)
  obtain ⟨k1, -, -, k4, k5, k6⟩ := h.1 p hp
  by_cases ha : act M x p
  · obtain ⟨hr, ht⟩ := ha
    obtain ⟨-, r2, r3, -, r5, -, r7⟩ := k6 hr
    obtain ⟨-, -, -, a4, a5, a6⟩ := act_ok h (fun _ _ => rfl) hp hx ⟨hr, ht⟩
    obtain ⟨d1, d2, d3⟩ := com_div hc hp ⟨hr, ht⟩ a4.1
    have hl : IsLine M (sx M p) (tp M p - x) 1 (kA M x p) := lnOf_ok r5 (tp M p - x)
    have o1 := on_line r5 r7 (show 0 ≤ tp M p - x by omega) hl
    have o2 : OnL M (sx M p) (tp M p - z) (kA M x p) := by
      obtain ⟨b1, b2, b3⟩ := o1
      refine ⟨b1, by omega, ?_⟩
      rcases hl.2.2 with e | e
      · exact Or.inl e
      · by_cases e3 : (kA M x p : Int) + 1 = M 8 (sx M p)
        · exact Or.inl e3
        · have := hn.2.2 p (kA M x p + 1) hp hr (by omega) (Or.inl hp) (by omega)
          exact Or.inr (by omega)
    have hsp := sP_on r5 r7 o2
    have e0 : psh M z p = byM M p * sP M (sx M p) (tp M p - z) := by
      unfold psh
      split
      · rfl
      · have e : tp M p - z = 0 := by omega
        rw [e, sP_zero r5 r7, Int.mul_zero]
    have e1 : pu M x c p = byM M p * (c / wA M x p * nA M x p) := if_pos ⟨hr, ht⟩
    have e2 : sl M x c p = byM M p * (c / wA M x p * rA M x p) := if_pos ⟨hr, ht⟩
    have e3 : pN M (sx M p) (kA M x p) (tp M p - z) 1 = nA M x p + (x - z) * rA M x p := by
      rw [pN_add (u := tp M p - x), show tp M p - z - (tp M p - x) = x - z by omega]; rfl
    have e4 : pW M (sx M p) (kA M x p) = wA M x p := rfl
    rw [e3, e4] at hsp
    rw [e0, e1, e2]
    generalize c / wA M x p = q at d1 ⊢
    generalize sP M (sx M p) (tp M p - z) = v at hsp ⊢
    rw [← d1, show q * wA M x p * (byM M p * v) = q * byM M p * (wA M x p * v) by grind, hsp]
    grind
  · have e1 : pu M x c p = 0 := if_neg ha
    have e2 : sl M x c p = 0 := if_neg ha
    have e0 : psh M z p = 0 := by
      unfold psh
      refine if_neg (fun hq => ?_)
      obtain ⟨hr, hlt⟩ := hq
      obtain ⟨-, r2, r3, -, r5, -, r7⟩ := k6 hr
      have hlt' : tp M p < x := by
        rcases Int.lt_or_le (tp M p) x with h | h
        · exact h
        · exact absurd ⟨hr, h⟩ ha
      have := hn.2.2 p 0 hp hr (by have := r5.1; omega) (Or.inl hp) (by rw [Nat.add_zero, r7.1]; omega)
      rw [Nat.add_zero, r7.1] at this
      omega
    rw [e0, e1, e2]; simp
