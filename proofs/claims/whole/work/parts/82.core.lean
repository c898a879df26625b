/-! the core: settled on both sides -/
def PR (a b a' b' : Int) : Prop := a * b' = a' * b ∧ (0 ≤ a ∧ a ≤ 100000000000000000) ∧ (1 ≤ b ∧ b ≤ 400000000000) ∧ (0 ≤ a' ∧ a' ≤ 100000000000000000) ∧ (1 ≤ b' ∧ b' ≤ 400000000000)
def Sd (T M : St) (u d : Int) : Prop := TM T M ∧ T 13 8 = u ∧ T 13 9 = d ∧ M 0 38 = u ∧ M 0 39 = d ∧ UD u d ∧ ∀ p, p < 4 → 1 ≤ M 18 p → PrC T M u d p
theorem PrC.cg {T M M' : St} {u d : Int} {p : Nat} (h : PrC T M u d p) (hm : ∀ q, q ≠ 0 → q < 26 → M' q = M q) (h35 : M' 0 35 = M 0 35) : PrC T M' u d p := by
  unfold PrC sqz tp fac pN pW pR IsLine sx at h ⊢
  rw [hm 8 (by decide) (by decide), hm 9 (by decide) (by decide), hm 10 (by decide) (by decide), hm 12 (by decide) (by decide), hm 19 (by decide) (by decide), hm 21 (by decide) (by decide), hm 25 (by decide) (by decide), h35]
  exact h
theorem Sd.cg {T M M' : St} {u d : Int} (h : Sd T M u d) (hm : ∀ q, q ≠ 0 → q < 26 → M' q = M q) (h0 : ∀ j, 34 ≤ j → j ≤ 39 → M' 0 j = M 0 j) : Sd T M' u d := by
  obtain ⟨h1, h2, h3, h4, h5, h6, h7⟩ := h
  refine ⟨h1.cg (fun _ _ _ _ => rfl) (fun _ _ _ => rfl) hm (fun j a b => h0 j a (by omega)), h2, h3, by rw [h0 38 (by decide) (by decide), h4], by rw [h0 39 (by decide) (by decide), h5], h6, fun p hp hr => ?_⟩
  rw [hm 18 (by decide) (by decide)] at hr
  exact (h7 p hp hr).cg hm (h0 35 (by decide) (by decide))
theorem both_ok {T M : St} (h : TM T M) : ∃ (u d : Nat) (T' M' : St), pX4_settle T = some T' ∧ pX6_layRest M = some M' ∧ Sd T' M' u d ∧ (∀ q, q ≠ 13 → q ≠ 19 → q ≠ 20 → T' q = T q) ∧ (∀ j, j ≠ 8 → j ≠ 9 → T' 13 j = T 13 j) ∧ (∀ q, q ≠ 0 → M' q = M q) ∧ (∀ j, j < 38 → M' 0 j = M 0 j) ∧ (∀ j, 41 < j → M' 0 j = M 0 j) ∧ (M' 0 40 = 0 ∨ M' 0 40 = 1) ∧ (M' 0 40 = 1 ↔ ∃ p, p < 4 ∧ M 18 p = 0 ∧ tp M p * d = u) := by
  obtain ⟨u, d, T0, e1, t8, t9, t1, t2, hC⟩ := settle_ok h
  obtain ⟨M', e2, m1, m2, m3, m4, m5, m6, m7, m8, m9⟩ := layRest_ok h hC
  have hT0 : TM T0 M := h.cg (fun q a _ _ => t1 q a) (fun j a b => t2 j (by omega) (by omega)) (fun _ _ _ => rfl) (fun _ _ _ => rfl)
  have hu : UD (u : Int) (d : Int) := ⟨by omega, by omega, by omega⟩
  obtain ⟨T', e3, w1, w2⟩ := presses_ok hT0 hu t8 t9
  have hT' : TM T' M := hT0.cg (fun q _ a b => w1 q a b) (fun j _ _ => by rw [w1 13 (by decide) (by decide)]) (fun _ _ _ => rfl) (fun _ _ _ => rfl)
  refine ⟨u, d, T', M', by rw [e1, e3], e2, ⟨hT'.cg (fun _ _ _ _ => rfl) (fun _ _ _ => rfl) (fun q a _ => m7 q a) (fun j _ a => m8 j (by omega)), by rw [w1 13 (by decide) (by decide), t8], by rw [w1 13 (by decide) (by decide), t9], m1, m2, hu, fun p hp hr => ?_⟩, fun q a b c => by rw [w1 q b c, t1 q a], fun j a b => by rw [w1 13 (by decide) (by decide), t2 j a b], m7, m8, m9, m5, m6⟩
  rw [m7 18 (by decide)] at hr
  exact (w2 p hp hr).cg (fun q a _ => m7 q a) (m8 35 (by decide))
theorem Sd.press {T M : St} {u d : Int} (h : Sd T M u d) {p : Nat} (hp : p < 4) (hr : 1 ≤ M 18 p) : ∃ M' : St, pX6_layPress M (p : Int) = some M' ∧ PR (T 19 p) (T 20 p * d) (M' 0 42) (M' 0 43) ∧ (1 ≤ T 20 p ∧ T 20 p ≤ 20) ∧ M' 0 44 = sqz M u d p ∧ Sd T M' u d ∧ (∀ q, q ≠ 0 → M' q = M q) ∧ ∀ j, j ≠ 24 → j ≠ 25 → j ≠ 42 → j ≠ 43 → j ≠ 44 → M' 0 j = M 0 j := by
  have hh := h
  obtain ⟨h1, h2, h3, h4, h5, h6, h7⟩ := h
  obtain ⟨k, hk, k1, k2⟩ := h7 p hp hr
  have hb := sqz_b h1 h6 hp
  obtain ⟨q1, q2, q3, q4, q5, q6⟩ := h1.1 p hp
  obtain ⟨r1, r2, r3, r4, r5, r6, r7⟩ := q6 hr
  obtain ⟨⟨u1, u2⟩, u3, u4⟩ := h6
  have hw := pW_b r5 r7 hk.1
  have hN := pN_b r5 r7 hb.1 u1 hk
  have hf := fac_b (M := M) (s := sx M p)
  have etop := topOf_ok (M := M) (S := M) hp rfl rfl
  have h45 : ∀ S : St, (∀ q, q ≠ 0 → S q = M q) → (∀ j, j ≠ 44 → S 0 j = M 0 j) → ∃ M' : St, pX6_layPress_45 S (sx M p : Int) (sqz M u d p) = some M' ∧ PR (T 19 p) (T 20 p * d) (M' 0 42) (M' 0 43) ∧ M' 0 44 = sqz M u d p ∧ (∀ q, q ≠ 0 → M' q = M q) ∧ ∀ j, j ≠ 24 → j ≠ 25 → j ≠ 42 → j ≠ 43 → j ≠ 44 → M' 0 j = M 0 j := by
    intro S s1 s2
    unfold pX6_layPress_45
    simp only [setS]
    have g1 : ∀ q, q ≠ 0 → put S 0 44 (sqz M u d p) q = M q := fun q a => by rw [put_ne a, s1 q a]
    have g2 : ∀ j, j ≠ 44 → put S 0 44 (sqz M u d p) 0 j = M 0 j := fun j a => by rw [put_j a, s2 j a]
    have g3 : put S 0 44 (sqz M u d p) 0 44 = sqz M u d p := put_at
    generalize put S 0 44 (sqz M u d p) = S4 at *
    rw [g3, g2 39 (by decide), h5]
    have e9 := g1 9 (by decide)
    have e10 := g1 10 (by decide)
    have hk' : IsLine S4 (sx M p) (sqz M u d p) d k := by
      unfold IsLine at hk ⊢
      rw [g1 8 (by decide), e9]; exact hk
    have eN : pN S4 (sx M p) k (sqz M u d p) d = pN M (sx M p) k (sqz M u d p) d := by unfold pN pW pR; rw [e9, e10]
    have eW : pW S4 (sx M p) k = pW M (sx M p) k := by unfold pW; rw [e9]
    obtain ⟨M', f1, f2, f3, f4, f5⟩ := layPush_ok r3 (r5.cg (fun _ _ _ _ => rfl) (fun q a _ => g1 q a)) (by rw [e9, e10]; exact r7) (by omega) (by omega) hk'
    rw [eN, eW] at f2 f3
    have hfac := factor_ok (S := M') h1 (fun q a => by rw [f4 q a, g1 q a]) (by rw [f5 35 (by decide) (by decide), g2 35 (by decide)]) hp hr
    rw [f1, bind_some', hfac, bind_some', wdI_ok (by omega)]
    refine ⟨_, rfl, ?_, ?_, fun q a => by rw [put_ne a, put_ne a, f4 q a, g1 q a], fun j a b c e g => by rw [put_j e, put_j c, f5 j a b, g2 j g]⟩
    · have p42 : put (put M' 0 42 (M' 0 24 * fac M (sx M p))) 0 43 (put M' 0 42 (M' 0 24 * fac M (sx M p)) 0 25) 0 42 = M' 0 24 * fac M (sx M p) := by rw [put_j (by decide), put_at]
      have p43 : put (put M' 0 42 (M' 0 24 * fac M (sx M p))) 0 43 (put M' 0 42 (M' 0 24 * fac M (sx M p)) 0 25) 0 43 = M' 0 25 := by rw [put_at, put_j (by decide)]
      rw [p42, p43, k1]
      have hD : 1 * 1 ≤ pW M (sx M p) k * d := Int.mul_le_mul hw.1 u1 (by omega) (by omega)
      have hD2 : pW M (sx M p) k * d ≤ 20 * 17262720000 := Int.mul_le_mul hw.2.1 u2 (by omega) (by omega)
      obtain ⟨n, en⟩ := Int.eq_ofNat_of_zero_le hN.1
      obtain ⟨w, ew⟩ := Int.eq_ofNat_of_zero_le (show 0 ≤ pW M (sx M p) k * d by omega)
      rw [en, ew, Int.toNat_natCast, Int.toNat_natCast] at f2 f3
      rw [en] at hN k2
      rw [ew] at hD hD2
      have hg : 0 < Nat.gcd n w := Nat.gcd_pos_of_pos_right n (by omega)
      have w1 : n = Nat.gcd n w * (n / Nat.gcd n w) := (Nat.mul_div_cancel' (Nat.gcd_dvd_left n w)).symm
      have w2 : w = Nat.gcd n w * (w / Nat.gcd n w) := (Nat.mul_div_cancel' (Nat.gcd_dvd_right n w)).symm
      have c1 := Nat.div_le_self n (Nat.gcd n w)
      have c2 := Nat.div_le_self w (Nat.gcd n w)
      have c3 : 0 < w / Nat.gcd n w := Nat.div_pos (Nat.gcd_le_right n (by omega)) hg
      rw [f2, f3, en]
      generalize n / Nat.gcd n w = n' at *
      generalize w / Nat.gcd n w = w' at *
      have x1 : (n : Int) = (Nat.gcd n w : Nat) * (n' : Int) := by rw [← Int.natCast_mul, ← w1]
      have x2 : (w : Int) = (Nat.gcd n w : Nat) * (w' : Int) := by rw [← Int.natCast_mul, ← w2]
      generalize ((Nat.gcd n w : Nat) : Int) = g at x1 x2
      generalize fac M (sx M p) = fa at *
      have b1 : 0 ≤ fa * (n : Int) := Int.mul_nonneg (by omega) (by omega)
      have b2 : fa * (n : Int) ≤ 3 * (n : Int) := Int.mul_le_mul_of_nonneg_right hf.2 (by omega)
      have b3 : 0 ≤ (n' : Int) * fa := Int.mul_nonneg (by omega) (by omega)
      have b4 : (n' : Int) * fa ≤ (n' : Int) * 3 := Int.mul_le_mul_of_nonneg_left hf.2 (by omega)
      rcases k2 with k2 | ⟨k2, k3⟩
      · refine ⟨?_, by omega, by rw [k2, ew]; omega, by omega, by omega⟩
        rw [k2, ew, x1, x2]; grind
      · have hn0 : n = 0 := by omega
        have hn1 : n' = 0 := by omega
        refine ⟨?_, by omega, by rw [k2]; omega, by omega, by omega⟩
        rw [hn0, hn1]; simp
    · rw [put_j (by decide), put_j (by decide), f5 44 (by decide) (by decide), g3]
  have hw20 : 1 ≤ T 20 p ∧ T 20 p ≤ 20 := by
    rcases k2 with k2 | ⟨k2, -⟩ <;> omega
  unfold pX6_layPress
  rw [ldI_ok (by omega), Int.toNat_natCast, r2, etop, bind_some', wdI_ok (by omega), h4, h5]
  simp only [setS]
  have g44 : put M 0 44 (tp M p * d - u) 0 44 = tp M p * d - u := put_at
  rw [g44]
  have hes : sqz M u d p = max 0 (tp M p * d - u) := rfl
  obtain ⟨M', o1, o2, o3, o4, o5⟩ := h45 (put M 0 44 (tp M p * d - u)) (fun q a => put_ne a) (fun j a => put_j a)
  have hsd := hh.cg (M' := M') (fun q a _ => o4 q a) (fun j a b => o5 j (by omega) (by omega) (by omega) (by omega) (by omega))
  by_cases hl : 0 < tp M p * d - u
  · have e0 : tp M p * d - u = sqz M u d p := by omega
    rw [lLT_pos (by omega)]
    rw [e0] at o1 ⊢
    exact ⟨M', o1, o2, hw20, o3, hsd, o4, o5⟩
  · rw [lLT_neg (by omega)]
    have e0 : sqz M u d p = 0 := by omega
    rw [e0] at o1
    exact ⟨M', o1, o2, hw20, o3, hsd, o4, o5⟩
