/-! the core: where the class's lid comes to rest -/
theorem StfD.cg {T M T' M' : St} {s : Nat} (h : StfD T M s) (hq : ∀ q, q ≠ 13 → q ≠ 19 → q ≠ 20 → T' q = T q) (hm : ∀ q, q ≠ 0 → q < 26 → M' q = M q) : StfD T' M' s := by
  unfold StfD at h ⊢
  rw [hq (43 + 3 * s) (by omega) (by omega) (by omega), hq (43 + 3 * s + 1) (by omega) (by omega) (by omega), hq (43 + 3 * s + 2) (by omega) (by omega) (by omega), hm 8 (by decide) (by decide), hm 9 (by decide) (by decide), hm 10 (by decide) (by decide), hm 11 (by decide) (by decide), hm 12 (by decide) (by decide), hm 13 (by decide) (by decide), hm 14 (by decide) (by decide)]
  exact h
theorem TM.cg {T M T' M' : St} (h : TM T M) (hq : ∀ q, q ≠ 13 → q ≠ 19 → q ≠ 20 → T' q = T q) (h13 : ∀ j, 5 ≤ j → j ≤ 7 → T' 13 j = T 13 j) (hm : ∀ q, q ≠ 0 → q < 26 → M' q = M q) (hm0 : ∀ j, 34 ≤ j → j ≤ 36 → M' 0 j = M 0 j) : TM T' M' := by
  have m18 := hm 18 (by decide) (by decide)
  have m19 := hm 19 (by decide) (by decide)
  have m22 := hm 22 (by decide) (by decide)
  have hsx : ∀ p, sx M' p = sx M p := fun p => by unfold sx; rw [m19]
  have htp : ∀ p, tp M' p = tp M p := fun p => by unfold tp; rw [hm 21 (by decide) (by decide), hm 25 (by decide) (by decide)]
  obtain ⟨g1, g2, g3, g4⟩ := h
  refine ⟨fun p hp => ?_, ?_, ?_, ?_⟩
  · obtain ⟨a1, a2, a3, a4, a5, a6⟩ := g1 p hp
    refine ⟨by rw [m18]; exact a1, by rw [hq 15 (by decide) (by decide) (by decide), m18]; exact a2, by rw [hq 14 (by decide) (by decide) (by decide), m18]; exact a3, by rw [hq 16 (by decide) (by decide) (by decide), htp]; exact a4, by rw [hq 17 (by decide) (by decide) (by decide), m22]; exact a5, fun hr => ?_⟩
    rw [m18] at hr
    obtain ⟨b1, b2, b3, b4, b5, b6, b7, b8⟩ := a6 hr
    have e5 := b5.cg hq hm
    unfold TR
    rw [hsx, m22, m19, hq 18 (by decide) (by decide) (by decide), hq (43 + 3 * sx M p) (by omega) (by omega) (by omega), hm 8 (by decide) (by decide), hm 9 (by decide) (by decide), hm 10 (by decide) (by decide)]
    exact ⟨b1, b2, b3, b4, e5, b6, b7, b8⟩
  · rw [h13 5 (by decide) (by decide), hm0 34 (by decide) (by decide)]; exact g2
  · rw [h13 6 (by decide) (by decide), hm0 35 (by decide) (by decide)]; exact g3
  · rw [h13 7 (by decide) (by decide), hm0 36 (by decide) (by decide)]; exact g4
def due (M : St) : Int := M 0 34 * 232792560
noncomputable def rs (M : St) (z : Int) : Int := SS M z - SS M (z + 1)
noncomputable def pt (M : St) (z : Int) : Int := (z + 1) * rs M z - (due M - SS M (z + 1))
def Cls (M : St) (u d : Nat) : Prop := (SS M (hF M 4) ≤ due M ∧ (u : Int) = hF M 4 ∧ d = 1) ∨ (∃ z, hF M 4 ≤ z ∧ z < 1300 ∧ due M < SS M z ∧ SS M (z + 1) ≤ due M ∧ u = (pt M z).toNat / Nat.gcd (pt M z).toNat (rs M z).toNat ∧ d = (rs M z).toNat / Nat.gcd (pt M z).toNat (rs M z).toNat)
theorem due_b {T M : St} (h : TM T M) : 0 ≤ due M ∧ due M ≤ 23511582974880 := by
  have := h.2.1
  unfold due; omega
theorem settle_loop {T M : St} (h : TM T M) {H : Int} (hH : hF M 4 < H ∧ H ≤ 1300 ∧ SS M H ≤ due M) (hF1 : due M < SS M (hF M 4)) : ∃ z, hF M 4 ≤ z ∧ z < 1300 ∧ due M < SS M z ∧ SS M (z + 1) ≤ due M ∧ lo4 (pX4_settle_49B T (due M)) FU (hF M 4) H (SS M (hF M 4)) 0 = pX4_settle_104 T (z + 1) (due M) (SS M z) := by
  have hb := hF_b h 4 (by omega)
  have hdue := due_b h
  refine lo4_spec (fun o => ∃ z, hF M 4 ≤ z ∧ z < 1300 ∧ due M < SS M z ∧ SS M (z + 1) ≤ due M ∧ o = pX4_settle_104 T (z + 1) (due M) (SS M z)) (fun (x1 x2 x5 x7 : Int) => hF M 4 ≤ x1 ∧ x1 < x2 ∧ x2 ≤ 1300 ∧ x5 = SS M x1 ∧ due M < SS M x1 ∧ SS M x2 ≤ due M ∧ ∃ i : Nat, x7 = i ∧ i ≤ 20 ∧ x2 - x1 ≤ ((2 ^ (20 - i) : Nat) : Int)) (fun _ _ _ x7 => (20 - x7).toNat) ?_ FU _ _ _ _ ⟨by omega, hH.1, hH.2.1, rfl, hF1, hH.2.2, 0, rfl, by omega, ?_⟩ (by have := FU_big; omega)
  · rintro f x1 x2 x5 x7 ⟨i1, i2, i3, rfl, i5, i6, i, rfl, i7, i8⟩ hf
    unfold pX4_settle_49B pX4_settle_98
    by_cases e : x2 = x1 + 1
    · subst e
      by_cases e2 : (i : Int) < 20
      · rw [cLT_pos (by omega), cLT_neg (by omega)]
        exact ⟨x1, i1, by omega, i5, i6, rfl⟩
      · rw [cLT_neg (by omega)]
        exact ⟨x1, i1, by omega, i5, i6, rfl⟩
    · have hi : i < 20 := by
        rcases Nat.lt_or_ge i 20 with h | h
        · exact h
        · have : i = 20 := by omega
          subst this
          simp at i8
          omega
      rw [cLT_pos (by omega), cLT_pos (by omega), dvI_ok (by omega), Int.tdiv_eq_ediv_of_nonneg (by omega), pushAt_ok h (by omega), bind_some']
      have hSb := SS_b h (z := (x1 + x2) / 2) (by omega)
      obtain ⟨e', he⟩ : ∃ e', 20 - i = e' + 1 := ⟨19 - i, by omega⟩
      rw [he, Nat.pow_succ] at i8
      have he' : 20 - (i + 1) = e' := by omega
      by_cases hl : due M < SS M ((x1 + x2) / 2)
      · rw [lLT_pos (by omega)]
        simp only [setS]
        exact hf _ _ _ _ ⟨by omega, by omega, i3, rfl, hl, i6, i + 1, by omega, by omega, by rw [he']; omega⟩ (by omega)
      · rw [lLT_neg (by omega)]
        simp only [setS]
        exact hf _ _ _ _ ⟨i1, by omega, by omega, rfl, i5, by omega, i + 1, by omega, by omega, by rw [he']; omega⟩ (by omega)
  · have : (2 ^ (20 - 0) : Nat) = 1048576 := by decide
    rw [this]; omega
theorem pt_b {T M : St} (h : TM T M) {z : Int} (hz : 0 ≤ z ∧ z < 1300) (h1 : due M < SS M z) (h2 : SS M (z + 1) ≤ due M) : 1 ≤ rs M z ∧ rs M z ≤ 25116454883520 ∧ 0 ≤ pt M z ∧ pt M z ≤ 32651391348576000 := by
  have hd := SS_dif h z
  have e : rs M z = SS M z - SS M (z + 1) := rfl
  have e2 : (z + 1) * rs M z = z * rs M z + rs M z := by grind
  have m1 : 0 ≤ z * rs M z := Int.mul_nonneg hz.1 (by omega)
  have m2 : z * rs M z ≤ 1299 * 25116454883520 := Int.mul_le_mul (by omega) (by omega) (by omega) (by omega)
  unfold pt
  omega
theorem restBetween_ok {T M : St} (h : TM T M) {z : Int} (hz : 0 ≤ z ∧ z < 1300) (h1 : due M < SS M z) (h2 : SS M (z + 1) ≤ due M) : pX4_restBetween T (z + 1) (SS M z) (SS M (z + 1)) (due M) = some (put (put T 13 8 (((pt M z).toNat / Nat.gcd (pt M z).toNat (rs M z).toNat : Nat) : Int)) 13 9 (((rs M z).toNat / Nat.gcd (pt M z).toNat (rs M z).toNat : Nat) : Int)) := by
  have hb := pt_b h hz h1 h2
  have e1 : SS M z - SS M (z + 1) = rs M z := rfl
  have e2 : (z + 1) * rs M z - (due M - SS M (z + 1)) = pt M z := rfl
  unfold pX4_restBetween
  simp only [setS, e1, e2]
  rw [lLT_neg (by omega), wdI_ok (by omega)]
  obtain ⟨n, en⟩ := Int.eq_ofNat_of_zero_le hb.2.2.1
  obtain ⟨d, ed⟩ := Int.eq_ofNat_of_zero_le (show 0 ≤ rs M z by omega)
  rw [en] at hb
  rw [ed] at hb
  rw [en, ed, gcdC_ok (by omega) (by omega), bind_some']
  have hg : 0 < Nat.gcd n d := Nat.gcd_pos_of_pos_right n (by omega)
  have hg2 : Nat.gcd n d ≤ d := Nat.gcd_le_right n (by omega)
  rw [maxL_one (by omega) (by omega), bind_some', dvL_ok (by omega), dvL_ok (by omega), Int.tdiv_eq_ediv_of_nonneg (by omega), Int.tdiv_eq_ediv_of_nonneg (by omega), ← Int.natCast_ediv, ← Int.natCast_ediv]
  rfl
theorem settle_ok {T M : St} (h : TM T M) : ∃ (u d : Nat) (T0 : St), pX4_settle T = pX4_settle_117 T0 ∧ T0 13 8 = u ∧ T0 13 9 = d ∧ (∀ q, q ≠ 13 → T0 q = T q) ∧ (∀ j, j ≠ 8 → j ≠ 9 → T0 13 j = T 13 j) ∧ Cls M u d := by
  have hb := hF_b h 4 (by omega)
  have hdue := due_b h
  have hlid := h.2.1
  have ht := hT_b h hb.2.1 4 (by omega)
  have e1 : T 13 5 * 232792560 = due M := by rw [hlid.1]; rfl
  have hSF := SS_b h (z := hF M 4) (by omega)
  unfold pX4_settle
  rw [floor_ok h, bind_some', hiTop_ok h ⟨hb.1, hb.2.1⟩, bind_some', wdI_ok (by omega)]
  simp only [setS, e1]
  rw [wdI_ok (by omega)]
  have h' : TM (put (put T 13 8 (hF M 4)) 13 9 1) M := h.cg (fun q a _ _ => by rw [put_ne a, put_ne a]) (fun j a b => by rw [put_j (by omega), put_j (by omega)]) (fun _ _ _ => rfl) (fun _ _ _ => rfl)
  have f1 : ∀ q, q ≠ 13 → put (put T 13 8 (hF M 4)) 13 9 1 q = T q := fun q a => by rw [put_ne a, put_ne a]
  have f2 : ∀ j, j ≠ 8 → j ≠ 9 → put (put T 13 8 (hF M 4)) 13 9 1 13 j = T 13 j := fun j a b => by rw [put_j b, put_j a]
  have f3 : put (put T 13 8 (hF M 4)) 13 9 1 13 8 = hF M 4 := by rw [put_j (by decide), put_at]
  have f4 : put (put T 13 8 (hF M 4)) 13 9 1 13 9 = 1 := by rw [put_at]
  generalize put (put T 13 8 (hF M 4)) 13 9 1 = T1 at *
  rw [pushAt_ok h' (by omega), bind_some']
  by_cases hl : due M < SS M (hF M 4)
  · rw [lLT_pos (by omega)]
    have hH : hF M 4 < hT M (hF M 4) 4 := by
      rcases Int.lt_or_le (hF M 4) (hT M (hF M 4) 4) with h | h
      · exact h
      · have := SS_top (M := M) (z := hF M 4) (fun p a b => by have := ht.2.2 p a b; omega)
        omega
    have hS0 := SS_top (M := M) (z := hT M (hF M 4) 4) (fun p a b => ht.2.2 p a b)
    obtain ⟨z, z1, z2, z3, z4, z5⟩ := settle_loop h' ⟨hH, ht.2.1, by omega⟩ hl
    rw [z5]
    unfold pX4_settle_104
    rw [pushAt_ok h' (by omega), bind_some', restBetween_ok h' (by omega) z3 z4, bind_some']
    refine ⟨(pt M z).toNat / Nat.gcd (pt M z).toNat (rs M z).toNat, (rs M z).toNat / Nat.gcd (pt M z).toNat (rs M z).toNat, _, rfl, ?_, ?_, fun q a => ?_, fun j a b => ?_, Or.inr ⟨z, z1, z2, z3, z4, rfl, rfl⟩⟩
    · rw [put_j (by decide), put_at]
    · rw [put_at]
    · rw [put_ne a, put_ne a, f1 q a]
    · rw [put_j b, put_j a, f2 j a b]
  · rw [lLT_neg (by omega)]
    refine ⟨(hF M 4).toNat, 1, T1, rfl, by omega, f4, f1, f2, Or.inl ⟨by omega, by omega, rfl⟩⟩
