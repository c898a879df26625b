/-! the core: how each seal is pressed -/
theorem maxL_ok {x y : Int} (h : -9223372036854775808 ≤ x ∧ x ≤ 9223372036854775807 ∧ -9223372036854775808 ≤ y ∧ y ≤ 9223372036854775807) : pJ9_max_f86c9 x y = some (max x y) := by
  unfold pJ9_max_f86c9; rw [if_pos ⟨⟨by omega, by omega⟩, ⟨by omega, by omega⟩⟩]
def sqz (M : St) (u d : Int) (p : Nat) : Int := max 0 (tp M p * d - u)
def PrC (T M : St) (u d : Int) (p : Nat) : Prop := ∃ k : Nat, IsLine M (sx M p) (sqz M u d p) d k ∧ T 19 p = fac M (sx M p) * pN M (sx M p) k (sqz M u d p) d ∧ (T 20 p = pW M (sx M p) k ∨ (T 20 p = 1 ∧ pN M (sx M p) k (sqz M u d p) d = 0))
def UD (u d : Int) : Prop := (1 ≤ d ∧ d ≤ 17262720000) ∧ 0 ≤ u ∧ u ≤ 30000000000000
theorem sqz_b {T M : St} (h : TM T M) {u d : Int} (hu : UD u d) {p : Nat} (hp : p < 4) : 0 ≤ sqz M u d p ∧ sqz M u d p ≤ 1300 * d ∧ (-300 * d ≤ tp M p * d ∧ tp M p * d ≤ 1300 * d) := by
  obtain ⟨-, -, -, k4, -, -⟩ := h.1 p hp
  obtain ⟨⟨u1, u2⟩, u3, u4⟩ := hu
  have m1 : -300 * d ≤ tp M p * d := Int.mul_le_mul_of_nonneg_right k4.2.1 (by omega)
  have m2 : tp M p * d ≤ 1300 * d := Int.mul_le_mul_of_nonneg_right k4.2.2 (by omega)
  unfold sqz
  omega
theorem squeezed_ok {T M : St} (h : TM T M) {u d : Int} (hu : UD u d) (e8 : T 13 8 = u) (e9 : T 13 9 = d) {p : Nat} (hp : p < 4) : pX4_squeezed T (p : Int) = some (sqz M u d p) := by
  have hb := sqz_b h hu hp
  obtain ⟨-, -, -, k4, -, -⟩ := h.1 p hp
  obtain ⟨⟨u1, u2⟩, u3, u4⟩ := hu
  unfold pX4_squeezed
  rw [ldI_ok (by omega), Int.toNat_natCast, k4.1, wdI_ok (by omega), e8, e9, maxL_ok (by omega), bind_some']; rfl
theorem line_cut {M : St} {s : Nat} {a b : Int} (hb : 0 < b) {k : Nat} (h : IsLine M s a b k) : IsLine M s (a / b) 1 k := by
  obtain ⟨h1, h2, h3⟩ := h
  refine ⟨h1, ?_, ?_⟩
  · rcases h2 with h2 | h2
    · exact Or.inl h2
    · exact Or.inr (by rw [Int.mul_one]; exact (Int.le_ediv_iff_mul_le hb).2 h2)
  · rcases h3 with h3 | h3
    · exact Or.inl h3
    · exact Or.inr (by rw [Int.mul_one]; exact (Int.ediv_lt_iff_lt_mul hb).2 h3)
theorem findPress_ok {T M : St} (h : TM T M) {u d : Int} (hu : UD u d) (e8 : T 13 8 = u) (e9 : T 13 9 = d) {p : Nat} (hp : p < 4) : ∃ T' : St, pX4_findPress T (p : Int) = some T' ∧ (∀ q, q ≠ 19 → q ≠ 20 → T' q = T q) ∧ (∀ p', p' ≠ p → T' 19 p' = T 19 p' ∧ T' 20 p' = T 20 p') ∧ (1 ≤ M 18 p → PrC T' M u d p) := by
  have h2 : TM (put (put T 19 p 0) 20 p 1) M := h.cg (fun q _ a b => by rw [put_ne b, put_ne a]) (fun j _ _ => by rw [put_ne (by decide), put_ne (by decide)]) (fun _ _ _ => rfl) (fun _ _ _ => rfl)
  have f8 : put (put T 19 p 0) 20 p 1 13 8 = u := by rw [put_ne (by decide), put_ne (by decide), e8]
  have f9 : put (put T 19 p 0) 20 p 1 13 9 = d := by rw [put_ne (by decide), put_ne (by decide), e9]
  have f1 : ∀ q, q ≠ 19 → q ≠ 20 → put (put T 19 p 0) 20 p 1 q = T q := fun q a b => by rw [put_ne b, put_ne a]
  have f2 : ∀ p', p' ≠ p → put (put T 19 p 0) 20 p 1 19 p' = T 19 p' ∧ put (put T 19 p 0) 20 p 1 20 p' = T 20 p' := fun p' a => by
    rw [put_ne (by decide), put_j a, put_j a, put_ne (by decide)]; exact ⟨rfl, rfl⟩
  have f3 : put (put T 19 p 0) 20 p 1 19 p = 0 := by rw [put_ne (by decide), put_at]
  have f4 : put (put T 19 p 0) 20 p 1 20 p = 1 := by rw [put_at]
  unfold pX4_findPress
  rw [stI_ok (by omega), stI_ok (by omega), Int.toNat_natCast]
  generalize put (put T 19 p 0) 20 p 1 = S2 at *
  have hb := sqz_b h2 hu hp
  obtain ⟨k1, k2, k3, k4, k5, k6⟩ := h2.1 p hp
  rw [squeezed_ok h2 hu f8 f9 hp, bind_some', ldI_ok (by omega), Int.toNat_natCast, k2]
  by_cases hr : 1 ≤ M 18 p
  · rw [if_pos hr, cEQ_neg (by omega)]
    obtain ⟨r1, r2, r3, r4, r5, r6, r7⟩ := k6 hr
    obtain ⟨k, hk⟩ := line_ex r5 (sqz M u d p) d
    obtain ⟨⟨u1, u2⟩, u3, u4⟩ := hu
    by_cases hz : sqz M u d p = 0
    · rw [lEQ_pos (by omega)]
      refine ⟨S2, rfl, f1, f2, fun _ => ⟨k, hk, ?_, Or.inr ⟨f4, ?_⟩⟩⟩ <;>
      · have hk0 : k = 0 := by
          rcases Nat.eq_zero_or_pos k with e | e
          · exact e
          · have := line_le r5 (by omega) hk (Nat.le_refl k) (by omega)
            have hB := stf_bd r5 r7 (k := k) (by have := hk.1; omega)
            have : 1 * 1 ≤ M 9 (5 * sx M p + k) * d := Int.mul_le_mul (by omega) u1 (by omega) (by omega)
            omega
        have e : pN M (sx M p) k (sqz M u d p) d = 0 := by
          unfold pN; rw [hk0, hz, Nat.add_zero, r7.1, r7.2]; simp
        rw [e]
        try rw [f3, Int.mul_zero]
    · rw [lEQ_neg (by omega), ldR_ok (43 + 3 * sx M p) ⟨by omega, by omega⟩ (by rw [Int.toNat_natCast]; exact r4) (isStf_s r3)]
      have hc := line_cut (by omega) hk
      have hq0 : 0 ≤ sqz M u d p / d := Int.ediv_nonneg hb.1 (by omega)
      have hq1 : sqz M u d p / d ≤ 1300 := by
        have : sqz M u d p / d < 1301 := (Int.ediv_lt_iff_lt_mul (by omega)).2 (by omega)
        omega
      have hcut : pX5_cut (sqz M u d p) (S2 13 9) = some (sqz M u d p / d) := by
        unfold pX5_cut
        rw [f9, lLT_neg (by omega), dvL_ok (by omega), Int.tdiv_eq_ediv_of_nonneg hb.1]
      have hw := pW_b r5 r7 hk.1
      have hn4 := r5.2.1
      have hkn := hk.1
      have hB := stf_bd r5 r7 (k := k) (by omega)
      have hB1 := stf_bd r5 r7 (k := k + 1) (by omega)
      have hcc := r5.2.2.1 k (by omega)
      have hcc1 := r5.2.2.1 (k + 1) (by omega)
      have ei : ((k : Int) + 1).toNat = k + 1 := by omega
      have hmx : pJ9_max_7cf53 1 (M 9 (5 * sx M p + (k + 1)) - M 9 (5 * sx M p + k)) = some (pW M (sx M p) k) := by
        rw [show M 9 (5 * sx M p + (k + 1)) - M 9 (5 * sx M p + k) = pW M (sx M p) k from rfl, max_ok (by omega)]
        congr 1; omega
      have hri : M 10 (5 * sx M p + (k + 1)) - M 10 (5 * sx M p + k) = pR M (sx M p) k := rfl
      have hwd : pX3_width S2 (43 + 3 * sx M p) (k : Int) = some (pW M (sx M p) k) := by
        unfold pX3_width
        simp (disch := omega) only [bind_some', ldI_ok, Int.toNat_natCast, hcc.1, cLT_neg, cLT_pos, ei, hcc1.1, hmx]
      have hrs : pX3_rise S2 (43 + 3 * sx M p) (k : Int) = some (pR M (sx M p) k) := by
        unfold pX3_rise
        simp (disch := omega) only [ldI_ok, Int.toNat_natCast, hcc.2, cLT_neg, cLT_pos, ei, hcc1.2, hri]
      have m1 : 0 ≤ M 10 (5 * sx M p + k) * pW M (sx M p) k := Int.mul_nonneg (by omega) (by omega)
      have m2 : M 10 (5 * sx M p + k) * pW M (sx M p) k ≤ 999 * 20 := Int.mul_le_mul (by omega) (by omega) (by omega) (by omega)
      rw [hcut, bind_some', pieceAt_ok r5 r6 r7 (by omega) hc, bind_some', hwd, bind_some', ldI_ok (by omega), Int.toNat_natCast, hcc.2, wdI_ok (by omega)]
      simp only [setS]
      rw [ldI_ok (by omega), Int.toNat_natCast, hcc.1, wdI_ok (by omega), hrs, bind_some', wdI_ok (by omega), stiff_ok h2 hp hr, bind_some', stI_ok (by omega), stI_ok (by omega), Int.toNat_natCast, f9]
      refine ⟨_, rfl, fun q a b => by rw [put_ne b, put_ne a, f1 q a b], fun p' a => ?_, fun _ => ⟨k, hk, ?_, Or.inl ?_⟩⟩
      · rw [put_ne (by decide), put_j a, put_j a, put_ne (by decide)]; exact f2 p' a
      · rw [put_ne (by decide), put_at]; rfl
      · rw [put_at]
  · rw [if_neg hr, cEQ_pos (by omega)]
    exact ⟨S2, rfl, f1, f2, fun e => absurd e hr⟩
theorem presses_ok {T M : St} (h : TM T M) {u d : Int} (hu : UD u d) (e8 : T 13 8 = u) (e9 : T 13 9 = d) : ∃ T' : St, pX4_settle_117 T = some T' ∧ (∀ q, q ≠ 19 → q ≠ 20 → T' q = T q) ∧ ∀ p, p < 4 → 1 ≤ M 18 p → PrC T' M u d p := by
  unfold pX4_settle_117
  refine lo2_spec (fun o => ∃ T' : St, o = some T' ∧ (∀ q, q ≠ 19 → q ≠ 20 → T' q = T q) ∧ ∀ p, p < 4 → 1 ≤ M 18 p → PrC T' M u d p) (fun (S : St) (z : Int) => ∃ p : Nat, z = p ∧ p ≤ 4 ∧ (∀ q, q ≠ 19 → q ≠ 20 → S q = T q) ∧ ∀ p', p' < p → 1 ≤ M 18 p' → PrC S M u d p') (fun _ z => (4 - z).toNat) ?_ FU T 0 ⟨0, rfl, by omega, fun _ _ _ => rfl, fun p' a => by omega⟩ (by have := FU_big; omega)
  rintro f S z ⟨p, rfl, hp, s1, s2⟩ hf
  unfold pX4_settle_120B
  by_cases e : p = 4
  · subst e
    rw [cLT_neg (by omega)]
    exact ⟨S, rfl, s1, s2⟩
  · have hp4 : p < 4 := by omega
    have hS : TM S M := h.cg (fun q _ a b => s1 q a b) (fun j _ _ => by rw [s1 13 (by decide) (by decide)]) (fun _ _ _ => rfl) (fun _ _ _ => rfl)
    obtain ⟨T', e1, t1, t2, t3⟩ := findPress_ok hS hu (by rw [s1 13 (by decide) (by decide), e8]) (by rw [s1 13 (by decide) (by decide), e9]) hp4
    rw [cLT_pos (by omega), e1, bind_some']
    simp only [setS]
    refine hf T' _ ⟨p + 1, by omega, by omega, fun q a b => by rw [t1 q a b, s1 q a b], fun p' a hr => ?_⟩ (by omega)
    by_cases ep : p' = p
    · subst ep; exact t3 hr
    · have := s2 p' (by omega) hr
      unfold PrC at this ⊢
      rw [(t2 p' ep).1, (t2 p' ep).2]
      exact this
