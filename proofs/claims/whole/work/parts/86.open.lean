/-! what opens -/
def opn (T M : St) (d : Int) (p : Nat) : Prop := 1 ≤ M 18 p ∧ T 19 p < M 0 36 * (T 20 p * d)
def ob (T M : St) (d : Int) : Nat → Nat
  | 0 => 0
  | n + 1 => if 1 ≤ M 18 n ∧ T 19 n < M 0 36 * (T 20 n * d) then ob T M d n ||| 2 ^ n else ob T M d n
theorem ob_lt {T M : St} {d : Int} : ∀ n, n ≤ 4 → ob T M d n < 16
  | 0, _ => by simp [ob]
  | n + 1, h => by
    simp only [ob]
    split
    · exact or_lt16 (ob_lt n (by omega)) (by omega)
    · exact ob_lt n (by omega)
theorem ob_bit {T M : St} {d : Int} : ∀ n p, (ob T M d n).testBit p = true ↔ p < n ∧ opn T M d p
  | 0, p => by simp [ob]
  | n + 1, p => by
    have ih := ob_bit (T := T) (M := M) (d := d) n p
    simp only [ob]
    by_cases hc : 1 ≤ M 18 n ∧ T 19 n < M 0 36 * (T 20 n * d)
    · rw [if_pos hc, Nat.testBit_or, Bool.or_eq_true, ih, Nat.testBit_two_pow]
      constructor
      · rintro (h | h)
        · exact ⟨by omega, h.2⟩
        · have : n = p := by simpa using h
          subst this
          exact ⟨by omega, hc⟩
      · rintro ⟨h1, h2⟩
        by_cases e : n = p
        · exact Or.inr (by simpa using e)
        · exact Or.inl ⟨by omega, h2⟩
    · rw [if_neg hc, ih]
      constructor
      · rintro ⟨h1, h2⟩
        exact ⟨by omega, h2⟩
      · rintro ⟨h1, h2⟩
        refine ⟨?_, h2⟩
        by_cases e : p = n
        · subst e; exact absurd h2 hc
        · omega
theorem ob_none {T M : St} {d : Int} (h : ∀ p, p < 4 → ¬ 1 ≤ M 18 p) : ∀ n, n ≤ 4 → ob T M d n = 0
  | 0, _ => rfl
  | n + 1, hn => by
    simp only [ob]
    rw [if_neg (fun e => h n (by omega) e.1)]
    exact ob_none h n (by omega)
theorem openC_ok {T M : St} {u d : Int} (h : Sd T M u d) : pX4_openPlaces T = some ((ob T M d 4 : Nat) : Int) := by
  unfold pX4_openPlaces
  refine lo2_spec (fun o => o = some ((ob T M d 4 : Nat) : Int)) (fun (x y : Int) => ∃ p : Nat, y = p ∧ p ≤ 4 ∧ x = (ob T M d p : Nat)) (fun _ y => (4 - y).toNat) ?_ FU 0 0 ⟨0, rfl, by omega, rfl⟩ (by have := FU_big; omega)
  rintro f x y ⟨p, rfl, hp, rfl⟩ hf
  unfold pX4_openPlaces_4B pX4_openPlaces_23
  by_cases e : p = 4
  · subst e
    rw [cLT_neg (by omega)]
  · have hp4 : p < 4 := by omega
    have hnext := hf ((ob T M d (p + 1) : Nat) : Int) ((p : Int) + 1) ⟨p + 1, by omega, by omega, rfl⟩ (by omega)
    have hb := ob_lt (T := T) (M := M) (d := d) p hp
    have hob : ob T M d (p + 1) = if 1 ≤ M 18 p ∧ T 19 p < M 0 36 * (T 20 p * d) then ob T M d p ||| 2 ^ p else ob T M d p := rfl
    rw [cLT_pos (by omega), h.isOpenC hp4, bind_some']
    rw [hob] at hnext
    by_cases hc : 1 ≤ M 18 p ∧ T 19 p < M 0 36 * (T 20 p * d)
    · rw [if_pos hc] at hnext ⊢
      have h2p : 2 ^ p < 16 := by
        have := or_lt16 (a := 0) (p := p) (by decide) hp4
        rwa [Nat.zero_or] at this
      rw [cEQ_neg (by omega), shl_one hp4, orI_ok hb h2p]
      exact hnext
    · rw [if_neg hc] at hnext ⊢
      rw [cEQ_pos (by omega)]
      exact hnext
theorem orI_zero {α : Type} {a : Nat} {k : Int → Option α} (ha : a < 16) : orI (a : Int) 0 k = k (a : Int) := by
  have := orI_ok (a := a) (b := 0) (k := k) ha (by decide)
  rw [Nat.or_zero] at this
  exact this
def FM (M M' : St) : Prop := (∀ q, q ≠ 0 → M' q = M q) ∧ ∀ j, j < 24 ∨ (26 ≤ j ∧ j < 38) ∨ 44 < j → M' 0 j = M 0 j
def FT (T T' : St) : Prop := (∀ q, q ≠ 13 → q ≠ 19 → q ≠ 20 → T' q = T q) ∧ ∀ j, j ≠ 8 → j ≠ 9 → T' 13 j = T 13 j
theorem openM_ok {T M : St} {u d : Int} (h : Sd T M u d) : ∃ M' : St, pX6_openNow_20 M 0 = some (((ob T M d 4 : Nat) : Int), M') ∧ Sd T M' u d ∧ FM M M' := by
  unfold pX6_openNow_20
  refine lo3_spec (fun o => ∃ M' : St, o = some (((ob T M d 4 : Nat) : Int), M') ∧ Sd T M' u d ∧ FM M M') (fun (S : St) (x y : Int) => ∃ p : Nat, y = p ∧ p ≤ 4 ∧ x = (ob T M d p : Nat) ∧ Sd T S u d ∧ FM M S) (fun _ _ y => (4 - y).toNat) ?_ FU M 0 0 ⟨0, rfl, by omega, rfl, h, fun _ _ => rfl, fun _ _ => rfl⟩ (by have := FU_big; omega)
  rintro f S x y ⟨p, rfl, hp, rfl, hS, hM⟩ hf
  unfold pX6_openNow_22B pX6_openNow_55 pX6_openNow_57
  by_cases e : p = 4
  · subst e
    rw [cLT_neg (by omega)]
    exact ⟨S, rfl, hS, hM⟩
  · have hp4 : p < 4 := by omega
    have hb := ob_lt (T := T) (M := M) (d := d) p hp
    have hob : ob T M d (p + 1) = if 1 ≤ M 18 p ∧ T 19 p < M 0 36 * (T 20 p * d) then ob T M d p ||| 2 ^ p else ob T M d p := rfl
    obtain ⟨k1, -⟩ := h.1.1 p hp4
    have e18 : S 18 p = M 18 p := by rw [hM.1 18 (by decide)]
    have hR := isRubber_ok (M := S) (p := p) hp4 (by omega)
    rw [cLT_pos (by omega), hR, bind_some', e18]
    by_cases hr : 1 ≤ M 18 p
    · obtain ⟨M3, b1, b2, b3, b4, b5, b6, b7⟩ := hS.press hp4 (by omega)
      have hop := isOpenM (M := M) b5 (by rw [b7 36 (by decide) (by decide) (by decide) (by decide) (by decide), hM.2 36 (by omega)]) hr b2
      have hF3 : FM M M3 := ⟨fun q a => by rw [b6 q a, hM.1 q a], fun j a => by rw [b7 j (by omega) (by omega) (by omega) (by omega) (by omega), hM.2 j a]⟩
      have hnext := hf M3 ((ob T M d (p + 1) : Nat) : Int) ((p : Int) + 1) ⟨p + 1, by omega, by omega, rfl, b5, hF3⟩ (by omega)
      rw [if_pos (by omega), cEQ_neg (by omega), b1, bind_some', hop, bind_some']
      rw [hob] at hnext
      by_cases hc : 1 ≤ M 18 p ∧ T 19 p < M 0 36 * (T 20 p * d)
      · rw [if_pos hc] at hnext ⊢
        have h2p : 2 ^ p < 16 := by
          have := or_lt16 (a := 0) (p := p) (by decide) hp4
          rwa [Nat.zero_or] at this
        rw [cEQ_neg (by omega), shl_one hp4, orI_ok hb h2p]
        exact hnext
      · rw [if_neg hc] at hnext ⊢
        rw [cEQ_pos (by omega), orI_zero hb]
        exact hnext
    · have hnext := hf S ((ob T M d (p + 1) : Nat) : Int) ((p : Int) + 1) ⟨p + 1, by omega, by omega, rfl, hS, hM⟩ (by omega)
      rw [hob, if_neg (fun e => hr e.1)] at hnext
      rw [if_neg (by omega), cEQ_pos (by omega)]
      exact hnext
theorem openM_none {T M : St} (h : TM T M) (hn : ∀ p, p < 4 → ¬ 1 ≤ M 18 p) : pX6_openNow_20 M 0 = some (0, M) := by
  unfold pX6_openNow_20
  refine lo3_spec (fun o => o = some (0, M)) (fun (S : St) (x y : Int) => ∃ p : Nat, y = p ∧ p ≤ 4 ∧ x = 0 ∧ S = M) (fun _ _ y => (4 - y).toNat) ?_ FU M 0 0 ⟨0, rfl, by omega, rfl, rfl⟩ (by have := FU_big; omega)
  rintro f S x y ⟨p, rfl, hp, rfl, rfl⟩ hf
  unfold pX6_openNow_22B pX6_openNow_57
  by_cases e : p = 4
  · subst e
    rw [cLT_neg (by omega)]
  · have hp4 : p < 4 := by omega
    obtain ⟨k1, -⟩ := h.1 p hp4
    have hr := hn p hp4
    rw [cLT_pos (by omega), isRubber_ok hp4 (by omega), bind_some', if_neg (by omega), cEQ_pos (by omega)]
    exact hf S 0 ((p : Int) + 1) ⟨p + 1, by omega, by omega, rfl, rfl⟩ (by omega)
/-- settling and asking what opens, on both sides -/
theorem open_ok {T M : St} (h : TM T M) : ∃ (v : Nat) (T' M' : St), pX4_settle T = some T' ∧ pX4_openPlaces T' = some (v : Int) ∧ pX6_openNow M = some ((v : Int), M') ∧ v < 16 ∧ FT T T' ∧ FM M M' ∧ ∃ u d : Nat, (∀ p, v.testBit p = true ↔ p < 4 ∧ opn T' M d p) ∧ UD u d ∧ T' 13 8 = u ∧ T' 13 9 = d ∧ (∀ p : Nat, p < 4 → pX4_isOpen T' (p : Int) = some (if 1 ≤ M 18 p ∧ T' 19 p < M 0 36 * (T' 20 p * d) then 1 else 0)) ∧ ((∃ p, p < 4 ∧ 1 ≤ M 18 p) → Sd T' M' u d) := by
  obtain ⟨t, M2, e1, hi, f1, f2⟩ := highest_ok h (a := 0) (b := 1) (by omega) (by omega)
  have h2 : TM T M2 := h.cg (fun _ _ _ _ => rfl) (fun _ _ _ => rfl) (fun q a _ => f1 q a) (fun j a b => f2 j (by omega))
  obtain ⟨u, d, T', M3, s1, s2, s3, s4, s5, s6, s7, s8, -, -⟩ := both_ok h2
  have e18 : M3 18 = M 18 := by rw [s6 18 (by decide), f1 18 (by decide)]
  have e36 : M3 0 36 = M 0 36 := by rw [s7 36 (by decide), f2 36 (by decide)]
  have hob : ∀ n, ob T' M3 d n = ob T' M d n := fun n => by
    induction n with
    | zero => rfl
    | succ n ih => simp only [ob]; rw [ih, e18, e36]
  have hC := openC_ok s3
  rw [hob] at hC
  have hIs : ∀ p : Nat, p < 4 → pX4_isOpen T' (p : Int) = some (if 1 ≤ M 18 p ∧ T' 19 p < M 0 36 * (T' 20 p * d) then 1 else 0) := fun p hp => by
    have := s3.isOpenC hp
    rw [e18, e36] at this
    exact this
  unfold pX6_openNow
  rw [e1, bnd_some]
  rcases hi with ⟨q1, q2, q3⟩ | ⟨q1, ⟨p, hp, hs, q2⟩, q3⟩
  · have hn : ∀ p, p < 4 → ¬ 1 ≤ M 18 p := fun p hp hr => q3 p hp (Or.inr ⟨hr, rfl⟩)
    have hz := ob_none (T := T') (M := M) (d := d) hn 4 (by omega)
    rw [hz] at hC
    rw [cEQ_pos (by omega), openM_none h2 (fun p hp hr => hn p hp (by rw [← f1 18 (by decide)]; exact hr))]
    refine ⟨0, T', M2, s1, hC, rfl, by decide, ⟨s4, s5⟩, ⟨f1, fun j a => f2 j (by omega)⟩, u, d, fun p => ?_, s3.2.2.2.2.2.1, s3.2.1, s3.2.2.1, hIs, fun ⟨p, hp, hr⟩ => absurd hr (hn p hp)⟩
    have := ob_bit (T := T') (M := M) (d := d) 4 p
    rw [hz] at this
    exact this
  · have hr : 1 ≤ M 18 p := by unfold sel at hs; omega
    obtain ⟨M4, o1, o2, o3⟩ := openM_ok s3
    rw [hob] at o1
    rw [cEQ_neg (by omega), s2, bind_some', o1]
    refine ⟨ob T' M d 4, T', M4, s1, hC, rfl, ob_lt 4 (by omega), ⟨s4, s5⟩, ⟨fun q a => by rw [o3.1 q a, s6 q a, f1 q a], fun j a => ?_⟩, u, d, fun p => ob_bit 4 p, s3.2.2.2.2.2.1, s3.2.1, s3.2.2.1, hIs, fun _ => o2⟩
    rcases (show j < 38 ∨ 41 < j by omega) with b | b
    · rw [o3.2 j a, s7 j b, f2 j (by omega)]
    · rw [o3.2 j a, s8 j b, f2 j (by omega)]
theorem e_opens : ca_20 Inv := by
  intro C M hI
  unfold pX5_opens pX6_opens pX5_settleAsIs
  obtain ⟨T, e1, h1, t1, t2⟩ := layOut_ok hI
  obtain ⟨v, T', M', s1, s2, s3, s4, s5, s6, -⟩ := open_ok h1
  rw [e1, bind_some', s1, bind_some', bind_some', s2, bind_some', s3, bnd_some]
  exact ⟨_, _, _, rfl, rfl, hI.trial (fun q a => by rw [s5.1 q (by omega) (by omega) (by omega), t1 q (by omega)]) (fun q a _ => s6.1 q a) (fun j a => s6.2 j (by omega))⟩
