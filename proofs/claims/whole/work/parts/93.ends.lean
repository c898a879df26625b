/-! the ends of making: both sides lay out the same ways -/
theorem TM.re {T M R M2 : St} (h : TM T M) (hR : ∀ q, q = 14 ∨ q = 15 ∨ q = 17 ∨ q = 18 ∨ 43 ≤ q → R q = T q) (hM : ∀ q, q ≠ 0 → q ≠ 21 → q < 26 → M2 q = M q) (ht : ∀ p, p < 4 → R 16 p = tp M2 p ∧ -300 ≤ tp M2 p ∧ tp M2 p ≤ 1300) (hl : R 13 5 = M2 0 34 ∧ 0 ≤ M2 0 34 ∧ M2 0 34 ≤ 100998) (hd : R 13 6 = M2 0 35 ∧ -99 ≤ M2 0 35 ∧ M2 0 35 ≤ 99) (hp : R 13 7 = M2 0 36 ∧ 0 ≤ M2 0 36 ∧ M2 0 36 ≤ 9999) : TM R M2 := by
  have m18 := hM 18 (by decide) (by decide) (by decide)
  have m19 := hM 19 (by decide) (by decide) (by decide)
  have m22 := hM 22 (by decide) (by decide) (by decide)
  have hsx : ∀ p, sx M2 p = sx M p := fun p => by unfold sx; rw [m19]
  refine ⟨fun p hp => ?_, hl, hd, hp⟩
  obtain ⟨a1, a2, a3, a4, a5, a6⟩ := h.1 p hp
  refine ⟨by rw [m18]; exact a1, by rw [hR 15 (by omega), m18]; exact a2, by rw [hR 14 (by omega), m18]; exact a3, ht p hp, by rw [hR 17 (by omega), m22]; exact a5, fun hr => ?_⟩
  rw [m18] at hr
  obtain ⟨b1, b2, b3, b4, b5, b6, b7, b8⟩ := a6 hr
  have e5 : StfD R M2 (sx M p) := by
    have := b5.cg2 (T' := R) (fun q a => hR q (by omega))
    unfold StfD at this ⊢
    rw [hM 8 (by decide) (by decide) (by decide), hM 9 (by decide) (by decide) (by decide), hM 10 (by decide) (by decide) (by decide), hM 11 (by decide) (by decide) (by decide), hM 12 (by decide) (by decide) (by decide), hM 13 (by decide) (by decide) (by decide), hM 14 (by decide) (by decide) (by decide)]
    exact this
  unfold TR
  rw [hsx, m22, m19, hR 18 (by omega), hR (43 + 3 * sx M p) (by omega), hM 8 (by decide) (by decide) (by decide), hM 9 (by decide) (by decide) (by decide), hM 10 (by decide) (by decide) (by decide)]
  exact ⟨b1, b2, b3, b4, e5, b6, b7, b8⟩
def nfr (M : St) (v : Nat) (a : Int) (p : Nat) : Int := if 1 ≤ M 18 p then (if v.testBit p = true then M 21 p + a else M 21 p - a) else M 21 p
def nld (M : St) (v : Nat) (f : Int) : Int := max 0 (if v.testBit 4 = true then M 0 34 + f else M 0 34 - f)
/-- the model's memory between two ways: what was kept, and the rest as it was -/
def KM (M S : St) : Prop := (∀ q, q ≠ 0 → q ≠ 21 → q ≠ 26 → S q = M q) ∧ (∀ p, p < 4 → S 26 p = M 21 p) ∧ S 0 46 = M 0 34 ∧ ∀ j, j < 24 ∨ (26 ≤ j ∧ j < 38 ∧ j ≠ 34) → S 0 j = M 0 j
theorem layEnd_ok {C M S : St} (hI : Inv C M) (hK : KM M S) {v : Nat} (hv : v < 32) {a f : Int} (hf0 : 0 ≤ f ∧ f ≤ 999) : ∃ M2 : St, pX6_layEnd S (v : Int) a f = some M2 ∧ KM M M2 ∧ (∀ p, p < 4 → M2 21 p = nfr M v a p) ∧ M2 0 34 = nld M v f ∧ ∀ j, j ≠ 34 → M2 0 j = S 0 j := by
  unfold pX6_layEnd
  refine lo2_spec (fun o => ∃ M2 : St, o = some M2 ∧ KM M M2 ∧ (∀ p, p < 4 → M2 21 p = nfr M v a p) ∧ M2 0 34 = nld M v f ∧ ∀ j, j ≠ 34 → M2 0 j = S 0 j) (fun (R : St) (y : Int) => ∃ p : Nat, y = p ∧ p ≤ 4 ∧ (∀ q, q ≠ 21 → R q = S q) ∧ ∀ p', p' < p → R 21 p' = nfr M v a p') (fun _ y => (4 - y).toNat) ?_ FU S 0 ⟨0, rfl, by omega, fun _ _ => rfl, fun p' b => by omega⟩ (by have := FU_big; omega)
  rintro g R y ⟨p, rfl, hp, r1, r2⟩ hf
  obtain ⟨k1, k2, k3, k4⟩ := hK
  unfold pX6_layEnd_3B pX6_layEnd_64
  by_cases e : p = 4
  · subst e
    have hset := hI.2.2.2.2.1.1
    have r46 : R 0 46 = M 0 34 := by rw [r1 0 (by decide), k3]
    have h95 : ∀ s0 : Int, -999 ≤ s0 → s0 ≤ 100998 → nld M v f = max 0 s0 → ∃ M2 : St, pX6_layEnd_95 R s0 = some M2 ∧ KM M M2 ∧ (∀ p, p < 4 → M2 21 p = nfr M v a p) ∧ M2 0 34 = nld M v f ∧ ∀ j, j ≠ 34 → M2 0 j = S 0 j := by
      intro s0 b1 b2 b3
      unfold pX6_layEnd_95
      simp only [setS, put_at]
      have fin : ∀ w : Int, w = nld M v f → ∃ M2 : St, some (put (put R 0 34 s0) 0 34 w) = some M2 ∧ KM M M2 ∧ (∀ p, p < 4 → M2 21 p = nfr M v a p) ∧ M2 0 34 = nld M v f ∧ ∀ j, j ≠ 34 → M2 0 j = S 0 j := fun w hw => ⟨_, rfl, ⟨fun q c1 c2 c3 => by rw [put_ne c1, put_ne c1, r1 q c2, k1 q c1 c2 c3], fun p c => by rw [put_ne (by decide), put_ne (by decide), r1 26 (by decide), k2 p c], by rw [put_j (by decide), put_j (by decide), r46], fun j c => by rw [put_j (by omega), put_j (by omega), r1 0 (by decide), k4 j c]⟩, fun p c => by rw [put_ne (by decide), put_ne (by decide), r2 p c], by rw [put_at, hw], fun j c => by rw [put_j c, put_j c, r1 0 (by decide)]⟩
      by_cases hz : s0 < 0
      · rw [cLT_pos (by omega)]
        exact fin 0 (by omega)
      · rw [cLT_neg (by omega)]
        exact fin s0 (by omega)
    rw [cLT_neg (by omega), show (4 : Int) = ((4 : Nat) : Int) from rfl, (has_all v (by omega) 4 (by omega)).1, bind_some', r46]
    unfold nld at h95 ⊢
    by_cases hb : v.testBit 4 = true
    · rw [if_pos hb] at h95 ⊢
      rw [if_pos hb, cEQ_neg (by omega)]
      exact h95 _ (by omega) (by omega) rfl
    · rw [if_neg hb] at h95 ⊢
      rw [if_neg hb, cEQ_pos (by omega)]
      exact h95 _ (by omega) (by omega) rfl
  · have hp4 : p < 4 := by omega
    have hkd := (hI.2.2.2.1 p hp4).kind
    have e18 : R 18 p = M 18 p := by rw [r1 18 (by decide), k1 18 (by decide) (by decide) (by decide)]
    have hR := isRubber_ok (M := R) (p := p) hp4 (by omega)
    have r26 : R 26 p = M 21 p := by rw [r1 26 (by decide), k2 p hp4]
    have hnext : ∃ M2 : St, g (put R 21 p (nfr M v a p)) ((p : Int) + 1) = some M2 ∧ KM M M2 ∧ (∀ p, p < 4 → M2 21 p = nfr M v a p) ∧ M2 0 34 = nld M v f ∧ ∀ j, j ≠ 34 → M2 0 j = S 0 j := by
      refine hf _ _ ⟨p + 1, by omega, by omega, fun q c => by rw [put_ne c, r1 q c], fun p' c => ?_⟩ (by omega)
      by_cases ep : p' = p
      · subst ep; rw [put_at]
      · rw [put_j ep, r2 p' (by omega)]
    unfold nfr at hnext
    rw [cLT_pos (by omega), hR, bind_some', e18]
    by_cases hr : 1 ≤ M 18 p
    · rw [if_pos hr] at hnext
      rw [if_pos (by omega), cEQ_neg (by omega), (has_all v (by omega) p (by omega)).1, bind_some']
      by_cases hb : v.testBit p = true
      · rw [if_pos hb] at hnext ⊢
        rw [cEQ_neg (by omega), ldI_ok (by omega), Int.toNat_natCast, r26, stI_ok (by omega), Int.toNat_natCast]
        exact hnext
      · rw [if_neg hb] at hnext ⊢
        rw [cEQ_pos (by omega), ldI_ok (by omega), Int.toNat_natCast, r26, stI_ok (by omega), Int.toNat_natCast]
        exact hnext
    · rw [if_neg hr] at hnext
      rw [if_neg (by omega), cEQ_pos (by omega), ldI_ok (by omega), Int.toNat_natCast, r26, stI_ok (by omega), Int.toNat_natCast]
      exact hnext
theorem atEnd_ok {C M : St} (hI : Inv C M) {v : Nat} (hv : v < 32) {a f : Int} (ha : 0 ≤ a ∧ a ≤ 20) (hf0 : 0 ≤ f ∧ f ≤ 999) : ∃ R : St, pX5_settleAtEnd C (v : Int) a f = (pX4_settle R).bind (fun S5_ => some S5_) ∧ (∀ q, q < 13 ∨ 18 < q → R q = C q) ∧ ∀ M2 : St, KM M M2 → (∀ p, p < 4 → M2 21 p = nfr M v a p) → M2 0 34 = nld M v f → TM R M2 := by
  obtain ⟨T, e1, h1, t1, t2⟩ := layOut_ok hI
  unfold pX5_settleAtEnd
  rw [e1, bind_some']
  refine lo2_spec (fun o => ∃ R : St, o = (pX4_settle R).bind (fun S5_ => some S5_) ∧ (∀ q, q < 13 ∨ 18 < q → R q = C q) ∧ ∀ M2 : St, KM M M2 → (∀ p, p < 4 → M2 21 p = nfr M v a p) → M2 0 34 = nld M v f → TM R M2) (fun (R : St) (y : Int) => ∃ p : Nat, y = p ∧ p ≤ 4 ∧ (∀ q, q ≠ 16 → R q = T q) ∧ (∀ p', p' < p → R 16 p' = nfr M v a p' - M 25 p') ∧ ∀ p', p ≤ p' → R 16 p' = T 16 p') (fun _ y => (4 - y).toNat) ?_ FU T 0 ⟨0, rfl, by omega, fun _ _ => rfl, fun p' b => by omega, fun _ _ => rfl⟩ (by have := FU_big; omega)
  rintro g R y ⟨p, rfl, hp, r1, r2, r3⟩ hf
  unfold pX5_settleAtEnd_7B pX5_settleAtEnd_52 pX5_settleAtEnd_54
  by_cases e : p = 4
  · subst e
    have hset := hI.2.2.2.2.1.1
    have hlid := h1.2.1
    have h86 : ∀ s0 : Int, -999 ≤ s0 → s0 ≤ 999 → nld M v f = max 0 (M 0 34 + s0) → ∃ R' : St, pX5_settleAtEnd_86 R s0 (R 13 5) 0 = (pX4_settle R').bind (fun S5_ => some S5_) ∧ (∀ q, q < 13 ∨ 18 < q → R' q = C q) ∧ ∀ M2 : St, KM M M2 → (∀ p, p < 4 → M2 21 p = nfr M v a p) → M2 0 34 = nld M v f → TM R' M2 := by
      intro s0 b1 b2 b3
      unfold pX5_settleAtEnd_86
      rw [r1 13 (by decide), hlid.1, max_ok (by omega), bind_some']
      simp only [setS]
      refine ⟨_, rfl, fun q c => by rw [put_ne (by omega), r1 q (by omega), t1 q c], fun M2 m1 m2 m3 => ?_⟩
      obtain ⟨k1, k2, k3, k4⟩ := m1
      refine h1.re (fun q c => by rw [put_ne (by omega), r1 q (by omega)]) (fun q c1 c2 c3 => k1 q c1 c2 (by omega)) (fun p c => ?_) ?_ ?_ ?_
      · have htp : tp M2 p = nfr M v a p - M 25 p := by unfold tp; rw [m2 p c, k1 25 (by decide) (by decide) (by decide)]
        obtain ⟨-, s2, -, -, -, s6, -, -⟩ := hI.2.2.2.1 p c
        refine ⟨by rw [put_ne (by decide), r2 p c, htp], ?_, ?_⟩ <;> (rw [htp]; unfold nfr; (repeat' split) <;> omega)
      · rw [put_at, m3, b3]
        exact ⟨rfl, by omega, by omega⟩
      · rw [put_j (by decide), r1 13 (by decide), k4 35 (by omega)]; exact h1.2.2.1
      · rw [put_j (by decide), r1 13 (by decide), k4 36 (by omega)]; exact h1.2.2.2
    rw [cLT_neg (by omega), show (4 : Int) = ((4 : Nat) : Int) from rfl, (has_all v (by omega) 4 (by omega)).2, bind_some']
    by_cases hb : v.testBit 4 = true
    · rw [if_pos hb, cEQ_neg (by omega)]
      exact h86 _ (by omega) (by omega) (by unfold nld; rw [if_pos hb])
    · rw [if_neg hb, cEQ_pos (by omega)]
      exact h86 _ (by omega) (by omega) (by unfold nld; rw [if_neg hb, Int.sub_eq_add_neg])
  · have hp4 : p < 4 := by omega
    obtain ⟨j1, j2, j3, j4, -, -⟩ := h1.1 p hp4
    have htp : tp M p = M 21 p - M 25 p := rfl
    have hnext : ∀ w : Int, w = nfr M v a p - M 25 p → ∃ R' : St, g (put R 16 p w) ((p : Int) + 1) = (pX4_settle R').bind (fun S5_ => some S5_) ∧ (∀ q, q < 13 ∨ 18 < q → R' q = C q) ∧ ∀ M2 : St, KM M M2 → (∀ p, p < 4 → M2 21 p = nfr M v a p) → M2 0 34 = nld M v f → TM R' M2 := fun w hw => by
      refine hf _ _ ⟨p + 1, by omega, by omega, fun q c => by rw [put_ne c, r1 q c], fun p' c => ?_, fun p' c => by rw [put_j (by omega), r3 p' (by omega)]⟩ (by omega)
      by_cases ep : p' = p
      · subst ep; rw [put_at, hw]
      · rw [put_j ep, r2 p' (by omega)]
    rw [cLT_pos (by omega), ldI_ok (by omega), Int.toNat_natCast, r1 15 (by decide), j2]
    by_cases hr : 1 ≤ M 18 p
    · rw [if_pos hr, cEQ_neg (by omega), ldI_ok (by omega), Int.toNat_natCast, r3 p (Nat.le_refl p), j4.1, (has_all v (by omega) p (by omega)).2, bind_some']
      by_cases hb : v.testBit p = true
      · rw [if_pos hb, cEQ_neg (by omega), stI_ok (by omega), Int.toNat_natCast]
        exact hnext _ (by unfold nfr; rw [if_pos hr, if_pos hb]; omega)
      · rw [if_neg hb, cEQ_pos (by omega), stI_ok (by omega), Int.toNat_natCast]
        exact hnext _ (by unfold nfr; rw [if_pos hr, if_neg hb]; omega)
    · rw [if_neg hr, cEQ_pos (by omega)]
      simp only [setS]
      refine hf R _ ⟨p + 1, by omega, by omega, r1, fun p' c => ?_, fun p' c => r3 p' (by omega)⟩ (by omega)
      by_cases ep : p' = p
      · subst ep; rw [r3 p' (Nat.le_refl p'), j4.1]; unfold nfr; rw [if_neg hr]; rfl
      · exact r2 p' (by omega)
