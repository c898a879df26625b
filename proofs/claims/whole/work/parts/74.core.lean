/-! the core, the class's side -/
theorem ldR_ok {α : Type} {S : St} {q n : Nat} {i : Int} {P : Nat → Bool} {k : Nat → Option α} (r : Nat) (hi : 0 ≤ i ∧ i < n) (h : S q i.toNat = (r : Int) + 1) (hP : P r = true) : ldR S q n i P k = k r := by
  unfold ldR; rw [if_pos hi, gtR_ok r h hP]
theorem stiff_ok {T M : St} (h : TM T M) {p : Nat} (hp : p < 4) (hr : 1 ≤ M 18 p) : pX4_stiffness T (p : Int) = some (fac M (sx M p)) := by
  obtain ⟨-, -, -, -, -, h6⟩ := h.1 p hp
  obtain ⟨-, e1, hs, e18, hd, -⟩ := h6 hr
  obtain ⟨-, -, hc, -⟩ := h
  obtain ⟨-, -, -, -, -, -, -, -, c4, c5, c6, -⟩ := hd
  unfold pX4_stiffness
  rw [ldR_ok (43 + 3 * sx M p) ⟨by omega, by omega⟩ (by rw [Int.toNat_natCast]; exact e18) (isStf_s hs), hc.1, c4, cLT_if (by omega)]
  unfold fac; split <;> rfl
theorem pushAt_ok {T M : St} (h : TM T M) {z : Int} (hz : -2000 ≤ z ∧ z ≤ 2000) : pX4_pushAt T z = some (SS M z) := by
  unfold pX4_pushAt
  refine lo2_spec (fun o => o = some (SS M z)) (fun (x y : Int) => ∃ p : Nat, y = p ∧ p ≤ 4 ∧ x = sm (psh M z) p) (fun _ y => (4 - y).toNat) ?_ FU 0 0 ⟨0, rfl, by omega, rfl⟩ (by have := FU_big; omega)
  rintro f x y ⟨p, rfl, hp, rfl⟩ hf
  unfold pX4_pushAt_5B
  by_cases e : p = 4
  · subst e
    rw [cLT_neg (by omega)]; rfl
  · have hp4 : p < 4 := by omega
    have ht := h.1 p hp4
    have hps : sm (psh M z) (p + 1) = sm (psh M z) p + psh M z p := rfl
    have hnext := hf (sm (psh M z) (p + 1)) ((p : Int) + 1) ⟨p + 1, by omega, by omega, rfl⟩ (by omega)
    obtain ⟨k1, k2, k3, k4, k5, k6⟩ := ht
    unfold pX4_pushAt_73
    simp (disch := omega) only [cLT_pos, ldI_ok, Int.toNat_natCast, k2, k4.1, k5.1, setS]
    by_cases hr : 1 ≤ M 18 p
    · rw [if_pos hr]
      obtain ⟨-, r2, r3, r4, r5, r6, r7⟩ := k6 hr
      rw [cEQ_neg (by omega)]
      by_cases hl : z < tp M p
      · rw [cLT_pos (by omega), wdI_ok (by omega), stiff_ok h hp4 hr, bind_some', ldR_ok (43 + 3 * sx M p) ⟨by omega, by omega⟩ (by rw [Int.toNat_natCast]; exact r4) (isStf_s r3), sP_scaled r3 r5 r6 r7 (by omega), bind_some']
        have e : psh M z p = M 22 p * fac M (sx M p) * sP M (sx M p) (tp M p - z) := by unfold psh byM; rw [if_pos ⟨hr, hl⟩]
        rw [hps, e] at hnext
        exact hnext
      · rw [cLT_neg (by omega)]
        have e : psh M z p = 0 := by unfold psh; rw [if_neg (by omega)]
        rw [hps, e, Int.add_zero] at hnext
        exact hnext
    · rw [if_neg hr, cEQ_pos (by omega)]
      have e : psh M z p = 0 := by unfold psh; rw [if_neg (by omega)]
      rw [hps, e, Int.add_zero] at hnext
      exact hnext
/-! floor, highest top -/
def hF (M : St) : Nat → Int
  | 0 => 0
  | n + 1 => if M 18 n = 0 then max (hF M n) (tp M n) else hF M n
def hT (M : St) (f : Int) : Nat → Int
  | 0 => f
  | n + 1 => if 1 ≤ M 18 n then max (hT M f n) (tp M n) else hT M f n
theorem hF_b {T M : St} (h : TM T M) : ∀ n, n ≤ 4 → 0 ≤ hF M n ∧ hF M n ≤ 1300 ∧ (∀ p, p < n → M 18 p = 0 → tp M p ≤ hF M n) ∧ (hF M n = 0 ∨ ∃ p, p < n ∧ M 18 p = 0 ∧ hF M n = tp M p)
  | 0, _ => ⟨by simp [hF], by simp [hF], fun p hp => by omega, Or.inl rfl⟩
  | n + 1, hn => by
    obtain ⟨a1, a2, a3, a4⟩ := hF_b h n (by omega)
    obtain ⟨-, -, -, k4, -, -⟩ := h.1 n (by omega)
    simp only [hF]
    by_cases e : M 18 n = 0
    · rw [if_pos e]
      refine ⟨by omega, by omega, fun p hp hq => ?_, ?_⟩
      · by_cases e2 : p = n
        · subst e2; omega
        · have := a3 p (by omega) hq; omega
      · by_cases e3 : tp M n ≤ hF M n
        · rw [Int.max_eq_left e3]
          rcases a4 with a4 | ⟨p, b1, b2, b3⟩
          · exact Or.inl a4
          · exact Or.inr ⟨p, by omega, b2, b3⟩
        · exact Or.inr ⟨n, by omega, e, by omega⟩
    · rw [if_neg e]
      refine ⟨a1, a2, fun p hp hq => ?_, ?_⟩
      · by_cases e2 : p = n
        · subst e2; exact absurd hq e
        · exact a3 p (by omega) hq
      · rcases a4 with a4 | ⟨p, b1, b2, b3⟩
        · exact Or.inl a4
        · exact Or.inr ⟨p, by omega, b2, b3⟩
theorem hT_b {T M : St} (h : TM T M) {f : Int} (hf : f ≤ 1300) : ∀ n, n ≤ 4 → f ≤ hT M f n ∧ hT M f n ≤ 1300 ∧ (∀ p, p < n → 1 ≤ M 18 p → tp M p ≤ hT M f n)
  | 0, _ => ⟨by simp [hT], by simp [hT]; exact hf, fun p hp => by omega⟩
  | n + 1, hn => by
    obtain ⟨a1, a2, a3⟩ := hT_b h hf n (by omega)
    obtain ⟨-, -, -, k4, -, -⟩ := h.1 n (by omega)
    simp only [hT]
    by_cases e : 1 ≤ M 18 n
    · rw [if_pos e]
      refine ⟨by omega, by omega, fun p hp hq => ?_⟩
      by_cases e2 : p = n
      · subst e2; omega
      · have := a3 p (by omega) hq; omega
    · rw [if_neg e]
      refine ⟨a1, a2, fun p hp hq => ?_⟩
      by_cases e2 : p = n
      · subst e2; exact absurd hq e
      · exact a3 p (by omega) hq
theorem floor_ok {T M : St} (h : TM T M) : pX4_floorHeight T = some (hF M 4) := by
  unfold pX4_floorHeight
  refine lo2_spec (fun o => o = some (hF M 4)) (fun (x y : Int) => ∃ p : Nat, y = p ∧ p ≤ 4 ∧ x = hF M p) (fun _ y => (4 - y).toNat) ?_ FU 0 0 ⟨0, rfl, by omega, rfl⟩ (by have := FU_big; omega)
  rintro f x y ⟨p, rfl, hp, rfl⟩ hf
  unfold pX4_floorHeight_4B pX4_floorHeight_29
  by_cases e : p = 4
  · subst e
    rw [cLT_neg (by omega)]
  · have hnext := hf (hF M (p + 1)) ((p : Int) + 1) ⟨p + 1, by omega, by omega, rfl⟩ (by omega)
    have hp4 : p < 4 := by omega
    have hb := hF_b h p hp
    obtain ⟨k1, k2, k3, k4, k5, k6⟩ := h.1 p (by omega)
    simp (disch := omega) only [cLT_pos, ldI_ok, Int.toNat_natCast, k3, k4.1, setS]
    have hh : hF M (p + 1) = if M 18 p = 0 then max (hF M p) (tp M p) else hF M p := rfl
    rw [hh] at hnext
    by_cases hr : M 18 p = 0
    · rw [if_pos hr] at hnext ⊢
      rw [cEQ_neg (by omega), max_ok (by omega), bind_some']
      exact hnext
    · rw [if_neg hr] at hnext ⊢
      rw [cEQ_pos (by omega)]
      exact hnext
theorem hiTop_ok {T M : St} (h : TM T M) {f0 : Int} (hf0 : 0 ≤ f0 ∧ f0 ≤ 1300) : pX4_highestTop T f0 = some (hT M f0 4) := by
  unfold pX4_highestTop
  refine lo2_spec (fun o => o = some (hT M f0 4)) (fun (x y : Int) => ∃ p : Nat, y = p ∧ p ≤ 4 ∧ x = hT M f0 p) (fun _ y => (4 - y).toNat) ?_ FU f0 0 ⟨0, rfl, by omega, rfl⟩ (by have := FU_big; omega)
  rintro f x y ⟨p, rfl, hp, rfl⟩ hf
  unfold pX4_highestTop_4B pX4_highestTop_29
  by_cases e : p = 4
  · subst e
    rw [cLT_neg (by omega)]
  · have hnext := hf (hT M f0 (p + 1)) ((p : Int) + 1) ⟨p + 1, by omega, by omega, rfl⟩ (by omega)
    have hp4 : p < 4 := by omega
    have hb := hT_b h hf0.2 p hp
    obtain ⟨k1, k2, k3, k4, k5, k6⟩ := h.1 p (by omega)
    simp (disch := omega) only [cLT_pos, ldI_ok, Int.toNat_natCast, k2, k4.1, setS]
    have hh : hT M f0 (p + 1) = if 1 ≤ M 18 p then max (hT M f0 p) (tp M p) else hT M f0 p := rfl
    rw [hh] at hnext
    by_cases hr : 1 ≤ M 18 p
    · rw [if_pos hr] at hnext ⊢
      rw [cEQ_neg (by omega), max_ok (by omega), bind_some']
      exact hnext
    · rw [if_neg hr] at hnext ⊢
      rw [cEQ_pos (by omega)]
      exact hnext
/-! how much the push can rise from one height to the next -/
theorem sP_step2 {C M : St} {s : Nat} (hd : StfD C M s) (h0 : M 9 (5 * s) = 0 ∧ M 10 (5 * s) = 0) {u : Int} (hu : 0 ≤ u) : sP M s (u + 1) - sP M s u ≤ 232559767440 := by
  have hlt := sP_step hd h0 hu
  have hl := lnOf_ok hd u
  generalize lnOf M s u = k at hl
  have o1 := on_line hd h0 hu hl
  have o2 : OnL M s (u + 1) k := by
    obtain ⟨a1, a2, a3⟩ := o1
    refine ⟨a1, by omega, ?_⟩
    rcases hl.2.2 with e | e
    · exact Or.inl e
    · exact Or.inr (by omega)
  have h1 := sP_on hd h0 o1
  have h2 := sP_on hd h0 o2
  have hw := pW_b hd h0 o1.1
  rw [pN_add (u := u), show u + 1 - u = 1 by omega, Int.one_mul] at h2
  have h3 : pW M s k * (sP M s (u + 1) - sP M s u) ≤ 232559767440 := by rw [Int.mul_sub]; omega
  have h4 : 1 * (sP M s (u + 1) - sP M s u) ≤ pW M s k * (sP M s (u + 1) - sP M s u) := Int.mul_le_mul_of_nonneg_right (by omega) (by omega)
  omega
theorem psh_dif {T M : St} {p : Nat} (h : TP T M p) (z : Int) : psh M z p - psh M (z + 1) p ≤ 6279113720880 := by
  by_cases hc : 1 ≤ M 18 p ∧ z < tp M p
  · have hb := byM_b h hc.1
    obtain ⟨-, -, -, h4, -, h6⟩ := h
    obtain ⟨-, -, -, -, hd, -, h0⟩ := h6 hc.1
    have hs := sP_step2 hd h0 (u := tp M p - (z + 1)) (by omega)
    have hs1 := sP_step hd h0 (u := tp M p - (z + 1)) (by omega)
    rw [show tp M p - (z + 1) + 1 = tp M p - z by omega] at hs hs1
    have e1 : psh M z p = byM M p * sP M (sx M p) (tp M p - z) := by unfold psh; rw [if_pos hc]
    have e2 : psh M (z + 1) p = byM M p * sP M (sx M p) (tp M p - (z + 1)) := by
      unfold psh
      split
      · rfl
      · have e : tp M p - (z + 1) = 0 := by omega
        rw [e, sP_zero hd h0, Int.mul_zero]
    have m : byM M p * (sP M (sx M p) (tp M p - z) - sP M (sx M p) (tp M p - (z + 1))) ≤ 27 * 232559767440 := Int.mul_le_mul hb.2 hs (by omega) (by omega)
    rw [e1, e2, ← Int.mul_sub]
    omega
  · have e1 : psh M z p = 0 := by unfold psh; rw [if_neg hc]
    have e2 : psh M (z + 1) p = 0 := by unfold psh; rw [if_neg (by omega)]
    omega
theorem SS_dif {T M : St} (h : TM T M) (z : Int) : SS M z - SS M (z + 1) ≤ 25116454883520 := by
  have a0 := psh_dif (h.1 0 (by decide)) z
  have a1 := psh_dif (h.1 1 (by decide)) z
  have a2 := psh_dif (h.1 2 (by decide)) z
  have a3 := psh_dif (h.1 3 (by decide)) z
  simp only [SS, sm]
  omega
