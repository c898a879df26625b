/-! weakest -/
theorem lo25_rel {A A' B B1 B2 B3 B4 ρ ρ' : Type} {F : (A → A' → Option ρ) → A → A' → Option ρ} {G : (B → B1 → B2 → B3 → B4 → Option ρ') → B → B1 → B2 → B3 → B4 → Option ρ'} (Q : Option ρ → Option ρ' → Prop) (I : A → A' → B → B1 → B2 → B3 → B4 → Prop) (μ : A → A' → Nat) (h : ∀ k k' a b x x1 x2 x3 x4, I a b x x1 x2 x3 x4 → (∀ a' b' y y1 y2 y3 y4, I a' b' y y1 y2 y3 y4 → μ a' b' < μ a b → Q (k a' b') (k' y y1 y2 y3 y4)) → Q (F k a b) (G k' x x1 x2 x3 x4)) : ∀ n a b x x1 x2 x3 x4, I a b x x1 x2 x3 x4 → μ a b < n → Q (lo2 F n a b) (lo5 G n x x1 x2 x3 x4)
  | 0, _, _, _, _, _, _, _, _, hm => by omega
  | n + 1, a, b, x, x1, x2, x3, x4, hI, hm => h (lo2 F n) (lo5 G n) a b x x1 x2 x3 x4 hI (fun a' b' y y1 y2 y3 y4 hI' hm' => lo25_rel Q I μ h n a' b' y y1 y2 y3 y4 hI' (by omega))
theorem PR.less {a w a' b' c v c' d' d : Int} (h1 : PR a (w * d) a' b') (h2 : PR c (v * d) c' d') (hd : 1 ≤ d) : a' * d' < c' * b' ↔ a * v < c * w := by
  obtain ⟨e1, -, p1, -, p2⟩ := h1
  obtain ⟨e2, -, p3, -, p4⟩ := h2
  have k1 : 0 < (w * d) * (v * d) := Int.mul_pos (by omega) (by omega)
  have k2 : 0 < (b' * d') * d := Int.mul_pos (Int.mul_pos (by omega) (by omega)) (by omega)
  have s1 : a' * d' < c' * b' ↔ (w * d) * (v * d) * (a' * d') < (w * d) * (v * d) * (c' * b') := (Int.mul_lt_mul_left k1).symm
  have s2 : a * v < c * w ↔ (b' * d') * d * (a * v) < (b' * d') * d * (c * w) := (Int.mul_lt_mul_left k2).symm
  have t1 : (w * d) * (v * d) * (a' * d') = (b' * d') * d * (a * v) := by
    rw [show (w * d) * (v * d) * (a' * d') = (a' * (w * d)) * (v * d) * d' by grind, ← e1]; grind
  have t2 : (w * d) * (v * d) * (c' * b') = (b' * d') * d * (c * w) := by
    rw [show (w * d) * (v * d) * (c' * b') = (c' * (v * d)) * (w * d) * b' by grind, ← e2]; grind
  rw [s1, s2, t1, t2]
theorem weak_loop {T M : St} {u d : Int} (h : Sd T M u d) (hI : Inv T M) (hex : ∃ p, p < 4 ∧ 1 ≤ M 18 p) : agWW Inv (lo2 (pX5_weakest_8B T) FU (-1) 0) (lo5 (pX6_weakest_32B) FU M (-9) 0 1 0) := by
  refine lo25_rel (agWW Inv) (fun (x1 x2 : Int) (S : St) (be up lo y : Int) => ∃ p : Nat, x2 = p ∧ y = p ∧ p ≤ 4 ∧ Sd T S u d ∧ FM M S ∧ ((x1 = -1 ∧ be = -9 ∧ up = 0 ∧ lo = 1 ∧ ∀ p', p' < p → ¬ 1 ≤ M 18 p') ∨ ∃ q : Nat, q < 4 ∧ 1 ≤ M 18 q ∧ x1 = q ∧ be = q ∧ (1 ≤ T 20 q ∧ T 20 q ≤ 20) ∧ PR (T 19 q) (T 20 q * d) up lo)) (fun _ y => (4 - y).toNat) ?_ FU (-1) 0 M (-9) 0 1 0 ⟨0, rfl, rfl, by omega, h, ⟨fun _ _ => rfl, fun _ _ => rfl⟩, Or.inl ⟨rfl, rfl, rfl, rfl, fun p' a => by omega⟩⟩ (by have := FU_big; omega)
  rintro f g x1 x2 S be up lo y ⟨p, rfl, rfl, hp, hS, hM, hc⟩ hf
  unfold pX5_weakest_8B pX5_weakest_41 pX5_weakest_43 pX6_weakest_32B pX6_weakest_76 pX6_weakest_90
  have hIS : Inv T S := hI.scr hM.1 (fun j a => hM.2 j (by omega))
  by_cases e : p = 4
  · subst e
    rw [cLT_neg (x := ((4 : Nat) : Int)) (y := 4) (by omega), cLT_neg (x := ((4 : Nat) : Int)) (y := 4) (by omega)]
    rcases hc with ⟨-, -, -, -, c5⟩ | ⟨q, c1, c2, rfl, rfl, c5, c6⟩
    · obtain ⟨p, a, b⟩ := hex
      exact absurd b (c5 p a)
    · have hdv := c6.div
      obtain ⟨-, b1, b2, b3, b4⟩ := c6
      unfold pX4_cutPress pX4_pressDown pX5_cut pX6_tells
      rw [cLT_neg (by omega), ldI_ok (by omega), Int.toNat_natCast, ldI_ok (by omega), Int.toNat_natCast, wdI_ok (by omega), bind_some', h.2.2.1, lLT_neg (by omega), dvL_ok (by omega), Int.tdiv_eq_ediv_of_nonneg b1.1, bind_some', bind_some', dvL_ok (by omega), Int.tdiv_eq_ediv_of_nonneg b3.1, hdv.1]
      simp only [setS, bnd_some]
      exact ⟨_, _, _, rfl, rfl, Inv_asked hIS _⟩
  · have hp4 : p < 4 := by omega
    obtain ⟨k1, k2, -⟩ := h.1.1 p hp4
    have e18 : S 18 p = M 18 p := by rw [hM.1 18 (by decide)]
    have hR := isRubber_ok (M := S) (p := p) hp4 (by omega)
    rw [cLT_pos (x := (p : Int)) (y := 4) (by omega), cLT_pos (x := (p : Int)) (y := 4) (by omega), ldI_ok (by omega), Int.toNat_natCast, k2, hR, bind_some', e18]
    by_cases hr : 1 ≤ M 18 p
    · obtain ⟨M3, b1, b2, b3, b4, b5, b6, b7⟩ := hS.press hp4 (by omega)
      have hF3 : FM M M3 := ⟨fun q a => by rw [b6 q a, hM.1 q a], fun j a => by rw [b7 j (by omega) (by omega) (by omega) (by omega) (by omega), hM.2 j a]⟩
      have htake := hf (p : Int) ((p : Int) + 1) M3 (p : Int) (M3 0 42) (M3 0 43) ((p : Int) + 1) ⟨p + 1, by omega, by omega, by omega, b5, hF3, Or.inr ⟨p, hp4, hr, rfl, rfl, b3, b2⟩⟩ (by omega)
      rw [if_pos hr, if_pos (by omega), cEQ_neg (by omega), cEQ_neg (by omega), b1, bind_some']
      simp only [setS]
      rcases hc with ⟨rfl, rfl, rfl, rfl, c5⟩ | ⟨q, c1, c2, rfl, rfl, c5, c6⟩
      · rw [cLT_pos (by omega), cEQ_pos (by omega)]
        exact htake
      · have hkeep := hf (q : Int) ((p : Int) + 1) M3 (q : Int) up lo ((p : Int) + 1) ⟨p + 1, by omega, by omega, by omega, b5, hF3, Or.inr ⟨q, c1, c2, rfl, rfl, c5, c6⟩⟩ (by omega)
        have hless := PR.less b2 c6 (by have := h.2.2.2.2.2.1.1; omega)
        obtain ⟨-, d1, d2, d3, d4⟩ := b2
        obtain ⟨-, f1, f2, f3, f4⟩ := c6
        have m1 : 0 ≤ T 19 p * T 20 q := Int.mul_nonneg d1.1 (by omega)
        have m2 : T 19 p * T 20 q ≤ 100000000000000000 * 20 := Int.mul_le_mul d1.2 c5.2 (by omega) (by omega)
        have m3 : 0 ≤ T 19 q * T 20 p := Int.mul_nonneg f1.1 (by omega)
        have m4 : T 19 q * T 20 p ≤ 100000000000000000 * 20 := Int.mul_le_mul f1.2 b3.2 (by omega) (by omega)
        rw [cLT_neg (by omega), cEQ_neg (by omega)]
        unfold pX4_pressesLess
        rw [ldI_ok (by omega), Int.toNat_natCast, ldI_ok (by omega), Int.toNat_natCast, wdI_ok (by omega), ldI_ok (by omega), Int.toNat_natCast, ldI_ok (by omega), Int.toNat_natCast, wdI_ok (by omega)]
        obtain ⟨n1, en1⟩ := Int.eq_ofNat_of_zero_le d3.1
        obtain ⟨n2, en2⟩ := Int.eq_ofNat_of_zero_le (show 0 ≤ M3 0 43 by omega)
        obtain ⟨n3, en3⟩ := Int.eq_ofNat_of_zero_le f3.1
        obtain ⟨n4, en4⟩ := Int.eq_ofNat_of_zero_le (show 0 ≤ lo by omega)
        rw [en1, en2, en3, en4] at hless
        have hcast : ((n1 : Int) * (n4 : Int) < (n3 : Int) * (n2 : Int)) ↔ n1 * n4 < n3 * n2 := by
          rw [← Int.natCast_mul, ← Int.natCast_mul]; exact Int.ofNat_lt
        rw [hcast] at hless
        have hil := isLess_ok (p := n1) (q := n2) (r := n3) (s := n4) (by omega) (by omega) (by omega) (by omega) (by omega) (by omega)
        rw [← en1, ← en2, ← en3, ← en4] at hil
        rw [hil, bind_some']
        by_cases hl : n1 * n4 < n3 * n2
        · rw [if_pos hl, lLT_pos ⟨by omega, hless.1 hl, by omega⟩, bind_some', cEQ_neg (by omega), cEQ_neg (by omega)]
          exact htake
        · have hl' : ¬ T 19 p * T 20 q < T 19 q * T 20 p := fun z => hl (hless.2 z)
          rw [if_neg hl, lLT_neg ⟨by omega, by omega, by omega⟩, bind_some', cEQ_pos (by omega), cEQ_pos (by omega)]
          exact hkeep
    · rw [if_neg hr, if_neg (by omega), cEQ_pos (by omega), cEQ_pos (by omega)]
      simp only [setS]
      refine hf x1 ((p : Int) + 1) S be up lo ((p : Int) + 1) ⟨p + 1, by omega, by omega, by omega, hS, hM, ?_⟩ (by omega)
      rcases hc with ⟨c1, c2, c3, c4, c5⟩ | hc
      · refine Or.inl ⟨c1, c2, c3, c4, fun p' a => ?_⟩
        by_cases ep : p' = p
        · subst ep; exact hr
        · exact c5 p' (by omega)
      · exact Or.inr hc
theorem weakC_none {T M : St} (h : TM T M) (hn : ∀ p, p < 4 → ¬ 1 ≤ M 18 p) : lo2 (pX5_weakest_8B T) FU (-1) 0 = some (-9, T) := by
  refine lo2_spec (fun o => o = some (-9, T)) (fun (x y : Int) => ∃ p : Nat, y = p ∧ p ≤ 4 ∧ x = -1) (fun _ y => (4 - y).toNat) ?_ FU (-1) 0 ⟨0, rfl, by omega, rfl⟩ (by have := FU_big; omega)
  rintro f x y ⟨p, rfl, hp, rfl⟩ hf
  unfold pX5_weakest_8B pX5_weakest_43
  by_cases e : p = 4
  · subst e
    rw [cLT_neg (by omega), cLT_pos (by omega)]
  · obtain ⟨k1, k2, -⟩ := h.1 p (by omega)
    rw [cLT_pos (by omega), ldI_ok (by omega), Int.toNat_natCast, k2, if_neg (hn p (by omega)), cEQ_pos (by omega)]
    exact hf (-1) ((p : Int) + 1) ⟨p + 1, by omega, by omega, rfl⟩ (by omega)
theorem e_weakest : ca_21 Inv := by
  intro C M hI
  unfold pX5_weakest pX6_weakest
  obtain ⟨T0, e0, hTM, -⟩ := layOut_ok hI
  obtain ⟨t, M2, e1, hi, f1, f2⟩ := highest_ok hTM (a := 0) (b := 1) (by omega) (by omega)
  have hI2 : Inv C M2 := hI.trial (fun _ _ => rfl) (fun q a _ => f1 q a) (fun j a => f2 j (by omega))
  obtain ⟨u, d, T', M', a1, a2, a3, a4, a5, a6, a7, a8, -, -⟩ := asIs_ok hI2
  rw [a1, bind_some', e1, bnd_some]
  rcases hi with ⟨q1, q2, q3⟩ | ⟨q1, ⟨p, hp, hs, q2⟩, q3⟩
  · have hn : ∀ p, p < 4 → ¬ 1 ≤ M' 18 p := fun p hp hr => q3 p hp (Or.inr ⟨by rw [← f1 18 (by decide), ← a6 18 (by decide)]; exact hr, rfl⟩)
    rw [cEQ_pos (by omega), weakC_none a3.1 hn]
    exact ⟨_, _, _, rfl, rfl, hI2.trial (fun q a => a5 q a) (fun _ _ _ => rfl) (fun _ _ => rfl)⟩
  · rw [cEQ_neg (by omega), a2, bind_some']
    exact weak_loop a3 a4 ⟨p, hp, by rw [a6 18 (by decide), f1 18 (by decide)]; unfold sel at hs; omega⟩
