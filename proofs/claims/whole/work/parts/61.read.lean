/-! the reader's pairs -/
theorem RR.x15 {C M : St} {t : Nat} {j : Int} (h : RR C M t j) {n : Nat} (hn : M 0 18 = n) (v : Int) : RR C (put M 15 (n + 1) v) t j := by
  obtain ⟨h1, h2, h3⟩ := h
  refine ⟨h1.scr2 (fun _ _ => rfl) ⟨h1.2.2.2.2.2.2.1, h1.2.2.2.2.2.2.2.1⟩ (fun q a _ b _ _ _ => put_ne b) ?_ (fun i hi => by rw [put_ne (by decide)]), ?_, ?_⟩
  · rw [put_j (by omega), put_ne (by decide)]; exact h1.2.2.2.2.2.2.2.2
  · obtain ⟨d1, d2, d3, d4, d5, d6, d7, d8, d9, d10⟩ := h2
    unfold DR
    rw [put_ne (show (0 : Nat) ≠ 15 by decide), put_ne (show (16 : Nat) ≠ 15 by decide), put_ne (show (17 : Nat) ≠ 15 by decide)]
    refine ⟨d1, d2, d3, fun k hk => ?_, fun k hk => ?_, fun k hk => ?_, d7, d8, d9, d10⟩
    · rw [put_j (by omega)]; exact d4 k hk
    · rw [put_j (by omega), put_j (by omega)]; exact d5 k hk
    · rw [put_j (by omega)]; exact d6 k hk
  · obtain ⟨r1, r2, r3, r4, r5, r6⟩ := h3
    exact ⟨r1, r2, by rw [put_ne (by decide)]; exact r3, r4, by rw [put_ne (by decide)]; exact r5, r6.congr (fun q a b => rfl) (by rw [put_ne (by decide)]) (by rw [put_ne (by decide)])⟩
theorem RR.pair {C M : St} {t : Nat} {j : Int} (h : RR C M t j) {n : Nat} (hn : M 0 18 = n) (hn4 : n < 4) {x y : Int} (hx : M 15 (n + 1) = x ∧ M 15 n < x ∧ x ≤ 20) (hy : M 16 n < y ∧ y ≤ 999) : RR (put (put (put C 8 2 ((n : Int) + 1)) 9 (n + 1) x) 10 (n + 1) y) (put (put M 16 (n + 1) y) 0 18 ((n : Int) + 1)) t j := by
  obtain ⟨h1, h2, h3⟩ := h
  refine ⟨h1.scr2 (fun q hq => by rw [put_ne (by omega), put_ne (by omega), put_ne (by omega)]) ?_ (fun q a _ _ b _ _ => by rw [put_ne a, put_ne b]) ?_ (fun i hi => by rw [put_j (by omega), put_ne (by decide)]), ?_, ?_⟩
  · rw [put_ne (show (9 : Nat) ≠ 10 by decide), put_j (by omega), put_ne (show (9 : Nat) ≠ 8 by decide), put_j (by omega), put_ne (show (10 : Nat) ≠ 9 by decide), put_ne (show (10 : Nat) ≠ 8 by decide)]
    exact ⟨h1.2.2.2.2.2.2.1, h1.2.2.2.2.2.2.2.1⟩
  · rw [put_ne (by decide), put_ne (by decide), put_ne (by decide), put_j (by omega)]; exact h1.2.2.2.2.2.2.2.2
  · obtain ⟨d1, d2, d3, d4, d5, d6, d7, d8, d9, d10⟩ := h2
    unfold DR
    rw [put_at, put_ne (show (15 : Nat) ≠ 0 by decide), put_ne (show (16 : Nat) ≠ 0 by decide), put_ne (show (17 : Nat) ≠ 0 by decide), put_ne (show (15 : Nat) ≠ 16 by decide), put_ne (show (17 : Nat) ≠ 16 by decide), put_ne (show (8 : Nat) ≠ 10 by decide), put_ne (show (8 : Nat) ≠ 9 by decide), put_at, put_ne (show (9 : Nat) ≠ 10 by decide)]
    rw [put_j (show (3 : Nat) ≠ 2 by decide), put_j (show (4 : Nat) ≠ 2 by decide), put_j (show (5 : Nat) ≠ 2 by decide), put_j (show (6 : Nat) ≠ 2 by decide)]
    refine ⟨rfl, by omega, by omega, fun k hk => ?_, fun k hk => ?_, fun k hk => ?_, d7, d8, d9, d10⟩
    · by_cases e : k = n + 1
      · subst e
        rw [put_at, put_at, put_at]
        exact ⟨hx.1.symm, rfl⟩
      · rw [put_j e, put_j e, put_j e, put_ne (show (9 : Nat) ≠ 8 by decide), put_ne (show (10 : Nat) ≠ 9 by decide), put_ne (show (10 : Nat) ≠ 8 by decide)]
        exact d4 k (by omega)
    · by_cases e : k = n
      · subst e
        rw [put_at, put_j (by omega), hx.1]
        exact ⟨hx.2.1, hy.1⟩
      · rw [put_j (by omega), put_j (by omega)]
        exact d5 k (by omega)
    · by_cases e : k = n + 1
      · subst e
        have := d6 n (by omega)
        rw [put_at, hx.1]
        omega
      · rw [put_j e]
        exact d6 k (by omega)
  · obtain ⟨r1, r2, r3, r4, r5, r6⟩ := h3
    exact ⟨by rw [put_ne (by decide), put_ne (by decide), put_ne (by decide)]; exact r1, by rw [put_ne (by decide), put_ne (by decide), put_ne (by decide)]; exact r2, by rw [put_j (by decide), put_ne (by decide)]; exact r3, r4, by rw [put_ne (by decide), put_ne (by decide)]; exact r5, r6.congr (fun q a b => by rw [put_ne (by omega), put_ne (by omega), put_ne (by omega)]) (by rw [put_ne (by decide), put_ne (by decide)]) (by rw [put_ne (by decide), put_ne (by decide)])⟩
theorem pair_ok {C M : St} {t : Nat} {j : Int} (ht : t < 4) (h : RR C M t j) (hl : j < M 5 t) : itOK t j (pX0_readPair C) (pX6_readPoint M (t : Int)) := by
  have bad : ∀ {C' M' : St} {j' : Int}, RR C' M' t j' → itOK t j (some (0, C')) (some (0, M')) := fun hR => ⟨0, _, _, _, rfl, rfl, Or.inl rfl, hR, fun h => by omega⟩
  have hd := h.2.1
  obtain ⟨n, hn⟩ := Int.eq_ofNat_of_zero_le hd.2.1
  have hn4 := hd.2.2.1
  unfold pX0_readPair pX6_readPoint pX3_isFull
  rw [hd.1, hn]
  by_cases hf : n = 4
  · subst hf
    rw [cLT_neg (by omega), bind_some', cEQ_neg (by omega), cEQ_pos (by omega)]
    exact bad h
  · have hr2 := h.2.2.2.1
    have hr3 := h.2.2.2.2.1
    rw [cLT_pos (by omega), bind_some', cEQ_pos (by omega), cEQ_neg (by omega), hr2, hr3]
    simp only [setS]
    have hS := h.step hl
    obtain ⟨v, C1, M1, j1, n1, n2, n3, n4, n5, n6, n7, n8, n9⟩ := number_ok (m := 2) ht hS.2.2 (Or.inl rfl)
    have n4' : v < 100 := n4
    have e2 : ((2 : Nat) : Int) = 2 := rfl
    rw [e2] at n1 n2
    have h18 : put M 0 22 (j + 1) 0 18 = (n : Int) := by rw [put_j (by decide)]; exact hn
    rw [n1, n2, h18]
    simp only [bnd_some]
    have hR := hS.num n6 n8 n9
    have hd1 := hR.2.1
    have hn1 : M1 0 18 = n := by rw [n9.2 18 (by decide) (by decide)]; exact h18
    have hc1 : C1 8 2 = n := by rw [hd1.1]; exact hn1
    have hb := hd1.2.2.2.2.2.1 n (by omega)
    have hce := hd1.2.2.2.1 n (by omega)
    rw [hc1]
    by_cases h0 : 0 ≤ v
    · rw [if_pos h0, cEQ_neg (by omega)]
      simp (disch := omega) only [ldI_ok, Int.toNat_natCast, hce.1, n5 h0]
      by_cases hz : M1 15 n < v
      · rw [cLT_pos (x := M1 15 n) (y := v) (by omega)]
        by_cases h20 : 20 < v
        · rw [cLT_pos (x := 20) (y := v) (by omega), cLT_pos (x := 20) (y := v) (by omega), cLT_pos (x := M1 15 n) (y := v) (by omega)]
          exact bad hR
        · rw [cLT_neg (x := 20) (y := v) (by omega), cLT_neg (x := 20) (y := v) (by omega), cLT_pos (x := M1 15 n) (y := v) (by omega)]
          rw [stI_ok (by omega), show ((n : Int) + 1).toNat = n + 1 by omega]
          have hR2 := hR.x15 hn1 v
          have h22 : put M1 15 (n + 1) v 0 22 = j1 := hR2.2.2.2.2.1
          obtain ⟨g1, g2, g3, g4, g5⟩ := here_ok ht hR2.2.2
          rw [g1, h22, g2]
          simp only [bind_some']
          by_cases hc : byt (put M1 15 (n + 1) v) t j1 = 58
          · rw [cEQ_pos (by omega), cEQ_pos (by omega)]
            have hl1 := g5 (by omega)
            have hr2' := hR.2.2.2.1
            rw [hr2']
            have hS2 := hR2.step hl1
            obtain ⟨y, C4, M4, j4, m1, m2, m3, m4, m5, m6, m7, m8, m9⟩ := number_ok (m := 3) ht hS2.2.2 (Or.inr rfl)
            have m4' : y < 1000 := m4
            have e3 : ((3 : Nat) : Int) = 3 := rfl
            rw [e3] at m1 m2
            rw [m1, m2]
            simp only [bnd_some]
            have hR4 := hS2.num m6 m8 m9
            have hd4 := hR4.2.1
            have hn4' : M4 0 18 = n := by rw [m9.2 18 (by decide) (by decide), put_j (by decide), put_ne (by decide)]; exact hn1
            have hc4 : C4 8 2 = n := by rw [hd4.1]; exact hn4'
            have h15 : M4 15 = put M1 15 (n + 1) v 15 := by rw [m9.1 15 (by decide), put_ne (by decide)]
            have hb4 := hd4.2.2.2.2.2.1 n (by omega)
            have hce4 := hd4.2.2.2.1 n (by omega)
            rw [hc4]
            by_cases hy0 : 0 ≤ y
            · rw [if_pos hy0, cEQ_neg (by omega)]
              simp (disch := omega) only [ldI_ok, Int.toNat_natCast, hce4.2, m5 hy0]
              by_cases hz2 : M4 16 n < y
              · rw [cLT_pos (by omega), cLT_pos (by omega)]
                unfold pX3_add pX3_isFull
                rw [hc4, cLT_pos (by omega), bind_some', cEQ_pos (by omega)]
                simp only [setS]
                rw [put_at, stI_ok (by omega), show ((n : Int) + 1).toNat = n + 1 by omega]
                rw [put_ne (show (8 : Nat) ≠ 8 + 1 by decide), put_at, stI_ok (by omega), show ((n : Int) + 1).toNat = n + 1 by omega, stI_ok (by omega), show ((n : Int) + 1).toNat = n + 1 by omega]
                rw [put_ne (show (0 : Nat) ≠ 16 by decide), hn4']
                refine ⟨1, _, _, j4, rfl, rfl, Or.inr rfl, hR4.pair hn4' (by omega) (x := v) (y := y) ⟨by rw [h15, put_at], by rw [h15, put_j (by omega)]; exact hz, by omega⟩ ⟨hz2, by omega⟩, fun _ => by omega⟩
              · rw [cLT_neg (by omega), cLT_neg (by omega)]
                exact bad hR4
            · rw [if_neg hy0, cEQ_pos (by omega), ldI_ok (by omega), Int.toNat_natCast, hce4.2, cLT_neg (by omega)]
              exact bad hR4
          · rw [cEQ_neg (by omega), cEQ_neg (by omega)]
            exact bad hR2
      · rw [cLT_neg (x := 20) (y := v) (by omega), cLT_neg (x := M1 15 n) (y := v) (by omega), cLT_neg (x := M1 15 n) (y := v) (by omega)]
        exact bad hR
    · rw [if_neg h0, cEQ_pos (by omega), cLT_neg (by omega), ldI_ok (by omega), Int.toNat_natCast, hce.1, cLT_neg (by omega)]
      exact bad hR
