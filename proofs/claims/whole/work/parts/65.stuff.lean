/-! stuff: what is read becomes a stuff on both sides -/
theorem Inv_stuff {C M C' M' : St} {s n : Nat} (hs : s < 6) (hI : Inv C M) (hD : DR C M) (hn : M 0 18 = n) (hn1 : 1 ≤ n ∧ n ≤ 4) (c1 : ∀ q, q ≠ 43 + 3 * s → q ≠ 44 + 3 * s → q ≠ 45 + 3 * s → C' q = C q) (c2 : ∀ k : Nat, k ≤ 4 → C' (44 + 3 * s) k = C 9 k ∧ C' (45 + 3 * s) k = C 10 k) (c3 : C' (43 + 3 * s) 2 = C 8 2 ∧ C' (43 + 3 * s) 3 = C 8 3 ∧ C' (43 + 3 * s) 4 = C 8 4 ∧ C' (43 + 3 * s) 5 = C 8 5 ∧ C' (43 + 3 * s) 6 = C 8 6) (m1 : ∀ q, q ≠ 7 → q ≠ 8 → q ≠ 9 → q ≠ 10 → q ≠ 11 → q ≠ 12 → q ≠ 13 → q ≠ 14 → M' q = M q) (m7 : M' 7 s = 1 ∧ M' 8 s = n ∧ ∀ s', s' ≠ s → M' 7 s' = M 7 s' ∧ M' 8 s' = M 8 s') (m2 : ∀ k : Nat, 1 ≤ k → k ≤ n → M' 9 (5 * s + k) = M 15 k ∧ M' 10 (5 * s + k) = M 16 k) (m3 : ∀ i : Nat, (i ≤ 5 * s ∨ 5 * s + 4 < i) → M' 9 i = M 9 i ∧ M' 10 i = M 10 i) (m4 : M' 11 s = M 17 0 ∧ M' 12 s = M 17 1 ∧ M' 13 s = M 17 2 ∧ M' 14 s = M 17 3) (m5 : ∀ s', s' ≠ s → M' 11 s' = M 11 s' ∧ M' 12 s' = M 12 s' ∧ M' 13 s' = M 13 s' ∧ M' 14 s' = M 14 s') : Inv C' M' := by
  obtain ⟨h1, h2, h3, h4, h5, h6, h7⟩ := hI
  obtain ⟨d1, d2, d3, d4, d5, d6, d7, d8, d9, d10⟩ := hD
  have mq : ∀ q, q < 7 ∨ 14 < q → M' q = M q := fun q hq => m1 q (by omega) (by omega) (by omega) (by omega) (by omega) (by omega) (by omega) (by omega)
  have cq : ∀ q, q < 43 ∨ 60 < q → C' q = C q := fun q hq => c1 q (by omega) (by omega) (by omega)
  refine ⟨h1.congr (fun q a b => cq q (by omega)) (mq 2 (by omega)) (mq 3 (by omega)), h2.congr (fun q a b => cq q (by omega)) (mq 5 (by omega)) (mq 6 (by omega)), ?_, ?_, ?_, ?_, ?_⟩
  · intro s' hs'
    obtain ⟨z1, z2, z3⟩ := h3 s' hs'
    by_cases e : s' = s
    · subst e
      have z := m3 (5 * s') (by omega)
      have m2' : ∀ k : Nat, (k : Int) ≤ n → M' 9 (5 * s' + k) = M 15 k ∧ M' 10 (5 * s' + k) = M 16 k := by
        intro k hk
        by_cases hk0 : k = 0
        · subst hk0
          rw [Nat.add_zero, z.1, z.2, z1, z2, h7.2.2.1, h7.2.2.2]
          exact ⟨rfl, rfl⟩
        · exact m2 k (by omega) (by omega)
      refine ⟨by rw [z.1]; exact z1, by rw [z.2]; exact z2, Or.inr ⟨m7.1, by rw [c3.1, m7.2.1, d1, hn], ?_⟩⟩
      unfold StfD
      rw [m7.2.1, c3.2.1, c3.2.2.1, c3.2.2.2.1, c3.2.2.2.2, m4.1, m4.2.1, m4.2.2.1, m4.2.2.2]
      rw [show 43 + 3 * s' + 1 = 44 + 3 * s' by omega, show 43 + 3 * s' + 2 = 45 + 3 * s' by omega]
      rw [hn] at d4 d5 d6
      refine ⟨by omega, by omega, fun k hk => ?_, fun k hk => ?_, fun k hk => ?_, d7.1, d7.2.1, d7.2.2, d8.1, d8.2.1, d8.2.2, d9.1, d9.2.1, d9.2.2, d10.1, d10.2.1, d10.2.2⟩
      · rw [(c2 k (by omega)).1, (c2 k (by omega)).2, (m2' k hk).1, (m2' k hk).2]
        exact d4 k hk
      · rw [(m2' k (by omega)).1, (m2' k (by omega)).2, (m2' (k + 1) (by omega)).1, (m2' (k + 1) (by omega)).2]
        exact d5 k hk
      · rw [(m2' k (by omega)).1, (m2' k (by omega)).2]
        have := d6 k hk
        omega
    · obtain ⟨p7, p8⟩ := m7.2.2 s' e
      obtain ⟨q1, q2, q3, q4⟩ := m5 s' e
      have z := m3 (5 * s') (by omega)
      have zz : ∀ k : Nat, k ≤ 4 → M' 9 (5 * s' + k) = M 9 (5 * s' + k) ∧ M' 10 (5 * s' + k) = M 10 (5 * s' + k) := fun k hk => m3 _ (by omega)
      refine ⟨by rw [z.1]; exact z1, by rw [z.2]; exact z2, ?_⟩
      rw [p7, p8, c1 (43 + 3 * s') (by omega) (by omega) (by omega)]
      rcases z3 with z3 | ⟨u1, u2, u3⟩
      · exact Or.inl z3
      · refine Or.inr ⟨u1, u2, ?_⟩
        unfold StfD at u3 ⊢
        rw [p8, q1, q2, q3, q4, c1 (43 + 3 * s') (by omega) (by omega) (by omega), c1 (43 + 3 * s' + 1) (by omega) (by omega) (by omega), c1 (43 + 3 * s' + 2) (by omega) (by omega) (by omega)]
        obtain ⟨v1, v2, v3, v4, v5, v6⟩ := u3
        refine ⟨v1, v2, fun k hk => ?_, fun k hk => ?_, fun k hk => ?_, v6⟩
        · rw [(zz k (by omega)).1, (zz k (by omega)).2]; exact v3 k hk
        · rw [(zz k (by omega)).1, (zz k (by omega)).2, (zz (k + 1) (by omega)).1, (zz (k + 1) (by omega)).2]; exact v4 k hk
        · rw [(zz k (by omega)).1, (zz k (by omega)).2]; exact v5 k hk
  · intro p hp
    have hp4 := h4 p hp
    unfold SealOk at hp4 ⊢
    rw [cq (61 + p) (by omega), cq 5 (by omega), mq 18 (by omega), mq 19 (by omega), mq 20 (by omega), mq 21 (by omega), mq 22 (by omega), mq 23 (by omega), mq 24 (by omega), mq 25 (by omega)]
    obtain ⟨s1, s2, s3, s4, s5, s6, s7, s8⟩ := hp4
    refine ⟨s1, s2, s3, s4, s5, s6, s7, ?_⟩
    rcases s8 with s8 | ⟨t1, t2, t3, t4, t5⟩
    · exact Or.inl s8
    · refine Or.inr ⟨t1, t2, t3, t4, fun hr => ⟨(t5 hr).1, ?_⟩⟩
      by_cases e : (M 19 p).toNat = s
      · rw [e]; exact m7.1
      · rw [(m7.2.2 _ e).1]; exact (t5 hr).2
  · unfold ISet at h5 ⊢
    rw [cq 6 (by omega), mq 0 (by omega)]
    exact h5
  · unfold ITold at h6 ⊢
    rw [cq 0 (by omega), cq 22 (by omega), mq 0 (by omega), mq 1 (by omega)]
    exact h6
  · unfold IZero at h7 ⊢
    rw [cq 9 (by omega), cq 10 (by omega), mq 15 (by omega), mq 16 (by omega)]
    exact h7
theorem e_stuff : ca_8 Inv := by
  intro C M x1 x2 hI hx1 hx2
  unfold in32 at hx1 hx2
  unfold pX5_stuff pX6_stuff pX5_isText pX6_isText pX1_isMissing
  by_cases h1 : 0 ≤ x1 ∧ x1 ≤ 5
  · by_cases h : 0 ≤ x2 ∧ x2 ≤ 3
    · obtain ⟨t, rfl⟩ := Int.eq_ofNat_of_zero_le h.1
      obtain ⟨s, rfl⟩ := Int.eq_ofNat_of_zero_le h1.1
      have ht : t < 4 := by omega
      have hs : s < 6 := by omega
      obtain ⟨e1, b1, b2, hc⟩ := hI.2.1 t ht
      simp (disch := omega) only [isStuff_t, within_t, in_t, bind_some', isB_ok, cEQ_neg, ldA_ok, ldI_ok, Int.toNat_natCast, e1]
      by_cases hm : M 5 t < 0
      · simp (disch := omega) only [cLT_pos, bind_some', cEQ_neg, found1, meets1, bnd_some]
        exact ag_fd hI (by decide)
      · simp (disch := omega) only [cLT_neg, bind_some', cEQ_pos]
        obtain ⟨v, C1, M1, j', r1, r2, r3, r4, r5, r6⟩ := read_ok ht hI (by omega)
        rw [r1, r2]
        simp only [bnd_some]
        by_cases hv : v = -9
        · rw [cEQ_pos (by omega), cEQ_pos (by omega)]
          have hD := r3.2.1
          obtain ⟨n, hn⟩ := Int.eq_ofNat_of_zero_le hD.2.1
          have hn1 : 1 ≤ n ∧ n ≤ 4 := by have := r6 hv; have := hD.2.2.1; omega
          obtain ⟨C', k1, k2, k3, k4, k5, k6, k7, k8⟩ := become_ok (C := C1) hs
          have p18 : put M1 7 s 1 0 18 = (n : Int) := by rw [put_ne (by decide)]; exact hn
          have q18 : put (put M1 7 s 1) 8 s (n : Int) 0 18 = (n : Int) := by rw [put_ne (by decide)]; exact p18
          obtain ⟨M', g1, g2, g3, g4, g5, g6⟩ := stuffM_ok (M := put (put M1 7 s 1) 8 s (n : Int)) hs q18 hn1
          simp (disch := omega) only [stI_ok, Int.toNat_natCast]
          rw [k1, p18, g1, bind_some']
          refine ⟨_, _, _, rfl, by rw [k4, hD.1, hn], ?_⟩
          refine Inv_stuff hs r3.1 hD hn hn1 k2 k3 ⟨k4, k5, k6, k7, k8⟩ (fun q a b c d e f g i => by rw [g2 q c d e f g i, put_ne b, put_ne a]) ⟨?_, ?_, fun s' hs' => ⟨?_, ?_⟩⟩ (fun k u w => ?_) (fun i hi => ?_) ?_ (fun s' hs' => ?_)
          · rw [g2 7 (by decide) (by decide) (by decide) (by decide) (by decide) (by decide), put_ne (by decide), put_at]
          · rw [g2 8 (by decide) (by decide) (by decide) (by decide) (by decide) (by decide), put_at]
          · rw [g2 7 (by decide) (by decide) (by decide) (by decide) (by decide) (by decide), put_ne (by decide), put_j hs']
          · rw [g2 8 (by decide) (by decide) (by decide) (by decide) (by decide) (by decide), put_j hs', put_ne (by decide)]
          · exact g3 k u w
          · exact g4 i hi
          · exact g5
          · exact g6 s' hs'
        · rw [cEQ_neg (by omega), cEQ_neg (by omega)]
          exact ⟨_, _, _, rfl, rfl, r3.1⟩
    · simp (disch := omega) only [isStuff_t, within_f, in_t, in_f, bind_some', isB_ok, cEQ_pos, cEQ_neg]
      exact ag_same hI
  · simp (disch := omega) only [isStuff_f, in_f, bind_some', cEQ_pos]
    exact ag_same hI
