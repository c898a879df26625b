/-! row, text, put, mean, copy -/
theorem min_ok {x y : Int} (h : -2147483648 ≤ x ∧ x ≤ 2147483647 ∧ -2147483648 ≤ y ∧ y ≤ 2147483647) : pJ9_min_7cf53 x y = some (min x y) := by
  unfold pJ9_min_7cf53; rw [if_pos ⟨⟨by omega, by omega⟩, ⟨by omega, by omega⟩⟩]
theorem max_ok {x y : Int} (h : -2147483648 ≤ x ∧ x ≤ 2147483647 ∧ -2147483648 ≤ y ∧ y ≤ 2147483647) : pJ9_max_7cf53 x y = some (max x y) := by
  unfold pJ9_max_7cf53; rw [if_pos ⟨⟨by omega, by omega⟩, ⟨by omega, by omega⟩⟩]
theorem make_ok {S : St} {q : Nat} {n v : Int} (hn : 0 ≤ n ∧ n ≤ rlen q) (hr : (rlen q : Int) ≤ 60) : ∃ S' : St, pX1_make S q n v = some S' ∧ S' q 1 = n ∧ (∀ i : Nat, (i : Int) < n → S' (q + 1) i = v) ∧ ∀ q', q' ≠ q → q' ≠ q + 1 → S' q' = S q' := by
  unfold pX1_make
  rw [min_ok (by omega)]
  simp only [bind_some', setS]
  rw [Int.min_eq_left hn.2]
  refine lo2_spec (fun o => ∃ S' : St, o = some S' ∧ S' q 1 = n ∧ (∀ i : Nat, (i : Int) < n → S' (q + 1) i = v) ∧ ∀ q', q' ≠ q → q' ≠ q + 1 → S' q' = S q') (fun (T : St) (x : Int) => 0 ≤ x ∧ x ≤ n ∧ T q 1 = n ∧ (∀ i : Nat, (i : Int) < x → T (q + 1) i = v) ∧ ∀ q', q' ≠ q → q' ≠ q + 1 → T q' = S q') (fun _ x => (n - x).toNat) ?_ FU _ _ ?_ (by have := FU_big; omega)
  · intro k T x hI hk
    obtain ⟨h1, h2, h3, h4, h5⟩ := hI
    unfold pX1_make_15B
    rw [h3]
    by_cases hx : x < n
    · rw [cLT_pos (by omega), stI_ok (by omega)]
      simp only [setS]
      refine hk _ _ ⟨by omega, by omega, ?_, fun i hi => ?_, fun q' a b => ?_⟩ (by omega)
      · rw [put_ne (by omega)]; exact h3
      · by_cases e : i = x.toNat
        · rw [e, put_at]
        · rw [put_j e]; exact h4 i (by omega)
      · rw [put_ne b]; exact h5 q' a b
    · rw [cLT_neg (by omega)]
      exact ⟨T, rfl, h3, fun i hi => h4 i (by omega), h5⟩
  · refine ⟨by omega, hn.1, put_at, fun i hi => by omega, fun q' a b => put_ne a⟩
theorem rowM_ok {M : St} {r : Nat} {n : Int} (hr : r < 6) : ∃ M' : St, lo2 (pX6_row_34B (r : Int) n) FU M 0 = some (n, M') ∧ (∀ i : Nat, i < 40 → M' 3 (40 * r + i) = 0) ∧ (∀ j : Nat, (j < 40 * r ∨ 40 * r + 40 ≤ j) → M' 3 j = M 3 j) ∧ ∀ q', q' ≠ 3 → M' q' = M q' := by
  refine lo2_spec (fun o => ∃ M' : St, o = some (n, M') ∧ (∀ i : Nat, i < 40 → M' 3 (40 * r + i) = 0) ∧ (∀ j : Nat, (j < 40 * r ∨ 40 * r + 40 ≤ j) → M' 3 j = M 3 j) ∧ ∀ q', q' ≠ 3 → M' q' = M q') (fun (T : St) (x : Int) => 0 ≤ x ∧ x ≤ 40 ∧ (∀ i : Nat, (i : Int) < x → T 3 (40 * r + i) = 0) ∧ (∀ j : Nat, (j < 40 * r ∨ 40 * r + 40 ≤ j) → T 3 j = M 3 j) ∧ ∀ q', q' ≠ 3 → T q' = M q') (fun _ x => (40 - x).toNat) ?_ FU _ _ ⟨by omega, by omega, fun i hi => by omega, fun _ _ => rfl, fun _ _ => rfl⟩ (by have := FU_big; omega)
  intro k T x hI hk
  obtain ⟨h1, h2, h3, h4, h5⟩ := hI
  unfold pX6_row_34B
  by_cases hx : x < 40
  · rw [cLT_pos (by omega), stI_ok (by omega)]
    simp only [setS]
    have e : (40 * (r : Int) + x).toNat = 40 * r + x.toNat := by omega
    rw [e]
    refine hk _ _ ⟨by omega, by omega, fun i hi => ?_, fun j hj => ?_, fun q' a => ?_⟩ (by omega)
    · by_cases e : i = x.toNat
      · rw [e, put_at]
      · rw [put_j (by omega)]; exact h3 i (by omega)
    · rw [put_j (by omega)]; exact h4 j hj
    · rw [put_ne a]; exact h5 q' a
  · rw [cLT_neg (by omega)]
    exact ⟨T, rfl, fun i hi => h3 i (by omega), h4, h5⟩
theorem textM_ok {M : St} {r : Nat} {n : Int} (hr : r < 4) : ∃ M' : St, lo2 (pX6_text_34B (r : Int) n) FU M 0 = some (n, M') ∧ (∀ i : Nat, i < 60 → M' 6 (60 * r + i) = 32) ∧ (∀ j : Nat, (j < 60 * r ∨ 60 * r + 60 ≤ j) → M' 6 j = M 6 j) ∧ ∀ q', q' ≠ 6 → M' q' = M q' := by
  refine lo2_spec (fun o => ∃ M' : St, o = some (n, M') ∧ (∀ i : Nat, i < 60 → M' 6 (60 * r + i) = 32) ∧ (∀ j : Nat, (j < 60 * r ∨ 60 * r + 60 ≤ j) → M' 6 j = M 6 j) ∧ ∀ q', q' ≠ 6 → M' q' = M q') (fun (T : St) (x : Int) => 0 ≤ x ∧ x ≤ 60 ∧ (∀ i : Nat, (i : Int) < x → T 6 (60 * r + i) = 32) ∧ (∀ j : Nat, (j < 60 * r ∨ 60 * r + 60 ≤ j) → T 6 j = M 6 j) ∧ ∀ q', q' ≠ 6 → T q' = M q') (fun _ x => (60 - x).toNat) ?_ FU _ _ ⟨by omega, by omega, fun i hi => by omega, fun _ _ => rfl, fun _ _ => rfl⟩ (by have := FU_big; omega)
  intro k T x hI hk
  obtain ⟨h1, h2, h3, h4, h5⟩ := hI
  unfold pX6_text_34B
  by_cases hx : x < 60
  · rw [cLT_pos (by omega), stI_ok (by omega)]
    simp only [setS]
    have e : (60 * (r : Int) + x).toNat = 60 * r + x.toNat := by omega
    rw [e]
    refine hk _ _ ⟨by omega, by omega, fun i hi => ?_, fun j hj => ?_, fun q' a => ?_⟩ (by omega)
    · by_cases e : i = x.toNat
      · rw [e, put_at]; decide
      · rw [put_j (by omega)]; exact h3 i (by omega)
    · rw [put_j (by omega)]; exact h4 j hj
    · rw [put_ne a]; exact h5 q' a
  · rw [cLT_neg (by omega)]
    exact ⟨T, rfl, fun i hi => h3 i (by omega), h4, h5⟩
/-- row -/
theorem e_row : ca_0 Inv := by
  intro C M x1 x2 hI hx1 hx2
  unfold pX5_row pX6_row pX5_isRow pX6_isRow
  by_cases h : 0 ≤ x1 ∧ x1 ≤ 5
  · obtain ⟨r, rfl⟩ := Int.eq_ofNat_of_zero_le h.1
    have hrl := rlen_row (r := r) (by omega)
    simp (disch := omega) only [within_t, in_t, bind_some', isB_ok, cEQ_neg]
    by_cases h40 : 40 < x2
    · simp (disch := omega) only [cLT_pos]
      exact ag_same hI
    · by_cases h0 : x2 < 0
      · simp (disch := omega) only [cLT_pos, cLT_neg, found5, meets5, bnd_some]
        exact ag_fd hI (by decide)
      · simp (disch := omega) only [cLT_neg, ldA_ok, stI_ok, Int.toNat_natCast]
        obtain ⟨C', hC, c1, c2, c3⟩ := make_ok (S := C) (q := 23 + 2 * r) (n := x2) (v := 0) (by omega) (by omega)
        obtain ⟨M', hM, m1, m2, m3⟩ := rowM_ok (M := put M 2 r x2) (r := r) (n := x2) (by omega)
        rw [hC, hM]
        simp only [bind_some']
        have hs : M' 2 r = x2 := by rw [m3 2 (by decide), put_at]
        have hm0 : ∀ q, q ≠ 2 → q ≠ 3 → M' q = M q := fun q a b => by rw [m3 q b, put_ne a]
        refine ⟨_, _, _, rfl, rfl, Inv_row hI r (by omega) (fun q a b c => c3 q b c) (fun q a b c d => hm0 q b c) (fun r' h1 h2 => ⟨by rw [m3 2 (by decide), put_j h2], fun i hi => by rw [m2 _ (by omega), put_ne (by decide)]⟩) ?_ ?_ ?_⟩
        · rw [hs]
          exact ⟨c1, by omega, by omega, fun i hi => by rw [c2 i hi, m1 i (by omega)]; decide⟩
        · rw [hm0 0 (by decide) (by decide)]; exact ⟨rfl, rfl, rfl, rfl⟩
        · rw [c3 0 (by omega) (by omega), hm0 0 (by decide) (by decide)]
          obtain ⟨a1, a2, a3, a4, -⟩ := hI.2.2.2.2.2.1
          exact ⟨a1, a2, a3, a4⟩
  · simp (disch := omega) only [within_f, in_f, bind_some', isB_ok, cEQ_pos]
    exact ag_same hI
/-- text -/
theorem e_text : ca_5 Inv := by
  intro C M x1 x2 hI hx1 hx2
  unfold pX5_text pX6_text pX5_isText pX6_isText
  by_cases h : 0 ≤ x1 ∧ x1 ≤ 3
  · obtain ⟨r, rfl⟩ := Int.eq_ofNat_of_zero_le h.1
    have hrl := rlen_txt (t := r) (by omega)
    simp (disch := omega) only [within_t, in_t, bind_some', isB_ok, cEQ_neg]
    by_cases h40 : 60 < x2
    · simp (disch := omega) only [cLT_pos]
      exact ag_same hI
    · by_cases h0 : x2 < 0
      · simp (disch := omega) only [cLT_pos, cLT_neg, found5, meets5, bnd_some]
        exact ag_fd hI (by decide)
      · simp (disch := omega) only [cLT_neg, ldA_ok, stI_ok, Int.toNat_natCast]
        obtain ⟨C', hC, c1, c2, c3⟩ := make_ok (S := C) (q := 35 + 2 * r) (n := x2) (v := 32) (by omega) (by omega)
        obtain ⟨M', hM, m1, m2, m3⟩ := textM_ok (M := put M 5 r x2) (r := r) (n := x2) (by omega)
        rw [hC, hM]
        simp only [bind_some']
        have hs : M' 5 r = x2 := by rw [m3 5 (by decide), put_at]
        have hm0 : ∀ q, q ≠ 5 → q ≠ 6 → M' q = M q := fun q a b => by rw [m3 q b, put_ne a]
        refine ⟨_, _, _, rfl, rfl, Inv_txt hI r (by omega) (fun q b c => c3 q b c) hm0 (fun r' h1 h2 => ⟨by rw [m3 5 (by decide), put_j h2], fun i hi => by rw [m2 _ (by omega), put_ne (by decide)]⟩) ?_⟩
        rw [hs]
        exact ⟨c1, by omega, by omega, fun i hi => by rw [c2 i hi, m1 i (by omega)]; decide⟩
  · simp (disch := omega) only [within_f, in_f, bind_some', isB_ok, cEQ_pos]
    exact ag_same hI
theorem bmod_rng (x : Int) : -128 ≤ Int.bmod x 256 ∧ Int.bmod x 256 ≤ 127 := by
  have h1 := Int.le_bmod (x := x) (m := 256) (by omega)
  have h2 := Int.bmod_lt (x := x) (m := 256) (by omega)
  omega
theorem bmod2 (x : Int) : Int.bmod (Int.bmod x 256) 256 = Int.bmod x 256 := Int.bmod_bmod
/-- put -/
theorem e_put : ca_6 Inv := by
  intro C M x1 x2 x3 hI hx1 hx2 hx3
  unfold pX5_put pX6_put pX5_isText pX6_isText pX1_isMissing pX1_has
  by_cases h : 0 ≤ x1 ∧ x1 ≤ 3
  · obtain ⟨r, rfl⟩ := Int.eq_ofNat_of_zero_le h.1
    have hr := hI.2.1 r (by omega)
    obtain ⟨e1, b1, b2, hcell⟩ := hr
    have hrl := rlen_txt (t := r) (by omega)
    simp (disch := omega) only [within_t, in_t, bind_some', isB_ok, cEQ_neg, ldA_ok, ldI_ok, Int.toNat_natCast, e1, hrl]
    by_cases hm : M 5 r < 0
    · simp (disch := omega) only [cLT_pos, bind_some', cEQ_neg, found1, meets1, bnd_some]
      exact ag_fd hI (by decide)
    · by_cases hx : 0 ≤ x2 ∧ x2 < M 5 r
      · obtain ⟨i, rfl⟩ := Int.eq_ofNat_of_zero_le hx.1
        obtain ⟨c1, c2, c3⟩ := hcell i (by omega)
        have ei : (60 * (r : Int) + (i : Int)).toNat = 60 * r + i := by omega
        simp (disch := omega) only [cLT_neg, cLT_pos, bind_some', cEQ_pos, cEQ_neg, in_t, ldI_ok, stI_ok, Int.toNat_natCast, ei, bmod2]
        refine ⟨_, _, _, rfl, ?_, Inv_txt (M' := put M 6 (60 * r + i) (Int.bmod x3 256)) hI r (by omega) (fun q b c => put_ne c) (fun q b c => put_ne c) (fun r' h1 h2 => ⟨by rw [put_ne (by decide)], fun i' hi' => put_j (by omega)⟩) ?_⟩
        · rw [c1, Int.add_comm]
        · refine ⟨?_, ?_, ?_, fun j hj => ?_⟩
          · rw [put_ne (by omega), put_ne (by decide), e1]
          · rw [put_ne (by decide)]; omega
          · rw [put_ne (by decide)]; omega
          · rw [put_ne (by decide)] at hj
            by_cases e : j = i
            · subst e
              rw [put_at, put_at]
              exact ⟨rfl, bmod_rng x3⟩
            · rw [put_j e, put_j (by omega)]
              exact hcell j hj
      · have hf2 : pX6_in x2 0 (M 5 r - 1) = some 0 := in_f (by omega)
        rw [hf2]
        by_cases hx0 : x2 < 0
        · simp (disch := omega) only [cLT_neg, cLT_pos, bind_some', cEQ_pos, cEQ_neg, found2, meets2, bnd_some]
          exact ag_fd hI (by decide)
        · simp (disch := omega) only [cLT_neg, cLT_pos, bind_some', cEQ_pos, cEQ_neg, found2, meets2, bnd_some]
          exact ag_fd hI (by decide)
  · simp (disch := omega) only [within_f, in_f, bind_some', isB_ok, cEQ_pos]
    exact ag_same hI
