/-! findings, rows, texts -/
theorem within_ok {x a b : Int} (h : -2147483648 ≤ x ∧ x ≤ 2147483647 ∧ -2147483648 ≤ a ∧ a ≤ 2147483647 ∧ -2147483648 ≤ b ∧ b ≤ 2147483647) : pX5_within x a b = some (if a ≤ x ∧ x ≤ b then 1 else 0) := by
  unfold pX5_within
  rw [cLT_if (by omega), cLT_if (by omega)]
  (repeat' split) <;> first | rfl | omega
theorem in_ok {x a b : Int} (h : -2147483648 ≤ x ∧ x ≤ 2147483647 ∧ -2147483648 ≤ a ∧ a ≤ 2147483647 ∧ -2147483648 ≤ b ∧ b ≤ 2147483647) : pX6_in x a b = some (if a ≤ x ∧ x ≤ b then 1 else 0) := by
  unfold pX6_in
  rw [cLT_if (by omega), cLT_if (by omega)]
  (repeat' split) <;> first | rfl | omega
theorem within_t {x a b : Int} (h : -2147483648 ≤ a ∧ a ≤ x ∧ x ≤ b ∧ b ≤ 2147483647) : pX5_within x a b = some 1 := by
  rw [within_ok (by omega), if_pos (by omega)]
theorem within_f {x a b : Int} (h : -2147483648 ≤ x ∧ x ≤ 2147483647 ∧ -2147483648 ≤ a ∧ a ≤ 2147483647 ∧ -2147483648 ≤ b ∧ b ≤ 2147483647 ∧ ¬ (a ≤ x ∧ x ≤ b)) : pX5_within x a b = some 0 := by
  rw [within_ok (by omega), if_neg (by omega)]
theorem in_t {x a b : Int} (h : -2147483648 ≤ a ∧ a ≤ x ∧ x ≤ b ∧ b ≤ 2147483647) : pX6_in x a b = some 1 := by
  rw [in_ok (by omega), if_pos (by omega)]
theorem in_f {x a b : Int} (h : -2147483648 ≤ x ∧ x ≤ 2147483647 ∧ -2147483648 ≤ a ∧ a ≤ 2147483647 ∧ -2147483648 ≤ b ∧ b ≤ 2147483647 ∧ ¬ (a ≤ x ∧ x ≤ b)) : pX6_in x a b = some 0 := by
  rw [in_ok (by omega), if_neg (by omega)]
theorem rlen_row {r : Nat} (h : r < 6) : rlen (23 + 2 * r) = 40 := by
  unfold rlen; rw [if_neg (by omega), if_pos (by omega)]
theorem rlen_txt {t : Nat} (h : t < 4) : rlen (35 + 2 * t) = 60 := by
  unfold rlen; rw [if_neg (by omega), if_neg (by omega)]
def fdC (C : St) (f : Nat) : St := put (put C 0 10 (f : Int)) 22 f (C 22 f + 1)
def fdM (M : St) (f : Nat) : St := put (put M 0 0 (f : Int)) 1 f (M 1 f + 1)
theorem found_ok {C : St} {f : Nat} (h : 1 ≤ f ∧ f ≤ 5) : pX5_found C (f : Int) = some (-3, fdC C f) := by
  unfold pX5_found
  rw [within_t (by omega)]
  simp only [bind_some']
  rw [cEQ_neg (by omega)]
  simp only [setS]
  rw [ldI_ok (by omega), stI_ok (by omega)]
  simp [fdC, put]
theorem meets_ok {M : St} {f : Nat} (h : 1 ≤ f ∧ f ≤ 5) : pX6_meets M (f : Int) = some (-3, fdM M f) := by
  unfold pX6_meets
  simp only [setS]
  rw [ldI_ok (by omega), stI_ok (by omega)]
  simp [fdM, put]
theorem Inv_found {C M : St} (h : Inv C M) {f : Nat} (hf : 1 ≤ f ∧ f ≤ 5) : Inv (fdC C f) (fdM M f) := by
  obtain ⟨h1, h2, h3, h4, h5, h6, h7⟩ := h
  have hc : ∀ q, q ≠ 0 → q ≠ 22 → fdC C f q = C q := fun q a b => by unfold fdC; rw [put_ne b, put_ne a]
  have hm : ∀ q, q ≠ 0 → q ≠ 1 → fdM M f q = M q := fun q a b => by unfold fdM; rw [put_ne b, put_ne a]
  refine ⟨h1.congr (fun q a b => hc q (by omega) (by omega)) (hm _ (by decide) (by decide)) (hm _ (by decide) (by decide)), h2.congr (fun q a b => hc q (by omega) (by omega)) (hm _ (by decide) (by decide)) (hm _ (by decide) (by decide)), h3.congr (fun q a b => hc q (by omega) (by omega)) (fun q a b => hm q (by omega) (by omega)), h4.congr (fun q a b => hc q (by omega) (by omega)) (hc _ (by decide) (by decide)) (fun q a b => hm q (by omega) (by omega)) (hm _ (by decide) (by decide)), ?_, ?_, ?_⟩
  · unfold ISet at h5 ⊢
    rw [hc 6 (by decide) (by decide)]
    simpa [fdM, put] using h5
  · obtain ⟨a1, a2, a3, a4, a5⟩ := h6
    refine ⟨by simpa [fdC, fdM, put] using a1, by simpa [fdC, fdM, put] using a2, by simpa [fdC, fdM, put] using a3, by simp [fdC, fdM, put], fun g hg => ?_⟩
    have := a5 g hg
    have h5' := a5 f (by omega)
    simp only [fdC, fdM, put]
    by_cases e : g = f
    · simp [e, h5']
    · simp [e, this]
  · unfold IZero at h7 ⊢
    rw [hc 9 (by decide) (by decide), hc 10 (by decide) (by decide), hm 15 (by decide) (by decide), hm 16 (by decide) (by decide)]
    exact h7
theorem found1 {C : St} : pX5_found C 1 = some (-3, fdC C 1) := found_ok (f := 1) (by decide)
theorem found2 {C : St} : pX5_found C 2 = some (-3, fdC C 2) := found_ok (f := 2) (by decide)
theorem found3 {C : St} : pX5_found C 3 = some (-3, fdC C 3) := found_ok (f := 3) (by decide)
theorem found4 {C : St} : pX5_found C 4 = some (-3, fdC C 4) := found_ok (f := 4) (by decide)
theorem found5 {C : St} : pX5_found C 5 = some (-3, fdC C 5) := found_ok (f := 5) (by decide)
theorem meets1 {C : St} : pX6_meets C 1 = some (-3, fdM C 1) := meets_ok (f := 1) (by decide)
theorem meets2 {C : St} : pX6_meets C 2 = some (-3, fdM C 2) := meets_ok (f := 2) (by decide)
theorem meets3 {C : St} : pX6_meets C 3 = some (-3, fdM C 3) := meets_ok (f := 3) (by decide)
theorem meets4 {C : St} : pX6_meets C 4 = some (-3, fdM C 4) := meets_ok (f := 4) (by decide)
theorem meets5 {C : St} : pX6_meets C 5 = some (-3, fdM C 5) := meets_ok (f := 5) (by decide)
theorem ag_fd {C M : St} (h : Inv C M) {f : Nat} (hf : 1 ≤ f ∧ f ≤ 5) : agWW Inv (some (-3, fdC C f)) (some (-3, fdM M f)) := ⟨_, _, _, rfl, rfl, Inv_found h hf⟩
theorem ag_same {C M : St} (h : Inv C M) {v : Int} : agWW Inv (some (v, C)) (some (v, M)) := ⟨_, _, _, rfl, rfl, h⟩
theorem IRow.upd {C M C' M' : St} (h : IRow C M) (r : Nat) (hc : ∀ q, 23 ≤ q → q ≤ 34 → q ≠ 23 + 2 * r → q ≠ 23 + 2 * r + 1 → C' q = C q) (hm : ∀ r', r' < 6 → r' ≠ r → M' 2 r' = M 2 r' ∧ ∀ i : Nat, i < 40 → M' 3 (40 * r' + i) = M 3 (40 * r' + i)) (hn : C' (23 + 2 * r) 1 = M' 2 r ∧ -1 ≤ M' 2 r ∧ M' 2 r ≤ 40 ∧ ∀ i : Nat, (i : Int) < M' 2 r → C' (23 + 2 * r + 1) i = M' 3 (40 * r + i) ∧ -2147483648 ≤ M' 3 (40 * r + i) ∧ M' 3 (40 * r + i) ≤ 2147483647) : IRow C' M' := by
  intro r' hr'
  by_cases e : r' = r
  · subst e; exact hn
  · obtain ⟨a1, a2, a3, a4⟩ := h r' hr'
    obtain ⟨m1, m2⟩ := hm r' hr' e
    rw [hc (23 + 2 * r') (by omega) (by omega) (by omega) (by omega), hc (23 + 2 * r' + 1) (by omega) (by omega) (by omega) (by omega), m1]
    refine ⟨a1, a2, a3, fun i hi => ?_⟩
    rw [m2 i (by omega)]
    exact a4 i hi
theorem ITxt.upd {C M C' M' : St} (h : ITxt C M) (r : Nat) (hc : ∀ q, 35 ≤ q → q ≤ 42 → q ≠ 35 + 2 * r → q ≠ 35 + 2 * r + 1 → C' q = C q) (hm : ∀ r', r' < 4 → r' ≠ r → M' 5 r' = M 5 r' ∧ ∀ i : Nat, i < 60 → M' 6 (60 * r' + i) = M 6 (60 * r' + i)) (hn : C' (35 + 2 * r) 1 = M' 5 r ∧ -1 ≤ M' 5 r ∧ M' 5 r ≤ 60 ∧ ∀ i : Nat, (i : Int) < M' 5 r → C' (35 + 2 * r + 1) i = M' 6 (60 * r + i) ∧ -128 ≤ M' 6 (60 * r + i) ∧ M' 6 (60 * r + i) ≤ 127) : ITxt C' M' := by
  intro r' hr'
  by_cases e : r' = r
  · subst e; exact hn
  · obtain ⟨a1, a2, a3, a4⟩ := h r' hr'
    obtain ⟨m1, m2⟩ := hm r' hr' e
    rw [hc (35 + 2 * r') (by omega) (by omega) (by omega) (by omega), hc (35 + 2 * r' + 1) (by omega) (by omega) (by omega) (by omega), m1]
    refine ⟨a1, a2, a3, fun i hi => ?_⟩
    rw [m2 i (by omega)]
    exact a4 i hi
/-- what stays where only a row (and what asked() tells) changes -/
theorem Inv_row {C M C' M' : St} (h : Inv C M) (r : Nat) (hr : r < 6) (hc : ∀ q, q ≠ 0 → q ≠ 23 + 2 * r → q ≠ 23 + 2 * r + 1 → C' q = C q) (hm0 : ∀ q, q ≠ 0 → q ≠ 2 → q ≠ 3 → q ≠ 4 → M' q = M q) (hm : ∀ r', r' < 6 → r' ≠ r → M' 2 r' = M 2 r' ∧ ∀ i : Nat, i < 40 → M' 3 (40 * r' + i) = M 3 (40 * r' + i)) (hn : C' (23 + 2 * r) 1 = M' 2 r ∧ -1 ≤ M' 2 r ∧ M' 2 r ≤ 40 ∧ ∀ i : Nat, (i : Int) < M' 2 r → C' (23 + 2 * r + 1) i = M' 3 (40 * r + i) ∧ -2147483648 ≤ M' 3 (40 * r + i) ∧ M' 3 (40 * r + i) ≤ 2147483647) (hset : M' 0 34 = M 0 34 ∧ M' 0 35 = M 0 35 ∧ M' 0 36 = M 0 36 ∧ M' 0 37 = M 0 37) (htold : C' 0 11 = M' 0 2 ∧ C' 0 12 = M' 0 3 ∧ C' 0 13 = M' 0 4 ∧ C' 0 10 = M' 0 0) : Inv C' M' := by
  obtain ⟨h1, h2, h3, h4, h5, h6, h7⟩ := h
  refine ⟨h1.upd r (fun q a b c d => hc q (by omega) c d) hm hn, h2.congr (fun q a b => hc q (by omega) (by omega) (by omega)) (hm0 _ (by decide) (by decide) (by decide) (by decide)) (hm0 _ (by decide) (by decide) (by decide) (by decide)), h3.congr (fun q a b => hc q (by omega) (by omega) (by omega)) (fun q a b => hm0 q (by omega) (by omega) (by omega) (by omega)), h4.congr (fun q a b => hc q (by omega) (by omega) (by omega)) (hc _ (by decide) (by omega) (by omega)) (fun q a b => hm0 q (by omega) (by omega) (by omega) (by omega)) (hm0 _ (by decide) (by decide) (by decide) (by decide)), ?_, ?_, ?_⟩
  · unfold ISet at h5 ⊢
    rw [hc 6 (by decide) (by omega) (by omega), hset.1, hset.2.1, hset.2.2.1, hset.2.2.2]
    exact h5
  · refine ⟨htold.1, htold.2.1, htold.2.2.1, htold.2.2.2, fun f hf => ?_⟩
    rw [hc 22 (by decide) (by omega) (by omega), hm0 1 (by decide) (by decide) (by decide) (by decide)]
    exact h6.2.2.2.2 f hf
  · unfold IZero at h7 ⊢
    rw [hc 9 (by decide) (by omega) (by omega), hc 10 (by decide) (by omega) (by omega), hm0 15 (by decide) (by decide) (by decide) (by decide), hm0 16 (by decide) (by decide) (by decide) (by decide)]
    exact h7
theorem Inv_txt {C M C' M' : St} (h : Inv C M) (r : Nat) (hr : r < 4) (hc : ∀ q, q ≠ 35 + 2 * r → q ≠ 35 + 2 * r + 1 → C' q = C q) (hm0 : ∀ q, q ≠ 5 → q ≠ 6 → M' q = M q) (hm : ∀ r', r' < 4 → r' ≠ r → M' 5 r' = M 5 r' ∧ ∀ i : Nat, i < 60 → M' 6 (60 * r' + i) = M 6 (60 * r' + i)) (hn : C' (35 + 2 * r) 1 = M' 5 r ∧ -1 ≤ M' 5 r ∧ M' 5 r ≤ 60 ∧ ∀ i : Nat, (i : Int) < M' 5 r → C' (35 + 2 * r + 1) i = M' 6 (60 * r + i) ∧ -128 ≤ M' 6 (60 * r + i) ∧ M' 6 (60 * r + i) ≤ 127) : Inv C' M' := by
  obtain ⟨h1, h2, h3, h4, h5, h6, h7⟩ := h
  refine ⟨h1.congr (fun q a b => hc q (by omega) (by omega)) (hm0 _ (by decide) (by decide)) (hm0 _ (by decide) (by decide)), h2.upd r (fun q a b c d => hc q c d) hm hn, h3.congr (fun q a b => hc q (by omega) (by omega)) (fun q a b => hm0 q (by omega) (by omega)), h4.congr (fun q a b => hc q (by omega) (by omega)) (hc _ (by omega) (by omega)) (fun q a b => hm0 q (by omega) (by omega)) (hm0 _ (by decide) (by decide)), ?_, ?_, ?_⟩
  · unfold ISet at h5 ⊢
    rw [hc 6 (by omega) (by omega), hm0 0 (by decide) (by decide)]
    exact h5
  · unfold ITold at h6 ⊢
    rw [hc 0 (by omega) (by omega), hc 22 (by omega) (by omega), hm0 0 (by decide) (by decide), hm0 1 (by decide) (by decide)]
    exact h6
  · unfold IZero at h7 ⊢
    rw [hc 9 (by omega) (by omega), hc 10 (by omega) (by omega), hm0 15 (by decide) (by decide), hm0 16 (by decide) (by decide)]
    exact h7
/-- tear -/
theorem e_tear : ca_2 Inv := by
  intro C M x1 hI hx
  unfold pX5_tear pX6_tear pX5_isRow pX6_isRow pX1_isMissing
  by_cases h : 0 ≤ x1 ∧ x1 ≤ 5
  · obtain ⟨r, rfl⟩ := Int.eq_ofNat_of_zero_le h.1
    have hr := hI.1 r (by omega)
    obtain ⟨e1, b1, b2, -⟩ := hr
    simp (disch := omega) only [within_t, in_t, bind_some', isB_ok, cEQ_neg, ldA_ok, ldI_ok, Int.toNat_natCast, e1]
    by_cases hm : M 2 r < 0
    · simp (disch := omega) only [cLT_pos, bind_some', cEQ_neg, found1, meets1, bnd_some]
      exact ag_fd hI (by decide)
    · simp (disch := omega) only [cLT_neg, bind_some', cEQ_pos, ldA_ok, stI_ok, Int.toNat_natCast, setS]
      refine ⟨_, _, _, rfl, rfl, Inv_row hI r (by omega) (fun q a b c => put_ne b) (fun q a b c d => put_ne b) (fun r' h1 h2 => ⟨put_j h2, fun i hi => by rw [put_ne (by decide)]⟩) ?_ ?_ ?_⟩
      · rw [put_at, put_at]
        exact ⟨rfl, by decide, by decide, fun i hi => by omega⟩
      · rw [put_ne (by decide)]; exact ⟨rfl, rfl, rfl, rfl⟩
      · rw [put_ne (by omega), put_ne (by decide)]
        obtain ⟨a1, a2, a3, a4, -⟩ := hI.2.2.2.2.2.1
        exact ⟨a1, a2, a3, a4⟩
  · simp (disch := omega) only [within_f, in_f, bind_some', isB_ok, cEQ_pos]
    exact ag_same hI
/-- lay -/
theorem e_lay : ca_1 Inv := by
  intro C M x1 x2 x3 hI hx1 hx2 hx3
  unfold pX5_lay pX6_lay pX5_isRow pX6_isRow pX1_isMissing pX1_has pX6_rowAt pX6_tells
  by_cases h : 0 ≤ x1 ∧ x1 ≤ 5
  · obtain ⟨r, rfl⟩ := Int.eq_ofNat_of_zero_le h.1
    have hr := hI.1 r (by omega)
    obtain ⟨e1, b1, b2, hcell⟩ := hr
    have hrl := rlen_row (r := r) (by omega)
    simp (disch := omega) only [within_t, in_t, bind_some', isB_ok, cEQ_neg, ldA_ok, ldI_ok, Int.toNat_natCast, e1, hrl]
    by_cases hm : M 2 r < 0
    · simp (disch := omega) only [cLT_pos, bind_some', cEQ_neg, found1, meets1, bnd_some]
      exact ag_fd hI (by decide)
    · by_cases hx : 0 ≤ x2 ∧ x2 < M 2 r
      · obtain ⟨i, rfl⟩ := Int.eq_ofNat_of_zero_le hx.1
        obtain ⟨c1, c2, c3⟩ := hcell i (by omega)
        have ei : (40 * (r : Int) + (i : Int)).toNat = 40 * r + i := by omega
        simp (disch := omega) only [cLT_neg, cLT_pos, bind_some', cEQ_pos, cEQ_neg, in_t, ldI_ok, stI_ok, Int.toNat_natCast, setS, bnd_some, ei]
        have ec : C (23 + 2 * r + 1) i = M 3 (40 * r + i) := c1
        refine ⟨_, _, _, rfl, rfl, Inv_row hI r (by omega) (fun q a b c => by rw [put_ne c, put_ne a]) (fun q a b c d => by rw [put_ne a, put_ne c]) (fun r' h1 h2 => ⟨by rw [put_ne (by decide), put_ne (by decide)], fun i' hi' => by rw [put_ne (by decide), put_j (by omega)]⟩) ?_ ?_ ?_⟩
        · refine ⟨?_, ?_, ?_, fun j hj => ?_⟩
          · rw [put_ne (by omega), put_ne (by omega), put_ne (by decide), put_ne (by decide), e1]
          · rw [put_ne (by decide), put_ne (by decide)]; omega
          · rw [put_ne (by decide), put_ne (by decide)]; omega
          · rw [put_ne (by decide), put_ne (by decide)] at hj
            rw [put_ne (show (3 : Nat) ≠ 0 by decide)]
            by_cases e : j = i
            · subst e
              rw [put_at, put_at]
              exact ⟨rfl, hx3⟩
            · rw [put_j e, put_ne (by omega), put_j (by omega)]
              exact hcell j hj
        · simp [put]
        · obtain ⟨a1, a2, a3, a4, -⟩ := hI.2.2.2.2.2.1
          rw [put_ne (by omega)]
          rw [put_at, put_at, put_j (by decide), put_j (by decide), put_j (by decide), put_j (by decide), put_j (by decide), put_j (by decide), put_ne (by decide)]
          exact ⟨c1, a2, a3, a4⟩
      · have hf2 : pX6_in x2 0 (M 2 r - 1) = some 0 := in_f (by omega)
        rw [hf2]
        by_cases hx0 : x2 < 0
        · simp (disch := omega) only [cLT_neg, cLT_pos, bind_some', cEQ_pos, cEQ_neg, found2, meets2, bnd_some]
          exact ag_fd hI (by decide)
        · simp (disch := omega) only [cLT_neg, cLT_pos, bind_some', cEQ_pos, cEQ_neg, found2, meets2, bnd_some]
          exact ag_fd hI (by decide)
  · simp (disch := omega) only [within_f, in_f, bind_some', isB_ok, cEQ_pos]
    exact ag_same hI
