/-! seals, settings, what is told -/
theorem place_t {x : Int} (h : 0 ≤ x ∧ x ≤ 3) : pX5_isPlace x = some 1 := by
  unfold pX5_isPlace; rw [within_t (by omega)]; rfl
theorem place_f {x : Int} (h : -2147483648 ≤ x ∧ x ≤ 2147483647 ∧ ¬ (0 ≤ x ∧ x ≤ 3)) : pX5_isPlace x = some 0 := by
  unfold pX5_isPlace; rw [within_f (by omega)]; rfl
theorem placeM_t {x : Int} (h : 0 ≤ x ∧ x ≤ 3) : pX6_isPlace x = some 1 := by
  unfold pX6_isPlace; rw [in_t (by omega)]; rfl
theorem placeM_f {x : Int} (h : -2147483648 ≤ x ∧ x ≤ 2147483647 ∧ ¬ (0 ≤ x ∧ x ≤ 3)) : pX6_isPlace x = some 0 := by
  unfold pX6_isPlace; rw [in_f (by omega)]; rfl
theorem isStuff_t {x : Int} (h : 0 ≤ x ∧ x ≤ 5) : pX5_isStuff x = some 1 := by
  unfold pX5_isStuff; rw [within_t (by omega)]; rfl
theorem isStuff_f {x : Int} (h : -2147483648 ≤ x ∧ x ≤ 2147483647 ∧ ¬ (0 ≤ x ∧ x ≤ 5)) : pX5_isStuff x = some 0 := by
  unfold pX5_isStuff; rw [within_f (by omega)]; rfl
theorem isRow_t {x : Int} (h : 0 ≤ x ∧ x ≤ 5) : pX5_isRow x = some 1 := by
  unfold pX5_isRow; rw [within_t (by omega)]; rfl
theorem isRow_f {x : Int} (h : -2147483648 ≤ x ∧ x ≤ 2147483647 ∧ ¬ (0 ≤ x ∧ x ≤ 5)) : pX5_isRow x = some 0 := by
  unfold pX5_isRow; rw [within_f (by omega)]; rfl
theorem isRowM_t {x : Int} (h : 0 ≤ x ∧ x ≤ 5) : pX6_isRow x = some 1 := by
  unfold pX6_isRow; rw [in_t (by omega)]; rfl
theorem isRowM_f {x : Int} (h : -2147483648 ≤ x ∧ x ≤ 2147483647 ∧ ¬ (0 ≤ x ∧ x ≤ 5)) : pX6_isRow x = some 0 := by
  unfold pX6_isRow; rw [in_f (by omega)]; rfl
/-- what is known of the kind -/
theorem SealOk.kind {C M : St} {p : Nat} (h : SealOk C M p) : (M 18 p = -9 ∧ C (61 + p) 0 = -1) ∨ (0 ≤ M 18 p ∧ M 18 p ≤ 4 ∧ C (61 + p) 0 = M 18 p) := by
  rcases h.2.2.2.2.2.2.2 with h | h
  · exact Or.inl h
  · exact Or.inr ⟨h.1, h.2.1, h.2.2.1⟩
theorem needSeal_bad {M : St} {g x : Int} (h : -2147483648 ≤ x ∧ x ≤ 2147483647 ∧ 0 ≤ g ∧ g ≤ 1 ∧ (¬ (0 ≤ x ∧ x ≤ 3) ∨ g = 0)) : pX6_needSeal M g x = some (-1, M) := by
  unfold pX6_needSeal pX6_needSeal_11
  by_cases hx : 0 ≤ x ∧ x ≤ 3
  · rw [placeM_t hx]
    simp (disch := omega) only [bind_some', cEQ_neg, cEQ_pos]
  · rw [placeM_f (by omega)]
    simp (disch := omega) only [bind_some', cEQ_neg, cEQ_pos]
theorem needSeal_no {M : St} {p : Nat} (hp : p < 4) (h : M 18 p = -9) : pX6_needSeal M 1 (p : Int) = some (-3, fdM M 1) := by
  unfold pX6_needSeal pX6_isSeal
  rw [placeM_t (by omega)]
  simp (disch := omega) only [bind_some', cEQ_neg, cEQ_pos, ldI_ok, Int.toNat_natCast, h, meets1, bnd_some]
theorem needSeal_ok {M : St} {p : Nat} (hp : p < 4) (h : 0 ≤ M 18 p ∧ M 18 p ≤ 4) : pX6_needSeal M 1 (p : Int) = some (0, M) := by
  unfold pX6_needSeal pX6_isSeal
  rw [placeM_t (by omega)]
  simp (disch := omega) only [bind_some', cEQ_neg, cEQ_pos, ldI_ok, Int.toNat_natCast]
theorem ISeal.upd {C M C' M' : St} (h : ISeal C M) (p : Nat) (hc : ∀ p', p' < 4 → p' ≠ p → C' (61 + p') = C (61 + p')) (hc5 : ∀ p', p' < 4 → p' ≠ p → C' 5 p' = C 5 p') (hm : ∀ q, 18 ≤ q → q ≤ 25 → ∀ p', p' < 4 → p' ≠ p → M' q p' = M q p') (h7 : M' 7 = M 7) (hn : SealOk C' M' p) : ISeal C' M' := by
  intro p' hp'
  by_cases e : p' = p
  · subst e; exact hn
  · have := h p' hp'
    unfold SealOk at this ⊢
    rw [hc p' hp' e, hc5 p' hp' e, h7, hm 18 (by omega) (by omega) p' hp' e, hm 19 (by omega) (by omega) p' hp' e, hm 20 (by omega) (by omega) p' hp' e, hm 21 (by omega) (by omega) p' hp' e, hm 22 (by omega) (by omega) p' hp' e, hm 23 (by omega) (by omega) p' hp' e, hm 24 (by omega) (by omega) p' hp' e, hm 25 (by omega) (by omega) p' hp' e]
    exact this
theorem Inv_seal {C M C' M' : St} (h : Inv C M) (p : Nat) (hp : p < 4) (hc : ∀ q, q ≠ 0 → q ≠ 5 → q ≠ 61 + p → C' q = C q) (hc5 : ∀ p', p' < 4 → p' ≠ p → C' 5 p' = C 5 p') (hm : ∀ q, q ≠ 0 → q < 18 → M' q = M q) (hm2 : ∀ q, 18 ≤ q → q ≤ 25 → ∀ p', p' < 4 → p' ≠ p → M' q p' = M q p') (hn : SealOk C' M' p) (hset : M' 0 34 = M 0 34 ∧ M' 0 35 = M 0 35 ∧ M' 0 36 = M 0 36 ∧ M' 0 37 = M 0 37) (htold : C' 0 11 = M' 0 2 ∧ C' 0 12 = M' 0 3 ∧ C' 0 13 = M' 0 4 ∧ C' 0 10 = M' 0 0) : Inv C' M' := by
  obtain ⟨h1, h2, h3, h4, h5, h6, h7⟩ := h
  refine ⟨h1.congr (fun q a b => hc q (by omega) (by omega) (by omega)) (hm _ (by decide) (by decide)) (hm _ (by decide) (by decide)), h2.congr (fun q a b => hc q (by omega) (by omega) (by omega)) (hm _ (by decide) (by decide)) (hm _ (by decide) (by decide)), h3.congr (fun q a b => hc q (by omega) (by omega) (by omega)) (fun q a b => hm q (by omega) (by omega)), h4.upd p (fun p' a b => hc _ (by omega) (by omega) (by omega)) hc5 hm2 (hm _ (by decide) (by decide)) hn, ?_, ?_, ?_⟩
  · unfold ISet at h5 ⊢
    rw [hc 6 (by decide) (by decide) (by omega), hset.1, hset.2.1, hset.2.2.1, hset.2.2.2]
    exact h5
  · refine ⟨htold.1, htold.2.1, htold.2.2.1, htold.2.2.2, fun f hf => ?_⟩
    rw [hc 22 (by decide) (by decide) (by omega), hm 1 (by decide) (by decide)]
    exact h6.2.2.2.2 f hf
  · unfold IZero at h7 ⊢
    rw [hc 9 (by decide) (by decide) (by omega), hc 10 (by decide) (by decide) (by omega), hm 15 (by decide) (by decide), hm 16 (by decide) (by decide)]
    exact h7
theorem Inv.told {C M : St} (h : Inv C M) : C 0 11 = M 0 2 ∧ C 0 12 = M 0 3 ∧ C 0 13 = M 0 4 ∧ C 0 10 = M 0 0 := ⟨h.2.2.2.2.2.1.1, h.2.2.2.2.2.1.2.1, h.2.2.2.2.2.1.2.2.1, h.2.2.2.2.2.1.2.2.2.1⟩
/-- asked() tells v now -/
theorem Inv_asked {C M : St} (h : Inv C M) (v : Int) : Inv (put C 0 11 v) (put M 0 2 v) := by
  obtain ⟨h1, h2, h3, h4, h5, h6, h7⟩ := h
  have hc : ∀ q, q ≠ 0 → put C 0 11 v q = C q := fun q a => put_ne a
  have hm : ∀ q, q ≠ 0 → put M 0 2 v q = M q := fun q a => put_ne a
  refine ⟨h1.congr (fun q a b => hc q (by omega)) (hm _ (by decide)) (hm _ (by decide)), h2.congr (fun q a b => hc q (by omega)) (hm _ (by decide)) (hm _ (by decide)), h3.congr (fun q a b => hc q (by omega)) (fun q a b => hm q (by omega)), h4.congr (fun q a b => hc q (by omega)) (hc _ (by decide)) (fun q a b => hm q (by omega)) (hm _ (by decide)), ?_, ?_, ?_⟩
  · unfold ISet at h5 ⊢
    rw [hc 6 (by decide), put_j (by decide), put_j (by decide), put_j (by decide), put_j (by decide)]
    exact h5
  · obtain ⟨a1, a2, a3, a4, a5⟩ := h6
    refine ⟨by rw [put_at, put_at], by rw [put_j (by decide), put_j (by decide)]; exact a2, by rw [put_j (by decide), put_j (by decide)]; exact a3, by rw [put_j (by decide), put_j (by decide)]; exact a4, fun f hf => ?_⟩
    rw [hc 22 (by decide), hm 1 (by decide)]
    exact a5 f hf
  · unfold IZero at h7 ⊢
    rw [hc 9 (by decide), hc 10 (by decide), hm 15 (by decide), hm 16 (by decide)]
    exact h7
theorem e_asked : ca_37 Inv := fun C M h => ⟨M 0 2, by unfold pX5_asked; rw [h.told.1], rfl, h⟩
theorem e_upper : ca_38 Inv := fun C M h => ⟨M 0 3, by unfold pX5_upper; rw [h.told.2.1], rfl, h⟩
theorem e_lower : ca_39 Inv := fun C M h => ⟨M 0 4, by unfold pX5_lower; rw [h.told.2.2.1], rfl, h⟩
theorem e_finding : ca_41 Inv := fun C M h => ⟨M 0 0, by unfold pX5_finding; rw [h.told.2.2.2], rfl, h⟩
theorem e_findings : ca_42 Inv := by
  intro C M x1 hI hx
  unfold pX5_findings pX6_findings
  by_cases h : 1 ≤ x1 ∧ x1 ≤ 5
  · simp (disch := omega) only [within_t, in_t, bind_some', cEQ_neg, ldI_ok]
    exact ⟨_, rfl, by rw [hI.2.2.2.2.2.1.2.2.2.2 x1.toNat (by omega)], hI⟩
  · simp (disch := omega) only [within_f, in_f, bind_some', cEQ_pos]
    exact ⟨_, rfl, rfl, hI⟩
/-- take -/
theorem e_take : ca_12 Inv := by
  intro C M x1 hI hx
  unfold pX5_take pX6_take pX2_isMissing
  by_cases h : 0 ≤ x1 ∧ x1 ≤ 3
  · obtain ⟨p, rfl⟩ := Int.eq_ofNat_of_zero_le h.1
    have hs := hI.2.2.2.1 p (by omega)
    rcases hs.kind with ⟨k1, k2⟩ | ⟨k1, k2, k3⟩
    · rw [needSeal_no (by omega) k1]
      simp (disch := omega) only [place_t, bind_some', cEQ_neg, ldA_ok, Int.toNat_natCast, Nat.one_mul, k2, cLT_pos, bnd_some, found1]
      exact ag_fd hI (by decide)
    · rw [needSeal_ok (by omega) ⟨k1, k2⟩]
      simp (disch := omega) only [place_t, bind_some', cEQ_neg, cEQ_pos, ldA_ok, Int.toNat_natCast, Nat.one_mul, k3, cLT_neg, bnd_some, setS, stI_ok]
      refine ⟨_, _, _, rfl, rfl, Inv_seal hI p (by omega) (fun q a b c => put_ne c) (fun p' a b => by rw [put_ne (by omega)]) (fun q a b => put_ne (by omega)) (fun q a b p' c d => ?_) ?_ ?_ ?_⟩
      · by_cases e : q = 18
        · subst e; exact put_j d
        · rw [put_ne e]
      · unfold SealOk at hs ⊢
        obtain ⟨s1, s2, s3, s4, s5, s6, s7, s8⟩ := hs
        simp only [put_at, put_ne (show (5 : Nat) ≠ 61 + p by omega), put_ne (show (20 : Nat) ≠ 18 by decide), put_ne (show (21 : Nat) ≠ 18 by decide), put_ne (show (22 : Nat) ≠ 18 by decide), put_ne (show (23 : Nat) ≠ 18 by decide), put_ne (show (24 : Nat) ≠ 18 by decide), put_ne (show (25 : Nat) ≠ 18 by decide), put_j (show (1 : Nat) ≠ 0 by decide), put_j (show (2 : Nat) ≠ 0 by decide), put_j (show (3 : Nat) ≠ 0 by decide), put_j (show (4 : Nat) ≠ 0 by decide), put_j (show (5 : Nat) ≠ 0 by decide), put_j (show (6 : Nat) ≠ 0 by decide)]
        exact ⟨s1, s2, s3, ⟨s4.1, s4.2.1, s4.2.2.1, fun e => by omega⟩, s5, s6, s7, Or.inl ⟨trivial, trivial⟩⟩
      · rw [put_ne (by decide)]; exact ⟨rfl, rfl, rfl, rfl⟩
      · rw [put_ne (by omega), put_ne (by decide)]; exact hI.told
  · rw [needSeal_bad (by omega)]
    simp (disch := omega) only [place_f, bind_some', cEQ_pos, bnd_some, cLT_pos]
    exact ag_same hI
