/-! depth, let, told, mark, about, renew, stretch, seal -/
theorem e_depth : ca_13 Inv := by
  intro C M x1 x2 hI hx1 hx2
  unfold pX5_depth pX6_depth
  by_cases h : 0 ≤ x1 ∧ x1 ≤ 3
  · obtain ⟨p, rfl⟩ := Int.eq_ofNat_of_zero_le h.1
    have hs := hI.2.2.2.1 p (by omega)
    by_cases h2 : 0 ≤ x2 ∧ x2 ≤ 200
    · simp (disch := omega) only [place_t, placeM_t, bind_some', cEQ_neg, within_t, in_t, ldI_ok, stI_ok, Int.toNat_natCast]
      have e5 : C 5 p = M 25 p := hs.2.2.2.2.2.1.1
      refine ⟨_, _, _, rfl, by rw [e5], Inv_seal (M' := put M 25 p x2) hI p (by omega) (fun q a b c => put_ne b) (fun p' a b => put_j b) (fun q a b => put_ne (by omega)) (fun q a b p' c d => ?_) ?_ ?_ ?_⟩
      · by_cases e : q = 25
        · subst e; exact put_j d
        · rw [put_ne e]
      · unfold SealOk at hs ⊢
        obtain ⟨s1, s2, s3, s4, s5, s6, s7, s8⟩ := hs
        simp only [put_at, put_ne (show 61 + p ≠ 5 by omega), put_ne (show (18 : Nat) ≠ 25 by decide), put_ne (show (19 : Nat) ≠ 25 by decide), put_ne (show (20 : Nat) ≠ 25 by decide), put_ne (show (21 : Nat) ≠ 25 by decide), put_ne (show (22 : Nat) ≠ 25 by decide), put_ne (show (23 : Nat) ≠ 25 by decide), put_ne (show (24 : Nat) ≠ 25 by decide), put_ne (show (7 : Nat) ≠ 25 by decide)]
        exact ⟨s1, s2, s3, s4, s5, ⟨trivial, h2.1, h2.2⟩, s7, s8⟩
      · rw [put_ne (by decide)]; exact ⟨rfl, rfl, rfl, rfl⟩
      · rw [put_ne (by decide), put_ne (by decide)]; exact hI.told
    · simp (disch := omega) only [place_t, placeM_t, bind_some', cEQ_neg, cEQ_pos, within_f, in_f]
      exact ag_same hI
  · simp (disch := omega) only [place_f, placeM_f, bind_some', cEQ_pos]
    exact ag_same hI
theorem Inv_set {C M : St} (h : Inv C M) {j k : Nat} {v : Int} (hj : (j = 0 ∧ k = 34 ∧ 0 ≤ v ∧ v ≤ 99999) ∨ (j = 1 ∧ k = 35 ∧ -99 ≤ v ∧ v ≤ 99) ∨ (j = 2 ∧ k = 36 ∧ 0 ≤ v ∧ v ≤ 9999) ∨ (j = 3 ∧ k = 37 ∧ 0 ≤ v ∧ v ≤ 99)) {M' : St} (hM : M' = put M 0 k v) : Inv (put C 6 j v) M' := by
  subst hM
  obtain ⟨h1, h2, h3, h4, h5, h6, h7⟩ := h
  have hc : ∀ q, q ≠ 6 → put C 6 j v q = C q := fun q a => put_ne a
  have hm : ∀ q, q ≠ 0 → put M 0 k v q = M q := fun q a => put_ne a
  refine ⟨h1.congr (fun q a b => hc q (by omega)) (hm _ (by decide)) (hm _ (by decide)), h2.congr (fun q a b => hc q (by omega)) (hm _ (by decide)) (hm _ (by decide)), h3.congr (fun q a b => hc q (by omega)) (fun q a b => hm q (by omega)), h4.congr (fun q a b => hc q (by omega)) (hc _ (by decide)) (fun q a b => hm q (by omega)) (hm _ (by decide)), ?_, ?_, ?_⟩
  · obtain ⟨a1, a2, a3, a4⟩ := h5
    rcases hj with ⟨rfl, rfl, hv⟩ | ⟨rfl, rfl, hv⟩ | ⟨rfl, rfl, hv⟩ | ⟨rfl, rfl, hv⟩ <;> simp only [ISet, put] <;> simp <;> first | exact ⟨hv, a2, a3, a4⟩ | exact ⟨a1, hv, a3, a4⟩ | exact ⟨a1, a2, hv, a4⟩ | exact ⟨a1, a2, a3, hv⟩
  · obtain ⟨a1, a2, a3, a4, a5⟩ := h6
    have hk : k ≠ 2 ∧ k ≠ 3 ∧ k ≠ 4 ∧ k ≠ 0 := by omega
    refine ⟨by rw [hc 0 (by decide), put_j (Ne.symm hk.1)]; exact a1, by rw [hc 0 (by decide), put_j (Ne.symm hk.2.1)]; exact a2, by rw [hc 0 (by decide), put_j (Ne.symm hk.2.2.1)]; exact a3, by rw [hc 0 (by decide), put_j (Ne.symm hk.2.2.2)]; exact a4, fun f hf => ?_⟩
    rw [hc 22 (by decide), hm 1 (by decide)]
    exact a5 f hf
  · unfold IZero at h7 ⊢
    rw [hc 9 (by decide), hc 10 (by decide), hm 15 (by decide), hm 16 (by decide)]
    exact h7
theorem put_self {S : St} {q j : Nat} : put S q j (S q j) = S := by
  funext x y; unfold put; by_cases h : x = q ∧ y = j
  · rw [if_pos h, h.1, h.2]
  · rw [if_neg h]
theorem ldT_ok {α : Type} {T : Nat → Int} {i : Int} {k : Int → Option α} (h : 0 ≤ i ∧ i < 4) : ldT T i k = k (T i.toNat) := by
  unfold ldT; rw [if_pos h]
theorem letM_ok {M : St} {x1 x2 : Int} {k : Nat} {v : Int} (h : -2147483648 ≤ x1 ∧ x1 ≤ 2147483647) (hk : (x1 = 0 ∧ k = 34) ∨ (x1 = 1 ∧ k = 35) ∨ (x1 = 2 ∧ k = 36) ∨ (x1 = 3 ∧ k = 37)) : pX6_let_112 M x1 x2 v = some (v, put M 0 k x2) := by
  unfold pX6_let_112 pX6_let_127 pX6_let_144 pX6_let_161
  rcases hk with ⟨rfl, rfl⟩ | ⟨rfl, rfl⟩ | ⟨rfl, rfl⟩ | ⟨rfl, rfl⟩
  · simp (disch := omega) only [cEQ_pos, cEQ_neg, setS, put_self]
  · simp (disch := omega) only [cEQ_pos, cEQ_neg, setS, put_self]
  · simp (disch := omega) only [cEQ_pos, cEQ_neg, setS, put_self]
  · simp (disch := omega) only [cEQ_pos, cEQ_neg, setS, put_self]
theorem e_let : ca_17 Inv := by
  intro C M x1 x2 hI hx1 hx2
  obtain ⟨a1, a2, a3, a4⟩ := hI.2.2.2.2.1
  unfold pX5_let pX6_let pX6_let_65 pX6_let_66
  by_cases h : 0 ≤ x1 ∧ x1 ≤ 3
  · rcases (show x1 = 0 ∨ x1 = 1 ∨ x1 = 2 ∨ x1 = 3 by omega) with rfl | rfl | rfl | rfl
    · simp (disch := omega) only [within_t, bind_some', cEQ_neg, cEQ_pos, ldT_ok]
      by_cases hv : 0 ≤ x2 ∧ x2 ≤ 99999
      · rw [show pX5_within x2 (tLeast (Int.toNat 0)) (tMost (Int.toNat 0)) = some 1 from within_t ⟨by decide, hv.1, hv.2, by decide⟩]
        simp (disch := omega) only [in_t, bind_some', cEQ_neg, cEQ_pos, ldI_ok, stI_ok]
        rw [letM_ok (k := 34) (by omega) (by omega)]
        exact ⟨_, _, _, rfl, by rw [← a1.1]; rfl, Inv_set (k := 34) hI (Or.inl ⟨rfl, rfl, hv⟩) rfl⟩
      · rw [show pX5_within x2 (tLeast (Int.toNat 0)) (tMost (Int.toNat 0)) = some 0 from within_f ⟨hx2.1, hx2.2, by decide, by decide, by decide, by decide, hv⟩]
        simp (disch := omega) only [in_f, bind_some', cEQ_pos]
        exact ag_same hI
    · simp (disch := omega) only [within_t, bind_some', cEQ_neg, cEQ_pos, ldT_ok]
      by_cases hv : -99 ≤ x2 ∧ x2 ≤ 99
      · rw [show pX5_within x2 (tLeast (Int.toNat 1)) (tMost (Int.toNat 1)) = some 1 from within_t ⟨by decide, hv.1, hv.2, by decide⟩]
        simp (disch := omega) only [in_t, bind_some', cEQ_neg, cEQ_pos, ldI_ok, stI_ok]
        rw [letM_ok (k := 35) (by omega) (by omega)]
        exact ⟨_, _, _, rfl, by rw [← a2.1]; rfl, Inv_set (k := 35) hI (Or.inr (Or.inl ⟨rfl, rfl, hv⟩)) rfl⟩
      · rw [show pX5_within x2 (tLeast (Int.toNat 1)) (tMost (Int.toNat 1)) = some 0 from within_f ⟨hx2.1, hx2.2, by decide, by decide, by decide, by decide, hv⟩]
        simp (disch := omega) only [in_f, bind_some', cEQ_pos]
        exact ag_same hI
    · simp (disch := omega) only [within_t, bind_some', cEQ_neg, cEQ_pos, ldT_ok]
      by_cases hv : 0 ≤ x2 ∧ x2 ≤ 9999
      · rw [show pX5_within x2 (tLeast (Int.toNat 2)) (tMost (Int.toNat 2)) = some 1 from within_t ⟨by decide, hv.1, hv.2, by decide⟩]
        simp (disch := omega) only [in_t, bind_some', cEQ_neg, cEQ_pos, ldI_ok, stI_ok]
        rw [letM_ok (k := 36) (by omega) (by omega)]
        exact ⟨_, _, _, rfl, by rw [← a3.1]; rfl, Inv_set (k := 36) hI (Or.inr (Or.inr (Or.inl ⟨rfl, rfl, hv⟩))) rfl⟩
      · rw [show pX5_within x2 (tLeast (Int.toNat 2)) (tMost (Int.toNat 2)) = some 0 from within_f ⟨hx2.1, hx2.2, by decide, by decide, by decide, by decide, hv⟩]
        simp (disch := omega) only [in_f, bind_some', cEQ_pos]
        exact ag_same hI
    · simp (disch := omega) only [within_t, bind_some', cEQ_neg, cEQ_pos, ldT_ok]
      by_cases hv : 0 ≤ x2 ∧ x2 ≤ 99
      · rw [show pX5_within x2 (tLeast (Int.toNat 3)) (tMost (Int.toNat 3)) = some 1 from within_t ⟨by decide, hv.1, hv.2, by decide⟩]
        simp (disch := omega) only [in_t, bind_some', cEQ_neg, cEQ_pos, ldI_ok, stI_ok]
        rw [letM_ok (k := 37) (by omega) (by omega)]
        exact ⟨_, _, _, rfl, by rw [← a4.1]; rfl, Inv_set (k := 37) hI (Or.inr (Or.inr (Or.inr ⟨rfl, rfl, hv⟩))) rfl⟩
      · rw [show pX5_within x2 (tLeast (Int.toNat 3)) (tMost (Int.toNat 3)) = some 0 from within_f ⟨hx2.1, hx2.2, by decide, by decide, by decide, by decide, hv⟩]
        simp (disch := omega) only [in_f, bind_some', cEQ_pos]
        exact ag_same hI
  · simp (disch := omega) only [within_f, bind_some', cEQ_neg, cEQ_pos]
    exact ag_same hI
theorem e_told : ca_15 Inv := by
  intro C M x1 x2 hI hx1 hx2
  unfold pX5_told pX6_told pX2_isMissing pX2_tells pX6_sealTells pX6_tells
  by_cases h2 : 0 ≤ x2 ∧ x2 ≤ 4
  · rw [in_t (by omega), within_t (by omega)]
    simp only [bind_some']
    by_cases h : 0 ≤ x1 ∧ x1 ≤ 3
    · obtain ⟨p, rfl⟩ := Int.eq_ofNat_of_zero_le h.1
      have hs := hI.2.2.2.1 p (by omega)
      rcases hs.kind with ⟨k1, k2⟩ | ⟨k1, k2, k3⟩
      · rw [needSeal_no (by omega) k1]
        simp (disch := omega) only [place_t, bind_some', cEQ_neg, ldA_ok, Int.toNat_natCast, Nat.one_mul, k2, cLT_pos, bnd_some, found1]
        exact ag_fd hI (by decide)
      · rw [needSeal_ok (by omega) ⟨k1, k2⟩]
        obtain ⟨s1, s2, s3, s4, s5, s6, s7, s8⟩ := hs
        rcases (show x2 = 0 ∨ x2 = 1 ∨ x2 = 2 ∨ x2 = 3 ∨ x2 = 4 by omega) with rfl | rfl | rfl | rfl | rfl
        · simp (disch := omega) only [place_t, bind_some', cEQ_neg, cEQ_pos, ldA_ok, ldI_ok, Int.toNat_natCast, Nat.one_mul, k3, cLT_neg, bnd_some, setS]
          exact ⟨_, _, _, rfl, rfl, Inv_asked hI _⟩
        · simp (disch := omega) only [place_t, bind_some', cEQ_neg, cEQ_pos, ldA_ok, ldI_ok, Int.toNat_natCast, Nat.one_mul, k3, s2.1, cLT_neg, bnd_some, setS]
          exact ⟨_, _, _, rfl, rfl, Inv_asked hI _⟩
        · simp (disch := omega) only [place_t, bind_some', cEQ_neg, cEQ_pos, ldA_ok, ldI_ok, Int.toNat_natCast, Nat.one_mul, k3, s1.1, cLT_neg, bnd_some, setS]
          exact ⟨_, _, _, rfl, rfl, Inv_asked hI _⟩
        · simp (disch := omega) only [place_t, bind_some', cEQ_neg, cEQ_pos, ldA_ok, ldI_ok, Int.toNat_natCast, Nat.one_mul, k3, s3.1, cLT_neg, bnd_some, setS]
          exact ⟨_, _, _, rfl, rfl, Inv_asked hI _⟩
        · simp (disch := omega) only [place_t, bind_some', cEQ_neg, cEQ_pos, ldA_ok, ldI_ok, Int.toNat_natCast, Nat.one_mul, k3, s6.1, cLT_neg, bnd_some, setS]
          exact ⟨_, _, _, rfl, rfl, Inv_asked hI _⟩
    · rw [needSeal_bad (by omega)]
      simp (disch := omega) only [place_f, bind_some', cEQ_pos, bnd_some, cLT_pos]
      exact ag_same hI
  · rw [in_f (by omega), within_f (by omega)]
    simp only [bind_some']
    rw [needSeal_bad (by omega)]
    by_cases h : 0 ≤ x1 ∧ x1 ≤ 3
    · simp (disch := omega) only [place_t, bind_some', cEQ_pos, cEQ_neg, bnd_some, cLT_pos]
      exact ag_same hI
    · simp (disch := omega) only [place_f, bind_some', cEQ_pos, bnd_some, cLT_pos]
      exact ag_same hI
/-- which kinds a seal is of: the class's is() -/
theorem is_ok {C : St} {q : Nat} {k w : Int} (hk : C q 0 = k) (h : -1 ≤ k ∧ k ≤ 4 ∧ 0 ≤ w ∧ w ≤ 4) : pX2_is C q w = some (if (w = 3 ∨ w = 4) then (if k = w then 1 else 0) else (if w ≤ k then 1 else 0)) := by
  unfold pX2_is pX2_is_10
  rw [hk, cEQ_if (by omega), cEQ_if (by omega), cEQ_if (by omega), cLT_if (by omega)]
  (repeat' split) <;> first | rfl | omega
