/-! findings, rows, texts -/
theorem within_ok {x a b : Int} (h : -2147483648 ≤ x ∧ x ≤ 2147483647 ∧ -2147483648 ≤ a ∧ a ≤ 2147483647 ∧ -2147483648 ≤ b ∧ b ≤ 2147483647) : pX5_within x a b = some (if a ≤ x ∧ x ≤ b then 1 else 0) := by
  unfold pX5_within
  rw [cLT_if (by omega), cLT_if (by omega)]
  split <;> split <;> split <;> first | rfl | omega
theorem in_ok {x a b : Int} (h : -2147483648 ≤ x ∧ x ≤ 2147483647 ∧ -2147483648 ≤ a ∧ a ≤ 2147483647 ∧ -2147483648 ≤ b ∧ b ≤ 2147483647) : pX6_in x a b = some (if a ≤ x ∧ x ≤ b then 1 else 0) := by
  unfold pX6_in
  rw [cLT_if (by omega), cLT_if (by omega)]
  split <;> split <;> split <;> first | rfl | omega
theorem within_t {x a b : Int} (h : -2147483648 ≤ a ∧ a ≤ x ∧ x ≤ b ∧ b ≤ 2147483647) : pX5_within x a b = some 1 := by
  rw [within_ok (by omega), if_pos (by omega)]
theorem within_f {x a b : Int} (h : -2147483648 ≤ x ∧ x ≤ 2147483647 ∧ -2147483648 ≤ a ∧ a ≤ 2147483647 ∧ -2147483648 ≤ b ∧ b ≤ 2147483647 ∧ ¬ (a ≤ x ∧ x ≤ b)) : pX5_within x a b = some 0 := by
  rw [within_ok (by omega), if_neg (by omega)]
theorem in_t {x a b : Int} (h : -2147483648 ≤ a ∧ a ≤ x ∧ x ≤ b ∧ b ≤ 2147483647) : pX6_in x a b = some 1 := by
  rw [in_ok (by omega), if_pos (by omega)]
theorem in_f {x a b : Int} (h : -2147483648 ≤ x ∧ x ≤ 2147483647 ∧ -2147483648 ≤ a ∧ a ≤ 2147483647 ∧ -2147483648 ≤ b ∧ b ≤ 2147483647 ∧ ¬ (a ≤ x ∧ x ≤ b)) : pX6_in x a b = some 0 := by
  rw [in_ok (by omega), if_neg (by omega)]
theorem rlen_row {r : Nat} (h : r < 6) : rlen (23 + 2 * r) = 40 := by
  unfold rlen; rw [if_neg (by omega), if_pos (by omega)]
theorem rlen_txt {t : Nat} (h : t < 4) : rlen (35 + 2 * t) = 60 := by
  unfold rlen; rw [if_neg (by omega), if_neg (by omega)]
def fdC (C : St) (f : Nat) : St := put (put C 0 10 (f : Int)) 22 f (C 22 f + 1)
def fdM (M : St) (f : Nat) : St := put (put M 0 0 (f : Int)) 1 f (M 1 f + 1)
theorem found_ok {C : St} {f : Nat} (h : 1 ≤ f ∧ f ≤ 5) : pX5_found C (f : Int) = some (-3, fdC C f) := by
  unfold pX5_found
  rw [within_t (by omega)]
  simp only [bind_some']
  rw [cEQ_neg (by omega)]
  simp only [setS]
  rw [ldI_ok (by omega), stI_ok (by omega)]
  simp [fdC, put]
theorem meets_ok {M : St} {f : Nat} (h : 1 ≤ f ∧ f ≤ 5) : pX6_meets M (f : Int) = some (-3, fdM M f) := by
  unfold pX6_meets
  simp only [setS]
  rw [ldI_ok (by omega), stI_ok (by omega)]
  simp [fdM, put]
theorem Inv_found {C M : St} (h : Inv C M) {f : Nat} (hf : 1 ≤ f ∧ f ≤ 5) : Inv (fdC C f) (fdM M f) := by
  obtain ⟨h1, h2, h3, h4, h5, h6, h7⟩ := h
  have hc : ∀ q, q ≠ 0 → q ≠ 22 → fdC C f q = C q := fun q a b => by unfold fdC; rw [put_ne b, put_ne a]
  have hm : ∀ q, q ≠ 0 → q ≠ 1 → fdM M f q = M q := fun q a b => by unfold fdM; rw [put_ne b, put_ne a]
  refine ⟨h1.congr (fun q a b => hc q (by omega) (by omega)) (hm _ (by decide) (by decide)) (hm _ (by decide) (by decide)), h2.congr (fun q a b => hc q (by omega) (by omega)) (hm _ (by decide) (by decide)) (hm _ (by decide) (by decide)), h3.congr (fun q a b => hc q (by omega) (by omega)) (fun q a b => hm q (by omega) (by omega)), h4.congr (fun q a b => hc q (by omega) (by omega)) (hc _ (by decide) (by decide)) (fun q a b => hm q (by omega) (by omega)) (hm _ (by decide) (by decide)), ?_, ?_, ?_⟩
  · unfold ISet at h5 ⊢
    rw [hc 6 (by decide) (by decide)]
    simpa [fdM, put] using h5
  · obtain ⟨a1, a2, a3, a4, a5⟩ := h6
    refine ⟨by simpa [fdC, fdM, put] using a1, by simpa [fdC, fdM, put] using a2, by simpa [fdC, fdM, put] using a3, by simp [fdC, fdM, put], fun g hg => ?_⟩
    have := a5 g hg
    have h5' := a5 f (by omega)
    simp only [fdC, fdM, put]
    by_cases e : g = f
    · simp [e, h5']
    · simp [e, this]
  · unfold IZero at h7 ⊢
    rw [hc 9 (by decide) (by decide), hc 10 (by decide) (by decide), hm 15 (by decide) (by decide), hm 16 (by decide) (by decide)]
    exact h7
theorem found1 {C : St} : pX5_found C 1 = some (-3, fdC C 1) := found_ok (f := 1) (by decide)
theorem found2 {C : St} : pX5_found C 2 = some (-3, fdC C 2) := found_ok (f := 2) (by decide)
theorem found3 {C : St} : pX5_found C 3 = some (-3, fdC C 3) := found_ok (f := 3) (by decide)
theorem found4 {C : St} : pX5_found C 4 = some (-3, fdC C 4) := found_ok (f := 4) (by decide)
theorem found5 {C : St} : pX5_found C 5 = some (-3, fdC C 5) := found_ok (f := 5) (by decide)
theorem meets1 {C : St} : pX6_meets C 1 = some (-3, fdM C 1) := meets_ok (f := 1) (by decide)
theorem meets2 {C : St} : pX6_meets C 2 = some (-3, fdM C 2) := meets_ok (f := 2) (by decide)
theorem meets3 {C : St} : pX6_meets C 3 = some (-3, fdM C 3) := meets_ok (f := 3) (by decide)
theorem meets4 {C : St} : pX6_meets C 4 = some (-3, fdM C 4) := meets_ok (f := 4) (by decide)
theorem meets5 {C : St} : pX6_meets C 5 = some (-3, fdM C 5) := meets_ok (f := 5) (by decide)
theorem ag_fd {C M : St} (h : Inv C M) {f : Nat} (hf : 1 ≤ f ∧ f ≤ 5) : agWW Inv (some (-3, fdC C f)) (some (-3, fdM M f)) := ⟨_, _, _, rfl, rfl, Inv_found h hf⟩
theorem ag_same {C M : St} (h : Inv C M) {v : Int} : agWW Inv (some (v, C)) (some (v, M)) := ⟨_, _, _, rfl, rfl, h⟩
/-- tear -/
theorem e_tear : ca_2 Inv := by
  intro C M x1 hI hx
  unfold pX5_tear pX6_tear pX5_isRow pX6_isRow pX1_isMissing
  by_cases h : 0 ≤ x1 ∧ x1 ≤ 5
  · obtain ⟨r, rfl⟩ := Int.eq_ofNat_of_zero_le h.1
    have hr := hI.1 r (by omega)
    obtain ⟨e1, b1, b2, -⟩ := hr
    simp (disch := omega) only [within_t, in_t, bind_some', isB_ok, cEQ_neg, ldA_ok, ldI_ok, Int.toNat_natCast, e1]
    by_cases hm : M 2 r < 0
    · simp (disch := omega) only [cLT_pos, bind_some', cEQ_neg, found1, meets1, bnd_some]
      exact ag_fd hI (by decide)
    · simp (disch := omega) only [cLT_neg, bind_some', cEQ_pos, ldA_ok, stI_ok, Int.toNat_natCast, setS]
      sorry
  · simp (disch := omega) only [within_f, in_f, bind_some', isB_ok, cEQ_pos]
    exact ag_same hI
