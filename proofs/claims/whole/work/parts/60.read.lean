/-! the reader's items -/
theorem Inv.scr2 {C M C' M' : St} (h : Inv C M) (hc : ∀ q, q < 7 ∨ 22 ≤ q → C' q = C q) (h9 : C' 9 0 = 0 ∧ C' 10 0 = 0) (hm : ∀ q, q ≠ 0 → q ≠ 4 → q ≠ 15 → q ≠ 16 → q ≠ 17 → q < 26 → M' q = M q) (h15 : M' 15 0 = 0 ∧ M' 16 0 = 0) (h0 : ∀ j, j ≤ 4 ∨ (34 ≤ j ∧ j ≤ 37) → M' 0 j = M 0 j) : Inv C' M' := by
  obtain ⟨h1, h2, h3, h4, h5, h6, h7⟩ := h
  refine ⟨h1.congr (fun q a b => hc q (by omega)) (hm _ (by decide) (by decide) (by decide) (by decide) (by decide) (by decide)) (hm _ (by decide) (by decide) (by decide) (by decide) (by decide) (by decide)), h2.congr (fun q a b => hc q (by omega)) (hm _ (by decide) (by decide) (by decide) (by decide) (by decide) (by decide)) (hm _ (by decide) (by decide) (by decide) (by decide) (by decide) (by decide)), h3.congr (fun q a b => hc q (by omega)) (fun q a b => hm q (by omega) (by omega) (by omega) (by omega) (by omega) (by omega)), h4.congr (fun q a b => hc q (by omega)) (hc 5 (by omega)) (fun q a b => hm q (by omega) (by omega) (by omega) (by omega) (by omega) (by omega)) (hm _ (by decide) (by decide) (by decide) (by decide) (by decide) (by decide)), ?_, ?_, ⟨h9.1, h9.2, h15.1, h15.2⟩⟩
  · unfold ISet at h5 ⊢
    rw [h0 34 (by omega), h0 35 (by omega), h0 36 (by omega), h0 37 (by omega), hc 6 (by omega)]
    exact h5
  · unfold ITold at h6 ⊢
    rw [h0 2 (by omega), h0 3 (by omega), h0 4 (by omega), h0 0 (by omega), hm 1 (by decide) (by decide) (by decide) (by decide) (by decide) (by decide), hc 0 (by omega), hc 22 (by omega)]
    exact h6
def DR (C M : St) : Prop := C 8 2 = M 0 18 ∧ 0 ≤ M 0 18 ∧ M 0 18 ≤ 4 ∧ (∀ k : Nat, (k : Int) ≤ M 0 18 → C 9 k = M 15 k ∧ C 10 k = M 16 k) ∧ (∀ k : Nat, (k : Int) < M 0 18 → M 15 k < M 15 (k + 1) ∧ M 16 k < M 16 (k + 1)) ∧ (∀ k : Nat, (k : Int) ≤ M 0 18 → 0 ≤ M 15 k ∧ M 15 k ≤ 20 ∧ 0 ≤ M 16 k ∧ M 16 k ≤ 999) ∧ (C 8 3 = M 17 0 ∧ 0 ≤ M 17 0 ∧ M 17 0 ≤ 99) ∧ (C 8 4 = M 17 1 ∧ -99 ≤ M 17 1 ∧ M 17 1 ≤ 99) ∧ (C 8 5 = M 17 2 ∧ 0 ≤ M 17 2 ∧ M 17 2 ≤ 99) ∧ (C 8 6 = M 17 3 ∧ 0 ≤ M 17 3 ∧ M 17 3 ≤ 99)
def RR (C M : St) (t : Nat) (j : Int) : Prop := Inv C M ∧ DR C M ∧ RAt C M t j
theorem RR.num {C M C' M' : St} {t : Nat} {j j' : Int} (h : RR C M t j) (hr : RAt C' M' t j') (hc : NumC C C') (hm : NumM M M') : RR C' M' t j' := by
  obtain ⟨h1, h2, h3⟩ := h
  refine ⟨h1.scr2 (fun q hq => hc.1 q (by omega)) ?_ (fun q a _ _ _ _ _ => hm.1 q a) ?_ (fun i hi => hm.2 i (by omega) (by omega)), ?_, hr⟩
  · rw [hc.1 9 (by decide), hc.1 10 (by decide)]; exact ⟨h1.2.2.2.2.2.2.1, h1.2.2.2.2.2.2.2.1⟩
  · rw [hm.1 15 (by decide), hm.1 16 (by decide)]; exact h1.2.2.2.2.2.2.2.2
  · unfold DR at h2 ⊢
    rw [hc.1 8 (by decide), hc.1 9 (by decide), hc.1 10 (by decide), hm.1 15 (by decide), hm.1 16 (by decide), hm.1 17 (by decide), hm.2 18 (by decide) (by decide)]
    exact h2
theorem RR.step {C M : St} {t : Nat} {j : Int} (h : RR C M t j) (hl : j < M 5 t) : RR (put C 7 2 (j + 1)) (put M 0 22 (j + 1)) t (j + 1) := by
  obtain ⟨r1, r2, r3, r4, r5, r6⟩ := h.2.2
  refine h.num ⟨by rw [put_j (by decide)]; exact r1, put_at, put_at, by omega, by rw [put_ne (by decide)]; omega, r6.congr (fun q a b => by rw [put_ne (by omega)]) (by rw [put_ne (by decide)]) (by rw [put_ne (by decide)])⟩ ⟨fun q hq => put_ne hq, by rw [put_j (by decide)]⟩ ⟨fun q hq => put_ne hq, fun i h1 h2 => put_j h1⟩
def itOK (t : Nat) (j : Int) (o o' : Option (Int × St)) : Prop := ∃ (f : Int) (C' M' : St) (j' : Int), o = some (f, C') ∧ o' = some (f, M') ∧ (f = 0 ∨ f = 1) ∧ RR C' M' t j' ∧ (f = 1 → j < j')
theorem RR.store {C M : St} {t : Nat} {j : Int} (h : RR C M t j) {c i : Nat} {v : Int} (hci : (c = 3 ∧ i = 0 ∧ 0 ≤ v ∧ v ≤ 99) ∨ (c = 4 ∧ i = 1 ∧ -99 ≤ v ∧ v ≤ 99) ∨ (c = 5 ∧ i = 2 ∧ 0 ≤ v ∧ v ≤ 99) ∨ (c = 6 ∧ i = 3 ∧ 0 ≤ v ∧ v ≤ 99)) : RR (put C 8 c v) (put M 17 i v) t j := by
  obtain ⟨h1, h2, h3⟩ := h
  refine ⟨h1.scr2 (fun q hq => put_ne (by omega)) ?_ (fun q a _ _ _ b _ => put_ne b) ?_ (fun i hi => by rw [put_ne (by decide)]), ?_, ?_⟩
  · rw [put_ne (by decide), put_ne (by decide)]; exact ⟨h1.2.2.2.2.2.2.1, h1.2.2.2.2.2.2.2.1⟩
  · rw [put_ne (by decide), put_ne (by decide)]; exact h1.2.2.2.2.2.2.2.2
  · obtain ⟨d1, d2, d3, d4, d5, d6, d7, d8, d9, d10⟩ := h2
    unfold DR
    rw [put_ne (show (9 : Nat) ≠ 8 by decide), put_ne (show (10 : Nat) ≠ 8 by decide), put_ne (show (15 : Nat) ≠ 17 by decide), put_ne (show (16 : Nat) ≠ 17 by decide), put_ne (show (0 : Nat) ≠ 17 by decide)]
    rcases hci with ⟨rfl, rfl, hv⟩ | ⟨rfl, rfl, hv⟩ | ⟨rfl, rfl, hv⟩ | ⟨rfl, rfl, hv⟩
    · refine ⟨by rw [put_j (by decide)]; exact d1, d2, d3, d4, d5, d6, ?_, ?_, ?_, ?_⟩ <;> simp [put_sw] <;> assumption
    · refine ⟨by rw [put_j (by decide)]; exact d1, d2, d3, d4, d5, d6, ?_, ?_, ?_, ?_⟩ <;> simp [put_sw] <;> assumption
    · refine ⟨by rw [put_j (by decide)]; exact d1, d2, d3, d4, d5, d6, ?_, ?_, ?_, ?_⟩ <;> simp [put_sw] <;> assumption
    · refine ⟨by rw [put_j (by decide)]; exact d1, d2, d3, d4, d5, d6, ?_, ?_, ?_, ?_⟩ <;> simp [put_sw] <;> assumption
  · obtain ⟨r1, r2, r3, r4, r5, r6⟩ := h3
    exact ⟨by rw [put_ne (by decide)]; exact r1, by rw [put_ne (by decide)]; exact r2, by rw [put_ne (by decide)]; exact r3, r4, by rw [put_ne (by decide)]; exact r5, r6.congr (fun q a b => by rw [put_ne (by omega)]) (by rw [put_ne (by decide)]) (by rw [put_ne (by decide)])⟩
/-- a number behind its letter -/
theorem plain_ok {C M : St} {t : Nat} {j0 j : Int} (ht : t < 4) (h : RR C M t j) (hj : j0 < j) {c i : Nat} (hci : (c = 3 ∧ i = 0) ∨ (c = 4 ∧ i = 1) ∨ (c = 5 ∧ i = 2) ∨ (c = 6 ∧ i = 3)) : itOK t j0 (bnd (pX0_number C 2) (fun z S => cLT z 0 (some (0, S)) (some (1, put S 8 c z)))) (bnd (pX6_readNumber M (t : Int) 2) (fun z S => cEQ z 0 (some (0, S)) (stI S 17 4 (i : Int) (S 0 23) (fun S' => some (1, S'))))) := by
  obtain ⟨v, C', M', j', n1, n2, n3, n4, n5, n6, n7, n8, n9⟩ := number_ok (m := 2) ht h.2.2 (Or.inl rfl)
  have n4' : v < 100 := n4
  have e2 : ((2 : Nat) : Int) = 2 := rfl
  rw [e2] at n1 n2
  rw [n1, n2]
  simp only [bnd_some]
  have hR := h.num n6 n8 n9
  by_cases h0 : 0 ≤ v
  · rw [if_pos h0, cLT_neg (by omega), cEQ_neg (by omega), stI_ok (by omega), Int.toNat_natCast, n5 h0]
    exact ⟨1, _, _, j', rfl, rfl, Or.inr rfl, hR.store (by omega), fun _ => by omega⟩
  · rw [if_neg h0, cLT_pos (by omega), cEQ_pos (by omega)]
    exact ⟨0, _, _, j', rfl, rfl, Or.inl rfl, hR, fun h => by omega⟩
theorem minus_ok {C M : St} {t : Nat} {j0 j : Int} (ht : t < 4) (h : RR C M t j) (hj : j0 < j) : itOK t j0 (bnd (pX0_number C 2) (fun z S => cLT z 0 (some (0, S)) (some (1, put S 8 4 (-z))))) (bnd (pX6_readNumber M (t : Int) 2) (fun z S => cEQ z 0 (some (0, S)) (stI S 17 4 1 (-(S 0 23)) (fun S' => some (1, S'))))) := by
  obtain ⟨v, C', M', j', n1, n2, n3, n4, n5, n6, n7, n8, n9⟩ := number_ok (m := 2) ht h.2.2 (Or.inl rfl)
  have n4' : v < 100 := n4
  have e2 : ((2 : Nat) : Int) = 2 := rfl
  rw [e2] at n1 n2
  rw [n1, n2]
  simp only [bnd_some]
  have hR := h.num n6 n8 n9
  by_cases h0 : 0 ≤ v
  · rw [if_pos h0, cLT_neg (by omega), cEQ_neg (by omega), stI_ok (by omega), n5 h0]
    exact ⟨1, _, _, j', rfl, rfl, Or.inr rfl, hR.store (i := 1) (by omega), fun _ => by omega⟩
  · rw [if_neg h0, cLT_pos (by omega), cEQ_pos (by omega)]
    exact ⟨0, _, _, j', rfl, rfl, Or.inl rfl, hR, fun h => by omega⟩
