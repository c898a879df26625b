/-! fault -/
theorem item_ok {C M : St} {t : Nat} {j : Int} (ht : t < 4) (h : RR C M t j) (hl : j < M 5 t) : itOK t j (pX0_readItem C (byt M t j)) (pX6_readItem M (t : Int)) := by
  have hr2 := h.2.2.2.1
  have hr3 := h.2.2.2.2.1
  obtain ⟨g1, g2, g3, g4, g5⟩ := here_ok ht h.2.2
  have hS := h.step hl
  have wr : ∀ {o o' : Option (Int × St)}, itOK t j o o' → itOK t j (bnd o (fun z S => isB z (some (z, S)))) o' := by
    rintro o o' ⟨f, C', M', j', rfl, rfl, hf, hR, hj⟩
    rw [bnd_some, isB_ok hf]
    exact ⟨f, C', M', j', rfl, rfl, hf, hR, hj⟩
  have wrM : ∀ {o o' : Option (Int × St)}, itOK t j o o' → itOK t j o (bnd o' (fun z S => isB z (some (z, S)))) := by
    rintro o o' ⟨f, C', M', j', rfl, rfl, hf, hR, hj⟩
    rw [bnd_some, isB_ok hf]
    exact ⟨f, C', M', j', rfl, rfl, hf, hR, hj⟩
  unfold pX0_readItem pX6_readItem pX6_letterOf
  rw [hr3, g2]
  simp only [bind_some']
  by_cases c80 : byt M t j = 80
  · rw [c80]
    simp (disch := omega) only [cEQ_neg, cEQ_pos]
    exact wr (wrM (pair_ok ht h hl))
  · by_cases c84 : byt M t j = 84
    · rw [c84]
      unfold pX0_readPlain pX6_readItem_74 pX6_readItem_75 pX6_readItem_90
      simp (disch := omega) only [cEQ_neg, cEQ_pos, bind_some', setS, hr2, put_at, Int.add_zero, put_self]
      refine wr (?_ : itOK t j _ _)
      have := plain_ok (c := 3) (i := 0) ht hS (by omega : j < j + 1) (by omega)
      rw [show put (put M 0 22 (j + 1)) 0 22 (j + 1) = put M 0 22 (j + 1) by funext q i; simp only [put_sw]; split <;> rfl]
      exact this
    · by_cases c87 : byt M t j = 87
      · rw [c87]
        unfold pX0_readPlain pX6_readItem_74 pX6_readItem_75 pX6_readItem_90
        simp (disch := omega) only [cEQ_neg, cEQ_pos, bind_some', setS, hr2, put_at, Int.add_zero, put_self]
        refine wr (?_ : itOK t j _ _)
        have := plain_ok (c := 5) (i := 2) ht hS (by omega : j < j + 1) (by omega)
        rw [show put (put M 0 22 (j + 1)) 0 22 (j + 1) = put M 0 22 (j + 1) by funext q i; simp only [put_sw]; split <;> rfl]
        exact this
      · by_cases c71 : byt M t j = 71
        · rw [c71]
          unfold pX0_readPlain pX6_readItem_74 pX6_readItem_75 pX6_readItem_90
          simp (disch := omega) only [cEQ_neg, cEQ_pos, bind_some', setS, hr2, put_at, Int.add_zero, put_self]
          refine wr (?_ : itOK t j _ _)
          have := plain_ok (c := 6) (i := 3) ht hS (by omega : j < j + 1) (by omega)
          rw [show put (put M 0 22 (j + 1)) 0 22 (j + 1) = put M 0 22 (j + 1) by funext q i; simp only [put_sw]; split <;> rfl]
          exact this
        · by_cases c67 : byt M t j = 67
          · rw [c67]
            obtain ⟨f1, f2, f3, f4, f5⟩ := here_ok ht hS.2.2
            unfold pX0_readCold pX6_readItem_74 pX6_readItem_75 pX6_readItem_90 pX0_readCold_24 pX0_readCold_39
            simp (disch := omega) only [cEQ_neg, cEQ_pos, bind_some', setS, hr2, put_at, Int.add_zero, f1, f2]
            refine wr (?_ : itOK t j _ _)
            by_cases hm : byt (put M 0 22 (j + 1)) t (j + 1) = 45
            · simp (disch := omega) only [cEQ_pos]
              have hS2 := hS.step (f5 (by omega))
              exact minus_ok ht hS2 (by omega)
            · simp (disch := omega) only [cEQ_neg]
              have := plain_ok (c := 4) (i := 1) ht hS (by omega : j < j + 1) (by omega)
              rw [show put (put M 0 22 (j + 1)) 0 22 (j + 1) = put M 0 22 (j + 1) by funext q i; simp only [put_sw]; split <;> rfl]
              exact this
          · simp (disch := omega) only [cEQ_neg, cEQ_pos]
            exact ⟨0, _, _, _, rfl, rfl, Or.inl rfl, h, fun h => by omega⟩
/-- the whole text read -/
def rdOK (t : Nat) (o o' : Option (Int × St)) : Prop := ∃ (v : Int) (C' M' : St) (j' : Int), o = some (v, C') ∧ o' = some (v, M') ∧ RR C' M' t j' ∧ -9 ≤ v ∧ v ≤ 60 ∧ (v = -9 → 1 ≤ M' 0 18)
theorem loop_ok {C M : St} {t : Nat} (ht : t < 4) (h : RR C M t 0) : rdOK t (lo2 pX0_read_19B FU C 0) (lo1 (pX6_faultOf_40B (t : Int)) FU M) := by
  refine lo21_rel (rdOK t) (fun (S : St) (x : Int) (S' : St) => ∃ j : Int, RR S S' t j ∧ 0 ≤ x ∧ x ≤ j) (fun S _ => (60 - S 7 2).toNat) ?_ FU C 0 M ⟨0, h, by omega, by omega⟩ (by have := FU_big; have := h.2.2.2.1; omega)
  rintro k k' S x S' ⟨j, hR, h0, hx⟩ hk
  obtain ⟨r1, r2, r3, r4, r5, r6⟩ := hR.2.2
  obtain ⟨e1, b1, b2, hc⟩ := r6 t ht
  obtain ⟨g1, g2, g3, g4, g5⟩ := here_ok ht hR.2.2
  have hri := isRow_txt ht
  unfold pX0_read_19B pX6_faultOf_40B pX0_read_77 pX0_read_83 pX3_isMissing
  simp (disch := omega) only [cLT_neg, ldI_ok, Int.toNat_natCast, r3, g2, bind_some', setS]
  rw [gtR_ok _ r1 hri, r2, e1]
  by_cases hl : j < S' 5 t
  · rw [cLT_pos (by omega), cLT_pos (by omega), g1]
    simp only [bind_some']
    by_cases h32 : byt S' t j = 32
    · rw [cEQ_pos (by omega), cEQ_pos (by omega)]
      exact hk _ _ _ ⟨j + 1, hR.step hl, by omega, by omega⟩ (by rw [put_at]; omega)
    · rw [cEQ_neg (by omega), cEQ_neg (by omega)]
      obtain ⟨f, C', M', j', i1, i2, i3, i4, i5⟩ := item_ok ht hR hl
      rw [i1, i2]
      simp only [bnd_some]
      rcases i3 with rfl | rfl
      · rw [cEQ_pos (by omega), cEQ_pos (by omega)]
        have q1 := i4.2.2.2.1
        have q2 := i4.2.2.2.2.1
        have q3 := i4.2.2.2.2.2.1
        have q4 := i4.2.2.2.2.2.2.1
        have q5 := (i4.2.2.2.2.2.2.2 t ht).2.2.1
        exact ⟨j', C', M', j', by rw [q1], by rw [q2], i4, by omega, by omega, fun h => by omega⟩
      · rw [cEQ_neg (by omega), cEQ_neg (by omega)]
        have q1 := i4.2.2.2.1
        have := i5 rfl
        exact hk _ _ _ ⟨j', i4, by omega, by omega⟩ (by rw [q1]; omega)
  · rw [cLT_neg (by omega), cLT_neg (by omega)]
    have hd := hR.2.1
    rw [hd.1]
    have d2 := hd.2.1
    have d3 := hd.2.2.1
    by_cases hz : S' 0 18 = 0
    · rw [cEQ_pos (by omega), bind_some', cEQ_neg (by omega), cEQ_pos (by omega), gtR_ok _ r1 hri, e1]
      exact ⟨_, S, S', j, rfl, rfl, hR, by omega, by omega, fun h => by omega⟩
    · rw [cEQ_neg (by omega), bind_some', cEQ_pos (by omega), cEQ_neg (by omega)]
      exact ⟨-9, S, S', j, rfl, rfl, hR, by omega, by omega, fun _ => by omega⟩
