/-! copy -/
def cpA (M : St) (a b n : Nat) : St := fun q j => if q = 4 ∧ j < n then M 3 (a + b + j) else M q j
def cpB (M : St) (a b n : Nat) : St := fun q j => if q = 3 ∧ a + b ≤ j ∧ j < a + b + n then M 4 (j - (a + b)) else M q j
theorem copy_one {M : St} {r s r' s' n : Nat} (hr : r < 6) (hr' : r' < 6) (hs : s + n ≤ 40) (hs' : s' + n ≤ 40) : lo2 (pX6_copy_104B (r : Int) (s : Int) (r' : Int) (s' : Int) (n : Int)) FU M 0 = some (1, cpB (cpA M (40 * r) s n) (40 * r') s' n) := by
  have l2 : ∀ S : St, lo2 (pX6_copy_136B (r' : Int) (s' : Int) (n : Int)) FU S 0 = some (1, cpB S (40 * r') s' n) := by
    intro S
    refine lo2_spec (fun o => o = some (1, cpB S (40 * r') s' n)) (fun (y : St) (x : Int) => ∃ j : Nat, x = j ∧ j ≤ n ∧ y = cpB S (40 * r') s' j) (fun _ x => ((n : Int) - x).toNat) ?_ FU S 0 ⟨0, rfl, by omega, ?_⟩ (by have := FU_big; omega)
    · rintro k y x ⟨j, rfl, hj, rfl⟩ hk
      unfold pX6_copy_136B
      by_cases hlt : j < n
      · have ei : (((40 * (r' : Int)) + (s' : Int)) + (j : Int)).toNat = 40 * r' + s' + j := by omega
        simp (disch := omega) only [cLT_pos, ldI_ok, stI_ok, Int.toNat_natCast, setS, ei]
        refine hk _ _ ⟨j + 1, by omega, by omega, ?_⟩ (by omega)
        funext q i
        rw [put_sw]
        unfold cpB
        by_cases hq : q = 3
        · subst hq
          by_cases hi : i = 40 * r' + s' + j
          · subst hi
            rw [if_pos ⟨rfl, rfl⟩, if_neg (by omega), if_pos (by omega)]
            congr 1; omega
          · rw [if_neg (by omega)]
            by_cases h3 : 40 * r' + s' ≤ i ∧ i < 40 * r' + s' + j
            · rw [if_pos ⟨rfl, h3⟩, if_pos (by omega)]
            · rw [if_neg (by omega), if_neg (by omega)]
        · rw [if_neg (by omega), if_neg (by omega), if_neg (by omega)]
      · have : j = n := by omega
        subst this
        simp (disch := omega) only [cLT_neg]
    · funext q i
      unfold cpB
      rw [if_neg (by omega)]
  refine lo2_spec (fun o => o = some (1, cpB (cpA M (40 * r) s n) (40 * r') s' n)) (fun (y : St) (x : Int) => ∃ j : Nat, x = j ∧ j ≤ n ∧ y = cpA M (40 * r) s j) (fun _ x => ((n : Int) - x).toNat) ?_ FU M 0 ⟨0, rfl, by omega, ?_⟩ (by have := FU_big; omega)
  · rintro k y x ⟨j, rfl, hj, rfl⟩ hk
    unfold pX6_copy_104B pX6_rowAt
    by_cases hlt : j < n
    · have ei : ((40 * (r : Int)) + ((s : Int) + (j : Int))).toNat = 40 * r + s + j := by omega
      simp (disch := omega) only [cLT_pos, ldI_ok, stI_ok, Int.toNat_natCast, setS, ei, bind_some']
      refine hk _ _ ⟨j + 1, by omega, by omega, ?_⟩ (by omega)
      funext q i
      rw [put_sw]
      unfold cpA
      by_cases hq : q = 4
      · subst hq
        by_cases hi : i = j
        · subst hi
          rw [if_pos ⟨rfl, rfl⟩, if_neg (by omega), if_pos (by omega)]
        · rw [if_neg (by omega)]
          by_cases h3 : i < j
          · rw [if_pos ⟨rfl, h3⟩, if_pos (by omega)]
          · rw [if_neg (by omega), if_neg (by omega)]
      · rw [if_neg (by omega), if_neg (by omega), if_neg (by omega)]
    · have : j = n := by omega
      subst this
      simp (disch := omega) only [cLT_neg]
      exact l2 _
  · funext q i
    unfold cpA
    rw [if_neg (by omega)]
theorem e_copy : ca_3 Inv := by
  intro C M x1 x2 x3 x4 x5 hI hx1 hx2 hx3 hx4 hx5
  unfold in32 at hx1 hx2 hx3 hx4 hx5
  unfold pX5_copy pX6_copy pX1_isMissing pX5_copy_59 pX5_copy_88 pX6_copy_45 pX6_copy_95
  by_cases h1 : 0 ≤ x1 ∧ x1 ≤ 5
  · by_cases h3 : 0 ≤ x3 ∧ x3 ≤ 5
    · obtain ⟨r, rfl⟩ := Int.eq_ofNat_of_zero_le h1.1
      obtain ⟨t, rfl⟩ := Int.eq_ofNat_of_zero_le h3.1
      obtain ⟨e1, b1, b2, hcell⟩ := hI.1 r (by omega)
      obtain ⟨e3, b3, b4, hcell'⟩ := hI.1 t (by omega)
      have hrl := rlen_row (r := r) (by omega)
      have hrl' := rlen_row (r := t) (by omega)
      simp (disch := omega) only [isRow_t, isRowM_t, bind_some', cEQ_neg]
      by_cases hn : x5 < 0
      · simp (disch := omega) only [cLT_pos, found5, meets5, bnd_some]
        exact ag_fd hI (by decide)
      · obtain ⟨n, rfl⟩ := Int.eq_ofNat_of_zero_le (show 0 ≤ x5 by omega)
        simp (disch := omega) only [cLT_neg, ldA_ok, ldI_ok, Int.toNat_natCast, e1, e3, hrl, hrl']
        by_cases hm : M 2 r < 0
        · simp (disch := omega) only [cLT_pos, bind_some', cEQ_neg, found1, meets1, bnd_some]
          exact ag_fd hI (by decide)
        · by_cases hm' : M 2 t < 0
          · simp (disch := omega) only [cLT_pos, cLT_neg, bind_some', cEQ_neg, cEQ_pos, found1, meets1, bnd_some]
            exact ag_fd hI (by decide)
          · simp (disch := omega) only [cLT_neg, bind_some', cEQ_pos]
            unfold pX1_hasRun
            by_cases ha : 0 ≤ x2 ∧ 0 ≤ x4 ∧ x2 + n ≤ M 2 r ∧ x4 + n ≤ M 2 t
            · obtain ⟨s, rfl⟩ := Int.eq_ofNat_of_zero_le ha.1
              obtain ⟨s', rfl⟩ := Int.eq_ofNat_of_zero_le ha.2.1
              simp (disch := omega) only [cLT_neg, bind_some', cEQ_neg, wdI_ok, e1, e3, lLT_neg]
              rw [copy_one (by omega) (by omega) (by omega) (by omega)]
              unfold cpy
              rw [if_pos (by omega)]
              simp only [Int.toNat_natCast]
              refine ⟨_, _, _, rfl, rfl, Inv_row hI t (by omega) (fun q a b c => by unfold putRow; funext y; rw [if_neg c]) (fun q a b c d => by unfold cpB cpA; funext y; rw [if_neg (by omega), if_neg (by omega)]) (fun r' h1 h2 => ⟨by unfold cpB cpA; rw [if_neg (by omega), if_neg (by omega)], fun i' hi' => by unfold cpB cpA; rw [if_neg (by omega), if_neg (by omega)]⟩) ?_ ?_ ?_⟩
              · have em : cpB (cpA M (40 * r) s n) (40 * t) s' n 2 t = M 2 t := by unfold cpB cpA; rw [if_neg (by omega), if_neg (by omega)]
                rw [em]
                refine ⟨?_, b3, b4, fun j hj => ?_⟩
                · unfold putRow; rw [if_neg (by omega)]; exact e3
                · by_cases hin : s' ≤ j ∧ j < s' + n
                  · have g1 : cpB (cpA M (40 * r) s n) (40 * t) s' n 3 (40 * t + j) = M 3 (40 * r + (s + (j - s'))) := by
                      unfold cpB cpA
                      rw [if_pos (by omega), if_pos (by omega)]
                      congr 1; omega
                    have g2 : putRow C (23 + 2 * t + 1) (cpyF (C (23 + 2 * r + 1)) (C (23 + 2 * t + 1)) s s' n) (23 + 2 * t + 1) j = C (23 + 2 * r + 1) (s + (j - s')) := by
                      unfold putRow cpyF
                      rw [if_pos rfl, if_pos hin]
                    rw [g1, g2]
                    exact hcell _ (by omega)
                  · have g1 : cpB (cpA M (40 * r) s n) (40 * t) s' n 3 (40 * t + j) = M 3 (40 * t + j) := by
                      unfold cpB cpA
                      rw [if_neg (by omega), if_neg (by omega)]
                    have g2 : putRow C (23 + 2 * t + 1) (cpyF (C (23 + 2 * r + 1)) (C (23 + 2 * t + 1)) s s' n) (23 + 2 * t + 1) j = C (23 + 2 * t + 1) j := by
                      unfold putRow cpyF
                      rw [if_pos rfl, if_neg hin]
                    rw [g1, g2]
                    exact hcell' _ hj
              · unfold cpB cpA; simp
              · obtain ⟨a1, a2, a3, a4, -⟩ := hI.2.2.2.2.2.1
                unfold cpB cpA putRow
                simp only [if_neg (show ¬ (0 = 23 + 2 * t + 1) by omega)]
                simp [a1, a2, a3, a4]
            · have fin : agWW Inv (some (-3, fdC C 2)) (some (-3, fdM M 2)) := ag_fd hI (by decide)
              by_cases hs : x2 < 0
              · simp (disch := omega) only [cLT_pos, bind_some', cEQ_pos, found2, meets2, bnd_some]
                exact fin
              · by_cases hs' : x4 < 0
                · by_cases hh : M 2 r < x2 + n
                  · simp (disch := omega) only [cLT_pos, cLT_neg, bind_some', cEQ_pos, found2, meets2, bnd_some, wdI_ok, e1, lLT_pos]
                    exact fin
                  · simp (disch := omega) only [cLT_pos, cLT_neg, bind_some', cEQ_pos, cEQ_neg, found2, meets2, bnd_some, wdI_ok, e1, lLT_neg]
                    exact fin
                · by_cases hh : M 2 r < x2 + n
                  · simp (disch := omega) only [cLT_neg, bind_some', cEQ_pos, found2, meets2, bnd_some, wdI_ok, e1, lLT_pos]
                    exact fin
                  · simp (disch := omega) only [cLT_neg, bind_some', cEQ_pos, cEQ_neg, found2, meets2, bnd_some, wdI_ok, e1, e3, lLT_neg, lLT_pos]
                    exact fin
    · by_cases hz : x1 = 0 <;> simp (disch := omega) only [isRow_t, isRowM_t, isRow_f, isRowM_f, bind_some', cEQ_pos, cEQ_neg] <;> exact ag_same hI
  · simp (disch := omega) only [isRow_f, isRowM_f, bind_some', cEQ_pos]
    exact ag_same hI
