/-! fault: the start of reading -/
theorem begin_ok {M : St} {t : Nat} : ∃ M1 : St, lo2 (pX6_faultOf_7B (t : Int)) FU (put M 0 18 0) 0 = lo1 (pX6_faultOf_40B (t : Int)) FU M1 ∧ (∀ q, q ≠ 0 → q ≠ 17 → M1 q = M q) ∧ (∀ i, i ≠ 18 → i ≠ 22 → M1 0 i = M 0 i) ∧ M1 0 18 = 0 ∧ M1 0 22 = 0 ∧ M1 17 0 = 0 ∧ M1 17 1 = -99 ∧ M1 17 2 = 0 ∧ M1 17 3 = 0 := by
  refine lo2_spec (fun o => ∃ M1 : St, o = lo1 (pX6_faultOf_40B (t : Int)) FU M1 ∧ (∀ q, q ≠ 0 → q ≠ 17 → M1 q = M q) ∧ (∀ i, i ≠ 18 → i ≠ 22 → M1 0 i = M 0 i) ∧ M1 0 18 = 0 ∧ M1 0 22 = 0 ∧ M1 17 0 = 0 ∧ M1 17 1 = -99 ∧ M1 17 2 = 0 ∧ M1 17 3 = 0) (fun (y : St) (x : Int) => ∃ n : Nat, x = n ∧ n ≤ 4 ∧ (∀ q, q ≠ 0 → q ≠ 17 → y q = M q) ∧ (∀ i, i ≠ 18 → y 0 i = M 0 i) ∧ y 0 18 = 0 ∧ ∀ i, i < n → y 17 i = if i = 1 then -99 else 0) (fun _ x => (4 - x).toNat) ?_ FU _ 0 ⟨0, rfl, by omega, fun q a b => put_ne a, fun i a => put_j a, put_at, fun i hi => by omega⟩ (by have := FU_big; omega)
  rintro k y x ⟨n, rfl, hn, a1, a2, a3, a4⟩ hk
  unfold pX6_faultOf_7B pX6_faultOf_28
  by_cases hlt : n < 4
  · rw [cLT_pos (by omega)]
    have go : ∀ v : Int, (v = if n = 1 then -99 else 0) → ∃ M1 : St, k (put y 17 n v) ((n : Int) + 1) = lo1 (pX6_faultOf_40B (t : Int)) FU M1 ∧ (∀ q, q ≠ 0 → q ≠ 17 → M1 q = M q) ∧ (∀ i, i ≠ 18 → i ≠ 22 → M1 0 i = M 0 i) ∧ M1 0 18 = 0 ∧ M1 0 22 = 0 ∧ M1 17 0 = 0 ∧ M1 17 1 = -99 ∧ M1 17 2 = 0 ∧ M1 17 3 = 0 := by
      intro v hv
      refine hk _ _ ⟨n + 1, by omega, by omega, fun q b c => by rw [put_ne c]; exact a1 q b c, fun i b => by rw [put_ne (by decide)]; exact a2 i b, by rw [put_ne (by decide)]; exact a3, fun i hi => ?_⟩ (by omega)
      by_cases e : i = n
      · rw [e, put_at]; exact hv
      · rw [put_j e]; exact a4 i (by omega)
    by_cases h1 : n = 1
    · rw [cEQ_pos (by omega), stI_ok (by omega), Int.toNat_natCast]
      exact go _ (by rw [if_pos h1])
    · rw [cEQ_neg (by omega), stI_ok (by omega), Int.toNat_natCast]
      exact go _ (by rw [if_neg h1])
  · have : n = 4 := by omega
    subst this
    rw [cLT_neg (by omega)]
    simp only [setS]
    refine ⟨put y 0 22 0, rfl, fun q b c => by rw [put_ne b]; exact a1 q b c, fun i b c => by rw [put_j c]; exact a2 i b, by rw [put_j (by decide)]; exact a3, put_at, ?_⟩
    rw [put_ne (by decide)]
    exact ⟨a4 0 (by decide), a4 1 (by decide), a4 2 (by decide), a4 3 (by decide)⟩
theorem setS_row {α β : Type} {x : α} {k : α → Option β} : setS x k = k x := rfl
theorem clear_row {S : St} {q : Nat} : pX3_clear S q = some (put (put (put (put (put S q 2 0) q 3 0) q 4 (-99)) q 5 0) q 6 0) := rfl
theorem read_row0 {S : St} {q : Nat} : pX0_read S q = (pX3_clear S 8).bind (fun S1_ => setS (put S1_ 7 1 ((q : Nat) + 1)) (fun S2_ => setS (put S2_ 7 2 0) (fun S3_ => lo2 (pX0_read_19B) FU S3_ 0))) := rfl
theorem read_row {S : St} {q : Nat} : pX0_read S q = lo2 pX0_read_19B FU (put (put (put (put (put (put (put S 8 2 0) 8 3 0) 8 4 (-99)) 8 5 0) 8 6 0) 7 1 ((q : Nat) + 1)) 7 2 0) 0 := by
  rw [read_row0, clear_row, bind_some', setS_row, setS_row]
theorem faultOf_row0 {S : St} {x : Int} : pX6_faultOf S x = setS (put S 0 18 0) (fun S1_ => lo2 (pX6_faultOf_7B x) FU S1_ 0) := rfl
theorem faultOf_row {S : St} {x : Int} : pX6_faultOf S x = lo2 (pX6_faultOf_7B x) FU (put S 0 18 0) 0 := by
  rw [faultOf_row0, setS_row]
theorem read_ok {C M : St} {t : Nat} (ht : t < 4) (hI : Inv C M) (hl : 0 ≤ M 5 t) : rdOK t (pX0_read C (35 + 2 * t)) (pX6_faultOf M (t : Int)) := by
  rw [read_row, faultOf_row]
  obtain ⟨M1, eM, m1, m2, m3, m4, m5, m6, m7, m8⟩ := begin_ok (M := M) (t := t)
  rw [eM]
  have hz := hI.2.2.2.2.2.2
  refine loop_ok ht ⟨?_, ?_, ?_⟩
  · refine hI.scr2 (fun q hq => ?_) ?_ (fun q a _ _ _ b _ => m1 q a b) ?_ (fun i hi => m2 i (by omega) (by omega))
    · rw [put_ne (by omega), put_ne (by omega), put_ne (by omega), put_ne (by omega), put_ne (by omega), put_ne (by omega), put_ne (by omega)]
    · simp only [put_sw]
      simpa using ⟨hz.1, hz.2.1⟩
    · rw [m1 15 (by decide) (by decide), m1 16 (by decide) (by decide)]; exact hz.2.2
  · unfold DR
    rw [m3, m5, m6, m7, m8, m1 15 (by decide) (by decide), m1 16 (by decide) (by decide)]
    simp only [put_sw]
    simp
    rw [hz.1, hz.2.1, hz.2.2.1, hz.2.2.2]
    exact ⟨⟨rfl, rfl⟩, fun k hk => by omega, by decide⟩
  · refine ⟨?_, put_at, m4, by omega, by rw [m1 5 (by decide) (by decide)]; exact hl, ?_⟩
    · rw [put_j (by decide), put_at]
    · exact hI.2.1.congr (fun q a b => by rw [put_ne (by omega), put_ne (by omega), put_ne (by omega), put_ne (by omega), put_ne (by omega), put_ne (by omega), put_ne (by omega)]) (m1 5 (by decide) (by decide)) (m1 6 (by decide) (by decide))
theorem e_fault : ca_7 Inv := by
  intro C M x1 hI hx1
  unfold in32 at hx1
  unfold pX5_fault pX6_fault pX5_isText pX6_isText pX1_isMissing
  by_cases h : 0 ≤ x1 ∧ x1 ≤ 3
  · obtain ⟨t, rfl⟩ := Int.eq_ofNat_of_zero_le h.1
    have ht : t < 4 := by omega
    obtain ⟨e1, b1, b2, hc⟩ := hI.2.1 t ht
    simp (disch := omega) only [within_t, in_t, bind_some', isB_ok, cEQ_neg, ldA_ok, ldI_ok, Int.toNat_natCast, e1]
    by_cases hm : M 5 t < 0
    · simp (disch := omega) only [cLT_pos, bind_some', cEQ_neg, found1, meets1, bnd_some]
      exact ag_fd hI (by decide)
    · simp (disch := omega) only [cLT_neg, bind_some', cEQ_pos]
      obtain ⟨v, C', M', j', r1, r2, r3, r4, r5, r6⟩ := read_ok ht hI (by omega)
      rw [r1, r2]
      exact ⟨_, _, _, rfl, rfl, r3.1⟩
  · simp (disch := omega) only [within_f, in_f, bind_some', isB_ok, cEQ_pos]
    exact ag_same hI
