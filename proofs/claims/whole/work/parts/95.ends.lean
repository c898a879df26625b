/-! ends -/
theorem Sd.cutb {T M : St} {u d : Int} (h : Sd T M u d) {p : Nat} (hp : p < 4) (hr : 1 ≤ M 18 p) : 0 ≤ T 19 p / (T 20 p * d) ∧ T 19 p / (T 20 p * d) ≤ 3956040 ∧ pX4_cutPress T (p : Int) = some (T 19 p / (T 20 p * d)) := by
  obtain ⟨M', -, h2, h3, -⟩ := h.press hp hr
  obtain ⟨-, b1, b2, -, -⟩ := h2
  obtain ⟨h1, -, e9, -, -, h6, h7⟩ := h
  obtain ⟨k, hk, k1, k2⟩ := h7 p hp hr
  have hb := sqz_b h1 h6 hp
  obtain ⟨q1, q2, q3, q4, q5, q6⟩ := h1.1 p hp
  obtain ⟨r1, r2, r3, r4, r5, r6, r7⟩ := q6 hr
  obtain ⟨⟨u1, u2⟩, u3, u4⟩ := h6
  have hN := pN_b r5 r7 hb.1 u1 hk
  have hf := fac_b (M := M) (s := sx M p)
  have m1 : fac M (sx M p) * pN M (sx M p) k (sqz M u d p) d ≤ 3 * pN M (sx M p) k (sqz M u d p) d := Int.mul_le_mul_of_nonneg_right hf.2 hN.1
  have m2 : 1 * d ≤ T 20 p * d := Int.mul_le_mul_of_nonneg_right h3.1 (by omega)
  have hlt : T 19 p / (T 20 p * d) < 3956041 := (Int.ediv_lt_iff_lt_mul (by omega)).2 (by omega)
  refine ⟨Int.ediv_nonneg b1.1 (by omega), by omega, ?_⟩
  unfold pX4_cutPress pX4_pressDown pX5_cut
  rw [ldI_ok (by omega), Int.toNat_natCast, ldI_ok (by omega), Int.toNat_natCast, wdI_ok (by omega), bind_some', e9, lLT_neg (by omega), dvL_ok (by omega), Int.tdiv_eq_ediv_of_nonneg b1.1, bind_some']
theorem ends_loop {C M : St} (hI : Inv C M) {p : Nat} (hp : p < 4) (hr : 1 ≤ M 18 p) {a f : Int} (ha : 0 ≤ a ∧ a ≤ 20) (hf0 : 0 ≤ f ∧ f ≤ 999) {M1 : St} (hK : KM M M1) : agWW Inv (lo4 (pX5_ends_48B (p : Int) a f) FU C 1000000000 0 0) (lo4 (pX6_ends_37B (p : Int) a f) FU M1 (-1) (-1) 0) := by
  refine lo44_rel (agWW Inv) (fun (S : St) (x5 x6 x7 : Int) (S' : St) (le mo y : Int) => ∃ w : Nat, x7 = w ∧ y = w ∧ w ≤ 32 ∧ ((w = 0 ∧ x5 = 1000000000 ∧ x6 = 0 ∧ le = -1 ∧ mo = -1) ∨ (1 ≤ w ∧ x5 = le ∧ x6 = mo ∧ (0 ≤ le ∧ le ≤ 1000000000) ∧ (0 ≤ mo ∧ mo ≤ 1000000000))) ∧ (∀ q, q < 13 ∨ 20 < q → S q = C q) ∧ KM M S') (fun y => (32 - y).toNat) ?_ FU C 1000000000 0 0 M1 (-1) (-1) 0 ⟨0, rfl, rfl, by omega, Or.inl ⟨rfl, rfl, rfl, rfl, rfl⟩, fun _ _ => rfl, hK⟩ (by have := FU_big; omega)
  rintro k k' S x5 x6 x7 S' le mo y ⟨w, rfl, rfl, hw, hc, hS, hK'⟩ hf
  unfold pX5_ends_48B pX6_ends_37B pX6_ends_87 pX6_ends_94 pX6_ends_111
  by_cases e : w = 32
  · subst e
    obtain ⟨M2, p1, p2, -⟩ := putBack_ok hK'
    have hfin := Inv_pb hI hS p2
    rw [cLT_neg (x := ((32 : Nat) : Int)) (y := 32) (by omega), cLT_neg (x := ((32 : Nat) : Int)) (y := 32) (by omega), p1, bind_some']
    unfold pX6_tells
    simp only [setS, bnd_some]
    rcases hc with ⟨c1, -⟩ | ⟨c1, rfl, rfl, -, -⟩
    · omega
    · exact ⟨_, _, _, rfl, rfl, Inv_asked hfin _⟩
  · have hIS : Inv S M := hI.trial hS (fun _ _ _ => rfl) (fun _ _ => rfl)
    obtain ⟨R, a1, a2, a3⟩ := atEnd_ok hIS (v := w) (by omega) ha hf0
    obtain ⟨M2, b1, b2, b3, b4, b5⟩ := layEnd_ok hI hK' (v := w) (by omega) (a := a) hf0
    have hTM := a3 M2 b2 b3 b4
    obtain ⟨u, d, T', M3, s1, s2, s3, s4, s5, s6, s7, s8, -, -⟩ := both_ok hTM
    have hr3 : 1 ≤ M3 18 p := by rw [s6 18 (by decide), b2.1 18 (by decide) (by decide) (by decide)]; exact hr
    obtain ⟨M4, t1, t2, t3, t4, t5, t6, t7⟩ := s3.press hp hr3
    obtain ⟨c1, c2, c3⟩ := s3.cutb hp hr3
    have hdv := t2.div
    obtain ⟨-, d1, d2, d3, d4⟩ := t2
    have hS' : ∀ q, q < 13 ∨ 20 < q → T' q = C q := fun q c => by rw [s4 q (by omega) (by omega) (by omega), a2 q (by omega), hS q c]
    have hK4 : KM M M4 := b2.fm ⟨fun q c => by rw [t6 q c, s6 q c], fun j c => by
      rcases (show j < 38 ∨ 44 < j by omega) with g | g
      · rw [t7 j (by omega) (by omega) (by omega) (by omega) (by omega), s7 j g]
      · rw [t7 j (by omega) (by omega) (by omega) (by omega) (by omega), s8 j (by omega)]⟩
    rw [cLT_pos (x := (w : Int)) (y := 32) (by omega), cLT_pos (x := (w : Int)) (y := 32) (by omega), a1, b1, bind_some', s1, bind_some', bind_some', c3, bind_some', s2, bind_some', t1, bind_some', dvL_ok (by omega), Int.tdiv_eq_ediv_of_nonneg d3.1, ← hdv.1]
    generalize T' 19 p / (T' 20 p * (d : Int)) = z at c1 c2 ⊢
    rw [min_ok (by omega), bind_some', max_ok (by omega), bind_some']
    simp only [setS]
    have hgo : ∀ le' mo' : Int, le' = min x5 z → mo' = max x6 z → agWW Inv (k T' (min x5 z) (max x6 z) ((w : Int) + 1)) (k' M4 le' mo' ((w : Int) + 1)) := fun le' mo' g1 g2 => hf _ _ _ _ _ _ _ _ ⟨w + 1, by omega, by omega, by omega, Or.inr ⟨by omega, by omega, by omega, by omega, by omega⟩, hS', hK4⟩ (by omega)
    by_cases h1 : le < 0
    · rw [lLT_pos (x := le) (y := 0) (by omega)]
      by_cases h2 : mo < z
      · rw [lLT_pos (by omega)]; exact hgo _ _ (by omega) (by omega)
      · rw [lLT_neg (by omega)]; exact hgo _ _ (by omega) (by omega)
    · rw [lLT_neg (x := le) (y := 0) (by omega)]
      by_cases h3 : z < le
      · rw [lLT_pos (x := z) (y := le) (by omega)]
        by_cases h2 : mo < z
        · rw [lLT_pos (by omega)]; exact hgo _ _ (by omega) (by omega)
        · rw [lLT_neg (by omega)]; exact hgo _ _ (by omega) (by omega)
      · rw [lLT_neg (x := z) (y := le) (by omega)]
        by_cases h2 : mo < z
        · rw [lLT_pos (by omega)]; exact hgo _ _ (by omega) (by omega)
        · rw [lLT_neg (by omega)]; exact hgo _ _ (by omega) (by omega)
theorem e_ends : ca_28 Inv := by
  intro C M x1 x2 x3 hI hx1 hx2 hx3
  unfold in32 at hx1 hx2 hx3
  unfold pX5_ends pX6_ends pX6_needRubber
  rw [areEndsC hx2 hx3, areEndsM hx2 hx3, bind_some', bind_some']
  by_cases h : 0 ≤ x1 ∧ x1 ≤ 3
  · by_cases hE : (0 ≤ x2 ∧ x2 ≤ 20) ∧ (0 ≤ x3 ∧ x3 ≤ 999)
    · rw [if_pos hE]
      obtain ⟨p, rfl⟩ := Int.eq_ofNat_of_zero_le h.1
      have hp : p < 4 := by omega
      have hs := hI.2.2.2.1 p hp
      rcases hs.kind with ⟨k1, k2⟩ | ⟨k1, k2, k3⟩
      · rw [needSeal_no hp k1, missed_no hp k2]
        simp (disch := omega) only [place_t, bind_some', cEQ_neg, cLT_pos, bnd_some, found1]
        exact ag_fd hI (by decide)
      · rw [needSeal_ok hp ⟨k1, k2⟩]
        have hR := isRubber_ok (M := M) (p := p) hp (by omega)
        by_cases hk : 1 ≤ M 18 p
        · rw [if_pos (by omega)] at hR
          rw [missed_t (k := M 18 p) hp k3 (by omega)]
          obtain ⟨M1, e1, hK, -⟩ := keepAll_ok (M := M)
          simp (disch := omega) only [place_t, bind_some', cEQ_neg, cEQ_pos, cLT_neg, bnd_some, hR, e1]
          exact ends_loop hI hp hk hE.1 hE.2 hK
        · rw [if_neg (by omega)] at hR
          rw [missed_f (k := M 18 p) hp k3 (by omega)]
          simp (disch := omega) only [hR, place_t, bind_some', cEQ_neg, cEQ_pos, cLT_neg, cLT_pos, bnd_some, found3, meets3]
          exact ag_fd hI (by decide)
    · rw [if_neg hE, needSeal_bad (by omega)]
      simp (disch := omega) only [place_t, bind_some', cEQ_neg, cEQ_pos, bnd_some, cLT_pos]
      exact ag_same hI
  · have hb : ∃ g : Int, (if (0 ≤ x2 ∧ x2 ≤ 20) ∧ (0 ≤ x3 ∧ x3 ≤ 999) then (1 : Int) else 0) = g ∧ 0 ≤ g ∧ g ≤ 1 := ⟨_, rfl, by split <;> omega, by split <;> omega⟩
    obtain ⟨g, eg, g1, g2⟩ := hb
    rw [eg, needSeal_bad (by omega)]
    simp (disch := omega) only [place_f, bind_some', cEQ_pos, bnd_some, cLT_pos]
    exact ag_same hI
