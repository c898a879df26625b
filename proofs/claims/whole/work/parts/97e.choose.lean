/-! choose: the loop over all ways -/
theorem restore_ok {S : St} {le co : Int} : ∃ S2 : St, lo2 (pX6_choose_161B le co) FU S 0 = cEQ le (-9) (some (-9, S2)) (bnd (pX6_tells S2 co le) (fun z4_ S5_ => some (z4_, S5_))) ∧ (∀ q, q ≠ 19 → S2 q = S q) ∧ ∀ p, p < 4 → S2 19 p = S 27 p := by
  refine lo2_spec (fun o => ∃ S2 : St, o = cEQ le (-9) (some (-9, S2)) (bnd (pX6_tells S2 co le) (fun z4_ S5_ => some (z4_, S5_))) ∧ (∀ q, q ≠ 19 → S2 q = S q) ∧ ∀ p, p < 4 → S2 19 p = S 27 p) (fun (R : St) (y : Int) => ∃ p : Nat, y = p ∧ p ≤ 4 ∧ (∀ q, q ≠ 19 → R q = S q) ∧ ∀ p', p' < p → R 19 p' = S 27 p') (fun _ y => (4 - y).toNat) ?_ FU S 0 ⟨0, rfl, by omega, fun _ _ => rfl, fun p' b => by omega⟩ (by have := FU_big; omega)
  rintro g R y ⟨p, rfl, hp, r1, r2⟩ hf
  unfold pX6_choose_161B
  by_cases e : p = 4
  · subst e
    rw [cLT_neg (by omega)]
    exact ⟨R, rfl, r1, r2⟩
  · rw [cLT_pos (by omega), ldI_ok (by omega), Int.toNat_natCast, stI_ok (by omega), Int.toNat_natCast, r1 27 (by decide)]
    simp only [setS]
    refine hf _ _ ⟨p + 1, by omega, by omega, fun q c => by rw [put_ne c, r1 q c], fun p' c => ?_⟩ (by omega)
    by_cases ep : p' = p
    · subst ep; rw [put_at]
    · rw [put_j ep, r2 p' (by omega)]
def PG (M : St) (r : Nat) : Prop := ∀ s, s < 6 → 0 ≤ M 3 (40 * r + s) ∧ M 3 (40 * r + s) ≤ 999
theorem pri_b {C M : St} (hI : Inv C M) {r v z w p : Nat} (hv : v < 64) (hz : z = cnt v 6) (hz1 : 1 ≤ z) (hG : PG M r) (hp : p < 4) : 0 ≤ pri M r v z w p ∧ pri M r v z w p ≤ 8991 := by
  unfold pri
  split
  · obtain ⟨-, c6, -⟩ := csf_ok (M := M) (w := w) (p := p) hv hz hz1
    have g := hG _ c6
    obtain ⟨-, -, s3, -⟩ := hI.2.2.2.1 p hp
    have m2 : M 3 (40 * r + csf M v z w p) * M 22 p ≤ 999 * 9 := Int.mul_le_mul g.2 s3.2.2 s3.2.1 (by omega)
    exact ⟨Int.mul_nonneg g.1 s3.2.1, by omega⟩
  · omega
theorem cheap_loop {C C' M M1 T : St} (hI : Inv C M) (hC' : ∀ q, q ≠ 21 → C' q = C q) (hT : TM T M) (hTC : ∀ q, q < 13 ∨ 18 < q → T q = C' q) {r v z : Nat} {n : Nat} (hr : r < 6) (hv : v < 64) (hz : z = cnt v 6) (hz1 : 1 ≤ z) (hA : AT M v) (hG : PG M r) (h6 : M 2 r = 6) (hmem : ∀ i, i < z → C' 21 i = ((memb v i : Nat) : Int)) (hn : n ≤ 1296) (hM1 : ∀ q, q ≠ 0 → q ≠ 27 → M1 q = M q) (h27 : ∀ p, p < 4 → M1 27 p = M 19 p) (hM10 : ∀ j, M1 0 j = M 0 j) : agWW Inv (lo4 (pX5_cheapest_15B (n : Int) (z : Int) (23 + 2 * r)) FU T 1000000000 0 0) (lo4 (pX6_choose_63B (v : Int) (r : Int) (n : Int)) FU M1 (-9) 0 0) := by
  refine lo44_rel (agWW Inv) (fun (S : St) (x4 x5 x6 : Int) (S' : St) (le co y : Int) => ∃ w : Nat, x6 = w ∧ y = w ∧ w ≤ n ∧ ((x4 = 1000000000 ∧ le = -9) ∨ (x4 = le ∧ x5 = co ∧ 0 ≤ le ∧ le < 1000000000)) ∧ (∀ q, q ≠ 13 → q ≠ 18 → q ≠ 19 → q ≠ 20 → S q = T q) ∧ (∀ j, 5 ≤ j → j ≤ 7 → S 13 j = T 13 j) ∧ (∀ q, q ≠ 0 → q ≠ 19 → q ≠ 27 → S' q = M q) ∧ (∀ p, p < 4 → S' 27 p = M 19 p) ∧ ∀ j, j < 24 ∨ (26 ≤ j ∧ j < 38) → S' 0 j = M 0 j) (fun y => ((n : Int) - y).toNat) ?_ FU T 1000000000 0 0 M1 (-9) 0 0 ⟨0, rfl, rfl, by omega, Or.inl ⟨rfl, rfl⟩, fun _ _ _ _ _ => rfl, fun _ _ _ => rfl, fun q a _ b => hM1 q a b, h27, fun j _ => hM10 j⟩ (by have := FU_big; omega)
  rintro k k' S x4 x5 x6 S' le co y ⟨w, rfl, rfl, hw, hc, s1, s2, m1, m2, m3⟩ hf
  unfold pX5_cheapest_15B pX5_cheapest_74 pX6_choose_63B pX6_choose_94 pX6_choose_152
  by_cases e : w = n
  · subst e
    obtain ⟨S2, r1, r2, r3⟩ := restore_ok (S := S') (le := le) (co := co)
    have hfin : Inv S S2 := Inv_ch hI (fun q a => by rw [s1 q (by omega) (by omega) (by omega) (by omega), hTC q (by omega), hC' q (by omega)]) (fun p a => by rw [r3 p a, m2 p a]) (fun q a b c => by rw [r2 q b, m1 q a b (by omega)]) (fun j a => by rw [r2 0 (by decide), m3 j a])
    rw [cLT_neg (x := (w : Int)) (y := (w : Int)) (by omega), cLT_neg (x := (w : Int)) (y := (w : Int)) (by omega), r1]
    rcases hc with ⟨rfl, rfl⟩ | ⟨rfl, rfl, c3, c4⟩
    · rw [cEQ_pos (by omega), cEQ_pos (by omega)]
      exact ⟨_, _, _, rfl, rfl, hfin⟩
    · rw [cEQ_neg (x := x4) (y := 1000000000) (by omega), cEQ_neg (x := x4) (y := -9) (by omega)]
      unfold pX6_tells
      simp only [setS, bnd_some]
      exact ⟨_, _, _, rfl, rfl, Inv_asked hfin _⟩
  · have hST : ∀ q, q < 13 ∨ 20 < q → S q = C' q := fun q a => by rw [s1 q (by omega) (by omega) (by omega) (by omega), hTC q (by omega)]
    obtain ⟨R, d1, d2, d3⟩ := dealOut_ok (T := S) (M := M) (v := v) (z := z) (w := w) (fun p hp => by rw [s1 15 (by decide) (by decide) (by decide) (by decide)]; exact (hT.1 p hp).2.1) hv hz hz1 (by omega) (fun i hi => by rw [hST 21 (by omega)]; exact hmem i hi)
    have hRC : ∀ q, q < 13 ∨ 21 < q → R q = C q := fun q a => by rw [d2 q (by omega), hST q (by omega), hC' q (by omega)]
    obtain ⟨i1, i2, i3, i4⟩ := hI.1 r hr
    have hrl := rlen_row (r := r) hr
    have hpr := price_ok (S := R) (M := M) (q := 23 + 2 * r) (r := r) (v := v) (z := z) (w := w) hv hz hz1 (by rw [hRC _ (by omega), i1, h6]) hrl (fun s hs => by rw [hRC _ (by omega)]; exact (i4 s (by omega)).1) (fun p hp => by rw [hRC _ (by omega)]; exact (hI.2.2.2.1 p hp).2.2.1.1)
    obtain ⟨S2, l1, l2, l3⟩ := layChoice_ok hI (S := S') hr hv hz hz1 (w := w) (by omega) m1
    have hsum : sdn (pri M r v z w) 4 = sm (pri M r v z w) 4 := by
      show (((0 + pri M r v z w 3) + pri M r v z w 2) + pri M r v z w 1) + pri M r v z w 0 = (((0 + pri M r v z w 0) + pri M r v z w 1) + pri M r v z w 2) + pri M r v z w 3
      omega
    have b0 := pri_b hI (w := w) hv hz hz1 hG (p := 0) (by decide)
    have b1 := pri_b hI (w := w) hv hz hz1 hG (p := 1) (by decide)
    have b2 := pri_b hI (w := w) hv hz hz1 hG (p := 2) (by decide)
    have b3 := pri_b hI (w := w) hv hz hz1 hG (p := 3) (by decide)
    have hsb : 0 ≤ sm (pri M r v z w) 4 ∧ sm (pri M r v z w) 4 ≤ 36000 := by
      simp only [sm]; omega
    have hTM : TM R S2 := TM.ch hI hT hv hz hz1 hA (fun q a b => by rw [d2 q (by omega), s1 q (by omega) (by omega) (by omega) (by omega)]) (fun q a => hRC q (by omega)) (fun j a b => by rw [d2 13 (by decide), s2 j a b]) d3 (fun q a b c => by rw [l2 q b, m1 q a b (by omega)]) (fun j a b => by rw [l2 0 (by decide), m3 j (by omega)]) l3
    rw [hsum] at l1
    rw [cLT_pos (x := (w : Int)) (y := (n : Int)) (by omega), cLT_pos (x := (w : Int)) (y := (n : Int)) (by omega), d1, l1, bnd_some, bnd_some, hpr, bind_some']
    simp only [setS]
    generalize sm (pri M r v z w) 4 = pr at hsb ⊢
    by_cases hlt : pr < x4
    · obtain ⟨vv, T', M3, o1, o2, o3, o4, o5, o6, -⟩ := open_ok hTM
      have hS3 : (∀ q, q ≠ 13 → q ≠ 18 → q ≠ 19 → q ≠ 20 → T' q = T q) ∧ (∀ j, 5 ≤ j → j ≤ 7 → T' 13 j = T 13 j) := ⟨fun q a b c d => by rw [o5.1 q a c d, d2 q b, s1 q a b c d], fun j a b => by rw [o5.2 j (by omega) (by omega), d2 13 (by decide), s2 j a b]⟩
      have hM3 : (∀ q, q ≠ 0 → q ≠ 19 → q ≠ 27 → M3 q = M q) ∧ (∀ p, p < 4 → M3 27 p = M 19 p) ∧ ∀ j, j < 24 ∨ (26 ≤ j ∧ j < 38) → M3 0 j = M 0 j := ⟨fun q a b c => by rw [o6.1 q a, l2 q b, m1 q a b c], fun p a => by rw [o6.1 27 (by decide), l2 27 (by decide), m2 p a], fun j a => by rw [o6.2 j (by omega), l2 0 (by decide), m3 j a]⟩
      have hcode := code_ok (S := M3) (v := v) (z := z) (w := w) hI (hM3.1 18 (by decide) (by decide) (by decide)) (fun p a b => by rw [o6.1 19 (by decide)]; exact l3 p a b) (k63 := k') (x1 := (v : Int)) (x2 := (r : Int)) (x5 := pr) (x7 := (n : Int)) (x8 := (w : Int))
      have hmod : cEQ le (-9) (bnd (pX6_openNow S2) (fun z11_ S12_ => cEQ z11_ 0 (lo2 (pX6_choose_111B k' S12_ (v : Int) (r : Int) pr (n : Int) (w : Int)) FU 0 3) (k' S12_ le co ((w : Int) + 1)))) (cLT pr le (bnd (pX6_openNow S2) (fun z11_ S12_ => cEQ z11_ 0 (lo2 (pX6_choose_111B k' S12_ (v : Int) (r : Int) pr (n : Int) (w : Int)) FU 0 3) (k' S12_ le co ((w : Int) + 1)))) (k' S2 le co ((w : Int) + 1))) = bnd (pX6_openNow S2) (fun z11_ S12_ => cEQ z11_ 0 (lo2 (pX6_choose_111B k' S12_ (v : Int) (r : Int) pr (n : Int) (w : Int)) FU 0 3) (k' S12_ le co ((w : Int) + 1))) := by
        rcases hc with ⟨-, rfl⟩ | ⟨rfl, -, c3, c4⟩
        · rw [cEQ_pos (by omega)]
        · rw [cEQ_neg (x := x4) (y := -9) (by omega), cLT_pos (by omega)]
      rw [hmod, cLT_pos (by omega), o1, bind_some', o2, bind_some', o3, bnd_some]
      by_cases hv0 : vv = 0
      · subst hv0
        rw [cEQ_pos (x := ((0 : Nat) : Int)) (y := 0) (by omega), cEQ_pos (x := ((0 : Nat) : Int)) (y := 0) (by omega), hcode]
        exact hf _ _ _ _ _ _ _ _ ⟨w + 1, by omega, by omega, by omega, Or.inr ⟨rfl, rfl, by omega, by omega⟩, hS3.1, hS3.2, hM3⟩ (by omega)
      · rw [cEQ_neg (x := (vv : Int)) (y := 0) (by omega), cEQ_neg (x := (vv : Int)) (y := 0) (by omega)]
        exact hf _ _ _ _ _ _ _ _ ⟨w + 1, by omega, by omega, by omega, hc, hS3.1, hS3.2, hM3⟩ (by omega)
    · have hc' : x4 = le ∧ x5 = co ∧ 0 ≤ le ∧ le < 1000000000 := by omega
      rw [cLT_neg (x := pr) (y := x4) (by omega), cEQ_neg (x := le) (y := -9) (by omega), cLT_neg (x := pr) (y := le) (by omega)]
      exact hf _ _ _ _ _ _ _ _ ⟨w + 1, by omega, by omega, by omega, Or.inr hc', fun q a b c d => by rw [d2 q b, s1 q a b c d], fun j a b => by rw [d2 13 (by decide), s2 j a b], fun q a b c => by rw [l2 q b, m1 q a b c], fun p a => by rw [l2 27 (by decide), m2 p a], fun j a => by rw [l2 0 (by decide), m3 j a]⟩ (by omega)
