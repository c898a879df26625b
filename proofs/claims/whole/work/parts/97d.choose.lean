/-! choose: prices, the model's choice -/
theorem price_ok {S M : St} {q r v z w : Nat} (hv : v < 64) (hz : z = cnt v 6) (hz1 : 1 ≤ z) (hl : S q 1 = 6) (hrl : rlen q = 40) (hP : ∀ s, s < 6 → S (q + 1) s = M 3 (40 * r + s)) (hA : ∀ p, p < 4 → S (61 + p) 4 = M 22 p) : pX5_priceOf S (fig M v z w 4) q = some (sm (pri M r v z w) 4) := by
  unfold pX5_priceOf
  refine lo3_spec (fun o => o = some (sm (pri M r v z w) 4)) (fun (x3 x4 x5 : Int) => ∃ p : Nat, x5 = p ∧ p ≤ 4 ∧ x3 = sm (pri M r v z w) p ∧ x4 = fig M v z w (4 - p)) (fun _ _ x5 => (4 - x5).toNat) ?_ FU 0 _ 0 ⟨0, rfl, by omega, rfl, rfl⟩ (by have := FU_big; omega)
  rintro f x3 x4 x5 ⟨p, rfl, hp, rfl, rfl⟩ hf
  unfold pX5_priceOf_8B pX5_priceOf_53 pX1_has
  by_cases e : p = 4
  · subst e
    rw [cLT_neg (by omega)]
  · have hp4 : p < 4 := by omega
    have hfb := fig_b (M := M) (w := w) hv hz hz1 (4 - p) (by omega)
    have h10 : ((10 ^ (4 - p) : Nat) : Int) ≤ 10000 := by
      rcases (show p = 0 ∨ p = 1 ∨ p = 2 ∨ p = 3 by omega) with rfl | rfl | rfl | rfl <;> decide
    obtain ⟨-, c6, -⟩ := csf_ok (M := M) (w := w) (p := p) hv hz hz1
    have hfb3 := fig_b (M := M) (w := w) hv hz hz1 (4 - (p + 1)) (by omega)
    have hfig : fig M v z w (4 - p) = fig M v z w (4 - (p + 1)) * 10 + (if 1 ≤ M 18 p then (csf M v z w p : Int) + 1 else 0) := by
      rw [show 4 - p = (4 - (p + 1)) + 1 by omega]
      have : 3 - (4 - (p + 1)) = p := by omega
      show fig M v z w (4 - (p + 1)) * 10 + (if 1 ≤ M 18 (3 - (4 - (p + 1))) then (csf M v z w (3 - (4 - (p + 1))) : Int) + 1 else 0) = _
      rw [this]
    have hnext := hf (sm (pri M r v z w) (p + 1)) (fig M v z w (4 - (p + 1))) ((p : Int) + 1) ⟨p + 1, by omega, by omega, rfl, rfl⟩ (by omega)
    have hsm : sm (pri M r v z w) (p + 1) = sm (pri M r v z w) p + pri M r v z w p := rfl
    rw [hsm] at hnext
    rw [cLT_pos (by omega), rmI_ok (by omega), Int.tmod_eq_emod_of_nonneg (by omega)]
    simp only [setS]
    have hdv : (fig M v z w (4 - p)).tdiv 10 = fig M v z w (4 - (p + 1)) := by
      rw [Int.tdiv_eq_ediv_of_nonneg (by omega), hfig]
      split <;> omega
    by_cases hr : 1 ≤ M 18 p
    · rw [if_pos hr] at hfig
      have hpr : pri M r v z w p = M 3 (40 * r + csf M v z w p) * M 22 p := if_pos hr
      have em : fig M v z w (4 - p) % 10 - 1 = (csf M v z w p : Int) := by omega
      rw [em, cLT_neg (by omega), hl, cLT_pos (by omega), bind_some', cEQ_neg (by omega), hrl, ldI_ok (by omega), Int.toNat_natCast, hP _ c6, ldA_ok (by omega), Int.toNat_natCast, Nat.one_mul, hA p hp4, dvI_ok (by omega), hdv]
      rw [hpr] at hnext
      exact hnext
    · rw [if_neg hr] at hfig
      have hpr : pri M r v z w p = 0 := if_neg hr
      have em : fig M v z w (4 - p) % 10 - 1 = -1 := by omega
      rw [em, cLT_pos (by omega), bind_some', cEQ_pos (by omega), dvI_ok (by omega), hdv]
      rw [hpr, Int.add_zero] at hnext
      exact hnext
theorem layChoice_ok {C M S : St} (hI : Inv C M) {r v z w : Nat} (hr6 : r < 6) (hv : v < 64) (hz : z = cnt v 6) (hz1 : 1 ≤ z) (hw : w ≤ 1296) (hS : ∀ q, q ≠ 0 → q ≠ 19 → q ≠ 27 → S q = M q) : ∃ S' : St, pX6_layChoice S (w : Int) (v : Int) (r : Int) = some (sdn (pri M r v z w) 4, S') ∧ (∀ q, q ≠ 19 → S' q = S q) ∧ (∀ p, p < 4 → 1 ≤ M 18 p → S' 19 p = ((csf M v z w p : Nat) : Int)) := by
  unfold pX6_layChoice
  have h6 := (cnt_bc v hv).2.1
  have hbits : pX6_bits (v : Int) = some (z : Int) := by rw [(bits_all v hv).2.1, (cnt_bc v hv).1, hz]
  refine lo4_spec (fun o => ∃ S' : St, o = some (sdn (pri M r v z w) 4, S') ∧ (∀ q, q ≠ 19 → S' q = S q) ∧ (∀ p, p < 4 → 1 ≤ M 18 p → S' 19 p = ((csf M v z w p : Nat) : Int))) (fun (R : St) (x4 x5 x6 : Int) => ∃ k : Nat, k ≤ 4 ∧ x6 = 3 - (k : Int) ∧ x5 = sdn (pri M r v z w) k ∧ x4 = (rst M z w k : Nat) ∧ (∀ q, q ≠ 19 → R q = S q) ∧ ∀ p, p < 4 → 3 < p + k → 1 ≤ M 18 p → R 19 p = ((csf M v z w p : Nat) : Int)) (fun _ _ _ x6 => (x6 + 1).toNat) ?_ FU S (w : Int) 0 3 ⟨0, by omega, by omega, rfl, rfl, fun _ _ => rfl, fun p a b => by omega⟩ (by have := FU_big; omega)
  rintro f R x4 x5 x6 ⟨k, hk, rfl, rfl, rfl, s1, s2⟩ hf
  unfold pX6_layChoice_9B pX6_layChoice_75
  by_cases e : k = 4
  · subst e
    rw [cLT_pos (by omega)]
    exact ⟨R, rfl, s1, fun p a b => s2 p a (by omega) b⟩
  · have hp : 3 - k < 4 := by omega
    have ei : ((3 : Int) - (k : Int)).toNat = 3 - k := by omega
    have ex : (3 : Int) - (k : Int) = ((3 - k : Nat) : Int) := by omega
    have hrl := rst_le (M := M) (z := z) (w := w) k
    have hsd : sdn (pri M r v z w) (k + 1) = sdn (pri M r v z w) k + pri M r v z w (3 - k) := rfl
    have hrst : rst M z w (k + 1) = if 1 ≤ M 18 (3 - k) then rst M z w k / z else rst M z w k := rfl
    have hkd := (hI.2.2.2.1 (3 - k) hp).kind
    have e18 : R 18 (3 - k) = M 18 (3 - k) := by rw [s1 18 (by decide), hS 18 (by decide) (by decide) (by decide)]
    have hR := isRubber_ok (M := R) (p := 3 - k) hp (by omega)
    rw [cLT_neg (by omega), ex, hR, bind_some', e18]
    by_cases hr : 1 ≤ M 18 (3 - k)
    · rw [if_pos hr] at hrst
      obtain ⟨a1, a2, a3⟩ := csf_ok (M := M) (w := w) (p := 3 - k) hv hz hz1
      rw [show 3 - (3 - k) = k by omega] at a3
      have hpr : pri M r v z w (3 - k) = M 3 (40 * r + csf M v z w (3 - k)) * M 22 (3 - k) := if_pos hr
      have em : ((rst M z w k : Nat) : Int).tmod (z : Int) = ((rst M z w k % z : Nat) : Int) := by rw [Int.tmod_eq_emod_of_nonneg (by omega)]; rfl
      have ed : ((rst M z w k : Nat) : Int).tdiv (z : Int) = ((rst M z w k / z : Nat) : Int) := by rw [Int.tdiv_eq_ediv_of_nonneg (by omega)]; rfl
      have e40 : ((40 * (r : Int)) + (csf M v z w (3 - k) : Int)).toNat = 40 * r + csf M v z w (3 - k) := by omega
      rw [if_pos (by omega), cEQ_neg (by omega), hbits, bind_some', rmI_ok (by omega), em, a3, bind_some', stI_ok (by omega), Int.toNat_natCast, bind_some', dvI_ok (by omega), ed, ldI_ok (by omega), Int.toNat_natCast, put_at]
      unfold pX6_rowAt
      rw [ldI_ok (by omega), e40, put_ne (by decide), s1 3 (by decide), hS 3 (by decide) (by decide) (by decide), bind_some', ldI_ok (by omega), Int.toNat_natCast, put_ne (by decide), s1 22 (by decide), hS 22 (by decide) (by decide) (by decide)]
      simp only [setS]
      refine hf _ _ _ _ ⟨k + 1, by omega, by omega, by rw [hsd, hpr], by rw [hrst], fun q a => by rw [put_ne a, s1 q a], fun p a b c => ?_⟩ (by omega)
      by_cases ep : p = 3 - k
      · subst ep; rw [put_at]
      · rw [put_j ep, s2 p a (by omega) c]
    · rw [if_neg hr] at hrst
      have hpr : pri M r v z w (3 - k) = 0 := if_neg hr
      rw [if_neg (by omega), cEQ_pos (by omega)]
      simp only [setS]
      refine hf _ _ _ _ ⟨k + 1, by omega, by omega, by rw [hsd, hpr, Int.add_zero], by rw [hrst], s1, fun p a b c => ?_⟩ (by omega)
      by_cases ep : p = 3 - k
      · subst ep; exact absurd c hr
      · exact s2 p a (by omega) c
theorem code_ok {C M S : St} (hI : Inv C M) {v z w : Nat} (h18 : S 18 = M 18) (h19 : ∀ p, p < 4 → 1 ≤ M 18 p → S 19 p = ((csf M v z w p : Nat) : Int)) {k63 : St → Int → Int → Int → Option (Int × St)} {x1 x2 x5 x7 x8 : Int} : lo2 (pX6_choose_111B k63 S x1 x2 x5 x7 x8) FU 0 3 = k63 S x5 (fig M v z w 4) (x8 + 1) := by
  refine lo2_spec (fun o => o = k63 S x5 (fig M v z w 4) (x8 + 1)) (fun (x y : Int) => ∃ k : Nat, k ≤ 4 ∧ y = 3 - (k : Int) ∧ x = fig M v z w k) (fun _ y => (y + 1).toNat) ?_ FU 0 3 ⟨0, by omega, by omega, rfl⟩ (by have := FU_big; omega)
  rintro f x y ⟨k, hk, rfl, rfl⟩ hf
  unfold pX6_choose_111B pX6_choose_152 pX6_choose_143
  by_cases e : k = 4
  · subst e
    rw [cLT_pos (by omega)]; rfl
  · have hp : 3 - k < 4 := by omega
    have ex : (3 : Int) - (k : Int) = ((3 - k : Nat) : Int) := by omega
    have hkd := (hI.2.2.2.1 (3 - k) hp).kind
    have hfig : fig M v z w (k + 1) = fig M v z w k * 10 + (if 1 ≤ M 18 (3 - k) then (csf M v z w (3 - k) : Int) + 1 else 0) := rfl
    have hR := isRubber_ok (M := S) (p := 3 - k) hp (by rw [h18]; omega)
    rw [cLT_neg (by omega), ex, hR, bind_some', h18]
    simp only [setS]
    by_cases hr : 1 ≤ M 18 (3 - k)
    · rw [if_pos hr] at hfig
      rw [if_pos (by omega), cEQ_neg (by omega), ldI_ok (by omega), Int.toNat_natCast, h19 _ hp hr]
      exact hf _ _ ⟨k + 1, by omega, by omega, by rw [hfig]; omega⟩ (by omega)
    · rw [if_neg hr] at hfig
      rw [if_neg (by omega), cEQ_pos (by omega)]
      exact hf _ _ ⟨k + 1, by omega, by omega, by rw [hfig]; omega⟩ (by omega)
theorem TM.ch {C T M R M2 : St} (hI : Inv C M) (h : TM T M) {v z w : Nat} (hv : v < 64) (hz : z = cnt v 6) (hz1 : 1 ≤ z) (hA : AT M v) (hR : ∀ q, 14 ≤ q → q ≤ 17 → R q = T q) (hRC : ∀ q, 43 ≤ q → R q = C q) (h13 : ∀ j, 5 ≤ j → j ≤ 7 → R 13 j = T 13 j) (h18 : ∀ p, p < 4 → 1 ≤ M 18 p → R 18 p = ((43 + 3 * csf M v z w p : Nat) : Int) + 1) (hM : ∀ q, q ≠ 0 → q ≠ 19 → q < 26 → M2 q = M q) (hM0 : ∀ j, 34 ≤ j → j ≤ 36 → M2 0 j = M 0 j) (h19 : ∀ p, p < 4 → 1 ≤ M 18 p → M2 19 p = ((csf M v z w p : Nat) : Int)) : TM R M2 := by
  have m18 := hM 18 (by decide) (by decide) (by decide)
  have m22 := hM 22 (by decide) (by decide) (by decide)
  have htp : ∀ p, tp M2 p = tp M p := fun p => by unfold tp; rw [hM 21 (by decide) (by decide) (by decide), hM 25 (by decide) (by decide) (by decide)]
  obtain ⟨g1, g2, g3, g4⟩ := h
  refine ⟨fun p hp => ?_, by rw [h13 5 (by decide) (by decide), hM0 34 (by decide) (by decide)]; exact g2, by rw [h13 6 (by decide) (by decide), hM0 35 (by decide) (by decide)]; exact g3, by rw [h13 7 (by decide) (by decide), hM0 36 (by decide) (by decide)]; exact g4⟩
  obtain ⟨a1, a2, a3, a4, a5, a6⟩ := g1 p hp
  refine ⟨by rw [m18]; exact a1, by rw [hR 15 (by decide) (by decide), m18]; exact a2, by rw [hR 14 (by decide) (by decide), m18]; exact a3, by rw [hR 16 (by decide) (by decide), htp]; exact a4, by rw [hR 17 (by decide) (by decide), m22]; exact a5, fun hr => ?_⟩
  rw [m18] at hr
  obtain ⟨c1, c2, -⟩ := csf_ok (M := M) (w := w) (p := p) hv hz hz1
  have hsx : sx M2 p = csf M v z w p := by unfold sx; rw [h19 p hp hr, Int.toNat_natCast]
  obtain ⟨hd, h8, h0⟩ := stf_all hI c2 (hA _ c2 c1)
  unfold TR
  rw [hsx]
  have e5 : StfD R M2 (csf M v z w p) := by
    have := hd.cg2 (T' := R) hRC
    unfold StfD at this ⊢
    rw [hM 8 (by decide) (by decide) (by decide), hM 9 (by decide) (by decide) (by decide), hM 10 (by decide) (by decide) (by decide), hM 11 (by decide) (by decide) (by decide), hM 12 (by decide) (by decide) (by decide), hM 13 (by decide) (by decide) (by decide), hM 14 (by decide) (by decide) (by decide)]
    exact this
  exact ⟨by rw [m22]; exact (a6 hr).1, h19 p hp hr, c2, h18 p hp hr, e5, by rw [hRC _ (by omega), hM 8 (by decide) (by decide) (by decide)]; exact h8, by rw [hM 9 (by decide) (by decide) (by decide)]; exact h0.1, by rw [hM 10 (by decide) (by decide) (by decide)]; exact h0.2⟩
theorem Inv_ch {C M C' M' : St} (h : Inv C M) (hc : ∀ q, q < 13 ∨ 21 < q → C' q = C q) (h19 : ∀ p, p < 4 → M' 19 p = M 19 p) (hm : ∀ q, q ≠ 0 → q ≠ 19 → q < 26 → M' q = M q) (h0 : ∀ j, j < 24 ∨ (26 ≤ j ∧ j < 38) → M' 0 j = M 0 j) : Inv C' M' := by
  obtain ⟨h1, h2, h3, h4, h5, h6, h7⟩ := h
  refine ⟨h1.congr (fun q a b => hc q (by omega)) (hm 2 (by decide) (by decide) (by decide)) (hm 3 (by decide) (by decide) (by decide)), h2.congr (fun q a b => hc q (by omega)) (hm 5 (by decide) (by decide) (by decide)) (hm 6 (by decide) (by decide) (by decide)), h3.congr (fun q a b => hc q (by omega)) (fun q a b => hm q (by omega) (by omega) (by omega)), fun p hp => ?_, ?_, ?_, ?_⟩
  · have s := h4 p hp
    unfold SealOk at s ⊢
    rw [hc (61 + p) (by omega), hc 5 (by decide), h19 p hp, hm 7 (by decide) (by decide) (by decide), hm 18 (by decide) (by decide) (by decide), hm 20 (by decide) (by decide) (by decide), hm 21 (by decide) (by decide) (by decide), hm 22 (by decide) (by decide) (by decide), hm 23 (by decide) (by decide) (by decide), hm 24 (by decide) (by decide) (by decide), hm 25 (by decide) (by decide) (by decide)]
    exact s
  · unfold ISet at h5 ⊢
    rw [hc 6 (by decide), h0 34 (by omega), h0 35 (by omega), h0 36 (by omega), h0 37 (by omega)]
    exact h5
  · unfold ITold at h6 ⊢
    rw [hc 0 (by decide), hc 22 (by decide), h0 0 (by omega), h0 2 (by omega), h0 3 (by omega), h0 4 (by omega), hm 1 (by decide) (by decide) (by decide)]
    exact h6
  · unfold IZero at h7 ⊢
    rw [hc 9 (by decide), hc 10 (by decide), hm 15 (by decide) (by decide) (by decide), hm 16 (by decide) (by decide) (by decide)]
    exact h7
