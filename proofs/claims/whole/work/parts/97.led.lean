/-! led -/
def tld (M : St) (p : Nat) : Int := (M 20 p * (200 - M 23 p)).tdiv 200
def nfc (M : St) (c p : Nat) : Int := if c = 0 then (if 1 ≤ M 18 p ∧ M 21 p < tld M p then tld M p else M 21 p) else if c = 3 then (if 2 ≤ M 18 p then M 21 p + M 20 p - tld M p else M 21 p) else M 21 p
def dgc (M : St) (c : Nat) : Int := if c = 1 then 20 else M 0 35
def prc (M : St) (c : Nat) : Int := if c = 2 then (M 0 36).tdiv 2 else M 0 36
theorem tld_b {C M : St} (hI : Inv C M) {p : Nat} (hp : p < 4) : 0 ≤ tld M p ∧ tld M p ≤ M 20 p ∧ (0 ≤ M 20 p * (200 - M 23 p) ∧ M 20 p * (200 - M 23 p) ≤ 80000) ∧ (M 18 p = 1 → tld M p = M 20 p) := by
  obtain ⟨s1, -, -, s4, -⟩ := hI.2.2.2.1 p hp
  have h := tdiv_200 (h := M 20 p) (v := M 23 p) s1.2 ⟨s4.2.1, s4.2.2.1⟩
  refine ⟨h.1, h.2.1, h.2.2, fun e => ?_⟩
  unfold tld
  rw [s4.2.2.2 e, Int.sub_zero, Int.tdiv_eq_ediv_of_nonneg (by omega)]
  omega
theorem shut_row {C M S : St} (hI : Inv C M) {c p : Nat} (hc : c < 4) (hp : p < 4) (h18 : S 18 = M 18) (h20 : S 20 = M 20) (h23 : S 23 = M 23) (h21 : S 21 p = M 21 p) {x2 x3 : Int} {k : St → Int → Option (Int × St)} : pX6_isShutWithout_17B (c : Int) x2 x3 k S (p : Int) = k (put S 21 p (nfc M c p)) ((p : Int) + 1) := by
  obtain ⟨t1, t2, t3, t4⟩ := tld_b hI hp
  obtain ⟨s1, s2, -, s4, -⟩ := hI.2.2.2.1 p hp
  have hkd := (hI.2.2.2.1 p hp).kind
  have hR := isRubber_ok (M := S) (p := p) hp (by rw [h18]; omega)
  rw [h18] at hR
  have hg : pX6_isRing S (p : Int) = some (if M 18 p < 2 then 0 else 1) := by
    unfold pX6_isRing
    rw [ldI_ok (by omega), Int.toNat_natCast, h18, cLT_if (by omega)]
    split <;> rfl
  have h125 : ∀ w : Int, w = M 21 p → pX6_isShutWithout_125 k S (c : Int) x2 x3 (p : Int) (p : Int) = k (put S 21 p w) ((p : Int) + 1) := fun w hw => by
    unfold pX6_isShutWithout_125 pX6_isShutWithout_132
    rw [ldI_ok (by omega), Int.toNat_natCast, h21, stI_ok (by omega), Int.toNat_natCast, hw]; rfl
  have h132 : ∀ w : Int, pX6_isShutWithout_132 k S (c : Int) x2 x3 (p : Int) w (p : Int) = k (put S 21 p w) ((p : Int) + 1) := fun w => by
    unfold pX6_isShutWithout_132
    rw [stI_ok (by omega), Int.toNat_natCast]; rfl
  have hts : (M 20 p * (200 - M 23 p)).tdiv 200 = tld M p := rfl
  unfold pX6_isShutWithout_17B pX6_isShutWithout_71 pX6_isShutWithout_72 pX6_stretched
  rw [cLT_pos (by omega), ldI_ok (by omega), Int.toNat_natCast, h20, ldI_ok (by omega), Int.toNat_natCast, h23, dvI_ok (by omega), hts, bind_some']
  unfold nfc
  rcases (show c = 0 ∨ c = 1 ∨ c = 2 ∨ c = 3 by omega) with rfl | rfl | rfl | rfl
  · rw [if_pos rfl, cEQ_pos (x := ((0 : Nat) : Int)) (y := 0) (by omega), hR, bind_some']
    by_cases hr : 1 ≤ M 18 p
    · rw [if_pos (by omega), cEQ_neg (by omega), ldI_ok (by omega), Int.toNat_natCast, h21]
      by_cases hl : M 21 p < tld M p
      · rw [cLT_pos (by omega), cEQ_neg (by omega), if_pos ⟨hr, hl⟩, h132]
      · rw [cLT_neg (by omega), cEQ_pos (x := 0) (y := 0) (by omega), cEQ_neg (by omega), if_neg (fun e => hl e.2), h125 _ rfl]
    · rw [if_neg (by omega), cEQ_pos (x := 0) (y := 0) (by omega), cEQ_pos (x := 0) (y := 0) (by omega), cEQ_neg (by omega), if_neg (fun e => hr e.1), h125 _ rfl]
  · rw [if_neg (by omega), if_neg (by omega), cEQ_neg (by omega), cEQ_pos (x := 0) (y := 0) (by omega), cEQ_neg (by omega), h125 _ rfl]
  · rw [if_neg (by omega), if_neg (by omega), cEQ_neg (by omega), cEQ_pos (x := 0) (y := 0) (by omega), cEQ_neg (by omega), h125 _ rfl]
  · rw [if_neg (by omega), if_pos rfl, cEQ_neg (by omega), cEQ_pos (x := 0) (y := 0) (by omega), cEQ_pos (by omega), hg, bind_some']
    by_cases hr : M 18 p < 2
    · rw [if_pos hr, cEQ_pos (by omega), if_neg (by omega), h125 _ rfl]
    · rw [if_neg hr, cEQ_neg (by omega), if_pos (by omega), ldI_ok (by omega), Int.toNat_natCast, h21, ldI_ok (by omega), Int.toNat_natCast, h20, h132]
theorem remove_ok {C M T : St} (hI : Inv C M) (h : TM T M) (hT : ∀ q, 18 < q → T q = C q) {c : Nat} (hc : c < 4) : ∃ R : St, pX5_remove T (c : Int) = some R ∧ (∀ q, q ≠ 13 → q ≠ 16 → R q = T q) ∧ (∀ p, p < 4 → R 16 p = nfc M c p - M 25 p) ∧ R 13 5 = M 0 34 ∧ R 13 6 = dgc M c ∧ R 13 7 = prc M c := by
  obtain ⟨g1, g2, g3, g4⟩ := h
  have htop : ∀ p, p < 4 → T 16 p = M 21 p - M 25 p := fun p hp => (g1 p hp).2.2.2.1.1
  unfold pX5_remove dgc prc
  by_cases c1 : c = 1
  · subst c1
    rw [cEQ_pos (by omega)]
    refine ⟨_, rfl, fun q a b => by rw [put_ne a], fun p hp => by rw [put_ne (by decide), htop p hp]; rfl, by rw [put_j (by decide), g2.1], by rw [put_at, if_pos rfl], by rw [put_j (by decide), g4.1, if_neg (by omega)]⟩
  · rw [cEQ_neg (by omega)]
    by_cases c2 : c = 2
    · subst c2
      rw [cEQ_pos (by omega), dvI_ok (by omega)]
      refine ⟨_, rfl, fun q a b => by rw [put_ne a], fun p hp => by rw [put_ne (by decide), htop p hp]; rfl, by rw [put_j (by decide), g2.1], by rw [put_j (by decide), g3.1, if_neg (by omega)], by rw [put_at, g4.1, if_pos rfl]⟩
    · rw [cEQ_neg (by omega)]
      rw [if_neg c1, if_neg c2]
      refine lo2_spec (fun o => ∃ R : St, o = some R ∧ (∀ q, q ≠ 13 → q ≠ 16 → R q = T q) ∧ (∀ p, p < 4 → R 16 p = nfc M c p - M 25 p) ∧ R 13 5 = M 0 34 ∧ R 13 6 = M 0 35 ∧ R 13 7 = M 0 36) (fun (R : St) (y : Int) => ∃ p : Nat, y = p ∧ p ≤ 4 ∧ (∀ q, q ≠ 16 → R q = T q) ∧ (∀ p', p' < p → R 16 p' = nfc M c p' - M 25 p') ∧ ∀ p', p ≤ p' → R 16 p' = T 16 p') (fun _ y => (4 - y).toNat) ?_ FU T 0 ⟨0, rfl, by omega, fun _ _ => rfl, fun p' b => by omega, fun _ _ => rfl⟩ (by have := FU_big; omega)
      rintro k R y ⟨p, rfl, hp, r1, r2, r3⟩ hf
      unfold pX5_remove_40B pX5_remove_79
      by_cases e : p = 4
      · subst e
        rw [cLT_neg (by omega)]
        have c13 := r1 13 (by decide)
        exact ⟨R, rfl, fun q _ a => r1 q a, r2, by rw [c13, g2.1], by rw [c13, g3.1], by rw [c13, g4.1]⟩
      · have hp4 : p < 4 := by omega
        obtain ⟨j1, j2, -, j4, -, -⟩ := g1 p hp4
        obtain ⟨t1, t2, t3, t4⟩ := tld_b hI hp4
        obtain ⟨s1, s2, -, s4, -, s6, -, -⟩ := hI.2.2.2.1 p hp4
        have hts : (M 20 p * (200 - M 23 p)).tdiv 200 = tld M p := rfl
        have c61 : R (61 + p) = C (61 + p) := by rw [r1 _ (by omega), hT _ (by omega)]
        rw [cLT_pos (by omega), ldI_ok (by omega), Int.toNat_natCast, r1 15 (by decide), j2]
        have hnext : ∀ w : Int, w = nfc M c p - M 25 p → ∃ R' : St, k (put R 16 p w) ((p : Int) + 1) = some R' ∧ (∀ q, q ≠ 13 → q ≠ 16 → R' q = T q) ∧ (∀ p, p < 4 → R' 16 p = nfc M c p - M 25 p) ∧ R' 13 5 = M 0 34 ∧ R' 13 6 = M 0 35 ∧ R' 13 7 = M 0 36 := fun w hw => by
          refine hf _ _ ⟨p + 1, by omega, by omega, fun q c => by rw [put_ne c, r1 q c], fun p' c => ?_, fun p' c => by rw [put_j (by omega), r3 p' (by omega)]⟩ (by omega)
          by_cases ep : p' = p
          · subst ep; rw [put_at, hw]
          · rw [put_j ep, r2 p' (by omega)]
        by_cases hr : 1 ≤ M 18 p
        · rw [if_pos hr, cEQ_neg (by omega), ldI_ok (by omega), Int.toNat_natCast, r3 p (Nat.le_refl p), htop p hp4, ldA_ok (by omega), Int.toNat_natCast, Nat.one_mul]
          unfold pX5_lostBy pX2_stretchedHeight
          rw [c61, s1.1, s4.1, s2.1, dvI_ok (by omega), hts, bind_some', bind_some']
          by_cases c0 : c = 0
          · subst c0
            rw [cEQ_pos (by omega), max_ok (by omega), bind_some', bind_some', stI_ok (by omega), Int.toNat_natCast]
            refine hnext _ ?_
            unfold nfc
            rw [if_pos rfl]
            by_cases hl : M 21 p < tld M p
            · rw [if_pos ⟨hr, hl⟩]; omega
            · rw [if_neg (fun e => hl e.2)]; omega
          · rw [cEQ_neg (by omega), bind_some', stI_ok (by omega), Int.toNat_natCast]
            refine hnext _ ?_
            unfold nfc
            rw [if_neg c0, if_pos (by omega)]
            by_cases hl : 2 ≤ M 18 p
            · rw [if_pos hl]; omega
            · have := t4 (by omega)
              rw [if_neg hl]; omega
        · rw [if_neg hr, cEQ_pos (by omega)]
          simp only [setS]
          refine hf R _ ⟨p + 1, by omega, by omega, r1, fun p' c' => ?_, fun p' c' => r3 p' (by omega)⟩ (by omega)
          by_cases ep : p' = p
          · subst ep
            rw [r3 p' (Nat.le_refl p'), htop p' hp4]
            unfold nfc
            rw [if_neg (fun e : 1 ≤ M 18 p' ∧ M 21 p' < tld M p' => hr e.1), if_neg (show ¬ 2 ≤ M 18 p' by omega)]
            simp
          · exact r2 p' (by omega)
