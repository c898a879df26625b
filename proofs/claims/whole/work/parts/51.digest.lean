/-! digest: the class as a whole, the model as a whole -/
def gSeal (M : St) (p : Nat) (h : Int) : Int := hSeal (M 18 p) (M 21 p) (M 20 p) (M 22 p) (M 19 p) (M 23 p) (31 * h + M 25 p)
def gStf (M : St) (s : Nat) (h : Int) : Int := if M 7 s = 0 then 31 * h + -1 else hStf (M 8 s) (M 11 s) (M 12 s) (M 13 s) (M 14 s) (fun i => M 9 (5 * s + i)) (fun i => M 10 (5 * s + i)) h
def gRow (M : St) (r : Nat) (h : Int) : Int := it (mx (fun i => M 3 (40 * r + i))) (31 * h + M 2 r) (M 2 r).toNat
def gTxt (M : St) (t : Nat) (h : Int) : Int := it (mx (fun i => M 6 (60 * t + i))) (31 * h + M 5 t) (M 5 t).toNat
def gSet (M : St) : Nat → Int := tl4 (M 0 34) (M 0 35) (M 0 36) (M 0 37)
def gAll (cv : Nat → Int) (M : St) : Int := it (gTxt M) (it (gRow M) (it (gStf M) (it (gSeal M) (it (mx (gSet M)) (it (mx cv) 17 6) 4) 4) 6) 6) 4
theorem digC1 {C M : St} (hI : Inv C M) {h : Int} : lo2 (pX5_digest_139B C) FU h 0 = some (it (gTxt M) h 4) := by
  refine lo2_spec (fun o => o = some (it (gTxt M) h 4)) (fun (y x : Int) => 0 ≤ x ∧ x ≤ 4 ∧ y = it (gTxt M) h x.toNat) (fun _ x => (4 - x).toNat) ?_ FU _ _ ⟨by omega, by omega, rfl⟩ (by have := FU_big; omega)
  intro k y x hI2 hkk
  obtain ⟨i1, i2, i3⟩ := hI2
  unfold pX5_digest_139B
  by_cases hx : x < 4
  · obtain ⟨e1, b1, b2, hc⟩ := hI.2.1 x.toNat (by omega)
    have hrl := rlen_txt (t := x.toNat) (by omega)
    rw [cLT_pos (by omega), ldA_ok (by omega), mixRow (f := fun i => M 6 (60 * x.toNat + i)) e1 (by omega) (by omega) (fun i hi => ⟨(hc i hi).1, by have := (hc i hi).2; omega⟩)]
    simp only [bind_some', setS]
    refine hkk _ _ ⟨by omega, by omega, ?_⟩ (by omega)
    rw [it_s i1, ← i3]; rfl
  · rw [cLT_neg (by omega), i3, show x.toNat = 4 by omega]
theorem digC2 {C M : St} (hI : Inv C M) {h : Int} : lo2 (pX5_digest_114B C) FU h 0 = some (it (gTxt M) (it (gRow M) h 6) 4) := by
  refine lo2_spec (fun o => o = some (it (gTxt M) (it (gRow M) h 6) 4)) (fun (y x : Int) => 0 ≤ x ∧ x ≤ 6 ∧ y = it (gRow M) h x.toNat) (fun _ x => (6 - x).toNat) ?_ FU _ _ ⟨by omega, by omega, rfl⟩ (by have := FU_big; omega)
  intro k y x hI2 hkk
  obtain ⟨i1, i2, i3⟩ := hI2
  unfold pX5_digest_114B
  by_cases hx : x < 6
  · obtain ⟨e1, b1, b2, hc⟩ := hI.1 x.toNat (by omega)
    have hrl := rlen_row (r := x.toNat) (by omega)
    rw [cLT_pos (by omega), ldA_ok (by omega), mixRow (f := fun i => M 3 (40 * x.toNat + i)) e1 (by omega) (by omega) (fun i hi => ⟨(hc i hi).1, (hc i hi).2⟩)]
    simp only [bind_some', setS]
    refine hkk _ _ ⟨by omega, by omega, ?_⟩ (by omega)
    rw [it_s i1, ← i3]; rfl
  · rw [cLT_neg (by omega), i3, show x.toNat = 6 by omega, digC1 hI]
theorem digC3 {C M : St} (hI : Inv C M) {h : Int} : lo2 (pX5_digest_89B C) FU h 0 = some (it (gTxt M) (it (gRow M) (it (gStf M) h 6) 6) 4) := by
  refine lo2_spec (fun o => o = some (it (gTxt M) (it (gRow M) (it (gStf M) h 6) 6) 4)) (fun (y x : Int) => 0 ≤ x ∧ x ≤ 6 ∧ y = it (gStf M) h x.toNat) (fun _ x => (6 - x).toNat) ?_ FU _ _ ⟨by omega, by omega, rfl⟩ (by have := FU_big; omega)
  intro k y x hI2 hkk
  obtain ⟨i1, i2, i3⟩ := hI2
  unfold pX5_digest_89B
  by_cases hx : x < 6
  · obtain ⟨z1, z2, hs⟩ := hI.2.2.1 x.toNat (by omega)
    have hm : pX3_mixInto C (43 + 3 * x.toNat) y = some (gStf M x.toNat y) := by
      rcases hs with ⟨k1, k2⟩ | ⟨k1, k2, hd⟩
      · unfold pX3_mixInto pX3_isMissing gStf
        rw [k2, if_pos k1]
        simp (disch := omega) only [cEQ_pos, cEQ_neg, bind_some', pX5_mix]
      · rw [mixStf k2 hd ⟨z1, z2⟩]
        unfold gStf
        rw [if_neg (by omega)]
    rw [cLT_pos (by omega), ldA_ok (by omega), hm]
    simp only [bind_some', setS]
    refine hkk _ _ ⟨by omega, by omega, ?_⟩ (by omega)
    rw [it_s i1, ← i3]
  · rw [cLT_neg (by omega), i3, show x.toNat = 6 by omega, digC2 hI]
theorem digC4 {C M : St} (hI : Inv C M) {h : Int} : lo2 (pX5_digest_55B C) FU h 0 = some (it (gTxt M) (it (gRow M) (it (gStf M) (it (gSeal M) h 4) 6) 6) 4) := by
  refine lo2_spec (fun o => o = some (it (gTxt M) (it (gRow M) (it (gStf M) (it (gSeal M) h 4) 6) 6) 4)) (fun (y x : Int) => 0 ≤ x ∧ x ≤ 4 ∧ y = it (gSeal M) h x.toNat) (fun _ x => (4 - x).toNat) ?_ FU _ _ ⟨by omega, by omega, rfl⟩ (by have := FU_big; omega)
  intro k y x hI2 hkk
  obtain ⟨i1, i2, i3⟩ := hI2
  unfold pX5_digest_55B
  by_cases hx : x < 4
  · have hs := hI.2.2.2.1 x.toNat (by omega)
    have h5 := hs.2.2.2.2.2.1
    rw [cLT_pos (by omega), ldA_ok (by omega), ldI_ok (by omega), h5.1, wdI_ok (by omega), Nat.one_mul]
    simp only [bind_some', pX5_mix]
    rw [mixSeal hs]
    simp only [bind_some', setS]
    refine hkk _ _ ⟨by omega, by omega, ?_⟩ (by omega)
    rw [it_s i1, ← i3]; rfl
  · rw [cLT_neg (by omega), i3, show x.toNat = 4 by omega, digC3 hI]
theorem digC5 {C M : St} (hI : Inv C M) {h : Int} : lo2 (pX5_digest_30B C) FU h 0 = some (it (gTxt M) (it (gRow M) (it (gStf M) (it (gSeal M) (it (mx (gSet M)) h 4) 4) 6) 6) 4) := by
  refine lo2_spec (fun o => o = some (it (gTxt M) (it (gRow M) (it (gStf M) (it (gSeal M) (it (mx (gSet M)) h 4) 4) 6) 6) 4)) (fun (y x : Int) => 0 ≤ x ∧ x ≤ 4 ∧ y = it (mx (gSet M)) h x.toNat) (fun _ x => (4 - x).toNat) ?_ FU _ _ ⟨by omega, by omega, rfl⟩ (by have := FU_big; omega)
  intro k y x hI2 hkk
  obtain ⟨i1, i2, i3⟩ := hI2
  unfold pX5_digest_30B
  by_cases hx : 3 < x
  · rw [cLT_pos (by omega), i3, show x.toNat = 4 by omega, digC4 hI]
  · have hs : C 6 x.toNat = gSet M x.toNat ∧ -2147483648 ≤ gSet M x.toNat ∧ gSet M x.toNat ≤ 2147483647 := by
      obtain ⟨a1, a2, a3, a4⟩ := hI.2.2.2.2.1
      rcases (show x = 0 ∨ x = 1 ∨ x = 2 ∨ x = 3 by omega) with rfl | rfl | rfl | rfl
      · show C 6 0 = M 0 34 ∧ -2147483648 ≤ M 0 34 ∧ M 0 34 ≤ 2147483647; omega
      · show C 6 1 = M 0 35 ∧ -2147483648 ≤ M 0 35 ∧ M 0 35 ≤ 2147483647; omega
      · show C 6 2 = M 0 36 ∧ -2147483648 ≤ M 0 36 ∧ M 0 36 ≤ 2147483647; omega
      · show C 6 3 = M 0 37 ∧ -2147483648 ≤ M 0 37 ∧ M 0 37 ≤ 2147483647; omega
    rw [cLT_neg (by omega), ldI_ok (by omega), hs.1, wdI_ok (by omega)]
    simp only [bind_some', pX5_mix, setS]
    refine hkk _ _ ⟨by omega, by omega, ?_⟩ (by omega)
    rw [it_s i1, ← i3]; rfl
theorem digC {C M : St} (hI : Inv C M) {cv : Nat → Int} (hcv : ∀ i : Nat, i < 6 → pX5_count C (i : Int) = some (cv i) ∧ 0 ≤ cv i ∧ cv i ≤ 6) : pX5_digest C = some (gAll cv M) := by
  unfold pX5_digest gAll
  refine lo2_spec (fun o => o = some (it (gTxt M) (it (gRow M) (it (gStf M) (it (gSeal M) (it (mx (gSet M)) (it (mx cv) 17 6) 4) 4) 6) 6) 4)) (fun (y x : Int) => 0 ≤ x ∧ x ≤ 6 ∧ y = it (mx cv) 17 x.toNat) (fun _ x => (6 - x).toNat) ?_ FU _ _ ⟨by omega, by omega, rfl⟩ (by have := FU_big; omega)
  intro k y x hI2 hkk
  obtain ⟨i1, i2, i3⟩ := hI2
  unfold pX5_digest_6B
  by_cases hx : 5 < x
  · rw [cLT_pos (by omega), i3, show x.toNat = 6 by omega, digC5 hI]
  · obtain ⟨c1, c2⟩ := hcv x.toNat (by omega)
    rw [show ((x.toNat : Nat) : Int) = x by omega] at c1
    rw [cLT_neg (by omega), c1]
    simp only [bind_some', pX5_mix, setS]
    rw [wdI_ok (by omega)]
    refine hkk _ _ ⟨by omega, by omega, ?_⟩ (by omega)
    rw [it_s i1, ← i3]; rfl
/-! the model: all its memories are M with another h -/
def hm (M : St) (h : Int) : St := put M 0 50 h
theorem hm_q {M : St} {h : Int} {q : Nat} (hq : q ≠ 0) : hm M h q = M q := put_ne hq
theorem hm_j {M : St} {h : Int} {j : Nat} (hj : j ≠ 50) : hm M h 0 j = M 0 j := put_j hj
theorem hm_h {M : St} {h : Int} : hm M h 0 50 = h := put_at
theorem hm_mix {M : St} {h v : Int} : pX6_mix (hm M h) v = some (hm M (31 * h + v)) := by
  unfold pX6_mix
  rw [hm_h]
  simp only [setS, hm]
  congr 1
  funext x y
  simp only [put]
  by_cases e : x = 0 ∧ y = 50 <;> simp [e]
theorem Inv_hm {C M : St} (hI : Inv C M) {h : Int} : Inv C (hm M h) := by
  obtain ⟨h1, h2, h3, h4, h5, h6, h7⟩ := hI
  have hq : ∀ q, q ≠ 0 → hm M h q = M q := fun q a => hm_q a
  refine ⟨h1.congr (fun _ _ _ => rfl) (hq _ (by decide)) (hq _ (by decide)), h2.congr (fun _ _ _ => rfl) (hq _ (by decide)) (hq _ (by decide)), h3.congr (fun _ _ _ => rfl) (fun q a b => hq q (by omega)), h4.congr (fun _ _ _ => rfl) rfl (fun q a b => hq q (by omega)) (hq _ (by decide)), ?_, ?_, ?_⟩
  · unfold ISet at h5 ⊢
    rw [hm_j (by decide), hm_j (by decide), hm_j (by decide), hm_j (by decide)]
    exact h5
  · unfold ITold at h6 ⊢
    rw [hm_j (by decide), hm_j (by decide), hm_j (by decide), hm_j (by decide), hq 1 (by decide)]
    exact h6
  · unfold IZero at h7 ⊢
    rw [hq 15 (by decide), hq 16 (by decide)]
    exact h7
theorem digM1 {C M : St} (hI : Inv C M) {h : Int} : lo2 pX6_digest_127B FU (hm M h) 0 = some (it (gTxt M) h 4, hm M (it (gTxt M) h 4)) := by
  refine lo2_spec (fun o => o = some (it (gTxt M) h 4, hm M (it (gTxt M) h 4))) (fun (S : St) (x : Int) => 0 ≤ x ∧ x ≤ 4 ∧ S = hm M (it (gTxt M) h x.toNat)) (fun _ x => (4 - x).toNat) ?_ FU _ _ ⟨by omega, by omega, rfl⟩ (by have := FU_big; omega)
  intro k S x hI2 hkk
  obtain ⟨i1, i2, rfl⟩ := hI2
  unfold pX6_digest_127B
  by_cases hx : x < 4
  · obtain ⟨t, rfl⟩ := Int.eq_ofNat_of_zero_le i1
    obtain ⟨e1, b1, b2, hc⟩ := hI.2.1 t (by omega)
    rw [cLT_pos (by omega), ldI_ok (by omega), hm_q (by decide), Int.toNat_natCast, wdI_ok (by omega), hm_mix]
    simp only [bind_some']
    obtain ⟨h0, hh0⟩ : ∃ h0, it (gTxt M) h t = h0 := ⟨_, rfl⟩
    rw [hh0]
    have hin : lo2 (pX6_digest_145B k (t : Int)) FU (hm M (31 * h0 + M 5 t)) 0 = k (hm M (gTxt M t h0)) ((t : Int) + 1) := by
      refine lo2_spec (fun o => o = k (hm M (gTxt M t h0)) ((t : Int) + 1)) (fun (S : St) (x : Int) => 0 ≤ x ∧ (x ≤ M 5 t ∨ x = 0) ∧ S = hm M (it (mx (fun i => M 6 (60 * t + i))) (31 * h0 + M 5 t) x.toNat)) (fun _ x => (M 5 t - x).toNat) ?_ FU _ _ ⟨by omega, by omega, rfl⟩ (by have := FU_big; omega)
      intro k2 S x hI3 hk2
      obtain ⟨j1, j2, rfl⟩ := hI3
      unfold pX6_digest_145B pX6_byteAt
      rw [ldI_ok (by omega), hm_q (by decide), Int.toNat_natCast]
      by_cases hxn : x < M 5 t
      · obtain ⟨c1, c2⟩ := hc x.toNat (by omega)
        have e : (60 * (t : Int) + x).toNat = 60 * t + x.toNat := by omega
        rw [cLT_pos (by omega), ldI_ok (by omega), hm_q (by decide), Int.toNat_natCast, cLT_pos (by omega), ldI_ok (by omega), hm_q (by decide), e]
        simp only [bind_some']
        rw [wdI_ok (by omega), hm_mix]
        simp only [bind_some', setS]
        refine hk2 _ _ ⟨by omega, by omega, ?_⟩ (by omega)
        rw [it_s j1]; rfl
      · rw [cLT_neg (by omega)]
        simp only [setS]
        unfold gTxt
        rw [show x.toNat = (M 5 t).toNat by omega]
    rw [hin]
    refine hkk _ _ ⟨by omega, by omega, ?_⟩ (by omega)
    rw [it_s i1, Int.toNat_natCast, hh0]
  · rw [cLT_neg (by omega), hm_h, show x.toNat = 4 by omega]
theorem digM2 {C M : St} (hI : Inv C M) {h : Int} : lo2 pX6_digest_73B FU (hm M h) 0 = some (it (gTxt M) (it (gRow M) h 6) 4, hm M (it (gTxt M) (it (gRow M) h 6) 4)) := by
  refine lo2_spec (fun o => o = some (it (gTxt M) (it (gRow M) h 6) 4, hm M (it (gTxt M) (it (gRow M) h 6) 4))) (fun (S : St) (x : Int) => 0 ≤ x ∧ x ≤ 6 ∧ S = hm M (it (gRow M) h x.toNat)) (fun _ x => (6 - x).toNat) ?_ FU _ _ ⟨by omega, by omega, rfl⟩ (by have := FU_big; omega)
  intro k S x hI2 hkk
  obtain ⟨i1, i2, rfl⟩ := hI2
  unfold pX6_digest_73B
  by_cases hx : x < 6
  · obtain ⟨t, rfl⟩ := Int.eq_ofNat_of_zero_le i1
    obtain ⟨e1, b1, b2, hc⟩ := hI.1 t (by omega)
    rw [cLT_pos (by omega), ldI_ok (by omega), hm_q (by decide), Int.toNat_natCast, wdI_ok (by omega), hm_mix]
    simp only [bind_some']
    obtain ⟨h0, hh0⟩ : ∃ h0, it (gRow M) h t = h0 := ⟨_, rfl⟩
    rw [hh0]
    have hin : lo2 (pX6_digest_92B k (t : Int)) FU (hm M (31 * h0 + M 2 t)) 0 = k (hm M (gRow M t h0)) ((t : Int) + 1) := by
      refine lo2_spec (fun o => o = k (hm M (gRow M t h0)) ((t : Int) + 1)) (fun (S : St) (x : Int) => 0 ≤ x ∧ (x ≤ M 2 t ∨ x = 0) ∧ S = hm M (it (mx (fun i => M 3 (40 * t + i))) (31 * h0 + M 2 t) x.toNat)) (fun _ x => (M 2 t - x).toNat) ?_ FU _ _ ⟨by omega, by omega, rfl⟩ (by have := FU_big; omega)
      intro k2 S x hI3 hk2
      obtain ⟨j1, j2, rfl⟩ := hI3
      unfold pX6_digest_92B pX6_rowAt
      rw [ldI_ok (by omega), hm_q (by decide), Int.toNat_natCast]
      by_cases hxn : x < M 2 t
      · obtain ⟨c1, c2⟩ := hc x.toNat (by omega)
        have e : (40 * (t : Int) + x).toNat = 40 * t + x.toNat := by omega
        rw [cLT_pos (by omega), ldI_ok (by omega), hm_q (by decide), e]
        simp only [bind_some']
        rw [wdI_ok (by omega), hm_mix]
        simp only [bind_some', setS]
        refine hk2 _ _ ⟨by omega, by omega, ?_⟩ (by omega)
        rw [it_s j1]; rfl
      · rw [cLT_neg (by omega)]
        simp only [setS]
        unfold gRow
        rw [show x.toNat = (M 2 t).toNat by omega]
    rw [hin]
    refine hkk _ _ ⟨by omega, by omega, ?_⟩ (by omega)
    rw [it_s i1, Int.toNat_natCast, hh0]
  · rw [cLT_neg (by omega), show x.toNat = 6 by omega, digM1 hI]
theorem digM3 {C M : St} (hI : Inv C M) {h : Int} : lo2 pX6_mixPlaces_118B FU (hm M h) 0 = some (hm M (it (gStf M) h 6)) := by
  refine lo2_spec (fun o => o = some (hm M (it (gStf M) h 6))) (fun (S : St) (x : Int) => 0 ≤ x ∧ x ≤ 6 ∧ S = hm M (it (gStf M) h x.toNat)) (fun _ x => (6 - x).toNat) ?_ FU _ _ ⟨by omega, by omega, rfl⟩ (by have := FU_big; omega)
  intro k S x hI2 hkk
  obtain ⟨i1, i2, rfl⟩ := hI2
  unfold pX6_mixPlaces_118B
  by_cases hx : x < 6
  · obtain ⟨s, rfl⟩ := Int.eq_ofNat_of_zero_le i1
    obtain ⟨h0, hh0⟩ : ∃ h0, it (gStf M) h s = h0 := ⟨_, rfl⟩
    have hnext : k (hm M (gStf M s h0)) ((s : Int) + 1) = some (hm M (it (gStf M) h 6)) := by
      refine hkk _ _ ⟨by omega, by omega, ?_⟩ (by omega)
      rw [it_s i1, Int.toNat_natCast, hh0]
    rw [cLT_pos (by omega), ldI_ok (by omega), hm_q (by decide), Int.toNat_natCast, hh0]
    obtain ⟨z1, z2, hs⟩ := hI.2.2.1 s (by omega)
    rcases hs with ⟨k1, k2⟩ | ⟨k1, k2, hd⟩
    · rw [cEQ_pos (by omega), hm_mix]
      unfold gStf at hnext
      rw [if_pos k1] at hnext
      simp only [bind_some', pX6_mixPlaces_215, setS]
      exact hnext
    · unfold gStf at hnext
      rw [if_neg (by omega)] at hnext
      obtain ⟨d1, d2, d3, d4, d5, d6, d7, d8, d9, d10, d11, d12, d13, d14, d15, d16, d17⟩ := hd
      have hmono : ∀ k : Nat, (k : Int) ≤ M 8 s → 0 ≤ M 9 (5 * s + k) ∧ 0 ≤ M 10 (5 * s + k) := by
        intro k
        induction k with
        | zero => intro _; rw [Nat.add_zero]; omega
        | succ k ih =>
          intro hk
          have a := ih (by omega)
          have b := d4 k (by omega)
          omega
      rw [cEQ_neg (by omega)]
      refine lo2_spec (fun o => o = some (hm M (it (gStf M) h 6))) (fun (S : St) (x : Int) => 0 ≤ x ∧ x ≤ 5 ∧ S = hm M (it (mx (tl5 (M 8 s) (M 11 s) (M 12 s) (M 13 s) (M 14 s))) h0 x.toNat)) (fun _ x => (5 - x).toNat) ?_ FU _ _ ⟨by omega, by omega, rfl⟩ (by have := FU_big; omega)
      intro k2 S x hI3 hk2
      obtain ⟨j1, j2, rfl⟩ := hI3
      unfold pX6_mixPlaces_135B
      by_cases hx5 : x < 5
      · have ht : pX6_stuffTells (hm M (it (mx (tl5 (M 8 s) (M 11 s) (M 12 s) (M 13 s) (M 14 s))) h0 x.toNat)) (s : Int) x = some (tl5 (M 8 s) (M 11 s) (M 12 s) (M 13 s) (M 14 s) x.toNat) := by
          unfold pX6_stuffTells
          rcases (show x = 0 ∨ x = 1 ∨ x = 2 ∨ x = 3 ∨ x = 4 by omega) with rfl | rfl | rfl | rfl | rfl
          · simp (disch := omega) only [cEQ_pos, ldI_ok, hm_q, Int.toNat_natCast]; rfl
          · simp (disch := omega) only [cEQ_neg, cEQ_pos, ldI_ok, hm_q, Int.toNat_natCast]; rfl
          · simp (disch := omega) only [cEQ_neg, cEQ_pos, ldI_ok, hm_q, Int.toNat_natCast]; rfl
          · simp (disch := omega) only [cEQ_neg, cEQ_pos, ldI_ok, hm_q, Int.toNat_natCast]; rfl
          · simp (disch := omega) only [cEQ_neg, ldI_ok, hm_q, Int.toNat_natCast]; rfl
        have hb : -2147483648 ≤ tl5 (M 8 s) (M 11 s) (M 12 s) (M 13 s) (M 14 s) x.toNat ∧ tl5 (M 8 s) (M 11 s) (M 12 s) (M 13 s) (M 14 s) x.toNat ≤ 2147483647 := by
          rcases (show x = 0 ∨ x = 1 ∨ x = 2 ∨ x = 3 ∨ x = 4 by omega) with rfl | rfl | rfl | rfl | rfl
          · show -2147483648 ≤ M 8 s ∧ M 8 s ≤ 2147483647; omega
          · show -2147483648 ≤ M 11 s ∧ M 11 s ≤ 2147483647; omega
          · show -2147483648 ≤ M 12 s ∧ M 12 s ≤ 2147483647; omega
          · show -2147483648 ≤ M 13 s ∧ M 13 s ≤ 2147483647; omega
          · show -2147483648 ≤ M 14 s ∧ M 14 s ≤ 2147483647; omega
        rw [cLT_pos (by omega), ht]
        simp only [bind_some']
        rw [wdI_ok (by omega), hm_mix]
        simp only [bind_some', setS]
        refine hk2 _ _ ⟨by omega, by omega, ?_⟩ (by omega)
        rw [it_s j1]; rfl
      · rw [cLT_neg (by omega), show x.toNat = 5 by omega]
        unfold hStf at hnext
        generalize it (mx (tl5 (M 8 s) (M 11 s) (M 12 s) (M 13 s) (M 14 s))) h0 5 = h5 at hnext ⊢
        refine lo2_spec (fun o => o = some (hm M (it (gStf M) h 6))) (fun (S : St) (x : Int) => 1 ≤ x ∧ x ≤ M 8 s + 1 ∧ S = hm M (it (fun i z => 31 * (31 * z + M 9 (5 * s + (i + 1))) + M 10 (5 * s + (i + 1))) h5 (x - 1).toNat)) (fun _ x => (M 8 s + 1 - x).toNat) ?_ FU _ _ ⟨by omega, by omega, rfl⟩ (by have := FU_big; omega)
        intro k3 S x hI4 hk3
        obtain ⟨l1, l2, rfl⟩ := hI4
        unfold pX6_mixPlaces_159B pX6_mixPlaces_215
        rw [ldI_ok (by omega), hm_q (by decide), Int.toNat_natCast]
        by_cases hxx : M 8 s < x
        · rw [cLT_pos (by omega), show (x - 1).toNat = (M 8 s).toNat by omega]
          exact hnext
        · have c3 := d5 x.toNat (by omega)
          have c4 := hmono x.toNat (by omega)
          have e : (5 * (s : Int) + x).toNat = 5 * s + x.toNat := by omega
          rw [cLT_neg (by omega), ldI_ok (by omega), hm_q (by decide), e, wdI_ok (by omega), hm_mix]
          simp only [bind_some']
          rw [ldI_ok (by omega), hm_q (by decide), e, wdI_ok (by omega), hm_mix]
          simp only [bind_some', setS]
          refine hk3 _ _ ⟨by omega, by omega, ?_⟩ (by omega)
          rw [show (x + 1 - 1).toNat = (x - 1).toNat + 1 by omega]
          simp only [it]
          rw [show (x - 1).toNat + 1 = x.toNat by omega]
  · rw [cLT_neg (by omega), show x.toNat = 6 by omega]
theorem digM4 {C M : St} (hI : Inv C M) {h : Int} : pX6_mixPlaces (hm M h) = some (hm M (it (gStf M) (it (gSeal M) h 4) 6)) := by
  unfold pX6_mixPlaces
  refine lo2_spec (fun o => o = some (hm M (it (gStf M) (it (gSeal M) h 4) 6))) (fun (S : St) (x : Int) => 0 ≤ x ∧ x ≤ 4 ∧ S = hm M (it (gSeal M) h x.toNat)) (fun _ x => (4 - x).toNat) ?_ FU _ _ ⟨by omega, by omega, rfl⟩ (by have := FU_big; omega)
  intro k S x hI2 hkk
  obtain ⟨i1, i2, rfl⟩ := hI2
  unfold pX6_mixPlaces_2B
  by_cases hx : x < 4
  · obtain ⟨p, rfl⟩ := Int.eq_ofNat_of_zero_le i1
    obtain ⟨h0, hh0⟩ : ∃ h0, it (gSeal M) h p = h0 := ⟨_, rfl⟩
    have hnext : k (hm M (gSeal M p h0)) ((p : Int) + 1) = some (hm M (it (gStf M) (it (gSeal M) h 4) 6)) := by
      refine hkk _ _ ⟨by omega, by omega, ?_⟩ (by omega)
      rw [it_s i1, Int.toNat_natCast, hh0]
    obtain ⟨s1, s2, s3, s4, s5, s6, s7, s8⟩ := hI.2.2.2.1 p (by omega)
    have hk9 : -9 ≤ M 18 p ∧ M 18 p ≤ 4 := by rcases s8 with z | z <;> omega
    have hS : ∀ g, pX6_isSeal (hm M g) (p : Int) = some (if M 18 p = -9 then 0 else 1) := by
      intro g
      unfold pX6_isSeal
      rw [ldI_ok (by omega), hm_q (by decide), Int.toNat_natCast, cEQ_if (by omega)]
      split <;> rfl
    have hR : ∀ g, pX6_isRubber (hm M g) (p : Int) = some (if 0 < M 18 p then 1 else 0) := by
      intro g
      have := isRubber_ok (M := hm M g) (p := p) (by omega) (by rw [hm_q (by decide)]; exact hk9)
      rw [hm_q (by decide)] at this
      exact this
    have hG : ∀ g, pX6_isRing (hm M g) (p : Int) = some (if 2 ≤ M 18 p then 1 else 0) := by
      intro g
      have := isRing_ok (M := hm M g) (p := p) (by omega) (by rw [hm_q (by decide)]; exact hk9)
      rw [hm_q (by decide)] at this
      exact this
    rw [cLT_pos (by omega), ldI_ok (by omega), hm_q (by decide), Int.toNat_natCast, hh0, wdI_ok (by omega), hm_mix]
    simp only [bind_some', hS]
    unfold gSeal hSeal at hnext
    rcases s8 with ⟨k1, k2⟩ | ⟨k1, k2, k3, k4, k5⟩
    · rw [if_pos k1] at hnext ⊢
      rw [cEQ_pos (by omega), hm_mix]
      simp only [bind_some', pX6_mixPlaces_110, setS]
      exact hnext
    · rw [if_neg (by omega)] at hnext ⊢
      rw [cEQ_neg (by omega)]
      refine lo2_spec (fun o => o = some (hm M (it (gStf M) (it (gSeal M) h 4) 6))) (fun (S : St) (x : Int) => 0 ≤ x ∧ x ≤ 4 ∧ S = hm M (it (mx (tl4 (M 18 p) (M 21 p) (M 20 p) (M 22 p))) (31 * h0 + M 25 p) x.toNat)) (fun _ x => (4 - x).toNat) ?_ FU _ _ ⟨by omega, by omega, rfl⟩ (by have := FU_big; omega)
      intro k2' S x hI3 hk2
      obtain ⟨j1, j2, rfl⟩ := hI3
      unfold pX6_mixPlaces_28B
      by_cases hx4 : x < 4
      · have ht : ∀ g, pX6_sealTells (hm M g) (p : Int) x = some (tl4 (M 18 p) (M 21 p) (M 20 p) (M 22 p) x.toNat) := by
          intro g
          unfold pX6_sealTells
          rcases (show x = 0 ∨ x = 1 ∨ x = 2 ∨ x = 3 by omega) with rfl | rfl | rfl | rfl
          · simp (disch := omega) only [cEQ_pos, ldI_ok, hm_q, Int.toNat_natCast]; rfl
          · simp (disch := omega) only [cEQ_neg, cEQ_pos, ldI_ok, hm_q, Int.toNat_natCast]; rfl
          · simp (disch := omega) only [cEQ_neg, cEQ_pos, ldI_ok, hm_q, Int.toNat_natCast]; rfl
          · simp (disch := omega) only [cEQ_neg, cEQ_pos, ldI_ok, hm_q, Int.toNat_natCast]; rfl
        have hb : -2147483648 ≤ tl4 (M 18 p) (M 21 p) (M 20 p) (M 22 p) x.toNat ∧ tl4 (M 18 p) (M 21 p) (M 20 p) (M 22 p) x.toNat ≤ 2147483647 := by
          rcases (show x = 0 ∨ x = 1 ∨ x = 2 ∨ x = 3 by omega) with rfl | rfl | rfl | rfl
          · show -2147483648 ≤ M 18 p ∧ M 18 p ≤ 2147483647; omega
          · show -2147483648 ≤ M 21 p ∧ M 21 p ≤ 2147483647; omega
          · show -2147483648 ≤ M 20 p ∧ M 20 p ≤ 2147483647; omega
          · show -2147483648 ≤ M 22 p ∧ M 22 p ≤ 2147483647; omega
        rw [cLT_pos (by omega), ht]
        simp only [bind_some']
        rw [wdI_ok (by omega), hm_mix]
        simp only [bind_some', setS]
        refine hk2 _ _ ⟨by omega, by omega, ?_⟩ (by omega)
        rw [it_s j1]; rfl
      · rw [cLT_neg (by omega), show x.toNat = 4 by omega]
        simp only [hR, bind_some']
        unfold pX6_mixPlaces_72 pX6_mixPlaces_97 pX6_mixPlaces_110
        by_cases hr : 0 < M 18 p
        · have e1 := (k5 (by omega)).1
          rw [if_pos hr] at hnext ⊢
          rw [cEQ_neg (by omega), ldI_ok (by omega), hm_q (by decide), Int.toNat_natCast, wdI_ok (by omega), hm_mix]
          simp only [bind_some', hG]
          by_cases hg : 2 ≤ M 18 p
          · rw [if_pos hg] at hnext ⊢
            rw [cEQ_neg (by omega), ldI_ok (by omega), hm_q (by decide), Int.toNat_natCast, wdI_ok (by omega), hm_mix]
            simp only [bind_some', setS]
            exact hnext
          · rw [if_neg hg] at hnext ⊢
            rw [cEQ_pos (by omega), hm_mix]
            simp only [bind_some', setS]
            exact hnext
        · rw [if_neg hr] at hnext ⊢
          rw [if_neg (show ¬ 2 ≤ M 18 p by omega)] at hnext
          rw [cEQ_pos (by omega), hm_mix]
          simp only [bind_some', hG]
          rw [if_neg (show ¬ 2 ≤ M 18 p by omega), cEQ_pos (by omega), hm_mix]
          simp only [bind_some', setS]
          exact hnext
  · rw [cLT_neg (by omega), show x.toNat = 4 by omega, digM3 hI]
theorem digM {C M : St} (hI : Inv C M) {cv : Nat → Int} (hcv : ∀ i : Nat, i < 6 → pX5_count C (i : Int) = some (cv i) ∧ 0 ≤ cv i ∧ cv i ≤ 6) : pX6_digest M = some (gAll cv M, hm M (gAll cv M)) := by
  unfold pX6_digest
  simp only [setS]
  show lo2 pX6_digest_9B FU (hm M 17) 0 = _
  refine lo2_spec (fun o => o = some (gAll cv M, hm M (gAll cv M))) (fun (S : St) (x : Int) => 0 ≤ x ∧ x ≤ 6 ∧ S = hm M (it (mx cv) 17 x.toNat)) (fun _ x => (6 - x).toNat) ?_ FU _ _ ⟨by omega, by omega, rfl⟩ (by have := FU_big; omega)
  intro k S x hI2 hkk
  obtain ⟨i1, i2, rfl⟩ := hI2
  unfold pX6_digest_9B
  by_cases hx : x < 6
  · obtain ⟨c1, c2⟩ := hcv x.toNat (by omega)
    rw [show ((x.toNat : Nat) : Int) = x by omega] at c1
    obtain ⟨v, a, b, -⟩ := count_both (Inv_hm hI (h := it (mx cv) 17 x.toNat)) (x1 := x) (by omega)
    have ev : v = cv x.toNat := Option.some.inj (a.symm.trans c1)
    rw [cLT_pos (by omega), b, ev]
    simp only [bind_some']
    rw [wdI_ok (by omega), hm_mix]
    simp only [bind_some', setS]
    refine hkk _ _ ⟨by omega, by omega, ?_⟩ (by omega)
    rw [it_s i1]; rfl
  · obtain ⟨a1, a2, a3, a4⟩ := hI.2.2.2.2.1
    rw [cLT_neg (by omega), show x.toNat = 6 by omega]
    unfold gAll
    generalize it (mx cv) 17 6 = h6
    rw [hm_j (by decide), wdI_ok (by omega), hm_mix]
    simp only [bind_some']
    rw [hm_j (by decide), wdI_ok (by omega), hm_mix]
    simp only [bind_some']
    rw [hm_j (by decide), wdI_ok (by omega), hm_mix]
    simp only [bind_some']
    rw [hm_j (by decide), wdI_ok (by omega), hm_mix]
    simp only [bind_some']
    rw [digM4 hI]
    simp only [bind_some']
    rw [digM2 hI]
    rfl
theorem e_digest : ca_43 Inv := by
  intro C M hI
  have hcv : ∀ i : Nat, ∃ v : Int, i < 6 → pX5_count C (i : Int) = some v ∧ 0 ≤ v ∧ v ≤ 6 := by
    intro i
    by_cases hi : i < 6
    · obtain ⟨v, a, -, b⟩ := count_both hI (x1 := (i : Int)) (by omega)
      exact ⟨v, fun _ => ⟨a, b⟩⟩
    · exact ⟨0, fun h => absurd h hi⟩
  have h2 : ∀ i : Nat, i < 6 → pX5_count C (i : Int) = some (Classical.choose (hcv i)) ∧ 0 ≤ Classical.choose (hcv i) ∧ Classical.choose (hcv i) ≤ 6 := fun i hi => Classical.choose_spec (hcv i) hi
  exact ⟨_, _, digC hI (cv := fun i => Classical.choose (hcv i)) h2, digM hI (cv := fun i => Classical.choose (hcv i)) h2, Inv_hm hI⟩
