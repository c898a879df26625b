/-! parting, the model -/
theorem fr_lt {g s n w a b : Int} (h1 : g * b = 232792560 * a) (h2 : s * w = 232792560 * n) (hb : 1 ≤ b) (hw : 1 ≤ w) : a * w < n * b ↔ g < s := by
  have k : 0 < b * w := Int.mul_pos (by omega) (by omega)
  have e1 : a * w < n * b ↔ 232792560 * (a * w) < 232792560 * (n * b) := (Int.mul_lt_mul_left (by decide)).symm
  have e2 : g < s ↔ (b * w) * g < (b * w) * s := (Int.mul_lt_mul_left k).symm
  rw [e1, e2, show 232792560 * (a * w) = (b * w) * g by rw [show (b * w) * g = (g * b) * w by grind, h1]; grind, show 232792560 * (n * b) = (b * w) * s by rw [show (b * w) * s = (s * w) * b by grind, h2]; grind]
def FarM (M S : St) : Prop := (∀ q, q ≠ 0 → S q = M q) ∧ ∀ j, j < 24 ∨ (26 ≤ j ∧ j < 47) → S 0 j = M 0 j
theorem layFar_ok {C M S : St} (hI : Inv C M) (hS : FarM M S) {v : Nat} (hv : v < 64) (hA : AT M v) (hne : ∃ s, s < 6 ∧ v.testBit s = true) {u : Int} (hu : 1 ≤ u ∧ u ≤ 20) : ∃ M' : St, pX6_layFar S (v : Int) u = some M' ∧ FarM M M' ∧ (mxF M v u 6 - mnF M v u 6) * M' 0 48 = 232792560 * M' 0 47 ∧ (1 ≤ M' 0 48 ∧ M' 0 48 ≤ 400) ∧ (-16000000 ≤ M' 0 47 ∧ M' 0 47 ≤ 16000000) := by
  unfold pX6_layFar
  refine lo6_spec (fun o => ∃ M' : St, o = some M' ∧ FarM M M' ∧ (mxF M v u 6 - mnF M v u 6) * M' 0 48 = 232792560 * M' 0 47 ∧ (1 ≤ M' 0 48 ∧ M' 0 48 ≤ 400) ∧ (-16000000 ≤ M' 0 47 ∧ M' 0 47 ≤ 16000000)) (fun (R : St) (a b c d y : Int) => ∃ s : Nat, y = s ∧ s ≤ 6 ∧ FarM M R ∧ (((¬ ∃ s', s' < s ∧ v.testBit s' = true) ∧ a = 0 ∧ b = 0 ∧ c = 0 ∧ d = 0 ∧ mxF M v u s = 0 ∧ mnF M v u s = 232792560000000000) ∨ (mxF M v u s * b = 232792560 * a ∧ mnF M v u s * d = 232792560 * c ∧ (1 ≤ b ∧ b ≤ 20) ∧ (1 ≤ d ∧ d ≤ 20) ∧ (0 ≤ a ∧ a ≤ 39960) ∧ (0 ≤ c ∧ c ≤ 39960)))) (fun y => (6 - y).toNat) ?_ FU S 0 0 0 0 0 ⟨0, rfl, by omega, hS, Or.inl ⟨fun ⟨s', a, _⟩ => by omega, rfl, rfl, rfl, rfl, rfl, rfl⟩⟩ (by have := FU_big; omega)
  rintro f R a b c d y ⟨s, rfl, hs, hR, hc⟩ hf
  unfold pX6_layFar_14B pX6_layFar_63 pX6_layFar_74 pX6_layFar_99 pX6_layFar_111
  by_cases e : s = 6
  · subst e
    rw [cLT_neg (by omega)]
    rcases hc with ⟨c1, -⟩ | ⟨c1, c2, c3, c4, c5, c6⟩
    · exact absurd hne c1
    · simp only [setS]
      have m1 : 1 * 1 ≤ b * d := Int.mul_le_mul c3.1 c4.1 (by omega) (by omega)
      have m2 : b * d ≤ 20 * 20 := Int.mul_le_mul c3.2 c4.2 (by omega) (by omega)
      have m3 : 0 ≤ a * d := Int.mul_nonneg c5.1 (by omega)
      have m4 : a * d ≤ 39960 * 20 := Int.mul_le_mul c5.2 c4.2 (by omega) (by omega)
      have m5 : 0 ≤ c * b := Int.mul_nonneg c6.1 (by omega)
      have m6 : c * b ≤ 39960 * 20 := Int.mul_le_mul c6.2 c3.2 (by omega) (by omega)
      have p48 : put (put R 0 47 (a * d - c * b)) 0 48 (b * d) 0 48 = b * d := put_at
      have p47 : put (put R 0 47 (a * d - c * b)) 0 48 (b * d) 0 47 = a * d - c * b := by rw [put_j (by decide), put_at]
      refine ⟨_, rfl, ⟨fun q h => by rw [put_ne h, put_ne h, hR.1 q h], fun j h => by rw [put_j (by omega), put_j (by omega), hR.2 j h]⟩, ?_, by rw [p48]; omega, by rw [p47]; omega⟩
      rw [p48, p47, Int.sub_mul, show mxF M v u 6 * (b * d) = (mxF M v u 6 * b) * d by grind, show mnF M v u 6 * (b * d) = (mnF M v u 6 * d) * b by grind, c1, c2]
      grind
  · have hs6 : s < 6 := by omega
    have hm1 : mxF M v u (s + 1) = if v.testBit s = true then max (mxF M v u s) (sP M s u) else mxF M v u s := rfl
    have hm2 : mnF M v u (s + 1) = if v.testBit s = true then min (mnF M v u s) (sP M s u) else mnF M v u s := rfl
    have hmb := mF_b hI hA (u := u) (by omega) s hs
    rw [cLT_pos (by omega), (has_all v hv s hs6).1, bind_some']
    simp only [setS]
    by_cases hq : v.testBit s = true
    · rw [if_pos hq] at hm1 hm2
      obtain ⟨hd, h8, h0⟩ := stf_all hI hs6 (hA s hs6 hq)
      have hsb := sP_20 hd h0 (u := u) (by omega)
      have hdR : StfD C R s := hd.cg (fun _ _ _ _ => rfl) (fun q h _ => hR.1 q h)
      obtain ⟨n, w, G, M3, g1, g2, g3, g4, g5, g6, g7, g8, g9, g10, g11, g12, g13⟩ := push_both hs6 hdR (by rw [hR.1 8 (by decide)]; exact h8) (by rw [hR.1 9 (by decide), hR.1 10 (by decide)]; exact h0) (x := u) (by omega)
      have hsp : sP M s u = G * n := by
        have := sP_scaled hs6 hd h8 h0 (x := u) (by omega)
        rw [g1] at this
        exact (Option.some.inj this).symm
      have hsw : sP M s u * w = 232792560 * n := by rw [hsp, ← g13]; grind
      have hF3 : FarM M M3 := ⟨fun q h => by rw [g5 q h, hR.1 q h], fun j h => by rw [g6 j (by omega) (by omega), hR.2 j h]⟩
      rw [if_pos hq, cEQ_neg (by omega), wdI_ok (by omega), g2, bind_some', g3, g4]
      have hgo : ∀ a' b' c' d' : Int, mxF M v u (s + 1) * b' = 232792560 * a' → mnF M v u (s + 1) * d' = 232792560 * c' → (1 ≤ b' ∧ b' ≤ 20) → (1 ≤ d' ∧ d' ≤ 20) → (0 ≤ a' ∧ a' ≤ 39960) → (0 ≤ c' ∧ c' ≤ 39960) → ∃ M' : St, f M3 a' b' c' d' ((s : Int) + 1) = some M' ∧ FarM M M' ∧ (mxF M v u 6 - mnF M v u 6) * M' 0 48 = 232792560 * M' 0 47 ∧ (1 ≤ M' 0 48 ∧ M' 0 48 ≤ 400) ∧ (-16000000 ≤ M' 0 47 ∧ M' 0 47 ≤ 16000000) := fun a' b' c' d' i1 i2 i3 i4 i5 i6 => hf M3 a' b' c' d' _ ⟨s + 1, by omega, by omega, hF3, Or.inr ⟨i1, i2, i3, i4, i5, i6⟩⟩ (by omega)
      rcases hc with ⟨c1, rfl, rfl, rfl, rfl, c6, c7⟩ | ⟨c1, c2, c3, c4, c5, c6⟩
      · have x1 : mxF M v u (s + 1) = sP M s u := by rw [hm1]; omega
        have x2 : mnF M v u (s + 1) = sP M s u := by rw [hm2]; omega
        rw [lEQ_pos (by omega), lEQ_pos (by omega)]
        exact hgo n w n w (by rw [x1]; exact hsw) (by rw [x2]; exact hsw) (by omega) (by omega) (by omega) (by omega)
      · have m1 : 0 ≤ a * w := Int.mul_nonneg c5.1 (by omega)
        have m2 : a * w ≤ 39960 * 20 := Int.mul_le_mul c5.2 g10 (by omega) (by omega)
        have m3 : 0 ≤ n * b := Int.mul_nonneg g7 (by omega)
        have m4 : n * b ≤ 39960 * 20 := Int.mul_le_mul g8 c3.2 (by omega) (by omega)
        have m5 : 0 ≤ n * d := Int.mul_nonneg g7 (by omega)
        have m6 : n * d ≤ 39960 * 20 := Int.mul_le_mul g8 c4.2 (by omega) (by omega)
        have m7 : 0 ≤ c * w := Int.mul_nonneg c6.1 (by omega)
        have m8 : c * w ≤ 39960 * 20 := Int.mul_le_mul c6.2 g10 (by omega) (by omega)
        have l1 := fr_lt (g := mxF M v u s) (s := sP M s u) c1 hsw c3.1 g9
        have l2 := fr_lt (g := sP M s u) (s := mnF M v u s) hsw c2 g9 c4.1
        rw [lEQ_neg (x := b) (y := 0) (by omega)]
        by_cases t1 : a * w < n * b
        · have x1 : mxF M v u (s + 1) = sP M s u := by rw [hm1]; have := l1.1 t1; omega
          rw [lLT_pos (x := a * w) (y := n * b) (by omega), lEQ_neg (x := d) (y := 0) (by omega)]
          by_cases t2 : n * d < c * w
          · have x2 : mnF M v u (s + 1) = sP M s u := by rw [hm2]; have := l2.1 t2; omega
            rw [lLT_pos (by omega)]
            exact hgo n w n w (by rw [x1]; exact hsw) (by rw [x2]; exact hsw) (by omega) (by omega) (by omega) (by omega)
          · have x2 : mnF M v u (s + 1) = mnF M v u s := by
              rw [hm2]
              have : ¬ sP M s u < mnF M v u s := fun z => t2 (l2.2 z)
              omega
            rw [lLT_neg (by omega)]
            exact hgo n w c d (by rw [x1]; exact hsw) (by rw [x2]; exact c2) (by omega) (by omega) (by omega) (by omega)
        · have x1 : mxF M v u (s + 1) = mxF M v u s := by
            rw [hm1]
            have : ¬ mxF M v u s < sP M s u := fun z => t1 (l1.2 z)
            omega
          rw [lLT_neg (x := a * w) (y := n * b) (by omega), lEQ_neg (x := d) (y := 0) (by omega)]
          by_cases t2 : n * d < c * w
          · have x2 : mnF M v u (s + 1) = sP M s u := by rw [hm2]; have := l2.1 t2; omega
            rw [lLT_pos (by omega)]
            exact hgo a b n w (by rw [x1]; exact c1) (by rw [x2]; exact hsw) (by omega) (by omega) (by omega) (by omega)
          · have x2 : mnF M v u (s + 1) = mnF M v u s := by
              rw [hm2]
              have : ¬ sP M s u < mnF M v u s := fun z => t2 (l2.2 z)
              omega
            rw [lLT_neg (by omega)]
            exact hgo a b c d (by rw [x1]; exact c1) (by rw [x2]; exact c2) (by omega) (by omega) (by omega) (by omega)
    · rw [if_neg hq] at hm1 hm2
      rw [if_neg hq, cEQ_pos (by omega)]
      refine hf R a b c d _ ⟨s + 1, by omega, by omega, hR, ?_⟩ (by omega)
      rw [hm1, hm2]
      rcases hc with ⟨c1, c2⟩ | hc
      · refine Or.inl ⟨fun ⟨s', i1, i2⟩ => c1 ⟨s', ?_, i2⟩, c2⟩
        by_cases es : s' = s
        · subst es; exact absurd i2 hq
        · omega
      · exact Or.inr hc
theorem lo35_rel {A A1 A2 B B1 B2 B3 B4 ρ ρ' : Type} {F : (A → A1 → A2 → Option ρ) → A → A1 → A2 → Option ρ} {G : (B → B1 → B2 → B3 → B4 → Option ρ') → B → B1 → B2 → B3 → B4 → Option ρ'} (Q : Option ρ → Option ρ' → Prop) (I : A → A1 → A2 → B → B1 → B2 → B3 → B4 → Prop) (μ : A2 → Nat) (h : ∀ k k' a a1 a2 x x1 x2 x3 x4, I a a1 a2 x x1 x2 x3 x4 → (∀ a' a1' a2' y y1 y2 y3 y4, I a' a1' a2' y y1 y2 y3 y4 → μ a2' < μ a2 → Q (k a' a1' a2') (k' y y1 y2 y3 y4)) → Q (F k a a1 a2) (G k' x x1 x2 x3 x4)) : ∀ n a a1 a2 x x1 x2 x3 x4, I a a1 a2 x x1 x2 x3 x4 → μ a2 < n → Q (lo3 F n a a1 a2) (lo5 G n x x1 x2 x3 x4)
  | 0, _, _, _, _, _, _, _, _, _, hm => by omega
  | n + 1, a, a1, a2, x, x1, x2, x3, x4, hI, hm => h (lo3 F n) (lo5 G n) a a1 a2 x x1 x2 x3 x4 hI (fun a' a1' a2' y y1 y2 y3 y4 hI' hm' => lo35_rel Q I μ h n a' a1' a2' y y1 y2 y3 y4 hI' (by omega))
theorem part_loop {C M : St} (hI : Inv C M) {v : Nat} (hv : v < 64) (hA : AT M v) (hne : ∃ s, s < 6 ∧ v.testBit s = true) : agWW Inv (lo3 (pX5_parting_40B C (v : Int)) FU 1 (-1) 1) (lo5 (pX6_parting_46B (v : Int)) FU M 0 (-1) 1 1) := by
  refine lo35_rel (agWW Inv) (fun (x2 x3 x5 : Int) (S : St) (be up lo y : Int) => (1 ≤ x5 ∧ x5 ≤ 21) ∧ y = x5 ∧ FarM M S ∧ ((x5 = 1 ∧ x3 = -1 ∧ up = -1 ∧ lo = 1) ∨ (x2 = be ∧ x3 * lo = 232792560 * up ∧ (1 ≤ lo ∧ lo ≤ 400) ∧ (0 ≤ x3 ∧ x3 ≤ 9302390697600) ∧ (-16000000 ≤ up ∧ up ≤ 16000000)))) (fun y => (21 - y).toNat) ?_ FU 1 (-1) 1 M 0 (-1) 1 1 ⟨by omega, rfl, ⟨fun _ _ => rfl, fun _ _ => rfl⟩, Or.inl ⟨rfl, rfl, rfl, rfl⟩⟩ (by have := FU_big; omega)
  rintro k k' x2 x3 x5 S be up lo y ⟨h1, rfl, hF, hc⟩ hf
  unfold pX5_parting_40B pX5_parting_69 pX6_parting_46B pX6_parting_91
  by_cases e : y = 21
  · subst e
    rw [cLT_pos (x := 20) (y := 21) (by omega), cLT_pos (x := 20) (y := 21) (by omega)]
    rcases hc with hc | ⟨rfl, c2, c3, c4, c5⟩
    · omega
    · have hup : 0 ≤ up := by
        have : 0 ≤ x3 * lo := Int.mul_nonneg c4.1 (by omega)
        omega
      have hd := div_cross (x := x3) (b := 232792560) (x' := up) (b' := lo) (by rw [c2, Int.mul_comm]) (by decide) c3.1
      unfold pX6_tells
      rw [dvL_ok (by omega), dvL_ok (by omega), Int.tdiv_eq_ediv_of_nonneg c4.1, Int.tdiv_eq_ediv_of_nonneg hup, hd]
      simp only [setS, bnd_some]
      exact ⟨_, _, _, rfl, rfl, Inv_asked (hI.scr hF.1 (fun j a => hF.2 j (by omega))) _⟩
  · obtain ⟨M', f1, f2, f3, f4, f5⟩ := layFar_ok hI hF hv hA hne (u := y) (by omega)
    have hmb := mF_b hI hA (u := y) (by omega) 6 (by omega)
    have hle := hmb.2.2 hne
    rw [cLT_neg (x := 20) (y := y) (by omega), cLT_neg (x := 20) (y := y) (by omega), spread_ok hI hv hA (by omega), bind_some', f1, bind_some']
    simp only [setS]
    have hg : 0 ≤ mxF M v y 6 - mnF M v y 6 ∧ mxF M v y 6 - mnF M v y 6 ≤ 9302390697600 := by omega
    generalize mxF M v y 6 - mnF M v y 6 = g at *
    have h47 : 0 ≤ M' 0 47 := by
      have : 0 ≤ g * M' 0 48 := Int.mul_nonneg hg.1 (by omega)
      omega
    have htake := hf y g (y + 1) M' y (M' 0 47) (M' 0 48) (y + 1) ⟨by omega, rfl, f2, Or.inr ⟨rfl, f3, f4, hg, by omega⟩⟩ (by omega)
    rcases hc with ⟨c1, rfl, rfl, rfl⟩ | ⟨rfl, c2, c3, c4, c5⟩
    · rw [lLT_pos (x := -1) (y := g) (by omega), lLT_pos (by omega)]
      exact htake
    · have hup : 0 ≤ up := by
        have : 0 ≤ x3 * lo := Int.mul_nonneg c4.1 (by omega)
        omega
      have m1 : 0 ≤ up * M' 0 48 := Int.mul_nonneg hup (by omega)
      have m2 : up * M' 0 48 ≤ 16000000 * 400 := Int.mul_le_mul c5.2 f4.2 (by omega) (by omega)
      have m3 : 0 ≤ M' 0 47 * lo := Int.mul_nonneg h47 (by omega)
      have m4 : M' 0 47 * lo ≤ 16000000 * 400 := Int.mul_le_mul f5.2 c3.2 (by omega) (by omega)
      have hl := fr_lt c2 f3 c3.1 f4.1
      by_cases t : up * M' 0 48 < M' 0 47 * lo
      · have := hl.1 t
        rw [lLT_pos (x := x3) (y := g) (by omega), lLT_pos (by omega)]
        exact htake
      · have t' : ¬ x3 < g := fun z => t (hl.2 z)
        rw [lLT_neg (x := x3) (y := g) (by omega), lLT_neg (by omega)]
        exact hf x2 x3 (y + 1) M' x2 up lo (y + 1) ⟨by omega, rfl, f2, Or.inr ⟨rfl, c2, c3, c4, c5⟩⟩ (by omega)
theorem bc_ne : ∀ v : Nat, v < 64 → 2 ≤ bc v → ∃ s, s < 6 ∧ v.testBit s = true := by decide +kernel
theorem e_parting : ca_32 Inv := by
  intro C M x1 hI hx1
  unfold in32 at hx1
  unfold pX5_parting pX6_parting pX5_isSet
  by_cases h : 1 ≤ x1 ∧ x1 ≤ 63
  · obtain ⟨v, rfl⟩ := Int.eq_ofNat_of_zero_le (show 0 ≤ x1 by omega)
    have hv : v < 64 := by omega
    obtain ⟨b1, b2, b3, b4⟩ := bits_all v hv
    rw [within_t (by omega), in_t (by omega), bind_some', isB_ok (by omega), bind_some', bind_some', cEQ_neg (by omega), cEQ_neg (by omega), b1, b2, bind_some', bind_some']
    by_cases h2 : bc v < 2
    · rw [cLT_pos (by omega), cLT_pos (by omega)]
      exact ag_same hI
    · rw [cLT_neg (by omega), cLT_neg (by omega)]
      rcases lacks_ok hI hv with ⟨c1, c2, c3⟩ | ⟨c1, c2⟩
      · rw [c1, c2, bind_some', bind_some', cEQ_pos (by omega), cEQ_neg (by omega)]
        exact part_loop hI hv c3 (bc_ne v hv (by omega))
      · rw [c1, c2, bind_some', bind_some', cEQ_neg (by omega), cEQ_pos (by omega), found1, meets1, bnd_some, bnd_some]
        exact ag_fd hI (by decide)
  · rw [in_f (by omega), bind_some', cEQ_pos (x := 0) (y := 0) (by omega)]
    by_cases h0 : x1 = 0
    · subst h0
      rw [within_t (by omega), bind_some', isB_ok (by omega), bind_some', cEQ_neg (by omega)]
      have b1 := (bits_all 0 (by decide)).1
      have b0 : bc 0 = 0 := by decide
      rw [b0] at b1
      rw [show (0 : Int) = ((0 : Nat) : Int) from rfl, b1, bind_some', cLT_pos (by omega)]
      exact ag_same hI
    · rw [within_f (by omega), bind_some', isB_ok (by omega), bind_some', cEQ_pos (by omega)]
      exact ag_same hI
