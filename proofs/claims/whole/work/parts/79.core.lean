/-! the core, the model's side: the search -/
def Good (M : St) (A B : Int) : Prop := (1 ≤ B ∧ B ≤ 17262720000) ∧ (-30000000000000 ≤ A ∧ A ≤ 30000000000000) ∧ (∀ z, hF M 4 ≤ z → (A ≤ z * B ↔ SS M z ≤ due M)) ∧ ∀ z, hF M 4 ≤ z → z * B < A → A ≤ (z + 1) * B → A * rs M z = B * pt M z
theorem good_ok {T M : St} (h : TM T M) {x y c : Int} (hx : -400 ≤ x ∧ x ≤ 1300) (hc : Com M x 4 c) (hn : NB M x 4 0 y) (hact : ∃ p, p < 4 ∧ act M x p) (hlt : SS M x < due M) (hfl : y = x ∨ less M x c ≤ (x - y) * slp M x c) : Good M (x * slp M x c - less M x c) (slp M x c) := by
  have hx' : -2000 ≤ x ∧ x ≤ 2000 := by omega
  have hline := fun z hz hz2 => SS_line h hx' hc hn (z := z) hz hz2
  have hb := slp_b h hx' hc
  have hB := hb.2.2 hact
  have hc1 := hc.1
  have hD : c * due M = 232792560 * (less M x c + sm (pu M x c) 4) := by unfold due less; grind
  have hyx := hn.1
  generalize sm (pu M x c) 4 = P at *
  generalize slp M x c = B at *
  generalize less M x c = L at *
  have hcl : c * SS M x < c * due M := Int.mul_lt_mul_of_pos_left hlt (by omega)
  have hL : 0 < L := by
    have e := hline x (Int.le_refl x) (by omega)
    rw [Int.sub_self, Int.zero_mul] at e
    omega
  have m1 : -400 * B ≤ x * B := Int.mul_le_mul_of_nonneg_right hx.1 (by omega)
  have m2 : x * B ≤ 1300 * B := Int.mul_le_mul_of_nonneg_right hx.2 (by omega)
  refine ⟨by omega, by omega, fun z hz => ?_, fun z hz h1 h2 => ?_⟩
  · by_cases hzx : x ≤ z
    · have a1 := SS_anti h hzx
      have a2 : x * B ≤ z * B := Int.mul_le_mul_of_nonneg_right hzx (by omega)
      constructor <;> intro _ <;> omega
    · by_cases hyz : y = x ∨ y ≤ z
      · have e := hline z (by omega) hyz
        rw [Int.sub_mul] at e
        have i1 : SS M z ≤ due M ↔ c * SS M z ≤ c * due M := (Int.mul_le_mul_left (by omega)).symm
        rw [i1]
        constructor <;> intro _ <;> omega
      · have e := hline y hn.1 (Or.inr (Int.le_refl y))
        rw [Int.sub_mul] at e hfl
        obtain ⟨p, hp, ha⟩ := hact
        have a1 := SS_lt h (y := z) (z := y) (by omega) ⟨p, hp, ha.1, by have := ha.2; omega⟩
        have a2 : z * B < y * B := Int.mul_lt_mul_of_pos_right (by omega) (by omega)
        have a3 : c * due M ≤ c * SS M y := by omega
        have a4 : due M ≤ SS M y := Int.le_of_mul_le_mul_left a3 (by omega)
        constructor <;> intro _ <;> omega
  · have hzx : z < x := by
      have : z * B < x * B := by omega
      exact Int.lt_of_mul_lt_mul_right this (by omega)
    have e0 : (z + 1) * B = z * B + B := by rw [Int.add_mul, Int.one_mul]
    have ept : pt M z = (z + 1) * rs M z - (due M - SS M (z + 1)) := rfl
    have ers : rs M z = SS M z - SS M (z + 1) := rfl
    by_cases hyz : y = x ∨ y ≤ z
    · have e1 := hline z (by omega) hyz
      have e2 := hline (z + 1) (by omega) (by omega)
      have r1 : c * rs M z = 232792560 * B := by rw [ers, Int.mul_sub, e1, e2]; grind
      have r2 : c * (due M - SS M (z + 1)) = 232792560 * (L - (x - (z + 1)) * B) := by rw [Int.mul_sub, hD, e2]; grind
      apply Int.eq_of_mul_eq_mul_left (a := c) (by omega)
      rw [show c * ((x * B - L) * rs M z) = (x * B - L) * (c * rs M z) by grind, r1, ept, show c * (B * ((z + 1) * rs M z - (due M - SS M (z + 1)))) = B * ((z + 1) * (c * rs M z) - c * (due M - SS M (z + 1))) by grind, r1, r2]
      grind
    · have e := hline y hn.1 (Or.inr (Int.le_refl y))
      rw [Int.sub_mul] at e hfl
      have a0 : (z + 1) * B ≤ y * B := Int.mul_le_mul_of_nonneg_right (by omega) (by omega)
      have a1 : x * B - L = (z + 1) * B := by omega
      have a2 : y ≤ z + 1 := by
        have : y * B ≤ (z + 1) * B := by omega
        exact Int.le_of_mul_le_mul_right this (by omega)
      have a3 : y = z + 1 := by omega
      subst a3
      have a4 : c * SS M (z + 1) = c * due M := by omega
      have a5 := Int.eq_of_mul_eq_mul_left (by omega) a4
      rw [a1, ept, a5, Int.sub_self, Int.sub_zero]
      grind
theorem good_top {T M : St} (h : TM T M) {t fl : Int} (ht : HiR M 1 1 4 t fl) (hq : M 0 34 = 0 ∨ ∀ p, p < 4 → ¬ 1 ≤ M 18 p) : Good M t 1 := by
  have hb := hF_b h 4 (by omega)
  have hdue := due_b h
  have htb : -300 ≤ t ∧ t ≤ 1300 := by
    rcases ht with ⟨-, h2, -⟩ | ⟨-, ⟨p, hp, -, h2⟩, -⟩
    · omega
    · obtain ⟨-, -, -, k4, -, -⟩ := h.1 p hp
      omega
  have hup : ∀ z, hF M 4 ≤ z → (∀ p, p < 4 → 1 ≤ M 18 p → tp M p ≤ z) → t ≤ z := by
    intro z hz hr
    rcases ht with ⟨-, h2, -⟩ | ⟨-, ⟨p, hp, hs, h2⟩, -⟩
    · omega
    · rcases hs with hs | hs
      · have := hb.2.2.1 p hp hs.1; omega
      · have := hr p hp hs.1; omega
  have hdn : ∀ z, t ≤ z → ∀ p, p < 4 → 1 ≤ M 18 p → tp M p ≤ z := by
    intro z hz p hp hr
    rcases ht with ⟨-, -, h3⟩ | ⟨-, -, h3⟩
    · exact absurd (Or.inr ⟨hr, rfl⟩) (h3 p hp)
    · have := h3 p hp (Or.inr ⟨hr, rfl⟩); omega
  have hi : ∀ z, hF M 4 ≤ z → (t ≤ z ↔ SS M z ≤ due M) := by
    intro z hz
    rcases hq with hq | hq
    · have hd0 : due M = 0 := by unfold due; rw [hq]; rfl
      rw [hd0]
      constructor
      · intro a
        rw [SS_top (hdn z a)]; omega
      · intro a
        refine hup z hz (fun p hp hr => ?_)
        rcases Int.lt_or_le z (tp M p) with h1 | h1
        · have := (SS_step h z).2 ⟨p, hp, hr, h1⟩
          have := (SS_b h (z := z + 1) (by omega)).1
          omega
        · exact h1
    · have e : SS M z = 0 := SS_top (fun p hp hr => absurd hr (hq p hp))
      rw [e]
      exact ⟨fun _ => hdue.1, fun _ => hup z hz (fun p hp hr => absurd hr (hq p hp))⟩
  refine ⟨by omega, by omega, fun z hz => by rw [Int.mul_one]; exact hi z hz, fun z hz h1 h2 => ?_⟩
  rw [Int.mul_one] at h1 h2
  have et : t = z + 1 := by omega
  have i1 := hi z hz
  have i2 := hi (z + 1) (by omega)
  have hS : due M - SS M (z + 1) = 0 := by
    rcases hq with hq | hq
    · have hd0 : due M = 0 := by unfold due; rw [hq]; rfl
      have := (SS_b h (z := z + 1) (by omega)).1
      have := i2.1 (by omega)
      omega
    · have e : SS M z = 0 := SS_top (fun p hp hr => absurd hr (hq p hp))
      have := i1.2 (by omega)
      omega
  unfold pt
  rw [hS, et]; grind
theorem rest_loop {T M S : St} (h : TM T M) (hS : ∀ q, q ≠ 0 → S q = M q) (hS0 : ∀ j, j < 38 → S 0 j = M 0 j) (hS1 : ∀ j, 41 < j → S 0 j = M 0 j) {x y pa ip : Int} (hx : -300 ≤ x ∧ x ≤ 1300) (hn : NB M x 4 0 y) (hact : ∃ p, p < 4 ∧ act M x p) (hlt : SS M x < due M) : ∃ S' : St, lo3 (pX6_layRest_64B pa ip) FU S x y = pX6_layRest_90 S' pa ip ∧ (∀ q, q ≠ 0 → S' q = M q) ∧ (∀ j, j < 38 → S' 0 j = M 0 j) ∧ (∀ j, 41 < j → S' 0 j = M 0 j) ∧ Good M (S' 0 38) (S' 0 39) := by
  refine lo3_spec (fun o => ∃ S' : St, o = pX6_layRest_90 S' pa ip ∧ (∀ q, q ≠ 0 → S' q = M q) ∧ (∀ j, j < 38 → S' 0 j = M 0 j) ∧ (∀ j, 41 < j → S' 0 j = M 0 j) ∧ Good M (S' 0 38) (S' 0 39)) (fun (S : St) (x y : Int) => (∀ q, q ≠ 0 → S q = M q) ∧ (∀ j, j < 38 → S 0 j = M 0 j) ∧ (∀ j, 41 < j → S 0 j = M 0 j) ∧ (-320 ≤ x ∧ x ≤ 1300) ∧ NB M x 4 0 y ∧ (∃ p, p < 4 ∧ act M x p) ∧ SS M x < due M) (fun _ x _ => (x + 320).toNat) ?_ FU S x y ⟨hS, hS0, hS1, by omega, hn, hact, hlt⟩ (by have := FU_big; omega)
  rintro f S x y ⟨hS, hS0, hS1, hx, hn, hact, hlt⟩ hf
  have hyl : -320 ≤ y := by have := hn.2.1; omega
  have hyx := hn.1
  unfold pX6_layRest_64B
  obtain ⟨c, hc, ec⟩ := rest_com h hS (x := x) (y := y) (by omega)
  rw [ec, rest_push h hS (hS0 34 (by decide)) (hS0 35 (by decide)) (by omega) (by omega) hc, bnd_some]
  have g1 : ∀ q, q ≠ 0 → put (put S 0 38 (x * slp M x c - less M x c)) 0 39 (slp M x c) q = M q := fun q a => by rw [put_ne a, put_ne a, hS q a]
  have g2 : ∀ j, j < 38 → put (put S 0 38 (x * slp M x c - less M x c)) 0 39 (slp M x c) 0 j = M 0 j := fun j a => by rw [put_j (by omega), put_j (by omega), hS0 j a]
  have g3 : ∀ j, 41 < j → put (put S 0 38 (x * slp M x c - less M x c)) 0 39 (slp M x c) 0 j = M 0 j := fun j a => by rw [put_j (by omega), put_j (by omega), hS1 j a]
  have g4 : put (put S 0 38 (x * slp M x c - less M x c)) 0 39 (slp M x c) 0 38 = x * slp M x c - less M x c := by rw [put_j (by decide), put_at]
  have g5 : put (put S 0 38 (x * slp M x c - less M x c)) 0 39 (slp M x c) 0 39 = slp M x c := by rw [put_at]
  generalize put (put S 0 38 (x * slp M x c - less M x c)) 0 39 (slp M x c) = S1 at *
  by_cases hfl : y = x ∨ less M x c ≤ (x - y) * slp M x c
  · rw [if_pos hfl, cEQ_neg (by omega)]
    refine ⟨S1, rfl, g1, g2, g3, ?_⟩
    rw [g4, g5]
    exact good_ok h (by omega) hc hn hact hlt hfl
  · rw [if_neg hfl, cEQ_pos (by omega)]
    obtain ⟨b, eb, hb⟩ := nextBreak_ok h g1 (x := y) (by omega)
    rw [eb, bind_some']
    have hne : y ≠ x := fun e => hfl (Or.inl e)
    have hl2 : (x - y) * slp M x c < less M x c := by
      rcases Int.lt_or_le ((x - y) * slp M x c) (less M x c) with h | h
      · exact h
      · exact absurd (Or.inr h) hfl
    obtain ⟨p, hp, ha⟩ := hact
    refine hf S1 y b ⟨g1, g2, g3, by omega, hb, ⟨p, hp, ha.1, by have := ha.2; omega⟩, ?_⟩ (by omega)
    have e := SS_line h (by omega) hc hn (z := y) hyx (Or.inr (Int.le_refl y))
    have hD : c * due M = 232792560 * (less M x c + sm (pu M x c) 4) := by unfold due less; grind
    have hc1 := hc.1
    have : c * SS M y < c * due M := by omega
    exact Int.lt_of_mul_lt_mul_left this (by omega)
