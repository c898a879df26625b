/-! strip: one stuff against the row's pairs -/
def KP (C : St) (s : Nat) (tol x y : Int) : Prop := ∃ v : Int, pX3_scaledPush C (43 + 3 * s) x = some v ∧ -(tol * 232792560) ≤ v - y * 232792560 ∧ v - y * 232792560 ≤ tol * 232792560
theorem absL_ok {x : Int} (h : -9223372036854775808 ≤ x ∧ x ≤ 9223372036854775807) : pJ9_abs_067f4 x = some (if x < 0 then -x else x) := by
  unfold pJ9_abs_067f4; rw [if_pos ⟨by omega, by omega⟩]
theorem fits_ok {C M : St} {s q m : Nat} {f : Nat → Int} {tol : Int} (hs : s < 6) (hd : StfD C M s) (h8 : C (43 + 3 * s) 2 = M 8 s) (h0 : M 9 (5 * s) = 0 ∧ M 10 (5 * s) = 0) (ht : 0 ≤ tol ∧ tol ≤ 99) (hm : C q 1 = 2 * (m : Int)) (hm2 : m ≤ 20) (hrl : rlen q = 40) (hf : ∀ i, i < 2 * m → C (q + 1) i = f i) (hv : ∀ i, i < m → (0 ≤ f (2 * i) ∧ f (2 * i) ≤ 20) ∧ 0 ≤ f (2 * i + 1) ∧ f (2 * i + 1) ≤ 9999) : (pX3_fits C (43 + 3 * s) q tol = some 1 ∧ ∀ i, i < m → KP C s tol (f (2 * i)) (f (2 * i + 1))) ∨ (pX3_fits C (43 + 3 * s) q tol = some 0 ∧ ¬ ∀ i, i < m → KP C s tol (f (2 * i)) (f (2 * i + 1))) := by
  unfold pX3_fits
  refine lo1_spec (fun o => (o = some 1 ∧ ∀ i, i < m → KP C s tol (f (2 * i)) (f (2 * i + 1))) ∨ (o = some 0 ∧ ¬ ∀ i, i < m → KP C s tol (f (2 * i)) (f (2 * i + 1)))) (fun (x : Int) => ∃ j : Nat, x = 2 * (j : Int) ∧ j ≤ m ∧ ∀ i, i < j → KP C s tol (f (2 * i)) (f (2 * i + 1))) (fun x => (2 * (m : Int) - x).toNat) ?_ FU 0 ⟨0, rfl, by omega, fun i hi => by omega⟩ (by have := FU_big; omega)
  rintro k x ⟨j, rfl, hj, ha⟩ hk
  unfold pX3_fits_2B
  rw [hm]
  by_cases hlt : j < m
  · obtain ⟨hx, hy⟩ := hv j hlt
    obtain ⟨n, w, G, M', p1, -, -, -, -, -, p2, p3, p4, p5, p6, p7, p8⟩ := push_both hs hd h8 h0 hx
    have e1 : (2 * (j : Int)).toNat = 2 * j := by omega
    have e2 : (2 * (j : Int) + 1).toNat = 2 * j + 1 := by omega
    have b1 : 0 ≤ G * n := Int.mul_nonneg (by omega) p2
    have b2 : G * n ≤ 232792560 * 39960 := Int.mul_le_mul p7 p3 p2 (by omega)
    simp (disch := omega) only [cLT_pos, ldI_ok, hrl, e1, e2, hf, p1, bind_some', wdI_ok, setS, absL_ok]
    have hKP : KP C s tol (f (2 * j)) (f (2 * j + 1)) ↔ (-(tol * 232792560) ≤ G * n - f (2 * j + 1) * 232792560 ∧ G * n - f (2 * j + 1) * 232792560 ≤ tol * 232792560) := by
      constructor
      · rintro ⟨v, v1, v2⟩
        rw [p1] at v1
        injection v1 with v1
        rw [v1]; exact v2
      · intro h; exact ⟨_, p1, h⟩
    have bad : ¬ (-(tol * 232792560) ≤ G * n - f (2 * j + 1) * 232792560 ∧ G * n - f (2 * j + 1) * 232792560 ≤ tol * 232792560) → ¬ ∀ i, i < m → KP C s tol (f (2 * i)) (f (2 * i + 1)) := fun h h' => h (hKP.1 (h' j hlt))
    have hdb : -9223372036854775807 ≤ G * n - f (2 * j + 1) * 232792560 ∧ G * n - f (2 * j + 1) * 232792560 ≤ 9223372036854775807 := by omega
    generalize G * n - f (2 * j + 1) * 232792560 = d at *
    by_cases hok : -(tol * 232792560) ≤ d ∧ d ≤ tol * 232792560
    · have : lLT (tol * 232792560) (if d < 0 then -d else d) (some 0) (k (2 * (j : Int) + 2)) = k (2 * (j : Int) + 2) := by
        split <;> rw [lLT_neg (by omega)]
      rw [this]
      refine hk _ ⟨j + 1, by omega, by omega, fun i hi => ?_⟩ (by omega)
      by_cases e : i = j
      · rw [e]; exact hKP.2 hok
      · exact ha i (by omega)
    · have : lLT (tol * 232792560) (if d < 0 then -d else d) (some 0) (k (2 * (j : Int) + 2)) = some 0 := by
        split <;> rw [lLT_pos (by omega)]
      rw [this]
      exact Or.inr ⟨rfl, bad hok⟩
  · rw [cLT_neg (by omega)]
    exact Or.inl ⟨rfl, fun i hi => ha i (by omega)⟩
