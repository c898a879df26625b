/-! PURE PART: what holds between the class's memory C and the model's memory M -/
theorem cLT_pos {α : Type} {x y : Int} {a b : Option α} (h : -2147483648 ≤ x ∧ x < y ∧ y ≤ 2147483647) : cLT x y a b = a := by
  unfold cLT; rw [if_pos ⟨⟨by omega, by omega⟩, ⟨by omega, by omega⟩⟩, if_pos h.2.1]
theorem cLT_neg {α : Type} {x y : Int} {a b : Option α} (h : -2147483648 ≤ y ∧ y ≤ x ∧ x ≤ 2147483647) : cLT x y a b = b := by
  unfold cLT; rw [if_pos ⟨⟨by omega, by omega⟩, ⟨by omega, by omega⟩⟩, if_neg (by omega)]
theorem cLT_if {α : Type} {x y : Int} {a b : Option α} (h : -2147483648 ≤ x ∧ x ≤ 2147483647 ∧ -2147483648 ≤ y ∧ y ≤ 2147483647) : cLT x y a b = if x < y then a else b := by
  unfold cLT; rw [if_pos ⟨⟨by omega, by omega⟩, ⟨by omega, by omega⟩⟩]
theorem cEQ_pos {α : Type} {x y : Int} {a b : Option α} (h : x = y ∧ -2147483648 ≤ y ∧ y ≤ 2147483647) : cEQ x y a b = a := by
  unfold cEQ; rw [if_pos ⟨⟨by omega, by omega⟩, ⟨by omega, by omega⟩⟩, if_pos h.1]
theorem cEQ_neg {α : Type} {x y : Int} {a b : Option α} (h : x ≠ y ∧ -2147483648 ≤ x ∧ x ≤ 2147483647 ∧ -2147483648 ≤ y ∧ y ≤ 2147483647) : cEQ x y a b = b := by
  unfold cEQ; rw [if_pos ⟨⟨by omega, by omega⟩, ⟨by omega, by omega⟩⟩, if_neg h.1]
theorem cEQ_if {α : Type} {x y : Int} {a b : Option α} (h : -2147483648 ≤ x ∧ x ≤ 2147483647 ∧ -2147483648 ≤ y ∧ y ≤ 2147483647) : cEQ x y a b = if x = y then a else b := by
  unfold cEQ; rw [if_pos ⟨⟨by omega, by omega⟩, ⟨by omega, by omega⟩⟩]
theorem lLT_pos {α : Type} {x y : Int} {a b : Option α} (h : -9223372036854775808 ≤ x ∧ x < y ∧ y ≤ 9223372036854775807) : lLT x y a b = a := by
  unfold lLT; rw [if_pos ⟨⟨by omega, by omega⟩, ⟨by omega, by omega⟩⟩, if_pos h.2.1]
theorem lLT_neg {α : Type} {x y : Int} {a b : Option α} (h : -9223372036854775808 ≤ y ∧ y ≤ x ∧ x ≤ 9223372036854775807) : lLT x y a b = b := by
  unfold lLT; rw [if_pos ⟨⟨by omega, by omega⟩, ⟨by omega, by omega⟩⟩, if_neg (by omega)]
theorem lLT_if {α : Type} {x y : Int} {a b : Option α} (h : -9223372036854775808 ≤ x ∧ x ≤ 9223372036854775807 ∧ -9223372036854775808 ≤ y ∧ y ≤ 9223372036854775807) : lLT x y a b = if x < y then a else b := by
  unfold lLT; rw [if_pos ⟨⟨by omega, by omega⟩, ⟨by omega, by omega⟩⟩]
theorem lEQ_pos {α : Type} {x y : Int} {a b : Option α} (h : x = y ∧ -9223372036854775808 ≤ y ∧ y ≤ 9223372036854775807) : lEQ x y a b = a := by
  unfold lEQ; rw [if_pos ⟨⟨by omega, by omega⟩, ⟨by omega, by omega⟩⟩, if_pos h.1]
theorem lEQ_neg {α : Type} {x y : Int} {a b : Option α} (h : x ≠ y ∧ -9223372036854775808 ≤ x ∧ x ≤ 9223372036854775807 ∧ -9223372036854775808 ≤ y ∧ y ≤ 9223372036854775807) : lEQ x y a b = b := by
  unfold lEQ; rw [if_pos ⟨⟨by omega, by omega⟩, ⟨by omega, by omega⟩⟩, if_neg h.1]
theorem ldI_ok {α : Type} {S : St} {q n : Nat} {i : Int} {k : Int → Option α} (h : 0 ≤ i ∧ i < n) : ldI S q n i k = k (S q i.toNat) := by
  unfold ldI; rw [if_pos h]
theorem stI_ok {α : Type} {S : St} {q n : Nat} {i v : Int} {k : St → Option α} (h : 0 ≤ i ∧ i < n) : stI S q n i v k = k (put S q i.toNat v) := by
  unfold stI; rw [if_pos h]
theorem ldA_ok {α : Type} {c0 d n : Nat} {i : Int} {k : Nat → Option α} (h : 0 ≤ i ∧ i < n) : ldA c0 d n i k = k (c0 + d * i.toNat) := by
  unfold ldA; rw [if_pos h]
theorem wdI_ok {α : Type} {x : Int} {k : Option α} (h : -2147483648 ≤ x ∧ x ≤ 2147483647) : wdI x k = k := by
  unfold wdI; rw [if_pos ⟨by omega, by omega⟩]
theorem isB_ok {α : Type} {x : Int} {k : Option α} (h : x = 0 ∨ x = 1) : isB x k = k := by
  unfold isB; rw [if_pos h]
theorem dvL_ok {α : Type} {x y : Int} {k : Int → Option α} (h : -9223372036854775808 ≤ x ∧ x ≤ 9223372036854775807 ∧ -9223372036854775808 ≤ y ∧ y ≤ 9223372036854775807 ∧ y ≠ 0) : dvL x y k = k (x.tdiv y) := by
  unfold dvL; rw [if_pos ⟨⟨by omega, by omega⟩, ⟨by omega, by omega⟩, h.2.2.2.2⟩]
theorem rmL_ok {α : Type} {x y : Int} {k : Int → Option α} (h : -9223372036854775808 ≤ x ∧ x ≤ 9223372036854775807 ∧ -9223372036854775808 ≤ y ∧ y ≤ 9223372036854775807 ∧ y ≠ 0) : rmL x y k = k (x.tmod y) := by
  unfold rmL; rw [if_pos ⟨⟨by omega, by omega⟩, ⟨by omega, by omega⟩, h.2.2.2.2⟩]
theorem dvI_ok {α : Type} {x y : Int} {k : Int → Option α} (h : -2147483648 ≤ x ∧ x ≤ 2147483647 ∧ -2147483648 ≤ y ∧ y ≤ 2147483647 ∧ y ≠ 0) : dvI x y k = k (x.tdiv y) := by
  unfold dvI; rw [if_pos ⟨⟨by omega, by omega⟩, ⟨by omega, by omega⟩, h.2.2.2.2⟩]
theorem rmI_ok {α : Type} {x y : Int} {k : Int → Option α} (h : -2147483648 ≤ x ∧ x ≤ 2147483647 ∧ -2147483648 ≤ y ∧ y ≤ 2147483647 ∧ y ≠ 0) : rmI x y k = k (x.tmod y) := by
  unfold rmI; rw [if_pos ⟨⟨by omega, by omega⟩, ⟨by omega, by omega⟩, h.2.2.2.2⟩]
theorem gtR_ok {α : Type} {S : St} {q j : Nat} {P : Nat → Bool} {k : Nat → Option α} (r : Nat) (h : S q j = (r : Int) + 1) (hP : P r = true) : gtR S q j P k = k r := by
  unfold gtR
  have e : (S q j - 1).toNat = r := by omega
  rw [e, if_pos ⟨by omega, hP⟩]
theorem bind_some' {α β : Type} {a : α} {f : α → Option β} : (some a).bind f = f a := rfl
theorem bnd_some {β : Type} {v : Int} {S : St} {f : Int → St → Option β} : bnd (some (v, S)) f = f v S := rfl
theorem FU_big : 2000 < FU := by decide
/-! loops: an invariant and a measure -/
theorem lo1_spec {A ρ : Type} {B : (A → Option ρ) → A → Option ρ} (Q : Option ρ → Prop) (I : A → Prop) (μ : A → Nat) (h : ∀ k a, I a → (∀ a', I a' → μ a' < μ a → Q (k a')) → Q (B k a)) : ∀ n a, I a → μ a < n → Q (lo1 B n a)
  | 0, _, _, hm => by omega
  | n + 1, a, hI, hm => h (lo1 B n) a hI (fun a' hI' hm' => lo1_spec Q I μ h n a' hI' (by omega))
theorem lo2_spec {A A' ρ : Type} {B : (A → A' → Option ρ) → A → A' → Option ρ} (Q : Option ρ → Prop) (I : A → A' → Prop) (μ : A → A' → Nat) (h : ∀ k a b, I a b → (∀ a' b', I a' b' → μ a' b' < μ a b → Q (k a' b')) → Q (B k a b)) : ∀ n a b, I a b → μ a b < n → Q (lo2 B n a b)
  | 0, _, _, _, hm => by omega
  | n + 1, a, b, hI, hm => h (lo2 B n) a b hI (fun a' b' hI' hm' => lo2_spec Q I μ h n a' b' hI' (by omega))
theorem lo3_spec {A A' A'' ρ : Type} {B : (A → A' → A'' → Option ρ) → A → A' → A'' → Option ρ} (Q : Option ρ → Prop) (I : A → A' → A'' → Prop) (μ : A → A' → A'' → Nat) (h : ∀ k a b c, I a b c → (∀ a' b' c', I a' b' c' → μ a' b' c' < μ a b c → Q (k a' b' c')) → Q (B k a b c)) : ∀ n a b c, I a b c → μ a b c < n → Q (lo3 B n a b c)
  | 0, _, _, _, _, hm => by omega
  | n + 1, a, b, c, hI, hm => h (lo3 B n) a b c hI (fun a' b' c' hI' hm' => lo3_spec Q I μ h n a' b' c' hI' (by omega))
theorem lo4_spec {A A' A'' A3 ρ : Type} {B : (A → A' → A'' → A3 → Option ρ) → A → A' → A'' → A3 → Option ρ} (Q : Option ρ → Prop) (I : A → A' → A'' → A3 → Prop) (μ : A → A' → A'' → A3 → Nat) (h : ∀ k a b c d, I a b c d → (∀ a' b' c' d', I a' b' c' d' → μ a' b' c' d' < μ a b c d → Q (k a' b' c' d')) → Q (B k a b c d)) : ∀ n a b c d, I a b c d → μ a b c d < n → Q (lo4 B n a b c d)
  | 0, _, _, _, _, _, hm => by omega
  | n + 1, a, b, c, d, hI, hm => h (lo4 B n) a b c d hI (fun a' b' c' d' hI' hm' => lo4_spec Q I μ h n a' b' c' d' hI' (by omega))
/-! the relation -/
def IRow (C M : St) : Prop := ∀ r : Nat, r < 6 → C (23 + 2 * r) 1 = M 2 r ∧ -1 ≤ M 2 r ∧ M 2 r ≤ 40 ∧ ∀ i : Nat, (i : Int) < M 2 r → C (23 + 2 * r + 1) i = M 3 (40 * r + i) ∧ -2147483648 ≤ M 3 (40 * r + i) ∧ M 3 (40 * r + i) ≤ 2147483647
def ITxt (C M : St) : Prop := ∀ t : Nat, t < 4 → C (35 + 2 * t) 1 = M 5 t ∧ -1 ≤ M 5 t ∧ M 5 t ≤ 60 ∧ ∀ i : Nat, (i : Int) < M 5 t → C (35 + 2 * t + 1) i = M 6 (60 * t + i) ∧ -128 ≤ M 6 (60 * t + i) ∧ M 6 (60 * t + i) ≤ 127
def StfD (C M : St) (s : Nat) : Prop := 1 ≤ M 8 s ∧ M 8 s ≤ 4 ∧ (∀ k : Nat, (k : Int) ≤ M 8 s → C (43 + 3 * s + 1) k = M 9 (5 * s + k) ∧ C (43 + 3 * s + 2) k = M 10 (5 * s + k)) ∧ (∀ k : Nat, (k : Int) < M 8 s → M 9 (5 * s + k) < M 9 (5 * s + (k + 1)) ∧ M 10 (5 * s + k) < M 10 (5 * s + (k + 1))) ∧ (∀ k : Nat, (k : Int) ≤ M 8 s → M 9 (5 * s + k) ≤ 20 ∧ M 10 (5 * s + k) ≤ 999) ∧ C (43 + 3 * s) 3 = M 11 s ∧ 0 ≤ M 11 s ∧ M 11 s ≤ 99 ∧ C (43 + 3 * s) 4 = M 12 s ∧ -99 ≤ M 12 s ∧ M 12 s ≤ 99 ∧ C (43 + 3 * s) 5 = M 13 s ∧ 0 ≤ M 13 s ∧ M 13 s ≤ 99 ∧ C (43 + 3 * s) 6 = M 14 s ∧ 0 ≤ M 14 s ∧ M 14 s ≤ 99
def IStf (C M : St) : Prop := ∀ s : Nat, s < 6 → M 9 (5 * s) = 0 ∧ M 10 (5 * s) = 0 ∧ ((M 7 s = 0 ∧ C (43 + 3 * s) 2 = 0) ∨ (M 7 s = 1 ∧ C (43 + 3 * s) 2 = M 8 s ∧ StfD C M s))
def SealOk (C M : St) (p : Nat) : Prop := (C (61 + p) 2 = M 20 p ∧ 0 ≤ M 20 p ∧ M 20 p ≤ 400) ∧ (C (61 + p) 3 = M 21 p ∧ 0 ≤ M 21 p ∧ M 21 p ≤ 800) ∧ (C (61 + p) 4 = M 22 p ∧ 0 ≤ M 22 p ∧ M 22 p ≤ 9) ∧ (C (61 + p) 5 = M 23 p ∧ 0 ≤ M 23 p ∧ M 23 p ≤ 40 ∧ (M 18 p = 1 → M 23 p = 0)) ∧ C (61 + p) 6 = M 24 p ∧ (C 5 p = M 25 p ∧ 0 ≤ M 25 p ∧ M 25 p ≤ 200) ∧ (0 ≤ C (61 + p) 1 ∧ C (61 + p) 1 ≤ 5) ∧ ((M 18 p = -9 ∧ C (61 + p) 0 = -1) ∨ (0 ≤ M 18 p ∧ M 18 p ≤ 4 ∧ C (61 + p) 0 = M 18 p ∧ 1 ≤ M 22 p ∧ (1 ≤ M 18 p → C (61 + p) 1 = M 19 p ∧ M 7 (M 19 p).toNat = 1)))
def ISeal (C M : St) : Prop := ∀ p : Nat, p < 4 → SealOk C M p
def ISet (C M : St) : Prop := (C 6 0 = M 0 34 ∧ 0 ≤ M 0 34 ∧ M 0 34 ≤ 99999) ∧ (C 6 1 = M 0 35 ∧ -99 ≤ M 0 35 ∧ M 0 35 ≤ 99) ∧ (C 6 2 = M 0 36 ∧ 0 ≤ M 0 36 ∧ M 0 36 ≤ 9999) ∧ (C 6 3 = M 0 37 ∧ 0 ≤ M 0 37 ∧ M 0 37 ≤ 99)
def ITold (C M : St) : Prop := C 0 11 = M 0 2 ∧ C 0 12 = M 0 3 ∧ C 0 13 = M 0 4 ∧ C 0 10 = M 0 0 ∧ ∀ f : Nat, f < 6 → C 22 f = M 1 f
def IZero (C M : St) : Prop := C 9 0 = 0 ∧ C 10 0 = 0 ∧ M 15 0 = 0 ∧ M 16 0 = 0
def Inv (C M : St) : Prop := IRow C M ∧ ITxt C M ∧ IStf C M ∧ ISeal C M ∧ ISet C M ∧ ITold C M ∧ IZero C M
theorem IRow.congr {C M C' M' : St} (h : IRow C M) (hc : ∀ q, 23 ≤ q → q ≤ 34 → C' q = C q) (h2 : M' 2 = M 2) (h3 : M' 3 = M 3) : IRow C' M' := by
  intro r hr
  rw [hc (23 + 2 * r) (by omega) (by omega), hc (23 + 2 * r + 1) (by omega) (by omega), h2, h3]
  exact h r hr
theorem ITxt.congr {C M C' M' : St} (h : ITxt C M) (hc : ∀ q, 35 ≤ q → q ≤ 42 → C' q = C q) (h2 : M' 5 = M 5) (h3 : M' 6 = M 6) : ITxt C' M' := by
  intro r hr
  rw [hc (35 + 2 * r) (by omega) (by omega), hc (35 + 2 * r + 1) (by omega) (by omega), h2, h3]
  exact h r hr
theorem IStf.congr {C M C' M' : St} (h : IStf C M) (hc : ∀ q, 43 ≤ q → q ≤ 60 → C' q = C q) (hm : ∀ q, 7 ≤ q → q ≤ 14 → M' q = M q) : IStf C' M' := by
  intro s hs
  have := h s hs
  unfold StfD at this ⊢
  rw [hc (43 + 3 * s) (by omega) (by omega), hc (43 + 3 * s + 1) (by omega) (by omega), hc (43 + 3 * s + 2) (by omega) (by omega), hm 7 (by omega) (by omega), hm 8 (by omega) (by omega), hm 9 (by omega) (by omega), hm 10 (by omega) (by omega), hm 11 (by omega) (by omega), hm 12 (by omega) (by omega), hm 13 (by omega) (by omega), hm 14 (by omega) (by omega)]
  exact this
theorem ISeal.congr {C M C' M' : St} (h : ISeal C M) (hc : ∀ q, 61 ≤ q → q ≤ 64 → C' q = C q) (hc5 : C' 5 = C 5) (hm : ∀ q, 18 ≤ q → q ≤ 25 → M' q = M q) (h7 : M' 7 = M 7) : ISeal C' M' := by
  intro p hp
  have := h p hp
  unfold SealOk at this ⊢
  rw [hc (61 + p) (by omega) (by omega), hc5, h7, hm 18 (by omega) (by omega), hm 19 (by omega) (by omega), hm 20 (by omega) (by omega), hm 21 (by omega) (by omega), hm 22 (by omega) (by omega), hm 23 (by omega) (by omega), hm 24 (by omega) (by omega), hm 25 (by omega) (by omega)]
  exact this
theorem inv_start : Inv SC149 SM43 := by
  refine ⟨?_, ?_, ?_, ?_, ?_, ?_, ?_⟩
  · intro r hr
    have h2 : ∀ r, r < 6 → SM43 2 r = -1 := by decide +kernel
    have h3 : ∀ r, r < 6 → SC149 (23 + 2 * r) 1 = -1 := by decide +kernel
    rw [h2 r hr, h3 r hr]
    exact ⟨rfl, by decide, by decide, fun i hi => by omega⟩
  · intro r hr
    have h2 : ∀ r, r < 4 → SM43 5 r = -1 := by decide +kernel
    have h3 : ∀ r, r < 4 → SC149 (35 + 2 * r) 1 = -1 := by decide +kernel
    rw [h2 r hr, h3 r hr]
    exact ⟨rfl, by decide, by decide, fun i hi => by omega⟩
  · intro s hs
    rcases (show s = 0 ∨ s = 1 ∨ s = 2 ∨ s = 3 ∨ s = 4 ∨ s = 5 by omega) with rfl | rfl | rfl | rfl | rfl | rfl <;> exact ⟨by decide +kernel, by decide +kernel, Or.inl (by decide +kernel)⟩
  · intro p hp
    rcases (show p = 0 ∨ p = 1 ∨ p = 2 ∨ p = 3 by omega) with rfl | rfl | rfl | rfl <;> exact ⟨by decide +kernel, by decide +kernel, by decide +kernel, by decide +kernel, by decide +kernel, by decide +kernel, by decide +kernel, Or.inl (by decide +kernel)⟩
  · unfold ISet; decide +kernel
  · refine ⟨by decide +kernel, by decide +kernel, by decide +kernel, by decide +kernel, fun f hf => ?_⟩
    rcases (show f = 0 ∨ f = 1 ∨ f = 2 ∨ f = 3 ∨ f = 4 ∨ f = 5 by omega) with rfl | rfl | rfl | rfl | rfl | rfl <;> decide +kernel
  · unfold IZero; decide +kernel
