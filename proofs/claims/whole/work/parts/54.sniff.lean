/-! sniff -/
theorem lo2_rel {A A' B B' ρ ρ' : Type} {F : (A → A' → Option ρ) → A → A' → Option ρ} {G : (B → B' → Option ρ') → B → B' → Option ρ'} (Q : Option ρ → Option ρ' → Prop) (I : A → A' → B → B' → Prop) (μ : A → A' → Nat) (h : ∀ k k' a b x y, I a b x y → (∀ a' b' x' y', I a' b' x' y' → μ a' b' < μ a b → Q (k a' b') (k' x' y')) → Q (F k a b) (G k' x y)) : ∀ n a b x y, I a b x y → μ a b < n → Q (lo2 F n a b) (lo2 G n x y)
  | 0, _, _, _, _, _, hm => by omega
  | n + 1, a, b, x, y, hI, hm => h (lo2 F n) (lo2 G n) a b x y hI (fun a' b' x' y' hI' hm' => lo2_rel Q I μ h n a' b' x' y' hI' (by omega))
theorem abs_ok {x : Int} (h : -2147483648 ≤ x ∧ x ≤ 2147483647) : pJ9_abs_0f7a4 x = some (if x < 0 then -x else x) := by
  unfold pJ9_abs_0f7a4; rw [if_pos ⟨by omega, by omega⟩]
def sgap (p : Int) (i : Nat) : Int := if (i : Int) < p then p - i else i - p
def sfit (v : Nat → Int) (w p sl : Int) (i : Nat) : Prop := -sl ≤ w.tdiv (sgap p i + 1) - v i ∧ w.tdiv (sgap p i + 1) - v i ≤ sl
theorem tdiv_w {w d : Int} (hw : 1 ≤ w ∧ w ≤ 999) (hd : 1 ≤ d) : 0 ≤ w.tdiv d ∧ w.tdiv d ≤ 999 := by
  rw [Int.tdiv_eq_ediv_of_nonneg (by omega)]
  have := Int.ediv_le_self (a := w) d (by omega)
  have := Int.ediv_nonneg (a := w) (b := d) (by omega) (by omega)
  omega
theorem sgap_b {p : Int} {i : Nat} (hp : 0 ≤ p ∧ p ≤ 3) (hi : i < 4) : 0 ≤ sgap p i ∧ sgap p i ≤ 3 := by
  unfold sgap; split <;> omega
theorem sniffsFit_step {S : St} {q : Nat} {v : Nat → Int} {w p sl : Int} {j : Nat} {k : Int → Option Int} (hl : S q 1 = 4) (hrl : rlen q = 40) (hv : ∀ i, i < 4 → S (q + 1) i = v i ∧ 0 ≤ v i ∧ v i ≤ 9999) (hp : 0 ≤ p ∧ p ≤ 3) (hw : 1 ≤ w ∧ w ≤ 999) (hs : 0 ≤ sl ∧ sl ≤ 99) (hj : j < 4) : (sfit v w p sl j → pX5_sniffsFit_3B S w p q sl k (j : Int) = k ((j : Int) + 1)) ∧ (¬ sfit v w p sl j → pX5_sniffsFit_3B S w p q sl k (j : Int) = some 0) := by
  obtain ⟨e1, b1, b2⟩ := hv j hj
  have hg := sgap_b hp hj
  have hab : pJ9_abs_0f7a4 ((j : Int) - p) = some (sgap p j) := by
    rw [abs_ok (by omega)]
    unfold sgap
    (repeat' split) <;> first | omega | (congr 1 <;> omega)
  have hq := tdiv_w (w := w) (d := sgap p j + 1) hw (by omega)
  have hab2 := abs_ok (x := w.tdiv (sgap p j + 1) - v j) (by omega)
  unfold pX5_sniffsFit_3B pX1_has
  simp (disch := omega) only [cLT_pos, cLT_neg, hl, bind_some', cEQ_neg, hab, dvI_ok, ldI_ok, hrl, Int.toNat_natCast, e1, hab2, setS]
  unfold sfit
  have hd : -9999 ≤ w.tdiv (sgap p j + 1) - v j ∧ w.tdiv (sgap p j + 1) - v j ≤ 999 := by omega
  generalize w.tdiv (sgap p j + 1) - v j = d at hd ⊢
  constructor <;> intro h <;> split <;> first | rw [cLT_neg (by omega)] | rw [cLT_pos (by omega)]
theorem sniffsFit_t {S : St} {q : Nat} {v : Nat → Int} {w p sl : Int} (hl : S q 1 = 4) (hrl : rlen q = 40) (hv : ∀ i, i < 4 → S (q + 1) i = v i ∧ 0 ≤ v i ∧ v i ≤ 9999) (hp : 0 ≤ p ∧ p ≤ 3) (hw : 1 ≤ w ∧ w ≤ 999) (hs : 0 ≤ sl ∧ sl ≤ 99) (h : ∀ i, i < 4 → sfit v w p sl i) : pX5_sniffsFit S w p q sl = some 1 := by
  unfold pX5_sniffsFit
  refine lo1_spec (fun o => o = some 1) (fun (x : Int) => ∃ j : Nat, x = j ∧ j ≤ 4) (fun x => (4 - x).toNat) ?_ FU 0 ⟨0, rfl, by omega⟩ (by have := FU_big; omega)
  rintro k x ⟨j, rfl, hj⟩ hk
  by_cases hlt : j < 4
  · rw [(sniffsFit_step hl hrl hv hp hw hs hlt).1 (h j hlt)]
    exact hk _ ⟨j + 1, by omega, by omega⟩ (by omega)
  · unfold pX5_sniffsFit_3B
    rw [cLT_neg (by omega)]
theorem sniffsFit_f {S : St} {q : Nat} {v : Nat → Int} {w p sl : Int} (hl : S q 1 = 4) (hrl : rlen q = 40) (hv : ∀ i, i < 4 → S (q + 1) i = v i ∧ 0 ≤ v i ∧ v i ≤ 9999) (hp : 0 ≤ p ∧ p ≤ 3) (hw : 1 ≤ w ∧ w ≤ 999) (hs : 0 ≤ sl ∧ sl ≤ 99) (h : ¬ ∀ i, i < 4 → sfit v w p sl i) : pX5_sniffsFit S w p q sl = some 0 := by
  unfold pX5_sniffsFit
  refine lo1_spec (fun o => o = some 0) (fun (x : Int) => ∃ j : Nat, x = j ∧ j ≤ 4 ∧ ∀ i, i < j → sfit v w p sl i) (fun x => (4 - x).toNat) ?_ FU 0 ⟨0, rfl, by omega, fun i hi => by omega⟩ (by have := FU_big; omega)
  rintro k x ⟨j, rfl, hj, ha⟩ hk
  by_cases hlt : j < 4
  · by_cases hf : sfit v w p sl j
    · rw [(sniffsFit_step hl hrl hv hp hw hs hlt).1 hf]
      refine hk _ ⟨j + 1, by omega, by omega, fun i hi => ?_⟩ (by omega)
      by_cases e : i = j
      · rw [e]; exact hf
      · exact ha i (by omega)
    · rw [(sniffsFit_step hl hrl hv hp hw hs hlt).2 hf]
  · exact absurd (fun i hi => ha i (by omega)) h
theorem isLeakAt_ok {M : St} {r : Nat} {v : Nat → Int} {w p sl : Int} (hr : r < 6) (hv : ∀ i, i < 4 → M 3 (40 * r + i) = v i ∧ 0 ≤ v i ∧ v i ≤ 9999) (hp : 0 ≤ p ∧ p ≤ 3) (hw : 1 ≤ w ∧ w ≤ 999) (hs : 0 ≤ sl ∧ sl ≤ 99) : ((∀ i, i < 4 → sfit v w p sl i) → pX6_isLeakAt M p w (r : Int) sl = some 1) ∧ ((¬ ∀ i, i < 4 → sfit v w p sl i) → pX6_isLeakAt M p w (r : Int) sl = some 0) := by
  have main : ∃ f : Int, pX6_isLeakAt M p w (r : Int) sl = some f ∧ ((f = 1 ∧ ∀ i, i < 4 → sfit v w p sl i) ∨ (f = 0 ∧ ¬ ∀ i, i < 4 → sfit v w p sl i)) := by
    unfold pX6_isLeakAt
    refine lo2_spec (fun o => ∃ f : Int, o = some f ∧ ((f = 1 ∧ ∀ i, i < 4 → sfit v w p sl i) ∨ (f = 0 ∧ ¬ ∀ i, i < 4 → sfit v w p sl i))) (fun (f x : Int) => ∃ j : Nat, x = j ∧ j ≤ 4 ∧ ((f = 1 ∧ ∀ i, i < j → sfit v w p sl i) ∨ (f = 0 ∧ ¬ ∀ i, i < j → sfit v w p sl i))) (fun _ x => (4 - x).toNat) ?_ FU 1 0 ⟨0, rfl, by omega, Or.inl ⟨rfl, fun i hi => by omega⟩⟩ (by have := FU_big; omega)
    rintro k f x ⟨j, rfl, hj, ha⟩ hk
    unfold pX6_isLeakAt_6B
    by_cases hlt : j < 4
    · rw [cLT_pos (by omega)]
      have hg := sgap_b (p := p) hp hlt
      have hq := tdiv_w (w := w) (d := sgap p j + 1) hw (by omega)
      obtain ⟨e1, b1, b2⟩ := hv j hlt
      have h29 : cLT (j : Int) p (pX6_isLeakAt_29 k M p w (r : Int) sl f (j : Int) (p - (j : Int))) (pX6_isLeakAt_29 k M p w (r : Int) sl f (j : Int) ((j : Int) - p)) = pX6_isLeakAt_29 k M p w (r : Int) sl f (j : Int) (sgap p j) := by
        unfold sgap
        rw [cLT_if (by omega)]
        split <;> rfl
      rw [h29]
      unfold pX6_isLeakAt_29 pX6_rowAt pX6_isLeakAt_71 pX6_isLeakAt_72
      have ei : (40 * (r : Int) + (j : Int)).toNat = 40 * r + j := by omega
      simp (disch := omega) only [dvI_ok, ldI_ok, ei, bind_some', setS, e1]
      have hsf : sfit v w p sl j ↔ (-sl ≤ w.tdiv (sgap p j + 1) - v j ∧ w.tdiv (sgap p j + 1) - v j ≤ sl) := Iff.rfl
      have hd : -9999 ≤ w.tdiv (sgap p j + 1) - v j ∧ w.tdiv (sgap p j + 1) - v j ≤ 999 := by omega
      generalize w.tdiv (sgap p j + 1) - v j = d at hsf hd ⊢
      have step : ∀ P : Nat → Prop, (∀ i, i < j + 1 → P i) ↔ (∀ i, i < j → P i) ∧ P j := fun P => ⟨fun h => ⟨fun i hi => h i (by omega), h j (by omega)⟩, fun h i hi => by
        by_cases e : i = j
        · rw [e]; exact h.2
        · exact h.1 i (by omega)⟩
      have no : ¬ (∀ i, i < j + 1 → sfit v w p sl i) → ∃ f : Int, k 0 ((j : Int) + 1) = some f ∧ ((f = 1 ∧ ∀ i, i < 4 → sfit v w p sl i) ∨ (f = 0 ∧ ¬ ∀ i, i < 4 → sfit v w p sl i)) := fun h => hk _ _ ⟨j + 1, by omega, by omega, Or.inr ⟨rfl, h⟩⟩ (by omega)
      rcases ha with ⟨rfl, ha⟩ | ⟨rfl, ha⟩
      · rw [cEQ_neg (by omega)]
        by_cases c1 : sl < d
        · rw [cLT_pos (by omega)]
          exact no (fun h => by have := hsf.1 (h j (by omega)); omega)
        · rw [cLT_neg (by omega)]
          by_cases c2 : d < -sl
          · rw [cLT_pos (by omega)]
            exact no (fun h => by have := hsf.1 (h j (by omega)); omega)
          · rw [cLT_neg (by omega)]
            exact hk _ _ ⟨j + 1, by omega, by omega, Or.inl ⟨rfl, (step _).2 ⟨ha, hsf.2 (by omega)⟩⟩⟩ (by omega)
      · rw [cEQ_pos (by omega)]
        exact no (fun h => ha ((step _).1 h).1)
    · have : j = 4 := by omega
      subst this
      rw [cLT_neg (by omega), isB_ok (by rcases ha with ⟨h, -⟩ | ⟨h, -⟩ <;> omega)]
      exact ⟨f, rfl, ha⟩
  obtain ⟨f, hf, ⟨rfl, h⟩ | ⟨rfl, h⟩⟩ := main
  · exact ⟨fun _ => hf, fun h' => absurd h h'⟩
  · exact ⟨fun h' => absurd h' h, fun _ => hf⟩
def sany (v : Nat → Int) (p sl : Int) : Prop := ∃ w : Int, 1 ≤ w ∧ w ≤ 999 ∧ ∀ i, i < 4 → sfit v w p sl i
theorem couldLeakAt_ok {S : St} {q : Nat} {v : Nat → Int} {p sl : Int} (hl : S q 1 = 4) (hrl : rlen q = 40) (hv : ∀ i, i < 4 → S (q + 1) i = v i ∧ 0 ≤ v i ∧ v i ≤ 9999) (hp : 0 ≤ p ∧ p ≤ 3) (hs : 0 ≤ sl ∧ sl ≤ 99) : (pX5_couldLeakAt S p q sl = some 1 ∧ sany v p sl) ∨ (pX5_couldLeakAt S p q sl = some 0 ∧ ¬ sany v p sl) := by
  unfold pX5_couldLeakAt
  refine lo1_spec (fun o => (o = some 1 ∧ sany v p sl) ∨ (o = some 0 ∧ ¬ sany v p sl)) (fun (x : Int) => 1 ≤ x ∧ x ≤ 1000 ∧ ∀ w : Int, 1 ≤ w → w < x → ¬ ∀ i, i < 4 → sfit v w p sl i) (fun x => (1000 - x).toNat) ?_ FU 1 ⟨by omega, by omega, fun w a b => by omega⟩ (by have := FU_big; omega)
  rintro k x ⟨h1, h2, ha⟩ hk
  unfold pX5_couldLeakAt_2B
  by_cases hlt : x ≤ 999
  · rw [cLT_neg (by omega)]
    by_cases hf : ∀ i, i < 4 → sfit v x p sl i
    · rw [sniffsFit_t hl hrl hv hp ⟨h1, hlt⟩ hs hf, bind_some', cEQ_neg (by omega)]
      exact Or.inl ⟨rfl, x, h1, hlt, hf⟩
    · rw [sniffsFit_f hl hrl hv hp ⟨h1, hlt⟩ hs hf, bind_some', cEQ_pos (by omega)]
      refine hk _ ⟨by omega, by omega, fun w a b => ?_⟩ (by omega)
      by_cases e : w = x
      · rw [e]; exact hf
      · exact ha w a (by omega)
  · rw [cLT_pos (by omega)]
    exact Or.inr ⟨rfl, fun ⟨w, a, b, c⟩ => ha w a (by omega) c⟩
theorem or_lt16 {a p : Nat} (ha : a < 16) (hp : p < 4) : a ||| 2 ^ p < 16 := by
  have : (2 : Nat) ^ p < 2 ^ 4 := Nat.pow_lt_pow_right (by decide) hp
  exact Nat.or_lt_two_pow (n := 4) ha this
theorem shl_one {α : Type} {p : Nat} {k : Int → Option α} (hp : p < 4) : shlI 1 (p : Int) k = k ((2 ^ p : Nat) : Int) := by
  rcases (show p = 0 ∨ p = 1 ∨ p = 2 ∨ p = 3 by omega) with rfl | rfl | rfl | rfl <;> rfl
theorem orI_ok {α : Type} {a b : Nat} {k : Int → Option α} (ha : a < 16) (hb : b < 16) : orI (a : Int) (b : Int) k = k ((a ||| b : Nat) : Int) := by
  unfold orI; rw [if_pos ⟨by omega, by omega, by omega, by omega⟩]; rfl
theorem sniffM_place {M : St} {r : Nat} {v : Nat → Int} {sl : Int} {a p : Nat} {k : Int → Int → Option (Int × St)} (ha : a < 16) (hr : r < 6) (hv : ∀ i, i < 4 → M 3 (40 * r + i) = v i ∧ 0 ≤ v i ∧ v i ≤ 9999) (hp : p < 4) (hs : 0 ≤ sl ∧ sl ≤ 99) : (sany v p sl → lo2 (pX6_sniff_119B k M (r : Int) sl (p : Int)) FU (a : Int) 1 = k ((a ||| 2 ^ p : Nat) : Int) ((p : Int) + 1)) ∧ (¬ sany v p sl → lo2 (pX6_sniff_119B k M (r : Int) sl (p : Int)) FU (a : Int) 1 = k (a : Int) ((p : Int) + 1)) := by
  have hor := or_lt16 ha hp
  have hpw : (2 : Nat) ^ p < 2 ^ 4 := Nat.pow_lt_pow_right (by decide) hp
  have main : ∃ b : Nat, lo2 (pX6_sniff_119B k M (r : Int) sl (p : Int)) FU (a : Int) 1 = k (b : Int) ((p : Int) + 1) ∧ ((b = a ∧ ¬ sany v p sl) ∨ (b = a ||| 2 ^ p ∧ sany v p sl)) := by
    refine lo2_spec (fun o => ∃ b : Nat, o = k (b : Int) ((p : Int) + 1) ∧ ((b = a ∧ ¬ sany v p sl) ∨ (b = a ||| 2 ^ p ∧ sany v p sl))) (fun (y x : Int) => 1 ≤ x ∧ x ≤ 1000 ∧ ∃ b : Nat, y = b ∧ ((b = a ∧ ∀ w : Int, 1 ≤ w → w < x → ¬ ∀ i, i < 4 → sfit v w p sl i) ∨ (b = a ||| 2 ^ p ∧ sany v p sl))) (fun _ x => (1000 - x).toNat) ?_ FU _ _ ⟨by omega, by omega, a, rfl, Or.inl ⟨rfl, fun w a b => by omega⟩⟩ (by have := FU_big; omega)
    rintro k' y x ⟨h1, h2, b, rfl, hb⟩ hk
    unfold pX6_sniff_119B pX6_sniff_150
    by_cases hlt : x ≤ 999
    · have hL := isLeakAt_ok (M := M) (p := (p : Int)) hr hv (by omega) ⟨h1, hlt⟩ hs
      have hb16 : b < 16 := by rcases hb with ⟨h, -⟩ | ⟨h, -⟩ <;> omega
      rw [cLT_neg (by omega)]
      by_cases hf : ∀ i, i < 4 → sfit v x p sl i
      · rw [hL.1 hf, bind_some', cEQ_neg (by omega)]
        rw [shl_one hp, orI_ok hb16 (by omega)]
        simp only [setS]
        refine hk _ _ ⟨by omega, by omega, _, rfl, Or.inr ⟨?_, x, h1, hlt, hf⟩⟩ (by omega)
        rcases hb with ⟨rfl, -⟩ | ⟨rfl, -⟩
        · rfl
        · rw [Nat.or_assoc, Nat.or_self]
      · rw [hL.2 hf, bind_some', cEQ_pos (by omega)]
        rw [show (0 : Int) = ((0 : Nat) : Int) from rfl, orI_ok hb16 (by omega)]
        simp only [setS]
        refine hk _ _ ⟨by omega, by omega, b, by simp, ?_⟩ (by omega)
        rcases hb with ⟨hb, hn⟩ | hb
        · refine Or.inl ⟨hb, fun w a b => ?_⟩
          by_cases e : w = x
          · rw [e]; exact hf
          · exact hn w a (by omega)
        · exact Or.inr hb
    · rw [cLT_pos (by omega)]
      refine ⟨b, rfl, ?_⟩
      rcases hb with ⟨hb, hn⟩ | hb
      · exact Or.inl ⟨hb, fun ⟨w, a, b, c⟩ => hn w a (by omega) c⟩
      · exact Or.inr hb
  obtain ⟨b, e, ⟨rfl, h⟩ | ⟨rfl, h⟩⟩ := main
  · exact ⟨fun h' => absurd h' h, fun _ => e⟩
  · exact ⟨fun _ => e, fun h' => absurd h h'⟩
theorem e_sniff : ca_36 Inv := by
  intro C M x1 x2 hI hx1 hx2
  unfold in32 at hx1 hx2
  unfold pX5_sniff pX6_sniff pX1_isMissing
  by_cases h1 : 0 ≤ x1 ∧ x1 ≤ 5
  · by_cases h2 : 0 ≤ x2 ∧ x2 ≤ 99
    · obtain ⟨r, rfl⟩ := Int.eq_ofNat_of_zero_le h1.1
      obtain ⟨e1, b1, b2, hcell⟩ := hI.1 r (by omega)
      have hrl := rlen_row (r := r) (by omega)
      simp (disch := omega) only [isRow_t, isRowM_t, bind_some', cEQ_neg, within_t, in_t, ldA_ok, ldI_ok, Int.toNat_natCast, e1]
      by_cases hm : M 2 r < 0
      · simp (disch := omega) only [cLT_pos, bind_some', cEQ_neg, found1, meets1, bnd_some]
        exact ag_fd hI (by decide)
      · simp (disch := omega) only [cLT_neg, bind_some', cEQ_pos]
        by_cases h4 : M 2 r = 4
        · rw [cEQ_pos (by omega), cEQ_pos (by omega)]
          have hc : ∀ i, i < 4 → C (23 + 2 * r + 1) i = M 3 (40 * r + i) ∧ -2147483648 ≤ M 3 (40 * r + i) ∧ M 3 (40 * r + i) ≤ 2147483647 := fun i hi => hcell i (by omega)
          by_cases hv : ∀ i, i < 4 → 0 ≤ M 3 (40 * r + i) ∧ M 3 (40 * r + i) ≤ 9999
          · have lC : lo1 (pX5_sniff_56B C x2 (23 + 2 * r)) FU 0 = lo2 (pX5_sniff_97B C x2 (23 + 2 * r)) FU 0 0 := by
              refine lo1_spec (fun o => o = lo2 (pX5_sniff_97B C x2 (23 + 2 * r)) FU 0 0) (fun (x : Int) => ∃ j : Nat, x = j ∧ j ≤ 4) (fun x => (4 - x).toNat) ?_ FU 0 ⟨0, rfl, by omega⟩ (by have := FU_big; omega)
              rintro k x ⟨j, rfl, hj⟩ hk
              unfold pX5_sniff_56B
              by_cases hlt : j < 4
              · have := hv j hlt
                simp (disch := omega) only [cLT_pos, ldI_ok, hrl, Int.toNat_natCast, (hc j hlt).1, within_t, bind_some', cEQ_neg, setS]
                exact hk _ ⟨j + 1, by omega, by omega⟩ (by omega)
              · rw [cLT_neg (by omega)]
            have lM : lo2 (pX6_sniff_55B M (r : Int) x2) FU 1 0 = lo2 (pX6_sniff_110B M (r : Int) x2) FU 0 0 := by
              refine lo2_spec (fun o => o = lo2 (pX6_sniff_110B M (r : Int) x2) FU 0 0) (fun (f x : Int) => f = 1 ∧ ∃ j : Nat, x = j ∧ j ≤ 4) (fun _ x => (4 - x).toNat) ?_ FU 1 0 ⟨rfl, 0, rfl, by omega⟩ (by have := FU_big; omega)
              rintro k f x ⟨rfl, j, rfl, hj⟩ hk
              unfold pX6_sniff_55B pX6_sniff_86 pX6_sniff_87 pX6_rowAt
              by_cases hlt : j < 4
              · have := hv j hlt
                have ei : (40 * (r : Int) + (j : Int)).toNat = 40 * r + j := by omega
                simp (disch := omega) only [cLT_pos, ldI_ok, ei, in_t, bind_some', cEQ_neg, setS]
                exact hk _ _ ⟨rfl, j + 1, by omega, by omega⟩ (by omega)
              · rw [cLT_neg (by omega), cEQ_neg (by omega)]
            rw [lC, lM]
            refine lo2_rel (agWW Inv) (fun (a b x y : Int) => a = x ∧ b = y ∧ ∃ n p : Nat, a = n ∧ b = p ∧ n < 16 ∧ p ≤ 4) (fun _ b => (4 - b).toNat) ?_ FU 0 0 0 0 ⟨rfl, rfl, 0, 0, rfl, rfl, by omega, by omega⟩ (by have := FU_big; omega)
            rintro k k' a b x y ⟨rfl, rfl, n, p, rfl, rfl, hn, hp⟩ hk
            unfold pX5_sniff_97B pX6_sniff_110B pX5_sniff_122
            by_cases hlt : p < 4
            · rw [cLT_pos (by omega), cLT_pos (by omega)]
              have hvC : ∀ i, i < 4 → C (23 + 2 * r + 1) i = (fun i => M 3 (40 * r + i)) i ∧ 0 ≤ (fun i => M 3 (40 * r + i)) i ∧ (fun i => M 3 (40 * r + i)) i ≤ 9999 := fun i hi => ⟨(hc i hi).1, (hv i hi).1, (hv i hi).2⟩
              have hP := sniffM_place (M := M) (r := r) (v := fun i => M 3 (40 * r + i)) (sl := x2) (a := n) (p := p) (k := k') hn (by omega) (fun i hi => ⟨rfl, hv i hi⟩) hlt h2
              have hpw : (2 : Nat) ^ p < 2 ^ 4 := Nat.pow_lt_pow_right (by decide) hlt
              rcases couldLeakAt_ok (S := C) (q := 23 + 2 * r) (v := fun i => M 3 (40 * r + i)) (p := (p : Int)) (sl := x2) (by omega) hrl hvC (by omega) h2 with ⟨hl, ha⟩ | ⟨hl, ha⟩
              · rw [hP.1 ha, hl, bind_some', cEQ_neg (by omega), shl_one hlt, orI_ok hn (by omega)]
                exact hk _ _ _ _ ⟨rfl, rfl, _, p + 1, rfl, by omega, or_lt16 hn hlt, by omega⟩ (by omega)
              · rw [hP.2 ha, hl, bind_some', cEQ_pos (by omega)]
                exact hk _ _ _ _ ⟨rfl, rfl, n, p + 1, rfl, by omega, hn, by omega⟩ (by omega)
            · rw [cLT_neg (by omega), cLT_neg (by omega)]
              exact ag_same hI
          · have lC : lo1 (pX5_sniff_56B C x2 (23 + 2 * r)) FU 0 = some (-3, fdC C 3) := by
              refine lo1_spec (fun o => o = some (-3, fdC C 3)) (fun (x : Int) => ∃ j : Nat, x = j ∧ j ≤ 4 ∧ ∀ i, i < j → 0 ≤ M 3 (40 * r + i) ∧ M 3 (40 * r + i) ≤ 9999) (fun x => (4 - x).toNat) ?_ FU 0 ⟨0, rfl, by omega, fun i hi => by omega⟩ (by have := FU_big; omega)
              rintro k x ⟨j, rfl, hj, ha⟩ hk
              unfold pX5_sniff_56B
              by_cases hlt : j < 4
              · have hcj := hc j hlt
                by_cases hz : 0 ≤ M 3 (40 * r + j) ∧ M 3 (40 * r + j) ≤ 9999
                · simp (disch := omega) only [cLT_pos, ldI_ok, hrl, Int.toNat_natCast, hcj.1, within_t, bind_some', cEQ_neg, setS]
                  refine hk _ ⟨j + 1, by omega, by omega, fun i hi => ?_⟩ (by omega)
                  by_cases e : i = j
                  · rw [e]; exact hz
                  · exact ha i (by omega)
                · simp (disch := omega) only [cLT_pos, ldI_ok, hrl, Int.toNat_natCast, hcj.1, within_f, bind_some', cEQ_pos, found3, bnd_some]
              · exact absurd (fun i hi => ha i (by omega)) hv
            have lM : lo2 (pX6_sniff_55B M (r : Int) x2) FU 1 0 = some (-3, fdM M 3) := by
              refine lo2_spec (fun o => o = some (-3, fdM M 3)) (fun (f x : Int) => ∃ j : Nat, x = j ∧ j ≤ 4 ∧ ((f = 1 ∧ ∀ i, i < j → 0 ≤ M 3 (40 * r + i) ∧ M 3 (40 * r + i) ≤ 9999) ∨ f = 0)) (fun _ x => (4 - x).toNat) ?_ FU 1 0 ⟨0, rfl, by omega, Or.inl ⟨rfl, fun i hi => by omega⟩⟩ (by have := FU_big; omega)
              rintro k f x ⟨j, rfl, hj, ha⟩ hk
              unfold pX6_sniff_55B pX6_sniff_86 pX6_sniff_87 pX6_rowAt
              by_cases hlt : j < 4
              · have hcj := hc j hlt
                have ei : (40 * (r : Int) + (j : Int)).toNat = 40 * r + j := by omega
                rcases ha with ⟨rfl, ha⟩ | rfl
                · by_cases hz : 0 ≤ M 3 (40 * r + j) ∧ M 3 (40 * r + j) ≤ 9999
                  · simp (disch := omega) only [cLT_pos, ldI_ok, ei, in_t, bind_some', cEQ_neg, setS]
                    refine hk _ _ ⟨j + 1, by omega, by omega, Or.inl ⟨rfl, fun i hi => ?_⟩⟩ (by omega)
                    by_cases e : i = j
                    · rw [e]; exact hz
                    · exact ha i (by omega)
                  · simp (disch := omega) only [cLT_pos, ldI_ok, ei, in_f, bind_some', cEQ_neg, cEQ_pos, setS]
                    exact hk _ _ ⟨j + 1, by omega, by omega, Or.inr rfl⟩ (by omega)
                · simp (disch := omega) only [cLT_pos, cEQ_pos, setS]
                  exact hk _ _ ⟨j + 1, by omega, by omega, Or.inr rfl⟩ (by omega)
              · rcases ha with ⟨rfl, ha⟩ | rfl
                · exact absurd (fun i hi => ha i (by omega)) hv
                · simp (disch := omega) only [cLT_neg, cEQ_pos, meets3, bnd_some]
            rw [lC, lM]
            exact ag_fd hI (by decide)
        · simp (disch := omega) only [cEQ_neg, found5, meets5, bnd_some]
          exact ag_fd hI (by decide)
    · simp (disch := omega) only [isRow_t, isRowM_t, within_f, in_f, bind_some', cEQ_pos, cEQ_neg]
      exact ag_same hI
  · simp (disch := omega) only [isRow_f, isRowM_f, bind_some', cEQ_pos]
    exact ag_same hI
