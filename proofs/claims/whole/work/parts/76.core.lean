/-! the core, the model's side: the highest top, the next break -/
def sel (M : St) (a b : Int) (p : Nat) : Prop := (M 18 p = 0 ∧ a = 1) ∨ (1 ≤ M 18 p ∧ b = 1)
def HiR (M : St) (a b : Int) (n : Nat) (t fl : Int) : Prop := (fl = 0 ∧ t = 0 ∧ ∀ p, p < n → ¬ sel M a b p) ∨ (fl = 1 ∧ (∃ p, p < n ∧ sel M a b p ∧ t = tp M p) ∧ ∀ p, p < n → sel M a b p → tp M p ≤ t)
theorem HiR.no {M : St} {a b : Int} {n : Nat} {t fl : Int} (h : HiR M a b n t fl) (hs : ¬ sel M a b n) : HiR M a b (n + 1) t fl := by
  rcases h with ⟨h1, h2, h3⟩ | ⟨h1, ⟨p, h2, h3, h4⟩, h5⟩
  · refine Or.inl ⟨h1, h2, fun p hp => ?_⟩
    by_cases e : p = n
    · subst e; exact hs
    · exact h3 p (by omega)
  · refine Or.inr ⟨h1, ⟨p, by omega, h3, h4⟩, fun p' hp' hq => ?_⟩
    by_cases e : p' = n
    · subst e; exact absurd hq hs
    · exact h5 p' (by omega) hq
theorem HiR.keep {M : St} {a b : Int} {n : Nat} {t fl : Int} (h : HiR M a b n t fl) (hf : fl ≠ 0) (hs : tp M n ≤ t) : HiR M a b (n + 1) t fl := by
  rcases h with ⟨h1, h2, h3⟩ | ⟨h1, ⟨p, h2, h3, h4⟩, h5⟩
  · exact absurd h1 hf
  · refine Or.inr ⟨h1, ⟨p, by omega, h3, h4⟩, fun p' hp' hq => ?_⟩
    by_cases e : p' = n
    · subst e; exact hs
    · exact h5 p' (by omega) hq
theorem HiR.take {M : St} {a b : Int} {n : Nat} {t fl : Int} (h : HiR M a b n t fl) (hs : sel M a b n) (ht : fl = 0 ∨ t < tp M n) : HiR M a b (n + 1) (tp M n) 1 := by
  refine Or.inr ⟨rfl, ⟨n, by omega, hs, rfl⟩, fun p' hp' hq => ?_⟩
  by_cases e : p' = n
  · subst e; omega
  · rcases h with ⟨h1, h2, h3⟩ | ⟨h1, h2, h5⟩
    · exact absurd hq (h3 p' (by omega))
    · have := h5 p' (by omega) hq
      omega
theorem topOf_ok {M S : St} {p : Nat} (hp : p < 4) (h1 : S 21 = M 21) (h2 : S 25 = M 25) : pX6_topOf S (p : Int) = some (tp M p) := by
  unfold pX6_topOf
  simp (disch := omega) only [ldI_ok, Int.toNat_natCast]
  rw [h1, h2]; rfl
theorem highest_ok {T M : St} (h : TM T M) {a b : Int} (ha : a = 0 ∨ a = 1) (hb : b = 0 ∨ b = 1) : ∃ (t : Int) (M' : St), pX6_highest M a b = some (t, M') ∧ HiR M a b 4 t (M' 0 41) ∧ (∀ q, q ≠ 0 → M' q = M q) ∧ ∀ j, j ≠ 41 → M' 0 j = M 0 j := by
  unfold pX6_highest
  rw [isB_ok (by omega)]
  simp only [setS]
  refine lo3_spec (fun o => ∃ (t : Int) (M' : St), o = some (t, M') ∧ HiR M a b 4 t (M' 0 41) ∧ (∀ q, q ≠ 0 → M' q = M q) ∧ ∀ j, j ≠ 41 → M' 0 j = M 0 j) (fun (S : St) (x3 x4 : Int) => ∃ p : Nat, x4 = p ∧ p ≤ 4 ∧ (-300 ≤ x3 ∧ x3 ≤ 1300) ∧ HiR M a b p x3 (S 0 41) ∧ (∀ q, q ≠ 0 → S q = M q) ∧ ∀ j, j ≠ 41 → S 0 j = M 0 j) (fun _ _ x4 => (4 - x4).toNat) ?_ FU _ 0 0 ⟨0, rfl, by omega, by omega, Or.inl ⟨put_at, rfl, fun p hp => by omega⟩, fun q a => put_ne a, fun j a => put_j a⟩ (by have := FU_big; omega)
  rintro f S x3 x4 ⟨p, rfl, hp, hx, h1, h2, h3⟩ hf
  unfold pX6_highest_10B
  by_cases e : p = 4
  · subst e
    rw [cLT_neg (by omega)]
    exact ⟨_, _, rfl, h1, h2, h3⟩
  · have hp4 : p < 4 := by omega
    obtain ⟨k1, -, -, k4, -, -⟩ := h.1 p hp4
    have e18 : S 18 p = M 18 p := by rw [h2 18 (by decide)]
    have etop := topOf_ok (M := M) (S := S) hp4 (h2 21 (by decide)) (h2 25 (by decide))
    have hfl : S 0 41 = 0 ∨ S 0 41 = 1 := by
      rcases h1 with h1 | h1
      · exact Or.inl h1.1
      · exact Or.inr h1.1
    have hno := fun (hs : ¬ sel M a b p) => hf S x3 ((p : Int) + 1) ⟨p + 1, by omega, by omega, hx, h1.no hs, h2, h3⟩ (by omega)
    have hsel : sel M a b p → ∃ (t : Int) (M' : St), pX6_highest_48 f S a b x3 (p : Int) 1 = some (t, M') ∧ HiR M a b 4 t (M' 0 41) ∧ (∀ q, q ≠ 0 → M' q = M q) ∧ ∀ j, j ≠ 41 → M' 0 j = M 0 j := by
      intro hs
      have htake := fun (ht : S 0 41 = 0 ∨ x3 < tp M p) => hf (put S 0 41 1) (tp M p) ((p : Int) + 1) ⟨p + 1, by omega, by omega, by omega, by rw [put_at]; exact h1.take hs ht, fun q a => by rw [put_ne a, h2 q a], fun j a => by rw [put_j a, h3 j a]⟩ (by omega)
      have hkeep := fun (hz : S 0 41 ≠ 0) (ht : tp M p ≤ x3) => hf S x3 ((p : Int) + 1) ⟨p + 1, by omega, by omega, hx, h1.keep hz ht, h2, h3⟩ (by omega)
      unfold pX6_highest_48 pX6_highest_72 pX6_highest_84
      rw [cEQ_neg (by omega), etop]
      simp (disch := omega) only [bind_some', isB_ok, setS]
      rcases hfl with e0 | e0
      · rw [cEQ_pos (by omega)]
        exact htake (Or.inl e0)
      · rw [cEQ_neg (by omega)]
        by_cases ht : x3 < tp M p
        · rw [cLT_pos (by omega)]
          exact htake (Or.inr ht)
        · rw [cLT_neg (by omega)]
          exact hkeep (by omega) (by omega)
    have h48 : pX6_highest_48 f S a b x3 (p : Int) 0 = f S x3 ((p : Int) + 1) := by
      unfold pX6_highest_48 pX6_highest_84
      rw [cEQ_pos (by omega)]; rfl
    unfold pX6_highest_47 pX6_isSeal
    simp (disch := omega) only [cLT_pos, ldI_ok, Int.toNat_natCast, e18]
    by_cases e0 : M 18 p = 0
    · rw [cEQ_pos (by omega)]
      rcases ha with rfl | rfl
      · rw [h48]
        exact hno (fun hs => by unfold sel at hs; omega)
      · exact hsel (Or.inl ⟨e0, rfl⟩)
    · rw [cEQ_neg (by omega)]
      by_cases e9 : M 18 p = -9
      · rw [cEQ_pos (by omega), bind_some', cEQ_pos (by omega), h48]
        exact hno (fun hs => by unfold sel at hs; omega)
      · rw [cEQ_neg (by omega), bind_some', cEQ_neg (by omega)]
        rcases hb with rfl | rfl
        · rw [cEQ_pos (by omega), h48]
          exact hno (fun hs => by unfold sel at hs; omega)
        · rw [cEQ_neg (by omega)]
          exact hsel (Or.inr ⟨by omega, rfl⟩)
/-! the next break -/
def NB (M : St) (h : Int) (n m : Nat) (b : Int) : Prop := b ≤ h ∧ (b = h ∨ -320 ≤ b) ∧ ∀ p k : Nat, p < 4 → 1 ≤ M 18 p → (k : Int) < M 8 (sx M p) → (p < n ∨ (p = n ∧ k < m)) → tp M p - M 9 (5 * sx M p + k) < h → tp M p - M 9 (5 * sx M p + k) ≤ b ∧ b < h
theorem nextBreak_ok {T M S : St} (h : TM T M) (hS : ∀ q, q ≠ 0 → S q = M q) {x : Int} (hx : -2000 ≤ x ∧ x ≤ 2000) : ∃ b, pX6_nextBreak S x = some b ∧ NB M x 4 0 b := by
  have s8 := hS 8 (by decide)
  have s9 := hS 9 (by decide)
  have s18 := hS 18 (by decide)
  have s19 := hS 19 (by decide)
  unfold pX6_nextBreak
  refine lo2_spec (fun o => ∃ b, o = some b ∧ NB M x 4 0 b) (fun (y z : Int) => ∃ p : Nat, z = p ∧ p ≤ 4 ∧ NB M x p 0 y) (fun _ z => (4 - z).toNat) ?_ FU x 0 ⟨0, rfl, by omega, by omega, Or.inl rfl, fun p k _ _ _ e => by omega⟩ (by have := FU_big; omega)
  rintro f y z ⟨p, rfl, hp, hb⟩ hf
  unfold pX6_nextBreak_4B pX6_nextBreak_90
  by_cases e : p = 4
  · subst e
    rw [cLT_neg (by omega)]
    exact ⟨y, rfl, hb⟩
  · have hp4 : p < 4 := by omega
    obtain ⟨k1, -, -, k4, -, k6⟩ := h.1 p hp4
    have hR := isRubber_ok (M := S) (p := p) hp4 (by rw [s18]; omega)
    rw [cLT_pos (by omega), hR, bind_some', s18]
    by_cases hr : 1 ≤ M 18 p
    · rw [if_pos (by omega), cEQ_neg (by omega)]
      obtain ⟨-, r2, r3, -, r5, -, r7⟩ := k6 hr
      rw [ldI_ok (by omega), Int.toNat_natCast, s19, r2]
      have hn := r5.1
      have hn4 := r5.2.1
      refine lo2_spec (fun o => ∃ b, o = some b ∧ NB M x 4 0 b) (fun (y z : Int) => ∃ m : Nat, z = m ∧ (m : Int) ≤ M 8 (sx M p) ∧ NB M x p m y) (fun _ z => (M 8 (sx M p) - z).toNat) ?_ FU y 0 ⟨0, rfl, by omega, hb⟩ (by have := FU_big; omega)
      rintro g y' z' ⟨m, rfl, hm, hb'⟩ hg
      unfold pX6_nextBreak_28B pX6_nextBreak_77 pX6_nextBreak_82 pX6_nextBreak_83 pX6_nextBreak_90
      rw [ldI_ok (by omega), Int.toNat_natCast, s8]
      have c1 := hb'.1
      have c2 := hb'.2.1
      by_cases em : (m : Int) = M 8 (sx M p)
      · rw [cLT_neg (by omega)]
        refine hf y' _ ⟨p + 1, by omega, by omega, c1, c2, fun p' k' a1 a2 a3 a4 a5 => hb'.2.2 p' k' a1 a2 a3 ?_ a5⟩ (by omega)
        by_cases ep : p' = p
        · subst ep; exact Or.inr ⟨rfl, by omega⟩
        · exact Or.inl (by omega)
      · have hB := stf_bd r5 r7 (k := m) (by omega)
        have ei : ((5 * (sx M p : Int)) + (m : Int)).toNat = 5 * sx M p + m := by omega
        have etop := topOf_ok (M := M) (S := S) hp4 (hS 21 (by decide)) (hS 25 (by decide))
        rw [cLT_pos (by omega), etop, bind_some', ldI_ok (by omega), ei, s9]
        simp only [setS]
        have hnew : ∀ b', (tp M p - M 9 (5 * sx M p + m) < x → tp M p - M 9 (5 * sx M p + m) ≤ b' ∧ b' < x) → y' = b' ∨ (b' = tp M p - M 9 (5 * sx M p + m) ∧ b' < x ∧ (y' = x ∨ y' < b')) → ∃ b, g b' ((m : Int) + 1) = some b ∧ NB M x 4 0 b := by
          intro b' n1 n2
          refine hg b' _ ⟨m + 1, by omega, by omega, by omega, by omega, fun p' k' a1 a2 a3 a4 a5 => ?_⟩ (by omega)
          by_cases ek : p' = p ∧ k' = m
          · obtain ⟨rfl, rfl⟩ := ek
            exact n1 a5
          · have := hb'.2.2 p' k' a1 a2 a3 (by omega) a5
            omega
        by_cases q1 : tp M p - M 9 (5 * sx M p + m) < x
        · rw [cLT_pos (by omega)]
          by_cases q2 : y' = x
          · rw [cEQ_pos (by omega)]
            exact hnew _ (fun _ => by omega) (Or.inr ⟨rfl, q1, Or.inl q2⟩)
          · rw [cEQ_neg (by omega)]
            by_cases q3 : y' < tp M p - M 9 (5 * sx M p + m)
            · rw [cLT_pos (by omega)]
              exact hnew _ (fun _ => by omega) (Or.inr ⟨rfl, q1, Or.inr q3⟩)
            · rw [cLT_neg (by omega)]
              exact hnew _ (fun _ => by omega) (Or.inl rfl)
        · rw [cLT_neg (by omega)]
          exact hnew _ (fun q => by omega) (Or.inl rfl)
    · rw [if_neg (by omega), cEQ_pos (by omega)]
      refine hf y _ ⟨p + 1, by omega, by omega, hb.1, hb.2.1, fun p' k' a1 a2 a3 a4 a5 => hb.2.2 p' k' a1 a2 a3 ?_ a5⟩ (by omega)
      by_cases ep : p' = p
      · subst ep; exact absurd a2 hr
      · exact Or.inl (by omega)
