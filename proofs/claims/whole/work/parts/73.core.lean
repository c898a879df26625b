/-! the core, pure: the push of a stuff in parts of the scale, at whole squeezes -/
def OnL (M : St) (s : Nat) (u : Int) (k : Nat) : Prop := (k : Int) < M 8 s ∧ M 9 (5 * s + k) ≤ u ∧ ((k : Int) + 1 = M 8 s ∨ u ≤ M 9 (5 * s + (k + 1)))
noncomputable def lnOf (M : St) (s : Nat) (u : Int) : Nat := Classical.epsilon (fun k => IsLine M s u 1 k)
noncomputable def sP (M : St) (s : Nat) (u : Int) : Int := (232792560 / pW M s (lnOf M s u)) * pN M s (lnOf M s u) u 1
theorem lnOf_ok {C M : St} {s : Nat} (hd : StfD C M s) (u : Int) : IsLine M s u 1 (lnOf M s u) := Classical.epsilon_spec (line_ex hd u 1)
theorem line_uni {C M : St} {s : Nat} (hd : StfD C M s) {a b : Int} (hb : 0 < b) {k j : Nat} (h1 : IsLine M s a b k) (h2 : IsLine M s a b j) : k = j := by
  rcases Nat.lt_trichotomy k j with h | h | h
  · have e1 := line_le hd hb h2 (Nat.le_refl j) (by omega)
    have e2 := line_gt hd hb h1 (j := j) h h2.1
    omega
  · exact h
  · have e1 := line_le hd hb h1 (Nat.le_refl k) (by omega)
    have e2 := line_gt hd hb h2 (j := k) h h1.1
    omega
theorem scale_int {w : Int} (h : 1 ≤ w ∧ w ≤ 20) : (232792560 / w) * w = 232792560 := by
  obtain ⟨n, rfl⟩ := Int.eq_ofNat_of_zero_le (show 0 ≤ w by omega)
  have := scale_dvd n (by omega) (by omega)
  have e : (232792560 : Int) / (n : Int) = ((232792560 / n : Nat) : Int) := rfl
  rw [e, ← Int.natCast_mul, ← this]; rfl
theorem sP_w {C M : St} {s : Nat} (hd : StfD C M s) (h0 : M 9 (5 * s) = 0 ∧ M 10 (5 * s) = 0) {u : Int} {k : Nat} (hk : IsLine M s u 1 k) : pW M s k * sP M s u = 232792560 * pN M s k u 1 := by
  have hl := lnOf_ok hd u
  have e := line_uni hd (by decide) hl hk
  have hw := pW_b hd h0 hk.1
  have hs := scale_int (w := pW M s k) (by omega)
  unfold sP
  rw [e]
  generalize 232792560 / pW M s k = c at hs ⊢
  rw [← Int.mul_assoc, Int.mul_comm _ c, hs]
theorem sP_scaled {C M : St} {s : Nat} (hs : s < 6) (hd : StfD C M s) (h8 : C (43 + 3 * s) 2 = M 8 s) (h0 : M 9 (5 * s) = 0 ∧ M 10 (5 * s) = 0) {x : Int} (hx : 0 ≤ x ∧ x ≤ 2147483647) : pX3_scaledPush C (43 + 3 * s) x = some (sP M s x) := by
  have hl := lnOf_ok hd x
  obtain ⟨c, w, c1, c2, ew, hsc, hS⟩ := scaledPush_ok hs hd h8 h0 hx hl
  have hw := pW_b hd h0 hl.1
  have h1 := sP_w hd h0 hl
  rw [hS]
  congr 1
  have e : (232792560 : Int) = (c : Int) * (w : Int) := by rw [← Int.natCast_mul, ← hsc]; rfl
  rw [e, ew] at h1
  rw [ew] at hw
  have h2 : (w : Int) * ((c : Int) * pN M s (lnOf M s x) x 1) = (w : Int) * sP M s x := by rw [h1]; grind
  exact Int.eq_of_mul_eq_mul_left (by omega) h2
theorem on_line {C M : St} {s : Nat} (hd : StfD C M s) (h0 : M 9 (5 * s) = 0 ∧ M 10 (5 * s) = 0) {u : Int} (hu : 0 ≤ u) {k : Nat} (h : IsLine M s u 1 k) : OnL M s u k := by
  refine ⟨h.1, ?_, ?_⟩
  · rcases h.2.1 with e | e
    · subst e; rw [Nat.add_zero, h0.1]; exact hu
    · omega
  · rcases h.2.2 with e | e
    · exact Or.inl e
    · exact Or.inr (by omega)
theorem sP_on {C M : St} {s : Nat} (hd : StfD C M s) (h0 : M 9 (5 * s) = 0 ∧ M 10 (5 * s) = 0) {u : Int} {k : Nat} (h : OnL M s u k) : pW M s k * sP M s u = 232792560 * pN M s k u 1 := by
  have hl := lnOf_ok hd u
  have h1 := sP_w hd h0 hl
  generalize lnOf M s u = j at hl h1
  obtain ⟨a1, a2, a3⟩ := h
  by_cases e : j = k
  · subst e; exact h1
  · have hj : k < j := by
      rcases Nat.lt_or_ge k j with h | h
      · exact h
      · have := line_gt hd (by decide) hl (j := k) (by omega) a1
        omega
    have hjn := hl.1
    have b1 := line_le hd (by decide) hl (Nat.le_refl j) (by omega)
    have b2 := (stf_mono hd (j - (k + 1)) (k + 1) (by omega)).1
    rw [show k + 1 + (j - (k + 1)) = j by omega] at b2
    have ej : j = k + 1 := by omega
    subst ej
    have eu : u = M 9 (5 * s + (k + 1)) := by omega
    have hw := pW_b hd h0 hl.1
    have e1 : pN M s (k + 1) u 1 = pW M s (k + 1) * M 10 (5 * s + (k + 1)) := by
      unfold pN; rw [eu]; grind
    have e2 : pN M s k u 1 = pW M s k * M 10 (5 * s + (k + 1)) := by
      unfold pN; rw [eu]
      have : M 10 (5 * s + (k + 1)) = M 10 (5 * s + k) + pR M s k := by unfold pR; omega
      have h9 : M 9 (5 * s + (k + 1)) - M 9 (5 * s + k) * 1 = pW M s k := by unfold pW; omega
      rw [h9, this]; grind
    rw [e1] at h1
    have h3 : pW M s (k + 1) * sP M s u = pW M s (k + 1) * (232792560 * M 10 (5 * s + (k + 1))) := by rw [h1]; grind
    have h4 := Int.eq_of_mul_eq_mul_left (by omega) h3
    rw [e2, h4]; grind
theorem pN_add {M : St} {s k : Nat} {u v : Int} : pN M s k v 1 = pN M s k u 1 + (v - u) * pR M s k := by
  unfold pN; grind
theorem sP_zero {C M : St} {s : Nat} (hd : StfD C M s) (h0 : M 9 (5 * s) = 0 ∧ M 10 (5 * s) = 0) : sP M s 0 = 0 := by
  have h1 := hd.1
  have hx := stf_bd hd h0 (k := 1) (by omega)
  have h := sP_on hd h0 (u := 0) (k := 0) ⟨by omega, by rw [Nat.add_zero]; omega, Or.inr (by rw [Nat.zero_add]; omega)⟩
  have hw := pW_b hd h0 (k := 0) (by omega)
  have e : pN M s 0 0 1 = 0 := by unfold pN; rw [Nat.add_zero, h0.1, h0.2]; simp
  rw [e, Int.mul_zero] at h
  rcases Int.mul_eq_zero.1 h with h | h
  · omega
  · exact h
theorem sP_step {C M : St} {s : Nat} (hd : StfD C M s) (h0 : M 9 (5 * s) = 0 ∧ M 10 (5 * s) = 0) {u : Int} (hu : 0 ≤ u) : sP M s u < sP M s (u + 1) := by
  have hl := lnOf_ok hd u
  generalize lnOf M s u = k at hl
  have o1 := on_line hd h0 hu hl
  have o2 : OnL M s (u + 1) k := by
    obtain ⟨a1, a2, a3⟩ := o1
    refine ⟨a1, by omega, ?_⟩
    rcases hl.2.2 with e | e
    · exact Or.inl e
    · exact Or.inr (by omega)
  have h1 := sP_on hd h0 o1
  have h2 := sP_on hd h0 o2
  have hw := pW_b hd h0 o1.1
  rw [pN_add (u := u), show u + 1 - u = 1 by omega, Int.one_mul] at h2
  have h3 : 0 < pW M s k * (sP M s (u + 1) - sP M s u) := by rw [Int.mul_sub]; omega
  have := Int.pos_of_mul_pos_right h3 (by omega)
  omega
theorem sP_bd {C M : St} {s : Nat} (hd : StfD C M s) (h0 : M 9 (5 * s) = 0 ∧ M 10 (5 * s) = 0) {u : Int} (hu : 0 ≤ u) : 0 ≤ sP M s u ∧ sP M s u ≤ 232792560 * (19980 + 999 * u) := by
  have hl := lnOf_ok hd u
  have hN := pN_b hd h0 hu (by decide) hl
  have hw := pW_b hd h0 hl.1
  have hs := scale_int (w := pW M s (lnOf M s u)) (by omega)
  have hc0 : 0 ≤ 232792560 / pW M s (lnOf M s u) := Int.ediv_nonneg (by decide) (by omega)
  have hc1 : 232792560 / pW M s (lnOf M s u) ≤ 232792560 := Int.ediv_le_self _ (by decide)
  unfold sP
  exact ⟨Int.mul_nonneg hc0 hN.1, Int.mul_le_mul hc1 (by omega) hN.1 (by decide)⟩
/-! all of a lid's places -/
def tp (M : St) (p : Nat) : Int := M 21 p - M 25 p
def sx (M : St) (p : Nat) : Nat := (M 19 p).toNat
def fac (M : St) (s : Nat) : Int := if M 0 35 < M 12 s then 3 else 1
def byM (M : St) (p : Nat) : Int := M 22 p * fac M (sx M p)
noncomputable def psh (M : St) (z : Int) (p : Nat) : Int := if 1 ≤ M 18 p ∧ z < tp M p then byM M p * sP M (sx M p) (tp M p - z) else 0
noncomputable def SS (M : St) (z : Int) : Int := sm (psh M z) 4
def TR (T M : St) (p : Nat) : Prop := 1 ≤ M 22 p ∧ M 19 p = (sx M p : Int) ∧ sx M p < 6 ∧ T 18 p = ((43 + 3 * sx M p : Nat) : Int) + 1 ∧ StfD T M (sx M p) ∧ T (43 + 3 * sx M p) 2 = M 8 (sx M p) ∧ M 9 (5 * sx M p) = 0 ∧ M 10 (5 * sx M p) = 0
def TP (T M : St) (p : Nat) : Prop := (-9 ≤ M 18 p ∧ M 18 p ≤ 4 ∧ (M 18 p < 0 → M 18 p = -9)) ∧ T 15 p = (if 1 ≤ M 18 p then 1 else 0) ∧ T 14 p = (if M 18 p = 0 then 1 else 0) ∧ (T 16 p = tp M p ∧ -300 ≤ tp M p ∧ tp M p ≤ 1300) ∧ (T 17 p = M 22 p ∧ 0 ≤ M 22 p ∧ M 22 p ≤ 9) ∧ (1 ≤ M 18 p → TR T M p)
def TM (T M : St) : Prop := (∀ p, p < 4 → TP T M p) ∧ (T 13 5 = M 0 34 ∧ 0 ≤ M 0 34 ∧ M 0 34 ≤ 100998) ∧ (T 13 6 = M 0 35 ∧ -99 ≤ M 0 35 ∧ M 0 35 ≤ 99) ∧ (T 13 7 = M 0 36 ∧ 0 ≤ M 0 36 ∧ M 0 36 ≤ 9999)
theorem fac_b {M : St} {s : Nat} : 1 ≤ fac M s ∧ fac M s ≤ 3 := by
  unfold fac; split <;> omega
theorem byM_b {T M : St} {p : Nat} (h : TP T M p) (hr : 1 ≤ M 18 p) : 1 ≤ byM M p ∧ byM M p ≤ 27 := by
  obtain ⟨-, -, -, -, h5, h6⟩ := h
  have h7 := (h6 hr).1
  have hf := fac_b (M := M) (s := sx M p)
  unfold byM
  have a : 1 * 1 ≤ M 22 p * fac M (sx M p) := Int.mul_le_mul h7 hf.1 (by omega) (by omega)
  have b : M 22 p * fac M (sx M p) ≤ 9 * 3 := Int.mul_le_mul (by omega) hf.2 (by omega) (by omega)
  omega
theorem psh_b {T M : St} {p : Nat} (h : TP T M p) {z : Int} (hz : -2000 ≤ z) : 0 ≤ psh M z p ∧ psh M z p ≤ 20972747730000000 := by
  unfold psh
  split
  · rename_i hc
    have hb := byM_b h hc.1
    obtain ⟨-, -, -, h4, -, h6⟩ := h
    obtain ⟨-, -, -, -, hd, -, h0⟩ := h6 hc.1
    have hs := sP_bd hd h0 (u := tp M p - z) (by omega)
    have e2 : byM M p * sP M (sx M p) (tp M p - z) ≤ 27 * (232792560 * (19980 + 999 * 3300)) := Int.mul_le_mul hb.2 (by omega) hs.1 (by omega)
    exact ⟨Int.mul_nonneg (by omega) hs.1, by omega⟩
  · omega
theorem psh_mono {T M : St} {p : Nat} (h : TP T M p) (z : Int) : psh M (z + 1) p ≤ psh M z p ∧ (1 ≤ M 18 p → z < tp M p → psh M (z + 1) p < psh M z p) := by
  by_cases hc : 1 ≤ M 18 p ∧ z < tp M p
  · have hb := byM_b h hc.1
    obtain ⟨-, -, -, h4, -, h6⟩ := h
    obtain ⟨-, -, -, -, hd, -, h0⟩ := h6 hc.1
    have hs := sP_step hd h0 (u := tp M p - (z + 1)) (by omega)
    rw [show tp M p - (z + 1) + 1 = tp M p - z by omega] at hs
    have hlt : psh M (z + 1) p < psh M z p := by
      unfold psh
      rw [if_pos hc]
      split
      · exact Int.mul_lt_mul_of_pos_left hs (by omega)
      · have e : tp M p - (z + 1) = 0 := by omega
        rw [e, sP_zero hd h0] at hs
        exact Int.mul_pos (by omega) hs
    exact ⟨by omega, fun _ _ => hlt⟩
  · have e1 : psh M z p = 0 := by unfold psh; rw [if_neg hc]
    have e2 : psh M (z + 1) p = 0 := by unfold psh; rw [if_neg (by omega)]
    exact ⟨by omega, fun a b => absurd ⟨a, b⟩ hc⟩
theorem sm_le {f g : Nat → Int} : ∀ {n : Nat}, (∀ i, i < n → f i ≤ g i) → sm f n ≤ sm g n
  | 0, _ => by simp [sm]
  | n + 1, h => by
    have h1 := sm_le (n := n) (fun i hi => h i (by omega))
    have h2 := h n (by omega)
    simp only [sm]; omega
theorem sm_lt {f g : Nat → Int} : ∀ {n : Nat}, (∀ i, i < n → f i ≤ g i) → (∃ i, i < n ∧ f i < g i) → sm f n < sm g n
  | 0, _, ⟨i, hi, _⟩ => by omega
  | n + 1, h, ⟨i, hi, hl⟩ => by
    have h2 := h n (by omega)
    simp only [sm]
    by_cases e : i = n
    · subst e
      have h1 := sm_le (n := i) (fun j hj => h j (by omega))
      omega
    · have h1 := sm_lt (n := n) (fun j hj => h j (by omega)) ⟨i, by omega, hl⟩
      omega
theorem sm_lin {f g k : Nat → Int} {a b c : Int} : ∀ {n : Nat}, (∀ i, i < n → a * f i = b * (g i + c * k i)) → a * sm f n = b * (sm g n + c * sm k n)
  | 0, _ => by simp [sm]
  | n + 1, h => by
    have h1 := sm_lin (n := n) (fun i hi => h i (by omega))
    have h2 := h n (by omega)
    simp only [sm]
    grind
theorem SS_b {T M : St} (h : TM T M) {z : Int} (hz : -2000 ≤ z) : 0 ≤ SS M z ∧ SS M z ≤ 83890990920000000 := by
  have a0 := psh_b (h.1 0 (by decide)) hz
  have a1 := psh_b (h.1 1 (by decide)) hz
  have a2 := psh_b (h.1 2 (by decide)) hz
  have a3 := psh_b (h.1 3 (by decide)) hz
  simp only [SS, sm]
  omega
theorem SS_step {T M : St} (h : TM T M) (z : Int) : SS M (z + 1) ≤ SS M z ∧ ((∃ p, p < 4 ∧ 1 ≤ M 18 p ∧ z < tp M p) → SS M (z + 1) < SS M z) := by
  refine ⟨sm_le (fun p hp => (psh_mono (h.1 p hp) z).1), fun ⟨p, hp, h1, h2⟩ => sm_lt (fun p hp => (psh_mono (h.1 p hp) z).1) ⟨p, hp, (psh_mono (h.1 p hp) z).2 h1 h2⟩⟩
theorem SS_le {T M : St} (h : TM T M) {z : Int} : ∀ d : Nat, SS M (z + d) ≤ SS M z
  | 0 => by simp
  | d + 1 => by
    have h1 := SS_le h (z := z) d
    have h2 := (SS_step h (z + d)).1
    rw [show z + ((d + 1 : Nat) : Int) = z + d + 1 by omega]
    omega
theorem SS_anti {T M : St} (h : TM T M) {y z : Int} (hz : y ≤ z) : SS M z ≤ SS M y := by
  have := SS_le h (z := y) (z - y).toNat
  rwa [show y + ((z - y).toNat : Int) = z by omega] at this
theorem SS_lt {T M : St} (h : TM T M) {y z : Int} (hz : y < z) (hp : ∃ p, p < 4 ∧ 1 ≤ M 18 p ∧ y < tp M p) : SS M z < SS M y := by
  have h1 := (SS_step h y).2 hp
  have h2 := SS_anti h (y := y + 1) (z := z) (by omega)
  omega
theorem SS_top {M : St} {z : Int} (h : ∀ p, p < 4 → 1 ≤ M 18 p → tp M p ≤ z) : SS M z = 0 := by
  have : ∀ p, p < 4 → psh M z p = 0 := fun p hp => by
    unfold psh
    rw [if_neg (fun hc => by have := h p hp hc.1; omega)]
  simp only [SS, sm]
  rw [this 0 (by decide), this 1 (by decide), this 2 (by decide), this 3 (by decide)]; rfl
