/-! THE WORLD AS A FLAT MEMORY: cells at b, b + 1 ..; their shapes stand fixed in a list, their numbers in three functions (cell, place). -/
abbrev Sh : Type := (Nat × List Nat) ⊕ (Nat × Nat × Nat × Nat)
abbrev St : Type := (Nat → Nat → Int32) × (Nat → Nat → Int64) × (Nat → Nat → Option Nat)
def up2 {α : Type} (f : Nat → Nat → α) (q j : Nat) (v : α) : Nat → Nat → α := fun x y => if x = q ∧ y = j then v else f x y
def putI (S : St) (q j : Nat) (v : Int32) : St := (up2 S.1 q j v, S.2.1, S.2.2)
def putL (S : St) (q j : Nat) (v : Int64) : St := (S.1, up2 S.2.1 q j v, S.2.2)
def putR (S : St) (q j : Nat) (v : Option Nat) : St := (S.1, S.2.1, up2 S.2.2 q j v)
theorem up2_ne {α : Type} {f : Nat → Nat → α} {q j x : Nat} {v : α} (h : x ≠ q) : up2 f q j v x = f x := by
  funext y; unfold up2; rw [if_neg (fun e => h e.1)]
theorem up2_row {α : Type} {f : Nat → Nat → α} {q j : Nat} {v : α} : up2 f q j v q = fun y => if y = j then v else f q y := by
  funext y; unfold up2; by_cases h : y = j <;> simp [h]
theorem up2_at {α : Type} {f : Nat → Nat → α} {q j : Nat} {v : α} : up2 f q j v q j = v := by simp [up2]
theorem up2_j {α : Type} {f : Nat → Nat → α} {q j y : Nat} {v : α} (h : y ≠ j) : up2 f q j v q y = f q y := by simp [up2, h]
def fldV (b : Nat) (S : St) (q j : Nat) : Nat → Value
  | 0 => .int (S.1 q j)
  | 1 => .long (S.2.1 q j)
  | 2 => va_rf ((S.2.2 q j).map (b + ·))
  | k + 3 => .ref (b + k)
def fldL (b : Nat) (S : St) (q : Nat) : Nat → List Nat → List Value
  | _, [] => []
  | j, k :: ks => fldV b S q j k :: fldL b S q (j + 1) ks
def refA (b : Nat) (S : St) (q c0 d : Nat) : Nat → Option Nat := fun j => match d with
  | 0 => (S.2.2 q j).map (b + ·)
  | d + 1 => some (b + (c0 + (d + 1) * j))
def arrC (b : Nat) (S : St) (q c0 d : Nat) : Nat → ((Nat → Int32) ⊕ (Nat → Int64) ⊕ (Nat → UInt32) ⊕ (Nat → UInt64) ⊕ (Nat → Option Nat))
  | 0 => .inl (S.1 q)
  | 1 => .inr (.inl (S.2.1 q))
  | 2 => .inl (S.1 q)
  | 3 => .inl (S.1 q)
  | _ => .inr (.inr (.inr (.inr (refA b S q c0 d))))
def cellE (cy : Nat → ClassId) (b : Nat) (S : St) (q : Nat) : Sh → va_E
  | .inl (ci, ks) => .inr (ci, fldL b S q 0 ks)
  | .inr (t, n, c0, d) => .inl (cy t, n, arrC b S q c0 d t)
def wdA (cy : Nat → ClassId) (b : Nat) (S : St) : Nat → List Sh → va_W
  | _, [] => []
  | q, x :: l => (b + q, cellE cy b S q x) :: wdA cy b S (q + 1) l
def wd (cy : Nat → ClassId) (b : Nat) (sh : List Sh) (S : St) : va_W := wdA cy b S 0 sh
theorem wdA_at {cy : Nat → ClassId} {b : Nat} {S : St} : ∀ (sh : List Sh) (o q : Nat), (wdA cy b S o sh)[q]? = (sh[q]?).map (fun x => (b + (o + q), cellE cy b S (o + q) x))
  | [], o, q => by simp [wdA]
  | x :: l, o, 0 => by simp [wdA]
  | x :: l, o, q + 1 => by
    simp only [wdA, List.getElem?_cons_succ]
    rw [wdA_at l (o + 1) q]
    have e : o + 1 + q = o + (q + 1) := by omega
    rw [e]
theorem wd_at {cy : Nat → ClassId} {b : Nat} {S : St} {sh : List Sh} {q : Nat} {x : Sh} (h : sh[q]? = some x) : (wd cy b sh S)[q]? = some (b + q, cellE cy b S q x) := by
  unfold wd; rw [wdA_at, h]; simp
theorem wd_inv {cy : Nat → ClassId} {b : Nat} {S : St} {sh : List Sh} {q : Nat} {y : Nat × va_E} (h : (wd cy b sh S)[q]? = some y) : ∃ x, sh[q]? = some x ∧ y = (b + q, cellE cy b S q x) := by
  unfold wd at h; rw [wdA_at] at h
  cases hx : sh[q]? with
  | none => rw [hx] at h; cases h
  | some x => rw [hx] at h; simp at h; exact ⟨x, rfl, h.symm⟩
theorem fldL_at {b : Nat} {S : St} {q : Nat} : ∀ (ks : List Nat) (o j : Nat), (fldL b S q o ks)[j]? = (ks[j]?).map (fun k => fldV b S q (o + j) k)
  | [], o, j => by simp [fldL]
  | x :: l, o, 0 => by simp [fldL]
  | x :: l, o, j + 1 => by
    simp only [fldL, List.getElem?_cons_succ]
    rw [fldL_at l (o + 1) j]
    have e : o + 1 + j = o + (j + 1) := by omega
    rw [e]
theorem fld_at {b : Nat} {S : St} {q j k : Nat} {ks : List Nat} (h : ks[j]? = some k) : (fldL b S q 0 ks)[j]? = some (fldV b S q j k) := by
  rw [fldL_at, h]; simp
theorem fldL_len {b : Nat} {S : St} {q : Nat} : ∀ (ks : List Nat) (o : Nat), (fldL b S q o ks).length = ks.length
  | [], _ => rfl
  | _ :: l, o => by simp only [fldL, List.length_cons, fldL_len l (o + 1)]
/-- the field j of the cell q is written -/
theorem fld_set {b : Nat} {S S' : St} {q j k : Nat} {ks : List Nat} {v : Value} (h : ks[j]? = some k) (hv : fldV b S' q j k = v) (ho : ∀ i k, i ≠ j → fldV b S' q i k = fldV b S q i k) : (fldL b S q 0 ks).set j v = fldL b S' q 0 ks := by
  apply List.ext_getElem?
  intro i
  rw [List.getElem?_set, fldL_at, fldL_at]
  by_cases e : j = i
  · subst e
    have hl := (List.getElem?_eq_some_iff.mp h).1
    rw [if_pos rfl, if_pos (by rw [fldL_len]; exact hl), h]
    simp [hv]
  · rw [if_neg e]
    cases ks[i]? with
    | none => rfl
    | some k2 => simp [ho i k2 (Ne.symm e)]
/-- the cell q is written -/
theorem wd_set {cy : Nat → ClassId} {b : Nat} {S S' : St} {sh : List Sh} {q : Nat} {x : Sh} {e : va_E} (h : sh[q]? = some x) (he : cellE cy b S' q x = e) (ho : ∀ q' y, q' ≠ q → cellE cy b S' q' y = cellE cy b S q' y) : (wd cy b sh S).set q (b + q, e) = wd cy b sh S' := by
  apply List.ext_getElem?
  intro i
  rw [List.getElem?_set]
  unfold wd
  rw [wdA_at, wdA_at]
  by_cases e2 : q = i
  · subst e2
    have hl := (List.getElem?_eq_some_iff.mp h).1
    have hl2 : q < (wdA cy b S 0 sh).length := by
      have h3 : (wdA cy b S 0 sh)[q]? = some (b + (0 + q), cellE cy b S (0 + q) x) := by rw [wdA_at, h]; rfl
      exact (List.getElem?_eq_some_iff.mp h3).1
    rw [if_pos rfl, if_pos hl2, h]
    simp [he]
  · rw [if_neg e2]
    cases sh[i]? with
    | none => rfl
    | some y => simp [ho i y (Ne.symm e2)]
theorem cellE_congr {cy : Nat → ClassId} {b : Nat} {S S' : St} {q : Nat} (h1 : S'.1 q = S.1 q) (h2 : S'.2.1 q = S.2.1 q) (h3 : S'.2.2 q = S.2.2 q) (y : Sh) : cellE cy b S' q y = cellE cy b S q y := by
  have hf : ∀ (j k : Nat), fldV b S' q j k = fldV b S q j k := by
    intro j k
    match k with
    | 0 => simp [fldV, h1]
    | 1 => simp [fldV, h2]
    | 2 => simp [fldV, h3]
    | k + 3 => rfl
  cases y with
  | inl p =>
    obtain ⟨ci, ks⟩ := p
    have : ∀ (ks : List Nat) (o : Nat), fldL b S' q o ks = fldL b S q o ks := by
      intro ks
      induction ks with
      | nil => intro o; rfl
      | cons k ks ih => intro o; simp [fldL, hf, ih]
    simp [cellE, this]
  | inr p =>
    obtain ⟨t, n, c0, d⟩ := p
    have hr : refA b S' q c0 d = refA b S q c0 d := by funext j; unfold refA; rw [h3]
    have : arrC b S' q c0 d t = arrC b S q c0 d t := by
      unfold arrC
      split <;> simp [h1, h2, hr]
    simp [cellE, this]
theorem wd_putI {cy : Nat → ClassId} {b : Nat} {S : St} {sh : List Sh} {q j : Nat} {x : Sh} {v : Int32} {e : va_E} (h : sh[q]? = some x) (he : cellE cy b (putI S q j v) q x = e) : (wd cy b sh S).set q (b + q, e) = wd cy b sh (putI S q j v) :=
  wd_set h he (fun q' y hq => cellE_congr (S := S) (S' := putI S q j v) (up2_ne hq) rfl rfl y)
theorem wd_putL {cy : Nat → ClassId} {b : Nat} {S : St} {sh : List Sh} {q j : Nat} {x : Sh} {v : Int64} {e : va_E} (h : sh[q]? = some x) (he : cellE cy b (putL S q j v) q x = e) : (wd cy b sh S).set q (b + q, e) = wd cy b sh (putL S q j v) :=
  wd_set h he (fun q' y hq => cellE_congr (S := S) (S' := putL S q j v) rfl (up2_ne hq) rfl y)
theorem wd_putR {cy : Nat → ClassId} {b : Nat} {S : St} {sh : List Sh} {q j : Nat} {x : Sh} {v : Option Nat} {e : va_E} (h : sh[q]? = some x) (he : cellE cy b (putR S q j v) q x = e) : (wd cy b sh S).set q (b + q, e) = wd cy b sh (putR S q j v) :=
  wd_set h he (fun q' y hq => cellE_congr (S := S) (S' := putR S q j v) rfl rfl (up2_ne hq) y)
theorem cell_fldI {cy : Nat → ClassId} {b : Nat} {S : St} {q j ci : Nat} {ks : List Nat} {v : Int32} (h : ks[j]? = some 0) : cellE cy b (putI S q j v) q (.inl (ci, ks)) = .inr (ci, (fldL b S q 0 ks).set j (.int v)) := by
  simp only [cellE]
  rw [fld_set (S' := putI S q j v) h (by simp [fldV, putI, up2_at]) (fun i k hi => by
    match k with
    | 0 => simp [fldV, putI, up2_j hi]
    | 1 => rfl
    | 2 => rfl
    | k + 3 => rfl)]
theorem cell_fldL {cy : Nat → ClassId} {b : Nat} {S : St} {q j ci : Nat} {ks : List Nat} {v : Int64} (h : ks[j]? = some 1) : cellE cy b (putL S q j v) q (.inl (ci, ks)) = .inr (ci, (fldL b S q 0 ks).set j (.long v)) := by
  simp only [cellE]
  rw [fld_set (S' := putL S q j v) h (by simp [fldV, putL, up2_at]) (fun i k hi => by
    match k with
    | 0 => rfl
    | 1 => simp [fldV, putL, up2_j hi]
    | 2 => rfl
    | k + 3 => rfl)]
theorem cell_fldR {cy : Nat → ClassId} {b : Nat} {S : St} {q j ci : Nat} {ks : List Nat} {v : Option Nat} (h : ks[j]? = some 2) : cellE cy b (putR S q j v) q (.inl (ci, ks)) = .inr (ci, (fldL b S q 0 ks).set j (va_rf (v.map (b + ·)))) := by
  simp only [cellE]
  rw [fld_set (S' := putR S q j v) h (by simp [fldV, putR, up2_at]) (fun i k hi => by
    match k with
    | 0 => rfl
    | 1 => rfl
    | 2 => simp [fldV, putR, up2_j hi]
    | k + 3 => rfl)]
def inR (b N : Nat) : Nat → Prop := fun q => b ≤ q ∧ q < b + N
theorem wd_D {cy : Nat → ClassId} {b N : Nat} {S : St} {sh : List Sh} (h : sh.length ≤ N) : va_D (inR b N) (wd cy b sh S) := by
  refine ⟨fun i j x y hi hj hxy => ?_, fun k x hk => ?_⟩
  · obtain ⟨x', -, rfl⟩ := wd_inv hi
    obtain ⟨y', -, rfl⟩ := wd_inv hj
    have : b + i = b + j := hxy
    omega
  · obtain ⟨x', hx, rfl⟩ := wd_inv hk
    have hl := (List.getElem?_eq_some_iff.mp hx).1
    exact ⟨Nat.le_add_right _ _, by show b + k < b + N; omega⟩
def tysOf (cy : Nat → ClassId) : List (ClassId × FieldType) := [(cy 0, .int), (cy 1, .long), (cy 2, .byte), (cy 3, .boolean), (cy 4, .object RX1), (cy 5, .object RX3), (cy 6, .object RX2)]
/-! the locals as a list: none where nothing is known -/
def lvA : Nat → List (Option Value) → List (Nat × Value)
  | _, [] => []
  | i, none :: l => lvA (i + 1) l
  | i, some v :: l => (i, v) :: lvA (i + 1) l
theorem lvA_ge : ∀ (l : List (Option Value)) (o k : Nat) (w : Value), (k, w) ∈ lvA o l → o ≤ k
  | [], o, k, w, h => by simp [lvA] at h
  | none :: l, o, k, w, h => by
    have := lvA_ge l (o + 1) k w h
    omega
  | some v :: l, o, k, w, h => by
    rcases List.mem_cons.mp h with e | h
    · cases e; exact Nat.le_refl _
    · have := lvA_ge l (o + 1) k w h
      omega
theorem lvA_mem : ∀ (l : List (Option Value)) (o k : Nat) (w : Value), l[k]? = some (some w) → (o + k, w) ∈ lvA o l
  | [], o, k, w, h => by simp at h
  | none :: l, o, 0, w, h => by simp at h
  | some v :: l, o, 0, w, h => by simp at h; subst h; exact List.mem_cons_self
  | none :: l, o, k + 1, w, h => by
    have := lvA_mem l (o + 1) k w (by simpa using h)
    have e : o + 1 + k = o + (k + 1) := by omega
    rw [e] at this; exact this
  | some v :: l, o, k + 1, w, h => by
    have := lvA_mem l (o + 1) k w (by simpa using h)
    have e : o + 1 + k = o + (k + 1) := by omega
    rw [e] at this; exact List.mem_cons_of_mem _ this
def kl : Option Value → Option Value
  | some (.long _) => none
  | some (.double _) => none
  | w => w
def kz : Nat → Option Value → Option Value
  | 0, w => kl w
  | _ + 1, w => w
def st1 : List (Option Value) → Nat → Value → List (Option Value)
  | [], _, _ => []
  | _ :: l, 0, v => some v :: l
  | w :: l, i + 1, v => kz i w :: st1 l i v
def hd0 : List (Option Value) → List (Option Value)
  | [] => []
  | _ :: l => none :: l
def st2 : List (Option Value) → Nat → Value → List (Option Value)
  | [], _, _ => []
  | _ :: l, 0, v => some v :: hd0 l
  | w :: l, i + 1, v => kz i w :: st2 l i v
theorem kl_some {w : Option Value} {v : Value} (h : kl w = some v) : w = some v ∧ v.category ≠ 2 := by
  unfold kl at h
  split at h
  · cases h
  · cases h
  · rename_i h1 h2
    subst h
    refine ⟨rfl, fun hc => ?_⟩
    cases v <;> simp [Value.category] at hc
    · exact h1 _ rfl
    · exact h2 _ rfl
theorem lvA_cons {w : Option Value} {l : List (Option Value)} {o : Nat} {x : Nat × Value} : x ∈ lvA o (w :: l) ↔ (w = some x.2 ∧ x.1 = o) ∨ x ∈ lvA (o + 1) l := by
  cases w with
  | none => simp [lvA]
  | some v =>
    obtain ⟨a, c⟩ := x
    simp [lvA]
    constructor
    · rintro (⟨rfl, rfl⟩ | h)
      · exact Or.inl ⟨rfl, rfl⟩
      · exact Or.inr h
    · rintro (⟨rfl, rfl⟩ | h)
      · exact Or.inl ⟨rfl, rfl⟩
      · exact Or.inr h
theorem st1_mem : ∀ (l : List (Option Value)) (o i : Nat) (v : Value) (x : Nat × Value), x ∈ lvA o (st1 l i v) → (x = (o + i, v)) ∨ (x ∈ lvA o l ∧ x.1 ≠ o + i ∧ ¬ (x.1 + 1 = o + i ∧ x.2.category = 2))
  | [], o, i, v, x, h => by simp [st1, lvA] at h
  | w :: l, o, 0, v, x, h => by
    rw [st1, lvA_cons] at h
    rcases h with ⟨h1, h2⟩ | h
    · left
      obtain ⟨a, c⟩ := x
      simp at h1 h2
      simp [h1, h2]
    · have := lvA_ge l (o + 1) x.1 x.2 h
      exact Or.inr ⟨lvA_cons.mpr (Or.inr h), by omega, by omega⟩
  | w :: l, o, i + 1, v, x, h => by
    rw [st1, lvA_cons] at h
    rcases h with ⟨h1, h2⟩ | h
    · right
      cases i with
      | zero =>
        obtain ⟨e1, e2⟩ := kl_some h1
        exact ⟨lvA_cons.mpr (Or.inl ⟨e1, h2⟩), by omega, fun z => e2 z.2⟩
      | succ i => exact ⟨lvA_cons.mpr (Or.inl ⟨h1, h2⟩), by omega, fun z => by omega⟩
    · rcases st1_mem l (o + 1) i v x h with e | ⟨a1, a2, a3⟩
      · left; rw [e]; congr 1; omega
      · refine Or.inr ⟨lvA_cons.mpr (Or.inr a1), by omega, fun z => a3 ⟨by omega, z.2⟩⟩
theorem st2_mem : ∀ (l : List (Option Value)) (o i : Nat) (v : Value) (x : Nat × Value), x ∈ lvA o (st2 l i v) → (x = (o + i, v)) ∨ (x ∈ lvA o l ∧ x.1 ≠ o + i ∧ x.1 ≠ o + i + 1 ∧ ¬ (x.1 + 1 = o + i ∧ x.2.category = 2))
  | [], o, i, v, x, h => by simp [st2, lvA] at h
  | w :: l, o, 0, v, x, h => by
    rw [st2, lvA_cons] at h
    rcases h with ⟨h1, h2⟩ | h
    · left
      obtain ⟨a, c⟩ := x
      simp at h1 h2
      simp [h1, h2]
    · cases l with
      | nil => simp [hd0, lvA] at h
      | cons w2 l =>
        simp only [hd0] at h
        rw [lvA_cons] at h
        rcases h with ⟨h1, -⟩ | h
        · cases h1
        · have := lvA_ge l (o + 1 + 1) x.1 x.2 h
          exact Or.inr ⟨lvA_cons.mpr (Or.inr (lvA_cons.mpr (Or.inr h))), by omega, by omega, by omega⟩
  | w :: l, o, i + 1, v, x, h => by
    rw [st2, lvA_cons] at h
    rcases h with ⟨h1, h2⟩ | h
    · right
      cases i with
      | zero =>
        obtain ⟨e1, e2⟩ := kl_some h1
        exact ⟨lvA_cons.mpr (Or.inl ⟨e1, h2⟩), by omega, by omega, fun z => e2 z.2⟩
      | succ i => exact ⟨lvA_cons.mpr (Or.inl ⟨h1, h2⟩), by omega, by omega, fun z => by omega⟩
    · rcases st2_mem l (o + 1) i v x h with e | ⟨a1, a2, a3, a4⟩
      · left; rw [e]; congr 1; omega
      · refine Or.inr ⟨lvA_cons.mpr (Or.inr a1), by omega, by omega, fun z => a4 ⟨by omega, z.2⟩⟩
/-- fewer values known -/
def msk : List Bool → List (Option Value) → List (Option Value)
  | true :: ms, w :: l => w :: msk ms l
  | false :: ms, _ :: l => none :: msk ms l
  | _, _ => []
theorem msk_mem : ∀ (ms : List Bool) (l : List (Option Value)) (o : Nat) (x : Nat × Value), x ∈ lvA o (msk ms l) → x ∈ lvA o l
  | true :: ms, w :: l, o, x, h => by
    rw [msk, lvA_cons] at h
    exact lvA_cons.mpr (h.imp id (msk_mem ms l (o + 1) x))
  | false :: ms, w :: l, o, x, h => by
    rw [msk, lvA_cons] at h
    rcases h with ⟨h1, -⟩ | h
    · cases h1
    · exact lvA_cons.mpr (Or.inr (msk_mem ms l (o + 1) x h))
  | [], _, o, x, h => by simp [msk, lvA] at h
  | true :: ms, [], o, x, h => by simp [msk, lvA] at h
  | false :: ms, [], o, x, h => by simp [msk, lvA] at h
