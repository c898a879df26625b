/-! THE WORLD AS A FLAT MEMORY over the whole numbers: cells at b, b + 1 ..; their shapes stand fixed in a list, their numbers in one function (cell, place). A reference to the cell q is q + 1, null is 0. -/
abbrev Sh : Type := (Nat × List Nat) ⊕ (Nat × Nat × Nat × Nat)
abbrev St : Type := Nat → Nat → Int
def iI (x : Int) : Int32 := Int32.ofInt x
def lI (x : Int) : Int64 := Int64.ofInt x
def vi (x : Int) : Value := .int (iI x)
def vl (x : Int) : Value := .long (lI x)
def put (S : St) (q j : Nat) (v : Int) : St := fun x y => if x = q ∧ y = j then v else S x y
def rf (b : Nat) (x : Int) : Option Nat := if 0 < x then some (b + (x - 1).toNat) else none
theorem put_ne {S : St} {q j x : Nat} {v : Int} (h : x ≠ q) : put S q j v x = S x := by
  funext y; unfold put; rw [if_neg (fun e => h e.1)]
theorem put_at {S : St} {q j : Nat} {v : Int} : put S q j v q j = v := by simp [put]
theorem put_j {S : St} {q j y : Nat} {v : Int} (h : y ≠ j) : put S q j v q y = S q y := by simp [put, h]
theorem rf_succ {b q : Nat} : rf b ((q : Int) + 1) = some (b + q) := by
  unfold rf
  rw [if_pos (by omega)]
  congr 2
  omega
def fldV (b : Nat) (S : St) (q j : Nat) : Nat → Value
  | 0 => vi (S q j)
  | 1 => vl (S q j)
  | 2 => va_rf (rf b (S q j))
  | k + 3 => .ref (b + k)
def fldL (b : Nat) (S : St) (q : Nat) : Nat → List Nat → List Value
  | _, [] => []
  | j, k :: ks => fldV b S q j k :: fldL b S q (j + 1) ks
def refA (b : Nat) (S : St) (q c0 d : Nat) : Nat → Option Nat := fun j => match d with
  | 0 => rf b (S q j)
  | d + 1 => some (b + (c0 + (d + 1) * j))
def arrC (b : Nat) (S : St) (q c0 d : Nat) : Nat → ((Nat → Int32) ⊕ (Nat → Int64) ⊕ (Nat → UInt32) ⊕ (Nat → UInt64) ⊕ (Nat → Option Nat))
  | 0 => .inl (fun j => iI (S q j))
  | 1 => .inr (.inl (fun j => lI (S q j)))
  | 2 => .inl (fun j => iI (S q j))
  | 3 => .inl (fun j => iI (S q j))
  | _ => .inr (.inr (.inr (.inr (refA b S q c0 d))))
def cellE (cy : Nat → ClassId) (b : Nat) (S : St) (q : Nat) : Sh → va_E
  | .inl (ci, ks) => .inr (ci, fldL b S q 0 ks)
  | .inr (t, n, c0, d) => .inl (cy t, n, arrC b S q c0 d t)
def wdA (cy : Nat → ClassId) (b : Nat) (S : St) : Nat → List Sh → va_W
  | _, [] => []
  | q, x :: l => (b + q, cellE cy b S q x) :: wdA cy b S (q + 1) l
def wd (cy : Nat → ClassId) (b : Nat) (sh : List Sh) (S : St) : va_W := wdA cy b S 0 sh
theorem wdA_at {cy : Nat → ClassId} {b : Nat} {S : St} : ∀ (sh : List Sh) (o q : Nat), (wdA cy b S o sh)[q]? = (sh[q]?).map (fun x => (b + (o + q), cellE cy b S (o + q) x))
  | [], o, q => by simp [wdA]
  | x :: l, o, 0 => by simp [wdA]
  | x :: l, o, q + 1 => by
    simp only [wdA, List.getElem?_cons_succ]
    rw [wdA_at l (o + 1) q]
    have e : o + 1 + q = o + (q + 1) := by omega
    rw [e]
theorem wd_at {cy : Nat → ClassId} {b : Nat} {S : St} {sh : List Sh} {q : Nat} {x : Sh} (h : sh[q]? = some x) : (wd cy b sh S)[q]? = some (b + q, cellE cy b S q x) := by
  unfold wd; rw [wdA_at, h]; simp
theorem wd_inv {cy : Nat → ClassId} {b : Nat} {S : St} {sh : List Sh} {q : Nat} {y : Nat × va_E} (h : (wd cy b sh S)[q]? = some y) : ∃ x, sh[q]? = some x ∧ y = (b + q, cellE cy b S q x) := by
  unfold wd at h; rw [wdA_at] at h
  cases hx : sh[q]? with
  | none => rw [hx] at h; cases h
  | some x => rw [hx] at h; simp at h; exact ⟨x, rfl, h.symm⟩
theorem fldL_at {b : Nat} {S : St} {q : Nat} : ∀ (ks : List Nat) (o j : Nat), (fldL b S q o ks)[j]? = (ks[j]?).map (fun k => fldV b S q (o + j) k)
  | [], o, j => by simp [fldL]
  | x :: l, o, 0 => by simp [fldL]
  | x :: l, o, j + 1 => by
    simp only [fldL, List.getElem?_cons_succ]
    rw [fldL_at l (o + 1) j]
    have e : o + 1 + j = o + (j + 1) := by omega
    rw [e]
theorem fld_at {b : Nat} {S : St} {q j k : Nat} {ks : List Nat} (h : ks[j]? = some k) : (fldL b S q 0 ks)[j]? = some (fldV b S q j k) := by
  rw [fldL_at, h]; simp
theorem fldL_len {b : Nat} {S : St} {q : Nat} : ∀ (ks : List Nat) (o : Nat), (fldL b S q o ks).length = ks.length
  | [], _ => rfl
  | _ :: l, o => by simp only [fldL, List.length_cons, fldL_len l (o + 1)]
/-- the field j of the cell q is written -/
theorem fld_set {b : Nat} {S S' : St} {q j k : Nat} {ks : List Nat} {v : Value} (h : ks[j]? = some k) (hv : fldV b S' q j k = v) (ho : ∀ i k, i ≠ j → fldV b S' q i k = fldV b S q i k) : (fldL b S q 0 ks).set j v = fldL b S' q 0 ks := by
  apply List.ext_getElem?
  intro i
  rw [List.getElem?_set, fldL_at, fldL_at]
  by_cases e : j = i
  · subst e
    have hl := (List.getElem?_eq_some_iff.mp h).1
    rw [if_pos rfl, if_pos (by rw [fldL_len]; exact hl), h]
    simp [hv]
  · rw [if_neg e]
    cases ks[i]? with
    | none => rfl
    | some k2 => simp [ho i k2 (Ne.symm e)]
/-- the cell q is written -/
theorem wd_set {cy : Nat → ClassId} {b : Nat} {S S' : St} {sh : List Sh} {q : Nat} {x : Sh} {e : va_E} (h : sh[q]? = some x) (he : cellE cy b S' q x = e) (ho : ∀ q' y, q' ≠ q → cellE cy b S' q' y = cellE cy b S q' y) : (wd cy b sh S).set q (b + q, e) = wd cy b sh S' := by
  apply List.ext_getElem?
  intro i
  rw [List.getElem?_set]
  unfold wd
  rw [wdA_at, wdA_at]
  by_cases e2 : q = i
  · subst e2
    have hl := (List.getElem?_eq_some_iff.mp h).1
    have hl2 : q < (wdA cy b S 0 sh).length := by
      have h3 : (wdA cy b S 0 sh)[q]? = some (b + (0 + q), cellE cy b S (0 + q) x) := by rw [wdA_at, h]; rfl
      exact (List.getElem?_eq_some_iff.mp h3).1
    rw [if_pos rfl, if_pos hl2, h]
    simp [he]
  · rw [if_neg e2]
    cases sh[i]? with
    | none => rfl
    | some y => simp [ho i y (Ne.symm e2)]
theorem fldV_congr {b : Nat} {S S' : St} {q j : Nat} (h : S' q j = S q j) (k : Nat) : fldV b S' q j k = fldV b S q j k := by
  match k with
  | 0 => simp [fldV, h]
  | 1 => simp [fldV, h]
  | 2 => simp [fldV, h]
  | k + 3 => rfl
theorem cellE_congr {cy : Nat → ClassId} {b : Nat} {S S' : St} {q : Nat} (h : S' q = S q) (y : Sh) : cellE cy b S' q y = cellE cy b S q y := by
  have hf : ∀ (j k : Nat), fldV b S' q j k = fldV b S q j k := fun j k => fldV_congr (by rw [h]) k
  cases y with
  | inl p =>
    obtain ⟨ci, ks⟩ := p
    have : ∀ (ks : List Nat) (o : Nat), fldL b S' q o ks = fldL b S q o ks := by
      intro ks
      induction ks with
      | nil => intro o; rfl
      | cons k ks ih => intro o; simp [fldL, hf, ih]
    simp [cellE, this]
  | inr p =>
    obtain ⟨t, n, c0, d⟩ := p
    have hr : refA b S' q c0 d = refA b S q c0 d := by funext j; unfold refA; rw [h]
    have : arrC b S' q c0 d t = arrC b S q c0 d t := by
      unfold arrC
      split <;> simp [h, hr]
    simp [cellE, this]
theorem wd_put {cy : Nat → ClassId} {b : Nat} {S : St} {sh : List Sh} {q j : Nat} {x : Sh} {v : Int} {e : va_E} (h : sh[q]? = some x) (he : cellE cy b (put S q j v) q x = e) : (wd cy b sh S).set q (b + q, e) = wd cy b sh (put S q j v) :=
  wd_set h he (fun q' y hq => cellE_congr (S := S) (S' := put S q j v) (put_ne hq) y)
theorem cell_fld {cy : Nat → ClassId} {b : Nat} {S : St} {q j ci k : Nat} {ks : List Nat} {v : Int} {w : Value} (h : ks[j]? = some k) (hw : fldV b (put S q j v) q j k = w) : cellE cy b (put S q j v) q (.inl (ci, ks)) = .inr (ci, (fldL b S q 0 ks).set j w) := by
  simp only [cellE]
  rw [fld_set (S' := put S q j v) h hw (fun i k hi => fldV_congr (put_j hi) k)]
def inR (b N : Nat) : Nat → Prop := fun q => b ≤ q ∧ q < b + N
theorem wd_D {cy : Nat → ClassId} {b N : Nat} {S : St} {sh : List Sh} (h : sh.length ≤ N) : va_D (inR b N) (wd cy b sh S) := by
  refine ⟨fun i j x y hi hj hxy => ?_, fun k x hk => ?_⟩
  · obtain ⟨x', -, rfl⟩ := wd_inv hi
    obtain ⟨y', -, rfl⟩ := wd_inv hj
    have : b + i = b + j := hxy
    omega
  · obtain ⟨x', hx, rfl⟩ := wd_inv hk
    have hl := (List.getElem?_eq_some_iff.mp hx).1
    exact ⟨Nat.le_add_right _ _, by show b + k < b + N; omega⟩
def tysOf (cy : Nat → ClassId) : List (ClassId × FieldType) := [(cy 0, .int), (cy 1, .long), (cy 2, .byte), (cy 3, .boolean), (cy 4, .object RX1), (cy 5, .object RX3), (cy 6, .object RX2)]
/-! whole numbers and the machine's -/
abbrev in32 (x : Int) : Prop := -2147483648 ≤ x ∧ x ≤ 2147483647
abbrev in64 (x : Int) : Prop := -9223372036854775808 ≤ x ∧ x ≤ 9223372036854775807
theorem iI_toInt {x : Int} (h : in32 x) : (iI x).toInt = x := Int32.toInt_ofInt_of_le (by have := h.1; omega) (by have := h.2; omega)
theorem lI_toInt {x : Int} (h : in64 x) : (lI x).toInt = x := Int64.toInt_ofInt_of_le (by have := h.1; omega) (by have := h.2; omega)
theorem iI_lt {x y : Int} (hx : in32 x) (hy : in32 y) : iI x < iI y ↔ x < y := by
  rw [Int32.lt_iff_toInt_lt, iI_toInt hx, iI_toInt hy]
theorem iI_le {x y : Int} (hx : in32 x) (hy : in32 y) : iI x ≤ iI y ↔ x ≤ y := by
  rw [Int32.le_iff_toInt_le, iI_toInt hx, iI_toInt hy]
theorem iI_eq {x y : Int} (hx : in32 x) (hy : in32 y) : iI x = iI y ↔ x = y := by
  constructor
  · intro h; have := congrArg Int32.toInt h; rwa [iI_toInt hx, iI_toInt hy] at this
  · intro h; rw [h]
theorem lI_lt {x y : Int} (hx : in64 x) (hy : in64 y) : lI x < lI y ↔ x < y := by
  rw [Int64.lt_iff_toInt_lt, lI_toInt hx, lI_toInt hy]
theorem lI_le {x y : Int} (hx : in64 x) (hy : in64 y) : lI x ≤ lI y ↔ x ≤ y := by
  rw [Int64.le_iff_toInt_le, lI_toInt hx, lI_toInt hy]
theorem lI_eq {x y : Int} (hx : in64 x) (hy : in64 y) : lI x = lI y ↔ x = y := by
  constructor
  · intro h; have := congrArg Int64.toInt h; rwa [lI_toInt hx, lI_toInt hy] at this
  · intro h; rw [h]
theorem iI_0 : iI 0 = 0 := by decide
theorem lI_0 : lI 0 = 0 := by decide
theorem in32_0 : in32 0 := ⟨by decide, by decide⟩
theorem in64_0 : in64 0 := ⟨by decide, by decide⟩
theorem iI_add (x y : Int) : iI x + iI y = iI (x + y) := (Int32.ofInt_add x y).symm
theorem iI_sub (x y : Int) : iI x - iI y = iI (x - y) := (Int32.ofInt_sub x y).symm
theorem iI_mul (x y : Int) : iI x * iI y = iI (x * y) := (Int32.ofInt_mul x y).symm
theorem iI_neg (x : Int) : - iI x = iI (-x) := (Int32.ofInt_neg x).symm
theorem lI_add (x y : Int) : lI x + lI y = lI (x + y) := (Int64.ofInt_add x y).symm
theorem lI_sub (x y : Int) : lI x - lI y = lI (x - y) := (Int64.ofInt_sub x y).symm
theorem lI_mul (x y : Int) : lI x * lI y = lI (x * y) := (Int64.ofInt_mul x y).symm
theorem lI_neg (x : Int) : - lI x = lI (-x) := (Int64.ofInt_neg x).symm
theorem iI_div {x y : Int} (hx : in32 x) (hy : in32 y) : iI x / iI y = iI (x.tdiv y) :=
  (Int32.ofInt_tdiv (by simpa using hx.1) (by rw [show Int32.maxValue.toInt = 2147483647 from by decide]; exact hx.2) (by simpa using hy.1) (by rw [show Int32.maxValue.toInt = 2147483647 from by decide]; exact hy.2)).symm
theorem lI_div {x y : Int} (hx : in64 x) (hy : in64 y) : lI x / lI y = lI (x.tdiv y) :=
  (Int64.ofInt_tdiv (by simpa using hx.1) (by rw [show Int64.maxValue.toInt = 9223372036854775807 from by decide]; exact hx.2) (by simpa using hy.1) (by rw [show Int64.maxValue.toInt = 9223372036854775807 from by decide]; exact hy.2)).symm
theorem iI_rem {x y : Int} (hx : in32 x) (hy : in32 y) : iI x - iI x / iI y * iI y = iI (x.tmod y) := by
  rw [iI_div hx hy, iI_mul, iI_sub, Int.tmod_def, Int.mul_comm]
theorem lI_rem {x y : Int} (hx : in64 x) (hy : in64 y) : lI x - lI x / lI y * lI y = lI (x.tmod y) := by
  rw [lI_div hx hy, lI_mul, lI_sub, Int.tmod_def, Int.mul_comm]
theorem iI_l {x : Int} (hx : in32 x) : (iI x).toInt64 = lI x := Int32.toInt64_ofInt (by simpa using hx.1) (by rw [show Int32.maxValue.toInt = 2147483647 from by decide]; exact hx.2)
theorem lI_i (x : Int) : (lI x).toInt32 = iI x := Int64.toInt32_ofInt
theorem iI_b (x : Int) : (iI x).toInt8.toInt32 = iI (x.bmod 256) := by
  unfold iI
  rw [Int32.toInt8_ofInt]
  apply Int32.toInt_inj.mp
  rw [Int8.toInt_toInt32, Int8.toInt_ofInt, Int32.toInt_ofInt_of_le]
  · have := Int.le_bmod (x := x) (m := 256) (by omega); omega
  · have := Int.bmod_lt (x := x) (m := 256) (by omega); omega
theorem iI_vp {i : Int} {n : Nat} (hn : n ≤ 2147483647) (h : 0 ≤ i ∧ i < n) : vp_in (iI i) n := by
  rw [vp_in_iff, iI_toInt ⟨by omega, by omega⟩]; exact h
theorem iI_cl {i : Int} (h : 0 ≤ i) (h2 : i ≤ 2147483647) : (iI i).toNatClampNeg = i.toNat := by
  rw [← Int32.toNat_toInt, iI_toInt ⟨by omega, by omega⟩]
/-! the locals as a list: none where nothing is known -/
def lvA : Nat → List (Option Value) → List (Nat × Value)
  | _, [] => []
  | i, none :: l => lvA (i + 1) l
  | i, some v :: l => (i, v) :: lvA (i + 1) l
theorem lvA_ge : ∀ (l : List (Option Value)) (o k : Nat) (w : Value), (k, w) ∈ lvA o l → o ≤ k
  | [], o, k, w, h => by simp [lvA] at h
  | none :: l, o, k, w, h => by
    have := lvA_ge l (o + 1) k w h
    omega
  | some v :: l, o, k, w, h => by
    rcases List.mem_cons.mp h with e | h
    · cases e; exact Nat.le_refl _
    · have := lvA_ge l (o + 1) k w h
      omega
theorem lvA_mem : ∀ (l : List (Option Value)) (o k : Nat) (w : Value), l[k]? = some (some w) → (o + k, w) ∈ lvA o l
  | [], o, k, w, h => by simp at h
  | none :: l, o, 0, w, h => by simp at h
  | some v :: l, o, 0, w, h => by simp at h; subst h; exact List.mem_cons_self
  | none :: l, o, k + 1, w, h => by
    have := lvA_mem l (o + 1) k w (by simpa using h)
    have e : o + 1 + k = o + (k + 1) := by omega
    rw [e] at this; exact this
  | some v :: l, o, k + 1, w, h => by
    have := lvA_mem l (o + 1) k w (by simpa using h)
    have e : o + 1 + k = o + (k + 1) := by omega
    rw [e] at this; exact List.mem_cons_of_mem _ this
def kl : Option Value → Option Value
  | some (.long _) => none
  | some (.double _) => none
  | w => w
def kz : Nat → Option Value → Option Value
  | 0, w => kl w
  | _ + 1, w => w
def st1 : List (Option Value) → Nat → Value → List (Option Value)
  | [], _, _ => []
  | _ :: l, 0, v => some v :: l
  | w :: l, i + 1, v => kz i w :: st1 l i v
def hd0 : List (Option Value) → List (Option Value)
  | [] => []
  | _ :: l => none :: l
def st2 : List (Option Value) → Nat → Value → List (Option Value)
  | [], _, _ => []
  | _ :: l, 0, v => some v :: hd0 l
  | w :: l, i + 1, v => kz i w :: st2 l i v
theorem kl_some {w : Option Value} {v : Value} (h : kl w = some v) : w = some v ∧ v.category ≠ 2 := by
  unfold kl at h
  split at h
  · cases h
  · cases h
  · rename_i h1 h2
    subst h
    refine ⟨rfl, fun hc => ?_⟩
    cases v <;> simp [Value.category] at hc
    · exact h1 _ rfl
    · exact h2 _ rfl
theorem lvA_cons {w : Option Value} {l : List (Option Value)} {o : Nat} {x : Nat × Value} : x ∈ lvA o (w :: l) ↔ (w = some x.2 ∧ x.1 = o) ∨ x ∈ lvA (o + 1) l := by
  cases w with
  | none => simp [lvA]
  | some v =>
    obtain ⟨a, c⟩ := x
    simp [lvA]
    constructor
    · rintro (⟨rfl, rfl⟩ | h)
      · exact Or.inl ⟨rfl, rfl⟩
      · exact Or.inr h
    · rintro (⟨rfl, rfl⟩ | h)
      · exact Or.inl ⟨rfl, rfl⟩
      · exact Or.inr h
theorem st1_mem : ∀ (l : List (Option Value)) (o i : Nat) (v : Value) (x : Nat × Value), x ∈ lvA o (st1 l i v) → (x = (o + i, v)) ∨ (x ∈ lvA o l ∧ x.1 ≠ o + i ∧ ¬ (x.1 + 1 = o + i ∧ x.2.category = 2))
  | [], o, i, v, x, h => by simp [st1, lvA] at h
  | w :: l, o, 0, v, x, h => by
    rw [st1, lvA_cons] at h
    rcases h with ⟨h1, h2⟩ | h
    · left
      obtain ⟨a, c⟩ := x
      simp at h1 h2
      simp [h1, h2]
    · have := lvA_ge l (o + 1) x.1 x.2 h
      exact Or.inr ⟨lvA_cons.mpr (Or.inr h), by omega, by omega⟩
  | w :: l, o, i + 1, v, x, h => by
    rw [st1, lvA_cons] at h
    rcases h with ⟨h1, h2⟩ | h
    · right
      cases i with
      | zero =>
        obtain ⟨e1, e2⟩ := kl_some h1
        exact ⟨lvA_cons.mpr (Or.inl ⟨e1, h2⟩), by omega, fun z => e2 z.2⟩
      | succ i => exact ⟨lvA_cons.mpr (Or.inl ⟨h1, h2⟩), by omega, fun z => by omega⟩
    · rcases st1_mem l (o + 1) i v x h with e | ⟨a1, a2, a3⟩
      · left; rw [e]; congr 1; omega
      · refine Or.inr ⟨lvA_cons.mpr (Or.inr a1), by omega, fun z => a3 ⟨by omega, z.2⟩⟩
theorem st2_mem : ∀ (l : List (Option Value)) (o i : Nat) (v : Value) (x : Nat × Value), x ∈ lvA o (st2 l i v) → (x = (o + i, v)) ∨ (x ∈ lvA o l ∧ x.1 ≠ o + i ∧ x.1 ≠ o + i + 1 ∧ ¬ (x.1 + 1 = o + i ∧ x.2.category = 2))
  | [], o, i, v, x, h => by simp [st2, lvA] at h
  | w :: l, o, 0, v, x, h => by
    rw [st2, lvA_cons] at h
    rcases h with ⟨h1, h2⟩ | h
    · left
      obtain ⟨a, c⟩ := x
      simp at h1 h2
      simp [h1, h2]
    · cases l with
      | nil => simp [hd0, lvA] at h
      | cons w2 l =>
        simp only [hd0] at h
        rw [lvA_cons] at h
        rcases h with ⟨h1, -⟩ | h
        · cases h1
        · have := lvA_ge l (o + 1 + 1) x.1 x.2 h
          exact Or.inr ⟨lvA_cons.mpr (Or.inr (lvA_cons.mpr (Or.inr h))), by omega, by omega, by omega⟩
  | w :: l, o, i + 1, v, x, h => by
    rw [st2, lvA_cons] at h
    rcases h with ⟨h1, h2⟩ | h
    · right
      cases i with
      | zero =>
        obtain ⟨e1, e2⟩ := kl_some h1
        exact ⟨lvA_cons.mpr (Or.inl ⟨e1, h2⟩), by omega, by omega, fun z => e2 z.2⟩
      | succ i => exact ⟨lvA_cons.mpr (Or.inl ⟨h1, h2⟩), by omega, by omega, fun z => by omega⟩
    · rcases st2_mem l (o + 1) i v x h with e | ⟨a1, a2, a3, a4⟩
      · left; rw [e]; congr 1; omega
      · refine Or.inr ⟨lvA_cons.mpr (Or.inr a1), by omega, by omega, fun z => a4 ⟨by omega, z.2⟩⟩
/-- fewer values known -/
def msk : List Bool → List (Option Value) → List (Option Value)
  | true :: ms, w :: l => w :: msk ms l
  | false :: ms, _ :: l => none :: msk ms l
  | _, _ => []
theorem msk_mem : ∀ (ms : List Bool) (l : List (Option Value)) (o : Nat) (x : Nat × Value), x ∈ lvA o (msk ms l) → x ∈ lvA o l
  | true :: ms, w :: l, o, x, h => by
    rw [msk, lvA_cons] at h
    exact lvA_cons.mpr (h.imp id (msk_mem ms l (o + 1) x))
  | false :: ms, w :: l, o, x, h => by
    rw [msk, lvA_cons] at h
    rcases h with ⟨h1, -⟩ | h
    · cases h1
    · exact lvA_cons.mpr (Or.inr (msk_mem ms l (o + 1) x h))
  | [], _, o, x, h => by simp [msk, lvA] at h
  | true :: ms, [], o, x, h => by simp [msk, lvA] at h
  | false :: ms, [], o, x, h => by simp [msk, lvA] at h
