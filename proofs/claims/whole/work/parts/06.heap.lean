/-! fields, arrays, calls, in the words of part 05 -/
def KC (ci : Nat) (C : String) (T : u_T) (n : Nat) (ty : Nat → FieldType) : Prop := vwCl[ci]? = some (C, T, n) ∧ (∀ w ∈ u_ws C T n, w ∈ lw_tbl) ∧ (∀ k, k < n → parseFieldDescriptor (T k).2.2.1 = some (ty k)) ∧ ∀ a, a < n → ∀ b, b < n → a ≠ b → (T a).2.1 ≠ (T b).2.1
def gtR {α : Type} (S : St) (q j : Nat) (P : Nat → Bool) (k : Nat → Option α) : Option α := match S.2.2 q j with
  | some r => if P r = true then k r else none
  | none => none
def ldR {α : Type} (S : St) (q n : Nat) (i : Int32) (P : Nat → Bool) (k : Nat → Option α) : Option α := if ¬ (i < 0 ∨ n ≤ i.toNatClampNeg) then gtR S q i.toNatClampNeg P k else none
section Heap
variable {G : Gx} {cc : ByteArray} {own : String} {nL : Nat} {rm : Room} {rt : Option FieldType} {τ : Type} {ret : τ → Option Value} {F : Cf} {sh : List Sh} {z kc ks : Nat} {S : St} {pc : Nat} {lv : List (Option Value)} {st : List Value} {o : Option (τ × St)}
variable {ci idx q j n : Nat} {Cn : String} {T : u_T} {ty : Nat → FieldType} {fk : List Nat}
theorem r_getI (g : Ok G cc own nL rm rt) (K : KC ci Cn T n ty) (hsh : sh[q]? = some (.inl (ci, fk))) (hj : fk[j]? = some 0) (hjn : j < n) (hl0 : Cond.fieldLink own idx (T j).1 (T j).2.1 (T j).2.2.1 ∈ lw_tbl) (d : decode cc pc = .ok (.getfield idx, 3)) (k : Rg G ret F (sh, z, kc, ks) S (pc + 3) lv (.int (S.1 q j) :: st) o) : Rg G ret F (sh, z, kc, ks) S pc lv (.ref (gb G + q) :: st) o := by
  obtain ⟨p, l, e, R, s, m, args, below, meth, c, cy, D, b, N⟩ := G
  obtain ⟨hR, hx, hb, hml, hown, hts, hlk, hrt, hK⟩ := g
  intro v S' ho H locs ls hN hz hP hS hl
  exact va_get hx hb hts K.2.1 hown hK hP q (wd_at hsh) K.1 j hjn (hts _ hl0) (fun _ h => h) (fld_at hj) d (k v S' ho H locs ls hN hz hP hS hl)
theorem r_getL (g : Ok G cc own nL rm rt) (K : KC ci Cn T n ty) (hsh : sh[q]? = some (.inl (ci, fk))) (hj : fk[j]? = some 1) (hjn : j < n) (hl0 : Cond.fieldLink own idx (T j).1 (T j).2.1 (T j).2.2.1 ∈ lw_tbl) (d : decode cc pc = .ok (.getfield idx, 3)) (k : Rg G ret F (sh, z, kc, ks) S (pc + 3) lv (.long (S.2.1 q j) :: st) o) : Rg G ret F (sh, z, kc, ks) S pc lv (.ref (gb G + q) :: st) o := by
  obtain ⟨p, l, e, R, s, m, args, below, meth, c, cy, D, b, N⟩ := G
  obtain ⟨hR, hx, hb, hml, hown, hts, hlk, hrt, hK⟩ := g
  intro v S' ho H locs ls hN hz hP hS hl
  exact va_get hx hb hts K.2.1 hown hK hP q (wd_at hsh) K.1 j hjn (hts _ hl0) (fun _ h => h) (fld_at hj) d (k v S' ho H locs ls hN hz hP hS hl)
theorem r_getC {c0 : Nat} (g : Ok G cc own nL rm rt) (K : KC ci Cn T n ty) (hsh : sh[q]? = some (.inl (ci, fk))) (hj : fk[j]? = some (c0 + 3)) (hjn : j < n) (hl0 : Cond.fieldLink own idx (T j).1 (T j).2.1 (T j).2.2.1 ∈ lw_tbl) (d : decode cc pc = .ok (.getfield idx, 3)) (k : Rg G ret F (sh, z, kc, ks) S (pc + 3) lv (.ref (gb G + c0) :: st) o) : Rg G ret F (sh, z, kc, ks) S pc lv (.ref (gb G + q) :: st) o := by
  obtain ⟨p, l, e, R, s, m, args, below, meth, c, cy, D, b, N⟩ := G
  obtain ⟨hR, hx, hb, hml, hown, hts, hlk, hrt, hK⟩ := g
  intro v S' ho H locs ls hN hz hP hS hl
  exact va_get hx hb hts K.2.1 hown hK hP q (wd_at hsh) K.1 j hjn (hts _ hl0) (fun _ h => h) (fld_at hj) d (k v S' ho H locs ls hN hz hP hS hl)
theorem r_getR {P : Nat → Bool} {f : Nat → Option (τ × St)} (g : Ok G cc own nL rm rt) (K : KC ci Cn T n ty) (hsh : sh[q]? = some (.inl (ci, fk))) (hj : fk[j]? = some 2) (hjn : j < n) (hl0 : Cond.fieldLink own idx (T j).1 (T j).2.1 (T j).2.2.1 ∈ lw_tbl) (d : decode cc pc = .ok (.getfield idx, 3)) (k : ∀ r, P r = true → Rg G ret F (sh, z, kc, ks) S (pc + 3) lv (.ref (gb G + r) :: st) (f r)) : Rg G ret F (sh, z, kc, ks) S pc lv (.ref (gb G + q) :: st) (gtR S q j P f) := by
  obtain ⟨p, l, e, R, s, m, args, below, meth, c, cy, D, b, N⟩ := G
  obtain ⟨hR, hx, hb, hml, hown, hts, hlk, hrt, hK⟩ := g
  intro v S' ho H locs ls hN hz hP hS hl
  unfold gtR at ho
  split at ho
  · rename_i r hr
    by_cases hp : P r = true
    · rw [if_pos hp] at ho
      have hv := fld_at (b := b) (S := S) (q := q) hj
      have e1 : fldV b S q j 2 = .ref (b + r) := by simp [fldV, hr, va_rf]
      rw [e1] at hv
      exact va_get hx hb hts K.2.1 hown hK hP q (wd_at hsh) K.1 j hjn (hts _ hl0) (fun _ h => h) hv d (k r hp v S' ho H locs ls hN hz hP hS hl)
    · rw [if_neg hp] at ho; cases ho
  · cases ho
/-- putfield of an int -/
theorem r_putI {x : Int32} {f : St → Option (τ × St)} (g : Ok G cc own nL rm rt) (K : KC ci Cn T n ty) (hsh : sh[q]? = some (.inl (ci, fk))) (hj : fk[j]? = some 0) (hjn : j < n) (hf : (T j).2.2.2 = false) (hty : parseFieldDescriptor (T j).2.2.1 = some .int) (hl0 : Cond.fieldLink own idx (T j).1 (T j).2.1 (T j).2.2.1 ∈ lw_tbl) (d : decode cc pc = .ok (.putfield idx, 3)) (k : ∀ S1, S1 = putI S q j x → Rg G ret F (sh, z, kc, ks) S1 (pc + 3) lv st (f S1)) : Rg G ret F (sh, z, kc, ks) S pc lv (.int x :: .ref (gb G + q) :: st) (setI S q j x f) := by
  obtain ⟨p, l, e, R, s, m, args, below, meth, c, cy, D, b, N⟩ := G
  obtain ⟨hR, hx, hb, hml, hown, hts, hlk, hrt, hK⟩ := g
  intro v S' ho H locs ls hN hz hP hS hl
  refine va_put hx hb hts K.2.1 ty K.2.2.1 K.2.2.2 hown hK hP (wd_D hN) hS q (wd_at hsh) K.1 j hjn (hts _ hl0) (fun _ h => h) hf hty rfl rfl (by rw [fldL_len]; exact (List.getElem?_eq_some_iff.mp hj).1) d (fun H1 locs1 hP1 hD1 hS1 => ?_)
  rw [wd_putI hsh (cell_fldI hj)] at hP1
  have hz1 : H1.size = z := by sorry
  exact k _ rfl v S' ho H1 locs1 ls hN hz1 hP1 hS1 hl
end Heap
