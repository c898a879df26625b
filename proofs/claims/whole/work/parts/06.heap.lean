/-! fields, arrays, calls, in the words of part 05 -/
def KC (ci : Nat) (C : String) (T : u_T) (n : Nat) (ty : Nat → FieldType) : Prop := vwCl[ci]? = some (C, T, n) ∧ (∀ w ∈ u_ws C T n, w ∈ lw_gd) ∧ (∀ k, k < n → parseFieldDescriptor (T k).2.2.1 = some (ty k)) ∧ ∀ a, a < n → ∀ b, b < n → a ≠ b → (T a).2.1 ≠ (T b).2.1
section Heap
variable {G : Gx} {cc : ByteArray} {own : String} {nL : Nat} {rm : Room} {rt : Option FieldType} {ρ : Type} {ret : ρ → Option Value} {sf : ρ → St} {F C : Cf} {S : St} {pc : Nat} {lv : List (Option Value)} {st : List Value} {o : Option ρ}
variable {ci idx q j n : Nat} {Cn : String} {T : u_T} {ty : Nat → FieldType} {fk : List Nat}
theorem r_getI (g : Ok G cc own nL rm rt) (K : KC ci Cn T n ty) (hsh : C.1[q]? = some (.inl (ci, fk))) (j : Nat) (hj : fk[j]? = some 0) (hjn : j < n) (hl0 : Cond.fieldLink own idx (T j).1 (T j).2.1 (T j).2.2.1 ∈ lw_gd) (d : decode cc pc = .ok (.getfield idx, 3)) (k : Rg G ret sf F C S (pc + 3) lv (vi (S q j) :: st) o) : Rg G ret sf F C S pc lv (vr G q :: st) o := by
  obtain ⟨p, l, e, R, s, m, args, below, meth, c, cy, D, b, N⟩ := G
  obtain ⟨hR, hx, hb, hml, hown, hts, hlk, hrt, hK, hnw, hsta⟩ := g
  intro v ho H locs ls hN hP hS hl
  exact va_get hx hb hts K.2.1 hown hK hP q (wd_at hsh) K.1 j hjn (hts _ hl0) (fun _ h => h) (fld_at hj) d (k v ho H locs ls hN hP hS hl)
theorem r_getL (g : Ok G cc own nL rm rt) (K : KC ci Cn T n ty) (hsh : C.1[q]? = some (.inl (ci, fk))) (j : Nat) (hj : fk[j]? = some 1) (hjn : j < n) (hl0 : Cond.fieldLink own idx (T j).1 (T j).2.1 (T j).2.2.1 ∈ lw_gd) (d : decode cc pc = .ok (.getfield idx, 3)) (k : Rg G ret sf F C S (pc + 3) lv (vl (S q j) :: st) o) : Rg G ret sf F C S pc lv (vr G q :: st) o := by
  obtain ⟨p, l, e, R, s, m, args, below, meth, c, cy, D, b, N⟩ := G
  obtain ⟨hR, hx, hb, hml, hown, hts, hlk, hrt, hK, hnw, hsta⟩ := g
  intro v ho H locs ls hN hP hS hl
  exact va_get hx hb hts K.2.1 hown hK hP q (wd_at hsh) K.1 j hjn (hts _ hl0) (fun _ h => h) (fld_at hj) d (k v ho H locs ls hN hP hS hl)
theorem r_getC {c0 : Nat} (g : Ok G cc own nL rm rt) (K : KC ci Cn T n ty) (hsh : C.1[q]? = some (.inl (ci, fk))) (j : Nat) (hj : fk[j]? = some (c0 + 3)) (hjn : j < n) (hl0 : Cond.fieldLink own idx (T j).1 (T j).2.1 (T j).2.2.1 ∈ lw_gd) (d : decode cc pc = .ok (.getfield idx, 3)) (k : Rg G ret sf F C S (pc + 3) lv (vr G c0 :: st) o) : Rg G ret sf F C S pc lv (vr G q :: st) o := by
  obtain ⟨p, l, e, R, s, m, args, below, meth, c, cy, D, b, N⟩ := G
  obtain ⟨hR, hx, hb, hml, hown, hts, hlk, hrt, hK, hnw, hsta⟩ := g
  intro v ho H locs ls hN hP hS hl
  exact va_get hx hb hts K.2.1 hown hK hP q (wd_at hsh) K.1 j hjn (hts _ hl0) (fun _ h => h) (fld_at hj) d (k v ho H locs ls hN hP hS hl)
theorem rf_pos {b : Nat} {x : Int} (h : 0 < x) : va_rf (rf b x) = .ref (b + (x - 1).toNat) := by
  unfold rf; rw [if_pos h]; rfl
theorem r_getR {P : Nat → Bool} {f : Nat → Option ρ} (g : Ok G cc own nL rm rt) (K : KC ci Cn T n ty) (hsh : C.1[q]? = some (.inl (ci, fk))) (j : Nat) (hj : fk[j]? = some 2) (hjn : j < n) (hl0 : Cond.fieldLink own idx (T j).1 (T j).2.1 (T j).2.2.1 ∈ lw_gd) (d : decode cc pc = .ok (.getfield idx, 3)) (k : ∀ r, P r = true → Rg G ret sf F C S (pc + 3) lv (vr G r :: st) (f r)) : Rg G ret sf F C S pc lv (vr G q :: st) (gtR S q j P f) := by
  obtain ⟨p, l, e, R, s, m, args, below, meth, c, cy, D, b, N⟩ := G
  obtain ⟨hR, hx, hb, hml, hown, hts, hlk, hrt, hK, hnw, hsta⟩ := g
  intro v ho H locs ls hN hP hS hl
  unfold gtR at ho
  by_cases hp : 0 < S q j ∧ P (S q j - 1).toNat = true
  · rw [if_pos hp] at ho
    have hv := fld_at (b := b) (S := S) (q := q) hj
    have e1 : fldV b S q j 2 = .ref (b + (S q j - 1).toNat) := rf_pos hp.1
    rw [e1] at hv
    exact va_get hx hb hts K.2.1 hown hK hP q (wd_at hsh) K.1 j hjn (hts _ hl0) (fun _ h => h) hv d (k _ hp.2 v ho H locs ls hN hP hS hl)
  · rw [if_neg hp] at ho; cases ho
/-- putfield of an int -/
theorem r_putI {x : Int} {f : St → Option ρ} (g : Ok G cc own nL rm rt) (K : KC ci Cn T n ty) (hsh : C.1[q]? = some (.inl (ci, fk))) (j : Nat) (hj : fk[j]? = some 0) (hjn : j < n) (hf : (T j).2.2.2 = false) (hty : parseFieldDescriptor (T j).2.2.1 = some .int) (hl0 : Cond.fieldLink own idx (T j).1 (T j).2.1 (T j).2.2.1 ∈ lw_gd) (d : decode cc pc = .ok (.putfield idx, 3)) (k : ∀ S1, S1 = put S q j x → Rg G ret sf F C S1 (pc + 3) lv st (f S1)) : Rg G ret sf F C S pc lv (vi x :: vr G q :: st) (setS (put S q j x) f) := by
  obtain ⟨p, l, e, R, s, m, args, below, meth, c, cy, D, b, N⟩ := G
  obtain ⟨hR, hx, hb, hml, hown, hts, hlk, hrt, hK, hnw, hsta⟩ := g
  intro v ho H locs ls hN hP hS hl
  refine va_put hx hb hts K.2.1 ty K.2.2.1 K.2.2.2 hown hK hP (wd_D hN) hS q (wd_at hsh) K.1 j hjn (hts _ hl0) (fun _ h => h) hf hty rfl rfl (by rw [fldL_len]; exact (List.getElem?_eq_some_iff.mp hj).1) d (fun H1 locs1 hP1 hD1 hS1 => ?_)
  rw [wd_put hsh (cell_fld (v := x) hj (by simp [fldV, put_at, vi]))] at hP1
  exact k _ rfl v ho H1 locs1 ls hN hP1 hS1 hl
theorem r_putZ {x : Int} {f : St → Option ρ} (g : Ok G cc own nL rm rt) (K : KC ci Cn T n ty) (hsh : C.1[q]? = some (.inl (ci, fk))) (j : Nat) (hj : fk[j]? = some 0) (hjn : j < n) (hf : (T j).2.2.2 = false) (hty : parseFieldDescriptor (T j).2.2.1 = some .boolean) (hl0 : Cond.fieldLink own idx (T j).1 (T j).2.1 (T j).2.2.1 ∈ lw_gd) (d : decode cc pc = .ok (.putfield idx, 3)) (k : ∀ S1, S1 = put S q j x → Rg G ret sf F C S1 (pc + 3) lv st (f S1)) : Rg G ret sf F C S pc lv (vi x :: vr G q :: st) (isB x (setS (put S q j x) f)) := by
  obtain ⟨p, l, e, R, s, m, args, below, meth, c, cy, D, b, N⟩ := G
  obtain ⟨hR, hx, hb, hml, hown, hts, hlk, hrt, hK, hnw, hsta⟩ := g
  intro v ho H locs ls hN hP hS hl
  unfold isB at ho
  by_cases h01 : x = 0 ∨ x = 1
  · rw [if_pos h01] at ho
    refine va_put hx hb hts K.2.1 ty K.2.2.1 K.2.2.2 hown hK hP (wd_D hN) hS q (wd_at hsh) K.1 j hjn (hts _ hl0) (fun _ h => h) hf hty (by rcases h01 with rfl | rfl <;> rfl) (by rcases h01 with rfl | rfl <;> rfl) (by rw [fldL_len]; exact (List.getElem?_eq_some_iff.mp hj).1) d (fun H1 locs1 hP1 hD1 hS1 => ?_)
    rw [wd_put hsh (cell_fld (v := x) hj (by simp [fldV, put_at, vi]))] at hP1
    exact k _ rfl v ho H1 locs1 ls hN hP1 hS1 hl
  · rw [if_neg h01] at ho; cases ho
theorem r_putL {x : Int} {f : St → Option ρ} (g : Ok G cc own nL rm rt) (K : KC ci Cn T n ty) (hsh : C.1[q]? = some (.inl (ci, fk))) (j : Nat) (hj : fk[j]? = some 1) (hjn : j < n) (hf : (T j).2.2.2 = false) (hty : parseFieldDescriptor (T j).2.2.1 = some .long) (hl0 : Cond.fieldLink own idx (T j).1 (T j).2.1 (T j).2.2.1 ∈ lw_gd) (d : decode cc pc = .ok (.putfield idx, 3)) (k : ∀ S1, S1 = put S q j x → Rg G ret sf F C S1 (pc + 3) lv st (f S1)) : Rg G ret sf F C S pc lv (vl x :: vr G q :: st) (setS (put S q j x) f) := by
  obtain ⟨p, l, e, R, s, m, args, below, meth, c, cy, D, b, N⟩ := G
  obtain ⟨hR, hx, hb, hml, hown, hts, hlk, hrt, hK, hnw, hsta⟩ := g
  intro v ho H locs ls hN hP hS hl
  refine va_put hx hb hts K.2.1 ty K.2.2.1 K.2.2.2 hown hK hP (wd_D hN) hS q (wd_at hsh) K.1 j hjn (hts _ hl0) (fun _ h => h) hf hty rfl rfl (by rw [fldL_len]; exact (List.getElem?_eq_some_iff.mp hj).1) d (fun H1 locs1 hP1 hD1 hS1 => ?_)
  rw [wd_put hsh (cell_fld (v := x) hj (by simp [fldV, put_at, vl]))] at hP1
  exact k _ rfl v ho H1 locs1 ls hN hP1 hS1 hl
theorem r_putR {r : Nat} {nm : String} {f : St → Option ρ} (g : Ok G cc own nL rm rt) (K : KC ci Cn T n ty) (hsh : C.1[q]? = some (.inl (ci, fk))) (j : Nat) (hj : fk[j]? = some 2) (hjn : j < n) (hf : (T j).2.2.2 = false) (hty : parseFieldDescriptor (T j).2.2.1 = some (.object nm)) (hl0 : Cond.fieldLink own idx (T j).1 (T j).2.1 (T j).2.2.1 ∈ lw_gd) (d : decode cc pc = .ok (.putfield idx, 3)) (k : ∀ S1, S1 = put S q j ((r : Int) + 1) → Rg G ret sf F C S1 (pc + 3) lv st (f S1)) : Rg G ret sf F C S pc lv (vr G r :: vr G q :: st) (setS (put S q j ((r : Int) + 1)) f) := by
  obtain ⟨p, l, e, R, s, m, args, below, meth, c, cy, D, b, N⟩ := G
  obtain ⟨hR, hx, hb, hml, hown, hts, hlk, hrt, hK, hnw, hsta⟩ := g
  intro v ho H locs ls hN hP hS hl
  refine va_put hx hb hts K.2.1 ty K.2.2.1 K.2.2.2 hown hK hP (wd_D hN) hS q (wd_at hsh) K.1 j hjn (hts _ hl0) (fun _ h => h) hf hty rfl rfl (by rw [fldL_len]; exact (List.getElem?_eq_some_iff.mp hj).1) d (fun H1 locs1 hP1 hD1 hS1 => ?_)
  rw [wd_put hsh (cell_fld (v := (r : Int) + 1) hj (by simp only [fldV, put_at, rf_succ]; rfl))] at hP1
  exact k _ rfl v ho H1 locs1 ls hN hP1 hS1 hl
/-! arrays -/
variable {c0 dd t : Nat}
theorem arrUpd {S : St} {q : Nat} {i : Int} {x : Int} : (fun y => iI (put S q i.toNat x q y)) = upd (fun y => iI (S q y)) i.toNat (iI x) := by
  funext y
  simp only [put, upd]
  by_cases h : y = i.toNat <;> simp [h]
theorem arrUpdL {S : St} {q : Nat} {i : Int} {x : Int} : (fun y => lI (put S q i.toNat x q y)) = vp_updL (fun y => lI (S q y)) i.toNat (lI x) := by
  funext y
  simp only [put, vp_updL]
  by_cases h : y = i.toNat <;> simp [h]
theorem r_iald {i : Int} {f : Int → Option ρ} (g : Ok G cc own nL rm rt) (hsh : C.1[q]? = some (.inr (0, n, c0, dd))) (hn : n ≤ 2147483647) (d : decode cc pc = .ok (.iaload, 1)) (k : ∀ z, Rg G ret sf F C S (pc + 1) lv (vi z :: st) (f z)) : Rg G ret sf F C S pc lv (vi i :: vr G q :: st) (ldI S q n i f) := by
  obtain ⟨p, l, e, R, s, m, args, below, meth, c, cy, D, b, N⟩ := G
  obtain ⟨hR, hx, hb, hml, hown, hts, hlk, hrt, hK, hnw, hsta⟩ := g
  intro v ho H locs ls hN hP hS hl
  unfold ldI at ho
  by_cases hi : 0 ≤ i ∧ i < n
  · rw [if_pos hi] at ho
    have kk := k _ v ho H locs ls hN hP hS hl
    refine va_iald hx hb hK hP q 0 (wd_at hsh) rfl (iI_vp hn hi) d ?_
    rw [iI_cl hi.1 (by omega)]
    exact kk
  · rw [if_neg hi] at ho; cases ho
theorem r_lald {i : Int} {f : Int → Option ρ} (g : Ok G cc own nL rm rt) (hsh : C.1[q]? = some (.inr (1, n, c0, dd))) (hn : n ≤ 2147483647) (d : decode cc pc = .ok (.laload, 1)) (k : ∀ z, Rg G ret sf F C S (pc + 1) lv (vl z :: st) (f z)) : Rg G ret sf F C S pc lv (vi i :: vr G q :: st) (ldI S q n i f) := by
  obtain ⟨p, l, e, R, s, m, args, below, meth, c, cy, D, b, N⟩ := G
  obtain ⟨hR, hx, hb, hml, hown, hts, hlk, hrt, hK, hnw, hsta⟩ := g
  intro v ho H locs ls hN hP hS hl
  unfold ldI at ho
  by_cases hi : 0 ≤ i ∧ i < n
  · rw [if_pos hi] at ho
    have kk := k _ v ho H locs ls hN hP hS hl
    refine va_lald hx hb hK hP q 1 (wd_at hsh) rfl (iI_vp hn hi) d ?_
    rw [iI_cl hi.1 (by omega)]
    exact kk
  · rw [if_neg hi] at ho; cases ho
theorem r_bald {i : Int} {f : Int → Option ρ} (g : Ok G cc own nL rm rt) (hsh : C.1[q]? = some (.inr (2, n, c0, dd))) (hn : n ≤ 2147483647) (d : decode cc pc = .ok (.baload, 1)) (k : ∀ z, Rg G ret sf F C S (pc + 1) lv (vi z :: st) (f z)) : Rg G ret sf F C S pc lv (vi i :: vr G q :: st) (ldI S q n i f) := by
  obtain ⟨p, l, e, R, s, m, args, below, meth, c, cy, D, b, N⟩ := G
  obtain ⟨hR, hx, hb, hml, hown, hts, hlk, hrt, hK, hnw, hsta⟩ := g
  intro v ho H locs ls hN hP hS hl
  unfold ldI at ho
  by_cases hi : 0 ≤ i ∧ i < n
  · rw [if_pos hi] at ho
    have kk := k _ v ho H locs ls hN hP hS hl
    refine va_bald hx hb hK hP q 2 (wd_at hsh) rfl (iI_vp hn hi) d ?_
    rw [iI_cl hi.1 (by omega)]
    exact kk
  · rw [if_neg hi] at ho; cases ho
theorem r_zald {i : Int} {f : Int → Option ρ} (g : Ok G cc own nL rm rt) (hsh : C.1[q]? = some (.inr (3, n, c0, dd))) (hn : n ≤ 2147483647) (d : decode cc pc = .ok (.baload, 1)) (k : ∀ z, Rg G ret sf F C S (pc + 1) lv (vi z :: st) (f z)) : Rg G ret sf F C S pc lv (vi i :: vr G q :: st) (ldI S q n i f) := by
  obtain ⟨p, l, e, R, s, m, args, below, meth, c, cy, D, b, N⟩ := G
  obtain ⟨hR, hx, hb, hml, hown, hts, hlk, hrt, hK, hnw, hsta⟩ := g
  intro v ho H locs ls hN hP hS hl
  unfold ldI at ho
  by_cases hi : 0 ≤ i ∧ i < n
  · rw [if_pos hi] at ho
    have kk := k _ v ho H locs ls hN hP hS hl
    refine va_zald hx hb hK hP q 3 (wd_at hsh) rfl (iI_vp hn hi) d ?_
    rw [iI_cl hi.1 (by omega)]
    exact kk
  · rw [if_neg hi] at ho; cases ho
theorem r_iast {i x : Int} {f : St → Option ρ} (g : Ok G cc own nL rm rt) (hsh : C.1[q]? = some (.inr (0, n, c0, dd))) (hn : n ≤ 2147483647) (d : decode cc pc = .ok (.iastore, 1)) (k : ∀ S1, Rg G ret sf F C S1 (pc + 1) lv st (f S1)) : Rg G ret sf F C S pc lv (vi x :: vi i :: vr G q :: st) (stI S q n i x f) := by
  obtain ⟨p, l, e, R, s, m, args, below, meth, c, cy, D, b, N⟩ := G
  obtain ⟨hR, hx, hb, hml, hown, hts, hlk, hrt, hK, hnw, hsta⟩ := g
  intro v ho H locs ls hN hP hS hl
  unfold stI at ho
  by_cases hi : 0 ≤ i ∧ i < n
  · rw [if_pos hi] at ho
    refine va_iast hx hb hK hP (wd_D hN) hS q 0 (wd_at hsh) rfl (iI_vp hn hi) d (fun H1 locs1 hP1 hD1 hS1 => ?_)
    rw [iI_cl hi.1 (by omega)] at hP1
    rw [wd_put hsh (j := i.toNat) (v := x) (by simp only [cellE, arrC, arrUpd])] at hP1
    exact k _ v ho H1 locs1 ls hN hP1 hS1 hl
  · rw [if_neg hi] at ho; cases ho
theorem r_last {i x : Int} {f : St → Option ρ} (g : Ok G cc own nL rm rt) (hsh : C.1[q]? = some (.inr (1, n, c0, dd))) (hn : n ≤ 2147483647) (d : decode cc pc = .ok (.lastore, 1)) (k : ∀ S1, Rg G ret sf F C S1 (pc + 1) lv st (f S1)) : Rg G ret sf F C S pc lv (vl x :: vi i :: vr G q :: st) (stI S q n i x f) := by
  obtain ⟨p, l, e, R, s, m, args, below, meth, c, cy, D, b, N⟩ := G
  obtain ⟨hR, hx, hb, hml, hown, hts, hlk, hrt, hK, hnw, hsta⟩ := g
  intro v ho H locs ls hN hP hS hl
  unfold stI at ho
  by_cases hi : 0 ≤ i ∧ i < n
  · rw [if_pos hi] at ho
    refine va_last hx hb hK hP (wd_D hN) hS q 1 (wd_at hsh) rfl (iI_vp hn hi) d (fun H1 locs1 hP1 hD1 hS1 => ?_)
    rw [iI_cl hi.1 (by omega)] at hP1
    rw [wd_put hsh (j := i.toNat) (v := x) (by simp only [cellE, arrC, arrUpdL])] at hP1
    exact k _ v ho H1 locs1 ls hN hP1 hS1 hl
  · rw [if_neg hi] at ho; cases ho
theorem r_bast {i x : Int} {f : St → Option ρ} (g : Ok G cc own nL rm rt) (hsh : C.1[q]? = some (.inr (2, n, c0, dd))) (hn : n ≤ 2147483647) (d : decode cc pc = .ok (.bastore, 1)) (k : ∀ S1, Rg G ret sf F C S1 (pc + 1) lv st (f S1)) : Rg G ret sf F C S pc lv (vi x :: vi i :: vr G q :: st) (stI S q n i (x.bmod 256) f) := by
  obtain ⟨p, l, e, R, s, m, args, below, meth, c, cy, D, b, N⟩ := G
  obtain ⟨hR, hx, hb, hml, hown, hts, hlk, hrt, hK, hnw, hsta⟩ := g
  intro v ho H locs ls hN hP hS hl
  unfold stI at ho
  by_cases hi : 0 ≤ i ∧ i < n
  · rw [if_pos hi] at ho
    refine va_bast hx hb hK hP (wd_D hN) hS q 2 (wd_at hsh) rfl (iI_vp hn hi) d (fun H1 locs1 hP1 hD1 hS1 => ?_)
    rw [iI_cl hi.1 (by omega), vp_nar_byte, iI_b] at hP1
    rw [wd_put hsh (j := i.toNat) (v := x.bmod 256) (by simp only [cellE, arrC, arrUpd])] at hP1
    exact k _ v ho H1 locs1 ls hN hP1 hS1 hl
  · rw [if_neg hi] at ho; cases ho
theorem r_zast {i x : Int} {f : St → Option ρ} (g : Ok G cc own nL rm rt) (hsh : C.1[q]? = some (.inr (3, n, c0, dd))) (hn : n ≤ 2147483647) (d : decode cc pc = .ok (.bastore, 1)) (k : ∀ S1, Rg G ret sf F C S1 (pc + 1) lv st (f S1)) : Rg G ret sf F C S pc lv (vi x :: vi i :: vr G q :: st) (isB x (stI S q n i x f)) := by
  obtain ⟨p, l, e, R, s, m, args, below, meth, c, cy, D, b, N⟩ := G
  obtain ⟨hR, hx, hb, hml, hown, hts, hlk, hrt, hK, hnw, hsta⟩ := g
  intro v ho H locs ls hN hP hS hl
  unfold isB at ho
  by_cases h01 : x = 0 ∨ x = 1
  · rw [if_pos h01] at ho
    unfold stI at ho
    by_cases hi : 0 ≤ i ∧ i < n
    · rw [if_pos hi] at ho
      refine va_zast hx hb hK hP (wd_D hN) hS q 3 (wd_at hsh) rfl (iI_vp hn hi) d (fun H1 locs1 hP1 hD1 hS1 => ?_)
      have hz : vp_nar .boolean (iI x) = iI x := by rcases h01 with rfl | rfl <;> rfl
      rw [iI_cl hi.1 (by omega), hz] at hP1
      rw [wd_put hsh (j := i.toNat) (v := x) (by simp only [cellE, arrC, arrUpd])] at hP1
      exact k _ v ho H1 locs1 ls hN hP1 hS1 hl
    · rw [if_neg hi] at ho; cases ho
  · rw [if_neg h01] at ho; cases ho
/-- the reference arrays: t0 = 4, 5, 6 -/
theorem r_aaldA {i : Int} {P : Nat → Bool} {nm : String} {f : Nat → Option ρ} (g : Ok G cc own nL rm rt) (t : Nat) (ht : ∀ cy, (tysOf cy)[t + 4]? = some (cy (t + 4), .object nm)) (hsh : C.1[q]? = some (.inr (t + 4, n, c0, dd + 1))) (hn : n ≤ 2147483647) (hPq : ∀ j, j < n → P (c0 + (dd + 1) * j) = true) (d : decode cc pc = .ok (.aaload, 1)) (k : ∀ r, P r = true → Rg G ret sf F C S (pc + 1) lv (vr G r :: st) (f r)) : Rg G ret sf F C S pc lv (vi i :: vr G q :: st) (ldA c0 (dd + 1) n i f) := by
  obtain ⟨p, l, e, R, s, m, args, below, meth, c, cy, D, b, N⟩ := G
  obtain ⟨hR, hx, hb, hml, hown, hts, hlk, hrt, hK, hnw, hsta⟩ := g
  intro v ho H locs ls hN hP hS hl
  unfold ldA at ho
  by_cases hi : 0 ≤ i ∧ i < n
  · rw [if_pos hi] at ho
    have kk := k _ (hPq _ (by omega)) v ho H locs ls hN hP hS hl
    refine va_aldq (f := refA b S q c0 (dd + 1)) hx hb hK hP q (t + 4) (wd_at hsh) (ht cy) (iI_vp hn hi) d ?_
    rw [iI_cl hi.1 (by omega)]
    exact kk
  · rw [if_neg hi] at ho; cases ho
theorem r_aaldR {i : Int} {P : Nat → Bool} {nm : String} {f : Nat → Option ρ} (g : Ok G cc own nL rm rt) (t : Nat) (ht : ∀ cy, (tysOf cy)[t + 4]? = some (cy (t + 4), .object nm)) (hsh : C.1[q]? = some (.inr (t + 4, n, c0, 0))) (hn : n ≤ 2147483647) (d : decode cc pc = .ok (.aaload, 1)) (k : ∀ r, P r = true → Rg G ret sf F C S (pc + 1) lv (vr G r :: st) (f r)) : Rg G ret sf F C S pc lv (vi i :: vr G q :: st) (ldR S q n i P f) := by
  obtain ⟨p, l, e, R, s, m, args, below, meth, c, cy, D, b, N⟩ := G
  obtain ⟨hR, hx, hb, hml, hown, hts, hlk, hrt, hK, hnw, hsta⟩ := g
  intro v ho H locs ls hN hP hS hl
  unfold ldR at ho
  by_cases hi : 0 ≤ i ∧ i < n
  · rw [if_pos hi] at ho
    unfold gtR at ho
    by_cases hp : 0 < S q i.toNat ∧ P (S q i.toNat - 1).toNat = true
    · rw [if_pos hp] at ho
      have kk := k _ hp.2 v ho H locs ls hN hP hS hl
      refine va_aldq (f := refA b S q c0 0) hx hb hK hP q (t + 4) (wd_at hsh) (ht cy) (iI_vp hn hi) d ?_
      rw [iI_cl hi.1 (by omega)]
      show W _ _ _ _ _ _ _ _ _ _ _ _ _ _ _ (F0 m (pc + 1) ls (va_rf (rf b (S q i.toNat)) :: st))
      rw [rf_pos hp.1]
      exact kk
    · rw [if_neg hp] at ho; cases ho
  · rw [if_neg hi] at ho; cases ho
theorem refUpd {b : Nat} {S : St} {q c0 : Nat} {i : Int} {r : Nat} : refA b (put S q i.toNat ((r : Int) + 1)) q c0 0 = va_up (refA b S q c0 0) i.toNat (some (b + r)) := by
  funext y
  simp only [refA, put, va_up]
  by_cases h : y = i.toNat
  · simp [h, rf_succ]
  · simp [h]
theorem r_aast {i : Int} {r ck : Nat} {vc : vw_C} {fkr : List Nat} {f : St → Option ρ} (g : Ok G cc own nL rm rt) (t : Nat) (ht : ∀ cy, (tysOf cy)[t + 4]? = some (cy (t + 4), .object vc.1)) (hsh : C.1[q]? = some (.inr (t + 4, n, c0, 0))) (hr : C.1[r]? = some (.inl (ck, fkr))) (hc : vwCl[ck]? = some vc) (hn : n ≤ 2147483647) (d : decode cc pc = .ok (.aastore, 1)) (k : ∀ S1, Rg G ret sf F C S1 (pc + 1) lv st (f S1)) : Rg G ret sf F C S pc lv (vr G r :: vi i :: vr G q :: st) (stI S q n i ((r : Int) + 1) f) := by
  obtain ⟨p, l, e, R, s, m, args, below, meth, c, cy, D, b, N⟩ := G
  obtain ⟨hR, hx, hb, hml, hown, hts, hlk, hrt, hK, hnw, hsta⟩ := g
  intro v ho H locs ls hN hP hS hl
  unfold stI at ho
  by_cases hi : 0 ≤ i ∧ i < n
  · rw [if_pos hi] at ho
    refine va_astq (f := refA b S q c0 0) hx hb hK hP (wd_D hN) hS q (t + 4) r ck (wd_at hsh) (ht cy) (wd_at hr) hc (iI_vp hn hi) d (fun H1 locs1 hP1 hD1 hS1 => ?_)
    rw [iI_cl hi.1 (by omega)] at hP1
    rw [wd_put hsh (j := i.toNat) (v := (r : Int) + 1) (by simp only [cellE, arrC, refUpd])] at hP1
    exact k _ v ho H1 locs1 ls hN hP1 hS1 hl
  · rw [if_neg hi] at ho; cases ho
theorem r_alen {x : FieldType} (g : Ok G cc own nL rm rt) (ht : ∀ cy, (tysOf cy)[t]? = some (cy t, x)) (hsh : C.1[q]? = some (.inr (t, n, c0, dd))) (d : decode cc pc = .ok (.arraylength, 1)) (k : Rg G ret sf F C S (pc + 1) lv (vi (n : Int) :: st) o) : Rg G ret sf F C S pc lv (vr G q :: st) o := by
  obtain ⟨p, l, e, R, s, m, args, below, meth, c, cy, D, b, N⟩ := G
  obtain ⟨hR, hx, hb, hml, hown, hts, hlk, hrt, hK, hnw, hsta⟩ := g
  intro v ho H locs ls hN hP hS hl
  exact va_alen hx hb hK hP q t (wd_at hsh) (ht cy) (Int32.ofInt_eq_ofNat.symm : Int32.ofNat n = iI (n : Int)) d (k v ho H locs ls hN hP hS hl)
end Heap
