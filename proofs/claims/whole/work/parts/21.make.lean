/-! rows for constructors: the shapes grow, the memory is named step by step -/
theorem W_sz {p : Program} {l : Launch} {e : Env} {R : Room} {s : State} {m : MethodId} {args : Array Value} {below : List Frame} {meth : Method} {c : Code} {H : Heap} {locs : List Loc} {cells slots : Nat} {Q : State → Prop} {g : JFrame} (h : H.size ≤ s.heap.size + cells → W p l e R s m args below meth c H locs cells slots Q g) : W p l e R s m args below meth c H locs cells slots Q g := by
  intro T hT X
  refine h ?_ T hT X
  have h2 := X.same.2.2.1
  have h3 : (T.setVm s.vm).heap = T.heap := rfl
  rw [h3, hT] at h2
  exact h2
theorem wd_low {cy : Nat → ClassId} {D : va_G} {b : Nat} {sh : List Sh} {S : St} {H : Heap} (hP : va_P D vwCl (wd cy b sh S) H) (h0 : b ≤ H.size) : b + sh.length ≤ H.size := by
  rcases Nat.eq_zero_or_pos sh.length with h | h
  · omega
  · have hx : sh[sh.length - 1]? = some (sh[sh.length - 1]'(by omega)) := List.getElem?_eq_getElem (by omega)
    have h2 : b + (sh.length - 1) < H.size := (hP _ _ (wd_at hx)).lt
    omega
theorem wdA_app {cy : Nat → ClassId} {b : Nat} {S : St} {x : Sh} : ∀ (sh : List Sh) (o : Nat), wdA cy b S o (sh ++ [x]) = wdA cy b S o sh ++ [(b + (o + sh.length), cellE cy b S (o + sh.length) x)]
  | [], o => by simp [wdA]
  | y :: l, o => by
    simp only [List.cons_append, wdA, wdA_app l (o + 1), List.length_cons]
    rw [show o + 1 + l.length = o + (l.length + 1) by omega]
theorem wd_app {cy : Nat → ClassId} {b : Nat} {S : St} {x : Sh} {sh : List Sh} : wd cy b (sh ++ [x]) S = wd cy b sh S ++ [(b + sh.length, cellE cy b S sh.length x)] := by
  unfold wd; rw [wdA_app]; simp
def kOf : FieldType → Nat
  | .long => 1
  | .object _ => 2
  | .array _ => 2
  | _ => 0
def okT : FieldType → Bool
  | .int => true
  | .boolean => true
  | .long => true
  | .object _ => true
  | .array _ => true
  | _ => false
theorem fldV_dflt {b : Nat} {S : St} {q j : Nat} {t : FieldType} (h : S q j = 0) (ht : okT t = true) : fldV b S q j (kOf t) = defaultValue t := by
  cases t <;> first | (simp [okT] at ht; done) | simp [kOf, fldV, h, vi, vl, rf, va_rf, defaultValue, iI_0, lI_0]
theorem fldL_dflt {b : Nat} {S : St} {q n : Nat} {ty : Nat → FieldType} {fk : List Nat} (h : ∀ j, S q j = 0) (ht : ∀ j, j < n → okT (ty j) = true) (hf : fk = (List.range n).map (fun j => kOf (ty j))) : ∀ j, j < n → defaultValue (ty j) = vp_V (fldL b S q 0 fk) j := by
  intro j hj
  have h1 : fk[j]? = some (kOf (ty j)) := by rw [hf]; simp [hj]
  have h2 := fld_at (b := b) (S := S) (q := q) h1
  unfold vp_V
  rw [List.getD_eq_getElem?_getD, h2]
  exact (fldV_dflt (h j) (ht j hj)).symm
theorem nc_0 {S : St} {q nn : Nat} (cA : ClassId) (b : Nat) (h : ∀ j, S q j = 0) : vp_cell cA (nn, arrC b S q 0 0 0) = arrV cA nn (fun _ => defaultValue .int) := by
  simp [vp_cell, arrC, h, iI_0, defaultValue]
theorem nc_1 {S : St} {q nn : Nat} (cA : ClassId) (b : Nat) (h : ∀ j, S q j = 0) : vp_cell cA (nn, arrC b S q 0 0 1) = arrV cA nn (fun _ => defaultValue .long) := by
  simp [vp_cell, arrC, h, lI_0, defaultValue]
theorem nc_2 {S : St} {q nn : Nat} (cA : ClassId) (b : Nat) (h : ∀ j, S q j = 0) : vp_cell cA (nn, arrC b S q 0 0 2) = arrV cA nn (fun _ => defaultValue .byte) := by
  simp [vp_cell, arrC, h, iI_0, defaultValue]
theorem nc_3 {S : St} {q nn : Nat} (cA : ClassId) (b : Nat) (h : ∀ j, S q j = 0) : vp_cell cA (nn, arrC b S q 0 0 3) = arrV cA nn (fun _ => defaultValue .boolean) := by
  simp [vp_cell, arrC, h, iI_0, defaultValue]
section Make
variable {G : Gx} {cc : ByteArray} {own : String} {nL : Nat} {rm : Room} {rt : Option FieldType} {ρ : Type} {ret : ρ → Option Value} {sf : ρ → St} {F : Cf} {sh sh2 : List Sh} {kc ks : Nat} {S S2 : St} {pc : Nat} {lv : List (Option Value)} {st st0 : List Value} {o : Option ρ}
variable {ci idx q j n : Nat} {Cn : String} {T : u_T} {ty : Nat → FieldType} {fk : List Nat}
theorem n_new (g : Ok G cc own nL rm rt) (K : KC ci Cn T n ty) (hz : gsz G + kc = gb G + sh.length) (hb0 : gb G ≤ gsz G) (hN2 : sh2.length ≤ gN G) {qn : Nat} (hqn : sh.length = qn) (hZ : ∀ j, S qn j = 0) (hok : ∀ j, j < n → okT (ty j) = true) (hfk : fk = (List.range n).map (fun j => kOf (ty j))) (hsh : sh ++ [.inl (ci, fk)] = sh2) (hcl : Cond.classLink own idx Cn ∈ lw_gd) (hins : Cond.instantiable Cn n ∈ lw_gd) (hini : Cond.initialized Cn ∈ lw_gd) (hr : kc + 1 ≤ rm.cells ∧ ks + n ≤ rm.slots) (d : decode cc pc = .ok (.new idx, 3)) (k : Rg G ret sf F (sh2, kc + 1, ks + n) S (pc + 3) lv (vr G qn :: st) o) : Rg G ret sf F (sh, kc, ks) S pc lv st o := by
  subst hqn
  obtain ⟨p, l, e, R, s, m, args, below, meth, c, cy, D, b, N⟩ := G
  obtain ⟨hR, hx, hb, hml, hown, hts, hlk, hrt, hK, hnw, hsta⟩ := g
  intro v ho H locs ls hN hP hS hlv
  subst hR
  refine W_sz (fun hsz => ?_)
  have hb1 : b ≤ s.heap.size := hb0
  have hz1 : s.heap.size + kc = b + sh.length := hz
  have hsz1 : H.size ≤ s.heap.size + kc := hsz
  have hlow : b + sh.length ≤ H.size := wd_low hP (Nat.le_trans hb1 hS.1)
  have e1 : H.size = b + sh.length := by omega
  have hKn := hK.1 ci _ K.1
  refine W.newcK hx hb hown (hts _ hcl) (hts _ hins) (hts _ hini) rfl d hr.1 hr.2 hKn.2.1 e1 (fun H1 kC hkC c1 z1 o1 => ?_)
  refine k v ho H1 locs ls hN2 ?_ ⟨by have := hS.1; omega, fun x h1 h2 => (o1 x (by have := hS.1; omega)).trans (hS.2.1 x h1 h2), hS.2.2⟩ hlv
  show va_P D vwCl (wd cy b sh2 S) H1
  rw [← hsh, wd_app]
  refine (hP.kept (fun k x hx => o1 x.1 (by have := (hP k x hx).lt; omega))).app (fun k x hx => ?_)
  have hz2 : k < 1 := (List.getElem?_eq_some_iff.mp hx).1
  rw [show k = 0 by omega] at hx
  cases hx
  exact ⟨_, K.1, (u_born ty hts K.2.1 hKn hkC c1 K.2.2.1).to (fldL_dflt hZ hok hfk)⟩
/-- a new array of ints, longs, bytes, booleans -/
theorem n_newa {t : Nat} {at_ : ArrayType} {fty : FieldType} {x : Int} {nn : Nat} (g : Ok G cc own nL rm rt) (hty : newarray.typeOf at_ = fty) (ht : ∀ cy, (tysOf cy)[t]? = some (cy t, fty)) (hz : gsz G + kc = gb G + sh.length) (hb0 : gb G ≤ gsz G) (hN2 : sh2.length ≤ gN G) {qn : Nat} (hqn : sh.length = qn) (hZ : ∀ j, S qn j = 0) (hcell : ∀ cA b, (∀ j, S qn j = 0) → vp_cell cA (nn, arrC b S qn 0 0 t) = arrV cA nn (fun _ => defaultValue fty)) (hprim : ∀ (U : State) cA, va_RA U cA fty → U.vm.findClass ("[" ++ fty.toString) = some cA) (hsh : sh ++ [.inr (t, nn, 0, 0)] = sh2) (hcl : Cond.arrayClass fty ∈ lw_gd) (hx0 : 0 ≤ x ∧ x = (nn : Int) ∧ nn ≤ 1000) (hr : kc + 1 ≤ rm.cells ∧ ks + nn ≤ rm.slots) (d : decode cc pc = .ok (.newarray at_, 2)) (k : Rg G ret sf F (sh2, kc + 1, ks + nn) S (pc + 2) lv (vr G qn :: st) o) : Rg G ret sf F (sh, kc, ks) S pc lv (vi x :: st) o := by
  subst hqn
  obtain ⟨p, l, e, R, s, m, args, below, meth, c, cy, D, b, N⟩ := G
  obtain ⟨hR, hx, hb, hml, hown, hts, hlk, hrt, hK, hnw, hsta⟩ := g
  intro v ho H locs ls hN hP hS hlv
  subst hR
  subst hty
  refine W_sz (fun hsz => ?_)
  have hb1 : b ≤ s.heap.size := hb0
  have hz1 : s.heap.size + kc = b + sh.length := hz
  have hsz1 : H.size ≤ s.heap.size + kc := hsz
  have hlow : b + sh.length ≤ H.size := wd_low hP (Nat.le_trans hb1 hS.1)
  have e1 : H.size = b + sh.length := by omega
  obtain ⟨hx1, hx2, hx3⟩ := hx0
  have hnn : ¬ iI x < 0 := fun h => by rw [← iI_0, iI_lt ⟨by omega, by omega⟩ ⟨by omega, by omega⟩] at h; omega
  refine va_newaK hx hb (hts _ hcl) rfl d rfl hnn (N := nn) (by rw [iI_cl hx1 (by omega), hx2]; simp) (by have : componentBytes (newarray.typeOf at_) ≤ 8 := by { cases at_ <;> decide }; have := Nat.mul_le_mul hx3 this; omega) hr.1 hr.2 e1 (fun H1 cA c1 z1 o1 hAr hNm => ?_)
  refine k v ho H1 locs ls hN2 ?_ ⟨by have := hS.1; omega, fun x h1 h2 => (o1 x (by have := hS.1; omega)).trans (hS.2.1 x h1 h2), hS.2.2⟩ hlv
  show va_P D vwCl (wd cy b sh2 S) H1
  rw [← hsh, wd_app]
  refine (hP.kept (fun k x hx => o1 x.1 (by have := (hP k x hx).lt; omega))).app (fun k x hx => ?_)
  have hz2 : k < 1 := (List.getElem?_eq_some_iff.mp hx).1
  rw [show k = 0 by omega] at hx
  cases hx
  have hcA : cA = cy t := by
    have h1 := hprim _ _ (hK.2 t _ (ht cy)).2
    have h2 := hNm.symm.trans h1
    exact Option.some.inj h2
  subst hcA
  show H1[b + sh.length]? = some (vp_cell (cy t) (nn, arrC b S sh.length 0 0 t))
  rw [hcell (cy t) b hZ]
  exact c1
/-- a new array of references -/
theorem n_newr {t : Nat} {nm : String} {x : Int} {nn : Nat} (g : Ok G cc own nL rm rt) (hnm : nm = RX1 ∨ nm = RX2 ∨ nm = RX3) (ht : ∀ cy, (tysOf cy)[t + 4]? = some (cy (t + 4), .object nm)) (hz : gsz G + kc = gb G + sh.length) (hb0 : gb G ≤ gsz G) (hN2 : sh2.length ≤ gN G) {qn : Nat} (hqn : sh.length = qn) (hZ : ∀ j, S qn j = 0) (hsh : sh ++ [.inr (t + 4, nn, 0, 0)] = sh2) (hcl : Cond.classLink own idx nm ∈ lw_gd) (hx0 : 0 ≤ x ∧ x = (nn : Int) ∧ nn ≤ 1000) (hr : kc + 1 ≤ rm.cells ∧ ks + nn ≤ rm.slots) (d : decode cc pc = .ok (.anewarray idx, 3)) (k : Rg G ret sf F (sh2, kc + 1, ks + nn) S (pc + 3) lv (vr G qn :: st) o) : Rg G ret sf F (sh, kc, ks) S pc lv (vi x :: st) o := by
  subst hqn
  obtain ⟨p, l, e, R, s, m, args, below, meth, c, cy, D, b, N⟩ := G
  obtain ⟨hR, hx, hb, hml, hown, hts, hlk, hrt, hK, hnw, hsta⟩ := g
  intro v ho H locs ls hN hP hS hlv
  subst hR
  refine W_sz (fun hsz => ?_)
  have hb1 : b ≤ s.heap.size := hb0
  have hz1 : s.heap.size + kc = b + sh.length := hz
  have hsz1 : H.size ≤ s.heap.size + kc := hsz
  have hlow : b + sh.length ≤ H.size := wd_low hP (Nat.le_trans hb1 hS.1)
  have e1 : H.size = b + sh.length := by omega
  obtain ⟨hx1, hx2, hx3⟩ := hx0
  have hnn : ¬ iI x < 0 := fun h => by rw [← iI_0, iI_lt ⟨by omega, by omega⟩ ⟨by omega, by omega⟩] at h; omega
  have hcn : (iI x).toNatClampNeg = nn := by rw [iI_cl hx1 (by omega), hx2]; simp
  obtain ⟨kA, comp, k1, k2, k3, k4⟩ := (hK.2 (t + 4) _ (ht cy)).2
  have hao : va_AO nm s := by
    rcases hnm with rfl | rfl | rfl
    · exact hnw.2.1
    · exact hnw.2.2.1
    · exact hnw.2.2.2
  refine W.anew hx hb hown (hts _ hcl) (va_AO.use hao) rfl d rfl hnn (by rw [hcn]; omega) hr.1 (by rw [hcn]; exact hr.2) (fun cA kA' comp' f1 f2 f3 f4 => ?_)
  have hcA : cA = cy (t + 4) := Option.some.inj (f1.symm.trans k4)
  subst hcA
  rw [hcn]
  generalize hH1 : H.push ({ cls := cy (t + 4), slots := Array.replicate nn .null, vm := .none } : Cell) = H1
  have z1 : H1.size = H.size + 1 := by rw [← hH1, Array.size_push]
  have c1 : H1[H.size]? = some (arrV (cy (t + 4)) nn (fun _ => .null)) := by rw [← hH1, Array.getElem?_push_size, ← arrV_new]
  have o1 : ∀ q : Nat, q < H.size → H1[q]? = H[q]? := fun q hq => by rw [← hH1, Array.getElem?_push, if_neg (Nat.ne_of_lt hq)]
  have kk := k v ho H1 locs ls hN2 ?_ ⟨by have := hS.1; omega, fun x h1 h2 => (o1 x (by have := hS.1; omega)).trans (hS.2.1 x h1 h2), hS.2.2⟩ hlv
  · show W _ _ _ _ _ _ _ _ _ _ _ _ _ _ _ (F0 m (pc + 3) ls (.ref H.size :: st))
    rw [e1]
    exact kk
  · show va_P D vwCl (wd cy b sh2 S) H1
    rw [← hsh, wd_app]
    refine (hP.kept (fun k x hx => o1 x.1 (by have := (hP k x hx).lt; omega))).app (fun k x hx => ?_)
    have hz2 : k < 1 := (List.getElem?_eq_some_iff.mp hx).1
    rw [show k = 0 by omega] at hx
    cases hx
    show H1[b + sh.length]? = some (vp_cell (cy (t + 4)) (nn, .inr (.inr (.inr (.inr (refA b S sh.length 0 0))))))
    have er : refA b S sh.length 0 0 = fun _ => none := by
      funext j; simp [refA, hZ j, rf]
    rw [er, vp_cell_q, ← e1]
    exact c1
/-! fields and elements written, the new memory named -/
theorem n_putI {x : Int} (g : Ok G cc own nL rm rt) (K : KC ci Cn T n ty) (hsh : sh[q]? = some (.inl (ci, fk))) (j : Nat) (hj : fk[j]? = some 0) (hjn : j < n) (hf : (T j).2.2.2 = false) (hty : parseFieldDescriptor (T j).2.2.1 = some .int) (hl0 : Cond.fieldLink own idx (T j).1 (T j).2.1 (T j).2.2.1 ∈ lw_gd) (hS2 : put S q j x = S2) (d : decode cc pc = .ok (.putfield idx, 3)) (k : Rg G ret sf F (sh, kc, ks) S2 (pc + 3) lv st o) : Rg G ret sf F (sh, kc, ks) S pc lv (vi x :: vr G q :: st) o :=
  r_putI (f := fun _ => o) g K hsh j hj hjn hf hty hl0 d (fun S1 h => by rw [h, hS2]; exact k)
theorem n_putL {x : Int} (g : Ok G cc own nL rm rt) (K : KC ci Cn T n ty) (hsh : sh[q]? = some (.inl (ci, fk))) (j : Nat) (hj : fk[j]? = some 1) (hjn : j < n) (hf : (T j).2.2.2 = false) (hty : parseFieldDescriptor (T j).2.2.1 = some .long) (hl0 : Cond.fieldLink own idx (T j).1 (T j).2.1 (T j).2.2.1 ∈ lw_gd) (hS2 : put S q j x = S2) (d : decode cc pc = .ok (.putfield idx, 3)) (k : Rg G ret sf F (sh, kc, ks) S2 (pc + 3) lv st o) : Rg G ret sf F (sh, kc, ks) S pc lv (vl x :: vr G q :: st) o :=
  r_putL (f := fun _ => o) g K hsh j hj hjn hf hty hl0 d (fun S1 h => by rw [h, hS2]; exact k)
theorem n_putR {r : Nat} {nm : String} (g : Ok G cc own nL rm rt) (K : KC ci Cn T n ty) (hsh : sh[q]? = some (.inl (ci, fk))) (j : Nat) (hj : fk[j]? = some 2) (hjn : j < n) (hf : (T j).2.2.2 = false) (hty : parseFieldDescriptor (T j).2.2.1 = some (.object nm)) (hl0 : Cond.fieldLink own idx (T j).1 (T j).2.1 (T j).2.2.1 ∈ lw_gd) (hS2 : put S q j ((r : Int) + 1) = S2) (d : decode cc pc = .ok (.putfield idx, 3)) (k : Rg G ret sf F (sh, kc, ks) S2 (pc + 3) lv st o) : Rg G ret sf F (sh, kc, ks) S pc lv (vr G r :: vr G q :: st) o :=
  r_putR (f := fun _ => o) g K hsh j hj hjn hf hty hl0 d (fun S1 h => by rw [h, hS2]; exact k)
/-- a final field of references, in its class's own constructor -/
theorem n_putF {r : Nat} {ft : FieldType} (g : Ok G cc own nL rm rt) (hnm : gmn G = "<init>") (K : KC ci Cn T n ty) (hsh : sh[q]? = some (.inl (ci, fk))) (j : Nat) (hj : fk[j]? = some 2) (hjn : j < n) (hf : (T j).2.2.2 = true) (hd : (T j).1 = own) (hty : parseFieldDescriptor (T j).2.2.1 = some ft) (hft : ∀ a, narrow ft (.ref a) = .ref a ∧ fits ft (.ref a) = true) (hl0 : Cond.fieldLink own idx (T j).1 (T j).2.1 (T j).2.2.1 ∈ lw_gd) (hS2 : put S q j ((r : Int) + 1) = S2) (d : decode cc pc = .ok (.putfield idx, 3)) (k : Rg G ret sf F (sh, kc, ks) S2 (pc + 3) lv st o) : Rg G ret sf F (sh, kc, ks) S pc lv (vr G r :: vr G q :: st) o := by
  obtain ⟨p, l, e, R, s, m, args, below, meth, c, cy, D, b, N⟩ := G
  obtain ⟨hR, hx, hb, hml, hown, hts, hlk, hrt, hK, hnw, hsta⟩ := g
  intro v ho H locs ls hN hP hS hl
  refine va_putF hx hb hts K.2.1 ty K.2.2.1 K.2.2.2 hown hK hP (wd_D hN) hS q (wd_at hsh) K.1 j hjn (hts _ hl0) (fun _ h => h) hf hnm hd hty (hft _).1 (hft _).2 (by rw [fldL_len]; exact (List.getElem?_eq_some_iff.mp hj).1) d (fun H1 locs1 hP1 hD1 hS1 => ?_)
  rw [wd_put hsh (cell_fld (v := (r : Int) + 1) hj (by simp only [fldV, put_at, rf_succ]; rfl)), hS2] at hP1
  exact k v ho H1 locs1 ls hN hP1 hS1 hl
theorem n_iast {i x : Int} {nn c0 dd : Nat} (g : Ok G cc own nL rm rt) (hsh : sh[q]? = some (.inr (0, nn, c0, dd))) (hn : nn ≤ 2147483647) (hi : 0 ≤ i ∧ i < nn) (hS2 : put S q i.toNat x = S2) (d : decode cc pc = .ok (.iastore, 1)) (k : Rg G ret sf F (sh, kc, ks) S2 (pc + 1) lv st o) : Rg G ret sf F (sh, kc, ks) S pc lv (vi x :: vi i :: vr G q :: st) o := by
  obtain ⟨p, l, e, R, s, m, args, below, meth, c, cy, D, b, N⟩ := G
  obtain ⟨hR, hx, hb, hml, hown, hts, hlk, hrt, hK, hnw, hsta⟩ := g
  intro v ho H locs ls hN hP hS hl
  refine va_iast hx hb hK hP (wd_D hN) hS q 0 (wd_at hsh) rfl (iI_vp hn hi) d (fun H1 locs1 hP1 hD1 hS1 => ?_)
  rw [iI_cl hi.1 (by omega)] at hP1
  rw [wd_put hsh (j := i.toNat) (v := x) (by simp only [cellE, arrC, arrUpd]), hS2] at hP1
  exact k v ho H1 locs1 ls hN hP1 hS1 hl
theorem n_aast {i : Int} {r ck nn c0 : Nat} {vc : vw_C} {fkr : List Nat} (g : Ok G cc own nL rm rt) (t : Nat) (ht : ∀ cy, (tysOf cy)[t + 4]? = some (cy (t + 4), .object vc.1)) (hsh : sh[q]? = some (.inr (t + 4, nn, c0, 0))) (hr : sh[r]? = some (.inl (ck, fkr))) (hc : vwCl[ck]? = some vc) (hn : nn ≤ 2147483647) (hi : 0 ≤ i ∧ i < nn) (hS2 : put S q i.toNat ((r : Int) + 1) = S2) (d : decode cc pc = .ok (.aastore, 1)) (k : Rg G ret sf F (sh, kc, ks) S2 (pc + 1) lv st o) : Rg G ret sf F (sh, kc, ks) S pc lv (vr G r :: vi i :: vr G q :: st) o := by
  obtain ⟨p, l, e, R, s, m, args, below, meth, c, cy, D, b, N⟩ := G
  obtain ⟨hR, hx, hb, hml, hown, hts, hlk, hrt, hK, hnw, hsta⟩ := g
  intro v ho H locs ls hN hP hS hl
  refine va_astq (f := refA b S q c0 0) hx hb hK hP (wd_D hN) hS q (t + 4) r ck (wd_at hsh) (ht cy) (wd_at hr) hc (iI_vp hn hi) d (fun H1 locs1 hP1 hD1 hS1 => ?_)
  rw [iI_cl hi.1 (by omega)] at hP1
  rw [wd_put hsh (j := i.toNat) (v := (r : Int) + 1) (by simp only [cellE, arrC, refUpd]), hS2] at hP1
  exact k v ho H1 locs1 ls hN hP1 hS1 hl
theorem n_getR {r : Nat} (g : Ok G cc own nL rm rt) (K : KC ci Cn T n ty) (hsh : sh[q]? = some (.inl (ci, fk))) (j : Nat) (hj : fk[j]? = some 2) (hjn : j < n) (hl0 : Cond.fieldLink own idx (T j).1 (T j).2.1 (T j).2.2.1 ∈ lw_gd) (hv : S q j = (r : Int) + 1) (d : decode cc pc = .ok (.getfield idx, 3)) (k : Rg G ret sf F (sh, kc, ks) S (pc + 3) lv (vr G r :: st) o) : Rg G ret sf F (sh, kc, ks) S pc lv (vr G q :: st) o := by
  obtain ⟨p, l, e, R, s, m, args, below, meth, c, cy, D, b, N⟩ := G
  obtain ⟨hR, hx, hb, hml, hown, hts, hlk, hrt, hK, hnw, hsta⟩ := g
  intro v ho H locs ls hN hP hS hl
  have hv2 := fld_at (b := b) (S := S) (q := q) hj
  have e1 : fldV b S q j 2 = .ref (b + r) := by simp only [fldV, hv, rf_succ]; rfl
  rw [e1] at hv2
  exact va_get hx hb hts K.2.1 hown hK hP q (wd_at hsh) K.1 j hjn (hts _ hl0) (fun _ h => h) hv2 d (k v ho H locs ls hN hP hS hl)
theorem n_geF {x y : Int} {off : Int} (g : Ok G cc own nL rm rt) (hxy : in32 x ∧ in32 y ∧ x < y) (d : decode cc pc = .ok (.if_icmp .ge off, 3)) (tgt : Nat) (ht : (pc : Int) + off = (tgt : Int)) (k : Rg G ret sf F (sh, kc, ks) S (pc + 3) lv st o) : Rg G ret sf F (sh, kc, ks) S pc lv (vi y :: vi x :: st) o := by
  have h := r_icmp_ge (x := x) (y := y) (o1 := none) (o2 := o) g tgt d ht r_none k
  unfold cLT at h
  rw [if_pos ⟨hxy.1, hxy.2.1⟩, if_pos hxy.2.2] at h
  exact h
theorem n_geT {x y : Int} {off : Int} (g : Ok G cc own nL rm rt) (hxy : in32 x ∧ in32 y ∧ ¬ x < y) (d : decode cc pc = .ok (.if_icmp .ge off, 3)) (tgt : Nat) (ht : (pc : Int) + off = (tgt : Int)) (k : Rg G ret sf F (sh, kc, ks) S tgt lv st o) : Rg G ret sf F (sh, kc, ks) S pc lv (vi y :: vi x :: st) o := by
  have h := r_icmp_ge (x := x) (y := y) (o1 := o) (o2 := none) g tgt d ht k r_none
  unfold cLT at h
  rw [if_pos ⟨hxy.1, hxy.2.1⟩, if_neg hxy.2.2] at h
  exact h
theorem n_iinc {i : Nat} {nn x z : Int} (g : Ok G cc own nL rm rt) {lv' : List (Option Value)} (d : decode cc pc = .ok (.iinc i nn, 3)) (hn : i < nL) (hx0 : lv[i]? = some (some (vi x))) (hz : x + nn = z) (hl' : st1 lv i (vi z) = lv') (k : Rg G ret sf F (sh, kc, ks) S (pc + 3) lv' st o) : Rg G ret sf F (sh, kc, ks) S pc lv st o := by
  have h := r_iinc (f := fun w => if w = z then o else none) (S := S) (C := (sh, kc, ks)) (ret := ret) (sf := sf) (F := F) (st := st) g d hn hx0 (fun w => by
    by_cases hw : w = z
    · rw [if_pos hw, hw, hl']; exact k
    · rw [if_neg hw]; exact r_none)
  unfold setS at h
  dsimp only at h
  rw [if_pos hz] at h
  exact h
theorem n_max {x y z : Int} (g : Ok G cc own nL rm rt) (hxy : in32 x ∧ in32 y) (hz : max x y = z) (hl : Cond.methodLink own idx Lib.Math.max.name ∈ lw_gd) (hst : Cond.static Lib.Math.max.name ∈ lw_gd) (hi : Cond.initialized "java/lang/Math" ∈ lw_gd) (hc : Cond.code Lib.Math.max.name Lib.Math.max.code 2 (some .int) ∈ lw_gd) (hr : 1 ≤ rm.frames ∧ (st.map fun v => v.category).sum + 13 ≤ rm.locals) (hcs : kc ≤ rm.cells ∧ ks ≤ rm.slots) (d : decode cc pc = .ok (.invokestatic idx, 3)) (k : Rg G ret sf F (sh, kc, ks) S (pc + 3) lv (vi z :: st) o) : Rg G ret sf F (sh, kc, ks) S pc lv (vi y :: vi x :: st) o := by
  obtain ⟨p, l, e, R, s, m, args, below, meth, c, cy, D, b, N⟩ := G
  obtain ⟨hR, hx, hb, hml, hown, hts, hlk, hrt, hK, hnw, hsta⟩ := g
  intro v ho H locs ls hN hP hS hlv
  subst hR
  have kk := k v ho H locs ls hN hP hS hlv
  refine va_mmax hx hb hlv.1.symm hown (hts _ hl) (hts _ hst) (hts _ hi) (hts _ hc) hr.1 hr.2 hcs.1 hcs.2 d ?_
  rw [iI_max1 hxy.1 hxy.2, hz]
  exact kk
theorem n_obj {r : Nat} (g : Ok G cc own nL rm rt) (hl : Cond.methodLink own idx Lib.objectInit ∈ lw_gd) (hin : Cond.instanceMethod Lib.objectInit ∈ lw_gd) (hc : Cond.code Lib.objectInit ⟨#[0xb1]⟩ 1 none ∈ lw_gd) (hr : 1 ≤ rm.frames ∧ (st.map fun v => v.category).sum + 12 ≤ rm.locals) (d : decode cc pc = .ok (.invokespecial idx, 3)) (k : Rg G ret sf F (sh, kc, ks) S (pc + 3) lv st o) : Rg G ret sf F (sh, kc, ks) S pc lv (vr G r :: st) o := by
  obtain ⟨p, l, e, R, s, m, args, below, meth, c, cy, D, b, N⟩ := G
  obtain ⟨hR, hx, hb, hml, hown, hts, hlk, hrt, hK, hnw, hsta⟩ := g
  intro v ho H locs ls hN hP hS hlv
  subst hR
  exact W.objInit hx hb hown (hts _ hl) (hts _ hin) (hts _ hc) rfl hlv.1 rfl d hr.1 (by show 2 * 0 + _ + 12 ≤ _; have := hr.2; omega) (k v ho H locs ls hN hP hS hlv)
/-- a constructor is called: what it makes comes behind what there is -/
theorem n_ctor {y : MethodName} {ccc : ByteArray} {nLc : Nat} {rmc : Room} {Fc : Cf} {as : Nat → List Value} {nn : Nat} (g : Ok G cc own nL rm rt) (hz : gsz G + kc = gb G + sh.length) (hb0 : gb G ≤ gsz G) (hN2 : Fc.1.length ≤ gN G) (con : Con y ccc nLc none rmc true sh Fc (fun b => .ref (b + q) :: as b) S (fun _ => oVS) id (some S2)) (M : Mth y ccc nLc none nn) (hl : Cond.methodLink own idx y ∈ lw_gd) (hin : Cond.instanceMethod y ∈ lw_gd) (hy : y.name = "<init>") (hr : rmc.cells = Fc.2.1 ∧ rmc.slots = Fc.2.2 ∧ rmc.frames + 1 ≤ rm.frames ∧ 8 + (nLc + 11) + rmc.locals ≤ rm.locals) (hcs : kc + Fc.2.1 ≤ rm.cells ∧ ks + Fc.2.2 ≤ rm.slots) (hn : ∀ b, (as b).length = nn) (hst : st0 = (as (gb G)).reverse ++ vr G q :: st) (hW : (st.map fun v => v.category).sum ≤ 8) (d : decode cc pc = .ok (.invokespecial idx, 3))
    (k : Rg G ret sf F (Fc.1, kc + Fc.2.1, ks + Fc.2.2) S2 (pc + 3) lv st o) : Rg G ret sf F (sh, kc, ks) S pc lv st0 o := by
  obtain ⟨p, l, e, R, s, m, args, below, meth, c, cy, D, b, N⟩ := G
  obtain ⟨hR, hx, hb, hml, hown, hts, hlk, hrt, hK, hnw, hsta⟩ := g
  intro v ho H locs ls hN hP hS hlv
  subst hR
  refine W_sz (fun hsz => ?_)
  have hb1 : b ≤ s.heap.size := hb0
  have hz1 : s.heap.size + kc = b + sh.length := hz
  have hsz1 : H.size ≤ s.heap.size + kc := hsz
  have hlow : b + sh.length ≤ H.size := wd_low hP (Nat.le_trans hb1 hS.1)
  have e1 : H.size = b + sh.length := by omega
  refine va_callw (va_runI (As := as b) (rest := st) (b := b + q) (mc := Fc.2.1) (ms := Fc.2.2) (n := nn) ⟨hx, hb, hml, hown, hts⟩ (con l cy D b N S2 rfl hN hN2) (cwI nn hts (gd_ws M.1) rfl hr.1 hr.2.1 (hts _ M.2.1) (hts _ hl) (hts _ hin) hy M.2.2 hr.2.2) ⟨Pw_blind, fun U hU hW => ⟨rfl, Pw_in true (fun _ => e1) hK hnw hsta hP hS hU hW⟩⟩ rfl (hn b) (hlv.1.trans hml) hst (lv_room hW) d hcs) hS (fun H1 locs1 hP1 hS1 => ?_)
  exact k v ho H1 locs1 ls hN2 hP1 hS1 hlv
theorem n_ctorN {host : String} {y : MethodName} {ccc : ByteArray} {nLc : Nat} {rmc : Room} {Fc : Cf} {as : Nat → List Value} {nn : Nat} (g : Ok G cc own nL rm rt) (hz : gsz G + kc = gb G + sh.length) (hb0 : gb G ≤ gsz G) (hN2 : Fc.1.length ≤ gN G) (con : Con y ccc nLc none rmc true sh Fc (fun b => .ref (b + q) :: as b) S (fun _ => oVS) id (some S2)) (M : Mth y ccc nLc none nn) (hl : (own, idx, y, host) ∈ lw_nest) (hin : Cond.instanceMethod y ∈ lw_gd) (hy : y.name = "<init>") (hr : rmc.cells = Fc.2.1 ∧ rmc.slots = Fc.2.2 ∧ rmc.frames + 1 ≤ rm.frames ∧ 8 + (nLc + 11) + rmc.locals ≤ rm.locals) (hcs : kc + Fc.2.1 ≤ rm.cells ∧ ks + Fc.2.2 ≤ rm.slots) (hn : ∀ b, (as b).length = nn) (hst : st0 = (as (gb G)).reverse ++ vr G q :: st) (hW : (st.map fun v => v.category).sum ≤ 8) (d : decode cc pc = .ok (.invokespecial idx, 3))
    (k : Rg G ret sf F (Fc.1, kc + Fc.2.1, ks + Fc.2.2) S2 (pc + 3) lv st o) : Rg G ret sf F (sh, kc, ks) S pc lv st0 o := by
  obtain ⟨p, l, e, R, s, m, args, below, meth, c, cy, D, b, N⟩ := G
  obtain ⟨hR, hx, hb, hml, hown, hts, hlk, hrt, hK, hnw, hsta⟩ := g
  intro v ho H locs ls hN hP hS hlv
  subst hR
  refine W_sz (fun hsz => ?_)
  have hb1 : b ≤ s.heap.size := hb0
  have hz1 : s.heap.size + kc = b + sh.length := hz
  have hsz1 : H.size ≤ s.heap.size + kc := hsz
  have hlow : b + sh.length ≤ H.size := wd_low hP (Nat.le_trans hb1 hS.1)
  have e1 : H.size = b + sh.length := by omega
  refine va_callw (va_runIN (As := as b) (rest := st) (b := b + q) (mc := Fc.2.1) (ms := Fc.2.2) (n := nn) ⟨hx, hb, hml, hown, hts⟩ (con l cy D b N S2 rfl hN hN2) ⟨va_cnB nn hts (gd_ws M.1) rfl hr.1 hr.2.1 (hnw.1 _ hl) (hts _ M.2.1) M.2.2 hr.2.2, hy, hts _ hin⟩ ⟨Pw_blind, fun U hU hW => ⟨rfl, Pw_in true (fun _ => e1) hK hnw hsta hP hS hU hW⟩⟩ rfl (hn b) (hlv.1.trans hml) hst (lv_room hW) d hcs) hS (fun H1 locs1 hP1 hS1 => ?_)
  exact k v ho H1 locs1 ls hN2 hP1 hS1 hlv
end Make
/-! the shapes as they stand in the end: fixed references are read off the memory -/
def kdOK (S : St) (q j : Nat) (k k' : Nat) : Bool := k == k' || (k == 2 && decide (3 ≤ k') && S q j == ((k' - 3 : Nat) : Int) + 1)
def fkOK (S : St) (q : Nat) : Nat → List Nat → List Nat → Bool
  | _, [], [] => true
  | j, k :: ks, k' :: ks' => kdOK S q j k k' && fkOK S q (j + 1) ks ks'
  | _, _, _ => false
def rsOK (S : St) (q : Nat) : Sh → Sh → Bool
  | .inl (c, ks), .inl (c', ks') => c == c' && fkOK S q 0 ks ks'
  | .inr (t, n, c0, d), .inr (t', n', c0', d') => t == t' && n == n' && ((c0 == c0' && d == d') || (d == 0 && decide (1 ≤ d') && decide (4 ≤ t) && (List.range n).all fun j => S q j == ((c0' + d' * j : Nat) : Int) + 1))
  | _, _ => false
def rsAll (S : St) : Nat → List Sh → List Sh → Bool
  | _, [], [] => true
  | q, x :: l, y :: l' => rsOK S q x y && rsAll S (q + 1) l l'
  | _, _, _ => false
theorem fkOK_eq {b : Nat} {S : St} {q : Nat} : ∀ (ks ks' : List Nat) (j : Nat), fkOK S q j ks ks' = true → fldL b S q j ks = fldL b S q j ks'
  | [], [], _, _ => rfl
  | [], _ :: _, _, h => by simp [fkOK] at h
  | _ :: _, [], _, h => by simp [fkOK] at h
  | k :: ks, k' :: ks', j, h => by
    simp only [fkOK, Bool.and_eq_true] at h
    simp only [fldL]
    rw [fkOK_eq ks ks' (j + 1) h.2]
    congr 1
    have h1 := h.1
    unfold kdOK at h1
    simp only [Bool.or_eq_true, Bool.and_eq_true, beq_iff_eq, decide_eq_true_eq] at h1
    rcases h1 with h1 | ⟨⟨h1, h2⟩, h3⟩
    · rw [h1]
    · subst h1
      obtain ⟨c, rfl⟩ : ∃ c, k' = c + 3 := ⟨k' - 3, by omega⟩
      simp only [fldV, h3]
      rw [show c + 3 - 3 = c by omega, rf_succ]
      rfl
theorem vp_cell_refs {cA : ClassId} {n : Nat} {f g : Nat → Option Nat} (h : ∀ j, j < n → f j = g j) : vp_cell cA (n, .inr (.inr (.inr (.inr f)))) = vp_cell cA (n, .inr (.inr (.inr (.inr g)))) := by
  simp only [vp_cell]
  unfold arrV
  congr 1
  apply Array.ext
  · simp
  · intro i h1 h2
    simp at h1
    simp [h i h1]
theorem rsOK_at {cy : Nat → ClassId} {D : va_G} {b : Nat} {S : St} {q a : Nat} {x y : Sh} {H : Heap} (h : rsOK S q x y = true) (hx : va_at D vwCl (a, cellE cy b S q x) H) : va_at D vwCl (a, cellE cy b S q y) H := by
  cases x with
  | inl p =>
    cases y with
    | inl p' =>
      obtain ⟨c, ks⟩ := p
      obtain ⟨c', ks'⟩ := p'
      simp only [rsOK, Bool.and_eq_true, beq_iff_eq] at h
      simp only [cellE] at hx ⊢
      rw [← h.1, ← fkOK_eq ks ks' 0 h.2]
      exact hx
    | inr p' => simp [rsOK] at h
  | inr p =>
    cases y with
    | inl p' => simp [rsOK] at h
    | inr p' =>
      obtain ⟨t, n, c0, d⟩ := p
      obtain ⟨t', n', c0', d'⟩ := p'
      simp only [rsOK, Bool.and_eq_true, Bool.or_eq_true, beq_iff_eq, decide_eq_true_eq] at h
      obtain ⟨⟨rfl, rfl⟩, h⟩ := h
      rcases h with ⟨rfl, rfl⟩ | ⟨⟨⟨rfl, h2⟩, h3⟩, h4⟩
      · exact hx
      · obtain ⟨d2, rfl⟩ : ∃ d2, d' = d2 + 1 := ⟨d' - 1, by omega⟩
        obtain ⟨t2, rfl⟩ : ∃ t2, t = t2 + 4 := ⟨t - 4, by omega⟩
        simp only [cellE, arrC] at hx ⊢
        show H[a]? = some (vp_cell _ _)
        rw [show H[a]? = some (vp_cell _ _) from hx]
        congr 1
        apply vp_cell_refs
        intro j hj
        have h5 := List.all_eq_true.mp h4 j (List.mem_range.mpr hj)
        rw [beq_iff_eq] at h5
        simp only [refA, h5, rf_succ]
theorem rsAll_at {S : St} : ∀ (l l' : List Sh) (o : Nat), rsAll S o l l' = true → ∀ (q : Nat) (y : Sh), l'[q]? = some y → ∃ x, l[q]? = some x ∧ rsOK S (o + q) x y = true
  | [], [], _, _, q, y, hy => by simp at hy
  | [], _ :: _, _, h, _, _, _ => by simp [rsAll] at h
  | _ :: _, [], _, h, _, _, _ => by simp [rsAll] at h
  | x :: l, y0 :: l', o, h, q, y, hy => by
    simp only [rsAll, Bool.and_eq_true] at h
    cases q with
    | zero => simp at hy; subst hy; exact ⟨x, rfl, h.1⟩
    | succ q =>
      simp at hy
      obtain ⟨x', h1, h2⟩ := rsAll_at l l' (o + 1) h.2 q y hy
      exact ⟨x', by simpa using h1, by rw [show o + (q + 1) = o + 1 + q by omega]; exact h2⟩
theorem reshape {cy : Nat → ClassId} {D : va_G} {b : Nat} {S : St} {sh sh' : List Sh} {H : Heap} (h : rsAll S 0 sh sh' = true) (hP : va_P D vwCl (wd cy b sh S) H) : va_P D vwCl (wd cy b sh' S) H := by
  intro k q hq
  obtain ⟨y, hy, rfl⟩ := wd_inv hq
  obtain ⟨x, hx, h2⟩ := rsAll_at sh sh' 0 h k y hy
  rw [Nat.zero_add] at h2
  exact rsOK_at h2 (hP k _ (wd_at hx))
