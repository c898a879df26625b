/-! THE JUDGEMENT: the machine, at pc with locals lv, stack st and memory S, does what the program o says (o = none: nothing is claimed). -/
abbrev Gx : Type := Program × Launch × Env × Room × State × MethodId × Array Value × List Frame × Method × Code × (Nat → ClassId) × va_G × Nat × Nat
abbrev Cf : Type := List Sh × Nat × Nat
def gb (G : Gx) : Nat := G.2.2.2.2.2.2.2.2.2.2.2.2.1
def gsz (G : Gx) : Nat := G.2.2.2.2.1.heap.size
def gmn (G : Gx) : String := G.2.2.2.2.2.2.2.2.1.name
abbrev vr (G : Gx) (q : Nat) : Value := .ref (gb G + q)
def goodW (w : Cond) : Bool := (w.onTables && w.keeps) || (match w with | .arrayClass _ => true | _ => false)
def lw_gd : List Cond := lw_tbl.filter goodW
def lw_nest : List (String × Nat × MethodName × String) := lw_tbl.filterMap (fun w => match w with | .methodLinkNest a i x h => some (a, i, x, h) | _ => none)
def NestOk (U : State) : Prop := (∀ q ∈ lw_nest, va_Nw (.methodLinkNest q.1 q.2.1 q.2.2.1 q.2.2.2) U) ∧ va_AO RX1 U ∧ va_AO RX2 U ∧ va_AO RX3 U
def fn4 (a b c d : Int32) : Nat → Int32 := fun j => match j with | 0 => a | 1 => b | 2 => c | _ => d
def Stat1 (n : String) (f : Nat → Int32) (A : Nat → Prop) (U : State) (H : Heap) : Prop := ∃ a : Nat, va_Z RX5 n "[I" (.ref a) A U H ∧ va_X a 4 f U H ∧ a < H.size ∧ ¬ A a
def StatOk (A : Nat → Prop) (U : State) (H : Heap) : Prop := Stat1 "SETTING_MOST" (fn4 99999 99 9999 99) A U H ∧ Stat1 "SETTING_LEAST" (fn4 0 (-99) 0 0) A U H
def Ok (G : Gx) (cc : ByteArray) (own : String) (nL : Nat) (rm : Room) (rt : Option FieldType) : Prop := match G with
  | (p, _, _, R, s, m, args, _, meth, c, cy, D, b, N) => R = rm ∧ p.tables.exec = Jvm.exec ∧ c.code = cc ∧ c.maxLocals = nL ∧ s.vm.findClass own = some m.cls ∧ (∀ w ∈ lw_gd, w.before args s = true) ∧ meth.locks = false ∧ meth.sig.returnType = rt ∧ va_K D vwCl (tysOf cy) s ∧ NestOk s ∧ StatOk (inR b N) s s.heap
def Qw (cy : Nat → ClassId) (D : va_G) (b N : Nat) (sh : List Sh) (r : Option Value) (S : St) : Array Value → State → Outcome → State → Prop := fun _ st oc t => oc = .returned r ∧ va_P D vwCl (wd cy b sh S) t.heap ∧ va_F (inR b N) st t
def Rg (G : Gx) {ρ : Type} (ret : ρ → Option Value) (sf : ρ → St) (F C : Cf) (S : St) (pc : Nat) (lv : List (Option Value)) (st : List Value) (o : Option ρ) : Prop := match G with
  | (p, l, e, R, s, m, args, below, meth, c, cy, D, b, N) => ∀ (v : ρ), o = some v → ∀ (H : Heap) (locs : List Loc) (ls : Array Slot), C.1.length ≤ N → va_P D vwCl (wd cy b C.1 S) H → va_S (inR b N) s.heap H locs → lv_has ls c.maxLocals (lvA 0 lv) → W p l e R s m args below meth c H locs C.2.1 C.2.2 (MQ below (Qw cy D b N F.1 (ret v) (sf v)) args s F.2.1 F.2.2 (inR b N)) (F0 m pc ls st)
/-! how a method answers -/
def oI : Int → Option Value := fun v => some (vi v)
def oL : Int → Option Value := fun v => some (vl v)
def oV : Unit → Option Value := fun _ => none
def oIS : Int × St → Option Value := fun v => some (vi v.1)
def oLS : Int × St → Option Value := fun v => some (vl v.1)
def oVS : St → Option Value := fun _ => none
/-! the partial steps of a program -/
def cEQ {α : Type} (x y : Int) (a b : Option α) : Option α := if in32 x ∧ in32 y then (if x = y then a else b) else none
def cLT {α : Type} (x y : Int) (a b : Option α) : Option α := if in32 x ∧ in32 y then (if x < y then a else b) else none
def lEQ {α : Type} (x y : Int) (a b : Option α) : Option α := if in64 x ∧ in64 y then (if x = y then a else b) else none
def lLT {α : Type} (x y : Int) (a b : Option α) : Option α := if in64 x ∧ in64 y then (if x < y then a else b) else none
def ldI {α : Type} (S : St) (q n : Nat) (i : Int) (k : Int → Option α) : Option α := if 0 ≤ i ∧ i < n then k (S q i.toNat) else none
def stI {α : Type} (S : St) (q n : Nat) (i v : Int) (k : St → Option α) : Option α := if 0 ≤ i ∧ i < n then k (put S q i.toNat v) else none
def ldA {α : Type} (c0 d n : Nat) (i : Int) (k : Nat → Option α) : Option α := if 0 ≤ i ∧ i < n then k (c0 + d * i.toNat) else none
def gtR {α : Type} (S : St) (q j : Nat) (P : Nat → Bool) (k : Nat → Option α) : Option α := if 0 < S q j ∧ P (S q j - 1).toNat = true then k (S q j - 1).toNat else none
def ldR {α : Type} (S : St) (q n : Nat) (i : Int) (P : Nat → Bool) (k : Nat → Option α) : Option α := if 0 ≤ i ∧ i < n then gtR S q i.toNat P k else none
def dvI {α : Type} (x y : Int) (k : Int → Option α) : Option α := if in32 x ∧ in32 y ∧ y ≠ 0 then k (x.tdiv y) else none
def rmI {α : Type} (x y : Int) (k : Int → Option α) : Option α := if in32 x ∧ in32 y ∧ y ≠ 0 then k (x.tmod y) else none
def dvL {α : Type} (x y : Int) (k : Int → Option α) : Option α := if in64 x ∧ in64 y ∧ y ≠ 0 then k (x.tdiv y) else none
def rmL {α : Type} (x y : Int) (k : Int → Option α) : Option α := if in64 x ∧ in64 y ∧ y ≠ 0 then k (x.tmod y) else none
def wdI {α : Type} (x : Int) (k : Option α) : Option α := if in32 x then k else none
def isB {α : Type} (x : Int) (k : Option α) : Option α := if x = 0 ∨ x = 1 then k else none
def andI {α : Type} (x y : Int) (k : Int → Option α) : Option α := if 0 ≤ x ∧ x ≤ 2147483647 ∧ 0 ≤ y ∧ y ≤ 2147483647 then k ((x.toNat &&& y.toNat : Nat) : Int) else none
def orI {α : Type} (x y : Int) (k : Int → Option α) : Option α := if 0 ≤ x ∧ x ≤ 2147483647 ∧ 0 ≤ y ∧ y ≤ 2147483647 then k ((x.toNat ||| y.toNat : Nat) : Int) else none
def shlI {α : Type} (x y : Int) (k : Int → Option α) : Option α := if 0 ≤ x ∧ 0 ≤ y ∧ y ≤ 30 ∧ x * 2 ^ y.toNat ≤ 2147483647 then k (x * 2 ^ y.toNat) else none
def shrI {α : Type} (x y : Int) (k : Int → Option α) : Option α := if 0 ≤ x ∧ x ≤ 2147483647 ∧ 0 ≤ y ∧ y ≤ 30 then k (x / 2 ^ y.toNat) else none
def setS {α β : Type} (a : α) (k : α → β) : β := k a
def FU : Nat := 4096
theorem iI_nI (x : Int) (h : 0 ≤ x) : iI x = nI x.toNat := by
  unfold iI nI
  rw [← Int32.ofInt_eq_ofNat, Int.toNat_of_nonneg h]
theorem iI_ofNat (n : Nat) : iI (n : Int) = nI n := Int32.ofInt_eq_ofNat
theorem nI_and (a b : Nat) : nI a &&& nI b = nI (a &&& b) := by
  apply Int32.toBitVec_inj.mp
  simp [nI, Int32.toBitVec_and, BitVec.ofNat_and]
theorem nI_or (a b : Nat) : nI a ||| nI b = nI (a ||| b) := by
  apply Int32.toBitVec_inj.mp
  simp [nI, Int32.toBitVec_or, BitVec.ofNat_or]
theorem smod_31 : ∀ n, n < 32 → ((nI n &&& 31).toBitVec.smod 32).toNat = n := by decide
theorem ushr_31 : ∀ n, n < 32 → ((((nI n).toUInt32 &&& Int32.toUInt32 31).toBitVec % 32).toNat = n) := by decide
section Rows
variable {G : Gx} {cc : ByteArray} {own : String} {nL : Nat} {rm : Room} {rt : Option FieldType} {ρ : Type} {ret : ρ → Option Value} {sf : ρ → St} {F C : Cf} {S : St} {pc : Nat} {lv : List (Option Value)} {st : List Value} {o : Option ρ}
theorem r_none : Rg G ret sf F C S pc lv st none := by
  obtain ⟨p, l, e, R, s, m, args, below, meth, c, cy, D, b, N⟩ := G
  intro v ho
  cases ho
theorem r_msk (ms : List Bool) {lv' : List (Option Value)} (h : msk ms lv = lv') (k : Rg G ret sf F C S pc lv' st o) : Rg G ret sf F C S pc lv st o := by
  obtain ⟨p, l, e, R, s, m, args, below, meth, c, cy, D, b, N⟩ := G
  intro v ho H locs ls hN hP hS hl
  subst h
  exact k v ho H locs ls hN hP hS ⟨hl.1, hl.2.1, fun q hq => hl.2.2 q (msk_mem ms lv 0 q hq)⟩
theorem r_setS {α : Type} {a : α} {f : α → Option ρ} (k : ∀ z, z = a → Rg G ret sf F C S pc lv st (f z)) : Rg G ret sf F C S pc lv st (setS a f) := k a rfl
theorem r_topi {a : Int} {f : Int → Option ρ} (k : ∀ z, Rg G ret sf F C S pc lv (vi z :: st) (f z)) : Rg G ret sf F C S pc lv (vi a :: st) (setS a f) := k a
theorem r_topl {a : Int} {f : Int → Option ρ} (k : ∀ z, Rg G ret sf F C S pc lv (vl z :: st) (f z)) : Rg G ret sf F C S pc lv (vl a :: st) (setS a f) := k a
theorem r_split {x y : Int} {o1 o2 : Option ρ} (k1 : in32 x → x = y → Rg G ret sf F C S pc lv st o1) (k2 : in32 x → x ≠ y → Rg G ret sf F C S pc lv st o2) : Rg G ret sf F C S pc lv st (cEQ x y o1 o2) := by
  unfold cEQ
  by_cases h : in32 x ∧ in32 y
  · rw [if_pos h]
    by_cases e : x = y
    · rw [if_pos e]; exact k1 h.1 e
    · rw [if_neg e]; exact k2 h.1 e
  · rw [if_neg h]; exact r_none
theorem r_iconst (g : Ok G cc own nL rm rt) {x : Int} (d : decode cc pc = .ok (.iconst x, 1)) (k : Rg G ret sf F C S (pc + 1) lv (vi x :: st) o) : Rg G ret sf F C S pc lv (st) o := by
  obtain ⟨p, l, e, R, s, m, args, below, meth, c, cy, D, b, N⟩ := G
  obtain ⟨hR, hx, hb, hml, hown, hts, hlk, hrt, hK, hnw, hsta⟩ := g
  intro v ho H locs ls hN hP hS hl
  exact lv_iconst hx hb d rfl (k v ho H locs ls hN hP hS hl)
theorem r_bipush (g : Ok G cc own nL rm rt) {x : Int} (d : decode cc pc = .ok (.bipush x, 2)) (hv : (Int8.ofInt x).toInt32 = iI x) (k : Rg G ret sf F C S (pc + 2) lv (vi x :: st) o) : Rg G ret sf F C S pc lv (st) o := by
  obtain ⟨p, l, e, R, s, m, args, below, meth, c, cy, D, b, N⟩ := G
  obtain ⟨hR, hx, hb, hml, hown, hts, hlk, hrt, hK, hnw, hsta⟩ := g
  intro v ho H locs ls hN hP hS hl
  exact lv_bipush hx hb d hv (k v ho H locs ls hN hP hS hl)
theorem r_sipush (g : Ok G cc own nL rm rt) {x : Int} (d : decode cc pc = .ok (.sipush x, 3)) (hv : (Int16.ofInt x).toInt32 = iI x) (k : Rg G ret sf F C S (pc + 3) lv (vi x :: st) o) : Rg G ret sf F C S pc lv (st) o := by
  obtain ⟨p, l, e, R, s, m, args, below, meth, c, cy, D, b, N⟩ := G
  obtain ⟨hR, hx, hb, hml, hown, hts, hlk, hrt, hK, hnw, hsta⟩ := g
  intro v ho H locs ls hN hP hS hl
  exact lv_sipush hx hb d hv (k v ho H locs ls hN hP hS hl)
theorem r_lconst (g : Ok G cc own nL rm rt) {n : Fin 2} {x : Int} (d : decode cc pc = .ok (.lconst n, 1)) (hv : Int64.ofNat (n : Nat) = lI x) (k : Rg G ret sf F C S (pc + 1) lv (vl x :: st) o) : Rg G ret sf F C S pc lv (st) o := by
  obtain ⟨p, l, e, R, s, m, args, below, meth, c, cy, D, b, N⟩ := G
  obtain ⟨hR, hx, hb, hml, hown, hts, hlk, hrt, hK, hnw, hsta⟩ := g
  intro v ho H locs ls hN hP hS hl
  exact lv_lconst hx hb d hv (k v ho H locs ls hN hP hS hl)
theorem r_ldc (g : Ok G cc own nL rm rt) {n : Nat} {x : Int} {y : Int32} (d : decode cc pc = .ok (.ldc n, 2)) (hc : Cond.constant own n y ∈ lw_gd) (hv : y = iI x) (k : Rg G ret sf F C S (pc + 2) lv (vi x :: st) o) : Rg G ret sf F C S pc lv (st) o := by
  obtain ⟨p, l, e, R, s, m, args, below, meth, c, cy, D, b, N⟩ := G
  obtain ⟨hR, hx, hb, hml, hown, hts, hlk, hrt, hK, hnw, hsta⟩ := g
  intro v ho H locs ls hN hP hS hl
  exact lv_ldc hx hb hown (hts _ (hv ▸ hc)) d (k v ho H locs ls hN hP hS hl)
theorem r_ldcw (g : Ok G cc own nL rm rt) {n : Nat} {x : Int} {y : Int32} (d : decode cc pc = .ok (.ldc_w n, 3)) (hc : Cond.constant own n y ∈ lw_gd) (hv : y = iI x) (k : Rg G ret sf F C S (pc + 3) lv (vi x :: st) o) : Rg G ret sf F C S pc lv (st) o := by
  obtain ⟨p, l, e, R, s, m, args, below, meth, c, cy, D, b, N⟩ := G
  obtain ⟨hR, hx, hb, hml, hown, hts, hlk, hrt, hK, hnw, hsta⟩ := g
  intro v ho H locs ls hN hP hS hl
  exact lv_ldcw hx hb hown (hts _ (hv ▸ hc)) d (k v ho H locs ls hN hP hS hl)
theorem r_ldc2 (g : Ok G cc own nL rm rt) {n : Nat} {x : Int} {y : Int64} (d : decode cc pc = .ok (.ldc2_w n, 3)) (hc : Cond.constantLong own n y ∈ lw_gd) (hv : y = lI x) (k : Rg G ret sf F C S (pc + 3) lv (vl x :: st) o) : Rg G ret sf F C S pc lv (st) o := by
  obtain ⟨p, l, e, R, s, m, args, below, meth, c, cy, D, b, N⟩ := G
  obtain ⟨hR, hx, hb, hml, hown, hts, hlk, hrt, hK, hnw, hsta⟩ := g
  intro v ho H locs ls hN hP hS hl
  exact lv_ldc2 hx hb hown (hts _ (hv ▸ hc)) d (k v ho H locs ls hN hP hS hl)
theorem r_iload (g : Ok G cc own nL rm rt) {i : Nat} {x : Int} (d : decode cc pc = .ok (.iload i, 2)) (h : lv[i]? = some (some (vi x))) (k : Rg G ret sf F C S (pc + 2) lv (vi x :: st) o) : Rg G ret sf F C S pc lv st o := by
  obtain ⟨p, l, e, R, s, m, args, below, meth, c, cy, D, b, N⟩ := G
  obtain ⟨hR, hx, hb, hml, hown, hts, hlk, hrt, hK, hnw, hsta⟩ := g
  intro v ho H locs ls hN hP hS hl
  exact lv_iload hx hb d (hl.2.2 (i, vi x) (by have := lvA_mem lv 0 i _ h; rwa [Nat.zero_add] at this)) (k v ho H locs ls hN hP hS hl)
theorem r_iload_n (g : Ok G cc own nL rm rt) {i : Fin 4} {x : Int} (d : decode cc pc = .ok (.iload_n i, 1)) (h : lv[(i : Nat)]? = some (some (vi x))) (k : Rg G ret sf F C S (pc + 1) lv (vi x :: st) o) : Rg G ret sf F C S pc lv st o := by
  obtain ⟨p, l, e, R, s, m, args, below, meth, c, cy, D, b, N⟩ := G
  obtain ⟨hR, hx, hb, hml, hown, hts, hlk, hrt, hK, hnw, hsta⟩ := g
  intro v ho H locs ls hN hP hS hl
  exact lv_iload_n hx hb d rfl (hl.2.2 ((i : Nat), vi x) (by have := lvA_mem lv 0 i _ h; rwa [Nat.zero_add] at this)) (k v ho H locs ls hN hP hS hl)
theorem r_istore (g : Ok G cc own nL rm rt) {i : Nat} {x : Int} {lv' : List (Option Value)} (d : decode cc pc = .ok (.istore i, 2)) (hn : i < nL) (h : st1 lv i (vi x) = lv') (k : Rg G ret sf F C S (pc + 2) lv' st o) : Rg G ret sf F C S pc lv (vi x :: st) o := by
  obtain ⟨p, l, e, R, s, m, args, below, meth, c, cy, D, b, N⟩ := G
  obtain ⟨hR, hx, hb, hml, hown, hts, hlk, hrt, hK, hnw, hsta⟩ := g
  intro v ho H locs ls hN hP hS hl
  subst h
  refine lv_istore hx hb d hl (by rw [hml]; exact hn) rfl (fun ls' hl' => k v ho H locs ls' hN hP hS ?_)
  refine ⟨hl'.1, hl'.2.1, fun q hq => hl'.2.2 q ?_⟩
  rcases st1_mem lv 0 i _ q hq with e1 | ⟨a1, a2, a4⟩
  · rw [e1, Nat.zero_add]; exact List.mem_cons_self
  · refine List.mem_cons_of_mem _ (List.mem_filter.mpr ⟨a1, ?_⟩)
    rw [Nat.zero_add] at a2 a4
    simp only [Bool.and_eq_true, Bool.not_eq_true', beq_eq_false_iff_ne, Bool.and_eq_false_iff]
    refine ⟨a2, ?_⟩
    by_cases h1 : q.1 + 1 = i
    · exact Or.inr (fun h2 => a4 ⟨h1, h2⟩)
    · exact Or.inl h1
theorem r_istore_n (g : Ok G cc own nL rm rt) {j : Fin 4} (i : Nat) {x : Int} {lv' : List (Option Value)} (d : decode cc pc = .ok (.istore_n j, 1)) (hi : (j : Nat) = i) (hn : i < nL) (h : st1 lv i (vi x) = lv') (k : Rg G ret sf F C S (pc + 1) lv' st o) : Rg G ret sf F C S pc lv (vi x :: st) o := by
  obtain ⟨p, l, e, R, s, m, args, below, meth, c, cy, D, b, N⟩ := G
  obtain ⟨hR, hx, hb, hml, hown, hts, hlk, hrt, hK, hnw, hsta⟩ := g
  intro v ho H locs ls hN hP hS hl
  subst h
  refine lv_istore_n hx hb d hi hl (by rw [hml]; exact hn) rfl (fun ls' hl' => k v ho H locs ls' hN hP hS ?_)
  refine ⟨hl'.1, hl'.2.1, fun q hq => hl'.2.2 q ?_⟩
  rcases st1_mem lv 0 i _ q hq with e1 | ⟨a1, a2, a4⟩
  · rw [e1, Nat.zero_add]; exact List.mem_cons_self
  · refine List.mem_cons_of_mem _ (List.mem_filter.mpr ⟨a1, ?_⟩)
    rw [Nat.zero_add] at a2 a4
    simp only [Bool.and_eq_true, Bool.not_eq_true', beq_eq_false_iff_ne, Bool.and_eq_false_iff]
    refine ⟨a2, ?_⟩
    by_cases h1 : q.1 + 1 = i
    · exact Or.inr (fun h2 => a4 ⟨h1, h2⟩)
    · exact Or.inl h1
theorem r_iinc (g : Ok G cc own nL rm rt) {i : Nat} {n : Int} {x : Int} {f : Int → Option ρ} (d : decode cc pc = .ok (.iinc i n, 3)) (hn : i < nL) (hx0 : lv[i]? = some (some (vi x))) (k : ∀ z, Rg G ret sf F C S (pc + 3) (st1 lv i (vi z)) st (f z)) : Rg G ret sf F C S pc lv st (setS (x + n) f) := by
  obtain ⟨p, l, e, R, s, m, args, below, meth, c, cy, D, b, N⟩ := G
  obtain ⟨hR, hx, hb, hml, hown, hts, hlk, hrt, hK, hnw, hsta⟩ := g
  intro v ho H locs ls hN hP hS hl
  have hm : (i, Value.int (iI x)) ∈ lvA 0 lv := by have := lvA_mem lv 0 i _ hx0; rwa [Nat.zero_add] at this
  obtain ⟨kk, hkk⟩ := List.getElem?_of_mem hm
  refine lv_iinc (v := iI (x + n)) hx hb d hl hkk (by rw [← iI_add]; rfl) (by rw [hml]; exact hn) rfl (fun ls' hl' => k (x + n) v ho H locs ls' hN hP hS ?_)
  refine ⟨hl'.1, hl'.2.1, fun q hq => hl'.2.2 q ?_⟩
  rcases st1_mem lv 0 i _ q hq with e1 | ⟨a1, a2, a4⟩
  · rw [e1, Nat.zero_add]; exact List.mem_cons_self
  · refine List.mem_cons_of_mem _ (List.mem_filter.mpr ⟨a1, ?_⟩)
    rw [Nat.zero_add] at a2 a4
    simp only [Bool.and_eq_true, Bool.not_eq_true', beq_eq_false_iff_ne, Bool.and_eq_false_iff]
    refine ⟨a2, ?_⟩
    by_cases h1 : q.1 + 1 = i
    · exact Or.inr (fun h2 => a4 ⟨h1, h2⟩)
    · exact Or.inl h1
theorem r_lload (g : Ok G cc own nL rm rt) {i : Nat} {x : Int} (d : decode cc pc = .ok (.lload i, 2)) (h : lv[i]? = some (some (vl x))) (k : Rg G ret sf F C S (pc + 2) lv (vl x :: st) o) : Rg G ret sf F C S pc lv st o := by
  obtain ⟨p, l, e, R, s, m, args, below, meth, c, cy, D, b, N⟩ := G
  obtain ⟨hR, hx, hb, hml, hown, hts, hlk, hrt, hK, hnw, hsta⟩ := g
  intro v ho H locs ls hN hP hS hl
  exact lv_lload hx hb d (hl.2.2 (i, vl x) (by have := lvA_mem lv 0 i _ h; rwa [Nat.zero_add] at this)) (k v ho H locs ls hN hP hS hl)
theorem r_lload_n (g : Ok G cc own nL rm rt) {i : Fin 4} {x : Int} (d : decode cc pc = .ok (.lload_n i, 1)) (h : lv[(i : Nat)]? = some (some (vl x))) (k : Rg G ret sf F C S (pc + 1) lv (vl x :: st) o) : Rg G ret sf F C S pc lv st o := by
  obtain ⟨p, l, e, R, s, m, args, below, meth, c, cy, D, b, N⟩ := G
  obtain ⟨hR, hx, hb, hml, hown, hts, hlk, hrt, hK, hnw, hsta⟩ := g
  intro v ho H locs ls hN hP hS hl
  exact lv_lload_n hx hb d rfl (hl.2.2 ((i : Nat), vl x) (by have := lvA_mem lv 0 i _ h; rwa [Nat.zero_add] at this)) (k v ho H locs ls hN hP hS hl)
theorem r_lstore (g : Ok G cc own nL rm rt) {i : Nat} {x : Int} {lv' : List (Option Value)} (d : decode cc pc = .ok (.lstore i, 2)) (hn : i + 1 < nL) (h : st2 lv i (vl x) = lv') (k : Rg G ret sf F C S (pc + 2) lv' st o) : Rg G ret sf F C S pc lv (vl x :: st) o := by
  obtain ⟨p, l, e, R, s, m, args, below, meth, c, cy, D, b, N⟩ := G
  obtain ⟨hR, hx, hb, hml, hown, hts, hlk, hrt, hK, hnw, hsta⟩ := g
  intro v ho H locs ls hN hP hS hl
  subst h
  refine lv_lstore hx hb d hl (by rw [hml]; exact hn) rfl (fun ls' hl' => k v ho H locs ls' hN hP hS ?_)
  refine ⟨hl'.1, hl'.2.1, fun q hq => hl'.2.2 q ?_⟩
  rcases st2_mem lv 0 i _ q hq with e1 | ⟨a1, a2, a3, a4⟩
  · rw [e1, Nat.zero_add]; exact List.mem_cons_self
  · refine List.mem_cons_of_mem _ (List.mem_filter.mpr ⟨a1, ?_⟩)
    rw [Nat.zero_add] at a2 a3 a4
    simp only [Bool.and_eq_true, Bool.not_eq_true', beq_eq_false_iff_ne, Bool.and_eq_false_iff]
    refine ⟨a2, a3, ?_⟩
    by_cases h1 : q.1 + 1 = i
    · exact Or.inr (fun h2 => a4 ⟨h1, h2⟩)
    · exact Or.inl h1
theorem r_lstore_n (g : Ok G cc own nL rm rt) {j : Fin 4} (i : Nat) {x : Int} {lv' : List (Option Value)} (d : decode cc pc = .ok (.lstore_n j, 1)) (hi : (j : Nat) = i) (hn : i + 1 < nL) (h : st2 lv i (vl x) = lv') (k : Rg G ret sf F C S (pc + 1) lv' st o) : Rg G ret sf F C S pc lv (vl x :: st) o := by
  obtain ⟨p, l, e, R, s, m, args, below, meth, c, cy, D, b, N⟩ := G
  obtain ⟨hR, hx, hb, hml, hown, hts, hlk, hrt, hK, hnw, hsta⟩ := g
  intro v ho H locs ls hN hP hS hl
  subst h
  refine lv_lstore_n hx hb d hi hl (by rw [hml]; exact hn) rfl (fun ls' hl' => k v ho H locs ls' hN hP hS ?_)
  refine ⟨hl'.1, hl'.2.1, fun q hq => hl'.2.2 q ?_⟩
  rcases st2_mem lv 0 i _ q hq with e1 | ⟨a1, a2, a3, a4⟩
  · rw [e1, Nat.zero_add]; exact List.mem_cons_self
  · refine List.mem_cons_of_mem _ (List.mem_filter.mpr ⟨a1, ?_⟩)
    rw [Nat.zero_add] at a2 a3 a4
    simp only [Bool.and_eq_true, Bool.not_eq_true', beq_eq_false_iff_ne, Bool.and_eq_false_iff]
    refine ⟨a2, a3, ?_⟩
    by_cases h1 : q.1 + 1 = i
    · exact Or.inr (fun h2 => a4 ⟨h1, h2⟩)
    · exact Or.inl h1
theorem r_aload (g : Ok G cc own nL rm rt) {i : Nat} {x : Nat} (d : decode cc pc = .ok (.aload i, 2)) (h : lv[i]? = some (some (.ref x))) (k : Rg G ret sf F C S (pc + 2) lv (.ref x :: st) o) : Rg G ret sf F C S pc lv st o := by
  obtain ⟨p, l, e, R, s, m, args, below, meth, c, cy, D, b, N⟩ := G
  obtain ⟨hR, hx, hb, hml, hown, hts, hlk, hrt, hK, hnw, hsta⟩ := g
  intro v ho H locs ls hN hP hS hl
  exact lv_aload hx hb d (hl.2.2 (i, .ref x) (by have := lvA_mem lv 0 i _ h; rwa [Nat.zero_add] at this)) (k v ho H locs ls hN hP hS hl)
theorem r_aload_n (g : Ok G cc own nL rm rt) {i : Fin 4} {x : Nat} (d : decode cc pc = .ok (.aload_n i, 1)) (h : lv[(i : Nat)]? = some (some (.ref x))) (k : Rg G ret sf F C S (pc + 1) lv (.ref x :: st) o) : Rg G ret sf F C S pc lv st o := by
  obtain ⟨p, l, e, R, s, m, args, below, meth, c, cy, D, b, N⟩ := G
  obtain ⟨hR, hx, hb, hml, hown, hts, hlk, hrt, hK, hnw, hsta⟩ := g
  intro v ho H locs ls hN hP hS hl
  exact lv_aload_n hx hb d rfl (hl.2.2 ((i : Nat), .ref x) (by have := lvA_mem lv 0 i _ h; rwa [Nat.zero_add] at this)) (k v ho H locs ls hN hP hS hl)
theorem r_astore (g : Ok G cc own nL rm rt) {i : Nat} {x : Nat} {lv' : List (Option Value)} (d : decode cc pc = .ok (.astore i, 2)) (hn : i < nL) (h : st1 lv i (.ref x) = lv') (k : Rg G ret sf F C S (pc + 2) lv' st o) : Rg G ret sf F C S pc lv (.ref x :: st) o := by
  obtain ⟨p, l, e, R, s, m, args, below, meth, c, cy, D, b, N⟩ := G
  obtain ⟨hR, hx, hb, hml, hown, hts, hlk, hrt, hK, hnw, hsta⟩ := g
  intro v ho H locs ls hN hP hS hl
  subst h
  refine lv_astore hx hb d hl (by rw [hml]; exact hn) rfl (fun ls' hl' => k v ho H locs ls' hN hP hS ?_)
  refine ⟨hl'.1, hl'.2.1, fun q hq => hl'.2.2 q ?_⟩
  rcases st1_mem lv 0 i _ q hq with e1 | ⟨a1, a2, a4⟩
  · rw [e1, Nat.zero_add]; exact List.mem_cons_self
  · refine List.mem_cons_of_mem _ (List.mem_filter.mpr ⟨a1, ?_⟩)
    rw [Nat.zero_add] at a2 a4
    simp only [Bool.and_eq_true, Bool.not_eq_true', beq_eq_false_iff_ne, Bool.and_eq_false_iff]
    refine ⟨a2, ?_⟩
    by_cases h1 : q.1 + 1 = i
    · exact Or.inr (fun h2 => a4 ⟨h1, h2⟩)
    · exact Or.inl h1
theorem r_astore_n (g : Ok G cc own nL rm rt) {j : Fin 4} (i : Nat) {x : Nat} {lv' : List (Option Value)} (d : decode cc pc = .ok (.astore_n j, 1)) (hi : (j : Nat) = i) (hn : i < nL) (h : st1 lv i (.ref x) = lv') (k : Rg G ret sf F C S (pc + 1) lv' st o) : Rg G ret sf F C S pc lv (.ref x :: st) o := by
  obtain ⟨p, l, e, R, s, m, args, below, meth, c, cy, D, b, N⟩ := G
  obtain ⟨hR, hx, hb, hml, hown, hts, hlk, hrt, hK, hnw, hsta⟩ := g
  intro v ho H locs ls hN hP hS hl
  subst h
  refine lv_astore_n hx hb d hi hl (by rw [hml]; exact hn) rfl (fun ls' hl' => k v ho H locs ls' hN hP hS ?_)
  refine ⟨hl'.1, hl'.2.1, fun q hq => hl'.2.2 q ?_⟩
  rcases st1_mem lv 0 i _ q hq with e1 | ⟨a1, a2, a4⟩
  · rw [e1, Nat.zero_add]; exact List.mem_cons_self
  · refine List.mem_cons_of_mem _ (List.mem_filter.mpr ⟨a1, ?_⟩)
    rw [Nat.zero_add] at a2 a4
    simp only [Bool.and_eq_true, Bool.not_eq_true', beq_eq_false_iff_ne, Bool.and_eq_false_iff]
    refine ⟨a2, ?_⟩
    by_cases h1 : q.1 + 1 = i
    · exact Or.inr (fun h2 => a4 ⟨h1, h2⟩)
    · exact Or.inl h1
theorem r_iadd (g : Ok G cc own nL rm rt) {x y : Int} (d : decode cc pc = .ok (.iadd, 1)) (k : Rg G ret sf F C S (pc + 1) lv (vi (x + y) :: st) o) : Rg G ret sf F C S pc lv (vi y :: vi x :: st) o := by
  obtain ⟨p, l, e, R, s, m, args, below, meth, c, cy, D, b, N⟩ := G
  obtain ⟨hR, hx, hb, hml, hown, hts, hlk, hrt, hK, hnw, hsta⟩ := g
  intro v ho H locs ls hN hP hS hl
  have kk := (k v ho H locs ls hN hP hS hl)
  refine lv_iadd hx hb d ?_
  rw [iI_add]
  exact kk
theorem r_isub (g : Ok G cc own nL rm rt) {x y : Int} (d : decode cc pc = .ok (.isub, 1)) (k : Rg G ret sf F C S (pc + 1) lv (vi (x - y) :: st) o) : Rg G ret sf F C S pc lv (vi y :: vi x :: st) o := by
  obtain ⟨p, l, e, R, s, m, args, below, meth, c, cy, D, b, N⟩ := G
  obtain ⟨hR, hx, hb, hml, hown, hts, hlk, hrt, hK, hnw, hsta⟩ := g
  intro v ho H locs ls hN hP hS hl
  have kk := (k v ho H locs ls hN hP hS hl)
  refine lv_isub hx hb d ?_
  rw [iI_sub]
  exact kk
theorem r_imul (g : Ok G cc own nL rm rt) {x y : Int} (d : decode cc pc = .ok (.imul, 1)) (k : Rg G ret sf F C S (pc + 1) lv (vi (x * y) :: st) o) : Rg G ret sf F C S pc lv (vi y :: vi x :: st) o := by
  obtain ⟨p, l, e, R, s, m, args, below, meth, c, cy, D, b, N⟩ := G
  obtain ⟨hR, hx, hb, hml, hown, hts, hlk, hrt, hK, hnw, hsta⟩ := g
  intro v ho H locs ls hN hP hS hl
  have kk := (k v ho H locs ls hN hP hS hl)
  refine lv_imul hx hb d ?_
  rw [iI_mul]
  exact kk
theorem r_ladd (g : Ok G cc own nL rm rt) {x y : Int} (d : decode cc pc = .ok (.ladd, 1)) (k : Rg G ret sf F C S (pc + 1) lv (vl (x + y) :: st) o) : Rg G ret sf F C S pc lv (vl y :: vl x :: st) o := by
  obtain ⟨p, l, e, R, s, m, args, below, meth, c, cy, D, b, N⟩ := G
  obtain ⟨hR, hx, hb, hml, hown, hts, hlk, hrt, hK, hnw, hsta⟩ := g
  intro v ho H locs ls hN hP hS hl
  have kk := (k v ho H locs ls hN hP hS hl)
  refine lv_ladd hx hb d ?_
  rw [lI_add]
  exact kk
theorem r_lsub (g : Ok G cc own nL rm rt) {x y : Int} (d : decode cc pc = .ok (.lsub, 1)) (k : Rg G ret sf F C S (pc + 1) lv (vl (x - y) :: st) o) : Rg G ret sf F C S pc lv (vl y :: vl x :: st) o := by
  obtain ⟨p, l, e, R, s, m, args, below, meth, c, cy, D, b, N⟩ := G
  obtain ⟨hR, hx, hb, hml, hown, hts, hlk, hrt, hK, hnw, hsta⟩ := g
  intro v ho H locs ls hN hP hS hl
  have kk := (k v ho H locs ls hN hP hS hl)
  refine lv_lsub hx hb d ?_
  rw [lI_sub]
  exact kk
theorem r_lmul (g : Ok G cc own nL rm rt) {x y : Int} (d : decode cc pc = .ok (.lmul, 1)) (k : Rg G ret sf F C S (pc + 1) lv (vl (x * y) :: st) o) : Rg G ret sf F C S pc lv (vl y :: vl x :: st) o := by
  obtain ⟨p, l, e, R, s, m, args, below, meth, c, cy, D, b, N⟩ := G
  obtain ⟨hR, hx, hb, hml, hown, hts, hlk, hrt, hK, hnw, hsta⟩ := g
  intro v ho H locs ls hN hP hS hl
  have kk := (k v ho H locs ls hN hP hS hl)
  refine lv_lmul hx hb d ?_
  rw [lI_mul]
  exact kk
theorem r_ineg (g : Ok G cc own nL rm rt) {x : Int} (d : decode cc pc = .ok (.ineg, 1)) (k : Rg G ret sf F C S (pc + 1) lv (vi (-x) :: st) o) : Rg G ret sf F C S pc lv (vi x :: st) o := by
  obtain ⟨p, l, e, R, s, m, args, below, meth, c, cy, D, b, N⟩ := G
  obtain ⟨hR, hx, hb, hml, hown, hts, hlk, hrt, hK, hnw, hsta⟩ := g
  intro v ho H locs ls hN hP hS hl
  have kk := (k v ho H locs ls hN hP hS hl)
  refine lv_ineg hx hb d ?_
  rw [iI_neg]
  exact kk
theorem r_lneg (g : Ok G cc own nL rm rt) {x : Int} (d : decode cc pc = .ok (.lneg, 1)) (k : Rg G ret sf F C S (pc + 1) lv (vl (-x) :: st) o) : Rg G ret sf F C S pc lv (vl x :: st) o := by
  obtain ⟨p, l, e, R, s, m, args, below, meth, c, cy, D, b, N⟩ := G
  obtain ⟨hR, hx, hb, hml, hown, hts, hlk, hrt, hK, hnw, hsta⟩ := g
  intro v ho H locs ls hN hP hS hl
  have kk := (k v ho H locs ls hN hP hS hl)
  refine lv_lneg hx hb d ?_
  rw [lI_neg]
  exact kk
theorem r_l2i (g : Ok G cc own nL rm rt) {x : Int} (d : decode cc pc = .ok (.l2i, 1)) (k : Rg G ret sf F C S (pc + 1) lv (vi x :: st) o) : Rg G ret sf F C S pc lv (vl x :: st) o := by
  obtain ⟨p, l, e, R, s, m, args, below, meth, c, cy, D, b, N⟩ := G
  obtain ⟨hR, hx, hb, hml, hown, hts, hlk, hrt, hK, hnw, hsta⟩ := g
  intro v ho H locs ls hN hP hS hl
  have kk := (k v ho H locs ls hN hP hS hl)
  refine lv_l2i hx hb d rfl ?_
  rw [lI_i]
  exact kk
theorem r_i2b (g : Ok G cc own nL rm rt) {x : Int} (d : decode cc pc = .ok (.i2b, 1)) (k : Rg G ret sf F C S (pc + 1) lv (vi (x.bmod 256) :: st) o) : Rg G ret sf F C S pc lv (vi x :: st) o := by
  obtain ⟨p, l, e, R, s, m, args, below, meth, c, cy, D, b, N⟩ := G
  obtain ⟨hR, hx, hb, hml, hown, hts, hlk, hrt, hK, hnw, hsta⟩ := g
  intro v ho H locs ls hN hP hS hl
  have kk := (k v ho H locs ls hN hP hS hl)
  refine lv_i2b hx hb d rfl ?_
  rw [iI_b]
  exact kk
theorem r_i2l (g : Ok G cc own nL rm rt) {x : Int} (d : decode cc pc = .ok (.i2l, 1)) (k : Rg G ret sf F C S (pc + 1) lv (vl x :: st) o) : Rg G ret sf F C S pc lv (vi x :: st) (wdI x o) := by
  obtain ⟨p, l, e, R, s, m, args, below, meth, c, cy, D, b, N⟩ := G
  obtain ⟨hR, hx, hb, hml, hown, hts, hlk, hrt, hK, hnw, hsta⟩ := g
  intro v ho H locs ls hN hP hS hl
  unfold wdI at ho
  by_cases h : in32 x
  · rw [if_pos h] at ho
    have kk := (k v ho H locs ls hN hP hS hl)
    refine lv_i2l hx hb d rfl ?_
    rw [iI_l h]
    exact kk
  · rw [if_neg h] at ho; cases ho
theorem r_i2lk (g : Ok G cc own nL rm rt) {x : Int} (h : in32 x) (d : decode cc pc = .ok (.i2l, 1)) (k : Rg G ret sf F C S (pc + 1) lv (vl x :: st) o) : Rg G ret sf F C S pc lv (vi x :: st) o := by
  obtain ⟨p, l, e, R, s, m, args, below, meth, c, cy, D, b, N⟩ := G
  obtain ⟨hR, hx, hb, hml, hown, hts, hlk, hrt, hK, hnw, hsta⟩ := g
  intro v ho H locs ls hN hP hS hl
  have kk := (k v ho H locs ls hN hP hS hl)
  refine lv_i2l hx hb d rfl ?_
  rw [iI_l h]
  exact kk
theorem r_dup (g : Ok G cc own nL rm rt) {va : Value} (d : decode cc pc = .ok (.dup, 1)) (hc : va.category = 1) (k : Rg G ret sf F C S (pc + 1) lv (va :: va :: st) o) : Rg G ret sf F C S pc lv (va :: st) o := by
  obtain ⟨p, l, e, R, s, m, args, below, meth, c, cy, D, b, N⟩ := G
  obtain ⟨hR, hx, hb, hml, hown, hts, hlk, hrt, hK, hnw, hsta⟩ := g
  intro v ho H locs ls hN hP hS hl
  exact lv_dup hx hb d hc (k v ho H locs ls hN hP hS hl)
theorem r_dup2 (g : Ok G cc own nL rm rt) {va vb : Value} (d : decode cc pc = .ok (.dup2, 1)) (hc : va.category = 1) (hc2 : vb.category = 1) (k : Rg G ret sf F C S (pc + 1) lv (va :: vb :: va :: vb :: st) o) : Rg G ret sf F C S pc lv (va :: vb :: st) o := by
  obtain ⟨p, l, e, R, s, m, args, below, meth, c, cy, D, b, N⟩ := G
  obtain ⟨hR, hx, hb, hml, hown, hts, hlk, hrt, hK, hnw, hsta⟩ := g
  intro v ho H locs ls hN hP hS hl
  exact lv_dup2_11 hx hb d hc hc2 (k v ho H locs ls hN hP hS hl)
theorem r_pop (g : Ok G cc own nL rm rt) {va : Value} (d : decode cc pc = .ok (.pop, 1)) (hc : va.category = 1) (k : Rg G ret sf F C S (pc + 1) lv (st) o) : Rg G ret sf F C S pc lv (va :: st) o := by
  obtain ⟨p, l, e, R, s, m, args, below, meth, c, cy, D, b, N⟩ := G
  obtain ⟨hR, hx, hb, hml, hown, hts, hlk, hrt, hK, hnw, hsta⟩ := g
  intro v ho H locs ls hN hP hS hl
  exact lv_pop hx hb d hc (k v ho H locs ls hN hP hS hl)
theorem r_idiv (g : Ok G cc own nL rm rt) {x y : Int} {f : Int → Option ρ} (d : decode cc pc = .ok (.idiv, 1)) (k : ∀ z, Rg G ret sf F C S (pc + 1) lv (vi z :: st) (f z)) : Rg G ret sf F C S pc lv (vi y :: vi x :: st) (dvI x y f) := by
  obtain ⟨p, l, e, R, s, m, args, below, meth, c, cy, D, b, N⟩ := G
  obtain ⟨hR, hx, hb, hml, hown, hts, hlk, hrt, hK, hnw, hsta⟩ := g
  intro v ho H locs ls hN hP hS hl
  unfold dvI at ho
  by_cases hy : in32 x ∧ in32 y ∧ y ≠ 0
  · rw [if_pos hy] at ho
    have kk := k _ v ho H locs ls hN hP hS hl
    refine lv_idiv hx hb d (fun h => hy.2.2 ((iI_eq hy.2.1 ⟨by decide, by decide⟩).mp (h.trans iI_0.symm))) ?_
    rw [iI_div hy.1 hy.2.1]
    exact kk
  · rw [if_neg hy] at ho; cases ho
theorem r_irem (g : Ok G cc own nL rm rt) {x y : Int} {f : Int → Option ρ} (d : decode cc pc = .ok (.irem, 1)) (k : ∀ z, Rg G ret sf F C S (pc + 1) lv (vi z :: st) (f z)) : Rg G ret sf F C S pc lv (vi y :: vi x :: st) (rmI x y f) := by
  obtain ⟨p, l, e, R, s, m, args, below, meth, c, cy, D, b, N⟩ := G
  obtain ⟨hR, hx, hb, hml, hown, hts, hlk, hrt, hK, hnw, hsta⟩ := g
  intro v ho H locs ls hN hP hS hl
  unfold rmI at ho
  by_cases hy : in32 x ∧ in32 y ∧ y ≠ 0
  · rw [if_pos hy] at ho
    have kk := k _ v ho H locs ls hN hP hS hl
    refine lv_irem hx hb d (fun h => hy.2.2 ((iI_eq hy.2.1 ⟨by decide, by decide⟩).mp (h.trans iI_0.symm))) ?_
    rw [iI_rem hy.1 hy.2.1]
    exact kk
  · rw [if_neg hy] at ho; cases ho
theorem r_ldiv (g : Ok G cc own nL rm rt) {x y : Int} {f : Int → Option ρ} (d : decode cc pc = .ok (.ldiv, 1)) (k : ∀ z, Rg G ret sf F C S (pc + 1) lv (vl z :: st) (f z)) : Rg G ret sf F C S pc lv (vl y :: vl x :: st) (dvL x y f) := by
  obtain ⟨p, l, e, R, s, m, args, below, meth, c, cy, D, b, N⟩ := G
  obtain ⟨hR, hx, hb, hml, hown, hts, hlk, hrt, hK, hnw, hsta⟩ := g
  intro v ho H locs ls hN hP hS hl
  unfold dvL at ho
  by_cases hy : in64 x ∧ in64 y ∧ y ≠ 0
  · rw [if_pos hy] at ho
    have kk := k _ v ho H locs ls hN hP hS hl
    refine lv_ldiv hx hb d (fun h => hy.2.2 ((lI_eq hy.2.1 ⟨by decide, by decide⟩).mp (h.trans lI_0.symm))) ?_
    rw [lI_div hy.1 hy.2.1]
    exact kk
  · rw [if_neg hy] at ho; cases ho
theorem r_lrem (g : Ok G cc own nL rm rt) {x y : Int} {f : Int → Option ρ} (d : decode cc pc = .ok (.lrem, 1)) (k : ∀ z, Rg G ret sf F C S (pc + 1) lv (vl z :: st) (f z)) : Rg G ret sf F C S pc lv (vl y :: vl x :: st) (rmL x y f) := by
  obtain ⟨p, l, e, R, s, m, args, below, meth, c, cy, D, b, N⟩ := G
  obtain ⟨hR, hx, hb, hml, hown, hts, hlk, hrt, hK, hnw, hsta⟩ := g
  intro v ho H locs ls hN hP hS hl
  unfold rmL at ho
  by_cases hy : in64 x ∧ in64 y ∧ y ≠ 0
  · rw [if_pos hy] at ho
    have kk := k _ v ho H locs ls hN hP hS hl
    refine lv_lrem hx hb d (fun h => hy.2.2 ((lI_eq hy.2.1 ⟨by decide, by decide⟩).mp (h.trans lI_0.symm))) ?_
    rw [lI_rem hy.1 hy.2.1]
    exact kk
  · rw [if_neg hy] at ho; cases ho
theorem r_iand (g : Ok G cc own nL rm rt) {x y : Int} {f : Int → Option ρ} (d : decode cc pc = .ok (.iand, 1)) (k : ∀ z, Rg G ret sf F C S (pc + 1) lv (vi z :: st) (f z)) : Rg G ret sf F C S pc lv (vi y :: vi x :: st) (andI x y f) := by
  obtain ⟨p, l, e, R, s, m, args, below, meth, c, cy, D, b, N⟩ := G
  obtain ⟨hR, hx, hb, hml, hown, hts, hlk, hrt, hK, hnw, hsta⟩ := g
  intro v ho H locs ls hN hP hS hl
  unfold andI at ho
  by_cases hy : 0 ≤ x ∧ x ≤ 2147483647 ∧ 0 ≤ y ∧ y ≤ 2147483647
  · rw [if_pos hy] at ho
    have kk := k _ v ho H locs ls hN hP hS hl
    refine lv_iand hx hb d ?_
    rw [iI_nI x hy.1, iI_nI y hy.2.2.1, nI_and, ← iI_ofNat]
    exact kk
  · rw [if_neg hy] at ho; cases ho
theorem r_ior (g : Ok G cc own nL rm rt) {x y : Int} {f : Int → Option ρ} (d : decode cc pc = .ok (.ior, 1)) (k : ∀ z, Rg G ret sf F C S (pc + 1) lv (vi z :: st) (f z)) : Rg G ret sf F C S pc lv (vi y :: vi x :: st) (orI x y f) := by
  obtain ⟨p, l, e, R, s, m, args, below, meth, c, cy, D, b, N⟩ := G
  obtain ⟨hR, hx, hb, hml, hown, hts, hlk, hrt, hK, hnw, hsta⟩ := g
  intro v ho H locs ls hN hP hS hl
  unfold orI at ho
  by_cases hy : 0 ≤ x ∧ x ≤ 2147483647 ∧ 0 ≤ y ∧ y ≤ 2147483647
  · rw [if_pos hy] at ho
    have kk := k _ v ho H locs ls hN hP hS hl
    refine lv_ior hx hb d ?_
    rw [iI_nI x hy.1, iI_nI y hy.2.2.1, nI_or, ← iI_ofNat]
    exact kk
  · rw [if_neg hy] at ho; cases ho
theorem r_ishl (g : Ok G cc own nL rm rt) {x y : Int} {f : Int → Option ρ} (d : decode cc pc = .ok (.ishl, 1)) (k : ∀ z, Rg G ret sf F C S (pc + 1) lv (vi z :: st) (f z)) : Rg G ret sf F C S pc lv (vi y :: vi x :: st) (shlI x y f) := by
  obtain ⟨p, l, e, R, s, m, args, below, meth, c, cy, D, b, N⟩ := G
  obtain ⟨hR, hx, hb, hml, hown, hts, hlk, hrt, hK, hnw, hsta⟩ := g
  intro v ho H locs ls hN hP hS hl
  unfold shlI at ho
  by_cases hy : 0 ≤ x ∧ 0 ≤ y ∧ y ≤ 30 ∧ x * 2 ^ y.toNat ≤ 2147483647
  · rw [if_pos hy] at ho
    have kk := k _ v ho H locs ls hN hP hS hl
    refine lv_ishl hx hb d ?_
    obtain ⟨a, rfl⟩ := Int.eq_ofNat_of_zero_le hy.1
    obtain ⟨k, rfl⟩ := Int.eq_ofNat_of_zero_le hy.2.1
    have h4 : a * 2 ^ k < 2 ^ 32 := by
      have h5 := hy.2.2.2
      rw [Int.toNat_natCast] at h5
      have h6 : ((a * 2 ^ k : Nat) : Int) ≤ 2147483647 := by simpa using h5
      omega
    rw [iI_ofNat a, iI_ofNat k, pk_shlN _ k (smod_31 k (by have := hy.2.2.1; omega)) h4]
    have e : nI (a * 2 ^ k) = iI (((a : Nat) : Int) * 2 ^ (((k : Nat) : Int)).toNat) := by
      rw [Int.toNat_natCast, ← iI_ofNat]; simp
    rw [e]
    exact kk
  · rw [if_neg hy] at ho; cases ho
theorem r_ishr (g : Ok G cc own nL rm rt) {x y : Int} {f : Int → Option ρ} (d : decode cc pc = .ok (.ishr, 1)) (k : ∀ z, Rg G ret sf F C S (pc + 1) lv (vi z :: st) (f z)) : Rg G ret sf F C S pc lv (vi y :: vi x :: st) (shrI x y f) := by
  obtain ⟨p, l, e, R, s, m, args, below, meth, c, cy, D, b, N⟩ := G
  obtain ⟨hR, hx, hb, hml, hown, hts, hlk, hrt, hK, hnw, hsta⟩ := g
  intro v ho H locs ls hN hP hS hl
  unfold shrI at ho
  by_cases hy : 0 ≤ x ∧ x ≤ 2147483647 ∧ 0 ≤ y ∧ y ≤ 30
  · rw [if_pos hy] at ho
    have kk := k _ v ho H locs ls hN hP hS hl
    refine lv_ishr hx hb d ?_
    obtain ⟨a, rfl⟩ := Int.eq_ofNat_of_zero_le hy.1
    obtain ⟨k, rfl⟩ := Int.eq_ofNat_of_zero_le hy.2.2.1
    rw [iI_ofNat a, iI_ofNat k, pk_shrN (by have := hy.2.1; omega) _ k (smod_31 k (by have := hy.2.2.2; omega))]
    have e : nI (a / 2 ^ k) = iI (((a : Nat) : Int) / 2 ^ (((k : Nat) : Int)).toNat) := by
      rw [Int.toNat_natCast, ← iI_ofNat]; simp
    rw [e]
    exact kk
  · rw [if_neg hy] at ho; cases ho
theorem r_iushr (g : Ok G cc own nL rm rt) {x y : Int} {f : Int → Option ρ} (d : decode cc pc = .ok (.iushr, 1)) (k : ∀ z, Rg G ret sf F C S (pc + 1) lv (vi z :: st) (f z)) : Rg G ret sf F C S pc lv (vi y :: vi x :: st) (shrI x y f) := by
  obtain ⟨p, l, e, R, s, m, args, below, meth, c, cy, D, b, N⟩ := G
  obtain ⟨hR, hx, hb, hml, hown, hts, hlk, hrt, hK, hnw, hsta⟩ := g
  intro v ho H locs ls hN hP hS hl
  unfold shrI at ho
  by_cases hy : 0 ≤ x ∧ x ≤ 2147483647 ∧ 0 ≤ y ∧ y ≤ 30
  · rw [if_pos hy] at ho
    have kk := k _ v ho H locs ls hN hP hS hl
    refine lv_iushr hx hb d rfl ?_
    obtain ⟨a, rfl⟩ := Int.eq_ofNat_of_zero_le hy.1
    obtain ⟨k, rfl⟩ := Int.eq_ofNat_of_zero_le hy.2.2.1
    rw [iI_ofNat a, iI_ofNat k, pk_ushrN (by have := hy.2.1; omega) _ k (ushr_31 k (by have := hy.2.2.2; omega))]
    have e : nI (a / 2 ^ k) = iI (((a : Nat) : Int) / 2 ^ (((k : Nat) : Int)).toNat) := by
      rw [Int.toNat_natCast, ← iI_ofNat]; simp
    rw [e]
    exact kk
  · rw [if_neg hy] at ho; cases ho
theorem r_icmp_eq (g : Ok G cc own nL rm rt) {x y : Int} {off : Int} (tgt : Nat) {o1 o2 : Option ρ} (d : decode cc pc = .ok (.if_icmp .eq off, 3)) (ht : (pc : Int) + off = (tgt : Int)) (kt : Rg G ret sf F C S tgt lv st o1) (kf : Rg G ret sf F C S (pc + 3) lv st o2) : Rg G ret sf F C S pc lv (vi y :: vi x :: st) (cEQ x y o1 o2) := by
  obtain ⟨p, l, e, R, s, m, args, below, meth, c, cy, D, b, N⟩ := G
  obtain ⟨hR, hx, hb, hml, hown, hts, hlk, hrt, hK, hnw, hsta⟩ := g
  intro v ho H locs ls hN hP hS hl
  unfold cEQ at ho
  by_cases hc : in32 x ∧ in32 y
  · rw [if_pos hc] at ho
    exact lv_icmp_eq hx hb d ht (fun h => kt v (by rw [if_pos ((iI_eq hc.1 hc.2).mp (by first | exact h | (rw [iI_0]; exact h) | (simpa [iI_0] using h)))] at ho; exact ho) H locs ls hN hP hS hl) (fun h => kf v (by rw [if_neg (fun z => h (by have z2 := (iI_eq hc.1 hc.2).mpr z; first | exact z2 | (rw [iI_0] at z2; exact z2)))] at ho; exact ho) H locs ls hN hP hS hl)
  · rw [if_neg hc] at ho; cases ho
theorem r_if_eq (g : Ok G cc own nL rm rt) {x : Int} {off : Int} (tgt : Nat) {o1 o2 : Option ρ} (d : decode cc pc = .ok (.ifCond .eq off, 3)) (ht : (pc : Int) + off = (tgt : Int)) (kt : Rg G ret sf F C S tgt lv st o1) (kf : Rg G ret sf F C S (pc + 3) lv st o2) : Rg G ret sf F C S pc lv (vi x :: st) (cEQ x 0 o1 o2) := by
  obtain ⟨p, l, e, R, s, m, args, below, meth, c, cy, D, b, N⟩ := G
  obtain ⟨hR, hx, hb, hml, hown, hts, hlk, hrt, hK, hnw, hsta⟩ := g
  intro v ho H locs ls hN hP hS hl
  unfold cEQ at ho
  by_cases hc : in32 x ∧ in32 0
  · rw [if_pos hc] at ho
    exact lv_if_eq hx hb d ht (fun h => kt v (by rw [if_pos ((iI_eq hc.1 hc.2).mp (by first | exact h | (rw [iI_0]; exact h) | (simpa [iI_0] using h)))] at ho; exact ho) H locs ls hN hP hS hl) (fun h => kf v (by rw [if_neg (fun z => h (by have z2 := (iI_eq hc.1 hc.2).mpr z; first | exact z2 | (rw [iI_0] at z2; exact z2)))] at ho; exact ho) H locs ls hN hP hS hl)
  · rw [if_neg hc] at ho; cases ho
theorem r_icmp_ne (g : Ok G cc own nL rm rt) {x y : Int} {off : Int} (tgt : Nat) {o1 o2 : Option ρ} (d : decode cc pc = .ok (.if_icmp .ne off, 3)) (ht : (pc : Int) + off = (tgt : Int)) (kt : Rg G ret sf F C S tgt lv st o1) (kf : Rg G ret sf F C S (pc + 3) lv st o2) : Rg G ret sf F C S pc lv (vi y :: vi x :: st) (cEQ x y o2 o1) := by
  obtain ⟨p, l, e, R, s, m, args, below, meth, c, cy, D, b, N⟩ := G
  obtain ⟨hR, hx, hb, hml, hown, hts, hlk, hrt, hK, hnw, hsta⟩ := g
  intro v ho H locs ls hN hP hS hl
  unfold cEQ at ho
  by_cases hc : in32 x ∧ in32 y
  · rw [if_pos hc] at ho
    exact lv_icmp_ne hx hb d ht (fun h => kt v (by rw [if_neg (fun z => h (by have z2 := (iI_eq hc.1 hc.2).mpr z; first | exact z2 | (rw [iI_0] at z2; exact z2)))] at ho; exact ho) H locs ls hN hP hS hl) (fun h => kf v (by rw [if_pos ((iI_eq hc.1 hc.2).mp (by first | exact h | (rw [iI_0]; exact h)))] at ho; exact ho) H locs ls hN hP hS hl)
  · rw [if_neg hc] at ho; cases ho
theorem r_if_ne (g : Ok G cc own nL rm rt) {x : Int} {off : Int} (tgt : Nat) {o1 o2 : Option ρ} (d : decode cc pc = .ok (.ifCond .ne off, 3)) (ht : (pc : Int) + off = (tgt : Int)) (kt : Rg G ret sf F C S tgt lv st o1) (kf : Rg G ret sf F C S (pc + 3) lv st o2) : Rg G ret sf F C S pc lv (vi x :: st) (cEQ x 0 o2 o1) := by
  obtain ⟨p, l, e, R, s, m, args, below, meth, c, cy, D, b, N⟩ := G
  obtain ⟨hR, hx, hb, hml, hown, hts, hlk, hrt, hK, hnw, hsta⟩ := g
  intro v ho H locs ls hN hP hS hl
  unfold cEQ at ho
  by_cases hc : in32 x ∧ in32 0
  · rw [if_pos hc] at ho
    exact lv_if_ne hx hb d ht (fun h => kt v (by rw [if_neg (fun z => h (by have z2 := (iI_eq hc.1 hc.2).mpr z; first | exact z2 | (rw [iI_0] at z2; exact z2)))] at ho; exact ho) H locs ls hN hP hS hl) (fun h => kf v (by rw [if_pos ((iI_eq hc.1 hc.2).mp (by first | exact h | (rw [iI_0]; exact h)))] at ho; exact ho) H locs ls hN hP hS hl)
  · rw [if_neg hc] at ho; cases ho
theorem r_icmp_lt (g : Ok G cc own nL rm rt) {x y : Int} {off : Int} (tgt : Nat) {o1 o2 : Option ρ} (d : decode cc pc = .ok (.if_icmp .lt off, 3)) (ht : (pc : Int) + off = (tgt : Int)) (kt : Rg G ret sf F C S tgt lv st o1) (kf : Rg G ret sf F C S (pc + 3) lv st o2) : Rg G ret sf F C S pc lv (vi y :: vi x :: st) (cLT x y o1 o2) := by
  obtain ⟨p, l, e, R, s, m, args, below, meth, c, cy, D, b, N⟩ := G
  obtain ⟨hR, hx, hb, hml, hown, hts, hlk, hrt, hK, hnw, hsta⟩ := g
  intro v ho H locs ls hN hP hS hl
  unfold cLT at ho
  by_cases hc : in32 x ∧ in32 y
  · rw [if_pos hc] at ho
    exact lv_icmp_lt hx hb d ht (fun h => kt v (by rw [if_pos ((iI_lt hc.1 hc.2).mp (by first | exact h | (rw [iI_0]; exact h) | (simpa [iI_0] using h)))] at ho; exact ho) H locs ls hN hP hS hl) (fun h => kf v (by rw [if_neg (fun z => h (by have z2 := (iI_lt hc.1 hc.2).mpr z; first | exact z2 | (rw [iI_0] at z2; exact z2)))] at ho; exact ho) H locs ls hN hP hS hl)
  · rw [if_neg hc] at ho; cases ho
theorem r_if_lt (g : Ok G cc own nL rm rt) {x : Int} {off : Int} (tgt : Nat) {o1 o2 : Option ρ} (d : decode cc pc = .ok (.ifCond .lt off, 3)) (ht : (pc : Int) + off = (tgt : Int)) (kt : Rg G ret sf F C S tgt lv st o1) (kf : Rg G ret sf F C S (pc + 3) lv st o2) : Rg G ret sf F C S pc lv (vi x :: st) (cLT x 0 o1 o2) := by
  obtain ⟨p, l, e, R, s, m, args, below, meth, c, cy, D, b, N⟩ := G
  obtain ⟨hR, hx, hb, hml, hown, hts, hlk, hrt, hK, hnw, hsta⟩ := g
  intro v ho H locs ls hN hP hS hl
  unfold cLT at ho
  by_cases hc : in32 x ∧ in32 0
  · rw [if_pos hc] at ho
    exact lv_if_lt hx hb d ht (fun h => kt v (by rw [if_pos ((iI_lt hc.1 hc.2).mp (by first | exact h | (rw [iI_0]; exact h) | (simpa [iI_0] using h)))] at ho; exact ho) H locs ls hN hP hS hl) (fun h => kf v (by rw [if_neg (fun z => h (by have z2 := (iI_lt hc.1 hc.2).mpr z; first | exact z2 | (rw [iI_0] at z2; exact z2)))] at ho; exact ho) H locs ls hN hP hS hl)
  · rw [if_neg hc] at ho; cases ho
theorem r_icmp_ge (g : Ok G cc own nL rm rt) {x y : Int} {off : Int} (tgt : Nat) {o1 o2 : Option ρ} (d : decode cc pc = .ok (.if_icmp .ge off, 3)) (ht : (pc : Int) + off = (tgt : Int)) (kt : Rg G ret sf F C S tgt lv st o1) (kf : Rg G ret sf F C S (pc + 3) lv st o2) : Rg G ret sf F C S pc lv (vi y :: vi x :: st) (cLT x y o2 o1) := by
  obtain ⟨p, l, e, R, s, m, args, below, meth, c, cy, D, b, N⟩ := G
  obtain ⟨hR, hx, hb, hml, hown, hts, hlk, hrt, hK, hnw, hsta⟩ := g
  intro v ho H locs ls hN hP hS hl
  unfold cLT at ho
  by_cases hc : in32 x ∧ in32 y
  · rw [if_pos hc] at ho
    exact lv_icmp_ge hx hb d ht (fun h => kt v (by rw [if_neg (Int.not_lt.mpr ((iI_le hc.2 hc.1).mp (by first | exact h | (rw [iI_0]; exact h))))] at ho; exact ho) H locs ls hN hP hS hl) (fun h => kf v (by rw [if_pos (Int.not_le.mp (fun z => h (by have z2 := (iI_le hc.2 hc.1).mpr z; first | exact z2 | (rw [iI_0] at z2; exact z2))))] at ho; exact ho) H locs ls hN hP hS hl)
  · rw [if_neg hc] at ho; cases ho
theorem r_if_ge (g : Ok G cc own nL rm rt) {x : Int} {off : Int} (tgt : Nat) {o1 o2 : Option ρ} (d : decode cc pc = .ok (.ifCond .ge off, 3)) (ht : (pc : Int) + off = (tgt : Int)) (kt : Rg G ret sf F C S tgt lv st o1) (kf : Rg G ret sf F C S (pc + 3) lv st o2) : Rg G ret sf F C S pc lv (vi x :: st) (cLT x 0 o2 o1) := by
  obtain ⟨p, l, e, R, s, m, args, below, meth, c, cy, D, b, N⟩ := G
  obtain ⟨hR, hx, hb, hml, hown, hts, hlk, hrt, hK, hnw, hsta⟩ := g
  intro v ho H locs ls hN hP hS hl
  unfold cLT at ho
  by_cases hc : in32 x ∧ in32 0
  · rw [if_pos hc] at ho
    exact lv_if_ge hx hb d ht (fun h => kt v (by rw [if_neg (Int.not_lt.mpr ((iI_le hc.2 hc.1).mp (by first | exact h | (rw [iI_0]; exact h))))] at ho; exact ho) H locs ls hN hP hS hl) (fun h => kf v (by rw [if_pos (Int.not_le.mp (fun z => h (by have z2 := (iI_le hc.2 hc.1).mpr z; first | exact z2 | (rw [iI_0] at z2; exact z2))))] at ho; exact ho) H locs ls hN hP hS hl)
  · rw [if_neg hc] at ho; cases ho
theorem r_icmp_gt (g : Ok G cc own nL rm rt) {x y : Int} {off : Int} (tgt : Nat) {o1 o2 : Option ρ} (d : decode cc pc = .ok (.if_icmp .gt off, 3)) (ht : (pc : Int) + off = (tgt : Int)) (kt : Rg G ret sf F C S tgt lv st o1) (kf : Rg G ret sf F C S (pc + 3) lv st o2) : Rg G ret sf F C S pc lv (vi y :: vi x :: st) (cLT y x o1 o2) := by
  obtain ⟨p, l, e, R, s, m, args, below, meth, c, cy, D, b, N⟩ := G
  obtain ⟨hR, hx, hb, hml, hown, hts, hlk, hrt, hK, hnw, hsta⟩ := g
  intro v ho H locs ls hN hP hS hl
  unfold cLT at ho
  by_cases hc : in32 y ∧ in32 x
  · rw [if_pos hc] at ho
    exact lv_icmp_gt hx hb d ht (fun h => kt v (by rw [if_pos ((iI_lt hc.1 hc.2).mp (by first | exact h | (rw [iI_0]; exact h) | (simpa [iI_0] using h)))] at ho; exact ho) H locs ls hN hP hS hl) (fun h => kf v (by rw [if_neg (fun z => h (by have z2 := (iI_lt hc.1 hc.2).mpr z; first | exact z2 | (rw [iI_0] at z2; exact z2)))] at ho; exact ho) H locs ls hN hP hS hl)
  · rw [if_neg hc] at ho; cases ho
theorem r_if_gt (g : Ok G cc own nL rm rt) {x : Int} {off : Int} (tgt : Nat) {o1 o2 : Option ρ} (d : decode cc pc = .ok (.ifCond .gt off, 3)) (ht : (pc : Int) + off = (tgt : Int)) (kt : Rg G ret sf F C S tgt lv st o1) (kf : Rg G ret sf F C S (pc + 3) lv st o2) : Rg G ret sf F C S pc lv (vi x :: st) (cLT 0 x o1 o2) := by
  obtain ⟨p, l, e, R, s, m, args, below, meth, c, cy, D, b, N⟩ := G
  obtain ⟨hR, hx, hb, hml, hown, hts, hlk, hrt, hK, hnw, hsta⟩ := g
  intro v ho H locs ls hN hP hS hl
  unfold cLT at ho
  by_cases hc : in32 0 ∧ in32 x
  · rw [if_pos hc] at ho
    exact lv_if_gt hx hb d ht (fun h => kt v (by rw [if_pos ((iI_lt hc.1 hc.2).mp (by first | exact h | (rw [iI_0]; exact h) | (simpa [iI_0] using h)))] at ho; exact ho) H locs ls hN hP hS hl) (fun h => kf v (by rw [if_neg (fun z => h (by have z2 := (iI_lt hc.1 hc.2).mpr z; first | exact z2 | (rw [iI_0] at z2; exact z2)))] at ho; exact ho) H locs ls hN hP hS hl)
  · rw [if_neg hc] at ho; cases ho
theorem r_icmp_le (g : Ok G cc own nL rm rt) {x y : Int} {off : Int} (tgt : Nat) {o1 o2 : Option ρ} (d : decode cc pc = .ok (.if_icmp .le off, 3)) (ht : (pc : Int) + off = (tgt : Int)) (kt : Rg G ret sf F C S tgt lv st o1) (kf : Rg G ret sf F C S (pc + 3) lv st o2) : Rg G ret sf F C S pc lv (vi y :: vi x :: st) (cLT y x o2 o1) := by
  obtain ⟨p, l, e, R, s, m, args, below, meth, c, cy, D, b, N⟩ := G
  obtain ⟨hR, hx, hb, hml, hown, hts, hlk, hrt, hK, hnw, hsta⟩ := g
  intro v ho H locs ls hN hP hS hl
  unfold cLT at ho
  by_cases hc : in32 y ∧ in32 x
  · rw [if_pos hc] at ho
    exact lv_icmp_le hx hb d ht (fun h => kt v (by rw [if_neg (Int.not_lt.mpr ((iI_le hc.2 hc.1).mp (by first | exact h | (rw [iI_0]; exact h))))] at ho; exact ho) H locs ls hN hP hS hl) (fun h => kf v (by rw [if_pos (Int.not_le.mp (fun z => h (by have z2 := (iI_le hc.2 hc.1).mpr z; first | exact z2 | (rw [iI_0] at z2; exact z2))))] at ho; exact ho) H locs ls hN hP hS hl)
  · rw [if_neg hc] at ho; cases ho
theorem r_if_le (g : Ok G cc own nL rm rt) {x : Int} {off : Int} (tgt : Nat) {o1 o2 : Option ρ} (d : decode cc pc = .ok (.ifCond .le off, 3)) (ht : (pc : Int) + off = (tgt : Int)) (kt : Rg G ret sf F C S tgt lv st o1) (kf : Rg G ret sf F C S (pc + 3) lv st o2) : Rg G ret sf F C S pc lv (vi x :: st) (cLT 0 x o2 o1) := by
  obtain ⟨p, l, e, R, s, m, args, below, meth, c, cy, D, b, N⟩ := G
  obtain ⟨hR, hx, hb, hml, hown, hts, hlk, hrt, hK, hnw, hsta⟩ := g
  intro v ho H locs ls hN hP hS hl
  unfold cLT at ho
  by_cases hc : in32 0 ∧ in32 x
  · rw [if_pos hc] at ho
    exact lv_if_le hx hb d ht (fun h => kt v (by rw [if_neg (Int.not_lt.mpr ((iI_le hc.2 hc.1).mp (by first | exact h | (rw [iI_0]; exact h))))] at ho; exact ho) H locs ls hN hP hS hl) (fun h => kf v (by rw [if_pos (Int.not_le.mp (fun z => h (by have z2 := (iI_le hc.2 hc.1).mpr z; first | exact z2 | (rw [iI_0] at z2; exact z2))))] at ho; exact ho) H locs ls hN hP hS hl)
  · rw [if_neg hc] at ho; cases ho
theorem r_lcmp_eq (g : Ok G cc own nL rm rt) {x y : Int} {off : Int} (tgt : Nat) {o1 o2 : Option ρ} (d0 : decode cc pc = .ok (.lcmp, 1)) (d : decode cc (pc + 1) = .ok (.ifCond .eq off, 3)) (ht : ((pc + 1 : Nat) : Int) + off = (tgt : Int)) (kt : Rg G ret sf F C S tgt lv st o1) (kf : Rg G ret sf F C S (pc + 4) lv st o2) : Rg G ret sf F C S pc lv (vl y :: vl x :: st) (lEQ x y o1 o2) := by
  obtain ⟨p, l, e, R, s, m, args, below, meth, c, cy, D, b, N⟩ := G
  obtain ⟨hR, hx, hb, hml, hown, hts, hlk, hrt, hK, hnw, hsta⟩ := g
  intro v ho H locs ls hN hP hS hl
  unfold lEQ at ho
  by_cases hc : in64 x ∧ in64 y
  · rw [if_pos hc] at ho
    refine W.lcmp hx hb d0 ?_
    exact lv_if_eq hx hb d ht (fun h => kt v (by rw [if_pos ((lI_eq hc.1 hc.2).mp ((lg_cmp_eq (lI x) (lI y)).mp h))] at ho; exact ho) H locs ls hN hP hS hl) (fun h => kf v (by rw [if_neg (fun z => h ((lg_cmp_eq (lI x) (lI y)).mpr ((lI_eq hc.1 hc.2).mpr z)))] at ho; exact ho) H locs ls hN hP hS hl)
  · rw [if_neg hc] at ho; cases ho
theorem r_lcmp_ne (g : Ok G cc own nL rm rt) {x y : Int} {off : Int} (tgt : Nat) {o1 o2 : Option ρ} (d0 : decode cc pc = .ok (.lcmp, 1)) (d : decode cc (pc + 1) = .ok (.ifCond .ne off, 3)) (ht : ((pc + 1 : Nat) : Int) + off = (tgt : Int)) (kt : Rg G ret sf F C S tgt lv st o1) (kf : Rg G ret sf F C S (pc + 4) lv st o2) : Rg G ret sf F C S pc lv (vl y :: vl x :: st) (lEQ x y o2 o1) := by
  obtain ⟨p, l, e, R, s, m, args, below, meth, c, cy, D, b, N⟩ := G
  obtain ⟨hR, hx, hb, hml, hown, hts, hlk, hrt, hK, hnw, hsta⟩ := g
  intro v ho H locs ls hN hP hS hl
  unfold lEQ at ho
  by_cases hc : in64 x ∧ in64 y
  · rw [if_pos hc] at ho
    refine W.lcmp hx hb d0 ?_
    exact lv_if_ne hx hb d ht (fun h => kt v (by rw [if_neg (fun z => h ((lg_cmp_eq (lI x) (lI y)).mpr ((lI_eq hc.1 hc.2).mpr z)))] at ho; exact ho) H locs ls hN hP hS hl) (fun h => kf v (by rw [if_pos ((lI_eq hc.1 hc.2).mp ((lg_cmp_eq (lI x) (lI y)).mp h))] at ho; exact ho) H locs ls hN hP hS hl)
  · rw [if_neg hc] at ho; cases ho
theorem r_lcmp_lt (g : Ok G cc own nL rm rt) {x y : Int} {off : Int} (tgt : Nat) {o1 o2 : Option ρ} (d0 : decode cc pc = .ok (.lcmp, 1)) (d : decode cc (pc + 1) = .ok (.ifCond .lt off, 3)) (ht : ((pc + 1 : Nat) : Int) + off = (tgt : Int)) (kt : Rg G ret sf F C S tgt lv st o1) (kf : Rg G ret sf F C S (pc + 4) lv st o2) : Rg G ret sf F C S pc lv (vl y :: vl x :: st) (lLT x y o1 o2) := by
  obtain ⟨p, l, e, R, s, m, args, below, meth, c, cy, D, b, N⟩ := G
  obtain ⟨hR, hx, hb, hml, hown, hts, hlk, hrt, hK, hnw, hsta⟩ := g
  intro v ho H locs ls hN hP hS hl
  unfold lLT at ho
  by_cases hc : in64 x ∧ in64 y
  · rw [if_pos hc] at ho
    refine W.lcmp hx hb d0 ?_
    exact lv_if_lt hx hb d ht (fun h => kt v (by rw [if_pos ((lI_lt hc.1 hc.2).mp ((lg_cmp_lt (lI x) (lI y)).mp h))] at ho; exact ho) H locs ls hN hP hS hl) (fun h => kf v (by rw [if_neg (fun z => h ((lg_cmp_lt (lI x) (lI y)).mpr ((lI_lt hc.1 hc.2).mpr z)))] at ho; exact ho) H locs ls hN hP hS hl)
  · rw [if_neg hc] at ho; cases ho
theorem r_lcmp_ge (g : Ok G cc own nL rm rt) {x y : Int} {off : Int} (tgt : Nat) {o1 o2 : Option ρ} (d0 : decode cc pc = .ok (.lcmp, 1)) (d : decode cc (pc + 1) = .ok (.ifCond .ge off, 3)) (ht : ((pc + 1 : Nat) : Int) + off = (tgt : Int)) (kt : Rg G ret sf F C S tgt lv st o1) (kf : Rg G ret sf F C S (pc + 4) lv st o2) : Rg G ret sf F C S pc lv (vl y :: vl x :: st) (lLT x y o2 o1) := by
  obtain ⟨p, l, e, R, s, m, args, below, meth, c, cy, D, b, N⟩ := G
  obtain ⟨hR, hx, hb, hml, hown, hts, hlk, hrt, hK, hnw, hsta⟩ := g
  intro v ho H locs ls hN hP hS hl
  unfold lLT at ho
  by_cases hc : in64 x ∧ in64 y
  · rw [if_pos hc] at ho
    refine W.lcmp hx hb d0 ?_
    exact lv_if_ge hx hb d ht (fun h => kt v (by rw [if_neg (Int.not_lt.mpr ((lI_le hc.2 hc.1).mp ((lg_cmp_ge (lI x) (lI y)).mp h)))] at ho; exact ho) H locs ls hN hP hS hl) (fun h => kf v (by rw [if_pos (Int.not_le.mp (fun z => h ((lg_cmp_ge (lI x) (lI y)).mpr ((lI_le hc.2 hc.1).mpr z))))] at ho; exact ho) H locs ls hN hP hS hl)
  · rw [if_neg hc] at ho; cases ho
theorem r_lcmp_gt (g : Ok G cc own nL rm rt) {x y : Int} {off : Int} (tgt : Nat) {o1 o2 : Option ρ} (d0 : decode cc pc = .ok (.lcmp, 1)) (d : decode cc (pc + 1) = .ok (.ifCond .gt off, 3)) (ht : ((pc + 1 : Nat) : Int) + off = (tgt : Int)) (kt : Rg G ret sf F C S tgt lv st o1) (kf : Rg G ret sf F C S (pc + 4) lv st o2) : Rg G ret sf F C S pc lv (vl y :: vl x :: st) (lLT y x o1 o2) := by
  obtain ⟨p, l, e, R, s, m, args, below, meth, c, cy, D, b, N⟩ := G
  obtain ⟨hR, hx, hb, hml, hown, hts, hlk, hrt, hK, hnw, hsta⟩ := g
  intro v ho H locs ls hN hP hS hl
  unfold lLT at ho
  by_cases hc : in64 y ∧ in64 x
  · rw [if_pos hc] at ho
    refine W.lcmp hx hb d0 ?_
    exact lv_if_gt hx hb d ht (fun h => kt v (by rw [if_pos ((lI_lt hc.1 hc.2).mp ((lg_cmp_gt (lI x) (lI y)).mp h))] at ho; exact ho) H locs ls hN hP hS hl) (fun h => kf v (by rw [if_neg (fun z => h ((lg_cmp_gt (lI x) (lI y)).mpr ((lI_lt hc.1 hc.2).mpr z)))] at ho; exact ho) H locs ls hN hP hS hl)
  · rw [if_neg hc] at ho; cases ho
theorem r_lcmp_le (g : Ok G cc own nL rm rt) {x y : Int} {off : Int} (tgt : Nat) {o1 o2 : Option ρ} (d0 : decode cc pc = .ok (.lcmp, 1)) (d : decode cc (pc + 1) = .ok (.ifCond .le off, 3)) (ht : ((pc + 1 : Nat) : Int) + off = (tgt : Int)) (kt : Rg G ret sf F C S tgt lv st o1) (kf : Rg G ret sf F C S (pc + 4) lv st o2) : Rg G ret sf F C S pc lv (vl y :: vl x :: st) (lLT y x o2 o1) := by
  obtain ⟨p, l, e, R, s, m, args, below, meth, c, cy, D, b, N⟩ := G
  obtain ⟨hR, hx, hb, hml, hown, hts, hlk, hrt, hK, hnw, hsta⟩ := g
  intro v ho H locs ls hN hP hS hl
  unfold lLT at ho
  by_cases hc : in64 y ∧ in64 x
  · rw [if_pos hc] at ho
    refine W.lcmp hx hb d0 ?_
    exact lv_if_le hx hb d ht (fun h => kt v (by rw [if_neg (Int.not_lt.mpr ((lI_le hc.2 hc.1).mp ((lg_cmp_le (lI x) (lI y)).mp h)))] at ho; exact ho) H locs ls hN hP hS hl) (fun h => kf v (by rw [if_pos (Int.not_le.mp (fun z => h ((lg_cmp_le (lI x) (lI y)).mpr ((lI_le hc.2 hc.1).mpr z))))] at ho; exact ho) H locs ls hN hP hS hl)
  · rw [if_neg hc] at ho; cases ho
theorem r_goto (g : Ok G cc own nL rm rt) {off : Int} (tgt : Nat) (d : decode cc pc = .ok (.goto off, 3)) (ht : (pc : Int) + off = (tgt : Int)) (k : Rg G ret sf F C S tgt lv st o) : Rg G ret sf F C S pc lv st o := by
  obtain ⟨p, l, e, R, s, m, args, below, meth, c, cy, D, b, N⟩ := G
  obtain ⟨hR, hx, hb, hml, hown, hts, hlk, hrt, hK, hnw, hsta⟩ := g
  intro v ho H locs ls hN hP hS hl
  exact lv_goto hx hb d ht (k v ho H locs ls hN hP hS hl)
theorem r_tabIn (g : Ok G cc own nL rm rt) {x lo hi dflt off : Int} {offs : Array Int} {len : Nat} (tgt : Nat) (hx0 : in32 x) (d : decode cc pc = .ok (.tableswitch dflt lo hi offs, len)) (h1 : ¬ x < lo) (h2 : ¬ hi < x) (h3 : offs[(x - lo).toNat]? = some off) (ht : (pc : Int) + off = (tgt : Int)) (k : Rg G ret sf F C S tgt lv st o) : Rg G ret sf F C S pc lv (vi x :: st) o := by
  obtain ⟨p, l, e, R, s, m, args, below, meth, c, cy, D, b, N⟩ := G
  obtain ⟨hR, hx, hb, hml, hown, hts, hlk, hrt, hK, hnw, hsta⟩ := g
  intro v ho H locs ls hN hP hS hl
  exact lv_tableIn hx hb d (by rw [iI_toInt hx0]; exact h1) (by rw [iI_toInt hx0]; exact h2) (by rw [iI_toInt hx0]; exact h3) ht (k v ho H locs ls hN hP hS hl)
theorem r_tabOut (g : Ok G cc own nL rm rt) {x lo hi dflt : Int} {offs : Array Int} {len : Nat} (tgt : Nat) (hx0 : in32 x) (d : decode cc pc = .ok (.tableswitch dflt lo hi offs, len)) (h : x < lo ∨ hi < x) (ht : (pc : Int) + dflt = (tgt : Int)) (k : Rg G ret sf F C S tgt lv st o) : Rg G ret sf F C S pc lv (vi x :: st) o := by
  obtain ⟨p, l, e, R, s, m, args, below, meth, c, cy, D, b, N⟩ := G
  obtain ⟨hR, hx, hb, hml, hown, hts, hlk, hrt, hK, hnw, hsta⟩ := g
  intro v ho H locs ls hN hP hS hl
  exact lv_tableOut hx hb d (by rw [iI_toInt hx0]; exact h) ht (k v ho H locs ls hN hP hS hl)
theorem r_look (g : Ok G cc own nL rm rt) {x dflt off : Int} {ps : Array (Int × Int)} {len : Nat} (tgt : Nat) (hx0 : in32 x) (d : decode cc pc = .ok (.lookupswitch dflt ps, len)) (hp : (ps.toList.zip (ps.toList.drop 1)).all (fun (a, next) => a.1 < next.1) = true) (h : Op.lookupswitch.offset ps.toList dflt x = off) (ht : (pc : Int) + off = (tgt : Int)) (k : Rg G ret sf F C S tgt lv st o) : Rg G ret sf F C S pc lv (vi x :: st) o := by
  obtain ⟨p, l, e, R, s, m, args, below, meth, c, cy, D, b, N⟩ := G
  obtain ⟨hR, hx, hb, hml, hown, hts, hlk, hrt, hK, hnw, hsta⟩ := g
  intro v ho H locs ls hN hP hS hl
  exact lv_lookup hx hb d hp (by rw [iI_toInt hx0]; exact h) ht (k v ho H locs ls hN hP hS hl)
end Rows
section Rets
variable {G : Gx} {cc : ByteArray} {own : String} {nL : Nat} {rm : Room} {rt : Option FieldType} {ρ : Type} {ret : ρ → Option Value} {sf : ρ → St} {F : Cf} {S : St} {pc : Nat} {lv : List (Option Value)}
theorem r_iret (g : Ok G cc own nL rm (some .int)) {x : Int} {r : ρ} (d : decode cc pc = .ok (.ireturn, 1)) (h1 : ret r = some (vi x)) (h2 : sf r = S) : Rg G ret sf F F S pc lv [vi x] (some r) := by
  obtain ⟨p, l, e, R, s, m, args, below, meth, c, cy, D, b, N⟩ := G
  obtain ⟨hR, hx, hb, hml, hown, hts, hlk, hrt, hK, hnw, hsta⟩ := g
  intro v ho H locs ls hN hP hS hl
  cases ho
  exact W.iret hx hb hrt (fun t ht hW => ⟨by rw [h1] <;> rfl, by rw [ht, h2]; exact hP, hS.F ht⟩) hS.2.2 d hlk
theorem r_lret (g : Ok G cc own nL rm (some .long)) {x : Int} {r : ρ} (d : decode cc pc = .ok (.lreturn, 1)) (h1 : ret r = some (vl x)) (h2 : sf r = S) : Rg G ret sf F F S pc lv [vl x] (some r) := by
  obtain ⟨p, l, e, R, s, m, args, below, meth, c, cy, D, b, N⟩ := G
  obtain ⟨hR, hx, hb, hml, hown, hts, hlk, hrt, hK, hnw, hsta⟩ := g
  intro v ho H locs ls hN hP hS hl
  cases ho
  exact W.lret hx hb hrt (fun t ht hW => ⟨by rw [h1] <;> rfl, by rw [ht, h2]; exact hP, hS.F ht⟩) hS.2.2 d hlk
theorem r_vret (g : Ok G cc own nL rm none) {r : ρ} (d : decode cc pc = .ok (.return_, 1)) (h1 : ret r = none) (h2 : sf r = S) : Rg G ret sf F F S pc lv [] (some r) := by
  obtain ⟨p, l, e, R, s, m, args, below, meth, c, cy, D, b, N⟩ := G
  obtain ⟨hR, hx, hb, hml, hown, hts, hlk, hrt, hK, hnw, hsta⟩ := g
  intro v ho H locs ls hN hP hS hl
  cases ho
  exact W.vret hx hb hrt (fun t ht hW => ⟨by rw [h1] <;> rfl, by rw [ht, h2]; exact hP, hS.F ht⟩) hS.2.2 d hlk
theorem r_zret (g : Ok G cc own nL rm (some .boolean)) {x : Int} {r : ρ} (d : decode cc pc = .ok (.ireturn, 1)) (h1 : ret r = some (vi x)) (h2 : sf r = S) : Rg G ret sf F F S pc lv [vi x] (isB x (some r)) := by
  obtain ⟨p, l, e, R, s, m, args, below, meth, c, cy, D, b, N⟩ := G
  obtain ⟨hR, hx, hb, hml, hown, hts, hlk, hrt, hK, hnw, hsta⟩ := g
  intro v ho H locs ls hN hP hS hl
  unfold isB at ho
  by_cases hx01 : x = 0 ∨ x = 1
  · rw [if_pos hx01] at ho
    cases ho
    have hn : narrow .boolean (.int (iI x)) = .int (iI x) := by rcases hx01 with rfl | rfl <;> rfl
    exact W.zret hx hb hrt hn (fun t ht hW => ⟨by rw [h1] <;> rfl, by rw [ht, h2]; exact hP, hS.F ht⟩) hS.2.2 d hlk
  · rw [if_neg hx01] at ho; cases ho
theorem r_zret0 (g : Ok G cc own nL rm (some .boolean)) {x : Int} {r : ρ} (hx01 : x = 0 ∨ x = 1) (d : decode cc pc = .ok (.ireturn, 1)) (h1 : ret r = some (vi x)) (h2 : sf r = S) : Rg G ret sf F F S pc lv [vi x] (some r) := by
  obtain ⟨p, l, e, R, s, m, args, below, meth, c, cy, D, b, N⟩ := G
  obtain ⟨hR, hx, hb, hml, hown, hts, hlk, hrt, hK, hnw, hsta⟩ := g
  intro v ho H locs ls hN hP hS hl
  cases ho
  have hn : narrow .boolean (.int (iI x)) = .int (iI x) := by rcases hx01 with rfl | rfl <;> rfl
  exact W.zret hx hb hrt hn (fun t ht hW => ⟨by rw [h1] <;> rfl, by rw [ht, h2]; exact hP, hS.F ht⟩) hS.2.2 d hlk
theorem r_aret (g : Ok G cc own nL rm rt) (hrr : ∃ n, rt = some (.object n)) {q : Nat} {r : ρ} (d : decode cc pc = .ok (.areturn, 1)) (h1 : ret r = some (vr G q)) (h2 : sf r = S) : Rg G ret sf F F S pc lv [vr G q] (some r) := by
  obtain ⟨p, l, e, R, s, m, args, below, meth, c, cy, D, b, N⟩ := G
  obtain ⟨hR, hx, hb, hml, hown, hts, hlk, hrt, hK, hnw, hsta⟩ := g
  intro v ho H locs ls hN hP hS hl
  cases ho
  obtain ⟨n, rfl⟩ := hrr
  exact W.aret hx hb hrt (Or.inl ⟨n, rfl⟩) (Or.inr ⟨_, rfl⟩) (fun t ht hW => ⟨by rw [h1] <;> rfl, by rw [ht, h2]; exact hP, hS.F ht⟩) hS.2.2 d hlk
end Rets
