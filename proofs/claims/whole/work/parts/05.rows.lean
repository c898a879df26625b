/-! THE JUDGEMENT: the machine, at pc with locals lv, stack st and memory S, does what the program o says (o = none: nothing is claimed). -/
abbrev Gx : Type := Program × Launch × Env × Room × State × MethodId × Array Value × List Frame × Method × Code × (Nat → ClassId) × va_G × Nat × Nat
abbrev Cf : Type := List Sh × Nat × Nat × Nat
def gb (G : Gx) : Nat := G.2.2.2.2.2.2.2.2.2.2.2.2.1
def gl (G : Gx) : Launch := G.2.1
def gcy (G : Gx) : Nat → ClassId := G.2.2.2.2.2.2.2.2.2.2.1
def gD (G : Gx) : va_G := G.2.2.2.2.2.2.2.2.2.2.2.1
def gN (G : Gx) : Nat := G.2.2.2.2.2.2.2.2.2.2.2.2.2
def Ok (G : Gx) (cc : ByteArray) (own : String) (nL : Nat) (rm : Room) (rt : Option FieldType) : Prop := match G with
  | (p, _, _, R, s, m, args, _, meth, c, cy, D, _, _) => R = rm ∧ p.tables.exec = Jvm.exec ∧ c.code = cc ∧ c.maxLocals = nL ∧ s.vm.findClass own = some m.cls ∧ (∀ w ∈ lw_tbl, w.before args s = true) ∧ meth.locks = false ∧ meth.sig.returnType = rt ∧ va_K D vwCl (tysOf cy) s
def Qw (cy : Nat → ClassId) (D : va_G) (b N : Nat) (F : Cf) (r : Option Value) (S : St) : Array Value → State → Outcome → State → Prop := fun _ st oc t => oc = .returned r ∧ t.heap.size = F.2.1 ∧ va_P D vwCl (wd cy b F.1 S) t.heap ∧ va_F (inR b N) st t
def Rg (G : Gx) {τ : Type} (ret : τ → Option Value) (F C : Cf) (S : St) (pc : Nat) (lv : List (Option Value)) (st : List Value) (o : Option (τ × St)) : Prop := match G with
  | (p, l, e, R, s, m, args, below, meth, c, cy, D, b, N) => ∀ (v : τ) (S' : St), o = some (v, S') → ∀ (H : Heap) (locs : List Loc) (ls : Array Slot), C.1.length ≤ N → H.size = C.2.1 → va_P D vwCl (wd cy b C.1 S) H → va_S (inR b N) s.heap H locs → lv_has ls c.maxLocals (lvA 0 lv) → W p l e R s m args below meth c H locs C.2.2.1 C.2.2.2 (MQ below (Qw cy D b N F (ret v) S') args s F.2.2.1 F.2.2.2 (inR b N)) (F0 m pc ls st)
def retI : Int32 → Option Value := fun v => some (.int v)
def retL : Int64 → Option Value := fun v => some (.long v)
def retV : Unit → Option Value := fun _ => none
def retR (b : Nat) : Nat → Option Value := fun q => some (.ref (b + q))
/-! the partial steps of a program -/
def inb (i : Int32) (n : Nat) : Prop := ¬ (i < 0 ∨ n ≤ i.toNatClampNeg)
theorem inb_iff {i : Int32} {n : Nat} : inb i n ↔ vp_in i n := Iff.rfl
def ldI {α : Type} (S : St) (q n : Nat) (i : Int32) (k : Int32 → Option α) : Option α := if ¬ (i < 0 ∨ n ≤ i.toNatClampNeg) then k (S.1 q i.toNatClampNeg) else none
def ldL {α : Type} (S : St) (q n : Nat) (i : Int32) (k : Int64 → Option α) : Option α := if ¬ (i < 0 ∨ n ≤ i.toNatClampNeg) then k (S.2.1 q i.toNatClampNeg) else none
def stI {α : Type} (S : St) (q n : Nat) (i v : Int32) (k : St → Option α) : Option α := if ¬ (i < 0 ∨ n ≤ i.toNatClampNeg) then k (putI S q i.toNatClampNeg v) else none
def stL {α : Type} (S : St) (q n : Nat) (i : Int32) (v : Int64) (k : St → Option α) : Option α := if ¬ (i < 0 ∨ n ≤ i.toNatClampNeg) then k (putL S q i.toNatClampNeg v) else none
def stR {α : Type} (S : St) (q n : Nat) (i : Int32) (v : Nat) (k : St → Option α) : Option α := if ¬ (i < 0 ∨ n ≤ i.toNatClampNeg) then k (putR S q i.toNatClampNeg (some v)) else none
def ldA {α : Type} (c0 d n : Nat) (i : Int32) (k : Nat → Option α) : Option α := if ¬ (i < 0 ∨ n ≤ i.toNatClampNeg) then k (c0 + d * i.toNatClampNeg) else none
def dvI {α : Type} (x y : Int32) (k : Int32 → Option α) : Option α := if y = 0 then none else k (x / y)
def rmI {α : Type} (x y : Int32) (k : Int32 → Option α) : Option α := if y = 0 then none else k (x - x / y * y)
def dvL {α : Type} (x y : Int64) (k : Int64 → Option α) : Option α := if y = 0 then none else k (x / y)
def rmL {α : Type} (x y : Int64) (k : Int64 → Option α) : Option α := if y = 0 then none else k (x - x / y * y)
def isB {α : Type} (x : Int32) (k : Option α) : Option α := if x = 0 ∨ x = 1 then k else none
def setI {α : Type} (S : St) (q j : Nat) (v : Int32) (k : St → Option α) : Option α := k (putI S q j v)
def setL {α : Type} (S : St) (q j : Nat) (v : Int64) (k : St → Option α) : Option α := k (putL S q j v)
def setR {α : Type} (S : St) (q j : Nat) (v : Nat) (k : St → Option α) : Option α := k (putR S q j (some v))
section Rows
variable {G : Gx} {cc : ByteArray} {own : String} {nL : Nat} {rm : Room} {rt : Option FieldType} {τ : Type} {ret : τ → Option Value} {F C : Cf} {S : St} {pc : Nat} {lv : List (Option Value)} {st : List Value} {o : Option (τ × St)}
theorem r_none : Rg G ret F C S pc lv st none := by
  obtain ⟨p, l, e, R, s, m, args, below, meth, c, cy, D, b, N⟩ := G
  intro v S' ho
  cases ho
theorem r_msk (ms : List Bool) {lv' : List (Option Value)} (h : msk ms lv = lv') (k : Rg G ret F C S pc lv' st o) : Rg G ret F C S pc lv st o := by
  obtain ⟨p, l, e, R, s, m, args, below, meth, c, cy, D, b, N⟩ := G
  intro v S' ho H locs ls hN hz hP hS hl
  subst h
  exact k v S' ho H locs ls hN hz hP hS ⟨hl.1, hl.2.1, fun q hq => hl.2.2 q (msk_mem ms lv 0 q hq)⟩
theorem r_iconst (g : Ok G cc own nL rm rt) {n : Int} {x : Int32} (d : decode cc pc = .ok (.iconst n, 1)) (hv : Int32.ofInt n = x) (k : Rg G ret F C S (pc + 1) lv (.int x :: st) o) : Rg G ret F C S pc lv (st) o := by
  obtain ⟨p, l, e, R, s, m, args, below, meth, c, cy, D, b, N⟩ := G
  obtain ⟨hR, hx, hb, hml, hown, hts, hlk, hrt, hK⟩ := g
  intro v S' ho H locs ls hN hz hP hS hl
  exact lv_iconst hx hb d hv (k v S' ho H locs ls hN hz hP hS hl)
theorem r_bipush (g : Ok G cc own nL rm rt) {n : Int} {x : Int32} (d : decode cc pc = .ok (.bipush n, 2)) (hv : (Int8.ofInt n).toInt32 = x) (k : Rg G ret F C S (pc + 2) lv (.int x :: st) o) : Rg G ret F C S pc lv (st) o := by
  obtain ⟨p, l, e, R, s, m, args, below, meth, c, cy, D, b, N⟩ := G
  obtain ⟨hR, hx, hb, hml, hown, hts, hlk, hrt, hK⟩ := g
  intro v S' ho H locs ls hN hz hP hS hl
  exact lv_bipush hx hb d hv (k v S' ho H locs ls hN hz hP hS hl)
theorem r_sipush (g : Ok G cc own nL rm rt) {n : Int} {x : Int32} (d : decode cc pc = .ok (.sipush n, 3)) (hv : (Int16.ofInt n).toInt32 = x) (k : Rg G ret F C S (pc + 3) lv (.int x :: st) o) : Rg G ret F C S pc lv (st) o := by
  obtain ⟨p, l, e, R, s, m, args, below, meth, c, cy, D, b, N⟩ := G
  obtain ⟨hR, hx, hb, hml, hown, hts, hlk, hrt, hK⟩ := g
  intro v S' ho H locs ls hN hz hP hS hl
  exact lv_sipush hx hb d hv (k v S' ho H locs ls hN hz hP hS hl)
theorem r_lconst (g : Ok G cc own nL rm rt) {n : Fin 2} {x : Int64} (d : decode cc pc = .ok (.lconst n, 1)) (hv : Int64.ofNat (n : Nat) = x) (k : Rg G ret F C S (pc + 1) lv (.long x :: st) o) : Rg G ret F C S pc lv (st) o := by
  obtain ⟨p, l, e, R, s, m, args, below, meth, c, cy, D, b, N⟩ := G
  obtain ⟨hR, hx, hb, hml, hown, hts, hlk, hrt, hK⟩ := g
  intro v S' ho H locs ls hN hz hP hS hl
  exact lv_lconst hx hb d hv (k v S' ho H locs ls hN hz hP hS hl)
theorem r_ldc (g : Ok G cc own nL rm rt) {n : Nat} {x : Int32} (d : decode cc pc = .ok (.ldc n, 2)) (hc : Cond.constant own n x ∈ lw_tbl) (k : Rg G ret F C S (pc + 2) lv (.int x :: st) o) : Rg G ret F C S pc lv (st) o := by
  obtain ⟨p, l, e, R, s, m, args, below, meth, c, cy, D, b, N⟩ := G
  obtain ⟨hR, hx, hb, hml, hown, hts, hlk, hrt, hK⟩ := g
  intro v S' ho H locs ls hN hz hP hS hl
  exact lv_ldc hx hb hown (hts _ hc) d (k v S' ho H locs ls hN hz hP hS hl)
theorem r_ldc2 (g : Ok G cc own nL rm rt) {n : Nat} {x : Int64} (d : decode cc pc = .ok (.ldc2_w n, 3)) (hc : Cond.constantLong own n x ∈ lw_tbl) (k : Rg G ret F C S (pc + 3) lv (.long x :: st) o) : Rg G ret F C S pc lv (st) o := by
  obtain ⟨p, l, e, R, s, m, args, below, meth, c, cy, D, b, N⟩ := G
  obtain ⟨hR, hx, hb, hml, hown, hts, hlk, hrt, hK⟩ := g
  intro v S' ho H locs ls hN hz hP hS hl
  exact lv_ldc2 hx hb hown (hts _ hc) d (k v S' ho H locs ls hN hz hP hS hl)
theorem r_iload (g : Ok G cc own nL rm rt) {i : Nat} {x : Int32} (d : decode cc pc = .ok (.iload i, 2)) (h : lv[i]? = some (some (.int x))) (k : Rg G ret F C S (pc + 2) lv (.int x :: st) o) : Rg G ret F C S pc lv st o := by
  obtain ⟨p, l, e, R, s, m, args, below, meth, c, cy, D, b, N⟩ := G
  obtain ⟨hR, hx, hb, hml, hown, hts, hlk, hrt, hK⟩ := g
  intro v S' ho H locs ls hN hz hP hS hl
  exact lv_iload hx hb d (hl.2.2 (i, .int x) (by have := lvA_mem lv 0 i _ h; rwa [Nat.zero_add] at this)) (k v S' ho H locs ls hN hz hP hS hl)
theorem r_iload_n (g : Ok G cc own nL rm rt) {i : Fin 4} {x : Int32} (d : decode cc pc = .ok (.iload_n i, 1)) (h : lv[(i : Nat)]? = some (some (.int x))) (k : Rg G ret F C S (pc + 1) lv (.int x :: st) o) : Rg G ret F C S pc lv st o := by
  obtain ⟨p, l, e, R, s, m, args, below, meth, c, cy, D, b, N⟩ := G
  obtain ⟨hR, hx, hb, hml, hown, hts, hlk, hrt, hK⟩ := g
  intro v S' ho H locs ls hN hz hP hS hl
  exact lv_iload_n hx hb d rfl (hl.2.2 ((i : Nat), .int x) (by have := lvA_mem lv 0 i _ h; rwa [Nat.zero_add] at this)) (k v S' ho H locs ls hN hz hP hS hl)
theorem r_istore (g : Ok G cc own nL rm rt) {i : Nat} {x : Int32} {lv' : List (Option Value)} (d : decode cc pc = .ok (.istore i, 2)) (hn : i < nL) (h : st1 lv i (.int x) = lv') (k : Rg G ret F C S (pc + 2) lv' st o) : Rg G ret F C S pc lv (.int x :: st) o := by
  obtain ⟨p, l, e, R, s, m, args, below, meth, c, cy, D, b, N⟩ := G
  obtain ⟨hR, hx, hb, hml, hown, hts, hlk, hrt, hK⟩ := g
  intro v S' ho H locs ls hN hz hP hS hl
  subst h
  refine lv_istore hx hb d hl (by rw [hml]; exact hn) rfl (fun ls' hl' => k v S' ho H locs ls' hN hz hP hS ?_)
  refine ⟨hl'.1, hl'.2.1, fun q hq => hl'.2.2 q ?_⟩
  rcases st1_mem lv 0 i _ q hq with e1 | ⟨a1, a2, a4⟩
  · rw [e1, Nat.zero_add]; exact List.mem_cons_self
  · refine List.mem_cons_of_mem _ (List.mem_filter.mpr ⟨a1, ?_⟩)
    rw [Nat.zero_add] at a2 a4
    simp only [Bool.and_eq_true, Bool.not_eq_true', beq_eq_false_iff_ne, Bool.and_eq_false_iff]
    refine ⟨a2, ?_⟩
    by_cases h1 : q.1 + 1 = i
    · exact Or.inr (fun h2 => a4 ⟨h1, h2⟩)
    · exact Or.inl h1
theorem r_istore_n (g : Ok G cc own nL rm rt) {j : Fin 4} (i : Nat) {x : Int32} {lv' : List (Option Value)} (d : decode cc pc = .ok (.istore_n j, 1)) (hi : (j : Nat) = i) (hn : i < nL) (h : st1 lv i (.int x) = lv') (k : Rg G ret F C S (pc + 1) lv' st o) : Rg G ret F C S pc lv (.int x :: st) o := by
  obtain ⟨p, l, e, R, s, m, args, below, meth, c, cy, D, b, N⟩ := G
  obtain ⟨hR, hx, hb, hml, hown, hts, hlk, hrt, hK⟩ := g
  intro v S' ho H locs ls hN hz hP hS hl
  subst h
  refine lv_istore_n hx hb d hi hl (by rw [hml]; exact hn) rfl (fun ls' hl' => k v S' ho H locs ls' hN hz hP hS ?_)
  refine ⟨hl'.1, hl'.2.1, fun q hq => hl'.2.2 q ?_⟩
  rcases st1_mem lv 0 i _ q hq with e1 | ⟨a1, a2, a4⟩
  · rw [e1, Nat.zero_add]; exact List.mem_cons_self
  · refine List.mem_cons_of_mem _ (List.mem_filter.mpr ⟨a1, ?_⟩)
    rw [Nat.zero_add] at a2 a4
    simp only [Bool.and_eq_true, Bool.not_eq_true', beq_eq_false_iff_ne, Bool.and_eq_false_iff]
    refine ⟨a2, ?_⟩
    by_cases h1 : q.1 + 1 = i
    · exact Or.inr (fun h2 => a4 ⟨h1, h2⟩)
    · exact Or.inl h1
theorem r_iinc (g : Ok G cc own nL rm rt) {i : Nat} {n : Int} {x y : Int32} {lv' : List (Option Value)} (d : decode cc pc = .ok (.iinc i n, 3)) (hn : i < nL) (hx0 : lv[i]? = some (some (.int x))) (hy : Int32.ofInt n = y) (h : st1 lv i (.int (x + y)) = lv') (k : Rg G ret F C S (pc + 3) lv' st o) : Rg G ret F C S pc lv st o := by
  obtain ⟨p, l, e, R, s, m, args, below, meth, c, cy, D, b, N⟩ := G
  obtain ⟨hR, hx, hb, hml, hown, hts, hlk, hrt, hK⟩ := g
  intro v S' ho H locs ls hN hz hP hS hl
  subst h
  have hm : (i, Value.int x) ∈ lvA 0 lv := by have := lvA_mem lv 0 i _ hx0; rwa [Nat.zero_add] at this
  obtain ⟨kk, hkk⟩ := List.getElem?_of_mem hm
  refine lv_iinc (v := x + y) hx hb d hl hkk (by rw [hy]) (by rw [hml]; exact hn) rfl (fun ls' hl' => k v S' ho H locs ls' hN hz hP hS ?_)
  refine ⟨hl'.1, hl'.2.1, fun q hq => hl'.2.2 q ?_⟩
  rcases st1_mem lv 0 i _ q hq with e1 | ⟨a1, a2, a4⟩
  · rw [e1, Nat.zero_add]; exact List.mem_cons_self
  · refine List.mem_cons_of_mem _ (List.mem_filter.mpr ⟨a1, ?_⟩)
    rw [Nat.zero_add] at a2 a4
    simp only [Bool.and_eq_true, Bool.not_eq_true', beq_eq_false_iff_ne, Bool.and_eq_false_iff]
    refine ⟨a2, ?_⟩
    by_cases h1 : q.1 + 1 = i
    · exact Or.inr (fun h2 => a4 ⟨h1, h2⟩)
    · exact Or.inl h1
theorem r_lload (g : Ok G cc own nL rm rt) {i : Nat} {x : Int64} (d : decode cc pc = .ok (.lload i, 2)) (h : lv[i]? = some (some (.long x))) (k : Rg G ret F C S (pc + 2) lv (.long x :: st) o) : Rg G ret F C S pc lv st o := by
  obtain ⟨p, l, e, R, s, m, args, below, meth, c, cy, D, b, N⟩ := G
  obtain ⟨hR, hx, hb, hml, hown, hts, hlk, hrt, hK⟩ := g
  intro v S' ho H locs ls hN hz hP hS hl
  exact lv_lload hx hb d (hl.2.2 (i, .long x) (by have := lvA_mem lv 0 i _ h; rwa [Nat.zero_add] at this)) (k v S' ho H locs ls hN hz hP hS hl)
theorem r_lload_n (g : Ok G cc own nL rm rt) {i : Fin 4} {x : Int64} (d : decode cc pc = .ok (.lload_n i, 1)) (h : lv[(i : Nat)]? = some (some (.long x))) (k : Rg G ret F C S (pc + 1) lv (.long x :: st) o) : Rg G ret F C S pc lv st o := by
  obtain ⟨p, l, e, R, s, m, args, below, meth, c, cy, D, b, N⟩ := G
  obtain ⟨hR, hx, hb, hml, hown, hts, hlk, hrt, hK⟩ := g
  intro v S' ho H locs ls hN hz hP hS hl
  exact lv_lload_n hx hb d rfl (hl.2.2 ((i : Nat), .long x) (by have := lvA_mem lv 0 i _ h; rwa [Nat.zero_add] at this)) (k v S' ho H locs ls hN hz hP hS hl)
theorem r_lstore (g : Ok G cc own nL rm rt) {i : Nat} {x : Int64} {lv' : List (Option Value)} (d : decode cc pc = .ok (.lstore i, 2)) (hn : i + 1 < nL) (h : st2 lv i (.long x) = lv') (k : Rg G ret F C S (pc + 2) lv' st o) : Rg G ret F C S pc lv (.long x :: st) o := by
  obtain ⟨p, l, e, R, s, m, args, below, meth, c, cy, D, b, N⟩ := G
  obtain ⟨hR, hx, hb, hml, hown, hts, hlk, hrt, hK⟩ := g
  intro v S' ho H locs ls hN hz hP hS hl
  subst h
  refine lv_lstore hx hb d hl (by rw [hml]; exact hn) rfl (fun ls' hl' => k v S' ho H locs ls' hN hz hP hS ?_)
  refine ⟨hl'.1, hl'.2.1, fun q hq => hl'.2.2 q ?_⟩
  rcases st2_mem lv 0 i _ q hq with e1 | ⟨a1, a2, a3, a4⟩
  · rw [e1, Nat.zero_add]; exact List.mem_cons_self
  · refine List.mem_cons_of_mem _ (List.mem_filter.mpr ⟨a1, ?_⟩)
    rw [Nat.zero_add] at a2 a3 a4
    simp only [Bool.and_eq_true, Bool.not_eq_true', beq_eq_false_iff_ne, Bool.and_eq_false_iff]
    refine ⟨a2, a3, ?_⟩
    by_cases h1 : q.1 + 1 = i
    · exact Or.inr (fun h2 => a4 ⟨h1, h2⟩)
    · exact Or.inl h1
theorem r_lstore_n (g : Ok G cc own nL rm rt) {j : Fin 4} (i : Nat) {x : Int64} {lv' : List (Option Value)} (d : decode cc pc = .ok (.lstore_n j, 1)) (hi : (j : Nat) = i) (hn : i + 1 < nL) (h : st2 lv i (.long x) = lv') (k : Rg G ret F C S (pc + 1) lv' st o) : Rg G ret F C S pc lv (.long x :: st) o := by
  obtain ⟨p, l, e, R, s, m, args, below, meth, c, cy, D, b, N⟩ := G
  obtain ⟨hR, hx, hb, hml, hown, hts, hlk, hrt, hK⟩ := g
  intro v S' ho H locs ls hN hz hP hS hl
  subst h
  refine lv_lstore_n hx hb d hi hl (by rw [hml]; exact hn) rfl (fun ls' hl' => k v S' ho H locs ls' hN hz hP hS ?_)
  refine ⟨hl'.1, hl'.2.1, fun q hq => hl'.2.2 q ?_⟩
  rcases st2_mem lv 0 i _ q hq with e1 | ⟨a1, a2, a3, a4⟩
  · rw [e1, Nat.zero_add]; exact List.mem_cons_self
  · refine List.mem_cons_of_mem _ (List.mem_filter.mpr ⟨a1, ?_⟩)
    rw [Nat.zero_add] at a2 a3 a4
    simp only [Bool.and_eq_true, Bool.not_eq_true', beq_eq_false_iff_ne, Bool.and_eq_false_iff]
    refine ⟨a2, a3, ?_⟩
    by_cases h1 : q.1 + 1 = i
    · exact Or.inr (fun h2 => a4 ⟨h1, h2⟩)
    · exact Or.inl h1
theorem r_aload (g : Ok G cc own nL rm rt) {i : Nat} {x : Nat} (d : decode cc pc = .ok (.aload i, 2)) (h : lv[i]? = some (some (.ref x))) (k : Rg G ret F C S (pc + 2) lv (.ref x :: st) o) : Rg G ret F C S pc lv st o := by
  obtain ⟨p, l, e, R, s, m, args, below, meth, c, cy, D, b, N⟩ := G
  obtain ⟨hR, hx, hb, hml, hown, hts, hlk, hrt, hK⟩ := g
  intro v S' ho H locs ls hN hz hP hS hl
  exact lv_aload hx hb d (hl.2.2 (i, .ref x) (by have := lvA_mem lv 0 i _ h; rwa [Nat.zero_add] at this)) (k v S' ho H locs ls hN hz hP hS hl)
theorem r_aload_n (g : Ok G cc own nL rm rt) {i : Fin 4} {x : Nat} (d : decode cc pc = .ok (.aload_n i, 1)) (h : lv[(i : Nat)]? = some (some (.ref x))) (k : Rg G ret F C S (pc + 1) lv (.ref x :: st) o) : Rg G ret F C S pc lv st o := by
  obtain ⟨p, l, e, R, s, m, args, below, meth, c, cy, D, b, N⟩ := G
  obtain ⟨hR, hx, hb, hml, hown, hts, hlk, hrt, hK⟩ := g
  intro v S' ho H locs ls hN hz hP hS hl
  exact lv_aload_n hx hb d rfl (hl.2.2 ((i : Nat), .ref x) (by have := lvA_mem lv 0 i _ h; rwa [Nat.zero_add] at this)) (k v S' ho H locs ls hN hz hP hS hl)
theorem r_astore (g : Ok G cc own nL rm rt) {i : Nat} {x : Nat} {lv' : List (Option Value)} (d : decode cc pc = .ok (.astore i, 2)) (hn : i < nL) (h : st1 lv i (.ref x) = lv') (k : Rg G ret F C S (pc + 2) lv' st o) : Rg G ret F C S pc lv (.ref x :: st) o := by
  obtain ⟨p, l, e, R, s, m, args, below, meth, c, cy, D, b, N⟩ := G
  obtain ⟨hR, hx, hb, hml, hown, hts, hlk, hrt, hK⟩ := g
  intro v S' ho H locs ls hN hz hP hS hl
  subst h
  refine lv_astore hx hb d hl (by rw [hml]; exact hn) rfl (fun ls' hl' => k v S' ho H locs ls' hN hz hP hS ?_)
  refine ⟨hl'.1, hl'.2.1, fun q hq => hl'.2.2 q ?_⟩
  rcases st1_mem lv 0 i _ q hq with e1 | ⟨a1, a2, a4⟩
  · rw [e1, Nat.zero_add]; exact List.mem_cons_self
  · refine List.mem_cons_of_mem _ (List.mem_filter.mpr ⟨a1, ?_⟩)
    rw [Nat.zero_add] at a2 a4
    simp only [Bool.and_eq_true, Bool.not_eq_true', beq_eq_false_iff_ne, Bool.and_eq_false_iff]
    refine ⟨a2, ?_⟩
    by_cases h1 : q.1 + 1 = i
    · exact Or.inr (fun h2 => a4 ⟨h1, h2⟩)
    · exact Or.inl h1
theorem r_astore_n (g : Ok G cc own nL rm rt) {j : Fin 4} (i : Nat) {x : Nat} {lv' : List (Option Value)} (d : decode cc pc = .ok (.astore_n j, 1)) (hi : (j : Nat) = i) (hn : i < nL) (h : st1 lv i (.ref x) = lv') (k : Rg G ret F C S (pc + 1) lv' st o) : Rg G ret F C S pc lv (.ref x :: st) o := by
  obtain ⟨p, l, e, R, s, m, args, below, meth, c, cy, D, b, N⟩ := G
  obtain ⟨hR, hx, hb, hml, hown, hts, hlk, hrt, hK⟩ := g
  intro v S' ho H locs ls hN hz hP hS hl
  subst h
  refine lv_astore_n hx hb d hi hl (by rw [hml]; exact hn) rfl (fun ls' hl' => k v S' ho H locs ls' hN hz hP hS ?_)
  refine ⟨hl'.1, hl'.2.1, fun q hq => hl'.2.2 q ?_⟩
  rcases st1_mem lv 0 i _ q hq with e1 | ⟨a1, a2, a4⟩
  · rw [e1, Nat.zero_add]; exact List.mem_cons_self
  · refine List.mem_cons_of_mem _ (List.mem_filter.mpr ⟨a1, ?_⟩)
    rw [Nat.zero_add] at a2 a4
    simp only [Bool.and_eq_true, Bool.not_eq_true', beq_eq_false_iff_ne, Bool.and_eq_false_iff]
    refine ⟨a2, ?_⟩
    by_cases h1 : q.1 + 1 = i
    · exact Or.inr (fun h2 => a4 ⟨h1, h2⟩)
    · exact Or.inl h1
theorem r_iadd (g : Ok G cc own nL rm rt) {x y : Int32} (d : decode cc pc = .ok (.iadd, 1)) (k : Rg G ret F C S (pc + 1) lv (.int (x + y) :: st) o) : Rg G ret F C S pc lv (.int y :: .int x :: st) o := by
  obtain ⟨p, l, e, R, s, m, args, below, meth, c, cy, D, b, N⟩ := G
  obtain ⟨hR, hx, hb, hml, hown, hts, hlk, hrt, hK⟩ := g
  intro v S' ho H locs ls hN hz hP hS hl
  exact lv_iadd hx hb d (k v S' ho H locs ls hN hz hP hS hl)
theorem r_isub (g : Ok G cc own nL rm rt) {x y : Int32} (d : decode cc pc = .ok (.isub, 1)) (k : Rg G ret F C S (pc + 1) lv (.int (x - y) :: st) o) : Rg G ret F C S pc lv (.int y :: .int x :: st) o := by
  obtain ⟨p, l, e, R, s, m, args, below, meth, c, cy, D, b, N⟩ := G
  obtain ⟨hR, hx, hb, hml, hown, hts, hlk, hrt, hK⟩ := g
  intro v S' ho H locs ls hN hz hP hS hl
  exact lv_isub hx hb d (k v S' ho H locs ls hN hz hP hS hl)
theorem r_imul (g : Ok G cc own nL rm rt) {x y : Int32} (d : decode cc pc = .ok (.imul, 1)) (k : Rg G ret F C S (pc + 1) lv (.int (x * y) :: st) o) : Rg G ret F C S pc lv (.int y :: .int x :: st) o := by
  obtain ⟨p, l, e, R, s, m, args, below, meth, c, cy, D, b, N⟩ := G
  obtain ⟨hR, hx, hb, hml, hown, hts, hlk, hrt, hK⟩ := g
  intro v S' ho H locs ls hN hz hP hS hl
  exact lv_imul hx hb d (k v S' ho H locs ls hN hz hP hS hl)
theorem r_iand (g : Ok G cc own nL rm rt) {x y : Int32} (d : decode cc pc = .ok (.iand, 1)) (k : Rg G ret F C S (pc + 1) lv (.int (x &&& y) :: st) o) : Rg G ret F C S pc lv (.int y :: .int x :: st) o := by
  obtain ⟨p, l, e, R, s, m, args, below, meth, c, cy, D, b, N⟩ := G
  obtain ⟨hR, hx, hb, hml, hown, hts, hlk, hrt, hK⟩ := g
  intro v S' ho H locs ls hN hz hP hS hl
  exact lv_iand hx hb d (k v S' ho H locs ls hN hz hP hS hl)
theorem r_ior (g : Ok G cc own nL rm rt) {x y : Int32} (d : decode cc pc = .ok (.ior, 1)) (k : Rg G ret F C S (pc + 1) lv (.int (x ||| y) :: st) o) : Rg G ret F C S pc lv (.int y :: .int x :: st) o := by
  obtain ⟨p, l, e, R, s, m, args, below, meth, c, cy, D, b, N⟩ := G
  obtain ⟨hR, hx, hb, hml, hown, hts, hlk, hrt, hK⟩ := g
  intro v S' ho H locs ls hN hz hP hS hl
  exact lv_ior hx hb d (k v S' ho H locs ls hN hz hP hS hl)
theorem r_ishl (g : Ok G cc own nL rm rt) {x y : Int32} (d : decode cc pc = .ok (.ishl, 1)) (k : Rg G ret F C S (pc + 1) lv (.int (x <<< (y &&& 31)) :: st) o) : Rg G ret F C S pc lv (.int y :: .int x :: st) o := by
  obtain ⟨p, l, e, R, s, m, args, below, meth, c, cy, D, b, N⟩ := G
  obtain ⟨hR, hx, hb, hml, hown, hts, hlk, hrt, hK⟩ := g
  intro v S' ho H locs ls hN hz hP hS hl
  exact lv_ishl hx hb d (k v S' ho H locs ls hN hz hP hS hl)
theorem r_ishr (g : Ok G cc own nL rm rt) {x y : Int32} (d : decode cc pc = .ok (.ishr, 1)) (k : Rg G ret F C S (pc + 1) lv (.int (x >>> (y &&& 31)) :: st) o) : Rg G ret F C S pc lv (.int y :: .int x :: st) o := by
  obtain ⟨p, l, e, R, s, m, args, below, meth, c, cy, D, b, N⟩ := G
  obtain ⟨hR, hx, hb, hml, hown, hts, hlk, hrt, hK⟩ := g
  intro v S' ho H locs ls hN hz hP hS hl
  exact lv_ishr hx hb d (k v S' ho H locs ls hN hz hP hS hl)
theorem r_iushr (g : Ok G cc own nL rm rt) {x y : Int32} (d : decode cc pc = .ok (.iushr, 1)) (k : Rg G ret F C S (pc + 1) lv (.int ((x.toUInt32 >>> (y.toUInt32 &&& Int32.toUInt32 31)).toInt32) :: st) o) : Rg G ret F C S pc lv (.int y :: .int x :: st) o := by
  obtain ⟨p, l, e, R, s, m, args, below, meth, c, cy, D, b, N⟩ := G
  obtain ⟨hR, hx, hb, hml, hown, hts, hlk, hrt, hK⟩ := g
  intro v S' ho H locs ls hN hz hP hS hl
  exact lv_iushr hx hb d rfl (k v S' ho H locs ls hN hz hP hS hl)
theorem r_ladd (g : Ok G cc own nL rm rt) {x y : Int64} (d : decode cc pc = .ok (.ladd, 1)) (k : Rg G ret F C S (pc + 1) lv (.long (x + y) :: st) o) : Rg G ret F C S pc lv (.long y :: .long x :: st) o := by
  obtain ⟨p, l, e, R, s, m, args, below, meth, c, cy, D, b, N⟩ := G
  obtain ⟨hR, hx, hb, hml, hown, hts, hlk, hrt, hK⟩ := g
  intro v S' ho H locs ls hN hz hP hS hl
  exact lv_ladd hx hb d (k v S' ho H locs ls hN hz hP hS hl)
theorem r_lsub (g : Ok G cc own nL rm rt) {x y : Int64} (d : decode cc pc = .ok (.lsub, 1)) (k : Rg G ret F C S (pc + 1) lv (.long (x - y) :: st) o) : Rg G ret F C S pc lv (.long y :: .long x :: st) o := by
  obtain ⟨p, l, e, R, s, m, args, below, meth, c, cy, D, b, N⟩ := G
  obtain ⟨hR, hx, hb, hml, hown, hts, hlk, hrt, hK⟩ := g
  intro v S' ho H locs ls hN hz hP hS hl
  exact lv_lsub hx hb d (k v S' ho H locs ls hN hz hP hS hl)
theorem r_lmul (g : Ok G cc own nL rm rt) {x y : Int64} (d : decode cc pc = .ok (.lmul, 1)) (k : Rg G ret F C S (pc + 1) lv (.long (x * y) :: st) o) : Rg G ret F C S pc lv (.long y :: .long x :: st) o := by
  obtain ⟨p, l, e, R, s, m, args, below, meth, c, cy, D, b, N⟩ := G
  obtain ⟨hR, hx, hb, hml, hown, hts, hlk, hrt, hK⟩ := g
  intro v S' ho H locs ls hN hz hP hS hl
  exact lv_lmul hx hb d (k v S' ho H locs ls hN hz hP hS hl)
theorem r_ineg (g : Ok G cc own nL rm rt) {x : Int32} (d : decode cc pc = .ok (.ineg, 1)) (k : Rg G ret F C S (pc + 1) lv (.int (-x) :: st) o) : Rg G ret F C S pc lv (.int x :: st) o := by
  obtain ⟨p, l, e, R, s, m, args, below, meth, c, cy, D, b, N⟩ := G
  obtain ⟨hR, hx, hb, hml, hown, hts, hlk, hrt, hK⟩ := g
  intro v S' ho H locs ls hN hz hP hS hl
  exact lv_ineg hx hb d (k v S' ho H locs ls hN hz hP hS hl)
theorem r_lneg (g : Ok G cc own nL rm rt) {x : Int64} (d : decode cc pc = .ok (.lneg, 1)) (k : Rg G ret F C S (pc + 1) lv (.long (-x) :: st) o) : Rg G ret F C S pc lv (.long x :: st) o := by
  obtain ⟨p, l, e, R, s, m, args, below, meth, c, cy, D, b, N⟩ := G
  obtain ⟨hR, hx, hb, hml, hown, hts, hlk, hrt, hK⟩ := g
  intro v S' ho H locs ls hN hz hP hS hl
  exact lv_lneg hx hb d (k v S' ho H locs ls hN hz hP hS hl)
theorem r_i2l (g : Ok G cc own nL rm rt) {x : Int32} (d : decode cc pc = .ok (.i2l, 1)) (k : Rg G ret F C S (pc + 1) lv (.long x.toInt64 :: st) o) : Rg G ret F C S pc lv (.int x :: st) o := by
  obtain ⟨p, l, e, R, s, m, args, below, meth, c, cy, D, b, N⟩ := G
  obtain ⟨hR, hx, hb, hml, hown, hts, hlk, hrt, hK⟩ := g
  intro v S' ho H locs ls hN hz hP hS hl
  exact lv_i2l hx hb d rfl (k v S' ho H locs ls hN hz hP hS hl)
theorem r_l2i (g : Ok G cc own nL rm rt) {x : Int64} (d : decode cc pc = .ok (.l2i, 1)) (k : Rg G ret F C S (pc + 1) lv (.int x.toInt32 :: st) o) : Rg G ret F C S pc lv (.long x :: st) o := by
  obtain ⟨p, l, e, R, s, m, args, below, meth, c, cy, D, b, N⟩ := G
  obtain ⟨hR, hx, hb, hml, hown, hts, hlk, hrt, hK⟩ := g
  intro v S' ho H locs ls hN hz hP hS hl
  exact lv_l2i hx hb d rfl (k v S' ho H locs ls hN hz hP hS hl)
theorem r_i2b (g : Ok G cc own nL rm rt) {x : Int32} (d : decode cc pc = .ok (.i2b, 1)) (k : Rg G ret F C S (pc + 1) lv (.int x.toInt8.toInt32 :: st) o) : Rg G ret F C S pc lv (.int x :: st) o := by
  obtain ⟨p, l, e, R, s, m, args, below, meth, c, cy, D, b, N⟩ := G
  obtain ⟨hR, hx, hb, hml, hown, hts, hlk, hrt, hK⟩ := g
  intro v S' ho H locs ls hN hz hP hS hl
  exact lv_i2b hx hb d rfl (k v S' ho H locs ls hN hz hP hS hl)
theorem r_dup (g : Ok G cc own nL rm rt) {va : Value} (d : decode cc pc = .ok (.dup, 1)) (hc : va.category = 1) (k : Rg G ret F C S (pc + 1) lv (va :: va :: st) o) : Rg G ret F C S pc lv (va :: st) o := by
  obtain ⟨p, l, e, R, s, m, args, below, meth, c, cy, D, b, N⟩ := G
  obtain ⟨hR, hx, hb, hml, hown, hts, hlk, hrt, hK⟩ := g
  intro v S' ho H locs ls hN hz hP hS hl
  exact lv_dup hx hb d hc (k v S' ho H locs ls hN hz hP hS hl)
theorem r_dup2 (g : Ok G cc own nL rm rt) {va vb : Value} (d : decode cc pc = .ok (.dup2, 1)) (hc : va.category = 1) (hc2 : vb.category = 1) (k : Rg G ret F C S (pc + 1) lv (va :: vb :: va :: vb :: st) o) : Rg G ret F C S pc lv (va :: vb :: st) o := by
  obtain ⟨p, l, e, R, s, m, args, below, meth, c, cy, D, b, N⟩ := G
  obtain ⟨hR, hx, hb, hml, hown, hts, hlk, hrt, hK⟩ := g
  intro v S' ho H locs ls hN hz hP hS hl
  exact lv_dup2_11 hx hb d hc hc2 (k v S' ho H locs ls hN hz hP hS hl)
theorem r_pop (g : Ok G cc own nL rm rt) {va : Value} (d : decode cc pc = .ok (.pop, 1)) (hc : va.category = 1) (k : Rg G ret F C S (pc + 1) lv (st) o) : Rg G ret F C S pc lv (va :: st) o := by
  obtain ⟨p, l, e, R, s, m, args, below, meth, c, cy, D, b, N⟩ := G
  obtain ⟨hR, hx, hb, hml, hown, hts, hlk, hrt, hK⟩ := g
  intro v S' ho H locs ls hN hz hP hS hl
  exact lv_pop hx hb d hc (k v S' ho H locs ls hN hz hP hS hl)
theorem r_idiv (g : Ok G cc own nL rm rt) {x y : Int32} {f : Int32 → Option (τ × St)} (d : decode cc pc = .ok (.idiv, 1)) (k : ∀ z, z = x / y → Rg G ret F C S (pc + 1) lv (.int z :: st) (f z)) : Rg G ret F C S pc lv (.int y :: .int x :: st) (dvI x y f) := by
  obtain ⟨p, l, e, R, s, m, args, below, meth, c, cy, D, b, N⟩ := G
  obtain ⟨hR, hx, hb, hml, hown, hts, hlk, hrt, hK⟩ := g
  intro v S' ho H locs ls hN hz hP hS hl
  unfold dvI at ho
  by_cases hy : y = 0
  · rw [if_pos hy] at ho; cases ho
  · rw [if_neg hy] at ho
    exact lv_idiv hx hb d hy (k _ rfl v S' ho H locs ls hN hz hP hS hl)
theorem r_irem (g : Ok G cc own nL rm rt) {x y : Int32} {f : Int32 → Option (τ × St)} (d : decode cc pc = .ok (.irem, 1)) (k : ∀ z, z = x - x / y * y → Rg G ret F C S (pc + 1) lv (.int z :: st) (f z)) : Rg G ret F C S pc lv (.int y :: .int x :: st) (rmI x y f) := by
  obtain ⟨p, l, e, R, s, m, args, below, meth, c, cy, D, b, N⟩ := G
  obtain ⟨hR, hx, hb, hml, hown, hts, hlk, hrt, hK⟩ := g
  intro v S' ho H locs ls hN hz hP hS hl
  unfold rmI at ho
  by_cases hy : y = 0
  · rw [if_pos hy] at ho; cases ho
  · rw [if_neg hy] at ho
    exact lv_irem hx hb d hy (k _ rfl v S' ho H locs ls hN hz hP hS hl)
theorem r_ldiv (g : Ok G cc own nL rm rt) {x y : Int64} {f : Int64 → Option (τ × St)} (d : decode cc pc = .ok (.ldiv, 1)) (k : ∀ z, z = x / y → Rg G ret F C S (pc + 1) lv (.long z :: st) (f z)) : Rg G ret F C S pc lv (.long y :: .long x :: st) (dvL x y f) := by
  obtain ⟨p, l, e, R, s, m, args, below, meth, c, cy, D, b, N⟩ := G
  obtain ⟨hR, hx, hb, hml, hown, hts, hlk, hrt, hK⟩ := g
  intro v S' ho H locs ls hN hz hP hS hl
  unfold dvL at ho
  by_cases hy : y = 0
  · rw [if_pos hy] at ho; cases ho
  · rw [if_neg hy] at ho
    exact lv_ldiv hx hb d hy (k _ rfl v S' ho H locs ls hN hz hP hS hl)
theorem r_lrem (g : Ok G cc own nL rm rt) {x y : Int64} {f : Int64 → Option (τ × St)} (d : decode cc pc = .ok (.lrem, 1)) (k : ∀ z, z = x - x / y * y → Rg G ret F C S (pc + 1) lv (.long z :: st) (f z)) : Rg G ret F C S pc lv (.long y :: .long x :: st) (rmL x y f) := by
  obtain ⟨p, l, e, R, s, m, args, below, meth, c, cy, D, b, N⟩ := G
  obtain ⟨hR, hx, hb, hml, hown, hts, hlk, hrt, hK⟩ := g
  intro v S' ho H locs ls hN hz hP hS hl
  unfold rmL at ho
  by_cases hy : y = 0
  · rw [if_pos hy] at ho; cases ho
  · rw [if_neg hy] at ho
    exact lv_lrem hx hb d hy (k _ rfl v S' ho H locs ls hN hz hP hS hl)
theorem r_icmp_eq (g : Ok G cc own nL rm rt) {x y : Int32} {off : Int} (tgt : Nat) {o1 o2 : Option (τ × St)} (d : decode cc pc = .ok (.if_icmp .eq off, 3)) (ht : (pc : Int) + off = (tgt : Int)) (kt : Rg G ret F C S tgt lv st o1) (kf : Rg G ret F C S (pc + 3) lv st o2) : Rg G ret F C S pc lv (.int y :: .int x :: st) (if x = y then o1 else o2) := by
  obtain ⟨p, l, e, R, s, m, args, below, meth, c, cy, D, b, N⟩ := G
  obtain ⟨hR, hx, hb, hml, hown, hts, hlk, hrt, hK⟩ := g
  intro v S' ho H locs ls hN hz hP hS hl
  exact lv_icmp_eq hx hb d ht (fun h => kt v S' (by rw [if_pos h] at ho; exact ho) H locs ls hN hz hP hS hl) (fun h => kf v S' (by rw [if_neg h] at ho; exact ho) H locs ls hN hz hP hS hl)
theorem r_if_eq (g : Ok G cc own nL rm rt) {x : Int32} {off : Int} (tgt : Nat) {o1 o2 : Option (τ × St)} (d : decode cc pc = .ok (.ifCond .eq off, 3)) (ht : (pc : Int) + off = (tgt : Int)) (kt : Rg G ret F C S tgt lv st o1) (kf : Rg G ret F C S (pc + 3) lv st o2) : Rg G ret F C S pc lv (.int x :: st) (if x = 0 then o1 else o2) := by
  obtain ⟨p, l, e, R, s, m, args, below, meth, c, cy, D, b, N⟩ := G
  obtain ⟨hR, hx, hb, hml, hown, hts, hlk, hrt, hK⟩ := g
  intro v S' ho H locs ls hN hz hP hS hl
  exact lv_if_eq hx hb d ht (fun h => kt v S' (by rw [if_pos h] at ho; exact ho) H locs ls hN hz hP hS hl) (fun h => kf v S' (by rw [if_neg h] at ho; exact ho) H locs ls hN hz hP hS hl)
theorem r_icmp_ne (g : Ok G cc own nL rm rt) {x y : Int32} {off : Int} (tgt : Nat) {o1 o2 : Option (τ × St)} (d : decode cc pc = .ok (.if_icmp .ne off, 3)) (ht : (pc : Int) + off = (tgt : Int)) (kt : Rg G ret F C S tgt lv st o1) (kf : Rg G ret F C S (pc + 3) lv st o2) : Rg G ret F C S pc lv (.int y :: .int x :: st) (if x = y then o2 else o1) := by
  obtain ⟨p, l, e, R, s, m, args, below, meth, c, cy, D, b, N⟩ := G
  obtain ⟨hR, hx, hb, hml, hown, hts, hlk, hrt, hK⟩ := g
  intro v S' ho H locs ls hN hz hP hS hl
  exact lv_icmp_ne hx hb d ht (fun h => kt v S' (by rw [if_neg h] at ho; exact ho) H locs ls hN hz hP hS hl) (fun h => kf v S' (by rw [if_pos h] at ho; exact ho) H locs ls hN hz hP hS hl)
theorem r_if_ne (g : Ok G cc own nL rm rt) {x : Int32} {off : Int} (tgt : Nat) {o1 o2 : Option (τ × St)} (d : decode cc pc = .ok (.ifCond .ne off, 3)) (ht : (pc : Int) + off = (tgt : Int)) (kt : Rg G ret F C S tgt lv st o1) (kf : Rg G ret F C S (pc + 3) lv st o2) : Rg G ret F C S pc lv (.int x :: st) (if x = 0 then o2 else o1) := by
  obtain ⟨p, l, e, R, s, m, args, below, meth, c, cy, D, b, N⟩ := G
  obtain ⟨hR, hx, hb, hml, hown, hts, hlk, hrt, hK⟩ := g
  intro v S' ho H locs ls hN hz hP hS hl
  exact lv_if_ne hx hb d ht (fun h => kt v S' (by rw [if_neg h] at ho; exact ho) H locs ls hN hz hP hS hl) (fun h => kf v S' (by rw [if_pos h] at ho; exact ho) H locs ls hN hz hP hS hl)
theorem r_icmp_lt (g : Ok G cc own nL rm rt) {x y : Int32} {off : Int} (tgt : Nat) {o1 o2 : Option (τ × St)} (d : decode cc pc = .ok (.if_icmp .lt off, 3)) (ht : (pc : Int) + off = (tgt : Int)) (kt : Rg G ret F C S tgt lv st o1) (kf : Rg G ret F C S (pc + 3) lv st o2) : Rg G ret F C S pc lv (.int y :: .int x :: st) (if x < y then o1 else o2) := by
  obtain ⟨p, l, e, R, s, m, args, below, meth, c, cy, D, b, N⟩ := G
  obtain ⟨hR, hx, hb, hml, hown, hts, hlk, hrt, hK⟩ := g
  intro v S' ho H locs ls hN hz hP hS hl
  exact lv_icmp_lt hx hb d ht (fun h => kt v S' (by rw [if_pos h] at ho; exact ho) H locs ls hN hz hP hS hl) (fun h => kf v S' (by rw [if_neg h] at ho; exact ho) H locs ls hN hz hP hS hl)
theorem r_if_lt (g : Ok G cc own nL rm rt) {x : Int32} {off : Int} (tgt : Nat) {o1 o2 : Option (τ × St)} (d : decode cc pc = .ok (.ifCond .lt off, 3)) (ht : (pc : Int) + off = (tgt : Int)) (kt : Rg G ret F C S tgt lv st o1) (kf : Rg G ret F C S (pc + 3) lv st o2) : Rg G ret F C S pc lv (.int x :: st) (if x < 0 then o1 else o2) := by
  obtain ⟨p, l, e, R, s, m, args, below, meth, c, cy, D, b, N⟩ := G
  obtain ⟨hR, hx, hb, hml, hown, hts, hlk, hrt, hK⟩ := g
  intro v S' ho H locs ls hN hz hP hS hl
  exact lv_if_lt hx hb d ht (fun h => kt v S' (by rw [if_pos h] at ho; exact ho) H locs ls hN hz hP hS hl) (fun h => kf v S' (by rw [if_neg h] at ho; exact ho) H locs ls hN hz hP hS hl)
theorem r_icmp_ge (g : Ok G cc own nL rm rt) {x y : Int32} {off : Int} (tgt : Nat) {o1 o2 : Option (τ × St)} (d : decode cc pc = .ok (.if_icmp .ge off, 3)) (ht : (pc : Int) + off = (tgt : Int)) (kt : Rg G ret F C S tgt lv st o1) (kf : Rg G ret F C S (pc + 3) lv st o2) : Rg G ret F C S pc lv (.int y :: .int x :: st) (if y ≤ x then o1 else o2) := by
  obtain ⟨p, l, e, R, s, m, args, below, meth, c, cy, D, b, N⟩ := G
  obtain ⟨hR, hx, hb, hml, hown, hts, hlk, hrt, hK⟩ := g
  intro v S' ho H locs ls hN hz hP hS hl
  exact lv_icmp_ge hx hb d ht (fun h => kt v S' (by rw [if_pos h] at ho; exact ho) H locs ls hN hz hP hS hl) (fun h => kf v S' (by rw [if_neg h] at ho; exact ho) H locs ls hN hz hP hS hl)
theorem r_if_ge (g : Ok G cc own nL rm rt) {x : Int32} {off : Int} (tgt : Nat) {o1 o2 : Option (τ × St)} (d : decode cc pc = .ok (.ifCond .ge off, 3)) (ht : (pc : Int) + off = (tgt : Int)) (kt : Rg G ret F C S tgt lv st o1) (kf : Rg G ret F C S (pc + 3) lv st o2) : Rg G ret F C S pc lv (.int x :: st) (if 0 ≤ x then o1 else o2) := by
  obtain ⟨p, l, e, R, s, m, args, below, meth, c, cy, D, b, N⟩ := G
  obtain ⟨hR, hx, hb, hml, hown, hts, hlk, hrt, hK⟩ := g
  intro v S' ho H locs ls hN hz hP hS hl
  exact lv_if_ge hx hb d ht (fun h => kt v S' (by rw [if_pos h] at ho; exact ho) H locs ls hN hz hP hS hl) (fun h => kf v S' (by rw [if_neg h] at ho; exact ho) H locs ls hN hz hP hS hl)
theorem r_icmp_gt (g : Ok G cc own nL rm rt) {x y : Int32} {off : Int} (tgt : Nat) {o1 o2 : Option (τ × St)} (d : decode cc pc = .ok (.if_icmp .gt off, 3)) (ht : (pc : Int) + off = (tgt : Int)) (kt : Rg G ret F C S tgt lv st o1) (kf : Rg G ret F C S (pc + 3) lv st o2) : Rg G ret F C S pc lv (.int y :: .int x :: st) (if y < x then o1 else o2) := by
  obtain ⟨p, l, e, R, s, m, args, below, meth, c, cy, D, b, N⟩ := G
  obtain ⟨hR, hx, hb, hml, hown, hts, hlk, hrt, hK⟩ := g
  intro v S' ho H locs ls hN hz hP hS hl
  exact lv_icmp_gt hx hb d ht (fun h => kt v S' (by rw [if_pos h] at ho; exact ho) H locs ls hN hz hP hS hl) (fun h => kf v S' (by rw [if_neg h] at ho; exact ho) H locs ls hN hz hP hS hl)
theorem r_if_gt (g : Ok G cc own nL rm rt) {x : Int32} {off : Int} (tgt : Nat) {o1 o2 : Option (τ × St)} (d : decode cc pc = .ok (.ifCond .gt off, 3)) (ht : (pc : Int) + off = (tgt : Int)) (kt : Rg G ret F C S tgt lv st o1) (kf : Rg G ret F C S (pc + 3) lv st o2) : Rg G ret F C S pc lv (.int x :: st) (if 0 < x then o1 else o2) := by
  obtain ⟨p, l, e, R, s, m, args, below, meth, c, cy, D, b, N⟩ := G
  obtain ⟨hR, hx, hb, hml, hown, hts, hlk, hrt, hK⟩ := g
  intro v S' ho H locs ls hN hz hP hS hl
  exact lv_if_gt hx hb d ht (fun h => kt v S' (by rw [if_pos h] at ho; exact ho) H locs ls hN hz hP hS hl) (fun h => kf v S' (by rw [if_neg h] at ho; exact ho) H locs ls hN hz hP hS hl)
theorem r_icmp_le (g : Ok G cc own nL rm rt) {x y : Int32} {off : Int} (tgt : Nat) {o1 o2 : Option (τ × St)} (d : decode cc pc = .ok (.if_icmp .le off, 3)) (ht : (pc : Int) + off = (tgt : Int)) (kt : Rg G ret F C S tgt lv st o1) (kf : Rg G ret F C S (pc + 3) lv st o2) : Rg G ret F C S pc lv (.int y :: .int x :: st) (if x ≤ y then o1 else o2) := by
  obtain ⟨p, l, e, R, s, m, args, below, meth, c, cy, D, b, N⟩ := G
  obtain ⟨hR, hx, hb, hml, hown, hts, hlk, hrt, hK⟩ := g
  intro v S' ho H locs ls hN hz hP hS hl
  exact lv_icmp_le hx hb d ht (fun h => kt v S' (by rw [if_pos h] at ho; exact ho) H locs ls hN hz hP hS hl) (fun h => kf v S' (by rw [if_neg h] at ho; exact ho) H locs ls hN hz hP hS hl)
theorem r_if_le (g : Ok G cc own nL rm rt) {x : Int32} {off : Int} (tgt : Nat) {o1 o2 : Option (τ × St)} (d : decode cc pc = .ok (.ifCond .le off, 3)) (ht : (pc : Int) + off = (tgt : Int)) (kt : Rg G ret F C S tgt lv st o1) (kf : Rg G ret F C S (pc + 3) lv st o2) : Rg G ret F C S pc lv (.int x :: st) (if x ≤ 0 then o1 else o2) := by
  obtain ⟨p, l, e, R, s, m, args, below, meth, c, cy, D, b, N⟩ := G
  obtain ⟨hR, hx, hb, hml, hown, hts, hlk, hrt, hK⟩ := g
  intro v S' ho H locs ls hN hz hP hS hl
  exact lv_if_le hx hb d ht (fun h => kt v S' (by rw [if_pos h] at ho; exact ho) H locs ls hN hz hP hS hl) (fun h => kf v S' (by rw [if_neg h] at ho; exact ho) H locs ls hN hz hP hS hl)
theorem r_lcmp_eq (g : Ok G cc own nL rm rt) {x y : Int64} {off : Int} (tgt : Nat) {o1 o2 : Option (τ × St)} (d0 : decode cc pc = .ok (.lcmp, 1)) (d : decode cc (pc + 1) = .ok (.ifCond .eq off, 3)) (ht : ((pc + 1 : Nat) : Int) + off = (tgt : Int)) (kt : Rg G ret F C S tgt lv st o1) (kf : Rg G ret F C S (pc + 4) lv st o2) : Rg G ret F C S pc lv (.long y :: .long x :: st) (if x = y then o1 else o2) := by
  obtain ⟨p, l, e, R, s, m, args, below, meth, c, cy, D, b, N⟩ := G
  obtain ⟨hR, hx, hb, hml, hown, hts, hlk, hrt, hK⟩ := g
  intro v S' ho H locs ls hN hz hP hS hl
  refine W.lcmp hx hb d0 ?_
  exact lv_if_eq hx hb d ht (fun h => kt v S' (by rw [if_pos ((lg_cmp_eq x y).mp h)] at ho; exact ho) H locs ls hN hz hP hS hl) (fun h => kf v S' (by rw [if_neg (fun z => h ((lg_cmp_eq x y).mpr z))] at ho; exact ho) H locs ls hN hz hP hS hl)
theorem r_lcmp_ne (g : Ok G cc own nL rm rt) {x y : Int64} {off : Int} (tgt : Nat) {o1 o2 : Option (τ × St)} (d0 : decode cc pc = .ok (.lcmp, 1)) (d : decode cc (pc + 1) = .ok (.ifCond .ne off, 3)) (ht : ((pc + 1 : Nat) : Int) + off = (tgt : Int)) (kt : Rg G ret F C S tgt lv st o1) (kf : Rg G ret F C S (pc + 4) lv st o2) : Rg G ret F C S pc lv (.long y :: .long x :: st) (if x = y then o2 else o1) := by
  obtain ⟨p, l, e, R, s, m, args, below, meth, c, cy, D, b, N⟩ := G
  obtain ⟨hR, hx, hb, hml, hown, hts, hlk, hrt, hK⟩ := g
  intro v S' ho H locs ls hN hz hP hS hl
  refine W.lcmp hx hb d0 ?_
  exact lv_if_ne hx hb d ht (fun h => kt v S' (by rw [if_neg (fun z => h ((lg_cmp_eq x y).mpr z))] at ho; exact ho) H locs ls hN hz hP hS hl) (fun h => kf v S' (by rw [if_pos ((lg_cmp_eq x y).mp h)] at ho; exact ho) H locs ls hN hz hP hS hl)
theorem r_lcmp_lt (g : Ok G cc own nL rm rt) {x y : Int64} {off : Int} (tgt : Nat) {o1 o2 : Option (τ × St)} (d0 : decode cc pc = .ok (.lcmp, 1)) (d : decode cc (pc + 1) = .ok (.ifCond .lt off, 3)) (ht : ((pc + 1 : Nat) : Int) + off = (tgt : Int)) (kt : Rg G ret F C S tgt lv st o1) (kf : Rg G ret F C S (pc + 4) lv st o2) : Rg G ret F C S pc lv (.long y :: .long x :: st) (if x < y then o1 else o2) := by
  obtain ⟨p, l, e, R, s, m, args, below, meth, c, cy, D, b, N⟩ := G
  obtain ⟨hR, hx, hb, hml, hown, hts, hlk, hrt, hK⟩ := g
  intro v S' ho H locs ls hN hz hP hS hl
  refine W.lcmp hx hb d0 ?_
  exact lv_if_lt hx hb d ht (fun h => kt v S' (by rw [if_pos ((lg_cmp_lt x y).mp h)] at ho; exact ho) H locs ls hN hz hP hS hl) (fun h => kf v S' (by rw [if_neg (fun z => h ((lg_cmp_lt x y).mpr z))] at ho; exact ho) H locs ls hN hz hP hS hl)
theorem r_lcmp_ge (g : Ok G cc own nL rm rt) {x y : Int64} {off : Int} (tgt : Nat) {o1 o2 : Option (τ × St)} (d0 : decode cc pc = .ok (.lcmp, 1)) (d : decode cc (pc + 1) = .ok (.ifCond .ge off, 3)) (ht : ((pc + 1 : Nat) : Int) + off = (tgt : Int)) (kt : Rg G ret F C S tgt lv st o1) (kf : Rg G ret F C S (pc + 4) lv st o2) : Rg G ret F C S pc lv (.long y :: .long x :: st) (if y ≤ x then o1 else o2) := by
  obtain ⟨p, l, e, R, s, m, args, below, meth, c, cy, D, b, N⟩ := G
  obtain ⟨hR, hx, hb, hml, hown, hts, hlk, hrt, hK⟩ := g
  intro v S' ho H locs ls hN hz hP hS hl
  refine W.lcmp hx hb d0 ?_
  exact lv_if_ge hx hb d ht (fun h => kt v S' (by rw [if_pos ((lg_cmp_ge x y).mp h)] at ho; exact ho) H locs ls hN hz hP hS hl) (fun h => kf v S' (by rw [if_neg (fun z => h ((lg_cmp_ge x y).mpr z))] at ho; exact ho) H locs ls hN hz hP hS hl)
theorem r_lcmp_gt (g : Ok G cc own nL rm rt) {x y : Int64} {off : Int} (tgt : Nat) {o1 o2 : Option (τ × St)} (d0 : decode cc pc = .ok (.lcmp, 1)) (d : decode cc (pc + 1) = .ok (.ifCond .gt off, 3)) (ht : ((pc + 1 : Nat) : Int) + off = (tgt : Int)) (kt : Rg G ret F C S tgt lv st o1) (kf : Rg G ret F C S (pc + 4) lv st o2) : Rg G ret F C S pc lv (.long y :: .long x :: st) (if y < x then o1 else o2) := by
  obtain ⟨p, l, e, R, s, m, args, below, meth, c, cy, D, b, N⟩ := G
  obtain ⟨hR, hx, hb, hml, hown, hts, hlk, hrt, hK⟩ := g
  intro v S' ho H locs ls hN hz hP hS hl
  refine W.lcmp hx hb d0 ?_
  exact lv_if_gt hx hb d ht (fun h => kt v S' (by rw [if_pos ((lg_cmp_gt x y).mp h)] at ho; exact ho) H locs ls hN hz hP hS hl) (fun h => kf v S' (by rw [if_neg (fun z => h ((lg_cmp_gt x y).mpr z))] at ho; exact ho) H locs ls hN hz hP hS hl)
theorem r_lcmp_le (g : Ok G cc own nL rm rt) {x y : Int64} {off : Int} (tgt : Nat) {o1 o2 : Option (τ × St)} (d0 : decode cc pc = .ok (.lcmp, 1)) (d : decode cc (pc + 1) = .ok (.ifCond .le off, 3)) (ht : ((pc + 1 : Nat) : Int) + off = (tgt : Int)) (kt : Rg G ret F C S tgt lv st o1) (kf : Rg G ret F C S (pc + 4) lv st o2) : Rg G ret F C S pc lv (.long y :: .long x :: st) (if x ≤ y then o1 else o2) := by
  obtain ⟨p, l, e, R, s, m, args, below, meth, c, cy, D, b, N⟩ := G
  obtain ⟨hR, hx, hb, hml, hown, hts, hlk, hrt, hK⟩ := g
  intro v S' ho H locs ls hN hz hP hS hl
  refine W.lcmp hx hb d0 ?_
  exact lv_if_le hx hb d ht (fun h => kt v S' (by rw [if_pos ((lg_cmp_le x y).mp h)] at ho; exact ho) H locs ls hN hz hP hS hl) (fun h => kf v S' (by rw [if_neg (fun z => h ((lg_cmp_le x y).mpr z))] at ho; exact ho) H locs ls hN hz hP hS hl)
theorem r_goto (g : Ok G cc own nL rm rt) {off : Int} (tgt : Nat) (d : decode cc pc = .ok (.goto off, 3)) (ht : (pc : Int) + off = (tgt : Int)) (k : Rg G ret F C S tgt lv st o) : Rg G ret F C S pc lv st o := by
  obtain ⟨p, l, e, R, s, m, args, below, meth, c, cy, D, b, N⟩ := G
  obtain ⟨hR, hx, hb, hml, hown, hts, hlk, hrt, hK⟩ := g
  intro v S' ho H locs ls hN hz hP hS hl
  exact lv_goto hx hb d ht (k v S' ho H locs ls hN hz hP hS hl)
end Rows
section Rets
variable {G : Gx} {cc : ByteArray} {own : String} {nL : Nat} {rm : Room} {F : Cf} {S : St} {pc : Nat} {lv : List (Option Value)}
theorem r_iret (g : Ok G cc own nL rm (some .int)) {x : Int32} (d : decode cc pc = .ok (.ireturn, 1)) : Rg G retI F F S pc lv [.int x] (some (x, S)) := by
  obtain ⟨p, l, e, R, s, m, args, below, meth, c, cy, D, b, N⟩ := G
  obtain ⟨hR, hx, hb, hml, hown, hts, hlk, hrt, hK⟩ := g
  intro v S' ho H locs ls hN hz hP hS hl
  cases ho
  exact W.iret hx hb hrt (fun t ht hW => ⟨rfl, by rw [ht]; exact hz, by rw [ht]; exact hP, hS.F ht⟩) hS.2.2 d hlk
theorem r_lret (g : Ok G cc own nL rm (some .long)) {x : Int64} (d : decode cc pc = .ok (.lreturn, 1)) : Rg G retL F F S pc lv [.long x] (some (x, S)) := by
  obtain ⟨p, l, e, R, s, m, args, below, meth, c, cy, D, b, N⟩ := G
  obtain ⟨hR, hx, hb, hml, hown, hts, hlk, hrt, hK⟩ := g
  intro v S' ho H locs ls hN hz hP hS hl
  cases ho
  exact W.lret hx hb hrt (fun t ht hW => ⟨rfl, by rw [ht]; exact hz, by rw [ht]; exact hP, hS.F ht⟩) hS.2.2 d hlk
theorem r_vret (g : Ok G cc own nL rm none) (d : decode cc pc = .ok (.return_, 1)) : Rg G retV F F S pc lv [] (some ((), S)) := by
  obtain ⟨p, l, e, R, s, m, args, below, meth, c, cy, D, b, N⟩ := G
  obtain ⟨hR, hx, hb, hml, hown, hts, hlk, hrt, hK⟩ := g
  intro v S' ho H locs ls hN hz hP hS hl
  cases ho
  exact W.vret hx hb hrt (fun t ht hW => ⟨rfl, by rw [ht]; exact hz, by rw [ht]; exact hP, hS.F ht⟩) hS.2.2 d hlk
theorem r_zret (g : Ok G cc own nL rm (some .boolean)) {x : Int32} (d : decode cc pc = .ok (.ireturn, 1)) : Rg G retI F F S pc lv [.int x] (isB x (some (x, S))) := by
  obtain ⟨p, l, e, R, s, m, args, below, meth, c, cy, D, b, N⟩ := G
  obtain ⟨hR, hx, hb, hml, hown, hts, hlk, hrt, hK⟩ := g
  intro v S' ho H locs ls hN hz hP hS hl
  unfold isB at ho
  by_cases hx01 : x = 0 ∨ x = 1
  · rw [if_pos hx01] at ho
    cases ho
    have hn : narrow .boolean (.int x) = .int x := by rcases hx01 with rfl | rfl <;> rfl
    exact W.zret hx hb hrt hn (fun t ht hW => ⟨rfl, by rw [ht]; exact hz, by rw [ht]; exact hP, hS.F ht⟩) hS.2.2 d hlk
  · rw [if_neg hx01] at ho; cases ho
theorem r_zret0 (g : Ok G cc own nL rm (some .boolean)) {x : Int32} (hx01 : x = 0 ∨ x = 1) (d : decode cc pc = .ok (.ireturn, 1)) : Rg G retI F F S pc lv [.int x] (some (x, S)) := by
  obtain ⟨p, l, e, R, s, m, args, below, meth, c, cy, D, b, N⟩ := G
  obtain ⟨hR, hx, hb, hml, hown, hts, hlk, hrt, hK⟩ := g
  intro v S' ho H locs ls hN hz hP hS hl
  cases ho
  have hn : narrow .boolean (.int x) = .int x := by rcases hx01 with rfl | rfl <;> rfl
  exact W.zret hx hb hrt hn (fun t ht hW => ⟨rfl, by rw [ht]; exact hz, by rw [ht]; exact hP, hS.F ht⟩) hS.2.2 d hlk
theorem r_aret {rt : Option FieldType} (g : Ok G cc own nL rm rt) (hrr : ∃ n, rt = some (.object n)) {q : Nat} (d : decode cc pc = .ok (.areturn, 1)) : Rg G (retR (gb G)) F F S pc lv [.ref (gb G + q)] (some (q, S)) := by
  obtain ⟨p, l, e, R, s, m, args, below, meth, c, cy, D, b, N⟩ := G
  obtain ⟨hR, hx, hb, hml, hown, hts, hlk, hrt, hK⟩ := g
  intro v S' ho H locs ls hN hz hP hS hl
  cases ho
  obtain ⟨n, rfl⟩ := hrr
  exact W.aret hx hb hrt (Or.inl ⟨n, rfl⟩) (Or.inr ⟨_, rfl⟩) (fun t ht hW => ⟨rfl, by rw [ht]; exact hz, by rw [ht]; exact hP, hS.F ht⟩) hS.2.2 d hlk
end Rets
