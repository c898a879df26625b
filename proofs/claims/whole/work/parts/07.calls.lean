/-! contracts and calls -/
def Pw (cy : Nat → ClassId) (D : va_G) (b N : Nat) (fr : Bool) (sh : List Sh) (S : St) (U : State) : Prop := (fr = true → U.heap.size = b + sh.length) ∧ va_P D vwCl (wd cy b sh S) U.heap ∧ va_K D vwCl (tysOf cy) U ∧ NestOk U ∧ StatOk (inR b N) U U.heap
def ws0 (y : MethodName) (cc : ByteArray) (nL : Nat) (rt : Option FieldType) : List Cond := Cond.code y cc nL rt :: lw_gd
def Con {ρ : Type} (y : MethodName) (cc : ByteArray) (nL : Nat) (rt : Option FieldType) (rm : Room) (fr : Bool) (sh : List Sh) (F : Cf) (av : Nat → List Value) (S : St) (ret : Nat → ρ → Option Value) (sf : ρ → St) (o : Option ρ) : Prop :=
  ∀ (l : Launch) (cy : Nat → ClassId) (D : va_G) (b N : Nat) (v : ρ), o = some v → sh.length ≤ N → F.1.length ≤ N → Met l y (ws0 y cc nL rt) rm (va_Pc (av b) (Pw cy D b N fr sh S)) (Qw cy D b N F.1 (ret b v) (sf v)) F.2.1 F.2.2 (inR b N)
def gN (G : Gx) : Nat := G.2.2.2.2.2.2.2.2.2.2.2.2.2
/-- a contract out of the judgement -/
theorem Con_of {ρ : Type} {y : MethodName} {cc : ByteArray} {nL : Nat} {rt : Option FieldType} {rm : Room} {fr : Bool} {sh : List Sh} {F : Cf} {av : Nat → List Value} {S : St} {ret : Nat → ρ → Option Value} {sf : ρ → St} {o : Option ρ} (lv : Nat → List (Option Value)) (hy : plainName y.cls = true) (hlv : ∀ b, lvA 0 (lv b) = lv_args 0 (av b)) (hlen : ∀ b, (lg_sl (av b)).length ≤ nL)
    (body : ∀ G : Gx, Ok G cc y.cls nL rm rt → (fr = true → gsz G = gb G + sh.length) → gmn G = y.name → F.1.length ≤ gN G → Rg G (ret (gb G)) sf F (sh, 0, 0) S 0 (lv (gb G)) [] o) : Con y cc nL rt rm fr sh F av S ret sf o := by
  intro l cy D b N v ho hN hN2
  refine Met.ofW (cc := cc) (maxL := nL) (ret := rt) hy rfl ?_
  intro p e s m args below meth c s₁ B hml hv
  obtain ⟨rfl, hsz, hP, hK, hnw, hst⟩ := hv
  have hts := atoms_spec (ws := ws0 y cc nL rt) B.pre
  have hown : s.vm.findClass y.cls = some m.cls := findClass_of_methodNamed B.named
  have hnm : meth.name = y.name := (name_of_methodNamed B.named B.method).1
  have hl := lv_entry (av b) (n := nL) (hlen b)
  rw [lg_entry_eq]
  generalize (lg_sl (av b) ++ List.replicate (nL - (lg_sl (av b)).length) Slot.unset).toArray = ls at hl ⊢
  have k := body (p, l, e, (headSpec (ws0 y cc nL rt) rm).room, s, m, (av b).toArray, below, meth, c, cy, D, b, N) ⟨rfl, B.exec, B.bytes, hml, hown, fun w hw => hts w (List.mem_cons_of_mem _ hw), B.notSynchronized, B.returns, hK, hnw, hst⟩ hsz hnm hN2
  refine k v ho s.heap [] ls hN hP va_S.rf ?_
  show lv_has ls c.maxLocals (lvA 0 (lv b))
  rw [hml, hlv b]
  exact hl
theorem NestOk.moved {s U : State} (hW : s.WarmedH U.vm) (h : NestOk s) : NestOk U := ⟨fun q hq => va_Nw.warmM hW (h.1 q hq), h.2.1.moved hW.alike, h.2.2.1.moved hW.alike, h.2.2.2.moved hW.alike⟩
theorem NestOk.same {u U : State} (h : u.vm = U.vm) (hN : NestOk u) : NestOk U := ⟨fun q hq => va_Nw.same rfl h (hN.1 q hq), hN.2.1.moved (h ▸ Vm.Alike.refl _), hN.2.2.1.moved (h ▸ Vm.Alike.refl _), hN.2.2.2.moved (h ▸ Vm.Alike.refl _)⟩
theorem Stat1.moved {n : String} {f : Nat → Int32} {A : Nat → Prop} {u U : State} {H : Heap} (hvm : u.vm.Alike U.vm) (h : Stat1 n f A u H) : Stat1 n f A U H := by
  obtain ⟨a, h1, h2, h3⟩ := h
  exact ⟨a, h1.moved hvm, h2.moved hvm, h3⟩
theorem Stat1.kept {n : String} {f : Nat → Int32} {A : Nat → Prop} {U : State} {H H1 : Heap} (hz : H.size ≤ H1.size) (hq : ∀ a : Nat, a < H.size → ¬ A a → H1[a]? = H[a]?) (h : Stat1 n f A U H) : Stat1 n f A U H1 := by
  obtain ⟨a, h1, h2, h3, h4⟩ := h
  exact ⟨a, h1.kept hq, h2.kept (hq a h3 h4), Nat.lt_of_lt_of_le h3 hz, h4⟩
theorem StatOk.moved {A : Nat → Prop} {u U : State} {H : Heap} (hvm : u.vm.Alike U.vm) (h : StatOk A u H) : StatOk A U H := ⟨h.1.moved hvm, h.2.moved hvm⟩
theorem StatOk.kept {A : Nat → Prop} {U : State} {H H1 : Heap} (hz : H.size ≤ H1.size) (hq : ∀ a : Nat, a < H.size → ¬ A a → H1[a]? = H[a]?) (h : StatOk A U H) : StatOk A U H1 := ⟨h.1.kept hz hq, h.2.kept hz hq⟩
theorem Pw_blind {cy : Nat → ClassId} {D : va_G} {b N : Nat} {fr : Bool} {sh : List Sh} {S : St} {av : List Value} : FrameBlind (va_Pc av (Pw cy D b N fr sh S)) := by
  intro a U g mk h
  obtain ⟨h0, h1, h2, h3, h4, h5⟩ := h
  exact ⟨h0, h1, h2, va_K.moved (u := U) (U := U.calling g mk a) (Vm.Alike.refl U.vm) h3, NestOk.same (u := U) (U := U.calling g mk a) rfl h4, StatOk.moved (u := U) (U := U.calling g mk a) (Vm.Alike.refl U.vm) h5⟩
theorem Pw_in {cy : Nat → ClassId} {D : va_G} {b N : Nat} {sh : List Sh} {S : St} {s U : State} {H : Heap} {locs : List Loc} (fr : Bool) (hfr : fr = true → H.size = b + sh.length) (hK : va_K D vwCl (tysOf cy) s) (hnw : NestOk s) (hst : StatOk (inR b N) s s.heap) (hP : va_P D vwCl (wd cy b sh S) H) (hS : va_S (inR b N) s.heap H locs) (hU : U.heap = H) (hW : s.WarmedH U.vm) : Pw cy D b N fr sh S U :=
  ⟨fun h => by rw [hU]; exact hfr h, by rw [hU]; exact hP, va_K.moved hW.alike hK, NestOk.moved hW hnw, by rw [hU]; exact (StatOk.kept hS.1 hS.2.1 hst).moved hW.alike⟩
theorem gd_gd : GoodIn lw_gd lw_gd := by
  intro w hw
  refine ⟨hw, ?_⟩
  have h := (List.mem_filter.mp hw).2
  unfold goodW at h
  rcases Bool.or_eq_true_iff.mp h with h | h
  · exact Or.inl h
  · right
    split at h
    · exact ⟨_, rfl⟩
    · cases h
theorem gd_ws {y : MethodName} {cc : ByteArray} {nL : Nat} {rt : Option FieldType} (h : Cond.code y cc nL rt ∈ lw_gd) : GoodIn lw_gd (ws0 y cc nL rt) := by
  intro w hw
  rcases List.mem_cons.mp hw with rfl | hw
  · exact gd_gd _ h
  · exact gd_gd _ hw
/-- what is known of a method, wherever it is called -/
def Mth (y : MethodName) (cc : ByteArray) (nL : Nat) (rt : Option FieldType) (n : Nat) : Prop := Cond.code y cc nL rt ∈ lw_gd ∧ Cond.initialized y.cls ∈ lw_gd ∧ y.cls ≠ "java/lang/invoke/MethodHandle" ∧ y.cls ≠ "java/lang/invoke/VarHandle" ∧ (parseMethodDescriptor y.desc).map (fun d => d.parameters.length) = some n
section CallRow
variable {p : Program} {l : Launch} {e : Env} {R : Room} {s : State} {m : MethodId} {args : Array Value} {below : List Frame} {meth : Method} {c : Code} {H : Heap} {locs : List Loc} {cells slots mc ms : Nat} {Q : State → Prop} {pc : Nat} {ls : Array Slot} {rest st0 : List Value} {a : Array Value}
theorem va_callw {cy : Nat → ClassId} {D : va_G} {b N : Nat} {sh : List Sh} {r : Option Value} {S' : St} (hr : va_Run p l e R s m args below meth c H locs cells slots mc ms (F0 m pc ls st0) rest (Qw cy D b N sh r S' a) (inR b N)) (hS : va_S (inR b N) s.heap H locs)
    (kk : ∀ (H1 : Heap) (locs1 : List Loc), va_P D vwCl (wd cy b sh S') H1 → va_S (inR b N) s.heap H1 locs1 → W p l e R s m args below meth c H1 locs1 (cells + mc) (slots + ms) Q (F0 m (pc + 3) ls (r.toList ++ rest))) : W p l e R s m args below meth c H locs cells slots Q (F0 m pc ls st0) := by
  intro T hT X
  obtain ⟨v, st₀, t, T', L, h0, X', hL, e1, e2, ⟨hv, hP, hz, hk⟩, st⟩ := hr T hT X
  cases hv
  rw [h0] at hz hk
  obtain ⟨t2, a1, b1⟩ := kk T'.heap (locs ++ L) (by rw [e1]; exact hP)
    ⟨Nat.le_trans hS.1 (by rw [e1]; exact hz), fun q h1 h2 => by rw [e1, hk q (Nat.lt_of_lt_of_le h1 hS.1) h2]; exact hS.2.1 q h1 h2, fun q hq => by
      rcases List.mem_append.mp hq with h | h
      · exact hS.2.2 q h
      · exact hL q h⟩ T' rfl X'
  exact ⟨t2, st t2 a1, b1⟩
end CallRow
section Calls
variable {G : Gx} {cc : ByteArray} {own : String} {nL : Nat} {rm : Room} {rt : Option FieldType} {ρ : Type} {ret : ρ → Option Value} {sf : ρ → St} {F : Cf} {sh : List Sh} {S : St} {pc : Nat} {lv : List (Option Value)} {st st0 : List Value}
variable {σ : Type} {y : MethodName} {ccc : ByteArray} {nLc : Nat} {rtc : Option FieldType} {rmc : Room} {av : Nat → List Value} {retc : Nat → σ → Option Value} {sfc : σ → St} {oc : Option σ} {idx n : Nat} {f : σ → Option ρ}
theorem r_callS (g : Ok G cc own nL rm rt) (con : Con y ccc nLc rtc rmc false sh (sh, 0, 0) av S retc sfc oc) (M : Mth y ccc nLc rtc n) (hl : Cond.methodLink own idx y ∈ lw_gd) (hs : Cond.static y ∈ lw_gd) (hr : rmc.cells = 0 ∧ rmc.slots = 0 ∧ rmc.frames + 1 ≤ rm.frames ∧ 8 + (nLc + 11) + rmc.locals ≤ rm.locals) (hn : ∀ b, (av b).length = n) (hst : st0 = (av (gb G)).reverse ++ st) (hW : (st.map fun v => v.category).sum ≤ 8) (d : decode cc pc = .ok (.invokestatic idx, 3))
    (k : ∀ u, Rg G ret sf F (sh, 0, 0) (sfc u) (pc + 3) lv ((retc (gb G) u).toList ++ st) (f u)) : Rg G ret sf F (sh, 0, 0) S pc lv st0 (oc.bind f) := by
  obtain ⟨p, l, e, R, s, m, args, below, meth, c, cy, D, b, N⟩ := G
  obtain ⟨hR, hx, hb, hml, hown, hts, hlk, hrt, hK, hnw, hsta⟩ := g
  intro v ho H locs ls hN hP hS hlv
  cases hoc : oc with
  | none => rw [hoc] at ho; cases ho
  | some u =>
    rw [hoc] at ho
    subst hR
    refine va_callw (va_runS (As := av b) (rest := st) (mc := 0) (ms := 0) (n := n) ⟨hx, hb, hml, hown, hts⟩ (con l cy D b N u hoc hN hN) ⟨callB_of n hts (gd_ws M.1) rfl hr.1 hr.2.1 (hts _ M.2.1) (hts _ hl) M.2.2 hr.2.2, hts _ hs⟩ ⟨Pw_blind, fun U hU hW => ⟨rfl, Pw_in false (fun h => by cases h) hK hnw hsta hP hS hU hW⟩⟩ rfl (hn b) (hlv.1.trans hml) hst (lv_room hW) d ⟨Nat.zero_le _, Nat.zero_le _⟩) hS (fun H1 locs1 hP1 hS1 => ?_)
    exact k u v ho H1 locs1 ls hN hP1 hS1 hlv
theorem r_callSN {host : String} (g : Ok G cc own nL rm rt) (con : Con y ccc nLc rtc rmc false sh (sh, 0, 0) av S retc sfc oc) (M : Mth y ccc nLc rtc n) (hl : (own, idx, y, host) ∈ lw_nest) (hs : Cond.static y ∈ lw_gd) (hr : rmc.cells = 0 ∧ rmc.slots = 0 ∧ rmc.frames + 1 ≤ rm.frames ∧ 8 + (nLc + 11) + rmc.locals ≤ rm.locals) (hn : ∀ b, (av b).length = n) (hst : st0 = (av (gb G)).reverse ++ st) (hW : (st.map fun v => v.category).sum ≤ 8) (d : decode cc pc = .ok (.invokestatic idx, 3))
    (k : ∀ u, Rg G ret sf F (sh, 0, 0) (sfc u) (pc + 3) lv ((retc (gb G) u).toList ++ st) (f u)) : Rg G ret sf F (sh, 0, 0) S pc lv st0 (oc.bind f) := by
  obtain ⟨p, l, e, R, s, m, args, below, meth, c, cy, D, b, N⟩ := G
  obtain ⟨hR, hx, hb, hml, hown, hts, hlk, hrt, hK, hnw, hsta⟩ := g
  intro v ho H locs ls hN hP hS hlv
  cases hoc : oc with
  | none => rw [hoc] at ho; cases ho
  | some u =>
    rw [hoc] at ho
    subst hR
    refine va_callw (va_runSN (As := av b) (rest := st) (mc := 0) (ms := 0) (n := n) ⟨hx, hb, hml, hown, hts⟩ (con l cy D b N u hoc hN hN) ⟨va_cnB n hts (gd_ws M.1) rfl hr.1 hr.2.1 (hnw.1 _ hl) (hts _ M.2.1) M.2.2 hr.2.2, hts _ hs, trivial⟩ ⟨Pw_blind, fun U hU hW => ⟨rfl, Pw_in false (fun h => by cases h) hK hnw hsta hP hS hU hW⟩⟩ rfl (hn b) (hlv.1.trans hml) hst (lv_room hW) d ⟨Nat.zero_le _, Nat.zero_le _⟩) hS (fun H1 locs1 hP1 hS1 => ?_)
    exact k u v ho H1 locs1 ls hN hP1 hS1 hlv
theorem r_callV {q ci : Nat} {fk : List Nat} {T : u_T} {nf : Nat} {as : Nat → List Value} (g : Ok G cc own nL rm rt) (con : Con y ccc nLc rtc rmc false sh (sh, 0, 0) (fun b => .ref (b + q) :: as b) S retc sfc oc) (M : Mth y ccc nLc rtc n) (hq : sh[q]? = some (.inl (ci, fk))) (hc : vwCl[ci]? = some (y.cls, T, nf)) (hl : Cond.methodLink own idx y ∈ lw_gd) (hs : Cond.instanceMethod y ∈ lw_gd) (hse : Cond.selects y.cls y y ∈ lw_gd) (hr : rmc.cells = 0 ∧ rmc.slots = 0 ∧ rmc.frames + 1 ≤ rm.frames ∧ 8 + (nLc + 11) + rmc.locals ≤ rm.locals) (hn : ∀ b, (as b).length = n) (hst : st0 = (as (gb G)).reverse ++ vr G q :: st) (hW : (st.map fun v => v.category).sum ≤ 8) (d : decode cc pc = .ok (.invokevirtual idx, 3))
    (k : ∀ u, Rg G ret sf F (sh, 0, 0) (sfc u) (pc + 3) lv ((retc (gb G) u).toList ++ st) (f u)) : Rg G ret sf F (sh, 0, 0) S pc lv st0 (oc.bind f) := by
  obtain ⟨p, l, e, R, s, m, args, below, meth, c, cy, D, b, N⟩ := G
  obtain ⟨hR, hx, hb, hml, hown, hts, hlk, hrt, hK, hnw, hsta⟩ := g
  intro v ho H locs ls hN hP hS hlv
  cases hoc : oc with
  | none => rw [hoc] at ho; cases ho
  | some u =>
    rw [hoc] at ho
    subst hR
    refine va_callw (va_runV (C := y.cls) (As := as b) (rest := st) (b := b + q) (mc := 0) (ms := 0) (n := n) ⟨hx, hb, hml, hown, hts⟩ (con l cy D b N u hoc hN hN) ⟨callB_of n hts (gd_ws M.1) rfl hr.1 hr.2.1 (hts _ M.2.1) (hts _ hl) M.2.2 hr.2.2, hts _ hs, hts _ hse⟩ ⟨Pw_blind, va_recv hK hP hc (wd_at hq), fun U hU hW => ⟨rfl, Pw_in false (fun h => by cases h) hK hnw hsta hP hS hU hW⟩⟩ rfl (hn b) (hlv.1.trans hml) hst (lv_room hW) d ⟨Nat.zero_le _, Nat.zero_le _⟩) hS (fun H1 locs1 hP1 hS1 => ?_)
    exact k u v ho H1 locs1 ls hN hP1 hS1 hlv
end Calls
