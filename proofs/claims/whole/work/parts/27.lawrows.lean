/-! the law: two worlds side by side, the class's at B, the model's at B + 65 -/
abbrev Lx : Type := Program × Launch × Env × State × MethodId × List Frame × Method × Code × (Nat → ClassId) × va_G × Nat × Nat × (Nat → Int32)
def lB (X : Lx) : Nat := X.2.2.2.1.heap.size
def lb (X : Lx) : Nat := X.2.2.2.2.2.2.2.2.2.2.1
def lL (X : Lx) : Nat := X.2.2.2.2.2.2.2.2.2.2.2.1
def sv (X : Lx) (j : Nat) : Int := (X.2.2.2.2.2.2.2.2.2.2.2.2 j).toInt
theorem sv_in (X : Lx) (j : Nat) : in32 (sv X j) := by
  have h1 := Int32.le_toInt (X.2.2.2.2.2.2.2.2.2.2.2.2 j)
  have h2 := Int32.toInt_lt (X.2.2.2.2.2.2.2.2.2.2.2.2 j)
  unfold sv
  omega
def LOk (X : Lx) : Prop := match X with
  | (p, _, _, s, m, _, meth, c, cy, D, b, L, xs) => p.tables.exec = Jvm.exec ∧ c.code = code ∧ meth.sig.returnType = some .boolean ∧ c.maxLocals = 4 ∧ s.vm.findClass RL = some m.cls ∧ (∀ w ∈ lw_gd, w.before #[Value.ref b] s = true) ∧ va_X b L xs s s.heap ∧ b < s.heap.size ∧ meth.locks = false ∧ va_K D vwCl (tysOf cy) s ∧ NestOk s ∧ StatOk (fun q => s.heap.size ≤ q) s s.heap ∧ L ≤ 3072
def Lg (X : Lx) (C M : St) (pc : Nat) (lv : List (Option Value)) (st : List Value) : Prop := match X with
  | (p, l, e, s, m, below, meth, c, cy, D, b, _, _) => ∀ (H : Heap) (locs : List Loc) (ls : Array Slot), va_P D vwCl (wd cy s.heap.size SHC C) H → va_P D vwCl (wd cy (s.heap.size + 65) SHM M) H → va_S (fun q => s.heap.size ≤ q) s.heap H locs → lv_has ls 4 (lvA 0 lv) → W p l e room_1 s m #[Value.ref b] below meth c H locs 600000 7302250 (lw_Z below #[Value.ref b] s) (F0 m pc ls st)
def LV (X : Lx) (i : Int) : List (Option Value) := [some (.ref (lb X)), some (.ref (lB X + 0)), some (.ref (lB X + 65 + 0)), some (vi i)]
section LRows
variable {X : Lx} {C M : St} {pc : Nat} {i j : Int} {st : List Value} {lv : List (Option Value)}
theorem l_aload (g : LOk X) {k : Fin 4} {x : Nat} (d : decode code pc = .ok (.aload_n k, 1)) (h : lv[(k : Nat)]? = some (some (.ref x))) (kk : Lg X C M (pc + 1) lv (.ref x :: st)) : Lg X C M pc lv st := by
  obtain ⟨p, l, e, s, m, below, meth, c, cy, D, b, L, xs⟩ := X
  obtain ⟨hx, hb, hr, hml, hown, hts, hX, hbl, hlk, hK, hnw, hsta, hL⟩ := g
  intro H locs ls hP hM hS hl
  exact lv_aload_n hx hb d rfl (hl.2.2 ((k : Nat), .ref x) (by have := lvA_mem lv 0 k _ h; rwa [Nat.zero_add] at this)) (kk H locs ls hP hM hS hl)
/-- an argument: script[i + j] -/
theorem l_arg (g : LOk X) (hi : 0 ≤ i ∧ i + j < lL X ∧ 0 ≤ j) (d1 : decode code pc = .ok (.aload_n 0, 1)) (d2 : decode code (pc + 1) = .ok (.iload_n 3, 1)) (d3 : decode code (pc + 2) = .ok (.iconst j, 1)) (d4 : decode code (pc + 3) = .ok (.iadd, 1)) (d5 : decode code (pc + 4) = .ok (.iaload, 1)) (k : Lg X C M (pc + 5) (LV X i) (vi (sv X (i + j).toNat) :: st)) : Lg X C M pc (LV X i) st := by
  obtain ⟨p, l, e, s, m, below, meth, c, cy, D, b, L, xs⟩ := X
  obtain ⟨hx, hb, hr, hml, hown, hts, hX, hbl, hlk, hK, hnw, hsta, hL⟩ := g
  intro H locs ls hP hM hS hl
  have hi2 : i + j < (L : Int) := hi.2.1
  have kk := k H locs ls hP hM hS hl
  refine lv_aload_n hx hb d1 rfl (hl.2.2 (0, .ref b) (by simp [LV, lvA, lb])) ?_
  refine lv_iload_n hx hb d2 rfl (hl.2.2 (3, .int (iI i)) (by simp [LV, lvA, vi])) ?_
  refine lv_iconst (v := iI j) hx hb d3 rfl ?_
  refine lv_iadd hx hb d4 ?_
  rw [iI_add]
  refine va_sld hx hb hX hbl (A := fun q => s.heap.size ≤ q) (fun h => by omega) hS (iI_vp (n := L) (by omega) ⟨by omega, hi2⟩) d5 ?_
  rw [iI_cl (by omega) (by omega)]
  have e1 : Value.int (xs (i + j).toNat) = vi (sv (p, l, e, s, m, below, meth, c, cy, D, b, L, xs) (i + j).toNat) := by
    unfold vi sv iI
    rw [Int32.ofInt_toInt]
  rw [e1]
  exact kk
theorem l_eqI (g : LOk X) {v : Int} {off : Int} (d : decode code pc = .ok (.if_icmp .eq off, 3)) (tgt : Nat) (ht : (pc : Int) + off = (tgt : Int)) (k : Lg X C M tgt lv st) : Lg X C M pc lv (vi v :: vi v :: st) := by
  obtain ⟨p, l, e, s, m, below, meth, c, cy, D, b, L, xs⟩ := X
  obtain ⟨hx, hb, hr, hml, hown, hts, hX, hbl, hlk, hK, hnw, hsta, hL⟩ := g
  intro H locs ls hP hM hS hl
  exact lv_icmp_eq hx hb d ht (fun _ => k H locs ls hP hM hS hl) (fun h => absurd rfl h)
theorem l_eqL (g : LOk X) {v : Int} {off : Int} (d0 : decode code pc = .ok (.lcmp, 1)) (d : decode code (pc + 1) = .ok (.ifCond .eq off, 3)) (tgt : Nat) (ht : ((pc + 1 : Nat) : Int) + off = (tgt : Int)) (k : Lg X C M tgt lv st) : Lg X C M pc lv (vl v :: vl v :: st) := by
  obtain ⟨p, l, e, s, m, below, meth, c, cy, D, b, L, xs⟩ := X
  obtain ⟨hx, hb, hr, hml, hown, hts, hX, hbl, hlk, hK, hnw, hsta, hL⟩ := g
  intro H locs ls hP hM hS hl
  refine W.lcmp hx hb d0 ?_
  exact lv_if_eq hx hb d ht (fun _ => k H locs ls hP hM hS hl) (fun h => absurd ((lg_cmp_eq (lI v) (lI v)).mpr rfl) h)
theorem StatOk.narrow {A B : Nat → Prop} {U : State} {H : Heap} (h : StatOk A U H) (hAB : ∀ q, B q → A q) : StatOk B U H := by
  obtain ⟨⟨a1, h1, h2, h3, h4⟩, ⟨a2, k1, k2, k3, k4⟩⟩ := h
  exact ⟨⟨a1, h1.narrow hAB, h2, h3, fun z => h4 (hAB _ z)⟩, ⟨a2, k1.narrow hAB, k2, k3, fun z => k4 (hAB _ z)⟩⟩
/-- a world that lies apart from the cells which a call may write -/
theorem wd_kept {cy : Nat → ClassId} {D : va_G} {b N b2 N2 : Nat} {sh : List Sh} {S : St} {H H1 : Heap} (hP : va_P D vwCl (wd cy b sh S) H) (hl : sh.length ≤ N) (hd : b + N ≤ b2 ∨ b2 + N2 ≤ b) (hk : ∀ q : Nat, q < H.size → ¬ inR b2 N2 q → H1[q]? = H[q]?) : va_P D vwCl (wd cy b sh S) H1 := by
  refine hP.kept (fun k x hx => hk x.1 ((hP k x hx).lt) ?_)
  have h := (wd_D (cy := cy) (b := b) (N := N) (S := S) hl).2 k x hx
  intro h2
  have h3 : b ≤ x.1 ∧ x.1 < b + N := h
  have h4 : b2 ≤ x.1 ∧ x.1 < b2 + N2 := h2
  omega
variable {σ : Type} {y : MethodName} {ccc : ByteArray} {nLc : Nat} {rtc : Option FieldType} {rmc : Room} {as : Nat → List Value} {retc : Nat → σ → Option Value} {sfc : σ → St} {oc : Option σ} {u : σ} {idx n ci : Nat} {fk : List Nat} {T : u_T} {nf : Nat} {st0 : List Value}
theorem l_callC (g : LOk X) (con : Con y ccc nLc rtc rmc false SHC (SHC, 0, 0) (fun b => .ref (b + 0) :: as b) C retc sfc oc) (ho : oc = some u) (Mt : Mth y ccc nLc rtc n) (hcl : y.cls = RX5) (hl : Cond.methodLink RL idx y ∈ lw_gd) (hs : Cond.instanceMethod y ∈ lw_gd) (hse : Cond.selects y.cls y y ∈ lw_gd) (hr : rmc.cells = 0 ∧ rmc.slots = 0 ∧ rmc.frames + 1 ≤ 9 ∧ 8 + (nLc + 11) + rmc.locals ≤ 352) (hn : ∀ b, (as b).length = n) (hst : st0 = (as (lB X)).reverse ++ .ref (lB X + 0) :: st) (hW : (st.map fun v => v.category).sum ≤ 8) (d : decode code pc = .ok (.invokevirtual idx, 3)) (k : Lg X (sfc u) M (pc + 3) lv ((retc (lB X) u).toList ++ st)) : Lg X C M pc lv st0 := by
  obtain ⟨p, l, e, s, m, below, meth, c, cy, D, b, L, xs⟩ := X
  obtain ⟨hx, hb, hrr, hml, hown, hts, hX, hbl, hlk, hK, hnw, hsta, hL⟩ := g
  intro H locs ls hP hM hS hlv
  have hAB : ∀ q, inR s.heap.size 65 q → s.heap.size ≤ q := fun q h => h.1
  have hq : SHC[0]? = some (.inl (5, [4, 5, 6, 7, 8, 9, 10, 16, 24, 25, 0, 0, 1, 1])) := shc_0
  have hr1 := va_runV (C := y.cls) (e := e) (below := below) (meth := meth) (locs := locs) (cells := 600000) (slots := 7302250) (R := room_1) (g := F0 m pc ls st0) (As := as s.heap.size) (rest := st) (b := s.heap.size + 0) (mc := 0) (ms := 0) (n := n) ⟨hx, hb, hml, hown, hts⟩ (con l cy D s.heap.size 65 u ho (by decide) (by decide)) ⟨callB_of n hts (gd_ws Mt.1) rfl hr.1 hr.2.1 (hts _ Mt.2.1) (hts _ hl) Mt.2.2 hr.2.2, hts _ hs, hts _ hse⟩ ⟨Pw_blind, va_recv hK hP (show vwCl[5]? = some (y.cls, TX5, 14) by rw [hcl]; rfl) (wd_at hq), fun U hU hW => ⟨rfl, fun h => (by cases h), by rw [hU]; exact hP, va_K.moved hW.alike hK, NestOk.moved hW hnw, by rw [hU]; exact ((StatOk.kept hS.1 hS.2.1 hsta).moved hW.alike).narrow hAB⟩⟩ rfl (hn _) hlv.1 hst (lv_room hW) d ⟨Nat.le_refl _, Nat.le_refl _⟩
  intro T0 hT XX
  obtain ⟨v, st₀, t, T', LL, h0, X', hLL, e1, e2, ⟨hv, hP1, hz, hk⟩, stp⟩ := hr1 T0 hT XX
  cases hv
  rw [h0] at hz hk
  obtain ⟨t2, a1, b1⟩ := k T'.heap (locs ++ LL) ls (by rw [e1]; exact hP1) (by rw [e1]; exact wd_kept (N := 28) hM (by decide) (Or.inr (by omega)) hk)
    ⟨Nat.le_trans hS.1 (by rw [e1]; exact hz), fun q h1 h2 => by rw [e1, hk q (Nat.lt_of_lt_of_le h1 hS.1) (fun z => h2 (hAB q z))]; exact hS.2.1 q h1 h2, fun q hq => by
      rcases List.mem_append.mp hq with h | h
      · exact hS.2.2 q h
      · exact hAB _ (hLL q h)⟩ hlv T' rfl X'
  exact ⟨t2, stp t2 a1, b1⟩
theorem l_callM (g : LOk X) (con : Con y ccc nLc rtc rmc false SHM (SHM, 0, 0) (fun b => .ref (b + 0) :: as b) M retc sfc oc) (ho : oc = some u) (Mt : Mth y ccc nLc rtc n) (hcl : y.cls = RX6) (hl : Cond.methodLink RL idx y ∈ lw_gd) (hs : Cond.instanceMethod y ∈ lw_gd) (hse : Cond.selects y.cls y y ∈ lw_gd) (hr : rmc.cells = 0 ∧ rmc.slots = 0 ∧ rmc.frames + 1 ≤ 9 ∧ 8 + (nLc + 11) + rmc.locals ≤ 352) (hn : ∀ b, (as b).length = n) (hst : st0 = (as (lB X + 65)).reverse ++ .ref (lB X + 65 + 0) :: st) (hW : (st.map fun v => v.category).sum ≤ 8) (d : decode code pc = .ok (.invokevirtual idx, 3)) (k : Lg X C (sfc u) (pc + 3) lv ((retc (lB X + 65) u).toList ++ st)) : Lg X C M pc lv st0 := by
  obtain ⟨p, l, e, s, m, below, meth, c, cy, D, b, L, xs⟩ := X
  obtain ⟨hx, hb, hrr, hml, hown, hts, hX, hbl, hlk, hK, hnw, hsta, hL⟩ := g
  intro H locs ls hP hM hS hlv
  have hAB : ∀ q, inR (s.heap.size + 65) 28 q → s.heap.size ≤ q := fun q h => Nat.le_trans (Nat.le_add_right _ _) h.1
  have hr1 := va_runV (C := y.cls) (e := e) (below := below) (meth := meth) (locs := locs) (cells := 600000) (slots := 7302250) (R := room_1) (g := F0 m pc ls st0) (As := as (s.heap.size + 65)) (rest := st) (b := s.heap.size + 65 + 0) (mc := 0) (ms := 0) (n := n) ⟨hx, hb, hml, hown, hts⟩ (con l cy D (s.heap.size + 65) 28 u ho (by decide) (by decide)) ⟨callB_of n hts (gd_ws Mt.1) rfl hr.1 hr.2.1 (hts _ Mt.2.1) (hts _ hl) Mt.2.2 hr.2.2, hts _ hs, hts _ hse⟩ ⟨Pw_blind, va_recv hK hM (show vwCl[6]? = some (y.cls, TX6, 51) by rw [hcl]; rfl) (wd_at shm_0), fun U hU hW => ⟨rfl, fun h => (by cases h), by rw [hU]; exact hM, va_K.moved hW.alike hK, NestOk.moved hW hnw, by rw [hU]; exact ((StatOk.kept hS.1 hS.2.1 hsta).moved hW.alike).narrow hAB⟩⟩ rfl (hn _) hlv.1 hst (lv_room hW) d ⟨Nat.le_refl _, Nat.le_refl _⟩
  intro T0 hT XX
  obtain ⟨v, st₀, t, T', LL, h0, X', hLL, e1, e2, ⟨hv, hP1, hz, hk⟩, stp⟩ := hr1 T0 hT XX
  cases hv
  rw [h0] at hz hk
  obtain ⟨t2, a1, b1⟩ := k T'.heap (locs ++ LL) ls (by rw [e1]; exact wd_kept (N := 65) hP (by decide) (Or.inl (by omega)) hk) (by rw [e1]; exact hP1)
    ⟨Nat.le_trans hS.1 (by rw [e1]; exact hz), fun q h1 h2 => by rw [e1, hk q (Nat.lt_of_lt_of_le h1 hS.1) (fun z => h2 (hAB q z))]; exact hS.2.1 q h1 h2, fun q hq => by
      rcases List.mem_append.mp hq with h | h
      · exact hS.2.2 q h
      · exact hAB _ (hLL q h)⟩ hlv T' rfl X'
  exact ⟨t2, stp t2 a1, b1⟩
end LRows
/-! what class and model must agree on, by the kinds of their answers -/
def agWW (Inv : St → St → Prop) (oc om : Option (Int × St)) : Prop := ∃ v C' M', oc = some (v, C') ∧ om = some (v, M') ∧ Inv C' M'
def agPP (Inv : St → St → Prop) (C M : St) (oc om : Option Int) : Prop := ∃ v, oc = some v ∧ om = some v ∧ Inv C M
def agPW (Inv : St → St → Prop) (C : St) (oc : Option Int) (om : Option (Int × St)) : Prop := ∃ v M', oc = some v ∧ om = some (v, M') ∧ Inv C M'
