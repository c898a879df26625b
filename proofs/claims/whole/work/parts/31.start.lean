/-! the law from its entry: what the Statement gives, the two constructors, the loop -/
theorem gd_tbl {w : Cond} (h : w ∈ lw_gd) : w ∈ lw_tbl := (List.mem_filter.mp h).1
theorem nest_tbl {q : String × Nat × MethodName × String} (h : q ∈ lw_nest) : Cond.methodLinkNest q.1 q.2.1 q.2.2.1 q.2.2.2 ∈ lw_tbl := by
  obtain ⟨w, hw, hq⟩ := List.mem_filterMap.mp h
  split at hq
  · cases hq; exact hw
  · cases hq
theorem arr_of {s : State} {args : Array Value} {ty : FieldType} (h : (Cond.arrayClass ty).before args s = true) (hp : ∀ cA, s.vm.findClass ("[" ++ ty.toString) = some cA → va_RA s cA ty) : ∃ cA, ArrOfT s cA ty ∧ va_RA s cA ty := by
  obtain ⟨c, k, comp, h1, h2, h3⟩ := Cond.arrayClass_spec h
  exact ⟨c, fun n z => ⟨(fun q h => by cases h), k, h2, comp, h3⟩, hp c h1⟩
theorem arr_ofR {s : State} {args : Array Value} {C : String} (h : (Cond.arrayOver (.object C)).before args s = true) : ∃ cA, ArrOfT s cA (.object C) ∧ va_RA s cA (.object C) := by
  obtain ⟨comp, c, k, h1, h2, h3, h4, h5⟩ := Cond.arrayOver_spec h
  exact ⟨c, fun n z => ⟨(fun q h => by cases h), k, h3, comp, h4⟩, k, comp, h3, h4, h1, h5⟩
theorem len_small {args : Array Value} {s : State} {t : Term} {v : Value} {a : Nat} {cell : Cell} (hv : (Term.length t).eval args s none [] s = some v) (ht : t.eval args s none [] s = some (.ref a)) (hat : s.arrayAt? a = some cell) : cell.slots.size < 2 ^ 31 := by
  simp only [Term.eval, ht, hat, Option.bind_eq_bind, Option.bind_some] at hv
  by_cases hlt : cell.slots.size < 2147483648
  · exact hlt
  · simp [hlt] at hv
theorem stat_of {s : State} {args : Array Value} {n : String} {f : Nat → Int32} (hl : (Cond.laysStatic RX5 n "[I").before args s = true) (hini : (Cond.initialized RX5).before args s = true) (harr : (Cond.arrayOf (.static RX5 n "[I") .int).before args s = true) (hlen : (Cond.eq (.length (.static RX5 n "[I")) (.int 4)).before args s = true) (hel : ∀ j : Nat, j < 4 → (Cond.eq (.elem (.static RX5 n "[I") (.int (Int32.ofNat j))) (.int (f j))).before args s = true) : Stat1 n f (fun q => s.heap.size ≤ q) s s.heap := by
  have hA : ∀ a : Nat, a < s.heap.size → ¬ (fun q : Nat => s.heap.size ≤ q) a := fun a h h2 => by have : s.heap.size ≤ a := h2; omega
  have hv := va_eqt hlen
  obtain ⟨t, ht, hT⟩ := va_Tof (N := 4) (f := fun j => .int (f j)) (by decide) harr hv (fun j hj => va_eqt (hel j hj)) hA
  obtain ⟨cell, h1, h2, h3, h4, h5, h6, h7⟩ := hT
  have hsz : cell.slots.size < 2 ^ 31 := by
    obtain ⟨t', cell', ht', hat, hv'⟩ := Term.length_spec hv
    cases ht.symm.trans ht'
    obtain ⟨hcell, -, -, -⟩ := State.arrayAt?_spec hat
    cases h1.symm.trans hcell
    exact len_small hv ht hat
  have hs4 : cell.slots.size = 4 := by
    have e1 : (nI cell.slots.size).toInt = (nI 4).toInt := congrArg Int32.toInt h5
    rw [nI_toInt hsz, nI_toInt (by decide)] at e1
    omega
  exact ⟨t, va_Zof hl hini ht hA, ⟨cell, h1, h2, h3, hs4, h6⟩, (Array.getElem?_eq_some_iff.mp h1).1, h7⟩
set_option maxRecDepth 20000 in
theorem start_ok {p : Program} {l : Launch} {e : Env} {s : State} {m : MethodId} {below : List Frame} {meth : Method} {c : Code} {b L : Nat} {xs : Nat → Int32} (hL : L ≤ 3072) (C0 : lw_At p s m meth c b L xs) : ∃ (cy : Nat → ClassId) (D : va_G), LOk (p, l, e, s, m, below, meth, c, cy, D, b, L, xs) := by
  obtain ⟨hx, hb, hr, hml, hown, hts, hX, hbl, hlocks, hgv⟩ := C0
  have hg := flat_of_before _ hgv
  have htg : ∀ w ∈ lw_gd, w.before #[Value.ref b] s = true := fun w hw => hts w (gd_tbl hw)
  obtain ⟨a0, ha0⟩ := arr_of (ty := .int) (hts _ (by decide +kernel)) (fun _ h => h)
  obtain ⟨a1, ha1⟩ := arr_of (ty := .long) (hts _ (by decide +kernel)) (fun _ h => h)
  obtain ⟨a2, ha2⟩ := arr_of (ty := .byte) (hts _ (by decide +kernel)) (fun _ h => h)
  obtain ⟨a3, ha3⟩ := arr_of (ty := .boolean) (hts _ (by decide +kernel)) (fun _ h => h)
  have o1 : (Cond.arrayOver (.object RX1)).before #[Value.ref b] s = true := hts _ (by decide +kernel)
  have o2 : (Cond.arrayOver (.object RX2)).before #[Value.ref b] s = true := hts _ (by decide +kernel)
  have o3 : (Cond.arrayOver (.object RX3)).before #[Value.ref b] s = true := hts _ (by decide +kernel)
  obtain ⟨a4, ha4⟩ := arr_ofR o1
  obtain ⟨a5, ha5⟩ := arr_ofR o3
  obtain ⟨a6, ha6⟩ := arr_ofR o2
  obtain ⟨c0, i0, k0⟩ := u_known (C := RX0) (T := TX0) (N := 3) (n := 3) htg gwX0 (hts _ (by decide +kernel))
  obtain ⟨c1, i1, k1⟩ := u_known (C := RX1) (T := TX1) (N := 2) (n := 2) htg gwX1 (hts _ (by decide +kernel))
  obtain ⟨c2, i2, k2⟩ := u_known (C := RX2) (T := TX2) (N := 7) (n := 7) htg gwX2 (hts _ (by decide +kernel))
  obtain ⟨c3, i3, k3⟩ := u_known (C := RX3) (T := TX3) (N := 7) (n := 7) htg gwX3 (hts _ (by decide +kernel))
  obtain ⟨c4, i4, k4⟩ := u_known (C := RX4) (T := TX4) (N := 12) (n := 12) htg gwX4 (hts _ (by decide +kernel))
  obtain ⟨c5, i5, k5⟩ := u_known (C := RX5) (T := TX5) (N := 14) (n := 14) htg gwX5 (hts _ (by decide +kernel))
  obtain ⟨c6, i6, k6⟩ := u_known (C := RX6) (T := TX6) (N := 51) (n := 51) htg gwX6 (hts _ (by decide +kernel))
  refine ⟨fun k => if k = 0 then a0 else if k = 1 then a1 else if k = 2 then a2 else if k = 3 then a3 else if k = 4 then a4 else if k = 5 then a5 else a6, (fun k => if k = 0 then c0 else if k = 1 then c1 else if k = 2 then c2 else if k = 3 then c3 else if k = 4 then c4 else if k = 5 then c5 else c6, fun k => if k = 0 then i0 else if k = 1 then i1 else if k = 2 then i2 else if k = 3 then i3 else if k = 4 then i4 else if k = 5 then i5 else i6), hx, hb, hr, hml, hown, htg, hX, hbl, hlocks, ⟨?_, ?_⟩, ⟨fun q hq => va_Nw.of rfl (hts _ (nest_tbl hq)), o1, o2, o3⟩, ⟨?_, ?_⟩, hL⟩
  · intro k q hq
    match k, hq with
    | 0, hq => cases hq; exact k0
    | 1, hq => cases hq; exact k1
    | 2, hq => cases hq; exact k2
    | 3, hq => cases hq; exact k3
    | 4, hq => cases hq; exact k4
    | 5, hq => cases hq; exact k5
    | 6, hq => cases hq; exact k6
    | k + 7, hq => simp [vwCl] at hq
  · intro k q hq
    match k, hq with
    | 0, hq => cases hq; exact ha0
    | 1, hq => cases hq; exact ha1
    | 2, hq => cases hq; exact ha2
    | 3, hq => cases hq; exact ha3
    | 4, hq => cases hq; exact ha4
    | 5, hq => cases hq; exact ha5
    | 6, hq => cases hq; exact ha6
    | k + 7, hq => simp [tysOf] at hq
  · refine stat_of (hts _ (by decide +kernel)) (hts _ (by decide +kernel)) (hg _ (by decide +kernel)) (hg _ (by decide +kernel)) (fun j hj => ?_)
    rcases (show j = 0 ∨ j = 1 ∨ j = 2 ∨ j = 3 by omega) with rfl | rfl | rfl | rfl
    · exact hg _ (by decide +kernel)
    · exact hg _ (by decide +kernel)
    · exact hg _ (by decide +kernel)
    · exact hg _ (by decide +kernel)
  · refine stat_of (hts _ (by decide +kernel)) (hts _ (by decide +kernel)) (hg _ (by decide +kernel)) (hg _ (by decide +kernel)) (fun j hj => ?_)
    rcases (show j = 0 ∨ j = 1 ∨ j = 2 ∨ j = 3 by omega) with rfl | rfl | rfl | rfl
    · exact hg _ (by decide +kernel)
    · exact hg _ (by decide +kernel)
    · exact hg _ (by decide +kernel)
    · exact hg _ (by decide +kernel)
/-- a constructor of the law's: the world that comes behind it -/
theorem l_new {p : Program} {l : Launch} {e : Env} {s : State} {m : MethodId} {below : List Frame} {meth : Method} {c : Code} {cy : Nat → ClassId} {D : va_G} {b L : Nat} {xs : Nat → Int32} {H : Heap} {locs : List Loc} {kc ks : Nat} {Q : State → Prop} {pc : Nat} {ls : Array Slot} {st : List Value} {ci idx idx2 n nLc : Nat} {Cn : String} {T : u_T} {ty : Nat → FieldType} {fk : List Nat} {y : MethodName} {ccc : ByteArray} {rmc : Room} {F : Cf} {sh1 : List Sh} {S2 : St} (off N2 : Nat)
    (g : LOk (p, l, e, s, m, below, meth, c, cy, D, b, L, xs)) (K : KC ci Cn T n ty) (hok : ∀ j, j < n → okT (ty j) = true) (hfk : fk = (List.range n).map (fun j => kOf (ty j))) (hsh : [.inl (ci, fk)] = sh1) {S00 : St} (hz : ∀ q j, S00 q j = 0) (con : Con y ccc nLc none rmc true sh1 F (fun b => [.ref (b + 0)]) S00 (fun _ => oVS) id (some S2)) (Mt : Mth y ccc nLc none 0) (hy : y.name = "<init>") (hcl : Cond.classLink RL idx Cn ∈ lw_gd) (hins : Cond.instantiable Cn n ∈ lw_gd) (hini : Cond.initialized Cn ∈ lw_gd) (hl2 : Cond.methodLink RL idx2 y ∈ lw_gd) (hin2 : Cond.instanceMethod y ∈ lw_gd) (hr : rmc.cells = F.2.1 ∧ rmc.slots = F.2.2 ∧ rmc.frames + 1 ≤ 9 ∧ 8 + (nLc + 11) + rmc.locals ≤ 352) (hcs : kc + 1 + F.2.1 ≤ 600000 ∧ ks + n + F.2.2 ≤ 7302250) (hF : F.1.length = N2) (hF1 : F.2.1 + 1 = N2)
    (hsz : H.size = s.heap.size + off) (hS : va_S (fun q => s.heap.size ≤ q) s.heap H locs) (hls : ls.size = 4) (hst : (st.map fun v => v.category).sum ≤ 7) (d1 : decode code pc = .ok (.new idx, 3)) (d2 : decode code (pc + 3) = .ok (.dup, 1)) (d3 : decode code (pc + 4) = .ok (.invokespecial idx2, 3))
    (kk : ∀ (H1 : Heap) (locs1 : List Loc), va_P D vwCl (wd cy (s.heap.size + off) F.1 S2) H1 → (∀ q : Nat, q < H.size → H1[q]? = H[q]?) → va_S (fun q => s.heap.size ≤ q) s.heap H1 locs1 → W p l e room_1 s m #[Value.ref b] below meth c H1 locs1 (kc + 1 + F.2.1) (ks + n + F.2.2) Q (F0 m (pc + 7) ls (.ref (s.heap.size + off + 0) :: st))) : W p l e room_1 s m #[Value.ref b] below meth c H locs kc ks Q (F0 m pc ls st) := by
  obtain ⟨hx, hb, hrr, hml, hown, hts, hX, hbl, hlk, hK, hnw, hsta, hL⟩ := g
  have hKn := hK.1 ci _ K.1
  refine W.newcK hx hb hown (hts _ hcl) (hts _ hins) (hts _ hini) rfl d1 (by show kc + 1 ≤ 600000; omega) (by show ks + n ≤ 7302250; omega) hKn.2.1 hsz (fun H1 kC hkC c1 z1 o1 => ?_)
  have hP1 : va_P D vwCl (wd cy (s.heap.size + off) sh1 S00) H1 := by
    rw [← hsh]
    intro k q hq
    have hz2 : k < 1 := by
      have := (List.getElem?_eq_some_iff.mp hq).1
      simpa [wd, wdA] using this
    rw [show k = 0 by omega] at hq
    cases hq
    exact ⟨_, K.1, (u_born ty hts K.2.1 hKn hkC c1 K.2.2.1).to (fldL_dflt (fun j => hz _ j) hok hfk)⟩
  have hS1 : va_S (fun q => s.heap.size ≤ q) s.heap H1 locs := ⟨by have := hS.1; omega, fun x h1 h2 => (o1 x (by have := hS.1; omega)).trans (hS.2.1 x h1 h2), hS.2.2⟩
  refine lv_dup hx hb d2 rfl ?_
  have hAB : ∀ q, inR (s.heap.size + off) N2 q → s.heap.size ≤ q := fun q h => Nat.le_trans (Nat.le_add_right _ _) h.1
  have hlen1 : sh1.length = 1 := by rw [← hsh]; rfl
  have hr1 := va_runI (e := e) (below := below) (meth := meth) (locs := locs) (cells := kc + 1) (slots := ks + n) (R := room_1) (g := F0 m (pc + 4) ls (.ref (s.heap.size + off) :: .ref (s.heap.size + off) :: st)) (As := []) (rest := .ref (s.heap.size + off) :: st) (b := s.heap.size + off + 0) (mc := F.2.1) (ms := F.2.2) (n := 0) ⟨hx, hb, hml, hown, hts⟩ (con l cy D (s.heap.size + off) N2 S2 rfl (by omega) (by omega)) (cwI 0 hts (gd_ws Mt.1) rfl hr.1 hr.2.1 (hts _ Mt.2.1) (hts _ hl2) (hts _ hin2) hy Mt.2.2 hr.2.2) (H := H1) ⟨Pw_blind, fun U hU hW => ⟨rfl, fun _ => by rw [hU, z1, hlen1], by rw [hU]; exact hP1, va_K.moved hW.alike hK, NestOk.moved hW hnw, by rw [hU]; exact ((StatOk.kept hS1.1 hS1.2.1 hsta).moved hW.alike).narrow hAB⟩⟩ rfl rfl hls rfl (lv_room (by show 1 + (st.map fun v => v.category).sum ≤ 8; omega)) d3 ⟨hcs.1, hcs.2⟩
  intro T0 hT XX
  obtain ⟨v, st₀, t, T', LL, h0, X', hLL, e1, e2, ⟨hv, hP2, hz3, hk⟩, stp⟩ := hr1 T0 hT XX
  cases hv
  rw [h0] at hz3 hk
  obtain ⟨t2, a1, b1⟩ := kk T'.heap (locs ++ LL) (by rw [e1]; exact hP2) (fun q hq => by rw [e1, hk q (by omega) (fun h => by have : s.heap.size + off ≤ q := h.1; omega)]; exact o1 q (by omega))
    ⟨Nat.le_trans hS1.1 (by rw [e1]; exact hz3), fun q h1 h2 => by rw [e1, hk q (Nat.lt_of_lt_of_le h1 hS1.1) (fun z => h2 (hAB q z))]; exact hS1.2.1 q h1 h2, fun q hq => by
      rcases List.mem_append.mp hq with h | h
      · exact hS1.2.2 q h
      · exact hAB _ (hLL q h)⟩ T' rfl X'
  exact ⟨t2, stp t2 a1, b1⟩
