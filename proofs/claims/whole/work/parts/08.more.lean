/-! calls by the kind of their answer; loops; what is rare -/
def bnd {ρ : Type} (o : Option (Int × St)) (f : Int → St → Option ρ) : Option ρ := o.bind (fun u => f u.1 u.2)
def chk {ρ : Type} (P : Nat → Bool) (r : Nat) (k : Option ρ) : Option ρ := if P r = true then k else none
def lo1 {A1 ρ : Type} (B : (A1 → Option ρ) → A1 → Option ρ) : Nat → A1 → Option ρ
  | 0, _ => none
  | n + 1, a1 => B (lo1 B n) a1
def lo2 {A1 A2 ρ : Type} (B : (A1 → A2 → Option ρ) → A1 → A2 → Option ρ) : Nat → A1 → A2 → Option ρ
  | 0, _, _ => none
  | n + 1, a1, a2 => B (lo2 B n) a1 a2
def lo3 {A1 A2 A3 ρ : Type} (B : (A1 → A2 → A3 → Option ρ) → A1 → A2 → A3 → Option ρ) : Nat → A1 → A2 → A3 → Option ρ
  | 0, _, _, _ => none
  | n + 1, a1, a2, a3 => B (lo3 B n) a1 a2 a3
def lo4 {A1 A2 A3 A4 ρ : Type} (B : (A1 → A2 → A3 → A4 → Option ρ) → A1 → A2 → A3 → A4 → Option ρ) : Nat → A1 → A2 → A3 → A4 → Option ρ
  | 0, _, _, _, _ => none
  | n + 1, a1, a2, a3, a4 => B (lo4 B n) a1 a2 a3 a4
def lo5 {A1 A2 A3 A4 A5 ρ : Type} (B : (A1 → A2 → A3 → A4 → A5 → Option ρ) → A1 → A2 → A3 → A4 → A5 → Option ρ) : Nat → A1 → A2 → A3 → A4 → A5 → Option ρ
  | 0, _, _, _, _, _ => none
  | n + 1, a1, a2, a3, a4, a5 => B (lo5 B n) a1 a2 a3 a4 a5
def lo6 {A1 A2 A3 A4 A5 A6 ρ : Type} (B : (A1 → A2 → A3 → A4 → A5 → A6 → Option ρ) → A1 → A2 → A3 → A4 → A5 → A6 → Option ρ) : Nat → A1 → A2 → A3 → A4 → A5 → A6 → Option ρ
  | 0, _, _, _, _, _, _ => none
  | n + 1, a1, a2, a3, a4, a5, a6 => B (lo6 B n) a1 a2 a3 a4 a5 a6
def lo7 {A1 A2 A3 A4 A5 A6 A7 ρ : Type} (B : (A1 → A2 → A3 → A4 → A5 → A6 → A7 → Option ρ) → A1 → A2 → A3 → A4 → A5 → A6 → A7 → Option ρ) : Nat → A1 → A2 → A3 → A4 → A5 → A6 → A7 → Option ρ
  | 0, _, _, _, _, _, _, _ => none
  | n + 1, a1, a2, a3, a4, a5, a6, a7 => B (lo7 B n) a1 a2 a3 a4 a5 a6 a7
def lo8 {A1 A2 A3 A4 A5 A6 A7 A8 ρ : Type} (B : (A1 → A2 → A3 → A4 → A5 → A6 → A7 → A8 → Option ρ) → A1 → A2 → A3 → A4 → A5 → A6 → A7 → A8 → Option ρ) : Nat → A1 → A2 → A3 → A4 → A5 → A6 → A7 → A8 → Option ρ
  | 0, _, _, _, _, _, _, _, _ => none
  | n + 1, a1, a2, a3, a4, a5, a6, a7, a8 => B (lo8 B n) a1 a2 a3 a4 a5 a6 a7 a8
section More
variable {G : Gx} {cc : ByteArray} {own : String} {nL : Nat} {rm : Room} {rt : Option FieldType} {ρ : Type} {ret : ρ → Option Value} {sf : ρ → St} {F : Cf} {C : Cf} {sh : List Sh} {S : St} {pc : Nat} {lv : List (Option Value)} {st st0 : List Value} {o : Option ρ}
variable {y : MethodName} {ccc : ByteArray} {nLc : Nat} {rtc : Option FieldType} {rmc : Room} {av : Nat → List Value} {idx n : Nat}
theorem r_chk {P : Nat → Bool} {r : Nat} (k : P r = true → Rg G ret sf F C S pc lv st o) : Rg G ret sf F C S pc lv st (chk P r o) := by
  unfold chk
  by_cases h : P r = true
  · rw [if_pos h]; exact k h
  · rw [if_neg h]; exact r_none
theorem r_callS_PI {oc : Option Int} {f : Int → Option ρ} (g : Ok G cc own nL rm rt) (con : Con y ccc nLc rtc rmc false sh (sh, 0, 0) av S (fun _ => oI) (fun _ => S) oc) (M : Mth y ccc nLc rtc n) (hl : Cond.methodLink own idx y ∈ lw_gd) (hs : Cond.static y ∈ lw_gd) (hr : rmc.cells = 0 ∧ rmc.slots = 0 ∧ rmc.frames + 1 ≤ rm.frames ∧ 8 + (nLc + 11) + rmc.locals ≤ rm.locals) (hn : ∀ b, (av b).length = n) (hst : st0 = (av (gb G)).reverse ++ st) (hW : (st.map fun v => v.category).sum ≤ 8) (d : decode cc pc = .ok (.invokestatic idx, 3)) (k : ∀ z, Rg G ret sf F (sh, 0, 0) S (pc + 3) lv (vi z :: st) (f z)) : Rg G ret sf F (sh, 0, 0) S pc lv st0 (oc.bind f) := r_callS g con M hl hs hr hn hst hW d (fun u => k u)
theorem r_callSN_PI {host : String} {oc : Option Int} {f : Int → Option ρ} (g : Ok G cc own nL rm rt) (con : Con y ccc nLc rtc rmc false sh (sh, 0, 0) av S (fun _ => oI) (fun _ => S) oc) (M : Mth y ccc nLc rtc n) (hl : (own, idx, y, host) ∈ lw_nest) (hs : Cond.static y ∈ lw_gd) (hr : rmc.cells = 0 ∧ rmc.slots = 0 ∧ rmc.frames + 1 ≤ rm.frames ∧ 8 + (nLc + 11) + rmc.locals ≤ rm.locals) (hn : ∀ b, (av b).length = n) (hst : st0 = (av (gb G)).reverse ++ st) (hW : (st.map fun v => v.category).sum ≤ 8) (d : decode cc pc = .ok (.invokestatic idx, 3)) (k : ∀ z, Rg G ret sf F (sh, 0, 0) S (pc + 3) lv (vi z :: st) (f z)) : Rg G ret sf F (sh, 0, 0) S pc lv st0 (oc.bind f) := r_callSN g con M hl hs hr hn hst hW d (fun u => k u)
theorem r_callV_PI {q ci : Nat} {fk : List Nat} {T : u_T} {nf : Nat} {as : Nat → List Value} {oc : Option Int} {f : Int → Option ρ} (g : Ok G cc own nL rm rt) (con : Con y ccc nLc rtc rmc false sh (sh, 0, 0) (fun b => .ref (b + q) :: as b) S (fun _ => oI) (fun _ => S) oc) (M : Mth y ccc nLc rtc n) (hq : sh[q]? = some (.inl (ci, fk))) (hc : vwCl[ci]? = some (y.cls, T, nf)) (hl : Cond.methodLink own idx y ∈ lw_gd) (hs : Cond.instanceMethod y ∈ lw_gd) (hse : Cond.selects y.cls y y ∈ lw_gd) (hr : rmc.cells = 0 ∧ rmc.slots = 0 ∧ rmc.frames + 1 ≤ rm.frames ∧ 8 + (nLc + 11) + rmc.locals ≤ rm.locals) (hn : ∀ b, (as b).length = n) (hst : st0 = (as (gb G)).reverse ++ vr G q :: st) (hW : (st.map fun v => v.category).sum ≤ 8) (d : decode cc pc = .ok (.invokevirtual idx, 3)) (k : ∀ z, Rg G ret sf F (sh, 0, 0) S (pc + 3) lv (vi z :: st) (f z)) : Rg G ret sf F (sh, 0, 0) S pc lv st0 (oc.bind f) := r_callV g con M hq hc hl hs hse hr hn hst hW d (fun u => k u)
theorem r_callS_PL {oc : Option Int} {f : Int → Option ρ} (g : Ok G cc own nL rm rt) (con : Con y ccc nLc rtc rmc false sh (sh, 0, 0) av S (fun _ => oL) (fun _ => S) oc) (M : Mth y ccc nLc rtc n) (hl : Cond.methodLink own idx y ∈ lw_gd) (hs : Cond.static y ∈ lw_gd) (hr : rmc.cells = 0 ∧ rmc.slots = 0 ∧ rmc.frames + 1 ≤ rm.frames ∧ 8 + (nLc + 11) + rmc.locals ≤ rm.locals) (hn : ∀ b, (av b).length = n) (hst : st0 = (av (gb G)).reverse ++ st) (hW : (st.map fun v => v.category).sum ≤ 8) (d : decode cc pc = .ok (.invokestatic idx, 3)) (k : ∀ z, Rg G ret sf F (sh, 0, 0) S (pc + 3) lv (vl z :: st) (f z)) : Rg G ret sf F (sh, 0, 0) S pc lv st0 (oc.bind f) := r_callS g con M hl hs hr hn hst hW d (fun u => k u)
theorem r_callSN_PL {host : String} {oc : Option Int} {f : Int → Option ρ} (g : Ok G cc own nL rm rt) (con : Con y ccc nLc rtc rmc false sh (sh, 0, 0) av S (fun _ => oL) (fun _ => S) oc) (M : Mth y ccc nLc rtc n) (hl : (own, idx, y, host) ∈ lw_nest) (hs : Cond.static y ∈ lw_gd) (hr : rmc.cells = 0 ∧ rmc.slots = 0 ∧ rmc.frames + 1 ≤ rm.frames ∧ 8 + (nLc + 11) + rmc.locals ≤ rm.locals) (hn : ∀ b, (av b).length = n) (hst : st0 = (av (gb G)).reverse ++ st) (hW : (st.map fun v => v.category).sum ≤ 8) (d : decode cc pc = .ok (.invokestatic idx, 3)) (k : ∀ z, Rg G ret sf F (sh, 0, 0) S (pc + 3) lv (vl z :: st) (f z)) : Rg G ret sf F (sh, 0, 0) S pc lv st0 (oc.bind f) := r_callSN g con M hl hs hr hn hst hW d (fun u => k u)
theorem r_callV_PL {q ci : Nat} {fk : List Nat} {T : u_T} {nf : Nat} {as : Nat → List Value} {oc : Option Int} {f : Int → Option ρ} (g : Ok G cc own nL rm rt) (con : Con y ccc nLc rtc rmc false sh (sh, 0, 0) (fun b => .ref (b + q) :: as b) S (fun _ => oL) (fun _ => S) oc) (M : Mth y ccc nLc rtc n) (hq : sh[q]? = some (.inl (ci, fk))) (hc : vwCl[ci]? = some (y.cls, T, nf)) (hl : Cond.methodLink own idx y ∈ lw_gd) (hs : Cond.instanceMethod y ∈ lw_gd) (hse : Cond.selects y.cls y y ∈ lw_gd) (hr : rmc.cells = 0 ∧ rmc.slots = 0 ∧ rmc.frames + 1 ≤ rm.frames ∧ 8 + (nLc + 11) + rmc.locals ≤ rm.locals) (hn : ∀ b, (as b).length = n) (hst : st0 = (as (gb G)).reverse ++ vr G q :: st) (hW : (st.map fun v => v.category).sum ≤ 8) (d : decode cc pc = .ok (.invokevirtual idx, 3)) (k : ∀ z, Rg G ret sf F (sh, 0, 0) S (pc + 3) lv (vl z :: st) (f z)) : Rg G ret sf F (sh, 0, 0) S pc lv st0 (oc.bind f) := r_callV g con M hq hc hl hs hse hr hn hst hW d (fun u => k u)
theorem r_callS_PR {oc : Option Nat} {f : Nat → Option ρ} (g : Ok G cc own nL rm rt) (con : Con y ccc nLc rtc rmc false sh (sh, 0, 0) av S (fun b r => some (.ref (b + r))) (fun _ => S) oc) (M : Mth y ccc nLc rtc n) (hl : Cond.methodLink own idx y ∈ lw_gd) (hs : Cond.static y ∈ lw_gd) (hr : rmc.cells = 0 ∧ rmc.slots = 0 ∧ rmc.frames + 1 ≤ rm.frames ∧ 8 + (nLc + 11) + rmc.locals ≤ rm.locals) (hn : ∀ b, (av b).length = n) (hst : st0 = (av (gb G)).reverse ++ st) (hW : (st.map fun v => v.category).sum ≤ 8) (d : decode cc pc = .ok (.invokestatic idx, 3)) (k : ∀ z, Rg G ret sf F (sh, 0, 0) S (pc + 3) lv (vr G z :: st) (f z)) : Rg G ret sf F (sh, 0, 0) S pc lv st0 (oc.bind f) := r_callS g con M hl hs hr hn hst hW d (fun u => k u)
theorem r_callSN_PR {host : String} {oc : Option Nat} {f : Nat → Option ρ} (g : Ok G cc own nL rm rt) (con : Con y ccc nLc rtc rmc false sh (sh, 0, 0) av S (fun b r => some (.ref (b + r))) (fun _ => S) oc) (M : Mth y ccc nLc rtc n) (hl : (own, idx, y, host) ∈ lw_nest) (hs : Cond.static y ∈ lw_gd) (hr : rmc.cells = 0 ∧ rmc.slots = 0 ∧ rmc.frames + 1 ≤ rm.frames ∧ 8 + (nLc + 11) + rmc.locals ≤ rm.locals) (hn : ∀ b, (av b).length = n) (hst : st0 = (av (gb G)).reverse ++ st) (hW : (st.map fun v => v.category).sum ≤ 8) (d : decode cc pc = .ok (.invokestatic idx, 3)) (k : ∀ z, Rg G ret sf F (sh, 0, 0) S (pc + 3) lv (vr G z :: st) (f z)) : Rg G ret sf F (sh, 0, 0) S pc lv st0 (oc.bind f) := r_callSN g con M hl hs hr hn hst hW d (fun u => k u)
theorem r_callV_PR {q ci : Nat} {fk : List Nat} {T : u_T} {nf : Nat} {as : Nat → List Value} {oc : Option Nat} {f : Nat → Option ρ} (g : Ok G cc own nL rm rt) (con : Con y ccc nLc rtc rmc false sh (sh, 0, 0) (fun b => .ref (b + q) :: as b) S (fun b r => some (.ref (b + r))) (fun _ => S) oc) (M : Mth y ccc nLc rtc n) (hq : sh[q]? = some (.inl (ci, fk))) (hc : vwCl[ci]? = some (y.cls, T, nf)) (hl : Cond.methodLink own idx y ∈ lw_gd) (hs : Cond.instanceMethod y ∈ lw_gd) (hse : Cond.selects y.cls y y ∈ lw_gd) (hr : rmc.cells = 0 ∧ rmc.slots = 0 ∧ rmc.frames + 1 ≤ rm.frames ∧ 8 + (nLc + 11) + rmc.locals ≤ rm.locals) (hn : ∀ b, (as b).length = n) (hst : st0 = (as (gb G)).reverse ++ vr G q :: st) (hW : (st.map fun v => v.category).sum ≤ 8) (d : decode cc pc = .ok (.invokevirtual idx, 3)) (k : ∀ z, Rg G ret sf F (sh, 0, 0) S (pc + 3) lv (vr G z :: st) (f z)) : Rg G ret sf F (sh, 0, 0) S pc lv st0 (oc.bind f) := r_callV g con M hq hc hl hs hse hr hn hst hW d (fun u => k u)
theorem r_callS_WI {oc : Option (Int × St)} {f : Int → St → Option ρ} (g : Ok G cc own nL rm rt) (con : Con y ccc nLc rtc rmc false sh (sh, 0, 0) av S (fun _ => oIS) (fun v => v.2) oc) (M : Mth y ccc nLc rtc n) (hl : Cond.methodLink own idx y ∈ lw_gd) (hs : Cond.static y ∈ lw_gd) (hr : rmc.cells = 0 ∧ rmc.slots = 0 ∧ rmc.frames + 1 ≤ rm.frames ∧ 8 + (nLc + 11) + rmc.locals ≤ rm.locals) (hn : ∀ b, (av b).length = n) (hst : st0 = (av (gb G)).reverse ++ st) (hW : (st.map fun v => v.category).sum ≤ 8) (d : decode cc pc = .ok (.invokestatic idx, 3)) (k : ∀ z S1, Rg G ret sf F (sh, 0, 0) S1 (pc + 3) lv (vi z :: st) (f z S1)) : Rg G ret sf F (sh, 0, 0) S pc lv st0 (bnd oc f) := r_callS g con M hl hs hr hn hst hW d (fun u => k u.1 u.2)
theorem r_callSN_WI {host : String} {oc : Option (Int × St)} {f : Int → St → Option ρ} (g : Ok G cc own nL rm rt) (con : Con y ccc nLc rtc rmc false sh (sh, 0, 0) av S (fun _ => oIS) (fun v => v.2) oc) (M : Mth y ccc nLc rtc n) (hl : (own, idx, y, host) ∈ lw_nest) (hs : Cond.static y ∈ lw_gd) (hr : rmc.cells = 0 ∧ rmc.slots = 0 ∧ rmc.frames + 1 ≤ rm.frames ∧ 8 + (nLc + 11) + rmc.locals ≤ rm.locals) (hn : ∀ b, (av b).length = n) (hst : st0 = (av (gb G)).reverse ++ st) (hW : (st.map fun v => v.category).sum ≤ 8) (d : decode cc pc = .ok (.invokestatic idx, 3)) (k : ∀ z S1, Rg G ret sf F (sh, 0, 0) S1 (pc + 3) lv (vi z :: st) (f z S1)) : Rg G ret sf F (sh, 0, 0) S pc lv st0 (bnd oc f) := r_callSN g con M hl hs hr hn hst hW d (fun u => k u.1 u.2)
theorem r_callV_WI {q ci : Nat} {fk : List Nat} {T : u_T} {nf : Nat} {as : Nat → List Value} {oc : Option (Int × St)} {f : Int → St → Option ρ} (g : Ok G cc own nL rm rt) (con : Con y ccc nLc rtc rmc false sh (sh, 0, 0) (fun b => .ref (b + q) :: as b) S (fun _ => oIS) (fun v => v.2) oc) (M : Mth y ccc nLc rtc n) (hq : sh[q]? = some (.inl (ci, fk))) (hc : vwCl[ci]? = some (y.cls, T, nf)) (hl : Cond.methodLink own idx y ∈ lw_gd) (hs : Cond.instanceMethod y ∈ lw_gd) (hse : Cond.selects y.cls y y ∈ lw_gd) (hr : rmc.cells = 0 ∧ rmc.slots = 0 ∧ rmc.frames + 1 ≤ rm.frames ∧ 8 + (nLc + 11) + rmc.locals ≤ rm.locals) (hn : ∀ b, (as b).length = n) (hst : st0 = (as (gb G)).reverse ++ vr G q :: st) (hW : (st.map fun v => v.category).sum ≤ 8) (d : decode cc pc = .ok (.invokevirtual idx, 3)) (k : ∀ z S1, Rg G ret sf F (sh, 0, 0) S1 (pc + 3) lv (vi z :: st) (f z S1)) : Rg G ret sf F (sh, 0, 0) S pc lv st0 (bnd oc f) := r_callV g con M hq hc hl hs hse hr hn hst hW d (fun u => k u.1 u.2)
theorem r_callS_WL {oc : Option (Int × St)} {f : Int → St → Option ρ} (g : Ok G cc own nL rm rt) (con : Con y ccc nLc rtc rmc false sh (sh, 0, 0) av S (fun _ => oLS) (fun v => v.2) oc) (M : Mth y ccc nLc rtc n) (hl : Cond.methodLink own idx y ∈ lw_gd) (hs : Cond.static y ∈ lw_gd) (hr : rmc.cells = 0 ∧ rmc.slots = 0 ∧ rmc.frames + 1 ≤ rm.frames ∧ 8 + (nLc + 11) + rmc.locals ≤ rm.locals) (hn : ∀ b, (av b).length = n) (hst : st0 = (av (gb G)).reverse ++ st) (hW : (st.map fun v => v.category).sum ≤ 8) (d : decode cc pc = .ok (.invokestatic idx, 3)) (k : ∀ z S1, Rg G ret sf F (sh, 0, 0) S1 (pc + 3) lv (vl z :: st) (f z S1)) : Rg G ret sf F (sh, 0, 0) S pc lv st0 (bnd oc f) := r_callS g con M hl hs hr hn hst hW d (fun u => k u.1 u.2)
theorem r_callSN_WL {host : String} {oc : Option (Int × St)} {f : Int → St → Option ρ} (g : Ok G cc own nL rm rt) (con : Con y ccc nLc rtc rmc false sh (sh, 0, 0) av S (fun _ => oLS) (fun v => v.2) oc) (M : Mth y ccc nLc rtc n) (hl : (own, idx, y, host) ∈ lw_nest) (hs : Cond.static y ∈ lw_gd) (hr : rmc.cells = 0 ∧ rmc.slots = 0 ∧ rmc.frames + 1 ≤ rm.frames ∧ 8 + (nLc + 11) + rmc.locals ≤ rm.locals) (hn : ∀ b, (av b).length = n) (hst : st0 = (av (gb G)).reverse ++ st) (hW : (st.map fun v => v.category).sum ≤ 8) (d : decode cc pc = .ok (.invokestatic idx, 3)) (k : ∀ z S1, Rg G ret sf F (sh, 0, 0) S1 (pc + 3) lv (vl z :: st) (f z S1)) : Rg G ret sf F (sh, 0, 0) S pc lv st0 (bnd oc f) := r_callSN g con M hl hs hr hn hst hW d (fun u => k u.1 u.2)
theorem r_callV_WL {q ci : Nat} {fk : List Nat} {T : u_T} {nf : Nat} {as : Nat → List Value} {oc : Option (Int × St)} {f : Int → St → Option ρ} (g : Ok G cc own nL rm rt) (con : Con y ccc nLc rtc rmc false sh (sh, 0, 0) (fun b => .ref (b + q) :: as b) S (fun _ => oLS) (fun v => v.2) oc) (M : Mth y ccc nLc rtc n) (hq : sh[q]? = some (.inl (ci, fk))) (hc : vwCl[ci]? = some (y.cls, T, nf)) (hl : Cond.methodLink own idx y ∈ lw_gd) (hs : Cond.instanceMethod y ∈ lw_gd) (hse : Cond.selects y.cls y y ∈ lw_gd) (hr : rmc.cells = 0 ∧ rmc.slots = 0 ∧ rmc.frames + 1 ≤ rm.frames ∧ 8 + (nLc + 11) + rmc.locals ≤ rm.locals) (hn : ∀ b, (as b).length = n) (hst : st0 = (as (gb G)).reverse ++ vr G q :: st) (hW : (st.map fun v => v.category).sum ≤ 8) (d : decode cc pc = .ok (.invokevirtual idx, 3)) (k : ∀ z S1, Rg G ret sf F (sh, 0, 0) S1 (pc + 3) lv (vl z :: st) (f z S1)) : Rg G ret sf F (sh, 0, 0) S pc lv st0 (bnd oc f) := r_callV g con M hq hc hl hs hse hr hn hst hW d (fun u => k u.1 u.2)
theorem r_callS_WV {oc : Option St} {f : St → Option ρ} (g : Ok G cc own nL rm rt) (con : Con y ccc nLc rtc rmc false sh (sh, 0, 0) av S (fun _ => oVS) id oc) (M : Mth y ccc nLc rtc n) (hl : Cond.methodLink own idx y ∈ lw_gd) (hs : Cond.static y ∈ lw_gd) (hr : rmc.cells = 0 ∧ rmc.slots = 0 ∧ rmc.frames + 1 ≤ rm.frames ∧ 8 + (nLc + 11) + rmc.locals ≤ rm.locals) (hn : ∀ b, (av b).length = n) (hst : st0 = (av (gb G)).reverse ++ st) (hW : (st.map fun v => v.category).sum ≤ 8) (d : decode cc pc = .ok (.invokestatic idx, 3)) (k : ∀ S1, Rg G ret sf F (sh, 0, 0) S1 (pc + 3) lv st (f S1)) : Rg G ret sf F (sh, 0, 0) S pc lv st0 (oc.bind f) := r_callS g con M hl hs hr hn hst hW d (fun u => k u)
theorem r_callSN_WV {host : String} {oc : Option St} {f : St → Option ρ} (g : Ok G cc own nL rm rt) (con : Con y ccc nLc rtc rmc false sh (sh, 0, 0) av S (fun _ => oVS) id oc) (M : Mth y ccc nLc rtc n) (hl : (own, idx, y, host) ∈ lw_nest) (hs : Cond.static y ∈ lw_gd) (hr : rmc.cells = 0 ∧ rmc.slots = 0 ∧ rmc.frames + 1 ≤ rm.frames ∧ 8 + (nLc + 11) + rmc.locals ≤ rm.locals) (hn : ∀ b, (av b).length = n) (hst : st0 = (av (gb G)).reverse ++ st) (hW : (st.map fun v => v.category).sum ≤ 8) (d : decode cc pc = .ok (.invokestatic idx, 3)) (k : ∀ S1, Rg G ret sf F (sh, 0, 0) S1 (pc + 3) lv st (f S1)) : Rg G ret sf F (sh, 0, 0) S pc lv st0 (oc.bind f) := r_callSN g con M hl hs hr hn hst hW d (fun u => k u)
theorem r_callV_WV {q ci : Nat} {fk : List Nat} {T : u_T} {nf : Nat} {as : Nat → List Value} {oc : Option St} {f : St → Option ρ} (g : Ok G cc own nL rm rt) (con : Con y ccc nLc rtc rmc false sh (sh, 0, 0) (fun b => .ref (b + q) :: as b) S (fun _ => oVS) id oc) (M : Mth y ccc nLc rtc n) (hq : sh[q]? = some (.inl (ci, fk))) (hc : vwCl[ci]? = some (y.cls, T, nf)) (hl : Cond.methodLink own idx y ∈ lw_gd) (hs : Cond.instanceMethod y ∈ lw_gd) (hse : Cond.selects y.cls y y ∈ lw_gd) (hr : rmc.cells = 0 ∧ rmc.slots = 0 ∧ rmc.frames + 1 ≤ rm.frames ∧ 8 + (nLc + 11) + rmc.locals ≤ rm.locals) (hn : ∀ b, (as b).length = n) (hst : st0 = (as (gb G)).reverse ++ vr G q :: st) (hW : (st.map fun v => v.category).sum ≤ 8) (d : decode cc pc = .ok (.invokevirtual idx, 3)) (k : ∀ S1, Rg G ret sf F (sh, 0, 0) S1 (pc + 3) lv st (f S1)) : Rg G ret sf F (sh, 0, 0) S pc lv st0 (oc.bind f) := r_callV g con M hq hc hl hs hse hr hn hst hW d (fun u => k u)
/-! the two static rows -/
def tMost : Nat → Int := fun j => match j with | 0 => 99999 | 1 => 99 | 2 => 9999 | _ => 99
def tLeast : Nat → Int := fun j => match j with | 0 => 0 | 1 => -99 | 2 => 0 | _ => 0
def ldT {ρ : Type} (T : Nat → Int) (i : Int) (k : Int → Option ρ) : Option ρ := if 0 ≤ i ∧ i < 4 then k (T i.toNat) else none
def SA (G : Gx) (a : Nat) (T : Nat → Int) : Prop := match G with
  | (_, _, _, _, s, _, _, _, _, _, _, _, b, N) => va_X a 4 (fun j => iI (T j)) s s.heap ∧ a < s.heap.size ∧ ¬ inR b N a
theorem fn4M : fn4 99999 99 9999 99 = fun j => iI (tMost j) := by
  funext j
  match j with
  | 0 => rfl
  | 1 => rfl
  | 2 => rfl
  | _ + 3 => rfl
theorem fn4L : fn4 0 (-99) 0 0 = fun j => iI (tLeast j) := by
  funext j
  match j with
  | 0 => rfl
  | 1 => rfl
  | 2 => rfl
  | _ + 3 => rfl
theorem r_getsM (g : Ok G cc own nL rm rt) (hl : Cond.fieldLink own idx RX5 "SETTING_MOST" "[I" ∈ lw_gd) (d : decode cc pc = .ok (.getstatic idx, 3)) (k : ∀ a, SA G a tMost → Rg G ret sf F C S (pc + 3) lv (.ref a :: st) o) : Rg G ret sf F C S pc lv st o := by
  obtain ⟨p, l, e, R, s, m, args, below, meth, c, cy, D, b, N⟩ := G
  obtain ⟨hR, hx, hb, hml, hown, hts, hlk, hrt, hK, hnw, hsta⟩ := g
  intro v ho H locs ls hN hP hS hlv
  obtain ⟨a, hZ, hX, ha, hA⟩ := hsta.1
  rw [fn4M] at hX
  exact va_gets hx hb hZ hS hown (hts _ hl) (fun _ h => h) d (k a ⟨hX, ha, hA⟩ v ho H locs ls hN hP hS hlv)
theorem r_getsL (g : Ok G cc own nL rm rt) (hl : Cond.fieldLink own idx RX5 "SETTING_LEAST" "[I" ∈ lw_gd) (d : decode cc pc = .ok (.getstatic idx, 3)) (k : ∀ a, SA G a tLeast → Rg G ret sf F C S (pc + 3) lv (.ref a :: st) o) : Rg G ret sf F C S pc lv st o := by
  obtain ⟨p, l, e, R, s, m, args, below, meth, c, cy, D, b, N⟩ := G
  obtain ⟨hR, hx, hb, hml, hown, hts, hlk, hrt, hK, hnw, hsta⟩ := g
  intro v ho H locs ls hN hP hS hlv
  obtain ⟨a, hZ, hX, ha, hA⟩ := hsta.2
  rw [fn4L] at hX
  exact va_gets hx hb hZ hS hown (hts _ hl) (fun _ h => h) d (k a ⟨hX, ha, hA⟩ v ho H locs ls hN hP hS hlv)
theorem r_sald {a : Nat} {T : Nat → Int} {i : Int} {f : Int → Option ρ} (g : Ok G cc own nL rm rt) (h : SA G a T) (d : decode cc pc = .ok (.iaload, 1)) (k : ∀ z, Rg G ret sf F C S (pc + 1) lv (vi z :: st) (f z)) : Rg G ret sf F C S pc lv (vi i :: .ref a :: st) (ldT T i f) := by
  obtain ⟨p, l, e, R, s, m, args, below, meth, c, cy, D, b, N⟩ := G
  obtain ⟨hR, hx, hb, hml, hown, hts, hlk, hrt, hK, hnw, hsta⟩ := g
  intro v ho H locs ls hN hP hS hlv
  obtain ⟨hX, ha, hA⟩ := h
  unfold ldT at ho
  by_cases hi : 0 ≤ i ∧ i < 4
  · rw [if_pos hi] at ho
    have kk := k _ v ho H locs ls hN hP hS hlv
    refine va_sld hx hb hX ha hA hS (iI_vp (n := 4) (by decide) hi) d ?_
    rw [iI_cl hi.1 (by omega)]
    exact kk
  · rw [if_neg hi] at ho; cases ho
theorem r_slen {a : Nat} {T : Nat → Int} (g : Ok G cc own nL rm rt) (h : SA G a T) (d : decode cc pc = .ok (.arraylength, 1)) (k : Rg G ret sf F C S (pc + 1) lv (vi 4 :: st) o) : Rg G ret sf F C S pc lv (.ref a :: st) o := by
  obtain ⟨p, l, e, R, s, m, args, below, meth, c, cy, D, b, N⟩ := G
  obtain ⟨hR, hx, hb, hml, hown, hts, hlk, hrt, hK, hnw, hsta⟩ := g
  intro v ho H locs ls hN hP hS hlv
  obtain ⟨hX, ha, hA⟩ := h
  exact va_slen hx hb hX ha hA hS d (k v ho H locs ls hN hP hS hlv)
/-! System.arraycopy between two rows of ints -/
def cpyF (f g : Nat → Int) (sp dp n : Nat) : Nat → Int := fun k => if dp ≤ k ∧ k < dp + n then f (sp + (k - dp)) else g k
def putRow (S : St) (q : Nat) (r : Nat → Int) : St := fun x y => if x = q then r y else S x y
def cpy {ρ : Type} (S : St) (q0 n0 : Nat) (sp : Int) (q1 n1 : Nat) (dp n : Int) (k : St → Option ρ) : Option ρ := if 0 ≤ sp ∧ 0 ≤ dp ∧ 0 ≤ n ∧ sp + n ≤ n0 ∧ dp + n ≤ n1 then k (putRow S q1 (cpyF (S q0) (S q1) sp.toNat dp.toNat n.toNat)) else none
theorem cpyFI (f g : Nat → Int) (sp dp n : Nat) : (fun j => iI (cpyF f g sp dp n j)) = va_cpy (fun j => iI (f j)) (fun j => iI (g j)) sp dp n := by
  funext j
  simp only [cpyF, va_cpy]
  split <;> rfl
theorem r_copy {q0 n0 q1 n1 : Nat} {sp dp n : Int} {f : St → Option ρ} (g : Ok G cc own nL rm rt) (h0 : C.1[q0]? = some (.inr (0, n0, 0, 0))) (h1 : C.1[q1]? = some (.inr (0, n1, 0, 0))) (hn0 : n0 ≤ 2147483647) (hn1 : n1 ≤ 2147483647) (hw : Cond.methodLink own idx arraycopyName ∈ lw_gd ∧ Cond.native arraycopyName ∈ lw_gd ∧ Cond.static arraycopyName ∈ lw_gd ∧ Cond.initialized "java/lang/System" ∈ lw_gd) (hr : 1 ≤ rm.frames ∧ (st.map fun v => v.category).sum + (nativeFrameWords "java/lang/System" "arraycopy" 5 + 11) ≤ rm.locals) (d : decode cc pc = .ok (.invokestatic idx, 3)) (k : ∀ S1, Rg G ret sf F C S1 (pc + 3) lv st (f S1)) : Rg G ret sf F C S pc lv (vi n :: vi dp :: vr G q1 :: vi sp :: vr G q0 :: st) (cpy S q0 n0 sp q1 n1 dp n f) := by
  obtain ⟨p, l, e, R, s, m, args, below, meth, c, cy, D, b, N⟩ := G
  obtain ⟨hR, hx, hb, hml, hown, hts, hlk, hrt, hK, hnw, hsta⟩ := g
  intro v ho H locs ls hN hP hS hlv
  subst hR
  unfold cpy at ho
  by_cases hi : 0 ≤ sp ∧ 0 ≤ dp ∧ 0 ≤ n ∧ sp + n ≤ n0 ∧ dp + n ≤ n1
  · rw [if_pos hi] at ho
    obtain ⟨i1, i2, i3, i4, i5⟩ := hi
    have nneg : ∀ z : Int, 0 ≤ z → z ≤ 2147483647 → ¬ iI z < 0 := fun z hz hz2 h => by
      rw [← iI_0, iI_lt ⟨by omega, by omega⟩ ⟨by omega, by omega⟩] at h; omega
    have e1 := iI_cl i1 (by omega)
    have e2 := iI_cl i2 (by omega)
    have e3 := iI_cl i3 (by omega)
    refine va_copyi hx hb hlv.1.symm hown (hts _ hw.1) (hts _ hw.2.1) (hts _ hw.2.2.1) (hts _ hw.2.2.2) hK hP (wd_D hN) hS q0 q1 0 0 (wd_at h0) (wd_at h1) rfl rfl rfl (nneg _ i1 (by omega)) (nneg _ i2 (by omega)) (nneg _ i3 (by omega)) (by rw [e1, e3]; omega) (by rw [e2, e3]; omega) (fun _ _ => rfl) hr.1 hr.2 d (fun H1 locs1 hP1 hD1 hS1 => ?_)
    rw [e1, e2, e3] at hP1
    have e4 : (wd cy b C.1 S).set q1 (b + q1, .inl (cy 0, n1, .inl (va_cpy (fun j => iI (S q0 j)) (fun j => iI (S q1 j)) sp.toNat dp.toNat n.toNat))) = wd cy b C.1 (putRow S q1 (cpyF (S q0) (S q1) sp.toNat dp.toNat n.toNat)) := by
      refine wd_set h1 ?_ (fun q' y hq => cellE_congr ?_ y)
      · simp only [cellE, arrC, putRow, if_true, cpyFI]
      · funext z; simp only [putRow, if_neg hq]
    rw [e4] at hP1
    exact k _ v ho H1 locs1 ls hN hP1 hS1 hlv
  · rw [if_neg hi] at ho; cases ho
end More
section MathRows
variable {G : Gx} {cc : ByteArray} {own : String} {nL : Nat} {rm : Room} {rt : Option FieldType} {ρ : Type} {ret : ρ → Option Value} {sf : ρ → St} {F : Cf} {sh : List Sh} {S : St} {pc : Nat} {lv : List (Option Value)} {st : List Value} {idx : Nat} {f : Int → Option ρ}
def pJ9_max_7cf53 (x y : Int) : Option Int := if in32 x ∧ in32 y then some (max x y) else none
def pJ9_min_7cf53 (x y : Int) : Option Int := if in32 x ∧ in32 y then some (min x y) else none
def pJ9_max_f86c9 (x y : Int) : Option Int := if in64 x ∧ in64 y then some (max x y) else none
def pJ9_min_f86c9 (x y : Int) : Option Int := if in64 x ∧ in64 y then some (min x y) else none
def pJ9_abs_0f7a4 (x : Int) : Option Int := if in32 x then some (if x < 0 then -x else x) else none
def pJ9_abs_067f4 (x : Int) : Option Int := if in64 x then some (if x < 0 then -x else x) else none
theorem iI_max1 {x y : Int} (hx : in32 x) (hy : in32 y) : (if iI x < iI y then iI y else iI x) = iI (max x y) := by
  by_cases h : x < y
  · rw [if_pos ((iI_lt hx hy).mpr h), Int.max_eq_right (by omega)]
  · rw [if_neg (fun z => h ((iI_lt hx hy).mp z)), Int.max_eq_left (by omega)]
theorem iI_max2 {x y : Int} (hx : in32 x) (hy : in32 y) : (if iI y < iI x then iI x else iI y) = iI (max x y) := by
  by_cases h : y < x
  · rw [if_pos ((iI_lt hy hx).mpr h), Int.max_eq_left (by omega)]
  · rw [if_neg (fun z => h ((iI_lt hy hx).mp z)), Int.max_eq_right (by omega)]
theorem iI_min1 {x y : Int} (hx : in32 x) (hy : in32 y) : (if iI y < iI x then iI y else iI x) = iI (min x y) := by
  by_cases h : y < x
  · rw [if_pos ((iI_lt hy hx).mpr h), Int.min_eq_right (by omega)]
  · rw [if_neg (fun z => h ((iI_lt hy hx).mp z)), Int.min_eq_left (by omega)]
theorem lI_max1 {x y : Int} (hx : in64 x) (hy : in64 y) : (if lI x < lI y then lI y else lI x) = lI (max x y) := by
  by_cases h : x < y
  · rw [if_pos ((lI_lt hx hy).mpr h), Int.max_eq_right (by omega)]
  · rw [if_neg (fun z => h ((lI_lt hx hy).mp z)), Int.max_eq_left (by omega)]
theorem lI_max2 {x y : Int} (hx : in64 x) (hy : in64 y) : (if lI y < lI x then lI x else lI y) = lI (max x y) := by
  by_cases h : y < x
  · rw [if_pos ((lI_lt hy hx).mpr h), Int.max_eq_left (by omega)]
  · rw [if_neg (fun z => h ((lI_lt hy hx).mp z)), Int.max_eq_right (by omega)]
theorem lI_min1 {x y : Int} (hx : in64 x) (hy : in64 y) : (if lI y < lI x then lI y else lI x) = lI (min x y) := by
  by_cases h : y < x
  · rw [if_pos ((lI_lt hy hx).mpr h), Int.min_eq_right (by omega)]
  · rw [if_neg (fun z => h ((lI_lt hy hx).mp z)), Int.min_eq_left (by omega)]
theorem iI_abs1 {x : Int} (hx : in32 x) : (if 0 ≤ iI x then iI x else 0 - iI x) = iI (if x < 0 then -x else x) := by
  have h0 : (0 : Int32) = iI 0 := iI_0.symm
  rw [h0]
  by_cases h : x < 0
  · rw [if_pos h, if_neg (fun z => absurd ((iI_le in32_0 hx).mp z) (by omega)), iI_sub]
    congr 1
    omega
  · rw [if_neg h, if_pos ((iI_le in32_0 hx).mpr (by omega))]
theorem lI_abs1 {x : Int} (hx : in64 x) : (if 0 < lI x then lI x else -lI x) = lI (if x < 0 then -x else x) := by
  have h0 : (0 : Int64) = lI 0 := lI_0.symm
  rw [h0]
  by_cases h : x < 0
  · rw [if_pos h, if_neg (fun z => absurd ((lI_lt in64_0 hx).mp z) (by omega)), lI_neg]
  · rw [if_neg h]
    by_cases h2 : 0 < x
    · rw [if_pos ((lI_lt in64_0 hx).mpr h2)]
    · rw [if_neg (fun z => h2 ((lI_lt in64_0 hx).mp z)), lI_neg, show x = 0 by omega]
      rfl
theorem rJ9_max_7cf53 {x y : Int} (g : Ok G cc own nL rm rt) (hl : Cond.methodLink own idx Lib.Math.max.name ∈ lw_gd) (hst : Cond.static Lib.Math.max.name ∈ lw_gd) (hi : Cond.initialized "java/lang/Math" ∈ lw_gd) (hc : Cond.code Lib.Math.max.name Lib.Math.max.code 2 (some .int) ∈ lw_gd) (hr : 1 ≤ rm.frames ∧ (st.map fun v => v.category).sum + 13 ≤ rm.locals) (d : decode cc pc = .ok (.invokestatic idx, 3)) (k : ∀ z, Rg G ret sf F (sh, 0, 0) S (pc + 3) lv (vi z :: st) (f z)) : Rg G ret sf F (sh, 0, 0) S pc lv (vi y :: vi x :: st) ((pJ9_max_7cf53 x y).bind f) := by
  obtain ⟨p, l, e, R, s, m, args, below, meth, c, cy, D, b, N⟩ := G
  obtain ⟨hR, hx, hb, hml, hown, hts, hlk, hrt, hK, hnw, hsta⟩ := g
  intro v ho H locs ls hN hP hS hlv
  subst hR
  unfold pJ9_max_7cf53 at ho
  by_cases hy : in32 x ∧ in32 y
  · rw [if_pos hy] at ho
    have kk := k _ v ho H locs ls hN hP hS hlv
    refine va_mmax hx hb hlv.1.symm hown (hts _ hl) (hts _ hst) (hts _ hi) (hts _ hc) hr.1 hr.2 (Nat.zero_le _) (Nat.zero_le _) d ?_
    rw [iI_max1 hy.1 hy.2]
    exact kk
  · rw [if_neg hy] at ho; cases ho
theorem rJ9_min_7cf53 {x y : Int} (g : Ok G cc own nL rm rt) (hl : Cond.methodLink own idx Lib.Math.min.name ∈ lw_gd) (hst : Cond.static Lib.Math.min.name ∈ lw_gd) (hi : Cond.initialized "java/lang/Math" ∈ lw_gd) (hc : Cond.code Lib.Math.min.name Lib.Math.min.code 2 (some .int) ∈ lw_gd) (hr : 1 ≤ rm.frames ∧ (st.map fun v => v.category).sum + 13 ≤ rm.locals) (d : decode cc pc = .ok (.invokestatic idx, 3)) (k : ∀ z, Rg G ret sf F (sh, 0, 0) S (pc + 3) lv (vi z :: st) (f z)) : Rg G ret sf F (sh, 0, 0) S pc lv (vi y :: vi x :: st) ((pJ9_min_7cf53 x y).bind f) := by
  obtain ⟨p, l, e, R, s, m, args, below, meth, c, cy, D, b, N⟩ := G
  obtain ⟨hR, hx, hb, hml, hown, hts, hlk, hrt, hK, hnw, hsta⟩ := g
  intro v ho H locs ls hN hP hS hlv
  subst hR
  unfold pJ9_min_7cf53 at ho
  by_cases hy : in32 x ∧ in32 y
  · rw [if_pos hy] at ho
    have kk := k _ v ho H locs ls hN hP hS hlv
    refine va_mmin hx hb hlv.1.symm hown (hts _ hl) (hts _ hst) (hts _ hi) (hts _ hc) hr.1 hr.2 (Nat.zero_le _) (Nat.zero_le _) d ?_
    rw [iI_min1 hy.1 hy.2]
    exact kk
  · rw [if_neg hy] at ho; cases ho
theorem rJ9_max_f86c9 {x y : Int} (g : Ok G cc own nL rm rt) (hl : Cond.methodLink own idx Lib.MathLoose.max_long.x ∈ lw_gd) (hst : Cond.static Lib.MathLoose.max_long.x ∈ lw_gd) (hi : Cond.initialized "java/lang/Math" ∈ lw_gd) (hc : Cond.code Lib.MathLoose.max_long.x Lib.MathLoose.max_long.code 4 (some .long) ∈ lw_gd) (hr : 1 ≤ rm.frames ∧ (st.map fun v => v.category).sum + 15 ≤ rm.locals) (d : decode cc pc = .ok (.invokestatic idx, 3)) (k : ∀ z, Rg G ret sf F (sh, 0, 0) S (pc + 3) lv (vl z :: st) (f z)) : Rg G ret sf F (sh, 0, 0) S pc lv (vl y :: vl x :: st) ((pJ9_max_f86c9 x y).bind f) := by
  obtain ⟨p, l, e, R, s, m, args, below, meth, c, cy, D, b, N⟩ := G
  obtain ⟨hR, hx, hb, hml, hown, hts, hlk, hrt, hK, hnw, hsta⟩ := g
  intro v ho H locs ls hN hP hS hlv
  subst hR
  unfold pJ9_max_f86c9 at ho
  by_cases hy : in64 x ∧ in64 y
  · rw [if_pos hy] at ho
    have kk := k _ v ho H locs ls hN hP hS hlv
    refine va_mmax_long hx hb hlv.1.symm hown (hts _ hl) (hts _ hst) (hts _ hi) (hts _ hc) hr.1 hr.2 (Nat.zero_le _) (Nat.zero_le _) d ?_
    rw [lI_max2 hy.1 hy.2]
    exact kk
  · rw [if_neg hy] at ho; cases ho
theorem rJ9_min_f86c9 {x y : Int} (g : Ok G cc own nL rm rt) (hl : Cond.methodLink own idx Lib.MathLoose.min_long.x ∈ lw_gd) (hst : Cond.static Lib.MathLoose.min_long.x ∈ lw_gd) (hi : Cond.initialized "java/lang/Math" ∈ lw_gd) (hc : Cond.code Lib.MathLoose.min_long.x Lib.MathLoose.min_long.code 4 (some .long) ∈ lw_gd) (hr : 1 ≤ rm.frames ∧ (st.map fun v => v.category).sum + 15 ≤ rm.locals) (d : decode cc pc = .ok (.invokestatic idx, 3)) (k : ∀ z, Rg G ret sf F (sh, 0, 0) S (pc + 3) lv (vl z :: st) (f z)) : Rg G ret sf F (sh, 0, 0) S pc lv (vl y :: vl x :: st) ((pJ9_min_f86c9 x y).bind f) := by
  obtain ⟨p, l, e, R, s, m, args, below, meth, c, cy, D, b, N⟩ := G
  obtain ⟨hR, hx, hb, hml, hown, hts, hlk, hrt, hK, hnw, hsta⟩ := g
  intro v ho H locs ls hN hP hS hlv
  subst hR
  unfold pJ9_min_f86c9 at ho
  by_cases hy : in64 x ∧ in64 y
  · rw [if_pos hy] at ho
    have kk := k _ v ho H locs ls hN hP hS hlv
    refine va_mmin_long hx hb hlv.1.symm hown (hts _ hl) (hts _ hst) (hts _ hi) (hts _ hc) hr.1 hr.2 (Nat.zero_le _) (Nat.zero_le _) d ?_
    rw [lI_min1 hy.1 hy.2]
    exact kk
  · rw [if_neg hy] at ho; cases ho
theorem rJ9_abs_0f7a4 {x : Int} (g : Ok G cc own nL rm rt) (hl : Cond.methodLink own idx Lib.Math.abs.name ∈ lw_gd) (hst : Cond.static Lib.Math.abs.name ∈ lw_gd) (hi : Cond.initialized "java/lang/Math" ∈ lw_gd) (hc : Cond.code Lib.Math.abs.name Lib.Math.abs.code 1 (some .int) ∈ lw_gd) (hr : 1 ≤ rm.frames ∧ (st.map fun v => v.category).sum + 13 ≤ rm.locals) (d : decode cc pc = .ok (.invokestatic idx, 3)) (k : ∀ z, Rg G ret sf F (sh, 0, 0) S (pc + 3) lv (vi z :: st) (f z)) : Rg G ret sf F (sh, 0, 0) S pc lv (vi x :: st) ((pJ9_abs_0f7a4 x).bind f) := by
  obtain ⟨p, l, e, R, s, m, args, below, meth, c, cy, D, b, N⟩ := G
  obtain ⟨hR, hx, hb, hml, hown, hts, hlk, hrt, hK, hnw, hsta⟩ := g
  intro v ho H locs ls hN hP hS hlv
  subst hR
  unfold pJ9_abs_0f7a4 at ho
  by_cases hy : in32 x
  · rw [if_pos hy] at ho
    have kk := k _ v ho H locs ls hN hP hS hlv
    refine va_mabs hx hb hlv.1.symm hown (hts _ hl) (hts _ hst) (hts _ hi) (hts _ hc) hr.1 hr.2 (Nat.zero_le _) (Nat.zero_le _) d ?_
    rw [iI_abs1 hy]
    exact kk
  · rw [if_neg hy] at ho; cases ho
theorem rJ9_abs_067f4 {x : Int} (g : Ok G cc own nL rm rt) (hl : Cond.methodLink own idx Lib.MathLoose.abs_long.x ∈ lw_gd) (hst : Cond.static Lib.MathLoose.abs_long.x ∈ lw_gd) (hi : Cond.initialized "java/lang/Math" ∈ lw_gd) (hc : Cond.code Lib.MathLoose.abs_long.x Lib.MathLoose.abs_long.code 2 (some .long) ∈ lw_gd) (hr : 1 ≤ rm.frames ∧ (st.map fun v => v.category).sum + 13 ≤ rm.locals) (d : decode cc pc = .ok (.invokestatic idx, 3)) (k : ∀ z, Rg G ret sf F (sh, 0, 0) S (pc + 3) lv (vl z :: st) (f z)) : Rg G ret sf F (sh, 0, 0) S pc lv (vl x :: st) ((pJ9_abs_067f4 x).bind f) := by
  obtain ⟨p, l, e, R, s, m, args, below, meth, c, cy, D, b, N⟩ := G
  obtain ⟨hR, hx, hb, hml, hown, hts, hlk, hrt, hK, hnw, hsta⟩ := g
  intro v ho H locs ls hN hP hS hlv
  subst hR
  unfold pJ9_abs_067f4 at ho
  by_cases hy : in64 x
  · rw [if_pos hy] at ho
    have kk := k _ v ho H locs ls hN hP hS hlv
    refine va_mabs_long hx hb hlv.1.symm hown (hts _ hl) (hts _ hst) (hts _ hi) (hts _ hc) hr.1 hr.2 (Nat.zero_le _) (Nat.zero_le _) d ?_
    rw [lI_abs1 hy]
    exact kk
  · rw [if_neg hy] at ho; cases ho
end MathRows
