theorem w_83 : Cond.classLink RL 7 RX5 ∈ lw_gd := gdi 83 (by decide +kernel) (by decide +kernel)
theorem w_84 : Cond.instantiable RX5 14 ∈ lw_gd := gdi 84 (by decide +kernel) (by decide +kernel)
theorem w_85 : Cond.methodLink RL 9 yX5_init ∈ lw_gd := gdi 85 (by decide +kernel) (by decide +kernel)
theorem w_86 : Cond.instanceMethod yX5_init ∈ lw_gd := gdi 86 (by decide +kernel) (by decide +kernel)
theorem w_864 : Cond.classLink RL 10 RX6 ∈ lw_gd := gdi 864 (by decide +kernel) (by decide +kernel)
theorem w_865 : Cond.instantiable RX6 51 ∈ lw_gd := gdi 865 (by decide +kernel) (by decide +kernel)
theorem w_866 : Cond.methodLink RL 12 yX6_init ∈ lw_gd := gdi 866 (by decide +kernel) (by decide +kernel)
theorem w_867 : Cond.instanceMethod yX6_init ∈ lw_gd := gdi 867 (by decide +kernel) (by decide +kernel)
set_option maxRecDepth 20000 in
theorem whole_from {Inv : St → St → Prop} (hc : CasesOK Inv) (h0 : Inv SC149 SM43) {p : Program} {e : Env} {s : State} {m : MethodId} {below : List Frame} {meth : Method} {c : Code} (l : Launch) {b L : Nat} {xs : Nat → Int32} (hL : L ≤ 3072) (C0 : lw_At p s m meth c b L xs) : W p l e room_1 s m #[Value.ref b] below meth c s.heap [] 0 0 (lw_Z below #[Value.ref b] s) (entryFrame m ([Value.ref b] : List Value).toArray 4) := by
  obtain ⟨cy, D, g⟩ := start_ok (l := l) (e := e) (below := below) hL C0
  have gg := g
  obtain ⟨hx, hb, hr, hml, hown, hts, hX, hbl, hlk, hK, hnw, hsta, hL2⟩ := g
  have hl := lv_entry ([.ref b]) (n := 4) (Nat.le_of_ble_eq_true rfl)
  rw [lg_entry_eq]
  generalize (lg_sl ([.ref b]) ++ List.replicate (4 - (lg_sl ([.ref b])).length) Slot.unset).toArray = ls at hl ⊢
  have hl : lv_has ls 4 [(0, .ref b)] := hl
  refine l_new 0 65 (S00 := SC0) gg KX5 (by decide) rfl rfl (fun _ _ => rfl) iX5_init_1 mX5_init rfl w_83 w_84 w_73 w_85 w_86 (by decide) (by decide) rfl rfl rfl va_S.rf hl.1 (by decide) dL_law_0 dL_law_3 dL_law_4 (fun H1 locs1 hP1 hk1 hS1 => ?_)
  refine lv_astore_n (lv' := [(1, .ref (s.heap.size + 0 + 0)), (0, .ref b)]) hx hb dL_law_7 rfl hl (by decide) rfl (fun ls hl => ?_)
  refine W_sz (fun hsz => ?_)
  have hlow : s.heap.size + 0 + 65 ≤ H1.size := wd_low hP1 hS1.1
  have hsz1 : H1.size ≤ s.heap.size + (0 + 1 + 64) := hsz
  refine l_new 65 28 (S00 := SM0) gg KX6 (by decide) rfl rfl (fun _ _ => rfl) iX6_init_1 mX6_init rfl w_864 w_865 w_80 w_866 w_867 (by decide) (by decide) rfl rfl (by omega) hS1 hl.1 (by decide) dL_law_8 dL_law_11 dL_law_12 (fun H2 locs2 hP2 hk2 hS2 => ?_)
  refine lv_astore_n (lv' := [(2, .ref (s.heap.size + 65 + 0)), (1, .ref (s.heap.size + 0 + 0)), (0, .ref b)]) hx hb dL_law_15 rfl hl (by decide) rfl (fun ls hl => ?_)
  refine lv_iconst (v := iI 0) hx hb dL_law_16 rfl ?_
  refine lv_istore_n (lv' := [(3, .int (iI 0)), (2, .ref (s.heap.size + 65 + 0)), (1, .ref (s.heap.size + 0 + 0)), (0, .ref b)]) hx hb dL_law_17 rfl hl (by decide) rfl (fun ls hl => ?_)
  refine W.widen (k := 600000) (n := 7302250) (by decide) (by decide) ?_
  have hPC : va_P D vwCl (wd cy s.heap.size SHC SC149) H2 := by
    have h1 : va_P D vwCl (wd cy s.heap.size (SK 65) SC149) H2 := hP1.kept (fun k x hx => hk2 x.1 ((hP1 k x hx).lt))
    exact reshape sk_fin h1
  have hPM : va_P D vwCl (wd cy (s.heap.size + 65) SHM SM43) H2 := reshape mk_fin hP2
  have hi2 : (0 : Int) ≤ ((L : Nat) : Int) + 6 := by omega
  refine law_loop hc gg (L + 7) SC149 SM43 0 h0 (by decide) hi2 ?_ H2 locs2 ls hPC hPM hS2 ?_
  · show ((L : Nat) : Int) + 6 - 0 < ((L + 7 : Nat) : Int)
    omega
  · refine ⟨hl.1, hl.2.1, fun q hq => hl.2.2 q ?_⟩
    simp only [LV, lvA, List.mem_cons, List.not_mem_nil, or_false] at hq
    rcases hq with rfl | rfl | rfl | rfl <;> simp [lb, lB, vi]
