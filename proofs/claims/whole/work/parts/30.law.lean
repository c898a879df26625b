/-! the law as a whole, over what class and model must agree on -/
def CasesOK (Inv : St → St → Prop) : Prop := ca_0 Inv ∧ ca_1 Inv ∧ ca_2 Inv ∧ ca_3 Inv ∧ ca_4 Inv ∧ ca_5 Inv ∧ ca_6 Inv ∧ ca_7 Inv ∧ ca_8 Inv ∧ ca_9 Inv ∧ ca_10 Inv ∧ ca_11 Inv ∧ ca_12 Inv ∧ ca_13 Inv ∧ ca_14 Inv ∧ ca_15 Inv ∧ ca_16 Inv ∧ ca_17 Inv ∧ ca_18 Inv ∧ ca_19 Inv ∧ ca_20 Inv ∧ ca_21 Inv ∧ ca_22 Inv ∧ ca_23 Inv ∧ ca_24 Inv ∧ ca_25 Inv ∧ ca_26 Inv ∧ ca_27 Inv ∧ ca_28 Inv ∧ ca_29 Inv ∧ ca_30 Inv ∧ ca_31 Inv ∧ ca_32 Inv ∧ ca_33 Inv ∧ ca_34 Inv ∧ ca_35 Inv ∧ ca_36 Inv ∧ ca_37 Inv ∧ ca_38 Inv ∧ ca_39 Inv ∧ ca_40 Inv ∧ ca_41 Inv ∧ ca_42 Inv ∧ ca_43 Inv
theorem law_switch {X : Lx} {Inv : St → St → Prop} (hc : CasesOK Inv) (g : LOk X) {C M : St} (hI : Inv C M) {i : Int} (hi : 0 ≤ i ∧ i + 6 ≤ lL X) (k : ∀ C' M', Inv C' M' → Lg X C' M' 1469 (LV X i) []) : Lg X C M 27 (LV X i) [] := by
  obtain ⟨h0, h1, h2, h3, h4, h5, h6, h7, h8, h9, h10, h11, h12, h13, h14, h15, h16, h17, h18, h19, h20, h21, h22, h23, h24, h25, h26, h27, h28, h29, h30, h31, h32, h33, h34, h35, h36, h37, h38, h39, h40, h41, h42, h43⟩ := hc
  have hcs : ∀ j : Nat, j < 44 → Lg X C M (33 + ([191, 224, 267, 290, 353, 376, 409, 452, 475, 508, 541, 574, 637, 660, 693, 726, 759, 792, 825, 838, 861, 874, 887, 900, 923, 946, 959, 982, 1005, 1048, 1081, 1124, 1157, 1180, 1233, 1246, 1289, 1322, 1335, 1349, 1363, 1386, 1399, 1422].getD j 0)) (LV X i) [] := by
    intro j hj
    have hj2 : j = 0 ∨ j = 1 ∨ j = 2 ∨ j = 3 ∨ j = 4 ∨ j = 5 ∨ j = 6 ∨ j = 7 ∨ j = 8 ∨ j = 9 ∨ j = 10 ∨ j = 11 ∨ j = 12 ∨ j = 13 ∨ j = 14 ∨ j = 15 ∨ j = 16 ∨ j = 17 ∨ j = 18 ∨ j = 19 ∨ j = 20 ∨ j = 21 ∨ j = 22 ∨ j = 23 ∨ j = 24 ∨ j = 25 ∨ j = 26 ∨ j = 27 ∨ j = 28 ∨ j = 29 ∨ j = 30 ∨ j = 31 ∨ j = 32 ∨ j = 33 ∨ j = 34 ∨ j = 35 ∨ j = 36 ∨ j = 37 ∨ j = 38 ∨ j = 39 ∨ j = 40 ∨ j = 41 ∨ j = 42 ∨ j = 43 := by omega
    rcases hj2 with rfl | rfl | rfl | rfl | rfl | rfl | rfl | rfl | rfl | rfl | rfl | rfl | rfl | rfl | rfl | rfl | rfl | rfl | rfl | rfl | rfl | rfl | rfl | rfl | rfl | rfl | rfl | rfl | rfl | rfl | rfl | rfl | rfl | rfl | rfl | rfl | rfl | rfl | rfl | rfl | rfl | rfl | rfl | rfl
    · exact law_0 h0 g hI hi k
    · exact law_1 h1 g hI hi k
    · exact law_2 h2 g hI hi k
    · exact law_3 h3 g hI hi k
    · exact law_4 h4 g hI hi k
    · exact law_5 h5 g hI hi k
    · exact law_6 h6 g hI hi k
    · exact law_7 h7 g hI hi k
    · exact law_8 h8 g hI hi k
    · exact law_9 h9 g hI hi k
    · exact law_10 h10 g hI hi k
    · exact law_11 h11 g hI hi k
    · exact law_12 h12 g hI hi k
    · exact law_13 h13 g hI hi k
    · exact law_14 h14 g hI hi k
    · exact law_15 h15 g hI hi k
    · exact law_16 h16 g hI hi k
    · exact law_17 h17 g hI hi k
    · exact law_18 h18 g hI hi k
    · exact law_19 h19 g hI hi k
    · exact law_20 h20 g hI hi k
    · exact law_21 h21 g hI hi k
    · exact law_22 h22 g hI hi k
    · exact law_23 h23 g hI hi k
    · exact law_24 h24 g hI hi k
    · exact law_25 h25 g hI hi k
    · exact law_26 h26 g hI hi k
    · exact law_27 h27 g hI hi k
    · exact law_28 h28 g hI hi k
    · exact law_29 h29 g hI hi k
    · exact law_30 h30 g hI hi k
    · exact law_31 h31 g hI hi k
    · exact law_32 h32 g hI hi k
    · exact law_33 h33 g hI hi k
    · exact law_34 h34 g hI hi k
    · exact law_35 h35 g hI hi k
    · exact law_36 h36 g hI hi k
    · exact law_37 h37 g hI hi k
    · exact law_38 h38 g hI hi k
    · exact law_39 h39 g hI hi k
    · exact law_40 h40 g hI hi k
    · exact law_41 h41 g hI hi k
    · exact law_42 h42 g hI hi k
    · exact law_43 h43 g hI hi k
  have hdf : Lg X C M 1469 (LV X i) [] := k C M hI
  obtain ⟨p, l, e, s, m, below, meth, c, cy, D, b, L, xs⟩ := X
  obtain ⟨hx, hb, hr, hml, hown, hts, hX, hbl, hlk, hK, hnw, hsta, hL⟩ := g
  intro H locs ls hP hM hS hl
  have hi2 : i + 6 ≤ (L : Int) := hi.2
  refine lv_aload_n hx hb dL_law_27 rfl (hl.2.2 (0, .ref b) (by simp [LV, lvA, lb])) ?_
  refine lv_iload_n hx hb dL_law_28 rfl (hl.2.2 (3, .int (iI i)) (by simp [LV, lvA, vi])) ?_
  refine va_sld hx hb hX hbl (A := fun q => s.heap.size ≤ q) (fun h => by omega) hS (iI_vp (n := L) (by omega) ⟨hi.1, by omega⟩) dL_law_29 ?_
  refine lv_bipush (v := 63) hx hb dL_law_30 (by decide) ?_
  refine lv_iand hx hb dL_law_32 ?_
  obtain ⟨j, hj, hje⟩ := pk_andE (xs (iI i).toNatClampNeg) (m := 63) 6 (by decide)
  rw [hje]
  have hji : (nI j).toInt = (j : Int) := nI_toInt (by omega)
  by_cases h44 : j < 44
  · refine lv_tableIn (tgt := 33 + ([191, 224, 267, 290, 353, 376, 409, 452, 475, 508, 541, 574, 637, 660, 693, 726, 759, 792, 825, 838, 861, 874, 887, 900, 923, 946, 959, 982, 1005, 1048, 1081, 1124, 1157, 1180, 1233, 1246, 1289, 1322, 1335, 1349, 1363, 1386, 1399, 1422].getD j 0)) (off := (([191, 224, 267, 290, 353, 376, 409, 452, 475, 508, 541, 574, 637, 660, 693, 726, 759, 792, 825, 838, 861, 874, 887, 900, 923, 946, 959, 982, 1005, 1048, 1081, 1124, 1157, 1180, 1233, 1246, 1289, 1322, 1335, 1349, 1363, 1386, 1399, 1422].getD j 0 : Nat) : Int)) hx hb dL_law_33 (by rw [hji]; omega) (by rw [hji]; omega) ?_ (by omega) (hcs j h44 H locs ls hP hM hS hl)
    rw [hji, show ((j : Int) - 0).toNat = j by omega]
    have : ∀ j : Fin 44, (#[191, 224, 267, 290, 353, 376, 409, 452, 475, 508, 541, 574, 637, 660, 693, 726, 759, 792, 825, 838, 861, 874, 887, 900, 923, 946, 959, 982, 1005, 1048, 1081, 1124, 1157, 1180, 1233, 1246, 1289, 1322, 1335, 1349, 1363, 1386, 1399, 1422] : Array Int)[j.val]? = some (([191, 224, 267, 290, 353, 376, 409, 452, 475, 508, 541, 574, 637, 660, 693, 726, 759, 792, 825, 838, 861, 874, 887, 900, 923, 946, 959, 982, 1005, 1048, 1081, 1124, 1157, 1180, 1233, 1246, 1289, 1322, 1335, 1349, 1363, 1386, 1399, 1422].getD j.val 0 : Nat) : Int) := by decide
    exact this ⟨j, h44⟩
  · exact lv_tableOut (tgt := 1469) hx hb dL_law_33 (by rw [hji]; omega) (by decide) (hdf H locs ls hP hM hS hl)
theorem law_loop {X : Lx} {Inv : St → St → Prop} (hc : CasesOK Inv) (g : LOk X) : ∀ (n : Nat) (C M : St) (i : Int), Inv C M → 0 ≤ i → i ≤ lL X + 6 → (lL X : Int) + 6 - i < n → Lg X C M 18 (LV X i) [] := by
  intro n
  induction n with
  | zero => intro C M i hI h0 h1 h2; omega
  | succ n ih =>
    intro C M i hI h0 h1 h2
    have hsw : i + 6 ≤ lL X → Lg X C M 27 (LV X i) [] := fun h6 => law_switch hc g hI ⟨h0, h6⟩ (fun C' M' hI' => by
      have hk := ih C' M' (i + 6) hI' (by omega) (by omega) (by omega)
      obtain ⟨p, l, e, s, m, below, meth, c, cy, D, b, L, xs⟩ := X
      obtain ⟨hx, hb, hr, hml, hown, hts, hX, hbl, hlk, hK, hnw, hsta, hL⟩ := g
      intro H locs ls hP hM hS hl
      have hm : (3, Value.int (iI i)) ∈ lvA 0 (LV (p, l, e, s, m, below, meth, c, cy, D, b, L, xs) i) := by simp [LV, lvA, vi]
      obtain ⟨kk, hkk⟩ := List.getElem?_of_mem hm
      refine lv_iinc (v := iI (i + 6)) hx hb dL_law_1469 hl hkk (by rw [← iI_add]; rfl) (by decide) rfl (fun ls' hl' => ?_)
      refine lv_goto (tgt := 18) hx hb dL_law_1472 (by decide) ?_
      refine hk H locs ls' hP hM hS ⟨hl'.1, hl'.2.1, fun q hq => hl'.2.2 q ?_⟩
      simp only [LV, lvA, List.mem_cons, List.not_mem_nil, or_false] at hq
      rcases hq with rfl | rfl | rfl | rfl
      · exact List.mem_cons_of_mem _ (List.mem_filter.mpr ⟨by simp [LV, lvA], by simp [Value.category]⟩)
      · exact List.mem_cons_of_mem _ (List.mem_filter.mpr ⟨by simp [LV, lvA], by simp [Value.category]⟩)
      · exact List.mem_cons_of_mem _ (List.mem_filter.mpr ⟨by simp [LV, lvA], by simp [Value.category]⟩)
      · exact List.mem_cons_self)
    obtain ⟨p, l, e, s, m, below, meth, c, cy, D, b, L, xs⟩ := X
    obtain ⟨hx, hb, hr, hml, hown, hts, hX, hbl, hlk, hK, hnw, hsta, hL⟩ := g
    intro H locs ls hP hM hS hl
    have h1' : i ≤ (L : Int) + 6 := h1
    refine lv_iload_n hx hb dL_law_18 rfl (hl.2.2 (3, .int (iI i)) (by simp [LV, lvA, vi])) ?_
    refine lv_aload_n hx hb dL_law_19 rfl (hl.2.2 (0, .ref b) (by simp [LV, lvA, lb])) ?_
    refine va_slen hx hb hX hbl (A := fun q => s.heap.size ≤ q) (fun h => by omega) hS dL_law_20 ?_
    refine lv_bipush (v := iI 6) hx hb dL_law_21 (by decide) ?_
    refine lv_isub hx hb dL_law_23 ?_
    rw [show Int32.ofNat L = iI (L : Int) from Int32.ofInt_eq_ofNat.symm, iI_sub]
    refine lv_icmp_gt (tgt := 1475) hx hb dL_law_24 (by decide) (fun h => ?_) (fun h => ?_)
    · refine lv_iconst (v := 1) hx hb dL_law_1475 (by decide) ?_
      refine va_forget (fun q hq => hS.2.2 q hq) ?_
      exact lw_ret hx hb hr hlk dL_law_1476
    · have h6 : i + 6 ≤ (L : Int) := by
        rcases Int.lt_or_le ((L : Int) - 6) i with h7 | h7
        · exact absurd ((iI_lt ⟨by omega, by omega⟩ ⟨by omega, by omega⟩).mpr h7) h
        · omega
      exact hsw h6 H locs ls hP hM hS hl
