set_option maxRecDepth 20000 in
theorem iX3_init_1 : Con yX3_init cX3_init 1 none { frames := 1, cells := 2, slots := 10, locals := 20 } true (SK 9) ((SK 11), 2, 10) (fun b => [.ref (b + 8)]) SC6 (fun _ => oVS) id (some SC13) := by
  refine Con_of (fun b => [some (.ref (b + 8))]) (by decide) (fun _ => rfl) (fun _ => Nat.le_of_ble_eq_true rfl) ?_
  intro G g hz0 hnm hN
  have hz0 : gsz G = gb G + (SK 9).length := hz0 rfl
  have hb0 : gb G ≤ gsz G := by omega
  have hN : (SK 11).length ≤ gN G := hN
  rw [skl_9] at hz0
  rw [skl_11] at hN
  change Ok G cX3_init RX3 1 { frames := 1, cells := 2, slots := 10, locals := 20 } none at g
  change gmn G = "<init>" at hnm
  show Rg G oVS id ((SK 11), 2, 10) ((SK 9), 0, 0) SC6 0 [some (vr G 8)] [] (some SC13)
  refine r_aload_n g dX3_init_0 rfl ?_
  refine n_obj (r := 8) g w_110 w_89 w_90 ⟨by decide, Nat.le_of_ble_eq_true rfl⟩ dX3_init_1 ?_
  refine r_aload_n g dX3_init_4 rfl ?_
  refine r_iconst g dX3_init_5 ?_
  refine n_newa (at_ := .int) (fty := .int) (t := 0) (nn := 5) (sh2 := (SK 10)) (qn := 9) g rfl (fun _ => rfl) (by rw [skl_9]; omega) hb0 (by rw [skl_10]; omega) rfl (zSC_6 _ (by decide)) nc_0 (fun _ _ h => h) rfl w_147 (by decide) (by decide) dX3_init_6 ?_
  refine n_putF (r := 9) (S2 := SC7) g hnm KX3 rfl 0 rfl (by decide) rfl rfl rfl (fun _ => ⟨rfl, rfl⟩) w_111 eSC_7 dX3_init_8 ?_
  refine r_aload_n g dX3_init_11 rfl ?_
  refine r_iconst g dX3_init_12 ?_
  refine n_newa (at_ := .int) (fty := .int) (t := 0) (nn := 5) (sh2 := (SK 11)) (qn := 10) g rfl (fun _ => rfl) (by rw [skl_10]; omega) hb0 (by rw [skl_11]; omega) rfl (zSC_7 _ (by decide)) nc_0 (fun _ _ h => h) rfl w_147 (by decide) (by decide) dX3_init_13 ?_
  refine n_putF (r := 10) (S2 := SC8) g hnm KX3 rfl 1 rfl (by decide) rfl rfl rfl (fun _ => ⟨rfl, rfl⟩) w_114 eSC_8 dX3_init_15 ?_
  refine r_aload_n g dX3_init_18 rfl ?_
  refine r_iconst g dX3_init_19 ?_
  refine n_putI (S2 := SC9) g KX3 rfl 2 rfl (by decide) rfl rfl w_117 eSC_9 dX3_init_20 ?_
  refine r_aload_n g dX3_init_23 rfl ?_
  refine r_iconst g dX3_init_24 ?_
  refine n_putI (S2 := SC10) g KX3 rfl 3 rfl (by decide) rfl rfl w_120 eSC_10 dX3_init_25 ?_
  refine r_aload_n g dX3_init_28 rfl ?_
  refine r_bipush g dX3_init_29 (by decide) ?_
  refine n_putI (S2 := SC11) g KX3 rfl 4 rfl (by decide) rfl rfl w_123 eSC_11 dX3_init_31 ?_
  refine r_aload_n g dX3_init_34 rfl ?_
  refine r_iconst g dX3_init_35 ?_
  refine n_putI (S2 := SC12) g KX3 rfl 5 rfl (by decide) rfl rfl w_126 eSC_12 dX3_init_36 ?_
  refine r_aload_n g dX3_init_39 rfl ?_
  refine r_iconst g dX3_init_40 ?_
  refine n_putI (S2 := SC13) g KX3 rfl 6 rfl (by decide) rfl rfl w_129 eSC_13 dX3_init_41 ?_
  exact r_vret g dX3_init_44 rfl rfl
set_option maxRecDepth 20000 in
theorem iX1_init_1 : Con yX1_init cX1_init 2 none { frames := 1, cells := 1, slots := 0, locals := 24 } true (SK 12) ((SK 13), 1, 0) (fun b => [.ref (b + 11), vi 0]) SC14 (fun _ => oVS) id (some SC16) := by
  refine Con_of (fun b => [some (.ref (b + 11)), some (vi 0)]) (by decide) (fun _ => rfl) (fun _ => Nat.le_of_ble_eq_true rfl) ?_
  intro G g hz0 hnm hN
  have hz0 : gsz G = gb G + (SK 12).length := hz0 rfl
  have hb0 : gb G ≤ gsz G := by omega
  have hN : (SK 13).length ≤ gN G := hN
  rw [skl_12] at hz0
  rw [skl_13] at hN
  change Ok G cX1_init RX1 2 { frames := 1, cells := 1, slots := 0, locals := 24 } none at g
  change gmn G = "<init>" at hnm
  show Rg G oVS id ((SK 13), 1, 0) ((SK 12), 0, 0) SC14 0 [some (vr G 11), some (vi 0)] [] (some SC16)
  refine r_aload_n g dX1_init_0 rfl ?_
  refine n_obj (r := 11) g w_153 w_89 w_90 ⟨by decide, Nat.le_of_ble_eq_true rfl⟩ dX1_init_1 ?_
  refine r_aload_n g dX1_init_4 rfl ?_
  refine r_iconst g dX1_init_5 ?_
  refine n_putI (S2 := SC15) g KX1 rfl 1 rfl (by decide) rfl rfl w_161 eSC_15 dX1_init_6 ?_
  refine r_aload_n g dX1_init_9 rfl ?_
  refine r_iconst g dX1_init_10 ?_
  refine r_iload_n g dX1_init_11 rfl ?_
  refine n_max (z := 0) g (by decide) (by decide) w_154 w_155 w_77 w_156 ⟨by decide, Nat.le_of_ble_eq_true rfl⟩ (by decide) dX1_init_12 ?_
  refine n_newa (at_ := .int) (fty := .int) (t := 0) (nn := 0) (sh2 := (SK 13)) (qn := 12) g rfl (fun _ => rfl) (by rw [skl_12]; omega) hb0 (by rw [skl_13]; omega) rfl (zSC_15 _ (by decide)) nc_0 (fun _ _ h => h) rfl w_147 (by decide) (by decide) dX1_init_15 ?_
  refine n_putF (r := 12) (S2 := SC16) g hnm KX1 rfl 0 rfl (by decide) rfl rfl rfl (fun _ => ⟨rfl, rfl⟩) w_157 eSC_16 dX1_init_17 ?_
  exact r_vret g dX1_init_20 rfl rfl
set_option maxRecDepth 20000 in
theorem iX0_init_1 : Con yX0_init cX0_init 1 none { frames := 2, cells := 5, slots := 19, locals := 45 } true (SK 8) ((SK 13), 5, 19) (fun b => [.ref (b + 7)]) SC6 (fun _ => oVS) id (some SC18) := by
  refine Con_of (fun b => [some (.ref (b + 7))]) (by decide) (fun _ => rfl) (fun _ => Nat.le_of_ble_eq_true rfl) ?_
  intro G g hz0 hnm hN
  have hz0 : gsz G = gb G + (SK 8).length := hz0 rfl
  have hb0 : gb G ≤ gsz G := by omega
  have hN : (SK 13).length ≤ gN G := hN
  rw [skl_8] at hz0
  rw [skl_13] at hN
  change Ok G cX0_init RX0 1 { frames := 2, cells := 5, slots := 19, locals := 45 } none at g
  change gmn G = "<init>" at hnm
  show Rg G oVS id ((SK 13), 5, 19) ((SK 8), 0, 0) SC6 0 [some (vr G 7)] [] (some SC18)
  refine r_aload_n g dX0_init_0 rfl ?_
  refine n_obj (r := 7) g w_104 w_89 w_90 ⟨by decide, Nat.le_of_ble_eq_true rfl⟩ dX0_init_1 ?_
  refine r_aload_n g dX0_init_4 rfl ?_
  refine n_new (sh2 := (SK 9)) (qn := 8) g KX3 (by rw [skl_8]; omega) hb0 (by rw [skl_9]; omega) rfl (zSC_6 _ (by decide)) (by decide) rfl rfl w_105 w_106 w_75 (by decide) dX0_init_5 ?_
  refine r_dup g dX0_init_8 rfl ?_
  refine n_ctorN (q := 8) (as := fun b => []) (S2 := SC13) g (by rw [skl_9]; omega) hb0 (by show (SK 11).length ≤ _; rw [skl_11]; omega) iX3_init_1 mX3_init w_107 w_108 rfl (by decide) (by decide) (fun _ => rfl) rfl (Nat.le_of_ble_eq_true rfl) dX0_init_9 ?_
  change Rg G oVS id _ ((SK 11), 3, 17) _ _ _ _ _
  refine n_putF (r := 8) (S2 := SC14) g hnm KX0 rfl 0 rfl (by decide) rfl rfl rfl (fun _ => ⟨rfl, rfl⟩) w_170 eSC_14 dX0_init_12 ?_
  refine r_aload_n g dX0_init_15 rfl ?_
  refine n_new (sh2 := (SK 12)) (qn := 11) g KX1 (by rw [skl_11]; omega) hb0 (by rw [skl_12]; omega) rfl (zSC_14 _ (by decide)) (by decide) rfl rfl w_148 w_149 w_76 (by decide) dX0_init_16 ?_
  refine r_dup g dX0_init_19 rfl ?_
  refine r_iconst g dX0_init_20 ?_
  refine n_ctor (q := 11) (as := fun b => [vi 0]) (S2 := SC16) g (by rw [skl_12]; omega) hb0 (by show (SK 13).length ≤ _; rw [skl_13]; omega) iX1_init_1 mX1_init w_150 w_151 rfl (by decide) (by decide) (fun _ => rfl) rfl (Nat.le_of_ble_eq_true rfl) dX0_init_21 ?_
  change Rg G oVS id _ ((SK 13), 5, 19) _ _ _ _ _
  refine n_putR (r := 11) (S2 := SC17) g KX0 rfl 1 rfl (by decide) rfl rfl w_172 eSC_17 dX0_init_24 ?_
  refine r_aload_n g dX0_init_27 rfl ?_
  refine r_iconst g dX0_init_28 ?_
  refine n_putI (S2 := SC18) g KX0 rfl 2 rfl (by decide) rfl rfl w_173 eSC_18 dX0_init_29 ?_
  exact r_vret g dX0_init_32 rfl rfl
set_option maxRecDepth 20000 in
theorem iX4_init_1 : Con yX4_init cX4_init 1 none { frames := 1, cells := 7, slots := 28, locals := 20 } true (SK 14) ((SK 21), 7, 28) (fun b => [.ref (b + 13)]) SC19 (fun _ => oVS) id (some SC31) := by
  refine Con_of (fun b => [some (.ref (b + 13))]) (by decide) (fun _ => rfl) (fun _ => Nat.le_of_ble_eq_true rfl) ?_
  intro G g hz0 hnm hN
  have hz0 : gsz G = gb G + (SK 14).length := hz0 rfl
  have hb0 : gb G ≤ gsz G := by omega
  have hN : (SK 21).length ≤ gN G := hN
  rw [skl_14] at hz0
  rw [skl_21] at hN
  change Ok G cX4_init RX4 1 { frames := 1, cells := 7, slots := 28, locals := 20 } none at g
  change gmn G = "<init>" at hnm
  show Rg G oVS id ((SK 21), 7, 28) ((SK 14), 0, 0) SC19 0 [some (vr G 13)] [] (some SC31)
  refine r_aload_n g dX4_init_0 rfl ?_
  refine n_obj (r := 13) g w_186 w_89 w_90 ⟨by decide, Nat.le_of_ble_eq_true rfl⟩ dX4_init_1 ?_
  refine r_aload_n g dX4_init_4 rfl ?_
  refine r_iconst g dX4_init_5 ?_
  refine n_newa (at_ := .boolean) (fty := .boolean) (t := 3) (nn := 4) (sh2 := (SK 15)) (qn := 14) g rfl (fun _ => rfl) (by rw [skl_14]; omega) hb0 (by rw [skl_15]; omega) rfl (zSC_19 _ (by decide)) nc_3 (fun _ _ h => h) rfl w_234 (by decide) (by decide) dX4_init_6 ?_
  refine n_putF (r := 14) (S2 := SC20) g hnm KX4 rfl 0 rfl (by decide) rfl rfl rfl (fun _ => ⟨rfl, rfl⟩) w_188 eSC_20 dX4_init_8 ?_
  refine r_aload_n g dX4_init_11 rfl ?_
  refine r_iconst g dX4_init_12 ?_
  refine n_newa (at_ := .boolean) (fty := .boolean) (t := 3) (nn := 4) (sh2 := (SK 16)) (qn := 15) g rfl (fun _ => rfl) (by rw [skl_15]; omega) hb0 (by rw [skl_16]; omega) rfl (zSC_20 _ (by decide)) nc_3 (fun _ _ h => h) rfl w_234 (by decide) (by decide) dX4_init_13 ?_
  refine n_putF (r := 15) (S2 := SC21) g hnm KX4 rfl 1 rfl (by decide) rfl rfl rfl (fun _ => ⟨rfl, rfl⟩) w_189 eSC_21 dX4_init_15 ?_
  refine r_aload_n g dX4_init_18 rfl ?_
  refine r_iconst g dX4_init_19 ?_
  refine n_newa (at_ := .int) (fty := .int) (t := 0) (nn := 4) (sh2 := (SK 17)) (qn := 16) g rfl (fun _ => rfl) (by rw [skl_16]; omega) hb0 (by rw [skl_17]; omega) rfl (zSC_21 _ (by decide)) nc_0 (fun _ _ h => h) rfl w_147 (by decide) (by decide) dX4_init_20 ?_
  refine n_putF (r := 16) (S2 := SC22) g hnm KX4 rfl 2 rfl (by decide) rfl rfl rfl (fun _ => ⟨rfl, rfl⟩) w_191 eSC_22 dX4_init_22 ?_
  refine r_aload_n g dX4_init_25 rfl ?_
  refine r_iconst g dX4_init_26 ?_
  refine n_newa (at_ := .int) (fty := .int) (t := 0) (nn := 4) (sh2 := (SK 18)) (qn := 17) g rfl (fun _ => rfl) (by rw [skl_17]; omega) hb0 (by rw [skl_18]; omega) rfl (zSC_22 _ (by decide)) nc_0 (fun _ _ h => h) rfl w_147 (by decide) (by decide) dX4_init_27 ?_
  refine n_putF (r := 17) (S2 := SC23) g hnm KX4 rfl 3 rfl (by decide) rfl rfl rfl (fun _ => ⟨rfl, rfl⟩) w_193 eSC_23 dX4_init_29 ?_
  refine r_aload_n g dX4_init_32 rfl ?_
  refine r_iconst g dX4_init_33 ?_
  refine n_newr (t := 1) (nn := 4) (sh2 := (SK 19)) (qn := 18) g (by decide) (fun _ => rfl) (by rw [skl_18]; omega) hb0 (by rw [skl_19]; omega) rfl (zSC_23 _ (by decide)) rfl w_187 (by decide) (by decide) dX4_init_34 ?_
  refine n_putF (r := 18) (S2 := SC24) g hnm KX4 rfl 4 rfl (by decide) rfl rfl rfl (fun _ => ⟨rfl, rfl⟩) w_194 eSC_24 dX4_init_37 ?_
  refine r_aload_n g dX4_init_40 rfl ?_
  refine r_iconst g dX4_init_41 ?_
  refine n_putI (S2 := SC25) g KX4 rfl 5 rfl (by decide) rfl rfl w_196 eSC_25 dX4_init_42 ?_
  refine r_aload_n g dX4_init_45 rfl ?_
  refine r_iconst g dX4_init_46 ?_
  refine n_putI (S2 := SC26) g KX4 rfl 6 rfl (by decide) rfl rfl w_198 eSC_26 dX4_init_47 ?_
  refine r_aload_n g dX4_init_50 rfl ?_
  refine r_iconst g dX4_init_51 ?_
  refine n_putI (S2 := SC27) g KX4 rfl 7 rfl (by decide) rfl rfl w_200 eSC_27 dX4_init_52 ?_
  refine r_aload_n g dX4_init_55 rfl ?_
  refine r_lconst (x := 0) g dX4_init_56 (by decide) ?_
  refine n_putL (S2 := SC28) g KX4 rfl 8 rfl (by decide) rfl rfl w_202 eSC_28 dX4_init_57 ?_
  refine r_aload_n g dX4_init_60 rfl ?_
  refine r_lconst (x := 1) g dX4_init_61 (by decide) ?_
  refine n_putL (S2 := SC29) g KX4 rfl 9 rfl (by decide) rfl rfl w_204 eSC_29 dX4_init_62 ?_
  refine r_aload_n g dX4_init_65 rfl ?_
  refine r_iconst g dX4_init_66 ?_
  refine n_newa (at_ := .long) (fty := .long) (t := 1) (nn := 4) (sh2 := (SK 20)) (qn := 19) g rfl (fun _ => rfl) (by rw [skl_19]; omega) hb0 (by rw [skl_20]; omega) rfl (zSC_29 _ (by decide)) nc_1 (fun _ _ h => h) rfl w_235 (by decide) (by decide) dX4_init_67 ?_
  refine n_putF (r := 19) (S2 := SC30) g hnm KX4 rfl 10 rfl (by decide) rfl rfl rfl (fun _ => ⟨rfl, rfl⟩) w_206 eSC_30 dX4_init_69 ?_
  refine r_aload_n g dX4_init_72 rfl ?_
  refine r_iconst g dX4_init_73 ?_
  refine n_newa (at_ := .int) (fty := .int) (t := 0) (nn := 4) (sh2 := (SK 21)) (qn := 20) g rfl (fun _ => rfl) (by rw [skl_20]; omega) hb0 (by rw [skl_21]; omega) rfl (zSC_30 _ (by decide)) nc_0 (fun _ _ h => h) rfl w_147 (by decide) (by decide) dX4_init_74 ?_
  refine n_putF (r := 20) (S2 := SC31) g hnm KX4 rfl 11 rfl (by decide) rfl rfl rfl (fun _ => ⟨rfl, rfl⟩) w_208 eSC_31 dX4_init_76 ?_
  exact r_vret g dX4_init_79 rfl rfl
set_option maxRecDepth 20000 in
theorem iX1_init_2 : Con yX1_init cX1_init 2 none { frames := 1, cells := 1, slots := 40, locals := 24 } true (SK 24) ((SK 25), 1, 40) (fun b => [.ref (b + 23), vi 40]) SC38 (fun _ => oVS) id (some SC40) := by
  refine Con_of (fun b => [some (.ref (b + 23)), some (vi 40)]) (by decide) (fun _ => rfl) (fun _ => Nat.le_of_ble_eq_true rfl) ?_
  intro G g hz0 hnm hN
  have hz0 : gsz G = gb G + (SK 24).length := hz0 rfl
  have hb0 : gb G ≤ gsz G := by omega
  have hN : (SK 25).length ≤ gN G := hN
  rw [skl_24] at hz0
  rw [skl_25] at hN
  change Ok G cX1_init RX1 2 { frames := 1, cells := 1, slots := 40, locals := 24 } none at g
  change gmn G = "<init>" at hnm
  show Rg G oVS id ((SK 25), 1, 40) ((SK 24), 0, 0) SC38 0 [some (vr G 23), some (vi 40)] [] (some SC40)
  refine r_aload_n g dX1_init_0 rfl ?_
  refine n_obj (r := 23) g w_153 w_89 w_90 ⟨by decide, Nat.le_of_ble_eq_true rfl⟩ dX1_init_1 ?_
  refine r_aload_n g dX1_init_4 rfl ?_
  refine r_iconst g dX1_init_5 ?_
  refine n_putI (S2 := SC39) g KX1 rfl 1 rfl (by decide) rfl rfl w_161 eSC_39 dX1_init_6 ?_
  refine r_aload_n g dX1_init_9 rfl ?_
  refine r_iconst g dX1_init_10 ?_
  refine r_iload_n g dX1_init_11 rfl ?_
  refine n_max (z := 40) g (by decide) (by decide) w_154 w_155 w_77 w_156 ⟨by decide, Nat.le_of_ble_eq_true rfl⟩ (by decide) dX1_init_12 ?_
  refine n_newa (at_ := .int) (fty := .int) (t := 0) (nn := 40) (sh2 := (SK 25)) (qn := 24) g rfl (fun _ => rfl) (by rw [skl_24]; omega) hb0 (by rw [skl_25]; omega) rfl (zSC_39 _ (by decide)) nc_0 (fun _ _ h => h) rfl w_147 (by decide) (by decide) dX1_init_15 ?_
  refine n_putF (r := 24) (S2 := SC40) g hnm KX1 rfl 0 rfl (by decide) rfl rfl rfl (fun _ => ⟨rfl, rfl⟩) w_157 eSC_40 dX1_init_17 ?_
  exact r_vret g dX1_init_20 rfl rfl
set_option maxRecDepth 20000 in
theorem iX1_init_3 : Con yX1_init cX1_init 2 none { frames := 1, cells := 1, slots := 40, locals := 24 } true (SK 26) ((SK 27), 1, 40) (fun b => [.ref (b + 25), vi 40]) SC41 (fun _ => oVS) id (some SC43) := by
  refine Con_of (fun b => [some (.ref (b + 25)), some (vi 40)]) (by decide) (fun _ => rfl) (fun _ => Nat.le_of_ble_eq_true rfl) ?_
  intro G g hz0 hnm hN
  have hz0 : gsz G = gb G + (SK 26).length := hz0 rfl
  have hb0 : gb G ≤ gsz G := by omega
  have hN : (SK 27).length ≤ gN G := hN
  rw [skl_26] at hz0
  rw [skl_27] at hN
  change Ok G cX1_init RX1 2 { frames := 1, cells := 1, slots := 40, locals := 24 } none at g
  change gmn G = "<init>" at hnm
  show Rg G oVS id ((SK 27), 1, 40) ((SK 26), 0, 0) SC41 0 [some (vr G 25), some (vi 40)] [] (some SC43)
  refine r_aload_n g dX1_init_0 rfl ?_
  refine n_obj (r := 25) g w_153 w_89 w_90 ⟨by decide, Nat.le_of_ble_eq_true rfl⟩ dX1_init_1 ?_
  refine r_aload_n g dX1_init_4 rfl ?_
  refine r_iconst g dX1_init_5 ?_
  refine n_putI (S2 := SC42) g KX1 rfl 1 rfl (by decide) rfl rfl w_161 eSC_42 dX1_init_6 ?_
  refine r_aload_n g dX1_init_9 rfl ?_
  refine r_iconst g dX1_init_10 ?_
  refine r_iload_n g dX1_init_11 rfl ?_
  refine n_max (z := 40) g (by decide) (by decide) w_154 w_155 w_77 w_156 ⟨by decide, Nat.le_of_ble_eq_true rfl⟩ (by decide) dX1_init_12 ?_
  refine n_newa (at_ := .int) (fty := .int) (t := 0) (nn := 40) (sh2 := (SK 27)) (qn := 26) g rfl (fun _ => rfl) (by rw [skl_26]; omega) hb0 (by rw [skl_27]; omega) rfl (zSC_42 _ (by decide)) nc_0 (fun _ _ h => h) rfl w_147 (by decide) (by decide) dX1_init_15 ?_
  refine n_putF (r := 26) (S2 := SC43) g hnm KX1 rfl 0 rfl (by decide) rfl rfl rfl (fun _ => ⟨rfl, rfl⟩) w_157 eSC_43 dX1_init_17 ?_
  exact r_vret g dX1_init_20 rfl rfl
set_option maxRecDepth 20000 in
theorem iX1_init_4 : Con yX1_init cX1_init 2 none { frames := 1, cells := 1, slots := 40, locals := 24 } true (SK 28) ((SK 29), 1, 40) (fun b => [.ref (b + 27), vi 40]) SC44 (fun _ => oVS) id (some SC46) := by
  refine Con_of (fun b => [some (.ref (b + 27)), some (vi 40)]) (by decide) (fun _ => rfl) (fun _ => Nat.le_of_ble_eq_true rfl) ?_
  intro G g hz0 hnm hN
  have hz0 : gsz G = gb G + (SK 28).length := hz0 rfl
  have hb0 : gb G ≤ gsz G := by omega
  have hN : (SK 29).length ≤ gN G := hN
  rw [skl_28] at hz0
  rw [skl_29] at hN
  change Ok G cX1_init RX1 2 { frames := 1, cells := 1, slots := 40, locals := 24 } none at g
  change gmn G = "<init>" at hnm
  show Rg G oVS id ((SK 29), 1, 40) ((SK 28), 0, 0) SC44 0 [some (vr G 27), some (vi 40)] [] (some SC46)
  refine r_aload_n g dX1_init_0 rfl ?_
  refine n_obj (r := 27) g w_153 w_89 w_90 ⟨by decide, Nat.le_of_ble_eq_true rfl⟩ dX1_init_1 ?_
  refine r_aload_n g dX1_init_4 rfl ?_
  refine r_iconst g dX1_init_5 ?_
  refine n_putI (S2 := SC45) g KX1 rfl 1 rfl (by decide) rfl rfl w_161 eSC_45 dX1_init_6 ?_
  refine r_aload_n g dX1_init_9 rfl ?_
  refine r_iconst g dX1_init_10 ?_
  refine r_iload_n g dX1_init_11 rfl ?_
  refine n_max (z := 40) g (by decide) (by decide) w_154 w_155 w_77 w_156 ⟨by decide, Nat.le_of_ble_eq_true rfl⟩ (by decide) dX1_init_12 ?_
  refine n_newa (at_ := .int) (fty := .int) (t := 0) (nn := 40) (sh2 := (SK 29)) (qn := 28) g rfl (fun _ => rfl) (by rw [skl_28]; omega) hb0 (by rw [skl_29]; omega) rfl (zSC_45 _ (by decide)) nc_0 (fun _ _ h => h) rfl w_147 (by decide) (by decide) dX1_init_15 ?_
  refine n_putF (r := 28) (S2 := SC46) g hnm KX1 rfl 0 rfl (by decide) rfl rfl rfl (fun _ => ⟨rfl, rfl⟩) w_157 eSC_46 dX1_init_17 ?_
  exact r_vret g dX1_init_20 rfl rfl
set_option maxRecDepth 20000 in
theorem iX1_init_5 : Con yX1_init cX1_init 2 none { frames := 1, cells := 1, slots := 40, locals := 24 } true (SK 30) ((SK 31), 1, 40) (fun b => [.ref (b + 29), vi 40]) SC47 (fun _ => oVS) id (some SC49) := by
  refine Con_of (fun b => [some (.ref (b + 29)), some (vi 40)]) (by decide) (fun _ => rfl) (fun _ => Nat.le_of_ble_eq_true rfl) ?_
  intro G g hz0 hnm hN
  have hz0 : gsz G = gb G + (SK 30).length := hz0 rfl
  have hb0 : gb G ≤ gsz G := by omega
  have hN : (SK 31).length ≤ gN G := hN
  rw [skl_30] at hz0
  rw [skl_31] at hN
  change Ok G cX1_init RX1 2 { frames := 1, cells := 1, slots := 40, locals := 24 } none at g
  change gmn G = "<init>" at hnm
  show Rg G oVS id ((SK 31), 1, 40) ((SK 30), 0, 0) SC47 0 [some (vr G 29), some (vi 40)] [] (some SC49)
  refine r_aload_n g dX1_init_0 rfl ?_
  refine n_obj (r := 29) g w_153 w_89 w_90 ⟨by decide, Nat.le_of_ble_eq_true rfl⟩ dX1_init_1 ?_
  refine r_aload_n g dX1_init_4 rfl ?_
  refine r_iconst g dX1_init_5 ?_
  refine n_putI (S2 := SC48) g KX1 rfl 1 rfl (by decide) rfl rfl w_161 eSC_48 dX1_init_6 ?_
  refine r_aload_n g dX1_init_9 rfl ?_
  refine r_iconst g dX1_init_10 ?_
  refine r_iload_n g dX1_init_11 rfl ?_
  refine n_max (z := 40) g (by decide) (by decide) w_154 w_155 w_77 w_156 ⟨by decide, Nat.le_of_ble_eq_true rfl⟩ (by decide) dX1_init_12 ?_
  refine n_newa (at_ := .int) (fty := .int) (t := 0) (nn := 40) (sh2 := (SK 31)) (qn := 30) g rfl (fun _ => rfl) (by rw [skl_30]; omega) hb0 (by rw [skl_31]; omega) rfl (zSC_48 _ (by decide)) nc_0 (fun _ _ h => h) rfl w_147 (by decide) (by decide) dX1_init_15 ?_
  refine n_putF (r := 30) (S2 := SC49) g hnm KX1 rfl 0 rfl (by decide) rfl rfl rfl (fun _ => ⟨rfl, rfl⟩) w_157 eSC_49 dX1_init_17 ?_
  exact r_vret g dX1_init_20 rfl rfl
set_option maxRecDepth 20000 in
theorem iX1_init_6 : Con yX1_init cX1_init 2 none { frames := 1, cells := 1, slots := 40, locals := 24 } true (SK 32) ((SK 33), 1, 40) (fun b => [.ref (b + 31), vi 40]) SC50 (fun _ => oVS) id (some SC52) := by
  refine Con_of (fun b => [some (.ref (b + 31)), some (vi 40)]) (by decide) (fun _ => rfl) (fun _ => Nat.le_of_ble_eq_true rfl) ?_
  intro G g hz0 hnm hN
  have hz0 : gsz G = gb G + (SK 32).length := hz0 rfl
  have hb0 : gb G ≤ gsz G := by omega
  have hN : (SK 33).length ≤ gN G := hN
  rw [skl_32] at hz0
  rw [skl_33] at hN
  change Ok G cX1_init RX1 2 { frames := 1, cells := 1, slots := 40, locals := 24 } none at g
  change gmn G = "<init>" at hnm
  show Rg G oVS id ((SK 33), 1, 40) ((SK 32), 0, 0) SC50 0 [some (vr G 31), some (vi 40)] [] (some SC52)
  refine r_aload_n g dX1_init_0 rfl ?_
  refine n_obj (r := 31) g w_153 w_89 w_90 ⟨by decide, Nat.le_of_ble_eq_true rfl⟩ dX1_init_1 ?_
  refine r_aload_n g dX1_init_4 rfl ?_
  refine r_iconst g dX1_init_5 ?_
  refine n_putI (S2 := SC51) g KX1 rfl 1 rfl (by decide) rfl rfl w_161 eSC_51 dX1_init_6 ?_
  refine r_aload_n g dX1_init_9 rfl ?_
  refine r_iconst g dX1_init_10 ?_
  refine r_iload_n g dX1_init_11 rfl ?_
  refine n_max (z := 40) g (by decide) (by decide) w_154 w_155 w_77 w_156 ⟨by decide, Nat.le_of_ble_eq_true rfl⟩ (by decide) dX1_init_12 ?_
  refine n_newa (at_ := .int) (fty := .int) (t := 0) (nn := 40) (sh2 := (SK 33)) (qn := 32) g rfl (fun _ => rfl) (by rw [skl_32]; omega) hb0 (by rw [skl_33]; omega) rfl (zSC_51 _ (by decide)) nc_0 (fun _ _ h => h) rfl w_147 (by decide) (by decide) dX1_init_15 ?_
  refine n_putF (r := 32) (S2 := SC52) g hnm KX1 rfl 0 rfl (by decide) rfl rfl rfl (fun _ => ⟨rfl, rfl⟩) w_157 eSC_52 dX1_init_17 ?_
  exact r_vret g dX1_init_20 rfl rfl
set_option maxRecDepth 20000 in
theorem iX1_init_7 : Con yX1_init cX1_init 2 none { frames := 1, cells := 1, slots := 40, locals := 24 } true (SK 34) ((SK 35), 1, 40) (fun b => [.ref (b + 33), vi 40]) SC53 (fun _ => oVS) id (some SC55) := by
  refine Con_of (fun b => [some (.ref (b + 33)), some (vi 40)]) (by decide) (fun _ => rfl) (fun _ => Nat.le_of_ble_eq_true rfl) ?_
  intro G g hz0 hnm hN
  have hz0 : gsz G = gb G + (SK 34).length := hz0 rfl
  have hb0 : gb G ≤ gsz G := by omega
  have hN : (SK 35).length ≤ gN G := hN
  rw [skl_34] at hz0
  rw [skl_35] at hN
  change Ok G cX1_init RX1 2 { frames := 1, cells := 1, slots := 40, locals := 24 } none at g
  change gmn G = "<init>" at hnm
  show Rg G oVS id ((SK 35), 1, 40) ((SK 34), 0, 0) SC53 0 [some (vr G 33), some (vi 40)] [] (some SC55)
  refine r_aload_n g dX1_init_0 rfl ?_
  refine n_obj (r := 33) g w_153 w_89 w_90 ⟨by decide, Nat.le_of_ble_eq_true rfl⟩ dX1_init_1 ?_
  refine r_aload_n g dX1_init_4 rfl ?_
  refine r_iconst g dX1_init_5 ?_
  refine n_putI (S2 := SC54) g KX1 rfl 1 rfl (by decide) rfl rfl w_161 eSC_54 dX1_init_6 ?_
  refine r_aload_n g dX1_init_9 rfl ?_
  refine r_iconst g dX1_init_10 ?_
  refine r_iload_n g dX1_init_11 rfl ?_
  refine n_max (z := 40) g (by decide) (by decide) w_154 w_155 w_77 w_156 ⟨by decide, Nat.le_of_ble_eq_true rfl⟩ (by decide) dX1_init_12 ?_
  refine n_newa (at_ := .int) (fty := .int) (t := 0) (nn := 40) (sh2 := (SK 35)) (qn := 34) g rfl (fun _ => rfl) (by rw [skl_34]; omega) hb0 (by rw [skl_35]; omega) rfl (zSC_54 _ (by decide)) nc_0 (fun _ _ h => h) rfl w_147 (by decide) (by decide) dX1_init_15 ?_
  refine n_putF (r := 34) (S2 := SC55) g hnm KX1 rfl 0 rfl (by decide) rfl rfl rfl (fun _ => ⟨rfl, rfl⟩) w_157 eSC_55 dX1_init_17 ?_
  exact r_vret g dX1_init_20 rfl rfl
set_option maxRecDepth 20000 in
theorem iX1_init_8 : Con yX1_init cX1_init 2 none { frames := 1, cells := 1, slots := 60, locals := 24 } true (SK 36) ((SK 37), 1, 60) (fun b => [.ref (b + 35), vi 60]) SC56 (fun _ => oVS) id (some SC58) := by
  refine Con_of (fun b => [some (.ref (b + 35)), some (vi 60)]) (by decide) (fun _ => rfl) (fun _ => Nat.le_of_ble_eq_true rfl) ?_
  intro G g hz0 hnm hN
  have hz0 : gsz G = gb G + (SK 36).length := hz0 rfl
  have hb0 : gb G ≤ gsz G := by omega
  have hN : (SK 37).length ≤ gN G := hN
  rw [skl_36] at hz0
  rw [skl_37] at hN
  change Ok G cX1_init RX1 2 { frames := 1, cells := 1, slots := 60, locals := 24 } none at g
  change gmn G = "<init>" at hnm
  show Rg G oVS id ((SK 37), 1, 60) ((SK 36), 0, 0) SC56 0 [some (vr G 35), some (vi 60)] [] (some SC58)
  refine r_aload_n g dX1_init_0 rfl ?_
  refine n_obj (r := 35) g w_153 w_89 w_90 ⟨by decide, Nat.le_of_ble_eq_true rfl⟩ dX1_init_1 ?_
  refine r_aload_n g dX1_init_4 rfl ?_
  refine r_iconst g dX1_init_5 ?_
  refine n_putI (S2 := SC57) g KX1 rfl 1 rfl (by decide) rfl rfl w_161 eSC_57 dX1_init_6 ?_
  refine r_aload_n g dX1_init_9 rfl ?_
  refine r_iconst g dX1_init_10 ?_
  refine r_iload_n g dX1_init_11 rfl ?_
  refine n_max (z := 60) g (by decide) (by decide) w_154 w_155 w_77 w_156 ⟨by decide, Nat.le_of_ble_eq_true rfl⟩ (by decide) dX1_init_12 ?_
  refine n_newa (at_ := .int) (fty := .int) (t := 0) (nn := 60) (sh2 := (SK 37)) (qn := 36) g rfl (fun _ => rfl) (by rw [skl_36]; omega) hb0 (by rw [skl_37]; omega) rfl (zSC_57 _ (by decide)) nc_0 (fun _ _ h => h) rfl w_147 (by decide) (by decide) dX1_init_15 ?_
  refine n_putF (r := 36) (S2 := SC58) g hnm KX1 rfl 0 rfl (by decide) rfl rfl rfl (fun _ => ⟨rfl, rfl⟩) w_157 eSC_58 dX1_init_17 ?_
  exact r_vret g dX1_init_20 rfl rfl
set_option maxRecDepth 20000 in
theorem iX1_init_9 : Con yX1_init cX1_init 2 none { frames := 1, cells := 1, slots := 60, locals := 24 } true (SK 38) ((SK 39), 1, 60) (fun b => [.ref (b + 37), vi 60]) SC59 (fun _ => oVS) id (some SC61) := by
  refine Con_of (fun b => [some (.ref (b + 37)), some (vi 60)]) (by decide) (fun _ => rfl) (fun _ => Nat.le_of_ble_eq_true rfl) ?_
  intro G g hz0 hnm hN
  have hz0 : gsz G = gb G + (SK 38).length := hz0 rfl
  have hb0 : gb G ≤ gsz G := by omega
  have hN : (SK 39).length ≤ gN G := hN
  rw [skl_38] at hz0
  rw [skl_39] at hN
  change Ok G cX1_init RX1 2 { frames := 1, cells := 1, slots := 60, locals := 24 } none at g
  change gmn G = "<init>" at hnm
  show Rg G oVS id ((SK 39), 1, 60) ((SK 38), 0, 0) SC59 0 [some (vr G 37), some (vi 60)] [] (some SC61)
  refine r_aload_n g dX1_init_0 rfl ?_
  refine n_obj (r := 37) g w_153 w_89 w_90 ⟨by decide, Nat.le_of_ble_eq_true rfl⟩ dX1_init_1 ?_
  refine r_aload_n g dX1_init_4 rfl ?_
  refine r_iconst g dX1_init_5 ?_
  refine n_putI (S2 := SC60) g KX1 rfl 1 rfl (by decide) rfl rfl w_161 eSC_60 dX1_init_6 ?_
  refine r_aload_n g dX1_init_9 rfl ?_
  refine r_iconst g dX1_init_10 ?_
  refine r_iload_n g dX1_init_11 rfl ?_
  refine n_max (z := 60) g (by decide) (by decide) w_154 w_155 w_77 w_156 ⟨by decide, Nat.le_of_ble_eq_true rfl⟩ (by decide) dX1_init_12 ?_
  refine n_newa (at_ := .int) (fty := .int) (t := 0) (nn := 60) (sh2 := (SK 39)) (qn := 38) g rfl (fun _ => rfl) (by rw [skl_38]; omega) hb0 (by rw [skl_39]; omega) rfl (zSC_60 _ (by decide)) nc_0 (fun _ _ h => h) rfl w_147 (by decide) (by decide) dX1_init_15 ?_
  refine n_putF (r := 38) (S2 := SC61) g hnm KX1 rfl 0 rfl (by decide) rfl rfl rfl (fun _ => ⟨rfl, rfl⟩) w_157 eSC_61 dX1_init_17 ?_
  exact r_vret g dX1_init_20 rfl rfl
set_option maxRecDepth 20000 in
theorem iX1_init_10 : Con yX1_init cX1_init 2 none { frames := 1, cells := 1, slots := 60, locals := 24 } true (SK 40) ((SK 41), 1, 60) (fun b => [.ref (b + 39), vi 60]) SC62 (fun _ => oVS) id (some SC64) := by
  refine Con_of (fun b => [some (.ref (b + 39)), some (vi 60)]) (by decide) (fun _ => rfl) (fun _ => Nat.le_of_ble_eq_true rfl) ?_
  intro G g hz0 hnm hN
  have hz0 : gsz G = gb G + (SK 40).length := hz0 rfl
  have hb0 : gb G ≤ gsz G := by omega
  have hN : (SK 41).length ≤ gN G := hN
  rw [skl_40] at hz0
  rw [skl_41] at hN
  change Ok G cX1_init RX1 2 { frames := 1, cells := 1, slots := 60, locals := 24 } none at g
  change gmn G = "<init>" at hnm
  show Rg G oVS id ((SK 41), 1, 60) ((SK 40), 0, 0) SC62 0 [some (vr G 39), some (vi 60)] [] (some SC64)
  refine r_aload_n g dX1_init_0 rfl ?_
  refine n_obj (r := 39) g w_153 w_89 w_90 ⟨by decide, Nat.le_of_ble_eq_true rfl⟩ dX1_init_1 ?_
  refine r_aload_n g dX1_init_4 rfl ?_
  refine r_iconst g dX1_init_5 ?_
  refine n_putI (S2 := SC63) g KX1 rfl 1 rfl (by decide) rfl rfl w_161 eSC_63 dX1_init_6 ?_
  refine r_aload_n g dX1_init_9 rfl ?_
  refine r_iconst g dX1_init_10 ?_
  refine r_iload_n g dX1_init_11 rfl ?_
  refine n_max (z := 60) g (by decide) (by decide) w_154 w_155 w_77 w_156 ⟨by decide, Nat.le_of_ble_eq_true rfl⟩ (by decide) dX1_init_12 ?_
  refine n_newa (at_ := .int) (fty := .int) (t := 0) (nn := 60) (sh2 := (SK 41)) (qn := 40) g rfl (fun _ => rfl) (by rw [skl_40]; omega) hb0 (by rw [skl_41]; omega) rfl (zSC_63 _ (by decide)) nc_0 (fun _ _ h => h) rfl w_147 (by decide) (by decide) dX1_init_15 ?_
  refine n_putF (r := 40) (S2 := SC64) g hnm KX1 rfl 0 rfl (by decide) rfl rfl rfl (fun _ => ⟨rfl, rfl⟩) w_157 eSC_64 dX1_init_17 ?_
  exact r_vret g dX1_init_20 rfl rfl
set_option maxRecDepth 20000 in
theorem iX1_init_11 : Con yX1_init cX1_init 2 none { frames := 1, cells := 1, slots := 60, locals := 24 } true (SK 42) ((SK 43), 1, 60) (fun b => [.ref (b + 41), vi 60]) SC65 (fun _ => oVS) id (some SC67) := by
  refine Con_of (fun b => [some (.ref (b + 41)), some (vi 60)]) (by decide) (fun _ => rfl) (fun _ => Nat.le_of_ble_eq_true rfl) ?_
  intro G g hz0 hnm hN
  have hz0 : gsz G = gb G + (SK 42).length := hz0 rfl
  have hb0 : gb G ≤ gsz G := by omega
  have hN : (SK 43).length ≤ gN G := hN
  rw [skl_42] at hz0
  rw [skl_43] at hN
  change Ok G cX1_init RX1 2 { frames := 1, cells := 1, slots := 60, locals := 24 } none at g
  change gmn G = "<init>" at hnm
  show Rg G oVS id ((SK 43), 1, 60) ((SK 42), 0, 0) SC65 0 [some (vr G 41), some (vi 60)] [] (some SC67)
  refine r_aload_n g dX1_init_0 rfl ?_
  refine n_obj (r := 41) g w_153 w_89 w_90 ⟨by decide, Nat.le_of_ble_eq_true rfl⟩ dX1_init_1 ?_
  refine r_aload_n g dX1_init_4 rfl ?_
  refine r_iconst g dX1_init_5 ?_
  refine n_putI (S2 := SC66) g KX1 rfl 1 rfl (by decide) rfl rfl w_161 eSC_66 dX1_init_6 ?_
  refine r_aload_n g dX1_init_9 rfl ?_
  refine r_iconst g dX1_init_10 ?_
  refine r_iload_n g dX1_init_11 rfl ?_
  refine n_max (z := 60) g (by decide) (by decide) w_154 w_155 w_77 w_156 ⟨by decide, Nat.le_of_ble_eq_true rfl⟩ (by decide) dX1_init_12 ?_
  refine n_newa (at_ := .int) (fty := .int) (t := 0) (nn := 60) (sh2 := (SK 43)) (qn := 42) g rfl (fun _ => rfl) (by rw [skl_42]; omega) hb0 (by rw [skl_43]; omega) rfl (zSC_66 _ (by decide)) nc_0 (fun _ _ h => h) rfl w_147 (by decide) (by decide) dX1_init_15 ?_
  refine n_putF (r := 42) (S2 := SC67) g hnm KX1 rfl 0 rfl (by decide) rfl rfl rfl (fun _ => ⟨rfl, rfl⟩) w_157 eSC_67 dX1_init_17 ?_
  exact r_vret g dX1_init_20 rfl rfl
set_option maxRecDepth 20000 in
theorem iX3_init_2 : Con yX3_init cX3_init 1 none { frames := 1, cells := 2, slots := 10, locals := 20 } true (SK 44) ((SK 46), 2, 10) (fun b => [.ref (b + 43)]) SC68 (fun _ => oVS) id (some SC75) := by
  refine Con_of (fun b => [some (.ref (b + 43))]) (by decide) (fun _ => rfl) (fun _ => Nat.le_of_ble_eq_true rfl) ?_
  intro G g hz0 hnm hN
  have hz0 : gsz G = gb G + (SK 44).length := hz0 rfl
  have hb0 : gb G ≤ gsz G := by omega
  have hN : (SK 46).length ≤ gN G := hN
  rw [skl_44] at hz0
  rw [skl_46] at hN
  change Ok G cX3_init RX3 1 { frames := 1, cells := 2, slots := 10, locals := 20 } none at g
  change gmn G = "<init>" at hnm
  show Rg G oVS id ((SK 46), 2, 10) ((SK 44), 0, 0) SC68 0 [some (vr G 43)] [] (some SC75)
  refine r_aload_n g dX3_init_0 rfl ?_
  refine n_obj (r := 43) g w_110 w_89 w_90 ⟨by decide, Nat.le_of_ble_eq_true rfl⟩ dX3_init_1 ?_
  refine r_aload_n g dX3_init_4 rfl ?_
  refine r_iconst g dX3_init_5 ?_
  refine n_newa (at_ := .int) (fty := .int) (t := 0) (nn := 5) (sh2 := (SK 45)) (qn := 44) g rfl (fun _ => rfl) (by rw [skl_44]; omega) hb0 (by rw [skl_45]; omega) rfl (zSC_68 _ (by decide)) nc_0 (fun _ _ h => h) rfl w_147 (by decide) (by decide) dX3_init_6 ?_
  refine n_putF (r := 44) (S2 := SC69) g hnm KX3 rfl 0 rfl (by decide) rfl rfl rfl (fun _ => ⟨rfl, rfl⟩) w_111 eSC_69 dX3_init_8 ?_
  refine r_aload_n g dX3_init_11 rfl ?_
  refine r_iconst g dX3_init_12 ?_
  refine n_newa (at_ := .int) (fty := .int) (t := 0) (nn := 5) (sh2 := (SK 46)) (qn := 45) g rfl (fun _ => rfl) (by rw [skl_45]; omega) hb0 (by rw [skl_46]; omega) rfl (zSC_69 _ (by decide)) nc_0 (fun _ _ h => h) rfl w_147 (by decide) (by decide) dX3_init_13 ?_
  refine n_putF (r := 45) (S2 := SC70) g hnm KX3 rfl 1 rfl (by decide) rfl rfl rfl (fun _ => ⟨rfl, rfl⟩) w_114 eSC_70 dX3_init_15 ?_
  refine r_aload_n g dX3_init_18 rfl ?_
  refine r_iconst g dX3_init_19 ?_
  refine n_putI (S2 := SC71) g KX3 rfl 2 rfl (by decide) rfl rfl w_117 eSC_71 dX3_init_20 ?_
  refine r_aload_n g dX3_init_23 rfl ?_
  refine r_iconst g dX3_init_24 ?_
  refine n_putI (S2 := SC72) g KX3 rfl 3 rfl (by decide) rfl rfl w_120 eSC_72 dX3_init_25 ?_
  refine r_aload_n g dX3_init_28 rfl ?_
  refine r_bipush g dX3_init_29 (by decide) ?_
  refine n_putI (S2 := SC73) g KX3 rfl 4 rfl (by decide) rfl rfl w_123 eSC_73 dX3_init_31 ?_
  refine r_aload_n g dX3_init_34 rfl ?_
  refine r_iconst g dX3_init_35 ?_
  refine n_putI (S2 := SC74) g KX3 rfl 5 rfl (by decide) rfl rfl w_126 eSC_74 dX3_init_36 ?_
  refine r_aload_n g dX3_init_39 rfl ?_
  refine r_iconst g dX3_init_40 ?_
  refine n_putI (S2 := SC75) g KX3 rfl 6 rfl (by decide) rfl rfl w_129 eSC_75 dX3_init_41 ?_
  exact r_vret g dX3_init_44 rfl rfl
set_option maxRecDepth 20000 in
theorem iX3_init_3 : Con yX3_init cX3_init 1 none { frames := 1, cells := 2, slots := 10, locals := 20 } true (SK 47) ((SK 49), 2, 10) (fun b => [.ref (b + 46)]) SC76 (fun _ => oVS) id (some SC83) := by
  refine Con_of (fun b => [some (.ref (b + 46))]) (by decide) (fun _ => rfl) (fun _ => Nat.le_of_ble_eq_true rfl) ?_
  intro G g hz0 hnm hN
  have hz0 : gsz G = gb G + (SK 47).length := hz0 rfl
  have hb0 : gb G ≤ gsz G := by omega
  have hN : (SK 49).length ≤ gN G := hN
  rw [skl_47] at hz0
  rw [skl_49] at hN
  change Ok G cX3_init RX3 1 { frames := 1, cells := 2, slots := 10, locals := 20 } none at g
  change gmn G = "<init>" at hnm
  show Rg G oVS id ((SK 49), 2, 10) ((SK 47), 0, 0) SC76 0 [some (vr G 46)] [] (some SC83)
  refine r_aload_n g dX3_init_0 rfl ?_
  refine n_obj (r := 46) g w_110 w_89 w_90 ⟨by decide, Nat.le_of_ble_eq_true rfl⟩ dX3_init_1 ?_
  refine r_aload_n g dX3_init_4 rfl ?_
  refine r_iconst g dX3_init_5 ?_
  refine n_newa (at_ := .int) (fty := .int) (t := 0) (nn := 5) (sh2 := (SK 48)) (qn := 47) g rfl (fun _ => rfl) (by rw [skl_47]; omega) hb0 (by rw [skl_48]; omega) rfl (zSC_76 _ (by decide)) nc_0 (fun _ _ h => h) rfl w_147 (by decide) (by decide) dX3_init_6 ?_
  refine n_putF (r := 47) (S2 := SC77) g hnm KX3 rfl 0 rfl (by decide) rfl rfl rfl (fun _ => ⟨rfl, rfl⟩) w_111 eSC_77 dX3_init_8 ?_
  refine r_aload_n g dX3_init_11 rfl ?_
  refine r_iconst g dX3_init_12 ?_
  refine n_newa (at_ := .int) (fty := .int) (t := 0) (nn := 5) (sh2 := (SK 49)) (qn := 48) g rfl (fun _ => rfl) (by rw [skl_48]; omega) hb0 (by rw [skl_49]; omega) rfl (zSC_77 _ (by decide)) nc_0 (fun _ _ h => h) rfl w_147 (by decide) (by decide) dX3_init_13 ?_
  refine n_putF (r := 48) (S2 := SC78) g hnm KX3 rfl 1 rfl (by decide) rfl rfl rfl (fun _ => ⟨rfl, rfl⟩) w_114 eSC_78 dX3_init_15 ?_
  refine r_aload_n g dX3_init_18 rfl ?_
  refine r_iconst g dX3_init_19 ?_
  refine n_putI (S2 := SC79) g KX3 rfl 2 rfl (by decide) rfl rfl w_117 eSC_79 dX3_init_20 ?_
  refine r_aload_n g dX3_init_23 rfl ?_
  refine r_iconst g dX3_init_24 ?_
  refine n_putI (S2 := SC80) g KX3 rfl 3 rfl (by decide) rfl rfl w_120 eSC_80 dX3_init_25 ?_
  refine r_aload_n g dX3_init_28 rfl ?_
  refine r_bipush g dX3_init_29 (by decide) ?_
  refine n_putI (S2 := SC81) g KX3 rfl 4 rfl (by decide) rfl rfl w_123 eSC_81 dX3_init_31 ?_
  refine r_aload_n g dX3_init_34 rfl ?_
  refine r_iconst g dX3_init_35 ?_
  refine n_putI (S2 := SC82) g KX3 rfl 5 rfl (by decide) rfl rfl w_126 eSC_82 dX3_init_36 ?_
  refine r_aload_n g dX3_init_39 rfl ?_
  refine r_iconst g dX3_init_40 ?_
  refine n_putI (S2 := SC83) g KX3 rfl 6 rfl (by decide) rfl rfl w_129 eSC_83 dX3_init_41 ?_
  exact r_vret g dX3_init_44 rfl rfl
set_option maxRecDepth 20000 in
theorem iX3_init_4 : Con yX3_init cX3_init 1 none { frames := 1, cells := 2, slots := 10, locals := 20 } true (SK 50) ((SK 52), 2, 10) (fun b => [.ref (b + 49)]) SC84 (fun _ => oVS) id (some SC91) := by
  refine Con_of (fun b => [some (.ref (b + 49))]) (by decide) (fun _ => rfl) (fun _ => Nat.le_of_ble_eq_true rfl) ?_
  intro G g hz0 hnm hN
  have hz0 : gsz G = gb G + (SK 50).length := hz0 rfl
  have hb0 : gb G ≤ gsz G := by omega
  have hN : (SK 52).length ≤ gN G := hN
  rw [skl_50] at hz0
  rw [skl_52] at hN
  change Ok G cX3_init RX3 1 { frames := 1, cells := 2, slots := 10, locals := 20 } none at g
  change gmn G = "<init>" at hnm
  show Rg G oVS id ((SK 52), 2, 10) ((SK 50), 0, 0) SC84 0 [some (vr G 49)] [] (some SC91)
  refine r_aload_n g dX3_init_0 rfl ?_
  refine n_obj (r := 49) g w_110 w_89 w_90 ⟨by decide, Nat.le_of_ble_eq_true rfl⟩ dX3_init_1 ?_
  refine r_aload_n g dX3_init_4 rfl ?_
  refine r_iconst g dX3_init_5 ?_
  refine n_newa (at_ := .int) (fty := .int) (t := 0) (nn := 5) (sh2 := (SK 51)) (qn := 50) g rfl (fun _ => rfl) (by rw [skl_50]; omega) hb0 (by rw [skl_51]; omega) rfl (zSC_84 _ (by decide)) nc_0 (fun _ _ h => h) rfl w_147 (by decide) (by decide) dX3_init_6 ?_
  refine n_putF (r := 50) (S2 := SC85) g hnm KX3 rfl 0 rfl (by decide) rfl rfl rfl (fun _ => ⟨rfl, rfl⟩) w_111 eSC_85 dX3_init_8 ?_
  refine r_aload_n g dX3_init_11 rfl ?_
  refine r_iconst g dX3_init_12 ?_
  refine n_newa (at_ := .int) (fty := .int) (t := 0) (nn := 5) (sh2 := (SK 52)) (qn := 51) g rfl (fun _ => rfl) (by rw [skl_51]; omega) hb0 (by rw [skl_52]; omega) rfl (zSC_85 _ (by decide)) nc_0 (fun _ _ h => h) rfl w_147 (by decide) (by decide) dX3_init_13 ?_
  refine n_putF (r := 51) (S2 := SC86) g hnm KX3 rfl 1 rfl (by decide) rfl rfl rfl (fun _ => ⟨rfl, rfl⟩) w_114 eSC_86 dX3_init_15 ?_
  refine r_aload_n g dX3_init_18 rfl ?_
  refine r_iconst g dX3_init_19 ?_
  refine n_putI (S2 := SC87) g KX3 rfl 2 rfl (by decide) rfl rfl w_117 eSC_87 dX3_init_20 ?_
  refine r_aload_n g dX3_init_23 rfl ?_
  refine r_iconst g dX3_init_24 ?_
  refine n_putI (S2 := SC88) g KX3 rfl 3 rfl (by decide) rfl rfl w_120 eSC_88 dX3_init_25 ?_
  refine r_aload_n g dX3_init_28 rfl ?_
  refine r_bipush g dX3_init_29 (by decide) ?_
  refine n_putI (S2 := SC89) g KX3 rfl 4 rfl (by decide) rfl rfl w_123 eSC_89 dX3_init_31 ?_
  refine r_aload_n g dX3_init_34 rfl ?_
  refine r_iconst g dX3_init_35 ?_
  refine n_putI (S2 := SC90) g KX3 rfl 5 rfl (by decide) rfl rfl w_126 eSC_90 dX3_init_36 ?_
  refine r_aload_n g dX3_init_39 rfl ?_
  refine r_iconst g dX3_init_40 ?_
  refine n_putI (S2 := SC91) g KX3 rfl 6 rfl (by decide) rfl rfl w_129 eSC_91 dX3_init_41 ?_
  exact r_vret g dX3_init_44 rfl rfl
set_option maxRecDepth 20000 in
theorem iX3_init_5 : Con yX3_init cX3_init 1 none { frames := 1, cells := 2, slots := 10, locals := 20 } true (SK 53) ((SK 55), 2, 10) (fun b => [.ref (b + 52)]) SC92 (fun _ => oVS) id (some SC99) := by
  refine Con_of (fun b => [some (.ref (b + 52))]) (by decide) (fun _ => rfl) (fun _ => Nat.le_of_ble_eq_true rfl) ?_
  intro G g hz0 hnm hN
  have hz0 : gsz G = gb G + (SK 53).length := hz0 rfl
  have hb0 : gb G ≤ gsz G := by omega
  have hN : (SK 55).length ≤ gN G := hN
  rw [skl_53] at hz0
  rw [skl_55] at hN
  change Ok G cX3_init RX3 1 { frames := 1, cells := 2, slots := 10, locals := 20 } none at g
  change gmn G = "<init>" at hnm
  show Rg G oVS id ((SK 55), 2, 10) ((SK 53), 0, 0) SC92 0 [some (vr G 52)] [] (some SC99)
  refine r_aload_n g dX3_init_0 rfl ?_
  refine n_obj (r := 52) g w_110 w_89 w_90 ⟨by decide, Nat.le_of_ble_eq_true rfl⟩ dX3_init_1 ?_
  refine r_aload_n g dX3_init_4 rfl ?_
  refine r_iconst g dX3_init_5 ?_
  refine n_newa (at_ := .int) (fty := .int) (t := 0) (nn := 5) (sh2 := (SK 54)) (qn := 53) g rfl (fun _ => rfl) (by rw [skl_53]; omega) hb0 (by rw [skl_54]; omega) rfl (zSC_92 _ (by decide)) nc_0 (fun _ _ h => h) rfl w_147 (by decide) (by decide) dX3_init_6 ?_
  refine n_putF (r := 53) (S2 := SC93) g hnm KX3 rfl 0 rfl (by decide) rfl rfl rfl (fun _ => ⟨rfl, rfl⟩) w_111 eSC_93 dX3_init_8 ?_
  refine r_aload_n g dX3_init_11 rfl ?_
  refine r_iconst g dX3_init_12 ?_
  refine n_newa (at_ := .int) (fty := .int) (t := 0) (nn := 5) (sh2 := (SK 55)) (qn := 54) g rfl (fun _ => rfl) (by rw [skl_54]; omega) hb0 (by rw [skl_55]; omega) rfl (zSC_93 _ (by decide)) nc_0 (fun _ _ h => h) rfl w_147 (by decide) (by decide) dX3_init_13 ?_
  refine n_putF (r := 54) (S2 := SC94) g hnm KX3 rfl 1 rfl (by decide) rfl rfl rfl (fun _ => ⟨rfl, rfl⟩) w_114 eSC_94 dX3_init_15 ?_
  refine r_aload_n g dX3_init_18 rfl ?_
  refine r_iconst g dX3_init_19 ?_
  refine n_putI (S2 := SC95) g KX3 rfl 2 rfl (by decide) rfl rfl w_117 eSC_95 dX3_init_20 ?_
  refine r_aload_n g dX3_init_23 rfl ?_
  refine r_iconst g dX3_init_24 ?_
  refine n_putI (S2 := SC96) g KX3 rfl 3 rfl (by decide) rfl rfl w_120 eSC_96 dX3_init_25 ?_
  refine r_aload_n g dX3_init_28 rfl ?_
  refine r_bipush g dX3_init_29 (by decide) ?_
  refine n_putI (S2 := SC97) g KX3 rfl 4 rfl (by decide) rfl rfl w_123 eSC_97 dX3_init_31 ?_
  refine r_aload_n g dX3_init_34 rfl ?_
  refine r_iconst g dX3_init_35 ?_
  refine n_putI (S2 := SC98) g KX3 rfl 5 rfl (by decide) rfl rfl w_126 eSC_98 dX3_init_36 ?_
  refine r_aload_n g dX3_init_39 rfl ?_
  refine r_iconst g dX3_init_40 ?_
  refine n_putI (S2 := SC99) g KX3 rfl 6 rfl (by decide) rfl rfl w_129 eSC_99 dX3_init_41 ?_
  exact r_vret g dX3_init_44 rfl rfl
set_option maxRecDepth 20000 in
theorem iX3_init_6 : Con yX3_init cX3_init 1 none { frames := 1, cells := 2, slots := 10, locals := 20 } true (SK 56) ((SK 58), 2, 10) (fun b => [.ref (b + 55)]) SC100 (fun _ => oVS) id (some SC107) := by
  refine Con_of (fun b => [some (.ref (b + 55))]) (by decide) (fun _ => rfl) (fun _ => Nat.le_of_ble_eq_true rfl) ?_
  intro G g hz0 hnm hN
  have hz0 : gsz G = gb G + (SK 56).length := hz0 rfl
  have hb0 : gb G ≤ gsz G := by omega
  have hN : (SK 58).length ≤ gN G := hN
  rw [skl_56] at hz0
  rw [skl_58] at hN
  change Ok G cX3_init RX3 1 { frames := 1, cells := 2, slots := 10, locals := 20 } none at g
  change gmn G = "<init>" at hnm
  show Rg G oVS id ((SK 58), 2, 10) ((SK 56), 0, 0) SC100 0 [some (vr G 55)] [] (some SC107)
  refine r_aload_n g dX3_init_0 rfl ?_
  refine n_obj (r := 55) g w_110 w_89 w_90 ⟨by decide, Nat.le_of_ble_eq_true rfl⟩ dX3_init_1 ?_
  refine r_aload_n g dX3_init_4 rfl ?_
  refine r_iconst g dX3_init_5 ?_
  refine n_newa (at_ := .int) (fty := .int) (t := 0) (nn := 5) (sh2 := (SK 57)) (qn := 56) g rfl (fun _ => rfl) (by rw [skl_56]; omega) hb0 (by rw [skl_57]; omega) rfl (zSC_100 _ (by decide)) nc_0 (fun _ _ h => h) rfl w_147 (by decide) (by decide) dX3_init_6 ?_
  refine n_putF (r := 56) (S2 := SC101) g hnm KX3 rfl 0 rfl (by decide) rfl rfl rfl (fun _ => ⟨rfl, rfl⟩) w_111 eSC_101 dX3_init_8 ?_
  refine r_aload_n g dX3_init_11 rfl ?_
  refine r_iconst g dX3_init_12 ?_
  refine n_newa (at_ := .int) (fty := .int) (t := 0) (nn := 5) (sh2 := (SK 58)) (qn := 57) g rfl (fun _ => rfl) (by rw [skl_57]; omega) hb0 (by rw [skl_58]; omega) rfl (zSC_101 _ (by decide)) nc_0 (fun _ _ h => h) rfl w_147 (by decide) (by decide) dX3_init_13 ?_
  refine n_putF (r := 57) (S2 := SC102) g hnm KX3 rfl 1 rfl (by decide) rfl rfl rfl (fun _ => ⟨rfl, rfl⟩) w_114 eSC_102 dX3_init_15 ?_
  refine r_aload_n g dX3_init_18 rfl ?_
  refine r_iconst g dX3_init_19 ?_
  refine n_putI (S2 := SC103) g KX3 rfl 2 rfl (by decide) rfl rfl w_117 eSC_103 dX3_init_20 ?_
  refine r_aload_n g dX3_init_23 rfl ?_
  refine r_iconst g dX3_init_24 ?_
  refine n_putI (S2 := SC104) g KX3 rfl 3 rfl (by decide) rfl rfl w_120 eSC_104 dX3_init_25 ?_
  refine r_aload_n g dX3_init_28 rfl ?_
  refine r_bipush g dX3_init_29 (by decide) ?_
  refine n_putI (S2 := SC105) g KX3 rfl 4 rfl (by decide) rfl rfl w_123 eSC_105 dX3_init_31 ?_
  refine r_aload_n g dX3_init_34 rfl ?_
  refine r_iconst g dX3_init_35 ?_
  refine n_putI (S2 := SC106) g KX3 rfl 5 rfl (by decide) rfl rfl w_126 eSC_106 dX3_init_36 ?_
  refine r_aload_n g dX3_init_39 rfl ?_
  refine r_iconst g dX3_init_40 ?_
  refine n_putI (S2 := SC107) g KX3 rfl 6 rfl (by decide) rfl rfl w_129 eSC_107 dX3_init_41 ?_
  exact r_vret g dX3_init_44 rfl rfl
set_option maxRecDepth 20000 in
theorem iX3_init_7 : Con yX3_init cX3_init 1 none { frames := 1, cells := 2, slots := 10, locals := 20 } true (SK 59) ((SK 61), 2, 10) (fun b => [.ref (b + 58)]) SC108 (fun _ => oVS) id (some SC115) := by
  refine Con_of (fun b => [some (.ref (b + 58))]) (by decide) (fun _ => rfl) (fun _ => Nat.le_of_ble_eq_true rfl) ?_
  intro G g hz0 hnm hN
  have hz0 : gsz G = gb G + (SK 59).length := hz0 rfl
  have hb0 : gb G ≤ gsz G := by omega
  have hN : (SK 61).length ≤ gN G := hN
  rw [skl_59] at hz0
  rw [skl_61] at hN
  change Ok G cX3_init RX3 1 { frames := 1, cells := 2, slots := 10, locals := 20 } none at g
  change gmn G = "<init>" at hnm
  show Rg G oVS id ((SK 61), 2, 10) ((SK 59), 0, 0) SC108 0 [some (vr G 58)] [] (some SC115)
  refine r_aload_n g dX3_init_0 rfl ?_
  refine n_obj (r := 58) g w_110 w_89 w_90 ⟨by decide, Nat.le_of_ble_eq_true rfl⟩ dX3_init_1 ?_
  refine r_aload_n g dX3_init_4 rfl ?_
  refine r_iconst g dX3_init_5 ?_
  refine n_newa (at_ := .int) (fty := .int) (t := 0) (nn := 5) (sh2 := (SK 60)) (qn := 59) g rfl (fun _ => rfl) (by rw [skl_59]; omega) hb0 (by rw [skl_60]; omega) rfl (zSC_108 _ (by decide)) nc_0 (fun _ _ h => h) rfl w_147 (by decide) (by decide) dX3_init_6 ?_
  refine n_putF (r := 59) (S2 := SC109) g hnm KX3 rfl 0 rfl (by decide) rfl rfl rfl (fun _ => ⟨rfl, rfl⟩) w_111 eSC_109 dX3_init_8 ?_
  refine r_aload_n g dX3_init_11 rfl ?_
  refine r_iconst g dX3_init_12 ?_
  refine n_newa (at_ := .int) (fty := .int) (t := 0) (nn := 5) (sh2 := (SK 61)) (qn := 60) g rfl (fun _ => rfl) (by rw [skl_60]; omega) hb0 (by rw [skl_61]; omega) rfl (zSC_109 _ (by decide)) nc_0 (fun _ _ h => h) rfl w_147 (by decide) (by decide) dX3_init_13 ?_
  refine n_putF (r := 60) (S2 := SC110) g hnm KX3 rfl 1 rfl (by decide) rfl rfl rfl (fun _ => ⟨rfl, rfl⟩) w_114 eSC_110 dX3_init_15 ?_
  refine r_aload_n g dX3_init_18 rfl ?_
  refine r_iconst g dX3_init_19 ?_
  refine n_putI (S2 := SC111) g KX3 rfl 2 rfl (by decide) rfl rfl w_117 eSC_111 dX3_init_20 ?_
  refine r_aload_n g dX3_init_23 rfl ?_
  refine r_iconst g dX3_init_24 ?_
  refine n_putI (S2 := SC112) g KX3 rfl 3 rfl (by decide) rfl rfl w_120 eSC_112 dX3_init_25 ?_
  refine r_aload_n g dX3_init_28 rfl ?_
  refine r_bipush g dX3_init_29 (by decide) ?_
  refine n_putI (S2 := SC113) g KX3 rfl 4 rfl (by decide) rfl rfl w_123 eSC_113 dX3_init_31 ?_
  refine r_aload_n g dX3_init_34 rfl ?_
  refine r_iconst g dX3_init_35 ?_
  refine n_putI (S2 := SC114) g KX3 rfl 5 rfl (by decide) rfl rfl w_126 eSC_114 dX3_init_36 ?_
  refine r_aload_n g dX3_init_39 rfl ?_
  refine r_iconst g dX3_init_40 ?_
  refine n_putI (S2 := SC115) g KX3 rfl 6 rfl (by decide) rfl rfl w_129 eSC_115 dX3_init_41 ?_
  exact r_vret g dX3_init_44 rfl rfl
set_option maxRecDepth 20000 in
theorem iX2_init_1 : Con yX2_init cX2_init 1 none { frames := 1, cells := 0, slots := 0, locals := 20 } true (SK 62) ((SK 62), 0, 0) (fun b => [.ref (b + 61)]) SC116 (fun _ => oVS) id (some SC123) := by
  refine Con_of (fun b => [some (.ref (b + 61))]) (by decide) (fun _ => rfl) (fun _ => Nat.le_of_ble_eq_true rfl) ?_
  intro G g hz0 hnm hN
  have hz0 : gsz G = gb G + (SK 62).length := hz0 rfl
  have hb0 : gb G ≤ gsz G := by omega
  have hN : (SK 62).length ≤ gN G := hN
  rw [skl_62] at hz0
  rw [skl_62] at hN
  change Ok G cX2_init RX2 1 { frames := 1, cells := 0, slots := 0, locals := 20 } none at g
  change gmn G = "<init>" at hnm
  show Rg G oVS id ((SK 62), 0, 0) ((SK 62), 0, 0) SC116 0 [some (vr G 61)] [] (some SC123)
  refine r_aload_n g dX2_init_0 rfl ?_
  refine n_obj (r := 61) g w_242 w_89 w_90 ⟨by decide, Nat.le_of_ble_eq_true rfl⟩ dX2_init_1 ?_
  refine r_aload_n g dX2_init_4 rfl ?_
  refine r_iconst g dX2_init_5 ?_
  refine n_putI (S2 := SC117) g KX2 rfl 0 rfl (by decide) rfl rfl w_243 eSC_117 dX2_init_6 ?_
  refine r_aload_n g dX2_init_9 rfl ?_
  refine r_iconst g dX2_init_10 ?_
  refine n_putI (S2 := SC118) g KX2 rfl 1 rfl (by decide) rfl rfl w_245 eSC_118 dX2_init_11 ?_
  refine r_aload_n g dX2_init_14 rfl ?_
  refine r_iconst g dX2_init_15 ?_
  refine n_putI (S2 := SC119) g KX2 rfl 2 rfl (by decide) rfl rfl w_247 eSC_119 dX2_init_16 ?_
  refine r_aload_n g dX2_init_19 rfl ?_
  refine r_iconst g dX2_init_20 ?_
  refine n_putI (S2 := SC120) g KX2 rfl 3 rfl (by decide) rfl rfl w_249 eSC_120 dX2_init_21 ?_
  refine r_aload_n g dX2_init_24 rfl ?_
  refine r_iconst g dX2_init_25 ?_
  refine n_putI (S2 := SC121) g KX2 rfl 4 rfl (by decide) rfl rfl w_252 eSC_121 dX2_init_26 ?_
  refine r_aload_n g dX2_init_29 rfl ?_
  refine r_iconst g dX2_init_30 ?_
  refine n_putI (S2 := SC122) g KX2 rfl 5 rfl (by decide) rfl rfl w_255 eSC_122 dX2_init_31 ?_
  refine r_aload_n g dX2_init_34 rfl ?_
  refine r_iconst g dX2_init_35 ?_
  refine n_putI (S2 := SC123) g KX2 rfl 6 rfl (by decide) rfl rfl w_257 eSC_123 dX2_init_36 ?_
  exact r_vret g dX2_init_39 rfl rfl
set_option maxRecDepth 20000 in
theorem iX2_init_2 : Con yX2_init cX2_init 1 none { frames := 1, cells := 0, slots := 0, locals := 20 } true (SK 63) ((SK 63), 0, 0) (fun b => [.ref (b + 62)]) SC124 (fun _ => oVS) id (some SC131) := by
  refine Con_of (fun b => [some (.ref (b + 62))]) (by decide) (fun _ => rfl) (fun _ => Nat.le_of_ble_eq_true rfl) ?_
  intro G g hz0 hnm hN
  have hz0 : gsz G = gb G + (SK 63).length := hz0 rfl
  have hb0 : gb G ≤ gsz G := by omega
  have hN : (SK 63).length ≤ gN G := hN
  rw [skl_63] at hz0
  rw [skl_63] at hN
  change Ok G cX2_init RX2 1 { frames := 1, cells := 0, slots := 0, locals := 20 } none at g
  change gmn G = "<init>" at hnm
  show Rg G oVS id ((SK 63), 0, 0) ((SK 63), 0, 0) SC124 0 [some (vr G 62)] [] (some SC131)
  refine r_aload_n g dX2_init_0 rfl ?_
  refine n_obj (r := 62) g w_242 w_89 w_90 ⟨by decide, Nat.le_of_ble_eq_true rfl⟩ dX2_init_1 ?_
  refine r_aload_n g dX2_init_4 rfl ?_
  refine r_iconst g dX2_init_5 ?_
  refine n_putI (S2 := SC125) g KX2 rfl 0 rfl (by decide) rfl rfl w_243 eSC_125 dX2_init_6 ?_
  refine r_aload_n g dX2_init_9 rfl ?_
  refine r_iconst g dX2_init_10 ?_
  refine n_putI (S2 := SC126) g KX2 rfl 1 rfl (by decide) rfl rfl w_245 eSC_126 dX2_init_11 ?_
  refine r_aload_n g dX2_init_14 rfl ?_
  refine r_iconst g dX2_init_15 ?_
  refine n_putI (S2 := SC127) g KX2 rfl 2 rfl (by decide) rfl rfl w_247 eSC_127 dX2_init_16 ?_
  refine r_aload_n g dX2_init_19 rfl ?_
  refine r_iconst g dX2_init_20 ?_
  refine n_putI (S2 := SC128) g KX2 rfl 3 rfl (by decide) rfl rfl w_249 eSC_128 dX2_init_21 ?_
  refine r_aload_n g dX2_init_24 rfl ?_
  refine r_iconst g dX2_init_25 ?_
  refine n_putI (S2 := SC129) g KX2 rfl 4 rfl (by decide) rfl rfl w_252 eSC_129 dX2_init_26 ?_
  refine r_aload_n g dX2_init_29 rfl ?_
  refine r_iconst g dX2_init_30 ?_
  refine n_putI (S2 := SC130) g KX2 rfl 5 rfl (by decide) rfl rfl w_255 eSC_130 dX2_init_31 ?_
  refine r_aload_n g dX2_init_34 rfl ?_
  refine r_iconst g dX2_init_35 ?_
  refine n_putI (S2 := SC131) g KX2 rfl 6 rfl (by decide) rfl rfl w_257 eSC_131 dX2_init_36 ?_
  exact r_vret g dX2_init_39 rfl rfl
set_option maxRecDepth 20000 in
theorem iX2_init_3 : Con yX2_init cX2_init 1 none { frames := 1, cells := 0, slots := 0, locals := 20 } true (SK 64) ((SK 64), 0, 0) (fun b => [.ref (b + 63)]) SC132 (fun _ => oVS) id (some SC139) := by
  refine Con_of (fun b => [some (.ref (b + 63))]) (by decide) (fun _ => rfl) (fun _ => Nat.le_of_ble_eq_true rfl) ?_
  intro G g hz0 hnm hN
  have hz0 : gsz G = gb G + (SK 64).length := hz0 rfl
  have hb0 : gb G ≤ gsz G := by omega
  have hN : (SK 64).length ≤ gN G := hN
  rw [skl_64] at hz0
  rw [skl_64] at hN
  change Ok G cX2_init RX2 1 { frames := 1, cells := 0, slots := 0, locals := 20 } none at g
  change gmn G = "<init>" at hnm
  show Rg G oVS id ((SK 64), 0, 0) ((SK 64), 0, 0) SC132 0 [some (vr G 63)] [] (some SC139)
  refine r_aload_n g dX2_init_0 rfl ?_
  refine n_obj (r := 63) g w_242 w_89 w_90 ⟨by decide, Nat.le_of_ble_eq_true rfl⟩ dX2_init_1 ?_
  refine r_aload_n g dX2_init_4 rfl ?_
  refine r_iconst g dX2_init_5 ?_
  refine n_putI (S2 := SC133) g KX2 rfl 0 rfl (by decide) rfl rfl w_243 eSC_133 dX2_init_6 ?_
  refine r_aload_n g dX2_init_9 rfl ?_
  refine r_iconst g dX2_init_10 ?_
  refine n_putI (S2 := SC134) g KX2 rfl 1 rfl (by decide) rfl rfl w_245 eSC_134 dX2_init_11 ?_
  refine r_aload_n g dX2_init_14 rfl ?_
  refine r_iconst g dX2_init_15 ?_
  refine n_putI (S2 := SC135) g KX2 rfl 2 rfl (by decide) rfl rfl w_247 eSC_135 dX2_init_16 ?_
  refine r_aload_n g dX2_init_19 rfl ?_
  refine r_iconst g dX2_init_20 ?_
  refine n_putI (S2 := SC136) g KX2 rfl 3 rfl (by decide) rfl rfl w_249 eSC_136 dX2_init_21 ?_
  refine r_aload_n g dX2_init_24 rfl ?_
  refine r_iconst g dX2_init_25 ?_
  refine n_putI (S2 := SC137) g KX2 rfl 4 rfl (by decide) rfl rfl w_252 eSC_137 dX2_init_26 ?_
  refine r_aload_n g dX2_init_29 rfl ?_
  refine r_iconst g dX2_init_30 ?_
  refine n_putI (S2 := SC138) g KX2 rfl 5 rfl (by decide) rfl rfl w_255 eSC_138 dX2_init_31 ?_
  refine r_aload_n g dX2_init_34 rfl ?_
  refine r_iconst g dX2_init_35 ?_
  refine n_putI (S2 := SC139) g KX2 rfl 6 rfl (by decide) rfl rfl w_257 eSC_139 dX2_init_36 ?_
  exact r_vret g dX2_init_39 rfl rfl
set_option maxRecDepth 20000 in
theorem iX2_init_4 : Con yX2_init cX2_init 1 none { frames := 1, cells := 0, slots := 0, locals := 20 } true (SK 65) ((SK 65), 0, 0) (fun b => [.ref (b + 64)]) SC140 (fun _ => oVS) id (some SC147) := by
  refine Con_of (fun b => [some (.ref (b + 64))]) (by decide) (fun _ => rfl) (fun _ => Nat.le_of_ble_eq_true rfl) ?_
  intro G g hz0 hnm hN
  have hz0 : gsz G = gb G + (SK 65).length := hz0 rfl
  have hb0 : gb G ≤ gsz G := by omega
  have hN : (SK 65).length ≤ gN G := hN
  rw [skl_65] at hz0
  rw [skl_65] at hN
  change Ok G cX2_init RX2 1 { frames := 1, cells := 0, slots := 0, locals := 20 } none at g
  change gmn G = "<init>" at hnm
  show Rg G oVS id ((SK 65), 0, 0) ((SK 65), 0, 0) SC140 0 [some (vr G 64)] [] (some SC147)
  refine r_aload_n g dX2_init_0 rfl ?_
  refine n_obj (r := 64) g w_242 w_89 w_90 ⟨by decide, Nat.le_of_ble_eq_true rfl⟩ dX2_init_1 ?_
  refine r_aload_n g dX2_init_4 rfl ?_
  refine r_iconst g dX2_init_5 ?_
  refine n_putI (S2 := SC141) g KX2 rfl 0 rfl (by decide) rfl rfl w_243 eSC_141 dX2_init_6 ?_
  refine r_aload_n g dX2_init_9 rfl ?_
  refine r_iconst g dX2_init_10 ?_
  refine n_putI (S2 := SC142) g KX2 rfl 1 rfl (by decide) rfl rfl w_245 eSC_142 dX2_init_11 ?_
  refine r_aload_n g dX2_init_14 rfl ?_
  refine r_iconst g dX2_init_15 ?_
  refine n_putI (S2 := SC143) g KX2 rfl 2 rfl (by decide) rfl rfl w_247 eSC_143 dX2_init_16 ?_
  refine r_aload_n g dX2_init_19 rfl ?_
  refine r_iconst g dX2_init_20 ?_
  refine n_putI (S2 := SC144) g KX2 rfl 3 rfl (by decide) rfl rfl w_249 eSC_144 dX2_init_21 ?_
  refine r_aload_n g dX2_init_24 rfl ?_
  refine r_iconst g dX2_init_25 ?_
  refine n_putI (S2 := SC145) g KX2 rfl 4 rfl (by decide) rfl rfl w_252 eSC_145 dX2_init_26 ?_
  refine r_aload_n g dX2_init_29 rfl ?_
  refine r_iconst g dX2_init_30 ?_
  refine n_putI (S2 := SC146) g KX2 rfl 5 rfl (by decide) rfl rfl w_255 eSC_146 dX2_init_31 ?_
  refine r_aload_n g dX2_init_34 rfl ?_
  refine r_iconst g dX2_init_35 ?_
  refine n_putI (S2 := SC147) g KX2 rfl 6 rfl (by decide) rfl rfl w_257 eSC_147 dX2_init_36 ?_
  exact r_vret g dX2_init_39 rfl rfl
