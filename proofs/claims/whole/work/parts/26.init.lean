set_option maxHeartbeats 4000000 in
set_option maxRecDepth 20000 in
theorem iX5_init_1 : Con yX5_init cX5_init 2 none { frames := 3, cells := 64, slots := 732, locals := 65 } true (SK 1) ((SK 65), 64, 732) (fun b => [.ref (b + 0)]) SC0 (fun _ => oVS) id (some SC149) := by
  refine Con_of (fun b => [some (.ref (b + 0)), none]) (by decide) (fun _ => rfl) (fun _ => Nat.le_of_ble_eq_true rfl) ?_
  intro G g hz0 hnm hN
  have hz0 : gsz G = gb G + (SK 1).length := hz0 rfl
  have hb0 : gb G ≤ gsz G := by omega
  have hN : (SK 65).length ≤ gN G := hN
  rw [skl_1] at hz0
  rw [skl_65] at hN
  change Ok G cX5_init RX5 2 { frames := 3, cells := 64, slots := 732, locals := 65 } none at g
  change gmn G = "<init>" at hnm
  show Rg G oVS id ((SK 65), 64, 732) ((SK 1), 0, 0) SC0 0 [some (vr G 0), none] [] (some SC149)
  refine r_aload_n g dX5_init_0 rfl ?_
  refine n_obj (r := 0) g w_88 w_89 w_90 ⟨by decide, Nat.le_of_ble_eq_true rfl⟩ dX5_init_1 ?_
  refine r_aload_n g dX5_init_4 rfl ?_
  refine r_bipush g dX5_init_5 (by decide) ?_
  refine n_newr (t := 0) (nn := 6) (sh2 := (SK 2)) (qn := 1) g (by decide) (fun _ => rfl) (by rw [skl_1]; omega) hb0 (by rw [skl_2]; omega) rfl (zSC_0 _ (by decide)) rfl w_91 (by decide) (by decide) dX5_init_7 ?_
  refine n_putF (r := 1) (S2 := SC1) g hnm KX5 rfl 0 rfl (by decide) rfl rfl rfl (fun _ => ⟨rfl, rfl⟩) w_274 eSC_1 dX5_init_10 ?_
  refine r_aload_n g dX5_init_13 rfl ?_
  refine r_iconst g dX5_init_14 ?_
  refine n_newr (t := 0) (nn := 4) (sh2 := (SK 3)) (qn := 2) g (by decide) (fun _ => rfl) (by rw [skl_2]; omega) hb0 (by rw [skl_3]; omega) rfl (zSC_1 _ (by decide)) rfl w_91 (by decide) (by decide) dX5_init_15 ?_
  refine n_putF (r := 2) (S2 := SC2) g hnm KX5 rfl 1 rfl (by decide) rfl rfl rfl (fun _ => ⟨rfl, rfl⟩) w_275 eSC_2 dX5_init_18 ?_
  refine r_aload_n g dX5_init_21 rfl ?_
  refine r_bipush g dX5_init_22 (by decide) ?_
  refine n_newr (t := 1) (nn := 6) (sh2 := (SK 4)) (qn := 3) g (by decide) (fun _ => rfl) (by rw [skl_3]; omega) hb0 (by rw [skl_4]; omega) rfl (zSC_2 _ (by decide)) rfl w_93 (by decide) (by decide) dX5_init_24 ?_
  refine n_putF (r := 3) (S2 := SC3) g hnm KX5 rfl 2 rfl (by decide) rfl rfl rfl (fun _ => ⟨rfl, rfl⟩) w_276 eSC_3 dX5_init_27 ?_
  refine r_aload_n g dX5_init_30 rfl ?_
  refine r_iconst g dX5_init_31 ?_
  refine n_newr (t := 2) (nn := 4) (sh2 := (SK 5)) (qn := 4) g (by decide) (fun _ => rfl) (by rw [skl_4]; omega) hb0 (by rw [skl_5]; omega) rfl (zSC_3 _ (by decide)) rfl w_95 (by decide) (by decide) dX5_init_32 ?_
  refine n_putF (r := 4) (S2 := SC4) g hnm KX5 rfl 3 rfl (by decide) rfl rfl rfl (fun _ => ⟨rfl, rfl⟩) w_277 eSC_4 dX5_init_35 ?_
  refine r_aload_n g dX5_init_38 rfl ?_
  refine r_iconst g dX5_init_39 ?_
  refine n_newa (at_ := .int) (fty := .int) (t := 0) (nn := 4) (sh2 := (SK 6)) (qn := 5) g rfl (fun _ => rfl) (by rw [skl_5]; omega) hb0 (by rw [skl_6]; omega) rfl (zSC_4 _ (by decide)) nc_0 (fun _ _ h => h) rfl w_147 (by decide) (by decide) dX5_init_40 ?_
  refine n_putF (r := 5) (S2 := SC5) g hnm KX5 rfl 4 rfl (by decide) rfl rfl rfl (fun _ => ⟨rfl, rfl⟩) w_278 eSC_5 dX5_init_42 ?_
  refine r_aload_n g dX5_init_45 rfl ?_
  refine r_getsM g w_97 dX5_init_46 ?_
  intro a_ ha_
  refine r_slen g ha_ dX5_init_49 ?_
  refine n_newa (at_ := .int) (fty := .int) (t := 0) (nn := 4) (sh2 := (SK 7)) (qn := 6) g rfl (fun _ => rfl) (by rw [skl_6]; omega) hb0 (by rw [skl_7]; omega) rfl (zSC_5 _ (by decide)) nc_0 (fun _ _ h => h) rfl w_147 (by decide) (by decide) dX5_init_50 ?_
  refine n_putF (r := 6) (S2 := SC6) g hnm KX5 rfl 5 rfl (by decide) rfl rfl rfl (fun _ => ⟨rfl, rfl⟩) w_279 eSC_6 dX5_init_52 ?_
  refine r_aload_n g dX5_init_55 rfl ?_
  refine n_new (sh2 := (SK 8)) (qn := 7) g KX0 (by rw [skl_7]; omega) hb0 (by rw [skl_8]; omega) rfl (zSC_6 _ (by decide)) (by decide) rfl rfl w_99 w_100 w_74 (by decide) dX5_init_56 ?_
  refine r_dup g dX5_init_59 rfl ?_
  refine n_ctorN (q := 7) (as := fun b => []) (S2 := SC18) g (by rw [skl_8]; omega) hb0 (by show (SK 13).length ≤ _; rw [skl_13]; omega) iX0_init_1 mX0_init w_101 w_102 rfl (by decide) (by decide) (fun _ => rfl) rfl (Nat.le_of_ble_eq_true rfl) dX5_init_60 ?_
  change Rg G oVS id _ ((SK 13), 12, 50) _ _ _ _ _
  refine n_putF (r := 7) (S2 := SC19) g hnm KX5 rfl 6 rfl (by decide) rfl rfl rfl (fun _ => ⟨rfl, rfl⟩) w_280 eSC_19 dX5_init_63 ?_
  refine r_aload_n g dX5_init_66 rfl ?_
  refine n_new (sh2 := (SK 14)) (qn := 13) g KX4 (by rw [skl_13]; omega) hb0 (by rw [skl_14]; omega) rfl (zSC_19 _ (by decide)) (by decide) rfl rfl w_181 w_182 w_78 (by decide) dX5_init_67 ?_
  refine r_dup g dX5_init_70 rfl ?_
  refine n_ctorN (q := 13) (as := fun b => []) (S2 := SC31) g (by rw [skl_14]; omega) hb0 (by show (SK 21).length ≤ _; rw [skl_21]; omega) iX4_init_1 mX4_init w_183 w_184 rfl (by decide) (by decide) (fun _ => rfl) rfl (Nat.le_of_ble_eq_true rfl) dX5_init_71 ?_
  change Rg G oVS id _ ((SK 21), 20, 90) _ _ _ _ _
  refine n_putF (r := 13) (S2 := SC32) g hnm KX5 rfl 7 rfl (by decide) rfl rfl rfl (fun _ => ⟨rfl, rfl⟩) w_281 eSC_32 dX5_init_74 ?_
  refine r_aload_n g dX5_init_77 rfl ?_
  refine r_bipush g dX5_init_78 (by decide) ?_
  refine n_newa (at_ := .int) (fty := .int) (t := 0) (nn := 6) (sh2 := (SK 22)) (qn := 21) g rfl (fun _ => rfl) (by rw [skl_21]; omega) hb0 (by rw [skl_22]; omega) rfl (zSC_32 _ (by decide)) nc_0 (fun _ _ h => h) rfl w_147 (by decide) (by decide) dX5_init_80 ?_
  refine n_putF (r := 21) (S2 := SC33) g hnm KX5 rfl 8 rfl (by decide) rfl rfl rfl (fun _ => ⟨rfl, rfl⟩) w_282 eSC_33 dX5_init_82 ?_
  refine r_aload_n g dX5_init_85 rfl ?_
  refine r_bipush g dX5_init_86 (by decide) ?_
  refine n_newa (at_ := .int) (fty := .int) (t := 0) (nn := 6) (sh2 := (SK 23)) (qn := 22) g rfl (fun _ => rfl) (by rw [skl_22]; omega) hb0 (by rw [skl_23]; omega) rfl (zSC_33 _ (by decide)) nc_0 (fun _ _ h => h) rfl w_147 (by decide) (by decide) dX5_init_88 ?_
  refine n_putF (r := 22) (S2 := SC34) g hnm KX5 rfl 9 rfl (by decide) rfl rfl rfl (fun _ => ⟨rfl, rfl⟩) w_283 eSC_34 dX5_init_90 ?_
  refine r_aload_n g dX5_init_93 rfl ?_
  refine r_iconst g dX5_init_94 ?_
  refine n_putI (S2 := SC35) g KX5 rfl 10 rfl (by decide) rfl rfl w_284 eSC_35 dX5_init_95 ?_
  refine r_aload_n g dX5_init_98 rfl ?_
  refine r_iconst g dX5_init_99 ?_
  refine n_putI (S2 := SC36) g KX5 rfl 11 rfl (by decide) rfl rfl w_285 eSC_36 dX5_init_100 ?_
  refine r_aload_n g dX5_init_103 rfl ?_
  refine r_lconst (x := 0) g dX5_init_104 (by decide) ?_
  refine n_putL (S2 := SC37) g KX5 rfl 12 rfl (by decide) rfl rfl w_286 eSC_37 dX5_init_105 ?_
  refine r_aload_n g dX5_init_108 rfl ?_
  refine r_lconst (x := 1) g dX5_init_109 (by decide) ?_
  refine n_putL (S2 := SC38) g KX5 rfl 13 rfl (by decide) rfl rfl w_287 eSC_38 dX5_init_110 ?_
  refine r_iconst g dX5_init_113 ?_
  refine r_istore_n (lv' := [some (vr G 0), some (vi 0)]) g 1 dX5_init_114 rfl (by decide) rfl ?_
  refine r_iload_n g dX5_init_115 rfl ?_
  refine r_bipush g dX5_init_116 (by decide) ?_
  refine n_geF g (by decide) dX5_init_118 142 (by decide) ?_
  refine r_aload_n g dX5_init_121 rfl ?_
  refine n_getR (r := 1) g KX5 rfl 0 rfl (by decide) w_274 (by decide +kernel) dX5_init_122 ?_
  refine r_iload_n g dX5_init_125 rfl ?_
  refine n_new (sh2 := (SK 24)) (qn := 23) g KX1 (by rw [skl_23]; omega) hb0 (by rw [skl_24]; omega) rfl (zSC_38 _ (by decide)) (by decide) rfl rfl w_91 w_149 w_76 (by decide) dX5_init_126 ?_
  refine r_dup g dX5_init_129 rfl ?_
  refine r_bipush g dX5_init_130 (by decide) ?_
  refine n_ctor (q := 23) (as := fun b => [vi 40]) (S2 := SC40) g (by rw [skl_24]; omega) hb0 (by show (SK 25).length ≤ _; rw [skl_25]; omega) iX1_init_2 mX1_init w_236 w_151 rfl (by decide) (by decide) (fun _ => rfl) rfl (Nat.le_of_ble_eq_true rfl) dX5_init_132 ?_
  change Rg G oVS id _ ((SK 25), 24, 144) _ _ _ _ _
  refine n_aast (r := 23) (nn := 6) (vc := (RX1, TX1, 2)) (S2 := SC41) g 0 (fun _ => rfl) rfl rfl rfl (by decide) (by decide) eSC_41 dX5_init_135 ?_
  refine n_iinc (z := 1) (lv' := [some (vr G 0), some (vi 1)]) g dX5_init_136 (by decide) rfl (by decide) rfl ?_
  refine r_goto g 115 dX5_init_139 (by decide) ?_
  refine r_iload_n g dX5_init_115 rfl ?_
  refine r_bipush g dX5_init_116 (by decide) ?_
  refine n_geF g (by decide) dX5_init_118 142 (by decide) ?_
  refine r_aload_n g dX5_init_121 rfl ?_
  refine n_getR (r := 1) g KX5 rfl 0 rfl (by decide) w_274 (by decide +kernel) dX5_init_122 ?_
  refine r_iload_n g dX5_init_125 rfl ?_
  refine n_new (sh2 := (SK 26)) (qn := 25) g KX1 (by rw [skl_25]; omega) hb0 (by rw [skl_26]; omega) rfl (zSC_41 _ (by decide)) (by decide) rfl rfl w_91 w_149 w_76 (by decide) dX5_init_126 ?_
  refine r_dup g dX5_init_129 rfl ?_
  refine r_bipush g dX5_init_130 (by decide) ?_
  refine n_ctor (q := 25) (as := fun b => [vi 40]) (S2 := SC43) g (by rw [skl_26]; omega) hb0 (by show (SK 27).length ≤ _; rw [skl_27]; omega) iX1_init_3 mX1_init w_236 w_151 rfl (by decide) (by decide) (fun _ => rfl) rfl (Nat.le_of_ble_eq_true rfl) dX5_init_132 ?_
  change Rg G oVS id _ ((SK 27), 26, 186) _ _ _ _ _
  refine n_aast (r := 25) (nn := 6) (vc := (RX1, TX1, 2)) (S2 := SC44) g 0 (fun _ => rfl) rfl rfl rfl (by decide) (by decide) eSC_44 dX5_init_135 ?_
  refine n_iinc (z := 2) (lv' := [some (vr G 0), some (vi 2)]) g dX5_init_136 (by decide) rfl (by decide) rfl ?_
  refine r_goto g 115 dX5_init_139 (by decide) ?_
  refine r_iload_n g dX5_init_115 rfl ?_
  refine r_bipush g dX5_init_116 (by decide) ?_
  refine n_geF g (by decide) dX5_init_118 142 (by decide) ?_
  refine r_aload_n g dX5_init_121 rfl ?_
  refine n_getR (r := 1) g KX5 rfl 0 rfl (by decide) w_274 (by decide +kernel) dX5_init_122 ?_
  refine r_iload_n g dX5_init_125 rfl ?_
  refine n_new (sh2 := (SK 28)) (qn := 27) g KX1 (by rw [skl_27]; omega) hb0 (by rw [skl_28]; omega) rfl (zSC_44 _ (by decide)) (by decide) rfl rfl w_91 w_149 w_76 (by decide) dX5_init_126 ?_
  refine r_dup g dX5_init_129 rfl ?_
  refine r_bipush g dX5_init_130 (by decide) ?_
  refine n_ctor (q := 27) (as := fun b => [vi 40]) (S2 := SC46) g (by rw [skl_28]; omega) hb0 (by show (SK 29).length ≤ _; rw [skl_29]; omega) iX1_init_4 mX1_init w_236 w_151 rfl (by decide) (by decide) (fun _ => rfl) rfl (Nat.le_of_ble_eq_true rfl) dX5_init_132 ?_
  change Rg G oVS id _ ((SK 29), 28, 228) _ _ _ _ _
  refine n_aast (r := 27) (nn := 6) (vc := (RX1, TX1, 2)) (S2 := SC47) g 0 (fun _ => rfl) rfl rfl rfl (by decide) (by decide) eSC_47 dX5_init_135 ?_
  refine n_iinc (z := 3) (lv' := [some (vr G 0), some (vi 3)]) g dX5_init_136 (by decide) rfl (by decide) rfl ?_
  refine r_goto g 115 dX5_init_139 (by decide) ?_
  refine r_iload_n g dX5_init_115 rfl ?_
  refine r_bipush g dX5_init_116 (by decide) ?_
  refine n_geF g (by decide) dX5_init_118 142 (by decide) ?_
  refine r_aload_n g dX5_init_121 rfl ?_
  refine n_getR (r := 1) g KX5 rfl 0 rfl (by decide) w_274 (by decide +kernel) dX5_init_122 ?_
  refine r_iload_n g dX5_init_125 rfl ?_
  refine n_new (sh2 := (SK 30)) (qn := 29) g KX1 (by rw [skl_29]; omega) hb0 (by rw [skl_30]; omega) rfl (zSC_47 _ (by decide)) (by decide) rfl rfl w_91 w_149 w_76 (by decide) dX5_init_126 ?_
  refine r_dup g dX5_init_129 rfl ?_
  refine r_bipush g dX5_init_130 (by decide) ?_
  refine n_ctor (q := 29) (as := fun b => [vi 40]) (S2 := SC49) g (by rw [skl_30]; omega) hb0 (by show (SK 31).length ≤ _; rw [skl_31]; omega) iX1_init_5 mX1_init w_236 w_151 rfl (by decide) (by decide) (fun _ => rfl) rfl (Nat.le_of_ble_eq_true rfl) dX5_init_132 ?_
  change Rg G oVS id _ ((SK 31), 30, 270) _ _ _ _ _
  refine n_aast (r := 29) (nn := 6) (vc := (RX1, TX1, 2)) (S2 := SC50) g 0 (fun _ => rfl) rfl rfl rfl (by decide) (by decide) eSC_50 dX5_init_135 ?_
  refine n_iinc (z := 4) (lv' := [some (vr G 0), some (vi 4)]) g dX5_init_136 (by decide) rfl (by decide) rfl ?_
  refine r_goto g 115 dX5_init_139 (by decide) ?_
  refine r_iload_n g dX5_init_115 rfl ?_
  refine r_bipush g dX5_init_116 (by decide) ?_
  refine n_geF g (by decide) dX5_init_118 142 (by decide) ?_
  refine r_aload_n g dX5_init_121 rfl ?_
  refine n_getR (r := 1) g KX5 rfl 0 rfl (by decide) w_274 (by decide +kernel) dX5_init_122 ?_
  refine r_iload_n g dX5_init_125 rfl ?_
  refine n_new (sh2 := (SK 32)) (qn := 31) g KX1 (by rw [skl_31]; omega) hb0 (by rw [skl_32]; omega) rfl (zSC_50 _ (by decide)) (by decide) rfl rfl w_91 w_149 w_76 (by decide) dX5_init_126 ?_
  refine r_dup g dX5_init_129 rfl ?_
  refine r_bipush g dX5_init_130 (by decide) ?_
  refine n_ctor (q := 31) (as := fun b => [vi 40]) (S2 := SC52) g (by rw [skl_32]; omega) hb0 (by show (SK 33).length ≤ _; rw [skl_33]; omega) iX1_init_6 mX1_init w_236 w_151 rfl (by decide) (by decide) (fun _ => rfl) rfl (Nat.le_of_ble_eq_true rfl) dX5_init_132 ?_
  change Rg G oVS id _ ((SK 33), 32, 312) _ _ _ _ _
  refine n_aast (r := 31) (nn := 6) (vc := (RX1, TX1, 2)) (S2 := SC53) g 0 (fun _ => rfl) rfl rfl rfl (by decide) (by decide) eSC_53 dX5_init_135 ?_
  refine n_iinc (z := 5) (lv' := [some (vr G 0), some (vi 5)]) g dX5_init_136 (by decide) rfl (by decide) rfl ?_
  refine r_goto g 115 dX5_init_139 (by decide) ?_
  refine r_iload_n g dX5_init_115 rfl ?_
  refine r_bipush g dX5_init_116 (by decide) ?_
  refine n_geF g (by decide) dX5_init_118 142 (by decide) ?_
  refine r_aload_n g dX5_init_121 rfl ?_
  refine n_getR (r := 1) g KX5 rfl 0 rfl (by decide) w_274 (by decide +kernel) dX5_init_122 ?_
  refine r_iload_n g dX5_init_125 rfl ?_
  refine n_new (sh2 := (SK 34)) (qn := 33) g KX1 (by rw [skl_33]; omega) hb0 (by rw [skl_34]; omega) rfl (zSC_53 _ (by decide)) (by decide) rfl rfl w_91 w_149 w_76 (by decide) dX5_init_126 ?_
  refine r_dup g dX5_init_129 rfl ?_
  refine r_bipush g dX5_init_130 (by decide) ?_
  refine n_ctor (q := 33) (as := fun b => [vi 40]) (S2 := SC55) g (by rw [skl_34]; omega) hb0 (by show (SK 35).length ≤ _; rw [skl_35]; omega) iX1_init_7 mX1_init w_236 w_151 rfl (by decide) (by decide) (fun _ => rfl) rfl (Nat.le_of_ble_eq_true rfl) dX5_init_132 ?_
  change Rg G oVS id _ ((SK 35), 34, 354) _ _ _ _ _
  refine n_aast (r := 33) (nn := 6) (vc := (RX1, TX1, 2)) (S2 := SC56) g 0 (fun _ => rfl) rfl rfl rfl (by decide) (by decide) eSC_56 dX5_init_135 ?_
  refine n_iinc (z := 6) (lv' := [some (vr G 0), some (vi 6)]) g dX5_init_136 (by decide) rfl (by decide) rfl ?_
  refine r_goto g 115 dX5_init_139 (by decide) ?_
  refine r_iload_n g dX5_init_115 rfl ?_
  refine r_bipush g dX5_init_116 (by decide) ?_
  refine n_geT g (by decide) dX5_init_118 142 (by decide) ?_
  refine r_iconst g dX5_init_142 ?_
  refine r_istore_n (lv' := [some (vr G 0), some (vi 0)]) g 1 dX5_init_143 rfl (by decide) rfl ?_
  refine r_iload_n g dX5_init_144 rfl ?_
  refine r_iconst g dX5_init_145 ?_
  refine n_geF g (by decide) dX5_init_146 170 (by decide) ?_
  refine r_aload_n g dX5_init_149 rfl ?_
  refine n_getR (r := 2) g KX5 rfl 1 rfl (by decide) w_275 (by decide +kernel) dX5_init_150 ?_
  refine r_iload_n g dX5_init_153 rfl ?_
  refine n_new (sh2 := (SK 36)) (qn := 35) g KX1 (by rw [skl_35]; omega) hb0 (by rw [skl_36]; omega) rfl (zSC_56 _ (by decide)) (by decide) rfl rfl w_91 w_149 w_76 (by decide) dX5_init_154 ?_
  refine r_dup g dX5_init_157 rfl ?_
  refine r_bipush g dX5_init_158 (by decide) ?_
  refine n_ctor (q := 35) (as := fun b => [vi 60]) (S2 := SC58) g (by rw [skl_36]; omega) hb0 (by show (SK 37).length ≤ _; rw [skl_37]; omega) iX1_init_8 mX1_init w_236 w_151 rfl (by decide) (by decide) (fun _ => rfl) rfl (Nat.le_of_ble_eq_true rfl) dX5_init_160 ?_
  change Rg G oVS id _ ((SK 37), 36, 416) _ _ _ _ _
  refine n_aast (r := 35) (nn := 4) (vc := (RX1, TX1, 2)) (S2 := SC59) g 0 (fun _ => rfl) rfl rfl rfl (by decide) (by decide) eSC_59 dX5_init_163 ?_
  refine n_iinc (z := 1) (lv' := [some (vr G 0), some (vi 1)]) g dX5_init_164 (by decide) rfl (by decide) rfl ?_
  refine r_goto g 144 dX5_init_167 (by decide) ?_
  refine r_iload_n g dX5_init_144 rfl ?_
  refine r_iconst g dX5_init_145 ?_
  refine n_geF g (by decide) dX5_init_146 170 (by decide) ?_
  refine r_aload_n g dX5_init_149 rfl ?_
  refine n_getR (r := 2) g KX5 rfl 1 rfl (by decide) w_275 (by decide +kernel) dX5_init_150 ?_
  refine r_iload_n g dX5_init_153 rfl ?_
  refine n_new (sh2 := (SK 38)) (qn := 37) g KX1 (by rw [skl_37]; omega) hb0 (by rw [skl_38]; omega) rfl (zSC_59 _ (by decide)) (by decide) rfl rfl w_91 w_149 w_76 (by decide) dX5_init_154 ?_
  refine r_dup g dX5_init_157 rfl ?_
  refine r_bipush g dX5_init_158 (by decide) ?_
  refine n_ctor (q := 37) (as := fun b => [vi 60]) (S2 := SC61) g (by rw [skl_38]; omega) hb0 (by show (SK 39).length ≤ _; rw [skl_39]; omega) iX1_init_9 mX1_init w_236 w_151 rfl (by decide) (by decide) (fun _ => rfl) rfl (Nat.le_of_ble_eq_true rfl) dX5_init_160 ?_
  change Rg G oVS id _ ((SK 39), 38, 478) _ _ _ _ _
  refine n_aast (r := 37) (nn := 4) (vc := (RX1, TX1, 2)) (S2 := SC62) g 0 (fun _ => rfl) rfl rfl rfl (by decide) (by decide) eSC_62 dX5_init_163 ?_
  refine n_iinc (z := 2) (lv' := [some (vr G 0), some (vi 2)]) g dX5_init_164 (by decide) rfl (by decide) rfl ?_
  refine r_goto g 144 dX5_init_167 (by decide) ?_
  refine r_iload_n g dX5_init_144 rfl ?_
  refine r_iconst g dX5_init_145 ?_
  refine n_geF g (by decide) dX5_init_146 170 (by decide) ?_
  refine r_aload_n g dX5_init_149 rfl ?_
  refine n_getR (r := 2) g KX5 rfl 1 rfl (by decide) w_275 (by decide +kernel) dX5_init_150 ?_
  refine r_iload_n g dX5_init_153 rfl ?_
  refine n_new (sh2 := (SK 40)) (qn := 39) g KX1 (by rw [skl_39]; omega) hb0 (by rw [skl_40]; omega) rfl (zSC_62 _ (by decide)) (by decide) rfl rfl w_91 w_149 w_76 (by decide) dX5_init_154 ?_
  refine r_dup g dX5_init_157 rfl ?_
  refine r_bipush g dX5_init_158 (by decide) ?_
  refine n_ctor (q := 39) (as := fun b => [vi 60]) (S2 := SC64) g (by rw [skl_40]; omega) hb0 (by show (SK 41).length ≤ _; rw [skl_41]; omega) iX1_init_10 mX1_init w_236 w_151 rfl (by decide) (by decide) (fun _ => rfl) rfl (Nat.le_of_ble_eq_true rfl) dX5_init_160 ?_
  change Rg G oVS id _ ((SK 41), 40, 540) _ _ _ _ _
  refine n_aast (r := 39) (nn := 4) (vc := (RX1, TX1, 2)) (S2 := SC65) g 0 (fun _ => rfl) rfl rfl rfl (by decide) (by decide) eSC_65 dX5_init_163 ?_
  refine n_iinc (z := 3) (lv' := [some (vr G 0), some (vi 3)]) g dX5_init_164 (by decide) rfl (by decide) rfl ?_
  refine r_goto g 144 dX5_init_167 (by decide) ?_
  refine r_iload_n g dX5_init_144 rfl ?_
  refine r_iconst g dX5_init_145 ?_
  refine n_geF g (by decide) dX5_init_146 170 (by decide) ?_
  refine r_aload_n g dX5_init_149 rfl ?_
  refine n_getR (r := 2) g KX5 rfl 1 rfl (by decide) w_275 (by decide +kernel) dX5_init_150 ?_
  refine r_iload_n g dX5_init_153 rfl ?_
  refine n_new (sh2 := (SK 42)) (qn := 41) g KX1 (by rw [skl_41]; omega) hb0 (by rw [skl_42]; omega) rfl (zSC_65 _ (by decide)) (by decide) rfl rfl w_91 w_149 w_76 (by decide) dX5_init_154 ?_
  refine r_dup g dX5_init_157 rfl ?_
  refine r_bipush g dX5_init_158 (by decide) ?_
  refine n_ctor (q := 41) (as := fun b => [vi 60]) (S2 := SC67) g (by rw [skl_42]; omega) hb0 (by show (SK 43).length ≤ _; rw [skl_43]; omega) iX1_init_11 mX1_init w_236 w_151 rfl (by decide) (by decide) (fun _ => rfl) rfl (Nat.le_of_ble_eq_true rfl) dX5_init_160 ?_
  change Rg G oVS id _ ((SK 43), 42, 602) _ _ _ _ _
  refine n_aast (r := 41) (nn := 4) (vc := (RX1, TX1, 2)) (S2 := SC68) g 0 (fun _ => rfl) rfl rfl rfl (by decide) (by decide) eSC_68 dX5_init_163 ?_
  refine n_iinc (z := 4) (lv' := [some (vr G 0), some (vi 4)]) g dX5_init_164 (by decide) rfl (by decide) rfl ?_
  refine r_goto g 144 dX5_init_167 (by decide) ?_
  refine r_iload_n g dX5_init_144 rfl ?_
  refine r_iconst g dX5_init_145 ?_
  refine n_geT g (by decide) dX5_init_146 170 (by decide) ?_
  refine r_iconst g dX5_init_170 ?_
  refine r_istore_n (lv' := [some (vr G 0), some (vi 0)]) g 1 dX5_init_171 rfl (by decide) rfl ?_
  refine r_iload_n g dX5_init_172 rfl ?_
  refine r_bipush g dX5_init_173 (by decide) ?_
  refine n_geF g (by decide) dX5_init_175 197 (by decide) ?_
  refine r_aload_n g dX5_init_178 rfl ?_
  refine n_getR (r := 3) g KX5 rfl 2 rfl (by decide) w_276 (by decide +kernel) dX5_init_179 ?_
  refine r_iload_n g dX5_init_182 rfl ?_
  refine n_new (sh2 := (SK 44)) (qn := 43) g KX3 (by rw [skl_43]; omega) hb0 (by rw [skl_44]; omega) rfl (zSC_68 _ (by decide)) (by decide) rfl rfl w_93 w_106 w_75 (by decide) dX5_init_183 ?_
  refine r_dup g dX5_init_186 rfl ?_
  refine n_ctorN (q := 43) (as := fun b => []) (S2 := SC75) g (by rw [skl_44]; omega) hb0 (by show (SK 46).length ≤ _; rw [skl_46]; omega) iX3_init_2 mX3_init w_237 w_108 rfl (by decide) (by decide) (fun _ => rfl) rfl (Nat.le_of_ble_eq_true rfl) dX5_init_187 ?_
  change Rg G oVS id _ ((SK 46), 45, 619) _ _ _ _ _
  refine n_aast (r := 43) (nn := 6) (vc := (RX3, TX3, 7)) (S2 := SC76) g 1 (fun _ => rfl) rfl rfl rfl (by decide) (by decide) eSC_76 dX5_init_190 ?_
  refine n_iinc (z := 1) (lv' := [some (vr G 0), some (vi 1)]) g dX5_init_191 (by decide) rfl (by decide) rfl ?_
  refine r_goto g 172 dX5_init_194 (by decide) ?_
  refine r_iload_n g dX5_init_172 rfl ?_
  refine r_bipush g dX5_init_173 (by decide) ?_
  refine n_geF g (by decide) dX5_init_175 197 (by decide) ?_
  refine r_aload_n g dX5_init_178 rfl ?_
  refine n_getR (r := 3) g KX5 rfl 2 rfl (by decide) w_276 (by decide +kernel) dX5_init_179 ?_
  refine r_iload_n g dX5_init_182 rfl ?_
  refine n_new (sh2 := (SK 47)) (qn := 46) g KX3 (by rw [skl_46]; omega) hb0 (by rw [skl_47]; omega) rfl (zSC_76 _ (by decide)) (by decide) rfl rfl w_93 w_106 w_75 (by decide) dX5_init_183 ?_
  refine r_dup g dX5_init_186 rfl ?_
  refine n_ctorN (q := 46) (as := fun b => []) (S2 := SC83) g (by rw [skl_47]; omega) hb0 (by show (SK 49).length ≤ _; rw [skl_49]; omega) iX3_init_3 mX3_init w_237 w_108 rfl (by decide) (by decide) (fun _ => rfl) rfl (Nat.le_of_ble_eq_true rfl) dX5_init_187 ?_
  change Rg G oVS id _ ((SK 49), 48, 636) _ _ _ _ _
  refine n_aast (r := 46) (nn := 6) (vc := (RX3, TX3, 7)) (S2 := SC84) g 1 (fun _ => rfl) rfl rfl rfl (by decide) (by decide) eSC_84 dX5_init_190 ?_
  refine n_iinc (z := 2) (lv' := [some (vr G 0), some (vi 2)]) g dX5_init_191 (by decide) rfl (by decide) rfl ?_
  refine r_goto g 172 dX5_init_194 (by decide) ?_
  refine r_iload_n g dX5_init_172 rfl ?_
  refine r_bipush g dX5_init_173 (by decide) ?_
  refine n_geF g (by decide) dX5_init_175 197 (by decide) ?_
  refine r_aload_n g dX5_init_178 rfl ?_
  refine n_getR (r := 3) g KX5 rfl 2 rfl (by decide) w_276 (by decide +kernel) dX5_init_179 ?_
  refine r_iload_n g dX5_init_182 rfl ?_
  refine n_new (sh2 := (SK 50)) (qn := 49) g KX3 (by rw [skl_49]; omega) hb0 (by rw [skl_50]; omega) rfl (zSC_84 _ (by decide)) (by decide) rfl rfl w_93 w_106 w_75 (by decide) dX5_init_183 ?_
  refine r_dup g dX5_init_186 rfl ?_
  refine n_ctorN (q := 49) (as := fun b => []) (S2 := SC91) g (by rw [skl_50]; omega) hb0 (by show (SK 52).length ≤ _; rw [skl_52]; omega) iX3_init_4 mX3_init w_237 w_108 rfl (by decide) (by decide) (fun _ => rfl) rfl (Nat.le_of_ble_eq_true rfl) dX5_init_187 ?_
  change Rg G oVS id _ ((SK 52), 51, 653) _ _ _ _ _
  refine n_aast (r := 49) (nn := 6) (vc := (RX3, TX3, 7)) (S2 := SC92) g 1 (fun _ => rfl) rfl rfl rfl (by decide) (by decide) eSC_92 dX5_init_190 ?_
  refine n_iinc (z := 3) (lv' := [some (vr G 0), some (vi 3)]) g dX5_init_191 (by decide) rfl (by decide) rfl ?_
  refine r_goto g 172 dX5_init_194 (by decide) ?_
  refine r_iload_n g dX5_init_172 rfl ?_
  refine r_bipush g dX5_init_173 (by decide) ?_
  refine n_geF g (by decide) dX5_init_175 197 (by decide) ?_
  refine r_aload_n g dX5_init_178 rfl ?_
  refine n_getR (r := 3) g KX5 rfl 2 rfl (by decide) w_276 (by decide +kernel) dX5_init_179 ?_
  refine r_iload_n g dX5_init_182 rfl ?_
  refine n_new (sh2 := (SK 53)) (qn := 52) g KX3 (by rw [skl_52]; omega) hb0 (by rw [skl_53]; omega) rfl (zSC_92 _ (by decide)) (by decide) rfl rfl w_93 w_106 w_75 (by decide) dX5_init_183 ?_
  refine r_dup g dX5_init_186 rfl ?_
  refine n_ctorN (q := 52) (as := fun b => []) (S2 := SC99) g (by rw [skl_53]; omega) hb0 (by show (SK 55).length ≤ _; rw [skl_55]; omega) iX3_init_5 mX3_init w_237 w_108 rfl (by decide) (by decide) (fun _ => rfl) rfl (Nat.le_of_ble_eq_true rfl) dX5_init_187 ?_
  change Rg G oVS id _ ((SK 55), 54, 670) _ _ _ _ _
  refine n_aast (r := 52) (nn := 6) (vc := (RX3, TX3, 7)) (S2 := SC100) g 1 (fun _ => rfl) rfl rfl rfl (by decide) (by decide) eSC_100 dX5_init_190 ?_
  refine n_iinc (z := 4) (lv' := [some (vr G 0), some (vi 4)]) g dX5_init_191 (by decide) rfl (by decide) rfl ?_
  refine r_goto g 172 dX5_init_194 (by decide) ?_
  refine r_iload_n g dX5_init_172 rfl ?_
  refine r_bipush g dX5_init_173 (by decide) ?_
  refine n_geF g (by decide) dX5_init_175 197 (by decide) ?_
  refine r_aload_n g dX5_init_178 rfl ?_
  refine n_getR (r := 3) g KX5 rfl 2 rfl (by decide) w_276 (by decide +kernel) dX5_init_179 ?_
  refine r_iload_n g dX5_init_182 rfl ?_
  refine n_new (sh2 := (SK 56)) (qn := 55) g KX3 (by rw [skl_55]; omega) hb0 (by rw [skl_56]; omega) rfl (zSC_100 _ (by decide)) (by decide) rfl rfl w_93 w_106 w_75 (by decide) dX5_init_183 ?_
  refine r_dup g dX5_init_186 rfl ?_
  refine n_ctorN (q := 55) (as := fun b => []) (S2 := SC107) g (by rw [skl_56]; omega) hb0 (by show (SK 58).length ≤ _; rw [skl_58]; omega) iX3_init_6 mX3_init w_237 w_108 rfl (by decide) (by decide) (fun _ => rfl) rfl (Nat.le_of_ble_eq_true rfl) dX5_init_187 ?_
  change Rg G oVS id _ ((SK 58), 57, 687) _ _ _ _ _
  refine n_aast (r := 55) (nn := 6) (vc := (RX3, TX3, 7)) (S2 := SC108) g 1 (fun _ => rfl) rfl rfl rfl (by decide) (by decide) eSC_108 dX5_init_190 ?_
  refine n_iinc (z := 5) (lv' := [some (vr G 0), some (vi 5)]) g dX5_init_191 (by decide) rfl (by decide) rfl ?_
  refine r_goto g 172 dX5_init_194 (by decide) ?_
  refine r_iload_n g dX5_init_172 rfl ?_
  refine r_bipush g dX5_init_173 (by decide) ?_
  refine n_geF g (by decide) dX5_init_175 197 (by decide) ?_
  refine r_aload_n g dX5_init_178 rfl ?_
  refine n_getR (r := 3) g KX5 rfl 2 rfl (by decide) w_276 (by decide +kernel) dX5_init_179 ?_
  refine r_iload_n g dX5_init_182 rfl ?_
  refine n_new (sh2 := (SK 59)) (qn := 58) g KX3 (by rw [skl_58]; omega) hb0 (by rw [skl_59]; omega) rfl (zSC_108 _ (by decide)) (by decide) rfl rfl w_93 w_106 w_75 (by decide) dX5_init_183 ?_
  refine r_dup g dX5_init_186 rfl ?_
  refine n_ctorN (q := 58) (as := fun b => []) (S2 := SC115) g (by rw [skl_59]; omega) hb0 (by show (SK 61).length ≤ _; rw [skl_61]; omega) iX3_init_7 mX3_init w_237 w_108 rfl (by decide) (by decide) (fun _ => rfl) rfl (Nat.le_of_ble_eq_true rfl) dX5_init_187 ?_
  change Rg G oVS id _ ((SK 61), 60, 704) _ _ _ _ _
  refine n_aast (r := 58) (nn := 6) (vc := (RX3, TX3, 7)) (S2 := SC116) g 1 (fun _ => rfl) rfl rfl rfl (by decide) (by decide) eSC_116 dX5_init_190 ?_
  refine n_iinc (z := 6) (lv' := [some (vr G 0), some (vi 6)]) g dX5_init_191 (by decide) rfl (by decide) rfl ?_
  refine r_goto g 172 dX5_init_194 (by decide) ?_
  refine r_iload_n g dX5_init_172 rfl ?_
  refine r_bipush g dX5_init_173 (by decide) ?_
  refine n_geT g (by decide) dX5_init_175 197 (by decide) ?_
  refine r_iconst g dX5_init_197 ?_
  refine r_istore_n (lv' := [some (vr G 0), some (vi 0)]) g 1 dX5_init_198 rfl (by decide) rfl ?_
  refine r_iload_n g dX5_init_199 rfl ?_
  refine r_iconst g dX5_init_200 ?_
  refine n_geF g (by decide) dX5_init_201 223 (by decide) ?_
  refine r_aload_n g dX5_init_204 rfl ?_
  refine n_getR (r := 4) g KX5 rfl 3 rfl (by decide) w_277 (by decide +kernel) dX5_init_205 ?_
  refine r_iload_n g dX5_init_208 rfl ?_
  refine n_new (sh2 := (SK 62)) (qn := 61) g KX2 (by rw [skl_61]; omega) hb0 (by rw [skl_62]; omega) rfl (zSC_116 _ (by decide)) (by decide) rfl rfl w_95 w_238 w_79 (by decide) dX5_init_209 ?_
  refine r_dup g dX5_init_212 rfl ?_
  refine n_ctorN (q := 61) (as := fun b => []) (S2 := SC123) g (by rw [skl_62]; omega) hb0 (by show (SK 62).length ≤ _; rw [skl_62]; omega) iX2_init_1 mX2_init w_239 w_240 rfl (by decide) (by decide) (fun _ => rfl) rfl (Nat.le_of_ble_eq_true rfl) dX5_init_213 ?_
  change Rg G oVS id _ ((SK 62), 61, 711) _ _ _ _ _
  refine n_aast (r := 61) (nn := 4) (vc := (RX2, TX2, 7)) (S2 := SC124) g 2 (fun _ => rfl) rfl rfl rfl (by decide) (by decide) eSC_124 dX5_init_216 ?_
  refine n_iinc (z := 1) (lv' := [some (vr G 0), some (vi 1)]) g dX5_init_217 (by decide) rfl (by decide) rfl ?_
  refine r_goto g 199 dX5_init_220 (by decide) ?_
  refine r_iload_n g dX5_init_199 rfl ?_
  refine r_iconst g dX5_init_200 ?_
  refine n_geF g (by decide) dX5_init_201 223 (by decide) ?_
  refine r_aload_n g dX5_init_204 rfl ?_
  refine n_getR (r := 4) g KX5 rfl 3 rfl (by decide) w_277 (by decide +kernel) dX5_init_205 ?_
  refine r_iload_n g dX5_init_208 rfl ?_
  refine n_new (sh2 := (SK 63)) (qn := 62) g KX2 (by rw [skl_62]; omega) hb0 (by rw [skl_63]; omega) rfl (zSC_124 _ (by decide)) (by decide) rfl rfl w_95 w_238 w_79 (by decide) dX5_init_209 ?_
  refine r_dup g dX5_init_212 rfl ?_
  refine n_ctorN (q := 62) (as := fun b => []) (S2 := SC131) g (by rw [skl_63]; omega) hb0 (by show (SK 63).length ≤ _; rw [skl_63]; omega) iX2_init_2 mX2_init w_239 w_240 rfl (by decide) (by decide) (fun _ => rfl) rfl (Nat.le_of_ble_eq_true rfl) dX5_init_213 ?_
  change Rg G oVS id _ ((SK 63), 62, 718) _ _ _ _ _
  refine n_aast (r := 62) (nn := 4) (vc := (RX2, TX2, 7)) (S2 := SC132) g 2 (fun _ => rfl) rfl rfl rfl (by decide) (by decide) eSC_132 dX5_init_216 ?_
  refine n_iinc (z := 2) (lv' := [some (vr G 0), some (vi 2)]) g dX5_init_217 (by decide) rfl (by decide) rfl ?_
  refine r_goto g 199 dX5_init_220 (by decide) ?_
  refine r_iload_n g dX5_init_199 rfl ?_
  refine r_iconst g dX5_init_200 ?_
  refine n_geF g (by decide) dX5_init_201 223 (by decide) ?_
  refine r_aload_n g dX5_init_204 rfl ?_
  refine n_getR (r := 4) g KX5 rfl 3 rfl (by decide) w_277 (by decide +kernel) dX5_init_205 ?_
  refine r_iload_n g dX5_init_208 rfl ?_
  refine n_new (sh2 := (SK 64)) (qn := 63) g KX2 (by rw [skl_63]; omega) hb0 (by rw [skl_64]; omega) rfl (zSC_132 _ (by decide)) (by decide) rfl rfl w_95 w_238 w_79 (by decide) dX5_init_209 ?_
  refine r_dup g dX5_init_212 rfl ?_
  refine n_ctorN (q := 63) (as := fun b => []) (S2 := SC139) g (by rw [skl_64]; omega) hb0 (by show (SK 64).length ≤ _; rw [skl_64]; omega) iX2_init_3 mX2_init w_239 w_240 rfl (by decide) (by decide) (fun _ => rfl) rfl (Nat.le_of_ble_eq_true rfl) dX5_init_213 ?_
  change Rg G oVS id _ ((SK 64), 63, 725) _ _ _ _ _
  refine n_aast (r := 63) (nn := 4) (vc := (RX2, TX2, 7)) (S2 := SC140) g 2 (fun _ => rfl) rfl rfl rfl (by decide) (by decide) eSC_140 dX5_init_216 ?_
  refine n_iinc (z := 3) (lv' := [some (vr G 0), some (vi 3)]) g dX5_init_217 (by decide) rfl (by decide) rfl ?_
  refine r_goto g 199 dX5_init_220 (by decide) ?_
  refine r_iload_n g dX5_init_199 rfl ?_
  refine r_iconst g dX5_init_200 ?_
  refine n_geF g (by decide) dX5_init_201 223 (by decide) ?_
  refine r_aload_n g dX5_init_204 rfl ?_
  refine n_getR (r := 4) g KX5 rfl 3 rfl (by decide) w_277 (by decide +kernel) dX5_init_205 ?_
  refine r_iload_n g dX5_init_208 rfl ?_
  refine n_new (sh2 := (SK 65)) (qn := 64) g KX2 (by rw [skl_64]; omega) hb0 (by rw [skl_65]; omega) rfl (zSC_140 _ (by decide)) (by decide) rfl rfl w_95 w_238 w_79 (by decide) dX5_init_209 ?_
  refine r_dup g dX5_init_212 rfl ?_
  refine n_ctorN (q := 64) (as := fun b => []) (S2 := SC147) g (by rw [skl_65]; omega) hb0 (by show (SK 65).length ≤ _; rw [skl_65]; omega) iX2_init_4 mX2_init w_239 w_240 rfl (by decide) (by decide) (fun _ => rfl) rfl (Nat.le_of_ble_eq_true rfl) dX5_init_213 ?_
  change Rg G oVS id _ ((SK 65), 64, 732) _ _ _ _ _
  refine n_aast (r := 64) (nn := 4) (vc := (RX2, TX2, 7)) (S2 := SC148) g 2 (fun _ => rfl) rfl rfl rfl (by decide) (by decide) eSC_148 dX5_init_216 ?_
  refine n_iinc (z := 4) (lv' := [some (vr G 0), some (vi 4)]) g dX5_init_217 (by decide) rfl (by decide) rfl ?_
  refine r_goto g 199 dX5_init_220 (by decide) ?_
  refine r_iload_n g dX5_init_199 rfl ?_
  refine r_iconst g dX5_init_200 ?_
  refine n_geT g (by decide) dX5_init_201 223 (by decide) ?_
  refine r_aload_n g dX5_init_223 rfl ?_
  refine n_getR (r := 6) g KX5 rfl 5 rfl (by decide) w_279 (by decide +kernel) dX5_init_224 ?_
  refine r_iconst g dX5_init_227 ?_
  refine r_bipush g dX5_init_228 (by decide) ?_
  refine n_iast (nn := 4) (S2 := SC149) g rfl (by decide) (by decide) eSC_149 dX5_init_230 ?_
  exact r_vret g dX5_init_231 rfl rfl
