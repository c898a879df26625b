set_option maxHeartbeats 4000000 in
set_option maxRecDepth 20000 in
theorem iX6_init_1 : Con yX6_init cX6_init 2 none { frames := 1, cells := 27, slots := 686, locals := 20 } true (MK 1) ((MK 28), 27, 686) (fun b => [.ref (b + 0)]) SM0 (fun _ => oVS) id (some SM43) := by
  refine Con_of (fun b => [some (.ref (b + 0)), none]) (by decide) (fun _ => rfl) (fun _ => Nat.le_of_ble_eq_true rfl) ?_
  intro G g hz0 hnm hN
  have hz0 : gsz G = gb G + (MK 1).length := hz0 rfl
  have hb0 : gb G ≤ gsz G := by omega
  have hN : (MK 28).length ≤ gN G := hN
  rw [mkl_1] at hz0
  rw [mkl_28] at hN
  change Ok G cX6_init RX6 2 { frames := 1, cells := 27, slots := 686, locals := 20 } none at g
  change gmn G = "<init>" at hnm
  show Rg G oVS id ((MK 28), 27, 686) ((MK 1), 0, 0) SM0 0 [some (vr G 0), none] [] (some SM43)
  refine r_aload_n g dX6_init_0 rfl ?_
  refine n_obj (r := 0) g w_869 w_89 w_90 ⟨by decide, Nat.le_of_ble_eq_true rfl⟩ dX6_init_1 ?_
  refine r_aload_n g dX6_init_4 rfl ?_
  refine r_bipush g dX6_init_5 (by decide) ?_
  refine n_newa (at_ := .int) (fty := .int) (t := 0) (nn := 6) (sh2 := (MK 2)) (qn := 1) g rfl (fun _ => rfl) (by rw [mkl_1]; omega) hb0 (by rw [mkl_2]; omega) rfl (zSM_0 _ (by decide)) nc_0 (fun _ _ h => h) rfl w_147 (by decide) (by decide) dX6_init_7 ?_
  refine n_putF (r := 1) (S2 := SM1) g hnm KX6 rfl 1 rfl (by decide) rfl rfl rfl (fun _ => ⟨rfl, rfl⟩) w_871 eSM_1 dX6_init_9 ?_
  refine r_aload_n g dX6_init_12 rfl ?_
  refine r_bipush g dX6_init_13 (by decide) ?_
  refine n_newa (at_ := .int) (fty := .int) (t := 0) (nn := 6) (sh2 := (MK 3)) (qn := 2) g rfl (fun _ => rfl) (by rw [mkl_2]; omega) hb0 (by rw [mkl_3]; omega) rfl (zSM_1 _ (by decide)) nc_0 (fun _ _ h => h) rfl w_147 (by decide) (by decide) dX6_init_15 ?_
  refine n_putF (r := 2) (S2 := SM2) g hnm KX6 rfl 5 rfl (by decide) rfl rfl rfl (fun _ => ⟨rfl, rfl⟩) w_875 eSM_2 dX6_init_17 ?_
  refine r_aload_n g dX6_init_20 rfl ?_
  refine r_sipush g dX6_init_21 (by decide) ?_
  refine n_newa (at_ := .int) (fty := .int) (t := 0) (nn := 240) (sh2 := (MK 4)) (qn := 3) g rfl (fun _ => rfl) (by rw [mkl_3]; omega) hb0 (by rw [mkl_4]; omega) rfl (zSM_2 _ (by decide)) nc_0 (fun _ _ h => h) rfl w_147 (by decide) (by decide) dX6_init_24 ?_
  refine n_putF (r := 3) (S2 := SM3) g hnm KX6 rfl 6 rfl (by decide) rfl rfl rfl (fun _ => ⟨rfl, rfl⟩) w_876 eSM_3 dX6_init_26 ?_
  refine r_aload_n g dX6_init_29 rfl ?_
  refine r_bipush g dX6_init_30 (by decide) ?_
  refine n_newa (at_ := .int) (fty := .int) (t := 0) (nn := 40) (sh2 := (MK 5)) (qn := 4) g rfl (fun _ => rfl) (by rw [mkl_4]; omega) hb0 (by rw [mkl_5]; omega) rfl (zSM_3 _ (by decide)) nc_0 (fun _ _ h => h) rfl w_147 (by decide) (by decide) dX6_init_32 ?_
  refine n_putF (r := 4) (S2 := SM4) g hnm KX6 rfl 7 rfl (by decide) rfl rfl rfl (fun _ => ⟨rfl, rfl⟩) w_877 eSM_4 dX6_init_34 ?_
  refine r_aload_n g dX6_init_37 rfl ?_
  refine r_iconst g dX6_init_38 ?_
  refine n_newa (at_ := .int) (fty := .int) (t := 0) (nn := 4) (sh2 := (MK 6)) (qn := 5) g rfl (fun _ => rfl) (by rw [mkl_5]; omega) hb0 (by rw [mkl_6]; omega) rfl (zSM_4 _ (by decide)) nc_0 (fun _ _ h => h) rfl w_147 (by decide) (by decide) dX6_init_39 ?_
  refine n_putF (r := 5) (S2 := SM5) g hnm KX6 rfl 8 rfl (by decide) rfl rfl rfl (fun _ => ⟨rfl, rfl⟩) w_878 eSM_5 dX6_init_41 ?_
  refine r_aload_n g dX6_init_44 rfl ?_
  refine r_sipush g dX6_init_45 (by decide) ?_
  refine n_newa (at_ := .byte) (fty := .byte) (t := 2) (nn := 240) (sh2 := (MK 7)) (qn := 6) g rfl (fun _ => rfl) (by rw [mkl_6]; omega) hb0 (by rw [mkl_7]; omega) rfl (zSM_5 _ (by decide)) nc_2 (fun _ _ h => h) rfl w_1024 (by decide) (by decide) dX6_init_48 ?_
  refine n_putF (r := 6) (S2 := SM6) g hnm KX6 rfl 9 rfl (by decide) rfl rfl rfl (fun _ => ⟨rfl, rfl⟩) w_879 eSM_6 dX6_init_50 ?_
  refine r_aload_n g dX6_init_53 rfl ?_
  refine r_bipush g dX6_init_54 (by decide) ?_
  refine n_newa (at_ := .boolean) (fty := .boolean) (t := 3) (nn := 6) (sh2 := (MK 8)) (qn := 7) g rfl (fun _ => rfl) (by rw [mkl_7]; omega) hb0 (by rw [mkl_8]; omega) rfl (zSM_6 _ (by decide)) nc_3 (fun _ _ h => h) rfl w_234 (by decide) (by decide) dX6_init_56 ?_
  refine n_putF (r := 7) (S2 := SM7) g hnm KX6 rfl 10 rfl (by decide) rfl rfl rfl (fun _ => ⟨rfl, rfl⟩) w_880 eSM_7 dX6_init_58 ?_
  refine r_aload_n g dX6_init_61 rfl ?_
  refine r_bipush g dX6_init_62 (by decide) ?_
  refine n_newa (at_ := .int) (fty := .int) (t := 0) (nn := 6) (sh2 := (MK 9)) (qn := 8) g rfl (fun _ => rfl) (by rw [mkl_8]; omega) hb0 (by rw [mkl_9]; omega) rfl (zSM_7 _ (by decide)) nc_0 (fun _ _ h => h) rfl w_147 (by decide) (by decide) dX6_init_64 ?_
  refine n_putF (r := 8) (S2 := SM8) g hnm KX6 rfl 11 rfl (by decide) rfl rfl rfl (fun _ => ⟨rfl, rfl⟩) w_881 eSM_8 dX6_init_66 ?_
  refine r_aload_n g dX6_init_69 rfl ?_
  refine r_bipush g dX6_init_70 (by decide) ?_
  refine n_newa (at_ := .int) (fty := .int) (t := 0) (nn := 30) (sh2 := (MK 10)) (qn := 9) g rfl (fun _ => rfl) (by rw [mkl_9]; omega) hb0 (by rw [mkl_10]; omega) rfl (zSM_8 _ (by decide)) nc_0 (fun _ _ h => h) rfl w_147 (by decide) (by decide) dX6_init_72 ?_
  refine n_putF (r := 9) (S2 := SM9) g hnm KX6 rfl 12 rfl (by decide) rfl rfl rfl (fun _ => ⟨rfl, rfl⟩) w_882 eSM_9 dX6_init_74 ?_
  refine r_aload_n g dX6_init_77 rfl ?_
  refine r_bipush g dX6_init_78 (by decide) ?_
  refine n_newa (at_ := .int) (fty := .int) (t := 0) (nn := 30) (sh2 := (MK 11)) (qn := 10) g rfl (fun _ => rfl) (by rw [mkl_10]; omega) hb0 (by rw [mkl_11]; omega) rfl (zSM_9 _ (by decide)) nc_0 (fun _ _ h => h) rfl w_147 (by decide) (by decide) dX6_init_80 ?_
  refine n_putF (r := 10) (S2 := SM10) g hnm KX6 rfl 13 rfl (by decide) rfl rfl rfl (fun _ => ⟨rfl, rfl⟩) w_883 eSM_10 dX6_init_82 ?_
  refine r_aload_n g dX6_init_85 rfl ?_
  refine r_bipush g dX6_init_86 (by decide) ?_
  refine n_newa (at_ := .int) (fty := .int) (t := 0) (nn := 6) (sh2 := (MK 12)) (qn := 11) g rfl (fun _ => rfl) (by rw [mkl_11]; omega) hb0 (by rw [mkl_12]; omega) rfl (zSM_10 _ (by decide)) nc_0 (fun _ _ h => h) rfl w_147 (by decide) (by decide) dX6_init_88 ?_
  refine n_putF (r := 11) (S2 := SM11) g hnm KX6 rfl 14 rfl (by decide) rfl rfl rfl (fun _ => ⟨rfl, rfl⟩) w_884 eSM_11 dX6_init_90 ?_
  refine r_aload_n g dX6_init_93 rfl ?_
  refine r_bipush g dX6_init_94 (by decide) ?_
  refine n_newa (at_ := .int) (fty := .int) (t := 0) (nn := 6) (sh2 := (MK 13)) (qn := 12) g rfl (fun _ => rfl) (by rw [mkl_12]; omega) hb0 (by rw [mkl_13]; omega) rfl (zSM_11 _ (by decide)) nc_0 (fun _ _ h => h) rfl w_147 (by decide) (by decide) dX6_init_96 ?_
  refine n_putF (r := 12) (S2 := SM12) g hnm KX6 rfl 15 rfl (by decide) rfl rfl rfl (fun _ => ⟨rfl, rfl⟩) w_885 eSM_12 dX6_init_98 ?_
  refine r_aload_n g dX6_init_101 rfl ?_
  refine r_bipush g dX6_init_102 (by decide) ?_
  refine n_newa (at_ := .int) (fty := .int) (t := 0) (nn := 6) (sh2 := (MK 14)) (qn := 13) g rfl (fun _ => rfl) (by rw [mkl_13]; omega) hb0 (by rw [mkl_14]; omega) rfl (zSM_12 _ (by decide)) nc_0 (fun _ _ h => h) rfl w_147 (by decide) (by decide) dX6_init_104 ?_
  refine n_putF (r := 13) (S2 := SM13) g hnm KX6 rfl 16 rfl (by decide) rfl rfl rfl (fun _ => ⟨rfl, rfl⟩) w_886 eSM_13 dX6_init_106 ?_
  refine r_aload_n g dX6_init_109 rfl ?_
  refine r_bipush g dX6_init_110 (by decide) ?_
  refine n_newa (at_ := .int) (fty := .int) (t := 0) (nn := 6) (sh2 := (MK 15)) (qn := 14) g rfl (fun _ => rfl) (by rw [mkl_14]; omega) hb0 (by rw [mkl_15]; omega) rfl (zSM_13 _ (by decide)) nc_0 (fun _ _ h => h) rfl w_147 (by decide) (by decide) dX6_init_112 ?_
  refine n_putF (r := 14) (S2 := SM14) g hnm KX6 rfl 17 rfl (by decide) rfl rfl rfl (fun _ => ⟨rfl, rfl⟩) w_887 eSM_14 dX6_init_114 ?_
  refine r_aload_n g dX6_init_117 rfl ?_
  refine r_iconst g dX6_init_118 ?_
  refine n_newa (at_ := .int) (fty := .int) (t := 0) (nn := 5) (sh2 := (MK 16)) (qn := 15) g rfl (fun _ => rfl) (by rw [mkl_15]; omega) hb0 (by rw [mkl_16]; omega) rfl (zSM_14 _ (by decide)) nc_0 (fun _ _ h => h) rfl w_147 (by decide) (by decide) dX6_init_119 ?_
  refine n_putF (r := 15) (S2 := SM15) g hnm KX6 rfl 19 rfl (by decide) rfl rfl rfl (fun _ => ⟨rfl, rfl⟩) w_889 eSM_15 dX6_init_121 ?_
  refine r_aload_n g dX6_init_124 rfl ?_
  refine r_iconst g dX6_init_125 ?_
  refine n_newa (at_ := .int) (fty := .int) (t := 0) (nn := 5) (sh2 := (MK 17)) (qn := 16) g rfl (fun _ => rfl) (by rw [mkl_16]; omega) hb0 (by rw [mkl_17]; omega) rfl (zSM_15 _ (by decide)) nc_0 (fun _ _ h => h) rfl w_147 (by decide) (by decide) dX6_init_126 ?_
  refine n_putF (r := 16) (S2 := SM16) g hnm KX6 rfl 20 rfl (by decide) rfl rfl rfl (fun _ => ⟨rfl, rfl⟩) w_890 eSM_16 dX6_init_128 ?_
  refine r_aload_n g dX6_init_131 rfl ?_
  refine r_iconst g dX6_init_132 ?_
  refine n_newa (at_ := .int) (fty := .int) (t := 0) (nn := 4) (sh2 := (MK 18)) (qn := 17) g rfl (fun _ => rfl) (by rw [mkl_17]; omega) hb0 (by rw [mkl_18]; omega) rfl (zSM_16 _ (by decide)) nc_0 (fun _ _ h => h) rfl w_147 (by decide) (by decide) dX6_init_133 ?_
  refine n_putF (r := 17) (S2 := SM17) g hnm KX6 rfl 21 rfl (by decide) rfl rfl rfl (fun _ => ⟨rfl, rfl⟩) w_891 eSM_17 dX6_init_135 ?_
  refine r_aload_n g dX6_init_138 rfl ?_
  refine r_iconst g dX6_init_139 ?_
  refine n_newa (at_ := .int) (fty := .int) (t := 0) (nn := 4) (sh2 := (MK 19)) (qn := 18) g rfl (fun _ => rfl) (by rw [mkl_18]; omega) hb0 (by rw [mkl_19]; omega) rfl (zSM_17 _ (by decide)) nc_0 (fun _ _ h => h) rfl w_147 (by decide) (by decide) dX6_init_140 ?_
  refine n_putF (r := 18) (S2 := SM18) g hnm KX6 rfl 26 rfl (by decide) rfl rfl rfl (fun _ => ⟨rfl, rfl⟩) w_896 eSM_18 dX6_init_142 ?_
  refine r_aload_n g dX6_init_145 rfl ?_
  refine r_iconst g dX6_init_146 ?_
  refine n_newa (at_ := .int) (fty := .int) (t := 0) (nn := 4) (sh2 := (MK 20)) (qn := 19) g rfl (fun _ => rfl) (by rw [mkl_19]; omega) hb0 (by rw [mkl_20]; omega) rfl (zSM_18 _ (by decide)) nc_0 (fun _ _ h => h) rfl w_147 (by decide) (by decide) dX6_init_147 ?_
  refine n_putF (r := 19) (S2 := SM19) g hnm KX6 rfl 27 rfl (by decide) rfl rfl rfl (fun _ => ⟨rfl, rfl⟩) w_897 eSM_19 dX6_init_149 ?_
  refine r_aload_n g dX6_init_152 rfl ?_
  refine r_iconst g dX6_init_153 ?_
  refine n_newa (at_ := .int) (fty := .int) (t := 0) (nn := 4) (sh2 := (MK 21)) (qn := 20) g rfl (fun _ => rfl) (by rw [mkl_20]; omega) hb0 (by rw [mkl_21]; omega) rfl (zSM_19 _ (by decide)) nc_0 (fun _ _ h => h) rfl w_147 (by decide) (by decide) dX6_init_154 ?_
  refine n_putF (r := 20) (S2 := SM20) g hnm KX6 rfl 28 rfl (by decide) rfl rfl rfl (fun _ => ⟨rfl, rfl⟩) w_898 eSM_20 dX6_init_156 ?_
  refine r_aload_n g dX6_init_159 rfl ?_
  refine r_iconst g dX6_init_160 ?_
  refine n_newa (at_ := .int) (fty := .int) (t := 0) (nn := 4) (sh2 := (MK 22)) (qn := 21) g rfl (fun _ => rfl) (by rw [mkl_21]; omega) hb0 (by rw [mkl_22]; omega) rfl (zSM_20 _ (by decide)) nc_0 (fun _ _ h => h) rfl w_147 (by decide) (by decide) dX6_init_161 ?_
  refine n_putF (r := 21) (S2 := SM21) g hnm KX6 rfl 29 rfl (by decide) rfl rfl rfl (fun _ => ⟨rfl, rfl⟩) w_899 eSM_21 dX6_init_163 ?_
  refine r_aload_n g dX6_init_166 rfl ?_
  refine r_iconst g dX6_init_167 ?_
  refine n_newa (at_ := .int) (fty := .int) (t := 0) (nn := 4) (sh2 := (MK 23)) (qn := 22) g rfl (fun _ => rfl) (by rw [mkl_22]; omega) hb0 (by rw [mkl_23]; omega) rfl (zSM_21 _ (by decide)) nc_0 (fun _ _ h => h) rfl w_147 (by decide) (by decide) dX6_init_168 ?_
  refine n_putF (r := 22) (S2 := SM22) g hnm KX6 rfl 30 rfl (by decide) rfl rfl rfl (fun _ => ⟨rfl, rfl⟩) w_900 eSM_22 dX6_init_170 ?_
  refine r_aload_n g dX6_init_173 rfl ?_
  refine r_iconst g dX6_init_174 ?_
  refine n_newa (at_ := .int) (fty := .int) (t := 0) (nn := 4) (sh2 := (MK 24)) (qn := 23) g rfl (fun _ => rfl) (by rw [mkl_23]; omega) hb0 (by rw [mkl_24]; omega) rfl (zSM_22 _ (by decide)) nc_0 (fun _ _ h => h) rfl w_147 (by decide) (by decide) dX6_init_175 ?_
  refine n_putF (r := 23) (S2 := SM23) g hnm KX6 rfl 31 rfl (by decide) rfl rfl rfl (fun _ => ⟨rfl, rfl⟩) w_901 eSM_23 dX6_init_177 ?_
  refine r_aload_n g dX6_init_180 rfl ?_
  refine r_iconst g dX6_init_181 ?_
  refine n_newa (at_ := .int) (fty := .int) (t := 0) (nn := 4) (sh2 := (MK 25)) (qn := 24) g rfl (fun _ => rfl) (by rw [mkl_24]; omega) hb0 (by rw [mkl_25]; omega) rfl (zSM_23 _ (by decide)) nc_0 (fun _ _ h => h) rfl w_147 (by decide) (by decide) dX6_init_182 ?_
  refine n_putF (r := 24) (S2 := SM24) g hnm KX6 rfl 32 rfl (by decide) rfl rfl rfl (fun _ => ⟨rfl, rfl⟩) w_902 eSM_24 dX6_init_184 ?_
  refine r_aload_n g dX6_init_187 rfl ?_
  refine r_iconst g dX6_init_188 ?_
  refine n_newa (at_ := .int) (fty := .int) (t := 0) (nn := 4) (sh2 := (MK 26)) (qn := 25) g rfl (fun _ => rfl) (by rw [mkl_25]; omega) hb0 (by rw [mkl_26]; omega) rfl (zSM_24 _ (by decide)) nc_0 (fun _ _ h => h) rfl w_147 (by decide) (by decide) dX6_init_189 ?_
  refine n_putF (r := 25) (S2 := SM25) g hnm KX6 rfl 33 rfl (by decide) rfl rfl rfl (fun _ => ⟨rfl, rfl⟩) w_903 eSM_25 dX6_init_191 ?_
  refine r_aload_n g dX6_init_194 rfl ?_
  refine r_iconst g dX6_init_195 ?_
  refine n_newa (at_ := .int) (fty := .int) (t := 0) (nn := 4) (sh2 := (MK 27)) (qn := 26) g rfl (fun _ => rfl) (by rw [mkl_26]; omega) hb0 (by rw [mkl_27]; omega) rfl (zSM_25 _ (by decide)) nc_0 (fun _ _ h => h) rfl w_147 (by decide) (by decide) dX6_init_196 ?_
  refine n_putF (r := 26) (S2 := SM26) g hnm KX6 rfl 45 rfl (by decide) rfl rfl rfl (fun _ => ⟨rfl, rfl⟩) w_915 eSM_26 dX6_init_198 ?_
  refine r_aload_n g dX6_init_201 rfl ?_
  refine r_iconst g dX6_init_202 ?_
  refine n_newa (at_ := .int) (fty := .int) (t := 0) (nn := 4) (sh2 := (MK 28)) (qn := 27) g rfl (fun _ => rfl) (by rw [mkl_27]; omega) hb0 (by rw [mkl_28]; omega) rfl (zSM_26 _ (by decide)) nc_0 (fun _ _ h => h) rfl w_147 (by decide) (by decide) dX6_init_203 ?_
  refine n_putF (r := 27) (S2 := SM27) g hnm KX6 rfl 49 rfl (by decide) rfl rfl rfl (fun _ => ⟨rfl, rfl⟩) w_919 eSM_27 dX6_init_205 ?_
  refine r_aload_n g dX6_init_208 rfl ?_
  refine r_lconst (x := 1) g dX6_init_209 (by decide) ?_
  refine n_putL (S2 := SM28) g KX6 rfl 4 rfl (by decide) rfl rfl w_874 eSM_28 dX6_init_210 ?_
  refine r_iconst g dX6_init_213 ?_
  refine r_istore_n (lv' := [some (vr G 0), some (vi 0)]) g 1 dX6_init_214 rfl (by decide) rfl ?_
  refine r_iload_n g dX6_init_215 rfl ?_
  refine r_bipush g dX6_init_216 (by decide) ?_
  refine n_geF g (by decide) dX6_init_218 234 (by decide) ?_
  refine r_aload_n g dX6_init_221 rfl ?_
  refine n_getR (r := 2) g KX6 rfl 5 rfl (by decide) w_875 (by decide +kernel) dX6_init_222 ?_
  refine r_iload_n g dX6_init_225 rfl ?_
  refine r_iconst g dX6_init_226 ?_
  refine n_iast (nn := 6) (S2 := SM29) g rfl (by decide) (by decide) eSM_29 dX6_init_227 ?_
  refine n_iinc (z := 1) (lv' := [some (vr G 0), some (vi 1)]) g dX6_init_228 (by decide) rfl (by decide) rfl ?_
  refine r_goto g 215 dX6_init_231 (by decide) ?_
  refine r_iload_n g dX6_init_215 rfl ?_
  refine r_bipush g dX6_init_216 (by decide) ?_
  refine n_geF g (by decide) dX6_init_218 234 (by decide) ?_
  refine r_aload_n g dX6_init_221 rfl ?_
  refine n_getR (r := 2) g KX6 rfl 5 rfl (by decide) w_875 (by decide +kernel) dX6_init_222 ?_
  refine r_iload_n g dX6_init_225 rfl ?_
  refine r_iconst g dX6_init_226 ?_
  refine n_iast (nn := 6) (S2 := SM30) g rfl (by decide) (by decide) eSM_30 dX6_init_227 ?_
  refine n_iinc (z := 2) (lv' := [some (vr G 0), some (vi 2)]) g dX6_init_228 (by decide) rfl (by decide) rfl ?_
  refine r_goto g 215 dX6_init_231 (by decide) ?_
  refine r_iload_n g dX6_init_215 rfl ?_
  refine r_bipush g dX6_init_216 (by decide) ?_
  refine n_geF g (by decide) dX6_init_218 234 (by decide) ?_
  refine r_aload_n g dX6_init_221 rfl ?_
  refine n_getR (r := 2) g KX6 rfl 5 rfl (by decide) w_875 (by decide +kernel) dX6_init_222 ?_
  refine r_iload_n g dX6_init_225 rfl ?_
  refine r_iconst g dX6_init_226 ?_
  refine n_iast (nn := 6) (S2 := SM31) g rfl (by decide) (by decide) eSM_31 dX6_init_227 ?_
  refine n_iinc (z := 3) (lv' := [some (vr G 0), some (vi 3)]) g dX6_init_228 (by decide) rfl (by decide) rfl ?_
  refine r_goto g 215 dX6_init_231 (by decide) ?_
  refine r_iload_n g dX6_init_215 rfl ?_
  refine r_bipush g dX6_init_216 (by decide) ?_
  refine n_geF g (by decide) dX6_init_218 234 (by decide) ?_
  refine r_aload_n g dX6_init_221 rfl ?_
  refine n_getR (r := 2) g KX6 rfl 5 rfl (by decide) w_875 (by decide +kernel) dX6_init_222 ?_
  refine r_iload_n g dX6_init_225 rfl ?_
  refine r_iconst g dX6_init_226 ?_
  refine n_iast (nn := 6) (S2 := SM32) g rfl (by decide) (by decide) eSM_32 dX6_init_227 ?_
  refine n_iinc (z := 4) (lv' := [some (vr G 0), some (vi 4)]) g dX6_init_228 (by decide) rfl (by decide) rfl ?_
  refine r_goto g 215 dX6_init_231 (by decide) ?_
  refine r_iload_n g dX6_init_215 rfl ?_
  refine r_bipush g dX6_init_216 (by decide) ?_
  refine n_geF g (by decide) dX6_init_218 234 (by decide) ?_
  refine r_aload_n g dX6_init_221 rfl ?_
  refine n_getR (r := 2) g KX6 rfl 5 rfl (by decide) w_875 (by decide +kernel) dX6_init_222 ?_
  refine r_iload_n g dX6_init_225 rfl ?_
  refine r_iconst g dX6_init_226 ?_
  refine n_iast (nn := 6) (S2 := SM33) g rfl (by decide) (by decide) eSM_33 dX6_init_227 ?_
  refine n_iinc (z := 5) (lv' := [some (vr G 0), some (vi 5)]) g dX6_init_228 (by decide) rfl (by decide) rfl ?_
  refine r_goto g 215 dX6_init_231 (by decide) ?_
  refine r_iload_n g dX6_init_215 rfl ?_
  refine r_bipush g dX6_init_216 (by decide) ?_
  refine n_geF g (by decide) dX6_init_218 234 (by decide) ?_
  refine r_aload_n g dX6_init_221 rfl ?_
  refine n_getR (r := 2) g KX6 rfl 5 rfl (by decide) w_875 (by decide +kernel) dX6_init_222 ?_
  refine r_iload_n g dX6_init_225 rfl ?_
  refine r_iconst g dX6_init_226 ?_
  refine n_iast (nn := 6) (S2 := SM34) g rfl (by decide) (by decide) eSM_34 dX6_init_227 ?_
  refine n_iinc (z := 6) (lv' := [some (vr G 0), some (vi 6)]) g dX6_init_228 (by decide) rfl (by decide) rfl ?_
  refine r_goto g 215 dX6_init_231 (by decide) ?_
  refine r_iload_n g dX6_init_215 rfl ?_
  refine r_bipush g dX6_init_216 (by decide) ?_
  refine n_geT g (by decide) dX6_init_218 234 (by decide) ?_
  refine r_iconst g dX6_init_234 ?_
  refine r_istore_n (lv' := [some (vr G 0), some (vi 0)]) g 1 dX6_init_235 rfl (by decide) rfl ?_
  refine r_iload_n g dX6_init_236 rfl ?_
  refine r_iconst g dX6_init_237 ?_
  refine n_geF g (by decide) dX6_init_238 254 (by decide) ?_
  refine r_aload_n g dX6_init_241 rfl ?_
  refine n_getR (r := 5) g KX6 rfl 8 rfl (by decide) w_878 (by decide +kernel) dX6_init_242 ?_
  refine r_iload_n g dX6_init_245 rfl ?_
  refine r_iconst g dX6_init_246 ?_
  refine n_iast (nn := 4) (S2 := SM35) g rfl (by decide) (by decide) eSM_35 dX6_init_247 ?_
  refine n_iinc (z := 1) (lv' := [some (vr G 0), some (vi 1)]) g dX6_init_248 (by decide) rfl (by decide) rfl ?_
  refine r_goto g 236 dX6_init_251 (by decide) ?_
  refine r_iload_n g dX6_init_236 rfl ?_
  refine r_iconst g dX6_init_237 ?_
  refine n_geF g (by decide) dX6_init_238 254 (by decide) ?_
  refine r_aload_n g dX6_init_241 rfl ?_
  refine n_getR (r := 5) g KX6 rfl 8 rfl (by decide) w_878 (by decide +kernel) dX6_init_242 ?_
  refine r_iload_n g dX6_init_245 rfl ?_
  refine r_iconst g dX6_init_246 ?_
  refine n_iast (nn := 4) (S2 := SM36) g rfl (by decide) (by decide) eSM_36 dX6_init_247 ?_
  refine n_iinc (z := 2) (lv' := [some (vr G 0), some (vi 2)]) g dX6_init_248 (by decide) rfl (by decide) rfl ?_
  refine r_goto g 236 dX6_init_251 (by decide) ?_
  refine r_iload_n g dX6_init_236 rfl ?_
  refine r_iconst g dX6_init_237 ?_
  refine n_geF g (by decide) dX6_init_238 254 (by decide) ?_
  refine r_aload_n g dX6_init_241 rfl ?_
  refine n_getR (r := 5) g KX6 rfl 8 rfl (by decide) w_878 (by decide +kernel) dX6_init_242 ?_
  refine r_iload_n g dX6_init_245 rfl ?_
  refine r_iconst g dX6_init_246 ?_
  refine n_iast (nn := 4) (S2 := SM37) g rfl (by decide) (by decide) eSM_37 dX6_init_247 ?_
  refine n_iinc (z := 3) (lv' := [some (vr G 0), some (vi 3)]) g dX6_init_248 (by decide) rfl (by decide) rfl ?_
  refine r_goto g 236 dX6_init_251 (by decide) ?_
  refine r_iload_n g dX6_init_236 rfl ?_
  refine r_iconst g dX6_init_237 ?_
  refine n_geF g (by decide) dX6_init_238 254 (by decide) ?_
  refine r_aload_n g dX6_init_241 rfl ?_
  refine n_getR (r := 5) g KX6 rfl 8 rfl (by decide) w_878 (by decide +kernel) dX6_init_242 ?_
  refine r_iload_n g dX6_init_245 rfl ?_
  refine r_iconst g dX6_init_246 ?_
  refine n_iast (nn := 4) (S2 := SM38) g rfl (by decide) (by decide) eSM_38 dX6_init_247 ?_
  refine n_iinc (z := 4) (lv' := [some (vr G 0), some (vi 4)]) g dX6_init_248 (by decide) rfl (by decide) rfl ?_
  refine r_goto g 236 dX6_init_251 (by decide) ?_
  refine r_iload_n g dX6_init_236 rfl ?_
  refine r_iconst g dX6_init_237 ?_
  refine n_geT g (by decide) dX6_init_238 254 (by decide) ?_
  refine r_iconst g dX6_init_254 ?_
  refine r_istore_n (lv' := [some (vr G 0), some (vi 0)]) g 1 dX6_init_255 rfl (by decide) rfl ?_
  refine r_iload_n g dX6_init_256 rfl ?_
  refine r_iconst g dX6_init_257 ?_
  refine n_geF g (by decide) dX6_init_258 275 (by decide) ?_
  refine r_aload_n g dX6_init_261 rfl ?_
  refine n_getR (r := 18) g KX6 rfl 26 rfl (by decide) w_896 (by decide +kernel) dX6_init_262 ?_
  refine r_iload_n g dX6_init_265 rfl ?_
  refine r_bipush g dX6_init_266 (by decide) ?_
  refine n_iast (nn := 4) (S2 := SM39) g rfl (by decide) (by decide) eSM_39 dX6_init_268 ?_
  refine n_iinc (z := 1) (lv' := [some (vr G 0), some (vi 1)]) g dX6_init_269 (by decide) rfl (by decide) rfl ?_
  refine r_goto g 256 dX6_init_272 (by decide) ?_
  refine r_iload_n g dX6_init_256 rfl ?_
  refine r_iconst g dX6_init_257 ?_
  refine n_geF g (by decide) dX6_init_258 275 (by decide) ?_
  refine r_aload_n g dX6_init_261 rfl ?_
  refine n_getR (r := 18) g KX6 rfl 26 rfl (by decide) w_896 (by decide +kernel) dX6_init_262 ?_
  refine r_iload_n g dX6_init_265 rfl ?_
  refine r_bipush g dX6_init_266 (by decide) ?_
  refine n_iast (nn := 4) (S2 := SM40) g rfl (by decide) (by decide) eSM_40 dX6_init_268 ?_
  refine n_iinc (z := 2) (lv' := [some (vr G 0), some (vi 2)]) g dX6_init_269 (by decide) rfl (by decide) rfl ?_
  refine r_goto g 256 dX6_init_272 (by decide) ?_
  refine r_iload_n g dX6_init_256 rfl ?_
  refine r_iconst g dX6_init_257 ?_
  refine n_geF g (by decide) dX6_init_258 275 (by decide) ?_
  refine r_aload_n g dX6_init_261 rfl ?_
  refine n_getR (r := 18) g KX6 rfl 26 rfl (by decide) w_896 (by decide +kernel) dX6_init_262 ?_
  refine r_iload_n g dX6_init_265 rfl ?_
  refine r_bipush g dX6_init_266 (by decide) ?_
  refine n_iast (nn := 4) (S2 := SM41) g rfl (by decide) (by decide) eSM_41 dX6_init_268 ?_
  refine n_iinc (z := 3) (lv' := [some (vr G 0), some (vi 3)]) g dX6_init_269 (by decide) rfl (by decide) rfl ?_
  refine r_goto g 256 dX6_init_272 (by decide) ?_
  refine r_iload_n g dX6_init_256 rfl ?_
  refine r_iconst g dX6_init_257 ?_
  refine n_geF g (by decide) dX6_init_258 275 (by decide) ?_
  refine r_aload_n g dX6_init_261 rfl ?_
  refine n_getR (r := 18) g KX6 rfl 26 rfl (by decide) w_896 (by decide +kernel) dX6_init_262 ?_
  refine r_iload_n g dX6_init_265 rfl ?_
  refine r_bipush g dX6_init_266 (by decide) ?_
  refine n_iast (nn := 4) (S2 := SM42) g rfl (by decide) (by decide) eSM_42 dX6_init_268 ?_
  refine n_iinc (z := 4) (lv' := [some (vr G 0), some (vi 4)]) g dX6_init_269 (by decide) rfl (by decide) rfl ?_
  refine r_goto g 256 dX6_init_272 (by decide) ?_
  refine r_iload_n g dX6_init_256 rfl ?_
  refine r_iconst g dX6_init_257 ?_
  refine n_geT g (by decide) dX6_init_258 275 (by decide) ?_
  refine r_aload_n g dX6_init_275 rfl ?_
  refine r_bipush g dX6_init_276 (by decide) ?_
  refine n_putI (S2 := SM43) g KX6 rfl 35 rfl (by decide) rfl rfl w_905 eSM_43 dX6_init_278 ?_
  exact r_vret g dX6_init_281 rfl rfl
